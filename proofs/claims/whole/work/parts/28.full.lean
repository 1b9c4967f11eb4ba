/-! the whole relation, and what each part of it reads -/
def TX (σ : Sto) : Prop := (∃ len, len ≤ 500 ∧ σ.1 4 4 = nI len ∧ σ.1 39 21 = nI len ∧ ∀ i, i < len → σ.1 5 i = σ.1 51 i ∧ rgI (σ.1 51 i) 0 255) ∧ σ.1 4 6 = σ.1 39 22
def TA (σ : Sto) (nb ns : Nat) : Prop := σ.1 24 0 = 10 ∧ ∃ nt, nt ≤ 10 ∧ σ.1 24 2 = nI nt ∧ σ.1 39 48 = nI nt ∧ ∀ k, k < nt → (inB (σ.1 25 (4 * k)) nb = true ∧ rgI (σ.1 25 (4 * k + 1)) 0 999 ∧ inB (σ.1 25 (4 * k + 2)) ns = true) ∧ σ.1 65 k = lonS (σ.1 39 0) (σ.1 40 (σ.1 25 (4 * k)).toNatClampNeg) (σ.1 41 (σ.1 25 (4 * k)).toNatClampNeg) (σ.1 25 (4 * k + 1)) ∧ σ.1 66 k = σ.1 25 (4 * k + 2) ∧ σ.1 67 k = σ.1 25 (4 * k + 3)
def BK (σ : Sto) (nb ng : Nat) : Prop := σ.1 26 0 = 30 ∧ ∃ nk, nk ≤ 30 ∧ σ.1 26 2 = nI nk ∧ σ.1 39 52 = nI nk ∧ ∀ k, k < nk → (inB (σ.1 27 (4 * k)) nb = true ∧ inB (σ.1 27 (4 * k + 1)) ng = true) ∧ σ.1 68 k = σ.1 27 (4 * k) ∧ σ.1 69 k = σ.1 27 (4 * k + 1) ∧ σ.1 70 k = σ.1 27 (4 * k + 2)
def IM (σ : Sto) (ns ng nh : Nat) (D : Int) : Prop := ∀ i, i < 2 → (σ.1 23 i = σ.1 72 i ∧ (σ.1 23 i = 0 ∨ σ.1 23 i = 1)) ∧ (σ.1 23 i = 1 → SR ns ng nh D (σ.1 (16 + 4 * i)) (σ.1 (17 + 4 * i)) (σ.1 (18 + 4 * i)) (σ.1 (15 + 4 * i) 3) (σ.1 (15 + 4 * i) 4) (σ.1 (15 + 4 * i) 5) (σ.1 (15 + 4 * i) 6) (fun g => σ.1 71 (25 * i + g)) (fun g => σ.1 71 (25 * i + 6 + g)) (fun g => σ.1 71 (25 * i + 12 + g)) (σ.1 71 (25 * i + 18)) (σ.1 71 (25 * i + 19)) (σ.1 71 (25 * i + 20)) (σ.1 71 (25 * i + 21)))
def dPL (k j : Nat) : Prop := k = 2 ∨ k = 3 ∨ (k = 39 ∧ (j = 0 ∨ j = 1 ∨ j = 4 ∨ j = 8 ∨ j = 10)) ∨ (40 ≤ k ∧ k ≤ 47)
def dSN (k j : Nat) : Prop := (10 ≤ k ∧ k ≤ 13) ∨ (48 ≤ k ∧ k ≤ 50) ∨ (k = 39 ∧ (j = 13 ∨ j = 17 ∨ j = 18 ∨ j = 19))
def dTX (k j : Nat) : Prop := k = 5 ∨ k = 51 ∨ (k = 4 ∧ (j = 4 ∨ j = 6)) ∨ (k = 39 ∧ (j = 21 ∨ j = 22))
def dTA (k j : Nat) : Prop := k = 24 ∨ k = 25 ∨ (65 ≤ k ∧ k ≤ 67) ∨ k = 40 ∨ k = 41 ∨ (k = 39 ∧ (j = 0 ∨ j = 48))
def dBK (k j : Nat) : Prop := k = 26 ∨ k = 27 ∨ (68 ≤ k ∧ k ≤ 70) ∨ (k = 39 ∧ j = 52)
def dIM (k j : Nat) : Prop := (15 ≤ k ∧ k ≤ 23) ∨ k = 71 ∨ k = 72
section CG
variable {σ τ : Sto} {nb ns ng nh : Nat} {D : Int}
theorem PL.cg (h : PL σ nb ns ng nh) (hf : ∀ k j, dPL k j → τ.1 k j = σ.1 k j) : PL τ nb ns ng nh := by
  obtain ⟨h1, h2, h3, h4, h5, h6, h7, h8⟩ := h
  refine ⟨h1, ?_, ?_, ?_, fun i hi => ?_, fun i hi => ?_, fun i hi => ?_, fun i hi => ?_⟩
  · rw [hf 39 1 (by unfold dPL; omega), hf 39 4 (by unfold dPL; omega), hf 39 8 (by unfold dPL; omega), hf 39 10 (by unfold dPL; omega)]; exact h2
  · rw [hf 2 1 (by unfold dPL; omega), hf 2 2 (by unfold dPL; omega), hf 2 3 (by unfold dPL; omega), hf 2 4 (by unfold dPL; omega)]; exact h3
  · rw [hf 2 0 (by unfold dPL; omega), hf 39 0 (by unfold dPL; omega), hf 3 0 (by unfold dPL; omega)]; exact h4
  · rw [hf 3 (18 + 3 * i) (by unfold dPL; omega), hf 3 (19 + 3 * i) (by unfold dPL; omega), hf 40 i (by unfold dPL; omega), hf 41 i (by unfold dPL; omega)]; exact h5 i hi
  · rw [hf 3 (36 + 3 * i) (by unfold dPL; omega), hf 3 (37 + 3 * i) (by unfold dPL; omega), hf 3 (38 + 3 * i) (by unfold dPL; omega), hf 42 i (by unfold dPL; omega), hf 43 i (by unfold dPL; omega), hf 44 i (by unfold dPL; omega)]; exact h6 i hi
  · rw [hf 3 (54 + 3 * i) (by unfold dPL; omega), hf 45 i (by unfold dPL; omega)]; exact h7 i hi
  · rw [hf 3 (72 + 3 * i) (by unfold dPL; omega), hf 3 (73 + 3 * i) (by unfold dPL; omega), hf 46 i (by unfold dPL; omega), hf 47 i (by unfold dPL; omega)]; exact h8 i hi
theorem SN.cg (h : SN σ ns ng nh D) (hf : ∀ k j, dSN k j → τ.1 k j = σ.1 k j) : SN τ ns ng nh D := by
  unfold SN at *
  have row : ∀ k, (∀ j, dSN k j) → τ.1 k = σ.1 k := fun k hk => funext (fun j => hf k j (hk j))
  rw [row 11 (by unfold dSN; omega), row 12 (by unfold dSN; omega), row 13 (by unfold dSN; omega), row 48 (by unfold dSN; omega), row 49 (by unfold dSN; omega), row 50 (by unfold dSN; omega), row 10 (by unfold dSN; omega), hf 39 13 (by unfold dSN; omega), hf 39 17 (by unfold dSN; omega), hf 39 18 (by unfold dSN; omega), hf 39 19 (by unfold dSN; omega)]
  exact h
theorem TX.cg (h : TX σ) (hf : ∀ k j, dTX k j → τ.1 k j = σ.1 k j) : TX τ := by
  unfold TX at *
  have row : ∀ k, (∀ j, dTX k j) → τ.1 k = σ.1 k := fun k hk => funext (fun j => hf k j (hk j))
  rw [row 5 (by unfold dTX; omega), row 51 (by unfold dTX; omega), hf 4 4 (by unfold dTX; omega), hf 4 6 (by unfold dTX; omega), hf 39 21 (by unfold dTX; omega), hf 39 22 (by unfold dTX; omega)]
  exact h
theorem TA.cg (h : TA σ nb ns) (hf : ∀ k j, dTA k j → τ.1 k j = σ.1 k j) : TA τ nb ns := by
  unfold TA at *
  have row : ∀ k, (∀ j, dTA k j) → τ.1 k = σ.1 k := fun k hk => funext (fun j => hf k j (hk j))
  rw [row 24 (by unfold dTA; omega), row 25 (by unfold dTA; omega), row 65 (by unfold dTA; omega), row 66 (by unfold dTA; omega), row 67 (by unfold dTA; omega), row 40 (by unfold dTA; omega), row 41 (by unfold dTA; omega), hf 39 0 (by unfold dTA; omega), hf 39 48 (by unfold dTA; omega)]
  exact h
theorem BK.cg (h : BK σ nb ng) (hf : ∀ k j, dBK k j → τ.1 k j = σ.1 k j) : BK τ nb ng := by
  unfold BK at *
  have row : ∀ k, (∀ j, dBK k j) → τ.1 k = σ.1 k := fun k hk => funext (fun j => hf k j (hk j))
  rw [row 26 (by unfold dBK; omega), row 27 (by unfold dBK; omega), row 68 (by unfold dBK; omega), row 69 (by unfold dBK; omega), row 70 (by unfold dBK; omega), hf 39 52 (by unfold dBK; omega)]
  exact h
theorem IM.cg (h : IM σ ns ng nh D) (hf : ∀ k j, dIM k j → τ.1 k j = σ.1 k j) : IM τ ns ng nh D := by
  intro i hi
  have row : ∀ k, (∀ j, dIM k j) → τ.1 k = σ.1 k := fun k hk => funext (fun j => hf k j (hk j))
  have := h i hi
  rw [row 23 (by unfold dIM; omega), row 72 (by unfold dIM; omega), row 71 (by unfold dIM; omega), row (16 + 4 * i) (by unfold dIM; omega), row (17 + 4 * i) (by unfold dIM; omega), row (18 + 4 * i) (by unfold dIM; omega), row (15 + 4 * i) (by unfold dIM; omega)]
  exact this
theorem SR.up {D E : Int} {w v u : Nat → Int32} {d gv lw sd : Int32} {sp ht pu : Nat → Int32} {d' gv' lw' sd' : Int32} (h : SR ns ng nh D w v u d gv lw sd sp ht pu d' gv' lw' sd') (hE : D ≤ E) : SR ns ng nh E w v u d gv lw sd sp ht pu d' gv' lw' sd' := by
  obtain ⟨a, b, c, d1, d2, d3⟩ := h
  exact ⟨a, b, c, d1, d2, d3.up (by omega) hE⟩
end CG
def Rl (σ : Sto) (N nb ns ng nh : Nat) : Prop := PL σ nb ns ng nh ∧ SN σ ns ng nh (99 * N) ∧ TX σ ∧ TA σ nb ns ∧ BK σ nb ng ∧ IM σ ns ng nh (99 * N)
def R (N : Nat) (σ : Sto) : Prop := ∃ nb ns ng nh, Rl σ N nb ns ng nh
theorem Rl.up {σ : Sto} {N M nb ns ng nh : Nat} (h : Rl σ N nb ns ng nh) (hM : N ≤ M) : Rl σ M nb ns ng nh := by
  obtain ⟨a, b, c, d, e, f⟩ := h
  exact ⟨a, SR.up b (by omega), c, d, e, fun i hi => ⟨(f i hi).1, fun q => ((f i hi).2 q).up (by omega)⟩⟩
theorem Rl.fr {σ τ : Sto} {N nb ns ng nh : Nat} (h : Rl σ N nb ns ng nh) (hf : Fr Scr σ τ) : Rl τ N nb ns ng nh := by
  obtain ⟨a, b, c, d, e, f⟩ := h
  exact ⟨a.cg (fun k j q => hf k j (by unfold dPL at q; unfold Scr; omega)), b.cg (fun k j q => hf k j (by unfold dSN at q; unfold Scr; omega)), c.cg (fun k j q => hf k j (by unfold dTX at q; unfold Scr; omega)), d.cg (fun k j q => hf k j (by unfold dTA at q; unfold Scr; omega)), e.cg (fun k j q => hf k j (by unfold dBK at q; unfold Scr; omega)), f.cg (fun k j q => hf k j (by unfold dIM at q; unfold Scr; omega))⟩
/-- a call: both answer alike, and stay related -/
def CallR (f7 f8 : Sto → Option (Sto × Int32)) : Prop := ∀ (N : Nat) (σ : Sto), N < 512 → R N σ → Ok (f7 σ) (fun y => Ok (f8 y.1) (fun z => z.2 = y.2 ∧ R (N + 1) z.1))
theorem stp_eq {f7 f8 : Sto → Option (Sto × Int32)} {N : Nat} {σ : Sto} {v : Int32} (hR : R N σ) (h7 : f7 σ = some (σ, v)) (h8 : f8 σ = some (σ, v)) : Ok (f7 σ) (fun y => Ok (f8 y.1) (fun z => z.2 = y.2 ∧ R (N + 1) z.1)) := by
  rw [h7, ok_some]
  show Ok (f8 σ) _
  rw [h8, ok_some]
  obtain ⟨nb, ns, ng, nh, h⟩ := hR
  exact ⟨rfl, nb, ns, ng, nh, h.up (by omega)⟩
/-- both only look, the class with its scratch cells, the reference with its own -/
theorem stp_look {f7 f8 : Sto → Option (Sto × Int32)} {N nb ns ng nh : Nat} {σ : Sto} {v : Int32} (h : Rl σ N nb ns ng nh) (h7 : Ok (f7 σ) (fun y => Fr Scr σ y.1 ∧ y.2 = v)) (h8 : ∀ τ, Fr Scr σ τ → Ok (f8 τ) (fun z => Fr Scr τ z.1 ∧ z.2 = v)) : Ok (f7 σ) (fun y => Ok (f8 y.1) (fun z => z.2 = y.2 ∧ R (N + 1) z.1)) := by
  refine ok_mono h7 (fun y hy => ?_)
  refine ok_mono (h8 y.1 hy.1) (fun z hz => ?_)
  exact ⟨hz.2.trans hy.2.symm, nb, ns, ng, nh, (h.fr (hy.1.tr hz.1)).up (by omega)⟩
theorem rg_if {β : Type} (a lo hi : Int32) (x y : β) : (if a < lo then y else if a ≤ hi then x else y) = if rgB a lo.toInt hi.toInt = true then x else y := by
  unfold rgB
  by_cases c : a < lo
  · rw [if_pos c, if_neg]
    intro q
    have h1 := i_lt.mp c
    have h2 := of_decide_eq_true q
    omega
  · rw [if_neg c]
    have h1 := i_nlt.mp c
    by_cases c2 : a ≤ hi
    · rw [if_pos c2, if_pos (decide_eq_true ⟨h1, i_le.mp c2⟩)]
    · rw [if_neg c2, if_neg]
      intro q
      have h2 := i_nle.mp c2
      have h3 := of_decide_eq_true q
      omega
theorem bB_if {β : Type} (b : Bool) (x y : β) : (if bB b = 0 then y else x) = if b = true then x else y := by
  cases b <;> rfl
theorem rgB_iff {x : Int32} {l h : Int} : rgB x l h = true ↔ rgI x l h := by
  unfold rgB rgI
  exact ⟨fun q => of_decide_eq_true q, fun q => decide_eq_true q⟩
theorem sif {c : Prop} [Decidable c] (σ : Sto) (x y : Int32) : (if c then some (σ, x) else some (σ, y)) = some (σ, if c then x else y) := by
  by_cases h : c
  · rw [if_pos h, if_pos h]
  · rw [if_neg h, if_neg h]
theorem s_fault : CallR f_X7_fault f_X8_fault := by
  intro N σ hN hR
  obtain ⟨nb, ns, ng, nh, h⟩ := hR
  refine stp_eq ⟨nb, ns, ng, nh, h⟩ (v := σ.1 39 22) ?_ rfl
  unfold f_X7_fault
  rw [h.2.2.1.2]
theorem s_told (a : Int32) : CallR (fun σ => f_X7_told σ a) (fun σ => f_X8_told σ a) := by
  intro N σ hN hR
  obtain ⟨nb, ns, ng, nh, h⟩ := hR
  obtain ⟨hP, hS, hT, hA, hB, hI⟩ := id h
  obtain ⟨⟨len, hl, e4, e21, -⟩, -⟩ := hT
  obtain ⟨-, nt, -, t1, t2, -⟩ := hA
  obtain ⟨-, nk, -, b1, b2, -⟩ := hB
  obtain ⟨-, d1, d2, d3, d4⟩ := hS.2.2.1
  refine stp_eq (f7 := fun σ => f_X7_told σ a) (f8 := fun σ => f_X8_told σ a) ⟨nb, ns, ng, nh, h⟩ (v := if a = 0 then σ.1 39 0 else if a = 1 then σ.1 39 1 else if a = 2 then σ.1 39 4 else if a = 3 then σ.1 39 8 else if a = 4 then σ.1 39 10 else if a = 5 then σ.1 39 21 else if a = 6 then σ.1 39 13 else if a = 7 then σ.1 39 18 else if a = 8 then σ.1 39 17 else if a = 9 then σ.1 39 48 else if a = 10 then σ.1 39 52 else -1000000002) ?_ ?_
  · unfold f_X7_told
    simp only [c_days hP, (c_cnt hP).1, (c_cnt hP).2.1, (c_cnt hP).2.2.1, (c_cnt hP).2.2.2, bd2_eq, e4, e21, t1, t2, b1, b2, d1, d2, d3, hP.2.1.1, hP.2.1.2.1, hP.2.1.2.2.1, hP.2.1.2.2.2, sif]
  · unfold f_X8_told
    simp only [sif]
theorem s_bell (a d : Int32) : CallR (fun σ => f_X7_bell σ a d) (fun σ => f_X8_bell σ a d) := by
  intro N σ hN hR
  obtain ⟨nb, ns, ng, nh, h⟩ := hR
  obtain ⟨hP, hS, hT, hA, hB, hI⟩ := id h
  refine stp_eq (f7 := fun σ => f_X7_bell σ a d) (f8 := fun σ => f_X8_bell σ a d) ⟨nb, ns, ng, nh, h⟩ (v := if inB a nb = true then (if rgB d 0 99999 = true then lonS (σ.1 39 0) (σ.1 40 a.toNatClampNeg) (σ.1 41 a.toNatClampNeg) d else -1000000002) else -1000000001) ?_ ?_
  · unfold f_X7_bell f_X7_bell_j25
    rw [(c_hasK hP a).1, bd2_eq, bB_if, rg_if]
    by_cases c : inB a nb = true
    · rw [if_pos c, if_pos c, c_longOf hP c]
      show (if rgB d 0 99999 = true then _ else _) = _
      by_cases c2 : rgB d 0 99999 = true
      · rw [if_pos c2, if_pos c2]; rfl
      · rw [if_neg c2, if_neg c2]
    · rw [if_neg c, if_neg c]
  · unfold f_X8_bell f_X8_bell_j34
    rw [m_isBell hP.2.1.1 (by have := hP.1.1; omega), bd2_eq, bB_if, m_inI σ d _ _ (li := 0) (hi := 99999) (by decide) (by decide), bd2_eq, bB_if]
    by_cases c : inB a nb = true
    · rw [if_pos c, if_pos c, m_longOn d (inB_up c hP.1.1) hP.y0, bd2_eq]
      by_cases c2 : rgB d 0 99999 = true
      · rw [if_pos c2, if_pos c2]
      · rw [if_neg c2, if_neg c2]
    · rw [if_neg c, if_neg c]
