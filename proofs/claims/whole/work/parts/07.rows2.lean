/-! rows that name what is new; the pure reading h leads -/
def bs {α β : Type} (x : α) (k : α → β) : β := k x
def bd2 {α β : Type} (x : Option (Sto × α)) (k : Sto → α → Option β) : Option β := x.bind fun z => k z.1 z.2
def bd1 {β : Type} (x : Option Sto) (k : Sto → Option β) : Option β := x.bind k
theorem bd2_some {α β : Type} {x : Option (Sto × α)} {k : Sto → α → Option β} {r : β} (h : bd2 x k = some r) : ∃ z, x = some z ∧ k z.1 z.2 = some r := bd_some h
theorem bd1_some {β : Type} {x : Option Sto} {k : Sto → Option β} {r : β} (h : bd1 x k = some r) : ∃ z, x = some z ∧ k z = some r := bd_some h
theorem lp_go {α β γ : Type} {it : α → Option (α ⊕ β)} {Vh : α → Prop} {k : β → Option γ} {r : γ} {n : Nat} {x : α} (h : (lpF it n x).bind k = some r) (hs : ∀ x y, it x = some y → (∀ x', y = .inl x' → Vh x') → (∀ e, y = .inr e → k e = some r) → Vh x) : Vh x := by
  obtain ⟨e, h1, h2⟩ := bd_some h
  exact lp_rule (Ve := fun e => k e = some r) hs n x e h1 h2
def bE0 {β : Type} (x : Option (Sto)) (k : Sto → Option β) : Option β := x.bind fun e => k e
def bR0 {ρ β : Type} (x : Option (ρ ⊕ (Sto))) (q : ρ → Option β) (k : Sto → Option β) : Option β := x.bind fun e => match e with
  | .inl u => q u
  | .inr z => k z
def bE1 {A1 β : Type} (x : Option (Sto × A1)) (k : Sto → A1 → Option β) : Option β := x.bind fun e => k e.1 e.2
def bR1 {ρ A1 β : Type} (x : Option (ρ ⊕ (Sto × A1))) (q : ρ → Option β) (k : Sto → A1 → Option β) : Option β := x.bind fun e => match e with
  | .inl u => q u
  | .inr z => k z.1 z.2
def bE2 {A1 A2 β : Type} (x : Option (Sto × A1 × A2)) (k : Sto → A1 → A2 → Option β) : Option β := x.bind fun e => k e.1 e.2.1 e.2.2
def bR2 {ρ A1 A2 β : Type} (x : Option (ρ ⊕ (Sto × A1 × A2))) (q : ρ → Option β) (k : Sto → A1 → A2 → Option β) : Option β := x.bind fun e => match e with
  | .inl u => q u
  | .inr z => k z.1 z.2.1 z.2.2
def bE3 {A1 A2 A3 β : Type} (x : Option (Sto × A1 × A2 × A3)) (k : Sto → A1 → A2 → A3 → Option β) : Option β := x.bind fun e => k e.1 e.2.1 e.2.2.1 e.2.2.2
def bR3 {ρ A1 A2 A3 β : Type} (x : Option (ρ ⊕ (Sto × A1 × A2 × A3))) (q : ρ → Option β) (k : Sto → A1 → A2 → A3 → Option β) : Option β := x.bind fun e => match e with
  | .inl u => q u
  | .inr z => k z.1 z.2.1 z.2.2.1 z.2.2.2
def bE4 {A1 A2 A3 A4 β : Type} (x : Option (Sto × A1 × A2 × A3 × A4)) (k : Sto → A1 → A2 → A3 → A4 → Option β) : Option β := x.bind fun e => k e.1 e.2.1 e.2.2.1 e.2.2.2.1 e.2.2.2.2
def bR4 {ρ A1 A2 A3 A4 β : Type} (x : Option (ρ ⊕ (Sto × A1 × A2 × A3 × A4))) (q : ρ → Option β) (k : Sto → A1 → A2 → A3 → A4 → Option β) : Option β := x.bind fun e => match e with
  | .inl u => q u
  | .inr z => k z.1 z.2.1 z.2.2.1 z.2.2.2.1 z.2.2.2.2
def bE5 {A1 A2 A3 A4 A5 β : Type} (x : Option (Sto × A1 × A2 × A3 × A4 × A5)) (k : Sto → A1 → A2 → A3 → A4 → A5 → Option β) : Option β := x.bind fun e => k e.1 e.2.1 e.2.2.1 e.2.2.2.1 e.2.2.2.2.1 e.2.2.2.2.2
def bR5 {ρ A1 A2 A3 A4 A5 β : Type} (x : Option (ρ ⊕ (Sto × A1 × A2 × A3 × A4 × A5))) (q : ρ → Option β) (k : Sto → A1 → A2 → A3 → A4 → A5 → Option β) : Option β := x.bind fun e => match e with
  | .inl u => q u
  | .inr z => k z.1 z.2.1 z.2.2.1 z.2.2.2.1 z.2.2.2.2.1 z.2.2.2.2.2
def bE6 {A1 A2 A3 A4 A5 A6 β : Type} (x : Option (Sto × A1 × A2 × A3 × A4 × A5 × A6)) (k : Sto → A1 → A2 → A3 → A4 → A5 → A6 → Option β) : Option β := x.bind fun e => k e.1 e.2.1 e.2.2.1 e.2.2.2.1 e.2.2.2.2.1 e.2.2.2.2.2.1 e.2.2.2.2.2.2
def bR6 {ρ A1 A2 A3 A4 A5 A6 β : Type} (x : Option (ρ ⊕ (Sto × A1 × A2 × A3 × A4 × A5 × A6))) (q : ρ → Option β) (k : Sto → A1 → A2 → A3 → A4 → A5 → A6 → Option β) : Option β := x.bind fun e => match e with
  | .inl u => q u
  | .inr z => k z.1 z.2.1 z.2.2.1 z.2.2.2.1 z.2.2.2.2.1 z.2.2.2.2.2.1 z.2.2.2.2.2.2
def bE7 {A1 A2 A3 A4 A5 A6 A7 β : Type} (x : Option (Sto × A1 × A2 × A3 × A4 × A5 × A6 × A7)) (k : Sto → A1 → A2 → A3 → A4 → A5 → A6 → A7 → Option β) : Option β := x.bind fun e => k e.1 e.2.1 e.2.2.1 e.2.2.2.1 e.2.2.2.2.1 e.2.2.2.2.2.1 e.2.2.2.2.2.2.1 e.2.2.2.2.2.2.2
def bR7 {ρ A1 A2 A3 A4 A5 A6 A7 β : Type} (x : Option (ρ ⊕ (Sto × A1 × A2 × A3 × A4 × A5 × A6 × A7))) (q : ρ → Option β) (k : Sto → A1 → A2 → A3 → A4 → A5 → A6 → A7 → Option β) : Option β := x.bind fun e => match e with
  | .inl u => q u
  | .inr z => k z.1 z.2.1 z.2.2.1 z.2.2.2.1 z.2.2.2.2.1 z.2.2.2.2.2.1 z.2.2.2.2.2.2.1 z.2.2.2.2.2.2.2
def bE8 {A1 A2 A3 A4 A5 A6 A7 A8 β : Type} (x : Option (Sto × A1 × A2 × A3 × A4 × A5 × A6 × A7 × A8)) (k : Sto → A1 → A2 → A3 → A4 → A5 → A6 → A7 → A8 → Option β) : Option β := x.bind fun e => k e.1 e.2.1 e.2.2.1 e.2.2.2.1 e.2.2.2.2.1 e.2.2.2.2.2.1 e.2.2.2.2.2.2.1 e.2.2.2.2.2.2.2.1 e.2.2.2.2.2.2.2.2
def bR8 {ρ A1 A2 A3 A4 A5 A6 A7 A8 β : Type} (x : Option (ρ ⊕ (Sto × A1 × A2 × A3 × A4 × A5 × A6 × A7 × A8))) (q : ρ → Option β) (k : Sto → A1 → A2 → A3 → A4 → A5 → A6 → A7 → A8 → Option β) : Option β := x.bind fun e => match e with
  | .inl u => q u
  | .inr z => k z.1 z.2.1 z.2.2.1 z.2.2.2.1 z.2.2.2.2.1 z.2.2.2.2.2.1 z.2.2.2.2.2.2.1 z.2.2.2.2.2.2.2.1 z.2.2.2.2.2.2.2.2
section VROWS2
variable {G : Wld} {X : Cxt} {own : String} {cc : ByteArray} {nL n : Nat} {σ : Sto} {lv : List (Nat × Value)} {st : List Value} {β : Type} {r : β}
theorem b_istore_n (pc : Nat) (C : Cx G X own cc nL n) {j : Fin 4} (i : Nat) {x : Int32} {lv2 : Int32 → List (Nat × Value)} {F : Int32 → Option β} (hd : decode cc pc = .ok (.istore_n j, 1)) (hi : (j : Nat) = i) (hn : i < nL) (hl2 : ∀ x : Int32, (i, Value.int x) :: lv.filter (fun q => !(q.1 == i) && !(q.1 + 1 == i && q.2.category == 2)) = lv2 x) (h : bs x F = some r) (k : ∀ x, F x = some r → V G X nL σ (lv2 x) st (pc + 1)) : V G X nL σ lv (.int x :: st) pc := v_istore_n pc C i hd hi hn (hl2 x) (k x h)
theorem b_istore (pc : Nat) (C : Cx G X own cc nL n) (i : Nat) {x : Int32} {lv2 : Int32 → List (Nat × Value)} {F : Int32 → Option β} (hd : decode cc pc = .ok (.istore i, 2)) (hn : i < nL) (hl2 : ∀ x : Int32, (i, Value.int x) :: lv.filter (fun q => !(q.1 == i) && !(q.1 + 1 == i && q.2.category == 2)) = lv2 x) (h : bs x F = some r) (k : ∀ x, F x = some r → V G X nL σ (lv2 x) st (pc + 2)) : V G X nL σ lv (.int x :: st) pc := v_istore pc C i hd hn (hl2 x) (k x h)
theorem b_iinc (pc : Nat) (C : Cx G X own cc nL n) (i q : Nat) {c : Int} {x : Int32} (v : Int32) {lv2 : Int32 → List (Nat × Value)} {F : Int32 → Option β} (hd : decode cc pc = .ok (.iinc i c, 3)) (hq : lv[q]? = some (i, .int x)) (hv : Int32.ofInt c = v) (hn : i < nL) (hl2 : ∀ x : Int32, (i, Value.int x) :: lv.filter (fun q => !(q.1 == i) && !(q.1 + 1 == i && q.2.category == 2)) = lv2 x) (h : bs (x + v) F = some r) (k : ∀ x, F x = some r → V G X nL σ (lv2 x) st (pc + 3)) : V G X nL σ lv st pc := v_iinc pc C i q v hd hq hv hn (hl2 (x + v)) (k (x + v) h)
theorem b_iast (pc : Nat) (C : Cx G X own cc nL n) (k : Nat) {m : Nat} {i x : Int32} {F : Sto → Option β} (hk : k < NC) (hce : ∀ f d, ceF G k f d = .inl (G.2.1 0, (m, .inl f))) (hd : decode cc pc = .ok (.iastore, 1)) (h : gd (inB i m) (bs (su σ k i.toNatClampNeg x) F) = some r) (kk : ∀ σ1, F σ1 = some r → V G X nL σ1 lv st (pc + 1)) : V G X nL σ lv (.int x :: .int i :: .ref (G.1 k) :: st) pc := v_iast pc C k hk hce hd h (fun h => kk _ h)
theorem b_cast (pc : Nat) (C : Cx G X own cc nL n) (k : Nat) {m : Nat} {i x : Int32} {F : Sto → Option β} (hk : k < NC) (hce : ∀ f d, ceF G k f d = .inl (G.2.1 1, (m, .inl f))) (hd : decode cc pc = .ok (.castore, 1)) (h : gd (inB i m) (bs (su σ k i.toNatClampNeg (vp_nar .char x)) F) = some r) (kk : ∀ σ1, F σ1 = some r → V G X nL σ1 lv st (pc + 1)) : V G X nL σ lv (.int x :: .int i :: .ref (G.1 k) :: st) pc := v_cast pc C k hk hce hd h (fun h => kk _ h)
theorem b_zast (pc : Nat) (C : Cx G X own cc nL n) (k : Nat) {m : Nat} {i x : Int32} {F : Sto → Option β} (hk : k < NC) (hce : ∀ f d, ceF G k f d = .inl (G.2.1 2, (m, .inl f))) (hd : decode cc pc = .ok (.bastore, 1)) (h : gd (inB i m) (bs (su σ k i.toNatClampNeg (vp_nar .boolean x)) F) = some r) (kk : ∀ σ1, F σ1 = some r → V G X nL σ1 lv st (pc + 1)) : V G X nL σ lv (.int x :: .int i :: .ref (G.1 k) :: st) pc := v_zast pc C k hk hce hd h (fun h => kk _ h)
theorem b_copy (pc : Nat) (C : Cx G X own cc nL n) {ix : Nat} (k0 k1 : Nat) {m0 m1 : Nat} {sp dp w : Int32} {F : Sto → Option β} (hk0 : k0 < NC) (hk1 : k1 < NC) (hce0 : ∀ f d, ceF G k0 f d = .inl (G.2.1 0, (m0, .inl f))) (hce1 : ∀ f d, ceF G k1 f d = .inl (G.2.1 0, (m1, .inl f)))
    (hw1 : Cond.methodLink own ix arraycopyName ∈ lw_gd) (hw2 : Cond.native arraycopyName ∈ lw_gd) (hw3 : Cond.static arraycopyName ∈ lw_gd) (hw4 : Cond.initialized "java/lang/System" ∈ lw_gd) (hst : (st.map fun v => v.category).sum + (nativeFrameWords "java/lang/System" "arraycopy" 5 + 11) ≤ 50) (hn : 1 ≤ n)
    (hd : decode cc pc = .ok (.invokestatic ix, 3)) (h : gd (decide (0 ≤ sp.toInt ∧ 0 ≤ dp.toInt ∧ 0 ≤ w.toInt ∧ sp.toInt + w.toInt ≤ m0 ∧ dp.toInt + w.toInt ≤ m1)) (bs (sc σ k1 (va_cpy (σ.1 k0) (σ.1 k1) sp.toNatClampNeg dp.toNatClampNeg w.toNatClampNeg)) F) = some r)
    (kk : ∀ σ1, F σ1 = some r → V G X nL σ1 lv st (pc + 3)) : V G X nL σ lv (.int w :: .int dp :: .ref (G.1 k1) :: .int sp :: .ref (G.1 k0) :: st) pc := v_copy pc C k0 k1 hk0 hk1 hce0 hce1 hw1 hw2 hw3 hw4 hst hn hd h (fun h => kk _ h)
theorem v_tableAt (pc : Nat) (C : Cx G X own cc nL n) {dflt lo hi : Int} {offs : Array Int} {len : Nat} {x : Int32} {off : Int} (j : Int32) (tgt : Nat) (hx : x = j) (hd : decode cc pc = .ok (.tableswitch dflt lo hi offs, len)) (h1 : ¬ j.toInt < lo) (h2 : ¬ hi < j.toInt) (ho : offs[(j.toInt - lo).toNat]? = some off) (ht : (pc : Int) + off = (tgt : Int)) (k : V G X nL σ lv st tgt) : V G X nL σ lv (.int x :: st) pc := by
  subst hx
  exact v_tableIn pc C tgt hd h1 h2 ho ht k
end VROWS2
theorem sw_out {x : Int32} (N : Nat) (hN : N < 2 ^ 31) (h : ∀ j, j < N → ¬ x = nI j) : x.toInt < 0 ∨ (N : Int) - 1 < x.toInt := by
  by_cases q : x.toInt < 0
  · exact Or.inl q
  · refine Or.inr ?_
    by_cases q2 : ((N : Int) - 1) < x.toInt
    · exact q2
    · exfalso
      refine h x.toInt.toNat (by omega) ?_
      apply Int32.toInt_inj.mp
      rw [nI_toInt (by omega)]
      omega
theorem v_aald {G : Wld} {X : Cxt} {own : String} {cc : ByteArray} {nL n : Nat} {σ : Sto} {lv : List (Nat × Value)} {st : List Value} {β : Type} {r : β} (pc : Nat) (C : Cx G X own cc nL n) {i : Int32} {F E : Option β} (hd : decode cc pc = .ok (.aaload, 1)) (h : gd (inB i 2) (if i = 0 then F else E) = some r) (kt : F = some r → V G X nL σ lv (.ref (G.1 15) :: st) (pc + 1)) (kf : E = some r → V G X nL σ lv (.ref (G.1 19) :: st) (pc + 1)) : V G X nL σ lv (.int i :: .ref (G.1 14) :: st) pc := by
  intro H locs ls hP hS hl
  obtain ⟨hi, h⟩ := gd_some h
  refine va_aldq C.1 C.2.1 C.2.2.2.2.2.1 hP 14 3 (by rw [WS_at (show 14 < NC by decide), ce_14]) rfl (inB_in hi) hd ?_
  by_cases c : i = 0
  · subst c
    exact kt (it_t h rfl) H locs ls hP hS hl
  · have hne : ¬ i.toNatClampNeg = 0 := by
      intro q
      apply c
      have h2 := of_decide_eq_true hi
      apply Int32.toInt_inj.mp
      have h3 : i.toInt.toNat = 0 := q
      have h4 : (0 : Int32).toInt = 0 := by decide
      omega
    show W _ _ _ _ _ _ _ _ _ _ _ _ _ _ _ (F0 _ _ _ (va_rf (if i.toNatClampNeg = 0 then some (G.1 15) else some (G.1 19)) :: st))
    rw [if_neg hne]
    exact kf (it_f h c) H locs ls hP hS hl
