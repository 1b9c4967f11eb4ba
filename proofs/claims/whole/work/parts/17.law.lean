/-! the law's own body, behind its two constructors -/
def R_law : String := "ShadowAlmsLaw"
def lw_P (b : Addr) (xs : List Int32) (args : Array Value) (s : State) : Prop := args = #[.ref b] ∧ s.IntsAt b xs ∧ xs.length ≤ 2560 ∧ (Jvm.Cond.and given_1 narrow_1).before args s = true
def lw_Q (_ : Array Value) (s : State) (o : Outcome) (t : State) : Prop := o = .returned (some (.int 1)) ∧ Framed s o t [] 600000 7302249
def lw_Z (below : List Frame) (a : Array Value) (s : State) : State → Prop := fun t => ∃ o, t.status = .running ∧ Ended t below o ∧ lw_Q a s o t
/-- the law's own end, with 1 on the stack, nothing written that was there before, its room as the claim has it -/
theorem lw_ret {p : Program} {l : Launch} {e : Env} {s : State} {m : MethodId} {below : List Frame} {meth : Method} {c : Code} {b : Nat} (hx : p.tables.exec = Jvm.exec) (hb : c.code = code) (hr : meth.sig.returnType = ret) (hlocks : meth.locks = false) {pc : Nat} {H : Heap} {ls : Array Slot} (hdg : decode code pc = .ok (.ireturn, 1)) : W p l e room_1 s m #[Value.ref b] below meth c H [] 600000 7302249 (lw_Z below #[Value.ref b] s) (F0 m pc ls [.int 1]) := by
  intro T hT X
  obtain ⟨fs, hret, hrun, hended, hW, hframe⟩ := X.leave (v := some (.int 1)) (hlocks := hlocks) (fun h => by rw [hr] at h; cases h)
  have hmeth' : T.vm.method? m = some meth := X.method'
  refine ⟨T.setFrames fs, ?_, .returned (some (.int 1)), hrun, hended, rfl, ⟨_, rfl⟩, hW, hframe⟩
  jvm_step X.here [X.here.top, hx, hb, hdg, hmeth', hr, ret, narrow_b1]
  (try refine ⟨rfl, ?_⟩); (try refine ⟨rfl, ?_⟩)
  first | (intro acts; rw [hret _ acts rfl rfl rfl]) | rw [hret _ _ rfl rfl rfl]
  exact Steps.refl _
/-- what holds at the law's entry: the machine, the code, the tables' words (any of lw_tbl by 'hts w (by decide +kernel)'), the script of L ints xs at the cell b, what the Statement gives of the start (any of its parts by flat_of_before) -/
def lw_At (p : Program) (s : State) (m : MethodId) (meth : Method) (c : Code) (b L : Nat) (xs : Nat → Int32) : Prop :=
  p.tables.exec = Jvm.exec ∧ c.code = code ∧ meth.sig.returnType = ret ∧ c.maxLocals = 4 ∧ s.vm.findClass R_law = some m.cls ∧ (∀ w ∈ lw_tbl, w.before #[Value.ref b] s = true) ∧ va_X b L xs s s.heap ∧ b < s.heap.size ∧ meth.locks = false ∧ (Jvm.Cond.and given_1 narrow_1).before #[Value.ref b] s = true
/-- the script stands where no cell of the world is -/
def Sx (X : Cxt) (b L : Nat) (xs_ : Nat → Int32) : Prop := va_X b L xs_ (xs X) (xs X).heap ∧ b < (xs X).heap.size ∧ ¬ xA X b
/-- the answer is 1, and the law may end -/
def Lx (X : Cxt) (b : Nat) (v : Int32) : Prop := v = 1 ∧ (xh X).sig.returnType = ret ∧ (xh X).locks = false ∧ xR X = room_1 ∧ xa X = #[Value.ref b] ∧ xk X ≤ 600000 ∧ xn X ≤ 7302249 ∧ xQ X = lw_Z (xb X) #[Value.ref b] (xs X) ∧ xA X = (fun q : Nat => (xs X).heap.size ≤ q)
section VLAW
variable {G : Wld} {X : Cxt} {own : String} {cc : ByteArray} {nL n : Nat} {σ : Sto} {lv : List (Nat × Value)} {st : List Value} {b L : Nat} {xs_ : Nat → Int32}
theorem v_slen (pc : Nat) (C : Cx G X own cc nL n) (hXs : Sx X b L xs_) (hd : decode cc pc = .ok (.arraylength, 1)) (k : V G X nL σ lv (.int (Int32.ofNat L) :: st) (pc + 1)) : V G X nL σ lv (.ref b :: st) pc := by
  intro H locs ls hP hS hl
  exact va_slen C.1 C.2.1 hXs.1 hXs.2.1 hXs.2.2 hS hd (k H locs ls hP hS hl)
theorem v_sld (pc : Nat) (C : Cx G X own cc nL n) (hXs : Sx X b L xs_) {i : Int32} {β : Type} {F : Option β} {r : β} (hd : decode cc pc = .ok (.iaload, 1)) (h : gd (inB i L) F = some r) (k : F = some r → V G X nL σ lv (.int (xs_ i.toNatClampNeg) :: st) (pc + 1)) : V G X nL σ lv (.int i :: .ref b :: st) pc := by
  intro H locs ls hP hS hl
  exact va_sld C.1 C.2.1 hXs.1 hXs.2.1 hXs.2.2 hS (inB_in (gd_some h).1) hd (k (gd_some h).2 H locs ls hP hS hl)
theorem v_lawret (pc : Nat) (C : Cx G X own code nL n) {v : Int32} (hK : Lx X b v) (hd : decode code pc = .ok (.ireturn, 1)) : V G X nL σ lv [.int v] pc := by
  intro H locs ls hP hS hl
  obtain ⟨rfl, h1, h2, h3, h4, h5, h6, h7, h8⟩ := hK
  have hnl : ∀ l ∈ locs, (xs X).heap.size ≤ l.base := fun l hl => by
    have := hS.2.2 l hl
    rw [h8] at this
    exact this
  refine va_forget hnl (W.widen h5 h6 ?_)
  rw [h7, h3, h4]
  exact lw_ret C.1 C.2.1 h1 h2 hd
end VLAW
def f_law_j1051 (L : Nat) (xs : Nat → Int32) (σ : Sto) (x3 : Int32) : Option ((Sto × Int32) ⊕ ((Sto × Int32) ⊕ (Sto × Int32))) :=
  bs (x3 + (5 : Int32)) fun z7 => some (.inl (σ, z7))
def f_law_l18 (L : Nat) (xs : Nat → Int32) (σ : Sto) (x3 : Int32) : Option ((Sto × Int32) ⊕ ((Sto × Int32) ⊕ (Sto × Int32))) :=
  if ((Int32.ofNat L) - (5 : Int32)) < x3 then (some (.inr (.inr (σ, x3)))) else (gd (inB x3 L) (if ((xs (x3).toNatClampNeg) &&& (31 : Int32)) = (0 : Int32) then (gd (inB (x3 + (1 : Int32)) L) (gd (inB (x3 + (2 : Int32)) L) (gd (inB (x3 + (3 : Int32)) L) (bd2 (f_X7_feed σ (xs ((x3 + (1 : Int32))).toNatClampNeg) ((((xs ((x3 + (2 : Int32))).toNatClampNeg)).toInt64 <<< (((32 : Int32)).toInt64 &&& 63)) ||| (((xs ((x3 + (3 : Int32))).toNatClampNeg)).toInt64 &&& (4294967295 : Int64)))) fun σ3 v4 => gd (inB (x3 + (1 : Int32)) L) (gd (inB (x3 + (2 : Int32)) L) (gd (inB (x3 + (3 : Int32)) L) (bd2 (f_X8_feed σ3 (xs ((x3 + (1 : Int32))).toNatClampNeg) ((((xs ((x3 + (2 : Int32))).toNatClampNeg)).toInt64 <<< (((32 : Int32)).toInt64 &&& 63)) ||| (((xs ((x3 + (3 : Int32))).toNatClampNeg)).toInt64 &&& (4294967295 : Int64)))) fun σ5 v6 => if v4 = v6 then (f_law_j1051 L xs σ5 x3) else (some (.inr (.inl (σ5, (0 : Int32)))))))))))) else if ((xs (x3).toNatClampNeg) &&& (31 : Int32)) = (1 : Int32) then (bd2 (f_X7_square σ) fun σ8 v9 => bd2 (f_X8_square σ8) fun σ10 v11 => if v9 = v11 then (f_law_j1051 L xs σ10 x3) else (some (.inr (.inl (σ10, (0 : Int32)))))) else if ((xs (x3).toNatClampNeg) &&& (31 : Int32)) = (2 : Int32) then (bd2 (f_X7_fault σ) fun σ12 v13 => bd2 (f_X8_fault σ12) fun σ14 v15 => if v13 = v15 then (f_law_j1051 L xs σ14 x3) else (some (.inr (.inl (σ14, (0 : Int32)))))) else if ((xs (x3).toNatClampNeg) &&& (31 : Int32)) = (3 : Int32) then (gd (inB (x3 + (1 : Int32)) L) (bd2 (f_X7_told σ (xs ((x3 + (1 : Int32))).toNatClampNeg)) fun σ16 v17 => gd (inB (x3 + (1 : Int32)) L) (bd2 (f_X8_told σ16 (xs ((x3 + (1 : Int32))).toNatClampNeg)) fun σ18 v19 => if v17 = v19 then (f_law_j1051 L xs σ18 x3) else (some (.inr (.inl (σ18, (0 : Int32)))))))) else if ((xs (x3).toNatClampNeg) &&& (31 : Int32)) = (4 : Int32) then (gd (inB (x3 + (1 : Int32)) L) (gd (inB (x3 + (2 : Int32)) L) (bd2 (f_X7_bell σ (xs ((x3 + (1 : Int32))).toNatClampNeg) (xs ((x3 + (2 : Int32))).toNatClampNeg)) fun σ20 v21 => gd (inB (x3 + (1 : Int32)) L) (gd (inB (x3 + (2 : Int32)) L) (bd2 (f_X8_bell σ20 (xs ((x3 + (1 : Int32))).toNatClampNeg) (xs ((x3 + (2 : Int32))).toNatClampNeg)) fun σ22 v23 => if v21 = v23 then (f_law_j1051 L xs σ22 x3) else (some (.inr (.inl (σ22, (0 : Int32)))))))))) else if ((xs (x3).toNatClampNeg) &&& (31 : Int32)) = (5 : Int32) then (gd (inB (x3 + (1 : Int32)) L) (gd (inB (x3 + (2 : Int32)) L) (bd2 (f_X7_spot σ (xs ((x3 + (1 : Int32))).toNatClampNeg) (xs ((x3 + (2 : Int32))).toNatClampNeg)) fun σ24 v25 => gd (inB (x3 + (1 : Int32)) L) (gd (inB (x3 + (2 : Int32)) L) (bd2 (f_X8_spot σ24 (xs ((x3 + (1 : Int32))).toNatClampNeg) (xs ((x3 + (2 : Int32))).toNatClampNeg)) fun σ26 v27 => if v25 = v27 then (f_law_j1051 L xs σ26 x3) else (some (.inr (.inl (σ26, (0 : Int32)))))))))) else if ((xs (x3).toNatClampNeg) &&& (31 : Int32)) = (6 : Int32) then (gd (inB (x3 + (1 : Int32)) L) (gd (inB (x3 + (2 : Int32)) L) (bd2 (f_X7_beggar σ (xs ((x3 + (1 : Int32))).toNatClampNeg) (xs ((x3 + (2 : Int32))).toNatClampNeg)) fun σ28 v29 => gd (inB (x3 + (1 : Int32)) L) (gd (inB (x3 + (2 : Int32)) L) (bd2 (f_X8_beggar σ28 (xs ((x3 + (1 : Int32))).toNatClampNeg) (xs ((x3 + (2 : Int32))).toNatClampNeg)) fun σ30 v31 => if v29 = v31 then (f_law_j1051 L xs σ30 x3) else (some (.inr (.inl (σ30, (0 : Int32)))))))))) else if ((xs (x3).toNatClampNeg) &&& (31 : Int32)) = (7 : Int32) then (gd (inB (x3 + (1 : Int32)) L) (gd (inB (x3 + (2 : Int32)) L) (bd2 (f_X7_hat σ (xs ((x3 + (1 : Int32))).toNatClampNeg) (xs ((x3 + (2 : Int32))).toNatClampNeg)) fun σ32 v33 => gd (inB (x3 + (1 : Int32)) L) (gd (inB (x3 + (2 : Int32)) L) (bd2 (f_X8_hat σ32 (xs ((x3 + (1 : Int32))).toNatClampNeg) (xs ((x3 + (2 : Int32))).toNatClampNeg)) fun σ34 v35 => if v33 = v35 then (f_law_j1051 L xs σ34 x3) else (some (.inr (.inl (σ34, (0 : Int32)))))))))) else if ((xs (x3).toNatClampNeg) &&& (31 : Int32)) = (8 : Int32) then (gd (inB (x3 + (1 : Int32)) L) (gd (inB (x3 + (2 : Int32)) L) (gd (inB (x3 + (3 : Int32)) L) (bd2 (f_X7_shadow σ (xs ((x3 + (1 : Int32))).toNatClampNeg) (xs ((x3 + (2 : Int32))).toNatClampNeg) (xs ((x3 + (3 : Int32))).toNatClampNeg)) fun σ36 v37 => gd (inB (x3 + (1 : Int32)) L) (gd (inB (x3 + (2 : Int32)) L) (gd (inB (x3 + (3 : Int32)) L) (bd2 (f_X8_shadow σ36 (xs ((x3 + (1 : Int32))).toNatClampNeg) (xs ((x3 + (2 : Int32))).toNatClampNeg) (xs ((x3 + (3 : Int32))).toNatClampNeg)) fun σ38 v39 => if v37 = v39 then (f_law_j1051 L xs σ38 x3) else (some (.inr (.inl (σ38, (0 : Int32)))))))))))) else if ((xs (x3).toNatClampNeg) &&& (31 : Int32)) = (9 : Int32) then (gd (inB (x3 + (1 : Int32)) L) (gd (inB (x3 + (2 : Int32)) L) (bd2 (f_X7_go σ (xs ((x3 + (1 : Int32))).toNatClampNeg) (xs ((x3 + (2 : Int32))).toNatClampNeg)) fun σ40 v41 => gd (inB (x3 + (1 : Int32)) L) (gd (inB (x3 + (2 : Int32)) L) (bd2 (f_X8_go σ40 (xs ((x3 + (1 : Int32))).toNatClampNeg) (xs ((x3 + (2 : Int32))).toNatClampNeg)) fun σ42 v43 => if v41 = v43 then (f_law_j1051 L xs σ42 x3) else (some (.inr (.inl (σ42, (0 : Int32)))))))))) else if ((xs (x3).toNatClampNeg) &&& (31 : Int32)) = (10 : Int32) then (gd (inB (x3 + (1 : Int32)) L) (gd (inB (x3 + (2 : Int32)) L) (bd2 (f_X7_lend σ (xs ((x3 + (1 : Int32))).toNatClampNeg) (xs ((x3 + (2 : Int32))).toNatClampNeg)) fun σ44 v45 => gd (inB (x3 + (1 : Int32)) L) (gd (inB (x3 + (2 : Int32)) L) (bd2 (f_X8_lend σ44 (xs ((x3 + (1 : Int32))).toNatClampNeg) (xs ((x3 + (2 : Int32))).toNatClampNeg)) fun σ46 v47 => if v45 = v47 then (f_law_j1051 L xs σ46 x3) else (some (.inr (.inl (σ46, (0 : Int32)))))))))) else if ((xs (x3).toNatClampNeg) &&& (31 : Int32)) = (11 : Int32) then (gd (inB (x3 + (1 : Int32)) L) (bd2 (f_X7_law σ (xs ((x3 + (1 : Int32))).toNatClampNeg)) fun σ48 v49 => gd (inB (x3 + (1 : Int32)) L) (bd2 (f_X8_law σ48 (xs ((x3 + (1 : Int32))).toNatClampNeg)) fun σ50 v51 => if v49 = v51 then (f_law_j1051 L xs σ50 x3) else (some (.inr (.inl (σ50, (0 : Int32)))))))) else if ((xs (x3).toNatClampNeg) &&& (31 : Int32)) = (12 : Int32) then (gd (inB (x3 + (1 : Int32)) L) (bd2 (f_X7_ring σ (xs ((x3 + (1 : Int32))).toNatClampNeg)) fun σ52 v53 => gd (inB (x3 + (1 : Int32)) L) (bd2 (f_X8_ring σ52 (xs ((x3 + (1 : Int32))).toNatClampNeg)) fun σ54 v55 => if v53 = v55 then (f_law_j1051 L xs σ54 x3) else (some (.inr (.inl (σ54, (0 : Int32)))))))) else if ((xs (x3).toNatClampNeg) &&& (31 : Int32)) = (13 : Int32) then (gd (inB (x3 + (1 : Int32)) L) (bd2 (f_X7_day σ (xs ((x3 + (1 : Int32))).toNatClampNeg)) fun σ56 v57 => gd (inB (x3 + (1 : Int32)) L) (bd2 (f_X8_day σ56 (xs ((x3 + (1 : Int32))).toNatClampNeg)) fun σ58 v59 => if v57 = v59 then (f_law_j1051 L xs σ58 x3) else (some (.inr (.inl (σ58, (0 : Int32)))))))) else if ((xs (x3).toNatClampNeg) &&& (31 : Int32)) = (14 : Int32) then (gd (inB (x3 + (1 : Int32)) L) (bd2 (f_X7_drift σ (xs ((x3 + (1 : Int32))).toNatClampNeg)) fun σ60 v61 => gd (inB (x3 + (1 : Int32)) L) (bd2 (f_X8_drift σ60 (xs ((x3 + (1 : Int32))).toNatClampNeg)) fun σ62 v63 => if v61 = v63 then (f_law_j1051 L xs σ62 x3) else (some (.inr (.inl (σ62, (0 : Int32)))))))) else if ((xs (x3).toNatClampNeg) &&& (31 : Int32)) = (15 : Int32) then (gd (inB (x3 + (1 : Int32)) L) (gd (inB (x3 + (2 : Int32)) L) (gd (inB (x3 + (3 : Int32)) L) (bd2 (f_X7_standing σ (xs ((x3 + (1 : Int32))).toNatClampNeg) (xs ((x3 + (2 : Int32))).toNatClampNeg) (xs ((x3 + (3 : Int32))).toNatClampNeg)) fun σ64 v65 => gd (inB (x3 + (1 : Int32)) L) (gd (inB (x3 + (2 : Int32)) L) (gd (inB (x3 + (3 : Int32)) L) (bd2 (f_X8_standing σ64 (xs ((x3 + (1 : Int32))).toNatClampNeg) (xs ((x3 + (2 : Int32))).toNatClampNeg) (xs ((x3 + (3 : Int32))).toNatClampNeg)) fun σ66 v67 => if v65 = v67 then (f_law_j1051 L xs σ66 x3) else (some (.inr (.inl (σ66, (0 : Int32)))))))))))) else if ((xs (x3).toNatClampNeg) &&& (31 : Int32)) = (16 : Int32) then (gd (inB (x3 + (1 : Int32)) L) (gd (inB (x3 + (2 : Int32)) L) (bd2 (f_X7_hats σ (xs ((x3 + (1 : Int32))).toNatClampNeg) (xs ((x3 + (2 : Int32))).toNatClampNeg)) fun σ68 v69 => gd (inB (x3 + (1 : Int32)) L) (gd (inB (x3 + (2 : Int32)) L) (bd2 (f_X8_hats σ68 (xs ((x3 + (1 : Int32))).toNatClampNeg) (xs ((x3 + (2 : Int32))).toNatClampNeg)) fun σ70 v71 => if v69 = v71 then (f_law_j1051 L xs σ70 x3) else (some (.inr (.inl (σ70, (0 : Int32)))))))))) else if ((xs (x3).toNatClampNeg) &&& (31 : Int32)) = (17 : Int32) then (gd (inB (x3 + (1 : Int32)) L) (gd (inB (x3 + (2 : Int32)) L) (gd (inB (x3 + (3 : Int32)) L) (gd (inB (x3 + (4 : Int32)) L) (bd2 (f_X7_giant σ (xs ((x3 + (1 : Int32))).toNatClampNeg) (xs ((x3 + (2 : Int32))).toNatClampNeg) (xs ((x3 + (3 : Int32))).toNatClampNeg) (xs ((x3 + (4 : Int32))).toNatClampNeg)) fun σ72 v73 => gd (inB (x3 + (1 : Int32)) L) (gd (inB (x3 + (2 : Int32)) L) (gd (inB (x3 + (3 : Int32)) L) (gd (inB (x3 + (4 : Int32)) L) (bd2 (f_X8_giant σ72 (xs ((x3 + (1 : Int32))).toNatClampNeg) (xs ((x3 + (2 : Int32))).toNatClampNeg) (xs ((x3 + (3 : Int32))).toNatClampNeg) (xs ((x3 + (4 : Int32))).toNatClampNeg)) fun σ74 v75 => if v73 = v75 then (f_law_j1051 L xs σ74 x3) else (some (.inr (.inl (σ74, (0 : Int32)))))))))))))) else if ((xs (x3).toNatClampNeg) &&& (31 : Int32)) = (18 : Int32) then (gd (inB (x3 + (1 : Int32)) L) (gd (inB (x3 + (2 : Int32)) L) (bd2 (f_X7_peace σ (xs ((x3 + (1 : Int32))).toNatClampNeg) (xs ((x3 + (2 : Int32))).toNatClampNeg)) fun σ76 v77 => gd (inB (x3 + (1 : Int32)) L) (gd (inB (x3 + (2 : Int32)) L) (bd2 (f_X8_peace σ76 (xs ((x3 + (1 : Int32))).toNatClampNeg) (xs ((x3 + (2 : Int32))).toNatClampNeg)) fun σ78 v79 => if v77 = v79 then (f_law_j1051 L xs σ78 x3) else (some (.inr (.inl (σ78, (0 : Int32)))))))))) else if ((xs (x3).toNatClampNeg) &&& (31 : Int32)) = (19 : Int32) then (gd (inB (x3 + (1 : Int32)) L) (gd (inB (x3 + (2 : Int32)) L) (bd2 (f_X7_bread σ (xs ((x3 + (1 : Int32))).toNatClampNeg) (xs ((x3 + (2 : Int32))).toNatClampNeg)) fun σ80 v81 => gd (inB (x3 + (1 : Int32)) L) (gd (inB (x3 + (2 : Int32)) L) (bd2 (f_X8_bread σ80 (xs ((x3 + (1 : Int32))).toNatClampNeg) (xs ((x3 + (2 : Int32))).toNatClampNeg)) fun σ82 v83 => if v81 = v83 then (f_law_j1051 L xs σ82 x3) else (some (.inr (.inl (σ82, (0 : Int32)))))))))) else if ((xs (x3).toNatClampNeg) &&& (31 : Int32)) = (20 : Int32) then (gd (inB (x3 + (1 : Int32)) L) (gd (inB (x3 + (2 : Int32)) L) (bd2 (f_X7_best σ (xs ((x3 + (1 : Int32))).toNatClampNeg) (xs ((x3 + (2 : Int32))).toNatClampNeg)) fun σ84 v85 => gd (inB (x3 + (1 : Int32)) L) (gd (inB (x3 + (2 : Int32)) L) (bd2 (f_X8_best σ84 (xs ((x3 + (1 : Int32))).toNatClampNeg) (xs ((x3 + (2 : Int32))).toNatClampNeg)) fun σ86 v87 => if v85 = v87 then (f_law_j1051 L xs σ86 x3) else (some (.inr (.inl (σ86, (0 : Int32)))))))))) else if ((xs (x3).toNatClampNeg) &&& (31 : Int32)) = (21 : Int32) then (gd (inB (x3 + (1 : Int32)) L) (gd (inB (x3 + (2 : Int32)) L) (gd (inB (x3 + (3 : Int32)) L) (gd (inB (x3 + (4 : Int32)) L) (bd2 (f_X7_tell σ (xs ((x3 + (1 : Int32))).toNatClampNeg) (xs ((x3 + (2 : Int32))).toNatClampNeg) (xs ((x3 + (3 : Int32))).toNatClampNeg) (xs ((x3 + (4 : Int32))).toNatClampNeg)) fun σ88 v89 => gd (inB (x3 + (1 : Int32)) L) (gd (inB (x3 + (2 : Int32)) L) (gd (inB (x3 + (3 : Int32)) L) (gd (inB (x3 + (4 : Int32)) L) (bd2 (f_X8_tell σ88 (xs ((x3 + (1 : Int32))).toNatClampNeg) (xs ((x3 + (2 : Int32))).toNatClampNeg) (xs ((x3 + (3 : Int32))).toNatClampNeg) (xs ((x3 + (4 : Int32))).toNatClampNeg)) fun σ90 v91 => if v89 = v91 then (f_law_j1051 L xs σ90 x3) else (some (.inr (.inl (σ90, (0 : Int32)))))))))))))) else if ((xs (x3).toNatClampNeg) &&& (31 : Int32)) = (22 : Int32) then (gd (inB (x3 + (1 : Int32)) L) (bd2 (f_X7_fits σ (xs ((x3 + (1 : Int32))).toNatClampNeg)) fun σ92 v93 => gd (inB (x3 + (1 : Int32)) L) (bd2 (f_X8_fits σ92 (xs ((x3 + (1 : Int32))).toNatClampNeg)) fun σ94 v95 => if v93 = v95 then (f_law_j1051 L xs σ94 x3) else (some (.inr (.inl (σ94, (0 : Int32)))))))) else if ((xs (x3).toNatClampNeg) &&& (31 : Int32)) = (23 : Int32) then (gd (inB (x3 + (1 : Int32)) L) (gd (inB (x3 + (2 : Int32)) L) (gd (inB (x3 + (3 : Int32)) L) (bd2 (f_X7_write σ (xs ((x3 + (1 : Int32))).toNatClampNeg) (xs ((x3 + (2 : Int32))).toNatClampNeg) (xs ((x3 + (3 : Int32))).toNatClampNeg)) fun σ96 v97 => gd (inB (x3 + (1 : Int32)) L) (gd (inB (x3 + (2 : Int32)) L) (gd (inB (x3 + (3 : Int32)) L) (bd2 (f_X8_write σ96 (xs ((x3 + (1 : Int32))).toNatClampNeg) (xs ((x3 + (2 : Int32))).toNatClampNeg) (xs ((x3 + (3 : Int32))).toNatClampNeg)) fun σ98 v99 => if v97 = v99 then (f_law_j1051 L xs σ98 x3) else (some (.inr (.inl (σ98, (0 : Int32)))))))))))) else if ((xs (x3).toNatClampNeg) &&& (31 : Int32)) = (24 : Int32) then (bd2 (f_X7_tear σ) fun σ100 v101 => bd2 (f_X8_tear σ100) fun σ102 v103 => if v101 = v103 then (f_law_j1051 L xs σ102 x3) else (some (.inr (.inl (σ102, (0 : Int32)))))) else if ((xs (x3).toNatClampNeg) &&& (31 : Int32)) = (25 : Int32) then (bd2 (f_X7_judge σ) fun σ104 v105 => bd2 (f_X8_judge σ104) fun σ106 v107 => if v105 = v107 then (f_law_j1051 L xs σ106 x3) else (some (.inr (.inl (σ106, (0 : Int32)))))) else if ((xs (x3).toNatClampNeg) &&& (31 : Int32)) = (26 : Int32) then (gd (inB (x3 + (1 : Int32)) L) (bd2 (f_X7_seed σ (xs ((x3 + (1 : Int32))).toNatClampNeg)) fun σ108 v109 => gd (inB (x3 + (1 : Int32)) L) (bd2 (f_X8_seed σ108 (xs ((x3 + (1 : Int32))).toNatClampNeg)) fun σ110 v111 => if v109 = v111 then (f_law_j1051 L xs σ110 x3) else (some (.inr (.inl (σ110, (0 : Int32)))))))) else if ((xs (x3).toNatClampNeg) &&& (31 : Int32)) = (27 : Int32) then (gd (inB (x3 + (1 : Int32)) L) (bd2 (f_X7_keep σ (xs ((x3 + (1 : Int32))).toNatClampNeg)) fun σ112 v113 => gd (inB (x3 + (1 : Int32)) L) (bd2 (f_X8_keep σ112 (xs ((x3 + (1 : Int32))).toNatClampNeg)) fun σ114 v115 => if v113 = v115 then (f_law_j1051 L xs σ114 x3) else (some (.inr (.inl (σ114, (0 : Int32)))))))) else if ((xs (x3).toNatClampNeg) &&& (31 : Int32)) = (28 : Int32) then (gd (inB (x3 + (1 : Int32)) L) (bd2 (f_X7_goBack σ (xs ((x3 + (1 : Int32))).toNatClampNeg)) fun σ116 v117 => gd (inB (x3 + (1 : Int32)) L) (bd2 (f_X8_goBack σ116 (xs ((x3 + (1 : Int32))).toNatClampNeg)) fun σ118 v119 => if v117 = v119 then (f_law_j1051 L xs σ118 x3) else (some (.inr (.inl (σ118, (0 : Int32)))))))) else (f_law_j1051 L xs σ x3)))
def f_law (L : Nat) (xs : Nat → Int32) (σ : Sto) : Option (Sto × Int32) :=
  bs (0 : Int32) fun z1 => bR1 (lpF (fun t => f_law_l18 L xs t.1 t.2) FU (σ, z1)) (fun u => some u) (fun σ120 z121 => some (σ120, (1 : Int32)))
theorem w_f_law_j1051 {G : Wld} {X : Cxt} {b L : Nat} {xs : Nat → Int32} (C : Cx G X RL cL_law 4 100) (hXs : Sx X b L xs) {σ : Sto} {x3 : Int32} {y : (Sto × Int32) ⊕ ((Sto × Int32) ⊕ (Sto × Int32))} (h : f_law_j1051 L xs σ x3 = some y) (hc : ∀ t : Sto × Int32, y = .inl t → V G X 4 t.1 [(0, .ref b), (1, .ref (G.1 0)), (2, .ref (G.1 39)), (3, .int t.2)] [] 18) {Ve : (Sto × Int32) ⊕ (Sto × Int32) → Prop} (he : ∀ e, y = .inr e → Ve e) (hr : ∀ (σ : Sto) (v : Int32), Ve (.inl (σ, v)) → Lx X b v) (hx : ∀ (σ : Sto) (x3 : Int32), Ve (.inr (σ, x3)) → V G X 4 σ [(0, .ref b), (1, .ref (G.1 0)), (2, .ref (G.1 39)), (3, .int x3)] [] 1057) : V G X 4 σ [(0, .ref b), (1, .ref (G.1 0)), (2, .ref (G.1 39)), (3, .int x3)] [] 1051 := by
  unfold f_law_j1051 at h
  refine b_iinc 1051 C 3 3 (5 : Int32) (lv2 := fun z7 => [(3, .int z7), (0, .ref b), (1, .ref (G.1 0)), (2, .ref (G.1 39))]) dL_law_1051 rfl (by decide) (by decide) (fun _ => rfl) h (fun z7 h => ?_)
  refine v_goto 1054 C 18 dL_law_1054 (by decide) ?_
  exact v_sub [1, 2, 3, 0] rfl (hc _ (Option.some.inj h).symm)
theorem w_f_law_l18 {G : Wld} {X : Cxt} {b L : Nat} {xs : Nat → Int32} (C : Cx G X RL cL_law 4 100) (hXs : Sx X b L xs) {σ : Sto} {x3 : Int32} {y : (Sto × Int32) ⊕ ((Sto × Int32) ⊕ (Sto × Int32))} (h : f_law_l18 L xs σ x3 = some y) (hc : ∀ t : Sto × Int32, y = .inl t → V G X 4 t.1 [(0, .ref b), (1, .ref (G.1 0)), (2, .ref (G.1 39)), (3, .int t.2)] [] 18) {Ve : (Sto × Int32) ⊕ (Sto × Int32) → Prop} (he : ∀ e, y = .inr e → Ve e) (hr : ∀ (σ : Sto) (v : Int32), Ve (.inl (σ, v)) → Lx X b v) (hx : ∀ (σ : Sto) (x3 : Int32), Ve (.inr (σ, x3)) → V G X 4 σ [(0, .ref b), (1, .ref (G.1 0)), (2, .ref (G.1 39)), (3, .int x3)] [] 1057) : V G X 4 σ [(0, .ref b), (1, .ref (G.1 0)), (2, .ref (G.1 39)), (3, .int x3)] [] 18 := by
  unfold f_law_l18 at h
  refine v_iload_n 18 C 3 3 dL_law_18 rfl rfl ?_
  refine v_aload_n 19 C 0 0 dL_law_19 rfl rfl ?_
  refine v_slen 20 C hXs dL_law_20 ?_
  refine v_iconst 21 C (5 : Int32) dL_law_21 (by decide) ?_
  refine v_isub 22 C dL_law_22 ?_
  refine v_icmp_gt 23 C 1057 dL_law_23 (by decide) h (fun h => ?_) (fun h => ?_)
  · exact v_sub [0, 1, 2, 3] rfl (hx _ _ (he _ (Option.some.inj h).symm))
  · refine v_aload_n 26 C 0 0 dL_law_26 rfl rfl ?_
    refine v_iload_n 27 C 3 3 dL_law_27 rfl rfl ?_
    refine v_sld 28 C hXs dL_law_28 h (fun h => ?_)
    refine v_bipush 29 C (31 : Int32) dL_law_29 (by decide) ?_
    refine v_iand 31 C dL_law_31 ?_
    by_cases c2_0 : ((xs (x3).toNatClampNeg) &&& (31 : Int32)) = (0 : Int32)
    · replace h := it_t h c2_0
      refine v_tableAt 32 C (off := 132) (0 : Int32) 164 c2_0 dL_law_32 (by decide) (by decide) (by decide) (by decide) ?_
      refine v_aload_n 164 C 1 1 dL_law_164 rfl rfl ?_
      refine v_aload_n 165 C 0 0 dL_law_165 rfl rfl ?_
      refine v_iload_n 166 C 3 3 dL_law_166 rfl rfl ?_
      refine v_iconst 167 C (1 : Int32) dL_law_167 (by decide) ?_
      refine v_iadd 168 C dL_law_168 ?_
      refine v_sld 169 C hXs dL_law_169 h (fun h => ?_)
      refine v_aload_n 170 C 0 0 dL_law_170 rfl rfl ?_
      refine v_iload_n 171 C 3 3 dL_law_171 rfl rfl ?_
      refine v_iconst 172 C (2 : Int32) dL_law_172 (by decide) ?_
      refine v_iadd 173 C dL_law_173 ?_
      refine v_sld 174 C hXs dL_law_174 h (fun h => ?_)
      refine v_i2l 175 C dL_law_175 ?_
      refine v_bipush 176 C (32 : Int32) dL_law_176 (by decide) ?_
      refine v_lshl 178 C dL_law_178 ?_
      refine v_aload_n 179 C 0 0 dL_law_179 rfl rfl ?_
      refine v_iload_n 180 C 3 3 dL_law_180 rfl rfl ?_
      refine v_iconst 181 C (3 : Int32) dL_law_181 (by decide) ?_
      refine v_iadd 182 C dL_law_182 ?_
      refine v_sld 183 C hXs dL_law_183 h (fun h => ?_)
      refine v_i2l 184 C dL_law_184 ?_
      refine v_ldc2_w 185 C dL_law_185 q_1234 ?_
      refine v_land 188 C dL_law_188 ?_
      refine v_lor 189 C dL_law_189 ?_
      refine r_f_X7_feed 190 C (by decide) q_319 dL_law_190 (Nat.le_of_ble_eq_true rfl) h (fun σ3 v4 h => ?_)
      refine v_aload_n 193 C 2 2 dL_law_193 rfl rfl ?_
      refine v_aload_n 194 C 0 0 dL_law_194 rfl rfl ?_
      refine v_iload_n 195 C 3 3 dL_law_195 rfl rfl ?_
      refine v_iconst 196 C (1 : Int32) dL_law_196 (by decide) ?_
      refine v_iadd 197 C dL_law_197 ?_
      refine v_sld 198 C hXs dL_law_198 h (fun h => ?_)
      refine v_aload_n 199 C 0 0 dL_law_199 rfl rfl ?_
      refine v_iload_n 200 C 3 3 dL_law_200 rfl rfl ?_
      refine v_iconst 201 C (2 : Int32) dL_law_201 (by decide) ?_
      refine v_iadd 202 C dL_law_202 ?_
      refine v_sld 203 C hXs dL_law_203 h (fun h => ?_)
      refine v_i2l 204 C dL_law_204 ?_
      refine v_bipush 205 C (32 : Int32) dL_law_205 (by decide) ?_
      refine v_lshl 207 C dL_law_207 ?_
      refine v_aload_n 208 C 0 0 dL_law_208 rfl rfl ?_
      refine v_iload_n 209 C 3 3 dL_law_209 rfl rfl ?_
      refine v_iconst 210 C (3 : Int32) dL_law_210 (by decide) ?_
      refine v_iadd 211 C dL_law_211 ?_
      refine v_sld 212 C hXs dL_law_212 h (fun h => ?_)
      refine v_i2l 213 C dL_law_213 ?_
      refine v_ldc2_w 214 C dL_law_214 q_1234 ?_
      refine v_land 217 C dL_law_217 ?_
      refine v_lor 218 C dL_law_218 ?_
      refine r_f_X8_feed 219 C (by decide) q_935 dL_law_219 (Nat.le_of_ble_eq_true rfl) h (fun σ5 v6 h => ?_)
      refine v_icmp_eq 222 C 1051 dL_law_222 (by decide) h (fun h => ?_) (fun h => ?_)
      · exact v_sub [0, 1, 2, 3] rfl (w_f_law_j1051 C hXs h hc he hr hx)
      · refine v_iconst 225 C (0 : Int32) dL_law_225 (by decide) ?_
        exact v_lawret 226 C (hr _ _ (he _ (Option.some.inj h).symm)) dL_law_226
    · replace h := it_f h c2_0
      by_cases c2_1 : ((xs (x3).toNatClampNeg) &&& (31 : Int32)) = (1 : Int32)
      · replace h := it_t h c2_1
        refine v_tableAt 32 C (off := 195) (1 : Int32) 227 c2_1 dL_law_32 (by decide) (by decide) (by decide) (by decide) ?_
        refine v_aload_n 227 C 1 1 dL_law_227 rfl rfl ?_
        refine r_f_X7_square 228 C (by decide) q_330 dL_law_228 (Nat.le_of_ble_eq_true rfl) h (fun σ8 v9 h => ?_)
        refine v_aload_n 231 C 2 2 dL_law_231 rfl rfl ?_
        refine r_f_X8_square 232 C (by decide) q_946 dL_law_232 (Nat.le_of_ble_eq_true rfl) h (fun σ10 v11 h => ?_)
        refine v_icmp_eq 235 C 1051 dL_law_235 (by decide) h (fun h => ?_) (fun h => ?_)
        · exact v_sub [0, 1, 2, 3] rfl (w_f_law_j1051 C hXs h hc he hr hx)
        · refine v_iconst 238 C (0 : Int32) dL_law_238 (by decide) ?_
          exact v_lawret 239 C (hr _ _ (he _ (Option.some.inj h).symm)) dL_law_239
      · replace h := it_f h c2_1
        by_cases c2_2 : ((xs (x3).toNatClampNeg) &&& (31 : Int32)) = (2 : Int32)
        · replace h := it_t h c2_2
          refine v_tableAt 32 C (off := 208) (2 : Int32) 240 c2_2 dL_law_32 (by decide) (by decide) (by decide) (by decide) ?_
          refine v_aload_n 240 C 1 1 dL_law_240 rfl rfl ?_
          refine r_f_X7_fault 241 C (by decide) q_466 dL_law_241 (Nat.le_of_ble_eq_true rfl) h (fun σ12 v13 h => ?_)
          refine v_aload_n 244 C 2 2 dL_law_244 rfl rfl ?_
          refine r_f_X8_fault 245 C (by decide) q_1008 dL_law_245 (Nat.le_of_ble_eq_true rfl) h (fun σ14 v15 h => ?_)
          refine v_icmp_eq 248 C 1051 dL_law_248 (by decide) h (fun h => ?_) (fun h => ?_)
          · exact v_sub [0, 1, 2, 3] rfl (w_f_law_j1051 C hXs h hc he hr hx)
          · refine v_iconst 251 C (0 : Int32) dL_law_251 (by decide) ?_
            exact v_lawret 252 C (hr _ _ (he _ (Option.some.inj h).symm)) dL_law_252
        · replace h := it_f h c2_2
          by_cases c2_3 : ((xs (x3).toNatClampNeg) &&& (31 : Int32)) = (3 : Int32)
          · replace h := it_t h c2_3
            refine v_tableAt 32 C (off := 221) (3 : Int32) 253 c2_3 dL_law_32 (by decide) (by decide) (by decide) (by decide) ?_
            refine v_aload_n 253 C 1 1 dL_law_253 rfl rfl ?_
            refine v_aload_n 254 C 0 0 dL_law_254 rfl rfl ?_
            refine v_iload_n 255 C 3 3 dL_law_255 rfl rfl ?_
            refine v_iconst 256 C (1 : Int32) dL_law_256 (by decide) ?_
            refine v_iadd 257 C dL_law_257 ?_
            refine v_sld 258 C hXs dL_law_258 h (fun h => ?_)
            refine r_f_X7_told 259 C (by decide) q_470 dL_law_259 (Nat.le_of_ble_eq_true rfl) h (fun σ16 v17 h => ?_)
            refine v_aload_n 262 C 2 2 dL_law_262 rfl rfl ?_
            refine v_aload_n 263 C 0 0 dL_law_263 rfl rfl ?_
            refine v_iload_n 264 C 3 3 dL_law_264 rfl rfl ?_
            refine v_iconst 265 C (1 : Int32) dL_law_265 (by decide) ?_
            refine v_iadd 266 C dL_law_266 ?_
            refine v_sld 267 C hXs dL_law_267 h (fun h => ?_)
            refine r_f_X8_told 268 C (by decide) q_1012 dL_law_268 (Nat.le_of_ble_eq_true rfl) h (fun σ18 v19 h => ?_)
            refine v_icmp_eq 271 C 1051 dL_law_271 (by decide) h (fun h => ?_) (fun h => ?_)
            · exact v_sub [0, 1, 2, 3] rfl (w_f_law_j1051 C hXs h hc he hr hx)
            · refine v_iconst 274 C (0 : Int32) dL_law_274 (by decide) ?_
              exact v_lawret 275 C (hr _ _ (he _ (Option.some.inj h).symm)) dL_law_275
          · replace h := it_f h c2_3
            by_cases c2_4 : ((xs (x3).toNatClampNeg) &&& (31 : Int32)) = (4 : Int32)
            · replace h := it_t h c2_4
              refine v_tableAt 32 C (off := 244) (4 : Int32) 276 c2_4 dL_law_32 (by decide) (by decide) (by decide) (by decide) ?_
              refine v_aload_n 276 C 1 1 dL_law_276 rfl rfl ?_
              refine v_aload_n 277 C 0 0 dL_law_277 rfl rfl ?_
              refine v_iload_n 278 C 3 3 dL_law_278 rfl rfl ?_
              refine v_iconst 279 C (1 : Int32) dL_law_279 (by decide) ?_
              refine v_iadd 280 C dL_law_280 ?_
              refine v_sld 281 C hXs dL_law_281 h (fun h => ?_)
              refine v_aload_n 282 C 0 0 dL_law_282 rfl rfl ?_
              refine v_iload_n 283 C 3 3 dL_law_283 rfl rfl ?_
              refine v_iconst 284 C (2 : Int32) dL_law_284 (by decide) ?_
              refine v_iadd 285 C dL_law_285 ?_
              refine v_sld 286 C hXs dL_law_286 h (fun h => ?_)
              refine r_f_X7_bell 287 C (by decide) q_485 dL_law_287 (Nat.le_of_ble_eq_true rfl) h (fun σ20 v21 h => ?_)
              refine v_aload_n 290 C 2 2 dL_law_290 rfl rfl ?_
              refine v_aload_n 291 C 0 0 dL_law_291 rfl rfl ?_
              refine v_iload_n 292 C 3 3 dL_law_292 rfl rfl ?_
              refine v_iconst 293 C (1 : Int32) dL_law_293 (by decide) ?_
              refine v_iadd 294 C dL_law_294 ?_
              refine v_sld 295 C hXs dL_law_295 h (fun h => ?_)
              refine v_aload_n 296 C 0 0 dL_law_296 rfl rfl ?_
              refine v_iload_n 297 C 3 3 dL_law_297 rfl rfl ?_
              refine v_iconst 298 C (2 : Int32) dL_law_298 (by decide) ?_
              refine v_iadd 299 C dL_law_299 ?_
              refine v_sld 300 C hXs dL_law_300 h (fun h => ?_)
              refine r_f_X8_bell 301 C (by decide) q_1016 dL_law_301 (Nat.le_of_ble_eq_true rfl) h (fun σ22 v23 h => ?_)
              refine v_icmp_eq 304 C 1051 dL_law_304 (by decide) h (fun h => ?_) (fun h => ?_)
              · exact v_sub [0, 1, 2, 3] rfl (w_f_law_j1051 C hXs h hc he hr hx)
              · refine v_iconst 307 C (0 : Int32) dL_law_307 (by decide) ?_
                exact v_lawret 308 C (hr _ _ (he _ (Option.some.inj h).symm)) dL_law_308
            · replace h := it_f h c2_4
              by_cases c2_5 : ((xs (x3).toNatClampNeg) &&& (31 : Int32)) = (5 : Int32)
              · replace h := it_t h c2_5
                refine v_tableAt 32 C (off := 277) (5 : Int32) 309 c2_5 dL_law_32 (by decide) (by decide) (by decide) (by decide) ?_
                refine v_aload_n 309 C 1 1 dL_law_309 rfl rfl ?_
                refine v_aload_n 310 C 0 0 dL_law_310 rfl rfl ?_
                refine v_iload_n 311 C 3 3 dL_law_311 rfl rfl ?_
                refine v_iconst 312 C (1 : Int32) dL_law_312 (by decide) ?_
                refine v_iadd 313 C dL_law_313 ?_
                refine v_sld 314 C hXs dL_law_314 h (fun h => ?_)
                refine v_aload_n 315 C 0 0 dL_law_315 rfl rfl ?_
                refine v_iload_n 316 C 3 3 dL_law_316 rfl rfl ?_
                refine v_iconst 317 C (2 : Int32) dL_law_317 (by decide) ?_
                refine v_iadd 318 C dL_law_318 ?_
                refine v_sld 319 C hXs dL_law_319 h (fun h => ?_)
                refine r_f_X7_spot 320 C (by decide) q_503 dL_law_320 (Nat.le_of_ble_eq_true rfl) h (fun σ24 v25 h => ?_)
                refine v_aload_n 323 C 2 2 dL_law_323 rfl rfl ?_
                refine v_aload_n 324 C 0 0 dL_law_324 rfl rfl ?_
                refine v_iload_n 325 C 3 3 dL_law_325 rfl rfl ?_
                refine v_iconst 326 C (1 : Int32) dL_law_326 (by decide) ?_
                refine v_iadd 327 C dL_law_327 ?_
                refine v_sld 328 C hXs dL_law_328 h (fun h => ?_)
                refine v_aload_n 329 C 0 0 dL_law_329 rfl rfl ?_
                refine v_iload_n 330 C 3 3 dL_law_330 rfl rfl ?_
                refine v_iconst 331 C (2 : Int32) dL_law_331 (by decide) ?_
                refine v_iadd 332 C dL_law_332 ?_
                refine v_sld 333 C hXs dL_law_333 h (fun h => ?_)
                refine r_f_X8_spot 334 C (by decide) q_1030 dL_law_334 (Nat.le_of_ble_eq_true rfl) h (fun σ26 v27 h => ?_)
                refine v_icmp_eq 337 C 1051 dL_law_337 (by decide) h (fun h => ?_) (fun h => ?_)
                · exact v_sub [0, 1, 2, 3] rfl (w_f_law_j1051 C hXs h hc he hr hx)
                · refine v_iconst 340 C (0 : Int32) dL_law_340 (by decide) ?_
                  exact v_lawret 341 C (hr _ _ (he _ (Option.some.inj h).symm)) dL_law_341
              · replace h := it_f h c2_5
                by_cases c2_6 : ((xs (x3).toNatClampNeg) &&& (31 : Int32)) = (6 : Int32)
                · replace h := it_t h c2_6
                  refine v_tableAt 32 C (off := 310) (6 : Int32) 342 c2_6 dL_law_32 (by decide) (by decide) (by decide) (by decide) ?_
                  refine v_aload_n 342 C 1 1 dL_law_342 rfl rfl ?_
                  refine v_aload_n 343 C 0 0 dL_law_343 rfl rfl ?_
                  refine v_iload_n 344 C 3 3 dL_law_344 rfl rfl ?_
                  refine v_iconst 345 C (1 : Int32) dL_law_345 (by decide) ?_
                  refine v_iadd 346 C dL_law_346 ?_
                  refine v_sld 347 C hXs dL_law_347 h (fun h => ?_)
                  refine v_aload_n 348 C 0 0 dL_law_348 rfl rfl ?_
                  refine v_iload_n 349 C 3 3 dL_law_349 rfl rfl ?_
                  refine v_iconst 350 C (2 : Int32) dL_law_350 (by decide) ?_
                  refine v_iadd 351 C dL_law_351 ?_
                  refine v_sld 352 C hXs dL_law_352 h (fun h => ?_)
                  refine r_f_X7_beggar 353 C (by decide) q_512 dL_law_353 (Nat.le_of_ble_eq_true rfl) h (fun σ28 v29 h => ?_)
                  refine v_aload_n 356 C 2 2 dL_law_356 rfl rfl ?_
                  refine v_aload_n 357 C 0 0 dL_law_357 rfl rfl ?_
                  refine v_iload_n 358 C 3 3 dL_law_358 rfl rfl ?_
                  refine v_iconst 359 C (1 : Int32) dL_law_359 (by decide) ?_
                  refine v_iadd 360 C dL_law_360 ?_
                  refine v_sld 361 C hXs dL_law_361 h (fun h => ?_)
                  refine v_aload_n 362 C 0 0 dL_law_362 rfl rfl ?_
                  refine v_iload_n 363 C 3 3 dL_law_363 rfl rfl ?_
                  refine v_iconst 364 C (2 : Int32) dL_law_364 (by decide) ?_
                  refine v_iadd 365 C dL_law_365 ?_
                  refine v_sld 366 C hXs dL_law_366 h (fun h => ?_)
                  refine r_f_X8_beggar 367 C (by decide) q_1042 dL_law_367 (Nat.le_of_ble_eq_true rfl) h (fun σ30 v31 h => ?_)
                  refine v_icmp_eq 370 C 1051 dL_law_370 (by decide) h (fun h => ?_) (fun h => ?_)
                  · exact v_sub [0, 1, 2, 3] rfl (w_f_law_j1051 C hXs h hc he hr hx)
                  · refine v_iconst 373 C (0 : Int32) dL_law_373 (by decide) ?_
                    exact v_lawret 374 C (hr _ _ (he _ (Option.some.inj h).symm)) dL_law_374
                · replace h := it_f h c2_6
                  by_cases c2_7 : ((xs (x3).toNatClampNeg) &&& (31 : Int32)) = (7 : Int32)
                  · replace h := it_t h c2_7
                    refine v_tableAt 32 C (off := 343) (7 : Int32) 375 c2_7 dL_law_32 (by decide) (by decide) (by decide) (by decide) ?_
                    refine v_aload_n 375 C 1 1 dL_law_375 rfl rfl ?_
                    refine v_aload_n 376 C 0 0 dL_law_376 rfl rfl ?_
                    refine v_iload_n 377 C 3 3 dL_law_377 rfl rfl ?_
                    refine v_iconst 378 C (1 : Int32) dL_law_378 (by decide) ?_
                    refine v_iadd 379 C dL_law_379 ?_
                    refine v_sld 380 C hXs dL_law_380 h (fun h => ?_)
                    refine v_aload_n 381 C 0 0 dL_law_381 rfl rfl ?_
                    refine v_iload_n 382 C 3 3 dL_law_382 rfl rfl ?_
                    refine v_iconst 383 C (2 : Int32) dL_law_383 (by decide) ?_
                    refine v_iadd 384 C dL_law_384 ?_
                    refine v_sld 385 C hXs dL_law_385 h (fun h => ?_)
                    refine r_f_X7_hat 386 C (by decide) q_524 dL_law_386 (Nat.le_of_ble_eq_true rfl) h (fun σ32 v33 h => ?_)
                    refine v_aload_n 389 C 2 2 dL_law_389 rfl rfl ?_
                    refine v_aload_n 390 C 0 0 dL_law_390 rfl rfl ?_
                    refine v_iload_n 391 C 3 3 dL_law_391 rfl rfl ?_
                    refine v_iconst 392 C (1 : Int32) dL_law_392 (by decide) ?_
                    refine v_iadd 393 C dL_law_393 ?_
                    refine v_sld 394 C hXs dL_law_394 h (fun h => ?_)
                    refine v_aload_n 395 C 0 0 dL_law_395 rfl rfl ?_
                    refine v_iload_n 396 C 3 3 dL_law_396 rfl rfl ?_
                    refine v_iconst 397 C (2 : Int32) dL_law_397 (by decide) ?_
                    refine v_iadd 398 C dL_law_398 ?_
                    refine v_sld 399 C hXs dL_law_399 h (fun h => ?_)
                    refine r_f_X8_hat 400 C (by decide) q_1054 dL_law_400 (Nat.le_of_ble_eq_true rfl) h (fun σ34 v35 h => ?_)
                    refine v_icmp_eq 403 C 1051 dL_law_403 (by decide) h (fun h => ?_) (fun h => ?_)
                    · exact v_sub [0, 1, 2, 3] rfl (w_f_law_j1051 C hXs h hc he hr hx)
                    · refine v_iconst 406 C (0 : Int32) dL_law_406 (by decide) ?_
                      exact v_lawret 407 C (hr _ _ (he _ (Option.some.inj h).symm)) dL_law_407
                  · replace h := it_f h c2_7
                    by_cases c2_8 : ((xs (x3).toNatClampNeg) &&& (31 : Int32)) = (8 : Int32)
                    · replace h := it_t h c2_8
                      refine v_tableAt 32 C (off := 376) (8 : Int32) 408 c2_8 dL_law_32 (by decide) (by decide) (by decide) (by decide) ?_
                      refine v_aload_n 408 C 1 1 dL_law_408 rfl rfl ?_
                      refine v_aload_n 409 C 0 0 dL_law_409 rfl rfl ?_
                      refine v_iload_n 410 C 3 3 dL_law_410 rfl rfl ?_
                      refine v_iconst 411 C (1 : Int32) dL_law_411 (by decide) ?_
                      refine v_iadd 412 C dL_law_412 ?_
                      refine v_sld 413 C hXs dL_law_413 h (fun h => ?_)
                      refine v_aload_n 414 C 0 0 dL_law_414 rfl rfl ?_
                      refine v_iload_n 415 C 3 3 dL_law_415 rfl rfl ?_
                      refine v_iconst 416 C (2 : Int32) dL_law_416 (by decide) ?_
                      refine v_iadd 417 C dL_law_417 ?_
                      refine v_sld 418 C hXs dL_law_418 h (fun h => ?_)
                      refine v_aload_n 419 C 0 0 dL_law_419 rfl rfl ?_
                      refine v_iload_n 420 C 3 3 dL_law_420 rfl rfl ?_
                      refine v_iconst 421 C (3 : Int32) dL_law_421 (by decide) ?_
                      refine v_iadd 422 C dL_law_422 ?_
                      refine v_sld 423 C hXs dL_law_423 h (fun h => ?_)
                      refine r_f_X7_shadow 424 C (by decide) q_528 dL_law_424 (Nat.le_of_ble_eq_true rfl) h (fun σ36 v37 h => ?_)
                      refine v_aload_n 427 C 2 2 dL_law_427 rfl rfl ?_
                      refine v_aload_n 428 C 0 0 dL_law_428 rfl rfl ?_
                      refine v_iload_n 429 C 3 3 dL_law_429 rfl rfl ?_
                      refine v_iconst 430 C (1 : Int32) dL_law_430 (by decide) ?_
                      refine v_iadd 431 C dL_law_431 ?_
                      refine v_sld 432 C hXs dL_law_432 h (fun h => ?_)
                      refine v_aload_n 433 C 0 0 dL_law_433 rfl rfl ?_
                      refine v_iload_n 434 C 3 3 dL_law_434 rfl rfl ?_
                      refine v_iconst 435 C (2 : Int32) dL_law_435 (by decide) ?_
                      refine v_iadd 436 C dL_law_436 ?_
                      refine v_sld 437 C hXs dL_law_437 h (fun h => ?_)
                      refine v_aload_n 438 C 0 0 dL_law_438 rfl rfl ?_
                      refine v_iload_n 439 C 3 3 dL_law_439 rfl rfl ?_
                      refine v_iconst 440 C (3 : Int32) dL_law_440 (by decide) ?_
                      refine v_iadd 441 C dL_law_441 ?_
                      refine v_sld 442 C hXs dL_law_442 h (fun h => ?_)
                      refine r_f_X8_shadow 443 C (by decide) q_1066 dL_law_443 (Nat.le_of_ble_eq_true rfl) h (fun σ38 v39 h => ?_)
                      refine v_icmp_eq 446 C 1051 dL_law_446 (by decide) h (fun h => ?_) (fun h => ?_)
                      · exact v_sub [0, 1, 2, 3] rfl (w_f_law_j1051 C hXs h hc he hr hx)
                      · refine v_iconst 449 C (0 : Int32) dL_law_449 (by decide) ?_
                        exact v_lawret 450 C (hr _ _ (he _ (Option.some.inj h).symm)) dL_law_450
                    · replace h := it_f h c2_8
                      by_cases c2_9 : ((xs (x3).toNatClampNeg) &&& (31 : Int32)) = (9 : Int32)
                      · replace h := it_t h c2_9
                        refine v_tableAt 32 C (off := 419) (9 : Int32) 451 c2_9 dL_law_32 (by decide) (by decide) (by decide) (by decide) ?_
                        refine v_aload_n 451 C 1 1 dL_law_451 rfl rfl ?_
                        refine v_aload_n 452 C 0 0 dL_law_452 rfl rfl ?_
                        refine v_iload_n 453 C 3 3 dL_law_453 rfl rfl ?_
                        refine v_iconst 454 C (1 : Int32) dL_law_454 (by decide) ?_
                        refine v_iadd 455 C dL_law_455 ?_
                        refine v_sld 456 C hXs dL_law_456 h (fun h => ?_)
                        refine v_aload_n 457 C 0 0 dL_law_457 rfl rfl ?_
                        refine v_iload_n 458 C 3 3 dL_law_458 rfl rfl ?_
                        refine v_iconst 459 C (2 : Int32) dL_law_459 (by decide) ?_
                        refine v_iadd 460 C dL_law_460 ?_
                        refine v_sld 461 C hXs dL_law_461 h (fun h => ?_)
                        refine r_f_X7_go 462 C (by decide) q_577 dL_law_462 (Nat.le_of_ble_eq_true rfl) h (fun σ40 v41 h => ?_)
                        refine v_aload_n 465 C 2 2 dL_law_465 rfl rfl ?_
                        refine v_aload_n 466 C 0 0 dL_law_466 rfl rfl ?_
                        refine v_iload_n 467 C 3 3 dL_law_467 rfl rfl ?_
                        refine v_iconst 468 C (1 : Int32) dL_law_468 (by decide) ?_
                        refine v_iadd 469 C dL_law_469 ?_
                        refine v_sld 470 C hXs dL_law_470 h (fun h => ?_)
                        refine v_aload_n 471 C 0 0 dL_law_471 rfl rfl ?_
                        refine v_iload_n 472 C 3 3 dL_law_472 rfl rfl ?_
                        refine v_iconst 473 C (2 : Int32) dL_law_473 (by decide) ?_
                        refine v_iadd 474 C dL_law_474 ?_
                        refine v_sld 475 C hXs dL_law_475 h (fun h => ?_)
                        refine r_f_X8_go 476 C (by decide) q_1094 dL_law_476 (Nat.le_of_ble_eq_true rfl) h (fun σ42 v43 h => ?_)
                        refine v_icmp_eq 479 C 1051 dL_law_479 (by decide) h (fun h => ?_) (fun h => ?_)
                        · exact v_sub [0, 1, 2, 3] rfl (w_f_law_j1051 C hXs h hc he hr hx)
                        · refine v_iconst 482 C (0 : Int32) dL_law_482 (by decide) ?_
                          exact v_lawret 483 C (hr _ _ (he _ (Option.some.inj h).symm)) dL_law_483
                      · replace h := it_f h c2_9
                        by_cases c2_10 : ((xs (x3).toNatClampNeg) &&& (31 : Int32)) = (10 : Int32)
                        · replace h := it_t h c2_10
                          refine v_tableAt 32 C (off := 452) (10 : Int32) 484 c2_10 dL_law_32 (by decide) (by decide) (by decide) (by decide) ?_
                          refine v_aload_n 484 C 1 1 dL_law_484 rfl rfl ?_
                          refine v_aload_n 485 C 0 0 dL_law_485 rfl rfl ?_
                          refine v_iload_n 486 C 3 3 dL_law_486 rfl rfl ?_
                          refine v_iconst 487 C (1 : Int32) dL_law_487 (by decide) ?_
                          refine v_iadd 488 C dL_law_488 ?_
                          refine v_sld 489 C hXs dL_law_489 h (fun h => ?_)
                          refine v_aload_n 490 C 0 0 dL_law_490 rfl rfl ?_
                          refine v_iload_n 491 C 3 3 dL_law_491 rfl rfl ?_
                          refine v_iconst 492 C (2 : Int32) dL_law_492 (by decide) ?_
                          refine v_iadd 493 C dL_law_493 ?_
                          refine v_sld 494 C hXs dL_law_494 h (fun h => ?_)
                          refine r_f_X7_lend 495 C (by decide) q_582 dL_law_495 (Nat.le_of_ble_eq_true rfl) h (fun σ44 v45 h => ?_)
                          refine v_aload_n 498 C 2 2 dL_law_498 rfl rfl ?_
                          refine v_aload_n 499 C 0 0 dL_law_499 rfl rfl ?_
                          refine v_iload_n 500 C 3 3 dL_law_500 rfl rfl ?_
                          refine v_iconst 501 C (1 : Int32) dL_law_501 (by decide) ?_
                          refine v_iadd 502 C dL_law_502 ?_
                          refine v_sld 503 C hXs dL_law_503 h (fun h => ?_)
                          refine v_aload_n 504 C 0 0 dL_law_504 rfl rfl ?_
                          refine v_iload_n 505 C 3 3 dL_law_505 rfl rfl ?_
                          refine v_iconst 506 C (2 : Int32) dL_law_506 (by decide) ?_
                          refine v_iadd 507 C dL_law_507 ?_
                          refine v_sld 508 C hXs dL_law_508 h (fun h => ?_)
                          refine r_f_X8_lend 509 C (by decide) q_1099 dL_law_509 (Nat.le_of_ble_eq_true rfl) h (fun σ46 v47 h => ?_)
                          refine v_icmp_eq 512 C 1051 dL_law_512 (by decide) h (fun h => ?_) (fun h => ?_)
                          · exact v_sub [0, 1, 2, 3] rfl (w_f_law_j1051 C hXs h hc he hr hx)
                          · refine v_iconst 515 C (0 : Int32) dL_law_515 (by decide) ?_
                            exact v_lawret 516 C (hr _ _ (he _ (Option.some.inj h).symm)) dL_law_516
                        · replace h := it_f h c2_10
                          by_cases c2_11 : ((xs (x3).toNatClampNeg) &&& (31 : Int32)) = (11 : Int32)
                          · replace h := it_t h c2_11
                            refine v_tableAt 32 C (off := 485) (11 : Int32) 517 c2_11 dL_law_32 (by decide) (by decide) (by decide) (by decide) ?_
                            refine v_aload_n 517 C 1 1 dL_law_517 rfl rfl ?_
                            refine v_aload_n 518 C 0 0 dL_law_518 rfl rfl ?_
                            refine v_iload_n 519 C 3 3 dL_law_519 rfl rfl ?_
                            refine v_iconst 520 C (1 : Int32) dL_law_520 (by decide) ?_
                            refine v_iadd 521 C dL_law_521 ?_
                            refine v_sld 522 C hXs dL_law_522 h (fun h => ?_)
                            refine r_f_X7_law 523 C (by decide) q_586 dL_law_523 (Nat.le_of_ble_eq_true rfl) h (fun σ48 v49 h => ?_)
                            refine v_aload_n 526 C 2 2 dL_law_526 rfl rfl ?_
                            refine v_aload_n 527 C 0 0 dL_law_527 rfl rfl ?_
                            refine v_iload_n 528 C 3 3 dL_law_528 rfl rfl ?_
                            refine v_iconst 529 C (1 : Int32) dL_law_529 (by decide) ?_
                            refine v_iadd 530 C dL_law_530 ?_
                            refine v_sld 531 C hXs dL_law_531 h (fun h => ?_)
                            refine r_f_X8_law 532 C (by decide) q_1103 dL_law_532 (Nat.le_of_ble_eq_true rfl) h (fun σ50 v51 h => ?_)
                            refine v_icmp_eq 535 C 1051 dL_law_535 (by decide) h (fun h => ?_) (fun h => ?_)
                            · exact v_sub [0, 1, 2, 3] rfl (w_f_law_j1051 C hXs h hc he hr hx)
                            · refine v_iconst 538 C (0 : Int32) dL_law_538 (by decide) ?_
                              exact v_lawret 539 C (hr _ _ (he _ (Option.some.inj h).symm)) dL_law_539
                          · replace h := it_f h c2_11
                            by_cases c2_12 : ((xs (x3).toNatClampNeg) &&& (31 : Int32)) = (12 : Int32)
                            · replace h := it_t h c2_12
                              refine v_tableAt 32 C (off := 508) (12 : Int32) 540 c2_12 dL_law_32 (by decide) (by decide) (by decide) (by decide) ?_
                              refine v_aload_n 540 C 1 1 dL_law_540 rfl rfl ?_
                              refine v_aload_n 541 C 0 0 dL_law_541 rfl rfl ?_
                              refine v_iload_n 542 C 3 3 dL_law_542 rfl rfl ?_
                              refine v_iconst 543 C (1 : Int32) dL_law_543 (by decide) ?_
                              refine v_iadd 544 C dL_law_544 ?_
                              refine v_sld 545 C hXs dL_law_545 h (fun h => ?_)
                              refine r_f_X7_ring 546 C (by decide) q_590 dL_law_546 (Nat.le_of_ble_eq_true rfl) h (fun σ52 v53 h => ?_)
                              refine v_aload_n 549 C 2 2 dL_law_549 rfl rfl ?_
                              refine v_aload_n 550 C 0 0 dL_law_550 rfl rfl ?_
                              refine v_iload_n 551 C 3 3 dL_law_551 rfl rfl ?_
                              refine v_iconst 552 C (1 : Int32) dL_law_552 (by decide) ?_
                              refine v_iadd 553 C dL_law_553 ?_
                              refine v_sld 554 C hXs dL_law_554 h (fun h => ?_)
                              refine r_f_X8_ring 555 C (by decide) q_1108 dL_law_555 (Nat.le_of_ble_eq_true rfl) h (fun σ54 v55 h => ?_)
                              refine v_icmp_eq 558 C 1051 dL_law_558 (by decide) h (fun h => ?_) (fun h => ?_)
                              · exact v_sub [0, 1, 2, 3] rfl (w_f_law_j1051 C hXs h hc he hr hx)
                              · refine v_iconst 561 C (0 : Int32) dL_law_561 (by decide) ?_
                                exact v_lawret 562 C (hr _ _ (he _ (Option.some.inj h).symm)) dL_law_562
                            · replace h := it_f h c2_12
                              by_cases c2_13 : ((xs (x3).toNatClampNeg) &&& (31 : Int32)) = (13 : Int32)
                              · replace h := it_t h c2_13
                                refine v_tableAt 32 C (off := 531) (13 : Int32) 563 c2_13 dL_law_32 (by decide) (by decide) (by decide) (by decide) ?_
                                refine v_aload_n 563 C 1 1 dL_law_563 rfl rfl ?_
                                refine v_aload_n 564 C 0 0 dL_law_564 rfl rfl ?_
                                refine v_iload_n 565 C 3 3 dL_law_565 rfl rfl ?_
                                refine v_iconst 566 C (1 : Int32) dL_law_566 (by decide) ?_
                                refine v_iadd 567 C dL_law_567 ?_
                                refine v_sld 568 C hXs dL_law_568 h (fun h => ?_)
                                refine r_f_X7_day 569 C (by decide) q_600 dL_law_569 (Nat.le_of_ble_eq_true rfl) h (fun σ56 v57 h => ?_)
                                refine v_aload_n 572 C 2 2 dL_law_572 rfl rfl ?_
                                refine v_aload_n 573 C 0 0 dL_law_573 rfl rfl ?_
                                refine v_iload_n 574 C 3 3 dL_law_574 rfl rfl ?_
                                refine v_iconst 575 C (1 : Int32) dL_law_575 (by decide) ?_
                                refine v_iadd 576 C dL_law_576 ?_
                                refine v_sld 577 C hXs dL_law_577 h (fun h => ?_)
                                refine r_f_X8_day 578 C (by decide) q_1120 dL_law_578 (Nat.le_of_ble_eq_true rfl) h (fun σ58 v59 h => ?_)
                                refine v_icmp_eq 581 C 1051 dL_law_581 (by decide) h (fun h => ?_) (fun h => ?_)
                                · exact v_sub [0, 1, 2, 3] rfl (w_f_law_j1051 C hXs h hc he hr hx)
                                · refine v_iconst 584 C (0 : Int32) dL_law_584 (by decide) ?_
                                  exact v_lawret 585 C (hr _ _ (he _ (Option.some.inj h).symm)) dL_law_585
                              · replace h := it_f h c2_13
                                by_cases c2_14 : ((xs (x3).toNatClampNeg) &&& (31 : Int32)) = (14 : Int32)
                                · replace h := it_t h c2_14
                                  refine v_tableAt 32 C (off := 554) (14 : Int32) 586 c2_14 dL_law_32 (by decide) (by decide) (by decide) (by decide) ?_
                                  refine v_aload_n 586 C 1 1 dL_law_586 rfl rfl ?_
                                  refine v_aload_n 587 C 0 0 dL_law_587 rfl rfl ?_
                                  refine v_iload_n 588 C 3 3 dL_law_588 rfl rfl ?_
                                  refine v_iconst 589 C (1 : Int32) dL_law_589 (by decide) ?_
                                  refine v_iadd 590 C dL_law_590 ?_
                                  refine v_sld 591 C hXs dL_law_591 h (fun h => ?_)
                                  refine r_f_X7_drift 592 C (by decide) q_604 dL_law_592 (Nat.le_of_ble_eq_true rfl) h (fun σ60 v61 h => ?_)
                                  refine v_aload_n 595 C 2 2 dL_law_595 rfl rfl ?_
                                  refine v_aload_n 596 C 0 0 dL_law_596 rfl rfl ?_
                                  refine v_iload_n 597 C 3 3 dL_law_597 rfl rfl ?_
                                  refine v_iconst 598 C (1 : Int32) dL_law_598 (by decide) ?_
                                  refine v_iadd 599 C dL_law_599 ?_
                                  refine v_sld 600 C hXs dL_law_600 h (fun h => ?_)
                                  refine r_f_X8_drift 601 C (by decide) q_1125 dL_law_601 (Nat.le_of_ble_eq_true rfl) h (fun σ62 v63 h => ?_)
                                  refine v_icmp_eq 604 C 1051 dL_law_604 (by decide) h (fun h => ?_) (fun h => ?_)
                                  · exact v_sub [0, 1, 2, 3] rfl (w_f_law_j1051 C hXs h hc he hr hx)
                                  · refine v_iconst 607 C (0 : Int32) dL_law_607 (by decide) ?_
                                    exact v_lawret 608 C (hr _ _ (he _ (Option.some.inj h).symm)) dL_law_608
                                · replace h := it_f h c2_14
                                  by_cases c2_15 : ((xs (x3).toNatClampNeg) &&& (31 : Int32)) = (15 : Int32)
                                  · replace h := it_t h c2_15
                                    refine v_tableAt 32 C (off := 577) (15 : Int32) 609 c2_15 dL_law_32 (by decide) (by decide) (by decide) (by decide) ?_
                                    refine v_aload_n 609 C 1 1 dL_law_609 rfl rfl ?_
                                    refine v_aload_n 610 C 0 0 dL_law_610 rfl rfl ?_
                                    refine v_iload_n 611 C 3 3 dL_law_611 rfl rfl ?_
                                    refine v_iconst 612 C (1 : Int32) dL_law_612 (by decide) ?_
                                    refine v_iadd 613 C dL_law_613 ?_
                                    refine v_sld 614 C hXs dL_law_614 h (fun h => ?_)
                                    refine v_aload_n 615 C 0 0 dL_law_615 rfl rfl ?_
                                    refine v_iload_n 616 C 3 3 dL_law_616 rfl rfl ?_
                                    refine v_iconst 617 C (2 : Int32) dL_law_617 (by decide) ?_
                                    refine v_iadd 618 C dL_law_618 ?_
                                    refine v_sld 619 C hXs dL_law_619 h (fun h => ?_)
                                    refine v_aload_n 620 C 0 0 dL_law_620 rfl rfl ?_
                                    refine v_iload_n 621 C 3 3 dL_law_621 rfl rfl ?_
                                    refine v_iconst 622 C (3 : Int32) dL_law_622 (by decide) ?_
                                    refine v_iadd 623 C dL_law_623 ?_
                                    refine v_sld 624 C hXs dL_law_624 h (fun h => ?_)
                                    refine r_f_X7_standing 625 C (by decide) q_620 dL_law_625 (Nat.le_of_ble_eq_true rfl) h (fun σ64 v65 h => ?_)
                                    refine v_aload_n 628 C 2 2 dL_law_628 rfl rfl ?_
                                    refine v_aload_n 629 C 0 0 dL_law_629 rfl rfl ?_
                                    refine v_iload_n 630 C 3 3 dL_law_630 rfl rfl ?_
                                    refine v_iconst 631 C (1 : Int32) dL_law_631 (by decide) ?_
                                    refine v_iadd 632 C dL_law_632 ?_
                                    refine v_sld 633 C hXs dL_law_633 h (fun h => ?_)
                                    refine v_aload_n 634 C 0 0 dL_law_634 rfl rfl ?_
                                    refine v_iload_n 635 C 3 3 dL_law_635 rfl rfl ?_
                                    refine v_iconst 636 C (2 : Int32) dL_law_636 (by decide) ?_
                                    refine v_iadd 637 C dL_law_637 ?_
                                    refine v_sld 638 C hXs dL_law_638 h (fun h => ?_)
                                    refine v_aload_n 639 C 0 0 dL_law_639 rfl rfl ?_
                                    refine v_iload_n 640 C 3 3 dL_law_640 rfl rfl ?_
                                    refine v_iconst 641 C (3 : Int32) dL_law_641 (by decide) ?_
                                    refine v_iadd 642 C dL_law_642 ?_
                                    refine v_sld 643 C hXs dL_law_643 h (fun h => ?_)
                                    refine r_f_X8_standing 644 C (by decide) q_1141 dL_law_644 (Nat.le_of_ble_eq_true rfl) h (fun σ66 v67 h => ?_)
                                    refine v_icmp_eq 647 C 1051 dL_law_647 (by decide) h (fun h => ?_) (fun h => ?_)
                                    · exact v_sub [0, 1, 2, 3] rfl (w_f_law_j1051 C hXs h hc he hr hx)
                                    · refine v_iconst 650 C (0 : Int32) dL_law_650 (by decide) ?_
                                      exact v_lawret 651 C (hr _ _ (he _ (Option.some.inj h).symm)) dL_law_651
                                  · replace h := it_f h c2_15
                                    by_cases c2_16 : ((xs (x3).toNatClampNeg) &&& (31 : Int32)) = (16 : Int32)
                                    · replace h := it_t h c2_16
                                      refine v_tableAt 32 C (off := 620) (16 : Int32) 652 c2_16 dL_law_32 (by decide) (by decide) (by decide) (by decide) ?_
                                      refine v_aload_n 652 C 1 1 dL_law_652 rfl rfl ?_
                                      refine v_aload_n 653 C 0 0 dL_law_653 rfl rfl ?_
                                      refine v_iload_n 654 C 3 3 dL_law_654 rfl rfl ?_
                                      refine v_iconst 655 C (1 : Int32) dL_law_655 (by decide) ?_
                                      refine v_iadd 656 C dL_law_656 ?_
                                      refine v_sld 657 C hXs dL_law_657 h (fun h => ?_)
                                      refine v_aload_n 658 C 0 0 dL_law_658 rfl rfl ?_
                                      refine v_iload_n 659 C 3 3 dL_law_659 rfl rfl ?_
                                      refine v_iconst 660 C (2 : Int32) dL_law_660 (by decide) ?_
                                      refine v_iadd 661 C dL_law_661 ?_
                                      refine v_sld 662 C hXs dL_law_662 h (fun h => ?_)
                                      refine r_f_X7_hats 663 C (by decide) q_645 dL_law_663 (Nat.le_of_ble_eq_true rfl) h (fun σ68 v69 h => ?_)
                                      refine v_aload_n 666 C 2 2 dL_law_666 rfl rfl ?_
                                      refine v_aload_n 667 C 0 0 dL_law_667 rfl rfl ?_
                                      refine v_iload_n 668 C 3 3 dL_law_668 rfl rfl ?_
                                      refine v_iconst 669 C (1 : Int32) dL_law_669 (by decide) ?_
                                      refine v_iadd 670 C dL_law_670 ?_
                                      refine v_sld 671 C hXs dL_law_671 h (fun h => ?_)
                                      refine v_aload_n 672 C 0 0 dL_law_672 rfl rfl ?_
                                      refine v_iload_n 673 C 3 3 dL_law_673 rfl rfl ?_
                                      refine v_iconst 674 C (2 : Int32) dL_law_674 (by decide) ?_
                                      refine v_iadd 675 C dL_law_675 ?_
                                      refine v_sld 676 C hXs dL_law_676 h (fun h => ?_)
                                      refine r_f_X8_hats 677 C (by decide) q_1166 dL_law_677 (Nat.le_of_ble_eq_true rfl) h (fun σ70 v71 h => ?_)
                                      refine v_icmp_eq 680 C 1051 dL_law_680 (by decide) h (fun h => ?_) (fun h => ?_)
                                      · exact v_sub [0, 1, 2, 3] rfl (w_f_law_j1051 C hXs h hc he hr hx)
                                      · refine v_iconst 683 C (0 : Int32) dL_law_683 (by decide) ?_
                                        exact v_lawret 684 C (hr _ _ (he _ (Option.some.inj h).symm)) dL_law_684
                                    · replace h := it_f h c2_16
                                      by_cases c2_17 : ((xs (x3).toNatClampNeg) &&& (31 : Int32)) = (17 : Int32)
                                      · replace h := it_t h c2_17
                                        refine v_tableAt 32 C (off := 653) (17 : Int32) 685 c2_17 dL_law_32 (by decide) (by decide) (by decide) (by decide) ?_
                                        refine v_aload_n 685 C 1 1 dL_law_685 rfl rfl ?_
                                        refine v_aload_n 686 C 0 0 dL_law_686 rfl rfl ?_
                                        refine v_iload_n 687 C 3 3 dL_law_687 rfl rfl ?_
                                        refine v_iconst 688 C (1 : Int32) dL_law_688 (by decide) ?_
                                        refine v_iadd 689 C dL_law_689 ?_
                                        refine v_sld 690 C hXs dL_law_690 h (fun h => ?_)
                                        refine v_aload_n 691 C 0 0 dL_law_691 rfl rfl ?_
                                        refine v_iload_n 692 C 3 3 dL_law_692 rfl rfl ?_
                                        refine v_iconst 693 C (2 : Int32) dL_law_693 (by decide) ?_
                                        refine v_iadd 694 C dL_law_694 ?_
                                        refine v_sld 695 C hXs dL_law_695 h (fun h => ?_)
                                        refine v_aload_n 696 C 0 0 dL_law_696 rfl rfl ?_
                                        refine v_iload_n 697 C 3 3 dL_law_697 rfl rfl ?_
                                        refine v_iconst 698 C (3 : Int32) dL_law_698 (by decide) ?_
                                        refine v_iadd 699 C dL_law_699 ?_
                                        refine v_sld 700 C hXs dL_law_700 h (fun h => ?_)
                                        refine v_aload_n 701 C 0 0 dL_law_701 rfl rfl ?_
                                        refine v_iload_n 702 C 3 3 dL_law_702 rfl rfl ?_
                                        refine v_iconst 703 C (4 : Int32) dL_law_703 (by decide) ?_
                                        refine v_iadd 704 C dL_law_704 ?_
                                        refine v_sld 705 C hXs dL_law_705 h (fun h => ?_)
                                        refine r_f_X7_giant 706 C (by decide) q_670 dL_law_706 (Nat.le_of_ble_eq_true rfl) h (fun σ72 v73 h => ?_)
                                        refine v_aload_n 709 C 2 2 dL_law_709 rfl rfl ?_
                                        refine v_aload_n 710 C 0 0 dL_law_710 rfl rfl ?_
                                        refine v_iload_n 711 C 3 3 dL_law_711 rfl rfl ?_
                                        refine v_iconst 712 C (1 : Int32) dL_law_712 (by decide) ?_
                                        refine v_iadd 713 C dL_law_713 ?_
                                        refine v_sld 714 C hXs dL_law_714 h (fun h => ?_)
                                        refine v_aload_n 715 C 0 0 dL_law_715 rfl rfl ?_
                                        refine v_iload_n 716 C 3 3 dL_law_716 rfl rfl ?_
                                        refine v_iconst 717 C (2 : Int32) dL_law_717 (by decide) ?_
                                        refine v_iadd 718 C dL_law_718 ?_
                                        refine v_sld 719 C hXs dL_law_719 h (fun h => ?_)
                                        refine v_aload_n 720 C 0 0 dL_law_720 rfl rfl ?_
                                        refine v_iload_n 721 C 3 3 dL_law_721 rfl rfl ?_
                                        refine v_iconst 722 C (3 : Int32) dL_law_722 (by decide) ?_
                                        refine v_iadd 723 C dL_law_723 ?_
                                        refine v_sld 724 C hXs dL_law_724 h (fun h => ?_)
                                        refine v_aload_n 725 C 0 0 dL_law_725 rfl rfl ?_
                                        refine v_iload_n 726 C 3 3 dL_law_726 rfl rfl ?_
                                        refine v_iconst 727 C (4 : Int32) dL_law_727 (by decide) ?_
                                        refine v_iadd 728 C dL_law_728 ?_
                                        refine v_sld 729 C hXs dL_law_729 h (fun h => ?_)
                                        refine r_f_X8_giant 730 C (by decide) q_1174 dL_law_730 (Nat.le_of_ble_eq_true rfl) h (fun σ74 v75 h => ?_)
                                        refine v_icmp_eq 733 C 1051 dL_law_733 (by decide) h (fun h => ?_) (fun h => ?_)
                                        · exact v_sub [0, 1, 2, 3] rfl (w_f_law_j1051 C hXs h hc he hr hx)
                                        · refine v_iconst 736 C (0 : Int32) dL_law_736 (by decide) ?_
                                          exact v_lawret 737 C (hr _ _ (he _ (Option.some.inj h).symm)) dL_law_737
                                      · replace h := it_f h c2_17
                                        by_cases c2_18 : ((xs (x3).toNatClampNeg) &&& (31 : Int32)) = (18 : Int32)
                                        · replace h := it_t h c2_18
                                          refine v_tableAt 32 C (off := 706) (18 : Int32) 738 c2_18 dL_law_32 (by decide) (by decide) (by decide) (by decide) ?_
                                          refine v_aload_n 738 C 1 1 dL_law_738 rfl rfl ?_
                                          refine v_aload_n 739 C 0 0 dL_law_739 rfl rfl ?_
                                          refine v_iload_n 740 C 3 3 dL_law_740 rfl rfl ?_
                                          refine v_iconst 741 C (1 : Int32) dL_law_741 (by decide) ?_
                                          refine v_iadd 742 C dL_law_742 ?_
                                          refine v_sld 743 C hXs dL_law_743 h (fun h => ?_)
                                          refine v_aload_n 744 C 0 0 dL_law_744 rfl rfl ?_
                                          refine v_iload_n 745 C 3 3 dL_law_745 rfl rfl ?_
                                          refine v_iconst 746 C (2 : Int32) dL_law_746 (by decide) ?_
                                          refine v_iadd 747 C dL_law_747 ?_
                                          refine v_sld 748 C hXs dL_law_748 h (fun h => ?_)
                                          refine r_f_X7_peace 749 C (by decide) q_679 dL_law_749 (Nat.le_of_ble_eq_true rfl) h (fun σ76 v77 h => ?_)
                                          refine v_aload_n 752 C 2 2 dL_law_752 rfl rfl ?_
                                          refine v_aload_n 753 C 0 0 dL_law_753 rfl rfl ?_
                                          refine v_iload_n 754 C 3 3 dL_law_754 rfl rfl ?_
                                          refine v_iconst 755 C (1 : Int32) dL_law_755 (by decide) ?_
                                          refine v_iadd 756 C dL_law_756 ?_
                                          refine v_sld 757 C hXs dL_law_757 h (fun h => ?_)
                                          refine v_aload_n 758 C 0 0 dL_law_758 rfl rfl ?_
                                          refine v_iload_n 759 C 3 3 dL_law_759 rfl rfl ?_
                                          refine v_iconst 760 C (2 : Int32) dL_law_760 (by decide) ?_
                                          refine v_iadd 761 C dL_law_761 ?_
                                          refine v_sld 762 C hXs dL_law_762 h (fun h => ?_)
                                          refine r_f_X8_peace 763 C (by decide) q_1180 dL_law_763 (Nat.le_of_ble_eq_true rfl) h (fun σ78 v79 h => ?_)
                                          refine v_icmp_eq 766 C 1051 dL_law_766 (by decide) h (fun h => ?_) (fun h => ?_)
                                          · exact v_sub [0, 1, 2, 3] rfl (w_f_law_j1051 C hXs h hc he hr hx)
                                          · refine v_iconst 769 C (0 : Int32) dL_law_769 (by decide) ?_
                                            exact v_lawret 770 C (hr _ _ (he _ (Option.some.inj h).symm)) dL_law_770
                                        · replace h := it_f h c2_18
                                          by_cases c2_19 : ((xs (x3).toNatClampNeg) &&& (31 : Int32)) = (19 : Int32)
                                          · replace h := it_t h c2_19
                                            refine v_tableAt 32 C (off := 739) (19 : Int32) 771 c2_19 dL_law_32 (by decide) (by decide) (by decide) (by decide) ?_
                                            refine v_aload_n 771 C 1 1 dL_law_771 rfl rfl ?_
                                            refine v_aload_n 772 C 0 0 dL_law_772 rfl rfl ?_
                                            refine v_iload_n 773 C 3 3 dL_law_773 rfl rfl ?_
                                            refine v_iconst 774 C (1 : Int32) dL_law_774 (by decide) ?_
                                            refine v_iadd 775 C dL_law_775 ?_
                                            refine v_sld 776 C hXs dL_law_776 h (fun h => ?_)
                                            refine v_aload_n 777 C 0 0 dL_law_777 rfl rfl ?_
                                            refine v_iload_n 778 C 3 3 dL_law_778 rfl rfl ?_
                                            refine v_iconst 779 C (2 : Int32) dL_law_779 (by decide) ?_
                                            refine v_iadd 780 C dL_law_780 ?_
                                            refine v_sld 781 C hXs dL_law_781 h (fun h => ?_)
                                            refine r_f_X7_bread 782 C (by decide) q_688 dL_law_782 (Nat.le_of_ble_eq_true rfl) h (fun σ80 v81 h => ?_)
                                            refine v_aload_n 785 C 2 2 dL_law_785 rfl rfl ?_
                                            refine v_aload_n 786 C 0 0 dL_law_786 rfl rfl ?_
                                            refine v_iload_n 787 C 3 3 dL_law_787 rfl rfl ?_
                                            refine v_iconst 788 C (1 : Int32) dL_law_788 (by decide) ?_
                                            refine v_iadd 789 C dL_law_789 ?_
                                            refine v_sld 790 C hXs dL_law_790 h (fun h => ?_)
                                            refine v_aload_n 791 C 0 0 dL_law_791 rfl rfl ?_
                                            refine v_iload_n 792 C 3 3 dL_law_792 rfl rfl ?_
                                            refine v_iconst 793 C (2 : Int32) dL_law_793 (by decide) ?_
                                            refine v_iadd 794 C dL_law_794 ?_
                                            refine v_sld 795 C hXs dL_law_795 h (fun h => ?_)
                                            refine r_f_X8_bread 796 C (by decide) q_1188 dL_law_796 (Nat.le_of_ble_eq_true rfl) h (fun σ82 v83 h => ?_)
                                            refine v_icmp_eq 799 C 1051 dL_law_799 (by decide) h (fun h => ?_) (fun h => ?_)
                                            · exact v_sub [0, 1, 2, 3] rfl (w_f_law_j1051 C hXs h hc he hr hx)
                                            · refine v_iconst 802 C (0 : Int32) dL_law_802 (by decide) ?_
                                              exact v_lawret 803 C (hr _ _ (he _ (Option.some.inj h).symm)) dL_law_803
                                          · replace h := it_f h c2_19
                                            by_cases c2_20 : ((xs (x3).toNatClampNeg) &&& (31 : Int32)) = (20 : Int32)
                                            · replace h := it_t h c2_20
                                              refine v_tableAt 32 C (off := 772) (20 : Int32) 804 c2_20 dL_law_32 (by decide) (by decide) (by decide) (by decide) ?_
                                              refine v_aload_n 804 C 1 1 dL_law_804 rfl rfl ?_
                                              refine v_aload_n 805 C 0 0 dL_law_805 rfl rfl ?_
                                              refine v_iload_n 806 C 3 3 dL_law_806 rfl rfl ?_
                                              refine v_iconst 807 C (1 : Int32) dL_law_807 (by decide) ?_
                                              refine v_iadd 808 C dL_law_808 ?_
                                              refine v_sld 809 C hXs dL_law_809 h (fun h => ?_)
                                              refine v_aload_n 810 C 0 0 dL_law_810 rfl rfl ?_
                                              refine v_iload_n 811 C 3 3 dL_law_811 rfl rfl ?_
                                              refine v_iconst 812 C (2 : Int32) dL_law_812 (by decide) ?_
                                              refine v_iadd 813 C dL_law_813 ?_
                                              refine v_sld 814 C hXs dL_law_814 h (fun h => ?_)
                                              refine r_f_X7_best 815 C (by decide) q_692 dL_law_815 (Nat.le_of_ble_eq_true rfl) h (fun σ84 v85 h => ?_)
                                              refine v_aload_n 818 C 2 2 dL_law_818 rfl rfl ?_
                                              refine v_aload_n 819 C 0 0 dL_law_819 rfl rfl ?_
                                              refine v_iload_n 820 C 3 3 dL_law_820 rfl rfl ?_
                                              refine v_iconst 821 C (1 : Int32) dL_law_821 (by decide) ?_
                                              refine v_iadd 822 C dL_law_822 ?_
                                              refine v_sld 823 C hXs dL_law_823 h (fun h => ?_)
                                              refine v_aload_n 824 C 0 0 dL_law_824 rfl rfl ?_
                                              refine v_iload_n 825 C 3 3 dL_law_825 rfl rfl ?_
                                              refine v_iconst 826 C (2 : Int32) dL_law_826 (by decide) ?_
                                              refine v_iadd 827 C dL_law_827 ?_
                                              refine v_sld 828 C hXs dL_law_828 h (fun h => ?_)
                                              refine r_f_X8_best 829 C (by decide) q_1193 dL_law_829 (Nat.le_of_ble_eq_true rfl) h (fun σ86 v87 h => ?_)
                                              refine v_icmp_eq 832 C 1051 dL_law_832 (by decide) h (fun h => ?_) (fun h => ?_)
                                              · exact v_sub [0, 1, 2, 3] rfl (w_f_law_j1051 C hXs h hc he hr hx)
                                              · refine v_iconst 835 C (0 : Int32) dL_law_835 (by decide) ?_
                                                exact v_lawret 836 C (hr _ _ (he _ (Option.some.inj h).symm)) dL_law_836
                                            · replace h := it_f h c2_20
                                              by_cases c2_21 : ((xs (x3).toNatClampNeg) &&& (31 : Int32)) = (21 : Int32)
                                              · replace h := it_t h c2_21
                                                refine v_tableAt 32 C (off := 805) (21 : Int32) 837 c2_21 dL_law_32 (by decide) (by decide) (by decide) (by decide) ?_
                                                refine v_aload_n 837 C 1 1 dL_law_837 rfl rfl ?_
                                                refine v_aload_n 838 C 0 0 dL_law_838 rfl rfl ?_
                                                refine v_iload_n 839 C 3 3 dL_law_839 rfl rfl ?_
                                                refine v_iconst 840 C (1 : Int32) dL_law_840 (by decide) ?_
                                                refine v_iadd 841 C dL_law_841 ?_
                                                refine v_sld 842 C hXs dL_law_842 h (fun h => ?_)
                                                refine v_aload_n 843 C 0 0 dL_law_843 rfl rfl ?_
                                                refine v_iload_n 844 C 3 3 dL_law_844 rfl rfl ?_
                                                refine v_iconst 845 C (2 : Int32) dL_law_845 (by decide) ?_
                                                refine v_iadd 846 C dL_law_846 ?_
                                                refine v_sld 847 C hXs dL_law_847 h (fun h => ?_)
                                                refine v_aload_n 848 C 0 0 dL_law_848 rfl rfl ?_
                                                refine v_iload_n 849 C 3 3 dL_law_849 rfl rfl ?_
                                                refine v_iconst 850 C (3 : Int32) dL_law_850 (by decide) ?_
                                                refine v_iadd 851 C dL_law_851 ?_
                                                refine v_sld 852 C hXs dL_law_852 h (fun h => ?_)
                                                refine v_aload_n 853 C 0 0 dL_law_853 rfl rfl ?_
                                                refine v_iload_n 854 C 3 3 dL_law_854 rfl rfl ?_
                                                refine v_iconst 855 C (4 : Int32) dL_law_855 (by decide) ?_
                                                refine v_iadd 856 C dL_law_856 ?_
                                                refine v_sld 857 C hXs dL_law_857 h (fun h => ?_)
                                                refine r_f_X7_tell 858 C (by decide) q_700 dL_law_858 (Nat.le_of_ble_eq_true rfl) h (fun σ88 v89 h => ?_)
                                                refine v_aload_n 861 C 2 2 dL_law_861 rfl rfl ?_
                                                refine v_aload_n 862 C 0 0 dL_law_862 rfl rfl ?_
                                                refine v_iload_n 863 C 3 3 dL_law_863 rfl rfl ?_
                                                refine v_iconst 864 C (1 : Int32) dL_law_864 (by decide) ?_
                                                refine v_iadd 865 C dL_law_865 ?_
                                                refine v_sld 866 C hXs dL_law_866 h (fun h => ?_)
                                                refine v_aload_n 867 C 0 0 dL_law_867 rfl rfl ?_
                                                refine v_iload_n 868 C 3 3 dL_law_868 rfl rfl ?_
                                                refine v_iconst 869 C (2 : Int32) dL_law_869 (by decide) ?_
                                                refine v_iadd 870 C dL_law_870 ?_
                                                refine v_sld 871 C hXs dL_law_871 h (fun h => ?_)
                                                refine v_aload_n 872 C 0 0 dL_law_872 rfl rfl ?_
                                                refine v_iload_n 873 C 3 3 dL_law_873 rfl rfl ?_
                                                refine v_iconst 874 C (3 : Int32) dL_law_874 (by decide) ?_
                                                refine v_iadd 875 C dL_law_875 ?_
                                                refine v_sld 876 C hXs dL_law_876 h (fun h => ?_)
                                                refine v_aload_n 877 C 0 0 dL_law_877 rfl rfl ?_
                                                refine v_iload_n 878 C 3 3 dL_law_878 rfl rfl ?_
                                                refine v_iconst 879 C (4 : Int32) dL_law_879 (by decide) ?_
                                                refine v_iadd 880 C dL_law_880 ?_
                                                refine v_sld 881 C hXs dL_law_881 h (fun h => ?_)
                                                refine r_f_X8_tell 882 C (by decide) q_1197 dL_law_882 (Nat.le_of_ble_eq_true rfl) h (fun σ90 v91 h => ?_)
                                                refine v_icmp_eq 885 C 1051 dL_law_885 (by decide) h (fun h => ?_) (fun h => ?_)
                                                · exact v_sub [0, 1, 2, 3] rfl (w_f_law_j1051 C hXs h hc he hr hx)
                                                · refine v_iconst 888 C (0 : Int32) dL_law_888 (by decide) ?_
                                                  exact v_lawret 889 C (hr _ _ (he _ (Option.some.inj h).symm)) dL_law_889
                                              · replace h := it_f h c2_21
                                                by_cases c2_22 : ((xs (x3).toNatClampNeg) &&& (31 : Int32)) = (22 : Int32)
                                                · replace h := it_t h c2_22
                                                  refine v_tableAt 32 C (off := 858) (22 : Int32) 890 c2_22 dL_law_32 (by decide) (by decide) (by decide) (by decide) ?_
                                                  refine v_aload_n 890 C 1 1 dL_law_890 rfl rfl ?_
                                                  refine v_aload_n 891 C 0 0 dL_law_891 rfl rfl ?_
                                                  refine v_iload_n 892 C 3 3 dL_law_892 rfl rfl ?_
                                                  refine v_iconst 893 C (1 : Int32) dL_law_893 (by decide) ?_
                                                  refine v_iadd 894 C dL_law_894 ?_
                                                  refine v_sld 895 C hXs dL_law_895 h (fun h => ?_)
                                                  refine r_f_X7_fits 896 C (by decide) q_712 dL_law_896 (Nat.le_of_ble_eq_true rfl) h (fun σ92 v93 h => ?_)
                                                  refine v_aload_n 899 C 2 2 dL_law_899 rfl rfl ?_
                                                  refine v_aload_n 900 C 0 0 dL_law_900 rfl rfl ?_
                                                  refine v_iload_n 901 C 3 3 dL_law_901 rfl rfl ?_
                                                  refine v_iconst 902 C (1 : Int32) dL_law_902 (by decide) ?_
                                                  refine v_iadd 903 C dL_law_903 ?_
                                                  refine v_sld 904 C hXs dL_law_904 h (fun h => ?_)
                                                  refine r_f_X8_fits 905 C (by decide) q_1201 dL_law_905 (Nat.le_of_ble_eq_true rfl) h (fun σ94 v95 h => ?_)
                                                  refine v_icmp_eq 908 C 1051 dL_law_908 (by decide) h (fun h => ?_) (fun h => ?_)
                                                  · exact v_sub [0, 1, 2, 3] rfl (w_f_law_j1051 C hXs h hc he hr hx)
                                                  · refine v_iconst 911 C (0 : Int32) dL_law_911 (by decide) ?_
                                                    exact v_lawret 912 C (hr _ _ (he _ (Option.some.inj h).symm)) dL_law_912
                                                · replace h := it_f h c2_22
                                                  by_cases c2_23 : ((xs (x3).toNatClampNeg) &&& (31 : Int32)) = (23 : Int32)
                                                  · replace h := it_t h c2_23
                                                    refine v_tableAt 32 C (off := 881) (23 : Int32) 913 c2_23 dL_law_32 (by decide) (by decide) (by decide) (by decide) ?_
                                                    refine v_aload_n 913 C 1 1 dL_law_913 rfl rfl ?_
                                                    refine v_aload_n 914 C 0 0 dL_law_914 rfl rfl ?_
                                                    refine v_iload_n 915 C 3 3 dL_law_915 rfl rfl ?_
                                                    refine v_iconst 916 C (1 : Int32) dL_law_916 (by decide) ?_
                                                    refine v_iadd 917 C dL_law_917 ?_
                                                    refine v_sld 918 C hXs dL_law_918 h (fun h => ?_)
                                                    refine v_aload_n 919 C 0 0 dL_law_919 rfl rfl ?_
                                                    refine v_iload_n 920 C 3 3 dL_law_920 rfl rfl ?_
                                                    refine v_iconst 921 C (2 : Int32) dL_law_921 (by decide) ?_
                                                    refine v_iadd 922 C dL_law_922 ?_
                                                    refine v_sld 923 C hXs dL_law_923 h (fun h => ?_)
                                                    refine v_aload_n 924 C 0 0 dL_law_924 rfl rfl ?_
                                                    refine v_iload_n 925 C 3 3 dL_law_925 rfl rfl ?_
                                                    refine v_iconst 926 C (3 : Int32) dL_law_926 (by decide) ?_
                                                    refine v_iadd 927 C dL_law_927 ?_
                                                    refine v_sld 928 C hXs dL_law_928 h (fun h => ?_)
                                                    refine r_f_X7_write 929 C (by decide) q_725 dL_law_929 (Nat.le_of_ble_eq_true rfl) h (fun σ96 v97 h => ?_)
                                                    refine v_aload_n 932 C 2 2 dL_law_932 rfl rfl ?_
                                                    refine v_aload_n 933 C 0 0 dL_law_933 rfl rfl ?_
                                                    refine v_iload_n 934 C 3 3 dL_law_934 rfl rfl ?_
                                                    refine v_iconst 935 C (1 : Int32) dL_law_935 (by decide) ?_
                                                    refine v_iadd 936 C dL_law_936 ?_
                                                    refine v_sld 937 C hXs dL_law_937 h (fun h => ?_)
                                                    refine v_aload_n 938 C 0 0 dL_law_938 rfl rfl ?_
                                                    refine v_iload_n 939 C 3 3 dL_law_939 rfl rfl ?_
                                                    refine v_iconst 940 C (2 : Int32) dL_law_940 (by decide) ?_
                                                    refine v_iadd 941 C dL_law_941 ?_
                                                    refine v_sld 942 C hXs dL_law_942 h (fun h => ?_)
                                                    refine v_aload_n 943 C 0 0 dL_law_943 rfl rfl ?_
                                                    refine v_iload_n 944 C 3 3 dL_law_944 rfl rfl ?_
                                                    refine v_iconst 945 C (3 : Int32) dL_law_945 (by decide) ?_
                                                    refine v_iadd 946 C dL_law_946 ?_
                                                    refine v_sld 947 C hXs dL_law_947 h (fun h => ?_)
                                                    refine r_f_X8_write 948 C (by decide) q_1209 dL_law_948 (Nat.le_of_ble_eq_true rfl) h (fun σ98 v99 h => ?_)
                                                    refine v_icmp_eq 951 C 1051 dL_law_951 (by decide) h (fun h => ?_) (fun h => ?_)
                                                    · exact v_sub [0, 1, 2, 3] rfl (w_f_law_j1051 C hXs h hc he hr hx)
                                                    · refine v_iconst 954 C (0 : Int32) dL_law_954 (by decide) ?_
                                                      exact v_lawret 955 C (hr _ _ (he _ (Option.some.inj h).symm)) dL_law_955
                                                  · replace h := it_f h c2_23
                                                    by_cases c2_24 : ((xs (x3).toNatClampNeg) &&& (31 : Int32)) = (24 : Int32)
                                                    · replace h := it_t h c2_24
                                                      refine v_tableAt 32 C (off := 924) (24 : Int32) 956 c2_24 dL_law_32 (by decide) (by decide) (by decide) (by decide) ?_
                                                      refine v_aload_n 956 C 1 1 dL_law_956 rfl rfl ?_
                                                      refine r_f_X7_tear 957 C (by decide) q_729 dL_law_957 (Nat.le_of_ble_eq_true rfl) h (fun σ100 v101 h => ?_)
                                                      refine v_aload_n 960 C 2 2 dL_law_960 rfl rfl ?_
                                                      refine r_f_X8_tear 961 C (by decide) q_1214 dL_law_961 (Nat.le_of_ble_eq_true rfl) h (fun σ102 v103 h => ?_)
                                                      refine v_icmp_eq 964 C 1051 dL_law_964 (by decide) h (fun h => ?_) (fun h => ?_)
                                                      · exact v_sub [0, 1, 2, 3] rfl (w_f_law_j1051 C hXs h hc he hr hx)
                                                      · refine v_iconst 967 C (0 : Int32) dL_law_967 (by decide) ?_
                                                        exact v_lawret 968 C (hr _ _ (he _ (Option.some.inj h).symm)) dL_law_968
                                                    · replace h := it_f h c2_24
                                                      by_cases c2_25 : ((xs (x3).toNatClampNeg) &&& (31 : Int32)) = (25 : Int32)
                                                      · replace h := it_t h c2_25
                                                        refine v_tableAt 32 C (off := 937) (25 : Int32) 969 c2_25 dL_law_32 (by decide) (by decide) (by decide) (by decide) ?_
                                                        refine v_aload_n 969 C 1 1 dL_law_969 rfl rfl ?_
                                                        refine r_f_X7_judge 970 C (by decide) q_733 dL_law_970 (Nat.le_of_ble_eq_true rfl) h (fun σ104 v105 h => ?_)
                                                        refine v_aload_n 973 C 2 2 dL_law_973 rfl rfl ?_
                                                        refine r_f_X8_judge 974 C (by decide) q_1218 dL_law_974 (Nat.le_of_ble_eq_true rfl) h (fun σ106 v107 h => ?_)
                                                        refine v_icmp_eq 977 C 1051 dL_law_977 (by decide) h (fun h => ?_) (fun h => ?_)
                                                        · exact v_sub [0, 1, 2, 3] rfl (w_f_law_j1051 C hXs h hc he hr hx)
                                                        · refine v_iconst 980 C (0 : Int32) dL_law_980 (by decide) ?_
                                                          exact v_lawret 981 C (hr _ _ (he _ (Option.some.inj h).symm)) dL_law_981
                                                      · replace h := it_f h c2_25
                                                        by_cases c2_26 : ((xs (x3).toNatClampNeg) &&& (31 : Int32)) = (26 : Int32)
                                                        · replace h := it_t h c2_26
                                                          refine v_tableAt 32 C (off := 950) (26 : Int32) 982 c2_26 dL_law_32 (by decide) (by decide) (by decide) (by decide) ?_
                                                          refine v_aload_n 982 C 1 1 dL_law_982 rfl rfl ?_
                                                          refine v_aload_n 983 C 0 0 dL_law_983 rfl rfl ?_
                                                          refine v_iload_n 984 C 3 3 dL_law_984 rfl rfl ?_
                                                          refine v_iconst 985 C (1 : Int32) dL_law_985 (by decide) ?_
                                                          refine v_iadd 986 C dL_law_986 ?_
                                                          refine v_sld 987 C hXs dL_law_987 h (fun h => ?_)
                                                          refine r_f_X7_seed 988 C (by decide) q_737 dL_law_988 (Nat.le_of_ble_eq_true rfl) h (fun σ108 v109 h => ?_)
                                                          refine v_aload_n 991 C 2 2 dL_law_991 rfl rfl ?_
                                                          refine v_aload_n 992 C 0 0 dL_law_992 rfl rfl ?_
                                                          refine v_iload_n 993 C 3 3 dL_law_993 rfl rfl ?_
                                                          refine v_iconst 994 C (1 : Int32) dL_law_994 (by decide) ?_
                                                          refine v_iadd 995 C dL_law_995 ?_
                                                          refine v_sld 996 C hXs dL_law_996 h (fun h => ?_)
                                                          refine r_f_X8_seed 997 C (by decide) q_1222 dL_law_997 (Nat.le_of_ble_eq_true rfl) h (fun σ110 v111 h => ?_)
                                                          refine v_icmp_eq 1000 C 1051 dL_law_1000 (by decide) h (fun h => ?_) (fun h => ?_)
                                                          · exact v_sub [0, 1, 2, 3] rfl (w_f_law_j1051 C hXs h hc he hr hx)
                                                          · refine v_iconst 1003 C (0 : Int32) dL_law_1003 (by decide) ?_
                                                            exact v_lawret 1004 C (hr _ _ (he _ (Option.some.inj h).symm)) dL_law_1004
                                                        · replace h := it_f h c2_26
                                                          by_cases c2_27 : ((xs (x3).toNatClampNeg) &&& (31 : Int32)) = (27 : Int32)
                                                          · replace h := it_t h c2_27
                                                            refine v_tableAt 32 C (off := 973) (27 : Int32) 1005 c2_27 dL_law_32 (by decide) (by decide) (by decide) (by decide) ?_
                                                            refine v_aload_n 1005 C 1 1 dL_law_1005 rfl rfl ?_
                                                            refine v_aload_n 1006 C 0 0 dL_law_1006 rfl rfl ?_
                                                            refine v_iload_n 1007 C 3 3 dL_law_1007 rfl rfl ?_
                                                            refine v_iconst 1008 C (1 : Int32) dL_law_1008 (by decide) ?_
                                                            refine v_iadd 1009 C dL_law_1009 ?_
                                                            refine v_sld 1010 C hXs dL_law_1010 h (fun h => ?_)
                                                            refine r_f_X7_keep 1011 C (by decide) q_741 dL_law_1011 (Nat.le_of_ble_eq_true rfl) h (fun σ112 v113 h => ?_)
                                                            refine v_aload_n 1014 C 2 2 dL_law_1014 rfl rfl ?_
                                                            refine v_aload_n 1015 C 0 0 dL_law_1015 rfl rfl ?_
                                                            refine v_iload_n 1016 C 3 3 dL_law_1016 rfl rfl ?_
                                                            refine v_iconst 1017 C (1 : Int32) dL_law_1017 (by decide) ?_
                                                            refine v_iadd 1018 C dL_law_1018 ?_
                                                            refine v_sld 1019 C hXs dL_law_1019 h (fun h => ?_)
                                                            refine r_f_X8_keep 1020 C (by decide) q_1226 dL_law_1020 (Nat.le_of_ble_eq_true rfl) h (fun σ114 v115 h => ?_)
                                                            refine v_icmp_eq 1023 C 1051 dL_law_1023 (by decide) h (fun h => ?_) (fun h => ?_)
                                                            · exact v_sub [0, 1, 2, 3] rfl (w_f_law_j1051 C hXs h hc he hr hx)
                                                            · refine v_iconst 1026 C (0 : Int32) dL_law_1026 (by decide) ?_
                                                              exact v_lawret 1027 C (hr _ _ (he _ (Option.some.inj h).symm)) dL_law_1027
                                                          · replace h := it_f h c2_27
                                                            by_cases c2_28 : ((xs (x3).toNatClampNeg) &&& (31 : Int32)) = (28 : Int32)
                                                            · replace h := it_t h c2_28
                                                              refine v_tableAt 32 C (off := 996) (28 : Int32) 1028 c2_28 dL_law_32 (by decide) (by decide) (by decide) (by decide) ?_
                                                              refine v_aload_n 1028 C 1 1 dL_law_1028 rfl rfl ?_
                                                              refine v_aload_n 1029 C 0 0 dL_law_1029 rfl rfl ?_
                                                              refine v_iload_n 1030 C 3 3 dL_law_1030 rfl rfl ?_
                                                              refine v_iconst 1031 C (1 : Int32) dL_law_1031 (by decide) ?_
                                                              refine v_iadd 1032 C dL_law_1032 ?_
                                                              refine v_sld 1033 C hXs dL_law_1033 h (fun h => ?_)
                                                              refine r_f_X7_goBack 1034 C (by decide) q_750 dL_law_1034 (Nat.le_of_ble_eq_true rfl) h (fun σ116 v117 h => ?_)
                                                              refine v_aload_n 1037 C 2 2 dL_law_1037 rfl rfl ?_
                                                              refine v_aload_n 1038 C 0 0 dL_law_1038 rfl rfl ?_
                                                              refine v_iload_n 1039 C 3 3 dL_law_1039 rfl rfl ?_
                                                              refine v_iconst 1040 C (1 : Int32) dL_law_1040 (by decide) ?_
                                                              refine v_iadd 1041 C dL_law_1041 ?_
                                                              refine v_sld 1042 C hXs dL_law_1042 h (fun h => ?_)
                                                              refine r_f_X8_goBack 1043 C (by decide) q_1230 dL_law_1043 (Nat.le_of_ble_eq_true rfl) h (fun σ118 v119 h => ?_)
                                                              refine v_icmp_eq 1046 C 1051 dL_law_1046 (by decide) h (fun h => ?_) (fun h => ?_)
                                                              · exact v_sub [0, 1, 2, 3] rfl (w_f_law_j1051 C hXs h hc he hr hx)
                                                              · refine v_iconst 1049 C (0 : Int32) dL_law_1049 (by decide) ?_
                                                                exact v_lawret 1050 C (hr _ _ (he _ (Option.some.inj h).symm)) dL_law_1050
                                                            · replace h := it_f h c2_28
                                                              refine v_tableOut 32 C 1051 dL_law_32 (sw_out 29 (by decide) (fun j hj => by
                                                                rcases (show j = 0 ∨ j = 1 ∨ j = 2 ∨ j = 3 ∨ j = 4 ∨ j = 5 ∨ j = 6 ∨ j = 7 ∨ j = 8 ∨ j = 9 ∨ j = 10 ∨ j = 11 ∨ j = 12 ∨ j = 13 ∨ j = 14 ∨ j = 15 ∨ j = 16 ∨ j = 17 ∨ j = 18 ∨ j = 19 ∨ j = 20 ∨ j = 21 ∨ j = 22 ∨ j = 23 ∨ j = 24 ∨ j = 25 ∨ j = 26 ∨ j = 27 ∨ j = 28 by omega) with rfl | rfl | rfl | rfl | rfl | rfl | rfl | rfl | rfl | rfl | rfl | rfl | rfl | rfl | rfl | rfl | rfl | rfl | rfl | rfl | rfl | rfl | rfl | rfl | rfl | rfl | rfl | rfl | rfl
                                                                · exact c2_0
                                                                · exact c2_1
                                                                · exact c2_2
                                                                · exact c2_3
                                                                · exact c2_4
                                                                · exact c2_5
                                                                · exact c2_6
                                                                · exact c2_7
                                                                · exact c2_8
                                                                · exact c2_9
                                                                · exact c2_10
                                                                · exact c2_11
                                                                · exact c2_12
                                                                · exact c2_13
                                                                · exact c2_14
                                                                · exact c2_15
                                                                · exact c2_16
                                                                · exact c2_17
                                                                · exact c2_18
                                                                · exact c2_19
                                                                · exact c2_20
                                                                · exact c2_21
                                                                · exact c2_22
                                                                · exact c2_23
                                                                · exact c2_24
                                                                · exact c2_25
                                                                · exact c2_26
                                                                · exact c2_27
                                                                · exact c2_28)) (by decide) ?_
                                                              exact v_sub [0, 1, 2, 3] rfl (w_f_law_j1051 C hXs h hc he hr hx)
theorem w_f_law {G : Wld} {X : Cxt} {b L : Nat} {xs : Nat → Int32} (C : Cx G X RL cL_law 4 100) (hXs : Sx X b L xs) {σ : Sto} {y : Sto × Int32} (h : f_law L xs σ = some y) (hK : Lx X b y.2) : V G X 4 σ [(0, .ref b), (1, .ref (G.1 0)), (2, .ref (G.1 39))] [] 16 := by
  unfold f_law at h
  refine v_iconst 16 C (0 : Int32) dL_law_16 (by decide) ?_
  refine b_istore_n 17 C 3 (lv2 := fun z1 => [(3, .int z1), (0, .ref b), (1, .ref (G.1 0)), (2, .ref (G.1 39))]) dL_law_17 rfl (by decide) (fun _ => rfl) h (fun z1 h => ?_)
  refine v_sub [1, 2, 3, 0] rfl ?_
  refine lp_go (Vh := fun t => V G X 4 t.1 [(0, .ref b), (1, .ref (G.1 0)), (2, .ref (G.1 39)), (3, .int t.2)] [] 18) h ?_
  intro t122 y122 hy122 hc122 he122
  refine w_f_law_l18 C hXs hy122 hc122 he122 (fun _ _ h => by cases h; exact hK) (fun σ120 z121 h => ?_)
  dsimp only at h
  refine v_iconst 1057 C (1 : Int32) dL_law_1057 (by decide) ?_
  cases h
  exact v_lawret 1058 C hK dL_law_1058
