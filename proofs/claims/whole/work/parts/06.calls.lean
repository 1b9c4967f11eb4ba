/-! contracts over the pure store, calls, returns -/
def rmN (n : Nat) : Room := { frames := n, cells := 0, slots := 0, locals := 50 * n }
def GI (G : Wld) : Prop := ∀ i j, i < NC → j < NC → G.1 i = G.1 j → i = j
def Qr (G : Wld) (σ' : Sto) (rv : Option Value) : Array Value → State → Outcome → State → Prop := fun _ st oc t => (oc = .returned rv ∧ va_P G.2.2.1 vwCl (WS G σ') t.heap) ∧ va_F (AS G) st t
def Wd (G : Wld) (σ : Sto) (U : State) : Prop := va_P G.2.2.1 vwCl (WS G σ) U.heap ∧ va_K G.2.2.1 vwCl (tyL G) U ∧ SF G (AS G) U U.heap
/-- called with these values over the store σ, the method returns rv over the store σ' -/
def Ct (l : Launch) (G : Wld) (y : MethodName) (cc : ByteArray) (nL : Nat) (ret : Option FieldType) (n : Nat) (av : List Value) (σ : Sto) (rv : Option Value) (σ' : Sto) : Prop :=
  Met l y (Cond.code y cc nL ret :: lw_gd) (rmN n) (va_Pc av (Wd G σ)) (Qr G σ' rv) 0 0 (AS G)
def Rx (G : Wld) (X : Cxt) (ret : Option FieldType) (rv : Option Value) (σ' : Sto) : Prop :=
  (xh X).sig.returnType = ret ∧ (xh X).locks = false ∧ xk X = 0 ∧ xn X = 0 ∧ xA X = AS G ∧ xQ X = MQ (xb X) (Qr G σ' rv) (xa X) (xs X) 0 0 (AS G)
theorem ct_intro {l : Launch} {G : Wld} {y : MethodName} {cc : ByteArray} {nL : Nat} {ret : Option FieldType} {n : Nat} {av : List Value} {σ : Sto} {rv : Option Value} {σ' : Sto} (own : String) (hG : GI G) (hy : plainName y.cls = true) (hown : y.cls = own) (hlen : (lg_sl av).length ≤ nL)
    (body : ∀ X : Cxt, xl X = l → Cx G X own cc nL n → Rx G X ret rv σ' → V G X nL σ (lv_args 0 av) [] 0) : Ct l G y cc nL ret n av σ rv σ' := by
  refine Met.ofW (cc := cc) (maxL := nL) (ret := ret) hy rfl ?_
  intro p e s m args below meth c s₁ B hml hv
  obtain ⟨rfl, hP, hK, hSF⟩ := hv
  have hts := atoms_spec (ws := Cond.code y cc nL ret :: lw_gd) B.pre
  subst hown
  have hf : s.vm.findClass y.cls = some m.cls := findClass_of_methodNamed B.named
  have hV := body (p, l, e, rmN n, s, m, av.toArray, below, meth, c, 0, 0, MQ below (Qr G σ' rv) av.toArray s 0 0 (AS G), AS G) rfl
    ⟨B.exec, B.bytes, hml, hf, fun w hw => hts w (List.mem_cons_of_mem _ hw), hK, hG, fun k hk => ⟨k, hk, rfl⟩, hSF, Nat.le_refl _, Nat.le_refl _, Nat.le_refl _, Nat.le_refl _⟩
    ⟨B.returns, B.notSynchronized, rfl, rfl, rfl, rfl⟩
  have hl := lv_entry av hlen
  rw [lg_entry_eq]
  exact hV s.heap [] _ hP va_S.rf hl
theorem lw_good : ∀ w ∈ lw_gd, goodWord w = true := fun w h => (List.mem_filter.mp h).2
theorem good_V {own : String} {ix : Nat} {CN : String} {y : MethodName} {bytes : ByteArray} {maxL : Nat} {ret : Option FieldType} (h1 : Cond.methodLink own ix y ∈ lw_gd) (h2 : Cond.instanceMethod y ∈ lw_gd) (h3 : Cond.selects CN y y ∈ lw_gd) (h4 : Cond.initialized CN ∈ lw_gd) (h5 : Cond.code y bytes maxL ret ∈ lw_gd) : GoodIn lw_gd (wsV own ix CN y (Cond.code y bytes maxL ret :: lw_gd)) := by
  intro w hw
  have hm : w ∈ lw_gd := by
    rcases List.mem_append.mp hw with h | h
    · rcases List.mem_cons.mp h with rfl | h
      · exact h1
      · rcases List.mem_cons.mp h with rfl | h
        · exact h2
        · rcases List.mem_cons.mp h with rfl | h
          · exact h3
          · rcases List.mem_cons.mp h with rfl | h
            · exact h4
            · cases h
    · rcases List.mem_cons.mp h with rfl | h
      · exact h5
      · exact h
  exact ⟨hm, good_of_word (lw_good w hm)⟩
theorem good_S {own : String} {ix : Nat} {y : MethodName} {bytes : ByteArray} {maxL : Nat} {ret : Option FieldType} (h1 : Cond.methodLink own ix y ∈ lw_gd) (h2 : Cond.static y ∈ lw_gd) (h4 : Cond.initialized y.cls ∈ lw_gd) (h5 : Cond.code y bytes maxL ret ∈ lw_gd) : GoodIn lw_gd (va_wsS own ix y (Cond.code y bytes maxL ret :: lw_gd)) := by
  intro w hw
  have hm : w ∈ lw_gd := by
    rcases List.mem_append.mp hw with h | h
    · rcases List.mem_cons.mp h with rfl | h
      · exact h1
      · rcases List.mem_cons.mp h with rfl | h
        · exact h2
        · rcases List.mem_cons.mp h with rfl | h
          · exact h4
          · cases h
    · rcases List.mem_cons.mp h with rfl | h
      · exact h5
      · exact h
  exact ⟨hm, good_of_word (lw_good w hm)⟩
section VCALLS
variable {G : Wld} {X : Cxt} {own : String} {cc : ByteArray} {nL n : Nat} {σ : Sto} {lv : List (Nat × Value)} {st : List Value}
theorem blind_Wd {av : List Value} : FrameBlind (va_Pc av (Wd G σ)) := by
  intro a U g mk q
  obtain ⟨q0, qP, qK, qS⟩ := q
  exact ⟨q0, qP, va_K.moved (u := U) (U := U.calling g mk a) (Vm.Alike.refl U.vm) qK, SF.same (u := U) rfl qS⟩
theorem pre_Wd (C : Cx G X own cc nL n) {H : Heap} {locs : List Loc} (hP : va_P G.2.2.1 vwCl (WS G σ) H) (hS : va_S (xA X) (xs X).heap H locs) {av : List Value} : ∀ U : State, U.heap = H → (xs X).WarmedH U.vm → va_Pc av (Wd G σ) av.toArray U := by
  intro U hU hW
  have h1 : SF G (AS G) (xs X) H := (C.2.2.2.2.2.2.2.2.1.kept hS.2.1).narrow (fun q hq => by obtain ⟨k, hk, rfl⟩ := hq; exact C.2.2.2.2.2.2.2.1 k hk)
  exact ⟨rfl, by rw [hU]; exact hP, va_K.moved hW.alike C.2.2.2.2.2.1, by rw [hU]; exact h1.warm hW⟩
/-- behind a call -/
theorem v_back (C : Cx G X own cc nL n) {pc : Nat} {ls : Array Slot} {H : Heap} {locs : List Loc} {rest : List Value} {a : Array Value} {σ' : Sto} {rv : Option Value} (hS : va_S (xA X) (xs X).heap H locs) (hl : lv_has ls nL lv)
    (hr : va_Run (xp X) (xl X) (xe X) (xR X) (xs X) (xm X) (xa X) (xb X) (xh X) (xc X) H locs (xk X) (xn X) 0 0 (F0 (xm X) pc ls st) rest (Qr G σ' rv a) (AS G))
    (kk : V G X nL σ' lv (rv.toList ++ rest) (pc + 3)) : W (xp X) (xl X) (xe X) (xR X) (xs X) (xm X) (xa X) (xb X) (xh X) (xc X) H locs (xk X) (xn X) (xQ X) (F0 (xm X) pc ls st) := by
  intro T hT XS
  have hA : ∀ q, AS G q → xA X q := fun q hq => by obtain ⟨k, hk, rfl⟩ := hq; exact C.2.2.2.2.2.2.2.1 k hk
  obtain ⟨v, st₀, t, T', L, h0, X', hL, e1, e2, ⟨⟨hv, hp⟩, hz, hk⟩, stp⟩ := hr T hT XS
  cases hv
  rw [h0] at hz hk
  obtain ⟨t2, a1, b1⟩ := kk T'.heap (locs ++ L) ls (by rw [e1]; exact hp)
    ⟨Nat.le_trans hS.1 (by rw [e1]; exact hz), fun q h1 h2 => by rw [e1, hk q (Nat.lt_of_lt_of_le h1 hS.1) (fun z => h2 (hA q z))]; exact hS.2.1 q h1 h2, fun q hq => by
      rcases List.mem_append.mp hq with h | h
      · exact hS.2.2 q h
      · exact hA _ (hL q h)⟩ hl T' rfl X'
  exact ⟨t2, stp t2 a1, b1⟩
theorem v_callV (pc : Nat) (C : Cx G X own cc nL n) {y : MethodName} {bytes : ByteArray} {maxL n2 ix ci N : Nat} {ret : Option FieldType} {CN : String} {T : u_T} {fs : List Value} {σ' : Sto} {rv : Option Value} (k np : Nat) (As rest : List Value)
    (hc : Ct (xl X) G y bytes maxL ret n2 (.ref (G.1 k) :: As) σ rv σ') (hn : n2 < n) (hm : maxL ≤ 31) (hk : k < NC) (hce : ceF G k (σ.1 k) (σ.2 k) = .inr (ci, fs)) (hcl : vwCl[ci]? = some (CN, T, N))
    (hy : y.cls = CN ∧ y.cls ≠ "java/lang/invoke/MethodHandle" ∧ y.cls ≠ "java/lang/invoke/VarHandle" ∧ (parseMethodDescriptor y.desc).map (fun d => d.parameters.length) = some np) (hlen : As.length = np)
    (h1 : Cond.methodLink own ix y ∈ lw_gd) (h2 : Cond.instanceMethod y ∈ lw_gd) (h3 : Cond.selects CN y y ∈ lw_gd) (h4 : Cond.initialized CN ∈ lw_gd) (h5 : Cond.code y bytes maxL ret ∈ lw_gd)
    (hst : st = As.reverse ++ .ref (G.1 k) :: rest) (hsum : (rest.map fun v => v.category).sum ≤ 8) (hd : decode cc pc = .ok (.invokevirtual ix, 3)) (kk : V G X nL σ' lv (rv.toList ++ rest) (pc + 3)) : V G X nL σ lv st pc := by
  intro H locs ls hP hS hl
  have hR := C.2.2.2.2.2.2.2.2.2
  refine v_back C hS hl (rest := rest) (va_runV (mc := 0) (ms := 0) (Ts := lw_gd) (As := As) (rest := rest) ⟨C.1, C.2.1, C.2.2.1, C.2.2.2.1, C.2.2.2.2.1⟩ hc (cwV np C.2.2.2.2.1 (good_V h1 h2 h3 h4 h5) rfl rfl rfl hy ⟨?_, ?_⟩) ⟨blind_Wd, va_recv C.2.2.2.2.2.1 hP hcl (q0 := k) (by rw [WS_at hk, hce]), pre_Wd C hP hS⟩ rfl hlen hl.1 hst (lv_room hsum) hd ⟨hR.2.2.1, hR.2.2.2⟩) kk
  · show n2 + 1 ≤ _
    omega
  · show 8 + (maxL + 11) + 50 * n2 ≤ _
    omega
theorem v_callS (pc : Nat) (C : Cx G X own cc nL n) {y : MethodName} {bytes : ByteArray} {maxL n2 ix : Nat} {ret : Option FieldType} {σ' : Sto} {rv : Option Value} (np : Nat) (As rest : List Value)
    (hc : Ct (xl X) G y bytes maxL ret n2 As σ rv σ') (hn : n2 < n) (hm : maxL ≤ 31)
    (hy : y.cls ≠ "java/lang/invoke/MethodHandle" ∧ y.cls ≠ "java/lang/invoke/VarHandle" ∧ (parseMethodDescriptor y.desc).map (fun d => d.parameters.length) = some np) (hlen : As.length = np)
    (h1 : Cond.methodLink own ix y ∈ lw_gd) (h2 : Cond.static y ∈ lw_gd) (h4 : Cond.initialized y.cls ∈ lw_gd) (h5 : Cond.code y bytes maxL ret ∈ lw_gd)
    (hst : st = As.reverse ++ rest) (hsum : (rest.map fun v => v.category).sum ≤ 8) (hd : decode cc pc = .ok (.invokestatic ix, 3)) (kk : V G X nL σ' lv (rv.toList ++ rest) (pc + 3)) : V G X nL σ lv st pc := by
  intro H locs ls hP hS hl
  have hR := C.2.2.2.2.2.2.2.2.2
  refine v_back C hS hl (rest := rest) (va_runS (mc := 0) (ms := 0) (Ts := lw_gd) (As := As) (rest := rest) ⟨C.1, C.2.1, C.2.2.1, C.2.2.2.1, C.2.2.2.2.1⟩ hc (va_cwS np C.2.2.2.2.1 (good_S h1 h2 h4 h5) rfl rfl rfl hy ⟨?_, ?_⟩) ⟨blind_Wd, pre_Wd C hP hS⟩ rfl hlen hl.1 hst (lv_room hsum) hd ⟨hR.2.2.1, hR.2.2.2⟩) kk
  · show n2 + 1 ≤ _
    omega
  · show 8 + (maxL + 11) + 50 * n2 ≤ _
    omega
theorem v_iret (pc : Nat) (C : Cx G X own cc nL n) {v : Int32} (hR : Rx G X (some .int) (some (.int v)) σ) (hd : decode cc pc = .ok (.ireturn, 1)) : V G X nL σ lv [.int v] pc := by
  intro H locs ls hP hS hl
  obtain ⟨h1, h2, h3, h4, h5, h6⟩ := hR
  rw [h5] at hS
  rw [h3, h4, h6]
  exact W.iret C.1 C.2.1 h1 (fun t ht hW => ⟨⟨rfl, by rw [ht]; exact hP⟩, hS.F ht⟩) hS.2.2 hd h2
theorem v_zret (pc : Nat) (C : Cx G X own cc nL n) {ty : FieldType} {v : Int32} (hn : narrow ty (.int v) = .int v) (hR : Rx G X (some ty) (some (.int v)) σ) (hd : decode cc pc = .ok (.ireturn, 1)) : V G X nL σ lv [.int v] pc := by
  intro H locs ls hP hS hl
  obtain ⟨h1, h2, h3, h4, h5, h6⟩ := hR
  rw [h5] at hS
  rw [h3, h4, h6]
  exact W.zret C.1 C.2.1 h1 hn (fun t ht hW => ⟨⟨rfl, by rw [ht]; exact hP⟩, hS.F ht⟩) hS.2.2 hd h2
theorem v_lret (pc : Nat) (C : Cx G X own cc nL n) {v : Int64} (hR : Rx G X (some .long) (some (.long v)) σ) (hd : decode cc pc = .ok (.lreturn, 1)) : V G X nL σ lv [.long v] pc := by
  intro H locs ls hP hS hl
  obtain ⟨h1, h2, h3, h4, h5, h6⟩ := hR
  rw [h5] at hS
  rw [h3, h4, h6]
  exact W.lret C.1 C.2.1 h1 (fun t ht hW => ⟨⟨rfl, by rw [ht]; exact hP⟩, hS.F ht⟩) hS.2.2 hd h2
theorem v_vret (pc : Nat) (C : Cx G X own cc nL n) (hR : Rx G X none none σ) (hd : decode cc pc = .ok (.return_, 1)) : V G X nL σ lv [] pc := by
  intro H locs ls hP hS hl
  obtain ⟨h1, h2, h3, h4, h5, h6⟩ := hR
  rw [h5] at hS
  rw [h3, h4, h6]
  exact W.vret C.1 C.2.1 h1 (fun t ht hW => ⟨⟨rfl, by rw [ht]; exact hP⟩, hS.F ht⟩) hS.2.2 hd h2
theorem v_aret (pc : Nat) (C : Cx G X own cc nL n) {a : Nat} {nm : String} (hR : Rx G X (some (.object nm)) (some (.ref a)) σ) (hd : decode cc pc = .ok (.areturn, 1)) : V G X nL σ lv [.ref a] pc := by
  intro H locs ls hP hS hl
  obtain ⟨h1, h2, h3, h4, h5, h6⟩ := hR
  rw [h5] at hS
  rw [h3, h4, h6]
  exact W.aret C.1 C.2.1 h1 (Or.inl ⟨nm, rfl⟩) (Or.inr ⟨a, rfl⟩) (fun t ht hW => ⟨⟨rfl, by rw [ht]; exact hP⟩, hS.F ht⟩) hS.2.2 hd h2
end VCALLS
theorem zB_nar {v : Int32} (h : zB v = true) : narrow .boolean (.int v) = .int v := by
  rcases of_decide_eq_true h with rfl | rfl <;> rfl
theorem zB_fit {v : Int32} (h : zB v = true) : fits .boolean (.int v) = true := by
  rcases of_decide_eq_true h with rfl | rfl <;> rfl
