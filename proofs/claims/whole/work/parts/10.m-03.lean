-- f_X8_tear
def f_X8_tear (σ : Sto) : Option (Sto × Int32) :=
  bs ((σ.1 39 52) + (σ.1 39 48)) fun z1 => bs (su σ 39 52 (0 : Int32)) fun σ2 => bs (su σ2 39 48 (0 : Int32)) fun σ3 => some (σ3, z1)
theorem w_f_X8_tear {G : Wld} {X : Cxt} (C : Cx G X RX8 cX8_tear 2 1) {σ : Sto} {y : Sto × Int32} (h : f_X8_tear σ = some y) (hK : Rx G X (some .int) (some (.int y.2)) y.1) : V G X 2 σ [(0, .ref (G.1 39))] [] 0 := by
  unfold f_X8_tear at h
  refine v_aload_n 0 C 0 0 dX8_tear_0 rfl rfl ?_
  refine g_X8_39_52 1 C dX8_tear_1 ?_
  refine v_aload_n 4 C 0 0 dX8_tear_4 rfl rfl ?_
  refine g_X8_39_48 5 C dX8_tear_5 ?_
  refine v_iadd 8 C dX8_tear_8 ?_
  refine b_istore_n 9 C 1 (lv2 := fun z1 => [(1, .int z1), (0, .ref (G.1 39))]) dX8_tear_9 rfl (by decide) (fun _ => rfl) h (fun z1 h => ?_)
  refine v_aload_n 10 C 0 1 dX8_tear_10 rfl rfl ?_
  refine v_iconst 11 C (0 : Int32) dX8_tear_11 (by decide) ?_
  refine p_X8_39_52 12 C dX8_tear_12 h (fun σ2 h => ?_)
  refine v_aload_n 15 C 0 1 dX8_tear_15 rfl rfl ?_
  refine v_iconst 16 C (0 : Int32) dX8_tear_16 (by decide) ?_
  refine p_X8_39_48 17 C dX8_tear_17 h (fun σ3 h => ?_)
  refine v_iload_n 20 C 1 0 dX8_tear_20 rfl rfl ?_
  cases h
  exact v_iret 21 C hK dX8_tear_21
theorem c_f_X8_tear (l : Launch) (G : Wld) (hG : GI G) (σ : Sto) (y : Sto × Int32) (h : f_X8_tear σ = some y) : Ct l G yX8_tear cX8_tear 2 (some .int) 1 [.ref (G.1 39)] σ (some (.int y.2)) y.1 := by
  refine ct_intro RX8 hG (by decide) rfl (Nat.le_of_ble_eq_true rfl) (fun X hX C hK => ?_)
  subst hX
  exact w_f_X8_tear C h hK
theorem r_f_X8_tear {G : Wld} {X : Cxt} {own : String} {cc : ByteArray} {nL n : Nat} {σ : Sto} {lv : List (Nat × Value)} {st : List Value} {β : Type} {r : β} {F : Sto → Int32 → Option β} {ix : Nat} (pc : Nat) (C : Cx G X own cc nL n) (hn : 1 < n) (h1 : Cond.methodLink own ix yX8_tear ∈ lw_gd) (hd : decode cc pc = .ok (.invokevirtual ix, 3)) (hsum : (st.map fun v => v.category).sum ≤ 8) (h : bd2 (f_X8_tear σ) F = some r) (kk : ∀ σ1 v, F σ1 v = some r → V G X nL σ1 lv (.int v :: st) (pc + 3)) : V G X nL σ lv (.ref (G.1 39) :: st) pc := by
  obtain ⟨z, hz, h⟩ := bd2_some h
  exact v_callV pc C 39 0 [] st (c_f_X8_tear (xl X) G C.2.2.2.2.2.2.1 _ _ hz) hn (by decide) (by decide) (ce_39 G _ _) rfl (by decide +kernel) rfl h1 q_1215 q_1216 q_68 q_1217 rfl hsum hd (kk _ _ h)
-- f_X8_judge
def f_X8_judge_l2 (σ : Sto) (x1 : Int32) : Option ((Sto × Int32) ⊕ ((Sto × Int32) ⊕ (Sto × Int32))) :=
  if (σ.1 39 52) ≤ x1 then (some (.inr (.inr (σ, x1)))) else (gd (inB x1 30) (bd2 (f_X8_longNow σ (σ.1 68 (x1).toNatClampNeg)) fun σ2 v3 => bd1 (f_X8_findAlms σ2 (σ.1 39 8) v3) fun σ4 => gd (inB x1 30) (bd2 (f_X8_almsOf σ4 (σ4.1 69 (x1).toNatClampNeg)) fun σ6 v7 => gd (inB x1 30) (if v7 = (σ6.1 70 (x1).toNatClampNeg) then (bs (x1 + (1 : Int32)) fun z8 => some (.inl (σ6, z8))) else (some (.inr (.inl (σ6, x1))))))))
def f_X8_judge (σ : Sto) : Option (Sto × Int32) :=
  bs (0 : Int32) fun z1 => bR1 (lpF (fun t => f_X8_judge_l2 t.1 t.2) FU (σ, z1)) (fun u => some u) (fun σ9 z10 => some (σ9, (-1 : Int32)))
theorem w_f_X8_judge_l2 {G : Wld} {X : Cxt} (C : Cx G X RX8 cX8_judge 2 4) {σ : Sto} {x1 : Int32} {y : (Sto × Int32) ⊕ ((Sto × Int32) ⊕ (Sto × Int32))} (h : f_X8_judge_l2 σ x1 = some y) (hc : ∀ t : Sto × Int32, y = .inl t → V G X 2 t.1 [(0, .ref (G.1 39)), (1, .int t.2)] [] 2) {Ve : (Sto × Int32) ⊕ (Sto × Int32) → Prop} (he : ∀ e, y = .inr e → Ve e) (hr : ∀ (σ : Sto) (v : Int32), Ve (.inl (σ, v)) → Rx G X (some .int) (some (.int v)) σ) (hx : ∀ (σ : Sto) (x1 : Int32), Ve (.inr (σ, x1)) → V G X 2 σ [(0, .ref (G.1 39)), (1, .int x1)] [] 55) : V G X 2 σ [(0, .ref (G.1 39)), (1, .int x1)] [] 2 := by
  unfold f_X8_judge_l2 at h
  refine v_iload_n 2 C 1 1 dX8_judge_2 rfl rfl ?_
  refine v_aload_n 3 C 0 0 dX8_judge_3 rfl rfl ?_
  refine g_X8_39_52 4 C dX8_judge_4 ?_
  refine v_icmp_ge 7 C 55 dX8_judge_7 (by decide) h (fun h => ?_) (fun h => ?_)
  · exact v_sub [0, 1] rfl (hx _ _ (he _ (Option.some.inj h).symm))
  · refine v_aload_n 10 C 0 0 dX8_judge_10 rfl rfl ?_
    refine v_aload_n 11 C 0 0 dX8_judge_11 rfl rfl ?_
    refine g_X8_39_8 12 C dX8_judge_12 ?_
    refine v_aload_n 15 C 0 0 dX8_judge_15 rfl rfl ?_
    refine v_aload_n 16 C 0 0 dX8_judge_16 rfl rfl ?_
    refine g_X8_39_53 17 C dX8_judge_17 ?_
    refine v_iload_n 20 C 1 1 dX8_judge_20 rfl rfl ?_
    refine v_iald 21 C 68 (by decide) (ce_68 G) dX8_judge_21 h (fun h => ?_)
    refine r_f_X8_longNow 22 C (by decide) q_1070 dX8_judge_22 (Nat.le_of_ble_eq_true rfl) h (fun σ2 v3 h => ?_)
    refine r_f_X8_findAlms 25 C (by decide) q_1074 dX8_judge_25 (Nat.le_of_ble_eq_true rfl) h (fun σ4 h => ?_)
    refine v_aload_n 28 C 0 0 dX8_judge_28 rfl rfl ?_
    refine v_aload_n 29 C 0 0 dX8_judge_29 rfl rfl ?_
    refine g_X8_39_54 30 C dX8_judge_30 ?_
    refine v_iload_n 33 C 1 1 dX8_judge_33 rfl rfl ?_
    refine v_iald 34 C 69 (by decide) (ce_69 G) dX8_judge_34 h (fun h => ?_)
    refine r_f_X8_almsOf 35 C (by decide) q_1086 dX8_judge_35 (Nat.le_of_ble_eq_true rfl) h (fun σ6 v7 h => ?_)
    refine v_aload_n 38 C 0 0 dX8_judge_38 rfl rfl ?_
    refine g_X8_39_55 39 C dX8_judge_39 ?_
    refine v_iload_n 42 C 1 1 dX8_judge_42 rfl rfl ?_
    refine v_iald 43 C 70 (by decide) (ce_70 G) dX8_judge_43 h (fun h => ?_)
    refine v_icmp_eq 44 C 49 dX8_judge_44 (by decide) h (fun h => ?_) (fun h => ?_)
    · refine b_iinc 49 C 1 1 (1 : Int32) (lv2 := fun z8 => [(1, .int z8), (0, .ref (G.1 39))]) dX8_judge_49 rfl (by decide) (by decide) (fun _ => rfl) h (fun z8 h => ?_)
      refine v_goto 52 C 2 dX8_judge_52 (by decide) ?_
      exact v_sub [1, 0] rfl (hc _ (Option.some.inj h).symm)
    · refine v_iload_n 47 C 1 1 dX8_judge_47 rfl rfl ?_
      exact v_iret 48 C (hr _ _ (he _ (Option.some.inj h).symm)) dX8_judge_48
theorem w_f_X8_judge {G : Wld} {X : Cxt} (C : Cx G X RX8 cX8_judge 2 4) {σ : Sto} {y : Sto × Int32} (h : f_X8_judge σ = some y) (hK : Rx G X (some .int) (some (.int y.2)) y.1) : V G X 2 σ [(0, .ref (G.1 39))] [] 0 := by
  unfold f_X8_judge at h
  refine v_iconst 0 C (0 : Int32) dX8_judge_0 (by decide) ?_
  refine b_istore_n 1 C 1 (lv2 := fun z1 => [(1, .int z1), (0, .ref (G.1 39))]) dX8_judge_1 rfl (by decide) (fun _ => rfl) h (fun z1 h => ?_)
  refine v_sub [1, 0] rfl ?_
  refine lp_go (Vh := fun t => V G X 2 t.1 [(0, .ref (G.1 39)), (1, .int t.2)] [] 2) h ?_
  intro t11 y11 hy11 hc11 he11
  refine w_f_X8_judge_l2 C hy11 hc11 he11 (fun _ _ h => by cases h; exact hK) (fun σ9 z10 h => ?_)
  dsimp only at h
  refine v_iconst 55 C (-1 : Int32) dX8_judge_55 (by decide) ?_
  cases h
  exact v_iret 56 C hK dX8_judge_56
theorem c_f_X8_judge (l : Launch) (G : Wld) (hG : GI G) (σ : Sto) (y : Sto × Int32) (h : f_X8_judge σ = some y) : Ct l G yX8_judge cX8_judge 2 (some .int) 4 [.ref (G.1 39)] σ (some (.int y.2)) y.1 := by
  refine ct_intro RX8 hG (by decide) rfl (Nat.le_of_ble_eq_true rfl) (fun X hX C hK => ?_)
  subst hX
  exact w_f_X8_judge C h hK
theorem r_f_X8_judge {G : Wld} {X : Cxt} {own : String} {cc : ByteArray} {nL n : Nat} {σ : Sto} {lv : List (Nat × Value)} {st : List Value} {β : Type} {r : β} {F : Sto → Int32 → Option β} {ix : Nat} (pc : Nat) (C : Cx G X own cc nL n) (hn : 4 < n) (h1 : Cond.methodLink own ix yX8_judge ∈ lw_gd) (hd : decode cc pc = .ok (.invokevirtual ix, 3)) (hsum : (st.map fun v => v.category).sum ≤ 8) (h : bd2 (f_X8_judge σ) F = some r) (kk : ∀ σ1 v, F σ1 v = some r → V G X nL σ1 lv (.int v :: st) (pc + 3)) : V G X nL σ lv (.ref (G.1 39) :: st) pc := by
  obtain ⟨z, hz, h⟩ := bd2_some h
  exact v_callV pc C 39 0 [] st (c_f_X8_judge (xl X) G C.2.2.2.2.2.2.1 _ _ hz) hn (by decide) (by decide) (ce_39 G _ _) rfl (by decide +kernel) rfl h1 q_1219 q_1220 q_68 q_1221 rfl hsum hd (kk _ _ h)
-- f_X8_seed
def f_X8_seed (σ : Sto) (a1 : Int32) : Option (Sto × Int32) :=
  if 0 ≤ a1 then (bs (σ.1 39 19) fun z1 => bs (su σ 39 19 a1) fun σ2 => some (σ2, z1)) else (some (σ, (-1000000002 : Int32)))
theorem w_f_X8_seed {G : Wld} {X : Cxt} (C : Cx G X RX8 cX8_seed 3 1) {σ : Sto} {a1 : Int32} {y : Sto × Int32} (h : f_X8_seed σ a1 = some y) (hK : Rx G X (some .int) (some (.int y.2)) y.1) : V G X 3 σ [(0, .ref (G.1 39)), (1, .int a1)] [] 0 := by
  unfold f_X8_seed at h
  refine v_iload_n 0 C 1 1 dX8_seed_0 rfl rfl ?_
  refine v_if_ge 1 C 7 dX8_seed_1 (by decide) h (fun h => ?_) (fun h => ?_)
  · refine v_aload_n 7 C 0 0 dX8_seed_7 rfl rfl ?_
    refine g_X8_39_19 8 C dX8_seed_8 ?_
    refine b_istore_n 11 C 2 (lv2 := fun z1 => [(2, .int z1), (0, .ref (G.1 39)), (1, .int a1)]) dX8_seed_11 rfl (by decide) (fun _ => rfl) h (fun z1 h => ?_)
    refine v_aload_n 12 C 0 1 dX8_seed_12 rfl rfl ?_
    refine v_iload_n 13 C 1 2 dX8_seed_13 rfl rfl ?_
    refine p_X8_39_19 14 C dX8_seed_14 h (fun σ2 h => ?_)
    refine v_iload_n 17 C 2 0 dX8_seed_17 rfl rfl ?_
    cases h
    exact v_iret 18 C hK dX8_seed_18
  · refine v_ldc 4 C dX8_seed_4 q_943 ?_
    cases h
    exact v_iret 6 C hK dX8_seed_6
theorem c_f_X8_seed (l : Launch) (G : Wld) (hG : GI G) (σ : Sto) (a1 : Int32) (y : Sto × Int32) (h : f_X8_seed σ a1 = some y) : Ct l G yX8_seed cX8_seed 3 (some .int) 1 [.ref (G.1 39), .int a1] σ (some (.int y.2)) y.1 := by
  refine ct_intro RX8 hG (by decide) rfl (Nat.le_of_ble_eq_true rfl) (fun X hX C hK => ?_)
  subst hX
  exact w_f_X8_seed C h hK
theorem r_f_X8_seed {G : Wld} {X : Cxt} {own : String} {cc : ByteArray} {nL n : Nat} {σ : Sto} {lv : List (Nat × Value)} {st : List Value} {β : Type} {r : β} {F : Sto → Int32 → Option β} {a1 : Int32} {ix : Nat} (pc : Nat) (C : Cx G X own cc nL n) (hn : 1 < n) (h1 : Cond.methodLink own ix yX8_seed ∈ lw_gd) (hd : decode cc pc = .ok (.invokevirtual ix, 3)) (hsum : (st.map fun v => v.category).sum ≤ 8) (h : bd2 (f_X8_seed σ a1) F = some r) (kk : ∀ σ1 v, F σ1 v = some r → V G X nL σ1 lv (.int v :: st) (pc + 3)) : V G X nL σ lv (.int a1 :: .ref (G.1 39) :: st) pc := by
  obtain ⟨z, hz, h⟩ := bd2_some h
  exact v_callV pc C 39 1 [.int a1] st (c_f_X8_seed (xl X) G C.2.2.2.2.2.2.1 _ _ _ hz) hn (by decide) (by decide) (ce_39 G _ _) rfl (by decide +kernel) rfl h1 q_1223 q_1224 q_68 q_1225 rfl hsum hd (kk _ _ h)
-- f_X8_keep
def f_X8_keep_l20 (x1 : Int32) (x2 : Int32) (σ : Sto) (x3 : Int32) : Option ((Sto × Int32) ⊕ (Sto × Int32)) :=
  if (6 : Int32) ≤ x3 then (some (.inr (σ, x3))) else (gd (inB x3 7) (gd (inB (x2 + x3) 50) (bs (su σ 71 ((x2 + x3)).toNatClampNeg (σ.1 48 (x3).toNatClampNeg)) fun σ5 => gd (inB x3 7) (gd (inB ((x2 + (6 : Int32)) + x3) 50) (bs (su σ5 71 (((x2 + (6 : Int32)) + x3)).toNatClampNeg (σ5.1 49 (x3).toNatClampNeg)) fun σ6 => gd (inB x3 6) (gd (inB ((x2 + (12 : Int32)) + x3) 50) (bs (su σ6 71 (((x2 + (12 : Int32)) + x3)).toNatClampNeg (σ6.1 50 (x3).toNatClampNeg)) fun σ7 => bs (x3 + (1 : Int32)) fun z8 => some (.inl (σ7, z8)))))))))
def f_X8_keep (σ : Sto) (a1 : Int32) : Option (Sto × Int32) :=
  bd2 (f_X8_in σ (a1).toInt64 (0 : Int64) (1 : Int64)) fun σ1 v2 => if v2 = 0 then (some (σ1, (-1000000001 : Int32))) else (bs ((25 : Int32) * a1) fun z3 => bs (0 : Int32) fun z4 => bE1 (lpF (fun t => f_X8_keep_l20 a1 z3 t.1 t.2) FU (σ1, z4)) (fun σ9 z10 => gd (inB (z3 + (18 : Int32)) 50) (bs (su σ9 71 ((z3 + (18 : Int32))).toNatClampNeg (σ9.1 39 13)) fun σ12 => gd (inB (z3 + (19 : Int32)) 50) (bs (su σ12 71 ((z3 + (19 : Int32))).toNatClampNeg (σ12.1 39 17)) fun σ13 => gd (inB (z3 + (20 : Int32)) 50) (bs (su σ13 71 ((z3 + (20 : Int32))).toNatClampNeg (σ13.1 39 18)) fun σ14 => gd (inB (z3 + (21 : Int32)) 50) (bs (su σ14 71 ((z3 + (21 : Int32))).toNatClampNeg (σ14.1 39 19)) fun σ15 => gd (inB a1 2) (bs (su σ15 72 (a1).toNatClampNeg (vp_nar .boolean (1 : Int32))) fun σ16 => some (σ16, (1 : Int32)))))))))
theorem w_f_X8_keep_l20 {G : Wld} {X : Cxt} (C : Cx G X RX8 cX8_keep 4 2) {x1 : Int32} {x2 : Int32} {σ : Sto} {x3 : Int32} {y : (Sto × Int32) ⊕ (Sto × Int32)} (h : f_X8_keep_l20 x1 x2 σ x3 = some y) (hc : ∀ t : Sto × Int32, y = .inl t → V G X 4 t.1 [(0, .ref (G.1 39)), (1, .int x1), (2, .int x2), (3, .int t.2)] [] 20) {Ve : Sto × Int32 → Prop} (he : ∀ e, y = .inr e → Ve e) (hx : ∀ (σ : Sto) (x3 : Int32), Ve (σ, x3) → V G X 4 σ [(0, .ref (G.1 39)), (1, .int x1), (2, .int x2), (3, .int x3)] [] 80) : V G X 4 σ [(0, .ref (G.1 39)), (1, .int x1), (2, .int x2), (3, .int x3)] [] 20 := by
  unfold f_X8_keep_l20 at h
  refine v_iload_n 20 C 3 3 dX8_keep_20 rfl rfl ?_
  refine v_bipush 21 C (6 : Int32) dX8_keep_21 (by decide) ?_
  refine v_icmp_ge 23 C 80 dX8_keep_23 (by decide) h (fun h => ?_) (fun h => ?_)
  · exact v_sub [0, 1, 2, 3] rfl (hx _ _ (he _ (Option.some.inj h).symm))
  · refine v_aload_n 26 C 0 0 dX8_keep_26 rfl rfl ?_
    refine g_X8_39_56 27 C dX8_keep_27 ?_
    refine v_iload_n 30 C 2 2 dX8_keep_30 rfl rfl ?_
    refine v_iload_n 31 C 3 3 dX8_keep_31 rfl rfl ?_
    refine v_iadd 32 C dX8_keep_32 ?_
    refine v_aload_n 33 C 0 0 dX8_keep_33 rfl rfl ?_
    refine g_X8_39_14 34 C dX8_keep_34 ?_
    refine v_iload_n 37 C 3 3 dX8_keep_37 rfl rfl ?_
    refine v_iald 38 C 48 (by decide) (ce_48 G) dX8_keep_38 h (fun h => ?_)
    refine b_iast 39 C 71 (by decide) (ce_71 G) dX8_keep_39 h (fun σ5 h => ?_)
    refine v_aload_n 40 C 0 0 dX8_keep_40 rfl rfl ?_
    refine g_X8_39_56 41 C dX8_keep_41 ?_
    refine v_iload_n 44 C 2 2 dX8_keep_44 rfl rfl ?_
    refine v_bipush 45 C (6 : Int32) dX8_keep_45 (by decide) ?_
    refine v_iadd 47 C dX8_keep_47 ?_
    refine v_iload_n 48 C 3 3 dX8_keep_48 rfl rfl ?_
    refine v_iadd 49 C dX8_keep_49 ?_
    refine v_aload_n 50 C 0 0 dX8_keep_50 rfl rfl ?_
    refine g_X8_39_15 51 C dX8_keep_51 ?_
    refine v_iload_n 54 C 3 3 dX8_keep_54 rfl rfl ?_
    refine v_iald 55 C 49 (by decide) (ce_49 G) dX8_keep_55 h (fun h => ?_)
    refine b_iast 56 C 71 (by decide) (ce_71 G) dX8_keep_56 h (fun σ6 h => ?_)
    refine v_aload_n 57 C 0 0 dX8_keep_57 rfl rfl ?_
    refine g_X8_39_56 58 C dX8_keep_58 ?_
    refine v_iload_n 61 C 2 2 dX8_keep_61 rfl rfl ?_
    refine v_bipush 62 C (12 : Int32) dX8_keep_62 (by decide) ?_
    refine v_iadd 64 C dX8_keep_64 ?_
    refine v_iload_n 65 C 3 3 dX8_keep_65 rfl rfl ?_
    refine v_iadd 66 C dX8_keep_66 ?_
    refine v_aload_n 67 C 0 0 dX8_keep_67 rfl rfl ?_
    refine g_X8_39_16 68 C dX8_keep_68 ?_
    refine v_iload_n 71 C 3 3 dX8_keep_71 rfl rfl ?_
    refine v_iald 72 C 50 (by decide) (ce_50 G) dX8_keep_72 h (fun h => ?_)
    refine b_iast 73 C 71 (by decide) (ce_71 G) dX8_keep_73 h (fun σ7 h => ?_)
    refine b_iinc 74 C 3 3 (1 : Int32) (lv2 := fun z8 => [(3, .int z8), (0, .ref (G.1 39)), (1, .int x1), (2, .int x2)]) dX8_keep_74 rfl (by decide) (by decide) (fun _ => rfl) h (fun z8 h => ?_)
    refine v_goto 77 C 20 dX8_keep_77 (by decide) ?_
    exact v_sub [1, 2, 3, 0] rfl (hc _ (Option.some.inj h).symm)
theorem w_f_X8_keep {G : Wld} {X : Cxt} (C : Cx G X RX8 cX8_keep 4 2) {σ : Sto} {a1 : Int32} {y : Sto × Int32} (h : f_X8_keep σ a1 = some y) (hK : Rx G X (some .int) (some (.int y.2)) y.1) : V G X 4 σ [(0, .ref (G.1 39)), (1, .int a1)] [] 0 := by
  unfold f_X8_keep at h
  refine v_iload_n 0 C 1 1 dX8_keep_0 rfl rfl ?_
  refine v_i2l 1 C dX8_keep_1 ?_
  refine v_lconst 2 C (0 : Int64) dX8_keep_2 (by decide) ?_
  refine v_lconst 3 C (1 : Int64) dX8_keep_3 (by decide) ?_
  refine r_f_X8_in 4 C (by decide) q_940 dX8_keep_4 (Nat.le_of_ble_eq_true rfl) h (fun σ1 v2 h => ?_)
  refine v_if_ne 7 C 13 dX8_keep_7 (by decide) h (fun h => ?_) (fun h => ?_)
  · refine v_bipush 13 C (25 : Int32) dX8_keep_13 (by decide) ?_
    refine v_iload_n 15 C 1 1 dX8_keep_15 rfl rfl ?_
    refine v_imul 16 C dX8_keep_16 ?_
    refine b_istore_n 17 C 2 (lv2 := fun z3 => [(2, .int z3), (0, .ref (G.1 39)), (1, .int a1)]) dX8_keep_17 rfl (by decide) (fun _ => rfl) h (fun z3 h => ?_)
    refine v_iconst 18 C (0 : Int32) dX8_keep_18 (by decide) ?_
    refine b_istore_n 19 C 3 (lv2 := fun z4 => [(3, .int z4), (2, .int z3), (0, .ref (G.1 39)), (1, .int a1)]) dX8_keep_19 rfl (by decide) (fun _ => rfl) h (fun z4 h => ?_)
    refine v_sub [2, 3, 1, 0] rfl ?_
    refine lp_go (Vh := fun t => V G X 4 t.1 [(0, .ref (G.1 39)), (1, .int a1), (2, .int z3), (3, .int t.2)] [] 20) h ?_
    intro t11 y11 hy11 hc11 he11
    refine w_f_X8_keep_l20 C hy11 hc11 he11 (fun σ9 z10 h => ?_)
    dsimp only at h
    refine v_aload_n 80 C 0 0 dX8_keep_80 rfl rfl ?_
    refine g_X8_39_56 81 C dX8_keep_81 ?_
    refine v_iload_n 84 C 2 2 dX8_keep_84 rfl rfl ?_
    refine v_bipush 85 C (18 : Int32) dX8_keep_85 (by decide) ?_
    refine v_iadd 87 C dX8_keep_87 ?_
    refine v_aload_n 88 C 0 0 dX8_keep_88 rfl rfl ?_
    refine g_X8_39_13 89 C dX8_keep_89 ?_
    refine b_iast 92 C 71 (by decide) (ce_71 G) dX8_keep_92 h (fun σ12 h => ?_)
    refine v_aload_n 93 C 0 0 dX8_keep_93 rfl rfl ?_
    refine g_X8_39_56 94 C dX8_keep_94 ?_
    refine v_iload_n 97 C 2 2 dX8_keep_97 rfl rfl ?_
    refine v_bipush 98 C (19 : Int32) dX8_keep_98 (by decide) ?_
    refine v_iadd 100 C dX8_keep_100 ?_
    refine v_aload_n 101 C 0 0 dX8_keep_101 rfl rfl ?_
    refine g_X8_39_17 102 C dX8_keep_102 ?_
    refine b_iast 105 C 71 (by decide) (ce_71 G) dX8_keep_105 h (fun σ13 h => ?_)
    refine v_aload_n 106 C 0 0 dX8_keep_106 rfl rfl ?_
    refine g_X8_39_56 107 C dX8_keep_107 ?_
    refine v_iload_n 110 C 2 2 dX8_keep_110 rfl rfl ?_
    refine v_bipush 111 C (20 : Int32) dX8_keep_111 (by decide) ?_
    refine v_iadd 113 C dX8_keep_113 ?_
    refine v_aload_n 114 C 0 0 dX8_keep_114 rfl rfl ?_
    refine g_X8_39_18 115 C dX8_keep_115 ?_
    refine b_iast 118 C 71 (by decide) (ce_71 G) dX8_keep_118 h (fun σ14 h => ?_)
    refine v_aload_n 119 C 0 0 dX8_keep_119 rfl rfl ?_
    refine g_X8_39_56 120 C dX8_keep_120 ?_
    refine v_iload_n 123 C 2 2 dX8_keep_123 rfl rfl ?_
    refine v_bipush 124 C (21 : Int32) dX8_keep_124 (by decide) ?_
    refine v_iadd 126 C dX8_keep_126 ?_
    refine v_aload_n 127 C 0 0 dX8_keep_127 rfl rfl ?_
    refine g_X8_39_19 128 C dX8_keep_128 ?_
    refine b_iast 131 C 71 (by decide) (ce_71 G) dX8_keep_131 h (fun σ15 h => ?_)
    refine v_aload_n 132 C 0 0 dX8_keep_132 rfl rfl ?_
    refine g_X8_39_57 133 C dX8_keep_133 ?_
    refine v_iload_n 136 C 1 1 dX8_keep_136 rfl rfl ?_
    refine v_iconst 137 C (1 : Int32) dX8_keep_137 (by decide) ?_
    refine b_zast 138 C 72 (by decide) (ce_72 G) dX8_keep_138 h (fun σ16 h => ?_)
    refine v_iconst 139 C (1 : Int32) dX8_keep_139 (by decide) ?_
    cases h
    exact v_iret 140 C hK dX8_keep_140
  · refine v_ldc 10 C dX8_keep_10 q_1024 ?_
    cases h
    exact v_iret 12 C hK dX8_keep_12
theorem c_f_X8_keep (l : Launch) (G : Wld) (hG : GI G) (σ : Sto) (a1 : Int32) (y : Sto × Int32) (h : f_X8_keep σ a1 = some y) : Ct l G yX8_keep cX8_keep 4 (some .int) 2 [.ref (G.1 39), .int a1] σ (some (.int y.2)) y.1 := by
  refine ct_intro RX8 hG (by decide) rfl (Nat.le_of_ble_eq_true rfl) (fun X hX C hK => ?_)
  subst hX
  exact w_f_X8_keep C h hK
theorem r_f_X8_keep {G : Wld} {X : Cxt} {own : String} {cc : ByteArray} {nL n : Nat} {σ : Sto} {lv : List (Nat × Value)} {st : List Value} {β : Type} {r : β} {F : Sto → Int32 → Option β} {a1 : Int32} {ix : Nat} (pc : Nat) (C : Cx G X own cc nL n) (hn : 2 < n) (h1 : Cond.methodLink own ix yX8_keep ∈ lw_gd) (hd : decode cc pc = .ok (.invokevirtual ix, 3)) (hsum : (st.map fun v => v.category).sum ≤ 8) (h : bd2 (f_X8_keep σ a1) F = some r) (kk : ∀ σ1 v, F σ1 v = some r → V G X nL σ1 lv (.int v :: st) (pc + 3)) : V G X nL σ lv (.int a1 :: .ref (G.1 39) :: st) pc := by
  obtain ⟨z, hz, h⟩ := bd2_some h
  exact v_callV pc C 39 1 [.int a1] st (c_f_X8_keep (xl X) G C.2.2.2.2.2.2.1 _ _ _ hz) hn (by decide) (by decide) (ce_39 G _ _) rfl (by decide +kernel) rfl h1 q_1227 q_1228 q_68 q_1229 rfl hsum hd (kk _ _ h)
-- f_X8_goBack
def f_X8_goBack_l33 (x2 : Int32) (σ : Sto) (x3 : Int32) : Option ((Sto × Int32) ⊕ (Sto × Int32)) :=
  if (6 : Int32) ≤ x3 then (some (.inr (σ, x3))) else (gd (inB (x2 + x3) 50) (gd (inB x3 7) (bs (su σ 48 (x3).toNatClampNeg (σ.1 71 ((x2 + x3)).toNatClampNeg)) fun σ5 => gd (inB ((x2 + (6 : Int32)) + x3) 50) (gd (inB x3 7) (bs (su σ5 49 (x3).toNatClampNeg (σ5.1 71 (((x2 + (6 : Int32)) + x3)).toNatClampNeg)) fun σ6 => gd (inB ((x2 + (12 : Int32)) + x3) 50) (gd (inB x3 6) (bs (su σ6 50 (x3).toNatClampNeg (σ6.1 71 (((x2 + (12 : Int32)) + x3)).toNatClampNeg)) fun σ7 => bs (x3 + (1 : Int32)) fun z8 => some (.inl (σ7, z8)))))))))
def f_X8_goBack (σ : Sto) (a1 : Int32) : Option (Sto × Int32) :=
  bd2 (f_X8_in σ (a1).toInt64 (0 : Int64) (1 : Int64)) fun σ1 v2 => if v2 = 0 then (some (σ1, (-1000000001 : Int32))) else (gd (inB a1 2) (if (σ1.1 72 (a1).toNatClampNeg) = 0 then (some (σ1, (-1000000003 : Int32))) else (bs ((25 : Int32) * a1) fun z3 => bs (0 : Int32) fun z4 => bE1 (lpF (fun t => f_X8_goBack_l33 z3 t.1 t.2) FU (σ1, z4)) (fun σ9 z10 => gd (inB (z3 + (18 : Int32)) 50) (bs (su σ9 39 13 (σ9.1 71 ((z3 + (18 : Int32))).toNatClampNeg)) fun σ12 => gd (inB (z3 + (19 : Int32)) 50) (bs (su σ12 39 17 (σ12.1 71 ((z3 + (19 : Int32))).toNatClampNeg)) fun σ13 => gd (inB (z3 + (20 : Int32)) 50) (bs (su σ13 39 18 (σ13.1 71 ((z3 + (20 : Int32))).toNatClampNeg)) fun σ14 => gd (inB (z3 + (21 : Int32)) 50) (bs (su σ14 39 19 (σ14.1 71 ((z3 + (21 : Int32))).toNatClampNeg)) fun σ15 => some (σ15, (1 : Int32))))))))))
theorem w_f_X8_goBack_l33 {G : Wld} {X : Cxt} (C : Cx G X RX8 cX8_goBack 4 2) {x2 : Int32} {σ : Sto} {x3 : Int32} {y : (Sto × Int32) ⊕ (Sto × Int32)} (h : f_X8_goBack_l33 x2 σ x3 = some y) (hc : ∀ t : Sto × Int32, y = .inl t → V G X 4 t.1 [(0, .ref (G.1 39)), (2, .int x2), (3, .int t.2)] [] 33) {Ve : Sto × Int32 → Prop} (he : ∀ e, y = .inr e → Ve e) (hx : ∀ (σ : Sto) (x3 : Int32), Ve (σ, x3) → V G X 4 σ [(0, .ref (G.1 39)), (2, .int x2), (3, .int x3)] [] 93) : V G X 4 σ [(0, .ref (G.1 39)), (2, .int x2), (3, .int x3)] [] 33 := by
  unfold f_X8_goBack_l33 at h
  refine v_iload_n 33 C 3 2 dX8_goBack_33 rfl rfl ?_
  refine v_bipush 34 C (6 : Int32) dX8_goBack_34 (by decide) ?_
  refine v_icmp_ge 36 C 93 dX8_goBack_36 (by decide) h (fun h => ?_) (fun h => ?_)
  · exact v_sub [0, 1, 2] rfl (hx _ _ (he _ (Option.some.inj h).symm))
  · refine v_aload_n 39 C 0 0 dX8_goBack_39 rfl rfl ?_
    refine g_X8_39_14 40 C dX8_goBack_40 ?_
    refine v_iload_n 43 C 3 2 dX8_goBack_43 rfl rfl ?_
    refine v_aload_n 44 C 0 0 dX8_goBack_44 rfl rfl ?_
    refine g_X8_39_56 45 C dX8_goBack_45 ?_
    refine v_iload_n 48 C 2 1 dX8_goBack_48 rfl rfl ?_
    refine v_iload_n 49 C 3 2 dX8_goBack_49 rfl rfl ?_
    refine v_iadd 50 C dX8_goBack_50 ?_
    refine v_iald 51 C 71 (by decide) (ce_71 G) dX8_goBack_51 h (fun h => ?_)
    refine b_iast 52 C 48 (by decide) (ce_48 G) dX8_goBack_52 h (fun σ5 h => ?_)
    refine v_aload_n 53 C 0 0 dX8_goBack_53 rfl rfl ?_
    refine g_X8_39_15 54 C dX8_goBack_54 ?_
    refine v_iload_n 57 C 3 2 dX8_goBack_57 rfl rfl ?_
    refine v_aload_n 58 C 0 0 dX8_goBack_58 rfl rfl ?_
    refine g_X8_39_56 59 C dX8_goBack_59 ?_
    refine v_iload_n 62 C 2 1 dX8_goBack_62 rfl rfl ?_
    refine v_bipush 63 C (6 : Int32) dX8_goBack_63 (by decide) ?_
    refine v_iadd 65 C dX8_goBack_65 ?_
    refine v_iload_n 66 C 3 2 dX8_goBack_66 rfl rfl ?_
    refine v_iadd 67 C dX8_goBack_67 ?_
    refine v_iald 68 C 71 (by decide) (ce_71 G) dX8_goBack_68 h (fun h => ?_)
    refine b_iast 69 C 49 (by decide) (ce_49 G) dX8_goBack_69 h (fun σ6 h => ?_)
    refine v_aload_n 70 C 0 0 dX8_goBack_70 rfl rfl ?_
    refine g_X8_39_16 71 C dX8_goBack_71 ?_
    refine v_iload_n 74 C 3 2 dX8_goBack_74 rfl rfl ?_
    refine v_aload_n 75 C 0 0 dX8_goBack_75 rfl rfl ?_
    refine g_X8_39_56 76 C dX8_goBack_76 ?_
    refine v_iload_n 79 C 2 1 dX8_goBack_79 rfl rfl ?_
    refine v_bipush 80 C (12 : Int32) dX8_goBack_80 (by decide) ?_
    refine v_iadd 82 C dX8_goBack_82 ?_
    refine v_iload_n 83 C 3 2 dX8_goBack_83 rfl rfl ?_
    refine v_iadd 84 C dX8_goBack_84 ?_
    refine v_iald 85 C 71 (by decide) (ce_71 G) dX8_goBack_85 h (fun h => ?_)
    refine b_iast 86 C 50 (by decide) (ce_50 G) dX8_goBack_86 h (fun σ7 h => ?_)
    refine b_iinc 87 C 3 2 (1 : Int32) (lv2 := fun z8 => [(3, .int z8), (0, .ref (G.1 39)), (2, .int x2)]) dX8_goBack_87 rfl (by decide) (by decide) (fun _ => rfl) h (fun z8 h => ?_)
    refine v_goto 90 C 33 dX8_goBack_90 (by decide) ?_
    exact v_sub [1, 2, 0] rfl (hc _ (Option.some.inj h).symm)
theorem w_f_X8_goBack {G : Wld} {X : Cxt} (C : Cx G X RX8 cX8_goBack 4 2) {σ : Sto} {a1 : Int32} {y : Sto × Int32} (h : f_X8_goBack σ a1 = some y) (hK : Rx G X (some .int) (some (.int y.2)) y.1) : V G X 4 σ [(0, .ref (G.1 39)), (1, .int a1)] [] 0 := by
  unfold f_X8_goBack at h
  refine v_iload_n 0 C 1 1 dX8_goBack_0 rfl rfl ?_
  refine v_i2l 1 C dX8_goBack_1 ?_
  refine v_lconst 2 C (0 : Int64) dX8_goBack_2 (by decide) ?_
  refine v_lconst 3 C (1 : Int64) dX8_goBack_3 (by decide) ?_
  refine r_f_X8_in 4 C (by decide) q_940 dX8_goBack_4 (Nat.le_of_ble_eq_true rfl) h (fun σ1 v2 h => ?_)
  refine v_if_ne 7 C 13 dX8_goBack_7 (by decide) h (fun h => ?_) (fun h => ?_)
  · refine v_aload_n 13 C 0 0 dX8_goBack_13 rfl rfl ?_
    refine g_X8_39_57 14 C dX8_goBack_14 ?_
    refine v_iload_n 17 C 1 1 dX8_goBack_17 rfl rfl ?_
    refine v_zald 18 C 72 (by decide) (ce_72 G) dX8_goBack_18 h (fun h => ?_)
    refine v_if_ne 19 C 26 dX8_goBack_19 (by decide) h (fun h => ?_) (fun h => ?_)
    · refine v_bipush 26 C (25 : Int32) dX8_goBack_26 (by decide) ?_
      refine v_iload_n 28 C 1 1 dX8_goBack_28 rfl rfl ?_
      refine v_imul 29 C dX8_goBack_29 ?_
      refine b_istore_n 30 C 2 (lv2 := fun z3 => [(2, .int z3), (0, .ref (G.1 39)), (1, .int a1)]) dX8_goBack_30 rfl (by decide) (fun _ => rfl) h (fun z3 h => ?_)
      refine v_iconst 31 C (0 : Int32) dX8_goBack_31 (by decide) ?_
      refine b_istore_n 32 C 3 (lv2 := fun z4 => [(3, .int z4), (2, .int z3), (0, .ref (G.1 39)), (1, .int a1)]) dX8_goBack_32 rfl (by decide) (fun _ => rfl) h (fun z4 h => ?_)
      refine v_sub [2, 1, 0] rfl ?_
      refine lp_go (Vh := fun t => V G X 4 t.1 [(0, .ref (G.1 39)), (2, .int z3), (3, .int t.2)] [] 33) h ?_
      intro t11 y11 hy11 hc11 he11
      refine w_f_X8_goBack_l33 C hy11 hc11 he11 (fun σ9 z10 h => ?_)
      dsimp only at h
      refine v_aload_n 93 C 0 0 dX8_goBack_93 rfl rfl ?_
      refine v_aload_n 94 C 0 0 dX8_goBack_94 rfl rfl ?_
      refine g_X8_39_56 95 C dX8_goBack_95 ?_
      refine v_iload_n 98 C 2 1 dX8_goBack_98 rfl rfl ?_
      refine v_bipush 99 C (18 : Int32) dX8_goBack_99 (by decide) ?_
      refine v_iadd 101 C dX8_goBack_101 ?_
      refine v_iald 102 C 71 (by decide) (ce_71 G) dX8_goBack_102 h (fun h => ?_)
      refine p_X8_39_13 103 C dX8_goBack_103 h (fun σ12 h => ?_)
      refine v_aload_n 106 C 0 0 dX8_goBack_106 rfl rfl ?_
      refine v_aload_n 107 C 0 0 dX8_goBack_107 rfl rfl ?_
      refine g_X8_39_56 108 C dX8_goBack_108 ?_
      refine v_iload_n 111 C 2 1 dX8_goBack_111 rfl rfl ?_
      refine v_bipush 112 C (19 : Int32) dX8_goBack_112 (by decide) ?_
      refine v_iadd 114 C dX8_goBack_114 ?_
      refine v_iald 115 C 71 (by decide) (ce_71 G) dX8_goBack_115 h (fun h => ?_)
      refine p_X8_39_17 116 C dX8_goBack_116 h (fun σ13 h => ?_)
      refine v_aload_n 119 C 0 0 dX8_goBack_119 rfl rfl ?_
      refine v_aload_n 120 C 0 0 dX8_goBack_120 rfl rfl ?_
      refine g_X8_39_56 121 C dX8_goBack_121 ?_
      refine v_iload_n 124 C 2 1 dX8_goBack_124 rfl rfl ?_
      refine v_bipush 125 C (20 : Int32) dX8_goBack_125 (by decide) ?_
      refine v_iadd 127 C dX8_goBack_127 ?_
      refine v_iald 128 C 71 (by decide) (ce_71 G) dX8_goBack_128 h (fun h => ?_)
      refine p_X8_39_18 129 C dX8_goBack_129 h (fun σ14 h => ?_)
      refine v_aload_n 132 C 0 0 dX8_goBack_132 rfl rfl ?_
      refine v_aload_n 133 C 0 0 dX8_goBack_133 rfl rfl ?_
      refine g_X8_39_56 134 C dX8_goBack_134 ?_
      refine v_iload_n 137 C 2 1 dX8_goBack_137 rfl rfl ?_
      refine v_bipush 138 C (21 : Int32) dX8_goBack_138 (by decide) ?_
      refine v_iadd 140 C dX8_goBack_140 ?_
      refine v_iald 141 C 71 (by decide) (ce_71 G) dX8_goBack_141 h (fun h => ?_)
      refine p_X8_39_19 142 C dX8_goBack_142 h (fun σ15 h => ?_)
      refine v_iconst 145 C (1 : Int32) dX8_goBack_145 (by decide) ?_
      cases h
      exact v_iret 146 C hK dX8_goBack_146
    · refine v_ldc_w 22 C dX8_goBack_22 q_1098 ?_
      cases h
      exact v_iret 25 C hK dX8_goBack_25
  · refine v_ldc 10 C dX8_goBack_10 q_1024 ?_
    cases h
    exact v_iret 12 C hK dX8_goBack_12
theorem c_f_X8_goBack (l : Launch) (G : Wld) (hG : GI G) (σ : Sto) (a1 : Int32) (y : Sto × Int32) (h : f_X8_goBack σ a1 = some y) : Ct l G yX8_goBack cX8_goBack 4 (some .int) 2 [.ref (G.1 39), .int a1] σ (some (.int y.2)) y.1 := by
  refine ct_intro RX8 hG (by decide) rfl (Nat.le_of_ble_eq_true rfl) (fun X hX C hK => ?_)
  subst hX
  exact w_f_X8_goBack C h hK
theorem r_f_X8_goBack {G : Wld} {X : Cxt} {own : String} {cc : ByteArray} {nL n : Nat} {σ : Sto} {lv : List (Nat × Value)} {st : List Value} {β : Type} {r : β} {F : Sto → Int32 → Option β} {a1 : Int32} {ix : Nat} (pc : Nat) (C : Cx G X own cc nL n) (hn : 2 < n) (h1 : Cond.methodLink own ix yX8_goBack ∈ lw_gd) (hd : decode cc pc = .ok (.invokevirtual ix, 3)) (hsum : (st.map fun v => v.category).sum ≤ 8) (h : bd2 (f_X8_goBack σ a1) F = some r) (kk : ∀ σ1 v, F σ1 v = some r → V G X nL σ1 lv (.int v :: st) (pc + 3)) : V G X nL σ lv (.int a1 :: .ref (G.1 39) :: st) pc := by
  obtain ⟨z, hz, h⟩ := bd2_some h
  exact v_callV pc C 39 1 [.int a1] st (c_f_X8_goBack (xl X) G C.2.2.2.2.2.2.1 _ _ _ hz) hn (by decide) (by decide) (ce_39 G _ _) rfl (by decide +kernel) rfl h1 q_1231 q_1232 q_68 q_1233 rfl hsum hd (kk _ _ h)
