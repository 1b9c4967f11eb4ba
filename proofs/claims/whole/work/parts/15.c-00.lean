-- f_X3_take_4
def f_X3_take_4_l5 (x2 : Int64) (σ : Sto) (x4 : Int32) : Option ((Sto × Int32) ⊕ (Sto × Int32)) :=
  if x4 < 0 then (some (.inr (σ, x4))) else (if (500 : Int32) ≤ (σ.1 4 4) then (some (.inr (σ, x4))) else (gd (inB (σ.1 4 4) 500) (bs (su σ 5 ((σ.1 4 4)).toNatClampNeg (vp_nar .char (((((((x2).toUInt64 >>> ((((8 : Int32) * x4)).toInt64.toUInt64 &&& Int64.toUInt64 63)).toInt64) &&& (255 : Int64))).toInt32).toUInt32 % 65536).toInt32)) fun σ2 => bs (su σ2 4 4 ((σ2.1 4 4) + (1 : Int32))) fun σ3 => bs (x4 + (-1 : Int32)) fun z4 => some (.inl (σ3, z4)))))
def f_X3_take_4 (σ : Sto) (a1 : Int32) (a2 : Int64) : Option (Sto) :=
  bs (a1 - (1 : Int32)) fun z1 => bE1 (lpF (fun t => f_X3_take_4_l5 a2 t.1 t.2) FU (σ, z1)) (fun σ5 z6 => some σ5)
theorem w_f_X3_take_4_l5 {G : Wld} {X : Cxt} (C : Cx G X RX3 cX3_take 5 1) {x2 : Int64} {σ : Sto} {x4 : Int32} {y : (Sto × Int32) ⊕ (Sto × Int32)} (h : f_X3_take_4_l5 x2 σ x4 = some y) (hc : ∀ t : Sto × Int32, y = .inl t → V G X 5 t.1 [(0, .ref (G.1 4)), (2, .long x2), (4, .int t.2)] [] 5) {Ve : Sto × Int32 → Prop} (he : ∀ e, y = .inr e → Ve e) (hx : ∀ (σ : Sto) (x4 : Int32), Ve (σ, x4) → V G X 5 σ [(0, .ref (G.1 4)), (2, .long x2), (4, .int x4)] [] 58) : V G X 5 σ [(0, .ref (G.1 4)), (2, .long x2), (4, .int x4)] [] 5 := by
  unfold f_X3_take_4_l5 at h
  refine v_iload 5 C 4 2 dX3_take_5 rfl ?_
  refine v_if_lt 7 C 58 dX3_take_7 (by decide) h (fun h => ?_) (fun h => ?_)
  · exact v_sub [0, 1, 2] rfl (hx _ _ (he _ (Option.some.inj h).symm))
  · refine v_aload_n 10 C 0 0 dX3_take_10 rfl rfl ?_
    refine g_X3_4_4 11 C dX3_take_11 ?_
    refine v_sipush 14 C (500 : Int32) dX3_take_14 (by decide) ?_
    refine v_icmp_ge 17 C 58 dX3_take_17 (by decide) h (fun h => ?_) (fun h => ?_)
    · exact v_sub [0, 1, 2] rfl (hx _ _ (he _ (Option.some.inj h).symm))
    · refine v_aload_n 20 C 0 0 dX3_take_20 rfl rfl ?_
      refine g_X3_4_0 21 C dX3_take_21 ?_
      refine v_aload_n 24 C 0 0 dX3_take_24 rfl rfl ?_
      refine g_X3_4_4 25 C dX3_take_25 ?_
      refine v_lload_n 28 C 2 1 dX3_take_28 rfl rfl ?_
      refine v_bipush 29 C (8 : Int32) dX3_take_29 (by decide) ?_
      refine v_iload 31 C 4 2 dX3_take_31 rfl ?_
      refine v_imul 33 C dX3_take_33 ?_
      refine v_lushr 34 C dX3_take_34 ?_
      refine v_ldc2_w 35 C dX3_take_35 q_329 ?_
      refine v_land 38 C dX3_take_38 ?_
      refine v_l2i 39 C dX3_take_39 ?_
      refine v_i2c 40 C dX3_take_40 ?_
      refine b_cast 41 C 5 (by decide) (ce_5 G) dX3_take_41 h (fun σ2 h => ?_)
      refine v_aload_n 42 C 0 0 dX3_take_42 rfl rfl ?_
      refine v_dup 43 C dX3_take_43 rfl ?_
      refine g_X3_4_4 44 C dX3_take_44 ?_
      refine v_iconst 47 C (1 : Int32) dX3_take_47 (by decide) ?_
      refine v_iadd 48 C dX3_take_48 ?_
      refine p_X3_4_4 49 C dX3_take_49 h (fun σ3 h => ?_)
      refine b_iinc 52 C 4 2 (-1 : Int32) (lv2 := fun z4 => [(4, .int z4), (0, .ref (G.1 4)), (2, .long x2)]) dX3_take_52 rfl (by decide) (by decide) (fun _ => rfl) h (fun z4 h => ?_)
      refine v_goto 55 C 5 dX3_take_55 (by decide) ?_
      exact v_sub [1, 2, 0] rfl (hc _ (Option.some.inj h).symm)
theorem w_f_X3_take_4 {G : Wld} {X : Cxt} (C : Cx G X RX3 cX3_take 5 1) {σ : Sto} {a1 : Int32} {a2 : Int64} {y : Sto} (h : f_X3_take_4 σ a1 a2 = some y) (hK : Rx G X none none y) : V G X 5 σ [(0, .ref (G.1 4)), (1, .int a1), (2, .long a2)] [] 0 := by
  unfold f_X3_take_4 at h
  refine v_iload_n 0 C 1 1 dX3_take_0 rfl rfl ?_
  refine v_iconst 1 C (1 : Int32) dX3_take_1 (by decide) ?_
  refine v_isub 2 C dX3_take_2 ?_
  refine b_istore 3 C 4 (lv2 := fun z1 => [(4, .int z1), (0, .ref (G.1 4)), (1, .int a1), (2, .long a2)]) dX3_take_3 (by decide) (fun _ => rfl) h (fun z1 h => ?_)
  refine v_sub [1, 3, 0] rfl ?_
  refine lp_go (Vh := fun t => V G X 5 t.1 [(0, .ref (G.1 4)), (2, .long a2), (4, .int t.2)] [] 5) h ?_
  intro t7 y7 hy7 hc7 he7
  refine w_f_X3_take_4_l5 C hy7 hc7 he7 (fun σ5 z6 h => ?_)
  dsimp only at h
  cases h
  exact v_vret 58 C hK dX3_take_58
theorem c_f_X3_take_4 (l : Launch) (G : Wld) (hG : GI G) (σ : Sto) (a1 : Int32) (a2 : Int64) (y : Sto) (h : f_X3_take_4 σ a1 a2 = some y) : Ct l G yX3_take cX3_take 5 none 1 [.ref (G.1 4), .int a1, .long a2] σ none y := by
  refine ct_intro RX3 hG (by decide) rfl (Nat.le_of_ble_eq_true rfl) (fun X hX C hK => ?_)
  subst hX
  exact w_f_X3_take_4 C h hK
theorem r_f_X3_take_4 {G : Wld} {X : Cxt} {own : String} {cc : ByteArray} {nL n : Nat} {σ : Sto} {lv : List (Nat × Value)} {st : List Value} {β : Type} {r : β} {F : Sto → Option β} {a1 : Int32} {a2 : Int64} {ix : Nat} (pc : Nat) (C : Cx G X own cc nL n) (hn : 1 < n) (h1 : Cond.methodLink own ix yX3_take ∈ lw_gd) (hd : decode cc pc = .ok (.invokevirtual ix, 3)) (hsum : (st.map fun v => v.category).sum ≤ 8) (h : bd1 (f_X3_take_4 σ a1 a2) F = some r) (kk : ∀ σ1, F σ1 = some r → V G X nL σ1 lv (st) (pc + 3)) : V G X nL σ lv (.long a2 :: .int a1 :: .ref (G.1 4) :: st) pc := by
  obtain ⟨z, hz, h⟩ := bd1_some h
  exact v_callV pc C 4 2 [.int a1, .long a2] st (c_f_X3_take_4 (xl X) G C.2.2.2.2.2.2.1 _ _ _ _ hz) hn (by decide) (by decide) (ce_4 G _ _) rfl (by decide +kernel) rfl h1 q_326 q_327 q_61 q_328 rfl hsum hd (kk _ h)
-- f_X7_feed
def f_X7_feed_j11 (σ : Sto) : Option (Sto × Int32) :=
  some (σ, (-1000000002 : Int32))
def f_X7_feed (σ : Sto) (a1 : Int32) (a2 : Int64) : Option (Sto × Int32) :=
  if a1 < (1 : Int32) then (f_X7_feed_j11 σ) else (if a1 ≤ (8 : Int32) then (if ((σ.1 4 4) + a1) ≤ (500 : Int32) then (bd1 (f_X3_take_4 σ a1 a2) fun σ1 => some (σ1, (σ1.1 4 4))) else (some (σ, (-1000000004 : Int32)))) else (f_X7_feed_j11 σ))
theorem w_f_X7_feed_j11 {G : Wld} {X : Cxt} (C : Cx G X RX7 cX7_feed 4 2) {σ : Sto} {y : Sto × Int32} (h : f_X7_feed_j11 σ = some y) (hK : Rx G X (some .int) (some (.int y.2)) y.1) : V G X 4 σ [(0, .ref (G.1 0))] [] 11 := by
  unfold f_X7_feed_j11 at h
  refine v_ldc 11 C dX7_feed_11 q_323 ?_
  cases h
  exact v_iret 13 C hK dX7_feed_13
theorem w_f_X7_feed {G : Wld} {X : Cxt} (C : Cx G X RX7 cX7_feed 4 2) {σ : Sto} {a1 : Int32} {a2 : Int64} {y : Sto × Int32} (h : f_X7_feed σ a1 a2 = some y) (hK : Rx G X (some .int) (some (.int y.2)) y.1) : V G X 4 σ [(0, .ref (G.1 0)), (1, .int a1), (2, .long a2)] [] 0 := by
  unfold f_X7_feed at h
  refine v_iload_n 0 C 1 1 dX7_feed_0 rfl rfl ?_
  refine v_iconst 1 C (1 : Int32) dX7_feed_1 (by decide) ?_
  refine v_icmp_lt 2 C 11 dX7_feed_2 (by decide) h (fun h => ?_) (fun h => ?_)
  · exact v_sub [0] rfl (w_f_X7_feed_j11 C h hK)
  · refine v_iload_n 5 C 1 1 dX7_feed_5 rfl rfl ?_
    refine v_bipush 6 C (8 : Int32) dX7_feed_6 (by decide) ?_
    refine v_icmp_le 8 C 14 dX7_feed_8 (by decide) h (fun h => ?_) (fun h => ?_)
    · refine v_aload_n 14 C 0 0 dX7_feed_14 rfl rfl ?_
      refine g_X7_0_1 15 C dX7_feed_15 ?_
      refine g_X7_4_4 18 C dX7_feed_18 ?_
      refine v_iload_n 21 C 1 1 dX7_feed_21 rfl rfl ?_
      refine v_iadd 22 C dX7_feed_22 ?_
      refine v_sipush 23 C (500 : Int32) dX7_feed_23 (by decide) ?_
      refine v_icmp_le 26 C 32 dX7_feed_26 (by decide) h (fun h => ?_) (fun h => ?_)
      · refine v_aload_n 32 C 0 0 dX7_feed_32 rfl rfl ?_
        refine g_X7_0_1 33 C dX7_feed_33 ?_
        refine v_iload_n 36 C 1 1 dX7_feed_36 rfl rfl ?_
        refine v_lload_n 37 C 2 2 dX7_feed_37 rfl rfl ?_
        refine r_f_X3_take_4 38 C (by decide) q_325 dX7_feed_38 (Nat.le_of_ble_eq_true rfl) h (fun σ1 h => ?_)
        refine v_aload_n 41 C 0 0 dX7_feed_41 rfl rfl ?_
        refine g_X7_0_1 42 C dX7_feed_42 ?_
        refine g_X7_4_4 45 C dX7_feed_45 ?_
        cases h
        exact v_iret 48 C hK dX7_feed_48
      · refine v_ldc 29 C dX7_feed_29 q_324 ?_
        cases h
        exact v_iret 31 C hK dX7_feed_31
    · exact v_sub [0] rfl (w_f_X7_feed_j11 C h hK)
theorem c_f_X7_feed (l : Launch) (G : Wld) (hG : GI G) (σ : Sto) (a1 : Int32) (a2 : Int64) (y : Sto × Int32) (h : f_X7_feed σ a1 a2 = some y) : Ct l G yX7_feed cX7_feed 4 (some .int) 2 [.ref (G.1 0), .int a1, .long a2] σ (some (.int y.2)) y.1 := by
  refine ct_intro RX7 hG (by decide) rfl (Nat.le_of_ble_eq_true rfl) (fun X hX C hK => ?_)
  subst hX
  exact w_f_X7_feed C h hK
theorem r_f_X7_feed {G : Wld} {X : Cxt} {own : String} {cc : ByteArray} {nL n : Nat} {σ : Sto} {lv : List (Nat × Value)} {st : List Value} {β : Type} {r : β} {F : Sto → Int32 → Option β} {a1 : Int32} {a2 : Int64} {ix : Nat} (pc : Nat) (C : Cx G X own cc nL n) (hn : 2 < n) (h1 : Cond.methodLink own ix yX7_feed ∈ lw_gd) (hd : decode cc pc = .ok (.invokevirtual ix, 3)) (hsum : (st.map fun v => v.category).sum ≤ 8) (h : bd2 (f_X7_feed σ a1 a2) F = some r) (kk : ∀ σ1 v, F σ1 v = some r → V G X nL σ1 lv (.int v :: st) (pc + 3)) : V G X nL σ lv (.long a2 :: .int a1 :: .ref (G.1 0) :: st) pc := by
  obtain ⟨z, hz, h⟩ := bd2_some h
  exact v_callV pc C 0 2 [.int a1, .long a2] st (c_f_X7_feed (xl X) G C.2.2.2.2.2.2.1 _ _ _ _ hz) hn (by decide) (by decide) (ce_0 G _ _) rfl (by decide +kernel) rfl h1 q_320 q_321 q_59 q_322 rfl hsum hd (kk _ _ h)
-- f_J7_fill_53178_8
def f_J7_fill_53178_8_l5 (x1 : Int32) (x3 : Int32) (σ : Sto) (x2 : Int32) : Option ((Sto × Int32) ⊕ (Sto × Int32)) :=
  if x3 ≤ x2 then (some (.inr (σ, x2))) else (gd (inB x2 5) (bs (su σ 8 (x2).toNatClampNeg x1) fun σ3 => bs (x2 + (1 : Int32)) fun z4 => some (.inl (σ3, z4))))
def f_J7_fill_53178_8 (σ : Sto) (a1 : Int32) : Option (Sto) :=
  bs (0 : Int32) fun z1 => bs (5 : Int32) fun z2 => bE1 (lpF (fun t => f_J7_fill_53178_8_l5 a1 z2 t.1 t.2) FU (σ, z1)) (fun σ5 z6 => some σ5)
theorem w_f_J7_fill_53178_8_l5 {G : Wld} {X : Cxt} (C : Cx G X RJ7 cJ7_fill_53178 4 1) {x1 : Int32} {x3 : Int32} {σ : Sto} {x2 : Int32} {y : (Sto × Int32) ⊕ (Sto × Int32)} (h : f_J7_fill_53178_8_l5 x1 x3 σ x2 = some y) (hc : ∀ t : Sto × Int32, y = .inl t → V G X 4 t.1 [(0, .ref (G.1 8)), (1, .int x1), (2, .int t.2), (3, .int x3)] [] 5) {Ve : Sto × Int32 → Prop} (he : ∀ e, y = .inr e → Ve e) (hx : ∀ (σ : Sto) (x2 : Int32), Ve (σ, x2) → V G X 4 σ [(0, .ref (G.1 8)), (1, .int x1), (2, .int x2), (3, .int x3)] [] 20) : V G X 4 σ [(0, .ref (G.1 8)), (1, .int x1), (2, .int x2), (3, .int x3)] [] 5 := by
  unfold f_J7_fill_53178_8_l5 at h
  refine v_iload_n 5 C 2 2 dJ7_fill_53178_5 rfl rfl ?_
  refine v_iload_n 6 C 3 3 dJ7_fill_53178_6 rfl rfl ?_
  refine v_icmp_ge 7 C 20 dJ7_fill_53178_7 (by decide) h (fun h => ?_) (fun h => ?_)
  · exact v_sub [0, 1, 2, 3] rfl (hx _ _ (he _ (Option.some.inj h).symm))
  · refine v_aload_n 10 C 0 0 dJ7_fill_53178_10 rfl rfl ?_
    refine v_iload_n 11 C 2 2 dJ7_fill_53178_11 rfl rfl ?_
    refine v_iload_n 12 C 1 1 dJ7_fill_53178_12 rfl rfl ?_
    refine b_iast 13 C 8 (by decide) (ce_8 G) dJ7_fill_53178_13 h (fun σ3 h => ?_)
    refine b_iinc 14 C 2 2 (1 : Int32) (lv2 := fun z4 => [(2, .int z4), (0, .ref (G.1 8)), (1, .int x1), (3, .int x3)]) dJ7_fill_53178_14 rfl (by decide) (by decide) (fun _ => rfl) h (fun z4 h => ?_)
    refine v_goto 17 C 5 dJ7_fill_53178_17 (by decide) ?_
    exact v_sub [1, 2, 0, 3] rfl (hc _ (Option.some.inj h).symm)
theorem w_f_J7_fill_53178_8 {G : Wld} {X : Cxt} (C : Cx G X RJ7 cJ7_fill_53178 4 1) {σ : Sto} {a1 : Int32} {y : Sto} (h : f_J7_fill_53178_8 σ a1 = some y) (hK : Rx G X none none y) : V G X 4 σ [(0, .ref (G.1 8)), (1, .int a1)] [] 0 := by
  unfold f_J7_fill_53178_8 at h
  refine v_iconst 0 C (0 : Int32) dJ7_fill_53178_0 (by decide) ?_
  refine b_istore_n 1 C 2 (lv2 := fun z1 => [(2, .int z1), (0, .ref (G.1 8)), (1, .int a1)]) dJ7_fill_53178_1 rfl (by decide) (fun _ => rfl) h (fun z1 h => ?_)
  refine v_aload_n 2 C 0 1 dJ7_fill_53178_2 rfl rfl ?_
  refine v_alen 3 C 8 0 (5 : Int32) (by decide) (ce_8 G) rfl (by decide) dJ7_fill_53178_3 ?_
  refine b_istore_n 4 C 3 (lv2 := fun z2 => [(3, .int z2), (2, .int z1), (0, .ref (G.1 8)), (1, .int a1)]) dJ7_fill_53178_4 rfl (by decide) (fun _ => rfl) h (fun z2 h => ?_)
  refine v_sub [2, 3, 1, 0] rfl ?_
  refine lp_go (Vh := fun t => V G X 4 t.1 [(0, .ref (G.1 8)), (1, .int a1), (2, .int t.2), (3, .int z2)] [] 5) h ?_
  intro t7 y7 hy7 hc7 he7
  refine w_f_J7_fill_53178_8_l5 C hy7 hc7 he7 (fun σ5 z6 h => ?_)
  dsimp only at h
  cases h
  exact v_vret 20 C hK dJ7_fill_53178_20
theorem c_f_J7_fill_53178_8 (l : Launch) (G : Wld) (hG : GI G) (σ : Sto) (a1 : Int32) (y : Sto) (h : f_J7_fill_53178_8 σ a1 = some y) : Ct l G yJ7_fill_53178 cJ7_fill_53178 4 none 1 [.ref (G.1 8), .int a1] σ none y := by
  refine ct_intro RJ7 hG (by decide) rfl (Nat.le_of_ble_eq_true rfl) (fun X hX C hK => ?_)
  subst hX
  exact w_f_J7_fill_53178_8 C h hK
theorem r_f_J7_fill_53178_8 {G : Wld} {X : Cxt} {own : String} {cc : ByteArray} {nL n : Nat} {σ : Sto} {lv : List (Nat × Value)} {st : List Value} {β : Type} {r : β} {F : Sto → Option β} {a1 : Int32} {ix : Nat} (pc : Nat) (C : Cx G X own cc nL n) (hn : 1 < n) (h1 : Cond.methodLink own ix yJ7_fill_53178 ∈ lw_gd) (hd : decode cc pc = .ok (.invokestatic ix, 3)) (hsum : (st.map fun v => v.category).sum ≤ 8) (h : bd1 (f_J7_fill_53178_8 σ a1) F = some r) (kk : ∀ σ1, F σ1 = some r → V G X nL σ1 lv (st) (pc + 3)) : V G X nL σ lv (.int a1 :: .ref (G.1 8) :: st) pc := by
  obtain ⟨z, hz, h⟩ := bd1_some h
  exact v_callS pc C 2 [.ref (G.1 8), .int a1] st (c_f_J7_fill_53178_8 (xl X) G C.2.2.2.2.2.2.1 _ _ _ hz) hn (by decide) (by decide +kernel) rfl h1 q_143 q_63 q_144 rfl hsum hd (kk _ h)
-- f_X2_clear_7
def f_X2_clear_7 (σ : Sto) : Option (Sto) :=
  bd1 (f_J7_fill_53178_8 σ (0 : Int32)) fun σ1 => some σ1
theorem w_f_X2_clear_7 {G : Wld} {X : Cxt} (C : Cx G X RX2 cX2_clear 1 2) {σ : Sto} {y : Sto} (h : f_X2_clear_7 σ = some y) (hK : Rx G X none none y) : V G X 1 σ [(0, .ref (G.1 7))] [] 0 := by
  unfold f_X2_clear_7 at h
  refine v_aload_n 0 C 0 0 dX2_clear_0 rfl rfl ?_
  refine g_X2_7_0 1 C dX2_clear_1 ?_
  refine v_iconst 4 C (0 : Int32) dX2_clear_4 (by decide) ?_
  refine r_f_J7_fill_53178_8 5 C (by decide) q_342 dX2_clear_5 (Nat.le_of_ble_eq_true rfl) h (fun σ1 h => ?_)
  cases h
  exact v_vret 8 C hK dX2_clear_8
theorem c_f_X2_clear_7 (l : Launch) (G : Wld) (hG : GI G) (σ : Sto) (y : Sto) (h : f_X2_clear_7 σ = some y) : Ct l G yX2_clear cX2_clear 1 none 2 [.ref (G.1 7)] σ none y := by
  refine ct_intro RX2 hG (by decide) rfl (Nat.le_of_ble_eq_true rfl) (fun X hX C hK => ?_)
  subst hX
  exact w_f_X2_clear_7 C h hK
theorem r_f_X2_clear_7 {G : Wld} {X : Cxt} {own : String} {cc : ByteArray} {nL n : Nat} {σ : Sto} {lv : List (Nat × Value)} {st : List Value} {β : Type} {r : β} {F : Sto → Option β} {ix : Nat} (pc : Nat) (C : Cx G X own cc nL n) (hn : 2 < n) (h1 : Cond.methodLink own ix yX2_clear ∈ lw_gd) (hd : decode cc pc = .ok (.invokevirtual ix, 3)) (hsum : (st.map fun v => v.category).sum ≤ 8) (h : bd1 (f_X2_clear_7 σ) F = some r) (kk : ∀ σ1, F σ1 = some r → V G X nL σ1 lv (st) (pc + 3)) : V G X nL σ lv (.ref (G.1 7) :: st) pc := by
  obtain ⟨z, hz, h⟩ := bd1_some h
  exact v_callV pc C 7 0 [] st (c_f_X2_clear_7 (xl X) G C.2.2.2.2.2.2.1 _ _ hz) hn (by decide) (by decide) (ce_7 G _ _) rfl (by decide +kernel) rfl h1 q_339 q_340 q_60 q_341 rfl hsum hd (kk _ h)
-- f_X3_skipBlanks_4
def f_X3_skipBlanks_4_l0 (σ : Sto) : Option ((Sto) ⊕ (Sto)) :=
  if (σ.1 4 4) ≤ (σ.1 4 2) then (some (.inr σ)) else (gd (inB (σ.1 4 2) 500) (if (σ.1 5 ((σ.1 4 2)).toNatClampNeg) = (32 : Int32) then (bs (su σ 4 2 ((σ.1 4 2) + (1 : Int32))) fun σ1 => some (.inl σ1)) else (some (.inr σ))))
def f_X3_skipBlanks_4 (σ : Sto) : Option (Sto) :=
  bE0 (lpF (fun t => f_X3_skipBlanks_4_l0 t) FU σ) (fun σ2 => some σ2)
theorem w_f_X3_skipBlanks_4_l0 {G : Wld} {X : Cxt} (C : Cx G X RX3 cX3_skipBlanks 1 1) {σ : Sto} {y : (Sto) ⊕ (Sto)} (h : f_X3_skipBlanks_4_l0 σ = some y) (hc : ∀ t : Sto, y = .inl t → V G X 1 t [(0, .ref (G.1 4))] [] 0) {Ve : Sto → Prop} (he : ∀ e, y = .inr e → Ve e) (hx : ∀ (σ : Sto), Ve (σ) → V G X 1 σ [(0, .ref (G.1 4))] [] 38) : V G X 1 σ [(0, .ref (G.1 4))] [] 0 := by
  unfold f_X3_skipBlanks_4_l0 at h
  refine v_aload_n 0 C 0 0 dX3_skipBlanks_0 rfl rfl ?_
  refine g_X3_4_2 1 C dX3_skipBlanks_1 ?_
  refine v_aload_n 4 C 0 0 dX3_skipBlanks_4 rfl rfl ?_
  refine g_X3_4_4 5 C dX3_skipBlanks_5 ?_
  refine v_icmp_ge 8 C 38 dX3_skipBlanks_8 (by decide) h (fun h => ?_) (fun h => ?_)
  · exact v_sub [0] rfl (hx _ (he _ (Option.some.inj h).symm))
  · refine v_aload_n 11 C 0 0 dX3_skipBlanks_11 rfl rfl ?_
    refine g_X3_4_0 12 C dX3_skipBlanks_12 ?_
    refine v_aload_n 15 C 0 0 dX3_skipBlanks_15 rfl rfl ?_
    refine g_X3_4_2 16 C dX3_skipBlanks_16 ?_
    refine v_cald 19 C 5 (by decide) (ce_5 G) dX3_skipBlanks_19 h (fun h => ?_)
    refine v_bipush 20 C (32 : Int32) dX3_skipBlanks_20 (by decide) ?_
    refine v_icmp_ne 22 C 38 dX3_skipBlanks_22 (by decide) h (fun h => ?_) (fun h => ?_)
    · exact v_sub [0] rfl (hx _ (he _ (Option.some.inj h).symm))
    · refine v_aload_n 25 C 0 0 dX3_skipBlanks_25 rfl rfl ?_
      refine v_dup 26 C dX3_skipBlanks_26 rfl ?_
      refine g_X3_4_2 27 C dX3_skipBlanks_27 ?_
      refine v_iconst 30 C (1 : Int32) dX3_skipBlanks_30 (by decide) ?_
      refine v_iadd 31 C dX3_skipBlanks_31 ?_
      refine p_X3_4_2 32 C dX3_skipBlanks_32 h (fun σ1 h => ?_)
      refine v_goto 35 C 0 dX3_skipBlanks_35 (by decide) ?_
      exact v_sub [0] rfl (hc _ (Option.some.inj h).symm)
theorem w_f_X3_skipBlanks_4 {G : Wld} {X : Cxt} (C : Cx G X RX3 cX3_skipBlanks 1 1) {σ : Sto} {y : Sto} (h : f_X3_skipBlanks_4 σ = some y) (hK : Rx G X none none y) : V G X 1 σ [(0, .ref (G.1 4))] [] 0 := by
  unfold f_X3_skipBlanks_4 at h
  refine v_sub [0] rfl ?_
  refine lp_go (Vh := fun t => V G X 1 t [(0, .ref (G.1 4))] [] 0) h ?_
  intro t3 y3 hy3 hc3 he3
  refine w_f_X3_skipBlanks_4_l0 C hy3 hc3 he3 (fun σ2 h => ?_)
  dsimp only at h
  cases h
  exact v_vret 38 C hK dX3_skipBlanks_38
theorem c_f_X3_skipBlanks_4 (l : Launch) (G : Wld) (hG : GI G) (σ : Sto) (y : Sto) (h : f_X3_skipBlanks_4 σ = some y) : Ct l G yX3_skipBlanks cX3_skipBlanks 1 none 1 [.ref (G.1 4)] σ none y := by
  refine ct_intro RX3 hG (by decide) rfl (Nat.le_of_ble_eq_true rfl) (fun X hX C hK => ?_)
  subst hX
  exact w_f_X3_skipBlanks_4 C h hK
theorem r_f_X3_skipBlanks_4 {G : Wld} {X : Cxt} {own : String} {cc : ByteArray} {nL n : Nat} {σ : Sto} {lv : List (Nat × Value)} {st : List Value} {β : Type} {r : β} {F : Sto → Option β} {ix : Nat} (pc : Nat) (C : Cx G X own cc nL n) (hn : 1 < n) (h1 : Cond.methodLink own ix yX3_skipBlanks ∈ lw_gd) (hd : decode cc pc = .ok (.invokevirtual ix, 3)) (hsum : (st.map fun v => v.category).sum ≤ 8) (h : bd1 (f_X3_skipBlanks_4 σ) F = some r) (kk : ∀ σ1, F σ1 = some r → V G X nL σ1 lv (st) (pc + 3)) : V G X nL σ lv (.ref (G.1 4) :: st) pc := by
  obtain ⟨z, hz, h⟩ := bd1_some h
  exact v_callV pc C 4 0 [] st (c_f_X3_skipBlanks_4 (xl X) G C.2.2.2.2.2.2.1 _ _ hz) hn (by decide) (by decide) (ce_4 G _ _) rfl (by decide +kernel) rfl h1 q_345 q_0 q_61 q_346 rfl hsum hd (kk _ h)
-- f_X3_skipLetters_4
def f_X3_skipLetters_4_l0 (σ : Sto) : Option ((Sto) ⊕ (Sto)) :=
  if (σ.1 4 4) ≤ (σ.1 4 2) then (some (.inr σ)) else (gd (inB (σ.1 4 2) 500) (if (σ.1 5 ((σ.1 4 2)).toNatClampNeg) < (97 : Int32) then (some (.inr σ)) else (gd (inB (σ.1 4 2) 500) (if (122 : Int32) < (σ.1 5 ((σ.1 4 2)).toNatClampNeg) then (some (.inr σ)) else (bs (su σ 4 2 ((σ.1 4 2) + (1 : Int32))) fun σ1 => some (.inl σ1))))))
def f_X3_skipLetters_4 (σ : Sto) : Option (Sto) :=
  bE0 (lpF (fun t => f_X3_skipLetters_4_l0 t) FU σ) (fun σ2 => some σ2)
theorem w_f_X3_skipLetters_4_l0 {G : Wld} {X : Cxt} (C : Cx G X RX3 cX3_skipLetters 1 1) {σ : Sto} {y : (Sto) ⊕ (Sto)} (h : f_X3_skipLetters_4_l0 σ = some y) (hc : ∀ t : Sto, y = .inl t → V G X 1 t [(0, .ref (G.1 4))] [] 0) {Ve : Sto → Prop} (he : ∀ e, y = .inr e → Ve e) (hx : ∀ (σ : Sto), Ve (σ) → V G X 1 σ [(0, .ref (G.1 4))] [] 52) : V G X 1 σ [(0, .ref (G.1 4))] [] 0 := by
  unfold f_X3_skipLetters_4_l0 at h
  refine v_aload_n 0 C 0 0 dX3_skipLetters_0 rfl rfl ?_
  refine g_X3_4_2 1 C dX3_skipLetters_1 ?_
  refine v_aload_n 4 C 0 0 dX3_skipLetters_4 rfl rfl ?_
  refine g_X3_4_4 5 C dX3_skipLetters_5 ?_
  refine v_icmp_ge 8 C 52 dX3_skipLetters_8 (by decide) h (fun h => ?_) (fun h => ?_)
  · exact v_sub [0] rfl (hx _ (he _ (Option.some.inj h).symm))
  · refine v_aload_n 11 C 0 0 dX3_skipLetters_11 rfl rfl ?_
    refine g_X3_4_0 12 C dX3_skipLetters_12 ?_
    refine v_aload_n 15 C 0 0 dX3_skipLetters_15 rfl rfl ?_
    refine g_X3_4_2 16 C dX3_skipLetters_16 ?_
    refine v_cald 19 C 5 (by decide) (ce_5 G) dX3_skipLetters_19 h (fun h => ?_)
    refine v_bipush 20 C (97 : Int32) dX3_skipLetters_20 (by decide) ?_
    refine v_icmp_lt 22 C 52 dX3_skipLetters_22 (by decide) h (fun h => ?_) (fun h => ?_)
    · exact v_sub [0] rfl (hx _ (he _ (Option.some.inj h).symm))
    · refine v_aload_n 25 C 0 0 dX3_skipLetters_25 rfl rfl ?_
      refine g_X3_4_0 26 C dX3_skipLetters_26 ?_
      refine v_aload_n 29 C 0 0 dX3_skipLetters_29 rfl rfl ?_
      refine g_X3_4_2 30 C dX3_skipLetters_30 ?_
      refine v_cald 33 C 5 (by decide) (ce_5 G) dX3_skipLetters_33 h (fun h => ?_)
      refine v_bipush 34 C (122 : Int32) dX3_skipLetters_34 (by decide) ?_
      refine v_icmp_gt 36 C 52 dX3_skipLetters_36 (by decide) h (fun h => ?_) (fun h => ?_)
      · exact v_sub [0] rfl (hx _ (he _ (Option.some.inj h).symm))
      · refine v_aload_n 39 C 0 0 dX3_skipLetters_39 rfl rfl ?_
        refine v_dup 40 C dX3_skipLetters_40 rfl ?_
        refine g_X3_4_2 41 C dX3_skipLetters_41 ?_
        refine v_iconst 44 C (1 : Int32) dX3_skipLetters_44 (by decide) ?_
        refine v_iadd 45 C dX3_skipLetters_45 ?_
        refine p_X3_4_2 46 C dX3_skipLetters_46 h (fun σ1 h => ?_)
        refine v_goto 49 C 0 dX3_skipLetters_49 (by decide) ?_
        exact v_sub [0] rfl (hc _ (Option.some.inj h).symm)
theorem w_f_X3_skipLetters_4 {G : Wld} {X : Cxt} (C : Cx G X RX3 cX3_skipLetters 1 1) {σ : Sto} {y : Sto} (h : f_X3_skipLetters_4 σ = some y) (hK : Rx G X none none y) : V G X 1 σ [(0, .ref (G.1 4))] [] 0 := by
  unfold f_X3_skipLetters_4 at h
  refine v_sub [0] rfl ?_
  refine lp_go (Vh := fun t => V G X 1 t [(0, .ref (G.1 4))] [] 0) h ?_
  intro t3 y3 hy3 hc3 he3
  refine w_f_X3_skipLetters_4_l0 C hy3 hc3 he3 (fun σ2 h => ?_)
  dsimp only at h
  cases h
  exact v_vret 52 C hK dX3_skipLetters_52
theorem c_f_X3_skipLetters_4 (l : Launch) (G : Wld) (hG : GI G) (σ : Sto) (y : Sto) (h : f_X3_skipLetters_4 σ = some y) : Ct l G yX3_skipLetters cX3_skipLetters 1 none 1 [.ref (G.1 4)] σ none y := by
  refine ct_intro RX3 hG (by decide) rfl (Nat.le_of_ble_eq_true rfl) (fun X hX C hK => ?_)
  subst hX
  exact w_f_X3_skipLetters_4 C h hK
theorem r_f_X3_skipLetters_4 {G : Wld} {X : Cxt} {own : String} {cc : ByteArray} {nL n : Nat} {σ : Sto} {lv : List (Nat × Value)} {st : List Value} {β : Type} {r : β} {F : Sto → Option β} {ix : Nat} (pc : Nat) (C : Cx G X own cc nL n) (hn : 1 < n) (h1 : Cond.methodLink own ix yX3_skipLetters ∈ lw_gd) (hd : decode cc pc = .ok (.invokevirtual ix, 3)) (hsum : (st.map fun v => v.category).sum ≤ 8) (h : bd1 (f_X3_skipLetters_4 σ) F = some r) (kk : ∀ σ1, F σ1 = some r → V G X nL σ1 lv (st) (pc + 3)) : V G X nL σ lv (.ref (G.1 4) :: st) pc := by
  obtain ⟨z, hz, h⟩ := bd1_some h
  exact v_callV pc C 4 0 [] st (c_f_X3_skipLetters_4 (xl X) G C.2.2.2.2.2.2.1 _ _ hz) hn (by decide) (by decide) (ce_4 G _ _) rfl (by decide +kernel) rfl h1 q_353 q_2 q_61 q_354 rfl hsum hd (kk _ h)
-- f_X3_wordOf
def f_X3_wordOf (σ : Sto) (a0 : Int32) : Option (Sto × Nat) :=
  if a0 = (0 : Int32) then (some (σ, 0)) else if a0 = (1 : Int32) then (some (σ, 1)) else if a0 = (2 : Int32) then (some (σ, 2)) else if a0 = (3 : Int32) then (some (σ, 3)) else (some (σ, 4))
theorem w_f_X3_wordOf {G : Wld} {X : Cxt} (C : Cx G X RX3 cX3_wordOf 1 1) {σ : Sto} {a0 : Int32} {y : Sto × Nat} (h : f_X3_wordOf σ a0 = some y) (hK : Rx G X (some (.object "java/lang/String")) (some (.ref (G.2.2.2.2.1 y.2))) y.1) : V G X 1 σ [(0, .int a0)] [] 0 := by
  unfold f_X3_wordOf at h
  refine v_iload_n 0 C 0 0 dX3_wordOf_0 rfl rfl ?_
  by_cases c1_0 : a0 = (0 : Int32)
  · replace h := it_t h c1_0
    refine v_tableAt 1 C (off := 31) (0 : Int32) 32 c1_0 dX3_wordOf_1 (by decide) (by decide) (by decide) (by decide) ?_
    refine v_ldcS 32 C 0 (by decide) (by decide) (by decide) dX3_wordOf_32 ?_
    cases h
    exact v_aret 34 C hK dX3_wordOf_34
  · replace h := it_f h c1_0
    by_cases c1_1 : a0 = (1 : Int32)
    · replace h := it_t h c1_1
      refine v_tableAt 1 C (off := 34) (1 : Int32) 35 c1_1 dX3_wordOf_1 (by decide) (by decide) (by decide) (by decide) ?_
      refine v_ldcS 35 C 1 (by decide) (by decide) (by decide) dX3_wordOf_35 ?_
      cases h
      exact v_aret 37 C hK dX3_wordOf_37
    · replace h := it_f h c1_1
      by_cases c1_2 : a0 = (2 : Int32)
      · replace h := it_t h c1_2
        refine v_tableAt 1 C (off := 37) (2 : Int32) 38 c1_2 dX3_wordOf_1 (by decide) (by decide) (by decide) (by decide) ?_
        refine v_ldcS 38 C 2 (by decide) (by decide) (by decide) dX3_wordOf_38 ?_
        cases h
        exact v_aret 40 C hK dX3_wordOf_40
      · replace h := it_f h c1_2
        by_cases c1_3 : a0 = (3 : Int32)
        · replace h := it_t h c1_3
          refine v_tableAt 1 C (off := 40) (3 : Int32) 41 c1_3 dX3_wordOf_1 (by decide) (by decide) (by decide) (by decide) ?_
          refine v_ldcS 41 C 3 (by decide) (by decide) (by decide) dX3_wordOf_41 ?_
          cases h
          exact v_aret 43 C hK dX3_wordOf_43
        · replace h := it_f h c1_3
          refine v_tableOut 1 C 44 dX3_wordOf_1 (sw_out 4 (by decide) (fun j hj => by
            rcases (show j = 0 ∨ j = 1 ∨ j = 2 ∨ j = 3 by omega) with rfl | rfl | rfl | rfl
            · exact c1_0
            · exact c1_1
            · exact c1_2
            · exact c1_3)) (by decide) ?_
          refine v_ldcS 44 C 4 (by decide) (by decide) (by decide) dX3_wordOf_44 ?_
          cases h
          exact v_aret 46 C hK dX3_wordOf_46
theorem c_f_X3_wordOf (l : Launch) (G : Wld) (hG : GI G) (σ : Sto) (a0 : Int32) (y : Sto × Nat) (h : f_X3_wordOf σ a0 = some y) : Ct l G yX3_wordOf cX3_wordOf 1 (some (.object "java/lang/String")) 1 [.int a0] σ (some (.ref (G.2.2.2.2.1 y.2))) y.1 := by
  refine ct_intro RX3 hG (by decide) rfl (Nat.le_of_ble_eq_true rfl) (fun X hX C hK => ?_)
  subst hX
  exact w_f_X3_wordOf C h hK
theorem r_f_X3_wordOf {G : Wld} {X : Cxt} {own : String} {cc : ByteArray} {nL n : Nat} {σ : Sto} {lv : List (Nat × Value)} {st : List Value} {β : Type} {r : β} {F : Sto → Nat → Option β} {a0 : Int32} {ix : Nat} (pc : Nat) (C : Cx G X own cc nL n) (hn : 1 < n) (h1 : Cond.methodLink own ix yX3_wordOf ∈ lw_gd) (hd : decode cc pc = .ok (.invokestatic ix, 3)) (hsum : (st.map fun v => v.category).sum ≤ 8) (h : bd2 (f_X3_wordOf σ a0) F = some r) (kk : ∀ σ1 v, F σ1 v = some r → V G X nL σ1 lv (.ref (G.2.2.2.2.1 v) :: st) (pc + 3)) : V G X nL σ lv (.int a0 :: st) pc := by
  obtain ⟨z, hz, h⟩ := bd2_some h
  exact v_callS pc C 1 [.int a0] st (c_f_X3_wordOf (xl X) G C.2.2.2.2.2.2.1 _ _ _ hz) hn (by decide) (by decide +kernel) rfl h1 q_360 q_61 q_361 rfl hsum hd (kk _ _ h)
-- f_X3_isWord_4
def f_X3_isWord_4_l15 (x1 : Nat) (x2 : Int32) (x3 : Int32) (σ : Sto) (x4 : Int32) : Option ((Sto × Int32) ⊕ ((Sto × Int32) ⊕ (Sto × Int32))) :=
  if x3 ≤ x4 then (some (.inr (.inr (σ, x4)))) else (gd (inB x4 500) (gd (decide (x1 < 5)) (gd (inB (x4 - x2) (kLen.getD x1 0)) (if (σ.1 5 (x4).toNatClampNeg) = (sChr x1 (x4 - x2)) then (bs (x4 + (1 : Int32)) fun z3 => some (.inl (σ, z3))) else (gd (zB (0 : Int32)) (some (.inr (.inl (σ, (0 : Int32))))))))))
def f_X3_isWord_4 (σ : Sto) (a1 : Nat) (a2 : Int32) (a3 : Int32) : Option (Sto × Int32) :=
  gd (decide (a1 < 5)) (if (a3 - a2) = (sLen a1) then (bs a2 fun z2 => bR1 (lpF (fun t => f_X3_isWord_4_l15 a1 a2 a3 t.1 t.2) FU (σ, z2)) (fun u => some u) (fun σ4 z5 => gd (zB (1 : Int32)) (some (σ4, (1 : Int32))))) else (gd (zB (0 : Int32)) (some (σ, (0 : Int32)))))
theorem w_f_X3_isWord_4_l15 {G : Wld} {X : Cxt} (C : Cx G X RX3 cX3_isWord 5 5) {x1 : Nat} {x2 : Int32} {x3 : Int32} {σ : Sto} {x4 : Int32} {y : (Sto × Int32) ⊕ ((Sto × Int32) ⊕ (Sto × Int32))} (h : f_X3_isWord_4_l15 x1 x2 x3 σ x4 = some y) (hc : ∀ t : Sto × Int32, y = .inl t → V G X 5 t.1 [(0, .ref (G.1 4)), (1, .ref (G.2.2.2.2.1 x1)), (2, .int x2), (3, .int x3), (4, .int t.2)] [] 15) {Ve : (Sto × Int32) ⊕ (Sto × Int32) → Prop} (he : ∀ e, y = .inr e → Ve e) (hr : ∀ (σ : Sto) (v : Int32), Ve (.inl (σ, v)) → Rx G X (some .boolean) (some (.int v)) σ) (hx : ∀ (σ : Sto) (x4 : Int32), Ve (.inr (σ, x4)) → V G X 5 σ [(0, .ref (G.1 4)), (1, .ref (G.2.2.2.2.1 x1)), (2, .int x2), (3, .int x3), (4, .int x4)] [] 47) : V G X 5 σ [(0, .ref (G.1 4)), (1, .ref (G.2.2.2.2.1 x1)), (2, .int x2), (3, .int x3), (4, .int x4)] [] 15 := by
  unfold f_X3_isWord_4_l15 at h
  refine v_iload 15 C 4 4 dX3_isWord_15 rfl ?_
  refine v_iload_n 17 C 3 3 dX3_isWord_17 rfl rfl ?_
  refine v_icmp_ge 18 C 47 dX3_isWord_18 (by decide) h (fun h => ?_) (fun h => ?_)
  · exact v_sub [0, 1, 2, 3, 4] rfl (hx _ _ (he _ (Option.some.inj h).symm))
  · refine v_aload_n 21 C 0 0 dX3_isWord_21 rfl rfl ?_
    refine g_X3_4_0 22 C dX3_isWord_22 ?_
    refine v_iload 25 C 4 4 dX3_isWord_25 rfl ?_
    refine v_cald 27 C 5 (by decide) (ce_5 G) dX3_isWord_27 h (fun h => ?_)
    refine v_aload_n 28 C 1 1 dX3_isWord_28 rfl rfl ?_
    refine v_iload 29 C 4 4 dX3_isWord_29 rfl ?_
    refine v_iload_n 31 C 2 2 dX3_isWord_31 rfl rfl ?_
    refine v_isub 32 C dX3_isWord_32 ?_
    refine r_SchA 33 C (by decide) q_381 dX3_isWord_33 (Nat.le_of_ble_eq_true rfl) h (fun h => ?_)
    refine v_icmp_eq 36 C 41 dX3_isWord_36 (by decide) h (fun h => ?_) (fun h => ?_)
    · refine b_iinc 41 C 4 4 (1 : Int32) (lv2 := fun z3 => [(4, .int z3), (0, .ref (G.1 4)), (1, .ref (G.2.2.2.2.1 x1)), (2, .int x2), (3, .int x3)]) dX3_isWord_41 rfl (by decide) (by decide) (fun _ => rfl) h (fun z3 h => ?_)
      refine v_goto 44 C 15 dX3_isWord_44 (by decide) ?_
      exact v_sub [1, 2, 3, 4, 0] rfl (hc _ (Option.some.inj h).symm)
    · refine v_iconst 39 C (0 : Int32) dX3_isWord_39 (by decide) ?_
      obtain ⟨hz, h⟩ := gd_some h
      exact v_zret 40 C (zB_nar hz) (hr _ _ (he _ (Option.some.inj h).symm)) dX3_isWord_40
theorem w_f_X3_isWord_4 {G : Wld} {X : Cxt} (C : Cx G X RX3 cX3_isWord 5 5) {σ : Sto} {a1 : Nat} {a2 : Int32} {a3 : Int32} {y : Sto × Int32} (h : f_X3_isWord_4 σ a1 a2 a3 = some y) (hK : Rx G X (some .boolean) (some (.int y.2)) y.1) : V G X 5 σ [(0, .ref (G.1 4)), (1, .ref (G.2.2.2.2.1 a1)), (2, .int a2), (3, .int a3)] [] 0 := by
  unfold f_X3_isWord_4 at h
  refine v_iload_n 0 C 3 3 dX3_isWord_0 rfl rfl ?_
  refine v_iload_n 1 C 2 2 dX3_isWord_1 rfl rfl ?_
  refine v_isub 2 C dX3_isWord_2 ?_
  refine v_aload_n 3 C 1 1 dX3_isWord_3 rfl rfl ?_
  refine r_Slen 4 C (by decide) q_371 dX3_isWord_4 (Nat.le_of_ble_eq_true rfl) h (fun h => ?_)
  refine v_icmp_eq 7 C 12 dX3_isWord_7 (by decide) h (fun h => ?_) (fun h => ?_)
  · refine v_iload_n 12 C 2 2 dX3_isWord_12 rfl rfl ?_
    refine b_istore 13 C 4 (lv2 := fun z2 => [(4, .int z2), (0, .ref (G.1 4)), (1, .ref (G.2.2.2.2.1 a1)), (2, .int a2), (3, .int a3)]) dX3_isWord_13 (by decide) (fun _ => rfl) h (fun z2 h => ?_)
    refine v_sub [1, 2, 3, 4, 0] rfl ?_
    refine lp_go (Vh := fun t => V G X 5 t.1 [(0, .ref (G.1 4)), (1, .ref (G.2.2.2.2.1 a1)), (2, .int a2), (3, .int a3), (4, .int t.2)] [] 15) h ?_
    intro t6 y6 hy6 hc6 he6
    refine w_f_X3_isWord_4_l15 C hy6 hc6 he6 (fun _ _ h => by cases h; exact hK) (fun σ4 z5 h => ?_)
    dsimp only at h
    refine v_iconst 47 C (1 : Int32) dX3_isWord_47 (by decide) ?_
    obtain ⟨hz, h⟩ := gd_some h
    cases h
    exact v_zret 48 C (zB_nar hz) hK dX3_isWord_48
  · refine v_iconst 10 C (0 : Int32) dX3_isWord_10 (by decide) ?_
    obtain ⟨hz, h⟩ := gd_some h
    cases h
    exact v_zret 11 C (zB_nar hz) hK dX3_isWord_11
theorem c_f_X3_isWord_4 (l : Launch) (G : Wld) (hG : GI G) (σ : Sto) (a1 : Nat) (a2 : Int32) (a3 : Int32) (y : Sto × Int32) (h : f_X3_isWord_4 σ a1 a2 a3 = some y) : Ct l G yX3_isWord cX3_isWord 5 (some .boolean) 5 [.ref (G.1 4), .ref (G.2.2.2.2.1 a1), .int a2, .int a3] σ (some (.int y.2)) y.1 := by
  refine ct_intro RX3 hG (by decide) rfl (Nat.le_of_ble_eq_true rfl) (fun X hX C hK => ?_)
  subst hX
  exact w_f_X3_isWord_4 C h hK
theorem r_f_X3_isWord_4 {G : Wld} {X : Cxt} {own : String} {cc : ByteArray} {nL n : Nat} {σ : Sto} {lv : List (Nat × Value)} {st : List Value} {β : Type} {r : β} {F : Sto → Int32 → Option β} {a1 : Nat} {a2 : Int32} {a3 : Int32} {ix : Nat} (pc : Nat) (C : Cx G X own cc nL n) (hn : 5 < n) (h1 : Cond.methodLink own ix yX3_isWord ∈ lw_gd) (hd : decode cc pc = .ok (.invokevirtual ix, 3)) (hsum : (st.map fun v => v.category).sum ≤ 8) (h : bd2 (f_X3_isWord_4 σ a1 a2 a3) F = some r) (kk : ∀ σ1 v, F σ1 v = some r → V G X nL σ1 lv (.int v :: st) (pc + 3)) : V G X nL σ lv (.int a3 :: .int a2 :: .ref (G.2.2.2.2.1 a1) :: .ref (G.1 4) :: st) pc := by
  obtain ⟨z, hz, h⟩ := bd2_some h
  exact v_callV pc C 4 3 [.ref (G.2.2.2.2.1 a1), .int a2, .int a3] st (c_f_X3_isWord_4 (xl X) G C.2.2.2.2.2.2.1 _ _ _ _ _ hz) hn (by decide) (by decide) (ce_4 G _ _) rfl (by decide +kernel) rfl h1 q_369 q_4 q_61 q_370 rfl hsum hd (kk _ _ h)
-- f_X3_kindOfWord_4
def f_X3_kindOfWord_4_l2 (x1 : Int32) (x2 : Int32) (σ : Sto) (x3 : Int32) : Option ((Sto × Int32) ⊕ ((Sto × Int32) ⊕ (Sto × Int32))) :=
  if (5 : Int32) ≤ x3 then (some (.inr (.inr (σ, x3)))) else (bd2 (f_X3_wordOf σ x3) fun σ2 v3 => bd2 (f_X3_isWord_4 σ2 v3 x1 x2) fun σ4 v5 => if v5 = 0 then (bs (x3 + (1 : Int32)) fun z6 => some (.inl (σ4, z6))) else (some (.inr (.inl (σ4, x3)))))
def f_X3_kindOfWord_4 (σ : Sto) (a1 : Int32) (a2 : Int32) : Option (Sto × Int32) :=
  bs (0 : Int32) fun z1 => bR1 (lpF (fun t => f_X3_kindOfWord_4_l2 a1 a2 t.1 t.2) FU (σ, z1)) (fun u => some u) (fun σ7 z8 => some (σ7, (-1 : Int32)))
theorem w_f_X3_kindOfWord_4_l2 {G : Wld} {X : Cxt} (C : Cx G X RX3 cX3_kindOfWord 4 6) {x1 : Int32} {x2 : Int32} {σ : Sto} {x3 : Int32} {y : (Sto × Int32) ⊕ ((Sto × Int32) ⊕ (Sto × Int32))} (h : f_X3_kindOfWord_4_l2 x1 x2 σ x3 = some y) (hc : ∀ t : Sto × Int32, y = .inl t → V G X 4 t.1 [(0, .ref (G.1 4)), (1, .int x1), (2, .int x2), (3, .int t.2)] [] 2) {Ve : (Sto × Int32) ⊕ (Sto × Int32) → Prop} (he : ∀ e, y = .inr e → Ve e) (hr : ∀ (σ : Sto) (v : Int32), Ve (.inl (σ, v)) → Rx G X (some .int) (some (.int v)) σ) (hx : ∀ (σ : Sto) (x3 : Int32), Ve (.inr (σ, x3)) → V G X 4 σ [(0, .ref (G.1 4)), (1, .int x1), (2, .int x2), (3, .int x3)] [] 28) : V G X 4 σ [(0, .ref (G.1 4)), (1, .int x1), (2, .int x2), (3, .int x3)] [] 2 := by
  unfold f_X3_kindOfWord_4_l2 at h
  refine v_iload_n 2 C 3 3 dX3_kindOfWord_2 rfl rfl ?_
  refine v_iconst 3 C (5 : Int32) dX3_kindOfWord_3 (by decide) ?_
  refine v_icmp_ge 4 C 28 dX3_kindOfWord_4 (by decide) h (fun h => ?_) (fun h => ?_)
  · exact v_sub [0, 1, 2, 3] rfl (hx _ _ (he _ (Option.some.inj h).symm))
  · refine v_aload_n 7 C 0 0 dX3_kindOfWord_7 rfl rfl ?_
    refine v_iload_n 8 C 3 3 dX3_kindOfWord_8 rfl rfl ?_
    refine r_f_X3_wordOf 9 C (by decide) q_359 dX3_kindOfWord_9 (Nat.le_of_ble_eq_true rfl) h (fun σ2 v3 h => ?_)
    refine v_iload_n 12 C 1 1 dX3_kindOfWord_12 rfl rfl ?_
    refine v_iload_n 13 C 2 2 dX3_kindOfWord_13 rfl rfl ?_
    refine r_f_X3_isWord_4 14 C (by decide) q_367 dX3_kindOfWord_14 (Nat.le_of_ble_eq_true rfl) h (fun σ4 v5 h => ?_)
    refine v_if_eq 17 C 22 dX3_kindOfWord_17 (by decide) h (fun h => ?_) (fun h => ?_)
    · refine b_iinc 22 C 3 3 (1 : Int32) (lv2 := fun z6 => [(3, .int z6), (0, .ref (G.1 4)), (1, .int x1), (2, .int x2)]) dX3_kindOfWord_22 rfl (by decide) (by decide) (fun _ => rfl) h (fun z6 h => ?_)
      refine v_goto 25 C 2 dX3_kindOfWord_25 (by decide) ?_
      exact v_sub [1, 2, 3, 0] rfl (hc _ (Option.some.inj h).symm)
    · refine v_iload_n 20 C 3 3 dX3_kindOfWord_20 rfl rfl ?_
      exact v_iret 21 C (hr _ _ (he _ (Option.some.inj h).symm)) dX3_kindOfWord_21
theorem w_f_X3_kindOfWord_4 {G : Wld} {X : Cxt} (C : Cx G X RX3 cX3_kindOfWord 4 6) {σ : Sto} {a1 : Int32} {a2 : Int32} {y : Sto × Int32} (h : f_X3_kindOfWord_4 σ a1 a2 = some y) (hK : Rx G X (some .int) (some (.int y.2)) y.1) : V G X 4 σ [(0, .ref (G.1 4)), (1, .int a1), (2, .int a2)] [] 0 := by
  unfold f_X3_kindOfWord_4 at h
  refine v_iconst 0 C (0 : Int32) dX3_kindOfWord_0 (by decide) ?_
  refine b_istore_n 1 C 3 (lv2 := fun z1 => [(3, .int z1), (0, .ref (G.1 4)), (1, .int a1), (2, .int a2)]) dX3_kindOfWord_1 rfl (by decide) (fun _ => rfl) h (fun z1 h => ?_)
  refine v_sub [1, 2, 3, 0] rfl ?_
  refine lp_go (Vh := fun t => V G X 4 t.1 [(0, .ref (G.1 4)), (1, .int a1), (2, .int a2), (3, .int t.2)] [] 2) h ?_
  intro t9 y9 hy9 hc9 he9
  refine w_f_X3_kindOfWord_4_l2 C hy9 hc9 he9 (fun _ _ h => by cases h; exact hK) (fun σ7 z8 h => ?_)
  dsimp only at h
  refine v_iconst 28 C (-1 : Int32) dX3_kindOfWord_28 (by decide) ?_
  cases h
  exact v_iret 29 C hK dX3_kindOfWord_29
theorem c_f_X3_kindOfWord_4 (l : Launch) (G : Wld) (hG : GI G) (σ : Sto) (a1 : Int32) (a2 : Int32) (y : Sto × Int32) (h : f_X3_kindOfWord_4 σ a1 a2 = some y) : Ct l G yX3_kindOfWord cX3_kindOfWord 4 (some .int) 6 [.ref (G.1 4), .int a1, .int a2] σ (some (.int y.2)) y.1 := by
  refine ct_intro RX3 hG (by decide) rfl (Nat.le_of_ble_eq_true rfl) (fun X hX C hK => ?_)
  subst hX
  exact w_f_X3_kindOfWord_4 C h hK
theorem r_f_X3_kindOfWord_4 {G : Wld} {X : Cxt} {own : String} {cc : ByteArray} {nL n : Nat} {σ : Sto} {lv : List (Nat × Value)} {st : List Value} {β : Type} {r : β} {F : Sto → Int32 → Option β} {a1 : Int32} {a2 : Int32} {ix : Nat} (pc : Nat) (C : Cx G X own cc nL n) (hn : 6 < n) (h1 : Cond.methodLink own ix yX3_kindOfWord ∈ lw_gd) (hd : decode cc pc = .ok (.invokevirtual ix, 3)) (hsum : (st.map fun v => v.category).sum ≤ 8) (h : bd2 (f_X3_kindOfWord_4 σ a1 a2) F = some r) (kk : ∀ σ1 v, F σ1 v = some r → V G X nL σ1 lv (.int v :: st) (pc + 3)) : V G X nL σ lv (.int a2 :: .int a1 :: .ref (G.1 4) :: st) pc := by
  obtain ⟨z, hz, h⟩ := bd2_some h
  exact v_callV pc C 4 2 [.int a1, .int a2] st (c_f_X3_kindOfWord_4 (xl X) G C.2.2.2.2.2.2.1 _ _ _ _ hz) hn (by decide) (by decide) (ce_4 G _ _) rfl (by decide +kernel) rfl h1 q_357 q_3 q_61 q_358 rfl hsum hd (kk _ _ h)
-- f_X2_count_7
def f_X2_count_7 (σ : Sto) (a1 : Int32) : Option (Sto × Int32) :=
  gd (inB a1 5) (some (σ, (σ.1 8 (a1).toNatClampNeg)))
theorem w_f_X2_count_7 {G : Wld} {X : Cxt} (C : Cx G X RX2 cX2_count 2 1) {σ : Sto} {a1 : Int32} {y : Sto × Int32} (h : f_X2_count_7 σ a1 = some y) (hK : Rx G X (some .int) (some (.int y.2)) y.1) : V G X 2 σ [(0, .ref (G.1 7)), (1, .int a1)] [] 0 := by
  unfold f_X2_count_7 at h
  refine v_aload_n 0 C 0 0 dX2_count_0 rfl rfl ?_
  refine g_X2_7_0 1 C dX2_count_1 ?_
  refine v_iload_n 4 C 1 1 dX2_count_4 rfl rfl ?_
  refine v_iald 5 C 8 (by decide) (ce_8 G) dX2_count_5 h (fun h => ?_)
  cases h
  exact v_iret 6 C hK dX2_count_6
theorem c_f_X2_count_7 (l : Launch) (G : Wld) (hG : GI G) (σ : Sto) (a1 : Int32) (y : Sto × Int32) (h : f_X2_count_7 σ a1 = some y) : Ct l G yX2_count cX2_count 2 (some .int) 1 [.ref (G.1 7), .int a1] σ (some (.int y.2)) y.1 := by
  refine ct_intro RX2 hG (by decide) rfl (Nat.le_of_ble_eq_true rfl) (fun X hX C hK => ?_)
  subst hX
  exact w_f_X2_count_7 C h hK
theorem r_f_X2_count_7 {G : Wld} {X : Cxt} {own : String} {cc : ByteArray} {nL n : Nat} {σ : Sto} {lv : List (Nat × Value)} {st : List Value} {β : Type} {r : β} {F : Sto → Int32 → Option β} {a1 : Int32} {ix : Nat} (pc : Nat) (C : Cx G X own cc nL n) (hn : 1 < n) (h1 : Cond.methodLink own ix yX2_count ∈ lw_gd) (hd : decode cc pc = .ok (.invokevirtual ix, 3)) (hsum : (st.map fun v => v.category).sum ≤ 8) (h : bd2 (f_X2_count_7 σ a1) F = some r) (kk : ∀ σ1 v, F σ1 v = some r → V G X nL σ1 lv (.int v :: st) (pc + 3)) : V G X nL σ lv (.int a1 :: .ref (G.1 7) :: st) pc := by
  obtain ⟨z, hz, h⟩ := bd2_some h
  exact v_callV pc C 7 1 [.int a1] st (c_f_X2_count_7 (xl X) G C.2.2.2.2.2.2.1 _ _ _ hz) hn (by decide) (by decide) (ce_7 G _ _) rfl (by decide +kernel) rfl h1 q_428 q_429 q_60 q_430 rfl hsum hd (kk _ _ h)
-- f_X2_hasMoreThanYear_7
def f_X2_hasMoreThanYear_7_j35 (σ : Sto) (s0 : Int32) : Option (Sto × Int32) :=
  gd (zB s0) (some (σ, s0))
def f_X2_hasMoreThanYear_7 (σ : Sto) : Option (Sto × Int32) :=
  gd (inB (1 : Int32) 5) (gd (inB (2 : Int32) 5) (gd (inB (3 : Int32) 5) (gd (inB (4 : Int32) 5) (if ((((σ.1 8 ((1 : Int32)).toNatClampNeg) + (σ.1 8 ((2 : Int32)).toNatClampNeg)) + (σ.1 8 ((3 : Int32)).toNatClampNeg)) + (σ.1 8 ((4 : Int32)).toNatClampNeg)) ≤ 0 then (f_X2_hasMoreThanYear_7_j35 σ (0 : Int32)) else (f_X2_hasMoreThanYear_7_j35 σ (1 : Int32))))))
theorem w_f_X2_hasMoreThanYear_7_j35 {G : Wld} {X : Cxt} (C : Cx G X RX2 cX2_hasMoreThanYear 1 1) {σ : Sto} {s0 : Int32} {y : Sto × Int32} (h : f_X2_hasMoreThanYear_7_j35 σ s0 = some y) (hK : Rx G X (some .boolean) (some (.int y.2)) y.1) : V G X 1 σ [(0, .ref (G.1 7))] [.int s0] 35 := by
  unfold f_X2_hasMoreThanYear_7_j35 at h
  obtain ⟨hz, h⟩ := gd_some h
  cases h
  exact v_zret 35 C (zB_nar hz) hK dX2_hasMoreThanYear_35
theorem w_f_X2_hasMoreThanYear_7 {G : Wld} {X : Cxt} (C : Cx G X RX2 cX2_hasMoreThanYear 1 1) {σ : Sto} {y : Sto × Int32} (h : f_X2_hasMoreThanYear_7 σ = some y) (hK : Rx G X (some .boolean) (some (.int y.2)) y.1) : V G X 1 σ [(0, .ref (G.1 7))] [] 0 := by
  unfold f_X2_hasMoreThanYear_7 at h
  refine v_aload_n 0 C 0 0 dX2_hasMoreThanYear_0 rfl rfl ?_
  refine g_X2_7_0 1 C dX2_hasMoreThanYear_1 ?_
  refine v_iconst 4 C (1 : Int32) dX2_hasMoreThanYear_4 (by decide) ?_
  refine v_iald 5 C 8 (by decide) (ce_8 G) dX2_hasMoreThanYear_5 h (fun h => ?_)
  refine v_aload_n 6 C 0 0 dX2_hasMoreThanYear_6 rfl rfl ?_
  refine g_X2_7_0 7 C dX2_hasMoreThanYear_7 ?_
  refine v_iconst 10 C (2 : Int32) dX2_hasMoreThanYear_10 (by decide) ?_
  refine v_iald 11 C 8 (by decide) (ce_8 G) dX2_hasMoreThanYear_11 h (fun h => ?_)
  refine v_iadd 12 C dX2_hasMoreThanYear_12 ?_
  refine v_aload_n 13 C 0 0 dX2_hasMoreThanYear_13 rfl rfl ?_
  refine g_X2_7_0 14 C dX2_hasMoreThanYear_14 ?_
  refine v_iconst 17 C (3 : Int32) dX2_hasMoreThanYear_17 (by decide) ?_
  refine v_iald 18 C 8 (by decide) (ce_8 G) dX2_hasMoreThanYear_18 h (fun h => ?_)
  refine v_iadd 19 C dX2_hasMoreThanYear_19 ?_
  refine v_aload_n 20 C 0 0 dX2_hasMoreThanYear_20 rfl rfl ?_
  refine g_X2_7_0 21 C dX2_hasMoreThanYear_21 ?_
  refine v_iconst 24 C (4 : Int32) dX2_hasMoreThanYear_24 (by decide) ?_
  refine v_iald 25 C 8 (by decide) (ce_8 G) dX2_hasMoreThanYear_25 h (fun h => ?_)
  refine v_iadd 26 C dX2_hasMoreThanYear_26 ?_
  refine v_if_le 27 C 34 dX2_hasMoreThanYear_27 (by decide) h (fun h => ?_) (fun h => ?_)
  · refine v_iconst 34 C (0 : Int32) dX2_hasMoreThanYear_34 (by decide) ?_
    exact v_sub [0] rfl (w_f_X2_hasMoreThanYear_7_j35 C h hK)
  · refine v_iconst 30 C (1 : Int32) dX2_hasMoreThanYear_30 (by decide) ?_
    refine v_goto 31 C 35 dX2_hasMoreThanYear_31 (by decide) ?_
    exact v_sub [0] rfl (w_f_X2_hasMoreThanYear_7_j35 C h hK)
theorem c_f_X2_hasMoreThanYear_7 (l : Launch) (G : Wld) (hG : GI G) (σ : Sto) (y : Sto × Int32) (h : f_X2_hasMoreThanYear_7 σ = some y) : Ct l G yX2_hasMoreThanYear cX2_hasMoreThanYear 1 (some .boolean) 1 [.ref (G.1 7)] σ (some (.int y.2)) y.1 := by
  refine ct_intro RX2 hG (by decide) rfl (Nat.le_of_ble_eq_true rfl) (fun X hX C hK => ?_)
  subst hX
  exact w_f_X2_hasMoreThanYear_7 C h hK
theorem r_f_X2_hasMoreThanYear_7 {G : Wld} {X : Cxt} {own : String} {cc : ByteArray} {nL n : Nat} {σ : Sto} {lv : List (Nat × Value)} {st : List Value} {β : Type} {r : β} {F : Sto → Int32 → Option β} {ix : Nat} (pc : Nat) (C : Cx G X own cc nL n) (hn : 1 < n) (h1 : Cond.methodLink own ix yX2_hasMoreThanYear ∈ lw_gd) (hd : decode cc pc = .ok (.invokevirtual ix, 3)) (hsum : (st.map fun v => v.category).sum ≤ 8) (h : bd2 (f_X2_hasMoreThanYear_7 σ) F = some r) (kk : ∀ σ1 v, F σ1 v = some r → V G X nL σ1 lv (.int v :: st) (pc + 3)) : V G X nL σ lv (.ref (G.1 7) :: st) pc := by
  obtain ⟨z, hz, h⟩ := bd2_some h
  exact v_callV pc C 7 0 [] st (c_f_X2_hasMoreThanYear_7 (xl X) G C.2.2.2.2.2.2.1 _ _ hz) hn (by decide) (by decide) (ce_7 G _ _) rfl (by decide +kernel) rfl h1 q_424 q_425 q_60 q_426 rfl hsum hd (kk _ _ h)
-- f_X3_faultOfKind_4
def f_X3_faultOfKind_4_j19 (σ : Sto) : Option (Sto × Int32) :=
  some (σ, (1 : Int32))
def f_X3_faultOfKind_4_j42 (σ : Sto) (s0 : Int32) : Option (Sto × Int32) :=
  some (σ, s0)
def f_X3_faultOfKind_4_j21 (σ : Sto) (x1 : Int32) : Option (Sto × Int32) :=
  bd2 (f_X2_count_7 σ x1) fun σ1 v2 => gd (inB x1 (sLn 0)) (if v2 < ((sTb 0).getD (x1).toNatClampNeg 0) then (f_X3_faultOfKind_4_j42 σ1 (0 : Int32)) else (f_X3_faultOfKind_4_j42 σ1 (3 : Int32)))
def f_X3_faultOfKind_4 (σ : Sto) (a1 : Int32) : Option (Sto × Int32) :=
  if a1 = (-1 : Int32) then (f_X3_faultOfKind_4_j19 σ) else (if a1 = 0 then (bd2 (f_X2_hasMoreThanYear_7 σ) fun σ3 v4 => if v4 = 0 then (f_X3_faultOfKind_4_j21 σ3 a1) else (f_X3_faultOfKind_4_j19 σ3)) else (f_X3_faultOfKind_4_j21 σ a1))
theorem w_f_X3_faultOfKind_4_j19 {G : Wld} {X : Cxt} (C : Cx G X RX3 cX3_faultOfKind 2 2) {σ : Sto} {y : Sto × Int32} (h : f_X3_faultOfKind_4_j19 σ = some y) (hK : Rx G X (some .int) (some (.int y.2)) y.1) : V G X 2 σ [(0, .ref (G.1 4))] [] 19 := by
  unfold f_X3_faultOfKind_4_j19 at h
  refine v_iconst 19 C (1 : Int32) dX3_faultOfKind_19 (by decide) ?_
  cases h
  exact v_iret 20 C hK dX3_faultOfKind_20
theorem w_f_X3_faultOfKind_4_j42 {G : Wld} {X : Cxt} (C : Cx G X RX3 cX3_faultOfKind 2 2) {σ : Sto} {s0 : Int32} {y : Sto × Int32} (h : f_X3_faultOfKind_4_j42 σ s0 = some y) (hK : Rx G X (some .int) (some (.int y.2)) y.1) : V G X 2 σ [(0, .ref (G.1 4))] [.int s0] 42 := by
  unfold f_X3_faultOfKind_4_j42 at h
  cases h
  exact v_iret 42 C hK dX3_faultOfKind_42
theorem w_f_X3_faultOfKind_4_j21 {G : Wld} {X : Cxt} (C : Cx G X RX3 cX3_faultOfKind 2 2) {σ : Sto} {x1 : Int32} {y : Sto × Int32} (h : f_X3_faultOfKind_4_j21 σ x1 = some y) (hK : Rx G X (some .int) (some (.int y.2)) y.1) : V G X 2 σ [(0, .ref (G.1 4)), (1, .int x1)] [] 21 := by
  unfold f_X3_faultOfKind_4_j21 at h
  refine v_aload_n 21 C 0 0 dX3_faultOfKind_21 rfl rfl ?_
  refine g_X3_4_3 22 C dX3_faultOfKind_22 ?_
  refine v_iload_n 25 C 1 1 dX3_faultOfKind_25 rfl rfl ?_
  refine r_f_X2_count_7 26 C (by decide) q_427 dX3_faultOfKind_26 (Nat.le_of_ble_eq_true rfl) h (fun σ1 v2 h => ?_)
  refine v_gets 29 C 0 0 (by decide) (by decide) (by decide) rfl (by decide) dX3_faultOfKind_29 ?_
  refine v_iload_n 32 C 1 1 dX3_faultOfKind_32 rfl rfl ?_
  refine v_sald 33 C 0 (by decide) dX3_faultOfKind_33 h (fun h => ?_)
  refine v_icmp_lt 34 C 41 dX3_faultOfKind_34 (by decide) h (fun h => ?_) (fun h => ?_)
  · refine v_iconst 41 C (0 : Int32) dX3_faultOfKind_41 (by decide) ?_
    exact v_sub [0] rfl (w_f_X3_faultOfKind_4_j42 C h hK)
  · refine v_iconst 37 C (3 : Int32) dX3_faultOfKind_37 (by decide) ?_
    refine v_goto 38 C 42 dX3_faultOfKind_38 (by decide) ?_
    exact v_sub [0] rfl (w_f_X3_faultOfKind_4_j42 C h hK)
theorem w_f_X3_faultOfKind_4 {G : Wld} {X : Cxt} (C : Cx G X RX3 cX3_faultOfKind 2 2) {σ : Sto} {a1 : Int32} {y : Sto × Int32} (h : f_X3_faultOfKind_4 σ a1 = some y) (hK : Rx G X (some .int) (some (.int y.2)) y.1) : V G X 2 σ [(0, .ref (G.1 4)), (1, .int a1)] [] 0 := by
  unfold f_X3_faultOfKind_4 at h
  refine v_iload_n 0 C 1 1 dX3_faultOfKind_0 rfl rfl ?_
  refine v_iconst 1 C (-1 : Int32) dX3_faultOfKind_1 (by decide) ?_
  refine v_icmp_eq 2 C 19 dX3_faultOfKind_2 (by decide) h (fun h => ?_) (fun h => ?_)
  · exact v_sub [0] rfl (w_f_X3_faultOfKind_4_j19 C h hK)
  · refine v_iload_n 5 C 1 1 dX3_faultOfKind_5 rfl rfl ?_
    refine v_if_ne 6 C 21 dX3_faultOfKind_6 (by decide) h (fun h => ?_) (fun h => ?_)
    · exact v_sub [0, 1] rfl (w_f_X3_faultOfKind_4_j21 C h hK)
    · refine v_aload_n 9 C 0 0 dX3_faultOfKind_9 rfl rfl ?_
      refine g_X3_4_3 10 C dX3_faultOfKind_10 ?_
      refine r_f_X2_hasMoreThanYear_7 13 C (by decide) q_423 dX3_faultOfKind_13 (Nat.le_of_ble_eq_true rfl) h (fun σ3 v4 h => ?_)
      refine v_if_eq 16 C 21 dX3_faultOfKind_16 (by decide) h (fun h => ?_) (fun h => ?_)
      · exact v_sub [0, 1] rfl (w_f_X3_faultOfKind_4_j21 C h hK)
      · exact v_sub [0] rfl (w_f_X3_faultOfKind_4_j19 C h hK)
theorem c_f_X3_faultOfKind_4 (l : Launch) (G : Wld) (hG : GI G) (σ : Sto) (a1 : Int32) (y : Sto × Int32) (h : f_X3_faultOfKind_4 σ a1 = some y) : Ct l G yX3_faultOfKind cX3_faultOfKind 2 (some .int) 2 [.ref (G.1 4), .int a1] σ (some (.int y.2)) y.1 := by
  refine ct_intro RX3 hG (by decide) rfl (Nat.le_of_ble_eq_true rfl) (fun X hX C hK => ?_)
  subst hX
  exact w_f_X3_faultOfKind_4 C h hK
theorem r_f_X3_faultOfKind_4 {G : Wld} {X : Cxt} {own : String} {cc : ByteArray} {nL n : Nat} {σ : Sto} {lv : List (Nat × Value)} {st : List Value} {β : Type} {r : β} {F : Sto → Int32 → Option β} {a1 : Int32} {ix : Nat} (pc : Nat) (C : Cx G X own cc nL n) (hn : 2 < n) (h1 : Cond.methodLink own ix yX3_faultOfKind ∈ lw_gd) (hd : decode cc pc = .ok (.invokevirtual ix, 3)) (hsum : (st.map fun v => v.category).sum ≤ 8) (h : bd2 (f_X3_faultOfKind_4 σ a1) F = some r) (kk : ∀ σ1 v, F σ1 v = some r → V G X nL σ1 lv (.int v :: st) (pc + 3)) : V G X nL σ lv (.int a1 :: .ref (G.1 4) :: st) pc := by
  obtain ⟨z, hz, h⟩ := bd2_some h
  exact v_callV pc C 4 1 [.int a1] st (c_f_X3_faultOfKind_4 (xl X) G C.2.2.2.2.2.2.1 _ _ _ hz) hn (by decide) (by decide) (ce_4 G _ _) rfl (by decide +kernel) rfl h1 q_421 q_5 q_61 q_422 rfl hsum hd (kk _ _ h)
-- f_X3_noteFault_4
def f_X3_noteFault_4 (σ : Sto) (a1 : Int32) (a2 : Int32) : Option (Sto) :=
  bs (su σ 4 5 a1) fun σ1 => bs (su σ1 4 6 a2) fun σ2 => some σ2
theorem w_f_X3_noteFault_4 {G : Wld} {X : Cxt} (C : Cx G X RX3 cX3_noteFault 3 1) {σ : Sto} {a1 : Int32} {a2 : Int32} {y : Sto} (h : f_X3_noteFault_4 σ a1 a2 = some y) (hK : Rx G X none none y) : V G X 3 σ [(0, .ref (G.1 4)), (1, .int a1), (2, .int a2)] [] 0 := by
  unfold f_X3_noteFault_4 at h
  refine v_aload_n 0 C 0 0 dX3_noteFault_0 rfl rfl ?_
  refine v_iload_n 1 C 1 1 dX3_noteFault_1 rfl rfl ?_
  refine p_X3_4_5 2 C dX3_noteFault_2 h (fun σ1 h => ?_)
  refine v_aload_n 5 C 0 0 dX3_noteFault_5 rfl rfl ?_
  refine v_iload_n 6 C 2 2 dX3_noteFault_6 rfl rfl ?_
  refine p_X3_4_6 7 C dX3_noteFault_7 h (fun σ2 h => ?_)
  cases h
  exact v_vret 10 C hK dX3_noteFault_10
theorem c_f_X3_noteFault_4 (l : Launch) (G : Wld) (hG : GI G) (σ : Sto) (a1 : Int32) (a2 : Int32) (y : Sto) (h : f_X3_noteFault_4 σ a1 a2 = some y) : Ct l G yX3_noteFault cX3_noteFault 3 none 1 [.ref (G.1 4), .int a1, .int a2] σ none y := by
  refine ct_intro RX3 hG (by decide) rfl (Nat.le_of_ble_eq_true rfl) (fun X hX C hK => ?_)
  subst hX
  exact w_f_X3_noteFault_4 C h hK
theorem r_f_X3_noteFault_4 {G : Wld} {X : Cxt} {own : String} {cc : ByteArray} {nL n : Nat} {σ : Sto} {lv : List (Nat × Value)} {st : List Value} {β : Type} {r : β} {F : Sto → Option β} {a1 : Int32} {a2 : Int32} {ix : Nat} (pc : Nat) (C : Cx G X own cc nL n) (hn : 1 < n) (h1 : Cond.methodLink own ix yX3_noteFault ∈ lw_gd) (hd : decode cc pc = .ok (.invokevirtual ix, 3)) (hsum : (st.map fun v => v.category).sum ≤ 8) (h : bd1 (f_X3_noteFault_4 σ a1 a2) F = some r) (kk : ∀ σ1, F σ1 = some r → V G X nL σ1 lv (st) (pc + 3)) : V G X nL σ lv (.int a2 :: .int a1 :: .ref (G.1 4) :: st) pc := by
  obtain ⟨z, hz, h⟩ := bd1_some h
  exact v_callV pc C 4 2 [.int a1, .int a2] st (c_f_X3_noteFault_4 (xl X) G C.2.2.2.2.2.2.1 _ _ _ _ hz) hn (by decide) (by decide) (ce_4 G _ _) rfl (by decide +kernel) rfl h1 q_435 q_6 q_61 q_436 rfl hsum hd (kk _ h)
-- f_X3_readNumber_4
def f_X3_readNumber_4_j84 (σ : Sto) (x1 : Int32) (x2 : Int32) (x3 : Int32) (s0 : Int32) : Option ((Sto × Int32) ⊕ (Sto × Int32)) :=
  bs s0 fun z5 => bs (su σ 4 2 ((σ.1 4 2) + (1 : Int32))) fun σ6 => some (.inl (σ6, z5))
def f_X3_readNumber_4_l12 (x1 : Int32) (x2 : Int32) (x3 : Int32) (σ : Sto) (x4 : Int32) : Option ((Sto × Int32) ⊕ (Sto × Int32)) :=
  if (σ.1 4 4) ≤ (σ.1 4 2) then (some (.inr (σ, x4))) else (gd (inB (σ.1 4 2) 500) (if (σ.1 5 ((σ.1 4 2)).toNatClampNeg) < (48 : Int32) then (some (.inr (σ, x4))) else (gd (inB (σ.1 4 2) 500) (if (57 : Int32) < (σ.1 5 ((σ.1 4 2)).toNatClampNeg) then (some (.inr (σ, x4))) else (if (3 : Int32) ≤ ((σ.1 4 2) - x3) then (f_X3_readNumber_4_j84 σ x1 x2 x3 x4) else (gd (inB (σ.1 4 2) 500) (f_X3_readNumber_4_j84 σ x1 x2 x3 ((x4 * (10 : Int32)) + ((σ.1 5 ((σ.1 4 2)).toNatClampNeg) - (48 : Int32))))))))))
def f_X3_readNumber_4_j144 (σ : Sto) (x4 : Int32) : Option (Sto × Int32) :=
  some (σ, x4)
def f_X3_readNumber_4_j138 (σ : Sto) (x3 : Int32) (x4 : Int32) : Option (Sto × Int32) :=
  bd1 (f_X3_noteFault_4 σ (2 : Int32) x3) fun σ10 => f_X3_readNumber_4_j144 σ10 x4
def f_X3_readNumber_4 (σ : Sto) (a1 : Int32) (a2 : Int32) : Option (Sto × Int32) :=
  bd1 (f_X3_skipBlanks_4 σ) fun σ1 => bs (σ1.1 4 2) fun z3 => bs (0 : Int32) fun z4 => bE1 (lpF (fun t => f_X3_readNumber_4_l12 a1 a2 z3 t.1 t.2) FU (σ1, z4)) (fun σ7 z8 => if (σ7.1 4 2) = z3 then (bd1 (f_X3_noteFault_4 σ7 (1 : Int32) z3) fun σ12 => f_X3_readNumber_4_j144 σ12 z8) else (if (3 : Int32) < ((σ7.1 4 2) - z3) then (f_X3_readNumber_4_j138 σ7 z3 z8) else (if z8 < a1 then (f_X3_readNumber_4_j138 σ7 z3 z8) else (if z8 ≤ a2 then (f_X3_readNumber_4_j144 σ7 z8) else (f_X3_readNumber_4_j138 σ7 z3 z8)))))
theorem w_f_X3_readNumber_4_j84 {G : Wld} {X : Cxt} (C : Cx G X RX3 cX3_readNumber 5 2) {σ : Sto} {x1 : Int32} {x2 : Int32} {x3 : Int32} {s0 : Int32} {y : (Sto × Int32) ⊕ (Sto × Int32)} (h : f_X3_readNumber_4_j84 σ x1 x2 x3 s0 = some y) (hc : ∀ t : Sto × Int32, y = .inl t → V G X 5 t.1 [(0, .ref (G.1 4)), (1, .int x1), (2, .int x2), (3, .int x3), (4, .int t.2)] [] 12) {Ve : Sto × Int32 → Prop} (he : ∀ e, y = .inr e → Ve e) (hx : ∀ (σ : Sto) (x4 : Int32), Ve (σ, x4) → V G X 5 σ [(0, .ref (G.1 4)), (1, .int x1), (2, .int x2), (3, .int x3), (4, .int x4)] [] 99) : V G X 5 σ [(0, .ref (G.1 4)), (1, .int x1), (2, .int x2), (3, .int x3)] [.int s0] 84 := by
  unfold f_X3_readNumber_4_j84 at h
  refine b_istore 84 C 4 (lv2 := fun z5 => [(4, .int z5), (0, .ref (G.1 4)), (1, .int x1), (2, .int x2), (3, .int x3)]) dX3_readNumber_84 (by decide) (fun _ => rfl) h (fun z5 h => ?_)
  refine v_aload_n 86 C 0 1 dX3_readNumber_86 rfl rfl ?_
  refine v_dup 87 C dX3_readNumber_87 rfl ?_
  refine g_X3_4_2 88 C dX3_readNumber_88 ?_
  refine v_iconst 91 C (1 : Int32) dX3_readNumber_91 (by decide) ?_
  refine v_iadd 92 C dX3_readNumber_92 ?_
  refine p_X3_4_2 93 C dX3_readNumber_93 h (fun σ6 h => ?_)
  refine v_goto 96 C 12 dX3_readNumber_96 (by decide) ?_
  exact v_sub [1, 2, 3, 4, 0] rfl (hc _ (Option.some.inj h).symm)
theorem w_f_X3_readNumber_4_l12 {G : Wld} {X : Cxt} (C : Cx G X RX3 cX3_readNumber 5 2) {x1 : Int32} {x2 : Int32} {x3 : Int32} {σ : Sto} {x4 : Int32} {y : (Sto × Int32) ⊕ (Sto × Int32)} (h : f_X3_readNumber_4_l12 x1 x2 x3 σ x4 = some y) (hc : ∀ t : Sto × Int32, y = .inl t → V G X 5 t.1 [(0, .ref (G.1 4)), (1, .int x1), (2, .int x2), (3, .int x3), (4, .int t.2)] [] 12) {Ve : Sto × Int32 → Prop} (he : ∀ e, y = .inr e → Ve e) (hx : ∀ (σ : Sto) (x4 : Int32), Ve (σ, x4) → V G X 5 σ [(0, .ref (G.1 4)), (1, .int x1), (2, .int x2), (3, .int x3), (4, .int x4)] [] 99) : V G X 5 σ [(0, .ref (G.1 4)), (1, .int x1), (2, .int x2), (3, .int x3), (4, .int x4)] [] 12 := by
  unfold f_X3_readNumber_4_l12 at h
  refine v_aload_n 12 C 0 0 dX3_readNumber_12 rfl rfl ?_
  refine g_X3_4_2 13 C dX3_readNumber_13 ?_
  refine v_aload_n 16 C 0 0 dX3_readNumber_16 rfl rfl ?_
  refine g_X3_4_4 17 C dX3_readNumber_17 ?_
  refine v_icmp_ge 20 C 99 dX3_readNumber_20 (by decide) h (fun h => ?_) (fun h => ?_)
  · exact v_sub [0, 1, 2, 3, 4] rfl (hx _ _ (he _ (Option.some.inj h).symm))
  · refine v_aload_n 23 C 0 0 dX3_readNumber_23 rfl rfl ?_
    refine g_X3_4_0 24 C dX3_readNumber_24 ?_
    refine v_aload_n 27 C 0 0 dX3_readNumber_27 rfl rfl ?_
    refine g_X3_4_2 28 C dX3_readNumber_28 ?_
    refine v_cald 31 C 5 (by decide) (ce_5 G) dX3_readNumber_31 h (fun h => ?_)
    refine v_bipush 32 C (48 : Int32) dX3_readNumber_32 (by decide) ?_
    refine v_icmp_lt 34 C 99 dX3_readNumber_34 (by decide) h (fun h => ?_) (fun h => ?_)
    · exact v_sub [0, 1, 2, 3, 4] rfl (hx _ _ (he _ (Option.some.inj h).symm))
    · refine v_aload_n 37 C 0 0 dX3_readNumber_37 rfl rfl ?_
      refine g_X3_4_0 38 C dX3_readNumber_38 ?_
      refine v_aload_n 41 C 0 0 dX3_readNumber_41 rfl rfl ?_
      refine g_X3_4_2 42 C dX3_readNumber_42 ?_
      refine v_cald 45 C 5 (by decide) (ce_5 G) dX3_readNumber_45 h (fun h => ?_)
      refine v_bipush 46 C (57 : Int32) dX3_readNumber_46 (by decide) ?_
      refine v_icmp_gt 48 C 99 dX3_readNumber_48 (by decide) h (fun h => ?_) (fun h => ?_)
      · exact v_sub [0, 1, 2, 3, 4] rfl (hx _ _ (he _ (Option.some.inj h).symm))
      · refine v_aload_n 51 C 0 0 dX3_readNumber_51 rfl rfl ?_
        refine g_X3_4_2 52 C dX3_readNumber_52 ?_
        refine v_iload_n 55 C 3 3 dX3_readNumber_55 rfl rfl ?_
        refine v_isub 56 C dX3_readNumber_56 ?_
        refine v_iconst 57 C (3 : Int32) dX3_readNumber_57 (by decide) ?_
        refine v_icmp_ge 58 C 82 dX3_readNumber_58 (by decide) h (fun h => ?_) (fun h => ?_)
        · refine v_iload 82 C 4 4 dX3_readNumber_82 rfl ?_
          exact v_sub [0, 1, 2, 3] rfl (w_f_X3_readNumber_4_j84 C h hc he hx)
        · refine v_iload 61 C 4 4 dX3_readNumber_61 rfl ?_
          refine v_bipush 63 C (10 : Int32) dX3_readNumber_63 (by decide) ?_
          refine v_imul 65 C dX3_readNumber_65 ?_
          refine v_aload_n 66 C 0 0 dX3_readNumber_66 rfl rfl ?_
          refine g_X3_4_0 67 C dX3_readNumber_67 ?_
          refine v_aload_n 70 C 0 0 dX3_readNumber_70 rfl rfl ?_
          refine g_X3_4_2 71 C dX3_readNumber_71 ?_
          refine v_cald 74 C 5 (by decide) (ce_5 G) dX3_readNumber_74 h (fun h => ?_)
          refine v_bipush 75 C (48 : Int32) dX3_readNumber_75 (by decide) ?_
          refine v_isub 77 C dX3_readNumber_77 ?_
          refine v_iadd 78 C dX3_readNumber_78 ?_
          refine v_goto 79 C 84 dX3_readNumber_79 (by decide) ?_
          exact v_sub [0, 1, 2, 3] rfl (w_f_X3_readNumber_4_j84 C h hc he hx)
theorem w_f_X3_readNumber_4_j144 {G : Wld} {X : Cxt} (C : Cx G X RX3 cX3_readNumber 5 2) {σ : Sto} {x4 : Int32} {y : Sto × Int32} (h : f_X3_readNumber_4_j144 σ x4 = some y) (hK : Rx G X (some .int) (some (.int y.2)) y.1) : V G X 5 σ [(0, .ref (G.1 4)), (4, .int x4)] [] 144 := by
  unfold f_X3_readNumber_4_j144 at h
  refine v_iload 144 C 4 1 dX3_readNumber_144 rfl ?_
  cases h
  exact v_iret 146 C hK dX3_readNumber_146
theorem w_f_X3_readNumber_4_j138 {G : Wld} {X : Cxt} (C : Cx G X RX3 cX3_readNumber 5 2) {σ : Sto} {x3 : Int32} {x4 : Int32} {y : Sto × Int32} (h : f_X3_readNumber_4_j138 σ x3 x4 = some y) (hK : Rx G X (some .int) (some (.int y.2)) y.1) : V G X 5 σ [(0, .ref (G.1 4)), (3, .int x3), (4, .int x4)] [] 138 := by
  unfold f_X3_readNumber_4_j138 at h
  refine v_aload_n 138 C 0 0 dX3_readNumber_138 rfl rfl ?_
  refine v_iconst 139 C (2 : Int32) dX3_readNumber_139 (by decide) ?_
  refine v_iload_n 140 C 3 1 dX3_readNumber_140 rfl rfl ?_
  refine r_f_X3_noteFault_4 141 C (by decide) q_433 dX3_readNumber_141 (Nat.le_of_ble_eq_true rfl) h (fun σ10 h => ?_)
  exact v_sub [0, 2] rfl (w_f_X3_readNumber_4_j144 C h hK)
theorem w_f_X3_readNumber_4 {G : Wld} {X : Cxt} (C : Cx G X RX3 cX3_readNumber 5 2) {σ : Sto} {a1 : Int32} {a2 : Int32} {y : Sto × Int32} (h : f_X3_readNumber_4 σ a1 a2 = some y) (hK : Rx G X (some .int) (some (.int y.2)) y.1) : V G X 5 σ [(0, .ref (G.1 4)), (1, .int a1), (2, .int a2)] [] 0 := by
  unfold f_X3_readNumber_4 at h
  refine v_aload_n 0 C 0 0 dX3_readNumber_0 rfl rfl ?_
  refine r_f_X3_skipBlanks_4 1 C (by decide) q_343 dX3_readNumber_1 (Nat.le_of_ble_eq_true rfl) h (fun σ1 h => ?_)
  refine v_aload_n 4 C 0 0 dX3_readNumber_4 rfl rfl ?_
  refine g_X3_4_2 5 C dX3_readNumber_5 ?_
  refine b_istore_n 8 C 3 (lv2 := fun z3 => [(3, .int z3), (0, .ref (G.1 4)), (1, .int a1), (2, .int a2)]) dX3_readNumber_8 rfl (by decide) (fun _ => rfl) h (fun z3 h => ?_)
  refine v_iconst 9 C (0 : Int32) dX3_readNumber_9 (by decide) ?_
  refine b_istore 10 C 4 (lv2 := fun z4 => [(4, .int z4), (3, .int z3), (0, .ref (G.1 4)), (1, .int a1), (2, .int a2)]) dX3_readNumber_10 (by decide) (fun _ => rfl) h (fun z4 h => ?_)
  refine v_sub [2, 3, 4, 1, 0] rfl ?_
  refine lp_go (Vh := fun t => V G X 5 t.1 [(0, .ref (G.1 4)), (1, .int a1), (2, .int a2), (3, .int z3), (4, .int t.2)] [] 12) h ?_
  intro t9 y9 hy9 hc9 he9
  refine w_f_X3_readNumber_4_l12 C hy9 hc9 he9 (fun σ7 z8 h => ?_)
  dsimp only at h
  refine v_aload_n 99 C 0 0 dX3_readNumber_99 rfl rfl ?_
  refine g_X3_4_2 100 C dX3_readNumber_100 ?_
  refine v_iload_n 103 C 3 3 dX3_readNumber_103 rfl rfl ?_
  refine v_icmp_ne 104 C 116 dX3_readNumber_104 (by decide) h (fun h => ?_) (fun h => ?_)
  · refine v_aload_n 116 C 0 0 dX3_readNumber_116 rfl rfl ?_
    refine g_X3_4_2 117 C dX3_readNumber_117 ?_
    refine v_iload_n 120 C 3 3 dX3_readNumber_120 rfl rfl ?_
    refine v_isub 121 C dX3_readNumber_121 ?_
    refine v_iconst 122 C (3 : Int32) dX3_readNumber_122 (by decide) ?_
    refine v_icmp_gt 123 C 138 dX3_readNumber_123 (by decide) h (fun h => ?_) (fun h => ?_)
    · exact v_sub [0, 3, 4] rfl (w_f_X3_readNumber_4_j138 C h hK)
    · refine v_iload 126 C 4 4 dX3_readNumber_126 rfl ?_
      refine v_iload_n 128 C 1 1 dX3_readNumber_128 rfl rfl ?_
      refine v_icmp_lt 129 C 138 dX3_readNumber_129 (by decide) h (fun h => ?_) (fun h => ?_)
      · exact v_sub [0, 3, 4] rfl (w_f_X3_readNumber_4_j138 C h hK)
      · refine v_iload 132 C 4 4 dX3_readNumber_132 rfl ?_
        refine v_iload_n 134 C 2 2 dX3_readNumber_134 rfl rfl ?_
        refine v_icmp_le 135 C 144 dX3_readNumber_135 (by decide) h (fun h => ?_) (fun h => ?_)
        · exact v_sub [0, 4] rfl (w_f_X3_readNumber_4_j144 C h hK)
        · exact v_sub [0, 3, 4] rfl (w_f_X3_readNumber_4_j138 C h hK)
  · refine v_aload_n 107 C 0 0 dX3_readNumber_107 rfl rfl ?_
    refine v_iconst 108 C (1 : Int32) dX3_readNumber_108 (by decide) ?_
    refine v_iload_n 109 C 3 3 dX3_readNumber_109 rfl rfl ?_
    refine r_f_X3_noteFault_4 110 C (by decide) q_433 dX3_readNumber_110 (Nat.le_of_ble_eq_true rfl) h (fun σ12 h => ?_)
    refine v_goto 113 C 144 dX3_readNumber_113 (by decide) ?_
    exact v_sub [0, 4] rfl (w_f_X3_readNumber_4_j144 C h hK)
theorem c_f_X3_readNumber_4 (l : Launch) (G : Wld) (hG : GI G) (σ : Sto) (a1 : Int32) (a2 : Int32) (y : Sto × Int32) (h : f_X3_readNumber_4 σ a1 a2 = some y) : Ct l G yX3_readNumber cX3_readNumber 5 (some .int) 2 [.ref (G.1 4), .int a1, .int a2] σ (some (.int y.2)) y.1 := by
  refine ct_intro RX3 hG (by decide) rfl (Nat.le_of_ble_eq_true rfl) (fun X hX C hK => ?_)
  subst hX
  exact w_f_X3_readNumber_4 C h hK
theorem r_f_X3_readNumber_4 {G : Wld} {X : Cxt} {own : String} {cc : ByteArray} {nL n : Nat} {σ : Sto} {lv : List (Nat × Value)} {st : List Value} {β : Type} {r : β} {F : Sto → Int32 → Option β} {a1 : Int32} {a2 : Int32} {ix : Nat} (pc : Nat) (C : Cx G X own cc nL n) (hn : 2 < n) (h1 : Cond.methodLink own ix yX3_readNumber ∈ lw_gd) (hd : decode cc pc = .ok (.invokevirtual ix, 3)) (hsum : (st.map fun v => v.category).sum ≤ 8) (h : bd2 (f_X3_readNumber_4 σ a1 a2) F = some r) (kk : ∀ σ1 v, F σ1 v = some r → V G X nL σ1 lv (.int v :: st) (pc + 3)) : V G X nL σ lv (.int a2 :: .int a1 :: .ref (G.1 4) :: st) pc := by
  obtain ⟨z, hz, h⟩ := bd2_some h
  exact v_callV pc C 4 2 [.int a1, .int a2] st (c_f_X3_readNumber_4 (xl X) G C.2.2.2.2.2.2.1 _ _ _ _ hz) hn (by decide) (by decide) (ce_4 G _ _) rfl (by decide +kernel) rfl h1 q_445 q_7 q_61 q_446 rfl hsum hd (kk _ _ h)
-- f_X3_readEndOfClause_4
def f_X3_readEndOfClause_4_j51 (σ : Sto) : Option (Sto) :=
  some σ
def f_X3_readEndOfClause_4_j42 (σ : Sto) : Option (Sto) :=
  bd1 (f_X3_noteFault_4 σ (1 : Int32) (σ.1 4 2)) fun σ3 => f_X3_readEndOfClause_4_j51 σ3
def f_X3_readEndOfClause_4 (σ : Sto) : Option (Sto) :=
  bd1 (f_X3_skipBlanks_4 σ) fun σ1 => if (σ1.1 4 4) ≤ (σ1.1 4 2) then (f_X3_readEndOfClause_4_j42 σ1) else (gd (inB (σ1.1 4 2) 500) (if (σ1.1 5 ((σ1.1 4 2)).toNatClampNeg) = (59 : Int32) then (bs (su σ1 4 2 ((σ1.1 4 2) + (1 : Int32))) fun σ5 => f_X3_readEndOfClause_4_j51 σ5) else (f_X3_readEndOfClause_4_j42 σ1)))
theorem w_f_X3_readEndOfClause_4_j51 {G : Wld} {X : Cxt} (C : Cx G X RX3 cX3_readEndOfClause 1 2) {σ : Sto} {y : Sto} (h : f_X3_readEndOfClause_4_j51 σ = some y) (hK : Rx G X none none y) : V G X 1 σ [(0, .ref (G.1 4))] [] 51 := by
  unfold f_X3_readEndOfClause_4_j51 at h
  cases h
  exact v_vret 51 C hK dX3_readEndOfClause_51
theorem w_f_X3_readEndOfClause_4_j42 {G : Wld} {X : Cxt} (C : Cx G X RX3 cX3_readEndOfClause 1 2) {σ : Sto} {y : Sto} (h : f_X3_readEndOfClause_4_j42 σ = some y) (hK : Rx G X none none y) : V G X 1 σ [(0, .ref (G.1 4))] [] 42 := by
  unfold f_X3_readEndOfClause_4_j42 at h
  refine v_aload_n 42 C 0 0 dX3_readEndOfClause_42 rfl rfl ?_
  refine v_iconst 43 C (1 : Int32) dX3_readEndOfClause_43 (by decide) ?_
  refine v_aload_n 44 C 0 0 dX3_readEndOfClause_44 rfl rfl ?_
  refine g_X3_4_2 45 C dX3_readEndOfClause_45 ?_
  refine r_f_X3_noteFault_4 48 C (by decide) q_433 dX3_readEndOfClause_48 (Nat.le_of_ble_eq_true rfl) h (fun σ3 h => ?_)
  exact v_sub [0] rfl (w_f_X3_readEndOfClause_4_j51 C h hK)
theorem w_f_X3_readEndOfClause_4 {G : Wld} {X : Cxt} (C : Cx G X RX3 cX3_readEndOfClause 1 2) {σ : Sto} {y : Sto} (h : f_X3_readEndOfClause_4 σ = some y) (hK : Rx G X none none y) : V G X 1 σ [(0, .ref (G.1 4))] [] 0 := by
  unfold f_X3_readEndOfClause_4 at h
  refine v_aload_n 0 C 0 0 dX3_readEndOfClause_0 rfl rfl ?_
  refine r_f_X3_skipBlanks_4 1 C (by decide) q_343 dX3_readEndOfClause_1 (Nat.le_of_ble_eq_true rfl) h (fun σ1 h => ?_)
  refine v_aload_n 4 C 0 0 dX3_readEndOfClause_4 rfl rfl ?_
  refine g_X3_4_2 5 C dX3_readEndOfClause_5 ?_
  refine v_aload_n 8 C 0 0 dX3_readEndOfClause_8 rfl rfl ?_
  refine g_X3_4_4 9 C dX3_readEndOfClause_9 ?_
  refine v_icmp_ge 12 C 42 dX3_readEndOfClause_12 (by decide) h (fun h => ?_) (fun h => ?_)
  · exact v_sub [0] rfl (w_f_X3_readEndOfClause_4_j42 C h hK)
  · refine v_aload_n 15 C 0 0 dX3_readEndOfClause_15 rfl rfl ?_
    refine g_X3_4_0 16 C dX3_readEndOfClause_16 ?_
    refine v_aload_n 19 C 0 0 dX3_readEndOfClause_19 rfl rfl ?_
    refine g_X3_4_2 20 C dX3_readEndOfClause_20 ?_
    refine v_cald 23 C 5 (by decide) (ce_5 G) dX3_readEndOfClause_23 h (fun h => ?_)
    refine v_bipush 24 C (59 : Int32) dX3_readEndOfClause_24 (by decide) ?_
    refine v_icmp_ne 26 C 42 dX3_readEndOfClause_26 (by decide) h (fun h => ?_) (fun h => ?_)
    · exact v_sub [0] rfl (w_f_X3_readEndOfClause_4_j42 C h hK)
    · refine v_aload_n 29 C 0 0 dX3_readEndOfClause_29 rfl rfl ?_
      refine v_dup 30 C dX3_readEndOfClause_30 rfl ?_
      refine g_X3_4_2 31 C dX3_readEndOfClause_31 ?_
      refine v_iconst 34 C (1 : Int32) dX3_readEndOfClause_34 (by decide) ?_
      refine v_iadd 35 C dX3_readEndOfClause_35 ?_
      refine p_X3_4_2 36 C dX3_readEndOfClause_36 h (fun σ5 h => ?_)
      refine v_goto 39 C 51 dX3_readEndOfClause_39 (by decide) ?_
      exact v_sub [0] rfl (w_f_X3_readEndOfClause_4_j51 C h hK)
theorem c_f_X3_readEndOfClause_4 (l : Launch) (G : Wld) (hG : GI G) (σ : Sto) (y : Sto) (h : f_X3_readEndOfClause_4 σ = some y) : Ct l G yX3_readEndOfClause cX3_readEndOfClause 1 none 2 [.ref (G.1 4)] σ none y := by
  refine ct_intro RX3 hG (by decide) rfl (Nat.le_of_ble_eq_true rfl) (fun X hX C hK => ?_)
  subst hX
  exact w_f_X3_readEndOfClause_4 C h hK
theorem r_f_X3_readEndOfClause_4 {G : Wld} {X : Cxt} {own : String} {cc : ByteArray} {nL n : Nat} {σ : Sto} {lv : List (Nat × Value)} {st : List Value} {β : Type} {r : β} {F : Sto → Option β} {ix : Nat} (pc : Nat) (C : Cx G X own cc nL n) (hn : 2 < n) (h1 : Cond.methodLink own ix yX3_readEndOfClause ∈ lw_gd) (hd : decode cc pc = .ok (.invokevirtual ix, 3)) (hsum : (st.map fun v => v.category).sum ≤ 8) (h : bd1 (f_X3_readEndOfClause_4 σ) F = some r) (kk : ∀ σ1, F σ1 = some r → V G X nL σ1 lv (st) (pc + 3)) : V G X nL σ lv (.ref (G.1 4) :: st) pc := by
  obtain ⟨z, hz, h⟩ := bd1_some h
  exact v_callV pc C 4 0 [] st (c_f_X3_readEndOfClause_4 (xl X) G C.2.2.2.2.2.2.1 _ _ hz) hn (by decide) (by decide) (ce_4 G _ _) rfl (by decide +kernel) rfl h1 q_449 q_8 q_61 q_450 rfl hsum hd (kk _ h)
-- f_X2_add_7_6
def f_X2_add_7_6_j49 (σ : Sto) : Option (Sto) :=
  some σ
def f_X2_add_7_6 (σ : Sto) (a1 : Int32) : Option (Sto) :=
  gd (inB a1 5) (gd (inB a1 (sLn 0)) (if ((sTb 0).getD (a1).toNatClampNeg 0) ≤ (σ.1 8 (a1).toNatClampNeg) then (f_X2_add_7_6_j49 σ) else (gd (inB a1 5) (bs (((a1 * (6 : Int32)) + (σ.1 8 (a1).toNatClampNeg)) * (3 : Int32)) fun z1 => gd (decide (0 ≤ ((0 : Int32)).toInt ∧ 0 ≤ (z1).toInt ∧ 0 ≤ ((3 : Int32)).toInt ∧ ((0 : Int32)).toInt + ((3 : Int32)).toInt ≤ 3 ∧ (z1).toInt + ((3 : Int32)).toInt ≤ 90)) (bs (sc σ 9 (va_cpy (σ.1 6) (σ.1 9) ((0 : Int32)).toNatClampNeg (z1).toNatClampNeg ((3 : Int32)).toNatClampNeg)) fun σ2 => gd (inB a1 5) (gd (inB a1 5) (bs (su σ2 8 (a1).toNatClampNeg ((σ2.1 8 (a1).toNatClampNeg) + (1 : Int32))) fun σ3 => f_X2_add_7_6_j49 σ3)))))))
theorem w_f_X2_add_7_6_j49 {G : Wld} {X : Cxt} (C : Cx G X RX2 cX2_add 4 1) {σ : Sto} {y : Sto} (h : f_X2_add_7_6_j49 σ = some y) (hK : Rx G X none none y) : V G X 4 σ [(0, .ref (G.1 7)), (2, .ref (G.1 6))] [] 49 := by
  unfold f_X2_add_7_6_j49 at h
  cases h
  exact v_vret 49 C hK dX2_add_49
theorem w_f_X2_add_7_6 {G : Wld} {X : Cxt} (C : Cx G X RX2 cX2_add 4 1) {σ : Sto} {a1 : Int32} {y : Sto} (h : f_X2_add_7_6 σ a1 = some y) (hK : Rx G X none none y) : V G X 4 σ [(0, .ref (G.1 7)), (1, .int a1), (2, .ref (G.1 6))] [] 0 := by
  unfold f_X2_add_7_6 at h
  refine v_aload_n 0 C 0 0 dX2_add_0 rfl rfl ?_
  refine g_X2_7_0 1 C dX2_add_1 ?_
  refine v_iload_n 4 C 1 1 dX2_add_4 rfl rfl ?_
  refine v_iald 5 C 8 (by decide) (ce_8 G) dX2_add_5 h (fun h => ?_)
  refine v_gets 6 C 0 4 (by decide) (by decide) (by decide) rfl (by decide) dX2_add_6 ?_
  refine v_iload_n 9 C 1 1 dX2_add_9 rfl rfl ?_
  refine v_sald 10 C 0 (by decide) dX2_add_10 h (fun h => ?_)
  refine v_icmp_ge 11 C 49 dX2_add_11 (by decide) h (fun h => ?_) (fun h => ?_)
  · exact v_sub [0, 2] rfl (w_f_X2_add_7_6_j49 C h hK)
  · refine v_iload_n 14 C 1 1 dX2_add_14 rfl rfl ?_
    refine v_bipush 15 C (6 : Int32) dX2_add_15 (by decide) ?_
    refine v_imul 17 C dX2_add_17 ?_
    refine v_aload_n 18 C 0 0 dX2_add_18 rfl rfl ?_
    refine g_X2_7_0 19 C dX2_add_19 ?_
    refine v_iload_n 22 C 1 1 dX2_add_22 rfl rfl ?_
    refine v_iald 23 C 8 (by decide) (ce_8 G) dX2_add_23 h (fun h => ?_)
    refine v_iadd 24 C dX2_add_24 ?_
    refine v_iconst 25 C (3 : Int32) dX2_add_25 (by decide) ?_
    refine v_imul 26 C dX2_add_26 ?_
    refine b_istore_n 27 C 3 (lv2 := fun z1 => [(3, .int z1), (0, .ref (G.1 7)), (1, .int a1), (2, .ref (G.1 6))]) dX2_add_27 rfl (by decide) (fun _ => rfl) h (fun z1 h => ?_)
    refine v_aload_n 28 C 2 3 dX2_add_28 rfl rfl ?_
    refine v_iconst 29 C (0 : Int32) dX2_add_29 (by decide) ?_
    refine v_aload_n 30 C 0 1 dX2_add_30 rfl rfl ?_
    refine g_X2_7_1 31 C dX2_add_31 ?_
    refine v_iload_n 34 C 3 0 dX2_add_34 rfl rfl ?_
    refine v_iconst 35 C (3 : Int32) dX2_add_35 (by decide) ?_
    refine b_copy 36 C 6 9 (by decide) (by decide) (ce_6 G) (ce_9 G) q_456 q_458 q_457 q_73 (Nat.le_of_ble_eq_true rfl) (by decide) dX2_add_36 h (fun σ2 h => ?_)
    refine v_aload_n 39 C 0 1 dX2_add_39 rfl rfl ?_
    refine g_X2_7_0 40 C dX2_add_40 ?_
    refine v_iload_n 43 C 1 2 dX2_add_43 rfl rfl ?_
    refine v_dup2 44 C dX2_add_44 rfl rfl ?_
    refine v_iald 45 C 8 (by decide) (ce_8 G) dX2_add_45 h (fun h => ?_)
    refine v_iconst 46 C (1 : Int32) dX2_add_46 (by decide) ?_
    refine v_iadd 47 C dX2_add_47 ?_
    refine b_iast 48 C 8 (by decide) (ce_8 G) dX2_add_48 h (fun σ3 h => ?_)
    exact v_sub [1, 3] rfl (w_f_X2_add_7_6_j49 C h hK)
theorem c_f_X2_add_7_6 (l : Launch) (G : Wld) (hG : GI G) (σ : Sto) (a1 : Int32) (y : Sto) (h : f_X2_add_7_6 σ a1 = some y) : Ct l G yX2_add cX2_add 4 none 1 [.ref (G.1 7), .int a1, .ref (G.1 6)] σ none y := by
  refine ct_intro RX2 hG (by decide) rfl (Nat.le_of_ble_eq_true rfl) (fun X hX C hK => ?_)
  subst hX
  exact w_f_X2_add_7_6 C h hK
theorem r_f_X2_add_7_6 {G : Wld} {X : Cxt} {own : String} {cc : ByteArray} {nL n : Nat} {σ : Sto} {lv : List (Nat × Value)} {st : List Value} {β : Type} {r : β} {F : Sto → Option β} {a1 : Int32} {ix : Nat} (pc : Nat) (C : Cx G X own cc nL n) (hn : 1 < n) (h1 : Cond.methodLink own ix yX2_add ∈ lw_gd) (hd : decode cc pc = .ok (.invokevirtual ix, 3)) (hsum : (st.map fun v => v.category).sum ≤ 8) (h : bd1 (f_X2_add_7_6 σ a1) F = some r) (kk : ∀ σ1, F σ1 = some r → V G X nL σ1 lv (st) (pc + 3)) : V G X nL σ lv (.ref (G.1 6) :: .int a1 :: .ref (G.1 7) :: st) pc := by
  obtain ⟨z, hz, h⟩ := bd1_some h
  exact v_callV pc C 7 2 [.int a1, .ref (G.1 6)] st (c_f_X2_add_7_6 (xl X) G C.2.2.2.2.2.2.1 _ _ _ hz) hn (by decide) (by decide) (ce_7 G _ _) rfl (by decide +kernel) rfl h1 q_452 q_453 q_60 q_454 rfl hsum hd (kk _ h)
-- f_X3_readClause_4
def f_X3_readClause_4_l39 (x2 : Int32) (σ : Sto) (x4 : Int32) : Option ((Sto × Int32) ⊕ (Sto × Int32)) :=
  gd (inB x2 (sLn 1)) (if ((sTb 1).getD (x2).toNatClampNeg 0) ≤ x4 then (some (.inr (σ, x4))) else (if (σ.1 4 5) = 0 then (bs ((x2 * (3 : Int32)) + x4) fun z11 => gd (inB z11 (sLn 2)) (gd (inB z11 (sLn 3)) (bd2 (f_X3_readNumber_4 σ ((sTb 2).getD (z11).toNatClampNeg 0) ((sTb 3).getD (z11).toNatClampNeg 0)) fun σ12 v13 => gd (inB x4 3) (bs (su σ12 6 (x4).toNatClampNeg v13) fun σ14 => bs (x4 + (1 : Int32)) fun z15 => some (.inl (σ14, z15)))))) else (some (.inr (σ, x4)))))
def f_X3_readClause_4_j116 (σ : Sto) : Option (Sto) :=
  some σ
def f_X3_readClause_4 (σ : Sto) : Option (Sto) :=
  bs (σ.1 4 2) fun z1 => bd1 (f_X3_skipLetters_4 σ) fun σ2 => bd2 (f_X3_kindOfWord_4 σ2 z1 (σ2.1 4 2)) fun σ4 v5 => bs v5 fun z6 => bd2 (f_X3_faultOfKind_4 σ4 z6) fun σ7 v8 => bs v8 fun z9 => if z9 = 0 then (bs (0 : Int32) fun z10 => bE1 (lpF (fun t => f_X3_readClause_4_l39 z6 t.1 t.2) FU (σ7, z10)) (fun σ16 z17 => if (σ16.1 4 5) = 0 then (bd1 (f_X3_readEndOfClause_4 σ16) fun σ19 => bd1 (f_X2_add_7_6 σ19 z6) fun σ21 => f_X3_readClause_4_j116 σ21) else (f_X3_readClause_4_j116 σ16))) else (bd1 (f_X3_noteFault_4 σ7 z9 z1) fun σ23 => some σ23)
theorem w_f_X3_readClause_4_l39 {G : Wld} {X : Cxt} (C : Cx G X RX3 cX3_readClause 6 7) {x2 : Int32} {σ : Sto} {x4 : Int32} {y : (Sto × Int32) ⊕ (Sto × Int32)} (h : f_X3_readClause_4_l39 x2 σ x4 = some y) (hc : ∀ t : Sto × Int32, y = .inl t → V G X 6 t.1 [(0, .ref (G.1 4)), (2, .int x2), (4, .int t.2)] [] 39) {Ve : Sto × Int32 → Prop} (he : ∀ e, y = .inr e → Ve e) (hx : ∀ (σ : Sto) (x4 : Int32), Ve (σ, x4) → V G X 6 σ [(0, .ref (G.1 4)), (2, .int x2), (4, .int x4)] [] 93) : V G X 6 σ [(0, .ref (G.1 4)), (2, .int x2), (4, .int x4)] [] 39 := by
  unfold f_X3_readClause_4_l39 at h
  refine v_iload 39 C 4 2 dX3_readClause_39 rfl ?_
  refine v_gets 41 C 1 1 (by decide) (by decide) (by decide) rfl (by decide) dX3_readClause_41 ?_
  refine v_iload_n 44 C 2 1 dX3_readClause_44 rfl rfl ?_
  refine v_sald 45 C 1 (by decide) dX3_readClause_45 h (fun h => ?_)
  refine v_icmp_ge 46 C 93 dX3_readClause_46 (by decide) h (fun h => ?_) (fun h => ?_)
  · exact v_sub [0, 1, 2] rfl (hx _ _ (he _ (Option.some.inj h).symm))
  · refine v_aload_n 49 C 0 0 dX3_readClause_49 rfl rfl ?_
    refine g_X3_4_5 50 C dX3_readClause_50 ?_
    refine v_if_ne 53 C 93 dX3_readClause_53 (by decide) h (fun h => ?_) (fun h => ?_)
    · exact v_sub [0, 1, 2] rfl (hx _ _ (he _ (Option.some.inj h).symm))
    · refine v_iload_n 56 C 2 1 dX3_readClause_56 rfl rfl ?_
      refine v_iconst 57 C (3 : Int32) dX3_readClause_57 (by decide) ?_
      refine v_imul 58 C dX3_readClause_58 ?_
      refine v_iload 59 C 4 2 dX3_readClause_59 rfl ?_
      refine v_iadd 61 C dX3_readClause_61 ?_
      refine b_istore 62 C 5 (lv2 := fun z11 => [(5, .int z11), (0, .ref (G.1 4)), (2, .int x2), (4, .int x4)]) dX3_readClause_62 (by decide) (fun _ => rfl) h (fun z11 h => ?_)
      refine v_aload_n 64 C 0 1 dX3_readClause_64 rfl rfl ?_
      refine g_X3_4_1 65 C dX3_readClause_65 ?_
      refine v_iload 68 C 4 3 dX3_readClause_68 rfl ?_
      refine v_aload_n 70 C 0 1 dX3_readClause_70 rfl rfl ?_
      refine v_gets 71 C 2 2 (by decide) (by decide) (by decide) rfl (by decide) dX3_readClause_71 ?_
      refine v_iload 74 C 5 0 dX3_readClause_74 rfl ?_
      refine v_sald 76 C 2 (by decide) dX3_readClause_76 h (fun h => ?_)
      refine v_gets 77 C 3 3 (by decide) (by decide) (by decide) rfl (by decide) dX3_readClause_77 ?_
      refine v_iload 80 C 5 0 dX3_readClause_80 rfl ?_
      refine v_sald 82 C 3 (by decide) dX3_readClause_82 h (fun h => ?_)
      refine r_f_X3_readNumber_4 83 C (by decide) q_443 dX3_readClause_83 (Nat.le_of_ble_eq_true rfl) h (fun σ12 v13 h => ?_)
      refine b_iast 86 C 6 (by decide) (ce_6 G) dX3_readClause_86 h (fun σ14 h => ?_)
      refine b_iinc 87 C 4 3 (1 : Int32) (lv2 := fun z15 => [(4, .int z15), (5, .int z11), (0, .ref (G.1 4)), (2, .int x2)]) dX3_readClause_87 rfl (by decide) (by decide) (fun _ => rfl) h (fun z15 h => ?_)
      refine v_goto 90 C 39 dX3_readClause_90 (by decide) ?_
      exact v_sub [2, 3, 0] rfl (hc _ (Option.some.inj h).symm)
theorem w_f_X3_readClause_4_j116 {G : Wld} {X : Cxt} (C : Cx G X RX3 cX3_readClause 6 7) {σ : Sto} {y : Sto} (h : f_X3_readClause_4_j116 σ = some y) (hK : Rx G X none none y) : V G X 6 σ [(0, .ref (G.1 4))] [] 116 := by
  unfold f_X3_readClause_4_j116 at h
  cases h
  exact v_vret 116 C hK dX3_readClause_116
theorem w_f_X3_readClause_4 {G : Wld} {X : Cxt} (C : Cx G X RX3 cX3_readClause 6 7) {σ : Sto} {y : Sto} (h : f_X3_readClause_4 σ = some y) (hK : Rx G X none none y) : V G X 6 σ [(0, .ref (G.1 4))] [] 0 := by
  unfold f_X3_readClause_4 at h
  refine v_aload_n 0 C 0 0 dX3_readClause_0 rfl rfl ?_
  refine g_X3_4_2 1 C dX3_readClause_1 ?_
  refine b_istore_n 4 C 1 (lv2 := fun z1 => [(1, .int z1), (0, .ref (G.1 4))]) dX3_readClause_4 rfl (by decide) (fun _ => rfl) h (fun z1 h => ?_)
  refine v_aload_n 5 C 0 1 dX3_readClause_5 rfl rfl ?_
  refine r_f_X3_skipLetters_4 6 C (by decide) q_351 dX3_readClause_6 (Nat.le_of_ble_eq_true rfl) h (fun σ2 h => ?_)
  refine v_aload_n 9 C 0 1 dX3_readClause_9 rfl rfl ?_
  refine v_iload_n 10 C 1 0 dX3_readClause_10 rfl rfl ?_
  refine v_aload_n 11 C 0 1 dX3_readClause_11 rfl rfl ?_
  refine g_X3_4_2 12 C dX3_readClause_12 ?_
  refine r_f_X3_kindOfWord_4 15 C (by decide) q_355 dX3_readClause_15 (Nat.le_of_ble_eq_true rfl) h (fun σ4 v5 h => ?_)
  refine b_istore_n 18 C 2 (lv2 := fun z6 => [(2, .int z6), (1, .int z1), (0, .ref (G.1 4))]) dX3_readClause_18 rfl (by decide) (fun _ => rfl) h (fun z6 h => ?_)
  refine v_aload_n 19 C 0 2 dX3_readClause_19 rfl rfl ?_
  refine v_iload_n 20 C 2 0 dX3_readClause_20 rfl rfl ?_
  refine r_f_X3_faultOfKind_4 21 C (by decide) q_419 dX3_readClause_21 (Nat.le_of_ble_eq_true rfl) h (fun σ7 v8 h => ?_)
  refine b_istore_n 24 C 3 (lv2 := fun z9 => [(3, .int z9), (2, .int z6), (1, .int z1), (0, .ref (G.1 4))]) dX3_readClause_24 rfl (by decide) (fun _ => rfl) h (fun z9 h => ?_)
  refine v_iload_n 25 C 3 0 dX3_readClause_25 rfl rfl ?_
  refine v_if_eq 26 C 36 dX3_readClause_26 (by decide) h (fun h => ?_) (fun h => ?_)
  · refine v_iconst 36 C (0 : Int32) dX3_readClause_36 (by decide) ?_
    refine b_istore 37 C 4 (lv2 := fun z10 => [(4, .int z10), (3, .int z9), (2, .int z6), (1, .int z1), (0, .ref (G.1 4))]) dX3_readClause_37 (by decide) (fun _ => rfl) h (fun z10 h => ?_)
    refine v_sub [4, 2, 0] rfl ?_
    refine lp_go (Vh := fun t => V G X 6 t.1 [(0, .ref (G.1 4)), (2, .int z6), (4, .int t.2)] [] 39) h ?_
    intro t18 y18 hy18 hc18 he18
    refine w_f_X3_readClause_4_l39 C hy18 hc18 he18 (fun σ16 z17 h => ?_)
    dsimp only at h
    refine v_aload_n 93 C 0 0 dX3_readClause_93 rfl rfl ?_
    refine g_X3_4_5 94 C dX3_readClause_94 ?_
    refine v_if_ne 97 C 116 dX3_readClause_97 (by decide) h (fun h => ?_) (fun h => ?_)
    · exact v_sub [0] rfl (w_f_X3_readClause_4_j116 C h hK)
    · refine v_aload_n 100 C 0 0 dX3_readClause_100 rfl rfl ?_
      refine r_f_X3_readEndOfClause_4 101 C (by decide) q_447 dX3_readClause_101 (Nat.le_of_ble_eq_true rfl) h (fun σ19 h => ?_)
      refine v_aload_n 104 C 0 0 dX3_readClause_104 rfl rfl ?_
      refine g_X3_4_3 105 C dX3_readClause_105 ?_
      refine v_iload_n 108 C 2 1 dX3_readClause_108 rfl rfl ?_
      refine v_aload_n 109 C 0 0 dX3_readClause_109 rfl rfl ?_
      refine g_X3_4_1 110 C dX3_readClause_110 ?_
      refine r_f_X2_add_7_6 113 C (by decide) q_451 dX3_readClause_113 (Nat.le_of_ble_eq_true rfl) h (fun σ21 h => ?_)
      exact v_sub [0] rfl (w_f_X3_readClause_4_j116 C h hK)
  · refine v_aload_n 29 C 0 3 dX3_readClause_29 rfl rfl ?_
    refine v_iload_n 30 C 3 0 dX3_readClause_30 rfl rfl ?_
    refine v_iload_n 31 C 1 2 dX3_readClause_31 rfl rfl ?_
    refine r_f_X3_noteFault_4 32 C (by decide) q_433 dX3_readClause_32 (Nat.le_of_ble_eq_true rfl) h (fun σ23 h => ?_)
    cases h
    exact v_vret 35 C hK dX3_readClause_35
theorem c_f_X3_readClause_4 (l : Launch) (G : Wld) (hG : GI G) (σ : Sto) (y : Sto) (h : f_X3_readClause_4 σ = some y) : Ct l G yX3_readClause cX3_readClause 6 none 7 [.ref (G.1 4)] σ none y := by
  refine ct_intro RX3 hG (by decide) rfl (Nat.le_of_ble_eq_true rfl) (fun X hX C hK => ?_)
  subst hX
  exact w_f_X3_readClause_4 C h hK
theorem r_f_X3_readClause_4 {G : Wld} {X : Cxt} {own : String} {cc : ByteArray} {nL n : Nat} {σ : Sto} {lv : List (Nat × Value)} {st : List Value} {β : Type} {r : β} {F : Sto → Option β} {ix : Nat} (pc : Nat) (C : Cx G X own cc nL n) (hn : 7 < n) (h1 : Cond.methodLink own ix yX3_readClause ∈ lw_gd) (hd : decode cc pc = .ok (.invokevirtual ix, 3)) (hsum : (st.map fun v => v.category).sum ≤ 8) (h : bd1 (f_X3_readClause_4 σ) F = some r) (kk : ∀ σ1, F σ1 = some r → V G X nL σ1 lv (st) (pc + 3)) : V G X nL σ lv (.ref (G.1 4) :: st) pc := by
  obtain ⟨z, hz, h⟩ := bd1_some h
  exact v_callV pc C 4 0 [] st (c_f_X3_readClause_4 (xl X) G C.2.2.2.2.2.2.1 _ _ hz) hn (by decide) (by decide) (ce_4 G _ _) rfl (by decide +kernel) rfl h1 q_349 q_1 q_61 q_350 rfl hsum hd (kk _ h)
-- f_X3_read_4
def f_X3_read_4_l28 (σ : Sto) (x1 : Int32) : Option ((Sto × Int32) ⊕ (Sto × Int32)) :=
  if (500 : Int32) ≤ x1 then (some (.inr (σ, x1))) else (if (σ.1 4 4) ≤ (σ.1 4 2) then (some (.inr (σ, x1))) else (if (σ.1 4 5) = 0 then (bd1 (f_X3_readClause_4 σ) fun σ9 => bd1 (f_X3_skipBlanks_4 σ9) fun σ11 => bs (x1 + (1 : Int32)) fun z13 => some (.inl (σ11, z13))) else (some (.inr (σ, x1)))))
def f_X3_read_4 (σ : Sto) : Option (Sto) :=
  bd1 (f_X2_clear_7 σ) fun σ1 => bs (su σ1 4 5 (0 : Int32)) fun σ3 => bs (su σ3 4 6 (-1 : Int32)) fun σ4 => bs (su σ4 4 2 (0 : Int32)) fun σ5 => bd1 (f_X3_skipBlanks_4 σ5) fun σ6 => bs (0 : Int32) fun z8 => bE1 (lpF (fun t => f_X3_read_4_l28 t.1 t.2) FU (σ6, z8)) (fun σ14 z15 => bs (su σ14 4 4 (0 : Int32)) fun σ17 => some σ17)
theorem w_f_X3_read_4_l28 {G : Wld} {X : Cxt} (C : Cx G X RX3 cX3_read 2 8) {σ : Sto} {x1 : Int32} {y : (Sto × Int32) ⊕ (Sto × Int32)} (h : f_X3_read_4_l28 σ x1 = some y) (hc : ∀ t : Sto × Int32, y = .inl t → V G X 2 t.1 [(0, .ref (G.1 4)), (1, .int t.2)] [] 28) {Ve : Sto × Int32 → Prop} (he : ∀ e, y = .inr e → Ve e) (hx : ∀ (σ : Sto) (x1 : Int32), Ve (σ, x1) → V G X 2 σ [(0, .ref (G.1 4)), (1, .int x1)] [] 67) : V G X 2 σ [(0, .ref (G.1 4)), (1, .int x1)] [] 28 := by
  unfold f_X3_read_4_l28 at h
  refine v_iload_n 28 C 1 1 dX3_read_28 rfl rfl ?_
  refine v_sipush 29 C (500 : Int32) dX3_read_29 (by decide) ?_
  refine v_icmp_ge 32 C 67 dX3_read_32 (by decide) h (fun h => ?_) (fun h => ?_)
  · exact v_sub [0, 1] rfl (hx _ _ (he _ (Option.some.inj h).symm))
  · refine v_aload_n 35 C 0 0 dX3_read_35 rfl rfl ?_
    refine g_X3_4_2 36 C dX3_read_36 ?_
    refine v_aload_n 39 C 0 0 dX3_read_39 rfl rfl ?_
    refine g_X3_4_4 40 C dX3_read_40 ?_
    refine v_icmp_ge 43 C 67 dX3_read_43 (by decide) h (fun h => ?_) (fun h => ?_)
    · exact v_sub [0, 1] rfl (hx _ _ (he _ (Option.some.inj h).symm))
    · refine v_aload_n 46 C 0 0 dX3_read_46 rfl rfl ?_
      refine g_X3_4_5 47 C dX3_read_47 ?_
      refine v_if_ne 50 C 67 dX3_read_50 (by decide) h (fun h => ?_) (fun h => ?_)
      · exact v_sub [0, 1] rfl (hx _ _ (he _ (Option.some.inj h).symm))
      · refine v_aload_n 53 C 0 0 dX3_read_53 rfl rfl ?_
        refine r_f_X3_readClause_4 54 C (by decide) q_347 dX3_read_54 (Nat.le_of_ble_eq_true rfl) h (fun σ9 h => ?_)
        refine v_aload_n 57 C 0 0 dX3_read_57 rfl rfl ?_
        refine r_f_X3_skipBlanks_4 58 C (by decide) q_343 dX3_read_58 (Nat.le_of_ble_eq_true rfl) h (fun σ11 h => ?_)
        refine b_iinc 61 C 1 1 (1 : Int32) (lv2 := fun z13 => [(1, .int z13), (0, .ref (G.1 4))]) dX3_read_61 rfl (by decide) (by decide) (fun _ => rfl) h (fun z13 h => ?_)
        refine v_goto 64 C 28 dX3_read_64 (by decide) ?_
        exact v_sub [1, 0] rfl (hc _ (Option.some.inj h).symm)
theorem w_f_X3_read_4 {G : Wld} {X : Cxt} (C : Cx G X RX3 cX3_read 2 8) {σ : Sto} {y : Sto} (h : f_X3_read_4 σ = some y) (hK : Rx G X none none y) : V G X 2 σ [(0, .ref (G.1 4))] [] 0 := by
  unfold f_X3_read_4 at h
  refine v_aload_n 0 C 0 0 dX3_read_0 rfl rfl ?_
  refine g_X3_4_3 1 C dX3_read_1 ?_
  refine r_f_X2_clear_7 4 C (by decide) q_338 dX3_read_4 (Nat.le_of_ble_eq_true rfl) h (fun σ1 h => ?_)
  refine v_aload_n 7 C 0 0 dX3_read_7 rfl rfl ?_
  refine v_iconst 8 C (0 : Int32) dX3_read_8 (by decide) ?_
  refine p_X3_4_5 9 C dX3_read_9 h (fun σ3 h => ?_)
  refine v_aload_n 12 C 0 0 dX3_read_12 rfl rfl ?_
  refine v_iconst 13 C (-1 : Int32) dX3_read_13 (by decide) ?_
  refine p_X3_4_6 14 C dX3_read_14 h (fun σ4 h => ?_)
  refine v_aload_n 17 C 0 0 dX3_read_17 rfl rfl ?_
  refine v_iconst 18 C (0 : Int32) dX3_read_18 (by decide) ?_
  refine p_X3_4_2 19 C dX3_read_19 h (fun σ5 h => ?_)
  refine v_aload_n 22 C 0 0 dX3_read_22 rfl rfl ?_
  refine r_f_X3_skipBlanks_4 23 C (by decide) q_343 dX3_read_23 (Nat.le_of_ble_eq_true rfl) h (fun σ6 h => ?_)
  refine v_iconst 26 C (0 : Int32) dX3_read_26 (by decide) ?_
  refine b_istore_n 27 C 1 (lv2 := fun z8 => [(1, .int z8), (0, .ref (G.1 4))]) dX3_read_27 rfl (by decide) (fun _ => rfl) h (fun z8 h => ?_)
  refine v_sub [1, 0] rfl ?_
  refine lp_go (Vh := fun t => V G X 2 t.1 [(0, .ref (G.1 4)), (1, .int t.2)] [] 28) h ?_
  intro t16 y16 hy16 hc16 he16
  refine w_f_X3_read_4_l28 C hy16 hc16 he16 (fun σ14 z15 h => ?_)
  dsimp only at h
  refine v_aload_n 67 C 0 0 dX3_read_67 rfl rfl ?_
  refine v_iconst 68 C (0 : Int32) dX3_read_68 (by decide) ?_
  refine p_X3_4_4 69 C dX3_read_69 h (fun σ17 h => ?_)
  cases h
  exact v_vret 72 C hK dX3_read_72
theorem c_f_X3_read_4 (l : Launch) (G : Wld) (hG : GI G) (σ : Sto) (y : Sto) (h : f_X3_read_4 σ = some y) : Ct l G yX3_read cX3_read 2 none 8 [.ref (G.1 4)] σ none y := by
  refine ct_intro RX3 hG (by decide) rfl (Nat.le_of_ble_eq_true rfl) (fun X hX C hK => ?_)
  subst hX
  exact w_f_X3_read_4 C h hK
theorem r_f_X3_read_4 {G : Wld} {X : Cxt} {own : String} {cc : ByteArray} {nL n : Nat} {σ : Sto} {lv : List (Nat × Value)} {st : List Value} {β : Type} {r : β} {F : Sto → Option β} {ix : Nat} (pc : Nat) (C : Cx G X own cc nL n) (hn : 8 < n) (h1 : Cond.methodLink own ix yX3_read ∈ lw_gd) (hd : decode cc pc = .ok (.invokevirtual ix, 3)) (hsum : (st.map fun v => v.category).sum ≤ 8) (h : bd1 (f_X3_read_4 σ) F = some r) (kk : ∀ σ1, F σ1 = some r → V G X nL σ1 lv (st) (pc + 3)) : V G X nL σ lv (.ref (G.1 4) :: st) pc := by
  obtain ⟨z, hz, h⟩ := bd1_some h
  exact v_callV pc C 4 0 [] st (c_f_X3_read_4 (xl X) G C.2.2.2.2.2.2.1 _ _ hz) hn (by decide) (by decide) (ce_4 G _ _) rfl (by decide +kernel) rfl h1 q_335 q_336 q_61 q_337 rfl hsum hd (kk _ h)
-- f_X2_become_1_7
def f_X2_become_1_7 (σ : Sto) : Option (Sto) :=
  gd (decide (0 ≤ ((0 : Int32)).toInt ∧ 0 ≤ ((0 : Int32)).toInt ∧ 0 ≤ ((5 : Int32)).toInt ∧ ((0 : Int32)).toInt + ((5 : Int32)).toInt ≤ 5 ∧ ((0 : Int32)).toInt + ((5 : Int32)).toInt ≤ 5)) (bs (sc σ 2 (va_cpy (σ.1 8) (σ.1 2) ((0 : Int32)).toNatClampNeg ((0 : Int32)).toNatClampNeg ((5 : Int32)).toNatClampNeg)) fun σ1 => gd (decide (0 ≤ ((0 : Int32)).toInt ∧ 0 ≤ ((0 : Int32)).toInt ∧ 0 ≤ ((90 : Int32)).toInt ∧ ((0 : Int32)).toInt + ((90 : Int32)).toInt ≤ 90 ∧ ((0 : Int32)).toInt + ((90 : Int32)).toInt ≤ 90)) (bs (sc σ1 3 (va_cpy (σ1.1 9) (σ1.1 3) ((0 : Int32)).toNatClampNeg ((0 : Int32)).toNatClampNeg ((90 : Int32)).toNatClampNeg)) fun σ2 => some σ2))
theorem w_f_X2_become_1_7 {G : Wld} {X : Cxt} (C : Cx G X RX2 cX2_become 2 1) {σ : Sto} {y : Sto} (h : f_X2_become_1_7 σ = some y) (hK : Rx G X none none y) : V G X 2 σ [(0, .ref (G.1 1)), (1, .ref (G.1 7))] [] 0 := by
  unfold f_X2_become_1_7 at h
  refine v_aload_n 0 C 1 1 dX2_become_0 rfl rfl ?_
  refine g_X2_7_0 1 C dX2_become_1 ?_
  refine v_iconst 4 C (0 : Int32) dX2_become_4 (by decide) ?_
  refine v_aload_n 5 C 0 0 dX2_become_5 rfl rfl ?_
  refine g_X2_1_0 6 C dX2_become_6 ?_
  refine v_iconst 9 C (0 : Int32) dX2_become_9 (by decide) ?_
  refine v_iconst 10 C (5 : Int32) dX2_become_10 (by decide) ?_
  refine b_copy 11 C 8 2 (by decide) (by decide) (ce_8 G) (ce_2 G) q_456 q_458 q_457 q_73 (Nat.le_of_ble_eq_true rfl) (by decide) dX2_become_11 h (fun σ1 h => ?_)
  refine v_aload_n 14 C 1 1 dX2_become_14 rfl rfl ?_
  refine g_X2_7_1 15 C dX2_become_15 ?_
  refine v_iconst 18 C (0 : Int32) dX2_become_18 (by decide) ?_
  refine v_aload_n 19 C 0 0 dX2_become_19 rfl rfl ?_
  refine g_X2_1_1 20 C dX2_become_20 ?_
  refine v_iconst 23 C (0 : Int32) dX2_become_23 (by decide) ?_
  refine v_aload_n 24 C 0 0 dX2_become_24 rfl rfl ?_
  refine g_X2_1_1 25 C dX2_become_25 ?_
  refine v_alen 28 C 3 0 (90 : Int32) (by decide) (ce_3 G) rfl (by decide) dX2_become_28 ?_
  refine b_copy 29 C 9 3 (by decide) (by decide) (ce_9 G) (ce_3 G) q_456 q_458 q_457 q_73 (Nat.le_of_ble_eq_true rfl) (by decide) dX2_become_29 h (fun σ2 h => ?_)
  cases h
  exact v_vret 32 C hK dX2_become_32
theorem c_f_X2_become_1_7 (l : Launch) (G : Wld) (hG : GI G) (σ : Sto) (y : Sto) (h : f_X2_become_1_7 σ = some y) : Ct l G yX2_become cX2_become 2 none 1 [.ref (G.1 1), .ref (G.1 7)] σ none y := by
  refine ct_intro RX2 hG (by decide) rfl (Nat.le_of_ble_eq_true rfl) (fun X hX C hK => ?_)
  subst hX
  exact w_f_X2_become_1_7 C h hK
theorem r_f_X2_become_1_7 {G : Wld} {X : Cxt} {own : String} {cc : ByteArray} {nL n : Nat} {σ : Sto} {lv : List (Nat × Value)} {st : List Value} {β : Type} {r : β} {F : Sto → Option β} {ix : Nat} (pc : Nat) (C : Cx G X own cc nL n) (hn : 1 < n) (h1 : Cond.methodLink own ix yX2_become ∈ lw_gd) (hd : decode cc pc = .ok (.invokevirtual ix, 3)) (hsum : (st.map fun v => v.category).sum ≤ 8) (h : bd1 (f_X2_become_1_7 σ) F = some r) (kk : ∀ σ1, F σ1 = some r → V G X nL σ1 lv (st) (pc + 3)) : V G X nL σ lv (.ref (G.1 7) :: .ref (G.1 1) :: st) pc := by
  obtain ⟨z, hz, h⟩ := bd1_some h
  exact v_callV pc C 1 1 [.ref (G.1 7)] st (c_f_X2_become_1_7 (xl X) G C.2.2.2.2.2.2.1 _ _ hz) hn (by decide) (by decide) (ce_1 G _ _) rfl (by decide +kernel) rfl h1 q_460 q_461 q_60 q_462 rfl hsum hd (kk _ h)
-- f_J7_fill_53178_11
def f_J7_fill_53178_11_l5 (x1 : Int32) (x3 : Int32) (σ : Sto) (x2 : Int32) : Option ((Sto × Int32) ⊕ (Sto × Int32)) :=
  if x3 ≤ x2 then (some (.inr (σ, x2))) else (gd (inB x2 6) (bs (su σ 11 (x2).toNatClampNeg x1) fun σ3 => bs (x2 + (1 : Int32)) fun z4 => some (.inl (σ3, z4))))
def f_J7_fill_53178_11 (σ : Sto) (a1 : Int32) : Option (Sto) :=
  bs (0 : Int32) fun z1 => bs (6 : Int32) fun z2 => bE1 (lpF (fun t => f_J7_fill_53178_11_l5 a1 z2 t.1 t.2) FU (σ, z1)) (fun σ5 z6 => some σ5)
theorem w_f_J7_fill_53178_11_l5 {G : Wld} {X : Cxt} (C : Cx G X RJ7 cJ7_fill_53178 4 1) {x1 : Int32} {x3 : Int32} {σ : Sto} {x2 : Int32} {y : (Sto × Int32) ⊕ (Sto × Int32)} (h : f_J7_fill_53178_11_l5 x1 x3 σ x2 = some y) (hc : ∀ t : Sto × Int32, y = .inl t → V G X 4 t.1 [(0, .ref (G.1 11)), (1, .int x1), (2, .int t.2), (3, .int x3)] [] 5) {Ve : Sto × Int32 → Prop} (he : ∀ e, y = .inr e → Ve e) (hx : ∀ (σ : Sto) (x2 : Int32), Ve (σ, x2) → V G X 4 σ [(0, .ref (G.1 11)), (1, .int x1), (2, .int x2), (3, .int x3)] [] 20) : V G X 4 σ [(0, .ref (G.1 11)), (1, .int x1), (2, .int x2), (3, .int x3)] [] 5 := by
  unfold f_J7_fill_53178_11_l5 at h
  refine v_iload_n 5 C 2 2 dJ7_fill_53178_5 rfl rfl ?_
  refine v_iload_n 6 C 3 3 dJ7_fill_53178_6 rfl rfl ?_
  refine v_icmp_ge 7 C 20 dJ7_fill_53178_7 (by decide) h (fun h => ?_) (fun h => ?_)
  · exact v_sub [0, 1, 2, 3] rfl (hx _ _ (he _ (Option.some.inj h).symm))
  · refine v_aload_n 10 C 0 0 dJ7_fill_53178_10 rfl rfl ?_
    refine v_iload_n 11 C 2 2 dJ7_fill_53178_11 rfl rfl ?_
    refine v_iload_n 12 C 1 1 dJ7_fill_53178_12 rfl rfl ?_
    refine b_iast 13 C 11 (by decide) (ce_11 G) dJ7_fill_53178_13 h (fun σ3 h => ?_)
    refine b_iinc 14 C 2 2 (1 : Int32) (lv2 := fun z4 => [(2, .int z4), (0, .ref (G.1 11)), (1, .int x1), (3, .int x3)]) dJ7_fill_53178_14 rfl (by decide) (by decide) (fun _ => rfl) h (fun z4 h => ?_)
    refine v_goto 17 C 5 dJ7_fill_53178_17 (by decide) ?_
    exact v_sub [1, 2, 0, 3] rfl (hc _ (Option.some.inj h).symm)
theorem w_f_J7_fill_53178_11 {G : Wld} {X : Cxt} (C : Cx G X RJ7 cJ7_fill_53178 4 1) {σ : Sto} {a1 : Int32} {y : Sto} (h : f_J7_fill_53178_11 σ a1 = some y) (hK : Rx G X none none y) : V G X 4 σ [(0, .ref (G.1 11)), (1, .int a1)] [] 0 := by
  unfold f_J7_fill_53178_11 at h
  refine v_iconst 0 C (0 : Int32) dJ7_fill_53178_0 (by decide) ?_
  refine b_istore_n 1 C 2 (lv2 := fun z1 => [(2, .int z1), (0, .ref (G.1 11)), (1, .int a1)]) dJ7_fill_53178_1 rfl (by decide) (fun _ => rfl) h (fun z1 h => ?_)
  refine v_aload_n 2 C 0 1 dJ7_fill_53178_2 rfl rfl ?_
  refine v_alen 3 C 11 0 (6 : Int32) (by decide) (ce_11 G) rfl (by decide) dJ7_fill_53178_3 ?_
  refine b_istore_n 4 C 3 (lv2 := fun z2 => [(3, .int z2), (2, .int z1), (0, .ref (G.1 11)), (1, .int a1)]) dJ7_fill_53178_4 rfl (by decide) (fun _ => rfl) h (fun z2 h => ?_)
  refine v_sub [2, 3, 1, 0] rfl ?_
  refine lp_go (Vh := fun t => V G X 4 t.1 [(0, .ref (G.1 11)), (1, .int a1), (2, .int t.2), (3, .int z2)] [] 5) h ?_
  intro t7 y7 hy7 hc7 he7
  refine w_f_J7_fill_53178_11_l5 C hy7 hc7 he7 (fun σ5 z6 h => ?_)
  dsimp only at h
  cases h
  exact v_vret 20 C hK dJ7_fill_53178_20
theorem c_f_J7_fill_53178_11 (l : Launch) (G : Wld) (hG : GI G) (σ : Sto) (a1 : Int32) (y : Sto) (h : f_J7_fill_53178_11 σ a1 = some y) : Ct l G yJ7_fill_53178 cJ7_fill_53178 4 none 1 [.ref (G.1 11), .int a1] σ none y := by
  refine ct_intro RJ7 hG (by decide) rfl (Nat.le_of_ble_eq_true rfl) (fun X hX C hK => ?_)
  subst hX
  exact w_f_J7_fill_53178_11 C h hK
theorem r_f_J7_fill_53178_11 {G : Wld} {X : Cxt} {own : String} {cc : ByteArray} {nL n : Nat} {σ : Sto} {lv : List (Nat × Value)} {st : List Value} {β : Type} {r : β} {F : Sto → Option β} {a1 : Int32} {ix : Nat} (pc : Nat) (C : Cx G X own cc nL n) (hn : 1 < n) (h1 : Cond.methodLink own ix yJ7_fill_53178 ∈ lw_gd) (hd : decode cc pc = .ok (.invokestatic ix, 3)) (hsum : (st.map fun v => v.category).sum ≤ 8) (h : bd1 (f_J7_fill_53178_11 σ a1) F = some r) (kk : ∀ σ1, F σ1 = some r → V G X nL σ1 lv (st) (pc + 3)) : V G X nL σ lv (.int a1 :: .ref (G.1 11) :: st) pc := by
  obtain ⟨z, hz, h⟩ := bd1_some h
  exact v_callS pc C 2 [.ref (G.1 11), .int a1] st (c_f_J7_fill_53178_11 (xl X) G C.2.2.2.2.2.2.1 _ _ _ hz) hn (by decide) (by decide +kernel) rfl h1 q_143 q_63 q_144 rfl hsum hd (kk _ h)
-- f_J7_fill_53178_12
def f_J7_fill_53178_12_l5 (x1 : Int32) (x3 : Int32) (σ : Sto) (x2 : Int32) : Option ((Sto × Int32) ⊕ (Sto × Int32)) :=
  if x3 ≤ x2 then (some (.inr (σ, x2))) else (gd (inB x2 4) (bs (su σ 12 (x2).toNatClampNeg x1) fun σ3 => bs (x2 + (1 : Int32)) fun z4 => some (.inl (σ3, z4))))
def f_J7_fill_53178_12 (σ : Sto) (a1 : Int32) : Option (Sto) :=
  bs (0 : Int32) fun z1 => bs (4 : Int32) fun z2 => bE1 (lpF (fun t => f_J7_fill_53178_12_l5 a1 z2 t.1 t.2) FU (σ, z1)) (fun σ5 z6 => some σ5)
theorem w_f_J7_fill_53178_12_l5 {G : Wld} {X : Cxt} (C : Cx G X RJ7 cJ7_fill_53178 4 1) {x1 : Int32} {x3 : Int32} {σ : Sto} {x2 : Int32} {y : (Sto × Int32) ⊕ (Sto × Int32)} (h : f_J7_fill_53178_12_l5 x1 x3 σ x2 = some y) (hc : ∀ t : Sto × Int32, y = .inl t → V G X 4 t.1 [(0, .ref (G.1 12)), (1, .int x1), (2, .int t.2), (3, .int x3)] [] 5) {Ve : Sto × Int32 → Prop} (he : ∀ e, y = .inr e → Ve e) (hx : ∀ (σ : Sto) (x2 : Int32), Ve (σ, x2) → V G X 4 σ [(0, .ref (G.1 12)), (1, .int x1), (2, .int x2), (3, .int x3)] [] 20) : V G X 4 σ [(0, .ref (G.1 12)), (1, .int x1), (2, .int x2), (3, .int x3)] [] 5 := by
  unfold f_J7_fill_53178_12_l5 at h
  refine v_iload_n 5 C 2 2 dJ7_fill_53178_5 rfl rfl ?_
  refine v_iload_n 6 C 3 3 dJ7_fill_53178_6 rfl rfl ?_
  refine v_icmp_ge 7 C 20 dJ7_fill_53178_7 (by decide) h (fun h => ?_) (fun h => ?_)
  · exact v_sub [0, 1, 2, 3] rfl (hx _ _ (he _ (Option.some.inj h).symm))
  · refine v_aload_n 10 C 0 0 dJ7_fill_53178_10 rfl rfl ?_
    refine v_iload_n 11 C 2 2 dJ7_fill_53178_11 rfl rfl ?_
    refine v_iload_n 12 C 1 1 dJ7_fill_53178_12 rfl rfl ?_
    refine b_iast 13 C 12 (by decide) (ce_12 G) dJ7_fill_53178_13 h (fun σ3 h => ?_)
    refine b_iinc 14 C 2 2 (1 : Int32) (lv2 := fun z4 => [(2, .int z4), (0, .ref (G.1 12)), (1, .int x1), (3, .int x3)]) dJ7_fill_53178_14 rfl (by decide) (by decide) (fun _ => rfl) h (fun z4 h => ?_)
    refine v_goto 17 C 5 dJ7_fill_53178_17 (by decide) ?_
    exact v_sub [1, 2, 0, 3] rfl (hc _ (Option.some.inj h).symm)
theorem w_f_J7_fill_53178_12 {G : Wld} {X : Cxt} (C : Cx G X RJ7 cJ7_fill_53178 4 1) {σ : Sto} {a1 : Int32} {y : Sto} (h : f_J7_fill_53178_12 σ a1 = some y) (hK : Rx G X none none y) : V G X 4 σ [(0, .ref (G.1 12)), (1, .int a1)] [] 0 := by
  unfold f_J7_fill_53178_12 at h
  refine v_iconst 0 C (0 : Int32) dJ7_fill_53178_0 (by decide) ?_
  refine b_istore_n 1 C 2 (lv2 := fun z1 => [(2, .int z1), (0, .ref (G.1 12)), (1, .int a1)]) dJ7_fill_53178_1 rfl (by decide) (fun _ => rfl) h (fun z1 h => ?_)
  refine v_aload_n 2 C 0 1 dJ7_fill_53178_2 rfl rfl ?_
  refine v_alen 3 C 12 0 (4 : Int32) (by decide) (ce_12 G) rfl (by decide) dJ7_fill_53178_3 ?_
  refine b_istore_n 4 C 3 (lv2 := fun z2 => [(3, .int z2), (2, .int z1), (0, .ref (G.1 12)), (1, .int a1)]) dJ7_fill_53178_4 rfl (by decide) (fun _ => rfl) h (fun z2 h => ?_)
  refine v_sub [2, 3, 1, 0] rfl ?_
  refine lp_go (Vh := fun t => V G X 4 t.1 [(0, .ref (G.1 12)), (1, .int a1), (2, .int t.2), (3, .int z2)] [] 5) h ?_
  intro t7 y7 hy7 hc7 he7
  refine w_f_J7_fill_53178_12_l5 C hy7 hc7 he7 (fun σ5 z6 h => ?_)
  dsimp only at h
  cases h
  exact v_vret 20 C hK dJ7_fill_53178_20
theorem c_f_J7_fill_53178_12 (l : Launch) (G : Wld) (hG : GI G) (σ : Sto) (a1 : Int32) (y : Sto) (h : f_J7_fill_53178_12 σ a1 = some y) : Ct l G yJ7_fill_53178 cJ7_fill_53178 4 none 1 [.ref (G.1 12), .int a1] σ none y := by
  refine ct_intro RJ7 hG (by decide) rfl (Nat.le_of_ble_eq_true rfl) (fun X hX C hK => ?_)
  subst hX
  exact w_f_J7_fill_53178_12 C h hK
theorem r_f_J7_fill_53178_12 {G : Wld} {X : Cxt} {own : String} {cc : ByteArray} {nL n : Nat} {σ : Sto} {lv : List (Nat × Value)} {st : List Value} {β : Type} {r : β} {F : Sto → Option β} {a1 : Int32} {ix : Nat} (pc : Nat) (C : Cx G X own cc nL n) (hn : 1 < n) (h1 : Cond.methodLink own ix yJ7_fill_53178 ∈ lw_gd) (hd : decode cc pc = .ok (.invokestatic ix, 3)) (hsum : (st.map fun v => v.category).sum ≤ 8) (h : bd1 (f_J7_fill_53178_12 σ a1) F = some r) (kk : ∀ σ1, F σ1 = some r → V G X nL σ1 lv (st) (pc + 3)) : V G X nL σ lv (.int a1 :: .ref (G.1 12) :: st) pc := by
  obtain ⟨z, hz, h⟩ := bd1_some h
  exact v_callS pc C 2 [.ref (G.1 12), .int a1] st (c_f_J7_fill_53178_12 (xl X) G C.2.2.2.2.2.2.1 _ _ _ hz) hn (by decide) (by decide +kernel) rfl h1 q_143 q_63 q_144 rfl hsum hd (kk _ h)
-- f_J7_fill_53178_13
def f_J7_fill_53178_13_l5 (x1 : Int32) (x3 : Int32) (σ : Sto) (x2 : Int32) : Option ((Sto × Int32) ⊕ (Sto × Int32)) :=
  if x3 ≤ x2 then (some (.inr (σ, x2))) else (gd (inB x2 6) (bs (su σ 13 (x2).toNatClampNeg x1) fun σ3 => bs (x2 + (1 : Int32)) fun z4 => some (.inl (σ3, z4))))
def f_J7_fill_53178_13 (σ : Sto) (a1 : Int32) : Option (Sto) :=
  bs (0 : Int32) fun z1 => bs (6 : Int32) fun z2 => bE1 (lpF (fun t => f_J7_fill_53178_13_l5 a1 z2 t.1 t.2) FU (σ, z1)) (fun σ5 z6 => some σ5)
theorem w_f_J7_fill_53178_13_l5 {G : Wld} {X : Cxt} (C : Cx G X RJ7 cJ7_fill_53178 4 1) {x1 : Int32} {x3 : Int32} {σ : Sto} {x2 : Int32} {y : (Sto × Int32) ⊕ (Sto × Int32)} (h : f_J7_fill_53178_13_l5 x1 x3 σ x2 = some y) (hc : ∀ t : Sto × Int32, y = .inl t → V G X 4 t.1 [(0, .ref (G.1 13)), (1, .int x1), (2, .int t.2), (3, .int x3)] [] 5) {Ve : Sto × Int32 → Prop} (he : ∀ e, y = .inr e → Ve e) (hx : ∀ (σ : Sto) (x2 : Int32), Ve (σ, x2) → V G X 4 σ [(0, .ref (G.1 13)), (1, .int x1), (2, .int x2), (3, .int x3)] [] 20) : V G X 4 σ [(0, .ref (G.1 13)), (1, .int x1), (2, .int x2), (3, .int x3)] [] 5 := by
  unfold f_J7_fill_53178_13_l5 at h
  refine v_iload_n 5 C 2 2 dJ7_fill_53178_5 rfl rfl ?_
  refine v_iload_n 6 C 3 3 dJ7_fill_53178_6 rfl rfl ?_
  refine v_icmp_ge 7 C 20 dJ7_fill_53178_7 (by decide) h (fun h => ?_) (fun h => ?_)
  · exact v_sub [0, 1, 2, 3] rfl (hx _ _ (he _ (Option.some.inj h).symm))
  · refine v_aload_n 10 C 0 0 dJ7_fill_53178_10 rfl rfl ?_
    refine v_iload_n 11 C 2 2 dJ7_fill_53178_11 rfl rfl ?_
    refine v_iload_n 12 C 1 1 dJ7_fill_53178_12 rfl rfl ?_
    refine b_iast 13 C 13 (by decide) (ce_13 G) dJ7_fill_53178_13 h (fun σ3 h => ?_)
    refine b_iinc 14 C 2 2 (1 : Int32) (lv2 := fun z4 => [(2, .int z4), (0, .ref (G.1 13)), (1, .int x1), (3, .int x3)]) dJ7_fill_53178_14 rfl (by decide) (by decide) (fun _ => rfl) h (fun z4 h => ?_)
    refine v_goto 17 C 5 dJ7_fill_53178_17 (by decide) ?_
    exact v_sub [1, 2, 0, 3] rfl (hc _ (Option.some.inj h).symm)
theorem w_f_J7_fill_53178_13 {G : Wld} {X : Cxt} (C : Cx G X RJ7 cJ7_fill_53178 4 1) {σ : Sto} {a1 : Int32} {y : Sto} (h : f_J7_fill_53178_13 σ a1 = some y) (hK : Rx G X none none y) : V G X 4 σ [(0, .ref (G.1 13)), (1, .int a1)] [] 0 := by
  unfold f_J7_fill_53178_13 at h
  refine v_iconst 0 C (0 : Int32) dJ7_fill_53178_0 (by decide) ?_
  refine b_istore_n 1 C 2 (lv2 := fun z1 => [(2, .int z1), (0, .ref (G.1 13)), (1, .int a1)]) dJ7_fill_53178_1 rfl (by decide) (fun _ => rfl) h (fun z1 h => ?_)
  refine v_aload_n 2 C 0 1 dJ7_fill_53178_2 rfl rfl ?_
  refine v_alen 3 C 13 0 (6 : Int32) (by decide) (ce_13 G) rfl (by decide) dJ7_fill_53178_3 ?_
  refine b_istore_n 4 C 3 (lv2 := fun z2 => [(3, .int z2), (2, .int z1), (0, .ref (G.1 13)), (1, .int a1)]) dJ7_fill_53178_4 rfl (by decide) (fun _ => rfl) h (fun z2 h => ?_)
  refine v_sub [2, 3, 1, 0] rfl ?_
  refine lp_go (Vh := fun t => V G X 4 t.1 [(0, .ref (G.1 13)), (1, .int a1), (2, .int t.2), (3, .int z2)] [] 5) h ?_
  intro t7 y7 hy7 hc7 he7
  refine w_f_J7_fill_53178_13_l5 C hy7 hc7 he7 (fun σ5 z6 h => ?_)
  dsimp only at h
  cases h
  exact v_vret 20 C hK dJ7_fill_53178_20
theorem c_f_J7_fill_53178_13 (l : Launch) (G : Wld) (hG : GI G) (σ : Sto) (a1 : Int32) (y : Sto) (h : f_J7_fill_53178_13 σ a1 = some y) : Ct l G yJ7_fill_53178 cJ7_fill_53178 4 none 1 [.ref (G.1 13), .int a1] σ none y := by
  refine ct_intro RJ7 hG (by decide) rfl (Nat.le_of_ble_eq_true rfl) (fun X hX C hK => ?_)
  subst hX
  exact w_f_J7_fill_53178_13 C h hK
theorem r_f_J7_fill_53178_13 {G : Wld} {X : Cxt} {own : String} {cc : ByteArray} {nL n : Nat} {σ : Sto} {lv : List (Nat × Value)} {st : List Value} {β : Type} {r : β} {F : Sto → Option β} {a1 : Int32} {ix : Nat} (pc : Nat) (C : Cx G X own cc nL n) (hn : 1 < n) (h1 : Cond.methodLink own ix yJ7_fill_53178 ∈ lw_gd) (hd : decode cc pc = .ok (.invokestatic ix, 3)) (hsum : (st.map fun v => v.category).sum ≤ 8) (h : bd1 (f_J7_fill_53178_13 σ a1) F = some r) (kk : ∀ σ1, F σ1 = some r → V G X nL σ1 lv (st) (pc + 3)) : V G X nL σ lv (.int a1 :: .ref (G.1 13) :: st) pc := by
  obtain ⟨z, hz, h⟩ := bd1_some h
  exact v_callS pc C 2 [.ref (G.1 13), .int a1] st (c_f_J7_fill_53178_13 (xl X) G C.2.2.2.2.2.2.1 _ _ _ hz) hn (by decide) (by decide +kernel) rfl h1 q_143 q_63 q_144 rfl hsum hd (kk _ h)
-- f_X6_startAnew_10
def f_X6_startAnew_10 (σ : Sto) : Option (Sto) :=
  bd1 (f_J7_fill_53178_11 σ (-1 : Int32)) fun σ1 => bd1 (f_J7_fill_53178_12 σ1 (-1 : Int32)) fun σ3 => bd1 (f_J7_fill_53178_13 σ3 (0 : Int32)) fun σ5 => bs (su σ5 10 3 (0 : Int32)) fun σ7 => bs (su σ7 10 4 (0 : Int32)) fun σ8 => some σ8
theorem w_f_X6_startAnew_10 {G : Wld} {X : Cxt} (C : Cx G X RX6 cX6_startAnew 1 2) {σ : Sto} {y : Sto} (h : f_X6_startAnew_10 σ = some y) (hK : Rx G X none none y) : V G X 1 σ [(0, .ref (G.1 10))] [] 0 := by
  unfold f_X6_startAnew_10 at h
  refine v_aload_n 0 C 0 0 dX6_startAnew_0 rfl rfl ?_
  refine g_X6_10_0 1 C dX6_startAnew_1 ?_
  refine v_iconst 4 C (-1 : Int32) dX6_startAnew_4 (by decide) ?_
  refine r_f_J7_fill_53178_11 5 C (by decide) q_142 dX6_startAnew_5 (Nat.le_of_ble_eq_true rfl) h (fun σ1 h => ?_)
  refine v_aload_n 8 C 0 0 dX6_startAnew_8 rfl rfl ?_
  refine g_X6_10_1 9 C dX6_startAnew_9 ?_
  refine v_iconst 12 C (-1 : Int32) dX6_startAnew_12 (by decide) ?_
  refine r_f_J7_fill_53178_12 13 C (by decide) q_142 dX6_startAnew_13 (Nat.le_of_ble_eq_true rfl) h (fun σ3 h => ?_)
  refine v_aload_n 16 C 0 0 dX6_startAnew_16 rfl rfl ?_
  refine g_X6_10_2 17 C dX6_startAnew_17 ?_
  refine v_iconst 20 C (0 : Int32) dX6_startAnew_20 (by decide) ?_
  refine r_f_J7_fill_53178_13 21 C (by decide) q_142 dX6_startAnew_21 (Nat.le_of_ble_eq_true rfl) h (fun σ5 h => ?_)
  refine v_aload_n 24 C 0 0 dX6_startAnew_24 rfl rfl ?_
  refine v_iconst 25 C (0 : Int32) dX6_startAnew_25 (by decide) ?_
  refine p_X6_10_3 26 C dX6_startAnew_26 h (fun σ7 h => ?_)
  refine v_aload_n 29 C 0 0 dX6_startAnew_29 rfl rfl ?_
  refine v_iconst 30 C (0 : Int32) dX6_startAnew_30 (by decide) ?_
  refine p_X6_10_4 31 C dX6_startAnew_31 h (fun σ8 h => ?_)
  cases h
  exact v_vret 34 C hK dX6_startAnew_34
theorem c_f_X6_startAnew_10 (l : Launch) (G : Wld) (hG : GI G) (σ : Sto) (y : Sto) (h : f_X6_startAnew_10 σ = some y) : Ct l G yX6_startAnew cX6_startAnew 1 none 2 [.ref (G.1 10)] σ none y := by
  refine ct_intro RX6 hG (by decide) rfl (Nat.le_of_ble_eq_true rfl) (fun X hX C hK => ?_)
  subst hX
  exact w_f_X6_startAnew_10 C h hK
theorem r_f_X6_startAnew_10 {G : Wld} {X : Cxt} {own : String} {cc : ByteArray} {nL n : Nat} {σ : Sto} {lv : List (Nat × Value)} {st : List Value} {β : Type} {r : β} {F : Sto → Option β} {ix : Nat} (pc : Nat) (C : Cx G X own cc nL n) (hn : 2 < n) (h1 : Cond.methodLink own ix yX6_startAnew ∈ lw_gd) (hd : decode cc pc = .ok (.invokevirtual ix, 3)) (hsum : (st.map fun v => v.category).sum ≤ 8) (h : bd1 (f_X6_startAnew_10 σ) F = some r) (kk : ∀ σ1, F σ1 = some r → V G X nL σ1 lv (st) (pc + 3)) : V G X nL σ lv (.ref (G.1 10) :: st) pc := by
  obtain ⟨z, hz, h⟩ := bd1_some h
  exact v_callV pc C 10 0 [] st (c_f_X6_startAnew_10 (xl X) G C.2.2.2.2.2.2.1 _ _ hz) hn (by decide) (by decide) (ce_10 G _ _) rfl (by decide +kernel) rfl h1 q_139 q_140 q_62 q_141 rfl hsum hd (kk _ h)
-- f_X2_count_1
def f_X2_count_1 (σ : Sto) (a1 : Int32) : Option (Sto × Int32) :=
  gd (inB a1 5) (some (σ, (σ.1 2 (a1).toNatClampNeg)))
theorem w_f_X2_count_1 {G : Wld} {X : Cxt} (C : Cx G X RX2 cX2_count 2 1) {σ : Sto} {a1 : Int32} {y : Sto × Int32} (h : f_X2_count_1 σ a1 = some y) (hK : Rx G X (some .int) (some (.int y.2)) y.1) : V G X 2 σ [(0, .ref (G.1 1)), (1, .int a1)] [] 0 := by
  unfold f_X2_count_1 at h
  refine v_aload_n 0 C 0 0 dX2_count_0 rfl rfl ?_
  refine g_X2_1_0 1 C dX2_count_1 ?_
  refine v_iload_n 4 C 1 1 dX2_count_4 rfl rfl ?_
  refine v_iald 5 C 2 (by decide) (ce_2 G) dX2_count_5 h (fun h => ?_)
  cases h
  exact v_iret 6 C hK dX2_count_6
theorem c_f_X2_count_1 (l : Launch) (G : Wld) (hG : GI G) (σ : Sto) (a1 : Int32) (y : Sto × Int32) (h : f_X2_count_1 σ a1 = some y) : Ct l G yX2_count cX2_count 2 (some .int) 1 [.ref (G.1 1), .int a1] σ (some (.int y.2)) y.1 := by
  refine ct_intro RX2 hG (by decide) rfl (Nat.le_of_ble_eq_true rfl) (fun X hX C hK => ?_)
  subst hX
  exact w_f_X2_count_1 C h hK
theorem r_f_X2_count_1 {G : Wld} {X : Cxt} {own : String} {cc : ByteArray} {nL n : Nat} {σ : Sto} {lv : List (Nat × Value)} {st : List Value} {β : Type} {r : β} {F : Sto → Int32 → Option β} {a1 : Int32} {ix : Nat} (pc : Nat) (C : Cx G X own cc nL n) (hn : 1 < n) (h1 : Cond.methodLink own ix yX2_count ∈ lw_gd) (hd : decode cc pc = .ok (.invokevirtual ix, 3)) (hsum : (st.map fun v => v.category).sum ≤ 8) (h : bd2 (f_X2_count_1 σ a1) F = some r) (kk : ∀ σ1 v, F σ1 v = some r → V G X nL σ1 lv (.int v :: st) (pc + 3)) : V G X nL σ lv (.int a1 :: .ref (G.1 1) :: st) pc := by
  obtain ⟨z, hz, h⟩ := bd2_some h
  exact v_callV pc C 1 1 [.int a1] st (c_f_X2_count_1 (xl X) G C.2.2.2.2.2.2.1 _ _ _ hz) hn (by decide) (by decide) (ce_1 G _ _) rfl (by decide +kernel) rfl h1 q_428 q_429 q_60 q_430 rfl hsum hd (kk _ _ h)
-- f_X7_square
def f_X7_square (σ : Sto) : Option (Sto × Int32) :=
  bd1 (f_X3_read_4 σ) fun σ1 => if (σ1.1 4 5) = 0 then (bd1 (f_X2_become_1_7 σ1) fun σ3 => bd1 (f_X6_startAnew_10 σ3) fun σ5 => bs (su σ5 24 2 (0 : Int32)) fun σ7 => bs (su σ7 26 2 (0 : Int32)) fun σ8 => gd (inB (0 : Int32) 2) (bs (su σ8 23 ((0 : Int32)).toNatClampNeg (vp_nar .boolean (0 : Int32))) fun σ9 => gd (inB (1 : Int32) 2) (bs (su σ9 23 ((1 : Int32)).toNatClampNeg (vp_nar .boolean (0 : Int32))) fun σ10 => bd2 (f_X2_count_1 σ10 (3 : Int32)) fun σ11 v12 => some (σ11, v12)))) else (some (σ1, ((-10 : Int32) - (σ1.1 4 5))))
theorem w_f_X7_square {G : Wld} {X : Cxt} (C : Cx G X RX7 cX7_square 1 9) {σ : Sto} {y : Sto × Int32} (h : f_X7_square σ = some y) (hK : Rx G X (some .int) (some (.int y.2)) y.1) : V G X 1 σ [(0, .ref (G.1 0))] [] 0 := by
  unfold f_X7_square at h
  refine v_aload_n 0 C 0 0 dX7_square_0 rfl rfl ?_
  refine g_X7_0_1 1 C dX7_square_1 ?_
  refine r_f_X3_read_4 4 C (by decide) q_334 dX7_square_4 (Nat.le_of_ble_eq_true rfl) h (fun σ1 h => ?_)
  refine v_aload_n 7 C 0 0 dX7_square_7 rfl rfl ?_
  refine g_X7_0_1 8 C dX7_square_8 ?_
  refine g_X7_4_5 11 C dX7_square_11 ?_
  refine v_if_eq 14 C 28 dX7_square_14 (by decide) h (fun h => ?_) (fun h => ?_)
  · refine v_aload_n 28 C 0 0 dX7_square_28 rfl rfl ?_
    refine g_X7_0_0 29 C dX7_square_29 ?_
    refine v_aload_n 32 C 0 0 dX7_square_32 rfl rfl ?_
    refine g_X7_0_1 33 C dX7_square_33 ?_
    refine g_X7_4_3 36 C dX7_square_36 ?_
    refine r_f_X2_become_1_7 39 C (by decide) q_459 dX7_square_39 (Nat.le_of_ble_eq_true rfl) h (fun σ3 h => ?_)
    refine v_aload_n 42 C 0 0 dX7_square_42 rfl rfl ?_
    refine g_X7_0_2 43 C dX7_square_43 ?_
    refine r_f_X6_startAnew_10 46 C (by decide) q_463 dX7_square_46 (Nat.le_of_ble_eq_true rfl) h (fun σ5 h => ?_)
    refine v_aload_n 49 C 0 0 dX7_square_49 rfl rfl ?_
    refine g_X7_0_5 50 C dX7_square_50 ?_
    refine v_iconst 53 C (0 : Int32) dX7_square_53 (by decide) ?_
    refine p_X7_24_2 54 C dX7_square_54 h (fun σ7 h => ?_)
    refine v_aload_n 57 C 0 0 dX7_square_57 rfl rfl ?_
    refine g_X7_0_6 58 C dX7_square_58 ?_
    refine v_iconst 61 C (0 : Int32) dX7_square_61 (by decide) ?_
    refine p_X7_26_2 62 C dX7_square_62 h (fun σ8 h => ?_)
    refine v_aload_n 65 C 0 0 dX7_square_65 rfl rfl ?_
    refine g_X7_0_4 66 C dX7_square_66 ?_
    refine v_iconst 69 C (0 : Int32) dX7_square_69 (by decide) ?_
    refine v_iconst 70 C (0 : Int32) dX7_square_70 (by decide) ?_
    refine b_zast 71 C 23 (by decide) (ce_23 G) dX7_square_71 h (fun σ9 h => ?_)
    refine v_aload_n 72 C 0 0 dX7_square_72 rfl rfl ?_
    refine g_X7_0_4 73 C dX7_square_73 ?_
    refine v_iconst 76 C (1 : Int32) dX7_square_76 (by decide) ?_
    refine v_iconst 77 C (0 : Int32) dX7_square_77 (by decide) ?_
    refine b_zast 78 C 23 (by decide) (ce_23 G) dX7_square_78 h (fun σ10 h => ?_)
    refine v_aload_n 79 C 0 0 dX7_square_79 rfl rfl ?_
    refine g_X7_0_0 80 C dX7_square_80 ?_
    refine v_iconst 83 C (3 : Int32) dX7_square_83 (by decide) ?_
    refine r_f_X2_count_1 84 C (by decide) q_464 dX7_square_84 (Nat.le_of_ble_eq_true rfl) h (fun σ11 v12 h => ?_)
    cases h
    exact v_iret 87 C hK dX7_square_87
  · refine v_bipush 17 C (-10 : Int32) dX7_square_17 (by decide) ?_
    refine v_aload_n 19 C 0 0 dX7_square_19 rfl rfl ?_
    refine g_X7_0_1 20 C dX7_square_20 ?_
    refine g_X7_4_5 23 C dX7_square_23 ?_
    refine v_isub 26 C dX7_square_26 ?_
    cases h
    exact v_iret 27 C hK dX7_square_27
theorem c_f_X7_square (l : Launch) (G : Wld) (hG : GI G) (σ : Sto) (y : Sto × Int32) (h : f_X7_square σ = some y) : Ct l G yX7_square cX7_square 1 (some .int) 9 [.ref (G.1 0)] σ (some (.int y.2)) y.1 := by
  refine ct_intro RX7 hG (by decide) rfl (Nat.le_of_ble_eq_true rfl) (fun X hX C hK => ?_)
  subst hX
  exact w_f_X7_square C h hK
theorem r_f_X7_square {G : Wld} {X : Cxt} {own : String} {cc : ByteArray} {nL n : Nat} {σ : Sto} {lv : List (Nat × Value)} {st : List Value} {β : Type} {r : β} {F : Sto → Int32 → Option β} {ix : Nat} (pc : Nat) (C : Cx G X own cc nL n) (hn : 9 < n) (h1 : Cond.methodLink own ix yX7_square ∈ lw_gd) (hd : decode cc pc = .ok (.invokevirtual ix, 3)) (hsum : (st.map fun v => v.category).sum ≤ 8) (h : bd2 (f_X7_square σ) F = some r) (kk : ∀ σ1 v, F σ1 v = some r → V G X nL σ1 lv (.int v :: st) (pc + 3)) : V G X nL σ lv (.ref (G.1 0) :: st) pc := by
  obtain ⟨z, hz, h⟩ := bd2_some h
  exact v_callV pc C 0 0 [] st (c_f_X7_square (xl X) G C.2.2.2.2.2.2.1 _ _ hz) hn (by decide) (by decide) (ce_0 G _ _) rfl (by decide +kernel) rfl h1 q_331 q_332 q_59 q_333 rfl hsum hd (kk _ _ h)
-- f_X7_fault
def f_X7_fault (σ : Sto) : Option (Sto × Int32) :=
  some (σ, (σ.1 4 6))
theorem w_f_X7_fault {G : Wld} {X : Cxt} (C : Cx G X RX7 cX7_fault 1 1) {σ : Sto} {y : Sto × Int32} (h : f_X7_fault σ = some y) (hK : Rx G X (some .int) (some (.int y.2)) y.1) : V G X 1 σ [(0, .ref (G.1 0))] [] 0 := by
  unfold f_X7_fault at h
  refine v_aload_n 0 C 0 0 dX7_fault_0 rfl rfl ?_
  refine g_X7_0_1 1 C dX7_fault_1 ?_
  refine g_X7_4_6 4 C dX7_fault_4 ?_
  cases h
  exact v_iret 7 C hK dX7_fault_7
theorem c_f_X7_fault (l : Launch) (G : Wld) (hG : GI G) (σ : Sto) (y : Sto × Int32) (h : f_X7_fault σ = some y) : Ct l G yX7_fault cX7_fault 1 (some .int) 1 [.ref (G.1 0)] σ (some (.int y.2)) y.1 := by
  refine ct_intro RX7 hG (by decide) rfl (Nat.le_of_ble_eq_true rfl) (fun X hX C hK => ?_)
  subst hX
  exact w_f_X7_fault C h hK
theorem r_f_X7_fault {G : Wld} {X : Cxt} {own : String} {cc : ByteArray} {nL n : Nat} {σ : Sto} {lv : List (Nat × Value)} {st : List Value} {β : Type} {r : β} {F : Sto → Int32 → Option β} {ix : Nat} (pc : Nat) (C : Cx G X own cc nL n) (hn : 1 < n) (h1 : Cond.methodLink own ix yX7_fault ∈ lw_gd) (hd : decode cc pc = .ok (.invokevirtual ix, 3)) (hsum : (st.map fun v => v.category).sum ≤ 8) (h : bd2 (f_X7_fault σ) F = some r) (kk : ∀ σ1 v, F σ1 v = some r → V G X nL σ1 lv (.int v :: st) (pc + 3)) : V G X nL σ lv (.ref (G.1 0) :: st) pc := by
  obtain ⟨z, hz, h⟩ := bd2_some h
  exact v_callV pc C 0 0 [] st (c_f_X7_fault (xl X) G C.2.2.2.2.2.2.1 _ _ hz) hn (by decide) (by decide) (ce_0 G _ _) rfl (by decide +kernel) rfl h1 q_467 q_468 q_59 q_469 rfl hsum hd (kk _ _ h)
-- f_X2_number_1
def f_X2_number_1_j14 (σ : Sto) : Option (Sto × Int32) :=
  some (σ, (0 : Int32))
def f_X2_number_1 (σ : Sto) (a1 : Int32) (a2 : Int32) (a3 : Int32) : Option (Sto × Int32) :=
  if a2 < 0 then (f_X2_number_1_j14 σ) else (gd (inB a1 5) (if a2 < (σ.1 2 (a1).toNatClampNeg) then (gd (inB ((((a1 * (6 : Int32)) + a2) * (3 : Int32)) + a3) 90) (some (σ, (σ.1 3 (((((a1 * (6 : Int32)) + a2) * (3 : Int32)) + a3)).toNatClampNeg)))) else (f_X2_number_1_j14 σ)))
theorem w_f_X2_number_1_j14 {G : Wld} {X : Cxt} (C : Cx G X RX2 cX2_number 4 1) {σ : Sto} {y : Sto × Int32} (h : f_X2_number_1_j14 σ = some y) (hK : Rx G X (some .int) (some (.int y.2)) y.1) : V G X 4 σ [(0, .ref (G.1 1))] [] 14 := by
  unfold f_X2_number_1_j14 at h
  refine v_iconst 14 C (0 : Int32) dX2_number_14 (by decide) ?_
  cases h
  exact v_iret 15 C hK dX2_number_15
theorem w_f_X2_number_1 {G : Wld} {X : Cxt} (C : Cx G X RX2 cX2_number 4 1) {σ : Sto} {a1 : Int32} {a2 : Int32} {a3 : Int32} {y : Sto × Int32} (h : f_X2_number_1 σ a1 a2 a3 = some y) (hK : Rx G X (some .int) (some (.int y.2)) y.1) : V G X 4 σ [(0, .ref (G.1 1)), (1, .int a1), (2, .int a2), (3, .int a3)] [] 0 := by
  unfold f_X2_number_1 at h
  refine v_iload_n 0 C 2 2 dX2_number_0 rfl rfl ?_
  refine v_if_lt 1 C 14 dX2_number_1 (by decide) h (fun h => ?_) (fun h => ?_)
  · exact v_sub [0] rfl (w_f_X2_number_1_j14 C h hK)
  · refine v_iload_n 4 C 2 2 dX2_number_4 rfl rfl ?_
    refine v_aload_n 5 C 0 0 dX2_number_5 rfl rfl ?_
    refine g_X2_1_0 6 C dX2_number_6 ?_
    refine v_iload_n 9 C 1 1 dX2_number_9 rfl rfl ?_
    refine v_iald 10 C 2 (by decide) (ce_2 G) dX2_number_10 h (fun h => ?_)
    refine v_icmp_lt 11 C 16 dX2_number_11 (by decide) h (fun h => ?_) (fun h => ?_)
    · refine v_aload_n 16 C 0 0 dX2_number_16 rfl rfl ?_
      refine g_X2_1_1 17 C dX2_number_17 ?_
      refine v_iload_n 20 C 1 1 dX2_number_20 rfl rfl ?_
      refine v_bipush 21 C (6 : Int32) dX2_number_21 (by decide) ?_
      refine v_imul 23 C dX2_number_23 ?_
      refine v_iload_n 24 C 2 2 dX2_number_24 rfl rfl ?_
      refine v_iadd 25 C dX2_number_25 ?_
      refine v_iconst 26 C (3 : Int32) dX2_number_26 (by decide) ?_
      refine v_imul 27 C dX2_number_27 ?_
      refine v_iload_n 28 C 3 3 dX2_number_28 rfl rfl ?_
      refine v_iadd 29 C dX2_number_29 ?_
      refine v_iald 30 C 3 (by decide) (ce_3 G) dX2_number_30 h (fun h => ?_)
      cases h
      exact v_iret 31 C hK dX2_number_31
    · exact v_sub [0] rfl (w_f_X2_number_1_j14 C h hK)
theorem c_f_X2_number_1 (l : Launch) (G : Wld) (hG : GI G) (σ : Sto) (a1 : Int32) (a2 : Int32) (a3 : Int32) (y : Sto × Int32) (h : f_X2_number_1 σ a1 a2 a3 = some y) : Ct l G yX2_number cX2_number 4 (some .int) 1 [.ref (G.1 1), .int a1, .int a2, .int a3] σ (some (.int y.2)) y.1 := by
  refine ct_intro RX2 hG (by decide) rfl (Nat.le_of_ble_eq_true rfl) (fun X hX C hK => ?_)
  subst hX
  exact w_f_X2_number_1 C h hK
theorem r_f_X2_number_1 {G : Wld} {X : Cxt} {own : String} {cc : ByteArray} {nL n : Nat} {σ : Sto} {lv : List (Nat × Value)} {st : List Value} {β : Type} {r : β} {F : Sto → Int32 → Option β} {a1 : Int32} {a2 : Int32} {a3 : Int32} {ix : Nat} (pc : Nat) (C : Cx G X own cc nL n) (hn : 1 < n) (h1 : Cond.methodLink own ix yX2_number ∈ lw_gd) (hd : decode cc pc = .ok (.invokevirtual ix, 3)) (hsum : (st.map fun v => v.category).sum ≤ 8) (h : bd2 (f_X2_number_1 σ a1 a2 a3) F = some r) (kk : ∀ σ1 v, F σ1 v = some r → V G X nL σ1 lv (.int v :: st) (pc + 3)) : V G X nL σ lv (.int a3 :: .int a2 :: .int a1 :: .ref (G.1 1) :: st) pc := by
  obtain ⟨z, hz, h⟩ := bd2_some h
  exact v_callV pc C 1 3 [.int a1, .int a2, .int a3] st (c_f_X2_number_1 (xl X) G C.2.2.2.2.2.2.1 _ _ _ _ _ hz) hn (by decide) (by decide) (ce_1 G _ _) rfl (by decide +kernel) rfl h1 q_479 q_480 q_60 q_481 rfl hsum hd (kk _ _ h)
-- f_X2_days_1
def f_X2_days_1_j25 (σ : Sto) (s0 : Int32) : Option (Sto × Int32) :=
  some (σ, s0)
def f_X2_days_1 (σ : Sto) : Option (Sto × Int32) :=
  gd (inB (0 : Int32) 5) (if (σ.1 2 ((0 : Int32)).toNatClampNeg) = 0 then (f_X2_days_1_j25 σ (12 : Int32)) else (bd2 (f_X2_number_1 σ (0 : Int32) (0 : Int32) (0 : Int32)) fun σ1 v2 => f_X2_days_1_j25 σ1 (iMax (1 : Int32) v2)))
theorem w_f_X2_days_1_j25 {G : Wld} {X : Cxt} (C : Cx G X RX2 cX2_days 1 2) {σ : Sto} {s0 : Int32} {y : Sto × Int32} (h : f_X2_days_1_j25 σ s0 = some y) (hK : Rx G X (some .int) (some (.int y.2)) y.1) : V G X 1 σ [(0, .ref (G.1 1))] [.int s0] 25 := by
  unfold f_X2_days_1_j25 at h
  cases h
  exact v_iret 25 C hK dX2_days_25
theorem w_f_X2_days_1 {G : Wld} {X : Cxt} (C : Cx G X RX2 cX2_days 1 2) {σ : Sto} {y : Sto × Int32} (h : f_X2_days_1 σ = some y) (hK : Rx G X (some .int) (some (.int y.2)) y.1) : V G X 1 σ [(0, .ref (G.1 1))] [] 0 := by
  unfold f_X2_days_1 at h
  refine v_aload_n 0 C 0 0 dX2_days_0 rfl rfl ?_
  refine g_X2_1_0 1 C dX2_days_1 ?_
  refine v_iconst 4 C (0 : Int32) dX2_days_4 (by decide) ?_
  refine v_iald 5 C 2 (by decide) (ce_2 G) dX2_days_5 h (fun h => ?_)
  refine v_if_ne 6 C 14 dX2_days_6 (by decide) h (fun h => ?_) (fun h => ?_)
  · refine v_iconst 14 C (1 : Int32) dX2_days_14 (by decide) ?_
    refine v_aload_n 15 C 0 0 dX2_days_15 rfl rfl ?_
    refine v_iconst 16 C (0 : Int32) dX2_days_16 (by decide) ?_
    refine v_iconst 17 C (0 : Int32) dX2_days_17 (by decide) ?_
    refine v_iconst 18 C (0 : Int32) dX2_days_18 (by decide) ?_
    refine r_f_X2_number_1 19 C (by decide) q_478 dX2_days_19 (Nat.le_of_ble_eq_true rfl) h (fun σ1 v2 h => ?_)
    refine v_max 22 C q_482 q_483 q_74 q_484 (Nat.le_of_ble_eq_true rfl) (by decide) dX2_days_22 ?_
    exact v_sub [0] rfl (w_f_X2_days_1_j25 C h hK)
  · refine v_bipush 9 C (12 : Int32) dX2_days_9 (by decide) ?_
    refine v_goto 11 C 25 dX2_days_11 (by decide) ?_
    exact v_sub [0] rfl (w_f_X2_days_1_j25 C h hK)
theorem c_f_X2_days_1 (l : Launch) (G : Wld) (hG : GI G) (σ : Sto) (y : Sto × Int32) (h : f_X2_days_1 σ = some y) : Ct l G yX2_days cX2_days 1 (some .int) 2 [.ref (G.1 1)] σ (some (.int y.2)) y.1 := by
  refine ct_intro RX2 hG (by decide) rfl (Nat.le_of_ble_eq_true rfl) (fun X hX C hK => ?_)
  subst hX
  exact w_f_X2_days_1 C h hK
theorem r_f_X2_days_1 {G : Wld} {X : Cxt} {own : String} {cc : ByteArray} {nL n : Nat} {σ : Sto} {lv : List (Nat × Value)} {st : List Value} {β : Type} {r : β} {F : Sto → Int32 → Option β} {ix : Nat} (pc : Nat) (C : Cx G X own cc nL n) (hn : 2 < n) (h1 : Cond.methodLink own ix yX2_days ∈ lw_gd) (hd : decode cc pc = .ok (.invokevirtual ix, 3)) (hsum : (st.map fun v => v.category).sum ≤ 8) (h : bd2 (f_X2_days_1 σ) F = some r) (kk : ∀ σ1 v, F σ1 v = some r → V G X nL σ1 lv (.int v :: st) (pc + 3)) : V G X nL σ lv (.ref (G.1 1) :: st) pc := by
  obtain ⟨z, hz, h⟩ := bd2_some h
  exact v_callV pc C 1 0 [] st (c_f_X2_days_1 (xl X) G C.2.2.2.2.2.2.1 _ _ hz) hn (by decide) (by decide) (ce_1 G _ _) rfl (by decide +kernel) rfl h1 q_475 q_476 q_60 q_477 rfl hsum hd (kk _ _ h)
-- f_X7_told
def f_X7_told (σ : Sto) (a1 : Int32) : Option (Sto × Int32) :=
  if a1 = (0 : Int32) then (bd2 (f_X2_days_1 σ) fun σ2 v3 => some (σ2, v3)) else if a1 = (1 : Int32) then (bd2 (f_X2_count_1 σ (1 : Int32)) fun σ4 v5 => some (σ4, v5)) else if a1 = (2 : Int32) then (bd2 (f_X2_count_1 σ (2 : Int32)) fun σ6 v7 => some (σ6, v7)) else if a1 = (3 : Int32) then (bd2 (f_X2_count_1 σ (3 : Int32)) fun σ8 v9 => some (σ8, v9)) else if a1 = (4 : Int32) then (bd2 (f_X2_count_1 σ (4 : Int32)) fun σ10 v11 => some (σ10, v11)) else if a1 = (5 : Int32) then (some (σ, (σ.1 4 4))) else if a1 = (6 : Int32) then (some (σ, (σ.1 10 3))) else if a1 = (7 : Int32) then (some (σ, (σ.1 10 5))) else if a1 = (8 : Int32) then (some (σ, (σ.1 10 4))) else if a1 = (9 : Int32) then (some (σ, (σ.1 24 2))) else if a1 = (10 : Int32) then (some (σ, (σ.1 26 2))) else (some (σ, (-1000000002 : Int32)))
theorem w_f_X7_told {G : Wld} {X : Cxt} (C : Cx G X RX7 cX7_told 2 3) {σ : Sto} {a1 : Int32} {y : Sto × Int32} (h : f_X7_told σ a1 = some y) (hK : Rx G X (some .int) (some (.int y.2)) y.1) : V G X 2 σ [(0, .ref (G.1 0)), (1, .int a1)] [] 0 := by
  unfold f_X7_told at h
  refine v_iload_n 0 C 1 1 dX7_told_0 rfl rfl ?_
  by_cases c1_0 : a1 = (0 : Int32)
  · replace h := it_t h c1_0
    refine v_tableAt 1 C (off := 59) (0 : Int32) 60 c1_0 dX7_told_1 (by decide) (by decide) (by decide) (by decide) ?_
    refine v_aload_n 60 C 0 0 dX7_told_60 rfl rfl ?_
    refine g_X7_0_0 61 C dX7_told_61 ?_
    refine r_f_X2_days_1 64 C (by decide) q_474 dX7_told_64 (Nat.le_of_ble_eq_true rfl) h (fun σ2 v3 h => ?_)
    cases h
    exact v_iret 67 C hK dX7_told_67
  · replace h := it_f h c1_0
    by_cases c1_1 : a1 = (1 : Int32)
    · replace h := it_t h c1_1
      refine v_tableAt 1 C (off := 67) (1 : Int32) 68 c1_1 dX7_told_1 (by decide) (by decide) (by decide) (by decide) ?_
      refine v_aload_n 68 C 0 0 dX7_told_68 rfl rfl ?_
      refine g_X7_0_0 69 C dX7_told_69 ?_
      refine v_iconst 72 C (1 : Int32) dX7_told_72 (by decide) ?_
      refine r_f_X2_count_1 73 C (by decide) q_464 dX7_told_73 (Nat.le_of_ble_eq_true rfl) h (fun σ4 v5 h => ?_)
      cases h
      exact v_iret 76 C hK dX7_told_76
    · replace h := it_f h c1_1
      by_cases c1_2 : a1 = (2 : Int32)
      · replace h := it_t h c1_2
        refine v_tableAt 1 C (off := 76) (2 : Int32) 77 c1_2 dX7_told_1 (by decide) (by decide) (by decide) (by decide) ?_
        refine v_aload_n 77 C 0 0 dX7_told_77 rfl rfl ?_
        refine g_X7_0_0 78 C dX7_told_78 ?_
        refine v_iconst 81 C (2 : Int32) dX7_told_81 (by decide) ?_
        refine r_f_X2_count_1 82 C (by decide) q_464 dX7_told_82 (Nat.le_of_ble_eq_true rfl) h (fun σ6 v7 h => ?_)
        cases h
        exact v_iret 85 C hK dX7_told_85
      · replace h := it_f h c1_2
        by_cases c1_3 : a1 = (3 : Int32)
        · replace h := it_t h c1_3
          refine v_tableAt 1 C (off := 85) (3 : Int32) 86 c1_3 dX7_told_1 (by decide) (by decide) (by decide) (by decide) ?_
          refine v_aload_n 86 C 0 0 dX7_told_86 rfl rfl ?_
          refine g_X7_0_0 87 C dX7_told_87 ?_
          refine v_iconst 90 C (3 : Int32) dX7_told_90 (by decide) ?_
          refine r_f_X2_count_1 91 C (by decide) q_464 dX7_told_91 (Nat.le_of_ble_eq_true rfl) h (fun σ8 v9 h => ?_)
          cases h
          exact v_iret 94 C hK dX7_told_94
        · replace h := it_f h c1_3
          by_cases c1_4 : a1 = (4 : Int32)
          · replace h := it_t h c1_4
            refine v_tableAt 1 C (off := 94) (4 : Int32) 95 c1_4 dX7_told_1 (by decide) (by decide) (by decide) (by decide) ?_
            refine v_aload_n 95 C 0 0 dX7_told_95 rfl rfl ?_
            refine g_X7_0_0 96 C dX7_told_96 ?_
            refine v_iconst 99 C (4 : Int32) dX7_told_99 (by decide) ?_
            refine r_f_X2_count_1 100 C (by decide) q_464 dX7_told_100 (Nat.le_of_ble_eq_true rfl) h (fun σ10 v11 h => ?_)
            cases h
            exact v_iret 103 C hK dX7_told_103
          · replace h := it_f h c1_4
            by_cases c1_5 : a1 = (5 : Int32)
            · replace h := it_t h c1_5
              refine v_tableAt 1 C (off := 103) (5 : Int32) 104 c1_5 dX7_told_1 (by decide) (by decide) (by decide) (by decide) ?_
              refine v_aload_n 104 C 0 0 dX7_told_104 rfl rfl ?_
              refine g_X7_0_1 105 C dX7_told_105 ?_
              refine g_X7_4_4 108 C dX7_told_108 ?_
              cases h
              exact v_iret 111 C hK dX7_told_111
            · replace h := it_f h c1_5
              by_cases c1_6 : a1 = (6 : Int32)
              · replace h := it_t h c1_6
                refine v_tableAt 1 C (off := 111) (6 : Int32) 112 c1_6 dX7_told_1 (by decide) (by decide) (by decide) (by decide) ?_
                refine v_aload_n 112 C 0 0 dX7_told_112 rfl rfl ?_
                refine g_X7_0_2 113 C dX7_told_113 ?_
                refine g_X7_10_3 116 C dX7_told_116 ?_
                cases h
                exact v_iret 119 C hK dX7_told_119
              · replace h := it_f h c1_6
                by_cases c1_7 : a1 = (7 : Int32)
                · replace h := it_t h c1_7
                  refine v_tableAt 1 C (off := 119) (7 : Int32) 120 c1_7 dX7_told_1 (by decide) (by decide) (by decide) (by decide) ?_
                  refine v_aload_n 120 C 0 0 dX7_told_120 rfl rfl ?_
                  refine g_X7_0_2 121 C dX7_told_121 ?_
                  refine g_X7_10_5 124 C dX7_told_124 ?_
                  cases h
                  exact v_iret 127 C hK dX7_told_127
                · replace h := it_f h c1_7
                  by_cases c1_8 : a1 = (8 : Int32)
                  · replace h := it_t h c1_8
                    refine v_tableAt 1 C (off := 127) (8 : Int32) 128 c1_8 dX7_told_1 (by decide) (by decide) (by decide) (by decide) ?_
                    refine v_aload_n 128 C 0 0 dX7_told_128 rfl rfl ?_
                    refine g_X7_0_2 129 C dX7_told_129 ?_
                    refine g_X7_10_4 132 C dX7_told_132 ?_
                    cases h
                    exact v_iret 135 C hK dX7_told_135
                  · replace h := it_f h c1_8
                    by_cases c1_9 : a1 = (9 : Int32)
                    · replace h := it_t h c1_9
                      refine v_tableAt 1 C (off := 135) (9 : Int32) 136 c1_9 dX7_told_1 (by decide) (by decide) (by decide) (by decide) ?_
                      refine v_aload_n 136 C 0 0 dX7_told_136 rfl rfl ?_
                      refine g_X7_0_5 137 C dX7_told_137 ?_
                      refine g_X7_24_2 140 C dX7_told_140 ?_
                      cases h
                      exact v_iret 143 C hK dX7_told_143
                    · replace h := it_f h c1_9
                      by_cases c1_10 : a1 = (10 : Int32)
                      · replace h := it_t h c1_10
                        refine v_tableAt 1 C (off := 143) (10 : Int32) 144 c1_10 dX7_told_1 (by decide) (by decide) (by decide) (by decide) ?_
                        refine v_aload_n 144 C 0 0 dX7_told_144 rfl rfl ?_
                        refine g_X7_0_6 145 C dX7_told_145 ?_
                        refine g_X7_26_2 148 C dX7_told_148 ?_
                        cases h
                        exact v_iret 151 C hK dX7_told_151
                      · replace h := it_f h c1_10
                        refine v_tableOut 1 C 152 dX7_told_1 (sw_out 11 (by decide) (fun j hj => by
                          rcases (show j = 0 ∨ j = 1 ∨ j = 2 ∨ j = 3 ∨ j = 4 ∨ j = 5 ∨ j = 6 ∨ j = 7 ∨ j = 8 ∨ j = 9 ∨ j = 10 by omega) with rfl | rfl | rfl | rfl | rfl | rfl | rfl | rfl | rfl | rfl | rfl
                          · exact c1_0
                          · exact c1_1
                          · exact c1_2
                          · exact c1_3
                          · exact c1_4
                          · exact c1_5
                          · exact c1_6
                          · exact c1_7
                          · exact c1_8
                          · exact c1_9
                          · exact c1_10)) (by decide) ?_
                        refine v_ldc 152 C dX7_told_152 q_323 ?_
                        cases h
                        exact v_iret 154 C hK dX7_told_154
theorem c_f_X7_told (l : Launch) (G : Wld) (hG : GI G) (σ : Sto) (a1 : Int32) (y : Sto × Int32) (h : f_X7_told σ a1 = some y) : Ct l G yX7_told cX7_told 2 (some .int) 3 [.ref (G.1 0), .int a1] σ (some (.int y.2)) y.1 := by
  refine ct_intro RX7 hG (by decide) rfl (Nat.le_of_ble_eq_true rfl) (fun X hX C hK => ?_)
  subst hX
  exact w_f_X7_told C h hK
theorem r_f_X7_told {G : Wld} {X : Cxt} {own : String} {cc : ByteArray} {nL n : Nat} {σ : Sto} {lv : List (Nat × Value)} {st : List Value} {β : Type} {r : β} {F : Sto → Int32 → Option β} {a1 : Int32} {ix : Nat} (pc : Nat) (C : Cx G X own cc nL n) (hn : 3 < n) (h1 : Cond.methodLink own ix yX7_told ∈ lw_gd) (hd : decode cc pc = .ok (.invokevirtual ix, 3)) (hsum : (st.map fun v => v.category).sum ≤ 8) (h : bd2 (f_X7_told σ a1) F = some r) (kk : ∀ σ1 v, F σ1 v = some r → V G X nL σ1 lv (.int v :: st) (pc + 3)) : V G X nL σ lv (.int a1 :: .ref (G.1 0) :: st) pc := by
  obtain ⟨z, hz, h⟩ := bd2_some h
  exact v_callV pc C 0 1 [.int a1] st (c_f_X7_told (xl X) G C.2.2.2.2.2.2.1 _ _ _ hz) hn (by decide) (by decide) (ce_0 G _ _) rfl (by decide +kernel) rfl h1 q_471 q_472 q_59 q_473 rfl hsum hd (kk _ _ h)
-- f_X2_has_1
def f_X2_has_1_j19 (σ : Sto) (s0 : Int32) : Option (Sto × Int32) :=
  gd (zB s0) (some (σ, s0))
def f_X2_has_1_j18 (σ : Sto) : Option (Sto × Int32) :=
  f_X2_has_1_j19 σ (0 : Int32)
def f_X2_has_1 (σ : Sto) (a1 : Int32) (a2 : Int32) : Option (Sto × Int32) :=
  if a2 < 0 then (f_X2_has_1_j18 σ) else (gd (inB a1 5) (if (σ.1 2 (a1).toNatClampNeg) ≤ a2 then (f_X2_has_1_j18 σ) else (f_X2_has_1_j19 σ (1 : Int32))))
theorem w_f_X2_has_1_j19 {G : Wld} {X : Cxt} (C : Cx G X RX2 cX2_has 3 1) {σ : Sto} {s0 : Int32} {y : Sto × Int32} (h : f_X2_has_1_j19 σ s0 = some y) (hK : Rx G X (some .boolean) (some (.int y.2)) y.1) : V G X 3 σ [(0, .ref (G.1 1))] [.int s0] 19 := by
  unfold f_X2_has_1_j19 at h
  obtain ⟨hz, h⟩ := gd_some h
  cases h
  exact v_zret 19 C (zB_nar hz) hK dX2_has_19
theorem w_f_X2_has_1_j18 {G : Wld} {X : Cxt} (C : Cx G X RX2 cX2_has 3 1) {σ : Sto} {y : Sto × Int32} (h : f_X2_has_1_j18 σ = some y) (hK : Rx G X (some .boolean) (some (.int y.2)) y.1) : V G X 3 σ [(0, .ref (G.1 1))] [] 18 := by
  unfold f_X2_has_1_j18 at h
  refine v_iconst 18 C (0 : Int32) dX2_has_18 (by decide) ?_
  exact v_sub [0] rfl (w_f_X2_has_1_j19 C h hK)
theorem w_f_X2_has_1 {G : Wld} {X : Cxt} (C : Cx G X RX2 cX2_has 3 1) {σ : Sto} {a1 : Int32} {a2 : Int32} {y : Sto × Int32} (h : f_X2_has_1 σ a1 a2 = some y) (hK : Rx G X (some .boolean) (some (.int y.2)) y.1) : V G X 3 σ [(0, .ref (G.1 1)), (1, .int a1), (2, .int a2)] [] 0 := by
  unfold f_X2_has_1 at h
  refine v_iload_n 0 C 2 2 dX2_has_0 rfl rfl ?_
  refine v_if_lt 1 C 18 dX2_has_1 (by decide) h (fun h => ?_) (fun h => ?_)
  · exact v_sub [0] rfl (w_f_X2_has_1_j18 C h hK)
  · refine v_iload_n 4 C 2 2 dX2_has_4 rfl rfl ?_
    refine v_aload_n 5 C 0 0 dX2_has_5 rfl rfl ?_
    refine g_X2_1_0 6 C dX2_has_6 ?_
    refine v_iload_n 9 C 1 1 dX2_has_9 rfl rfl ?_
    refine v_iald 10 C 2 (by decide) (ce_2 G) dX2_has_10 h (fun h => ?_)
    refine v_icmp_ge 11 C 18 dX2_has_11 (by decide) h (fun h => ?_) (fun h => ?_)
    · exact v_sub [0] rfl (w_f_X2_has_1_j18 C h hK)
    · refine v_iconst 14 C (1 : Int32) dX2_has_14 (by decide) ?_
      refine v_goto 15 C 19 dX2_has_15 (by decide) ?_
      exact v_sub [0] rfl (w_f_X2_has_1_j19 C h hK)
theorem c_f_X2_has_1 (l : Launch) (G : Wld) (hG : GI G) (σ : Sto) (a1 : Int32) (a2 : Int32) (y : Sto × Int32) (h : f_X2_has_1 σ a1 a2 = some y) : Ct l G yX2_has cX2_has 3 (some .boolean) 1 [.ref (G.1 1), .int a1, .int a2] σ (some (.int y.2)) y.1 := by
  refine ct_intro RX2 hG (by decide) rfl (Nat.le_of_ble_eq_true rfl) (fun X hX C hK => ?_)
  subst hX
  exact w_f_X2_has_1 C h hK
theorem r_f_X2_has_1 {G : Wld} {X : Cxt} {own : String} {cc : ByteArray} {nL n : Nat} {σ : Sto} {lv : List (Nat × Value)} {st : List Value} {β : Type} {r : β} {F : Sto → Int32 → Option β} {a1 : Int32} {a2 : Int32} {ix : Nat} (pc : Nat) (C : Cx G X own cc nL n) (hn : 1 < n) (h1 : Cond.methodLink own ix yX2_has ∈ lw_gd) (hd : decode cc pc = .ok (.invokevirtual ix, 3)) (hsum : (st.map fun v => v.category).sum ≤ 8) (h : bd2 (f_X2_has_1 σ a1 a2) F = some r) (kk : ∀ σ1 v, F σ1 v = some r → V G X nL σ1 lv (.int v :: st) (pc + 3)) : V G X nL σ lv (.int a2 :: .int a1 :: .ref (G.1 1) :: st) pc := by
  obtain ⟨z, hz, h⟩ := bd2_some h
  exact v_callV pc C 1 2 [.int a1, .int a2] st (c_f_X2_has_1 (xl X) G C.2.2.2.2.2.2.1 _ _ _ _ hz) hn (by decide) (by decide) (ce_1 G _ _) rfl (by decide +kernel) rfl h1 q_490 q_491 q_60 q_492 rfl hsum hd (kk _ _ h)
-- f_X2_longOf_1
def f_X2_longOf_1_j17 (σ : Sto) (x1 : Int32) (x3 : Int32) (s0 : Int32) : Option (Sto × Int32) :=
  bs s0 fun z4 => bs (iMin z4 (x3 - z4)) fun z5 => bd2 (f_X2_number_1 σ (1 : Int32) x1 (0 : Int32)) fun σ6 v7 => bd2 (f_X2_number_1 σ6 (1 : Int32) x1 (1 : Int32)) fun σ8 v9 => some (σ8, (v7 + (v9 * z5)))
def f_X2_longOf_1 (σ : Sto) (a1 : Int32) (a2 : Int32) : Option (Sto × Int32) :=
  bd2 (f_X2_days_1 σ) fun σ1 v2 => bs v2 fun z3 => if (1 : Int32) ≤ z3 then (gd (nzI z3) (f_X2_longOf_1_j17 σ1 a1 z3 (iR a2 z3))) else (f_X2_longOf_1_j17 σ1 a1 z3 (0 : Int32))
theorem w_f_X2_longOf_1_j17 {G : Wld} {X : Cxt} (C : Cx G X RX2 cX2_longOf 6 3) {σ : Sto} {x1 : Int32} {x3 : Int32} {s0 : Int32} {y : Sto × Int32} (h : f_X2_longOf_1_j17 σ x1 x3 s0 = some y) (hK : Rx G X (some .int) (some (.int y.2)) y.1) : V G X 6 σ [(0, .ref (G.1 1)), (1, .int x1), (3, .int x3)] [.int s0] 17 := by
  unfold f_X2_longOf_1_j17 at h
  refine b_istore 17 C 4 (lv2 := fun z4 => [(4, .int z4), (0, .ref (G.1 1)), (1, .int x1), (3, .int x3)]) dX2_longOf_17 (by decide) (fun _ => rfl) h (fun z4 h => ?_)
  refine v_iload 19 C 4 0 dX2_longOf_19 rfl ?_
  refine v_iload_n 21 C 3 3 dX2_longOf_21 rfl rfl ?_
  refine v_iload 22 C 4 0 dX2_longOf_22 rfl ?_
  refine v_isub 24 C dX2_longOf_24 ?_
  refine v_min 25 C q_500 q_501 q_74 q_502 (Nat.le_of_ble_eq_true rfl) (by decide) dX2_longOf_25 ?_
  refine b_istore 28 C 5 (lv2 := fun z5 => [(5, .int z5), (4, .int z4), (0, .ref (G.1 1)), (1, .int x1), (3, .int x3)]) dX2_longOf_28 (by decide) (fun _ => rfl) h (fun z5 h => ?_)
  refine v_aload_n 30 C 0 2 dX2_longOf_30 rfl rfl ?_
  refine v_iconst 31 C (1 : Int32) dX2_longOf_31 (by decide) ?_
  refine v_iload_n 32 C 1 3 dX2_longOf_32 rfl rfl ?_
  refine v_iconst 33 C (0 : Int32) dX2_longOf_33 (by decide) ?_
  refine r_f_X2_number_1 34 C (by decide) q_478 dX2_longOf_34 (Nat.le_of_ble_eq_true rfl) h (fun σ6 v7 h => ?_)
  refine v_aload_n 37 C 0 2 dX2_longOf_37 rfl rfl ?_
  refine v_iconst 38 C (1 : Int32) dX2_longOf_38 (by decide) ?_
  refine v_iload_n 39 C 1 3 dX2_longOf_39 rfl rfl ?_
  refine v_iconst 40 C (1 : Int32) dX2_longOf_40 (by decide) ?_
  refine r_f_X2_number_1 41 C (by decide) q_478 dX2_longOf_41 (Nat.le_of_ble_eq_true rfl) h (fun σ8 v9 h => ?_)
  refine v_iload 44 C 5 0 dX2_longOf_44 rfl ?_
  refine v_imul 46 C dX2_longOf_46 ?_
  refine v_iadd 47 C dX2_longOf_47 ?_
  cases h
  exact v_iret 48 C hK dX2_longOf_48
theorem w_f_X2_longOf_1 {G : Wld} {X : Cxt} (C : Cx G X RX2 cX2_longOf 6 3) {σ : Sto} {a1 : Int32} {a2 : Int32} {y : Sto × Int32} (h : f_X2_longOf_1 σ a1 a2 = some y) (hK : Rx G X (some .int) (some (.int y.2)) y.1) : V G X 6 σ [(0, .ref (G.1 1)), (1, .int a1), (2, .int a2)] [] 0 := by
  unfold f_X2_longOf_1 at h
  refine v_aload_n 0 C 0 0 dX2_longOf_0 rfl rfl ?_
  refine r_f_X2_days_1 1 C (by decide) q_499 dX2_longOf_1 (Nat.le_of_ble_eq_true rfl) h (fun σ1 v2 h => ?_)
  refine b_istore_n 4 C 3 (lv2 := fun z3 => [(3, .int z3), (0, .ref (G.1 1)), (1, .int a1), (2, .int a2)]) dX2_longOf_4 rfl (by decide) (fun _ => rfl) h (fun z3 h => ?_)
  refine v_iload_n 5 C 3 0 dX2_longOf_5 rfl rfl ?_
  refine v_iconst 6 C (1 : Int32) dX2_longOf_6 (by decide) ?_
  refine v_icmp_ge 7 C 14 dX2_longOf_7 (by decide) h (fun h => ?_) (fun h => ?_)
  · refine v_iload_n 14 C 2 3 dX2_longOf_14 rfl rfl ?_
    refine v_iload_n 15 C 3 0 dX2_longOf_15 rfl rfl ?_
    refine v_irem 16 C dX2_longOf_16 h (fun h => ?_)
    exact v_sub [1, 2, 0] rfl (w_f_X2_longOf_1_j17 C h hK)
  · refine v_iconst 10 C (0 : Int32) dX2_longOf_10 (by decide) ?_
    refine v_goto 11 C 17 dX2_longOf_11 (by decide) ?_
    exact v_sub [1, 2, 0] rfl (w_f_X2_longOf_1_j17 C h hK)
theorem c_f_X2_longOf_1 (l : Launch) (G : Wld) (hG : GI G) (σ : Sto) (a1 : Int32) (a2 : Int32) (y : Sto × Int32) (h : f_X2_longOf_1 σ a1 a2 = some y) : Ct l G yX2_longOf cX2_longOf 6 (some .int) 3 [.ref (G.1 1), .int a1, .int a2] σ (some (.int y.2)) y.1 := by
  refine ct_intro RX2 hG (by decide) rfl (Nat.le_of_ble_eq_true rfl) (fun X hX C hK => ?_)
  subst hX
  exact w_f_X2_longOf_1 C h hK
theorem r_f_X2_longOf_1 {G : Wld} {X : Cxt} {own : String} {cc : ByteArray} {nL n : Nat} {σ : Sto} {lv : List (Nat × Value)} {st : List Value} {β : Type} {r : β} {F : Sto → Int32 → Option β} {a1 : Int32} {a2 : Int32} {ix : Nat} (pc : Nat) (C : Cx G X own cc nL n) (hn : 3 < n) (h1 : Cond.methodLink own ix yX2_longOf ∈ lw_gd) (hd : decode cc pc = .ok (.invokevirtual ix, 3)) (hsum : (st.map fun v => v.category).sum ≤ 8) (h : bd2 (f_X2_longOf_1 σ a1 a2) F = some r) (kk : ∀ σ1 v, F σ1 v = some r → V G X nL σ1 lv (.int v :: st) (pc + 3)) : V G X nL σ lv (.int a2 :: .int a1 :: .ref (G.1 1) :: st) pc := by
  obtain ⟨z, hz, h⟩ := bd2_some h
  exact v_callV pc C 1 2 [.int a1, .int a2] st (c_f_X2_longOf_1 (xl X) G C.2.2.2.2.2.2.1 _ _ _ _ hz) hn (by decide) (by decide) (ce_1 G _ _) rfl (by decide +kernel) rfl h1 q_496 q_497 q_60 q_498 rfl hsum hd (kk _ _ h)
-- f_X7_bell
def f_X7_bell_j25 (σ : Sto) : Option (Sto × Int32) :=
  some (σ, (-1000000002 : Int32))
def f_X7_bell (σ : Sto) (a1 : Int32) (a2 : Int32) : Option (Sto × Int32) :=
  bd2 (f_X2_has_1 σ (1 : Int32) a1) fun σ1 v2 => if v2 = 0 then (some (σ1, (-1000000001 : Int32))) else (if a2 < 0 then (f_X7_bell_j25 σ1) else (if a2 ≤ (99999 : Int32) then (bd2 (f_X2_longOf_1 σ1 a1 a2) fun σ3 v4 => some (σ3, v4)) else (f_X7_bell_j25 σ1)))
theorem w_f_X7_bell_j25 {G : Wld} {X : Cxt} (C : Cx G X RX7 cX7_bell 3 4) {σ : Sto} {y : Sto × Int32} (h : f_X7_bell_j25 σ = some y) (hK : Rx G X (some .int) (some (.int y.2)) y.1) : V G X 3 σ [(0, .ref (G.1 0))] [] 25 := by
  unfold f_X7_bell_j25 at h
  refine v_ldc 25 C dX7_bell_25 q_323 ?_
  cases h
  exact v_iret 27 C hK dX7_bell_27
theorem w_f_X7_bell {G : Wld} {X : Cxt} (C : Cx G X RX7 cX7_bell 3 4) {σ : Sto} {a1 : Int32} {a2 : Int32} {y : Sto × Int32} (h : f_X7_bell σ a1 a2 = some y) (hK : Rx G X (some .int) (some (.int y.2)) y.1) : V G X 3 σ [(0, .ref (G.1 0)), (1, .int a1), (2, .int a2)] [] 0 := by
  unfold f_X7_bell at h
  refine v_aload_n 0 C 0 0 dX7_bell_0 rfl rfl ?_
  refine g_X7_0_0 1 C dX7_bell_1 ?_
  refine v_iconst 4 C (1 : Int32) dX7_bell_4 (by decide) ?_
  refine v_iload_n 5 C 1 1 dX7_bell_5 rfl rfl ?_
  refine r_f_X2_has_1 6 C (by decide) q_489 dX7_bell_6 (Nat.le_of_ble_eq_true rfl) h (fun σ1 v2 h => ?_)
  refine v_if_ne 9 C 15 dX7_bell_9 (by decide) h (fun h => ?_) (fun h => ?_)
  · refine v_iload_n 15 C 2 2 dX7_bell_15 rfl rfl ?_
    refine v_if_lt 16 C 25 dX7_bell_16 (by decide) h (fun h => ?_) (fun h => ?_)
    · exact v_sub [0] rfl (w_f_X7_bell_j25 C h hK)
    · refine v_iload_n 19 C 2 2 dX7_bell_19 rfl rfl ?_
      refine v_ldc 20 C dX7_bell_20 q_494 ?_
      refine v_icmp_le 22 C 28 dX7_bell_22 (by decide) h (fun h => ?_) (fun h => ?_)
      · refine v_aload_n 28 C 0 0 dX7_bell_28 rfl rfl ?_
        refine g_X7_0_0 29 C dX7_bell_29 ?_
        refine v_iload_n 32 C 1 1 dX7_bell_32 rfl rfl ?_
        refine v_iload_n 33 C 2 2 dX7_bell_33 rfl rfl ?_
        refine r_f_X2_longOf_1 34 C (by decide) q_495 dX7_bell_34 (Nat.le_of_ble_eq_true rfl) h (fun σ3 v4 h => ?_)
        cases h
        exact v_iret 37 C hK dX7_bell_37
      · exact v_sub [0] rfl (w_f_X7_bell_j25 C h hK)
  · refine v_ldc 12 C dX7_bell_12 q_493 ?_
    cases h
    exact v_iret 14 C hK dX7_bell_14
theorem c_f_X7_bell (l : Launch) (G : Wld) (hG : GI G) (σ : Sto) (a1 : Int32) (a2 : Int32) (y : Sto × Int32) (h : f_X7_bell σ a1 a2 = some y) : Ct l G yX7_bell cX7_bell 3 (some .int) 4 [.ref (G.1 0), .int a1, .int a2] σ (some (.int y.2)) y.1 := by
  refine ct_intro RX7 hG (by decide) rfl (Nat.le_of_ble_eq_true rfl) (fun X hX C hK => ?_)
  subst hX
  exact w_f_X7_bell C h hK
theorem r_f_X7_bell {G : Wld} {X : Cxt} {own : String} {cc : ByteArray} {nL n : Nat} {σ : Sto} {lv : List (Nat × Value)} {st : List Value} {β : Type} {r : β} {F : Sto → Int32 → Option β} {a1 : Int32} {a2 : Int32} {ix : Nat} (pc : Nat) (C : Cx G X own cc nL n) (hn : 4 < n) (h1 : Cond.methodLink own ix yX7_bell ∈ lw_gd) (hd : decode cc pc = .ok (.invokevirtual ix, 3)) (hsum : (st.map fun v => v.category).sum ≤ 8) (h : bd2 (f_X7_bell σ a1 a2) F = some r) (kk : ∀ σ1 v, F σ1 v = some r → V G X nL σ1 lv (.int v :: st) (pc + 3)) : V G X nL σ lv (.int a2 :: .int a1 :: .ref (G.1 0) :: st) pc := by
  obtain ⟨z, hz, h⟩ := bd2_some h
  exact v_callV pc C 0 2 [.int a1, .int a2] st (c_f_X7_bell (xl X) G C.2.2.2.2.2.2.1 _ _ _ _ hz) hn (by decide) (by decide) (ce_0 G _ _) rfl (by decide +kernel) rfl h1 q_486 q_487 q_59 q_488 rfl hsum hd (kk _ _ h)
-- f_X6_whoIsOn_10
def f_X6_whoIsOn_10_l2 (x1 : Int32) (σ : Sto) (x2 : Int32) : Option ((Sto × Int32) ⊕ ((Sto × Int32) ⊕ (Sto × Int32))) :=
  if (6 : Int32) ≤ x2 then (some (.inr (.inr (σ, x2)))) else (gd (inB x2 6) (if (σ.1 11 (x2).toNatClampNeg) = x1 then (some (.inr (.inl (σ, x2)))) else (bs (x2 + (1 : Int32)) fun z2 => some (.inl (σ, z2)))))
def f_X6_whoIsOn_10 (σ : Sto) (a1 : Int32) : Option (Sto × Int32) :=
  bs (0 : Int32) fun z1 => bR1 (lpF (fun t => f_X6_whoIsOn_10_l2 a1 t.1 t.2) FU (σ, z1)) (fun u => some u) (fun σ3 z4 => some (σ3, (-1 : Int32)))
theorem w_f_X6_whoIsOn_10_l2 {G : Wld} {X : Cxt} (C : Cx G X RX6 cX6_whoIsOn 3 1) {x1 : Int32} {σ : Sto} {x2 : Int32} {y : (Sto × Int32) ⊕ ((Sto × Int32) ⊕ (Sto × Int32))} (h : f_X6_whoIsOn_10_l2 x1 σ x2 = some y) (hc : ∀ t : Sto × Int32, y = .inl t → V G X 3 t.1 [(0, .ref (G.1 10)), (1, .int x1), (2, .int t.2)] [] 2) {Ve : (Sto × Int32) ⊕ (Sto × Int32) → Prop} (he : ∀ e, y = .inr e → Ve e) (hr : ∀ (σ : Sto) (v : Int32), Ve (.inl (σ, v)) → Rx G X (some .int) (some (.int v)) σ) (hx : ∀ (σ : Sto) (x2 : Int32), Ve (.inr (σ, x2)) → V G X 3 σ [(0, .ref (G.1 10)), (1, .int x1), (2, .int x2)] [] 26) : V G X 3 σ [(0, .ref (G.1 10)), (1, .int x1), (2, .int x2)] [] 2 := by
  unfold f_X6_whoIsOn_10_l2 at h
  refine v_iload_n 2 C 2 2 dX6_whoIsOn_2 rfl rfl ?_
  refine v_bipush 3 C (6 : Int32) dX6_whoIsOn_3 (by decide) ?_
  refine v_icmp_ge 5 C 26 dX6_whoIsOn_5 (by decide) h (fun h => ?_) (fun h => ?_)
  · exact v_sub [0, 1, 2] rfl (hx _ _ (he _ (Option.some.inj h).symm))
  · refine v_aload_n 8 C 0 0 dX6_whoIsOn_8 rfl rfl ?_
    refine g_X6_10_0 9 C dX6_whoIsOn_9 ?_
    refine v_iload_n 12 C 2 2 dX6_whoIsOn_12 rfl rfl ?_
    refine v_iald 13 C 11 (by decide) (ce_11 G) dX6_whoIsOn_13 h (fun h => ?_)
    refine v_iload_n 14 C 1 1 dX6_whoIsOn_14 rfl rfl ?_
    refine v_icmp_ne 15 C 20 dX6_whoIsOn_15 (by decide) h (fun h => ?_) (fun h => ?_)
    · refine b_iinc 20 C 2 2 (1 : Int32) (lv2 := fun z2 => [(2, .int z2), (0, .ref (G.1 10)), (1, .int x1)]) dX6_whoIsOn_20 rfl (by decide) (by decide) (fun _ => rfl) h (fun z2 h => ?_)
      refine v_goto 23 C 2 dX6_whoIsOn_23 (by decide) ?_
      exact v_sub [1, 2, 0] rfl (hc _ (Option.some.inj h).symm)
    · refine v_iload_n 18 C 2 2 dX6_whoIsOn_18 rfl rfl ?_
      exact v_iret 19 C (hr _ _ (he _ (Option.some.inj h).symm)) dX6_whoIsOn_19
theorem w_f_X6_whoIsOn_10 {G : Wld} {X : Cxt} (C : Cx G X RX6 cX6_whoIsOn 3 1) {σ : Sto} {a1 : Int32} {y : Sto × Int32} (h : f_X6_whoIsOn_10 σ a1 = some y) (hK : Rx G X (some .int) (some (.int y.2)) y.1) : V G X 3 σ [(0, .ref (G.1 10)), (1, .int a1)] [] 0 := by
  unfold f_X6_whoIsOn_10 at h
  refine v_iconst 0 C (0 : Int32) dX6_whoIsOn_0 (by decide) ?_
  refine b_istore_n 1 C 2 (lv2 := fun z1 => [(2, .int z1), (0, .ref (G.1 10)), (1, .int a1)]) dX6_whoIsOn_1 rfl (by decide) (fun _ => rfl) h (fun z1 h => ?_)
  refine v_sub [1, 2, 0] rfl ?_
  refine lp_go (Vh := fun t => V G X 3 t.1 [(0, .ref (G.1 10)), (1, .int a1), (2, .int t.2)] [] 2) h ?_
  intro t5 y5 hy5 hc5 he5
  refine w_f_X6_whoIsOn_10_l2 C hy5 hc5 he5 (fun _ _ h => by cases h; exact hK) (fun σ3 z4 h => ?_)
  dsimp only at h
  refine v_iconst 26 C (-1 : Int32) dX6_whoIsOn_26 (by decide) ?_
  cases h
  exact v_iret 27 C hK dX6_whoIsOn_27
theorem c_f_X6_whoIsOn_10 (l : Launch) (G : Wld) (hG : GI G) (σ : Sto) (a1 : Int32) (y : Sto × Int32) (h : f_X6_whoIsOn_10 σ a1 = some y) : Ct l G yX6_whoIsOn cX6_whoIsOn 3 (some .int) 1 [.ref (G.1 10), .int a1] σ (some (.int y.2)) y.1 := by
  refine ct_intro RX6 hG (by decide) rfl (Nat.le_of_ble_eq_true rfl) (fun X hX C hK => ?_)
  subst hX
  exact w_f_X6_whoIsOn_10 C h hK
theorem r_f_X6_whoIsOn_10 {G : Wld} {X : Cxt} {own : String} {cc : ByteArray} {nL n : Nat} {σ : Sto} {lv : List (Nat × Value)} {st : List Value} {β : Type} {r : β} {F : Sto → Int32 → Option β} {a1 : Int32} {ix : Nat} (pc : Nat) (C : Cx G X own cc nL n) (hn : 1 < n) (h1 : Cond.methodLink own ix yX6_whoIsOn ∈ lw_gd) (hd : decode cc pc = .ok (.invokevirtual ix, 3)) (hsum : (st.map fun v => v.category).sum ≤ 8) (h : bd2 (f_X6_whoIsOn_10 σ a1) F = some r) (kk : ∀ σ1 v, F σ1 v = some r → V G X nL σ1 lv (.int v :: st) (pc + 3)) : V G X nL σ lv (.int a1 :: .ref (G.1 10) :: st) pc := by
  obtain ⟨z, hz, h⟩ := bd2_some h
  exact v_callV pc C 10 1 [.int a1] st (c_f_X6_whoIsOn_10 (xl X) G C.2.2.2.2.2.2.1 _ _ _ hz) hn (by decide) (by decide) (ce_10 G _ _) rfl (by decide +kernel) rfl h1 q_508 q_509 q_62 q_510 rfl hsum hd (kk _ _ h)
-- f_X7_spot
def f_X7_spot_j24 (σ : Sto) : Option (Sto × Int32) :=
  some (σ, (-1000000002 : Int32))
def f_X7_spot_j53 (σ : Sto) (s0 : Int32) : Option (Sto × Int32) :=
  some (σ, s0)
def f_X7_spot (σ : Sto) (a1 : Int32) (a2 : Int32) : Option (Sto × Int32) :=
  bd2 (f_X2_has_1 σ (2 : Int32) a1) fun σ1 v2 => if v2 = 0 then (some (σ1, (-1000000001 : Int32))) else (if a2 < 0 then (f_X7_spot_j24 σ1) else (if a2 ≤ (3 : Int32) then (if a2 = (3 : Int32) then (bd2 (f_X6_whoIsOn_10 σ1 a1) fun σ5 v6 => f_X7_spot_j53 σ5 v6) else (bd2 (f_X2_number_1 σ1 (2 : Int32) a1 a2) fun σ3 v4 => f_X7_spot_j53 σ3 v4)) else (f_X7_spot_j24 σ1)))
theorem w_f_X7_spot_j24 {G : Wld} {X : Cxt} (C : Cx G X RX7 cX7_spot 3 2) {σ : Sto} {y : Sto × Int32} (h : f_X7_spot_j24 σ = some y) (hK : Rx G X (some .int) (some (.int y.2)) y.1) : V G X 3 σ [(0, .ref (G.1 0))] [] 24 := by
  unfold f_X7_spot_j24 at h
  refine v_ldc 24 C dX7_spot_24 q_323 ?_
  cases h
  exact v_iret 26 C hK dX7_spot_26
theorem w_f_X7_spot_j53 {G : Wld} {X : Cxt} (C : Cx G X RX7 cX7_spot 3 2) {σ : Sto} {s0 : Int32} {y : Sto × Int32} (h : f_X7_spot_j53 σ s0 = some y) (hK : Rx G X (some .int) (some (.int y.2)) y.1) : V G X 3 σ [(0, .ref (G.1 0))] [.int s0] 53 := by
  unfold f_X7_spot_j53 at h
  cases h
  exact v_iret 53 C hK dX7_spot_53
theorem w_f_X7_spot {G : Wld} {X : Cxt} (C : Cx G X RX7 cX7_spot 3 2) {σ : Sto} {a1 : Int32} {a2 : Int32} {y : Sto × Int32} (h : f_X7_spot σ a1 a2 = some y) (hK : Rx G X (some .int) (some (.int y.2)) y.1) : V G X 3 σ [(0, .ref (G.1 0)), (1, .int a1), (2, .int a2)] [] 0 := by
  unfold f_X7_spot at h
  refine v_aload_n 0 C 0 0 dX7_spot_0 rfl rfl ?_
  refine g_X7_0_0 1 C dX7_spot_1 ?_
  refine v_iconst 4 C (2 : Int32) dX7_spot_4 (by decide) ?_
  refine v_iload_n 5 C 1 1 dX7_spot_5 rfl rfl ?_
  refine r_f_X2_has_1 6 C (by decide) q_489 dX7_spot_6 (Nat.le_of_ble_eq_true rfl) h (fun σ1 v2 h => ?_)
  refine v_if_ne 9 C 15 dX7_spot_9 (by decide) h (fun h => ?_) (fun h => ?_)
  · refine v_iload_n 15 C 2 2 dX7_spot_15 rfl rfl ?_
    refine v_if_lt 16 C 24 dX7_spot_16 (by decide) h (fun h => ?_) (fun h => ?_)
    · exact v_sub [0] rfl (w_f_X7_spot_j24 C h hK)
    · refine v_iload_n 19 C 2 2 dX7_spot_19 rfl rfl ?_
      refine v_iconst 20 C (3 : Int32) dX7_spot_20 (by decide) ?_
      refine v_icmp_le 21 C 27 dX7_spot_21 (by decide) h (fun h => ?_) (fun h => ?_)
      · refine v_iload_n 27 C 2 2 dX7_spot_27 rfl rfl ?_
        refine v_iconst 28 C (3 : Int32) dX7_spot_28 (by decide) ?_
        refine v_icmp_ne 29 C 43 dX7_spot_29 (by decide) h (fun h => ?_) (fun h => ?_)
        · refine v_aload_n 43 C 0 0 dX7_spot_43 rfl rfl ?_
          refine g_X7_0_0 44 C dX7_spot_44 ?_
          refine v_iconst 47 C (2 : Int32) dX7_spot_47 (by decide) ?_
          refine v_iload_n 48 C 1 1 dX7_spot_48 rfl rfl ?_
          refine v_iload_n 49 C 2 2 dX7_spot_49 rfl rfl ?_
          refine r_f_X2_number_1 50 C (by decide) q_511 dX7_spot_50 (Nat.le_of_ble_eq_true rfl) h (fun σ3 v4 h => ?_)
          exact v_sub [0] rfl (w_f_X7_spot_j53 C h hK)
        · refine v_aload_n 32 C 0 0 dX7_spot_32 rfl rfl ?_
          refine g_X7_0_2 33 C dX7_spot_33 ?_
          refine v_iload_n 36 C 1 1 dX7_spot_36 rfl rfl ?_
          refine r_f_X6_whoIsOn_10 37 C (by decide) q_507 dX7_spot_37 (Nat.le_of_ble_eq_true rfl) h (fun σ5 v6 h => ?_)
          refine v_goto 40 C 53 dX7_spot_40 (by decide) ?_
          exact v_sub [0] rfl (w_f_X7_spot_j53 C h hK)
      · exact v_sub [0] rfl (w_f_X7_spot_j24 C h hK)
  · refine v_ldc 12 C dX7_spot_12 q_493 ?_
    cases h
    exact v_iret 14 C hK dX7_spot_14
theorem c_f_X7_spot (l : Launch) (G : Wld) (hG : GI G) (σ : Sto) (a1 : Int32) (a2 : Int32) (y : Sto × Int32) (h : f_X7_spot σ a1 a2 = some y) : Ct l G yX7_spot cX7_spot 3 (some .int) 2 [.ref (G.1 0), .int a1, .int a2] σ (some (.int y.2)) y.1 := by
  refine ct_intro RX7 hG (by decide) rfl (Nat.le_of_ble_eq_true rfl) (fun X hX C hK => ?_)
  subst hX
  exact w_f_X7_spot C h hK
theorem r_f_X7_spot {G : Wld} {X : Cxt} {own : String} {cc : ByteArray} {nL n : Nat} {σ : Sto} {lv : List (Nat × Value)} {st : List Value} {β : Type} {r : β} {F : Sto → Int32 → Option β} {a1 : Int32} {a2 : Int32} {ix : Nat} (pc : Nat) (C : Cx G X own cc nL n) (hn : 2 < n) (h1 : Cond.methodLink own ix yX7_spot ∈ lw_gd) (hd : decode cc pc = .ok (.invokevirtual ix, 3)) (hsum : (st.map fun v => v.category).sum ≤ 8) (h : bd2 (f_X7_spot σ a1 a2) F = some r) (kk : ∀ σ1 v, F σ1 v = some r → V G X nL σ1 lv (.int v :: st) (pc + 3)) : V G X nL σ lv (.int a2 :: .int a1 :: .ref (G.1 0) :: st) pc := by
  obtain ⟨z, hz, h⟩ := bd2_some h
  exact v_callV pc C 0 2 [.int a1, .int a2] st (c_f_X7_spot (xl X) G C.2.2.2.2.2.2.1 _ _ _ _ hz) hn (by decide) (by decide) (ce_0 G _ _) rfl (by decide +kernel) rfl h1 q_504 q_505 q_59 q_506 rfl hsum hd (kk _ _ h)
