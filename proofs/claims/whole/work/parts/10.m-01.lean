-- f_X8_spot
def f_X8_spot_j71 (σ : Sto) (s0 : Int32) : Option (Sto × Int32) :=
  some (σ, s0)
def f_X8_spot (σ : Sto) (a1 : Int32) (a2 : Int32) : Option (Sto × Int32) :=
  bd2 (f_X8_isSpot σ a1) fun σ1 v2 => if v2 = 0 then (some (σ1, (-1000000001 : Int32))) else (if a2 = 0 then (gd (inB a1 6) (f_X8_spot_j71 σ1 (σ1.1 42 (a1).toNatClampNeg))) else (if a2 = (1 : Int32) then (gd (inB a1 6) (f_X8_spot_j71 σ1 (σ1.1 43 (a1).toNatClampNeg))) else (if a2 = (2 : Int32) then (gd (inB a1 6) (f_X8_spot_j71 σ1 (σ1.1 44 (a1).toNatClampNeg))) else (if a2 = (3 : Int32) then (bd2 (f_X8_whoIsOn σ1 a1 (σ1.1 39 8)) fun σ3 v4 => f_X8_spot_j71 σ3 v4) else (f_X8_spot_j71 σ1 (-1000000002 : Int32))))))
theorem w_f_X8_spot_j71 {G : Wld} {X : Cxt} (C : Cx G X RX8 cX8_spot 3 3) {σ : Sto} {s0 : Int32} {y : Sto × Int32} (h : f_X8_spot_j71 σ s0 = some y) (hK : Rx G X (some .int) (some (.int y.2)) y.1) : V G X 3 σ [(0, .ref (G.1 39))] [.int s0] 71 := by
  unfold f_X8_spot_j71 at h
  cases h
  exact v_iret 71 C hK dX8_spot_71
theorem w_f_X8_spot {G : Wld} {X : Cxt} (C : Cx G X RX8 cX8_spot 3 3) {σ : Sto} {a1 : Int32} {a2 : Int32} {y : Sto × Int32} (h : f_X8_spot σ a1 a2 = some y) (hK : Rx G X (some .int) (some (.int y.2)) y.1) : V G X 3 σ [(0, .ref (G.1 39)), (1, .int a1), (2, .int a2)] [] 0 := by
  unfold f_X8_spot at h
  refine v_aload_n 0 C 0 0 dX8_spot_0 rfl rfl ?_
  refine v_iload_n 1 C 1 1 dX8_spot_1 rfl rfl ?_
  refine r_f_X8_isSpot 2 C (by decide) q_1034 dX8_spot_2 (Nat.le_of_ble_eq_true rfl) h (fun σ1 v2 h => ?_)
  refine v_if_ne 5 C 11 dX8_spot_5 (by decide) h (fun h => ?_) (fun h => ?_)
  · refine v_iload_n 11 C 2 2 dX8_spot_11 rfl rfl ?_
    refine v_if_ne 12 C 24 dX8_spot_12 (by decide) h (fun h => ?_) (fun h => ?_)
    · refine v_iload_n 24 C 2 2 dX8_spot_24 rfl rfl ?_
      refine v_iconst 25 C (1 : Int32) dX8_spot_25 (by decide) ?_
      refine v_icmp_ne 26 C 38 dX8_spot_26 (by decide) h (fun h => ?_) (fun h => ?_)
      · refine v_iload_n 38 C 2 2 dX8_spot_38 rfl rfl ?_
        refine v_iconst 39 C (2 : Int32) dX8_spot_39 (by decide) ?_
        refine v_icmp_ne 40 C 52 dX8_spot_40 (by decide) h (fun h => ?_) (fun h => ?_)
        · refine v_iload_n 52 C 2 2 dX8_spot_52 rfl rfl ?_
          refine v_iconst 53 C (3 : Int32) dX8_spot_53 (by decide) ?_
          refine v_icmp_ne 54 C 69 dX8_spot_54 (by decide) h (fun h => ?_) (fun h => ?_)
          · refine v_ldc 69 C dX8_spot_69 q_943 ?_
            exact v_sub [0] rfl (w_f_X8_spot_j71 C h hK)
          · refine v_aload_n 57 C 0 0 dX8_spot_57 rfl rfl ?_
            refine v_iload_n 58 C 1 1 dX8_spot_58 rfl rfl ?_
            refine v_aload_n 59 C 0 0 dX8_spot_59 rfl rfl ?_
            refine g_X8_39_8 60 C dX8_spot_60 ?_
            refine r_f_X8_whoIsOn 63 C (by decide) q_1038 dX8_spot_63 (Nat.le_of_ble_eq_true rfl) h (fun σ3 v4 h => ?_)
            refine v_goto 66 C 71 dX8_spot_66 (by decide) ?_
            exact v_sub [0] rfl (w_f_X8_spot_j71 C h hK)
        · refine v_aload_n 43 C 0 0 dX8_spot_43 rfl rfl ?_
          refine g_X8_39_7 44 C dX8_spot_44 ?_
          refine v_iload_n 47 C 1 1 dX8_spot_47 rfl rfl ?_
          refine v_iald 48 C 44 (by decide) (ce_44 G) dX8_spot_48 h (fun h => ?_)
          refine v_goto 49 C 71 dX8_spot_49 (by decide) ?_
          exact v_sub [0] rfl (w_f_X8_spot_j71 C h hK)
      · refine v_aload_n 29 C 0 0 dX8_spot_29 rfl rfl ?_
        refine g_X8_39_6 30 C dX8_spot_30 ?_
        refine v_iload_n 33 C 1 1 dX8_spot_33 rfl rfl ?_
        refine v_iald 34 C 43 (by decide) (ce_43 G) dX8_spot_34 h (fun h => ?_)
        refine v_goto 35 C 71 dX8_spot_35 (by decide) ?_
        exact v_sub [0] rfl (w_f_X8_spot_j71 C h hK)
    · refine v_aload_n 15 C 0 0 dX8_spot_15 rfl rfl ?_
      refine g_X8_39_5 16 C dX8_spot_16 ?_
      refine v_iload_n 19 C 1 1 dX8_spot_19 rfl rfl ?_
      refine v_iald 20 C 42 (by decide) (ce_42 G) dX8_spot_20 h (fun h => ?_)
      refine v_goto 21 C 71 dX8_spot_21 (by decide) ?_
      exact v_sub [0] rfl (w_f_X8_spot_j71 C h hK)
  · refine v_ldc 8 C dX8_spot_8 q_1024 ?_
    cases h
    exact v_iret 10 C hK dX8_spot_10
theorem c_f_X8_spot (l : Launch) (G : Wld) (hG : GI G) (σ : Sto) (a1 : Int32) (a2 : Int32) (y : Sto × Int32) (h : f_X8_spot σ a1 a2 = some y) : Ct l G yX8_spot cX8_spot 3 (some .int) 3 [.ref (G.1 39), .int a1, .int a2] σ (some (.int y.2)) y.1 := by
  refine ct_intro RX8 hG (by decide) rfl (Nat.le_of_ble_eq_true rfl) (fun X hX C hK => ?_)
  subst hX
  exact w_f_X8_spot C h hK
theorem r_f_X8_spot {G : Wld} {X : Cxt} {own : String} {cc : ByteArray} {nL n : Nat} {σ : Sto} {lv : List (Nat × Value)} {st : List Value} {β : Type} {r : β} {F : Sto → Int32 → Option β} {a1 : Int32} {a2 : Int32} {ix : Nat} (pc : Nat) (C : Cx G X own cc nL n) (hn : 3 < n) (h1 : Cond.methodLink own ix yX8_spot ∈ lw_gd) (hd : decode cc pc = .ok (.invokevirtual ix, 3)) (hsum : (st.map fun v => v.category).sum ≤ 8) (h : bd2 (f_X8_spot σ a1 a2) F = some r) (kk : ∀ σ1 v, F σ1 v = some r → V G X nL σ1 lv (.int v :: st) (pc + 3)) : V G X nL σ lv (.int a2 :: .int a1 :: .ref (G.1 39) :: st) pc := by
  obtain ⟨z, hz, h⟩ := bd2_some h
  exact v_callV pc C 39 2 [.int a1, .int a2] st (c_f_X8_spot (xl X) G C.2.2.2.2.2.2.1 _ _ _ _ hz) hn (by decide) (by decide) (ce_39 G _ _) rfl (by decide +kernel) rfl h1 q_1031 q_1032 q_68 q_1033 rfl hsum hd (kk _ _ h)
-- f_X8_isBeggar
def f_X8_isBeggar (σ : Sto) (a1 : Int32) : Option (Sto × Int32) :=
  bd2 (f_X8_in σ (a1).toInt64 (0 : Int64) (((σ.1 39 8) - (1 : Int32))).toInt64) fun σ1 v2 => gd (zB v2) (some (σ1, v2))
theorem w_f_X8_isBeggar {G : Wld} {X : Cxt} (C : Cx G X RX8 cX8_isBeggar 2 2) {σ : Sto} {a1 : Int32} {y : Sto × Int32} (h : f_X8_isBeggar σ a1 = some y) (hK : Rx G X (some .boolean) (some (.int y.2)) y.1) : V G X 2 σ [(0, .ref (G.1 39)), (1, .int a1)] [] 0 := by
  unfold f_X8_isBeggar at h
  refine v_iload_n 0 C 1 1 dX8_isBeggar_0 rfl rfl ?_
  refine v_i2l 1 C dX8_isBeggar_1 ?_
  refine v_lconst 2 C (0 : Int64) dX8_isBeggar_2 (by decide) ?_
  refine v_aload_n 3 C 0 0 dX8_isBeggar_3 rfl rfl ?_
  refine g_X8_39_8 4 C dX8_isBeggar_4 ?_
  refine v_iconst 7 C (1 : Int32) dX8_isBeggar_7 (by decide) ?_
  refine v_isub 8 C dX8_isBeggar_8 ?_
  refine v_i2l 9 C dX8_isBeggar_9 ?_
  refine r_f_X8_in 10 C (by decide) q_940 dX8_isBeggar_10 (Nat.le_of_ble_eq_true rfl) h (fun σ1 v2 h => ?_)
  obtain ⟨hz, h⟩ := gd_some h
  cases h
  exact v_zret 13 C (zB_nar hz) hK dX8_isBeggar_13
theorem c_f_X8_isBeggar (l : Launch) (G : Wld) (hG : GI G) (σ : Sto) (a1 : Int32) (y : Sto × Int32) (h : f_X8_isBeggar σ a1 = some y) : Ct l G yX8_isBeggar cX8_isBeggar 2 (some .boolean) 2 [.ref (G.1 39), .int a1] σ (some (.int y.2)) y.1 := by
  refine ct_intro RX8 hG (by decide) rfl (Nat.le_of_ble_eq_true rfl) (fun X hX C hK => ?_)
  subst hX
  exact w_f_X8_isBeggar C h hK
theorem r_f_X8_isBeggar {G : Wld} {X : Cxt} {own : String} {cc : ByteArray} {nL n : Nat} {σ : Sto} {lv : List (Nat × Value)} {st : List Value} {β : Type} {r : β} {F : Sto → Int32 → Option β} {a1 : Int32} {ix : Nat} (pc : Nat) (C : Cx G X own cc nL n) (hn : 2 < n) (h1 : Cond.methodLink own ix yX8_isBeggar ∈ lw_gd) (hd : decode cc pc = .ok (.invokevirtual ix, 3)) (hsum : (st.map fun v => v.category).sum ≤ 8) (h : bd2 (f_X8_isBeggar σ a1) F = some r) (kk : ∀ σ1 v, F σ1 v = some r → V G X nL σ1 lv (.int v :: st) (pc + 3)) : V G X nL σ lv (.int a1 :: .ref (G.1 39) :: st) pc := by
  obtain ⟨z, hz, h⟩ := bd2_some h
  exact v_callV pc C 39 1 [.int a1] st (c_f_X8_isBeggar (xl X) G C.2.2.2.2.2.2.1 _ _ _ hz) hn (by decide) (by decide) (ce_39 G _ _) rfl (by decide +kernel) rfl h1 q_1048 q_37 q_68 q_1049 rfl hsum hd (kk _ _ h)
-- f_X8_tallOf
def f_X8_tallOf_j57 (σ : Sto) (s0 : Int32) (s1 : Int32) : Option (Sto × Int32) :=
  some (σ, (s1 + s0))
def f_X8_tallOf_j24 (σ : Sto) (x1 : Int32) (s0 : Int32) : Option (Sto × Int32) :=
  bs s0 fun z1 => gd (inB x1 7) (gd (inB x1 7) (if 0 ≤ (σ.1 48 (x1).toNatClampNeg) then (gd (inB x1 7) (gd (inB (σ.1 48 (x1).toNatClampNeg) 6) (f_X8_tallOf_j57 σ (σ.1 42 ((σ.1 48 (x1).toNatClampNeg)).toNatClampNeg) ((σ.1 45 (x1).toNatClampNeg) + z1)))) else (f_X8_tallOf_j57 σ (0 : Int32) ((σ.1 45 (x1).toNatClampNeg) + z1))))
def f_X8_tallOf (σ : Sto) (a1 : Int32) : Option (Sto × Int32) :=
  gd (inB a1 7) (if 0 ≤ (σ.1 49 (a1).toNatClampNeg) then (gd (inB a1 7) (gd (inB (σ.1 49 (a1).toNatClampNeg) 4) (f_X8_tallOf_j24 σ a1 (σ.1 46 ((σ.1 49 (a1).toNatClampNeg)).toNatClampNeg)))) else (f_X8_tallOf_j24 σ a1 (0 : Int32)))
theorem w_f_X8_tallOf_j57 {G : Wld} {X : Cxt} (C : Cx G X RX8 cX8_tallOf 3 1) {σ : Sto} {s0 : Int32} {s1 : Int32} {y : Sto × Int32} (h : f_X8_tallOf_j57 σ s0 s1 = some y) (hK : Rx G X (some .int) (some (.int y.2)) y.1) : V G X 3 σ [(0, .ref (G.1 39))] [.int s0, .int s1] 57 := by
  unfold f_X8_tallOf_j57 at h
  refine v_iadd 57 C dX8_tallOf_57 ?_
  cases h
  exact v_iret 58 C hK dX8_tallOf_58
theorem w_f_X8_tallOf_j24 {G : Wld} {X : Cxt} (C : Cx G X RX8 cX8_tallOf 3 1) {σ : Sto} {x1 : Int32} {s0 : Int32} {y : Sto × Int32} (h : f_X8_tallOf_j24 σ x1 s0 = some y) (hK : Rx G X (some .int) (some (.int y.2)) y.1) : V G X 3 σ [(0, .ref (G.1 39)), (1, .int x1)] [.int s0] 24 := by
  unfold f_X8_tallOf_j24 at h
  refine b_istore_n 24 C 2 (lv2 := fun z1 => [(2, .int z1), (0, .ref (G.1 39)), (1, .int x1)]) dX8_tallOf_24 rfl (by decide) (fun _ => rfl) h (fun z1 h => ?_)
  refine v_aload_n 25 C 0 1 dX8_tallOf_25 rfl rfl ?_
  refine g_X8_39_9 26 C dX8_tallOf_26 ?_
  refine v_iload_n 29 C 1 2 dX8_tallOf_29 rfl rfl ?_
  refine v_iald 30 C 45 (by decide) (ce_45 G) dX8_tallOf_30 h (fun h => ?_)
  refine v_iload_n 31 C 2 0 dX8_tallOf_31 rfl rfl ?_
  refine v_iadd 32 C dX8_tallOf_32 ?_
  refine v_aload_n 33 C 0 1 dX8_tallOf_33 rfl rfl ?_
  refine g_X8_39_14 34 C dX8_tallOf_34 ?_
  refine v_iload_n 37 C 1 2 dX8_tallOf_37 rfl rfl ?_
  refine v_iald 38 C 48 (by decide) (ce_48 G) dX8_tallOf_38 h (fun h => ?_)
  refine v_if_ge 39 C 46 dX8_tallOf_39 (by decide) h (fun h => ?_) (fun h => ?_)
  · refine v_aload_n 46 C 0 1 dX8_tallOf_46 rfl rfl ?_
    refine g_X8_39_5 47 C dX8_tallOf_47 ?_
    refine v_aload_n 50 C 0 1 dX8_tallOf_50 rfl rfl ?_
    refine g_X8_39_14 51 C dX8_tallOf_51 ?_
    refine v_iload_n 54 C 1 2 dX8_tallOf_54 rfl rfl ?_
    refine v_iald 55 C 48 (by decide) (ce_48 G) dX8_tallOf_55 h (fun h => ?_)
    refine v_iald 56 C 42 (by decide) (ce_42 G) dX8_tallOf_56 h (fun h => ?_)
    exact v_sub [1] rfl (w_f_X8_tallOf_j57 C h hK)
  · refine v_iconst 42 C (0 : Int32) dX8_tallOf_42 (by decide) ?_
    refine v_goto 43 C 57 dX8_tallOf_43 (by decide) ?_
    exact v_sub [1] rfl (w_f_X8_tallOf_j57 C h hK)
theorem w_f_X8_tallOf {G : Wld} {X : Cxt} (C : Cx G X RX8 cX8_tallOf 3 1) {σ : Sto} {a1 : Int32} {y : Sto × Int32} (h : f_X8_tallOf σ a1 = some y) (hK : Rx G X (some .int) (some (.int y.2)) y.1) : V G X 3 σ [(0, .ref (G.1 39)), (1, .int a1)] [] 0 := by
  unfold f_X8_tallOf at h
  refine v_aload_n 0 C 0 0 dX8_tallOf_0 rfl rfl ?_
  refine g_X8_39_15 1 C dX8_tallOf_1 ?_
  refine v_iload_n 4 C 1 1 dX8_tallOf_4 rfl rfl ?_
  refine v_iald 5 C 49 (by decide) (ce_49 G) dX8_tallOf_5 h (fun h => ?_)
  refine v_if_ge 6 C 13 dX8_tallOf_6 (by decide) h (fun h => ?_) (fun h => ?_)
  · refine v_aload_n 13 C 0 0 dX8_tallOf_13 rfl rfl ?_
    refine g_X8_39_11 14 C dX8_tallOf_14 ?_
    refine v_aload_n 17 C 0 0 dX8_tallOf_17 rfl rfl ?_
    refine g_X8_39_15 18 C dX8_tallOf_18 ?_
    refine v_iload_n 21 C 1 1 dX8_tallOf_21 rfl rfl ?_
    refine v_iald 22 C 49 (by decide) (ce_49 G) dX8_tallOf_22 h (fun h => ?_)
    refine v_iald 23 C 46 (by decide) (ce_46 G) dX8_tallOf_23 h (fun h => ?_)
    exact v_sub [0, 1] rfl (w_f_X8_tallOf_j24 C h hK)
  · refine v_iconst 9 C (0 : Int32) dX8_tallOf_9 (by decide) ?_
    refine v_goto 10 C 24 dX8_tallOf_10 (by decide) ?_
    exact v_sub [0, 1] rfl (w_f_X8_tallOf_j24 C h hK)
theorem c_f_X8_tallOf (l : Launch) (G : Wld) (hG : GI G) (σ : Sto) (a1 : Int32) (y : Sto × Int32) (h : f_X8_tallOf σ a1 = some y) : Ct l G yX8_tallOf cX8_tallOf 3 (some .int) 1 [.ref (G.1 39), .int a1] σ (some (.int y.2)) y.1 := by
  refine ct_intro RX8 hG (by decide) rfl (Nat.le_of_ble_eq_true rfl) (fun X hX C hK => ?_)
  subst hX
  exact w_f_X8_tallOf C h hK
theorem r_f_X8_tallOf {G : Wld} {X : Cxt} {own : String} {cc : ByteArray} {nL n : Nat} {σ : Sto} {lv : List (Nat × Value)} {st : List Value} {β : Type} {r : β} {F : Sto → Int32 → Option β} {a1 : Int32} {ix : Nat} (pc : Nat) (C : Cx G X own cc nL n) (hn : 1 < n) (h1 : Cond.methodLink own ix yX8_tallOf ∈ lw_gd) (hd : decode cc pc = .ok (.invokevirtual ix, 3)) (hsum : (st.map fun v => v.category).sum ≤ 8) (h : bd2 (f_X8_tallOf σ a1) F = some r) (kk : ∀ σ1 v, F σ1 v = some r → V G X nL σ1 lv (.int v :: st) (pc + 3)) : V G X nL σ lv (.int a1 :: .ref (G.1 39) :: st) pc := by
  obtain ⟨z, hz, h⟩ := bd2_some h
  exact v_callV pc C 39 1 [.int a1] st (c_f_X8_tallOf (xl X) G C.2.2.2.2.2.2.1 _ _ _ hz) hn (by decide) (by decide) (ce_39 G _ _) rfl (by decide +kernel) rfl h1 q_1052 q_38 q_68 q_1053 rfl hsum hd (kk _ _ h)
-- f_X8_beggar
def f_X8_beggar (σ : Sto) (a1 : Int32) (a2 : Int32) : Option (Sto × Int32) :=
  bd2 (f_X8_isBeggar σ a1) fun σ1 v2 => if v2 = 0 then (some (σ1, (-1000000001 : Int32))) else (if a2 = (0 : Int32) then (gd (inB a1 7) (some (σ1, (σ1.1 45 (a1).toNatClampNeg)))) else if a2 = (1 : Int32) then (gd (inB a1 7) (some (σ1, (σ1.1 48 (a1).toNatClampNeg)))) else if a2 = (2 : Int32) then (gd (inB a1 7) (some (σ1, (σ1.1 49 (a1).toNatClampNeg)))) else if a2 = (3 : Int32) then (bd2 (f_X8_tallOf σ1 a1) fun σ4 v5 => some (σ4, v5)) else if a2 = (4 : Int32) then (gd (inB a1 6) (some (σ1, (σ1.1 50 (a1).toNatClampNeg)))) else (some (σ1, (-1000000002 : Int32))))
theorem w_f_X8_beggar {G : Wld} {X : Cxt} (C : Cx G X RX8 cX8_beggar 3 3) {σ : Sto} {a1 : Int32} {a2 : Int32} {y : Sto × Int32} (h : f_X8_beggar σ a1 a2 = some y) (hK : Rx G X (some .int) (some (.int y.2)) y.1) : V G X 3 σ [(0, .ref (G.1 39)), (1, .int a1), (2, .int a2)] [] 0 := by
  unfold f_X8_beggar at h
  refine v_aload_n 0 C 0 0 dX8_beggar_0 rfl rfl ?_
  refine v_iload_n 1 C 1 1 dX8_beggar_1 rfl rfl ?_
  refine r_f_X8_isBeggar 2 C (by decide) q_1046 dX8_beggar_2 (Nat.le_of_ble_eq_true rfl) h (fun σ1 v2 h => ?_)
  refine v_if_ne 5 C 11 dX8_beggar_5 (by decide) h (fun h => ?_) (fun h => ?_)
  · refine v_iload_n 11 C 2 2 dX8_beggar_11 rfl rfl ?_
    by_cases c3_0 : a2 = (0 : Int32)
    · replace h := it_t h c3_0
      refine v_tableAt 12 C (off := 36) (0 : Int32) 48 c3_0 dX8_beggar_12 (by decide) (by decide) (by decide) (by decide) ?_
      refine v_aload_n 48 C 0 0 dX8_beggar_48 rfl rfl ?_
      refine g_X8_39_9 49 C dX8_beggar_49 ?_
      refine v_iload_n 52 C 1 1 dX8_beggar_52 rfl rfl ?_
      refine v_iald 53 C 45 (by decide) (ce_45 G) dX8_beggar_53 h (fun h => ?_)
      cases h
      exact v_iret 54 C hK dX8_beggar_54
    · replace h := it_f h c3_0
      by_cases c3_1 : a2 = (1 : Int32)
      · replace h := it_t h c3_1
        refine v_tableAt 12 C (off := 43) (1 : Int32) 55 c3_1 dX8_beggar_12 (by decide) (by decide) (by decide) (by decide) ?_
        refine v_aload_n 55 C 0 0 dX8_beggar_55 rfl rfl ?_
        refine g_X8_39_14 56 C dX8_beggar_56 ?_
        refine v_iload_n 59 C 1 1 dX8_beggar_59 rfl rfl ?_
        refine v_iald 60 C 48 (by decide) (ce_48 G) dX8_beggar_60 h (fun h => ?_)
        cases h
        exact v_iret 61 C hK dX8_beggar_61
      · replace h := it_f h c3_1
        by_cases c3_2 : a2 = (2 : Int32)
        · replace h := it_t h c3_2
          refine v_tableAt 12 C (off := 50) (2 : Int32) 62 c3_2 dX8_beggar_12 (by decide) (by decide) (by decide) (by decide) ?_
          refine v_aload_n 62 C 0 0 dX8_beggar_62 rfl rfl ?_
          refine g_X8_39_15 63 C dX8_beggar_63 ?_
          refine v_iload_n 66 C 1 1 dX8_beggar_66 rfl rfl ?_
          refine v_iald 67 C 49 (by decide) (ce_49 G) dX8_beggar_67 h (fun h => ?_)
          cases h
          exact v_iret 68 C hK dX8_beggar_68
        · replace h := it_f h c3_2
          by_cases c3_3 : a2 = (3 : Int32)
          · replace h := it_t h c3_3
            refine v_tableAt 12 C (off := 57) (3 : Int32) 69 c3_3 dX8_beggar_12 (by decide) (by decide) (by decide) (by decide) ?_
            refine v_aload_n 69 C 0 0 dX8_beggar_69 rfl rfl ?_
            refine v_iload_n 70 C 1 1 dX8_beggar_70 rfl rfl ?_
            refine r_f_X8_tallOf 71 C (by decide) q_1050 dX8_beggar_71 (Nat.le_of_ble_eq_true rfl) h (fun σ4 v5 h => ?_)
            cases h
            exact v_iret 74 C hK dX8_beggar_74
          · replace h := it_f h c3_3
            by_cases c3_4 : a2 = (4 : Int32)
            · replace h := it_t h c3_4
              refine v_tableAt 12 C (off := 63) (4 : Int32) 75 c3_4 dX8_beggar_12 (by decide) (by decide) (by decide) (by decide) ?_
              refine v_aload_n 75 C 0 0 dX8_beggar_75 rfl rfl ?_
              refine g_X8_39_16 76 C dX8_beggar_76 ?_
              refine v_iload_n 79 C 1 1 dX8_beggar_79 rfl rfl ?_
              refine v_iald 80 C 50 (by decide) (ce_50 G) dX8_beggar_80 h (fun h => ?_)
              cases h
              exact v_iret 81 C hK dX8_beggar_81
            · replace h := it_f h c3_4
              refine v_tableOut 12 C 82 dX8_beggar_12 (sw_out 5 (by decide) (fun j hj => by
                rcases (show j = 0 ∨ j = 1 ∨ j = 2 ∨ j = 3 ∨ j = 4 by omega) with rfl | rfl | rfl | rfl | rfl
                · exact c3_0
                · exact c3_1
                · exact c3_2
                · exact c3_3
                · exact c3_4)) (by decide) ?_
              refine v_ldc 82 C dX8_beggar_82 q_943 ?_
              cases h
              exact v_iret 84 C hK dX8_beggar_84
  · refine v_ldc 8 C dX8_beggar_8 q_1024 ?_
    cases h
    exact v_iret 10 C hK dX8_beggar_10
theorem c_f_X8_beggar (l : Launch) (G : Wld) (hG : GI G) (σ : Sto) (a1 : Int32) (a2 : Int32) (y : Sto × Int32) (h : f_X8_beggar σ a1 a2 = some y) : Ct l G yX8_beggar cX8_beggar 3 (some .int) 3 [.ref (G.1 39), .int a1, .int a2] σ (some (.int y.2)) y.1 := by
  refine ct_intro RX8 hG (by decide) rfl (Nat.le_of_ble_eq_true rfl) (fun X hX C hK => ?_)
  subst hX
  exact w_f_X8_beggar C h hK
theorem r_f_X8_beggar {G : Wld} {X : Cxt} {own : String} {cc : ByteArray} {nL n : Nat} {σ : Sto} {lv : List (Nat × Value)} {st : List Value} {β : Type} {r : β} {F : Sto → Int32 → Option β} {a1 : Int32} {a2 : Int32} {ix : Nat} (pc : Nat) (C : Cx G X own cc nL n) (hn : 3 < n) (h1 : Cond.methodLink own ix yX8_beggar ∈ lw_gd) (hd : decode cc pc = .ok (.invokevirtual ix, 3)) (hsum : (st.map fun v => v.category).sum ≤ 8) (h : bd2 (f_X8_beggar σ a1 a2) F = some r) (kk : ∀ σ1 v, F σ1 v = some r → V G X nL σ1 lv (.int v :: st) (pc + 3)) : V G X nL σ lv (.int a2 :: .int a1 :: .ref (G.1 39) :: st) pc := by
  obtain ⟨z, hz, h⟩ := bd2_some h
  exact v_callV pc C 39 2 [.int a1, .int a2] st (c_f_X8_beggar (xl X) G C.2.2.2.2.2.2.1 _ _ _ _ hz) hn (by decide) (by decide) (ce_39 G _ _) rfl (by decide +kernel) rfl h1 q_1043 q_1044 q_68 q_1045 rfl hsum hd (kk _ _ h)
-- f_X8_isHat
def f_X8_isHat (σ : Sto) (a1 : Int32) : Option (Sto × Int32) :=
  bd2 (f_X8_in σ (a1).toInt64 (0 : Int64) (((σ.1 39 10) - (1 : Int32))).toInt64) fun σ1 v2 => gd (zB v2) (some (σ1, v2))
theorem w_f_X8_isHat {G : Wld} {X : Cxt} (C : Cx G X RX8 cX8_isHat 2 2) {σ : Sto} {a1 : Int32} {y : Sto × Int32} (h : f_X8_isHat σ a1 = some y) (hK : Rx G X (some .boolean) (some (.int y.2)) y.1) : V G X 2 σ [(0, .ref (G.1 39)), (1, .int a1)] [] 0 := by
  unfold f_X8_isHat at h
  refine v_iload_n 0 C 1 1 dX8_isHat_0 rfl rfl ?_
  refine v_i2l 1 C dX8_isHat_1 ?_
  refine v_lconst 2 C (0 : Int64) dX8_isHat_2 (by decide) ?_
  refine v_aload_n 3 C 0 0 dX8_isHat_3 rfl rfl ?_
  refine g_X8_39_10 4 C dX8_isHat_4 ?_
  refine v_iconst 7 C (1 : Int32) dX8_isHat_7 (by decide) ?_
  refine v_isub 8 C dX8_isHat_8 ?_
  refine v_i2l 9 C dX8_isHat_9 ?_
  refine r_f_X8_in 10 C (by decide) q_940 dX8_isHat_10 (Nat.le_of_ble_eq_true rfl) h (fun σ1 v2 h => ?_)
  obtain ⟨hz, h⟩ := gd_some h
  cases h
  exact v_zret 13 C (zB_nar hz) hK dX8_isHat_13
theorem c_f_X8_isHat (l : Launch) (G : Wld) (hG : GI G) (σ : Sto) (a1 : Int32) (y : Sto × Int32) (h : f_X8_isHat σ a1 = some y) : Ct l G yX8_isHat cX8_isHat 2 (some .boolean) 2 [.ref (G.1 39), .int a1] σ (some (.int y.2)) y.1 := by
  refine ct_intro RX8 hG (by decide) rfl (Nat.le_of_ble_eq_true rfl) (fun X hX C hK => ?_)
  subst hX
  exact w_f_X8_isHat C h hK
theorem r_f_X8_isHat {G : Wld} {X : Cxt} {own : String} {cc : ByteArray} {nL n : Nat} {σ : Sto} {lv : List (Nat × Value)} {st : List Value} {β : Type} {r : β} {F : Sto → Int32 → Option β} {a1 : Int32} {ix : Nat} (pc : Nat) (C : Cx G X own cc nL n) (hn : 2 < n) (h1 : Cond.methodLink own ix yX8_isHat ∈ lw_gd) (hd : decode cc pc = .ok (.invokevirtual ix, 3)) (hsum : (st.map fun v => v.category).sum ≤ 8) (h : bd2 (f_X8_isHat σ a1) F = some r) (kk : ∀ σ1 v, F σ1 v = some r → V G X nL σ1 lv (.int v :: st) (pc + 3)) : V G X nL σ lv (.int a1 :: .ref (G.1 39) :: st) pc := by
  obtain ⟨z, hz, h⟩ := bd2_some h
  exact v_callV pc C 39 1 [.int a1] st (c_f_X8_isHat (xl X) G C.2.2.2.2.2.2.1 _ _ _ hz) hn (by decide) (by decide) (ce_39 G _ _) rfl (by decide +kernel) rfl h1 q_1060 q_39 q_68 q_1061 rfl hsum hd (kk _ _ h)
-- f_X8_onWhom
def f_X8_onWhom_j27 (σ : Sto) (x1 : Int32) (x3 : Int32) (s0 : Int32) : Option ((Sto × Int32 × Int32) ⊕ (Sto × Int32 × Int32)) :=
  bs s0 fun z3 => bs (x3 + (1 : Int32)) fun z4 => some (.inl (σ, z3, z4))
def f_X8_onWhom_l4 (x1 : Int32) (σ : Sto) (x2 : Int32) (x3 : Int32) : Option ((Sto × Int32 × Int32) ⊕ (Sto × Int32 × Int32)) :=
  if (σ.1 39 8) ≤ x3 then (some (.inr (σ, x2, x3))) else (gd (inB x3 7) (if (σ.1 49 (x3).toNatClampNeg) = x1 then (f_X8_onWhom_j27 σ x1 x3 x3) else (f_X8_onWhom_j27 σ x1 x3 x2)))
def f_X8_onWhom (σ : Sto) (a1 : Int32) : Option (Sto × Int32) :=
  bs (-1 : Int32) fun z1 => bs (0 : Int32) fun z2 => bE2 (lpF (fun t => f_X8_onWhom_l4 a1 t.1 t.2.1 t.2.2) FU (σ, z1, z2)) (fun σ5 z6 z7 => some (σ5, z6))
theorem w_f_X8_onWhom_j27 {G : Wld} {X : Cxt} (C : Cx G X RX8 cX8_onWhom 4 1) {σ : Sto} {x1 : Int32} {x3 : Int32} {s0 : Int32} {y : (Sto × Int32 × Int32) ⊕ (Sto × Int32 × Int32)} (h : f_X8_onWhom_j27 σ x1 x3 s0 = some y) (hc : ∀ t : Sto × Int32 × Int32, y = .inl t → V G X 4 t.1 [(0, .ref (G.1 39)), (1, .int x1), (2, .int t.2.1), (3, .int t.2.2)] [] 4) {Ve : Sto × Int32 × Int32 → Prop} (he : ∀ e, y = .inr e → Ve e) (hx : ∀ (σ : Sto) (x2 : Int32) (x3 : Int32), Ve (σ, x2, x3) → V G X 4 σ [(0, .ref (G.1 39)), (1, .int x1), (2, .int x2), (3, .int x3)] [] 34) : V G X 4 σ [(0, .ref (G.1 39)), (1, .int x1), (3, .int x3)] [.int s0] 27 := by
  unfold f_X8_onWhom_j27 at h
  refine b_istore_n 27 C 2 (lv2 := fun z3 => [(2, .int z3), (0, .ref (G.1 39)), (1, .int x1), (3, .int x3)]) dX8_onWhom_27 rfl (by decide) (fun _ => rfl) h (fun z3 h => ?_)
  refine b_iinc 28 C 3 3 (1 : Int32) (lv2 := fun z4 => [(3, .int z4), (2, .int z3), (0, .ref (G.1 39)), (1, .int x1)]) dX8_onWhom_28 rfl (by decide) (by decide) (fun _ => rfl) h (fun z4 h => ?_)
  refine v_goto 31 C 4 dX8_onWhom_31 (by decide) ?_
  exact v_sub [2, 3, 1, 0] rfl (hc _ (Option.some.inj h).symm)
theorem w_f_X8_onWhom_l4 {G : Wld} {X : Cxt} (C : Cx G X RX8 cX8_onWhom 4 1) {x1 : Int32} {σ : Sto} {x2 : Int32} {x3 : Int32} {y : (Sto × Int32 × Int32) ⊕ (Sto × Int32 × Int32)} (h : f_X8_onWhom_l4 x1 σ x2 x3 = some y) (hc : ∀ t : Sto × Int32 × Int32, y = .inl t → V G X 4 t.1 [(0, .ref (G.1 39)), (1, .int x1), (2, .int t.2.1), (3, .int t.2.2)] [] 4) {Ve : Sto × Int32 × Int32 → Prop} (he : ∀ e, y = .inr e → Ve e) (hx : ∀ (σ : Sto) (x2 : Int32) (x3 : Int32), Ve (σ, x2, x3) → V G X 4 σ [(0, .ref (G.1 39)), (1, .int x1), (2, .int x2), (3, .int x3)] [] 34) : V G X 4 σ [(0, .ref (G.1 39)), (1, .int x1), (2, .int x2), (3, .int x3)] [] 4 := by
  unfold f_X8_onWhom_l4 at h
  refine v_iload_n 4 C 3 3 dX8_onWhom_4 rfl rfl ?_
  refine v_aload_n 5 C 0 0 dX8_onWhom_5 rfl rfl ?_
  refine g_X8_39_8 6 C dX8_onWhom_6 ?_
  refine v_icmp_ge 9 C 34 dX8_onWhom_9 (by decide) h (fun h => ?_) (fun h => ?_)
  · exact v_sub [0, 1, 2, 3] rfl (hx _ _ _ (he _ (Option.some.inj h).symm))
  · refine v_aload_n 12 C 0 0 dX8_onWhom_12 rfl rfl ?_
    refine g_X8_39_15 13 C dX8_onWhom_13 ?_
    refine v_iload_n 16 C 3 3 dX8_onWhom_16 rfl rfl ?_
    refine v_iald 17 C 49 (by decide) (ce_49 G) dX8_onWhom_17 h (fun h => ?_)
    refine v_iload_n 18 C 1 1 dX8_onWhom_18 rfl rfl ?_
    refine v_icmp_ne 19 C 26 dX8_onWhom_19 (by decide) h (fun h => ?_) (fun h => ?_)
    · refine v_iload_n 26 C 2 2 dX8_onWhom_26 rfl rfl ?_
      exact v_sub [0, 1, 3] rfl (w_f_X8_onWhom_j27 C h hc he hx)
    · refine v_iload_n 22 C 3 3 dX8_onWhom_22 rfl rfl ?_
      refine v_goto 23 C 27 dX8_onWhom_23 (by decide) ?_
      exact v_sub [0, 1, 3] rfl (w_f_X8_onWhom_j27 C h hc he hx)
theorem w_f_X8_onWhom {G : Wld} {X : Cxt} (C : Cx G X RX8 cX8_onWhom 4 1) {σ : Sto} {a1 : Int32} {y : Sto × Int32} (h : f_X8_onWhom σ a1 = some y) (hK : Rx G X (some .int) (some (.int y.2)) y.1) : V G X 4 σ [(0, .ref (G.1 39)), (1, .int a1)] [] 0 := by
  unfold f_X8_onWhom at h
  refine v_iconst 0 C (-1 : Int32) dX8_onWhom_0 (by decide) ?_
  refine b_istore_n 1 C 2 (lv2 := fun z1 => [(2, .int z1), (0, .ref (G.1 39)), (1, .int a1)]) dX8_onWhom_1 rfl (by decide) (fun _ => rfl) h (fun z1 h => ?_)
  refine v_iconst 2 C (0 : Int32) dX8_onWhom_2 (by decide) ?_
  refine b_istore_n 3 C 3 (lv2 := fun z2 => [(3, .int z2), (2, .int z1), (0, .ref (G.1 39)), (1, .int a1)]) dX8_onWhom_3 rfl (by decide) (fun _ => rfl) h (fun z2 h => ?_)
  refine v_sub [2, 3, 1, 0] rfl ?_
  refine lp_go (Vh := fun t => V G X 4 t.1 [(0, .ref (G.1 39)), (1, .int a1), (2, .int t.2.1), (3, .int t.2.2)] [] 4) h ?_
  intro t8 y8 hy8 hc8 he8
  refine w_f_X8_onWhom_l4 C hy8 hc8 he8 (fun σ5 z6 z7 h => ?_)
  dsimp only at h
  refine v_iload_n 34 C 2 2 dX8_onWhom_34 rfl rfl ?_
  cases h
  exact v_iret 35 C hK dX8_onWhom_35
theorem c_f_X8_onWhom (l : Launch) (G : Wld) (hG : GI G) (σ : Sto) (a1 : Int32) (y : Sto × Int32) (h : f_X8_onWhom σ a1 = some y) : Ct l G yX8_onWhom cX8_onWhom 4 (some .int) 1 [.ref (G.1 39), .int a1] σ (some (.int y.2)) y.1 := by
  refine ct_intro RX8 hG (by decide) rfl (Nat.le_of_ble_eq_true rfl) (fun X hX C hK => ?_)
  subst hX
  exact w_f_X8_onWhom C h hK
theorem r_f_X8_onWhom {G : Wld} {X : Cxt} {own : String} {cc : ByteArray} {nL n : Nat} {σ : Sto} {lv : List (Nat × Value)} {st : List Value} {β : Type} {r : β} {F : Sto → Int32 → Option β} {a1 : Int32} {ix : Nat} (pc : Nat) (C : Cx G X own cc nL n) (hn : 1 < n) (h1 : Cond.methodLink own ix yX8_onWhom ∈ lw_gd) (hd : decode cc pc = .ok (.invokevirtual ix, 3)) (hsum : (st.map fun v => v.category).sum ≤ 8) (h : bd2 (f_X8_onWhom σ a1) F = some r) (kk : ∀ σ1 v, F σ1 v = some r → V G X nL σ1 lv (.int v :: st) (pc + 3)) : V G X nL σ lv (.int a1 :: .ref (G.1 39) :: st) pc := by
  obtain ⟨z, hz, h⟩ := bd2_some h
  exact v_callV pc C 39 1 [.int a1] st (c_f_X8_onWhom (xl X) G C.2.2.2.2.2.2.1 _ _ _ hz) hn (by decide) (by decide) (ce_39 G _ _) rfl (by decide +kernel) rfl h1 q_1064 q_40 q_68 q_1065 rfl hsum hd (kk _ _ h)
-- f_X8_hat
def f_X8_hat_j53 (σ : Sto) (s0 : Int32) : Option (Sto × Int32) :=
  some (σ, s0)
def f_X8_hat (σ : Sto) (a1 : Int32) (a2 : Int32) : Option (Sto × Int32) :=
  bd2 (f_X8_isHat σ a1) fun σ1 v2 => if v2 = 0 then (some (σ1, (-1000000001 : Int32))) else (if a2 = 0 then (gd (inB a1 4) (f_X8_hat_j53 σ1 (σ1.1 46 (a1).toNatClampNeg))) else (if a2 = (1 : Int32) then (gd (inB a1 4) (f_X8_hat_j53 σ1 (σ1.1 47 (a1).toNatClampNeg))) else (if a2 = (2 : Int32) then (bd2 (f_X8_onWhom σ1 a1) fun σ3 v4 => f_X8_hat_j53 σ3 v4) else (f_X8_hat_j53 σ1 (-1000000002 : Int32)))))
theorem w_f_X8_hat_j53 {G : Wld} {X : Cxt} (C : Cx G X RX8 cX8_hat 3 3) {σ : Sto} {s0 : Int32} {y : Sto × Int32} (h : f_X8_hat_j53 σ s0 = some y) (hK : Rx G X (some .int) (some (.int y.2)) y.1) : V G X 3 σ [(0, .ref (G.1 39))] [.int s0] 53 := by
  unfold f_X8_hat_j53 at h
  cases h
  exact v_iret 53 C hK dX8_hat_53
theorem w_f_X8_hat {G : Wld} {X : Cxt} (C : Cx G X RX8 cX8_hat 3 3) {σ : Sto} {a1 : Int32} {a2 : Int32} {y : Sto × Int32} (h : f_X8_hat σ a1 a2 = some y) (hK : Rx G X (some .int) (some (.int y.2)) y.1) : V G X 3 σ [(0, .ref (G.1 39)), (1, .int a1), (2, .int a2)] [] 0 := by
  unfold f_X8_hat at h
  refine v_aload_n 0 C 0 0 dX8_hat_0 rfl rfl ?_
  refine v_iload_n 1 C 1 1 dX8_hat_1 rfl rfl ?_
  refine r_f_X8_isHat 2 C (by decide) q_1058 dX8_hat_2 (Nat.le_of_ble_eq_true rfl) h (fun σ1 v2 h => ?_)
  refine v_if_ne 5 C 11 dX8_hat_5 (by decide) h (fun h => ?_) (fun h => ?_)
  · refine v_iload_n 11 C 2 2 dX8_hat_11 rfl rfl ?_
    refine v_if_ne 12 C 24 dX8_hat_12 (by decide) h (fun h => ?_) (fun h => ?_)
    · refine v_iload_n 24 C 2 2 dX8_hat_24 rfl rfl ?_
      refine v_iconst 25 C (1 : Int32) dX8_hat_25 (by decide) ?_
      refine v_icmp_ne 26 C 38 dX8_hat_26 (by decide) h (fun h => ?_) (fun h => ?_)
      · refine v_iload_n 38 C 2 2 dX8_hat_38 rfl rfl ?_
        refine v_iconst 39 C (2 : Int32) dX8_hat_39 (by decide) ?_
        refine v_icmp_ne 40 C 51 dX8_hat_40 (by decide) h (fun h => ?_) (fun h => ?_)
        · refine v_ldc 51 C dX8_hat_51 q_943 ?_
          exact v_sub [0] rfl (w_f_X8_hat_j53 C h hK)
        · refine v_aload_n 43 C 0 0 dX8_hat_43 rfl rfl ?_
          refine v_iload_n 44 C 1 1 dX8_hat_44 rfl rfl ?_
          refine r_f_X8_onWhom 45 C (by decide) q_1062 dX8_hat_45 (Nat.le_of_ble_eq_true rfl) h (fun σ3 v4 h => ?_)
          refine v_goto 48 C 53 dX8_hat_48 (by decide) ?_
          exact v_sub [0] rfl (w_f_X8_hat_j53 C h hK)
      · refine v_aload_n 29 C 0 0 dX8_hat_29 rfl rfl ?_
        refine g_X8_39_12 30 C dX8_hat_30 ?_
        refine v_iload_n 33 C 1 1 dX8_hat_33 rfl rfl ?_
        refine v_iald 34 C 47 (by decide) (ce_47 G) dX8_hat_34 h (fun h => ?_)
        refine v_goto 35 C 53 dX8_hat_35 (by decide) ?_
        exact v_sub [0] rfl (w_f_X8_hat_j53 C h hK)
    · refine v_aload_n 15 C 0 0 dX8_hat_15 rfl rfl ?_
      refine g_X8_39_11 16 C dX8_hat_16 ?_
      refine v_iload_n 19 C 1 1 dX8_hat_19 rfl rfl ?_
      refine v_iald 20 C 46 (by decide) (ce_46 G) dX8_hat_20 h (fun h => ?_)
      refine v_goto 21 C 53 dX8_hat_21 (by decide) ?_
      exact v_sub [0] rfl (w_f_X8_hat_j53 C h hK)
  · refine v_ldc 8 C dX8_hat_8 q_1024 ?_
    cases h
    exact v_iret 10 C hK dX8_hat_10
theorem c_f_X8_hat (l : Launch) (G : Wld) (hG : GI G) (σ : Sto) (a1 : Int32) (a2 : Int32) (y : Sto × Int32) (h : f_X8_hat σ a1 a2 = some y) : Ct l G yX8_hat cX8_hat 3 (some .int) 3 [.ref (G.1 39), .int a1, .int a2] σ (some (.int y.2)) y.1 := by
  refine ct_intro RX8 hG (by decide) rfl (Nat.le_of_ble_eq_true rfl) (fun X hX C hK => ?_)
  subst hX
  exact w_f_X8_hat C h hK
theorem r_f_X8_hat {G : Wld} {X : Cxt} {own : String} {cc : ByteArray} {nL n : Nat} {σ : Sto} {lv : List (Nat × Value)} {st : List Value} {β : Type} {r : β} {F : Sto → Int32 → Option β} {a1 : Int32} {a2 : Int32} {ix : Nat} (pc : Nat) (C : Cx G X own cc nL n) (hn : 3 < n) (h1 : Cond.methodLink own ix yX8_hat ∈ lw_gd) (hd : decode cc pc = .ok (.invokevirtual ix, 3)) (hsum : (st.map fun v => v.category).sum ≤ 8) (h : bd2 (f_X8_hat σ a1 a2) F = some r) (kk : ∀ σ1 v, F σ1 v = some r → V G X nL σ1 lv (.int v :: st) (pc + 3)) : V G X nL σ lv (.int a2 :: .int a1 :: .ref (G.1 39) :: st) pc := by
  obtain ⟨z, hz, h⟩ := bd2_some h
  exact v_callV pc C 39 2 [.int a1, .int a2] st (c_f_X8_hat (xl X) G C.2.2.2.2.2.2.1 _ _ _ _ hz) hn (by decide) (by decide) (ce_39 G _ _) rfl (by decide +kernel) rfl h1 q_1055 q_1056 q_68 q_1057 rfl hsum hd (kk _ _ h)
-- f_X8_longNow
def f_X8_longNow (σ : Sto) (a1 : Int32) : Option (Sto × Int32) :=
  bd2 (f_X8_longOn σ a1 (σ.1 39 13)) fun σ1 v2 => some (σ1, v2)
theorem w_f_X8_longNow {G : Wld} {X : Cxt} (C : Cx G X RX8 cX8_longNow 2 2) {σ : Sto} {a1 : Int32} {y : Sto × Int32} (h : f_X8_longNow σ a1 = some y) (hK : Rx G X (some .int) (some (.int y.2)) y.1) : V G X 2 σ [(0, .ref (G.1 39)), (1, .int a1)] [] 0 := by
  unfold f_X8_longNow at h
  refine v_aload_n 0 C 0 0 dX8_longNow_0 rfl rfl ?_
  refine v_iload_n 1 C 1 1 dX8_longNow_1 rfl rfl ?_
  refine v_aload_n 2 C 0 0 dX8_longNow_2 rfl rfl ?_
  refine g_X8_39_13 3 C dX8_longNow_3 ?_
  refine r_f_X8_longOn 6 C (by decide) q_1026 dX8_longNow_6 (Nat.le_of_ble_eq_true rfl) h (fun σ1 v2 h => ?_)
  cases h
  exact v_iret 9 C hK dX8_longNow_9
theorem c_f_X8_longNow (l : Launch) (G : Wld) (hG : GI G) (σ : Sto) (a1 : Int32) (y : Sto × Int32) (h : f_X8_longNow σ a1 = some y) : Ct l G yX8_longNow cX8_longNow 2 (some .int) 2 [.ref (G.1 39), .int a1] σ (some (.int y.2)) y.1 := by
  refine ct_intro RX8 hG (by decide) rfl (Nat.le_of_ble_eq_true rfl) (fun X hX C hK => ?_)
  subst hX
  exact w_f_X8_longNow C h hK
theorem r_f_X8_longNow {G : Wld} {X : Cxt} {own : String} {cc : ByteArray} {nL n : Nat} {σ : Sto} {lv : List (Nat × Value)} {st : List Value} {β : Type} {r : β} {F : Sto → Int32 → Option β} {a1 : Int32} {ix : Nat} (pc : Nat) (C : Cx G X own cc nL n) (hn : 2 < n) (h1 : Cond.methodLink own ix yX8_longNow ∈ lw_gd) (hd : decode cc pc = .ok (.invokevirtual ix, 3)) (hsum : (st.map fun v => v.category).sum ≤ 8) (h : bd2 (f_X8_longNow σ a1) F = some r) (kk : ∀ σ1 v, F σ1 v = some r → V G X nL σ1 lv (.int v :: st) (pc + 3)) : V G X nL σ lv (.int a1 :: .ref (G.1 39) :: st) pc := by
  obtain ⟨z, hz, h⟩ := bd2_some h
  exact v_callV pc C 39 1 [.int a1] st (c_f_X8_longNow (xl X) G C.2.2.2.2.2.2.1 _ _ _ hz) hn (by decide) (by decide) (ce_39 G _ _) rfl (by decide +kernel) rfl h1 q_1072 q_41 q_68 q_1073 rfl hsum hd (kk _ _ h)
-- f_X8_lengthBy
def f_X8_lengthBy_j56 (σ : Sto) (s0 : Int32) : Option (Sto × Int32) :=
  some (σ, s0)
def f_X8_lengthBy_j54 (σ : Sto) (x4 : Int32) : Option (Sto × Int32) :=
  f_X8_lengthBy_j56 σ x4
def f_X8_lengthBy (σ : Sto) (a1 : Int32) (a2 : Int32) (a3 : Int32) : Option (Sto × Int32) :=
  gd (nzI (10 : Int32)) (bs ((a1 * a3) / (10 : Int32)) fun z1 => gd (inB a2 6) (gd (nzI (10 : Int32)) (bs ((z1 * ((10 : Int32) - (σ.1 43 (a2).toNatClampNeg))) / (10 : Int32)) fun z2 => gd (inB a2 6) (if (σ.1 44 (a2).toNatClampNeg) ≤ 0 then (f_X8_lengthBy_j54 σ z2) else (gd (inB a2 6) (if z2 ≤ (σ.1 44 (a2).toNatClampNeg) then (f_X8_lengthBy_j54 σ z2) else (gd (inB a2 6) (f_X8_lengthBy_j56 σ (σ.1 44 (a2).toNatClampNeg)))))))))
theorem w_f_X8_lengthBy_j56 {G : Wld} {X : Cxt} (C : Cx G X RX8 cX8_lengthBy 5 1) {σ : Sto} {s0 : Int32} {y : Sto × Int32} (h : f_X8_lengthBy_j56 σ s0 = some y) (hK : Rx G X (some .int) (some (.int y.2)) y.1) : V G X 5 σ [(0, .ref (G.1 39))] [.int s0] 56 := by
  unfold f_X8_lengthBy_j56 at h
  cases h
  exact v_iret 56 C hK dX8_lengthBy_56
theorem w_f_X8_lengthBy_j54 {G : Wld} {X : Cxt} (C : Cx G X RX8 cX8_lengthBy 5 1) {σ : Sto} {x4 : Int32} {y : Sto × Int32} (h : f_X8_lengthBy_j54 σ x4 = some y) (hK : Rx G X (some .int) (some (.int y.2)) y.1) : V G X 5 σ [(0, .ref (G.1 39)), (4, .int x4)] [] 54 := by
  unfold f_X8_lengthBy_j54 at h
  refine v_iload 54 C 4 1 dX8_lengthBy_54 rfl ?_
  exact v_sub [0] rfl (w_f_X8_lengthBy_j56 C h hK)
theorem w_f_X8_lengthBy {G : Wld} {X : Cxt} (C : Cx G X RX8 cX8_lengthBy 5 1) {σ : Sto} {a1 : Int32} {a2 : Int32} {a3 : Int32} {y : Sto × Int32} (h : f_X8_lengthBy σ a1 a2 a3 = some y) (hK : Rx G X (some .int) (some (.int y.2)) y.1) : V G X 5 σ [(0, .ref (G.1 39)), (1, .int a1), (2, .int a2), (3, .int a3)] [] 0 := by
  unfold f_X8_lengthBy at h
  refine v_iload_n 0 C 1 1 dX8_lengthBy_0 rfl rfl ?_
  refine v_iload_n 1 C 3 3 dX8_lengthBy_1 rfl rfl ?_
  refine v_imul 2 C dX8_lengthBy_2 ?_
  refine v_bipush 3 C (10 : Int32) dX8_lengthBy_3 (by decide) ?_
  refine v_idiv 5 C dX8_lengthBy_5 h (fun h => ?_)
  refine b_istore 6 C 4 (lv2 := fun z1 => [(4, .int z1), (0, .ref (G.1 39)), (1, .int a1), (2, .int a2), (3, .int a3)]) dX8_lengthBy_6 (by decide) (fun _ => rfl) h (fun z1 h => ?_)
  refine v_iload 8 C 4 0 dX8_lengthBy_8 rfl ?_
  refine v_bipush 10 C (10 : Int32) dX8_lengthBy_10 (by decide) ?_
  refine v_aload_n 12 C 0 1 dX8_lengthBy_12 rfl rfl ?_
  refine g_X8_39_6 13 C dX8_lengthBy_13 ?_
  refine v_iload_n 16 C 2 3 dX8_lengthBy_16 rfl rfl ?_
  refine v_iald 17 C 43 (by decide) (ce_43 G) dX8_lengthBy_17 h (fun h => ?_)
  refine v_isub 18 C dX8_lengthBy_18 ?_
  refine v_imul 19 C dX8_lengthBy_19 ?_
  refine v_bipush 20 C (10 : Int32) dX8_lengthBy_20 (by decide) ?_
  refine v_idiv 22 C dX8_lengthBy_22 h (fun h => ?_)
  refine b_istore 23 C 4 (lv2 := fun z2 => [(4, .int z2), (0, .ref (G.1 39)), (1, .int a1), (2, .int a2), (3, .int a3)]) dX8_lengthBy_23 (by decide) (fun _ => rfl) h (fun z2 h => ?_)
  refine v_aload_n 25 C 0 1 dX8_lengthBy_25 rfl rfl ?_
  refine g_X8_39_7 26 C dX8_lengthBy_26 ?_
  refine v_iload_n 29 C 2 3 dX8_lengthBy_29 rfl rfl ?_
  refine v_iald 30 C 44 (by decide) (ce_44 G) dX8_lengthBy_30 h (fun h => ?_)
  refine v_if_le 31 C 54 dX8_lengthBy_31 (by decide) h (fun h => ?_) (fun h => ?_)
  · exact v_sub [1, 0] rfl (w_f_X8_lengthBy_j54 C h hK)
  · refine v_iload 34 C 4 0 dX8_lengthBy_34 rfl ?_
    refine v_aload_n 36 C 0 1 dX8_lengthBy_36 rfl rfl ?_
    refine g_X8_39_7 37 C dX8_lengthBy_37 ?_
    refine v_iload_n 40 C 2 3 dX8_lengthBy_40 rfl rfl ?_
    refine v_iald 41 C 44 (by decide) (ce_44 G) dX8_lengthBy_41 h (fun h => ?_)
    refine v_icmp_le 42 C 54 dX8_lengthBy_42 (by decide) h (fun h => ?_) (fun h => ?_)
    · exact v_sub [1, 0] rfl (w_f_X8_lengthBy_j54 C h hK)
    · refine v_aload_n 45 C 0 1 dX8_lengthBy_45 rfl rfl ?_
      refine g_X8_39_7 46 C dX8_lengthBy_46 ?_
      refine v_iload_n 49 C 2 3 dX8_lengthBy_49 rfl rfl ?_
      refine v_iald 50 C 44 (by decide) (ce_44 G) dX8_lengthBy_50 h (fun h => ?_)
      refine v_goto 51 C 56 dX8_lengthBy_51 (by decide) ?_
      exact v_sub [1] rfl (w_f_X8_lengthBy_j56 C h hK)
theorem c_f_X8_lengthBy (l : Launch) (G : Wld) (hG : GI G) (σ : Sto) (a1 : Int32) (a2 : Int32) (a3 : Int32) (y : Sto × Int32) (h : f_X8_lengthBy σ a1 a2 a3 = some y) : Ct l G yX8_lengthBy cX8_lengthBy 5 (some .int) 1 [.ref (G.1 39), .int a1, .int a2, .int a3] σ (some (.int y.2)) y.1 := by
  refine ct_intro RX8 hG (by decide) rfl (Nat.le_of_ble_eq_true rfl) (fun X hX C hK => ?_)
  subst hX
  exact w_f_X8_lengthBy C h hK
theorem r_f_X8_lengthBy {G : Wld} {X : Cxt} {own : String} {cc : ByteArray} {nL n : Nat} {σ : Sto} {lv : List (Nat × Value)} {st : List Value} {β : Type} {r : β} {F : Sto → Int32 → Option β} {a1 : Int32} {a2 : Int32} {a3 : Int32} {ix : Nat} (pc : Nat) (C : Cx G X own cc nL n) (hn : 1 < n) (h1 : Cond.methodLink own ix yX8_lengthBy ∈ lw_gd) (hd : decode cc pc = .ok (.invokevirtual ix, 3)) (hsum : (st.map fun v => v.category).sum ≤ 8) (h : bd2 (f_X8_lengthBy σ a1 a2 a3) F = some r) (kk : ∀ σ1 v, F σ1 v = some r → V G X nL σ1 lv (.int v :: st) (pc + 3)) : V G X nL σ lv (.int a3 :: .int a2 :: .int a1 :: .ref (G.1 39) :: st) pc := by
  obtain ⟨z, hz, h⟩ := bd2_some h
  exact v_callV pc C 39 3 [.int a1, .int a2, .int a3] st (c_f_X8_lengthBy (xl X) G C.2.2.2.2.2.2.1 _ _ _ _ _ hz) hn (by decide) (by decide) (ce_39 G _ _) rfl (by decide +kernel) rfl h1 q_1084 q_44 q_68 q_1085 rfl hsum hd (kk _ _ h)
-- f_X8_shadowOf
def f_X8_shadowOf_j70 (σ : Sto) (s0 : Int32) : Option (Sto × Int32) :=
  some (σ, s0)
def f_X8_shadowOf_j58 (σ : Sto) (x1 : Int32) (x3 : Int32) (x4 : Int32) : Option (Sto × Int32) :=
  bd2 (f_X8_tallOf σ x1) fun σ5 v6 => bd2 (f_X8_lengthBy σ5 v6 x4 x3) fun σ7 v8 => f_X8_shadowOf_j70 σ7 v8
def f_X8_shadowOf_j33 (σ : Sto) (x1 : Int32) (x3 : Int32) (x4 : Int32) (s0 : Int32) : Option (Sto × Int32) :=
  bs s0 fun z4 => if z4 < 0 then (f_X8_shadowOf_j58 σ x1 x3 x4) else (bd2 (f_X8_tallOf σ z4) fun σ9 v10 => bd2 (f_X8_tallOf σ9 x1) fun σ11 v12 => if v10 ≤ v12 then (f_X8_shadowOf_j58 σ11 x1 x3 x4) else (f_X8_shadowOf_j70 σ11 (0 : Int32)))
def f_X8_shadowOf (σ : Sto) (a1 : Int32) (a2 : Int32) (a3 : Int32) : Option (Sto × Int32) :=
  gd (inB a1 7) (bs (σ.1 48 (a1).toNatClampNeg) fun z1 => if 0 ≤ z1 then (if z1 = 0 then (f_X8_shadowOf_j33 σ a1 a3 z1 (-1 : Int32)) else (bd2 (f_X8_whoIsOn σ (z1 - (1 : Int32)) a2) fun σ2 v3 => f_X8_shadowOf_j33 σ2 a1 a3 z1 v3)) else (some (σ, (0 : Int32))))
theorem w_f_X8_shadowOf_j70 {G : Wld} {X : Cxt} (C : Cx G X RX8 cX8_shadowOf 6 2) {σ : Sto} {s0 : Int32} {y : Sto × Int32} (h : f_X8_shadowOf_j70 σ s0 = some y) (hK : Rx G X (some .int) (some (.int y.2)) y.1) : V G X 6 σ [(0, .ref (G.1 39))] [.int s0] 70 := by
  unfold f_X8_shadowOf_j70 at h
  cases h
  exact v_iret 70 C hK dX8_shadowOf_70
theorem w_f_X8_shadowOf_j58 {G : Wld} {X : Cxt} (C : Cx G X RX8 cX8_shadowOf 6 2) {σ : Sto} {x1 : Int32} {x3 : Int32} {x4 : Int32} {y : Sto × Int32} (h : f_X8_shadowOf_j58 σ x1 x3 x4 = some y) (hK : Rx G X (some .int) (some (.int y.2)) y.1) : V G X 6 σ [(0, .ref (G.1 39)), (1, .int x1), (3, .int x3), (4, .int x4)] [] 58 := by
  unfold f_X8_shadowOf_j58 at h
  refine v_aload_n 58 C 0 0 dX8_shadowOf_58 rfl rfl ?_
  refine v_aload_n 59 C 0 0 dX8_shadowOf_59 rfl rfl ?_
  refine v_iload_n 60 C 1 1 dX8_shadowOf_60 rfl rfl ?_
  refine r_f_X8_tallOf 61 C (by decide) q_1050 dX8_shadowOf_61 (Nat.le_of_ble_eq_true rfl) h (fun σ5 v6 h => ?_)
  refine v_iload 64 C 4 3 dX8_shadowOf_64 rfl ?_
  refine v_iload_n 66 C 3 2 dX8_shadowOf_66 rfl rfl ?_
  refine r_f_X8_lengthBy 67 C (by decide) q_1082 dX8_shadowOf_67 (Nat.le_of_ble_eq_true rfl) h (fun σ7 v8 h => ?_)
  exact v_sub [0] rfl (w_f_X8_shadowOf_j70 C h hK)
theorem w_f_X8_shadowOf_j33 {G : Wld} {X : Cxt} (C : Cx G X RX8 cX8_shadowOf 6 2) {σ : Sto} {x1 : Int32} {x3 : Int32} {x4 : Int32} {s0 : Int32} {y : Sto × Int32} (h : f_X8_shadowOf_j33 σ x1 x3 x4 s0 = some y) (hK : Rx G X (some .int) (some (.int y.2)) y.1) : V G X 6 σ [(0, .ref (G.1 39)), (1, .int x1), (3, .int x3), (4, .int x4)] [.int s0] 33 := by
  unfold f_X8_shadowOf_j33 at h
  refine b_istore 33 C 5 (lv2 := fun z4 => [(5, .int z4), (0, .ref (G.1 39)), (1, .int x1), (3, .int x3), (4, .int x4)]) dX8_shadowOf_33 (by decide) (fun _ => rfl) h (fun z4 h => ?_)
  refine v_iload 35 C 5 0 dX8_shadowOf_35 rfl ?_
  refine v_if_lt 37 C 58 dX8_shadowOf_37 (by decide) h (fun h => ?_) (fun h => ?_)
  · exact v_sub [1, 2, 3, 4] rfl (w_f_X8_shadowOf_j58 C h hK)
  · refine v_aload_n 40 C 0 1 dX8_shadowOf_40 rfl rfl ?_
    refine v_iload 41 C 5 0 dX8_shadowOf_41 rfl ?_
    refine r_f_X8_tallOf 43 C (by decide) q_1050 dX8_shadowOf_43 (Nat.le_of_ble_eq_true rfl) h (fun σ9 v10 h => ?_)
    refine v_aload_n 46 C 0 1 dX8_shadowOf_46 rfl rfl ?_
    refine v_iload_n 47 C 1 2 dX8_shadowOf_47 rfl rfl ?_
    refine r_f_X8_tallOf 48 C (by decide) q_1050 dX8_shadowOf_48 (Nat.le_of_ble_eq_true rfl) h (fun σ11 v12 h => ?_)
    refine v_icmp_le 51 C 58 dX8_shadowOf_51 (by decide) h (fun h => ?_) (fun h => ?_)
    · exact v_sub [1, 2, 3, 4] rfl (w_f_X8_shadowOf_j58 C h hK)
    · refine v_iconst 54 C (0 : Int32) dX8_shadowOf_54 (by decide) ?_
      refine v_goto 55 C 70 dX8_shadowOf_55 (by decide) ?_
      exact v_sub [1] rfl (w_f_X8_shadowOf_j70 C h hK)
theorem w_f_X8_shadowOf {G : Wld} {X : Cxt} (C : Cx G X RX8 cX8_shadowOf 6 2) {σ : Sto} {a1 : Int32} {a2 : Int32} {a3 : Int32} {y : Sto × Int32} (h : f_X8_shadowOf σ a1 a2 a3 = some y) (hK : Rx G X (some .int) (some (.int y.2)) y.1) : V G X 6 σ [(0, .ref (G.1 39)), (1, .int a1), (2, .int a2), (3, .int a3)] [] 0 := by
  unfold f_X8_shadowOf at h
  refine v_aload_n 0 C 0 0 dX8_shadowOf_0 rfl rfl ?_
  refine g_X8_39_14 1 C dX8_shadowOf_1 ?_
  refine v_iload_n 4 C 1 1 dX8_shadowOf_4 rfl rfl ?_
  refine v_iald 5 C 48 (by decide) (ce_48 G) dX8_shadowOf_5 h (fun h => ?_)
  refine b_istore 6 C 4 (lv2 := fun z1 => [(4, .int z1), (0, .ref (G.1 39)), (1, .int a1), (2, .int a2), (3, .int a3)]) dX8_shadowOf_6 (by decide) (fun _ => rfl) h (fun z1 h => ?_)
  refine v_iload 8 C 4 0 dX8_shadowOf_8 rfl ?_
  refine v_if_ge 10 C 15 dX8_shadowOf_10 (by decide) h (fun h => ?_) (fun h => ?_)
  · refine v_iload 15 C 4 0 dX8_shadowOf_15 rfl ?_
    refine v_if_ne 17 C 24 dX8_shadowOf_17 (by decide) h (fun h => ?_) (fun h => ?_)
    · refine v_aload_n 24 C 0 1 dX8_shadowOf_24 rfl rfl ?_
      refine v_iload 25 C 4 0 dX8_shadowOf_25 rfl ?_
      refine v_iconst 27 C (1 : Int32) dX8_shadowOf_27 (by decide) ?_
      refine v_isub 28 C dX8_shadowOf_28 ?_
      refine v_iload_n 29 C 2 3 dX8_shadowOf_29 rfl rfl ?_
      refine r_f_X8_whoIsOn 30 C (by decide) q_1038 dX8_shadowOf_30 (Nat.le_of_ble_eq_true rfl) h (fun σ2 v3 h => ?_)
      exact v_sub [1, 2, 4, 0] rfl (w_f_X8_shadowOf_j33 C h hK)
    · refine v_iconst 20 C (-1 : Int32) dX8_shadowOf_20 (by decide) ?_
      refine v_goto 21 C 33 dX8_shadowOf_21 (by decide) ?_
      exact v_sub [1, 2, 4, 0] rfl (w_f_X8_shadowOf_j33 C h hK)
  · refine v_iconst 13 C (0 : Int32) dX8_shadowOf_13 (by decide) ?_
    cases h
    exact v_iret 14 C hK dX8_shadowOf_14
theorem c_f_X8_shadowOf (l : Launch) (G : Wld) (hG : GI G) (σ : Sto) (a1 : Int32) (a2 : Int32) (a3 : Int32) (y : Sto × Int32) (h : f_X8_shadowOf σ a1 a2 a3 = some y) : Ct l G yX8_shadowOf cX8_shadowOf 6 (some .int) 2 [.ref (G.1 39), .int a1, .int a2, .int a3] σ (some (.int y.2)) y.1 := by
  refine ct_intro RX8 hG (by decide) rfl (Nat.le_of_ble_eq_true rfl) (fun X hX C hK => ?_)
  subst hX
  exact w_f_X8_shadowOf C h hK
theorem r_f_X8_shadowOf {G : Wld} {X : Cxt} {own : String} {cc : ByteArray} {nL n : Nat} {σ : Sto} {lv : List (Nat × Value)} {st : List Value} {β : Type} {r : β} {F : Sto → Int32 → Option β} {a1 : Int32} {a2 : Int32} {a3 : Int32} {ix : Nat} (pc : Nat) (C : Cx G X own cc nL n) (hn : 2 < n) (h1 : Cond.methodLink own ix yX8_shadowOf ∈ lw_gd) (hd : decode cc pc = .ok (.invokevirtual ix, 3)) (hsum : (st.map fun v => v.category).sum ≤ 8) (h : bd2 (f_X8_shadowOf σ a1 a2 a3) F = some r) (kk : ∀ σ1 v, F σ1 v = some r → V G X nL σ1 lv (.int v :: st) (pc + 3)) : V G X nL σ lv (.int a3 :: .int a2 :: .int a1 :: .ref (G.1 39) :: st) pc := by
  obtain ⟨z, hz, h⟩ := bd2_some h
  exact v_callV pc C 39 3 [.int a1, .int a2, .int a3] st (c_f_X8_shadowOf (xl X) G C.2.2.2.2.2.2.1 _ _ _ _ _ hz) hn (by decide) (by decide) (ce_39 G _ _) rfl (by decide +kernel) rfl h1 q_1080 q_43 q_68 q_1081 rfl hsum hd (kk _ _ h)
-- f_X8_findAlms
def f_X8_findAlms_j90 (σ : Sto) (x1 : Int32) (x2 : Int32) (x3 : Int32) (x5 : Int32) (s0 : Int32) : Option ((Sto × Int32 × Int32 × Int32) ⊕ (Sto × Int32 × Int32 × Int32)) :=
  bs s0 fun z9 => bs (x5 + (1 : Int32)) fun z10 => some (.inl (σ, x3, z9, z10))
def f_X8_findAlms_j76 (σ : Sto) (x1 : Int32) (x2 : Int32) (x3 : Int32) (x4 : Int32) (x5 : Int32) (s0 : Int32) : Option ((Sto × Int32 × Int32 × Int32) ⊕ (Sto × Int32 × Int32 × Int32)) :=
  bs s0 fun z8 => if z8 = 0 then (f_X8_findAlms_j90 σ x1 x2 x3 x5 x4) else (f_X8_findAlms_j90 σ x1 x2 x3 x5 x5)
def f_X8_findAlms_j75 (σ : Sto) (x1 : Int32) (x2 : Int32) (x3 : Int32) (x4 : Int32) (x5 : Int32) : Option ((Sto × Int32 × Int32 × Int32) ⊕ (Sto × Int32 × Int32 × Int32)) :=
  f_X8_findAlms_j76 σ x1 x2 x3 x4 x5 (0 : Int32)
def f_X8_findAlms_j71 (σ : Sto) (x1 : Int32) (x2 : Int32) (x3 : Int32) (x4 : Int32) (x5 : Int32) : Option ((Sto × Int32 × Int32 × Int32) ⊕ (Sto × Int32 × Int32 × Int32)) :=
  f_X8_findAlms_j76 σ x1 x2 x3 x4 x5 (1 : Int32)
def f_X8_findAlms_l8 (x1 : Int32) (x2 : Int32) (σ : Sto) (x3 : Int32) (x4 : Int32) (x5 : Int32) : Option ((Sto × Int32 × Int32 × Int32) ⊕ (Sto × Int32 × Int32 × Int32)) :=
  if x1 ≤ x5 then (some (.inr (σ, x3, x4, x5))) else (bd2 (f_X8_shadowOf σ x5 x1 x2) fun σ4 v5 => gd (inB x5 7) (bs (su σ4 60 (x5).toNatClampNeg v5) fun σ6 => gd (inB x5 7) (bs (x3 + (σ6.1 60 (x5).toNatClampNeg)) fun z7 => gd (inB x5 7) (if (σ6.1 48 (x5).toNatClampNeg) < 0 then (f_X8_findAlms_j75 σ6 x1 x2 z7 x4 x5) else (if x4 < 0 then (f_X8_findAlms_j71 σ6 x1 x2 z7 x4 x5) else (gd (inB x5 7) (gd (inB x4 7) (if (σ6.1 60 (x5).toNatClampNeg) ≤ (σ6.1 60 (x4).toNatClampNeg) then (f_X8_findAlms_j75 σ6 x1 x2 z7 x4 x5) else (f_X8_findAlms_j71 σ6 x1 x2 z7 x4 x5)))))))))
def f_X8_findAlms_j177 (σ : Sto) (x1 : Int32) (x3 : Int32) (x4 : Int32) (x5 : Int32) (s0 : Int32) (s1 : Int32) : Option ((Sto × Int32) ⊕ (Sto × Int32)) :=
  gd (inB s1 7) (bs (su σ 61 (s1).toNatClampNeg s0) fun σ17 => bs (x5 + (1 : Int32)) fun z18 => some (.inl (σ17, z18)))
def f_X8_findAlms_l101 (x1 : Int32) (x3 : Int32) (x4 : Int32) (σ : Sto) (x5 : Int32) : Option ((Sto × Int32) ⊕ (Sto × Int32)) :=
  if x1 ≤ x5 then (some (.inr (σ, x5))) else (if (σ.1 39 18) = 0 then (gd (inB x5 7) (f_X8_findAlms_j177 σ x1 x3 x4 x5 (σ.1 60 (x5).toNatClampNeg) x5)) else (if (σ.1 39 18) = (1 : Int32) then (if x5 = x4 then (f_X8_findAlms_j177 σ x1 x3 x4 x5 x3 x5) else (f_X8_findAlms_j177 σ x1 x3 x4 x5 (0 : Int32) x5)) else (gd (inB x5 7) (if (σ.1 60 (x5).toNatClampNeg) ≤ (50 : Int32) then (gd (inB x5 7) (f_X8_findAlms_j177 σ x1 x3 x4 x5 (σ.1 60 (x5).toNatClampNeg) x5)) else (f_X8_findAlms_j177 σ x1 x3 x4 x5 (50 : Int32) x5)))))
def f_X8_findAlms (σ : Sto) (a1 : Int32) (a2 : Int32) : Option (Sto) :=
  bs (0 : Int32) fun z1 => bs (-1 : Int32) fun z2 => bs (0 : Int32) fun z3 => bE3 (lpF (fun t => f_X8_findAlms_l8 a1 a2 t.1 t.2.1 t.2.2.1 t.2.2.2) FU (σ, z1, z2, z3)) (fun σ11 z12 z13 z14 => bs (0 : Int32) fun z16 => bE1 (lpF (fun t => f_X8_findAlms_l101 a1 z12 z13 t.1 t.2) FU (σ11, z16)) (fun σ19 z20 => some σ19))
theorem w_f_X8_findAlms_j90 {G : Wld} {X : Cxt} (C : Cx G X RX8 cX8_findAlms 7 3) {σ : Sto} {x1 : Int32} {x2 : Int32} {x3 : Int32} {x5 : Int32} {s0 : Int32} {y : (Sto × Int32 × Int32 × Int32) ⊕ (Sto × Int32 × Int32 × Int32)} (h : f_X8_findAlms_j90 σ x1 x2 x3 x5 s0 = some y) (hc : ∀ t : Sto × Int32 × Int32 × Int32, y = .inl t → V G X 7 t.1 [(0, .ref (G.1 39)), (1, .int x1), (2, .int x2), (3, .int t.2.1), (4, .int t.2.2.1), (5, .int t.2.2.2)] [] 8) {Ve : Sto × Int32 × Int32 × Int32 → Prop} (he : ∀ e, y = .inr e → Ve e) (hx : ∀ (σ : Sto) (x3 : Int32) (x4 : Int32) (x5 : Int32), Ve (σ, x3, x4, x5) → V G X 7 σ [(0, .ref (G.1 39)), (1, .int x1), (2, .int x2), (3, .int x3), (4, .int x4), (5, .int x5)] [] 98) : V G X 7 σ [(0, .ref (G.1 39)), (1, .int x1), (2, .int x2), (3, .int x3), (5, .int x5)] [.int s0] 90 := by
  unfold f_X8_findAlms_j90 at h
  refine b_istore 90 C 4 (lv2 := fun z9 => [(4, .int z9), (0, .ref (G.1 39)), (1, .int x1), (2, .int x2), (3, .int x3), (5, .int x5)]) dX8_findAlms_90 (by decide) (fun _ => rfl) h (fun z9 h => ?_)
  refine b_iinc 92 C 5 5 (1 : Int32) (lv2 := fun z10 => [(5, .int z10), (4, .int z9), (0, .ref (G.1 39)), (1, .int x1), (2, .int x2), (3, .int x3)]) dX8_findAlms_92 rfl (by decide) (by decide) (fun _ => rfl) h (fun z10 h => ?_)
  refine v_goto 95 C 8 dX8_findAlms_95 (by decide) ?_
  exact v_sub [2, 3, 4, 5, 1, 0] rfl (hc _ (Option.some.inj h).symm)
theorem w_f_X8_findAlms_j76 {G : Wld} {X : Cxt} (C : Cx G X RX8 cX8_findAlms 7 3) {σ : Sto} {x1 : Int32} {x2 : Int32} {x3 : Int32} {x4 : Int32} {x5 : Int32} {s0 : Int32} {y : (Sto × Int32 × Int32 × Int32) ⊕ (Sto × Int32 × Int32 × Int32)} (h : f_X8_findAlms_j76 σ x1 x2 x3 x4 x5 s0 = some y) (hc : ∀ t : Sto × Int32 × Int32 × Int32, y = .inl t → V G X 7 t.1 [(0, .ref (G.1 39)), (1, .int x1), (2, .int x2), (3, .int t.2.1), (4, .int t.2.2.1), (5, .int t.2.2.2)] [] 8) {Ve : Sto × Int32 × Int32 × Int32 → Prop} (he : ∀ e, y = .inr e → Ve e) (hx : ∀ (σ : Sto) (x3 : Int32) (x4 : Int32) (x5 : Int32), Ve (σ, x3, x4, x5) → V G X 7 σ [(0, .ref (G.1 39)), (1, .int x1), (2, .int x2), (3, .int x3), (4, .int x4), (5, .int x5)] [] 98) : V G X 7 σ [(0, .ref (G.1 39)), (1, .int x1), (2, .int x2), (3, .int x3), (4, .int x4), (5, .int x5)] [.int s0] 76 := by
  unfold f_X8_findAlms_j76 at h
  refine b_istore 76 C 6 (lv2 := fun z8 => [(6, .int z8), (0, .ref (G.1 39)), (1, .int x1), (2, .int x2), (3, .int x3), (4, .int x4), (5, .int x5)]) dX8_findAlms_76 (by decide) (fun _ => rfl) h (fun z8 h => ?_)
  refine v_iload 78 C 6 0 dX8_findAlms_78 rfl ?_
  refine v_if_eq 80 C 88 dX8_findAlms_80 (by decide) h (fun h => ?_) (fun h => ?_)
  · refine v_iload 88 C 4 5 dX8_findAlms_88 rfl ?_
    exact v_sub [1, 2, 3, 4, 6] rfl (w_f_X8_findAlms_j90 C h hc he hx)
  · refine v_iload 83 C 5 6 dX8_findAlms_83 rfl ?_
    refine v_goto 85 C 90 dX8_findAlms_85 (by decide) ?_
    exact v_sub [1, 2, 3, 4, 6] rfl (w_f_X8_findAlms_j90 C h hc he hx)
theorem w_f_X8_findAlms_j75 {G : Wld} {X : Cxt} (C : Cx G X RX8 cX8_findAlms 7 3) {σ : Sto} {x1 : Int32} {x2 : Int32} {x3 : Int32} {x4 : Int32} {x5 : Int32} {y : (Sto × Int32 × Int32 × Int32) ⊕ (Sto × Int32 × Int32 × Int32)} (h : f_X8_findAlms_j75 σ x1 x2 x3 x4 x5 = some y) (hc : ∀ t : Sto × Int32 × Int32 × Int32, y = .inl t → V G X 7 t.1 [(0, .ref (G.1 39)), (1, .int x1), (2, .int x2), (3, .int t.2.1), (4, .int t.2.2.1), (5, .int t.2.2.2)] [] 8) {Ve : Sto × Int32 × Int32 × Int32 → Prop} (he : ∀ e, y = .inr e → Ve e) (hx : ∀ (σ : Sto) (x3 : Int32) (x4 : Int32) (x5 : Int32), Ve (σ, x3, x4, x5) → V G X 7 σ [(0, .ref (G.1 39)), (1, .int x1), (2, .int x2), (3, .int x3), (4, .int x4), (5, .int x5)] [] 98) : V G X 7 σ [(0, .ref (G.1 39)), (1, .int x1), (2, .int x2), (3, .int x3), (4, .int x4), (5, .int x5)] [] 75 := by
  unfold f_X8_findAlms_j75 at h
  refine v_iconst 75 C (0 : Int32) dX8_findAlms_75 (by decide) ?_
  exact v_sub [0, 1, 2, 3, 4, 5] rfl (w_f_X8_findAlms_j76 C h hc he hx)
theorem w_f_X8_findAlms_j71 {G : Wld} {X : Cxt} (C : Cx G X RX8 cX8_findAlms 7 3) {σ : Sto} {x1 : Int32} {x2 : Int32} {x3 : Int32} {x4 : Int32} {x5 : Int32} {y : (Sto × Int32 × Int32 × Int32) ⊕ (Sto × Int32 × Int32 × Int32)} (h : f_X8_findAlms_j71 σ x1 x2 x3 x4 x5 = some y) (hc : ∀ t : Sto × Int32 × Int32 × Int32, y = .inl t → V G X 7 t.1 [(0, .ref (G.1 39)), (1, .int x1), (2, .int x2), (3, .int t.2.1), (4, .int t.2.2.1), (5, .int t.2.2.2)] [] 8) {Ve : Sto × Int32 × Int32 × Int32 → Prop} (he : ∀ e, y = .inr e → Ve e) (hx : ∀ (σ : Sto) (x3 : Int32) (x4 : Int32) (x5 : Int32), Ve (σ, x3, x4, x5) → V G X 7 σ [(0, .ref (G.1 39)), (1, .int x1), (2, .int x2), (3, .int x3), (4, .int x4), (5, .int x5)] [] 98) : V G X 7 σ [(0, .ref (G.1 39)), (1, .int x1), (2, .int x2), (3, .int x3), (4, .int x4), (5, .int x5)] [] 71 := by
  unfold f_X8_findAlms_j71 at h
  refine v_iconst 71 C (1 : Int32) dX8_findAlms_71 (by decide) ?_
  refine v_goto 72 C 76 dX8_findAlms_72 (by decide) ?_
  exact v_sub [0, 1, 2, 3, 4, 5] rfl (w_f_X8_findAlms_j76 C h hc he hx)
theorem w_f_X8_findAlms_l8 {G : Wld} {X : Cxt} (C : Cx G X RX8 cX8_findAlms 7 3) {x1 : Int32} {x2 : Int32} {σ : Sto} {x3 : Int32} {x4 : Int32} {x5 : Int32} {y : (Sto × Int32 × Int32 × Int32) ⊕ (Sto × Int32 × Int32 × Int32)} (h : f_X8_findAlms_l8 x1 x2 σ x3 x4 x5 = some y) (hc : ∀ t : Sto × Int32 × Int32 × Int32, y = .inl t → V G X 7 t.1 [(0, .ref (G.1 39)), (1, .int x1), (2, .int x2), (3, .int t.2.1), (4, .int t.2.2.1), (5, .int t.2.2.2)] [] 8) {Ve : Sto × Int32 × Int32 × Int32 → Prop} (he : ∀ e, y = .inr e → Ve e) (hx : ∀ (σ : Sto) (x3 : Int32) (x4 : Int32) (x5 : Int32), Ve (σ, x3, x4, x5) → V G X 7 σ [(0, .ref (G.1 39)), (1, .int x1), (2, .int x2), (3, .int x3), (4, .int x4), (5, .int x5)] [] 98) : V G X 7 σ [(0, .ref (G.1 39)), (1, .int x1), (2, .int x2), (3, .int x3), (4, .int x4), (5, .int x5)] [] 8 := by
  unfold f_X8_findAlms_l8 at h
  refine v_iload 8 C 5 5 dX8_findAlms_8 rfl ?_
  refine v_iload_n 10 C 1 1 dX8_findAlms_10 rfl rfl ?_
  refine v_icmp_ge 11 C 98 dX8_findAlms_11 (by decide) h (fun h => ?_) (fun h => ?_)
  · exact v_sub [0, 1, 2, 3, 4, 5] rfl (hx _ _ _ _ (he _ (Option.some.inj h).symm))
  · refine v_aload_n 14 C 0 0 dX8_findAlms_14 rfl rfl ?_
    refine g_X8_39_42 15 C dX8_findAlms_15 ?_
    refine v_iload 18 C 5 5 dX8_findAlms_18 rfl ?_
    refine v_aload_n 20 C 0 0 dX8_findAlms_20 rfl rfl ?_
    refine v_iload 21 C 5 5 dX8_findAlms_21 rfl ?_
    refine v_iload_n 23 C 1 1 dX8_findAlms_23 rfl rfl ?_
    refine v_iload_n 24 C 2 2 dX8_findAlms_24 rfl rfl ?_
    refine r_f_X8_shadowOf 25 C (by decide) q_1078 dX8_findAlms_25 (Nat.le_of_ble_eq_true rfl) h (fun σ4 v5 h => ?_)
    refine b_iast 28 C 60 (by decide) (ce_60 G) dX8_findAlms_28 h (fun σ6 h => ?_)
    refine v_iload_n 29 C 3 3 dX8_findAlms_29 rfl rfl ?_
    refine v_aload_n 30 C 0 0 dX8_findAlms_30 rfl rfl ?_
    refine g_X8_39_42 31 C dX8_findAlms_31 ?_
    refine v_iload 34 C 5 5 dX8_findAlms_34 rfl ?_
    refine v_iald 36 C 60 (by decide) (ce_60 G) dX8_findAlms_36 h (fun h => ?_)
    refine v_iadd 37 C dX8_findAlms_37 ?_
    refine b_istore_n 38 C 3 (lv2 := fun z7 => [(3, .int z7), (0, .ref (G.1 39)), (1, .int x1), (2, .int x2), (4, .int x4), (5, .int x5)]) dX8_findAlms_38 rfl (by decide) (fun _ => rfl) h (fun z7 h => ?_)
    refine v_aload_n 39 C 0 1 dX8_findAlms_39 rfl rfl ?_
    refine g_X8_39_14 40 C dX8_findAlms_40 ?_
    refine v_iload 43 C 5 5 dX8_findAlms_43 rfl ?_
    refine v_iald 45 C 48 (by decide) (ce_48 G) dX8_findAlms_45 h (fun h => ?_)
    refine v_if_lt 46 C 75 dX8_findAlms_46 (by decide) h (fun h => ?_) (fun h => ?_)
    · exact v_sub [1, 2, 3, 0, 4, 5] rfl (w_f_X8_findAlms_j75 C h hc he hx)
    · refine v_iload 49 C 4 4 dX8_findAlms_49 rfl ?_
      refine v_if_lt 51 C 71 dX8_findAlms_51 (by decide) h (fun h => ?_) (fun h => ?_)
      · exact v_sub [1, 2, 3, 0, 4, 5] rfl (w_f_X8_findAlms_j71 C h hc he hx)
      · refine v_aload_n 54 C 0 1 dX8_findAlms_54 rfl rfl ?_
        refine g_X8_39_42 55 C dX8_findAlms_55 ?_
        refine v_iload 58 C 5 5 dX8_findAlms_58 rfl ?_
        refine v_iald 60 C 60 (by decide) (ce_60 G) dX8_findAlms_60 h (fun h => ?_)
        refine v_aload_n 61 C 0 1 dX8_findAlms_61 rfl rfl ?_
        refine g_X8_39_42 62 C dX8_findAlms_62 ?_
        refine v_iload 65 C 4 4 dX8_findAlms_65 rfl ?_
        refine v_iald 67 C 60 (by decide) (ce_60 G) dX8_findAlms_67 h (fun h => ?_)
        refine v_icmp_le 68 C 75 dX8_findAlms_68 (by decide) h (fun h => ?_) (fun h => ?_)
        · exact v_sub [1, 2, 3, 0, 4, 5] rfl (w_f_X8_findAlms_j75 C h hc he hx)
        · exact v_sub [1, 2, 3, 0, 4, 5] rfl (w_f_X8_findAlms_j71 C h hc he hx)
theorem w_f_X8_findAlms_j177 {G : Wld} {X : Cxt} (C : Cx G X RX8 cX8_findAlms 7 3) {σ : Sto} {x1 : Int32} {x3 : Int32} {x4 : Int32} {x5 : Int32} {s0 : Int32} {s1 : Int32} {y : (Sto × Int32) ⊕ (Sto × Int32)} (h : f_X8_findAlms_j177 σ x1 x3 x4 x5 s0 s1 = some y) (hc : ∀ t : Sto × Int32, y = .inl t → V G X 7 t.1 [(0, .ref (G.1 39)), (1, .int x1), (3, .int x3), (4, .int x4), (5, .int t.2)] [] 101) {Ve : Sto × Int32 → Prop} (he : ∀ e, y = .inr e → Ve e) (hx : ∀ (σ : Sto) (x5 : Int32), Ve (σ, x5) → V G X 7 σ [(0, .ref (G.1 39)), (1, .int x1), (3, .int x3), (4, .int x4), (5, .int x5)] [] 184) : V G X 7 σ [(0, .ref (G.1 39)), (1, .int x1), (3, .int x3), (4, .int x4), (5, .int x5)] [.int s0, .int s1, .ref (G.1 61)] 177 := by
  unfold f_X8_findAlms_j177 at h
  refine b_iast 177 C 61 (by decide) (ce_61 G) dX8_findAlms_177 h (fun σ17 h => ?_)
  refine b_iinc 178 C 5 4 (1 : Int32) (lv2 := fun z18 => [(5, .int z18), (0, .ref (G.1 39)), (1, .int x1), (3, .int x3), (4, .int x4)]) dX8_findAlms_178 rfl (by decide) (by decide) (fun _ => rfl) h (fun z18 h => ?_)
  refine v_goto 181 C 101 dX8_findAlms_181 (by decide) ?_
  exact v_sub [1, 2, 3, 4, 0] rfl (hc _ (Option.some.inj h).symm)
theorem w_f_X8_findAlms_l101 {G : Wld} {X : Cxt} (C : Cx G X RX8 cX8_findAlms 7 3) {x1 : Int32} {x3 : Int32} {x4 : Int32} {σ : Sto} {x5 : Int32} {y : (Sto × Int32) ⊕ (Sto × Int32)} (h : f_X8_findAlms_l101 x1 x3 x4 σ x5 = some y) (hc : ∀ t : Sto × Int32, y = .inl t → V G X 7 t.1 [(0, .ref (G.1 39)), (1, .int x1), (3, .int x3), (4, .int x4), (5, .int t.2)] [] 101) {Ve : Sto × Int32 → Prop} (he : ∀ e, y = .inr e → Ve e) (hx : ∀ (σ : Sto) (x5 : Int32), Ve (σ, x5) → V G X 7 σ [(0, .ref (G.1 39)), (1, .int x1), (3, .int x3), (4, .int x4), (5, .int x5)] [] 184) : V G X 7 σ [(0, .ref (G.1 39)), (1, .int x1), (3, .int x3), (4, .int x4), (5, .int x5)] [] 101 := by
  unfold f_X8_findAlms_l101 at h
  refine v_iload 101 C 5 4 dX8_findAlms_101 rfl ?_
  refine v_iload_n 103 C 1 1 dX8_findAlms_103 rfl rfl ?_
  refine v_icmp_ge 104 C 184 dX8_findAlms_104 (by decide) h (fun h => ?_) (fun h => ?_)
  · exact v_sub [0, 1, 2, 3, 4] rfl (hx _ _ (he _ (Option.some.inj h).symm))
  · refine v_aload_n 107 C 0 0 dX8_findAlms_107 rfl rfl ?_
    refine g_X8_39_43 108 C dX8_findAlms_108 ?_
    refine v_iload 111 C 5 4 dX8_findAlms_111 rfl ?_
    refine v_aload_n 113 C 0 0 dX8_findAlms_113 rfl rfl ?_
    refine g_X8_39_18 114 C dX8_findAlms_114 ?_
    refine v_if_ne 117 C 130 dX8_findAlms_117 (by decide) h (fun h => ?_) (fun h => ?_)
    · refine v_aload_n 130 C 0 0 dX8_findAlms_130 rfl rfl ?_
      refine g_X8_39_18 131 C dX8_findAlms_131 ?_
      refine v_iconst 134 C (1 : Int32) dX8_findAlms_134 (by decide) ?_
      refine v_icmp_ne 135 C 153 dX8_findAlms_135 (by decide) h (fun h => ?_) (fun h => ?_)
      · refine v_aload_n 153 C 0 0 dX8_findAlms_153 rfl rfl ?_
        refine g_X8_39_42 154 C dX8_findAlms_154 ?_
        refine v_iload 157 C 5 4 dX8_findAlms_157 rfl ?_
        refine v_iald 159 C 60 (by decide) (ce_60 G) dX8_findAlms_159 h (fun h => ?_)
        refine v_bipush 160 C (50 : Int32) dX8_findAlms_160 (by decide) ?_
        refine v_icmp_le 162 C 170 dX8_findAlms_162 (by decide) h (fun h => ?_) (fun h => ?_)
        · refine v_aload_n 170 C 0 0 dX8_findAlms_170 rfl rfl ?_
          refine g_X8_39_42 171 C dX8_findAlms_171 ?_
          refine v_iload 174 C 5 4 dX8_findAlms_174 rfl ?_
          refine v_iald 176 C 60 (by decide) (ce_60 G) dX8_findAlms_176 h (fun h => ?_)
          exact v_sub [0, 1, 2, 3, 4] rfl (w_f_X8_findAlms_j177 C h hc he hx)
        · refine v_bipush 165 C (50 : Int32) dX8_findAlms_165 (by decide) ?_
          refine v_goto 167 C 177 dX8_findAlms_167 (by decide) ?_
          exact v_sub [0, 1, 2, 3, 4] rfl (w_f_X8_findAlms_j177 C h hc he hx)
      · refine v_iload 138 C 5 4 dX8_findAlms_138 rfl ?_
        refine v_iload 140 C 4 3 dX8_findAlms_140 rfl ?_
        refine v_icmp_ne 142 C 149 dX8_findAlms_142 (by decide) h (fun h => ?_) (fun h => ?_)
        · refine v_iconst 149 C (0 : Int32) dX8_findAlms_149 (by decide) ?_
          refine v_goto 150 C 177 dX8_findAlms_150 (by decide) ?_
          exact v_sub [0, 1, 2, 3, 4] rfl (w_f_X8_findAlms_j177 C h hc he hx)
        · refine v_iload_n 145 C 3 2 dX8_findAlms_145 rfl rfl ?_
          refine v_goto 146 C 177 dX8_findAlms_146 (by decide) ?_
          exact v_sub [0, 1, 2, 3, 4] rfl (w_f_X8_findAlms_j177 C h hc he hx)
    · refine v_aload_n 120 C 0 0 dX8_findAlms_120 rfl rfl ?_
      refine g_X8_39_42 121 C dX8_findAlms_121 ?_
      refine v_iload 124 C 5 4 dX8_findAlms_124 rfl ?_
      refine v_iald 126 C 60 (by decide) (ce_60 G) dX8_findAlms_126 h (fun h => ?_)
      refine v_goto 127 C 177 dX8_findAlms_127 (by decide) ?_
      exact v_sub [0, 1, 2, 3, 4] rfl (w_f_X8_findAlms_j177 C h hc he hx)
theorem w_f_X8_findAlms {G : Wld} {X : Cxt} (C : Cx G X RX8 cX8_findAlms 7 3) {σ : Sto} {a1 : Int32} {a2 : Int32} {y : Sto} (h : f_X8_findAlms σ a1 a2 = some y) (hK : Rx G X none none y) : V G X 7 σ [(0, .ref (G.1 39)), (1, .int a1), (2, .int a2)] [] 0 := by
  unfold f_X8_findAlms at h
  refine v_iconst 0 C (0 : Int32) dX8_findAlms_0 (by decide) ?_
  refine b_istore_n 1 C 3 (lv2 := fun z1 => [(3, .int z1), (0, .ref (G.1 39)), (1, .int a1), (2, .int a2)]) dX8_findAlms_1 rfl (by decide) (fun _ => rfl) h (fun z1 h => ?_)
  refine v_iconst 2 C (-1 : Int32) dX8_findAlms_2 (by decide) ?_
  refine b_istore 3 C 4 (lv2 := fun z2 => [(4, .int z2), (3, .int z1), (0, .ref (G.1 39)), (1, .int a1), (2, .int a2)]) dX8_findAlms_3 (by decide) (fun _ => rfl) h (fun z2 h => ?_)
  refine v_iconst 5 C (0 : Int32) dX8_findAlms_5 (by decide) ?_
  refine b_istore 6 C 5 (lv2 := fun z3 => [(5, .int z3), (4, .int z2), (3, .int z1), (0, .ref (G.1 39)), (1, .int a1), (2, .int a2)]) dX8_findAlms_6 (by decide) (fun _ => rfl) h (fun z3 h => ?_)
  refine v_sub [3, 4, 5, 2, 1, 0] rfl ?_
  refine lp_go (Vh := fun t => V G X 7 t.1 [(0, .ref (G.1 39)), (1, .int a1), (2, .int a2), (3, .int t.2.1), (4, .int t.2.2.1), (5, .int t.2.2.2)] [] 8) h ?_
  intro t15 y15 hy15 hc15 he15
  refine w_f_X8_findAlms_l8 C hy15 hc15 he15 (fun σ11 z12 z13 z14 h => ?_)
  dsimp only at h
  refine v_iconst 98 C (0 : Int32) dX8_findAlms_98 (by decide) ?_
  refine b_istore 99 C 5 (lv2 := fun z16 => [(5, .int z16), (0, .ref (G.1 39)), (1, .int a1), (2, .int a2), (3, .int z12), (4, .int z13)]) dX8_findAlms_99 (by decide) (fun _ => rfl) h (fun z16 h => ?_)
  refine v_sub [1, 2, 4, 5, 0] rfl ?_
  refine lp_go (Vh := fun t => V G X 7 t.1 [(0, .ref (G.1 39)), (1, .int a1), (3, .int z12), (4, .int z13), (5, .int t.2)] [] 101) h ?_
  intro t21 y21 hy21 hc21 he21
  refine w_f_X8_findAlms_l101 C hy21 hc21 he21 (fun σ19 z20 h => ?_)
  dsimp only at h
  cases h
  exact v_vret 184 C hK dX8_findAlms_184
theorem c_f_X8_findAlms (l : Launch) (G : Wld) (hG : GI G) (σ : Sto) (a1 : Int32) (a2 : Int32) (y : Sto) (h : f_X8_findAlms σ a1 a2 = some y) : Ct l G yX8_findAlms cX8_findAlms 7 none 3 [.ref (G.1 39), .int a1, .int a2] σ none y := by
  refine ct_intro RX8 hG (by decide) rfl (Nat.le_of_ble_eq_true rfl) (fun X hX C hK => ?_)
  subst hX
  exact w_f_X8_findAlms C h hK
theorem r_f_X8_findAlms {G : Wld} {X : Cxt} {own : String} {cc : ByteArray} {nL n : Nat} {σ : Sto} {lv : List (Nat × Value)} {st : List Value} {β : Type} {r : β} {F : Sto → Option β} {a1 : Int32} {a2 : Int32} {ix : Nat} (pc : Nat) (C : Cx G X own cc nL n) (hn : 3 < n) (h1 : Cond.methodLink own ix yX8_findAlms ∈ lw_gd) (hd : decode cc pc = .ok (.invokevirtual ix, 3)) (hsum : (st.map fun v => v.category).sum ≤ 8) (h : bd1 (f_X8_findAlms σ a1 a2) F = some r) (kk : ∀ σ1, F σ1 = some r → V G X nL σ1 lv (st) (pc + 3)) : V G X nL σ lv (.int a2 :: .int a1 :: .ref (G.1 39) :: st) pc := by
  obtain ⟨z, hz, h⟩ := bd1_some h
  exact v_callV pc C 39 2 [.int a1, .int a2] st (c_f_X8_findAlms (xl X) G C.2.2.2.2.2.2.1 _ _ _ _ hz) hn (by decide) (by decide) (ce_39 G _ _) rfl (by decide +kernel) rfl h1 q_1076 q_42 q_68 q_1077 rfl hsum hd (kk _ h)
-- f_X8_costOf
def f_X8_costOf_j24 (σ : Sto) (s0 : Int32) : Option (Sto × Int32) :=
  some (σ, s0)
def f_X8_costOf (σ : Sto) (a1 : Int32) : Option (Sto × Int32) :=
  gd (inB a1 7) (if 0 ≤ (σ.1 49 (a1).toNatClampNeg) then (gd (inB a1 7) (gd (inB (σ.1 49 (a1).toNatClampNeg) 4) (f_X8_costOf_j24 σ (σ.1 47 ((σ.1 49 (a1).toNatClampNeg)).toNatClampNeg)))) else (f_X8_costOf_j24 σ (0 : Int32)))
theorem w_f_X8_costOf_j24 {G : Wld} {X : Cxt} (C : Cx G X RX8 cX8_costOf 2 1) {σ : Sto} {s0 : Int32} {y : Sto × Int32} (h : f_X8_costOf_j24 σ s0 = some y) (hK : Rx G X (some .int) (some (.int y.2)) y.1) : V G X 2 σ [(0, .ref (G.1 39))] [.int s0] 24 := by
  unfold f_X8_costOf_j24 at h
  cases h
  exact v_iret 24 C hK dX8_costOf_24
theorem w_f_X8_costOf {G : Wld} {X : Cxt} (C : Cx G X RX8 cX8_costOf 2 1) {σ : Sto} {a1 : Int32} {y : Sto × Int32} (h : f_X8_costOf σ a1 = some y) (hK : Rx G X (some .int) (some (.int y.2)) y.1) : V G X 2 σ [(0, .ref (G.1 39)), (1, .int a1)] [] 0 := by
  unfold f_X8_costOf at h
  refine v_aload_n 0 C 0 0 dX8_costOf_0 rfl rfl ?_
  refine g_X8_39_15 1 C dX8_costOf_1 ?_
  refine v_iload_n 4 C 1 1 dX8_costOf_4 rfl rfl ?_
  refine v_iald 5 C 49 (by decide) (ce_49 G) dX8_costOf_5 h (fun h => ?_)
  refine v_if_ge 6 C 13 dX8_costOf_6 (by decide) h (fun h => ?_) (fun h => ?_)
  · refine v_aload_n 13 C 0 0 dX8_costOf_13 rfl rfl ?_
    refine g_X8_39_12 14 C dX8_costOf_14 ?_
    refine v_aload_n 17 C 0 0 dX8_costOf_17 rfl rfl ?_
    refine g_X8_39_15 18 C dX8_costOf_18 ?_
    refine v_iload_n 21 C 1 1 dX8_costOf_21 rfl rfl ?_
    refine v_iald 22 C 49 (by decide) (ce_49 G) dX8_costOf_22 h (fun h => ?_)
    refine v_iald 23 C 47 (by decide) (ce_47 G) dX8_costOf_23 h (fun h => ?_)
    exact v_sub [0] rfl (w_f_X8_costOf_j24 C h hK)
  · refine v_iconst 9 C (0 : Int32) dX8_costOf_9 (by decide) ?_
    refine v_goto 10 C 24 dX8_costOf_10 (by decide) ?_
    exact v_sub [0] rfl (w_f_X8_costOf_j24 C h hK)
theorem c_f_X8_costOf (l : Launch) (G : Wld) (hG : GI G) (σ : Sto) (a1 : Int32) (y : Sto × Int32) (h : f_X8_costOf σ a1 = some y) : Ct l G yX8_costOf cX8_costOf 2 (some .int) 1 [.ref (G.1 39), .int a1] σ (some (.int y.2)) y.1 := by
  refine ct_intro RX8 hG (by decide) rfl (Nat.le_of_ble_eq_true rfl) (fun X hX C hK => ?_)
  subst hX
  exact w_f_X8_costOf C h hK
theorem r_f_X8_costOf {G : Wld} {X : Cxt} {own : String} {cc : ByteArray} {nL n : Nat} {σ : Sto} {lv : List (Nat × Value)} {st : List Value} {β : Type} {r : β} {F : Sto → Int32 → Option β} {a1 : Int32} {ix : Nat} (pc : Nat) (C : Cx G X own cc nL n) (hn : 1 < n) (h1 : Cond.methodLink own ix yX8_costOf ∈ lw_gd) (hd : decode cc pc = .ok (.invokevirtual ix, 3)) (hsum : (st.map fun v => v.category).sum ≤ 8) (h : bd2 (f_X8_costOf σ a1) F = some r) (kk : ∀ σ1 v, F σ1 v = some r → V G X nL σ1 lv (.int v :: st) (pc + 3)) : V G X nL σ lv (.int a1 :: .ref (G.1 39) :: st) pc := by
  obtain ⟨z, hz, h⟩ := bd2_some h
  exact v_callV pc C 39 1 [.int a1] st (c_f_X8_costOf (xl X) G C.2.2.2.2.2.2.1 _ _ _ hz) hn (by decide) (by decide) (ce_39 G _ _) rfl (by decide +kernel) rfl h1 q_1092 q_46 q_68 q_1093 rfl hsum hd (kk _ _ h)
-- f_X8_almsOf
def f_X8_almsOf (σ : Sto) (a1 : Int32) : Option (Sto × Int32) :=
  gd (inB a1 7) (bd2 (f_X8_costOf σ a1) fun σ1 v2 => some (σ1, ((σ.1 61 (a1).toNatClampNeg) - v2)))
theorem w_f_X8_almsOf {G : Wld} {X : Cxt} (C : Cx G X RX8 cX8_almsOf 2 2) {σ : Sto} {a1 : Int32} {y : Sto × Int32} (h : f_X8_almsOf σ a1 = some y) (hK : Rx G X (some .int) (some (.int y.2)) y.1) : V G X 2 σ [(0, .ref (G.1 39)), (1, .int a1)] [] 0 := by
  unfold f_X8_almsOf at h
  refine v_aload_n 0 C 0 0 dX8_almsOf_0 rfl rfl ?_
  refine g_X8_39_43 1 C dX8_almsOf_1 ?_
  refine v_iload_n 4 C 1 1 dX8_almsOf_4 rfl rfl ?_
  refine v_iald 5 C 61 (by decide) (ce_61 G) dX8_almsOf_5 h (fun h => ?_)
  refine v_aload_n 6 C 0 0 dX8_almsOf_6 rfl rfl ?_
  refine v_iload_n 7 C 1 1 dX8_almsOf_7 rfl rfl ?_
  refine r_f_X8_costOf 8 C (by decide) q_1090 dX8_almsOf_8 (Nat.le_of_ble_eq_true rfl) h (fun σ1 v2 h => ?_)
  refine v_isub 11 C dX8_almsOf_11 ?_
  cases h
  exact v_iret 12 C hK dX8_almsOf_12
theorem c_f_X8_almsOf (l : Launch) (G : Wld) (hG : GI G) (σ : Sto) (a1 : Int32) (y : Sto × Int32) (h : f_X8_almsOf σ a1 = some y) : Ct l G yX8_almsOf cX8_almsOf 2 (some .int) 2 [.ref (G.1 39), .int a1] σ (some (.int y.2)) y.1 := by
  refine ct_intro RX8 hG (by decide) rfl (Nat.le_of_ble_eq_true rfl) (fun X hX C hK => ?_)
  subst hX
  exact w_f_X8_almsOf C h hK
theorem r_f_X8_almsOf {G : Wld} {X : Cxt} {own : String} {cc : ByteArray} {nL n : Nat} {σ : Sto} {lv : List (Nat × Value)} {st : List Value} {β : Type} {r : β} {F : Sto → Int32 → Option β} {a1 : Int32} {ix : Nat} (pc : Nat) (C : Cx G X own cc nL n) (hn : 2 < n) (h1 : Cond.methodLink own ix yX8_almsOf ∈ lw_gd) (hd : decode cc pc = .ok (.invokevirtual ix, 3)) (hsum : (st.map fun v => v.category).sum ≤ 8) (h : bd2 (f_X8_almsOf σ a1) F = some r) (kk : ∀ σ1 v, F σ1 v = some r → V G X nL σ1 lv (.int v :: st) (pc + 3)) : V G X nL σ lv (.int a1 :: .ref (G.1 39) :: st) pc := by
  obtain ⟨z, hz, h⟩ := bd2_some h
  exact v_callV pc C 39 1 [.int a1] st (c_f_X8_almsOf (xl X) G C.2.2.2.2.2.2.1 _ _ _ hz) hn (by decide) (by decide) (ce_39 G _ _) rfl (by decide +kernel) rfl h1 q_1088 q_45 q_68 q_1089 rfl hsum hd (kk _ _ h)
-- f_X8_shadow
def f_X8_shadow_j16 (σ : Sto) : Option (Sto × Int32) :=
  some (σ, (-1000000001 : Int32))
def f_X8_shadow_j63 (σ : Sto) (s0 : Int32) : Option (Sto × Int32) :=
  some (σ, s0)
def f_X8_shadow (σ : Sto) (a1 : Int32) (a2 : Int32) (a3 : Int32) : Option (Sto × Int32) :=
  bd2 (f_X8_isBell σ a1) fun σ1 v2 => if v2 = 0 then (f_X8_shadow_j16 σ1) else (bd2 (f_X8_isBeggar σ1 a2) fun σ3 v4 => if v4 = 0 then (f_X8_shadow_j16 σ3) else (bd2 (f_X8_in σ3 (a3).toInt64 (0 : Int64) (1 : Int64)) fun σ5 v6 => if v6 = 0 then (some (σ5, (-1000000002 : Int32))) else (bd2 (f_X8_longNow σ5 a1) fun σ7 v8 => bd1 (f_X8_findAlms σ7 (σ5.1 39 8) v8) fun σ9 => if a3 = 0 then (gd (inB a2 7) (f_X8_shadow_j63 σ9 (σ9.1 60 (a2).toNatClampNeg))) else (bd2 (f_X8_almsOf σ9 a2) fun σ11 v12 => f_X8_shadow_j63 σ11 v12))))
theorem w_f_X8_shadow_j16 {G : Wld} {X : Cxt} (C : Cx G X RX8 cX8_shadow 4 4) {σ : Sto} {y : Sto × Int32} (h : f_X8_shadow_j16 σ = some y) (hK : Rx G X (some .int) (some (.int y.2)) y.1) : V G X 4 σ [(0, .ref (G.1 39))] [] 16 := by
  unfold f_X8_shadow_j16 at h
  refine v_ldc 16 C dX8_shadow_16 q_1024 ?_
  cases h
  exact v_iret 18 C hK dX8_shadow_18
theorem w_f_X8_shadow_j63 {G : Wld} {X : Cxt} (C : Cx G X RX8 cX8_shadow 4 4) {σ : Sto} {s0 : Int32} {y : Sto × Int32} (h : f_X8_shadow_j63 σ s0 = some y) (hK : Rx G X (some .int) (some (.int y.2)) y.1) : V G X 4 σ [(0, .ref (G.1 39))] [.int s0] 63 := by
  unfold f_X8_shadow_j63 at h
  cases h
  exact v_iret 63 C hK dX8_shadow_63
theorem w_f_X8_shadow {G : Wld} {X : Cxt} (C : Cx G X RX8 cX8_shadow 4 4) {σ : Sto} {a1 : Int32} {a2 : Int32} {a3 : Int32} {y : Sto × Int32} (h : f_X8_shadow σ a1 a2 a3 = some y) (hK : Rx G X (some .int) (some (.int y.2)) y.1) : V G X 4 σ [(0, .ref (G.1 39)), (1, .int a1), (2, .int a2), (3, .int a3)] [] 0 := by
  unfold f_X8_shadow at h
  refine v_aload_n 0 C 0 0 dX8_shadow_0 rfl rfl ?_
  refine v_iload_n 1 C 1 1 dX8_shadow_1 rfl rfl ?_
  refine r_f_X8_isBell 2 C (by decide) q_1020 dX8_shadow_2 (Nat.le_of_ble_eq_true rfl) h (fun σ1 v2 h => ?_)
  refine v_if_eq 5 C 16 dX8_shadow_5 (by decide) h (fun h => ?_) (fun h => ?_)
  · exact v_sub [0] rfl (w_f_X8_shadow_j16 C h hK)
  · refine v_aload_n 8 C 0 0 dX8_shadow_8 rfl rfl ?_
    refine v_iload_n 9 C 2 2 dX8_shadow_9 rfl rfl ?_
    refine r_f_X8_isBeggar 10 C (by decide) q_1046 dX8_shadow_10 (Nat.le_of_ble_eq_true rfl) h (fun σ3 v4 h => ?_)
    refine v_if_ne 13 C 19 dX8_shadow_13 (by decide) h (fun h => ?_) (fun h => ?_)
    · refine v_iload_n 19 C 3 3 dX8_shadow_19 rfl rfl ?_
      refine v_i2l 20 C dX8_shadow_20 ?_
      refine v_lconst 21 C (0 : Int64) dX8_shadow_21 (by decide) ?_
      refine v_lconst 22 C (1 : Int64) dX8_shadow_22 (by decide) ?_
      refine r_f_X8_in 23 C (by decide) q_940 dX8_shadow_23 (Nat.le_of_ble_eq_true rfl) h (fun σ5 v6 h => ?_)
      refine v_if_ne 26 C 32 dX8_shadow_26 (by decide) h (fun h => ?_) (fun h => ?_)
      · refine v_aload_n 32 C 0 0 dX8_shadow_32 rfl rfl ?_
        refine v_aload_n 33 C 0 0 dX8_shadow_33 rfl rfl ?_
        refine g_X8_39_8 34 C dX8_shadow_34 ?_
        refine v_aload_n 37 C 0 0 dX8_shadow_37 rfl rfl ?_
        refine v_iload_n 38 C 1 1 dX8_shadow_38 rfl rfl ?_
        refine r_f_X8_longNow 39 C (by decide) q_1070 dX8_shadow_39 (Nat.le_of_ble_eq_true rfl) h (fun σ7 v8 h => ?_)
        refine r_f_X8_findAlms 42 C (by decide) q_1074 dX8_shadow_42 (Nat.le_of_ble_eq_true rfl) h (fun σ9 h => ?_)
        refine v_iload_n 45 C 3 3 dX8_shadow_45 rfl rfl ?_
        refine v_if_ne 46 C 58 dX8_shadow_46 (by decide) h (fun h => ?_) (fun h => ?_)
        · refine v_aload_n 58 C 0 0 dX8_shadow_58 rfl rfl ?_
          refine v_iload_n 59 C 2 2 dX8_shadow_59 rfl rfl ?_
          refine r_f_X8_almsOf 60 C (by decide) q_1086 dX8_shadow_60 (Nat.le_of_ble_eq_true rfl) h (fun σ11 v12 h => ?_)
          exact v_sub [0] rfl (w_f_X8_shadow_j63 C h hK)
        · refine v_aload_n 49 C 0 0 dX8_shadow_49 rfl rfl ?_
          refine g_X8_39_42 50 C dX8_shadow_50 ?_
          refine v_iload_n 53 C 2 2 dX8_shadow_53 rfl rfl ?_
          refine v_iald 54 C 60 (by decide) (ce_60 G) dX8_shadow_54 h (fun h => ?_)
          refine v_goto 55 C 63 dX8_shadow_55 (by decide) ?_
          exact v_sub [0] rfl (w_f_X8_shadow_j63 C h hK)
      · refine v_ldc 29 C dX8_shadow_29 q_943 ?_
        cases h
        exact v_iret 31 C hK dX8_shadow_31
    · exact v_sub [0] rfl (w_f_X8_shadow_j16 C h hK)
theorem c_f_X8_shadow (l : Launch) (G : Wld) (hG : GI G) (σ : Sto) (a1 : Int32) (a2 : Int32) (a3 : Int32) (y : Sto × Int32) (h : f_X8_shadow σ a1 a2 a3 = some y) : Ct l G yX8_shadow cX8_shadow 4 (some .int) 4 [.ref (G.1 39), .int a1, .int a2, .int a3] σ (some (.int y.2)) y.1 := by
  refine ct_intro RX8 hG (by decide) rfl (Nat.le_of_ble_eq_true rfl) (fun X hX C hK => ?_)
  subst hX
  exact w_f_X8_shadow C h hK
theorem r_f_X8_shadow {G : Wld} {X : Cxt} {own : String} {cc : ByteArray} {nL n : Nat} {σ : Sto} {lv : List (Nat × Value)} {st : List Value} {β : Type} {r : β} {F : Sto → Int32 → Option β} {a1 : Int32} {a2 : Int32} {a3 : Int32} {ix : Nat} (pc : Nat) (C : Cx G X own cc nL n) (hn : 4 < n) (h1 : Cond.methodLink own ix yX8_shadow ∈ lw_gd) (hd : decode cc pc = .ok (.invokevirtual ix, 3)) (hsum : (st.map fun v => v.category).sum ≤ 8) (h : bd2 (f_X8_shadow σ a1 a2 a3) F = some r) (kk : ∀ σ1 v, F σ1 v = some r → V G X nL σ1 lv (.int v :: st) (pc + 3)) : V G X nL σ lv (.int a3 :: .int a2 :: .int a1 :: .ref (G.1 39) :: st) pc := by
  obtain ⟨z, hz, h⟩ := bd2_some h
  exact v_callV pc C 39 3 [.int a1, .int a2, .int a3] st (c_f_X8_shadow (xl X) G C.2.2.2.2.2.2.1 _ _ _ _ _ hz) hn (by decide) (by decide) (ce_39 G _ _) rfl (by decide +kernel) rfl h1 q_1067 q_1068 q_68 q_1069 rfl hsum hd (kk _ _ h)
-- f_X8_go
def f_X8_go_j21 (σ : Sto) : Option (Sto × Int32) :=
  some (σ, (-1000000001 : Int32))
def f_X8_go_j56 (σ : Sto) (x1 : Int32) (x2 : Int32) : Option (Sto × Int32) :=
  gd (inB x1 7) (bs (σ.1 48 (x1).toNatClampNeg) fun z6 => gd (inB x1 7) (bs (su σ 48 (x1).toNatClampNeg x2) fun σ7 => some (σ7, z6)))
def f_X8_go_j42 (σ : Sto) (x1 : Int32) (x2 : Int32) (s0 : Int32) : Option (Sto × Int32) :=
  bs s0 fun z5 => if z5 < 0 then (f_X8_go_j56 σ x1 x2) else (if z5 = x1 then (f_X8_go_j56 σ x1 x2) else (some (σ, (-1000000003 : Int32))))
def f_X8_go_j24 (σ : Sto) (x1 : Int32) (x2 : Int32) : Option (Sto × Int32) :=
  if x2 = (-1 : Int32) then (f_X8_go_j42 σ x1 x2 (-1 : Int32)) else (bd2 (f_X8_whoIsOn σ x2 (σ.1 39 8)) fun σ3 v4 => f_X8_go_j42 σ3 x1 x2 v4)
def f_X8_go (σ : Sto) (a1 : Int32) (a2 : Int32) : Option (Sto × Int32) :=
  bd2 (f_X8_isBeggar σ a1) fun σ1 v2 => if v2 = 0 then (f_X8_go_j21 σ1) else (if a2 = (-1 : Int32) then (f_X8_go_j24 σ1 a1 a2) else (bd2 (f_X8_isSpot σ1 a2) fun σ8 v9 => if v9 = 0 then (f_X8_go_j21 σ8) else (f_X8_go_j24 σ8 a1 a2)))
theorem w_f_X8_go_j21 {G : Wld} {X : Cxt} (C : Cx G X RX8 cX8_go 5 3) {σ : Sto} {y : Sto × Int32} (h : f_X8_go_j21 σ = some y) (hK : Rx G X (some .int) (some (.int y.2)) y.1) : V G X 5 σ [(0, .ref (G.1 39))] [] 21 := by
  unfold f_X8_go_j21 at h
  refine v_ldc 21 C dX8_go_21 q_1024 ?_
  cases h
  exact v_iret 23 C hK dX8_go_23
theorem w_f_X8_go_j56 {G : Wld} {X : Cxt} (C : Cx G X RX8 cX8_go 5 3) {σ : Sto} {x1 : Int32} {x2 : Int32} {y : Sto × Int32} (h : f_X8_go_j56 σ x1 x2 = some y) (hK : Rx G X (some .int) (some (.int y.2)) y.1) : V G X 5 σ [(0, .ref (G.1 39)), (1, .int x1), (2, .int x2)] [] 56 := by
  unfold f_X8_go_j56 at h
  refine v_aload_n 56 C 0 0 dX8_go_56 rfl rfl ?_
  refine g_X8_39_14 57 C dX8_go_57 ?_
  refine v_iload_n 60 C 1 1 dX8_go_60 rfl rfl ?_
  refine v_iald 61 C 48 (by decide) (ce_48 G) dX8_go_61 h (fun h => ?_)
  refine b_istore 62 C 4 (lv2 := fun z6 => [(4, .int z6), (0, .ref (G.1 39)), (1, .int x1), (2, .int x2)]) dX8_go_62 (by decide) (fun _ => rfl) h (fun z6 h => ?_)
  refine v_aload_n 64 C 0 1 dX8_go_64 rfl rfl ?_
  refine g_X8_39_14 65 C dX8_go_65 ?_
  refine v_iload_n 68 C 1 2 dX8_go_68 rfl rfl ?_
  refine v_iload_n 69 C 2 3 dX8_go_69 rfl rfl ?_
  refine b_iast 70 C 48 (by decide) (ce_48 G) dX8_go_70 h (fun σ7 h => ?_)
  refine v_iload 71 C 4 0 dX8_go_71 rfl ?_
  cases h
  exact v_iret 73 C hK dX8_go_73
theorem w_f_X8_go_j42 {G : Wld} {X : Cxt} (C : Cx G X RX8 cX8_go 5 3) {σ : Sto} {x1 : Int32} {x2 : Int32} {s0 : Int32} {y : Sto × Int32} (h : f_X8_go_j42 σ x1 x2 s0 = some y) (hK : Rx G X (some .int) (some (.int y.2)) y.1) : V G X 5 σ [(0, .ref (G.1 39)), (1, .int x1), (2, .int x2)] [.int s0] 42 := by
  unfold f_X8_go_j42 at h
  refine b_istore_n 42 C 3 (lv2 := fun z5 => [(3, .int z5), (0, .ref (G.1 39)), (1, .int x1), (2, .int x2)]) dX8_go_42 rfl (by decide) (fun _ => rfl) h (fun z5 h => ?_)
  refine v_iload_n 43 C 3 0 dX8_go_43 rfl rfl ?_
  refine v_if_lt 44 C 56 dX8_go_44 (by decide) h (fun h => ?_) (fun h => ?_)
  · exact v_sub [1, 2, 3] rfl (w_f_X8_go_j56 C h hK)
  · refine v_iload_n 47 C 3 0 dX8_go_47 rfl rfl ?_
    refine v_iload_n 48 C 1 2 dX8_go_48 rfl rfl ?_
    refine v_icmp_eq 49 C 56 dX8_go_49 (by decide) h (fun h => ?_) (fun h => ?_)
    · exact v_sub [1, 2, 3] rfl (w_f_X8_go_j56 C h hK)
    · refine v_ldc_w 52 C dX8_go_52 q_1098 ?_
      cases h
      exact v_iret 55 C hK dX8_go_55
theorem w_f_X8_go_j24 {G : Wld} {X : Cxt} (C : Cx G X RX8 cX8_go 5 3) {σ : Sto} {x1 : Int32} {x2 : Int32} {y : Sto × Int32} (h : f_X8_go_j24 σ x1 x2 = some y) (hK : Rx G X (some .int) (some (.int y.2)) y.1) : V G X 5 σ [(0, .ref (G.1 39)), (1, .int x1), (2, .int x2)] [] 24 := by
  unfold f_X8_go_j24 at h
  refine v_iload_n 24 C 2 2 dX8_go_24 rfl rfl ?_
  refine v_iconst 25 C (-1 : Int32) dX8_go_25 (by decide) ?_
  refine v_icmp_ne 26 C 33 dX8_go_26 (by decide) h (fun h => ?_) (fun h => ?_)
  · refine v_aload_n 33 C 0 0 dX8_go_33 rfl rfl ?_
    refine v_iload_n 34 C 2 2 dX8_go_34 rfl rfl ?_
    refine v_aload_n 35 C 0 0 dX8_go_35 rfl rfl ?_
    refine g_X8_39_8 36 C dX8_go_36 ?_
    refine r_f_X8_whoIsOn 39 C (by decide) q_1038 dX8_go_39 (Nat.le_of_ble_eq_true rfl) h (fun σ3 v4 h => ?_)
    exact v_sub [0, 1, 2] rfl (w_f_X8_go_j42 C h hK)
  · refine v_iconst 29 C (-1 : Int32) dX8_go_29 (by decide) ?_
    refine v_goto 30 C 42 dX8_go_30 (by decide) ?_
    exact v_sub [0, 1, 2] rfl (w_f_X8_go_j42 C h hK)
theorem w_f_X8_go {G : Wld} {X : Cxt} (C : Cx G X RX8 cX8_go 5 3) {σ : Sto} {a1 : Int32} {a2 : Int32} {y : Sto × Int32} (h : f_X8_go σ a1 a2 = some y) (hK : Rx G X (some .int) (some (.int y.2)) y.1) : V G X 5 σ [(0, .ref (G.1 39)), (1, .int a1), (2, .int a2)] [] 0 := by
  unfold f_X8_go at h
  refine v_aload_n 0 C 0 0 dX8_go_0 rfl rfl ?_
  refine v_iload_n 1 C 1 1 dX8_go_1 rfl rfl ?_
  refine r_f_X8_isBeggar 2 C (by decide) q_1046 dX8_go_2 (Nat.le_of_ble_eq_true rfl) h (fun σ1 v2 h => ?_)
  refine v_if_eq 5 C 21 dX8_go_5 (by decide) h (fun h => ?_) (fun h => ?_)
  · exact v_sub [0] rfl (w_f_X8_go_j21 C h hK)
  · refine v_iload_n 8 C 2 2 dX8_go_8 rfl rfl ?_
    refine v_iconst 9 C (-1 : Int32) dX8_go_9 (by decide) ?_
    refine v_icmp_eq 10 C 24 dX8_go_10 (by decide) h (fun h => ?_) (fun h => ?_)
    · exact v_sub [0, 1, 2] rfl (w_f_X8_go_j24 C h hK)
    · refine v_aload_n 13 C 0 0 dX8_go_13 rfl rfl ?_
      refine v_iload_n 14 C 2 2 dX8_go_14 rfl rfl ?_
      refine r_f_X8_isSpot 15 C (by decide) q_1034 dX8_go_15 (Nat.le_of_ble_eq_true rfl) h (fun σ8 v9 h => ?_)
      refine v_if_ne 18 C 24 dX8_go_18 (by decide) h (fun h => ?_) (fun h => ?_)
      · exact v_sub [0, 1, 2] rfl (w_f_X8_go_j24 C h hK)
      · exact v_sub [0] rfl (w_f_X8_go_j21 C h hK)
theorem c_f_X8_go (l : Launch) (G : Wld) (hG : GI G) (σ : Sto) (a1 : Int32) (a2 : Int32) (y : Sto × Int32) (h : f_X8_go σ a1 a2 = some y) : Ct l G yX8_go cX8_go 5 (some .int) 3 [.ref (G.1 39), .int a1, .int a2] σ (some (.int y.2)) y.1 := by
  refine ct_intro RX8 hG (by decide) rfl (Nat.le_of_ble_eq_true rfl) (fun X hX C hK => ?_)
  subst hX
  exact w_f_X8_go C h hK
theorem r_f_X8_go {G : Wld} {X : Cxt} {own : String} {cc : ByteArray} {nL n : Nat} {σ : Sto} {lv : List (Nat × Value)} {st : List Value} {β : Type} {r : β} {F : Sto → Int32 → Option β} {a1 : Int32} {a2 : Int32} {ix : Nat} (pc : Nat) (C : Cx G X own cc nL n) (hn : 3 < n) (h1 : Cond.methodLink own ix yX8_go ∈ lw_gd) (hd : decode cc pc = .ok (.invokevirtual ix, 3)) (hsum : (st.map fun v => v.category).sum ≤ 8) (h : bd2 (f_X8_go σ a1 a2) F = some r) (kk : ∀ σ1 v, F σ1 v = some r → V G X nL σ1 lv (.int v :: st) (pc + 3)) : V G X nL σ lv (.int a2 :: .int a1 :: .ref (G.1 39) :: st) pc := by
  obtain ⟨z, hz, h⟩ := bd2_some h
  exact v_callV pc C 39 2 [.int a1, .int a2] st (c_f_X8_go (xl X) G C.2.2.2.2.2.2.1 _ _ _ _ hz) hn (by decide) (by decide) (ce_39 G _ _) rfl (by decide +kernel) rfl h1 q_1095 q_1096 q_68 q_1097 rfl hsum hd (kk _ _ h)
-- f_X8_lend
def f_X8_lend_j21 (σ : Sto) : Option (Sto × Int32) :=
  some (σ, (-1000000001 : Int32))
def f_X8_lend_j81 (σ : Sto) (x3 : Int32) : Option (Sto × Int32) :=
  some (σ, x3)
def f_X8_lend_j69 (σ : Sto) (x1 : Int32) (x2 : Int32) (x3 : Int32) : Option (Sto × Int32) :=
  if x2 = (-1 : Int32) then (f_X8_lend_j81 σ x3) else (gd (inB x2 7) (bs (su σ 49 (x2).toNatClampNeg x1) fun σ6 => f_X8_lend_j81 σ6 x3))
def f_X8_lend_j52 (σ : Sto) (x1 : Int32) (x2 : Int32) : Option (Sto × Int32) :=
  bd2 (f_X8_onWhom σ x1) fun σ3 v4 => bs v4 fun z5 => if z5 < 0 then (f_X8_lend_j69 σ3 x1 x2 z5) else (gd (inB z5 7) (bs (su σ3 49 (z5).toNatClampNeg (-1 : Int32)) fun σ7 => f_X8_lend_j69 σ7 x1 x2 z5))
def f_X8_lend_j24 (σ : Sto) (x1 : Int32) (x2 : Int32) : Option (Sto × Int32) :=
  if x2 = (-1 : Int32) then (f_X8_lend_j52 σ x1 x2) else (gd (inB x2 7) (if (σ.1 49 (x2).toNatClampNeg) < 0 then (f_X8_lend_j52 σ x1 x2) else (gd (inB x2 7) (if (σ.1 49 (x2).toNatClampNeg) = x1 then (f_X8_lend_j52 σ x1 x2) else (some (σ, (-1000000003 : Int32)))))))
def f_X8_lend (σ : Sto) (a1 : Int32) (a2 : Int32) : Option (Sto × Int32) :=
  bd2 (f_X8_isHat σ a1) fun σ1 v2 => if v2 = 0 then (f_X8_lend_j21 σ1) else (if a2 = (-1 : Int32) then (f_X8_lend_j24 σ1 a1 a2) else (bd2 (f_X8_isBeggar σ1 a2) fun σ8 v9 => if v9 = 0 then (f_X8_lend_j21 σ8) else (f_X8_lend_j24 σ8 a1 a2)))
theorem w_f_X8_lend_j21 {G : Wld} {X : Cxt} (C : Cx G X RX8 cX8_lend 4 3) {σ : Sto} {y : Sto × Int32} (h : f_X8_lend_j21 σ = some y) (hK : Rx G X (some .int) (some (.int y.2)) y.1) : V G X 4 σ [(0, .ref (G.1 39))] [] 21 := by
  unfold f_X8_lend_j21 at h
  refine v_ldc 21 C dX8_lend_21 q_1024 ?_
  cases h
  exact v_iret 23 C hK dX8_lend_23
theorem w_f_X8_lend_j81 {G : Wld} {X : Cxt} (C : Cx G X RX8 cX8_lend 4 3) {σ : Sto} {x3 : Int32} {y : Sto × Int32} (h : f_X8_lend_j81 σ x3 = some y) (hK : Rx G X (some .int) (some (.int y.2)) y.1) : V G X 4 σ [(0, .ref (G.1 39)), (3, .int x3)] [] 81 := by
  unfold f_X8_lend_j81 at h
  refine v_iload_n 81 C 3 1 dX8_lend_81 rfl rfl ?_
  cases h
  exact v_iret 82 C hK dX8_lend_82
theorem w_f_X8_lend_j69 {G : Wld} {X : Cxt} (C : Cx G X RX8 cX8_lend 4 3) {σ : Sto} {x1 : Int32} {x2 : Int32} {x3 : Int32} {y : Sto × Int32} (h : f_X8_lend_j69 σ x1 x2 x3 = some y) (hK : Rx G X (some .int) (some (.int y.2)) y.1) : V G X 4 σ [(0, .ref (G.1 39)), (1, .int x1), (2, .int x2), (3, .int x3)] [] 69 := by
  unfold f_X8_lend_j69 at h
  refine v_iload_n 69 C 2 2 dX8_lend_69 rfl rfl ?_
  refine v_iconst 70 C (-1 : Int32) dX8_lend_70 (by decide) ?_
  refine v_icmp_eq 71 C 81 dX8_lend_71 (by decide) h (fun h => ?_) (fun h => ?_)
  · exact v_sub [0, 3] rfl (w_f_X8_lend_j81 C h hK)
  · refine v_aload_n 74 C 0 0 dX8_lend_74 rfl rfl ?_
    refine g_X8_39_15 75 C dX8_lend_75 ?_
    refine v_iload_n 78 C 2 2 dX8_lend_78 rfl rfl ?_
    refine v_iload_n 79 C 1 1 dX8_lend_79 rfl rfl ?_
    refine b_iast 80 C 49 (by decide) (ce_49 G) dX8_lend_80 h (fun σ6 h => ?_)
    exact v_sub [0, 3] rfl (w_f_X8_lend_j81 C h hK)
theorem w_f_X8_lend_j52 {G : Wld} {X : Cxt} (C : Cx G X RX8 cX8_lend 4 3) {σ : Sto} {x1 : Int32} {x2 : Int32} {y : Sto × Int32} (h : f_X8_lend_j52 σ x1 x2 = some y) (hK : Rx G X (some .int) (some (.int y.2)) y.1) : V G X 4 σ [(0, .ref (G.1 39)), (1, .int x1), (2, .int x2)] [] 52 := by
  unfold f_X8_lend_j52 at h
  refine v_aload_n 52 C 0 0 dX8_lend_52 rfl rfl ?_
  refine v_iload_n 53 C 1 1 dX8_lend_53 rfl rfl ?_
  refine r_f_X8_onWhom 54 C (by decide) q_1062 dX8_lend_54 (Nat.le_of_ble_eq_true rfl) h (fun σ3 v4 h => ?_)
  refine b_istore_n 57 C 3 (lv2 := fun z5 => [(3, .int z5), (0, .ref (G.1 39)), (1, .int x1), (2, .int x2)]) dX8_lend_57 rfl (by decide) (fun _ => rfl) h (fun z5 h => ?_)
  refine v_iload_n 58 C 3 0 dX8_lend_58 rfl rfl ?_
  refine v_if_lt 59 C 69 dX8_lend_59 (by decide) h (fun h => ?_) (fun h => ?_)
  · exact v_sub [1, 2, 3, 0] rfl (w_f_X8_lend_j69 C h hK)
  · refine v_aload_n 62 C 0 1 dX8_lend_62 rfl rfl ?_
    refine g_X8_39_15 63 C dX8_lend_63 ?_
    refine v_iload_n 66 C 3 0 dX8_lend_66 rfl rfl ?_
    refine v_iconst 67 C (-1 : Int32) dX8_lend_67 (by decide) ?_
    refine b_iast 68 C 49 (by decide) (ce_49 G) dX8_lend_68 h (fun σ7 h => ?_)
    exact v_sub [1, 2, 3, 0] rfl (w_f_X8_lend_j69 C h hK)
theorem w_f_X8_lend_j24 {G : Wld} {X : Cxt} (C : Cx G X RX8 cX8_lend 4 3) {σ : Sto} {x1 : Int32} {x2 : Int32} {y : Sto × Int32} (h : f_X8_lend_j24 σ x1 x2 = some y) (hK : Rx G X (some .int) (some (.int y.2)) y.1) : V G X 4 σ [(0, .ref (G.1 39)), (1, .int x1), (2, .int x2)] [] 24 := by
  unfold f_X8_lend_j24 at h
  refine v_iload_n 24 C 2 2 dX8_lend_24 rfl rfl ?_
  refine v_iconst 25 C (-1 : Int32) dX8_lend_25 (by decide) ?_
  refine v_icmp_eq 26 C 52 dX8_lend_26 (by decide) h (fun h => ?_) (fun h => ?_)
  · exact v_sub [0, 1, 2] rfl (w_f_X8_lend_j52 C h hK)
  · refine v_aload_n 29 C 0 0 dX8_lend_29 rfl rfl ?_
    refine g_X8_39_15 30 C dX8_lend_30 ?_
    refine v_iload_n 33 C 2 2 dX8_lend_33 rfl rfl ?_
    refine v_iald 34 C 49 (by decide) (ce_49 G) dX8_lend_34 h (fun h => ?_)
    refine v_if_lt 35 C 52 dX8_lend_35 (by decide) h (fun h => ?_) (fun h => ?_)
    · exact v_sub [0, 1, 2] rfl (w_f_X8_lend_j52 C h hK)
    · refine v_aload_n 38 C 0 0 dX8_lend_38 rfl rfl ?_
      refine g_X8_39_15 39 C dX8_lend_39 ?_
      refine v_iload_n 42 C 2 2 dX8_lend_42 rfl rfl ?_
      refine v_iald 43 C 49 (by decide) (ce_49 G) dX8_lend_43 h (fun h => ?_)
      refine v_iload_n 44 C 1 1 dX8_lend_44 rfl rfl ?_
      refine v_icmp_eq 45 C 52 dX8_lend_45 (by decide) h (fun h => ?_) (fun h => ?_)
      · exact v_sub [0, 1, 2] rfl (w_f_X8_lend_j52 C h hK)
      · refine v_ldc_w 48 C dX8_lend_48 q_1098 ?_
        cases h
        exact v_iret 51 C hK dX8_lend_51
theorem w_f_X8_lend {G : Wld} {X : Cxt} (C : Cx G X RX8 cX8_lend 4 3) {σ : Sto} {a1 : Int32} {a2 : Int32} {y : Sto × Int32} (h : f_X8_lend σ a1 a2 = some y) (hK : Rx G X (some .int) (some (.int y.2)) y.1) : V G X 4 σ [(0, .ref (G.1 39)), (1, .int a1), (2, .int a2)] [] 0 := by
  unfold f_X8_lend at h
  refine v_aload_n 0 C 0 0 dX8_lend_0 rfl rfl ?_
  refine v_iload_n 1 C 1 1 dX8_lend_1 rfl rfl ?_
  refine r_f_X8_isHat 2 C (by decide) q_1058 dX8_lend_2 (Nat.le_of_ble_eq_true rfl) h (fun σ1 v2 h => ?_)
  refine v_if_eq 5 C 21 dX8_lend_5 (by decide) h (fun h => ?_) (fun h => ?_)
  · exact v_sub [0] rfl (w_f_X8_lend_j21 C h hK)
  · refine v_iload_n 8 C 2 2 dX8_lend_8 rfl rfl ?_
    refine v_iconst 9 C (-1 : Int32) dX8_lend_9 (by decide) ?_
    refine v_icmp_eq 10 C 24 dX8_lend_10 (by decide) h (fun h => ?_) (fun h => ?_)
    · exact v_sub [0, 1, 2] rfl (w_f_X8_lend_j24 C h hK)
    · refine v_aload_n 13 C 0 0 dX8_lend_13 rfl rfl ?_
      refine v_iload_n 14 C 2 2 dX8_lend_14 rfl rfl ?_
      refine r_f_X8_isBeggar 15 C (by decide) q_1046 dX8_lend_15 (Nat.le_of_ble_eq_true rfl) h (fun σ8 v9 h => ?_)
      refine v_if_ne 18 C 24 dX8_lend_18 (by decide) h (fun h => ?_) (fun h => ?_)
      · exact v_sub [0, 1, 2] rfl (w_f_X8_lend_j24 C h hK)
      · exact v_sub [0] rfl (w_f_X8_lend_j21 C h hK)
theorem c_f_X8_lend (l : Launch) (G : Wld) (hG : GI G) (σ : Sto) (a1 : Int32) (a2 : Int32) (y : Sto × Int32) (h : f_X8_lend σ a1 a2 = some y) : Ct l G yX8_lend cX8_lend 4 (some .int) 3 [.ref (G.1 39), .int a1, .int a2] σ (some (.int y.2)) y.1 := by
  refine ct_intro RX8 hG (by decide) rfl (Nat.le_of_ble_eq_true rfl) (fun X hX C hK => ?_)
  subst hX
  exact w_f_X8_lend C h hK
theorem r_f_X8_lend {G : Wld} {X : Cxt} {own : String} {cc : ByteArray} {nL n : Nat} {σ : Sto} {lv : List (Nat × Value)} {st : List Value} {β : Type} {r : β} {F : Sto → Int32 → Option β} {a1 : Int32} {a2 : Int32} {ix : Nat} (pc : Nat) (C : Cx G X own cc nL n) (hn : 3 < n) (h1 : Cond.methodLink own ix yX8_lend ∈ lw_gd) (hd : decode cc pc = .ok (.invokevirtual ix, 3)) (hsum : (st.map fun v => v.category).sum ≤ 8) (h : bd2 (f_X8_lend σ a1 a2) F = some r) (kk : ∀ σ1 v, F σ1 v = some r → V G X nL σ1 lv (.int v :: st) (pc + 3)) : V G X nL σ lv (.int a2 :: .int a1 :: .ref (G.1 39) :: st) pc := by
  obtain ⟨z, hz, h⟩ := bd2_some h
  exact v_callV pc C 39 2 [.int a1, .int a2] st (c_f_X8_lend (xl X) G C.2.2.2.2.2.2.1 _ _ _ _ hz) hn (by decide) (by decide) (ce_39 G _ _) rfl (by decide +kernel) rfl h1 q_1100 q_1101 q_68 q_1102 rfl hsum hd (kk _ _ h)
-- f_X8_law
def f_X8_law (σ : Sto) (a1 : Int32) : Option (Sto × Int32) :=
  bd2 (f_X8_in σ (a1).toInt64 (0 : Int64) (2 : Int64)) fun σ1 v2 => if v2 = 0 then (some (σ1, (-1000000002 : Int32))) else (bs (σ1.1 39 18) fun z3 => bs (su σ1 39 18 a1) fun σ4 => some (σ4, z3))
theorem w_f_X8_law {G : Wld} {X : Cxt} (C : Cx G X RX8 cX8_law 3 2) {σ : Sto} {a1 : Int32} {y : Sto × Int32} (h : f_X8_law σ a1 = some y) (hK : Rx G X (some .int) (some (.int y.2)) y.1) : V G X 3 σ [(0, .ref (G.1 39)), (1, .int a1)] [] 0 := by
  unfold f_X8_law at h
  refine v_iload_n 0 C 1 1 dX8_law_0 rfl rfl ?_
  refine v_i2l 1 C dX8_law_1 ?_
  refine v_lconst 2 C (0 : Int64) dX8_law_2 (by decide) ?_
  refine v_ldc2_w 3 C dX8_law_3 q_1107 ?_
  refine r_f_X8_in 6 C (by decide) q_940 dX8_law_6 (Nat.le_of_ble_eq_true rfl) h (fun σ1 v2 h => ?_)
  refine v_if_ne 9 C 15 dX8_law_9 (by decide) h (fun h => ?_) (fun h => ?_)
  · refine v_aload_n 15 C 0 0 dX8_law_15 rfl rfl ?_
    refine g_X8_39_18 16 C dX8_law_16 ?_
    refine b_istore_n 19 C 2 (lv2 := fun z3 => [(2, .int z3), (0, .ref (G.1 39)), (1, .int a1)]) dX8_law_19 rfl (by decide) (fun _ => rfl) h (fun z3 h => ?_)
    refine v_aload_n 20 C 0 1 dX8_law_20 rfl rfl ?_
    refine v_iload_n 21 C 1 2 dX8_law_21 rfl rfl ?_
    refine p_X8_39_18 22 C dX8_law_22 h (fun σ4 h => ?_)
    refine v_iload_n 25 C 2 0 dX8_law_25 rfl rfl ?_
    cases h
    exact v_iret 26 C hK dX8_law_26
  · refine v_ldc 12 C dX8_law_12 q_943 ?_
    cases h
    exact v_iret 14 C hK dX8_law_14
theorem c_f_X8_law (l : Launch) (G : Wld) (hG : GI G) (σ : Sto) (a1 : Int32) (y : Sto × Int32) (h : f_X8_law σ a1 = some y) : Ct l G yX8_law cX8_law 3 (some .int) 2 [.ref (G.1 39), .int a1] σ (some (.int y.2)) y.1 := by
  refine ct_intro RX8 hG (by decide) rfl (Nat.le_of_ble_eq_true rfl) (fun X hX C hK => ?_)
  subst hX
  exact w_f_X8_law C h hK
theorem r_f_X8_law {G : Wld} {X : Cxt} {own : String} {cc : ByteArray} {nL n : Nat} {σ : Sto} {lv : List (Nat × Value)} {st : List Value} {β : Type} {r : β} {F : Sto → Int32 → Option β} {a1 : Int32} {ix : Nat} (pc : Nat) (C : Cx G X own cc nL n) (hn : 2 < n) (h1 : Cond.methodLink own ix yX8_law ∈ lw_gd) (hd : decode cc pc = .ok (.invokevirtual ix, 3)) (hsum : (st.map fun v => v.category).sum ≤ 8) (h : bd2 (f_X8_law σ a1) F = some r) (kk : ∀ σ1 v, F σ1 v = some r → V G X nL σ1 lv (.int v :: st) (pc + 3)) : V G X nL σ lv (.int a1 :: .ref (G.1 39) :: st) pc := by
  obtain ⟨z, hz, h⟩ := bd2_some h
  exact v_callV pc C 39 1 [.int a1] st (c_f_X8_law (xl X) G C.2.2.2.2.2.2.1 _ _ _ hz) hn (by decide) (by decide) (ce_39 G _ _) rfl (by decide +kernel) rfl h1 q_1104 q_1105 q_68 q_1106 rfl hsum hd (kk _ _ h)
-- f_X8_held
def f_X8_held_j14 (σ : Sto) (s0 : Int32) : Option (Sto × Int32) :=
  some (σ, s0)
def f_X8_held (σ : Sto) (a0 : Int32) : Option (Sto × Int32) :=
  if a0 ≤ (999999999 : Int32) then (f_X8_held_j14 σ a0) else (f_X8_held_j14 σ (999999999 : Int32))
theorem w_f_X8_held_j14 {G : Wld} {X : Cxt} (C : Cx G X RX8 cX8_held 1 1) {σ : Sto} {s0 : Int32} {y : Sto × Int32} (h : f_X8_held_j14 σ s0 = some y) (hK : Rx G X (some .int) (some (.int y.2)) y.1) : V G X 1 σ [] [.int s0] 14 := by
  unfold f_X8_held_j14 at h
  cases h
  exact v_iret 14 C hK dX8_held_14
theorem w_f_X8_held {G : Wld} {X : Cxt} (C : Cx G X RX8 cX8_held 1 1) {σ : Sto} {a0 : Int32} {y : Sto × Int32} (h : f_X8_held σ a0 = some y) (hK : Rx G X (some .int) (some (.int y.2)) y.1) : V G X 1 σ [(0, .int a0)] [] 0 := by
  unfold f_X8_held at h
  refine v_iload_n 0 C 0 0 dX8_held_0 rfl rfl ?_
  refine v_ldc_w 1 C dX8_held_1 q_1119 ?_
  refine v_icmp_le 4 C 13 dX8_held_4 (by decide) h (fun h => ?_) (fun h => ?_)
  · refine v_iload_n 13 C 0 0 dX8_held_13 rfl rfl ?_
    exact v_sub [] rfl (w_f_X8_held_j14 C h hK)
  · refine v_ldc_w 7 C dX8_held_7 q_1119 ?_
    refine v_goto 10 C 14 dX8_held_10 (by decide) ?_
    exact v_sub [] rfl (w_f_X8_held_j14 C h hK)
theorem c_f_X8_held (l : Launch) (G : Wld) (hG : GI G) (σ : Sto) (a0 : Int32) (y : Sto × Int32) (h : f_X8_held σ a0 = some y) : Ct l G yX8_held cX8_held 1 (some .int) 1 [.int a0] σ (some (.int y.2)) y.1 := by
  refine ct_intro RX8 hG (by decide) rfl (Nat.le_of_ble_eq_true rfl) (fun X hX C hK => ?_)
  subst hX
  exact w_f_X8_held C h hK
theorem r_f_X8_held {G : Wld} {X : Cxt} {own : String} {cc : ByteArray} {nL n : Nat} {σ : Sto} {lv : List (Nat × Value)} {st : List Value} {β : Type} {r : β} {F : Sto → Int32 → Option β} {a0 : Int32} {ix : Nat} (pc : Nat) (C : Cx G X own cc nL n) (hn : 1 < n) (h1 : Cond.methodLink own ix yX8_held ∈ lw_gd) (hd : decode cc pc = .ok (.invokestatic ix, 3)) (hsum : (st.map fun v => v.category).sum ≤ 8) (h : bd2 (f_X8_held σ a0) F = some r) (kk : ∀ σ1 v, F σ1 v = some r → V G X nL σ1 lv (.int v :: st) (pc + 3)) : V G X nL σ lv (.int a0 :: st) pc := by
  obtain ⟨z, hz, h⟩ := bd2_some h
  exact v_callS pc C 1 [.int a0] st (c_f_X8_held (xl X) G C.2.2.2.2.2.2.1 _ _ _ hz) hn (by decide) (by decide +kernel) rfl h1 q_1117 q_68 q_1118 rfl hsum hd (kk _ _ h)
-- f_X8_ringNow
def f_X8_ringNow_l17 (σ : Sto) (x2 : Int32) (x3 : Int32) : Option ((Sto × Int32 × Int32) ⊕ (Sto × Int32 × Int32)) :=
  if (σ.1 39 8) ≤ x3 then (some (.inr (σ, x2, x3))) else (gd (inB x3 7) (bs (x2 + (σ.1 61 (x3).toNatClampNeg)) fun z7 => gd (inB x3 6) (bd2 (f_X8_almsOf σ x3) fun σ8 v9 => bd2 (f_X8_held σ8 ((σ.1 50 (x3).toNatClampNeg) + v9)) fun σ10 v11 => gd (inB x3 6) (bs (su σ10 50 (x3).toNatClampNeg v11) fun σ12 => bs (x3 + (1 : Int32)) fun z13 => some (.inl (σ12, z7, z13))))))
def f_X8_ringNow (σ : Sto) (a1 : Int32) : Option (Sto × Int32) :=
  bd2 (f_X8_longNow σ a1) fun σ1 v2 => bd1 (f_X8_findAlms σ1 (σ.1 39 8) v2) fun σ3 => bs (0 : Int32) fun z5 => bs (0 : Int32) fun z6 => bE2 (lpF (fun t => f_X8_ringNow_l17 t.1 t.2.1 t.2.2) FU (σ3, z5, z6)) (fun σ14 z15 z16 => bd2 (f_X8_held σ14 ((σ14.1 39 17) + z15)) fun σ18 v19 => bs (su σ18 39 17 v19) fun σ20 => some (σ20, z15))
theorem w_f_X8_ringNow_l17 {G : Wld} {X : Cxt} (C : Cx G X RX8 cX8_ringNow 4 4) {σ : Sto} {x2 : Int32} {x3 : Int32} {y : (Sto × Int32 × Int32) ⊕ (Sto × Int32 × Int32)} (h : f_X8_ringNow_l17 σ x2 x3 = some y) (hc : ∀ t : Sto × Int32 × Int32, y = .inl t → V G X 4 t.1 [(0, .ref (G.1 39)), (2, .int t.2.1), (3, .int t.2.2)] [] 17) {Ve : Sto × Int32 × Int32 → Prop} (he : ∀ e, y = .inr e → Ve e) (hx : ∀ (σ : Sto) (x2 : Int32) (x3 : Int32), Ve (σ, x2, x3) → V G X 4 σ [(0, .ref (G.1 39)), (2, .int x2), (3, .int x3)] [] 61) : V G X 4 σ [(0, .ref (G.1 39)), (2, .int x2), (3, .int x3)] [] 17 := by
  unfold f_X8_ringNow_l17 at h
  refine v_iload_n 17 C 3 2 dX8_ringNow_17 rfl rfl ?_
  refine v_aload_n 18 C 0 0 dX8_ringNow_18 rfl rfl ?_
  refine g_X8_39_8 19 C dX8_ringNow_19 ?_
  refine v_icmp_ge 22 C 61 dX8_ringNow_22 (by decide) h (fun h => ?_) (fun h => ?_)
  · exact v_sub [0, 1, 2] rfl (hx _ _ _ (he _ (Option.some.inj h).symm))
  · refine v_iload_n 25 C 2 1 dX8_ringNow_25 rfl rfl ?_
    refine v_aload_n 26 C 0 0 dX8_ringNow_26 rfl rfl ?_
    refine g_X8_39_43 27 C dX8_ringNow_27 ?_
    refine v_iload_n 30 C 3 2 dX8_ringNow_30 rfl rfl ?_
    refine v_iald 31 C 61 (by decide) (ce_61 G) dX8_ringNow_31 h (fun h => ?_)
    refine v_iadd 32 C dX8_ringNow_32 ?_
    refine b_istore_n 33 C 2 (lv2 := fun z7 => [(2, .int z7), (0, .ref (G.1 39)), (3, .int x3)]) dX8_ringNow_33 rfl (by decide) (fun _ => rfl) h (fun z7 h => ?_)
    refine v_aload_n 34 C 0 1 dX8_ringNow_34 rfl rfl ?_
    refine g_X8_39_16 35 C dX8_ringNow_35 ?_
    refine v_iload_n 38 C 3 2 dX8_ringNow_38 rfl rfl ?_
    refine v_aload_n 39 C 0 1 dX8_ringNow_39 rfl rfl ?_
    refine g_X8_39_16 40 C dX8_ringNow_40 ?_
    refine v_iload_n 43 C 3 2 dX8_ringNow_43 rfl rfl ?_
    refine v_iald 44 C 50 (by decide) (ce_50 G) dX8_ringNow_44 h (fun h => ?_)
    refine v_aload_n 45 C 0 1 dX8_ringNow_45 rfl rfl ?_
    refine v_iload_n 46 C 3 2 dX8_ringNow_46 rfl rfl ?_
    refine r_f_X8_almsOf 47 C (by decide) q_1086 dX8_ringNow_47 (Nat.le_of_ble_eq_true rfl) h (fun σ8 v9 h => ?_)
    refine v_iadd 50 C dX8_ringNow_50 ?_
    refine r_f_X8_held 51 C (by decide) q_1116 dX8_ringNow_51 (Nat.le_of_ble_eq_true rfl) h (fun σ10 v11 h => ?_)
    refine b_iast 54 C 50 (by decide) (ce_50 G) dX8_ringNow_54 h (fun σ12 h => ?_)
    refine b_iinc 55 C 3 2 (1 : Int32) (lv2 := fun z13 => [(3, .int z13), (2, .int z7), (0, .ref (G.1 39))]) dX8_ringNow_55 rfl (by decide) (by decide) (fun _ => rfl) h (fun z13 h => ?_)
    refine v_goto 58 C 17 dX8_ringNow_58 (by decide) ?_
    exact v_sub [2, 1, 0] rfl (hc _ (Option.some.inj h).symm)
theorem w_f_X8_ringNow {G : Wld} {X : Cxt} (C : Cx G X RX8 cX8_ringNow 4 4) {σ : Sto} {a1 : Int32} {y : Sto × Int32} (h : f_X8_ringNow σ a1 = some y) (hK : Rx G X (some .int) (some (.int y.2)) y.1) : V G X 4 σ [(0, .ref (G.1 39)), (1, .int a1)] [] 0 := by
  unfold f_X8_ringNow at h
  refine v_aload_n 0 C 0 0 dX8_ringNow_0 rfl rfl ?_
  refine v_aload_n 1 C 0 0 dX8_ringNow_1 rfl rfl ?_
  refine g_X8_39_8 2 C dX8_ringNow_2 ?_
  refine v_aload_n 5 C 0 0 dX8_ringNow_5 rfl rfl ?_
  refine v_iload_n 6 C 1 1 dX8_ringNow_6 rfl rfl ?_
  refine r_f_X8_longNow 7 C (by decide) q_1070 dX8_ringNow_7 (Nat.le_of_ble_eq_true rfl) h (fun σ1 v2 h => ?_)
  refine r_f_X8_findAlms 10 C (by decide) q_1074 dX8_ringNow_10 (Nat.le_of_ble_eq_true rfl) h (fun σ3 h => ?_)
  refine v_iconst 13 C (0 : Int32) dX8_ringNow_13 (by decide) ?_
  refine b_istore_n 14 C 2 (lv2 := fun z5 => [(2, .int z5), (0, .ref (G.1 39)), (1, .int a1)]) dX8_ringNow_14 rfl (by decide) (fun _ => rfl) h (fun z5 h => ?_)
  refine v_iconst 15 C (0 : Int32) dX8_ringNow_15 (by decide) ?_
  refine b_istore_n 16 C 3 (lv2 := fun z6 => [(3, .int z6), (2, .int z5), (0, .ref (G.1 39)), (1, .int a1)]) dX8_ringNow_16 rfl (by decide) (fun _ => rfl) h (fun z6 h => ?_)
  refine v_sub [2, 1, 0] rfl ?_
  refine lp_go (Vh := fun t => V G X 4 t.1 [(0, .ref (G.1 39)), (2, .int t.2.1), (3, .int t.2.2)] [] 17) h ?_
  intro t17 y17 hy17 hc17 he17
  refine w_f_X8_ringNow_l17 C hy17 hc17 he17 (fun σ14 z15 z16 h => ?_)
  dsimp only at h
  refine v_aload_n 61 C 0 0 dX8_ringNow_61 rfl rfl ?_
  refine v_aload_n 62 C 0 0 dX8_ringNow_62 rfl rfl ?_
  refine g_X8_39_17 63 C dX8_ringNow_63 ?_
  refine v_iload_n 66 C 2 1 dX8_ringNow_66 rfl rfl ?_
  refine v_iadd 67 C dX8_ringNow_67 ?_
  refine r_f_X8_held 68 C (by decide) q_1116 dX8_ringNow_68 (Nat.le_of_ble_eq_true rfl) h (fun σ18 v19 h => ?_)
  refine p_X8_39_17 71 C dX8_ringNow_71 h (fun σ20 h => ?_)
  refine v_iload_n 74 C 2 1 dX8_ringNow_74 rfl rfl ?_
  cases h
  exact v_iret 75 C hK dX8_ringNow_75
theorem c_f_X8_ringNow (l : Launch) (G : Wld) (hG : GI G) (σ : Sto) (a1 : Int32) (y : Sto × Int32) (h : f_X8_ringNow σ a1 = some y) : Ct l G yX8_ringNow cX8_ringNow 4 (some .int) 4 [.ref (G.1 39), .int a1] σ (some (.int y.2)) y.1 := by
  refine ct_intro RX8 hG (by decide) rfl (Nat.le_of_ble_eq_true rfl) (fun X hX C hK => ?_)
  subst hX
  exact w_f_X8_ringNow C h hK
theorem r_f_X8_ringNow {G : Wld} {X : Cxt} {own : String} {cc : ByteArray} {nL n : Nat} {σ : Sto} {lv : List (Nat × Value)} {st : List Value} {β : Type} {r : β} {F : Sto → Int32 → Option β} {a1 : Int32} {ix : Nat} (pc : Nat) (C : Cx G X own cc nL n) (hn : 4 < n) (h1 : Cond.methodLink own ix yX8_ringNow ∈ lw_gd) (hd : decode cc pc = .ok (.invokevirtual ix, 3)) (hsum : (st.map fun v => v.category).sum ≤ 8) (h : bd2 (f_X8_ringNow σ a1) F = some r) (kk : ∀ σ1 v, F σ1 v = some r → V G X nL σ1 lv (.int v :: st) (pc + 3)) : V G X nL σ lv (.int a1 :: .ref (G.1 39) :: st) pc := by
  obtain ⟨z, hz, h⟩ := bd2_some h
  exact v_callV pc C 39 1 [.int a1] st (c_f_X8_ringNow (xl X) G C.2.2.2.2.2.2.1 _ _ _ hz) hn (by decide) (by decide) (ce_39 G _ _) rfl (by decide +kernel) rfl h1 q_1114 q_47 q_68 q_1115 rfl hsum hd (kk _ _ h)
-- f_X8_ring
def f_X8_ring_j18 (σ : Sto) (s0 : Int32) : Option (Sto × Int32) :=
  some (σ, s0)
def f_X8_ring (σ : Sto) (a1 : Int32) : Option (Sto × Int32) :=
  bd2 (f_X8_isBell σ a1) fun σ1 v2 => if v2 = 0 then (f_X8_ring_j18 σ1 (-1000000001 : Int32)) else (bd2 (f_X8_ringNow σ1 a1) fun σ3 v4 => f_X8_ring_j18 σ3 v4)
theorem w_f_X8_ring_j18 {G : Wld} {X : Cxt} (C : Cx G X RX8 cX8_ring 2 5) {σ : Sto} {s0 : Int32} {y : Sto × Int32} (h : f_X8_ring_j18 σ s0 = some y) (hK : Rx G X (some .int) (some (.int y.2)) y.1) : V G X 2 σ [(0, .ref (G.1 39))] [.int s0] 18 := by
  unfold f_X8_ring_j18 at h
  cases h
  exact v_iret 18 C hK dX8_ring_18
theorem w_f_X8_ring {G : Wld} {X : Cxt} (C : Cx G X RX8 cX8_ring 2 5) {σ : Sto} {a1 : Int32} {y : Sto × Int32} (h : f_X8_ring σ a1 = some y) (hK : Rx G X (some .int) (some (.int y.2)) y.1) : V G X 2 σ [(0, .ref (G.1 39)), (1, .int a1)] [] 0 := by
  unfold f_X8_ring at h
  refine v_aload_n 0 C 0 0 dX8_ring_0 rfl rfl ?_
  refine v_iload_n 1 C 1 1 dX8_ring_1 rfl rfl ?_
  refine r_f_X8_isBell 2 C (by decide) q_1020 dX8_ring_2 (Nat.le_of_ble_eq_true rfl) h (fun σ1 v2 h => ?_)
  refine v_if_eq 5 C 16 dX8_ring_5 (by decide) h (fun h => ?_) (fun h => ?_)
  · refine v_ldc 16 C dX8_ring_16 q_1024 ?_
    exact v_sub [0] rfl (w_f_X8_ring_j18 C h hK)
  · refine v_aload_n 8 C 0 0 dX8_ring_8 rfl rfl ?_
    refine v_iload_n 9 C 1 1 dX8_ring_9 rfl rfl ?_
    refine r_f_X8_ringNow 10 C (by decide) q_1112 dX8_ring_10 (Nat.le_of_ble_eq_true rfl) h (fun σ3 v4 h => ?_)
    refine v_goto 13 C 18 dX8_ring_13 (by decide) ?_
    exact v_sub [0] rfl (w_f_X8_ring_j18 C h hK)
theorem c_f_X8_ring (l : Launch) (G : Wld) (hG : GI G) (σ : Sto) (a1 : Int32) (y : Sto × Int32) (h : f_X8_ring σ a1 = some y) : Ct l G yX8_ring cX8_ring 2 (some .int) 5 [.ref (G.1 39), .int a1] σ (some (.int y.2)) y.1 := by
  refine ct_intro RX8 hG (by decide) rfl (Nat.le_of_ble_eq_true rfl) (fun X hX C hK => ?_)
  subst hX
  exact w_f_X8_ring C h hK
theorem r_f_X8_ring {G : Wld} {X : Cxt} {own : String} {cc : ByteArray} {nL n : Nat} {σ : Sto} {lv : List (Nat × Value)} {st : List Value} {β : Type} {r : β} {F : Sto → Int32 → Option β} {a1 : Int32} {ix : Nat} (pc : Nat) (C : Cx G X own cc nL n) (hn : 5 < n) (h1 : Cond.methodLink own ix yX8_ring ∈ lw_gd) (hd : decode cc pc = .ok (.invokevirtual ix, 3)) (hsum : (st.map fun v => v.category).sum ≤ 8) (h : bd2 (f_X8_ring σ a1) F = some r) (kk : ∀ σ1 v, F σ1 v = some r → V G X nL σ1 lv (.int v :: st) (pc + 3)) : V G X nL σ lv (.int a1 :: .ref (G.1 39) :: st) pc := by
  obtain ⟨z, hz, h⟩ := bd2_some h
  exact v_callV pc C 39 1 [.int a1] st (c_f_X8_ring (xl X) G C.2.2.2.2.2.2.1 _ _ _ hz) hn (by decide) (by decide) (ce_39 G _ _) rfl (by decide +kernel) rfl h1 q_1109 q_1110 q_68 q_1111 rfl hsum hd (kk _ _ h)
-- f_X8_day
def f_X8_day (σ : Sto) (a1 : Int32) : Option (Sto × Int32) :=
  bd2 (f_X8_in σ (a1).toInt64 (1 : Int64) (99 : Int64)) fun σ1 v2 => if v2 = 0 then (some (σ1, (-1000000002 : Int32))) else (bs (su σ1 39 13 ((σ1.1 39 13) + a1)) fun σ3 => some (σ3, (σ3.1 39 13)))
theorem w_f_X8_day {G : Wld} {X : Cxt} (C : Cx G X RX8 cX8_day 2 2) {σ : Sto} {a1 : Int32} {y : Sto × Int32} (h : f_X8_day σ a1 = some y) (hK : Rx G X (some .int) (some (.int y.2)) y.1) : V G X 2 σ [(0, .ref (G.1 39)), (1, .int a1)] [] 0 := by
  unfold f_X8_day at h
  refine v_iload_n 0 C 1 1 dX8_day_0 rfl rfl ?_
  refine v_i2l 1 C dX8_day_1 ?_
  refine v_lconst 2 C (1 : Int64) dX8_day_2 (by decide) ?_
  refine v_ldc2_w 3 C dX8_day_3 q_1124 ?_
  refine r_f_X8_in 6 C (by decide) q_940 dX8_day_6 (Nat.le_of_ble_eq_true rfl) h (fun σ1 v2 h => ?_)
  refine v_if_ne 9 C 15 dX8_day_9 (by decide) h (fun h => ?_) (fun h => ?_)
  · refine v_aload_n 15 C 0 0 dX8_day_15 rfl rfl ?_
    refine v_dup 16 C dX8_day_16 rfl ?_
    refine g_X8_39_13 17 C dX8_day_17 ?_
    refine v_iload_n 20 C 1 1 dX8_day_20 rfl rfl ?_
    refine v_iadd 21 C dX8_day_21 ?_
    refine p_X8_39_13 22 C dX8_day_22 h (fun σ3 h => ?_)
    refine v_aload_n 25 C 0 0 dX8_day_25 rfl rfl ?_
    refine g_X8_39_13 26 C dX8_day_26 ?_
    cases h
    exact v_iret 29 C hK dX8_day_29
  · refine v_ldc 12 C dX8_day_12 q_943 ?_
    cases h
    exact v_iret 14 C hK dX8_day_14
theorem c_f_X8_day (l : Launch) (G : Wld) (hG : GI G) (σ : Sto) (a1 : Int32) (y : Sto × Int32) (h : f_X8_day σ a1 = some y) : Ct l G yX8_day cX8_day 2 (some .int) 2 [.ref (G.1 39), .int a1] σ (some (.int y.2)) y.1 := by
  refine ct_intro RX8 hG (by decide) rfl (Nat.le_of_ble_eq_true rfl) (fun X hX C hK => ?_)
  subst hX
  exact w_f_X8_day C h hK
theorem r_f_X8_day {G : Wld} {X : Cxt} {own : String} {cc : ByteArray} {nL n : Nat} {σ : Sto} {lv : List (Nat × Value)} {st : List Value} {β : Type} {r : β} {F : Sto → Int32 → Option β} {a1 : Int32} {ix : Nat} (pc : Nat) (C : Cx G X own cc nL n) (hn : 2 < n) (h1 : Cond.methodLink own ix yX8_day ∈ lw_gd) (hd : decode cc pc = .ok (.invokevirtual ix, 3)) (hsum : (st.map fun v => v.category).sum ≤ 8) (h : bd2 (f_X8_day σ a1) F = some r) (kk : ∀ σ1 v, F σ1 v = some r → V G X nL σ1 lv (.int v :: st) (pc + 3)) : V G X nL σ lv (.int a1 :: .ref (G.1 39) :: st) pc := by
  obtain ⟨z, hz, h⟩ := bd2_some h
  exact v_callV pc C 39 1 [.int a1] st (c_f_X8_day (xl X) G C.2.2.2.2.2.2.1 _ _ _ hz) hn (by decide) (by decide) (ce_39 G _ _) rfl (by decide +kernel) rfl h1 q_1121 q_1122 q_68 q_1123 rfl hsum hd (kk _ _ h)
-- f_X8_draw
def f_X8_draw (σ : Sto) (a1 : Int32) : Option (Sto × Int32) :=
  gd (nzL (2147483648 : Int64)) (bs (su σ 39 19 ((lR ((((σ.1 39 19)).toInt64 * (1103515245 : Int64)) + (12345 : Int64)) (2147483648 : Int64))).toInt32) fun σ1 => gd (nzI (65536 : Int32)) (gd (nzI a1) (some (σ1, (iR ((σ1.1 39 19) / (65536 : Int32)) a1)))))
theorem w_f_X8_draw {G : Wld} {X : Cxt} (C : Cx G X RX8 cX8_draw 2 1) {σ : Sto} {a1 : Int32} {y : Sto × Int32} (h : f_X8_draw σ a1 = some y) (hK : Rx G X (some .int) (some (.int y.2)) y.1) : V G X 2 σ [(0, .ref (G.1 39)), (1, .int a1)] [] 0 := by
  unfold f_X8_draw at h
  refine v_aload_n 0 C 0 0 dX8_draw_0 rfl rfl ?_
  refine v_aload_n 1 C 0 0 dX8_draw_1 rfl rfl ?_
  refine g_X8_39_19 2 C dX8_draw_2 ?_
  refine v_i2l 5 C dX8_draw_5 ?_
  refine v_ldc2_w 6 C dX8_draw_6 q_1137 ?_
  refine v_lmul 9 C dX8_draw_9 ?_
  refine v_ldc2_w 10 C dX8_draw_10 q_1138 ?_
  refine v_ladd 13 C dX8_draw_13 ?_
  refine v_ldc2_w 14 C dX8_draw_14 q_1139 ?_
  refine v_lrem 17 C dX8_draw_17 h (fun h => ?_)
  refine v_l2i 18 C dX8_draw_18 ?_
  refine p_X8_39_19 19 C dX8_draw_19 h (fun σ1 h => ?_)
  refine v_aload_n 22 C 0 0 dX8_draw_22 rfl rfl ?_
  refine g_X8_39_19 23 C dX8_draw_23 ?_
  refine v_ldc_w 26 C dX8_draw_26 q_1140 ?_
  refine v_idiv 29 C dX8_draw_29 h (fun h => ?_)
  refine v_iload_n 30 C 1 1 dX8_draw_30 rfl rfl ?_
  refine v_irem 31 C dX8_draw_31 h (fun h => ?_)
  cases h
  exact v_iret 32 C hK dX8_draw_32
theorem c_f_X8_draw (l : Launch) (G : Wld) (hG : GI G) (σ : Sto) (a1 : Int32) (y : Sto × Int32) (h : f_X8_draw σ a1 = some y) : Ct l G yX8_draw cX8_draw 2 (some .int) 1 [.ref (G.1 39), .int a1] σ (some (.int y.2)) y.1 := by
  refine ct_intro RX8 hG (by decide) rfl (Nat.le_of_ble_eq_true rfl) (fun X hX C hK => ?_)
  subst hX
  exact w_f_X8_draw C h hK
theorem r_f_X8_draw {G : Wld} {X : Cxt} {own : String} {cc : ByteArray} {nL n : Nat} {σ : Sto} {lv : List (Nat × Value)} {st : List Value} {β : Type} {r : β} {F : Sto → Int32 → Option β} {a1 : Int32} {ix : Nat} (pc : Nat) (C : Cx G X own cc nL n) (hn : 1 < n) (h1 : Cond.methodLink own ix yX8_draw ∈ lw_gd) (hd : decode cc pc = .ok (.invokevirtual ix, 3)) (hsum : (st.map fun v => v.category).sum ≤ 8) (h : bd2 (f_X8_draw σ a1) F = some r) (kk : ∀ σ1 v, F σ1 v = some r → V G X nL σ1 lv (.int v :: st) (pc + 3)) : V G X nL σ lv (.int a1 :: .ref (G.1 39) :: st) pc := by
  obtain ⟨z, hz, h⟩ := bd2_some h
  exact v_callV pc C 39 1 [.int a1] st (c_f_X8_draw (xl X) G C.2.2.2.2.2.2.1 _ _ _ hz) hn (by decide) (by decide) (ce_39 G _ _) rfl (by decide +kernel) rfl h1 q_1135 q_49 q_68 q_1136 rfl hsum hd (kk _ _ h)
-- f_X8_dayNow
def f_X8_dayNow_j29 (σ : Sto) (x1 : Int32) (x2 : Int32) (s0 : Int32) : Option ((Sto × Int32 × Int32) ⊕ (Sto × Int32 × Int32)) :=
  bs s0 fun z7 => bs (x1 + z7) fun z8 => bs (x2 + (1 : Int32)) fun z9 => some (.inl (σ, z8, z9))
def f_X8_dayNow_l4 (σ : Sto) (x1 : Int32) (x2 : Int32) : Option ((Sto × Int32 × Int32) ⊕ (Sto × Int32 × Int32)) :=
  if (σ.1 39 1) ≤ x2 then (some (.inr (σ, x1, x2))) else (bd2 (f_X8_draw σ (4 : Int32)) fun σ3 v4 => if v4 = 0 then (f_X8_dayNow_j29 σ3 x1 x2 (0 : Int32)) else (bd2 (f_X8_ringNow σ3 x2) fun σ5 v6 => f_X8_dayNow_j29 σ5 x1 x2 v6))
def f_X8_dayNow_j95 (σ : Sto) (x1 : Int32) (s0 : Int32) (s1 : Int32) : Option (Sto × Int32) :=
  gd (inB s1 7) (bs (su σ 48 (s1).toNatClampNeg s0) fun σ23 => some (σ23, x1))
def f_X8_dayNow (σ : Sto) : Option (Sto × Int32) :=
  bs (0 : Int32) fun z1 => bs (0 : Int32) fun z2 => bE2 (lpF (fun t => f_X8_dayNow_l4 t.1 t.2.1 t.2.2) FU (σ, z1, z2)) (fun σ10 z11 z12 => bs (su σ10 39 13 ((σ10.1 39 13) + (1 : Int32))) fun σ14 => bd2 (f_X8_draw σ14 (σ14.1 39 8)) fun σ15 v16 => bs v16 fun z17 => bd2 (f_X8_draw σ15 (σ15.1 39 4)) fun σ18 v19 => bs v19 fun z20 => bd2 (f_X8_whoIsOn σ18 z20 (σ18.1 39 8)) fun σ21 v22 => if 0 ≤ v22 then (gd (inB z17 7) (f_X8_dayNow_j95 σ21 z11 (σ21.1 48 (z17).toNatClampNeg) z17)) else (f_X8_dayNow_j95 σ21 z11 z20 z17))
theorem w_f_X8_dayNow_j29 {G : Wld} {X : Cxt} (C : Cx G X RX8 cX8_dayNow 4 5) {σ : Sto} {x1 : Int32} {x2 : Int32} {s0 : Int32} {y : (Sto × Int32 × Int32) ⊕ (Sto × Int32 × Int32)} (h : f_X8_dayNow_j29 σ x1 x2 s0 = some y) (hc : ∀ t : Sto × Int32 × Int32, y = .inl t → V G X 4 t.1 [(0, .ref (G.1 39)), (1, .int t.2.1), (2, .int t.2.2)] [] 4) {Ve : Sto × Int32 × Int32 → Prop} (he : ∀ e, y = .inr e → Ve e) (hx : ∀ (σ : Sto) (x1 : Int32) (x2 : Int32), Ve (σ, x1, x2) → V G X 4 σ [(0, .ref (G.1 39)), (1, .int x1), (2, .int x2)] [] 40) : V G X 4 σ [(0, .ref (G.1 39)), (1, .int x1), (2, .int x2)] [.int s0] 29 := by
  unfold f_X8_dayNow_j29 at h
  refine b_istore_n 29 C 3 (lv2 := fun z7 => [(3, .int z7), (0, .ref (G.1 39)), (1, .int x1), (2, .int x2)]) dX8_dayNow_29 rfl (by decide) (fun _ => rfl) h (fun z7 h => ?_)
  refine v_iload_n 30 C 1 2 dX8_dayNow_30 rfl rfl ?_
  refine v_iload_n 31 C 3 0 dX8_dayNow_31 rfl rfl ?_
  refine v_iadd 32 C dX8_dayNow_32 ?_
  refine b_istore_n 33 C 1 (lv2 := fun z8 => [(1, .int z8), (3, .int z7), (0, .ref (G.1 39)), (2, .int x2)]) dX8_dayNow_33 rfl (by decide) (fun _ => rfl) h (fun z8 h => ?_)
  refine b_iinc 34 C 2 3 (1 : Int32) (lv2 := fun z9 => [(2, .int z9), (1, .int z8), (3, .int z7), (0, .ref (G.1 39))]) dX8_dayNow_34 rfl (by decide) (by decide) (fun _ => rfl) h (fun z9 h => ?_)
  refine v_goto 37 C 4 dX8_dayNow_37 (by decide) ?_
  exact v_sub [3, 1, 0] rfl (hc _ (Option.some.inj h).symm)
theorem w_f_X8_dayNow_l4 {G : Wld} {X : Cxt} (C : Cx G X RX8 cX8_dayNow 4 5) {σ : Sto} {x1 : Int32} {x2 : Int32} {y : (Sto × Int32 × Int32) ⊕ (Sto × Int32 × Int32)} (h : f_X8_dayNow_l4 σ x1 x2 = some y) (hc : ∀ t : Sto × Int32 × Int32, y = .inl t → V G X 4 t.1 [(0, .ref (G.1 39)), (1, .int t.2.1), (2, .int t.2.2)] [] 4) {Ve : Sto × Int32 × Int32 → Prop} (he : ∀ e, y = .inr e → Ve e) (hx : ∀ (σ : Sto) (x1 : Int32) (x2 : Int32), Ve (σ, x1, x2) → V G X 4 σ [(0, .ref (G.1 39)), (1, .int x1), (2, .int x2)] [] 40) : V G X 4 σ [(0, .ref (G.1 39)), (1, .int x1), (2, .int x2)] [] 4 := by
  unfold f_X8_dayNow_l4 at h
  refine v_iload_n 4 C 2 2 dX8_dayNow_4 rfl rfl ?_
  refine v_aload_n 5 C 0 0 dX8_dayNow_5 rfl rfl ?_
  refine g_X8_39_1 6 C dX8_dayNow_6 ?_
  refine v_icmp_ge 9 C 40 dX8_dayNow_9 (by decide) h (fun h => ?_) (fun h => ?_)
  · exact v_sub [0, 1, 2] rfl (hx _ _ _ (he _ (Option.some.inj h).symm))
  · refine v_aload_n 12 C 0 0 dX8_dayNow_12 rfl rfl ?_
    refine v_iconst 13 C (4 : Int32) dX8_dayNow_13 (by decide) ?_
    refine r_f_X8_draw 14 C (by decide) q_1133 dX8_dayNow_14 (Nat.le_of_ble_eq_true rfl) h (fun σ3 v4 h => ?_)
    refine v_if_ne 17 C 24 dX8_dayNow_17 (by decide) h (fun h => ?_) (fun h => ?_)
    · refine v_aload_n 24 C 0 0 dX8_dayNow_24 rfl rfl ?_
      refine v_iload_n 25 C 2 2 dX8_dayNow_25 rfl rfl ?_
      refine r_f_X8_ringNow 26 C (by decide) q_1112 dX8_dayNow_26 (Nat.le_of_ble_eq_true rfl) h (fun σ5 v6 h => ?_)
      exact v_sub [0, 1, 2] rfl (w_f_X8_dayNow_j29 C h hc he hx)
    · refine v_iconst 20 C (0 : Int32) dX8_dayNow_20 (by decide) ?_
      refine v_goto 21 C 29 dX8_dayNow_21 (by decide) ?_
      exact v_sub [0, 1, 2] rfl (w_f_X8_dayNow_j29 C h hc he hx)
theorem w_f_X8_dayNow_j95 {G : Wld} {X : Cxt} (C : Cx G X RX8 cX8_dayNow 4 5) {σ : Sto} {x1 : Int32} {s0 : Int32} {s1 : Int32} {y : Sto × Int32} (h : f_X8_dayNow_j95 σ x1 s0 s1 = some y) (hK : Rx G X (some .int) (some (.int y.2)) y.1) : V G X 4 σ [(0, .ref (G.1 39)), (1, .int x1)] [.int s0, .int s1, .ref (G.1 48)] 95 := by
  unfold f_X8_dayNow_j95 at h
  refine b_iast 95 C 48 (by decide) (ce_48 G) dX8_dayNow_95 h (fun σ23 h => ?_)
  refine v_iload_n 96 C 1 1 dX8_dayNow_96 rfl rfl ?_
  cases h
  exact v_iret 97 C hK dX8_dayNow_97
theorem w_f_X8_dayNow {G : Wld} {X : Cxt} (C : Cx G X RX8 cX8_dayNow 4 5) {σ : Sto} {y : Sto × Int32} (h : f_X8_dayNow σ = some y) (hK : Rx G X (some .int) (some (.int y.2)) y.1) : V G X 4 σ [(0, .ref (G.1 39))] [] 0 := by
  unfold f_X8_dayNow at h
  refine v_iconst 0 C (0 : Int32) dX8_dayNow_0 (by decide) ?_
  refine b_istore_n 1 C 1 (lv2 := fun z1 => [(1, .int z1), (0, .ref (G.1 39))]) dX8_dayNow_1 rfl (by decide) (fun _ => rfl) h (fun z1 h => ?_)
  refine v_iconst 2 C (0 : Int32) dX8_dayNow_2 (by decide) ?_
  refine b_istore_n 3 C 2 (lv2 := fun z2 => [(2, .int z2), (1, .int z1), (0, .ref (G.1 39))]) dX8_dayNow_3 rfl (by decide) (fun _ => rfl) h (fun z2 h => ?_)
  refine v_sub [2, 1, 0] rfl ?_
  refine lp_go (Vh := fun t => V G X 4 t.1 [(0, .ref (G.1 39)), (1, .int t.2.1), (2, .int t.2.2)] [] 4) h ?_
  intro t13 y13 hy13 hc13 he13
  refine w_f_X8_dayNow_l4 C hy13 hc13 he13 (fun σ10 z11 z12 h => ?_)
  dsimp only at h
  refine v_aload_n 40 C 0 0 dX8_dayNow_40 rfl rfl ?_
  refine v_dup 41 C dX8_dayNow_41 rfl ?_
  refine g_X8_39_13 42 C dX8_dayNow_42 ?_
  refine v_iconst 45 C (1 : Int32) dX8_dayNow_45 (by decide) ?_
  refine v_iadd 46 C dX8_dayNow_46 ?_
  refine p_X8_39_13 47 C dX8_dayNow_47 h (fun σ14 h => ?_)
  refine v_aload_n 50 C 0 0 dX8_dayNow_50 rfl rfl ?_
  refine v_aload_n 51 C 0 0 dX8_dayNow_51 rfl rfl ?_
  refine g_X8_39_8 52 C dX8_dayNow_52 ?_
  refine r_f_X8_draw 55 C (by decide) q_1133 dX8_dayNow_55 (Nat.le_of_ble_eq_true rfl) h (fun σ15 v16 h => ?_)
  refine b_istore_n 58 C 2 (lv2 := fun z17 => [(2, .int z17), (0, .ref (G.1 39)), (1, .int z11)]) dX8_dayNow_58 rfl (by decide) (fun _ => rfl) h (fun z17 h => ?_)
  refine v_aload_n 59 C 0 1 dX8_dayNow_59 rfl rfl ?_
  refine v_aload_n 60 C 0 1 dX8_dayNow_60 rfl rfl ?_
  refine g_X8_39_4 61 C dX8_dayNow_61 ?_
  refine r_f_X8_draw 64 C (by decide) q_1133 dX8_dayNow_64 (Nat.le_of_ble_eq_true rfl) h (fun σ18 v19 h => ?_)
  refine b_istore_n 67 C 3 (lv2 := fun z20 => [(3, .int z20), (2, .int z17), (0, .ref (G.1 39)), (1, .int z11)]) dX8_dayNow_67 rfl (by decide) (fun _ => rfl) h (fun z20 h => ?_)
  refine v_aload_n 68 C 0 2 dX8_dayNow_68 rfl rfl ?_
  refine g_X8_39_14 69 C dX8_dayNow_69 ?_
  refine v_iload_n 72 C 2 1 dX8_dayNow_72 rfl rfl ?_
  refine v_aload_n 73 C 0 2 dX8_dayNow_73 rfl rfl ?_
  refine v_iload_n 74 C 3 0 dX8_dayNow_74 rfl rfl ?_
  refine v_aload_n 75 C 0 2 dX8_dayNow_75 rfl rfl ?_
  refine g_X8_39_8 76 C dX8_dayNow_76 ?_
  refine r_f_X8_whoIsOn 79 C (by decide) q_1038 dX8_dayNow_79 (Nat.le_of_ble_eq_true rfl) h (fun σ21 v22 h => ?_)
  refine v_if_ge 82 C 89 dX8_dayNow_82 (by decide) h (fun h => ?_) (fun h => ?_)
  · refine v_aload_n 89 C 0 2 dX8_dayNow_89 rfl rfl ?_
    refine g_X8_39_14 90 C dX8_dayNow_90 ?_
    refine v_iload_n 93 C 2 1 dX8_dayNow_93 rfl rfl ?_
    refine v_iald 94 C 48 (by decide) (ce_48 G) dX8_dayNow_94 h (fun h => ?_)
    exact v_sub [2, 3] rfl (w_f_X8_dayNow_j95 C h hK)
  · refine v_iload_n 85 C 3 0 dX8_dayNow_85 rfl rfl ?_
    refine v_goto 86 C 95 dX8_dayNow_86 (by decide) ?_
    exact v_sub [2, 3] rfl (w_f_X8_dayNow_j95 C h hK)
theorem c_f_X8_dayNow (l : Launch) (G : Wld) (hG : GI G) (σ : Sto) (y : Sto × Int32) (h : f_X8_dayNow σ = some y) : Ct l G yX8_dayNow cX8_dayNow 4 (some .int) 5 [.ref (G.1 39)] σ (some (.int y.2)) y.1 := by
  refine ct_intro RX8 hG (by decide) rfl (Nat.le_of_ble_eq_true rfl) (fun X hX C hK => ?_)
  subst hX
  exact w_f_X8_dayNow C h hK
theorem r_f_X8_dayNow {G : Wld} {X : Cxt} {own : String} {cc : ByteArray} {nL n : Nat} {σ : Sto} {lv : List (Nat × Value)} {st : List Value} {β : Type} {r : β} {F : Sto → Int32 → Option β} {ix : Nat} (pc : Nat) (C : Cx G X own cc nL n) (hn : 5 < n) (h1 : Cond.methodLink own ix yX8_dayNow ∈ lw_gd) (hd : decode cc pc = .ok (.invokevirtual ix, 3)) (hsum : (st.map fun v => v.category).sum ≤ 8) (h : bd2 (f_X8_dayNow σ) F = some r) (kk : ∀ σ1 v, F σ1 v = some r → V G X nL σ1 lv (.int v :: st) (pc + 3)) : V G X nL σ lv (.ref (G.1 39) :: st) pc := by
  obtain ⟨z, hz, h⟩ := bd2_some h
  exact v_callV pc C 39 0 [] st (c_f_X8_dayNow (xl X) G C.2.2.2.2.2.2.1 _ _ hz) hn (by decide) (by decide) (ce_39 G _ _) rfl (by decide +kernel) rfl h1 q_1131 q_48 q_68 q_1132 rfl hsum hd (kk _ _ h)
-- f_X8_drift
def f_X8_drift_j29 (σ : Sto) : Option (Sto × Int32) :=
  some (σ, (-1000000003 : Int32))
def f_X8_drift_l37 (x1 : Int32) (σ : Sto) (x2 : Int32) (x3 : Int32) : Option ((Sto × Int32 × Int32) ⊕ (Sto × Int32 × Int32)) :=
  if x1 ≤ x3 then (some (.inr (σ, x2, x3))) else (bd2 (f_X8_dayNow σ) fun σ5 v6 => bs v6 fun z7 => bs (x2 + z7) fun z8 => bs (x3 + (1 : Int32)) fun z9 => some (.inl (σ5, z8, z9)))
def f_X8_drift (σ : Sto) (a1 : Int32) : Option (Sto × Int32) :=
  bd2 (f_X8_in σ (a1).toInt64 (1 : Int64) (99 : Int64)) fun σ1 v2 => if v2 = 0 then (some (σ1, (-1000000002 : Int32))) else (if (σ1.1 39 8) = 0 then (f_X8_drift_j29 σ1) else (if (σ1.1 39 4) = 0 then (f_X8_drift_j29 σ1) else (bs (0 : Int32) fun z3 => bs (0 : Int32) fun z4 => bE2 (lpF (fun t => f_X8_drift_l37 a1 t.1 t.2.1 t.2.2) FU (σ1, z3, z4)) (fun σ10 z11 z12 => some (σ10, z11)))))
theorem w_f_X8_drift_j29 {G : Wld} {X : Cxt} (C : Cx G X RX8 cX8_drift 5 6) {σ : Sto} {y : Sto × Int32} (h : f_X8_drift_j29 σ = some y) (hK : Rx G X (some .int) (some (.int y.2)) y.1) : V G X 5 σ [(0, .ref (G.1 39))] [] 29 := by
  unfold f_X8_drift_j29 at h
  refine v_ldc_w 29 C dX8_drift_29 q_1098 ?_
  cases h
  exact v_iret 32 C hK dX8_drift_32
theorem w_f_X8_drift_l37 {G : Wld} {X : Cxt} (C : Cx G X RX8 cX8_drift 5 6) {x1 : Int32} {σ : Sto} {x2 : Int32} {x3 : Int32} {y : (Sto × Int32 × Int32) ⊕ (Sto × Int32 × Int32)} (h : f_X8_drift_l37 x1 σ x2 x3 = some y) (hc : ∀ t : Sto × Int32 × Int32, y = .inl t → V G X 5 t.1 [(0, .ref (G.1 39)), (1, .int x1), (2, .int t.2.1), (3, .int t.2.2)] [] 37) {Ve : Sto × Int32 × Int32 → Prop} (he : ∀ e, y = .inr e → Ve e) (hx : ∀ (σ : Sto) (x2 : Int32) (x3 : Int32), Ve (σ, x2, x3) → V G X 5 σ [(0, .ref (G.1 39)), (1, .int x1), (2, .int x2), (3, .int x3)] [] 59) : V G X 5 σ [(0, .ref (G.1 39)), (1, .int x1), (2, .int x2), (3, .int x3)] [] 37 := by
  unfold f_X8_drift_l37 at h
  refine v_iload_n 37 C 3 3 dX8_drift_37 rfl rfl ?_
  refine v_iload_n 38 C 1 1 dX8_drift_38 rfl rfl ?_
  refine v_icmp_ge 39 C 59 dX8_drift_39 (by decide) h (fun h => ?_) (fun h => ?_)
  · exact v_sub [0, 1, 2, 3] rfl (hx _ _ _ (he _ (Option.some.inj h).symm))
  · refine v_aload_n 42 C 0 0 dX8_drift_42 rfl rfl ?_
    refine r_f_X8_dayNow 43 C (by decide) q_1129 dX8_drift_43 (Nat.le_of_ble_eq_true rfl) h (fun σ5 v6 h => ?_)
    refine b_istore 46 C 4 (lv2 := fun z7 => [(4, .int z7), (0, .ref (G.1 39)), (1, .int x1), (2, .int x2), (3, .int x3)]) dX8_drift_46 (by decide) (fun _ => rfl) h (fun z7 h => ?_)
    refine v_iload_n 48 C 2 3 dX8_drift_48 rfl rfl ?_
    refine v_iload 49 C 4 0 dX8_drift_49 rfl ?_
    refine v_iadd 51 C dX8_drift_51 ?_
    refine b_istore_n 52 C 2 (lv2 := fun z8 => [(2, .int z8), (4, .int z7), (0, .ref (G.1 39)), (1, .int x1), (3, .int x3)]) dX8_drift_52 rfl (by decide) (fun _ => rfl) h (fun z8 h => ?_)
    refine b_iinc 53 C 3 4 (1 : Int32) (lv2 := fun z9 => [(3, .int z9), (2, .int z8), (4, .int z7), (0, .ref (G.1 39)), (1, .int x1)]) dX8_drift_53 rfl (by decide) (by decide) (fun _ => rfl) h (fun z9 h => ?_)
    refine v_goto 56 C 37 dX8_drift_56 (by decide) ?_
    exact v_sub [3, 4, 1, 0] rfl (hc _ (Option.some.inj h).symm)
theorem w_f_X8_drift {G : Wld} {X : Cxt} (C : Cx G X RX8 cX8_drift 5 6) {σ : Sto} {a1 : Int32} {y : Sto × Int32} (h : f_X8_drift σ a1 = some y) (hK : Rx G X (some .int) (some (.int y.2)) y.1) : V G X 5 σ [(0, .ref (G.1 39)), (1, .int a1)] [] 0 := by
  unfold f_X8_drift at h
  refine v_iload_n 0 C 1 1 dX8_drift_0 rfl rfl ?_
  refine v_i2l 1 C dX8_drift_1 ?_
  refine v_lconst 2 C (1 : Int64) dX8_drift_2 (by decide) ?_
  refine v_ldc2_w 3 C dX8_drift_3 q_1124 ?_
  refine r_f_X8_in 6 C (by decide) q_940 dX8_drift_6 (Nat.le_of_ble_eq_true rfl) h (fun σ1 v2 h => ?_)
  refine v_if_ne 9 C 15 dX8_drift_9 (by decide) h (fun h => ?_) (fun h => ?_)
  · refine v_aload_n 15 C 0 0 dX8_drift_15 rfl rfl ?_
    refine g_X8_39_8 16 C dX8_drift_16 ?_
    refine v_if_eq 19 C 29 dX8_drift_19 (by decide) h (fun h => ?_) (fun h => ?_)
    · exact v_sub [0] rfl (w_f_X8_drift_j29 C h hK)
    · refine v_aload_n 22 C 0 0 dX8_drift_22 rfl rfl ?_
      refine g_X8_39_4 23 C dX8_drift_23 ?_
      refine v_if_ne 26 C 33 dX8_drift_26 (by decide) h (fun h => ?_) (fun h => ?_)
      · refine v_iconst 33 C (0 : Int32) dX8_drift_33 (by decide) ?_
        refine b_istore_n 34 C 2 (lv2 := fun z3 => [(2, .int z3), (0, .ref (G.1 39)), (1, .int a1)]) dX8_drift_34 rfl (by decide) (fun _ => rfl) h (fun z3 h => ?_)
        refine v_iconst 35 C (0 : Int32) dX8_drift_35 (by decide) ?_
        refine b_istore_n 36 C 3 (lv2 := fun z4 => [(3, .int z4), (2, .int z3), (0, .ref (G.1 39)), (1, .int a1)]) dX8_drift_36 rfl (by decide) (fun _ => rfl) h (fun z4 h => ?_)
        refine v_sub [2, 3, 1, 0] rfl ?_
        refine lp_go (Vh := fun t => V G X 5 t.1 [(0, .ref (G.1 39)), (1, .int a1), (2, .int t.2.1), (3, .int t.2.2)] [] 37) h ?_
        intro t13 y13 hy13 hc13 he13
        refine w_f_X8_drift_l37 C hy13 hc13 he13 (fun σ10 z11 z12 h => ?_)
        dsimp only at h
        refine v_iload_n 59 C 2 2 dX8_drift_59 rfl rfl ?_
        cases h
        exact v_iret 60 C hK dX8_drift_60
      · exact v_sub [0] rfl (w_f_X8_drift_j29 C h hK)
  · refine v_ldc 12 C dX8_drift_12 q_943 ?_
    cases h
    exact v_iret 14 C hK dX8_drift_14
theorem c_f_X8_drift (l : Launch) (G : Wld) (hG : GI G) (σ : Sto) (a1 : Int32) (y : Sto × Int32) (h : f_X8_drift σ a1 = some y) : Ct l G yX8_drift cX8_drift 5 (some .int) 6 [.ref (G.1 39), .int a1] σ (some (.int y.2)) y.1 := by
  refine ct_intro RX8 hG (by decide) rfl (Nat.le_of_ble_eq_true rfl) (fun X hX C hK => ?_)
  subst hX
  exact w_f_X8_drift C h hK
theorem r_f_X8_drift {G : Wld} {X : Cxt} {own : String} {cc : ByteArray} {nL n : Nat} {σ : Sto} {lv : List (Nat × Value)} {st : List Value} {β : Type} {r : β} {F : Sto → Int32 → Option β} {a1 : Int32} {ix : Nat} (pc : Nat) (C : Cx G X own cc nL n) (hn : 6 < n) (h1 : Cond.methodLink own ix yX8_drift ∈ lw_gd) (hd : decode cc pc = .ok (.invokevirtual ix, 3)) (hsum : (st.map fun v => v.category).sum ≤ 8) (h : bd2 (f_X8_drift σ a1) F = some r) (kk : ∀ σ1 v, F σ1 v = some r → V G X nL σ1 lv (.int v :: st) (pc + 3)) : V G X nL σ lv (.int a1 :: .ref (G.1 39) :: st) pc := by
  obtain ⟨z, hz, h⟩ := bd2_some h
  exact v_callV pc C 39 1 [.int a1] st (c_f_X8_drift (xl X) G C.2.2.2.2.2.2.1 _ _ _ hz) hn (by decide) (by decide) (ce_39 G _ _) rfl (by decide +kernel) rfl h1 q_1126 q_1127 q_68 q_1128 rfl hsum hd (kk _ _ h)
-- f_X8_saveAll
def f_X8_saveAll_l2 (σ : Sto) (x1 : Int32) : Option ((Sto × Int32) ⊕ (Sto × Int32)) :=
  if (σ.1 39 8) ≤ x1 then (some (.inr (σ, x1))) else (gd (inB x1 7) (gd (inB x1 6) (bs (su σ 62 (x1).toNatClampNeg (σ.1 48 (x1).toNatClampNeg)) fun σ2 => gd (inB x1 7) (gd (inB x1 6) (bs (su σ2 63 (x1).toNatClampNeg (σ2.1 49 (x1).toNatClampNeg)) fun σ3 => bs (x1 + (1 : Int32)) fun z4 => some (.inl (σ3, z4)))))))
def f_X8_saveAll (σ : Sto) : Option (Sto) :=
  bs (0 : Int32) fun z1 => bE1 (lpF (fun t => f_X8_saveAll_l2 t.1 t.2) FU (σ, z1)) (fun σ5 z6 => some σ5)
theorem w_f_X8_saveAll_l2 {G : Wld} {X : Cxt} (C : Cx G X RX8 cX8_saveAll 2 1) {σ : Sto} {x1 : Int32} {y : (Sto × Int32) ⊕ (Sto × Int32)} (h : f_X8_saveAll_l2 σ x1 = some y) (hc : ∀ t : Sto × Int32, y = .inl t → V G X 2 t.1 [(0, .ref (G.1 39)), (1, .int t.2)] [] 2) {Ve : Sto × Int32 → Prop} (he : ∀ e, y = .inr e → Ve e) (hx : ∀ (σ : Sto) (x1 : Int32), Ve (σ, x1) → V G X 2 σ [(0, .ref (G.1 39)), (1, .int x1)] [] 40) : V G X 2 σ [(0, .ref (G.1 39)), (1, .int x1)] [] 2 := by
  unfold f_X8_saveAll_l2 at h
  refine v_iload_n 2 C 1 1 dX8_saveAll_2 rfl rfl ?_
  refine v_aload_n 3 C 0 0 dX8_saveAll_3 rfl rfl ?_
  refine g_X8_39_8 4 C dX8_saveAll_4 ?_
  refine v_icmp_ge 7 C 40 dX8_saveAll_7 (by decide) h (fun h => ?_) (fun h => ?_)
  · exact v_sub [0, 1] rfl (hx _ _ (he _ (Option.some.inj h).symm))
  · refine v_aload_n 10 C 0 0 dX8_saveAll_10 rfl rfl ?_
    refine g_X8_39_44 11 C dX8_saveAll_11 ?_
    refine v_iload_n 14 C 1 1 dX8_saveAll_14 rfl rfl ?_
    refine v_aload_n 15 C 0 0 dX8_saveAll_15 rfl rfl ?_
    refine g_X8_39_14 16 C dX8_saveAll_16 ?_
    refine v_iload_n 19 C 1 1 dX8_saveAll_19 rfl rfl ?_
    refine v_iald 20 C 48 (by decide) (ce_48 G) dX8_saveAll_20 h (fun h => ?_)
    refine b_iast 21 C 62 (by decide) (ce_62 G) dX8_saveAll_21 h (fun σ2 h => ?_)
    refine v_aload_n 22 C 0 0 dX8_saveAll_22 rfl rfl ?_
    refine g_X8_39_45 23 C dX8_saveAll_23 ?_
    refine v_iload_n 26 C 1 1 dX8_saveAll_26 rfl rfl ?_
    refine v_aload_n 27 C 0 0 dX8_saveAll_27 rfl rfl ?_
    refine g_X8_39_15 28 C dX8_saveAll_28 ?_
    refine v_iload_n 31 C 1 1 dX8_saveAll_31 rfl rfl ?_
    refine v_iald 32 C 49 (by decide) (ce_49 G) dX8_saveAll_32 h (fun h => ?_)
    refine b_iast 33 C 63 (by decide) (ce_63 G) dX8_saveAll_33 h (fun σ3 h => ?_)
    refine b_iinc 34 C 1 1 (1 : Int32) (lv2 := fun z4 => [(1, .int z4), (0, .ref (G.1 39))]) dX8_saveAll_34 rfl (by decide) (by decide) (fun _ => rfl) h (fun z4 h => ?_)
    refine v_goto 37 C 2 dX8_saveAll_37 (by decide) ?_
    exact v_sub [1, 0] rfl (hc _ (Option.some.inj h).symm)
theorem w_f_X8_saveAll {G : Wld} {X : Cxt} (C : Cx G X RX8 cX8_saveAll 2 1) {σ : Sto} {y : Sto} (h : f_X8_saveAll σ = some y) (hK : Rx G X none none y) : V G X 2 σ [(0, .ref (G.1 39))] [] 0 := by
  unfold f_X8_saveAll at h
  refine v_iconst 0 C (0 : Int32) dX8_saveAll_0 (by decide) ?_
  refine b_istore_n 1 C 1 (lv2 := fun z1 => [(1, .int z1), (0, .ref (G.1 39))]) dX8_saveAll_1 rfl (by decide) (fun _ => rfl) h (fun z1 h => ?_)
  refine v_sub [1, 0] rfl ?_
  refine lp_go (Vh := fun t => V G X 2 t.1 [(0, .ref (G.1 39)), (1, .int t.2)] [] 2) h ?_
  intro t7 y7 hy7 hc7 he7
  refine w_f_X8_saveAll_l2 C hy7 hc7 he7 (fun σ5 z6 h => ?_)
  dsimp only at h
  cases h
  exact v_vret 40 C hK dX8_saveAll_40
theorem c_f_X8_saveAll (l : Launch) (G : Wld) (hG : GI G) (σ : Sto) (y : Sto) (h : f_X8_saveAll σ = some y) : Ct l G yX8_saveAll cX8_saveAll 2 none 1 [.ref (G.1 39)] σ none y := by
  refine ct_intro RX8 hG (by decide) rfl (Nat.le_of_ble_eq_true rfl) (fun X hX C hK => ?_)
  subst hX
  exact w_f_X8_saveAll C h hK
theorem r_f_X8_saveAll {G : Wld} {X : Cxt} {own : String} {cc : ByteArray} {nL n : Nat} {σ : Sto} {lv : List (Nat × Value)} {st : List Value} {β : Type} {r : β} {F : Sto → Option β} {ix : Nat} (pc : Nat) (C : Cx G X own cc nL n) (hn : 1 < n) (h1 : Cond.methodLink own ix yX8_saveAll ∈ lw_gd) (hd : decode cc pc = .ok (.invokevirtual ix, 3)) (hsum : (st.map fun v => v.category).sum ≤ 8) (h : bd1 (f_X8_saveAll σ) F = some r) (kk : ∀ σ1, F σ1 = some r → V G X nL σ1 lv (st) (pc + 3)) : V G X nL σ lv (.ref (G.1 39) :: st) pc := by
  obtain ⟨z, hz, h⟩ := bd1_some h
  exact v_callV pc C 39 0 [] st (c_f_X8_saveAll (xl X) G C.2.2.2.2.2.2.1 _ _ hz) hn (by decide) (by decide) (ce_39 G _ _) rfl (by decide +kernel) rfl h1 q_1147 q_50 q_68 q_1148 rfl hsum hd (kk _ h)
-- f_X8_standBy
def f_X8_standBy_l11 (x2 : Int32) (x3 : Int32) (x4 : Int32) (x5 : Int32) (σ : Sto) (x6 : Int32) : Option ((Sto × Int32) ⊕ (Sto × Int32)) :=
  if (σ.1 39 8) ≤ x6 then (some (.inr (σ, x6))) else (gd (inB x6 7) (bs (su σ 48 (x6).toNatClampNeg (-1 : Int32)) fun σ5 => bs (x6 + (1 : Int32)) fun z6 => some (.inl (σ5, z6))))
def f_X8_standBy_j109 (σ : Sto) (x2 : Int32) (x3 : Int32) (x4 : Int32) (x5 : Int32) (x6 : Int32) : Option ((Sto × Int32 × Int32 × Int32 × Int32) ⊕ (Sto × Int32 × Int32 × Int32 × Int32)) :=
  bs (x6 + (-1 : Int32)) fun z13 => some (.inl (σ, x3, x4, x5, z13))
def f_X8_standBy_j95 (σ : Sto) (x2 : Int32) (x3 : Int32) (x4 : Int32) (x6 : Int32) (x7 : Int32) (s0 : Int32) : Option ((Sto × Int32 × Int32 × Int32 × Int32) ⊕ (Sto × Int32 × Int32 × Int32 × Int32)) :=
  bs s0 fun z14 => gd (inB x7 7) (bs (su σ 48 (x7).toNatClampNeg x6) fun σ15 => bs (x4 + (1 : Int32)) fun z16 => f_X8_standBy_j109 σ15 x2 x3 z16 z14 x6)
def f_X8_standBy_j94 (σ : Sto) (x2 : Int32) (x3 : Int32) (x4 : Int32) (x6 : Int32) (x7 : Int32) : Option ((Sto × Int32 × Int32 × Int32 × Int32) ⊕ (Sto × Int32 × Int32 × Int32 × Int32)) :=
  f_X8_standBy_j95 σ x2 x3 x4 x6 x7 (0 : Int32)
def f_X8_standBy_l42 (x2 : Int32) (σ : Sto) (x3 : Int32) (x4 : Int32) (x5 : Int32) (x6 : Int32) : Option ((Sto × Int32 × Int32 × Int32 × Int32) ⊕ (Sto × Int32 × Int32 × Int32 × Int32)) :=
  if x6 < 0 then (some (.inr (σ, x3, x4, x5, x6))) else (gd (nzI ((σ.1 39 8) + (1 : Int32))) (bs (iR x3 ((σ.1 39 8) + (1 : Int32))) fun z11 => gd (nzI ((σ.1 39 8) + (1 : Int32))) (bs (x3 / ((σ.1 39 8) + (1 : Int32))) fun z12 => if (σ.1 39 8) ≤ z11 then (f_X8_standBy_j109 σ x2 z12 x4 x5 x6) else (if x5 = 0 then (f_X8_standBy_j94 σ x2 z12 x4 x6 z11) else (gd (inB z11 7) (if 0 ≤ (σ.1 48 (z11).toNatClampNeg) then (f_X8_standBy_j94 σ x2 z12 x4 x6 z11) else (f_X8_standBy_j95 σ x2 z12 x4 x6 z11 (1 : Int32))))))))
def f_X8_standBy_j131 (σ : Sto) (s0 : Int32) : Option (Sto × Int32) :=
  gd (zB s0) (some (σ, s0))
def f_X8_standBy_j130 (σ : Sto) : Option (Sto × Int32) :=
  f_X8_standBy_j131 σ (0 : Int32)
def f_X8_standBy (σ : Sto) (a1 : Int32) (a2 : Int32) : Option (Sto × Int32) :=
  bs a1 fun z1 => bs (0 : Int32) fun z2 => bs (1 : Int32) fun z3 => bs (0 : Int32) fun z4 => bE1 (lpF (fun t => f_X8_standBy_l11 a2 z1 z2 z3 t.1 t.2) FU (σ, z4)) (fun σ7 z8 => bs ((σ7.1 39 4) - (1 : Int32)) fun z10 => bE4 (lpF (fun t => f_X8_standBy_l42 a2 t.1 t.2.1 t.2.2.1 t.2.2.2.1 t.2.2.2.2) FU (σ7, z1, z2, z3, z10)) (fun σ17 z18 z19 z20 z21 => if z20 = 0 then (f_X8_standBy_j130 σ17) else (if z19 = a2 then (f_X8_standBy_j131 σ17 (1 : Int32)) else (f_X8_standBy_j130 σ17))))
theorem w_f_X8_standBy_l11 {G : Wld} {X : Cxt} (C : Cx G X RX8 cX8_standBy 8 1) {x2 : Int32} {x3 : Int32} {x4 : Int32} {x5 : Int32} {σ : Sto} {x6 : Int32} {y : (Sto × Int32) ⊕ (Sto × Int32)} (h : f_X8_standBy_l11 x2 x3 x4 x5 σ x6 = some y) (hc : ∀ t : Sto × Int32, y = .inl t → V G X 8 t.1 [(0, .ref (G.1 39)), (2, .int x2), (3, .int x3), (4, .int x4), (5, .int x5), (6, .int t.2)] [] 11) {Ve : Sto × Int32 → Prop} (he : ∀ e, y = .inr e → Ve e) (hx : ∀ (σ : Sto) (x6 : Int32), Ve (σ, x6) → V G X 8 σ [(0, .ref (G.1 39)), (2, .int x2), (3, .int x3), (4, .int x4), (5, .int x5), (6, .int x6)] [] 34) : V G X 8 σ [(0, .ref (G.1 39)), (2, .int x2), (3, .int x3), (4, .int x4), (5, .int x5), (6, .int x6)] [] 11 := by
  unfold f_X8_standBy_l11 at h
  refine v_iload 11 C 6 5 dX8_standBy_11 rfl ?_
  refine v_aload_n 13 C 0 0 dX8_standBy_13 rfl rfl ?_
  refine g_X8_39_8 14 C dX8_standBy_14 ?_
  refine v_icmp_ge 17 C 34 dX8_standBy_17 (by decide) h (fun h => ?_) (fun h => ?_)
  · exact v_sub [0, 1, 2, 3, 4, 5] rfl (hx _ _ (he _ (Option.some.inj h).symm))
  · refine v_aload_n 20 C 0 0 dX8_standBy_20 rfl rfl ?_
    refine g_X8_39_14 21 C dX8_standBy_21 ?_
    refine v_iload 24 C 6 5 dX8_standBy_24 rfl ?_
    refine v_iconst 26 C (-1 : Int32) dX8_standBy_26 (by decide) ?_
    refine b_iast 27 C 48 (by decide) (ce_48 G) dX8_standBy_27 h (fun σ5 h => ?_)
    refine b_iinc 28 C 6 5 (1 : Int32) (lv2 := fun z6 => [(6, .int z6), (0, .ref (G.1 39)), (2, .int x2), (3, .int x3), (4, .int x4), (5, .int x5)]) dX8_standBy_28 rfl (by decide) (by decide) (fun _ => rfl) h (fun z6 h => ?_)
    refine v_goto 31 C 11 dX8_standBy_31 (by decide) ?_
    exact v_sub [1, 2, 3, 4, 5, 0] rfl (hc _ (Option.some.inj h).symm)
theorem w_f_X8_standBy_j109 {G : Wld} {X : Cxt} (C : Cx G X RX8 cX8_standBy 8 1) {σ : Sto} {x2 : Int32} {x3 : Int32} {x4 : Int32} {x5 : Int32} {x6 : Int32} {y : (Sto × Int32 × Int32 × Int32 × Int32) ⊕ (Sto × Int32 × Int32 × Int32 × Int32)} (h : f_X8_standBy_j109 σ x2 x3 x4 x5 x6 = some y) (hc : ∀ t : Sto × Int32 × Int32 × Int32 × Int32, y = .inl t → V G X 8 t.1 [(0, .ref (G.1 39)), (2, .int x2), (3, .int t.2.1), (4, .int t.2.2.1), (5, .int t.2.2.2.1), (6, .int t.2.2.2.2)] [] 42) {Ve : Sto × Int32 × Int32 × Int32 × Int32 → Prop} (he : ∀ e, y = .inr e → Ve e) (hx : ∀ (σ : Sto) (x3 : Int32) (x4 : Int32) (x5 : Int32) (x6 : Int32), Ve (σ, x3, x4, x5, x6) → V G X 8 σ [(0, .ref (G.1 39)), (2, .int x2), (3, .int x3), (4, .int x4), (5, .int x5), (6, .int x6)] [] 115) : V G X 8 σ [(0, .ref (G.1 39)), (2, .int x2), (3, .int x3), (4, .int x4), (5, .int x5), (6, .int x6)] [] 109 := by
  unfold f_X8_standBy_j109 at h
  refine b_iinc 109 C 6 5 (-1 : Int32) (lv2 := fun z13 => [(6, .int z13), (0, .ref (G.1 39)), (2, .int x2), (3, .int x3), (4, .int x4), (5, .int x5)]) dX8_standBy_109 rfl (by decide) (by decide) (fun _ => rfl) h (fun z13 h => ?_)
  refine v_goto 112 C 42 dX8_standBy_112 (by decide) ?_
  exact v_sub [1, 2, 3, 4, 5, 0] rfl (hc _ (Option.some.inj h).symm)
theorem w_f_X8_standBy_j95 {G : Wld} {X : Cxt} (C : Cx G X RX8 cX8_standBy 8 1) {σ : Sto} {x2 : Int32} {x3 : Int32} {x4 : Int32} {x6 : Int32} {x7 : Int32} {s0 : Int32} {y : (Sto × Int32 × Int32 × Int32 × Int32) ⊕ (Sto × Int32 × Int32 × Int32 × Int32)} (h : f_X8_standBy_j95 σ x2 x3 x4 x6 x7 s0 = some y) (hc : ∀ t : Sto × Int32 × Int32 × Int32 × Int32, y = .inl t → V G X 8 t.1 [(0, .ref (G.1 39)), (2, .int x2), (3, .int t.2.1), (4, .int t.2.2.1), (5, .int t.2.2.2.1), (6, .int t.2.2.2.2)] [] 42) {Ve : Sto × Int32 × Int32 × Int32 × Int32 → Prop} (he : ∀ e, y = .inr e → Ve e) (hx : ∀ (σ : Sto) (x3 : Int32) (x4 : Int32) (x5 : Int32) (x6 : Int32), Ve (σ, x3, x4, x5, x6) → V G X 8 σ [(0, .ref (G.1 39)), (2, .int x2), (3, .int x3), (4, .int x4), (5, .int x5), (6, .int x6)] [] 115) : V G X 8 σ [(0, .ref (G.1 39)), (2, .int x2), (3, .int x3), (4, .int x4), (6, .int x6), (7, .int x7)] [.int s0] 95 := by
  unfold f_X8_standBy_j95 at h
  refine b_istore 95 C 5 (lv2 := fun z14 => [(5, .int z14), (0, .ref (G.1 39)), (2, .int x2), (3, .int x3), (4, .int x4), (6, .int x6), (7, .int x7)]) dX8_standBy_95 (by decide) (fun _ => rfl) h (fun z14 h => ?_)
  refine v_aload_n 97 C 0 1 dX8_standBy_97 rfl rfl ?_
  refine g_X8_39_14 98 C dX8_standBy_98 ?_
  refine v_iload 101 C 7 6 dX8_standBy_101 rfl ?_
  refine v_iload 103 C 6 5 dX8_standBy_103 rfl ?_
  refine b_iast 105 C 48 (by decide) (ce_48 G) dX8_standBy_105 h (fun σ15 h => ?_)
  refine b_iinc 106 C 4 4 (1 : Int32) (lv2 := fun z16 => [(4, .int z16), (5, .int z14), (0, .ref (G.1 39)), (2, .int x2), (3, .int x3), (6, .int x6), (7, .int x7)]) dX8_standBy_106 rfl (by decide) (by decide) (fun _ => rfl) h (fun z16 h => ?_)
  exact v_sub [2, 3, 4, 0, 1, 5] rfl (w_f_X8_standBy_j109 C h hc he hx)
theorem w_f_X8_standBy_j94 {G : Wld} {X : Cxt} (C : Cx G X RX8 cX8_standBy 8 1) {σ : Sto} {x2 : Int32} {x3 : Int32} {x4 : Int32} {x6 : Int32} {x7 : Int32} {y : (Sto × Int32 × Int32 × Int32 × Int32) ⊕ (Sto × Int32 × Int32 × Int32 × Int32)} (h : f_X8_standBy_j94 σ x2 x3 x4 x6 x7 = some y) (hc : ∀ t : Sto × Int32 × Int32 × Int32 × Int32, y = .inl t → V G X 8 t.1 [(0, .ref (G.1 39)), (2, .int x2), (3, .int t.2.1), (4, .int t.2.2.1), (5, .int t.2.2.2.1), (6, .int t.2.2.2.2)] [] 42) {Ve : Sto × Int32 × Int32 × Int32 × Int32 → Prop} (he : ∀ e, y = .inr e → Ve e) (hx : ∀ (σ : Sto) (x3 : Int32) (x4 : Int32) (x5 : Int32) (x6 : Int32), Ve (σ, x3, x4, x5, x6) → V G X 8 σ [(0, .ref (G.1 39)), (2, .int x2), (3, .int x3), (4, .int x4), (5, .int x5), (6, .int x6)] [] 115) : V G X 8 σ [(0, .ref (G.1 39)), (2, .int x2), (3, .int x3), (4, .int x4), (6, .int x6), (7, .int x7)] [] 94 := by
  unfold f_X8_standBy_j94 at h
  refine v_iconst 94 C (0 : Int32) dX8_standBy_94 (by decide) ?_
  exact v_sub [0, 1, 2, 3, 4, 5] rfl (w_f_X8_standBy_j95 C h hc he hx)
theorem w_f_X8_standBy_l42 {G : Wld} {X : Cxt} (C : Cx G X RX8 cX8_standBy 8 1) {x2 : Int32} {σ : Sto} {x3 : Int32} {x4 : Int32} {x5 : Int32} {x6 : Int32} {y : (Sto × Int32 × Int32 × Int32 × Int32) ⊕ (Sto × Int32 × Int32 × Int32 × Int32)} (h : f_X8_standBy_l42 x2 σ x3 x4 x5 x6 = some y) (hc : ∀ t : Sto × Int32 × Int32 × Int32 × Int32, y = .inl t → V G X 8 t.1 [(0, .ref (G.1 39)), (2, .int x2), (3, .int t.2.1), (4, .int t.2.2.1), (5, .int t.2.2.2.1), (6, .int t.2.2.2.2)] [] 42) {Ve : Sto × Int32 × Int32 × Int32 × Int32 → Prop} (he : ∀ e, y = .inr e → Ve e) (hx : ∀ (σ : Sto) (x3 : Int32) (x4 : Int32) (x5 : Int32) (x6 : Int32), Ve (σ, x3, x4, x5, x6) → V G X 8 σ [(0, .ref (G.1 39)), (2, .int x2), (3, .int x3), (4, .int x4), (5, .int x5), (6, .int x6)] [] 115) : V G X 8 σ [(0, .ref (G.1 39)), (2, .int x2), (3, .int x3), (4, .int x4), (5, .int x5), (6, .int x6)] [] 42 := by
  unfold f_X8_standBy_l42 at h
  refine v_iload 42 C 6 5 dX8_standBy_42 rfl ?_
  refine v_if_lt 44 C 115 dX8_standBy_44 (by decide) h (fun h => ?_) (fun h => ?_)
  · exact v_sub [0, 1, 2, 3, 4, 5] rfl (hx _ _ _ _ _ (he _ (Option.some.inj h).symm))
  · refine v_iload_n 47 C 3 2 dX8_standBy_47 rfl rfl ?_
    refine v_aload_n 48 C 0 0 dX8_standBy_48 rfl rfl ?_
    refine g_X8_39_8 49 C dX8_standBy_49 ?_
    refine v_iconst 52 C (1 : Int32) dX8_standBy_52 (by decide) ?_
    refine v_iadd 53 C dX8_standBy_53 ?_
    refine v_irem 54 C dX8_standBy_54 h (fun h => ?_)
    refine b_istore 55 C 7 (lv2 := fun z11 => [(7, .int z11), (0, .ref (G.1 39)), (2, .int x2), (3, .int x3), (4, .int x4), (5, .int x5), (6, .int x6)]) dX8_standBy_55 (by decide) (fun _ => rfl) h (fun z11 h => ?_)
    refine v_iload_n 57 C 3 3 dX8_standBy_57 rfl rfl ?_
    refine v_aload_n 58 C 0 1 dX8_standBy_58 rfl rfl ?_
    refine g_X8_39_8 59 C dX8_standBy_59 ?_
    refine v_iconst 62 C (1 : Int32) dX8_standBy_62 (by decide) ?_
    refine v_iadd 63 C dX8_standBy_63 ?_
    refine v_idiv 64 C dX8_standBy_64 h (fun h => ?_)
    refine b_istore_n 65 C 3 (lv2 := fun z12 => [(3, .int z12), (7, .int z11), (0, .ref (G.1 39)), (2, .int x2), (4, .int x4), (5, .int x5), (6, .int x6)]) dX8_standBy_65 rfl (by decide) (fun _ => rfl) h (fun z12 h => ?_)
    refine v_iload 66 C 7 1 dX8_standBy_66 rfl ?_
    refine v_aload_n 68 C 0 2 dX8_standBy_68 rfl rfl ?_
    refine g_X8_39_8 69 C dX8_standBy_69 ?_
    refine v_icmp_ge 72 C 109 dX8_standBy_72 (by decide) h (fun h => ?_) (fun h => ?_)
    · exact v_sub [2, 3, 0, 4, 5, 6] rfl (w_f_X8_standBy_j109 C h hc he hx)
    · refine v_iload 75 C 5 5 dX8_standBy_75 rfl ?_
      refine v_if_eq 77 C 94 dX8_standBy_77 (by decide) h (fun h => ?_) (fun h => ?_)
      · exact v_sub [2, 3, 0, 4, 6, 1] rfl (w_f_X8_standBy_j94 C h hc he hx)
      · refine v_aload_n 80 C 0 2 dX8_standBy_80 rfl rfl ?_
        refine g_X8_39_14 81 C dX8_standBy_81 ?_
        refine v_iload 84 C 7 1 dX8_standBy_84 rfl ?_
        refine v_iald 86 C 48 (by decide) (ce_48 G) dX8_standBy_86 h (fun h => ?_)
        refine v_if_ge 87 C 94 dX8_standBy_87 (by decide) h (fun h => ?_) (fun h => ?_)
        · exact v_sub [2, 3, 0, 4, 6, 1] rfl (w_f_X8_standBy_j94 C h hc he hx)
        · refine v_iconst 90 C (1 : Int32) dX8_standBy_90 (by decide) ?_
          refine v_goto 91 C 95 dX8_standBy_91 (by decide) ?_
          exact v_sub [2, 3, 0, 4, 6, 1] rfl (w_f_X8_standBy_j95 C h hc he hx)
theorem w_f_X8_standBy_j131 {G : Wld} {X : Cxt} (C : Cx G X RX8 cX8_standBy 8 1) {σ : Sto} {s0 : Int32} {y : Sto × Int32} (h : f_X8_standBy_j131 σ s0 = some y) (hK : Rx G X (some .boolean) (some (.int y.2)) y.1) : V G X 8 σ [(0, .ref (G.1 39))] [.int s0] 131 := by
  unfold f_X8_standBy_j131 at h
  obtain ⟨hz, h⟩ := gd_some h
  cases h
  exact v_zret 131 C (zB_nar hz) hK dX8_standBy_131
theorem w_f_X8_standBy_j130 {G : Wld} {X : Cxt} (C : Cx G X RX8 cX8_standBy 8 1) {σ : Sto} {y : Sto × Int32} (h : f_X8_standBy_j130 σ = some y) (hK : Rx G X (some .boolean) (some (.int y.2)) y.1) : V G X 8 σ [(0, .ref (G.1 39))] [] 130 := by
  unfold f_X8_standBy_j130 at h
  refine v_iconst 130 C (0 : Int32) dX8_standBy_130 (by decide) ?_
  exact v_sub [0] rfl (w_f_X8_standBy_j131 C h hK)
theorem w_f_X8_standBy {G : Wld} {X : Cxt} (C : Cx G X RX8 cX8_standBy 8 1) {σ : Sto} {a1 : Int32} {a2 : Int32} {y : Sto × Int32} (h : f_X8_standBy σ a1 a2 = some y) (hK : Rx G X (some .boolean) (some (.int y.2)) y.1) : V G X 8 σ [(0, .ref (G.1 39)), (1, .int a1), (2, .int a2)] [] 0 := by
  unfold f_X8_standBy at h
  refine v_iload_n 0 C 1 1 dX8_standBy_0 rfl rfl ?_
  refine b_istore_n 1 C 3 (lv2 := fun z1 => [(3, .int z1), (0, .ref (G.1 39)), (1, .int a1), (2, .int a2)]) dX8_standBy_1 rfl (by decide) (fun _ => rfl) h (fun z1 h => ?_)
  refine v_iconst 2 C (0 : Int32) dX8_standBy_2 (by decide) ?_
  refine b_istore 3 C 4 (lv2 := fun z2 => [(4, .int z2), (3, .int z1), (0, .ref (G.1 39)), (1, .int a1), (2, .int a2)]) dX8_standBy_3 (by decide) (fun _ => rfl) h (fun z2 h => ?_)
  refine v_iconst 5 C (1 : Int32) dX8_standBy_5 (by decide) ?_
  refine b_istore 6 C 5 (lv2 := fun z3 => [(5, .int z3), (4, .int z2), (3, .int z1), (0, .ref (G.1 39)), (1, .int a1), (2, .int a2)]) dX8_standBy_6 (by decide) (fun _ => rfl) h (fun z3 h => ?_)
  refine v_iconst 8 C (0 : Int32) dX8_standBy_8 (by decide) ?_
  refine b_istore 9 C 6 (lv2 := fun z4 => [(6, .int z4), (5, .int z3), (4, .int z2), (3, .int z1), (0, .ref (G.1 39)), (1, .int a1), (2, .int a2)]) dX8_standBy_9 (by decide) (fun _ => rfl) h (fun z4 h => ?_)
  refine v_sub [4, 6, 3, 2, 1, 0] rfl ?_
  refine lp_go (Vh := fun t => V G X 8 t.1 [(0, .ref (G.1 39)), (2, .int a2), (3, .int z1), (4, .int z2), (5, .int z3), (6, .int t.2)] [] 11) h ?_
  intro t9 y9 hy9 hc9 he9
  refine w_f_X8_standBy_l11 C hy9 hc9 he9 (fun σ7 z8 h => ?_)
  dsimp only at h
  refine v_aload_n 34 C 0 0 dX8_standBy_34 rfl rfl ?_
  refine g_X8_39_4 35 C dX8_standBy_35 ?_
  refine v_iconst 38 C (1 : Int32) dX8_standBy_38 (by decide) ?_
  refine v_isub 39 C dX8_standBy_39 ?_
  refine b_istore 40 C 6 (lv2 := fun z10 => [(6, .int z10), (0, .ref (G.1 39)), (2, .int a2), (3, .int z1), (4, .int z2), (5, .int z3)]) dX8_standBy_40 (by decide) (fun _ => rfl) h (fun z10 h => ?_)
  refine v_sub [1, 2, 3, 4, 5, 0] rfl ?_
  refine lp_go (Vh := fun t => V G X 8 t.1 [(0, .ref (G.1 39)), (2, .int a2), (3, .int t.2.1), (4, .int t.2.2.1), (5, .int t.2.2.2.1), (6, .int t.2.2.2.2)] [] 42) h ?_
  intro t22 y22 hy22 hc22 he22
  refine w_f_X8_standBy_l42 C hy22 hc22 he22 (fun σ17 z18 z19 z20 z21 h => ?_)
  dsimp only at h
  refine v_iload 115 C 5 4 dX8_standBy_115 rfl ?_
  refine v_if_eq 117 C 130 dX8_standBy_117 (by decide) h (fun h => ?_) (fun h => ?_)
  · exact v_sub [0] rfl (w_f_X8_standBy_j130 C h hK)
  · refine v_iload 120 C 4 3 dX8_standBy_120 rfl ?_
    refine v_iload_n 122 C 2 1 dX8_standBy_122 rfl rfl ?_
    refine v_icmp_ne 123 C 130 dX8_standBy_123 (by decide) h (fun h => ?_) (fun h => ?_)
    · exact v_sub [0] rfl (w_f_X8_standBy_j130 C h hK)
    · refine v_iconst 126 C (1 : Int32) dX8_standBy_126 (by decide) ?_
      refine v_goto 127 C 131 dX8_standBy_127 (by decide) ?_
      exact v_sub [0] rfl (w_f_X8_standBy_j131 C h hK)
theorem c_f_X8_standBy (l : Launch) (G : Wld) (hG : GI G) (σ : Sto) (a1 : Int32) (a2 : Int32) (y : Sto × Int32) (h : f_X8_standBy σ a1 a2 = some y) : Ct l G yX8_standBy cX8_standBy 8 (some .boolean) 1 [.ref (G.1 39), .int a1, .int a2] σ (some (.int y.2)) y.1 := by
  refine ct_intro RX8 hG (by decide) rfl (Nat.le_of_ble_eq_true rfl) (fun X hX C hK => ?_)
  subst hX
  exact w_f_X8_standBy C h hK
theorem r_f_X8_standBy {G : Wld} {X : Cxt} {own : String} {cc : ByteArray} {nL n : Nat} {σ : Sto} {lv : List (Nat × Value)} {st : List Value} {β : Type} {r : β} {F : Sto → Int32 → Option β} {a1 : Int32} {a2 : Int32} {ix : Nat} (pc : Nat) (C : Cx G X own cc nL n) (hn : 1 < n) (h1 : Cond.methodLink own ix yX8_standBy ∈ lw_gd) (hd : decode cc pc = .ok (.invokevirtual ix, 3)) (hsum : (st.map fun v => v.category).sum ≤ 8) (h : bd2 (f_X8_standBy σ a1 a2) F = some r) (kk : ∀ σ1 v, F σ1 v = some r → V G X nL σ1 lv (.int v :: st) (pc + 3)) : V G X nL σ lv (.int a2 :: .int a1 :: .ref (G.1 39) :: st) pc := by
  obtain ⟨z, hz, h⟩ := bd2_some h
  exact v_callV pc C 39 2 [.int a1, .int a2] st (c_f_X8_standBy (xl X) G C.2.2.2.2.2.2.1 _ _ _ _ hz) hn (by decide) (by decide) (ce_39 G _ _) rfl (by decide +kernel) rfl h1 q_1156 q_52 q_68 q_1157 rfl hsum hd (kk _ _ h)
-- f_X8_almsOfAll
def f_X8_almsOfAll_l4 (x1 : Int32) (σ : Sto) (x2 : Int32) (x3 : Int32) : Option ((Sto × Int32 × Int32) ⊕ (Sto × Int32 × Int32)) :=
  if x1 ≤ x3 then (some (.inr (σ, x2, x3))) else (bd2 (f_X8_almsOf σ x3) fun σ3 v4 => bs (x2 + v4) fun z5 => bs (x3 + (1 : Int32)) fun z6 => some (.inl (σ3, z5, z6)))
def f_X8_almsOfAll (σ : Sto) (a1 : Int32) : Option (Sto × Int32) :=
  bs (0 : Int32) fun z1 => bs (0 : Int32) fun z2 => bE2 (lpF (fun t => f_X8_almsOfAll_l4 a1 t.1 t.2.1 t.2.2) FU (σ, z1, z2)) (fun σ7 z8 z9 => some (σ7, z8))
theorem w_f_X8_almsOfAll_l4 {G : Wld} {X : Cxt} (C : Cx G X RX8 cX8_almsOfAll 4 3) {x1 : Int32} {σ : Sto} {x2 : Int32} {x3 : Int32} {y : (Sto × Int32 × Int32) ⊕ (Sto × Int32 × Int32)} (h : f_X8_almsOfAll_l4 x1 σ x2 x3 = some y) (hc : ∀ t : Sto × Int32 × Int32, y = .inl t → V G X 4 t.1 [(0, .ref (G.1 39)), (1, .int x1), (2, .int t.2.1), (3, .int t.2.2)] [] 4) {Ve : Sto × Int32 × Int32 → Prop} (he : ∀ e, y = .inr e → Ve e) (hx : ∀ (σ : Sto) (x2 : Int32) (x3 : Int32), Ve (σ, x2, x3) → V G X 4 σ [(0, .ref (G.1 39)), (1, .int x1), (2, .int x2), (3, .int x3)] [] 23) : V G X 4 σ [(0, .ref (G.1 39)), (1, .int x1), (2, .int x2), (3, .int x3)] [] 4 := by
  unfold f_X8_almsOfAll_l4 at h
  refine v_iload_n 4 C 3 3 dX8_almsOfAll_4 rfl rfl ?_
  refine v_iload_n 5 C 1 1 dX8_almsOfAll_5 rfl rfl ?_
  refine v_icmp_ge 6 C 23 dX8_almsOfAll_6 (by decide) h (fun h => ?_) (fun h => ?_)
  · exact v_sub [0, 1, 2, 3] rfl (hx _ _ _ (he _ (Option.some.inj h).symm))
  · refine v_iload_n 9 C 2 2 dX8_almsOfAll_9 rfl rfl ?_
    refine v_aload_n 10 C 0 0 dX8_almsOfAll_10 rfl rfl ?_
    refine v_iload_n 11 C 3 3 dX8_almsOfAll_11 rfl rfl ?_
    refine r_f_X8_almsOf 12 C (by decide) q_1086 dX8_almsOfAll_12 (Nat.le_of_ble_eq_true rfl) h (fun σ3 v4 h => ?_)
    refine v_iadd 15 C dX8_almsOfAll_15 ?_
    refine b_istore_n 16 C 2 (lv2 := fun z5 => [(2, .int z5), (0, .ref (G.1 39)), (1, .int x1), (3, .int x3)]) dX8_almsOfAll_16 rfl (by decide) (fun _ => rfl) h (fun z5 h => ?_)
    refine b_iinc 17 C 3 3 (1 : Int32) (lv2 := fun z6 => [(3, .int z6), (2, .int z5), (0, .ref (G.1 39)), (1, .int x1)]) dX8_almsOfAll_17 rfl (by decide) (by decide) (fun _ => rfl) h (fun z6 h => ?_)
    refine v_goto 20 C 4 dX8_almsOfAll_20 (by decide) ?_
    exact v_sub [2, 3, 1, 0] rfl (hc _ (Option.some.inj h).symm)
theorem w_f_X8_almsOfAll {G : Wld} {X : Cxt} (C : Cx G X RX8 cX8_almsOfAll 4 3) {σ : Sto} {a1 : Int32} {y : Sto × Int32} (h : f_X8_almsOfAll σ a1 = some y) (hK : Rx G X (some .int) (some (.int y.2)) y.1) : V G X 4 σ [(0, .ref (G.1 39)), (1, .int a1)] [] 0 := by
  unfold f_X8_almsOfAll at h
  refine v_iconst 0 C (0 : Int32) dX8_almsOfAll_0 (by decide) ?_
  refine b_istore_n 1 C 2 (lv2 := fun z1 => [(2, .int z1), (0, .ref (G.1 39)), (1, .int a1)]) dX8_almsOfAll_1 rfl (by decide) (fun _ => rfl) h (fun z1 h => ?_)
  refine v_iconst 2 C (0 : Int32) dX8_almsOfAll_2 (by decide) ?_
  refine b_istore_n 3 C 3 (lv2 := fun z2 => [(3, .int z2), (2, .int z1), (0, .ref (G.1 39)), (1, .int a1)]) dX8_almsOfAll_3 rfl (by decide) (fun _ => rfl) h (fun z2 h => ?_)
  refine v_sub [2, 3, 1, 0] rfl ?_
  refine lp_go (Vh := fun t => V G X 4 t.1 [(0, .ref (G.1 39)), (1, .int a1), (2, .int t.2.1), (3, .int t.2.2)] [] 4) h ?_
  intro t10 y10 hy10 hc10 he10
  refine w_f_X8_almsOfAll_l4 C hy10 hc10 he10 (fun σ7 z8 z9 h => ?_)
  dsimp only at h
  refine v_iload_n 23 C 2 2 dX8_almsOfAll_23 rfl rfl ?_
  cases h
  exact v_iret 24 C hK dX8_almsOfAll_24
theorem c_f_X8_almsOfAll (l : Launch) (G : Wld) (hG : GI G) (σ : Sto) (a1 : Int32) (y : Sto × Int32) (h : f_X8_almsOfAll σ a1 = some y) : Ct l G yX8_almsOfAll cX8_almsOfAll 4 (some .int) 3 [.ref (G.1 39), .int a1] σ (some (.int y.2)) y.1 := by
  refine ct_intro RX8 hG (by decide) rfl (Nat.le_of_ble_eq_true rfl) (fun X hX C hK => ?_)
  subst hX
  exact w_f_X8_almsOfAll C h hK
theorem r_f_X8_almsOfAll {G : Wld} {X : Cxt} {own : String} {cc : ByteArray} {nL n : Nat} {σ : Sto} {lv : List (Nat × Value)} {st : List Value} {β : Type} {r : β} {F : Sto → Int32 → Option β} {a1 : Int32} {ix : Nat} (pc : Nat) (C : Cx G X own cc nL n) (hn : 3 < n) (h1 : Cond.methodLink own ix yX8_almsOfAll ∈ lw_gd) (hd : decode cc pc = .ok (.invokevirtual ix, 3)) (hsum : (st.map fun v => v.category).sum ≤ 8) (h : bd2 (f_X8_almsOfAll σ a1) F = some r) (kk : ∀ σ1 v, F σ1 v = some r → V G X nL σ1 lv (.int v :: st) (pc + 3)) : V G X nL σ lv (.int a1 :: .ref (G.1 39) :: st) pc := by
  obtain ⟨z, hz, h⟩ := bd2_some h
  exact v_callV pc C 39 1 [.int a1] st (c_f_X8_almsOfAll (xl X) G C.2.2.2.2.2.2.1 _ _ _ hz) hn (by decide) (by decide) (ce_39 G _ _) rfl (by decide +kernel) rfl h1 q_1160 q_53 q_68 q_1161 rfl hsum hd (kk _ _ h)
