-- f_X8_findStanding
def f_X8_findStanding_l5 (x1 : Int32) (x2 : Int32) (σ : Sto) (x3 : Int32) (x4 : Int32) : Option ((Sto × Int32 × Int32) ⊕ (Sto × Int32 × Int32)) :=
  if (σ.1 39 4) ≤ x4 then (some (.inr (σ, x3, x4))) else (bs (x3 * ((σ.1 39 8) + (1 : Int32))) fun z3 => bs (x4 + (1 : Int32)) fun z4 => some (.inl (σ, z3, z4)))
def f_X8_findStanding_j166 (σ : Sto) (x1 : Int32) (x2 : Int32) (x3 : Int32) (x4 : Int32) (x5 : Int32) : Option ((Sto × Int32) ⊕ (Sto × Int32)) :=
  bs (x5 + (1 : Int32)) fun z14 => some (.inl (σ, z14))
def f_X8_findStanding_l134 (x1 : Int32) (x2 : Int32) (x3 : Int32) (x4 : Int32) (x5 : Int32) (σ : Sto) (x7 : Int32) : Option ((Sto × Int32) ⊕ (Sto × Int32)) :=
  if (σ.1 39 4) ≤ x7 then (some (.inr (σ, x7))) else (bd2 (f_X8_whoIsOn σ x7 (σ.1 39 8)) fun σ24 v25 => gd (inB x7 6) (bs (su σ24 64 (x7).toNatClampNeg v25) fun σ26 => bs (x7 + (1 : Int32)) fun z27 => some (.inl (σ26, z27))))
def f_X8_findStanding_j114 (σ : Sto) (x1 : Int32) (x2 : Int32) (x3 : Int32) (x4 : Int32) (x5 : Int32) (s0 : Int32) : Option ((Sto × Int32) ⊕ (Sto × Int32)) :=
  bs s0 fun z21 => if z21 ≤ (σ.1 39 47) then (f_X8_findStanding_j166 σ x1 x2 x3 x4 x5) else (bs (su σ 39 47 z21) fun σ22 => bs (0 : Int32) fun z23 => bE1 (lpF (fun t => f_X8_findStanding_l134 x1 x2 x3 x4 x5 t.1 t.2) FU (σ22, z23)) (fun σ28 z29 => f_X8_findStanding_j166 σ28 x1 x2 x3 x4 x5))
def f_X8_findStanding_l63 (x1 : Int32) (x2 : Int32) (x3 : Int32) (x4 : Int32) (σ : Sto) (x5 : Int32) : Option ((Sto × Int32) ⊕ (Sto × Int32)) :=
  if x3 ≤ x5 then (some (.inr (σ, x5))) else (bd2 (f_X8_standBy σ x5 x4) fun σ12 v13 => if v13 = 0 then (f_X8_findStanding_j166 σ12 x1 x2 x3 x4 x5) else (bd2 (f_X8_longNow σ12 x1) fun σ15 v16 => bd1 (f_X8_findAlms σ15 (σ12.1 39 8) v16) fun σ17 => if x2 = (-1 : Int32) then (bd2 (f_X8_almsOfAll σ17 (σ17.1 39 8)) fun σ31 v32 => f_X8_findStanding_j114 σ31 x1 x2 x3 x4 x5 v32) else (bd2 (f_X8_almsOf σ17 x2) fun σ19 v20 => f_X8_findStanding_j114 σ19 x1 x2 x3 x4 x5 v20)))
def f_X8_findStanding_j51 (σ : Sto) (x1 : Int32) (x2 : Int32) (x3 : Int32) (s0 : Int32) : Option (Sto) :=
  bs s0 fun z9 => bs (su σ 39 47 (-1000000000 : Int32)) fun σ10 => bs (0 : Int32) fun z11 => bE1 (lpF (fun t => f_X8_findStanding_l63 x1 x2 x3 z9 t.1 t.2) FU (σ10, z11)) (fun σ33 z34 => some σ33)
def f_X8_findStanding (σ : Sto) (a1 : Int32) (a2 : Int32) : Option (Sto) :=
  bs (1 : Int32) fun z1 => bs (0 : Int32) fun z2 => bE2 (lpF (fun t => f_X8_findStanding_l5 a1 a2 t.1 t.2.1 t.2.2) FU (σ, z1, z2)) (fun σ5 z6 z7 => if (σ5.1 39 8) ≤ (σ5.1 39 4) then (f_X8_findStanding_j51 σ5 a1 a2 z6 (σ5.1 39 8)) else (f_X8_findStanding_j51 σ5 a1 a2 z6 (σ5.1 39 4)))
theorem w_f_X8_findStanding_l5 {G : Wld} {X : Cxt} (C : Cx G X RX8 cX8_findStanding 8 4) {x1 : Int32} {x2 : Int32} {σ : Sto} {x3 : Int32} {x4 : Int32} {y : (Sto × Int32 × Int32) ⊕ (Sto × Int32 × Int32)} (h : f_X8_findStanding_l5 x1 x2 σ x3 x4 = some y) (hc : ∀ t : Sto × Int32 × Int32, y = .inl t → V G X 8 t.1 [(0, .ref (G.1 39)), (1, .int x1), (2, .int x2), (3, .int t.2.1), (4, .int t.2.2)] [] 5) {Ve : Sto × Int32 × Int32 → Prop} (he : ∀ e, y = .inr e → Ve e) (hx : ∀ (σ : Sto) (x3 : Int32) (x4 : Int32), Ve (σ, x3, x4) → V G X 8 σ [(0, .ref (G.1 39)), (1, .int x1), (2, .int x2), (3, .int x3), (4, .int x4)] [] 29) : V G X 8 σ [(0, .ref (G.1 39)), (1, .int x1), (2, .int x2), (3, .int x3), (4, .int x4)] [] 5 := by
  unfold f_X8_findStanding_l5 at h
  refine v_iload 5 C 4 4 dX8_findStanding_5 rfl ?_
  refine v_aload_n 7 C 0 0 dX8_findStanding_7 rfl rfl ?_
  refine g_X8_39_4 8 C dX8_findStanding_8 ?_
  refine v_icmp_ge 11 C 29 dX8_findStanding_11 (by decide) h (fun h => ?_) (fun h => ?_)
  · exact v_sub [0, 1, 2, 3, 4] rfl (hx _ _ _ (he _ (Option.some.inj h).symm))
  · refine v_iload_n 14 C 3 3 dX8_findStanding_14 rfl rfl ?_
    refine v_aload_n 15 C 0 0 dX8_findStanding_15 rfl rfl ?_
    refine g_X8_39_8 16 C dX8_findStanding_16 ?_
    refine v_iconst 19 C (1 : Int32) dX8_findStanding_19 (by decide) ?_
    refine v_iadd 20 C dX8_findStanding_20 ?_
    refine v_imul 21 C dX8_findStanding_21 ?_
    refine b_istore_n 22 C 3 (lv2 := fun z3 => [(3, .int z3), (0, .ref (G.1 39)), (1, .int x1), (2, .int x2), (4, .int x4)]) dX8_findStanding_22 rfl (by decide) (fun _ => rfl) h (fun z3 h => ?_)
    refine b_iinc 23 C 4 4 (1 : Int32) (lv2 := fun z4 => [(4, .int z4), (3, .int z3), (0, .ref (G.1 39)), (1, .int x1), (2, .int x2)]) dX8_findStanding_23 rfl (by decide) (by decide) (fun _ => rfl) h (fun z4 h => ?_)
    refine v_goto 26 C 5 dX8_findStanding_26 (by decide) ?_
    exact v_sub [2, 3, 4, 1, 0] rfl (hc _ (Option.some.inj h).symm)
theorem w_f_X8_findStanding_j166 {G : Wld} {X : Cxt} (C : Cx G X RX8 cX8_findStanding 8 4) {σ : Sto} {x1 : Int32} {x2 : Int32} {x3 : Int32} {x4 : Int32} {x5 : Int32} {y : (Sto × Int32) ⊕ (Sto × Int32)} (h : f_X8_findStanding_j166 σ x1 x2 x3 x4 x5 = some y) (hc : ∀ t : Sto × Int32, y = .inl t → V G X 8 t.1 [(0, .ref (G.1 39)), (1, .int x1), (2, .int x2), (3, .int x3), (4, .int x4), (5, .int t.2)] [] 63) {Ve : Sto × Int32 → Prop} (he : ∀ e, y = .inr e → Ve e) (hx : ∀ (σ : Sto) (x5 : Int32), Ve (σ, x5) → V G X 8 σ [(0, .ref (G.1 39)), (1, .int x1), (2, .int x2), (3, .int x3), (4, .int x4), (5, .int x5)] [] 172) : V G X 8 σ [(0, .ref (G.1 39)), (1, .int x1), (2, .int x2), (3, .int x3), (4, .int x4), (5, .int x5)] [] 166 := by
  unfold f_X8_findStanding_j166 at h
  refine b_iinc 166 C 5 5 (1 : Int32) (lv2 := fun z14 => [(5, .int z14), (0, .ref (G.1 39)), (1, .int x1), (2, .int x2), (3, .int x3), (4, .int x4)]) dX8_findStanding_166 rfl (by decide) (by decide) (fun _ => rfl) h (fun z14 h => ?_)
  refine v_goto 169 C 63 dX8_findStanding_169 (by decide) ?_
  exact v_sub [1, 2, 3, 4, 5, 0] rfl (hc _ (Option.some.inj h).symm)
theorem w_f_X8_findStanding_l134 {G : Wld} {X : Cxt} (C : Cx G X RX8 cX8_findStanding 8 4) {x1 : Int32} {x2 : Int32} {x3 : Int32} {x4 : Int32} {x5 : Int32} {σ : Sto} {x7 : Int32} {y : (Sto × Int32) ⊕ (Sto × Int32)} (h : f_X8_findStanding_l134 x1 x2 x3 x4 x5 σ x7 = some y) (hc : ∀ t : Sto × Int32, y = .inl t → V G X 8 t.1 [(0, .ref (G.1 39)), (1, .int x1), (2, .int x2), (3, .int x3), (4, .int x4), (5, .int x5), (7, .int t.2)] [] 134) {Ve : Sto × Int32 → Prop} (he : ∀ e, y = .inr e → Ve e) (hx : ∀ (σ : Sto) (x7 : Int32), Ve (σ, x7) → V G X 8 σ [(0, .ref (G.1 39)), (1, .int x1), (2, .int x2), (3, .int x3), (4, .int x4), (5, .int x5), (7, .int x7)] [] 166) : V G X 8 σ [(0, .ref (G.1 39)), (1, .int x1), (2, .int x2), (3, .int x3), (4, .int x4), (5, .int x5), (7, .int x7)] [] 134 := by
  unfold f_X8_findStanding_l134 at h
  refine v_iload 134 C 7 6 dX8_findStanding_134 rfl ?_
  refine v_aload_n 136 C 0 0 dX8_findStanding_136 rfl rfl ?_
  refine g_X8_39_4 137 C dX8_findStanding_137 ?_
  refine v_icmp_ge 140 C 166 dX8_findStanding_140 (by decide) h (fun h => ?_) (fun h => ?_)
  · exact v_sub [0, 1, 2, 3, 4, 5, 6] rfl (hx _ _ (he _ (Option.some.inj h).symm))
  · refine v_aload_n 143 C 0 0 dX8_findStanding_143 rfl rfl ?_
    refine g_X8_39_46 144 C dX8_findStanding_144 ?_
    refine v_iload 147 C 7 6 dX8_findStanding_147 rfl ?_
    refine v_aload_n 149 C 0 0 dX8_findStanding_149 rfl rfl ?_
    refine v_iload 150 C 7 6 dX8_findStanding_150 rfl ?_
    refine v_aload_n 152 C 0 0 dX8_findStanding_152 rfl rfl ?_
    refine g_X8_39_8 153 C dX8_findStanding_153 ?_
    refine r_f_X8_whoIsOn 156 C (by decide) q_1038 dX8_findStanding_156 (Nat.le_of_ble_eq_true rfl) h (fun σ24 v25 h => ?_)
    refine b_iast 159 C 64 (by decide) (ce_64 G) dX8_findStanding_159 h (fun σ26 h => ?_)
    refine b_iinc 160 C 7 6 (1 : Int32) (lv2 := fun z27 => [(7, .int z27), (0, .ref (G.1 39)), (1, .int x1), (2, .int x2), (3, .int x3), (4, .int x4), (5, .int x5)]) dX8_findStanding_160 rfl (by decide) (by decide) (fun _ => rfl) h (fun z27 h => ?_)
    refine v_goto 163 C 134 dX8_findStanding_163 (by decide) ?_
    exact v_sub [1, 2, 3, 4, 5, 6, 0] rfl (hc _ (Option.some.inj h).symm)
theorem w_f_X8_findStanding_j114 {G : Wld} {X : Cxt} (C : Cx G X RX8 cX8_findStanding 8 4) {σ : Sto} {x1 : Int32} {x2 : Int32} {x3 : Int32} {x4 : Int32} {x5 : Int32} {s0 : Int32} {y : (Sto × Int32) ⊕ (Sto × Int32)} (h : f_X8_findStanding_j114 σ x1 x2 x3 x4 x5 s0 = some y) (hc : ∀ t : Sto × Int32, y = .inl t → V G X 8 t.1 [(0, .ref (G.1 39)), (1, .int x1), (2, .int x2), (3, .int x3), (4, .int x4), (5, .int t.2)] [] 63) {Ve : Sto × Int32 → Prop} (he : ∀ e, y = .inr e → Ve e) (hx : ∀ (σ : Sto) (x5 : Int32), Ve (σ, x5) → V G X 8 σ [(0, .ref (G.1 39)), (1, .int x1), (2, .int x2), (3, .int x3), (4, .int x4), (5, .int x5)] [] 172) : V G X 8 σ [(0, .ref (G.1 39)), (1, .int x1), (2, .int x2), (3, .int x3), (4, .int x4), (5, .int x5)] [.int s0] 114 := by
  unfold f_X8_findStanding_j114 at h
  refine b_istore 114 C 6 (lv2 := fun z21 => [(6, .int z21), (0, .ref (G.1 39)), (1, .int x1), (2, .int x2), (3, .int x3), (4, .int x4), (5, .int x5)]) dX8_findStanding_114 (by decide) (fun _ => rfl) h (fun z21 h => ?_)
  refine v_iload 116 C 6 0 dX8_findStanding_116 rfl ?_
  refine v_aload_n 118 C 0 1 dX8_findStanding_118 rfl rfl ?_
  refine g_X8_39_47 119 C dX8_findStanding_119 ?_
  refine v_icmp_le 122 C 166 dX8_findStanding_122 (by decide) h (fun h => ?_) (fun h => ?_)
  · exact v_sub [1, 2, 3, 4, 5, 6] rfl (w_f_X8_findStanding_j166 C h hc he hx)
  · refine v_aload_n 125 C 0 1 dX8_findStanding_125 rfl rfl ?_
    refine v_iload 126 C 6 0 dX8_findStanding_126 rfl ?_
    refine p_X8_39_47 128 C dX8_findStanding_128 h (fun σ22 h => ?_)
    refine v_iconst 131 C (0 : Int32) dX8_findStanding_131 (by decide) ?_
    refine b_istore 132 C 7 (lv2 := fun z23 => [(7, .int z23), (6, .int z21), (0, .ref (G.1 39)), (1, .int x1), (2, .int x2), (3, .int x3), (4, .int x4), (5, .int x5)]) dX8_findStanding_132 (by decide) (fun _ => rfl) h (fun z23 h => ?_)
    refine v_sub [2, 3, 4, 5, 6, 7, 0] rfl ?_
    refine lp_go (Vh := fun t => V G X 8 t.1 [(0, .ref (G.1 39)), (1, .int x1), (2, .int x2), (3, .int x3), (4, .int x4), (5, .int x5), (7, .int t.2)] [] 134) h ?_
    intro t30 y30 hy30 hc30 he30
    refine w_f_X8_findStanding_l134 C hy30 hc30 he30 (fun σ28 z29 h => ?_)
    dsimp only at h
    exact v_sub [0, 1, 2, 3, 4, 5] rfl (w_f_X8_findStanding_j166 C h hc he hx)
theorem w_f_X8_findStanding_l63 {G : Wld} {X : Cxt} (C : Cx G X RX8 cX8_findStanding 8 4) {x1 : Int32} {x2 : Int32} {x3 : Int32} {x4 : Int32} {σ : Sto} {x5 : Int32} {y : (Sto × Int32) ⊕ (Sto × Int32)} (h : f_X8_findStanding_l63 x1 x2 x3 x4 σ x5 = some y) (hc : ∀ t : Sto × Int32, y = .inl t → V G X 8 t.1 [(0, .ref (G.1 39)), (1, .int x1), (2, .int x2), (3, .int x3), (4, .int x4), (5, .int t.2)] [] 63) {Ve : Sto × Int32 → Prop} (he : ∀ e, y = .inr e → Ve e) (hx : ∀ (σ : Sto) (x5 : Int32), Ve (σ, x5) → V G X 8 σ [(0, .ref (G.1 39)), (1, .int x1), (2, .int x2), (3, .int x3), (4, .int x4), (5, .int x5)] [] 172) : V G X 8 σ [(0, .ref (G.1 39)), (1, .int x1), (2, .int x2), (3, .int x3), (4, .int x4), (5, .int x5)] [] 63 := by
  unfold f_X8_findStanding_l63 at h
  refine v_iload 63 C 5 5 dX8_findStanding_63 rfl ?_
  refine v_iload_n 65 C 3 3 dX8_findStanding_65 rfl rfl ?_
  refine v_icmp_ge 66 C 172 dX8_findStanding_66 (by decide) h (fun h => ?_) (fun h => ?_)
  · exact v_sub [0, 1, 2, 3, 4, 5] rfl (hx _ _ (he _ (Option.some.inj h).symm))
  · refine v_aload_n 69 C 0 0 dX8_findStanding_69 rfl rfl ?_
    refine v_iload 70 C 5 5 dX8_findStanding_70 rfl ?_
    refine v_iload 72 C 4 4 dX8_findStanding_72 rfl ?_
    refine r_f_X8_standBy 74 C (by decide) q_1154 dX8_findStanding_74 (Nat.le_of_ble_eq_true rfl) h (fun σ12 v13 h => ?_)
    refine v_if_eq 77 C 166 dX8_findStanding_77 (by decide) h (fun h => ?_) (fun h => ?_)
    · exact v_sub [0, 1, 2, 3, 4, 5] rfl (w_f_X8_findStanding_j166 C h hc he hx)
    · refine v_aload_n 80 C 0 0 dX8_findStanding_80 rfl rfl ?_
      refine v_aload_n 81 C 0 0 dX8_findStanding_81 rfl rfl ?_
      refine g_X8_39_8 82 C dX8_findStanding_82 ?_
      refine v_aload_n 85 C 0 0 dX8_findStanding_85 rfl rfl ?_
      refine v_iload_n 86 C 1 1 dX8_findStanding_86 rfl rfl ?_
      refine r_f_X8_longNow 87 C (by decide) q_1070 dX8_findStanding_87 (Nat.le_of_ble_eq_true rfl) h (fun σ15 v16 h => ?_)
      refine r_f_X8_findAlms 90 C (by decide) q_1074 dX8_findStanding_90 (Nat.le_of_ble_eq_true rfl) h (fun σ17 h => ?_)
      refine v_iload_n 93 C 2 2 dX8_findStanding_93 rfl rfl ?_
      refine v_iconst 94 C (-1 : Int32) dX8_findStanding_94 (by decide) ?_
      refine v_icmp_ne 95 C 109 dX8_findStanding_95 (by decide) h (fun h => ?_) (fun h => ?_)
      · refine v_aload_n 109 C 0 0 dX8_findStanding_109 rfl rfl ?_
        refine v_iload_n 110 C 2 2 dX8_findStanding_110 rfl rfl ?_
        refine r_f_X8_almsOf 111 C (by decide) q_1086 dX8_findStanding_111 (Nat.le_of_ble_eq_true rfl) h (fun σ19 v20 h => ?_)
        exact v_sub [0, 1, 2, 3, 4, 5] rfl (w_f_X8_findStanding_j114 C h hc he hx)
      · refine v_aload_n 98 C 0 0 dX8_findStanding_98 rfl rfl ?_
        refine v_aload_n 99 C 0 0 dX8_findStanding_99 rfl rfl ?_
        refine g_X8_39_8 100 C dX8_findStanding_100 ?_
        refine r_f_X8_almsOfAll 103 C (by decide) q_1158 dX8_findStanding_103 (Nat.le_of_ble_eq_true rfl) h (fun σ31 v32 h => ?_)
        refine v_goto 106 C 114 dX8_findStanding_106 (by decide) ?_
        exact v_sub [0, 1, 2, 3, 4, 5] rfl (w_f_X8_findStanding_j114 C h hc he hx)
theorem w_f_X8_findStanding_j51 {G : Wld} {X : Cxt} (C : Cx G X RX8 cX8_findStanding 8 4) {σ : Sto} {x1 : Int32} {x2 : Int32} {x3 : Int32} {s0 : Int32} {y : Sto} (h : f_X8_findStanding_j51 σ x1 x2 x3 s0 = some y) (hK : Rx G X none none y) : V G X 8 σ [(0, .ref (G.1 39)), (1, .int x1), (2, .int x2), (3, .int x3)] [.int s0] 51 := by
  unfold f_X8_findStanding_j51 at h
  refine b_istore 51 C 4 (lv2 := fun z9 => [(4, .int z9), (0, .ref (G.1 39)), (1, .int x1), (2, .int x2), (3, .int x3)]) dX8_findStanding_51 (by decide) (fun _ => rfl) h (fun z9 h => ?_)
  refine v_aload_n 53 C 0 1 dX8_findStanding_53 rfl rfl ?_
  refine v_ldc_w 54 C dX8_findStanding_54 q_1153 ?_
  refine p_X8_39_47 57 C dX8_findStanding_57 h (fun σ10 h => ?_)
  refine v_iconst 60 C (0 : Int32) dX8_findStanding_60 (by decide) ?_
  refine b_istore 61 C 5 (lv2 := fun z11 => [(5, .int z11), (4, .int z9), (0, .ref (G.1 39)), (1, .int x1), (2, .int x2), (3, .int x3)]) dX8_findStanding_61 (by decide) (fun _ => rfl) h (fun z11 h => ?_)
  refine v_sub [2, 3, 4, 5, 1, 0] rfl ?_
  refine lp_go (Vh := fun t => V G X 8 t.1 [(0, .ref (G.1 39)), (1, .int x1), (2, .int x2), (3, .int x3), (4, .int z9), (5, .int t.2)] [] 63) h ?_
  intro t35 y35 hy35 hc35 he35
  refine w_f_X8_findStanding_l63 C hy35 hc35 he35 (fun σ33 z34 h => ?_)
  dsimp only at h
  cases h
  exact v_vret 172 C hK dX8_findStanding_172
theorem w_f_X8_findStanding {G : Wld} {X : Cxt} (C : Cx G X RX8 cX8_findStanding 8 4) {σ : Sto} {a1 : Int32} {a2 : Int32} {y : Sto} (h : f_X8_findStanding σ a1 a2 = some y) (hK : Rx G X none none y) : V G X 8 σ [(0, .ref (G.1 39)), (1, .int a1), (2, .int a2)] [] 0 := by
  unfold f_X8_findStanding at h
  refine v_iconst 0 C (1 : Int32) dX8_findStanding_0 (by decide) ?_
  refine b_istore_n 1 C 3 (lv2 := fun z1 => [(3, .int z1), (0, .ref (G.1 39)), (1, .int a1), (2, .int a2)]) dX8_findStanding_1 rfl (by decide) (fun _ => rfl) h (fun z1 h => ?_)
  refine v_iconst 2 C (0 : Int32) dX8_findStanding_2 (by decide) ?_
  refine b_istore 3 C 4 (lv2 := fun z2 => [(4, .int z2), (3, .int z1), (0, .ref (G.1 39)), (1, .int a1), (2, .int a2)]) dX8_findStanding_3 (by decide) (fun _ => rfl) h (fun z2 h => ?_)
  refine v_sub [2, 3, 4, 1, 0] rfl ?_
  refine lp_go (Vh := fun t => V G X 8 t.1 [(0, .ref (G.1 39)), (1, .int a1), (2, .int a2), (3, .int t.2.1), (4, .int t.2.2)] [] 5) h ?_
  intro t8 y8 hy8 hc8 he8
  refine w_f_X8_findStanding_l5 C hy8 hc8 he8 (fun σ5 z6 z7 h => ?_)
  dsimp only at h
  refine v_aload_n 29 C 0 0 dX8_findStanding_29 rfl rfl ?_
  refine g_X8_39_4 30 C dX8_findStanding_30 ?_
  refine v_aload_n 33 C 0 0 dX8_findStanding_33 rfl rfl ?_
  refine g_X8_39_8 34 C dX8_findStanding_34 ?_
  refine v_icmp_ge 37 C 47 dX8_findStanding_37 (by decide) h (fun h => ?_) (fun h => ?_)
  · refine v_aload_n 47 C 0 0 dX8_findStanding_47 rfl rfl ?_
    refine g_X8_39_8 48 C dX8_findStanding_48 ?_
    exact v_sub [0, 1, 2, 3] rfl (w_f_X8_findStanding_j51 C h hK)
  · refine v_aload_n 40 C 0 0 dX8_findStanding_40 rfl rfl ?_
    refine g_X8_39_4 41 C dX8_findStanding_41 ?_
    refine v_goto 44 C 51 dX8_findStanding_44 (by decide) ?_
    exact v_sub [0, 1, 2, 3] rfl (w_f_X8_findStanding_j51 C h hK)
theorem c_f_X8_findStanding (l : Launch) (G : Wld) (hG : GI G) (σ : Sto) (a1 : Int32) (a2 : Int32) (y : Sto) (h : f_X8_findStanding σ a1 a2 = some y) : Ct l G yX8_findStanding cX8_findStanding 8 none 4 [.ref (G.1 39), .int a1, .int a2] σ none y := by
  refine ct_intro RX8 hG (by decide) rfl (Nat.le_of_ble_eq_true rfl) (fun X hX C hK => ?_)
  subst hX
  exact w_f_X8_findStanding C h hK
theorem r_f_X8_findStanding {G : Wld} {X : Cxt} {own : String} {cc : ByteArray} {nL n : Nat} {σ : Sto} {lv : List (Nat × Value)} {st : List Value} {β : Type} {r : β} {F : Sto → Option β} {a1 : Int32} {a2 : Int32} {ix : Nat} (pc : Nat) (C : Cx G X own cc nL n) (hn : 4 < n) (h1 : Cond.methodLink own ix yX8_findStanding ∈ lw_gd) (hd : decode cc pc = .ok (.invokevirtual ix, 3)) (hsum : (st.map fun v => v.category).sum ≤ 8) (h : bd1 (f_X8_findStanding σ a1 a2) F = some r) (kk : ∀ σ1, F σ1 = some r → V G X nL σ1 lv (st) (pc + 3)) : V G X nL σ lv (.int a2 :: .int a1 :: .ref (G.1 39) :: st) pc := by
  obtain ⟨z, hz, h⟩ := bd1_some h
  exact v_callV pc C 39 2 [.int a1, .int a2] st (c_f_X8_findStanding (xl X) G C.2.2.2.2.2.2.1 _ _ _ _ hz) hn (by decide) (by decide) (ce_39 G _ _) rfl (by decide +kernel) rfl h1 q_1151 q_51 q_68 q_1152 rfl hsum hd (kk _ h)
-- f_X8_putBack
def f_X8_putBack_l2 (σ : Sto) (x1 : Int32) : Option ((Sto × Int32) ⊕ (Sto × Int32)) :=
  if (σ.1 39 8) ≤ x1 then (some (.inr (σ, x1))) else (gd (inB x1 6) (gd (inB x1 7) (bs (su σ 48 (x1).toNatClampNeg (σ.1 62 (x1).toNatClampNeg)) fun σ2 => gd (inB x1 6) (gd (inB x1 7) (bs (su σ2 49 (x1).toNatClampNeg (σ2.1 63 (x1).toNatClampNeg)) fun σ3 => bs (x1 + (1 : Int32)) fun z4 => some (.inl (σ3, z4)))))))
def f_X8_putBack (σ : Sto) : Option (Sto) :=
  bs (0 : Int32) fun z1 => bE1 (lpF (fun t => f_X8_putBack_l2 t.1 t.2) FU (σ, z1)) (fun σ5 z6 => some σ5)
theorem w_f_X8_putBack_l2 {G : Wld} {X : Cxt} (C : Cx G X RX8 cX8_putBack 2 1) {σ : Sto} {x1 : Int32} {y : (Sto × Int32) ⊕ (Sto × Int32)} (h : f_X8_putBack_l2 σ x1 = some y) (hc : ∀ t : Sto × Int32, y = .inl t → V G X 2 t.1 [(0, .ref (G.1 39)), (1, .int t.2)] [] 2) {Ve : Sto × Int32 → Prop} (he : ∀ e, y = .inr e → Ve e) (hx : ∀ (σ : Sto) (x1 : Int32), Ve (σ, x1) → V G X 2 σ [(0, .ref (G.1 39)), (1, .int x1)] [] 40) : V G X 2 σ [(0, .ref (G.1 39)), (1, .int x1)] [] 2 := by
  unfold f_X8_putBack_l2 at h
  refine v_iload_n 2 C 1 1 dX8_putBack_2 rfl rfl ?_
  refine v_aload_n 3 C 0 0 dX8_putBack_3 rfl rfl ?_
  refine g_X8_39_8 4 C dX8_putBack_4 ?_
  refine v_icmp_ge 7 C 40 dX8_putBack_7 (by decide) h (fun h => ?_) (fun h => ?_)
  · exact v_sub [0, 1] rfl (hx _ _ (he _ (Option.some.inj h).symm))
  · refine v_aload_n 10 C 0 0 dX8_putBack_10 rfl rfl ?_
    refine g_X8_39_14 11 C dX8_putBack_11 ?_
    refine v_iload_n 14 C 1 1 dX8_putBack_14 rfl rfl ?_
    refine v_aload_n 15 C 0 0 dX8_putBack_15 rfl rfl ?_
    refine g_X8_39_44 16 C dX8_putBack_16 ?_
    refine v_iload_n 19 C 1 1 dX8_putBack_19 rfl rfl ?_
    refine v_iald 20 C 62 (by decide) (ce_62 G) dX8_putBack_20 h (fun h => ?_)
    refine b_iast 21 C 48 (by decide) (ce_48 G) dX8_putBack_21 h (fun σ2 h => ?_)
    refine v_aload_n 22 C 0 0 dX8_putBack_22 rfl rfl ?_
    refine g_X8_39_15 23 C dX8_putBack_23 ?_
    refine v_iload_n 26 C 1 1 dX8_putBack_26 rfl rfl ?_
    refine v_aload_n 27 C 0 0 dX8_putBack_27 rfl rfl ?_
    refine g_X8_39_45 28 C dX8_putBack_28 ?_
    refine v_iload_n 31 C 1 1 dX8_putBack_31 rfl rfl ?_
    refine v_iald 32 C 63 (by decide) (ce_63 G) dX8_putBack_32 h (fun h => ?_)
    refine b_iast 33 C 49 (by decide) (ce_49 G) dX8_putBack_33 h (fun σ3 h => ?_)
    refine b_iinc 34 C 1 1 (1 : Int32) (lv2 := fun z4 => [(1, .int z4), (0, .ref (G.1 39))]) dX8_putBack_34 rfl (by decide) (by decide) (fun _ => rfl) h (fun z4 h => ?_)
    refine v_goto 37 C 2 dX8_putBack_37 (by decide) ?_
    exact v_sub [1, 0] rfl (hc _ (Option.some.inj h).symm)
theorem w_f_X8_putBack {G : Wld} {X : Cxt} (C : Cx G X RX8 cX8_putBack 2 1) {σ : Sto} {y : Sto} (h : f_X8_putBack σ = some y) (hK : Rx G X none none y) : V G X 2 σ [(0, .ref (G.1 39))] [] 0 := by
  unfold f_X8_putBack at h
  refine v_iconst 0 C (0 : Int32) dX8_putBack_0 (by decide) ?_
  refine b_istore_n 1 C 1 (lv2 := fun z1 => [(1, .int z1), (0, .ref (G.1 39))]) dX8_putBack_1 rfl (by decide) (fun _ => rfl) h (fun z1 h => ?_)
  refine v_sub [1, 0] rfl ?_
  refine lp_go (Vh := fun t => V G X 2 t.1 [(0, .ref (G.1 39)), (1, .int t.2)] [] 2) h ?_
  intro t7 y7 hy7 hc7 he7
  refine w_f_X8_putBack_l2 C hy7 hc7 he7 (fun σ5 z6 h => ?_)
  dsimp only at h
  cases h
  exact v_vret 40 C hK dX8_putBack_40
theorem c_f_X8_putBack (l : Launch) (G : Wld) (hG : GI G) (σ : Sto) (y : Sto) (h : f_X8_putBack σ = some y) : Ct l G yX8_putBack cX8_putBack 2 none 1 [.ref (G.1 39)] σ none y := by
  refine ct_intro RX8 hG (by decide) rfl (Nat.le_of_ble_eq_true rfl) (fun X hX C hK => ?_)
  subst hX
  exact w_f_X8_putBack C h hK
theorem r_f_X8_putBack {G : Wld} {X : Cxt} {own : String} {cc : ByteArray} {nL n : Nat} {σ : Sto} {lv : List (Nat × Value)} {st : List Value} {β : Type} {r : β} {F : Sto → Option β} {ix : Nat} (pc : Nat) (C : Cx G X own cc nL n) (hn : 1 < n) (h1 : Cond.methodLink own ix yX8_putBack ∈ lw_gd) (hd : decode cc pc = .ok (.invokevirtual ix, 3)) (hsum : (st.map fun v => v.category).sum ≤ 8) (h : bd1 (f_X8_putBack σ) F = some r) (kk : ∀ σ1, F σ1 = some r → V G X nL σ1 lv (st) (pc + 3)) : V G X nL σ lv (.ref (G.1 39) :: st) pc := by
  obtain ⟨z, hz, h⟩ := bd1_some h
  exact v_callV pc C 39 0 [] st (c_f_X8_putBack (xl X) G C.2.2.2.2.2.2.1 _ _ hz) hn (by decide) (by decide) (ce_39 G _ _) rfl (by decide +kernel) rfl h1 q_1164 q_54 q_68 q_1165 rfl hsum hd (kk _ h)
-- f_X8_standing
def f_X8_standing_j34 (σ : Sto) : Option (Sto × Int32) :=
  some (σ, (-1000000001 : Int32))
def f_X8_standing_j69 (σ : Sto) (s0 : Int32) : Option (Sto × Int32) :=
  some (σ, s0)
def f_X8_standing_j37 (σ : Sto) (x1 : Int32) (x2 : Int32) (x3 : Int32) : Option (Sto × Int32) :=
  bd1 (f_X8_saveAll σ) fun σ3 => bd1 (f_X8_findStanding σ3 x1 x2) fun σ5 => bd1 (f_X8_putBack σ5) fun σ7 => if x3 = (-1 : Int32) then (f_X8_standing_j69 σ7 (σ7.1 39 47)) else (gd (inB x3 6) (f_X8_standing_j69 σ7 (σ7.1 64 (x3).toNatClampNeg)))
def f_X8_standing_j21 (σ : Sto) (x1 : Int32) (x2 : Int32) (x3 : Int32) : Option (Sto × Int32) :=
  if x3 = (-1 : Int32) then (f_X8_standing_j37 σ x1 x2 x3) else (bd2 (f_X8_isSpot σ x3) fun σ9 v10 => if v10 = 0 then (f_X8_standing_j34 σ9) else (f_X8_standing_j37 σ9 x1 x2 x3))
def f_X8_standing (σ : Sto) (a1 : Int32) (a2 : Int32) (a3 : Int32) : Option (Sto × Int32) :=
  bd2 (f_X8_isBell σ a1) fun σ1 v2 => if v2 = 0 then (f_X8_standing_j34 σ1) else (if a2 = (-1 : Int32) then (f_X8_standing_j21 σ1 a1 a2 a3) else (bd2 (f_X8_isBeggar σ1 a2) fun σ11 v12 => if v12 = 0 then (f_X8_standing_j34 σ11) else (f_X8_standing_j21 σ11 a1 a2 a3)))
theorem w_f_X8_standing_j34 {G : Wld} {X : Cxt} (C : Cx G X RX8 cX8_standing 4 5) {σ : Sto} {y : Sto × Int32} (h : f_X8_standing_j34 σ = some y) (hK : Rx G X (some .int) (some (.int y.2)) y.1) : V G X 4 σ [(0, .ref (G.1 39))] [] 34 := by
  unfold f_X8_standing_j34 at h
  refine v_ldc 34 C dX8_standing_34 q_1024 ?_
  cases h
  exact v_iret 36 C hK dX8_standing_36
theorem w_f_X8_standing_j69 {G : Wld} {X : Cxt} (C : Cx G X RX8 cX8_standing 4 5) {σ : Sto} {s0 : Int32} {y : Sto × Int32} (h : f_X8_standing_j69 σ s0 = some y) (hK : Rx G X (some .int) (some (.int y.2)) y.1) : V G X 4 σ [(0, .ref (G.1 39))] [.int s0] 69 := by
  unfold f_X8_standing_j69 at h
  cases h
  exact v_iret 69 C hK dX8_standing_69
theorem w_f_X8_standing_j37 {G : Wld} {X : Cxt} (C : Cx G X RX8 cX8_standing 4 5) {σ : Sto} {x1 : Int32} {x2 : Int32} {x3 : Int32} {y : Sto × Int32} (h : f_X8_standing_j37 σ x1 x2 x3 = some y) (hK : Rx G X (some .int) (some (.int y.2)) y.1) : V G X 4 σ [(0, .ref (G.1 39)), (1, .int x1), (2, .int x2), (3, .int x3)] [] 37 := by
  unfold f_X8_standing_j37 at h
  refine v_aload_n 37 C 0 0 dX8_standing_37 rfl rfl ?_
  refine r_f_X8_saveAll 38 C (by decide) q_1145 dX8_standing_38 (Nat.le_of_ble_eq_true rfl) h (fun σ3 h => ?_)
  refine v_aload_n 41 C 0 0 dX8_standing_41 rfl rfl ?_
  refine v_iload_n 42 C 1 1 dX8_standing_42 rfl rfl ?_
  refine v_iload_n 43 C 2 2 dX8_standing_43 rfl rfl ?_
  refine r_f_X8_findStanding 44 C (by decide) q_1149 dX8_standing_44 (Nat.le_of_ble_eq_true rfl) h (fun σ5 h => ?_)
  refine v_aload_n 47 C 0 0 dX8_standing_47 rfl rfl ?_
  refine r_f_X8_putBack 48 C (by decide) q_1162 dX8_standing_48 (Nat.le_of_ble_eq_true rfl) h (fun σ7 h => ?_)
  refine v_iload_n 51 C 3 3 dX8_standing_51 rfl rfl ?_
  refine v_iconst 52 C (-1 : Int32) dX8_standing_52 (by decide) ?_
  refine v_icmp_ne 53 C 63 dX8_standing_53 (by decide) h (fun h => ?_) (fun h => ?_)
  · refine v_aload_n 63 C 0 0 dX8_standing_63 rfl rfl ?_
    refine g_X8_39_46 64 C dX8_standing_64 ?_
    refine v_iload_n 67 C 3 3 dX8_standing_67 rfl rfl ?_
    refine v_iald 68 C 64 (by decide) (ce_64 G) dX8_standing_68 h (fun h => ?_)
    exact v_sub [0] rfl (w_f_X8_standing_j69 C h hK)
  · refine v_aload_n 56 C 0 0 dX8_standing_56 rfl rfl ?_
    refine g_X8_39_47 57 C dX8_standing_57 ?_
    refine v_goto 60 C 69 dX8_standing_60 (by decide) ?_
    exact v_sub [0] rfl (w_f_X8_standing_j69 C h hK)
theorem w_f_X8_standing_j21 {G : Wld} {X : Cxt} (C : Cx G X RX8 cX8_standing 4 5) {σ : Sto} {x1 : Int32} {x2 : Int32} {x3 : Int32} {y : Sto × Int32} (h : f_X8_standing_j21 σ x1 x2 x3 = some y) (hK : Rx G X (some .int) (some (.int y.2)) y.1) : V G X 4 σ [(0, .ref (G.1 39)), (1, .int x1), (2, .int x2), (3, .int x3)] [] 21 := by
  unfold f_X8_standing_j21 at h
  refine v_iload_n 21 C 3 3 dX8_standing_21 rfl rfl ?_
  refine v_iconst 22 C (-1 : Int32) dX8_standing_22 (by decide) ?_
  refine v_icmp_eq 23 C 37 dX8_standing_23 (by decide) h (fun h => ?_) (fun h => ?_)
  · exact v_sub [0, 1, 2, 3] rfl (w_f_X8_standing_j37 C h hK)
  · refine v_aload_n 26 C 0 0 dX8_standing_26 rfl rfl ?_
    refine v_iload_n 27 C 3 3 dX8_standing_27 rfl rfl ?_
    refine r_f_X8_isSpot 28 C (by decide) q_1034 dX8_standing_28 (Nat.le_of_ble_eq_true rfl) h (fun σ9 v10 h => ?_)
    refine v_if_ne 31 C 37 dX8_standing_31 (by decide) h (fun h => ?_) (fun h => ?_)
    · exact v_sub [0, 1, 2, 3] rfl (w_f_X8_standing_j37 C h hK)
    · exact v_sub [0] rfl (w_f_X8_standing_j34 C h hK)
theorem w_f_X8_standing {G : Wld} {X : Cxt} (C : Cx G X RX8 cX8_standing 4 5) {σ : Sto} {a1 : Int32} {a2 : Int32} {a3 : Int32} {y : Sto × Int32} (h : f_X8_standing σ a1 a2 a3 = some y) (hK : Rx G X (some .int) (some (.int y.2)) y.1) : V G X 4 σ [(0, .ref (G.1 39)), (1, .int a1), (2, .int a2), (3, .int a3)] [] 0 := by
  unfold f_X8_standing at h
  refine v_aload_n 0 C 0 0 dX8_standing_0 rfl rfl ?_
  refine v_iload_n 1 C 1 1 dX8_standing_1 rfl rfl ?_
  refine r_f_X8_isBell 2 C (by decide) q_1020 dX8_standing_2 (Nat.le_of_ble_eq_true rfl) h (fun σ1 v2 h => ?_)
  refine v_if_eq 5 C 34 dX8_standing_5 (by decide) h (fun h => ?_) (fun h => ?_)
  · exact v_sub [0] rfl (w_f_X8_standing_j34 C h hK)
  · refine v_iload_n 8 C 2 2 dX8_standing_8 rfl rfl ?_
    refine v_iconst 9 C (-1 : Int32) dX8_standing_9 (by decide) ?_
    refine v_icmp_eq 10 C 21 dX8_standing_10 (by decide) h (fun h => ?_) (fun h => ?_)
    · exact v_sub [0, 1, 2, 3] rfl (w_f_X8_standing_j21 C h hK)
    · refine v_aload_n 13 C 0 0 dX8_standing_13 rfl rfl ?_
      refine v_iload_n 14 C 2 2 dX8_standing_14 rfl rfl ?_
      refine r_f_X8_isBeggar 15 C (by decide) q_1046 dX8_standing_15 (Nat.le_of_ble_eq_true rfl) h (fun σ11 v12 h => ?_)
      refine v_if_eq 18 C 34 dX8_standing_18 (by decide) h (fun h => ?_) (fun h => ?_)
      · exact v_sub [0] rfl (w_f_X8_standing_j34 C h hK)
      · exact v_sub [0, 1, 2, 3] rfl (w_f_X8_standing_j21 C h hK)
theorem c_f_X8_standing (l : Launch) (G : Wld) (hG : GI G) (σ : Sto) (a1 : Int32) (a2 : Int32) (a3 : Int32) (y : Sto × Int32) (h : f_X8_standing σ a1 a2 a3 = some y) : Ct l G yX8_standing cX8_standing 4 (some .int) 5 [.ref (G.1 39), .int a1, .int a2, .int a3] σ (some (.int y.2)) y.1 := by
  refine ct_intro RX8 hG (by decide) rfl (Nat.le_of_ble_eq_true rfl) (fun X hX C hK => ?_)
  subst hX
  exact w_f_X8_standing C h hK
theorem r_f_X8_standing {G : Wld} {X : Cxt} {own : String} {cc : ByteArray} {nL n : Nat} {σ : Sto} {lv : List (Nat × Value)} {st : List Value} {β : Type} {r : β} {F : Sto → Int32 → Option β} {a1 : Int32} {a2 : Int32} {a3 : Int32} {ix : Nat} (pc : Nat) (C : Cx G X own cc nL n) (hn : 5 < n) (h1 : Cond.methodLink own ix yX8_standing ∈ lw_gd) (hd : decode cc pc = .ok (.invokevirtual ix, 3)) (hsum : (st.map fun v => v.category).sum ≤ 8) (h : bd2 (f_X8_standing σ a1 a2 a3) F = some r) (kk : ∀ σ1 v, F σ1 v = some r → V G X nL σ1 lv (.int v :: st) (pc + 3)) : V G X nL σ lv (.int a3 :: .int a2 :: .int a1 :: .ref (G.1 39) :: st) pc := by
  obtain ⟨z, hz, h⟩ := bd2_some h
  exact v_callV pc C 39 3 [.int a1, .int a2, .int a3] st (c_f_X8_standing (xl X) G C.2.2.2.2.2.2.1 _ _ _ _ _ hz) hn (by decide) (by decide) (ce_39 G _ _) rfl (by decide +kernel) rfl h1 q_1142 q_1143 q_68 q_1144 rfl hsum hd (kk _ _ h)
-- f_X8_lendBy
def f_X8_lendBy_l7 (x2 : Int32) (x3 : Int32) (σ : Sto) (x4 : Int32) : Option ((Sto × Int32) ⊕ (Sto × Int32)) :=
  if (σ.1 39 8) ≤ x4 then (some (.inr (σ, x4))) else (gd (inB x4 7) (bs (su σ 49 (x4).toNatClampNeg (-1 : Int32)) fun σ4 => bs (x4 + (1 : Int32)) fun z5 => some (.inl (σ4, z5))))
def f_X8_lendBy_j108 (σ : Sto) (x2 : Int32) (x3 : Int32) (x4 : Int32) : Option ((Sto × Int32 × Int32 × Int32) ⊕ (Sto × Int32 × Int32 × Int32)) :=
  bs (x4 + (-1 : Int32)) fun z12 => some (.inl (σ, x2, x3, z12))
def f_X8_lendBy_j98 (σ : Sto) (x2 : Int32) (x4 : Int32) (x5 : Int32) (s0 : Int32) : Option ((Sto × Int32 × Int32 × Int32) ⊕ (Sto × Int32 × Int32 × Int32)) :=
  bs s0 fun z13 => gd (inB x5 7) (bs (su σ 49 (x5).toNatClampNeg x4) fun σ14 => f_X8_lendBy_j108 σ14 x2 z13 x4)
def f_X8_lendBy_j97 (σ : Sto) (x2 : Int32) (x4 : Int32) (x5 : Int32) : Option ((Sto × Int32 × Int32 × Int32) ⊕ (Sto × Int32 × Int32 × Int32)) :=
  f_X8_lendBy_j98 σ x2 x4 x5 (0 : Int32)
def f_X8_lendBy_l38 (σ : Sto) (x2 : Int32) (x3 : Int32) (x4 : Int32) : Option ((Sto × Int32 × Int32 × Int32) ⊕ (Sto × Int32 × Int32 × Int32)) :=
  if x4 < 0 then (some (.inr (σ, x2, x3, x4))) else (gd (nzI ((σ.1 39 8) + (1 : Int32))) (bs ((iR x2 ((σ.1 39 8) + (1 : Int32))) - (1 : Int32)) fun z10 => gd (nzI ((σ.1 39 8) + (1 : Int32))) (bs (x2 / ((σ.1 39 8) + (1 : Int32))) fun z11 => if z10 < 0 then (f_X8_lendBy_j108 σ z11 x3 x4) else (if x3 = 0 then (f_X8_lendBy_j97 σ z11 x4 z10) else (gd (inB z10 7) (if (σ.1 48 (z10).toNatClampNeg) < 0 then (f_X8_lendBy_j97 σ z11 x4 z10) else (gd (inB z10 7) (if 0 ≤ (σ.1 49 (z10).toNatClampNeg) then (f_X8_lendBy_j97 σ z11 x4 z10) else (f_X8_lendBy_j98 σ z11 x4 z10 (1 : Int32))))))))))
def f_X8_lendBy (σ : Sto) (a1 : Int32) : Option (Sto × Int32) :=
  bs a1 fun z1 => bs (1 : Int32) fun z2 => bs (0 : Int32) fun z3 => bE1 (lpF (fun t => f_X8_lendBy_l7 z1 z2 t.1 t.2) FU (σ, z3)) (fun σ6 z7 => bs ((σ6.1 39 10) - (1 : Int32)) fun z9 => bE3 (lpF (fun t => f_X8_lendBy_l38 t.1 t.2.1 t.2.2.1 t.2.2.2) FU (σ6, z1, z2, z9)) (fun σ15 z16 z17 z18 => gd (zB z17) (some (σ15, z17))))
theorem w_f_X8_lendBy_l7 {G : Wld} {X : Cxt} (C : Cx G X RX8 cX8_lendBy 6 1) {x2 : Int32} {x3 : Int32} {σ : Sto} {x4 : Int32} {y : (Sto × Int32) ⊕ (Sto × Int32)} (h : f_X8_lendBy_l7 x2 x3 σ x4 = some y) (hc : ∀ t : Sto × Int32, y = .inl t → V G X 6 t.1 [(0, .ref (G.1 39)), (2, .int x2), (3, .int x3), (4, .int t.2)] [] 7) {Ve : Sto × Int32 → Prop} (he : ∀ e, y = .inr e → Ve e) (hx : ∀ (σ : Sto) (x4 : Int32), Ve (σ, x4) → V G X 6 σ [(0, .ref (G.1 39)), (2, .int x2), (3, .int x3), (4, .int x4)] [] 30) : V G X 6 σ [(0, .ref (G.1 39)), (2, .int x2), (3, .int x3), (4, .int x4)] [] 7 := by
  unfold f_X8_lendBy_l7 at h
  refine v_iload 7 C 4 3 dX8_lendBy_7 rfl ?_
  refine v_aload_n 9 C 0 0 dX8_lendBy_9 rfl rfl ?_
  refine g_X8_39_8 10 C dX8_lendBy_10 ?_
  refine v_icmp_ge 13 C 30 dX8_lendBy_13 (by decide) h (fun h => ?_) (fun h => ?_)
  · exact v_sub [0, 1, 2, 3] rfl (hx _ _ (he _ (Option.some.inj h).symm))
  · refine v_aload_n 16 C 0 0 dX8_lendBy_16 rfl rfl ?_
    refine g_X8_39_15 17 C dX8_lendBy_17 ?_
    refine v_iload 20 C 4 3 dX8_lendBy_20 rfl ?_
    refine v_iconst 22 C (-1 : Int32) dX8_lendBy_22 (by decide) ?_
    refine b_iast 23 C 49 (by decide) (ce_49 G) dX8_lendBy_23 h (fun σ4 h => ?_)
    refine b_iinc 24 C 4 3 (1 : Int32) (lv2 := fun z5 => [(4, .int z5), (0, .ref (G.1 39)), (2, .int x2), (3, .int x3)]) dX8_lendBy_24 rfl (by decide) (by decide) (fun _ => rfl) h (fun z5 h => ?_)
    refine v_goto 27 C 7 dX8_lendBy_27 (by decide) ?_
    exact v_sub [1, 2, 3, 0] rfl (hc _ (Option.some.inj h).symm)
theorem w_f_X8_lendBy_j108 {G : Wld} {X : Cxt} (C : Cx G X RX8 cX8_lendBy 6 1) {σ : Sto} {x2 : Int32} {x3 : Int32} {x4 : Int32} {y : (Sto × Int32 × Int32 × Int32) ⊕ (Sto × Int32 × Int32 × Int32)} (h : f_X8_lendBy_j108 σ x2 x3 x4 = some y) (hc : ∀ t : Sto × Int32 × Int32 × Int32, y = .inl t → V G X 6 t.1 [(0, .ref (G.1 39)), (2, .int t.2.1), (3, .int t.2.2.1), (4, .int t.2.2.2)] [] 38) {Ve : Sto × Int32 × Int32 × Int32 → Prop} (he : ∀ e, y = .inr e → Ve e) (hx : ∀ (σ : Sto) (x2 : Int32) (x3 : Int32) (x4 : Int32), Ve (σ, x2, x3, x4) → V G X 6 σ [(0, .ref (G.1 39)), (2, .int x2), (3, .int x3), (4, .int x4)] [] 114) : V G X 6 σ [(0, .ref (G.1 39)), (2, .int x2), (3, .int x3), (4, .int x4)] [] 108 := by
  unfold f_X8_lendBy_j108 at h
  refine b_iinc 108 C 4 3 (-1 : Int32) (lv2 := fun z12 => [(4, .int z12), (0, .ref (G.1 39)), (2, .int x2), (3, .int x3)]) dX8_lendBy_108 rfl (by decide) (by decide) (fun _ => rfl) h (fun z12 h => ?_)
  refine v_goto 111 C 38 dX8_lendBy_111 (by decide) ?_
  exact v_sub [1, 2, 3, 0] rfl (hc _ (Option.some.inj h).symm)
theorem w_f_X8_lendBy_j98 {G : Wld} {X : Cxt} (C : Cx G X RX8 cX8_lendBy 6 1) {σ : Sto} {x2 : Int32} {x4 : Int32} {x5 : Int32} {s0 : Int32} {y : (Sto × Int32 × Int32 × Int32) ⊕ (Sto × Int32 × Int32 × Int32)} (h : f_X8_lendBy_j98 σ x2 x4 x5 s0 = some y) (hc : ∀ t : Sto × Int32 × Int32 × Int32, y = .inl t → V G X 6 t.1 [(0, .ref (G.1 39)), (2, .int t.2.1), (3, .int t.2.2.1), (4, .int t.2.2.2)] [] 38) {Ve : Sto × Int32 × Int32 × Int32 → Prop} (he : ∀ e, y = .inr e → Ve e) (hx : ∀ (σ : Sto) (x2 : Int32) (x3 : Int32) (x4 : Int32), Ve (σ, x2, x3, x4) → V G X 6 σ [(0, .ref (G.1 39)), (2, .int x2), (3, .int x3), (4, .int x4)] [] 114) : V G X 6 σ [(0, .ref (G.1 39)), (2, .int x2), (4, .int x4), (5, .int x5)] [.int s0] 98 := by
  unfold f_X8_lendBy_j98 at h
  refine b_istore_n 98 C 3 (lv2 := fun z13 => [(3, .int z13), (0, .ref (G.1 39)), (2, .int x2), (4, .int x4), (5, .int x5)]) dX8_lendBy_98 rfl (by decide) (fun _ => rfl) h (fun z13 h => ?_)
  refine v_aload_n 99 C 0 1 dX8_lendBy_99 rfl rfl ?_
  refine g_X8_39_15 100 C dX8_lendBy_100 ?_
  refine v_iload 103 C 5 4 dX8_lendBy_103 rfl ?_
  refine v_iload 105 C 4 3 dX8_lendBy_105 rfl ?_
  refine b_iast 107 C 49 (by decide) (ce_49 G) dX8_lendBy_107 h (fun σ14 h => ?_)
  exact v_sub [1, 2, 0, 3] rfl (w_f_X8_lendBy_j108 C h hc he hx)
theorem w_f_X8_lendBy_j97 {G : Wld} {X : Cxt} (C : Cx G X RX8 cX8_lendBy 6 1) {σ : Sto} {x2 : Int32} {x4 : Int32} {x5 : Int32} {y : (Sto × Int32 × Int32 × Int32) ⊕ (Sto × Int32 × Int32 × Int32)} (h : f_X8_lendBy_j97 σ x2 x4 x5 = some y) (hc : ∀ t : Sto × Int32 × Int32 × Int32, y = .inl t → V G X 6 t.1 [(0, .ref (G.1 39)), (2, .int t.2.1), (3, .int t.2.2.1), (4, .int t.2.2.2)] [] 38) {Ve : Sto × Int32 × Int32 × Int32 → Prop} (he : ∀ e, y = .inr e → Ve e) (hx : ∀ (σ : Sto) (x2 : Int32) (x3 : Int32) (x4 : Int32), Ve (σ, x2, x3, x4) → V G X 6 σ [(0, .ref (G.1 39)), (2, .int x2), (3, .int x3), (4, .int x4)] [] 114) : V G X 6 σ [(0, .ref (G.1 39)), (2, .int x2), (4, .int x4), (5, .int x5)] [] 97 := by
  unfold f_X8_lendBy_j97 at h
  refine v_iconst 97 C (0 : Int32) dX8_lendBy_97 (by decide) ?_
  exact v_sub [0, 1, 2, 3] rfl (w_f_X8_lendBy_j98 C h hc he hx)
theorem w_f_X8_lendBy_l38 {G : Wld} {X : Cxt} (C : Cx G X RX8 cX8_lendBy 6 1) {σ : Sto} {x2 : Int32} {x3 : Int32} {x4 : Int32} {y : (Sto × Int32 × Int32 × Int32) ⊕ (Sto × Int32 × Int32 × Int32)} (h : f_X8_lendBy_l38 σ x2 x3 x4 = some y) (hc : ∀ t : Sto × Int32 × Int32 × Int32, y = .inl t → V G X 6 t.1 [(0, .ref (G.1 39)), (2, .int t.2.1), (3, .int t.2.2.1), (4, .int t.2.2.2)] [] 38) {Ve : Sto × Int32 × Int32 × Int32 → Prop} (he : ∀ e, y = .inr e → Ve e) (hx : ∀ (σ : Sto) (x2 : Int32) (x3 : Int32) (x4 : Int32), Ve (σ, x2, x3, x4) → V G X 6 σ [(0, .ref (G.1 39)), (2, .int x2), (3, .int x3), (4, .int x4)] [] 114) : V G X 6 σ [(0, .ref (G.1 39)), (2, .int x2), (3, .int x3), (4, .int x4)] [] 38 := by
  unfold f_X8_lendBy_l38 at h
  refine v_iload 38 C 4 3 dX8_lendBy_38 rfl ?_
  refine v_if_lt 40 C 114 dX8_lendBy_40 (by decide) h (fun h => ?_) (fun h => ?_)
  · exact v_sub [0, 1, 2, 3] rfl (hx _ _ _ _ (he _ (Option.some.inj h).symm))
  · refine v_iload_n 43 C 2 1 dX8_lendBy_43 rfl rfl ?_
    refine v_aload_n 44 C 0 0 dX8_lendBy_44 rfl rfl ?_
    refine g_X8_39_8 45 C dX8_lendBy_45 ?_
    refine v_iconst 48 C (1 : Int32) dX8_lendBy_48 (by decide) ?_
    refine v_iadd 49 C dX8_lendBy_49 ?_
    refine v_irem 50 C dX8_lendBy_50 h (fun h => ?_)
    refine v_iconst 51 C (1 : Int32) dX8_lendBy_51 (by decide) ?_
    refine v_isub 52 C dX8_lendBy_52 ?_
    refine b_istore 53 C 5 (lv2 := fun z10 => [(5, .int z10), (0, .ref (G.1 39)), (2, .int x2), (3, .int x3), (4, .int x4)]) dX8_lendBy_53 (by decide) (fun _ => rfl) h (fun z10 h => ?_)
    refine v_iload_n 55 C 2 2 dX8_lendBy_55 rfl rfl ?_
    refine v_aload_n 56 C 0 1 dX8_lendBy_56 rfl rfl ?_
    refine g_X8_39_8 57 C dX8_lendBy_57 ?_
    refine v_iconst 60 C (1 : Int32) dX8_lendBy_60 (by decide) ?_
    refine v_iadd 61 C dX8_lendBy_61 ?_
    refine v_idiv 62 C dX8_lendBy_62 h (fun h => ?_)
    refine b_istore_n 63 C 2 (lv2 := fun z11 => [(2, .int z11), (5, .int z10), (0, .ref (G.1 39)), (3, .int x3), (4, .int x4)]) dX8_lendBy_63 rfl (by decide) (fun _ => rfl) h (fun z11 h => ?_)
    refine v_iload 64 C 5 1 dX8_lendBy_64 rfl ?_
    refine v_if_lt 66 C 108 dX8_lendBy_66 (by decide) h (fun h => ?_) (fun h => ?_)
    · exact v_sub [2, 0, 3, 4] rfl (w_f_X8_lendBy_j108 C h hc he hx)
    · refine v_iload_n 69 C 3 3 dX8_lendBy_69 rfl rfl ?_
      refine v_if_eq 70 C 97 dX8_lendBy_70 (by decide) h (fun h => ?_) (fun h => ?_)
      · exact v_sub [2, 0, 4, 1] rfl (w_f_X8_lendBy_j97 C h hc he hx)
      · refine v_aload_n 73 C 0 2 dX8_lendBy_73 rfl rfl ?_
        refine g_X8_39_14 74 C dX8_lendBy_74 ?_
        refine v_iload 77 C 5 1 dX8_lendBy_77 rfl ?_
        refine v_iald 79 C 48 (by decide) (ce_48 G) dX8_lendBy_79 h (fun h => ?_)
        refine v_if_lt 80 C 97 dX8_lendBy_80 (by decide) h (fun h => ?_) (fun h => ?_)
        · exact v_sub [2, 0, 4, 1] rfl (w_f_X8_lendBy_j97 C h hc he hx)
        · refine v_aload_n 83 C 0 2 dX8_lendBy_83 rfl rfl ?_
          refine g_X8_39_15 84 C dX8_lendBy_84 ?_
          refine v_iload 87 C 5 1 dX8_lendBy_87 rfl ?_
          refine v_iald 89 C 49 (by decide) (ce_49 G) dX8_lendBy_89 h (fun h => ?_)
          refine v_if_ge 90 C 97 dX8_lendBy_90 (by decide) h (fun h => ?_) (fun h => ?_)
          · exact v_sub [2, 0, 4, 1] rfl (w_f_X8_lendBy_j97 C h hc he hx)
          · refine v_iconst 93 C (1 : Int32) dX8_lendBy_93 (by decide) ?_
            refine v_goto 94 C 98 dX8_lendBy_94 (by decide) ?_
            exact v_sub [2, 0, 4, 1] rfl (w_f_X8_lendBy_j98 C h hc he hx)
theorem w_f_X8_lendBy {G : Wld} {X : Cxt} (C : Cx G X RX8 cX8_lendBy 6 1) {σ : Sto} {a1 : Int32} {y : Sto × Int32} (h : f_X8_lendBy σ a1 = some y) (hK : Rx G X (some .boolean) (some (.int y.2)) y.1) : V G X 6 σ [(0, .ref (G.1 39)), (1, .int a1)] [] 0 := by
  unfold f_X8_lendBy at h
  refine v_iload_n 0 C 1 1 dX8_lendBy_0 rfl rfl ?_
  refine b_istore_n 1 C 2 (lv2 := fun z1 => [(2, .int z1), (0, .ref (G.1 39)), (1, .int a1)]) dX8_lendBy_1 rfl (by decide) (fun _ => rfl) h (fun z1 h => ?_)
  refine v_iconst 2 C (1 : Int32) dX8_lendBy_2 (by decide) ?_
  refine b_istore_n 3 C 3 (lv2 := fun z2 => [(3, .int z2), (2, .int z1), (0, .ref (G.1 39)), (1, .int a1)]) dX8_lendBy_3 rfl (by decide) (fun _ => rfl) h (fun z2 h => ?_)
  refine v_iconst 4 C (0 : Int32) dX8_lendBy_4 (by decide) ?_
  refine b_istore 5 C 4 (lv2 := fun z3 => [(4, .int z3), (3, .int z2), (2, .int z1), (0, .ref (G.1 39)), (1, .int a1)]) dX8_lendBy_5 (by decide) (fun _ => rfl) h (fun z3 h => ?_)
  refine v_sub [3, 2, 1, 0] rfl ?_
  refine lp_go (Vh := fun t => V G X 6 t.1 [(0, .ref (G.1 39)), (2, .int z1), (3, .int z2), (4, .int t.2)] [] 7) h ?_
  intro t8 y8 hy8 hc8 he8
  refine w_f_X8_lendBy_l7 C hy8 hc8 he8 (fun σ6 z7 h => ?_)
  dsimp only at h
  refine v_aload_n 30 C 0 0 dX8_lendBy_30 rfl rfl ?_
  refine g_X8_39_10 31 C dX8_lendBy_31 ?_
  refine v_iconst 34 C (1 : Int32) dX8_lendBy_34 (by decide) ?_
  refine v_isub 35 C dX8_lendBy_35 ?_
  refine b_istore 36 C 4 (lv2 := fun z9 => [(4, .int z9), (0, .ref (G.1 39)), (2, .int z1), (3, .int z2)]) dX8_lendBy_36 (by decide) (fun _ => rfl) h (fun z9 h => ?_)
  refine v_sub [1, 2, 3, 0] rfl ?_
  refine lp_go (Vh := fun t => V G X 6 t.1 [(0, .ref (G.1 39)), (2, .int t.2.1), (3, .int t.2.2.1), (4, .int t.2.2.2)] [] 38) h ?_
  intro t19 y19 hy19 hc19 he19
  refine w_f_X8_lendBy_l38 C hy19 hc19 he19 (fun σ15 z16 z17 z18 h => ?_)
  dsimp only at h
  refine v_iload_n 114 C 3 2 dX8_lendBy_114 rfl rfl ?_
  obtain ⟨hz, h⟩ := gd_some h
  cases h
  exact v_zret 115 C (zB_nar hz) hK dX8_lendBy_115
theorem c_f_X8_lendBy (l : Launch) (G : Wld) (hG : GI G) (σ : Sto) (a1 : Int32) (y : Sto × Int32) (h : f_X8_lendBy σ a1 = some y) : Ct l G yX8_lendBy cX8_lendBy 6 (some .boolean) 1 [.ref (G.1 39), .int a1] σ (some (.int y.2)) y.1 := by
  refine ct_intro RX8 hG (by decide) rfl (Nat.le_of_ble_eq_true rfl) (fun X hX C hK => ?_)
  subst hX
  exact w_f_X8_lendBy C h hK
theorem r_f_X8_lendBy {G : Wld} {X : Cxt} {own : String} {cc : ByteArray} {nL n : Nat} {σ : Sto} {lv : List (Nat × Value)} {st : List Value} {β : Type} {r : β} {F : Sto → Int32 → Option β} {a1 : Int32} {ix : Nat} (pc : Nat) (C : Cx G X own cc nL n) (hn : 1 < n) (h1 : Cond.methodLink own ix yX8_lendBy ∈ lw_gd) (hd : decode cc pc = .ok (.invokevirtual ix, 3)) (hsum : (st.map fun v => v.category).sum ≤ 8) (h : bd2 (f_X8_lendBy σ a1) F = some r) (kk : ∀ σ1 v, F σ1 v = some r → V G X nL σ1 lv (.int v :: st) (pc + 3)) : V G X nL σ lv (.int a1 :: .ref (G.1 39) :: st) pc := by
  obtain ⟨z, hz, h⟩ := bd2_some h
  exact v_callV pc C 39 1 [.int a1] st (c_f_X8_lendBy (xl X) G C.2.2.2.2.2.2.1 _ _ _ hz) hn (by decide) (by decide) (ce_39 G _ _) rfl (by decide +kernel) rfl h1 q_1172 q_55 q_68 q_1173 rfl hsum hd (kk _ _ h)
-- f_X8_hats
def f_X8_hats_j21 (σ : Sto) : Option (Sto × Int32) :=
  some (σ, (-1000000001 : Int32))
def f_X8_hats_l33 (x1 : Int32) (x2 : Int32) (σ : Sto) (x3 : Int32) (x4 : Int32) : Option ((Sto × Int32 × Int32) ⊕ (Sto × Int32 × Int32)) :=
  if (σ.1 39 10) ≤ x4 then (some (.inr (σ, x3, x4))) else (bs (x3 * ((σ.1 39 8) + (1 : Int32))) fun z7 => bs (x4 + (1 : Int32)) fun z8 => some (.inl (σ, z7, z8)))
def f_X8_hats_j151 (σ : Sto) (x1 : Int32) (x2 : Int32) (x3 : Int32) (x4 : Int32) : Option ((Sto × Int32) ⊕ (Sto × Int32)) :=
  bs (x4 + (1 : Int32)) fun z17 => some (.inl (σ, z17))
def f_X8_hats_l123 (x1 : Int32) (x2 : Int32) (x3 : Int32) (x4 : Int32) (σ : Sto) (x6 : Int32) : Option ((Sto × Int32) ⊕ (Sto × Int32)) :=
  if (σ.1 39 10) ≤ x6 then (some (.inr (σ, x6))) else (bd2 (f_X8_onWhom σ x6) fun σ27 v28 => gd (inB x6 6) (bs (su σ27 64 (x6).toNatClampNeg v28) fun σ29 => bs (x6 + (1 : Int32)) fun z30 => some (.inl (σ29, z30))))
def f_X8_hats_l67 (x1 : Int32) (x2 : Int32) (x3 : Int32) (σ : Sto) (x4 : Int32) : Option ((Sto × Int32) ⊕ (Sto × Int32)) :=
  if x3 ≤ x4 then (some (.inr (σ, x4))) else (bd2 (f_X8_lendBy σ x4) fun σ15 v16 => if v16 = 0 then (f_X8_hats_j151 σ15 x1 x2 x3 x4) else (bd2 (f_X8_longNow σ15 x1) fun σ18 v19 => bd1 (f_X8_findAlms σ18 (σ15.1 39 8) v19) fun σ20 => bd2 (f_X8_almsOfAll σ20 (σ20.1 39 8)) fun σ22 v23 => bs v23 fun z24 => if z24 ≤ (σ22.1 39 47) then (f_X8_hats_j151 σ22 x1 x2 x3 x4) else (bs (su σ22 39 47 z24) fun σ25 => bs (0 : Int32) fun z26 => bE1 (lpF (fun t => f_X8_hats_l123 x1 x2 x3 x4 t.1 t.2) FU (σ25, z26)) (fun σ31 z32 => f_X8_hats_j151 σ31 x1 x2 x3 x4))))
def f_X8_hats_j179 (σ : Sto) (s0 : Int32) : Option (Sto × Int32) :=
  some (σ, s0)
def f_X8_hats_j24 (σ : Sto) (x1 : Int32) (x2 : Int32) : Option (Sto × Int32) :=
  bd1 (f_X8_saveAll σ) fun σ3 => bs (1 : Int32) fun z5 => bs (0 : Int32) fun z6 => bE2 (lpF (fun t => f_X8_hats_l33 x1 x2 t.1 t.2.1 t.2.2) FU (σ3, z5, z6)) (fun σ9 z10 z11 => bs (su σ9 39 47 (-1000000000 : Int32)) fun σ13 => bs (0 : Int32) fun z14 => bE1 (lpF (fun t => f_X8_hats_l67 x1 x2 z10 t.1 t.2) FU (σ13, z14)) (fun σ34 z35 => bd1 (f_X8_putBack σ34) fun σ37 => if x2 = (-1 : Int32) then (f_X8_hats_j179 σ37 (σ37.1 39 47)) else (gd (inB x2 6) (f_X8_hats_j179 σ37 (σ37.1 64 (x2).toNatClampNeg)))))
def f_X8_hats (σ : Sto) (a1 : Int32) (a2 : Int32) : Option (Sto × Int32) :=
  bd2 (f_X8_isBell σ a1) fun σ1 v2 => if v2 = 0 then (f_X8_hats_j21 σ1) else (if a2 = (-1 : Int32) then (f_X8_hats_j24 σ1 a1 a2) else (bd2 (f_X8_isHat σ1 a2) fun σ39 v40 => if v40 = 0 then (f_X8_hats_j21 σ39) else (f_X8_hats_j24 σ39 a1 a2)))
theorem w_f_X8_hats_j21 {G : Wld} {X : Cxt} (C : Cx G X RX8 cX8_hats 7 4) {σ : Sto} {y : Sto × Int32} (h : f_X8_hats_j21 σ = some y) (hK : Rx G X (some .int) (some (.int y.2)) y.1) : V G X 7 σ [(0, .ref (G.1 39))] [] 21 := by
  unfold f_X8_hats_j21 at h
  refine v_ldc 21 C dX8_hats_21 q_1024 ?_
  cases h
  exact v_iret 23 C hK dX8_hats_23
theorem w_f_X8_hats_l33 {G : Wld} {X : Cxt} (C : Cx G X RX8 cX8_hats 7 4) {x1 : Int32} {x2 : Int32} {σ : Sto} {x3 : Int32} {x4 : Int32} {y : (Sto × Int32 × Int32) ⊕ (Sto × Int32 × Int32)} (h : f_X8_hats_l33 x1 x2 σ x3 x4 = some y) (hc : ∀ t : Sto × Int32 × Int32, y = .inl t → V G X 7 t.1 [(0, .ref (G.1 39)), (1, .int x1), (2, .int x2), (3, .int t.2.1), (4, .int t.2.2)] [] 33) {Ve : Sto × Int32 × Int32 → Prop} (he : ∀ e, y = .inr e → Ve e) (hx : ∀ (σ : Sto) (x3 : Int32) (x4 : Int32), Ve (σ, x3, x4) → V G X 7 σ [(0, .ref (G.1 39)), (1, .int x1), (2, .int x2), (3, .int x3), (4, .int x4)] [] 57) : V G X 7 σ [(0, .ref (G.1 39)), (1, .int x1), (2, .int x2), (3, .int x3), (4, .int x4)] [] 33 := by
  unfold f_X8_hats_l33 at h
  refine v_iload 33 C 4 4 dX8_hats_33 rfl ?_
  refine v_aload_n 35 C 0 0 dX8_hats_35 rfl rfl ?_
  refine g_X8_39_10 36 C dX8_hats_36 ?_
  refine v_icmp_ge 39 C 57 dX8_hats_39 (by decide) h (fun h => ?_) (fun h => ?_)
  · exact v_sub [0, 1, 2, 3, 4] rfl (hx _ _ _ (he _ (Option.some.inj h).symm))
  · refine v_iload_n 42 C 3 3 dX8_hats_42 rfl rfl ?_
    refine v_aload_n 43 C 0 0 dX8_hats_43 rfl rfl ?_
    refine g_X8_39_8 44 C dX8_hats_44 ?_
    refine v_iconst 47 C (1 : Int32) dX8_hats_47 (by decide) ?_
    refine v_iadd 48 C dX8_hats_48 ?_
    refine v_imul 49 C dX8_hats_49 ?_
    refine b_istore_n 50 C 3 (lv2 := fun z7 => [(3, .int z7), (0, .ref (G.1 39)), (1, .int x1), (2, .int x2), (4, .int x4)]) dX8_hats_50 rfl (by decide) (fun _ => rfl) h (fun z7 h => ?_)
    refine b_iinc 51 C 4 4 (1 : Int32) (lv2 := fun z8 => [(4, .int z8), (3, .int z7), (0, .ref (G.1 39)), (1, .int x1), (2, .int x2)]) dX8_hats_51 rfl (by decide) (by decide) (fun _ => rfl) h (fun z8 h => ?_)
    refine v_goto 54 C 33 dX8_hats_54 (by decide) ?_
    exact v_sub [2, 3, 4, 1, 0] rfl (hc _ (Option.some.inj h).symm)
theorem w_f_X8_hats_j151 {G : Wld} {X : Cxt} (C : Cx G X RX8 cX8_hats 7 4) {σ : Sto} {x1 : Int32} {x2 : Int32} {x3 : Int32} {x4 : Int32} {y : (Sto × Int32) ⊕ (Sto × Int32)} (h : f_X8_hats_j151 σ x1 x2 x3 x4 = some y) (hc : ∀ t : Sto × Int32, y = .inl t → V G X 7 t.1 [(0, .ref (G.1 39)), (1, .int x1), (2, .int x2), (3, .int x3), (4, .int t.2)] [] 67) {Ve : Sto × Int32 → Prop} (he : ∀ e, y = .inr e → Ve e) (hx : ∀ (σ : Sto) (x4 : Int32), Ve (σ, x4) → V G X 7 σ [(0, .ref (G.1 39)), (1, .int x1), (2, .int x2), (3, .int x3), (4, .int x4)] [] 157) : V G X 7 σ [(0, .ref (G.1 39)), (1, .int x1), (2, .int x2), (3, .int x3), (4, .int x4)] [] 151 := by
  unfold f_X8_hats_j151 at h
  refine b_iinc 151 C 4 4 (1 : Int32) (lv2 := fun z17 => [(4, .int z17), (0, .ref (G.1 39)), (1, .int x1), (2, .int x2), (3, .int x3)]) dX8_hats_151 rfl (by decide) (by decide) (fun _ => rfl) h (fun z17 h => ?_)
  refine v_goto 154 C 67 dX8_hats_154 (by decide) ?_
  exact v_sub [1, 2, 3, 4, 0] rfl (hc _ (Option.some.inj h).symm)
theorem w_f_X8_hats_l123 {G : Wld} {X : Cxt} (C : Cx G X RX8 cX8_hats 7 4) {x1 : Int32} {x2 : Int32} {x3 : Int32} {x4 : Int32} {σ : Sto} {x6 : Int32} {y : (Sto × Int32) ⊕ (Sto × Int32)} (h : f_X8_hats_l123 x1 x2 x3 x4 σ x6 = some y) (hc : ∀ t : Sto × Int32, y = .inl t → V G X 7 t.1 [(0, .ref (G.1 39)), (1, .int x1), (2, .int x2), (3, .int x3), (4, .int x4), (6, .int t.2)] [] 123) {Ve : Sto × Int32 → Prop} (he : ∀ e, y = .inr e → Ve e) (hx : ∀ (σ : Sto) (x6 : Int32), Ve (σ, x6) → V G X 7 σ [(0, .ref (G.1 39)), (1, .int x1), (2, .int x2), (3, .int x3), (4, .int x4), (6, .int x6)] [] 151) : V G X 7 σ [(0, .ref (G.1 39)), (1, .int x1), (2, .int x2), (3, .int x3), (4, .int x4), (6, .int x6)] [] 123 := by
  unfold f_X8_hats_l123 at h
  refine v_iload 123 C 6 5 dX8_hats_123 rfl ?_
  refine v_aload_n 125 C 0 0 dX8_hats_125 rfl rfl ?_
  refine g_X8_39_10 126 C dX8_hats_126 ?_
  refine v_icmp_ge 129 C 151 dX8_hats_129 (by decide) h (fun h => ?_) (fun h => ?_)
  · exact v_sub [0, 1, 2, 3, 4, 5] rfl (hx _ _ (he _ (Option.some.inj h).symm))
  · refine v_aload_n 132 C 0 0 dX8_hats_132 rfl rfl ?_
    refine g_X8_39_46 133 C dX8_hats_133 ?_
    refine v_iload 136 C 6 5 dX8_hats_136 rfl ?_
    refine v_aload_n 138 C 0 0 dX8_hats_138 rfl rfl ?_
    refine v_iload 139 C 6 5 dX8_hats_139 rfl ?_
    refine r_f_X8_onWhom 141 C (by decide) q_1062 dX8_hats_141 (Nat.le_of_ble_eq_true rfl) h (fun σ27 v28 h => ?_)
    refine b_iast 144 C 64 (by decide) (ce_64 G) dX8_hats_144 h (fun σ29 h => ?_)
    refine b_iinc 145 C 6 5 (1 : Int32) (lv2 := fun z30 => [(6, .int z30), (0, .ref (G.1 39)), (1, .int x1), (2, .int x2), (3, .int x3), (4, .int x4)]) dX8_hats_145 rfl (by decide) (by decide) (fun _ => rfl) h (fun z30 h => ?_)
    refine v_goto 148 C 123 dX8_hats_148 (by decide) ?_
    exact v_sub [1, 2, 3, 4, 5, 0] rfl (hc _ (Option.some.inj h).symm)
theorem w_f_X8_hats_l67 {G : Wld} {X : Cxt} (C : Cx G X RX8 cX8_hats 7 4) {x1 : Int32} {x2 : Int32} {x3 : Int32} {σ : Sto} {x4 : Int32} {y : (Sto × Int32) ⊕ (Sto × Int32)} (h : f_X8_hats_l67 x1 x2 x3 σ x4 = some y) (hc : ∀ t : Sto × Int32, y = .inl t → V G X 7 t.1 [(0, .ref (G.1 39)), (1, .int x1), (2, .int x2), (3, .int x3), (4, .int t.2)] [] 67) {Ve : Sto × Int32 → Prop} (he : ∀ e, y = .inr e → Ve e) (hx : ∀ (σ : Sto) (x4 : Int32), Ve (σ, x4) → V G X 7 σ [(0, .ref (G.1 39)), (1, .int x1), (2, .int x2), (3, .int x3), (4, .int x4)] [] 157) : V G X 7 σ [(0, .ref (G.1 39)), (1, .int x1), (2, .int x2), (3, .int x3), (4, .int x4)] [] 67 := by
  unfold f_X8_hats_l67 at h
  refine v_iload 67 C 4 4 dX8_hats_67 rfl ?_
  refine v_iload_n 69 C 3 3 dX8_hats_69 rfl rfl ?_
  refine v_icmp_ge 70 C 157 dX8_hats_70 (by decide) h (fun h => ?_) (fun h => ?_)
  · exact v_sub [0, 1, 2, 3, 4] rfl (hx _ _ (he _ (Option.some.inj h).symm))
  · refine v_aload_n 73 C 0 0 dX8_hats_73 rfl rfl ?_
    refine v_iload 74 C 4 4 dX8_hats_74 rfl ?_
    refine r_f_X8_lendBy 76 C (by decide) q_1170 dX8_hats_76 (Nat.le_of_ble_eq_true rfl) h (fun σ15 v16 h => ?_)
    refine v_if_eq 79 C 151 dX8_hats_79 (by decide) h (fun h => ?_) (fun h => ?_)
    · exact v_sub [0, 1, 2, 3, 4] rfl (w_f_X8_hats_j151 C h hc he hx)
    · refine v_aload_n 82 C 0 0 dX8_hats_82 rfl rfl ?_
      refine v_aload_n 83 C 0 0 dX8_hats_83 rfl rfl ?_
      refine g_X8_39_8 84 C dX8_hats_84 ?_
      refine v_aload_n 87 C 0 0 dX8_hats_87 rfl rfl ?_
      refine v_iload_n 88 C 1 1 dX8_hats_88 rfl rfl ?_
      refine r_f_X8_longNow 89 C (by decide) q_1070 dX8_hats_89 (Nat.le_of_ble_eq_true rfl) h (fun σ18 v19 h => ?_)
      refine r_f_X8_findAlms 92 C (by decide) q_1074 dX8_hats_92 (Nat.le_of_ble_eq_true rfl) h (fun σ20 h => ?_)
      refine v_aload_n 95 C 0 0 dX8_hats_95 rfl rfl ?_
      refine v_aload_n 96 C 0 0 dX8_hats_96 rfl rfl ?_
      refine g_X8_39_8 97 C dX8_hats_97 ?_
      refine r_f_X8_almsOfAll 100 C (by decide) q_1158 dX8_hats_100 (Nat.le_of_ble_eq_true rfl) h (fun σ22 v23 h => ?_)
      refine b_istore 103 C 5 (lv2 := fun z24 => [(5, .int z24), (0, .ref (G.1 39)), (1, .int x1), (2, .int x2), (3, .int x3), (4, .int x4)]) dX8_hats_103 (by decide) (fun _ => rfl) h (fun z24 h => ?_)
      refine v_iload 105 C 5 0 dX8_hats_105 rfl ?_
      refine v_aload_n 107 C 0 1 dX8_hats_107 rfl rfl ?_
      refine g_X8_39_47 108 C dX8_hats_108 ?_
      refine v_icmp_le 111 C 151 dX8_hats_111 (by decide) h (fun h => ?_) (fun h => ?_)
      · exact v_sub [1, 2, 3, 4, 5] rfl (w_f_X8_hats_j151 C h hc he hx)
      · refine v_aload_n 114 C 0 1 dX8_hats_114 rfl rfl ?_
        refine v_iload 115 C 5 0 dX8_hats_115 rfl ?_
        refine p_X8_39_47 117 C dX8_hats_117 h (fun σ25 h => ?_)
        refine v_iconst 120 C (0 : Int32) dX8_hats_120 (by decide) ?_
        refine b_istore 121 C 6 (lv2 := fun z26 => [(6, .int z26), (5, .int z24), (0, .ref (G.1 39)), (1, .int x1), (2, .int x2), (3, .int x3), (4, .int x4)]) dX8_hats_121 (by decide) (fun _ => rfl) h (fun z26 h => ?_)
        refine v_sub [2, 3, 4, 5, 6, 0] rfl ?_
        refine lp_go (Vh := fun t => V G X 7 t.1 [(0, .ref (G.1 39)), (1, .int x1), (2, .int x2), (3, .int x3), (4, .int x4), (6, .int t.2)] [] 123) h ?_
        intro t33 y33 hy33 hc33 he33
        refine w_f_X8_hats_l123 C hy33 hc33 he33 (fun σ31 z32 h => ?_)
        dsimp only at h
        exact v_sub [0, 1, 2, 3, 4] rfl (w_f_X8_hats_j151 C h hc he hx)
theorem w_f_X8_hats_j179 {G : Wld} {X : Cxt} (C : Cx G X RX8 cX8_hats 7 4) {σ : Sto} {s0 : Int32} {y : Sto × Int32} (h : f_X8_hats_j179 σ s0 = some y) (hK : Rx G X (some .int) (some (.int y.2)) y.1) : V G X 7 σ [(0, .ref (G.1 39))] [.int s0] 179 := by
  unfold f_X8_hats_j179 at h
  cases h
  exact v_iret 179 C hK dX8_hats_179
theorem w_f_X8_hats_j24 {G : Wld} {X : Cxt} (C : Cx G X RX8 cX8_hats 7 4) {σ : Sto} {x1 : Int32} {x2 : Int32} {y : Sto × Int32} (h : f_X8_hats_j24 σ x1 x2 = some y) (hK : Rx G X (some .int) (some (.int y.2)) y.1) : V G X 7 σ [(0, .ref (G.1 39)), (1, .int x1), (2, .int x2)] [] 24 := by
  unfold f_X8_hats_j24 at h
  refine v_aload_n 24 C 0 0 dX8_hats_24 rfl rfl ?_
  refine r_f_X8_saveAll 25 C (by decide) q_1145 dX8_hats_25 (Nat.le_of_ble_eq_true rfl) h (fun σ3 h => ?_)
  refine v_iconst 28 C (1 : Int32) dX8_hats_28 (by decide) ?_
  refine b_istore_n 29 C 3 (lv2 := fun z5 => [(3, .int z5), (0, .ref (G.1 39)), (1, .int x1), (2, .int x2)]) dX8_hats_29 rfl (by decide) (fun _ => rfl) h (fun z5 h => ?_)
  refine v_iconst 30 C (0 : Int32) dX8_hats_30 (by decide) ?_
  refine b_istore 31 C 4 (lv2 := fun z6 => [(4, .int z6), (3, .int z5), (0, .ref (G.1 39)), (1, .int x1), (2, .int x2)]) dX8_hats_31 (by decide) (fun _ => rfl) h (fun z6 h => ?_)
  refine v_sub [2, 3, 4, 1, 0] rfl ?_
  refine lp_go (Vh := fun t => V G X 7 t.1 [(0, .ref (G.1 39)), (1, .int x1), (2, .int x2), (3, .int t.2.1), (4, .int t.2.2)] [] 33) h ?_
  intro t12 y12 hy12 hc12 he12
  refine w_f_X8_hats_l33 C hy12 hc12 he12 (fun σ9 z10 z11 h => ?_)
  dsimp only at h
  refine v_aload_n 57 C 0 0 dX8_hats_57 rfl rfl ?_
  refine v_ldc_w 58 C dX8_hats_58 q_1153 ?_
  refine p_X8_39_47 61 C dX8_hats_61 h (fun σ13 h => ?_)
  refine v_iconst 64 C (0 : Int32) dX8_hats_64 (by decide) ?_
  refine b_istore 65 C 4 (lv2 := fun z14 => [(4, .int z14), (0, .ref (G.1 39)), (1, .int x1), (2, .int x2), (3, .int z10)]) dX8_hats_65 (by decide) (fun _ => rfl) h (fun z14 h => ?_)
  refine v_sub [1, 2, 3, 4, 0] rfl ?_
  refine lp_go (Vh := fun t => V G X 7 t.1 [(0, .ref (G.1 39)), (1, .int x1), (2, .int x2), (3, .int z10), (4, .int t.2)] [] 67) h ?_
  intro t36 y36 hy36 hc36 he36
  refine w_f_X8_hats_l67 C hy36 hc36 he36 (fun σ34 z35 h => ?_)
  dsimp only at h
  refine v_aload_n 157 C 0 0 dX8_hats_157 rfl rfl ?_
  refine r_f_X8_putBack 158 C (by decide) q_1162 dX8_hats_158 (Nat.le_of_ble_eq_true rfl) h (fun σ37 h => ?_)
  refine v_iload_n 161 C 2 2 dX8_hats_161 rfl rfl ?_
  refine v_iconst 162 C (-1 : Int32) dX8_hats_162 (by decide) ?_
  refine v_icmp_ne 163 C 173 dX8_hats_163 (by decide) h (fun h => ?_) (fun h => ?_)
  · refine v_aload_n 173 C 0 0 dX8_hats_173 rfl rfl ?_
    refine g_X8_39_46 174 C dX8_hats_174 ?_
    refine v_iload_n 177 C 2 2 dX8_hats_177 rfl rfl ?_
    refine v_iald 178 C 64 (by decide) (ce_64 G) dX8_hats_178 h (fun h => ?_)
    exact v_sub [0] rfl (w_f_X8_hats_j179 C h hK)
  · refine v_aload_n 166 C 0 0 dX8_hats_166 rfl rfl ?_
    refine g_X8_39_47 167 C dX8_hats_167 ?_
    refine v_goto 170 C 179 dX8_hats_170 (by decide) ?_
    exact v_sub [0] rfl (w_f_X8_hats_j179 C h hK)
theorem w_f_X8_hats {G : Wld} {X : Cxt} (C : Cx G X RX8 cX8_hats 7 4) {σ : Sto} {a1 : Int32} {a2 : Int32} {y : Sto × Int32} (h : f_X8_hats σ a1 a2 = some y) (hK : Rx G X (some .int) (some (.int y.2)) y.1) : V G X 7 σ [(0, .ref (G.1 39)), (1, .int a1), (2, .int a2)] [] 0 := by
  unfold f_X8_hats at h
  refine v_aload_n 0 C 0 0 dX8_hats_0 rfl rfl ?_
  refine v_iload_n 1 C 1 1 dX8_hats_1 rfl rfl ?_
  refine r_f_X8_isBell 2 C (by decide) q_1020 dX8_hats_2 (Nat.le_of_ble_eq_true rfl) h (fun σ1 v2 h => ?_)
  refine v_if_eq 5 C 21 dX8_hats_5 (by decide) h (fun h => ?_) (fun h => ?_)
  · exact v_sub [0] rfl (w_f_X8_hats_j21 C h hK)
  · refine v_iload_n 8 C 2 2 dX8_hats_8 rfl rfl ?_
    refine v_iconst 9 C (-1 : Int32) dX8_hats_9 (by decide) ?_
    refine v_icmp_eq 10 C 24 dX8_hats_10 (by decide) h (fun h => ?_) (fun h => ?_)
    · exact v_sub [0, 1, 2] rfl (w_f_X8_hats_j24 C h hK)
    · refine v_aload_n 13 C 0 0 dX8_hats_13 rfl rfl ?_
      refine v_iload_n 14 C 2 2 dX8_hats_14 rfl rfl ?_
      refine r_f_X8_isHat 15 C (by decide) q_1058 dX8_hats_15 (Nat.le_of_ble_eq_true rfl) h (fun σ39 v40 h => ?_)
      refine v_if_ne 18 C 24 dX8_hats_18 (by decide) h (fun h => ?_) (fun h => ?_)
      · exact v_sub [0, 1, 2] rfl (w_f_X8_hats_j24 C h hK)
      · exact v_sub [0] rfl (w_f_X8_hats_j21 C h hK)
theorem c_f_X8_hats (l : Launch) (G : Wld) (hG : GI G) (σ : Sto) (a1 : Int32) (a2 : Int32) (y : Sto × Int32) (h : f_X8_hats σ a1 a2 = some y) : Ct l G yX8_hats cX8_hats 7 (some .int) 4 [.ref (G.1 39), .int a1, .int a2] σ (some (.int y.2)) y.1 := by
  refine ct_intro RX8 hG (by decide) rfl (Nat.le_of_ble_eq_true rfl) (fun X hX C hK => ?_)
  subst hX
  exact w_f_X8_hats C h hK
theorem r_f_X8_hats {G : Wld} {X : Cxt} {own : String} {cc : ByteArray} {nL n : Nat} {σ : Sto} {lv : List (Nat × Value)} {st : List Value} {β : Type} {r : β} {F : Sto → Int32 → Option β} {a1 : Int32} {a2 : Int32} {ix : Nat} (pc : Nat) (C : Cx G X own cc nL n) (hn : 4 < n) (h1 : Cond.methodLink own ix yX8_hats ∈ lw_gd) (hd : decode cc pc = .ok (.invokevirtual ix, 3)) (hsum : (st.map fun v => v.category).sum ≤ 8) (h : bd2 (f_X8_hats σ a1 a2) F = some r) (kk : ∀ σ1 v, F σ1 v = some r → V G X nL σ1 lv (.int v :: st) (pc + 3)) : V G X nL σ lv (.int a2 :: .int a1 :: .ref (G.1 39) :: st) pc := by
  obtain ⟨z, hz, h⟩ := bd2_some h
  exact v_callV pc C 39 2 [.int a1, .int a2] st (c_f_X8_hats (xl X) G C.2.2.2.2.2.2.1 _ _ _ _ hz) hn (by decide) (by decide) (ce_39 G _ _) rfl (by decide +kernel) rfl h1 q_1167 q_1168 q_68 q_1169 rfl hsum hd (kk _ _ h)
-- f_X8_giant
def f_X8_giant_j46 (σ : Sto) : Option (Sto × Int32) :=
  some (σ, (-1000000002 : Int32))
def f_X8_giant_j224 (σ : Sto) (x1 : Int32) (x3 : Int32) (x4 : Int32) (x5 : Int32) (x6 : Int32) (x7 : Int32) (x8 : Int32) (x9 : Int32) : Option ((Sto × Int32 × Int32 × Int32) ⊕ (Sto × Int32 × Int32 × Int32)) :=
  bs (x9 + (1 : Int32)) fun z24 => some (.inl (σ, x6, x7, z24))
def f_X8_giant_j222 (σ : Sto) (x1 : Int32) (x3 : Int32) (x4 : Int32) (x5 : Int32) (x6 : Int32) (x8 : Int32) (x9 : Int32) (s0 : Int32) : Option ((Sto × Int32 × Int32 × Int32) ⊕ (Sto × Int32 × Int32 × Int32)) :=
  bs s0 fun z35 => f_X8_giant_j224 σ x1 x3 x4 x5 x6 z35 x8 x9
def f_X8_giant_j208 (σ : Sto) (x1 : Int32) (x3 : Int32) (x4 : Int32) (x5 : Int32) (x7 : Int32) (x8 : Int32) (x9 : Int32) (x10 : Int32) (x11 : Int32) (s0 : Int32) : Option ((Sto × Int32 × Int32 × Int32) ⊕ (Sto × Int32 × Int32 × Int32)) :=
  bs s0 fun z34 => if x11 = 0 then (f_X8_giant_j222 σ x1 x3 x4 x5 z34 x8 x9 x7) else (f_X8_giant_j222 σ x1 x3 x4 x5 z34 x8 x9 x10)
def f_X8_giant_j194 (σ : Sto) (x1 : Int32) (x3 : Int32) (x4 : Int32) (x5 : Int32) (x6 : Int32) (x7 : Int32) (x8 : Int32) (x9 : Int32) (x10 : Int32) (s0 : Int32) : Option ((Sto × Int32 × Int32 × Int32) ⊕ (Sto × Int32 × Int32 × Int32)) :=
  bs s0 fun z33 => if z33 = 0 then (f_X8_giant_j208 σ x1 x3 x4 x5 x7 x8 x9 x10 z33 x6) else (f_X8_giant_j208 σ x1 x3 x4 x5 x7 x8 x9 x10 z33 x9)
def f_X8_giant_j189 (σ : Sto) (x1 : Int32) (x3 : Int32) (x4 : Int32) (x5 : Int32) (x6 : Int32) (x7 : Int32) (x8 : Int32) (x9 : Int32) (x10 : Int32) : Option ((Sto × Int32 × Int32 × Int32) ⊕ (Sto × Int32 × Int32 × Int32)) :=
  f_X8_giant_j194 σ x1 x3 x4 x5 x6 x7 x8 x9 x10 (1 : Int32)
def f_X8_giant_l112 (x1 : Int32) (x3 : Int32) (x4 : Int32) (x5 : Int32) (x8 : Int32) (σ : Sto) (x6 : Int32) (x7 : Int32) (x9 : Int32) : Option ((Sto × Int32 × Int32 × Int32) ⊕ (Sto × Int32 × Int32 × Int32)) :=
  if (σ.1 39 4) ≤ x9 then (some (.inr (σ, x6, x7, x9))) else (bd2 (f_X8_whoIsOn σ x9 (σ.1 39 8)) fun σ22 v23 => if 0 ≤ v23 then (f_X8_giant_j224 σ22 x1 x3 x4 x5 x6 x7 x8 x9) else (gd (inB (σ22.1 39 8) 7) (bs (su σ22 48 ((σ22.1 39 8)).toNatClampNeg x9) fun σ25 => bd2 (f_X8_longNow σ25 x1) fun σ26 v27 => bd1 (f_X8_findAlms σ26 ((σ25.1 39 8) + (1 : Int32)) v27) fun σ28 => bd2 (f_X8_almsOfAll σ28 ((σ28.1 39 8) + (1 : Int32))) fun σ30 v31 => bs ((v31 - x5) - x3) fun z32 => if x6 < 0 then (f_X8_giant_j189 σ30 x1 x3 x4 x5 x6 x7 x8 x9 z32) else (if z32 ≤ x7 then (f_X8_giant_j194 σ30 x1 x3 x4 x5 x6 x7 x8 x9 z32 (0 : Int32)) else (f_X8_giant_j189 σ30 x1 x3 x4 x5 x6 x7 x8 x9 z32)))))
def f_X8_giant_j263 (σ : Sto) (s0 : Int32) : Option (Sto × Int32) :=
  some (σ, s0)
def f_X8_giant (σ : Sto) (a1 : Int32) (a2 : Int32) (a3 : Int32) (a4 : Int32) : Option (Sto × Int32) :=
  bd2 (f_X8_isBell σ a1) fun σ1 v2 => if v2 = 0 then (some (σ1, (-1000000001 : Int32))) else (bd2 (f_X8_in σ1 (a2).toInt64 (1 : Int64) (200 : Int64)) fun σ3 v4 => if v4 = 0 then (f_X8_giant_j46 σ3) else (bd2 (f_X8_in σ3 (a3).toInt64 (0 : Int64) (999 : Int64)) fun σ5 v6 => if v6 = 0 then (f_X8_giant_j46 σ5) else (bd2 (f_X8_in σ5 (a4).toInt64 (0 : Int64) (1 : Int64)) fun σ7 v8 => if v8 = 0 then (f_X8_giant_j46 σ7) else (bd2 (f_X8_longNow σ7 a1) fun σ9 v10 => bd1 (f_X8_findAlms σ9 (σ7.1 39 8) v10) fun σ11 => bd2 (f_X8_almsOfAll σ11 (σ11.1 39 8)) fun σ13 v14 => bs v14 fun z15 => bs (-1 : Int32) fun z16 => bs (0 : Int32) fun z17 => gd (inB (σ13.1 39 8) 7) (bs (σ13.1 45 ((σ13.1 39 8)).toNatClampNeg) fun z18 => gd (inB (σ13.1 39 8) 7) (bs (su σ13 45 ((σ13.1 39 8)).toNatClampNeg a2) fun σ19 => gd (inB (σ19.1 39 8) 7) (bs (su σ19 49 ((σ19.1 39 8)).toNatClampNeg (-1 : Int32)) fun σ20 => bs (0 : Int32) fun z21 => bE3 (lpF (fun t => f_X8_giant_l112 a1 a3 a4 z15 z18 t.1 t.2.1 t.2.2.1 t.2.2.2) FU (σ20, z16, z17, z21)) (fun σ36 z37 z38 z39 => gd (inB (σ36.1 39 8) 7) (bs (su σ36 48 ((σ36.1 39 8)).toNatClampNeg (-1 : Int32)) fun σ41 => gd (inB (σ41.1 39 8) 7) (bs (su σ41 45 ((σ41.1 39 8)).toNatClampNeg z18) fun σ42 => if a4 = 0 then (f_X8_giant_j263 σ42 z37) else (f_X8_giant_j263 σ42 z38)))))))))))
theorem w_f_X8_giant_j46 {G : Wld} {X : Cxt} (C : Cx G X RX8 cX8_giant 12 4) {σ : Sto} {y : Sto × Int32} (h : f_X8_giant_j46 σ = some y) (hK : Rx G X (some .int) (some (.int y.2)) y.1) : V G X 12 σ [(0, .ref (G.1 39))] [] 46 := by
  unfold f_X8_giant_j46 at h
  refine v_ldc 46 C dX8_giant_46 q_943 ?_
  cases h
  exact v_iret 48 C hK dX8_giant_48
theorem w_f_X8_giant_j224 {G : Wld} {X : Cxt} (C : Cx G X RX8 cX8_giant 12 4) {σ : Sto} {x1 : Int32} {x3 : Int32} {x4 : Int32} {x5 : Int32} {x6 : Int32} {x7 : Int32} {x8 : Int32} {x9 : Int32} {y : (Sto × Int32 × Int32 × Int32) ⊕ (Sto × Int32 × Int32 × Int32)} (h : f_X8_giant_j224 σ x1 x3 x4 x5 x6 x7 x8 x9 = some y) (hc : ∀ t : Sto × Int32 × Int32 × Int32, y = .inl t → V G X 12 t.1 [(0, .ref (G.1 39)), (1, .int x1), (3, .int x3), (4, .int x4), (5, .int x5), (6, .int t.2.1), (7, .int t.2.2.1), (8, .int x8), (9, .int t.2.2.2)] [] 112) {Ve : Sto × Int32 × Int32 × Int32 → Prop} (he : ∀ e, y = .inr e → Ve e) (hx : ∀ (σ : Sto) (x6 : Int32) (x7 : Int32) (x9 : Int32), Ve (σ, x6, x7, x9) → V G X 12 σ [(0, .ref (G.1 39)), (1, .int x1), (3, .int x3), (4, .int x4), (5, .int x5), (6, .int x6), (7, .int x7), (8, .int x8), (9, .int x9)] [] 230) : V G X 12 σ [(0, .ref (G.1 39)), (1, .int x1), (3, .int x3), (4, .int x4), (5, .int x5), (6, .int x6), (7, .int x7), (8, .int x8), (9, .int x9)] [] 224 := by
  unfold f_X8_giant_j224 at h
  refine b_iinc 224 C 9 8 (1 : Int32) (lv2 := fun z24 => [(9, .int z24), (0, .ref (G.1 39)), (1, .int x1), (3, .int x3), (4, .int x4), (5, .int x5), (6, .int x6), (7, .int x7), (8, .int x8)]) dX8_giant_224 rfl (by decide) (by decide) (fun _ => rfl) h (fun z24 h => ?_)
  refine v_goto 227 C 112 dX8_giant_227 (by decide) ?_
  exact v_sub [1, 2, 3, 4, 5, 6, 7, 8, 0] rfl (hc _ (Option.some.inj h).symm)
theorem w_f_X8_giant_j222 {G : Wld} {X : Cxt} (C : Cx G X RX8 cX8_giant 12 4) {σ : Sto} {x1 : Int32} {x3 : Int32} {x4 : Int32} {x5 : Int32} {x6 : Int32} {x8 : Int32} {x9 : Int32} {s0 : Int32} {y : (Sto × Int32 × Int32 × Int32) ⊕ (Sto × Int32 × Int32 × Int32)} (h : f_X8_giant_j222 σ x1 x3 x4 x5 x6 x8 x9 s0 = some y) (hc : ∀ t : Sto × Int32 × Int32 × Int32, y = .inl t → V G X 12 t.1 [(0, .ref (G.1 39)), (1, .int x1), (3, .int x3), (4, .int x4), (5, .int x5), (6, .int t.2.1), (7, .int t.2.2.1), (8, .int x8), (9, .int t.2.2.2)] [] 112) {Ve : Sto × Int32 × Int32 × Int32 → Prop} (he : ∀ e, y = .inr e → Ve e) (hx : ∀ (σ : Sto) (x6 : Int32) (x7 : Int32) (x9 : Int32), Ve (σ, x6, x7, x9) → V G X 12 σ [(0, .ref (G.1 39)), (1, .int x1), (3, .int x3), (4, .int x4), (5, .int x5), (6, .int x6), (7, .int x7), (8, .int x8), (9, .int x9)] [] 230) : V G X 12 σ [(0, .ref (G.1 39)), (1, .int x1), (3, .int x3), (4, .int x4), (5, .int x5), (6, .int x6), (8, .int x8), (9, .int x9)] [.int s0] 222 := by
  unfold f_X8_giant_j222 at h
  refine b_istore 222 C 7 (lv2 := fun z35 => [(7, .int z35), (0, .ref (G.1 39)), (1, .int x1), (3, .int x3), (4, .int x4), (5, .int x5), (6, .int x6), (8, .int x8), (9, .int x9)]) dX8_giant_222 (by decide) (fun _ => rfl) h (fun z35 h => ?_)
  exact v_sub [1, 2, 3, 4, 5, 6, 0, 7, 8] rfl (w_f_X8_giant_j224 C h hc he hx)
theorem w_f_X8_giant_j208 {G : Wld} {X : Cxt} (C : Cx G X RX8 cX8_giant 12 4) {σ : Sto} {x1 : Int32} {x3 : Int32} {x4 : Int32} {x5 : Int32} {x7 : Int32} {x8 : Int32} {x9 : Int32} {x10 : Int32} {x11 : Int32} {s0 : Int32} {y : (Sto × Int32 × Int32 × Int32) ⊕ (Sto × Int32 × Int32 × Int32)} (h : f_X8_giant_j208 σ x1 x3 x4 x5 x7 x8 x9 x10 x11 s0 = some y) (hc : ∀ t : Sto × Int32 × Int32 × Int32, y = .inl t → V G X 12 t.1 [(0, .ref (G.1 39)), (1, .int x1), (3, .int x3), (4, .int x4), (5, .int x5), (6, .int t.2.1), (7, .int t.2.2.1), (8, .int x8), (9, .int t.2.2.2)] [] 112) {Ve : Sto × Int32 × Int32 × Int32 → Prop} (he : ∀ e, y = .inr e → Ve e) (hx : ∀ (σ : Sto) (x6 : Int32) (x7 : Int32) (x9 : Int32), Ve (σ, x6, x7, x9) → V G X 12 σ [(0, .ref (G.1 39)), (1, .int x1), (3, .int x3), (4, .int x4), (5, .int x5), (6, .int x6), (7, .int x7), (8, .int x8), (9, .int x9)] [] 230) : V G X 12 σ [(0, .ref (G.1 39)), (1, .int x1), (3, .int x3), (4, .int x4), (5, .int x5), (7, .int x7), (8, .int x8), (9, .int x9), (10, .int x10), (11, .int x11)] [.int s0] 208 := by
  unfold f_X8_giant_j208 at h
  refine b_istore 208 C 6 (lv2 := fun z34 => [(6, .int z34), (0, .ref (G.1 39)), (1, .int x1), (3, .int x3), (4, .int x4), (5, .int x5), (7, .int x7), (8, .int x8), (9, .int x9), (10, .int x10), (11, .int x11)]) dX8_giant_208 (by decide) (fun _ => rfl) h (fun z34 h => ?_)
  refine v_iload 210 C 11 10 dX8_giant_210 rfl ?_
  refine v_if_eq 212 C 220 dX8_giant_212 (by decide) h (fun h => ?_) (fun h => ?_)
  · refine v_iload 220 C 7 6 dX8_giant_220 rfl ?_
    exact v_sub [1, 2, 3, 4, 5, 0, 7, 8] rfl (w_f_X8_giant_j222 C h hc he hx)
  · refine v_iload 215 C 10 9 dX8_giant_215 rfl ?_
    refine v_goto 217 C 222 dX8_giant_217 (by decide) ?_
    exact v_sub [1, 2, 3, 4, 5, 0, 7, 8] rfl (w_f_X8_giant_j222 C h hc he hx)
theorem w_f_X8_giant_j194 {G : Wld} {X : Cxt} (C : Cx G X RX8 cX8_giant 12 4) {σ : Sto} {x1 : Int32} {x3 : Int32} {x4 : Int32} {x5 : Int32} {x6 : Int32} {x7 : Int32} {x8 : Int32} {x9 : Int32} {x10 : Int32} {s0 : Int32} {y : (Sto × Int32 × Int32 × Int32) ⊕ (Sto × Int32 × Int32 × Int32)} (h : f_X8_giant_j194 σ x1 x3 x4 x5 x6 x7 x8 x9 x10 s0 = some y) (hc : ∀ t : Sto × Int32 × Int32 × Int32, y = .inl t → V G X 12 t.1 [(0, .ref (G.1 39)), (1, .int x1), (3, .int x3), (4, .int x4), (5, .int x5), (6, .int t.2.1), (7, .int t.2.2.1), (8, .int x8), (9, .int t.2.2.2)] [] 112) {Ve : Sto × Int32 × Int32 × Int32 → Prop} (he : ∀ e, y = .inr e → Ve e) (hx : ∀ (σ : Sto) (x6 : Int32) (x7 : Int32) (x9 : Int32), Ve (σ, x6, x7, x9) → V G X 12 σ [(0, .ref (G.1 39)), (1, .int x1), (3, .int x3), (4, .int x4), (5, .int x5), (6, .int x6), (7, .int x7), (8, .int x8), (9, .int x9)] [] 230) : V G X 12 σ [(0, .ref (G.1 39)), (1, .int x1), (3, .int x3), (4, .int x4), (5, .int x5), (6, .int x6), (7, .int x7), (8, .int x8), (9, .int x9), (10, .int x10)] [.int s0] 194 := by
  unfold f_X8_giant_j194 at h
  refine b_istore 194 C 11 (lv2 := fun z33 => [(11, .int z33), (0, .ref (G.1 39)), (1, .int x1), (3, .int x3), (4, .int x4), (5, .int x5), (6, .int x6), (7, .int x7), (8, .int x8), (9, .int x9), (10, .int x10)]) dX8_giant_194 (by decide) (fun _ => rfl) h (fun z33 h => ?_)
  refine v_iload 196 C 11 0 dX8_giant_196 rfl ?_
  refine v_if_eq 198 C 206 dX8_giant_198 (by decide) h (fun h => ?_) (fun h => ?_)
  · refine v_iload 206 C 6 6 dX8_giant_206 rfl ?_
    exact v_sub [1, 2, 3, 4, 5, 7, 8, 9, 10, 0] rfl (w_f_X8_giant_j208 C h hc he hx)
  · refine v_iload 201 C 9 9 dX8_giant_201 rfl ?_
    refine v_goto 203 C 208 dX8_giant_203 (by decide) ?_
    exact v_sub [1, 2, 3, 4, 5, 7, 8, 9, 10, 0] rfl (w_f_X8_giant_j208 C h hc he hx)
theorem w_f_X8_giant_j189 {G : Wld} {X : Cxt} (C : Cx G X RX8 cX8_giant 12 4) {σ : Sto} {x1 : Int32} {x3 : Int32} {x4 : Int32} {x5 : Int32} {x6 : Int32} {x7 : Int32} {x8 : Int32} {x9 : Int32} {x10 : Int32} {y : (Sto × Int32 × Int32 × Int32) ⊕ (Sto × Int32 × Int32 × Int32)} (h : f_X8_giant_j189 σ x1 x3 x4 x5 x6 x7 x8 x9 x10 = some y) (hc : ∀ t : Sto × Int32 × Int32 × Int32, y = .inl t → V G X 12 t.1 [(0, .ref (G.1 39)), (1, .int x1), (3, .int x3), (4, .int x4), (5, .int x5), (6, .int t.2.1), (7, .int t.2.2.1), (8, .int x8), (9, .int t.2.2.2)] [] 112) {Ve : Sto × Int32 × Int32 × Int32 → Prop} (he : ∀ e, y = .inr e → Ve e) (hx : ∀ (σ : Sto) (x6 : Int32) (x7 : Int32) (x9 : Int32), Ve (σ, x6, x7, x9) → V G X 12 σ [(0, .ref (G.1 39)), (1, .int x1), (3, .int x3), (4, .int x4), (5, .int x5), (6, .int x6), (7, .int x7), (8, .int x8), (9, .int x9)] [] 230) : V G X 12 σ [(0, .ref (G.1 39)), (1, .int x1), (3, .int x3), (4, .int x4), (5, .int x5), (6, .int x6), (7, .int x7), (8, .int x8), (9, .int x9), (10, .int x10)] [] 189 := by
  unfold f_X8_giant_j189 at h
  refine v_iconst 189 C (1 : Int32) dX8_giant_189 (by decide) ?_
  refine v_goto 190 C 194 dX8_giant_190 (by decide) ?_
  exact v_sub [0, 1, 2, 3, 4, 5, 6, 7, 8, 9] rfl (w_f_X8_giant_j194 C h hc he hx)
theorem w_f_X8_giant_l112 {G : Wld} {X : Cxt} (C : Cx G X RX8 cX8_giant 12 4) {x1 : Int32} {x3 : Int32} {x4 : Int32} {x5 : Int32} {x8 : Int32} {σ : Sto} {x6 : Int32} {x7 : Int32} {x9 : Int32} {y : (Sto × Int32 × Int32 × Int32) ⊕ (Sto × Int32 × Int32 × Int32)} (h : f_X8_giant_l112 x1 x3 x4 x5 x8 σ x6 x7 x9 = some y) (hc : ∀ t : Sto × Int32 × Int32 × Int32, y = .inl t → V G X 12 t.1 [(0, .ref (G.1 39)), (1, .int x1), (3, .int x3), (4, .int x4), (5, .int x5), (6, .int t.2.1), (7, .int t.2.2.1), (8, .int x8), (9, .int t.2.2.2)] [] 112) {Ve : Sto × Int32 × Int32 × Int32 → Prop} (he : ∀ e, y = .inr e → Ve e) (hx : ∀ (σ : Sto) (x6 : Int32) (x7 : Int32) (x9 : Int32), Ve (σ, x6, x7, x9) → V G X 12 σ [(0, .ref (G.1 39)), (1, .int x1), (3, .int x3), (4, .int x4), (5, .int x5), (6, .int x6), (7, .int x7), (8, .int x8), (9, .int x9)] [] 230) : V G X 12 σ [(0, .ref (G.1 39)), (1, .int x1), (3, .int x3), (4, .int x4), (5, .int x5), (6, .int x6), (7, .int x7), (8, .int x8), (9, .int x9)] [] 112 := by
  unfold f_X8_giant_l112 at h
  refine v_iload 112 C 9 8 dX8_giant_112 rfl ?_
  refine v_aload_n 114 C 0 0 dX8_giant_114 rfl rfl ?_
  refine g_X8_39_4 115 C dX8_giant_115 ?_
  refine v_icmp_ge 118 C 230 dX8_giant_118 (by decide) h (fun h => ?_) (fun h => ?_)
  · exact v_sub [0, 1, 2, 3, 4, 5, 6, 7, 8] rfl (hx _ _ _ _ (he _ (Option.some.inj h).symm))
  · refine v_aload_n 121 C 0 0 dX8_giant_121 rfl rfl ?_
    refine v_iload 122 C 9 8 dX8_giant_122 rfl ?_
    refine v_aload_n 124 C 0 0 dX8_giant_124 rfl rfl ?_
    refine g_X8_39_8 125 C dX8_giant_125 ?_
    refine r_f_X8_whoIsOn 128 C (by decide) q_1038 dX8_giant_128 (Nat.le_of_ble_eq_true rfl) h (fun σ22 v23 h => ?_)
    refine v_if_ge 131 C 224 dX8_giant_131 (by decide) h (fun h => ?_) (fun h => ?_)
    · exact v_sub [0, 1, 2, 3, 4, 5, 6, 7, 8] rfl (w_f_X8_giant_j224 C h hc he hx)
    · refine v_aload_n 134 C 0 0 dX8_giant_134 rfl rfl ?_
      refine g_X8_39_14 135 C dX8_giant_135 ?_
      refine v_aload_n 138 C 0 0 dX8_giant_138 rfl rfl ?_
      refine g_X8_39_8 139 C dX8_giant_139 ?_
      refine v_iload 142 C 9 8 dX8_giant_142 rfl ?_
      refine b_iast 144 C 48 (by decide) (ce_48 G) dX8_giant_144 h (fun σ25 h => ?_)
      refine v_aload_n 145 C 0 0 dX8_giant_145 rfl rfl ?_
      refine v_aload_n 146 C 0 0 dX8_giant_146 rfl rfl ?_
      refine g_X8_39_8 147 C dX8_giant_147 ?_
      refine v_iconst 150 C (1 : Int32) dX8_giant_150 (by decide) ?_
      refine v_iadd 151 C dX8_giant_151 ?_
      refine v_aload_n 152 C 0 0 dX8_giant_152 rfl rfl ?_
      refine v_iload_n 153 C 1 1 dX8_giant_153 rfl rfl ?_
      refine r_f_X8_longNow 154 C (by decide) q_1070 dX8_giant_154 (Nat.le_of_ble_eq_true rfl) h (fun σ26 v27 h => ?_)
      refine r_f_X8_findAlms 157 C (by decide) q_1074 dX8_giant_157 (Nat.le_of_ble_eq_true rfl) h (fun σ28 h => ?_)
      refine v_aload_n 160 C 0 0 dX8_giant_160 rfl rfl ?_
      refine v_aload_n 161 C 0 0 dX8_giant_161 rfl rfl ?_
      refine g_X8_39_8 162 C dX8_giant_162 ?_
      refine v_iconst 165 C (1 : Int32) dX8_giant_165 (by decide) ?_
      refine v_iadd 166 C dX8_giant_166 ?_
      refine r_f_X8_almsOfAll 167 C (by decide) q_1158 dX8_giant_167 (Nat.le_of_ble_eq_true rfl) h (fun σ30 v31 h => ?_)
      refine v_iload 170 C 5 4 dX8_giant_170 rfl ?_
      refine v_isub 172 C dX8_giant_172 ?_
      refine v_iload_n 173 C 3 2 dX8_giant_173 rfl rfl ?_
      refine v_isub 174 C dX8_giant_174 ?_
      refine b_istore 175 C 10 (lv2 := fun z32 => [(10, .int z32), (0, .ref (G.1 39)), (1, .int x1), (3, .int x3), (4, .int x4), (5, .int x5), (6, .int x6), (7, .int x7), (8, .int x8), (9, .int x9)]) dX8_giant_175 (by decide) (fun _ => rfl) h (fun z32 h => ?_)
      refine v_iload 177 C 6 6 dX8_giant_177 rfl ?_
      refine v_if_lt 179 C 189 dX8_giant_179 (by decide) h (fun h => ?_) (fun h => ?_)
      · exact v_sub [1, 2, 3, 4, 5, 6, 7, 8, 9, 0] rfl (w_f_X8_giant_j189 C h hc he hx)
      · refine v_iload 182 C 10 0 dX8_giant_182 rfl ?_
        refine v_iload 184 C 7 7 dX8_giant_184 rfl ?_
        refine v_icmp_le 186 C 193 dX8_giant_186 (by decide) h (fun h => ?_) (fun h => ?_)
        · refine v_iconst 193 C (0 : Int32) dX8_giant_193 (by decide) ?_
          exact v_sub [1, 2, 3, 4, 5, 6, 7, 8, 9, 0] rfl (w_f_X8_giant_j194 C h hc he hx)
        · exact v_sub [1, 2, 3, 4, 5, 6, 7, 8, 9, 0] rfl (w_f_X8_giant_j189 C h hc he hx)
theorem w_f_X8_giant_j263 {G : Wld} {X : Cxt} (C : Cx G X RX8 cX8_giant 12 4) {σ : Sto} {s0 : Int32} {y : Sto × Int32} (h : f_X8_giant_j263 σ s0 = some y) (hK : Rx G X (some .int) (some (.int y.2)) y.1) : V G X 12 σ [(0, .ref (G.1 39))] [.int s0] 263 := by
  unfold f_X8_giant_j263 at h
  cases h
  exact v_iret 263 C hK dX8_giant_263
theorem w_f_X8_giant {G : Wld} {X : Cxt} (C : Cx G X RX8 cX8_giant 12 4) {σ : Sto} {a1 : Int32} {a2 : Int32} {a3 : Int32} {a4 : Int32} {y : Sto × Int32} (h : f_X8_giant σ a1 a2 a3 a4 = some y) (hK : Rx G X (some .int) (some (.int y.2)) y.1) : V G X 12 σ [(0, .ref (G.1 39)), (1, .int a1), (2, .int a2), (3, .int a3), (4, .int a4)] [] 0 := by
  unfold f_X8_giant at h
  refine v_aload_n 0 C 0 0 dX8_giant_0 rfl rfl ?_
  refine v_iload_n 1 C 1 1 dX8_giant_1 rfl rfl ?_
  refine r_f_X8_isBell 2 C (by decide) q_1020 dX8_giant_2 (Nat.le_of_ble_eq_true rfl) h (fun σ1 v2 h => ?_)
  refine v_if_ne 5 C 11 dX8_giant_5 (by decide) h (fun h => ?_) (fun h => ?_)
  · refine v_iload_n 11 C 2 2 dX8_giant_11 rfl rfl ?_
    refine v_i2l 12 C dX8_giant_12 ?_
    refine v_lconst 13 C (1 : Int64) dX8_giant_13 (by decide) ?_
    refine v_ldc2_w 14 C dX8_giant_14 q_1178 ?_
    refine r_f_X8_in 17 C (by decide) q_940 dX8_giant_17 (Nat.le_of_ble_eq_true rfl) h (fun σ3 v4 h => ?_)
    refine v_if_eq 20 C 46 dX8_giant_20 (by decide) h (fun h => ?_) (fun h => ?_)
    · exact v_sub [0] rfl (w_f_X8_giant_j46 C h hK)
    · refine v_iload_n 23 C 3 3 dX8_giant_23 rfl rfl ?_
      refine v_i2l 24 C dX8_giant_24 ?_
      refine v_lconst 25 C (0 : Int64) dX8_giant_25 (by decide) ?_
      refine v_ldc2_w 26 C dX8_giant_26 q_1179 ?_
      refine r_f_X8_in 29 C (by decide) q_940 dX8_giant_29 (Nat.le_of_ble_eq_true rfl) h (fun σ5 v6 h => ?_)
      refine v_if_eq 32 C 46 dX8_giant_32 (by decide) h (fun h => ?_) (fun h => ?_)
      · exact v_sub [0] rfl (w_f_X8_giant_j46 C h hK)
      · refine v_iload 35 C 4 4 dX8_giant_35 rfl ?_
        refine v_i2l 37 C dX8_giant_37 ?_
        refine v_lconst 38 C (0 : Int64) dX8_giant_38 (by decide) ?_
        refine v_lconst 39 C (1 : Int64) dX8_giant_39 (by decide) ?_
        refine r_f_X8_in 40 C (by decide) q_940 dX8_giant_40 (Nat.le_of_ble_eq_true rfl) h (fun σ7 v8 h => ?_)
        refine v_if_ne 43 C 49 dX8_giant_43 (by decide) h (fun h => ?_) (fun h => ?_)
        · refine v_aload_n 49 C 0 0 dX8_giant_49 rfl rfl ?_
          refine v_aload_n 50 C 0 0 dX8_giant_50 rfl rfl ?_
          refine g_X8_39_8 51 C dX8_giant_51 ?_
          refine v_aload_n 54 C 0 0 dX8_giant_54 rfl rfl ?_
          refine v_iload_n 55 C 1 1 dX8_giant_55 rfl rfl ?_
          refine r_f_X8_longNow 56 C (by decide) q_1070 dX8_giant_56 (Nat.le_of_ble_eq_true rfl) h (fun σ9 v10 h => ?_)
          refine r_f_X8_findAlms 59 C (by decide) q_1074 dX8_giant_59 (Nat.le_of_ble_eq_true rfl) h (fun σ11 h => ?_)
          refine v_aload_n 62 C 0 0 dX8_giant_62 rfl rfl ?_
          refine v_aload_n 63 C 0 0 dX8_giant_63 rfl rfl ?_
          refine g_X8_39_8 64 C dX8_giant_64 ?_
          refine r_f_X8_almsOfAll 67 C (by decide) q_1158 dX8_giant_67 (Nat.le_of_ble_eq_true rfl) h (fun σ13 v14 h => ?_)
          refine b_istore 70 C 5 (lv2 := fun z15 => [(5, .int z15), (0, .ref (G.1 39)), (1, .int a1), (2, .int a2), (3, .int a3), (4, .int a4)]) dX8_giant_70 (by decide) (fun _ => rfl) h (fun z15 h => ?_)
          refine v_iconst 72 C (-1 : Int32) dX8_giant_72 (by decide) ?_
          refine b_istore 73 C 6 (lv2 := fun z16 => [(6, .int z16), (5, .int z15), (0, .ref (G.1 39)), (1, .int a1), (2, .int a2), (3, .int a3), (4, .int a4)]) dX8_giant_73 (by decide) (fun _ => rfl) h (fun z16 h => ?_)
          refine v_iconst 75 C (0 : Int32) dX8_giant_75 (by decide) ?_
          refine b_istore 76 C 7 (lv2 := fun z17 => [(7, .int z17), (6, .int z16), (5, .int z15), (0, .ref (G.1 39)), (1, .int a1), (2, .int a2), (3, .int a3), (4, .int a4)]) dX8_giant_76 (by decide) (fun _ => rfl) h (fun z17 h => ?_)
          refine v_aload_n 78 C 0 3 dX8_giant_78 rfl rfl ?_
          refine g_X8_39_9 79 C dX8_giant_79 ?_
          refine v_aload_n 82 C 0 3 dX8_giant_82 rfl rfl ?_
          refine g_X8_39_8 83 C dX8_giant_83 ?_
          refine v_iald 86 C 45 (by decide) (ce_45 G) dX8_giant_86 h (fun h => ?_)
          refine b_istore 87 C 8 (lv2 := fun z18 => [(8, .int z18), (7, .int z17), (6, .int z16), (5, .int z15), (0, .ref (G.1 39)), (1, .int a1), (2, .int a2), (3, .int a3), (4, .int a4)]) dX8_giant_87 (by decide) (fun _ => rfl) h (fun z18 h => ?_)
          refine v_aload_n 89 C 0 4 dX8_giant_89 rfl rfl ?_
          refine g_X8_39_9 90 C dX8_giant_90 ?_
          refine v_aload_n 93 C 0 4 dX8_giant_93 rfl rfl ?_
          refine g_X8_39_8 94 C dX8_giant_94 ?_
          refine v_iload_n 97 C 2 6 dX8_giant_97 rfl rfl ?_
          refine b_iast 98 C 45 (by decide) (ce_45 G) dX8_giant_98 h (fun σ19 h => ?_)
          refine v_aload_n 99 C 0 4 dX8_giant_99 rfl rfl ?_
          refine g_X8_39_15 100 C dX8_giant_100 ?_
          refine v_aload_n 103 C 0 4 dX8_giant_103 rfl rfl ?_
          refine g_X8_39_8 104 C dX8_giant_104 ?_
          refine v_iconst 107 C (-1 : Int32) dX8_giant_107 (by decide) ?_
          refine b_iast 108 C 49 (by decide) (ce_49 G) dX8_giant_108 h (fun σ20 h => ?_)
          refine v_iconst 109 C (0 : Int32) dX8_giant_109 (by decide) ?_
          refine b_istore 110 C 9 (lv2 := fun z21 => [(9, .int z21), (8, .int z18), (7, .int z17), (6, .int z16), (5, .int z15), (0, .ref (G.1 39)), (1, .int a1), (2, .int a2), (3, .int a3), (4, .int a4)]) dX8_giant_110 (by decide) (fun _ => rfl) h (fun z21 h => ?_)
          refine v_sub [5, 6, 8, 9, 4, 3, 2, 1, 0] rfl ?_
          refine lp_go (Vh := fun t => V G X 12 t.1 [(0, .ref (G.1 39)), (1, .int a1), (3, .int a3), (4, .int a4), (5, .int z15), (6, .int t.2.1), (7, .int t.2.2.1), (8, .int z18), (9, .int t.2.2.2)] [] 112) h ?_
          intro t40 y40 hy40 hc40 he40
          refine w_f_X8_giant_l112 C hy40 hc40 he40 (fun σ36 z37 z38 z39 h => ?_)
          dsimp only at h
          refine v_aload_n 230 C 0 0 dX8_giant_230 rfl rfl ?_
          refine g_X8_39_14 231 C dX8_giant_231 ?_
          refine v_aload_n 234 C 0 0 dX8_giant_234 rfl rfl ?_
          refine g_X8_39_8 235 C dX8_giant_235 ?_
          refine v_iconst 238 C (-1 : Int32) dX8_giant_238 (by decide) ?_
          refine b_iast 239 C 48 (by decide) (ce_48 G) dX8_giant_239 h (fun σ41 h => ?_)
          refine v_aload_n 240 C 0 0 dX8_giant_240 rfl rfl ?_
          refine g_X8_39_9 241 C dX8_giant_241 ?_
          refine v_aload_n 244 C 0 0 dX8_giant_244 rfl rfl ?_
          refine g_X8_39_8 245 C dX8_giant_245 ?_
          refine v_iload 248 C 8 7 dX8_giant_248 rfl ?_
          refine b_iast 250 C 45 (by decide) (ce_45 G) dX8_giant_250 h (fun σ42 h => ?_)
          refine v_iload 251 C 4 3 dX8_giant_251 rfl ?_
          refine v_if_ne 253 C 261 dX8_giant_253 (by decide) h (fun h => ?_) (fun h => ?_)
          · refine v_iload 261 C 7 6 dX8_giant_261 rfl ?_
            exact v_sub [0] rfl (w_f_X8_giant_j263 C h hK)
          · refine v_iload 256 C 6 5 dX8_giant_256 rfl ?_
            refine v_goto 258 C 263 dX8_giant_258 (by decide) ?_
            exact v_sub [0] rfl (w_f_X8_giant_j263 C h hK)
        · exact v_sub [0] rfl (w_f_X8_giant_j46 C h hK)
  · refine v_ldc 8 C dX8_giant_8 q_1024 ?_
    cases h
    exact v_iret 10 C hK dX8_giant_10
theorem c_f_X8_giant (l : Launch) (G : Wld) (hG : GI G) (σ : Sto) (a1 : Int32) (a2 : Int32) (a3 : Int32) (a4 : Int32) (y : Sto × Int32) (h : f_X8_giant σ a1 a2 a3 a4 = some y) : Ct l G yX8_giant cX8_giant 12 (some .int) 4 [.ref (G.1 39), .int a1, .int a2, .int a3, .int a4] σ (some (.int y.2)) y.1 := by
  refine ct_intro RX8 hG (by decide) rfl (Nat.le_of_ble_eq_true rfl) (fun X hX C hK => ?_)
  subst hX
  exact w_f_X8_giant C h hK
theorem r_f_X8_giant {G : Wld} {X : Cxt} {own : String} {cc : ByteArray} {nL n : Nat} {σ : Sto} {lv : List (Nat × Value)} {st : List Value} {β : Type} {r : β} {F : Sto → Int32 → Option β} {a1 : Int32} {a2 : Int32} {a3 : Int32} {a4 : Int32} {ix : Nat} (pc : Nat) (C : Cx G X own cc nL n) (hn : 4 < n) (h1 : Cond.methodLink own ix yX8_giant ∈ lw_gd) (hd : decode cc pc = .ok (.invokevirtual ix, 3)) (hsum : (st.map fun v => v.category).sum ≤ 8) (h : bd2 (f_X8_giant σ a1 a2 a3 a4) F = some r) (kk : ∀ σ1 v, F σ1 v = some r → V G X nL σ1 lv (.int v :: st) (pc + 3)) : V G X nL σ lv (.int a4 :: .int a3 :: .int a2 :: .int a1 :: .ref (G.1 39) :: st) pc := by
  obtain ⟨z, hz, h⟩ := bd2_some h
  exact v_callV pc C 39 4 [.int a1, .int a2, .int a3, .int a4] st (c_f_X8_giant (xl X) G C.2.2.2.2.2.2.1 _ _ _ _ _ _ hz) hn (by decide) (by decide) (ce_39 G _ _) rfl (by decide +kernel) rfl h1 q_1175 q_1176 q_68 q_1177 rfl hsum hd (kk _ _ h)
-- f_X8_lacksFor
def f_X8_lacksFor_j33 (σ : Sto) (x1 : Int32) (x3 : Int32) (s0 : Int32) (s1 : Int32) : Option ((Sto × Int32 × Int32) ⊕ (Sto × Int32 × Int32)) :=
  bs (s1 + s0) fun z5 => bs (x3 + (1 : Int32)) fun z6 => some (.inl (σ, z5, z6))
def f_X8_lacksFor_l4 (x1 : Int32) (σ : Sto) (x2 : Int32) (x3 : Int32) : Option ((Sto × Int32 × Int32) ⊕ (Sto × Int32 × Int32)) :=
  if (σ.1 39 8) ≤ x3 then (some (.inr (σ, x2, x3))) else (bd2 (f_X8_almsOf σ x3) fun σ3 v4 => if x1 ≤ v4 then (f_X8_lacksFor_j33 σ3 x1 x3 (0 : Int32) x2) else (bd2 (f_X8_almsOf σ3 x3) fun σ7 v8 => f_X8_lacksFor_j33 σ7 x1 x3 (x1 - v8) x2))
def f_X8_lacksFor (σ : Sto) (a1 : Int32) : Option (Sto × Int32) :=
  bs (0 : Int32) fun z1 => bs (0 : Int32) fun z2 => bE2 (lpF (fun t => f_X8_lacksFor_l4 a1 t.1 t.2.1 t.2.2) FU (σ, z1, z2)) (fun σ9 z10 z11 => some (σ9, z10))
theorem w_f_X8_lacksFor_j33 {G : Wld} {X : Cxt} (C : Cx G X RX8 cX8_lacksFor 4 3) {σ : Sto} {x1 : Int32} {x3 : Int32} {s0 : Int32} {s1 : Int32} {y : (Sto × Int32 × Int32) ⊕ (Sto × Int32 × Int32)} (h : f_X8_lacksFor_j33 σ x1 x3 s0 s1 = some y) (hc : ∀ t : Sto × Int32 × Int32, y = .inl t → V G X 4 t.1 [(0, .ref (G.1 39)), (1, .int x1), (2, .int t.2.1), (3, .int t.2.2)] [] 4) {Ve : Sto × Int32 × Int32 → Prop} (he : ∀ e, y = .inr e → Ve e) (hx : ∀ (σ : Sto) (x2 : Int32) (x3 : Int32), Ve (σ, x2, x3) → V G X 4 σ [(0, .ref (G.1 39)), (1, .int x1), (2, .int x2), (3, .int x3)] [] 41) : V G X 4 σ [(0, .ref (G.1 39)), (1, .int x1), (3, .int x3)] [.int s0, .int s1] 33 := by
  unfold f_X8_lacksFor_j33 at h
  refine v_iadd 33 C dX8_lacksFor_33 ?_
  refine b_istore_n 34 C 2 (lv2 := fun z5 => [(2, .int z5), (0, .ref (G.1 39)), (1, .int x1), (3, .int x3)]) dX8_lacksFor_34 rfl (by decide) (fun _ => rfl) h (fun z5 h => ?_)
  refine b_iinc 35 C 3 3 (1 : Int32) (lv2 := fun z6 => [(3, .int z6), (2, .int z5), (0, .ref (G.1 39)), (1, .int x1)]) dX8_lacksFor_35 rfl (by decide) (by decide) (fun _ => rfl) h (fun z6 h => ?_)
  refine v_goto 38 C 4 dX8_lacksFor_38 (by decide) ?_
  exact v_sub [2, 3, 1, 0] rfl (hc _ (Option.some.inj h).symm)
theorem w_f_X8_lacksFor_l4 {G : Wld} {X : Cxt} (C : Cx G X RX8 cX8_lacksFor 4 3) {x1 : Int32} {σ : Sto} {x2 : Int32} {x3 : Int32} {y : (Sto × Int32 × Int32) ⊕ (Sto × Int32 × Int32)} (h : f_X8_lacksFor_l4 x1 σ x2 x3 = some y) (hc : ∀ t : Sto × Int32 × Int32, y = .inl t → V G X 4 t.1 [(0, .ref (G.1 39)), (1, .int x1), (2, .int t.2.1), (3, .int t.2.2)] [] 4) {Ve : Sto × Int32 × Int32 → Prop} (he : ∀ e, y = .inr e → Ve e) (hx : ∀ (σ : Sto) (x2 : Int32) (x3 : Int32), Ve (σ, x2, x3) → V G X 4 σ [(0, .ref (G.1 39)), (1, .int x1), (2, .int x2), (3, .int x3)] [] 41) : V G X 4 σ [(0, .ref (G.1 39)), (1, .int x1), (2, .int x2), (3, .int x3)] [] 4 := by
  unfold f_X8_lacksFor_l4 at h
  refine v_iload_n 4 C 3 3 dX8_lacksFor_4 rfl rfl ?_
  refine v_aload_n 5 C 0 0 dX8_lacksFor_5 rfl rfl ?_
  refine g_X8_39_8 6 C dX8_lacksFor_6 ?_
  refine v_icmp_ge 9 C 41 dX8_lacksFor_9 (by decide) h (fun h => ?_) (fun h => ?_)
  · exact v_sub [0, 1, 2, 3] rfl (hx _ _ _ (he _ (Option.some.inj h).symm))
  · refine v_iload_n 12 C 2 2 dX8_lacksFor_12 rfl rfl ?_
    refine v_aload_n 13 C 0 0 dX8_lacksFor_13 rfl rfl ?_
    refine v_iload_n 14 C 3 3 dX8_lacksFor_14 rfl rfl ?_
    refine r_f_X8_almsOf 15 C (by decide) q_1086 dX8_lacksFor_15 (Nat.le_of_ble_eq_true rfl) h (fun σ3 v4 h => ?_)
    refine v_iload_n 18 C 1 1 dX8_lacksFor_18 rfl rfl ?_
    refine v_icmp_ge 19 C 32 dX8_lacksFor_19 (by decide) h (fun h => ?_) (fun h => ?_)
    · refine v_iconst 32 C (0 : Int32) dX8_lacksFor_32 (by decide) ?_
      exact v_sub [0, 1, 3] rfl (w_f_X8_lacksFor_j33 C h hc he hx)
    · refine v_iload_n 22 C 1 1 dX8_lacksFor_22 rfl rfl ?_
      refine v_aload_n 23 C 0 0 dX8_lacksFor_23 rfl rfl ?_
      refine v_iload_n 24 C 3 3 dX8_lacksFor_24 rfl rfl ?_
      refine r_f_X8_almsOf 25 C (by decide) q_1086 dX8_lacksFor_25 (Nat.le_of_ble_eq_true rfl) h (fun σ7 v8 h => ?_)
      refine v_isub 28 C dX8_lacksFor_28 ?_
      refine v_goto 29 C 33 dX8_lacksFor_29 (by decide) ?_
      exact v_sub [0, 1, 3] rfl (w_f_X8_lacksFor_j33 C h hc he hx)
theorem w_f_X8_lacksFor {G : Wld} {X : Cxt} (C : Cx G X RX8 cX8_lacksFor 4 3) {σ : Sto} {a1 : Int32} {y : Sto × Int32} (h : f_X8_lacksFor σ a1 = some y) (hK : Rx G X (some .int) (some (.int y.2)) y.1) : V G X 4 σ [(0, .ref (G.1 39)), (1, .int a1)] [] 0 := by
  unfold f_X8_lacksFor at h
  refine v_iconst 0 C (0 : Int32) dX8_lacksFor_0 (by decide) ?_
  refine b_istore_n 1 C 2 (lv2 := fun z1 => [(2, .int z1), (0, .ref (G.1 39)), (1, .int a1)]) dX8_lacksFor_1 rfl (by decide) (fun _ => rfl) h (fun z1 h => ?_)
  refine v_iconst 2 C (0 : Int32) dX8_lacksFor_2 (by decide) ?_
  refine b_istore_n 3 C 3 (lv2 := fun z2 => [(3, .int z2), (2, .int z1), (0, .ref (G.1 39)), (1, .int a1)]) dX8_lacksFor_3 rfl (by decide) (fun _ => rfl) h (fun z2 h => ?_)
  refine v_sub [2, 3, 1, 0] rfl ?_
  refine lp_go (Vh := fun t => V G X 4 t.1 [(0, .ref (G.1 39)), (1, .int a1), (2, .int t.2.1), (3, .int t.2.2)] [] 4) h ?_
  intro t12 y12 hy12 hc12 he12
  refine w_f_X8_lacksFor_l4 C hy12 hc12 he12 (fun σ9 z10 z11 h => ?_)
  dsimp only at h
  refine v_iload_n 41 C 2 2 dX8_lacksFor_41 rfl rfl ?_
  cases h
  exact v_iret 42 C hK dX8_lacksFor_42
theorem c_f_X8_lacksFor (l : Launch) (G : Wld) (hG : GI G) (σ : Sto) (a1 : Int32) (y : Sto × Int32) (h : f_X8_lacksFor σ a1 = some y) : Ct l G yX8_lacksFor cX8_lacksFor 4 (some .int) 3 [.ref (G.1 39), .int a1] σ (some (.int y.2)) y.1 := by
  refine ct_intro RX8 hG (by decide) rfl (Nat.le_of_ble_eq_true rfl) (fun X hX C hK => ?_)
  subst hX
  exact w_f_X8_lacksFor C h hK
theorem r_f_X8_lacksFor {G : Wld} {X : Cxt} {own : String} {cc : ByteArray} {nL n : Nat} {σ : Sto} {lv : List (Nat × Value)} {st : List Value} {β : Type} {r : β} {F : Sto → Int32 → Option β} {a1 : Int32} {ix : Nat} (pc : Nat) (C : Cx G X own cc nL n) (hn : 3 < n) (h1 : Cond.methodLink own ix yX8_lacksFor ∈ lw_gd) (hd : decode cc pc = .ok (.invokevirtual ix, 3)) (hsum : (st.map fun v => v.category).sum ≤ 8) (h : bd2 (f_X8_lacksFor σ a1) F = some r) (kk : ∀ σ1 v, F σ1 v = some r → V G X nL σ1 lv (.int v :: st) (pc + 3)) : V G X nL σ lv (.int a1 :: .ref (G.1 39) :: st) pc := by
  obtain ⟨z, hz, h⟩ := bd2_some h
  exact v_callV pc C 39 1 [.int a1] st (c_f_X8_lacksFor (xl X) G C.2.2.2.2.2.2.1 _ _ _ hz) hn (by decide) (by decide) (ce_39 G _ _) rfl (by decide +kernel) rfl h1 q_1186 q_56 q_68 q_1187 rfl hsum hd (kk _ _ h)
-- f_X8_peace
def f_X8_peace (σ : Sto) (a1 : Int32) (a2 : Int32) : Option (Sto × Int32) :=
  bd2 (f_X8_isBell σ a1) fun σ1 v2 => if v2 = 0 then (some (σ1, (-1000000001 : Int32))) else (bd2 (f_X8_in σ1 (a2).toInt64 (0 : Int64) (999 : Int64)) fun σ3 v4 => if v4 = 0 then (some (σ3, (-1000000002 : Int32))) else (bd2 (f_X8_longNow σ3 a1) fun σ5 v6 => bd1 (f_X8_findAlms σ5 (σ3.1 39 8) v6) fun σ7 => bd2 (f_X8_lacksFor σ7 a2) fun σ9 v10 => some (σ9, v10)))
theorem w_f_X8_peace {G : Wld} {X : Cxt} (C : Cx G X RX8 cX8_peace 3 4) {σ : Sto} {a1 : Int32} {a2 : Int32} {y : Sto × Int32} (h : f_X8_peace σ a1 a2 = some y) (hK : Rx G X (some .int) (some (.int y.2)) y.1) : V G X 3 σ [(0, .ref (G.1 39)), (1, .int a1), (2, .int a2)] [] 0 := by
  unfold f_X8_peace at h
  refine v_aload_n 0 C 0 0 dX8_peace_0 rfl rfl ?_
  refine v_iload_n 1 C 1 1 dX8_peace_1 rfl rfl ?_
  refine r_f_X8_isBell 2 C (by decide) q_1020 dX8_peace_2 (Nat.le_of_ble_eq_true rfl) h (fun σ1 v2 h => ?_)
  refine v_if_ne 5 C 11 dX8_peace_5 (by decide) h (fun h => ?_) (fun h => ?_)
  · refine v_iload_n 11 C 2 2 dX8_peace_11 rfl rfl ?_
    refine v_i2l 12 C dX8_peace_12 ?_
    refine v_lconst 13 C (0 : Int64) dX8_peace_13 (by decide) ?_
    refine v_ldc2_w 14 C dX8_peace_14 q_1179 ?_
    refine r_f_X8_in 17 C (by decide) q_940 dX8_peace_17 (Nat.le_of_ble_eq_true rfl) h (fun σ3 v4 h => ?_)
    refine v_if_ne 20 C 26 dX8_peace_20 (by decide) h (fun h => ?_) (fun h => ?_)
    · refine v_aload_n 26 C 0 0 dX8_peace_26 rfl rfl ?_
      refine v_aload_n 27 C 0 0 dX8_peace_27 rfl rfl ?_
      refine g_X8_39_8 28 C dX8_peace_28 ?_
      refine v_aload_n 31 C 0 0 dX8_peace_31 rfl rfl ?_
      refine v_iload_n 32 C 1 1 dX8_peace_32 rfl rfl ?_
      refine r_f_X8_longNow 33 C (by decide) q_1070 dX8_peace_33 (Nat.le_of_ble_eq_true rfl) h (fun σ5 v6 h => ?_)
      refine r_f_X8_findAlms 36 C (by decide) q_1074 dX8_peace_36 (Nat.le_of_ble_eq_true rfl) h (fun σ7 h => ?_)
      refine v_aload_n 39 C 0 0 dX8_peace_39 rfl rfl ?_
      refine v_iload_n 40 C 2 2 dX8_peace_40 rfl rfl ?_
      refine r_f_X8_lacksFor 41 C (by decide) q_1184 dX8_peace_41 (Nat.le_of_ble_eq_true rfl) h (fun σ9 v10 h => ?_)
      cases h
      exact v_iret 44 C hK dX8_peace_44
    · refine v_ldc 23 C dX8_peace_23 q_943 ?_
      cases h
      exact v_iret 25 C hK dX8_peace_25
  · refine v_ldc 8 C dX8_peace_8 q_1024 ?_
    cases h
    exact v_iret 10 C hK dX8_peace_10
theorem c_f_X8_peace (l : Launch) (G : Wld) (hG : GI G) (σ : Sto) (a1 : Int32) (a2 : Int32) (y : Sto × Int32) (h : f_X8_peace σ a1 a2 = some y) : Ct l G yX8_peace cX8_peace 3 (some .int) 4 [.ref (G.1 39), .int a1, .int a2] σ (some (.int y.2)) y.1 := by
  refine ct_intro RX8 hG (by decide) rfl (Nat.le_of_ble_eq_true rfl) (fun X hX C hK => ?_)
  subst hX
  exact w_f_X8_peace C h hK
theorem r_f_X8_peace {G : Wld} {X : Cxt} {own : String} {cc : ByteArray} {nL n : Nat} {σ : Sto} {lv : List (Nat × Value)} {st : List Value} {β : Type} {r : β} {F : Sto → Int32 → Option β} {a1 : Int32} {a2 : Int32} {ix : Nat} (pc : Nat) (C : Cx G X own cc nL n) (hn : 4 < n) (h1 : Cond.methodLink own ix yX8_peace ∈ lw_gd) (hd : decode cc pc = .ok (.invokevirtual ix, 3)) (hsum : (st.map fun v => v.category).sum ≤ 8) (h : bd2 (f_X8_peace σ a1 a2) F = some r) (kk : ∀ σ1 v, F σ1 v = some r → V G X nL σ1 lv (.int v :: st) (pc + 3)) : V G X nL σ lv (.int a2 :: .int a1 :: .ref (G.1 39) :: st) pc := by
  obtain ⟨z, hz, h⟩ := bd2_some h
  exact v_callV pc C 39 2 [.int a1, .int a2] st (c_f_X8_peace (xl X) G C.2.2.2.2.2.2.1 _ _ _ _ hz) hn (by decide) (by decide) (ce_39 G _ _) rfl (by decide +kernel) rfl h1 q_1181 q_1182 q_68 q_1183 rfl hsum hd (kk _ _ h)
-- f_X8_bread
def f_X8_bread_l43 (x2 : Int32) (σ : Sto) (x3 : Int32) : Option ((Sto × Int32) ⊕ (Sto × Int32)) :=
  if x3 < 0 then (some (.inr (σ, x3))) else (bd2 (f_X8_lacksFor σ x3) fun σ10 v11 => if v11 ≤ x2 then (some (.inr (σ10, x3))) else (bs (x3 + (-1 : Int32)) fun z12 => some (.inl (σ10, z12))))
def f_X8_bread (σ : Sto) (a1 : Int32) (a2 : Int32) : Option (Sto × Int32) :=
  bd2 (f_X8_isBell σ a1) fun σ1 v2 => if v2 = 0 then (some (σ1, (-1000000001 : Int32))) else (bd2 (f_X8_in σ1 (a2).toInt64 (0 : Int64) (9999 : Int64)) fun σ3 v4 => if v4 = 0 then (some (σ3, (-1000000002 : Int32))) else (bd2 (f_X8_longNow σ3 a1) fun σ5 v6 => bd1 (f_X8_findAlms σ5 (σ3.1 39 8) v6) fun σ7 => bs (999 : Int32) fun z9 => bE1 (lpF (fun t => f_X8_bread_l43 a2 t.1 t.2) FU (σ7, z9)) (fun σ13 z14 => some (σ13, z14))))
theorem w_f_X8_bread_l43 {G : Wld} {X : Cxt} (C : Cx G X RX8 cX8_bread 4 4) {x2 : Int32} {σ : Sto} {x3 : Int32} {y : (Sto × Int32) ⊕ (Sto × Int32)} (h : f_X8_bread_l43 x2 σ x3 = some y) (hc : ∀ t : Sto × Int32, y = .inl t → V G X 4 t.1 [(0, .ref (G.1 39)), (2, .int x2), (3, .int t.2)] [] 43) {Ve : Sto × Int32 → Prop} (he : ∀ e, y = .inr e → Ve e) (hx : ∀ (σ : Sto) (x3 : Int32), Ve (σ, x3) → V G X 4 σ [(0, .ref (G.1 39)), (2, .int x2), (3, .int x3)] [] 62) : V G X 4 σ [(0, .ref (G.1 39)), (2, .int x2), (3, .int x3)] [] 43 := by
  unfold f_X8_bread_l43 at h
  refine v_iload_n 43 C 3 2 dX8_bread_43 rfl rfl ?_
  refine v_if_lt 44 C 62 dX8_bread_44 (by decide) h (fun h => ?_) (fun h => ?_)
  · exact v_sub [0, 1, 2] rfl (hx _ _ (he _ (Option.some.inj h).symm))
  · refine v_aload_n 47 C 0 0 dX8_bread_47 rfl rfl ?_
    refine v_iload_n 48 C 3 2 dX8_bread_48 rfl rfl ?_
    refine r_f_X8_lacksFor 49 C (by decide) q_1184 dX8_bread_49 (Nat.le_of_ble_eq_true rfl) h (fun σ10 v11 h => ?_)
    refine v_iload_n 52 C 2 1 dX8_bread_52 rfl rfl ?_
    refine v_icmp_le 53 C 62 dX8_bread_53 (by decide) h (fun h => ?_) (fun h => ?_)
    · exact v_sub [0, 1, 2] rfl (hx _ _ (he _ (Option.some.inj h).symm))
    · refine b_iinc 56 C 3 2 (-1 : Int32) (lv2 := fun z12 => [(3, .int z12), (0, .ref (G.1 39)), (2, .int x2)]) dX8_bread_56 rfl (by decide) (by decide) (fun _ => rfl) h (fun z12 h => ?_)
      refine v_goto 59 C 43 dX8_bread_59 (by decide) ?_
      exact v_sub [1, 2, 0] rfl (hc _ (Option.some.inj h).symm)
theorem w_f_X8_bread {G : Wld} {X : Cxt} (C : Cx G X RX8 cX8_bread 4 4) {σ : Sto} {a1 : Int32} {a2 : Int32} {y : Sto × Int32} (h : f_X8_bread σ a1 a2 = some y) (hK : Rx G X (some .int) (some (.int y.2)) y.1) : V G X 4 σ [(0, .ref (G.1 39)), (1, .int a1), (2, .int a2)] [] 0 := by
  unfold f_X8_bread at h
  refine v_aload_n 0 C 0 0 dX8_bread_0 rfl rfl ?_
  refine v_iload_n 1 C 1 1 dX8_bread_1 rfl rfl ?_
  refine r_f_X8_isBell 2 C (by decide) q_1020 dX8_bread_2 (Nat.le_of_ble_eq_true rfl) h (fun σ1 v2 h => ?_)
  refine v_if_ne 5 C 11 dX8_bread_5 (by decide) h (fun h => ?_) (fun h => ?_)
  · refine v_iload_n 11 C 2 2 dX8_bread_11 rfl rfl ?_
    refine v_i2l 12 C dX8_bread_12 ?_
    refine v_lconst 13 C (0 : Int64) dX8_bread_13 (by decide) ?_
    refine v_ldc2_w 14 C dX8_bread_14 q_1192 ?_
    refine r_f_X8_in 17 C (by decide) q_940 dX8_bread_17 (Nat.le_of_ble_eq_true rfl) h (fun σ3 v4 h => ?_)
    refine v_if_ne 20 C 26 dX8_bread_20 (by decide) h (fun h => ?_) (fun h => ?_)
    · refine v_aload_n 26 C 0 0 dX8_bread_26 rfl rfl ?_
      refine v_aload_n 27 C 0 0 dX8_bread_27 rfl rfl ?_
      refine g_X8_39_8 28 C dX8_bread_28 ?_
      refine v_aload_n 31 C 0 0 dX8_bread_31 rfl rfl ?_
      refine v_iload_n 32 C 1 1 dX8_bread_32 rfl rfl ?_
      refine r_f_X8_longNow 33 C (by decide) q_1070 dX8_bread_33 (Nat.le_of_ble_eq_true rfl) h (fun σ5 v6 h => ?_)
      refine r_f_X8_findAlms 36 C (by decide) q_1074 dX8_bread_36 (Nat.le_of_ble_eq_true rfl) h (fun σ7 h => ?_)
      refine v_sipush 39 C (999 : Int32) dX8_bread_39 (by decide) ?_
      refine b_istore_n 42 C 3 (lv2 := fun z9 => [(3, .int z9), (0, .ref (G.1 39)), (1, .int a1), (2, .int a2)]) dX8_bread_42 rfl (by decide) (fun _ => rfl) h (fun z9 h => ?_)
      refine v_sub [1, 3, 0] rfl ?_
      refine lp_go (Vh := fun t => V G X 4 t.1 [(0, .ref (G.1 39)), (2, .int a2), (3, .int t.2)] [] 43) h ?_
      intro t15 y15 hy15 hc15 he15
      refine w_f_X8_bread_l43 C hy15 hc15 he15 (fun σ13 z14 h => ?_)
      dsimp only at h
      refine v_iload_n 62 C 3 2 dX8_bread_62 rfl rfl ?_
      cases h
      exact v_iret 63 C hK dX8_bread_63
    · refine v_ldc 23 C dX8_bread_23 q_943 ?_
      cases h
      exact v_iret 25 C hK dX8_bread_25
  · refine v_ldc 8 C dX8_bread_8 q_1024 ?_
    cases h
    exact v_iret 10 C hK dX8_bread_10
theorem c_f_X8_bread (l : Launch) (G : Wld) (hG : GI G) (σ : Sto) (a1 : Int32) (a2 : Int32) (y : Sto × Int32) (h : f_X8_bread σ a1 a2 = some y) : Ct l G yX8_bread cX8_bread 4 (some .int) 4 [.ref (G.1 39), .int a1, .int a2] σ (some (.int y.2)) y.1 := by
  refine ct_intro RX8 hG (by decide) rfl (Nat.le_of_ble_eq_true rfl) (fun X hX C hK => ?_)
  subst hX
  exact w_f_X8_bread C h hK
theorem r_f_X8_bread {G : Wld} {X : Cxt} {own : String} {cc : ByteArray} {nL n : Nat} {σ : Sto} {lv : List (Nat × Value)} {st : List Value} {β : Type} {r : β} {F : Sto → Int32 → Option β} {a1 : Int32} {a2 : Int32} {ix : Nat} (pc : Nat) (C : Cx G X own cc nL n) (hn : 4 < n) (h1 : Cond.methodLink own ix yX8_bread ∈ lw_gd) (hd : decode cc pc = .ok (.invokevirtual ix, 3)) (hsum : (st.map fun v => v.category).sum ≤ 8) (h : bd2 (f_X8_bread σ a1 a2) F = some r) (kk : ∀ σ1 v, F σ1 v = some r → V G X nL σ1 lv (.int v :: st) (pc + 3)) : V G X nL σ lv (.int a2 :: .int a1 :: .ref (G.1 39) :: st) pc := by
  obtain ⟨z, hz, h⟩ := bd2_some h
  exact v_callV pc C 39 2 [.int a1, .int a2] st (c_f_X8_bread (xl X) G C.2.2.2.2.2.2.1 _ _ _ _ hz) hn (by decide) (by decide) (ce_39 G _ _) rfl (by decide +kernel) rfl h1 q_1189 q_1190 q_68 q_1191 rfl hsum hd (kk _ _ h)
-- f_X8_best
def f_X8_best_l47 (x1 : Int32) (x2 : Int32) (x3 : Int32) (x4 : Int32) (x5 : Int32) (σ : Sto) (x6 : Int32) (x7 : Int32) : Option ((Sto × Int32 × Int32) ⊕ (Sto × Int32 × Int32)) :=
  if (σ.1 39 1) ≤ x7 then (some (.inr (σ, x6, x7))) else (bd2 (f_X8_longOn σ x7 x5) fun σ10 v11 => bd1 (f_X8_findAlms σ10 (σ.1 39 8) v11) fun σ12 => bd2 (f_X8_almsOf σ12 x1) fun σ14 v15 => bs (x6 + v15) fun z16 => bs (x7 + (1 : Int32)) fun z17 => some (.inl (σ14, z16, z17)))
def f_X8_best_j130 (σ : Sto) (x1 : Int32) (x2 : Int32) (x3 : Int32) (x5 : Int32) (s0 : Int32) : Option ((Sto × Int32 × Int32 × Int32) ⊕ (Sto × Int32 × Int32 × Int32)) :=
  bs s0 fun z24 => bs (x5 + (1 : Int32)) fun z25 => some (.inl (σ, x3, z24, z25))
def f_X8_best_j117 (σ : Sto) (x1 : Int32) (x2 : Int32) (x4 : Int32) (x5 : Int32) (x6 : Int32) (x7 : Int32) (s0 : Int32) : Option ((Sto × Int32 × Int32 × Int32) ⊕ (Sto × Int32 × Int32 × Int32)) :=
  bs s0 fun z23 => if x7 = 0 then (f_X8_best_j130 σ x1 x2 z23 x5 x4) else (f_X8_best_j130 σ x1 x2 z23 x5 x6)
def f_X8_best_j104 (σ : Sto) (x1 : Int32) (x2 : Int32) (x3 : Int32) (x4 : Int32) (x5 : Int32) (x6 : Int32) (s0 : Int32) : Option ((Sto × Int32 × Int32 × Int32) ⊕ (Sto × Int32 × Int32 × Int32)) :=
  bs s0 fun z22 => if z22 = 0 then (f_X8_best_j117 σ x1 x2 x4 x5 x6 z22 x3) else (f_X8_best_j117 σ x1 x2 x4 x5 x6 z22 x5)
def f_X8_best_j99 (σ : Sto) (x1 : Int32) (x2 : Int32) (x3 : Int32) (x4 : Int32) (x5 : Int32) (x6 : Int32) : Option ((Sto × Int32 × Int32 × Int32) ⊕ (Sto × Int32 × Int32 × Int32)) :=
  f_X8_best_j104 σ x1 x2 x3 x4 x5 x6 (1 : Int32)
def f_X8_best_l32 (x1 : Int32) (x2 : Int32) (σ : Sto) (x3 : Int32) (x4 : Int32) (x5 : Int32) : Option ((Sto × Int32 × Int32 × Int32) ⊕ (Sto × Int32 × Int32 × Int32)) :=
  if (σ.1 39 0) ≤ x5 then (some (.inr (σ, x3, x4, x5))) else (bs (0 : Int32) fun z8 => bs (0 : Int32) fun z9 => bE2 (lpF (fun t => f_X8_best_l47 x1 x2 x3 x4 x5 t.1 t.2.1 t.2.2) FU (σ, z8, z9)) (fun σ18 z19 z20 => if x3 < 0 then (f_X8_best_j99 σ18 x1 x2 x3 x4 x5 z19) else (if z19 ≤ x4 then (f_X8_best_j104 σ18 x1 x2 x3 x4 x5 z19 (0 : Int32)) else (f_X8_best_j99 σ18 x1 x2 x3 x4 x5 z19))))
def f_X8_best_j148 (σ : Sto) (s0 : Int32) : Option (Sto × Int32) :=
  some (σ, s0)
def f_X8_best (σ : Sto) (a1 : Int32) (a2 : Int32) : Option (Sto × Int32) :=
  bd2 (f_X8_isBeggar σ a1) fun σ1 v2 => if v2 = 0 then (some (σ1, (-1000000001 : Int32))) else (bd2 (f_X8_in σ1 (a2).toInt64 (0 : Int64) (1 : Int64)) fun σ3 v4 => if v4 = 0 then (some (σ3, (-1000000002 : Int32))) else (bs (-1 : Int32) fun z5 => bs (0 : Int32) fun z6 => bs (0 : Int32) fun z7 => bE3 (lpF (fun t => f_X8_best_l32 a1 a2 t.1 t.2.1 t.2.2.1 t.2.2.2) FU (σ3, z5, z6, z7)) (fun σ26 z27 z28 z29 => if a2 = 0 then (f_X8_best_j148 σ26 z27) else (f_X8_best_j148 σ26 z28))))
theorem w_f_X8_best_l47 {G : Wld} {X : Cxt} (C : Cx G X RX8 cX8_best 8 4) {x1 : Int32} {x2 : Int32} {x3 : Int32} {x4 : Int32} {x5 : Int32} {σ : Sto} {x6 : Int32} {x7 : Int32} {y : (Sto × Int32 × Int32) ⊕ (Sto × Int32 × Int32)} (h : f_X8_best_l47 x1 x2 x3 x4 x5 σ x6 x7 = some y) (hc : ∀ t : Sto × Int32 × Int32, y = .inl t → V G X 8 t.1 [(0, .ref (G.1 39)), (1, .int x1), (2, .int x2), (3, .int x3), (4, .int x4), (5, .int x5), (6, .int t.2.1), (7, .int t.2.2)] [] 47) {Ve : Sto × Int32 × Int32 → Prop} (he : ∀ e, y = .inr e → Ve e) (hx : ∀ (σ : Sto) (x6 : Int32) (x7 : Int32), Ve (σ, x6, x7) → V G X 8 σ [(0, .ref (G.1 39)), (1, .int x1), (2, .int x2), (3, .int x3), (4, .int x4), (5, .int x5), (6, .int x6), (7, .int x7)] [] 88) : V G X 8 σ [(0, .ref (G.1 39)), (1, .int x1), (2, .int x2), (3, .int x3), (4, .int x4), (5, .int x5), (6, .int x6), (7, .int x7)] [] 47 := by
  unfold f_X8_best_l47 at h
  refine v_iload 47 C 7 7 dX8_best_47 rfl ?_
  refine v_aload_n 49 C 0 0 dX8_best_49 rfl rfl ?_
  refine g_X8_39_1 50 C dX8_best_50 ?_
  refine v_icmp_ge 53 C 88 dX8_best_53 (by decide) h (fun h => ?_) (fun h => ?_)
  · exact v_sub [0, 1, 2, 3, 4, 5, 6, 7] rfl (hx _ _ _ (he _ (Option.some.inj h).symm))
  · refine v_aload_n 56 C 0 0 dX8_best_56 rfl rfl ?_
    refine v_aload_n 57 C 0 0 dX8_best_57 rfl rfl ?_
    refine g_X8_39_8 58 C dX8_best_58 ?_
    refine v_aload_n 61 C 0 0 dX8_best_61 rfl rfl ?_
    refine v_iload 62 C 7 7 dX8_best_62 rfl ?_
    refine v_iload 64 C 5 5 dX8_best_64 rfl ?_
    refine r_f_X8_longOn 66 C (by decide) q_1026 dX8_best_66 (Nat.le_of_ble_eq_true rfl) h (fun σ10 v11 h => ?_)
    refine r_f_X8_findAlms 69 C (by decide) q_1074 dX8_best_69 (Nat.le_of_ble_eq_true rfl) h (fun σ12 h => ?_)
    refine v_iload 72 C 6 6 dX8_best_72 rfl ?_
    refine v_aload_n 74 C 0 0 dX8_best_74 rfl rfl ?_
    refine v_iload_n 75 C 1 1 dX8_best_75 rfl rfl ?_
    refine r_f_X8_almsOf 76 C (by decide) q_1086 dX8_best_76 (Nat.le_of_ble_eq_true rfl) h (fun σ14 v15 h => ?_)
    refine v_iadd 79 C dX8_best_79 ?_
    refine b_istore 80 C 6 (lv2 := fun z16 => [(6, .int z16), (0, .ref (G.1 39)), (1, .int x1), (2, .int x2), (3, .int x3), (4, .int x4), (5, .int x5), (7, .int x7)]) dX8_best_80 (by decide) (fun _ => rfl) h (fun z16 h => ?_)
    refine b_iinc 82 C 7 7 (1 : Int32) (lv2 := fun z17 => [(7, .int z17), (6, .int z16), (0, .ref (G.1 39)), (1, .int x1), (2, .int x2), (3, .int x3), (4, .int x4), (5, .int x5)]) dX8_best_82 rfl (by decide) (by decide) (fun _ => rfl) h (fun z17 h => ?_)
    refine v_goto 85 C 47 dX8_best_85 (by decide) ?_
    exact v_sub [2, 3, 4, 5, 6, 7, 1, 0] rfl (hc _ (Option.some.inj h).symm)
theorem w_f_X8_best_j130 {G : Wld} {X : Cxt} (C : Cx G X RX8 cX8_best 8 4) {σ : Sto} {x1 : Int32} {x2 : Int32} {x3 : Int32} {x5 : Int32} {s0 : Int32} {y : (Sto × Int32 × Int32 × Int32) ⊕ (Sto × Int32 × Int32 × Int32)} (h : f_X8_best_j130 σ x1 x2 x3 x5 s0 = some y) (hc : ∀ t : Sto × Int32 × Int32 × Int32, y = .inl t → V G X 8 t.1 [(0, .ref (G.1 39)), (1, .int x1), (2, .int x2), (3, .int t.2.1), (4, .int t.2.2.1), (5, .int t.2.2.2)] [] 32) {Ve : Sto × Int32 × Int32 × Int32 → Prop} (he : ∀ e, y = .inr e → Ve e) (hx : ∀ (σ : Sto) (x3 : Int32) (x4 : Int32) (x5 : Int32), Ve (σ, x3, x4, x5) → V G X 8 σ [(0, .ref (G.1 39)), (1, .int x1), (2, .int x2), (3, .int x3), (4, .int x4), (5, .int x5)] [] 138) : V G X 8 σ [(0, .ref (G.1 39)), (1, .int x1), (2, .int x2), (3, .int x3), (5, .int x5)] [.int s0] 130 := by
  unfold f_X8_best_j130 at h
  refine b_istore 130 C 4 (lv2 := fun z24 => [(4, .int z24), (0, .ref (G.1 39)), (1, .int x1), (2, .int x2), (3, .int x3), (5, .int x5)]) dX8_best_130 (by decide) (fun _ => rfl) h (fun z24 h => ?_)
  refine b_iinc 132 C 5 5 (1 : Int32) (lv2 := fun z25 => [(5, .int z25), (4, .int z24), (0, .ref (G.1 39)), (1, .int x1), (2, .int x2), (3, .int x3)]) dX8_best_132 rfl (by decide) (by decide) (fun _ => rfl) h (fun z25 h => ?_)
  refine v_goto 135 C 32 dX8_best_135 (by decide) ?_
  exact v_sub [2, 3, 4, 5, 1, 0] rfl (hc _ (Option.some.inj h).symm)
theorem w_f_X8_best_j117 {G : Wld} {X : Cxt} (C : Cx G X RX8 cX8_best 8 4) {σ : Sto} {x1 : Int32} {x2 : Int32} {x4 : Int32} {x5 : Int32} {x6 : Int32} {x7 : Int32} {s0 : Int32} {y : (Sto × Int32 × Int32 × Int32) ⊕ (Sto × Int32 × Int32 × Int32)} (h : f_X8_best_j117 σ x1 x2 x4 x5 x6 x7 s0 = some y) (hc : ∀ t : Sto × Int32 × Int32 × Int32, y = .inl t → V G X 8 t.1 [(0, .ref (G.1 39)), (1, .int x1), (2, .int x2), (3, .int t.2.1), (4, .int t.2.2.1), (5, .int t.2.2.2)] [] 32) {Ve : Sto × Int32 × Int32 × Int32 → Prop} (he : ∀ e, y = .inr e → Ve e) (hx : ∀ (σ : Sto) (x3 : Int32) (x4 : Int32) (x5 : Int32), Ve (σ, x3, x4, x5) → V G X 8 σ [(0, .ref (G.1 39)), (1, .int x1), (2, .int x2), (3, .int x3), (4, .int x4), (5, .int x5)] [] 138) : V G X 8 σ [(0, .ref (G.1 39)), (1, .int x1), (2, .int x2), (4, .int x4), (5, .int x5), (6, .int x6), (7, .int x7)] [.int s0] 117 := by
  unfold f_X8_best_j117 at h
  refine b_istore_n 117 C 3 (lv2 := fun z23 => [(3, .int z23), (0, .ref (G.1 39)), (1, .int x1), (2, .int x2), (4, .int x4), (5, .int x5), (6, .int x6), (7, .int x7)]) dX8_best_117 rfl (by decide) (fun _ => rfl) h (fun z23 h => ?_)
  refine v_iload 118 C 7 7 dX8_best_118 rfl ?_
  refine v_if_eq 120 C 128 dX8_best_120 (by decide) h (fun h => ?_) (fun h => ?_)
  · refine v_iload 128 C 4 4 dX8_best_128 rfl ?_
    exact v_sub [1, 2, 3, 0, 5] rfl (w_f_X8_best_j130 C h hc he hx)
  · refine v_iload 123 C 6 6 dX8_best_123 rfl ?_
    refine v_goto 125 C 130 dX8_best_125 (by decide) ?_
    exact v_sub [1, 2, 3, 0, 5] rfl (w_f_X8_best_j130 C h hc he hx)
theorem w_f_X8_best_j104 {G : Wld} {X : Cxt} (C : Cx G X RX8 cX8_best 8 4) {σ : Sto} {x1 : Int32} {x2 : Int32} {x3 : Int32} {x4 : Int32} {x5 : Int32} {x6 : Int32} {s0 : Int32} {y : (Sto × Int32 × Int32 × Int32) ⊕ (Sto × Int32 × Int32 × Int32)} (h : f_X8_best_j104 σ x1 x2 x3 x4 x5 x6 s0 = some y) (hc : ∀ t : Sto × Int32 × Int32 × Int32, y = .inl t → V G X 8 t.1 [(0, .ref (G.1 39)), (1, .int x1), (2, .int x2), (3, .int t.2.1), (4, .int t.2.2.1), (5, .int t.2.2.2)] [] 32) {Ve : Sto × Int32 × Int32 × Int32 → Prop} (he : ∀ e, y = .inr e → Ve e) (hx : ∀ (σ : Sto) (x3 : Int32) (x4 : Int32) (x5 : Int32), Ve (σ, x3, x4, x5) → V G X 8 σ [(0, .ref (G.1 39)), (1, .int x1), (2, .int x2), (3, .int x3), (4, .int x4), (5, .int x5)] [] 138) : V G X 8 σ [(0, .ref (G.1 39)), (1, .int x1), (2, .int x2), (3, .int x3), (4, .int x4), (5, .int x5), (6, .int x6)] [.int s0] 104 := by
  unfold f_X8_best_j104 at h
  refine b_istore 104 C 7 (lv2 := fun z22 => [(7, .int z22), (0, .ref (G.1 39)), (1, .int x1), (2, .int x2), (3, .int x3), (4, .int x4), (5, .int x5), (6, .int x6)]) dX8_best_104 (by decide) (fun _ => rfl) h (fun z22 h => ?_)
  refine v_iload 106 C 7 0 dX8_best_106 rfl ?_
  refine v_if_eq 108 C 116 dX8_best_108 (by decide) h (fun h => ?_) (fun h => ?_)
  · refine v_iload_n 116 C 3 4 dX8_best_116 rfl rfl ?_
    exact v_sub [1, 2, 3, 5, 6, 7, 0] rfl (w_f_X8_best_j117 C h hc he hx)
  · refine v_iload 111 C 5 6 dX8_best_111 rfl ?_
    refine v_goto 113 C 117 dX8_best_113 (by decide) ?_
    exact v_sub [1, 2, 3, 5, 6, 7, 0] rfl (w_f_X8_best_j117 C h hc he hx)
theorem w_f_X8_best_j99 {G : Wld} {X : Cxt} (C : Cx G X RX8 cX8_best 8 4) {σ : Sto} {x1 : Int32} {x2 : Int32} {x3 : Int32} {x4 : Int32} {x5 : Int32} {x6 : Int32} {y : (Sto × Int32 × Int32 × Int32) ⊕ (Sto × Int32 × Int32 × Int32)} (h : f_X8_best_j99 σ x1 x2 x3 x4 x5 x6 = some y) (hc : ∀ t : Sto × Int32 × Int32 × Int32, y = .inl t → V G X 8 t.1 [(0, .ref (G.1 39)), (1, .int x1), (2, .int x2), (3, .int t.2.1), (4, .int t.2.2.1), (5, .int t.2.2.2)] [] 32) {Ve : Sto × Int32 × Int32 × Int32 → Prop} (he : ∀ e, y = .inr e → Ve e) (hx : ∀ (σ : Sto) (x3 : Int32) (x4 : Int32) (x5 : Int32), Ve (σ, x3, x4, x5) → V G X 8 σ [(0, .ref (G.1 39)), (1, .int x1), (2, .int x2), (3, .int x3), (4, .int x4), (5, .int x5)] [] 138) : V G X 8 σ [(0, .ref (G.1 39)), (1, .int x1), (2, .int x2), (3, .int x3), (4, .int x4), (5, .int x5), (6, .int x6)] [] 99 := by
  unfold f_X8_best_j99 at h
  refine v_iconst 99 C (1 : Int32) dX8_best_99 (by decide) ?_
  refine v_goto 100 C 104 dX8_best_100 (by decide) ?_
  exact v_sub [0, 1, 2, 3, 4, 5, 6] rfl (w_f_X8_best_j104 C h hc he hx)
theorem w_f_X8_best_l32 {G : Wld} {X : Cxt} (C : Cx G X RX8 cX8_best 8 4) {x1 : Int32} {x2 : Int32} {σ : Sto} {x3 : Int32} {x4 : Int32} {x5 : Int32} {y : (Sto × Int32 × Int32 × Int32) ⊕ (Sto × Int32 × Int32 × Int32)} (h : f_X8_best_l32 x1 x2 σ x3 x4 x5 = some y) (hc : ∀ t : Sto × Int32 × Int32 × Int32, y = .inl t → V G X 8 t.1 [(0, .ref (G.1 39)), (1, .int x1), (2, .int x2), (3, .int t.2.1), (4, .int t.2.2.1), (5, .int t.2.2.2)] [] 32) {Ve : Sto × Int32 × Int32 × Int32 → Prop} (he : ∀ e, y = .inr e → Ve e) (hx : ∀ (σ : Sto) (x3 : Int32) (x4 : Int32) (x5 : Int32), Ve (σ, x3, x4, x5) → V G X 8 σ [(0, .ref (G.1 39)), (1, .int x1), (2, .int x2), (3, .int x3), (4, .int x4), (5, .int x5)] [] 138) : V G X 8 σ [(0, .ref (G.1 39)), (1, .int x1), (2, .int x2), (3, .int x3), (4, .int x4), (5, .int x5)] [] 32 := by
  unfold f_X8_best_l32 at h
  refine v_iload 32 C 5 5 dX8_best_32 rfl ?_
  refine v_aload_n 34 C 0 0 dX8_best_34 rfl rfl ?_
  refine g_X8_39_0 35 C dX8_best_35 ?_
  refine v_icmp_ge 38 C 138 dX8_best_38 (by decide) h (fun h => ?_) (fun h => ?_)
  · exact v_sub [0, 1, 2, 3, 4, 5] rfl (hx _ _ _ _ (he _ (Option.some.inj h).symm))
  · refine v_iconst 41 C (0 : Int32) dX8_best_41 (by decide) ?_
    refine b_istore 42 C 6 (lv2 := fun z8 => [(6, .int z8), (0, .ref (G.1 39)), (1, .int x1), (2, .int x2), (3, .int x3), (4, .int x4), (5, .int x5)]) dX8_best_42 (by decide) (fun _ => rfl) h (fun z8 h => ?_)
    refine v_iconst 44 C (0 : Int32) dX8_best_44 (by decide) ?_
    refine b_istore 45 C 7 (lv2 := fun z9 => [(7, .int z9), (6, .int z8), (0, .ref (G.1 39)), (1, .int x1), (2, .int x2), (3, .int x3), (4, .int x4), (5, .int x5)]) dX8_best_45 (by decide) (fun _ => rfl) h (fun z9 h => ?_)
    refine v_sub [2, 3, 4, 5, 6, 7, 1, 0] rfl ?_
    refine lp_go (Vh := fun t => V G X 8 t.1 [(0, .ref (G.1 39)), (1, .int x1), (2, .int x2), (3, .int x3), (4, .int x4), (5, .int x5), (6, .int t.2.1), (7, .int t.2.2)] [] 47) h ?_
    intro t21 y21 hy21 hc21 he21
    refine w_f_X8_best_l47 C hy21 hc21 he21 (fun σ18 z19 z20 h => ?_)
    dsimp only at h
    refine v_iload_n 88 C 3 3 dX8_best_88 rfl rfl ?_
    refine v_if_lt 89 C 99 dX8_best_89 (by decide) h (fun h => ?_) (fun h => ?_)
    · exact v_sub [0, 1, 2, 3, 4, 5, 6] rfl (w_f_X8_best_j99 C h hc he hx)
    · refine v_iload 92 C 6 6 dX8_best_92 rfl ?_
      refine v_iload 94 C 4 4 dX8_best_94 rfl ?_
      refine v_icmp_le 96 C 103 dX8_best_96 (by decide) h (fun h => ?_) (fun h => ?_)
      · refine v_iconst 103 C (0 : Int32) dX8_best_103 (by decide) ?_
        exact v_sub [0, 1, 2, 3, 4, 5, 6] rfl (w_f_X8_best_j104 C h hc he hx)
      · exact v_sub [0, 1, 2, 3, 4, 5, 6] rfl (w_f_X8_best_j99 C h hc he hx)
theorem w_f_X8_best_j148 {G : Wld} {X : Cxt} (C : Cx G X RX8 cX8_best 8 4) {σ : Sto} {s0 : Int32} {y : Sto × Int32} (h : f_X8_best_j148 σ s0 = some y) (hK : Rx G X (some .int) (some (.int y.2)) y.1) : V G X 8 σ [(0, .ref (G.1 39))] [.int s0] 148 := by
  unfold f_X8_best_j148 at h
  cases h
  exact v_iret 148 C hK dX8_best_148
theorem w_f_X8_best {G : Wld} {X : Cxt} (C : Cx G X RX8 cX8_best 8 4) {σ : Sto} {a1 : Int32} {a2 : Int32} {y : Sto × Int32} (h : f_X8_best σ a1 a2 = some y) (hK : Rx G X (some .int) (some (.int y.2)) y.1) : V G X 8 σ [(0, .ref (G.1 39)), (1, .int a1), (2, .int a2)] [] 0 := by
  unfold f_X8_best at h
  refine v_aload_n 0 C 0 0 dX8_best_0 rfl rfl ?_
  refine v_iload_n 1 C 1 1 dX8_best_1 rfl rfl ?_
  refine r_f_X8_isBeggar 2 C (by decide) q_1046 dX8_best_2 (Nat.le_of_ble_eq_true rfl) h (fun σ1 v2 h => ?_)
  refine v_if_ne 5 C 11 dX8_best_5 (by decide) h (fun h => ?_) (fun h => ?_)
  · refine v_iload_n 11 C 2 2 dX8_best_11 rfl rfl ?_
    refine v_i2l 12 C dX8_best_12 ?_
    refine v_lconst 13 C (0 : Int64) dX8_best_13 (by decide) ?_
    refine v_lconst 14 C (1 : Int64) dX8_best_14 (by decide) ?_
    refine r_f_X8_in 15 C (by decide) q_940 dX8_best_15 (Nat.le_of_ble_eq_true rfl) h (fun σ3 v4 h => ?_)
    refine v_if_ne 18 C 24 dX8_best_18 (by decide) h (fun h => ?_) (fun h => ?_)
    · refine v_iconst 24 C (-1 : Int32) dX8_best_24 (by decide) ?_
      refine b_istore_n 25 C 3 (lv2 := fun z5 => [(3, .int z5), (0, .ref (G.1 39)), (1, .int a1), (2, .int a2)]) dX8_best_25 rfl (by decide) (fun _ => rfl) h (fun z5 h => ?_)
      refine v_iconst 26 C (0 : Int32) dX8_best_26 (by decide) ?_
      refine b_istore 27 C 4 (lv2 := fun z6 => [(4, .int z6), (3, .int z5), (0, .ref (G.1 39)), (1, .int a1), (2, .int a2)]) dX8_best_27 (by decide) (fun _ => rfl) h (fun z6 h => ?_)
      refine v_iconst 29 C (0 : Int32) dX8_best_29 (by decide) ?_
      refine b_istore 30 C 5 (lv2 := fun z7 => [(5, .int z7), (4, .int z6), (3, .int z5), (0, .ref (G.1 39)), (1, .int a1), (2, .int a2)]) dX8_best_30 (by decide) (fun _ => rfl) h (fun z7 h => ?_)
      refine v_sub [3, 4, 5, 2, 1, 0] rfl ?_
      refine lp_go (Vh := fun t => V G X 8 t.1 [(0, .ref (G.1 39)), (1, .int a1), (2, .int a2), (3, .int t.2.1), (4, .int t.2.2.1), (5, .int t.2.2.2)] [] 32) h ?_
      intro t30 y30 hy30 hc30 he30
      refine w_f_X8_best_l32 C hy30 hc30 he30 (fun σ26 z27 z28 z29 h => ?_)
      dsimp only at h
      refine v_iload_n 138 C 2 2 dX8_best_138 rfl rfl ?_
      refine v_if_ne 139 C 146 dX8_best_139 (by decide) h (fun h => ?_) (fun h => ?_)
      · refine v_iload 146 C 4 4 dX8_best_146 rfl ?_
        exact v_sub [0] rfl (w_f_X8_best_j148 C h hK)
      · refine v_iload_n 142 C 3 3 dX8_best_142 rfl rfl ?_
        refine v_goto 143 C 148 dX8_best_143 (by decide) ?_
        exact v_sub [0] rfl (w_f_X8_best_j148 C h hK)
    · refine v_ldc 21 C dX8_best_21 q_943 ?_
      cases h
      exact v_iret 23 C hK dX8_best_23
  · refine v_ldc 8 C dX8_best_8 q_1024 ?_
    cases h
    exact v_iret 10 C hK dX8_best_10
theorem c_f_X8_best (l : Launch) (G : Wld) (hG : GI G) (σ : Sto) (a1 : Int32) (a2 : Int32) (y : Sto × Int32) (h : f_X8_best σ a1 a2 = some y) : Ct l G yX8_best cX8_best 8 (some .int) 4 [.ref (G.1 39), .int a1, .int a2] σ (some (.int y.2)) y.1 := by
  refine ct_intro RX8 hG (by decide) rfl (Nat.le_of_ble_eq_true rfl) (fun X hX C hK => ?_)
  subst hX
  exact w_f_X8_best C h hK
theorem r_f_X8_best {G : Wld} {X : Cxt} {own : String} {cc : ByteArray} {nL n : Nat} {σ : Sto} {lv : List (Nat × Value)} {st : List Value} {β : Type} {r : β} {F : Sto → Int32 → Option β} {a1 : Int32} {a2 : Int32} {ix : Nat} (pc : Nat) (C : Cx G X own cc nL n) (hn : 4 < n) (h1 : Cond.methodLink own ix yX8_best ∈ lw_gd) (hd : decode cc pc = .ok (.invokevirtual ix, 3)) (hsum : (st.map fun v => v.category).sum ≤ 8) (h : bd2 (f_X8_best σ a1 a2) F = some r) (kk : ∀ σ1 v, F σ1 v = some r → V G X nL σ1 lv (.int v :: st) (pc + 3)) : V G X nL σ lv (.int a2 :: .int a1 :: .ref (G.1 39) :: st) pc := by
  obtain ⟨z, hz, h⟩ := bd2_some h
  exact v_callV pc C 39 2 [.int a1, .int a2] st (c_f_X8_best (xl X) G C.2.2.2.2.2.2.1 _ _ _ _ hz) hn (by decide) (by decide) (ce_39 G _ _) rfl (by decide +kernel) rfl h1 q_1194 q_1195 q_68 q_1196 rfl hsum hd (kk _ _ h)
-- f_X8_tell
def f_X8_tell_j16 (σ : Sto) : Option (Sto × Int32) :=
  some (σ, (-1000000001 : Int32))
def f_X8_tell_j44 (σ : Sto) : Option (Sto × Int32) :=
  some (σ, (-1000000002 : Int32))
def f_X8_tell (σ : Sto) (a1 : Int32) (a2 : Int32) (a3 : Int32) (a4 : Int32) : Option (Sto × Int32) :=
  bd2 (f_X8_isBell σ a1) fun σ1 v2 => if v2 = 0 then (f_X8_tell_j16 σ1) else (bd2 (f_X8_isSpot σ1 a3) fun σ3 v4 => if v4 = 0 then (f_X8_tell_j16 σ3) else (bd2 (f_X8_in σ3 (a2).toInt64 (0 : Int64) (999 : Int64)) fun σ5 v6 => if v6 = 0 then (f_X8_tell_j44 σ5) else (bd2 (f_X8_in σ5 (a4).toInt64 (0 : Int64) (999 : Int64)) fun σ7 v8 => if v8 = 0 then (f_X8_tell_j44 σ7) else (if (σ7.1 39 48) = (10 : Int32) then (some (σ7, (-1000000004 : Int32))) else (bd2 (f_X8_longOn σ7 a1 a2) fun σ9 v10 => gd (inB (σ7.1 39 48) 10) (bs (su σ9 65 ((σ7.1 39 48)).toNatClampNeg v10) fun σ11 => gd (inB (σ11.1 39 48) 10) (bs (su σ11 66 ((σ11.1 39 48)).toNatClampNeg a3) fun σ12 => gd (inB (σ12.1 39 48) 10) (bs (su σ12 67 ((σ12.1 39 48)).toNatClampNeg a4) fun σ13 => bs (su σ13 39 48 ((σ13.1 39 48) + (1 : Int32))) fun σ14 => some (σ14, (σ14.1 39 48))))))))))
theorem w_f_X8_tell_j16 {G : Wld} {X : Cxt} (C : Cx G X RX8 cX8_tell 5 3) {σ : Sto} {y : Sto × Int32} (h : f_X8_tell_j16 σ = some y) (hK : Rx G X (some .int) (some (.int y.2)) y.1) : V G X 5 σ [(0, .ref (G.1 39))] [] 16 := by
  unfold f_X8_tell_j16 at h
  refine v_ldc 16 C dX8_tell_16 q_1024 ?_
  cases h
  exact v_iret 18 C hK dX8_tell_18
theorem w_f_X8_tell_j44 {G : Wld} {X : Cxt} (C : Cx G X RX8 cX8_tell 5 3) {σ : Sto} {y : Sto × Int32} (h : f_X8_tell_j44 σ = some y) (hK : Rx G X (some .int) (some (.int y.2)) y.1) : V G X 5 σ [(0, .ref (G.1 39))] [] 44 := by
  unfold f_X8_tell_j44 at h
  refine v_ldc 44 C dX8_tell_44 q_943 ?_
  cases h
  exact v_iret 46 C hK dX8_tell_46
theorem w_f_X8_tell {G : Wld} {X : Cxt} (C : Cx G X RX8 cX8_tell 5 3) {σ : Sto} {a1 : Int32} {a2 : Int32} {a3 : Int32} {a4 : Int32} {y : Sto × Int32} (h : f_X8_tell σ a1 a2 a3 a4 = some y) (hK : Rx G X (some .int) (some (.int y.2)) y.1) : V G X 5 σ [(0, .ref (G.1 39)), (1, .int a1), (2, .int a2), (3, .int a3), (4, .int a4)] [] 0 := by
  unfold f_X8_tell at h
  refine v_aload_n 0 C 0 0 dX8_tell_0 rfl rfl ?_
  refine v_iload_n 1 C 1 1 dX8_tell_1 rfl rfl ?_
  refine r_f_X8_isBell 2 C (by decide) q_1020 dX8_tell_2 (Nat.le_of_ble_eq_true rfl) h (fun σ1 v2 h => ?_)
  refine v_if_eq 5 C 16 dX8_tell_5 (by decide) h (fun h => ?_) (fun h => ?_)
  · exact v_sub [0] rfl (w_f_X8_tell_j16 C h hK)
  · refine v_aload_n 8 C 0 0 dX8_tell_8 rfl rfl ?_
    refine v_iload_n 9 C 3 3 dX8_tell_9 rfl rfl ?_
    refine r_f_X8_isSpot 10 C (by decide) q_1034 dX8_tell_10 (Nat.le_of_ble_eq_true rfl) h (fun σ3 v4 h => ?_)
    refine v_if_ne 13 C 19 dX8_tell_13 (by decide) h (fun h => ?_) (fun h => ?_)
    · refine v_iload_n 19 C 2 2 dX8_tell_19 rfl rfl ?_
      refine v_i2l 20 C dX8_tell_20 ?_
      refine v_lconst 21 C (0 : Int64) dX8_tell_21 (by decide) ?_
      refine v_ldc2_w 22 C dX8_tell_22 q_1179 ?_
      refine r_f_X8_in 25 C (by decide) q_940 dX8_tell_25 (Nat.le_of_ble_eq_true rfl) h (fun σ5 v6 h => ?_)
      refine v_if_eq 28 C 44 dX8_tell_28 (by decide) h (fun h => ?_) (fun h => ?_)
      · exact v_sub [0] rfl (w_f_X8_tell_j44 C h hK)
      · refine v_iload 31 C 4 4 dX8_tell_31 rfl ?_
        refine v_i2l 33 C dX8_tell_33 ?_
        refine v_lconst 34 C (0 : Int64) dX8_tell_34 (by decide) ?_
        refine v_ldc2_w 35 C dX8_tell_35 q_1179 ?_
        refine r_f_X8_in 38 C (by decide) q_940 dX8_tell_38 (Nat.le_of_ble_eq_true rfl) h (fun σ7 v8 h => ?_)
        refine v_if_ne 41 C 47 dX8_tell_41 (by decide) h (fun h => ?_) (fun h => ?_)
        · refine v_aload_n 47 C 0 0 dX8_tell_47 rfl rfl ?_
          refine g_X8_39_48 48 C dX8_tell_48 ?_
          refine v_bipush 51 C (10 : Int32) dX8_tell_51 (by decide) ?_
          refine v_icmp_ne 53 C 59 dX8_tell_53 (by decide) h (fun h => ?_) (fun h => ?_)
          · refine v_aload_n 59 C 0 0 dX8_tell_59 rfl rfl ?_
            refine g_X8_39_49 60 C dX8_tell_60 ?_
            refine v_aload_n 63 C 0 0 dX8_tell_63 rfl rfl ?_
            refine g_X8_39_48 64 C dX8_tell_64 ?_
            refine v_aload_n 67 C 0 0 dX8_tell_67 rfl rfl ?_
            refine v_iload_n 68 C 1 1 dX8_tell_68 rfl rfl ?_
            refine v_iload_n 69 C 2 2 dX8_tell_69 rfl rfl ?_
            refine r_f_X8_longOn 70 C (by decide) q_1026 dX8_tell_70 (Nat.le_of_ble_eq_true rfl) h (fun σ9 v10 h => ?_)
            refine b_iast 73 C 65 (by decide) (ce_65 G) dX8_tell_73 h (fun σ11 h => ?_)
            refine v_aload_n 74 C 0 0 dX8_tell_74 rfl rfl ?_
            refine g_X8_39_50 75 C dX8_tell_75 ?_
            refine v_aload_n 78 C 0 0 dX8_tell_78 rfl rfl ?_
            refine g_X8_39_48 79 C dX8_tell_79 ?_
            refine v_iload_n 82 C 3 3 dX8_tell_82 rfl rfl ?_
            refine b_iast 83 C 66 (by decide) (ce_66 G) dX8_tell_83 h (fun σ12 h => ?_)
            refine v_aload_n 84 C 0 0 dX8_tell_84 rfl rfl ?_
            refine g_X8_39_51 85 C dX8_tell_85 ?_
            refine v_aload_n 88 C 0 0 dX8_tell_88 rfl rfl ?_
            refine g_X8_39_48 89 C dX8_tell_89 ?_
            refine v_iload 92 C 4 4 dX8_tell_92 rfl ?_
            refine b_iast 94 C 67 (by decide) (ce_67 G) dX8_tell_94 h (fun σ13 h => ?_)
            refine v_aload_n 95 C 0 0 dX8_tell_95 rfl rfl ?_
            refine v_dup 96 C dX8_tell_96 rfl ?_
            refine g_X8_39_48 97 C dX8_tell_97 ?_
            refine v_iconst 100 C (1 : Int32) dX8_tell_100 (by decide) ?_
            refine v_iadd 101 C dX8_tell_101 ?_
            refine p_X8_39_48 102 C dX8_tell_102 h (fun σ14 h => ?_)
            refine v_aload_n 105 C 0 0 dX8_tell_105 rfl rfl ?_
            refine g_X8_39_48 106 C dX8_tell_106 ?_
            cases h
            exact v_iret 109 C hK dX8_tell_109
          · refine v_ldc 56 C dX8_tell_56 q_944 ?_
            cases h
            exact v_iret 58 C hK dX8_tell_58
        · exact v_sub [0] rfl (w_f_X8_tell_j44 C h hK)
    · exact v_sub [0] rfl (w_f_X8_tell_j16 C h hK)
theorem c_f_X8_tell (l : Launch) (G : Wld) (hG : GI G) (σ : Sto) (a1 : Int32) (a2 : Int32) (a3 : Int32) (a4 : Int32) (y : Sto × Int32) (h : f_X8_tell σ a1 a2 a3 a4 = some y) : Ct l G yX8_tell cX8_tell 5 (some .int) 3 [.ref (G.1 39), .int a1, .int a2, .int a3, .int a4] σ (some (.int y.2)) y.1 := by
  refine ct_intro RX8 hG (by decide) rfl (Nat.le_of_ble_eq_true rfl) (fun X hX C hK => ?_)
  subst hX
  exact w_f_X8_tell C h hK
theorem r_f_X8_tell {G : Wld} {X : Cxt} {own : String} {cc : ByteArray} {nL n : Nat} {σ : Sto} {lv : List (Nat × Value)} {st : List Value} {β : Type} {r : β} {F : Sto → Int32 → Option β} {a1 : Int32} {a2 : Int32} {a3 : Int32} {a4 : Int32} {ix : Nat} (pc : Nat) (C : Cx G X own cc nL n) (hn : 3 < n) (h1 : Cond.methodLink own ix yX8_tell ∈ lw_gd) (hd : decode cc pc = .ok (.invokevirtual ix, 3)) (hsum : (st.map fun v => v.category).sum ≤ 8) (h : bd2 (f_X8_tell σ a1 a2 a3 a4) F = some r) (kk : ∀ σ1 v, F σ1 v = some r → V G X nL σ1 lv (.int v :: st) (pc + 3)) : V G X nL σ lv (.int a4 :: .int a3 :: .int a2 :: .int a1 :: .ref (G.1 39) :: st) pc := by
  obtain ⟨z, hz, h⟩ := bd2_some h
  exact v_callV pc C 39 4 [.int a1, .int a2, .int a3, .int a4] st (c_f_X8_tell (xl X) G C.2.2.2.2.2.2.1 _ _ _ _ _ _ hz) hn (by decide) (by decide) (ce_39 G _ _) rfl (by decide +kernel) rfl h1 q_1198 q_1199 q_68 q_1200 rfl hsum hd (kk _ _ h)
-- f_X8_isAsTold
def f_X8_isAsTold_j59 (σ : Sto) (x1 : Int32) (x3 : Int32) (s0 : Int32) : Option ((Sto × Int32 × Int32) ⊕ (Sto × Int32 × Int32)) :=
  bs s0 fun z3 => bs (x3 + (1 : Int32)) fun z4 => some (.inl (σ, z3, z4))
def f_X8_isAsTold_j58 (σ : Sto) (x1 : Int32) (x3 : Int32) : Option ((Sto × Int32 × Int32) ⊕ (Sto × Int32 × Int32)) :=
  f_X8_isAsTold_j59 σ x1 x3 (0 : Int32)
def f_X8_isAsTold_l4 (x1 : Int32) (σ : Sto) (x2 : Int32) (x3 : Int32) : Option ((Sto × Int32 × Int32) ⊕ (Sto × Int32 × Int32)) :=
  if (σ.1 39 48) ≤ x3 then (some (.inr (σ, x2, x3))) else (if x2 = 0 then (f_X8_isAsTold_j58 σ x1 x3) else (gd (inB x3 10) (gd (inB (σ.1 66 (x3).toNatClampNeg) 6) (gd (inB x3 10) (gd (inB x3 10) (bd2 (f_X8_lengthBy σ (x1 + (σ.1 42 ((σ.1 66 (x3).toNatClampNeg)).toNatClampNeg)) (σ.1 66 (x3).toNatClampNeg) (σ.1 65 (x3).toNatClampNeg)) fun σ5 v6 => gd (inB x3 10) (if v6 = (σ5.1 67 (x3).toNatClampNeg) then (f_X8_isAsTold_j59 σ5 x1 x3 (1 : Int32)) else (f_X8_isAsTold_j58 σ5 x1 x3))))))))
def f_X8_isAsTold (σ : Sto) (a1 : Int32) : Option (Sto × Int32) :=
  bs (1 : Int32) fun z1 => bs (0 : Int32) fun z2 => bE2 (lpF (fun t => f_X8_isAsTold_l4 a1 t.1 t.2.1 t.2.2) FU (σ, z1, z2)) (fun σ7 z8 z9 => gd (zB z8) (some (σ7, z8)))
theorem w_f_X8_isAsTold_j59 {G : Wld} {X : Cxt} (C : Cx G X RX8 cX8_isAsTold 4 2) {σ : Sto} {x1 : Int32} {x3 : Int32} {s0 : Int32} {y : (Sto × Int32 × Int32) ⊕ (Sto × Int32 × Int32)} (h : f_X8_isAsTold_j59 σ x1 x3 s0 = some y) (hc : ∀ t : Sto × Int32 × Int32, y = .inl t → V G X 4 t.1 [(0, .ref (G.1 39)), (1, .int x1), (2, .int t.2.1), (3, .int t.2.2)] [] 4) {Ve : Sto × Int32 × Int32 → Prop} (he : ∀ e, y = .inr e → Ve e) (hx : ∀ (σ : Sto) (x2 : Int32) (x3 : Int32), Ve (σ, x2, x3) → V G X 4 σ [(0, .ref (G.1 39)), (1, .int x1), (2, .int x2), (3, .int x3)] [] 66) : V G X 4 σ [(0, .ref (G.1 39)), (1, .int x1), (3, .int x3)] [.int s0] 59 := by
  unfold f_X8_isAsTold_j59 at h
  refine b_istore_n 59 C 2 (lv2 := fun z3 => [(2, .int z3), (0, .ref (G.1 39)), (1, .int x1), (3, .int x3)]) dX8_isAsTold_59 rfl (by decide) (fun _ => rfl) h (fun z3 h => ?_)
  refine b_iinc 60 C 3 3 (1 : Int32) (lv2 := fun z4 => [(3, .int z4), (2, .int z3), (0, .ref (G.1 39)), (1, .int x1)]) dX8_isAsTold_60 rfl (by decide) (by decide) (fun _ => rfl) h (fun z4 h => ?_)
  refine v_goto 63 C 4 dX8_isAsTold_63 (by decide) ?_
  exact v_sub [2, 3, 1, 0] rfl (hc _ (Option.some.inj h).symm)
theorem w_f_X8_isAsTold_j58 {G : Wld} {X : Cxt} (C : Cx G X RX8 cX8_isAsTold 4 2) {σ : Sto} {x1 : Int32} {x3 : Int32} {y : (Sto × Int32 × Int32) ⊕ (Sto × Int32 × Int32)} (h : f_X8_isAsTold_j58 σ x1 x3 = some y) (hc : ∀ t : Sto × Int32 × Int32, y = .inl t → V G X 4 t.1 [(0, .ref (G.1 39)), (1, .int x1), (2, .int t.2.1), (3, .int t.2.2)] [] 4) {Ve : Sto × Int32 × Int32 → Prop} (he : ∀ e, y = .inr e → Ve e) (hx : ∀ (σ : Sto) (x2 : Int32) (x3 : Int32), Ve (σ, x2, x3) → V G X 4 σ [(0, .ref (G.1 39)), (1, .int x1), (2, .int x2), (3, .int x3)] [] 66) : V G X 4 σ [(0, .ref (G.1 39)), (1, .int x1), (3, .int x3)] [] 58 := by
  unfold f_X8_isAsTold_j58 at h
  refine v_iconst 58 C (0 : Int32) dX8_isAsTold_58 (by decide) ?_
  exact v_sub [0, 1, 2] rfl (w_f_X8_isAsTold_j59 C h hc he hx)
theorem w_f_X8_isAsTold_l4 {G : Wld} {X : Cxt} (C : Cx G X RX8 cX8_isAsTold 4 2) {x1 : Int32} {σ : Sto} {x2 : Int32} {x3 : Int32} {y : (Sto × Int32 × Int32) ⊕ (Sto × Int32 × Int32)} (h : f_X8_isAsTold_l4 x1 σ x2 x3 = some y) (hc : ∀ t : Sto × Int32 × Int32, y = .inl t → V G X 4 t.1 [(0, .ref (G.1 39)), (1, .int x1), (2, .int t.2.1), (3, .int t.2.2)] [] 4) {Ve : Sto × Int32 × Int32 → Prop} (he : ∀ e, y = .inr e → Ve e) (hx : ∀ (σ : Sto) (x2 : Int32) (x3 : Int32), Ve (σ, x2, x3) → V G X 4 σ [(0, .ref (G.1 39)), (1, .int x1), (2, .int x2), (3, .int x3)] [] 66) : V G X 4 σ [(0, .ref (G.1 39)), (1, .int x1), (2, .int x2), (3, .int x3)] [] 4 := by
  unfold f_X8_isAsTold_l4 at h
  refine v_iload_n 4 C 3 3 dX8_isAsTold_4 rfl rfl ?_
  refine v_aload_n 5 C 0 0 dX8_isAsTold_5 rfl rfl ?_
  refine g_X8_39_48 6 C dX8_isAsTold_6 ?_
  refine v_icmp_ge 9 C 66 dX8_isAsTold_9 (by decide) h (fun h => ?_) (fun h => ?_)
  · exact v_sub [0, 1, 2, 3] rfl (hx _ _ _ (he _ (Option.some.inj h).symm))
  · refine v_iload_n 12 C 2 2 dX8_isAsTold_12 rfl rfl ?_
    refine v_if_eq 13 C 58 dX8_isAsTold_13 (by decide) h (fun h => ?_) (fun h => ?_)
    · exact v_sub [0, 1, 3] rfl (w_f_X8_isAsTold_j58 C h hc he hx)
    · refine v_aload_n 16 C 0 0 dX8_isAsTold_16 rfl rfl ?_
      refine v_iload_n 17 C 1 1 dX8_isAsTold_17 rfl rfl ?_
      refine v_aload_n 18 C 0 0 dX8_isAsTold_18 rfl rfl ?_
      refine g_X8_39_5 19 C dX8_isAsTold_19 ?_
      refine v_aload_n 22 C 0 0 dX8_isAsTold_22 rfl rfl ?_
      refine g_X8_39_50 23 C dX8_isAsTold_23 ?_
      refine v_iload_n 26 C 3 3 dX8_isAsTold_26 rfl rfl ?_
      refine v_iald 27 C 66 (by decide) (ce_66 G) dX8_isAsTold_27 h (fun h => ?_)
      refine v_iald 28 C 42 (by decide) (ce_42 G) dX8_isAsTold_28 h (fun h => ?_)
      refine v_iadd 29 C dX8_isAsTold_29 ?_
      refine v_aload_n 30 C 0 0 dX8_isAsTold_30 rfl rfl ?_
      refine g_X8_39_50 31 C dX8_isAsTold_31 ?_
      refine v_iload_n 34 C 3 3 dX8_isAsTold_34 rfl rfl ?_
      refine v_iald 35 C 66 (by decide) (ce_66 G) dX8_isAsTold_35 h (fun h => ?_)
      refine v_aload_n 36 C 0 0 dX8_isAsTold_36 rfl rfl ?_
      refine g_X8_39_49 37 C dX8_isAsTold_37 ?_
      refine v_iload_n 40 C 3 3 dX8_isAsTold_40 rfl rfl ?_
      refine v_iald 41 C 65 (by decide) (ce_65 G) dX8_isAsTold_41 h (fun h => ?_)
      refine r_f_X8_lengthBy 42 C (by decide) q_1082 dX8_isAsTold_42 (Nat.le_of_ble_eq_true rfl) h (fun σ5 v6 h => ?_)
      refine v_aload_n 45 C 0 0 dX8_isAsTold_45 rfl rfl ?_
      refine g_X8_39_51 46 C dX8_isAsTold_46 ?_
      refine v_iload_n 49 C 3 3 dX8_isAsTold_49 rfl rfl ?_
      refine v_iald 50 C 67 (by decide) (ce_67 G) dX8_isAsTold_50 h (fun h => ?_)
      refine v_icmp_ne 51 C 58 dX8_isAsTold_51 (by decide) h (fun h => ?_) (fun h => ?_)
      · exact v_sub [0, 1, 3] rfl (w_f_X8_isAsTold_j58 C h hc he hx)
      · refine v_iconst 54 C (1 : Int32) dX8_isAsTold_54 (by decide) ?_
        refine v_goto 55 C 59 dX8_isAsTold_55 (by decide) ?_
        exact v_sub [0, 1, 3] rfl (w_f_X8_isAsTold_j59 C h hc he hx)
theorem w_f_X8_isAsTold {G : Wld} {X : Cxt} (C : Cx G X RX8 cX8_isAsTold 4 2) {σ : Sto} {a1 : Int32} {y : Sto × Int32} (h : f_X8_isAsTold σ a1 = some y) (hK : Rx G X (some .boolean) (some (.int y.2)) y.1) : V G X 4 σ [(0, .ref (G.1 39)), (1, .int a1)] [] 0 := by
  unfold f_X8_isAsTold at h
  refine v_iconst 0 C (1 : Int32) dX8_isAsTold_0 (by decide) ?_
  refine b_istore_n 1 C 2 (lv2 := fun z1 => [(2, .int z1), (0, .ref (G.1 39)), (1, .int a1)]) dX8_isAsTold_1 rfl (by decide) (fun _ => rfl) h (fun z1 h => ?_)
  refine v_iconst 2 C (0 : Int32) dX8_isAsTold_2 (by decide) ?_
  refine b_istore_n 3 C 3 (lv2 := fun z2 => [(3, .int z2), (2, .int z1), (0, .ref (G.1 39)), (1, .int a1)]) dX8_isAsTold_3 rfl (by decide) (fun _ => rfl) h (fun z2 h => ?_)
  refine v_sub [2, 3, 1, 0] rfl ?_
  refine lp_go (Vh := fun t => V G X 4 t.1 [(0, .ref (G.1 39)), (1, .int a1), (2, .int t.2.1), (3, .int t.2.2)] [] 4) h ?_
  intro t10 y10 hy10 hc10 he10
  refine w_f_X8_isAsTold_l4 C hy10 hc10 he10 (fun σ7 z8 z9 h => ?_)
  dsimp only at h
  refine v_iload_n 66 C 2 2 dX8_isAsTold_66 rfl rfl ?_
  obtain ⟨hz, h⟩ := gd_some h
  cases h
  exact v_zret 67 C (zB_nar hz) hK dX8_isAsTold_67
theorem c_f_X8_isAsTold (l : Launch) (G : Wld) (hG : GI G) (σ : Sto) (a1 : Int32) (y : Sto × Int32) (h : f_X8_isAsTold σ a1 = some y) : Ct l G yX8_isAsTold cX8_isAsTold 4 (some .boolean) 2 [.ref (G.1 39), .int a1] σ (some (.int y.2)) y.1 := by
  refine ct_intro RX8 hG (by decide) rfl (Nat.le_of_ble_eq_true rfl) (fun X hX C hK => ?_)
  subst hX
  exact w_f_X8_isAsTold C h hK
theorem r_f_X8_isAsTold {G : Wld} {X : Cxt} {own : String} {cc : ByteArray} {nL n : Nat} {σ : Sto} {lv : List (Nat × Value)} {st : List Value} {β : Type} {r : β} {F : Sto → Int32 → Option β} {a1 : Int32} {ix : Nat} (pc : Nat) (C : Cx G X own cc nL n) (hn : 2 < n) (h1 : Cond.methodLink own ix yX8_isAsTold ∈ lw_gd) (hd : decode cc pc = .ok (.invokevirtual ix, 3)) (hsum : (st.map fun v => v.category).sum ≤ 8) (h : bd2 (f_X8_isAsTold σ a1) F = some r) (kk : ∀ σ1 v, F σ1 v = some r → V G X nL σ1 lv (.int v :: st) (pc + 3)) : V G X nL σ lv (.int a1 :: .ref (G.1 39) :: st) pc := by
  obtain ⟨z, hz, h⟩ := bd2_some h
  exact v_callV pc C 39 1 [.int a1] st (c_f_X8_isAsTold (xl X) G C.2.2.2.2.2.2.1 _ _ _ hz) hn (by decide) (by decide) (ce_39 G _ _) rfl (by decide +kernel) rfl h1 q_1207 q_57 q_68 q_1208 rfl hsum hd (kk _ _ h)
-- f_X8_fits
def f_X8_fits_j59 (σ : Sto) (x1 : Int32) (x2 : Int32) (x3 : Int32) (x4 : Int32) (x5 : Int32) : Option ((Sto × Int32 × Int32 × Int32 × Int32) ⊕ (Sto × Int32 × Int32 × Int32 × Int32)) :=
  bs (x5 + (1 : Int32)) fun z9 => some (.inl (σ, x2, x3, x4, z9))
def f_X8_fits_j54 (σ : Sto) (x1 : Int32) (x2 : Int32) (x5 : Int32) (s0 : Int32) : Option ((Sto × Int32 × Int32 × Int32 × Int32) ⊕ (Sto × Int32 × Int32 × Int32 × Int32)) :=
  bs s0 fun z11 => bs x5 fun z12 => f_X8_fits_j59 σ x1 x2 z11 z12 x5
def f_X8_fits_l25 (x1 : Int32) (σ : Sto) (x2 : Int32) (x3 : Int32) (x4 : Int32) (x5 : Int32) : Option ((Sto × Int32 × Int32 × Int32 × Int32) ⊕ (Sto × Int32 × Int32 × Int32 × Int32)) :=
  if (110 : Int32) < x5 then (some (.inr (σ, x2, x3, x4, x5))) else (bd2 (f_X8_isAsTold σ x5) fun σ7 v8 => if v8 = 0 then (f_X8_fits_j59 σ7 x1 x2 x3 x4 x5) else (bs (x2 + (1 : Int32)) fun z10 => if 0 ≤ x3 then (f_X8_fits_j54 σ7 x1 z10 x5 x3) else (f_X8_fits_j54 σ7 x1 z10 x5 x5)))
def f_X8_fits_j84 (σ : Sto) (s0 : Int32) : Option (Sto × Int32) :=
  some (σ, s0)
def f_X8_fits (σ : Sto) (a1 : Int32) : Option (Sto × Int32) :=
  bd2 (f_X8_in σ (a1).toInt64 (0 : Int64) (2 : Int64)) fun σ1 v2 => if v2 = 0 then (some (σ1, (-1000000002 : Int32))) else (bs (0 : Int32) fun z3 => bs (-1 : Int32) fun z4 => bs (-1 : Int32) fun z5 => bs (1 : Int32) fun z6 => bE4 (lpF (fun t => f_X8_fits_l25 a1 t.1 t.2.1 t.2.2.1 t.2.2.2.1 t.2.2.2.2) FU (σ1, z3, z4, z5, z6)) (fun σ13 z14 z15 z16 z17 => if a1 = 0 then (f_X8_fits_j84 σ13 z14) else (if a1 = (1 : Int32) then (f_X8_fits_j84 σ13 z15) else (f_X8_fits_j84 σ13 z16))))
theorem w_f_X8_fits_j59 {G : Wld} {X : Cxt} (C : Cx G X RX8 cX8_fits 6 3) {σ : Sto} {x1 : Int32} {x2 : Int32} {x3 : Int32} {x4 : Int32} {x5 : Int32} {y : (Sto × Int32 × Int32 × Int32 × Int32) ⊕ (Sto × Int32 × Int32 × Int32 × Int32)} (h : f_X8_fits_j59 σ x1 x2 x3 x4 x5 = some y) (hc : ∀ t : Sto × Int32 × Int32 × Int32 × Int32, y = .inl t → V G X 6 t.1 [(0, .ref (G.1 39)), (1, .int x1), (2, .int t.2.1), (3, .int t.2.2.1), (4, .int t.2.2.2.1), (5, .int t.2.2.2.2)] [] 25) {Ve : Sto × Int32 × Int32 × Int32 × Int32 → Prop} (he : ∀ e, y = .inr e → Ve e) (hx : ∀ (σ : Sto) (x2 : Int32) (x3 : Int32) (x4 : Int32) (x5 : Int32), Ve (σ, x2, x3, x4, x5) → V G X 6 σ [(0, .ref (G.1 39)), (1, .int x1), (2, .int x2), (3, .int x3), (4, .int x4), (5, .int x5)] [] 65) : V G X 6 σ [(0, .ref (G.1 39)), (1, .int x1), (2, .int x2), (3, .int x3), (4, .int x4), (5, .int x5)] [] 59 := by
  unfold f_X8_fits_j59 at h
  refine b_iinc 59 C 5 5 (1 : Int32) (lv2 := fun z9 => [(5, .int z9), (0, .ref (G.1 39)), (1, .int x1), (2, .int x2), (3, .int x3), (4, .int x4)]) dX8_fits_59 rfl (by decide) (by decide) (fun _ => rfl) h (fun z9 h => ?_)
  refine v_goto 62 C 25 dX8_fits_62 (by decide) ?_
  exact v_sub [1, 2, 3, 4, 5, 0] rfl (hc _ (Option.some.inj h).symm)
theorem w_f_X8_fits_j54 {G : Wld} {X : Cxt} (C : Cx G X RX8 cX8_fits 6 3) {σ : Sto} {x1 : Int32} {x2 : Int32} {x5 : Int32} {s0 : Int32} {y : (Sto × Int32 × Int32 × Int32 × Int32) ⊕ (Sto × Int32 × Int32 × Int32 × Int32)} (h : f_X8_fits_j54 σ x1 x2 x5 s0 = some y) (hc : ∀ t : Sto × Int32 × Int32 × Int32 × Int32, y = .inl t → V G X 6 t.1 [(0, .ref (G.1 39)), (1, .int x1), (2, .int t.2.1), (3, .int t.2.2.1), (4, .int t.2.2.2.1), (5, .int t.2.2.2.2)] [] 25) {Ve : Sto × Int32 × Int32 × Int32 × Int32 → Prop} (he : ∀ e, y = .inr e → Ve e) (hx : ∀ (σ : Sto) (x2 : Int32) (x3 : Int32) (x4 : Int32) (x5 : Int32), Ve (σ, x2, x3, x4, x5) → V G X 6 σ [(0, .ref (G.1 39)), (1, .int x1), (2, .int x2), (3, .int x3), (4, .int x4), (5, .int x5)] [] 65) : V G X 6 σ [(0, .ref (G.1 39)), (1, .int x1), (2, .int x2), (5, .int x5)] [.int s0] 54 := by
  unfold f_X8_fits_j54 at h
  refine b_istore_n 54 C 3 (lv2 := fun z11 => [(3, .int z11), (0, .ref (G.1 39)), (1, .int x1), (2, .int x2), (5, .int x5)]) dX8_fits_54 rfl (by decide) (fun _ => rfl) h (fun z11 h => ?_)
  refine v_iload 55 C 5 4 dX8_fits_55 rfl ?_
  refine b_istore 57 C 4 (lv2 := fun z12 => [(4, .int z12), (3, .int z11), (0, .ref (G.1 39)), (1, .int x1), (2, .int x2), (5, .int x5)]) dX8_fits_57 (by decide) (fun _ => rfl) h (fun z12 h => ?_)
  exact v_sub [2, 3, 4, 1, 0, 5] rfl (w_f_X8_fits_j59 C h hc he hx)
theorem w_f_X8_fits_l25 {G : Wld} {X : Cxt} (C : Cx G X RX8 cX8_fits 6 3) {x1 : Int32} {σ : Sto} {x2 : Int32} {x3 : Int32} {x4 : Int32} {x5 : Int32} {y : (Sto × Int32 × Int32 × Int32 × Int32) ⊕ (Sto × Int32 × Int32 × Int32 × Int32)} (h : f_X8_fits_l25 x1 σ x2 x3 x4 x5 = some y) (hc : ∀ t : Sto × Int32 × Int32 × Int32 × Int32, y = .inl t → V G X 6 t.1 [(0, .ref (G.1 39)), (1, .int x1), (2, .int t.2.1), (3, .int t.2.2.1), (4, .int t.2.2.2.1), (5, .int t.2.2.2.2)] [] 25) {Ve : Sto × Int32 × Int32 × Int32 × Int32 → Prop} (he : ∀ e, y = .inr e → Ve e) (hx : ∀ (σ : Sto) (x2 : Int32) (x3 : Int32) (x4 : Int32) (x5 : Int32), Ve (σ, x2, x3, x4, x5) → V G X 6 σ [(0, .ref (G.1 39)), (1, .int x1), (2, .int x2), (3, .int x3), (4, .int x4), (5, .int x5)] [] 65) : V G X 6 σ [(0, .ref (G.1 39)), (1, .int x1), (2, .int x2), (3, .int x3), (4, .int x4), (5, .int x5)] [] 25 := by
  unfold f_X8_fits_l25 at h
  refine v_iload 25 C 5 5 dX8_fits_25 rfl ?_
  refine v_bipush 27 C (110 : Int32) dX8_fits_27 (by decide) ?_
  refine v_icmp_gt 29 C 65 dX8_fits_29 (by decide) h (fun h => ?_) (fun h => ?_)
  · exact v_sub [0, 1, 2, 3, 4, 5] rfl (hx _ _ _ _ _ (he _ (Option.some.inj h).symm))
  · refine v_aload_n 32 C 0 0 dX8_fits_32 rfl rfl ?_
    refine v_iload 33 C 5 5 dX8_fits_33 rfl ?_
    refine r_f_X8_isAsTold 35 C (by decide) q_1205 dX8_fits_35 (Nat.le_of_ble_eq_true rfl) h (fun σ7 v8 h => ?_)
    refine v_if_eq 38 C 59 dX8_fits_38 (by decide) h (fun h => ?_) (fun h => ?_)
    · exact v_sub [0, 1, 2, 3, 4, 5] rfl (w_f_X8_fits_j59 C h hc he hx)
    · refine b_iinc 41 C 2 2 (1 : Int32) (lv2 := fun z10 => [(2, .int z10), (0, .ref (G.1 39)), (1, .int x1), (3, .int x3), (4, .int x4), (5, .int x5)]) dX8_fits_41 rfl (by decide) (by decide) (fun _ => rfl) h (fun z10 h => ?_)
      refine v_iload_n 44 C 3 3 dX8_fits_44 rfl rfl ?_
      refine v_if_ge 45 C 53 dX8_fits_45 (by decide) h (fun h => ?_) (fun h => ?_)
      · refine v_iload_n 53 C 3 3 dX8_fits_53 rfl rfl ?_
        exact v_sub [1, 2, 0, 5] rfl (w_f_X8_fits_j54 C h hc he hx)
      · refine v_iload 48 C 5 5 dX8_fits_48 rfl ?_
        refine v_goto 50 C 54 dX8_fits_50 (by decide) ?_
        exact v_sub [1, 2, 0, 5] rfl (w_f_X8_fits_j54 C h hc he hx)
theorem w_f_X8_fits_j84 {G : Wld} {X : Cxt} (C : Cx G X RX8 cX8_fits 6 3) {σ : Sto} {s0 : Int32} {y : Sto × Int32} (h : f_X8_fits_j84 σ s0 = some y) (hK : Rx G X (some .int) (some (.int y.2)) y.1) : V G X 6 σ [(0, .ref (G.1 39))] [.int s0] 84 := by
  unfold f_X8_fits_j84 at h
  cases h
  exact v_iret 84 C hK dX8_fits_84
theorem w_f_X8_fits {G : Wld} {X : Cxt} (C : Cx G X RX8 cX8_fits 6 3) {σ : Sto} {a1 : Int32} {y : Sto × Int32} (h : f_X8_fits σ a1 = some y) (hK : Rx G X (some .int) (some (.int y.2)) y.1) : V G X 6 σ [(0, .ref (G.1 39)), (1, .int a1)] [] 0 := by
  unfold f_X8_fits at h
  refine v_iload_n 0 C 1 1 dX8_fits_0 rfl rfl ?_
  refine v_i2l 1 C dX8_fits_1 ?_
  refine v_lconst 2 C (0 : Int64) dX8_fits_2 (by decide) ?_
  refine v_ldc2_w 3 C dX8_fits_3 q_1107 ?_
  refine r_f_X8_in 6 C (by decide) q_940 dX8_fits_6 (Nat.le_of_ble_eq_true rfl) h (fun σ1 v2 h => ?_)
  refine v_if_ne 9 C 15 dX8_fits_9 (by decide) h (fun h => ?_) (fun h => ?_)
  · refine v_iconst 15 C (0 : Int32) dX8_fits_15 (by decide) ?_
    refine b_istore_n 16 C 2 (lv2 := fun z3 => [(2, .int z3), (0, .ref (G.1 39)), (1, .int a1)]) dX8_fits_16 rfl (by decide) (fun _ => rfl) h (fun z3 h => ?_)
    refine v_iconst 17 C (-1 : Int32) dX8_fits_17 (by decide) ?_
    refine b_istore_n 18 C 3 (lv2 := fun z4 => [(3, .int z4), (2, .int z3), (0, .ref (G.1 39)), (1, .int a1)]) dX8_fits_18 rfl (by decide) (fun _ => rfl) h (fun z4 h => ?_)
    refine v_iconst 19 C (-1 : Int32) dX8_fits_19 (by decide) ?_
    refine b_istore 20 C 4 (lv2 := fun z5 => [(4, .int z5), (3, .int z4), (2, .int z3), (0, .ref (G.1 39)), (1, .int a1)]) dX8_fits_20 (by decide) (fun _ => rfl) h (fun z5 h => ?_)
    refine v_iconst 22 C (1 : Int32) dX8_fits_22 (by decide) ?_
    refine b_istore 23 C 5 (lv2 := fun z6 => [(5, .int z6), (4, .int z5), (3, .int z4), (2, .int z3), (0, .ref (G.1 39)), (1, .int a1)]) dX8_fits_23 (by decide) (fun _ => rfl) h (fun z6 h => ?_)
    refine v_sub [4, 5, 3, 2, 1, 0] rfl ?_
    refine lp_go (Vh := fun t => V G X 6 t.1 [(0, .ref (G.1 39)), (1, .int a1), (2, .int t.2.1), (3, .int t.2.2.1), (4, .int t.2.2.2.1), (5, .int t.2.2.2.2)] [] 25) h ?_
    intro t18 y18 hy18 hc18 he18
    refine w_f_X8_fits_l25 C hy18 hc18 he18 (fun σ13 z14 z15 z16 z17 h => ?_)
    dsimp only at h
    refine v_iload_n 65 C 1 1 dX8_fits_65 rfl rfl ?_
    refine v_if_ne 66 C 73 dX8_fits_66 (by decide) h (fun h => ?_) (fun h => ?_)
    · refine v_iload_n 73 C 1 1 dX8_fits_73 rfl rfl ?_
      refine v_iconst 74 C (1 : Int32) dX8_fits_74 (by decide) ?_
      refine v_icmp_ne 75 C 82 dX8_fits_75 (by decide) h (fun h => ?_) (fun h => ?_)
      · refine v_iload 82 C 4 4 dX8_fits_82 rfl ?_
        exact v_sub [0] rfl (w_f_X8_fits_j84 C h hK)
      · refine v_iload_n 78 C 3 3 dX8_fits_78 rfl rfl ?_
        refine v_goto 79 C 84 dX8_fits_79 (by decide) ?_
        exact v_sub [0] rfl (w_f_X8_fits_j84 C h hK)
    · refine v_iload_n 69 C 2 2 dX8_fits_69 rfl rfl ?_
      refine v_goto 70 C 84 dX8_fits_70 (by decide) ?_
      exact v_sub [0] rfl (w_f_X8_fits_j84 C h hK)
  · refine v_ldc 12 C dX8_fits_12 q_943 ?_
    cases h
    exact v_iret 14 C hK dX8_fits_14
theorem c_f_X8_fits (l : Launch) (G : Wld) (hG : GI G) (σ : Sto) (a1 : Int32) (y : Sto × Int32) (h : f_X8_fits σ a1 = some y) : Ct l G yX8_fits cX8_fits 6 (some .int) 3 [.ref (G.1 39), .int a1] σ (some (.int y.2)) y.1 := by
  refine ct_intro RX8 hG (by decide) rfl (Nat.le_of_ble_eq_true rfl) (fun X hX C hK => ?_)
  subst hX
  exact w_f_X8_fits C h hK
theorem r_f_X8_fits {G : Wld} {X : Cxt} {own : String} {cc : ByteArray} {nL n : Nat} {σ : Sto} {lv : List (Nat × Value)} {st : List Value} {β : Type} {r : β} {F : Sto → Int32 → Option β} {a1 : Int32} {ix : Nat} (pc : Nat) (C : Cx G X own cc nL n) (hn : 3 < n) (h1 : Cond.methodLink own ix yX8_fits ∈ lw_gd) (hd : decode cc pc = .ok (.invokevirtual ix, 3)) (hsum : (st.map fun v => v.category).sum ≤ 8) (h : bd2 (f_X8_fits σ a1) F = some r) (kk : ∀ σ1 v, F σ1 v = some r → V G X nL σ1 lv (.int v :: st) (pc + 3)) : V G X nL σ lv (.int a1 :: .ref (G.1 39) :: st) pc := by
  obtain ⟨z, hz, h⟩ := bd2_some h
  exact v_callV pc C 39 1 [.int a1] st (c_f_X8_fits (xl X) G C.2.2.2.2.2.2.1 _ _ _ hz) hn (by decide) (by decide) (ce_39 G _ _) rfl (by decide +kernel) rfl h1 q_1202 q_1203 q_68 q_1204 rfl hsum hd (kk _ _ h)
-- f_X8_write
def f_X8_write_j16 (σ : Sto) : Option (Sto × Int32) :=
  some (σ, (-1000000001 : Int32))
def f_X8_write (σ : Sto) (a1 : Int32) (a2 : Int32) (a3 : Int32) : Option (Sto × Int32) :=
  bd2 (f_X8_isBell σ a1) fun σ1 v2 => if v2 = 0 then (f_X8_write_j16 σ1) else (bd2 (f_X8_isBeggar σ1 a2) fun σ3 v4 => if v4 = 0 then (f_X8_write_j16 σ3) else (bd2 (f_X8_in σ3 (a3).toInt64 (-999 : Int64) (99999 : Int64)) fun σ5 v6 => if v6 = 0 then (some (σ5, (-1000000002 : Int32))) else (if (σ5.1 39 52) = (30 : Int32) then (some (σ5, (-1000000004 : Int32))) else (gd (inB (σ5.1 39 52) 30) (bs (su σ5 68 ((σ5.1 39 52)).toNatClampNeg a1) fun σ7 => gd (inB (σ7.1 39 52) 30) (bs (su σ7 69 ((σ7.1 39 52)).toNatClampNeg a2) fun σ8 => gd (inB (σ8.1 39 52) 30) (bs (su σ8 70 ((σ8.1 39 52)).toNatClampNeg a3) fun σ9 => bs (su σ9 39 52 ((σ9.1 39 52) + (1 : Int32))) fun σ10 => some (σ10, (σ10.1 39 52)))))))))
theorem w_f_X8_write_j16 {G : Wld} {X : Cxt} (C : Cx G X RX8 cX8_write 4 3) {σ : Sto} {y : Sto × Int32} (h : f_X8_write_j16 σ = some y) (hK : Rx G X (some .int) (some (.int y.2)) y.1) : V G X 4 σ [(0, .ref (G.1 39))] [] 16 := by
  unfold f_X8_write_j16 at h
  refine v_ldc 16 C dX8_write_16 q_1024 ?_
  cases h
  exact v_iret 18 C hK dX8_write_18
theorem w_f_X8_write {G : Wld} {X : Cxt} (C : Cx G X RX8 cX8_write 4 3) {σ : Sto} {a1 : Int32} {a2 : Int32} {a3 : Int32} {y : Sto × Int32} (h : f_X8_write σ a1 a2 a3 = some y) (hK : Rx G X (some .int) (some (.int y.2)) y.1) : V G X 4 σ [(0, .ref (G.1 39)), (1, .int a1), (2, .int a2), (3, .int a3)] [] 0 := by
  unfold f_X8_write at h
  refine v_aload_n 0 C 0 0 dX8_write_0 rfl rfl ?_
  refine v_iload_n 1 C 1 1 dX8_write_1 rfl rfl ?_
  refine r_f_X8_isBell 2 C (by decide) q_1020 dX8_write_2 (Nat.le_of_ble_eq_true rfl) h (fun σ1 v2 h => ?_)
  refine v_if_eq 5 C 16 dX8_write_5 (by decide) h (fun h => ?_) (fun h => ?_)
  · exact v_sub [0] rfl (w_f_X8_write_j16 C h hK)
  · refine v_aload_n 8 C 0 0 dX8_write_8 rfl rfl ?_
    refine v_iload_n 9 C 2 2 dX8_write_9 rfl rfl ?_
    refine r_f_X8_isBeggar 10 C (by decide) q_1046 dX8_write_10 (Nat.le_of_ble_eq_true rfl) h (fun σ3 v4 h => ?_)
    refine v_if_ne 13 C 19 dX8_write_13 (by decide) h (fun h => ?_) (fun h => ?_)
    · refine v_iload_n 19 C 3 3 dX8_write_19 rfl rfl ?_
      refine v_i2l 20 C dX8_write_20 ?_
      refine v_ldc2_w 21 C dX8_write_21 q_1213 ?_
      refine v_ldc2_w 24 C dX8_write_24 q_1025 ?_
      refine r_f_X8_in 27 C (by decide) q_940 dX8_write_27 (Nat.le_of_ble_eq_true rfl) h (fun σ5 v6 h => ?_)
      refine v_if_ne 30 C 36 dX8_write_30 (by decide) h (fun h => ?_) (fun h => ?_)
      · refine v_aload_n 36 C 0 0 dX8_write_36 rfl rfl ?_
        refine g_X8_39_52 37 C dX8_write_37 ?_
        refine v_bipush 40 C (30 : Int32) dX8_write_40 (by decide) ?_
        refine v_icmp_ne 42 C 48 dX8_write_42 (by decide) h (fun h => ?_) (fun h => ?_)
        · refine v_aload_n 48 C 0 0 dX8_write_48 rfl rfl ?_
          refine g_X8_39_53 49 C dX8_write_49 ?_
          refine v_aload_n 52 C 0 0 dX8_write_52 rfl rfl ?_
          refine g_X8_39_52 53 C dX8_write_53 ?_
          refine v_iload_n 56 C 1 1 dX8_write_56 rfl rfl ?_
          refine b_iast 57 C 68 (by decide) (ce_68 G) dX8_write_57 h (fun σ7 h => ?_)
          refine v_aload_n 58 C 0 0 dX8_write_58 rfl rfl ?_
          refine g_X8_39_54 59 C dX8_write_59 ?_
          refine v_aload_n 62 C 0 0 dX8_write_62 rfl rfl ?_
          refine g_X8_39_52 63 C dX8_write_63 ?_
          refine v_iload_n 66 C 2 2 dX8_write_66 rfl rfl ?_
          refine b_iast 67 C 69 (by decide) (ce_69 G) dX8_write_67 h (fun σ8 h => ?_)
          refine v_aload_n 68 C 0 0 dX8_write_68 rfl rfl ?_
          refine g_X8_39_55 69 C dX8_write_69 ?_
          refine v_aload_n 72 C 0 0 dX8_write_72 rfl rfl ?_
          refine g_X8_39_52 73 C dX8_write_73 ?_
          refine v_iload_n 76 C 3 3 dX8_write_76 rfl rfl ?_
          refine b_iast 77 C 70 (by decide) (ce_70 G) dX8_write_77 h (fun σ9 h => ?_)
          refine v_aload_n 78 C 0 0 dX8_write_78 rfl rfl ?_
          refine v_dup 79 C dX8_write_79 rfl ?_
          refine g_X8_39_52 80 C dX8_write_80 ?_
          refine v_iconst 83 C (1 : Int32) dX8_write_83 (by decide) ?_
          refine v_iadd 84 C dX8_write_84 ?_
          refine p_X8_39_52 85 C dX8_write_85 h (fun σ10 h => ?_)
          refine v_aload_n 88 C 0 0 dX8_write_88 rfl rfl ?_
          refine g_X8_39_52 89 C dX8_write_89 ?_
          cases h
          exact v_iret 92 C hK dX8_write_92
        · refine v_ldc 45 C dX8_write_45 q_944 ?_
          cases h
          exact v_iret 47 C hK dX8_write_47
      · refine v_ldc 33 C dX8_write_33 q_943 ?_
        cases h
        exact v_iret 35 C hK dX8_write_35
    · exact v_sub [0] rfl (w_f_X8_write_j16 C h hK)
theorem c_f_X8_write (l : Launch) (G : Wld) (hG : GI G) (σ : Sto) (a1 : Int32) (a2 : Int32) (a3 : Int32) (y : Sto × Int32) (h : f_X8_write σ a1 a2 a3 = some y) : Ct l G yX8_write cX8_write 4 (some .int) 3 [.ref (G.1 39), .int a1, .int a2, .int a3] σ (some (.int y.2)) y.1 := by
  refine ct_intro RX8 hG (by decide) rfl (Nat.le_of_ble_eq_true rfl) (fun X hX C hK => ?_)
  subst hX
  exact w_f_X8_write C h hK
theorem r_f_X8_write {G : Wld} {X : Cxt} {own : String} {cc : ByteArray} {nL n : Nat} {σ : Sto} {lv : List (Nat × Value)} {st : List Value} {β : Type} {r : β} {F : Sto → Int32 → Option β} {a1 : Int32} {a2 : Int32} {a3 : Int32} {ix : Nat} (pc : Nat) (C : Cx G X own cc nL n) (hn : 3 < n) (h1 : Cond.methodLink own ix yX8_write ∈ lw_gd) (hd : decode cc pc = .ok (.invokevirtual ix, 3)) (hsum : (st.map fun v => v.category).sum ≤ 8) (h : bd2 (f_X8_write σ a1 a2 a3) F = some r) (kk : ∀ σ1 v, F σ1 v = some r → V G X nL σ1 lv (.int v :: st) (pc + 3)) : V G X nL σ lv (.int a3 :: .int a2 :: .int a1 :: .ref (G.1 39) :: st) pc := by
  obtain ⟨z, hz, h⟩ := bd2_some h
  exact v_callV pc C 39 3 [.int a1, .int a2, .int a3] st (c_f_X8_write (xl X) G C.2.2.2.2.2.2.1 _ _ _ _ _ hz) hn (by decide) (by decide) (ce_39 G _ _) rfl (by decide +kernel) rfl h1 q_1210 q_1211 q_68 q_1212 rfl hsum hd (kk _ _ h)
