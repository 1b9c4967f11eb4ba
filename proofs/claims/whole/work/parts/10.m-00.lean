-- f_X8_in
def f_X8_in_j18 (σ : Sto) (s0 : Int32) : Option (Sto × Int32) :=
  gd (zB s0) (some (σ, s0))
def f_X8_in_j17 (σ : Sto) : Option (Sto × Int32) :=
  f_X8_in_j18 σ (0 : Int32)
def f_X8_in (σ : Sto) (a0 : Int64) (a1 : Int64) (a2 : Int64) : Option (Sto × Int32) :=
  if (lg_cmp a0 a1) < 0 then (f_X8_in_j17 σ) else (if 0 < (lg_cmp a0 a2) then (f_X8_in_j17 σ) else (f_X8_in_j18 σ (1 : Int32)))
theorem w_f_X8_in_j18 {G : Wld} {X : Cxt} (C : Cx G X RX8 cX8_in 6 1) {σ : Sto} {s0 : Int32} {y : Sto × Int32} (h : f_X8_in_j18 σ s0 = some y) (hK : Rx G X (some .boolean) (some (.int y.2)) y.1) : V G X 6 σ [] [.int s0] 18 := by
  unfold f_X8_in_j18 at h
  obtain ⟨hz, h⟩ := gd_some h
  cases h
  exact v_zret 18 C (zB_nar hz) hK dX8_in_18
theorem w_f_X8_in_j17 {G : Wld} {X : Cxt} (C : Cx G X RX8 cX8_in 6 1) {σ : Sto} {y : Sto × Int32} (h : f_X8_in_j17 σ = some y) (hK : Rx G X (some .boolean) (some (.int y.2)) y.1) : V G X 6 σ [] [] 17 := by
  unfold f_X8_in_j17 at h
  refine v_iconst 17 C (0 : Int32) dX8_in_17 (by decide) ?_
  exact v_sub [] rfl (w_f_X8_in_j18 C h hK)
theorem w_f_X8_in {G : Wld} {X : Cxt} (C : Cx G X RX8 cX8_in 6 1) {σ : Sto} {a0 : Int64} {a1 : Int64} {a2 : Int64} {y : Sto × Int32} (h : f_X8_in σ a0 a1 a2 = some y) (hK : Rx G X (some .boolean) (some (.int y.2)) y.1) : V G X 6 σ [(0, .long a0), (2, .long a1), (4, .long a2)] [] 0 := by
  unfold f_X8_in at h
  refine v_lload_n 0 C 0 0 dX8_in_0 rfl rfl ?_
  refine v_lload_n 1 C 2 1 dX8_in_1 rfl rfl ?_
  refine v_lcmp 2 C dX8_in_2 ?_
  refine v_if_lt 3 C 17 dX8_in_3 (by decide) h (fun h => ?_) (fun h => ?_)
  · exact v_sub [] rfl (w_f_X8_in_j17 C h hK)
  · refine v_lload_n 6 C 0 0 dX8_in_6 rfl rfl ?_
    refine v_lload 7 C 4 2 dX8_in_7 rfl ?_
    refine v_lcmp 9 C dX8_in_9 ?_
    refine v_if_gt 10 C 17 dX8_in_10 (by decide) h (fun h => ?_) (fun h => ?_)
    · exact v_sub [] rfl (w_f_X8_in_j17 C h hK)
    · refine v_iconst 13 C (1 : Int32) dX8_in_13 (by decide) ?_
      refine v_goto 14 C 18 dX8_in_14 (by decide) ?_
      exact v_sub [] rfl (w_f_X8_in_j18 C h hK)
theorem c_f_X8_in (l : Launch) (G : Wld) (hG : GI G) (σ : Sto) (a0 : Int64) (a1 : Int64) (a2 : Int64) (y : Sto × Int32) (h : f_X8_in σ a0 a1 a2 = some y) : Ct l G yX8_in cX8_in 6 (some .boolean) 1 [.long a0, .long a1, .long a2] σ (some (.int y.2)) y.1 := by
  refine ct_intro RX8 hG (by decide) rfl (Nat.le_of_ble_eq_true rfl) (fun X hX C hK => ?_)
  subst hX
  exact w_f_X8_in C h hK
theorem r_f_X8_in {G : Wld} {X : Cxt} {own : String} {cc : ByteArray} {nL n : Nat} {σ : Sto} {lv : List (Nat × Value)} {st : List Value} {β : Type} {r : β} {F : Sto → Int32 → Option β} {a0 : Int64} {a1 : Int64} {a2 : Int64} {ix : Nat} (pc : Nat) (C : Cx G X own cc nL n) (hn : 1 < n) (h1 : Cond.methodLink own ix yX8_in ∈ lw_gd) (hd : decode cc pc = .ok (.invokestatic ix, 3)) (hsum : (st.map fun v => v.category).sum ≤ 8) (h : bd2 (f_X8_in σ a0 a1 a2) F = some r) (kk : ∀ σ1 v, F σ1 v = some r → V G X nL σ1 lv (.int v :: st) (pc + 3)) : V G X nL σ lv (.long a2 :: .long a1 :: .long a0 :: st) pc := by
  obtain ⟨z, hz, h⟩ := bd2_some h
  exact v_callS pc C 3 [.long a0, .long a1, .long a2] st (c_f_X8_in (xl X) G C.2.2.2.2.2.2.1 _ _ _ _ _ hz) hn (by decide) (by decide +kernel) rfl h1 q_941 q_68 q_942 rfl hsum hd (kk _ _ h)
-- f_X8_feed
def f_X8_feed_l35 (x2 : Int64) (σ : Sto) (x4 : Int32) : Option ((Sto × Int32) ⊕ (Sto × Int32)) :=
  if x4 < 0 then (some (.inr (σ, x4))) else (gd (inB (σ.1 39 21) 500) (bs (su σ 51 ((σ.1 39 21)).toNatClampNeg (((x2 >>> ((((8 : Int32) * x4)).toInt64 &&& 63)) &&& (255 : Int64))).toInt32) fun σ4 => bs (su σ4 39 21 ((σ4.1 39 21) + (1 : Int32))) fun σ5 => bs (x4 + (-1 : Int32)) fun z6 => some (.inl (σ5, z6))))
def f_X8_feed (σ : Sto) (a1 : Int32) (a2 : Int64) : Option (Sto × Int32) :=
  bd2 (f_X8_in σ (a1).toInt64 (1 : Int64) (8 : Int64)) fun σ1 v2 => if v2 = 0 then (some (σ1, (-1000000002 : Int32))) else (if ((σ1.1 39 21) + a1) ≤ (500 : Int32) then (bs (a1 - (1 : Int32)) fun z3 => bE1 (lpF (fun t => f_X8_feed_l35 a2 t.1 t.2) FU (σ1, z3)) (fun σ7 z8 => some (σ7, (σ7.1 39 21)))) else (some (σ1, (-1000000004 : Int32))))
theorem w_f_X8_feed_l35 {G : Wld} {X : Cxt} (C : Cx G X RX8 cX8_feed 5 2) {x2 : Int64} {σ : Sto} {x4 : Int32} {y : (Sto × Int32) ⊕ (Sto × Int32)} (h : f_X8_feed_l35 x2 σ x4 = some y) (hc : ∀ t : Sto × Int32, y = .inl t → V G X 5 t.1 [(0, .ref (G.1 39)), (2, .long x2), (4, .int t.2)] [] 35) {Ve : Sto × Int32 → Prop} (he : ∀ e, y = .inr e → Ve e) (hx : ∀ (σ : Sto) (x4 : Int32), Ve (σ, x4) → V G X 5 σ [(0, .ref (G.1 39)), (2, .long x2), (4, .int x4)] [] 77) : V G X 5 σ [(0, .ref (G.1 39)), (2, .long x2), (4, .int x4)] [] 35 := by
  unfold f_X8_feed_l35 at h
  refine v_iload 35 C 4 2 dX8_feed_35 rfl ?_
  refine v_if_lt 37 C 77 dX8_feed_37 (by decide) h (fun h => ?_) (fun h => ?_)
  · exact v_sub [0, 1, 2] rfl (hx _ _ (he _ (Option.some.inj h).symm))
  · refine v_aload_n 40 C 0 0 dX8_feed_40 rfl rfl ?_
    refine g_X8_39_20 41 C dX8_feed_41 ?_
    refine v_aload_n 44 C 0 0 dX8_feed_44 rfl rfl ?_
    refine g_X8_39_21 45 C dX8_feed_45 ?_
    refine v_lload_n 48 C 2 1 dX8_feed_48 rfl rfl ?_
    refine v_bipush 49 C (8 : Int32) dX8_feed_49 (by decide) ?_
    refine v_iload 51 C 4 2 dX8_feed_51 rfl ?_
    refine v_imul 53 C dX8_feed_53 ?_
    refine v_lshr 54 C dX8_feed_54 ?_
    refine v_ldc2_w 55 C dX8_feed_55 q_945 ?_
    refine v_land 58 C dX8_feed_58 ?_
    refine v_l2i 59 C dX8_feed_59 ?_
    refine b_iast 60 C 51 (by decide) (ce_51 G) dX8_feed_60 h (fun σ4 h => ?_)
    refine v_aload_n 61 C 0 0 dX8_feed_61 rfl rfl ?_
    refine v_dup 62 C dX8_feed_62 rfl ?_
    refine g_X8_39_21 63 C dX8_feed_63 ?_
    refine v_iconst 66 C (1 : Int32) dX8_feed_66 (by decide) ?_
    refine v_iadd 67 C dX8_feed_67 ?_
    refine p_X8_39_21 68 C dX8_feed_68 h (fun σ5 h => ?_)
    refine b_iinc 71 C 4 2 (-1 : Int32) (lv2 := fun z6 => [(4, .int z6), (0, .ref (G.1 39)), (2, .long x2)]) dX8_feed_71 rfl (by decide) (by decide) (fun _ => rfl) h (fun z6 h => ?_)
    refine v_goto 74 C 35 dX8_feed_74 (by decide) ?_
    exact v_sub [1, 2, 0] rfl (hc _ (Option.some.inj h).symm)
theorem w_f_X8_feed {G : Wld} {X : Cxt} (C : Cx G X RX8 cX8_feed 5 2) {σ : Sto} {a1 : Int32} {a2 : Int64} {y : Sto × Int32} (h : f_X8_feed σ a1 a2 = some y) (hK : Rx G X (some .int) (some (.int y.2)) y.1) : V G X 5 σ [(0, .ref (G.1 39)), (1, .int a1), (2, .long a2)] [] 0 := by
  unfold f_X8_feed at h
  refine v_iload_n 0 C 1 1 dX8_feed_0 rfl rfl ?_
  refine v_i2l 1 C dX8_feed_1 ?_
  refine v_lconst 2 C (1 : Int64) dX8_feed_2 (by decide) ?_
  refine v_ldc2_w 3 C dX8_feed_3 q_939 ?_
  refine r_f_X8_in 6 C (by decide) q_940 dX8_feed_6 (Nat.le_of_ble_eq_true rfl) h (fun σ1 v2 h => ?_)
  refine v_if_ne 9 C 15 dX8_feed_9 (by decide) h (fun h => ?_) (fun h => ?_)
  · refine v_aload_n 15 C 0 0 dX8_feed_15 rfl rfl ?_
    refine g_X8_39_21 16 C dX8_feed_16 ?_
    refine v_iload_n 19 C 1 1 dX8_feed_19 rfl rfl ?_
    refine v_iadd 20 C dX8_feed_20 ?_
    refine v_sipush 21 C (500 : Int32) dX8_feed_21 (by decide) ?_
    refine v_icmp_le 24 C 30 dX8_feed_24 (by decide) h (fun h => ?_) (fun h => ?_)
    · refine v_iload_n 30 C 1 1 dX8_feed_30 rfl rfl ?_
      refine v_iconst 31 C (1 : Int32) dX8_feed_31 (by decide) ?_
      refine v_isub 32 C dX8_feed_32 ?_
      refine b_istore 33 C 4 (lv2 := fun z3 => [(4, .int z3), (0, .ref (G.1 39)), (1, .int a1), (2, .long a2)]) dX8_feed_33 (by decide) (fun _ => rfl) h (fun z3 h => ?_)
      refine v_sub [1, 3, 0] rfl ?_
      refine lp_go (Vh := fun t => V G X 5 t.1 [(0, .ref (G.1 39)), (2, .long a2), (4, .int t.2)] [] 35) h ?_
      intro t9 y9 hy9 hc9 he9
      refine w_f_X8_feed_l35 C hy9 hc9 he9 (fun σ7 z8 h => ?_)
      dsimp only at h
      refine v_aload_n 77 C 0 0 dX8_feed_77 rfl rfl ?_
      refine g_X8_39_21 78 C dX8_feed_78 ?_
      cases h
      exact v_iret 81 C hK dX8_feed_81
    · refine v_ldc 27 C dX8_feed_27 q_944 ?_
      cases h
      exact v_iret 29 C hK dX8_feed_29
  · refine v_ldc 12 C dX8_feed_12 q_943 ?_
    cases h
    exact v_iret 14 C hK dX8_feed_14
theorem c_f_X8_feed (l : Launch) (G : Wld) (hG : GI G) (σ : Sto) (a1 : Int32) (a2 : Int64) (y : Sto × Int32) (h : f_X8_feed σ a1 a2 = some y) : Ct l G yX8_feed cX8_feed 5 (some .int) 2 [.ref (G.1 39), .int a1, .long a2] σ (some (.int y.2)) y.1 := by
  refine ct_intro RX8 hG (by decide) rfl (Nat.le_of_ble_eq_true rfl) (fun X hX C hK => ?_)
  subst hX
  exact w_f_X8_feed C h hK
theorem r_f_X8_feed {G : Wld} {X : Cxt} {own : String} {cc : ByteArray} {nL n : Nat} {σ : Sto} {lv : List (Nat × Value)} {st : List Value} {β : Type} {r : β} {F : Sto → Int32 → Option β} {a1 : Int32} {a2 : Int64} {ix : Nat} (pc : Nat) (C : Cx G X own cc nL n) (hn : 2 < n) (h1 : Cond.methodLink own ix yX8_feed ∈ lw_gd) (hd : decode cc pc = .ok (.invokevirtual ix, 3)) (hsum : (st.map fun v => v.category).sum ≤ 8) (h : bd2 (f_X8_feed σ a1 a2) F = some r) (kk : ∀ σ1 v, F σ1 v = some r → V G X nL σ1 lv (.int v :: st) (pc + 3)) : V G X nL σ lv (.long a2 :: .int a1 :: .ref (G.1 39) :: st) pc := by
  obtain ⟨z, hz, h⟩ := bd2_some h
  exact v_callV pc C 39 2 [.int a1, .long a2] st (c_f_X8_feed (xl X) G C.2.2.2.2.2.2.1 _ _ _ _ hz) hn (by decide) (by decide) (ce_39 G _ _) rfl (by decide +kernel) rfl h1 q_936 q_937 q_68 q_938 rfl hsum hd (kk _ _ h)
-- f_X8_here
def f_X8_here_l0 (σ : Sto) : Option ((Sto) ⊕ (Sto)) :=
  if (σ.1 39 21) ≤ (σ.1 39 23) then (some (.inr σ)) else (gd (inB (σ.1 39 23) 500) (if (σ.1 51 ((σ.1 39 23)).toNatClampNeg) = (32 : Int32) then (bs (su σ 39 23 ((σ.1 39 23) + (1 : Int32))) fun σ1 => some (.inl σ1)) else (some (.inr σ))))
def f_X8_here_j62 (σ : Sto) (s0 : Int32) : Option (Sto × Int32) :=
  some (σ, s0)
def f_X8_here (σ : Sto) : Option (Sto × Int32) :=
  bE0 (lpF (fun t => f_X8_here_l0 t) FU σ) (fun σ2 => if (σ2.1 39 21) ≤ (σ2.1 39 23) then (f_X8_here_j62 σ2 (-1 : Int32)) else (gd (inB (σ2.1 39 23) 500) (f_X8_here_j62 σ2 (σ2.1 51 ((σ2.1 39 23)).toNatClampNeg))))
theorem w_f_X8_here_l0 {G : Wld} {X : Cxt} (C : Cx G X RX8 cX8_here 1 1) {σ : Sto} {y : (Sto) ⊕ (Sto)} (h : f_X8_here_l0 σ = some y) (hc : ∀ t : Sto, y = .inl t → V G X 1 t [(0, .ref (G.1 39))] [] 0) {Ve : Sto → Prop} (he : ∀ e, y = .inr e → Ve e) (hx : ∀ (σ : Sto), Ve (σ) → V G X 1 σ [(0, .ref (G.1 39))] [] 38) : V G X 1 σ [(0, .ref (G.1 39))] [] 0 := by
  unfold f_X8_here_l0 at h
  refine v_aload_n 0 C 0 0 dX8_here_0 rfl rfl ?_
  refine g_X8_39_23 1 C dX8_here_1 ?_
  refine v_aload_n 4 C 0 0 dX8_here_4 rfl rfl ?_
  refine g_X8_39_21 5 C dX8_here_5 ?_
  refine v_icmp_ge 8 C 38 dX8_here_8 (by decide) h (fun h => ?_) (fun h => ?_)
  · exact v_sub [0] rfl (hx _ (he _ (Option.some.inj h).symm))
  · refine v_aload_n 11 C 0 0 dX8_here_11 rfl rfl ?_
    refine g_X8_39_20 12 C dX8_here_12 ?_
    refine v_aload_n 15 C 0 0 dX8_here_15 rfl rfl ?_
    refine g_X8_39_23 16 C dX8_here_16 ?_
    refine v_iald 19 C 51 (by decide) (ce_51 G) dX8_here_19 h (fun h => ?_)
    refine v_bipush 20 C (32 : Int32) dX8_here_20 (by decide) ?_
    refine v_icmp_ne 22 C 38 dX8_here_22 (by decide) h (fun h => ?_) (fun h => ?_)
    · exact v_sub [0] rfl (hx _ (he _ (Option.some.inj h).symm))
    · refine v_aload_n 25 C 0 0 dX8_here_25 rfl rfl ?_
      refine v_dup 26 C dX8_here_26 rfl ?_
      refine g_X8_39_23 27 C dX8_here_27 ?_
      refine v_iconst 30 C (1 : Int32) dX8_here_30 (by decide) ?_
      refine v_iadd 31 C dX8_here_31 ?_
      refine p_X8_39_23 32 C dX8_here_32 h (fun σ1 h => ?_)
      refine v_goto 35 C 0 dX8_here_35 (by decide) ?_
      exact v_sub [0] rfl (hc _ (Option.some.inj h).symm)
theorem w_f_X8_here_j62 {G : Wld} {X : Cxt} (C : Cx G X RX8 cX8_here 1 1) {σ : Sto} {s0 : Int32} {y : Sto × Int32} (h : f_X8_here_j62 σ s0 = some y) (hK : Rx G X (some .int) (some (.int y.2)) y.1) : V G X 1 σ [(0, .ref (G.1 39))] [.int s0] 62 := by
  unfold f_X8_here_j62 at h
  cases h
  exact v_iret 62 C hK dX8_here_62
theorem w_f_X8_here {G : Wld} {X : Cxt} (C : Cx G X RX8 cX8_here 1 1) {σ : Sto} {y : Sto × Int32} (h : f_X8_here σ = some y) (hK : Rx G X (some .int) (some (.int y.2)) y.1) : V G X 1 σ [(0, .ref (G.1 39))] [] 0 := by
  unfold f_X8_here at h
  refine v_sub [0] rfl ?_
  refine lp_go (Vh := fun t => V G X 1 t [(0, .ref (G.1 39))] [] 0) h ?_
  intro t3 y3 hy3 hc3 he3
  refine w_f_X8_here_l0 C hy3 hc3 he3 (fun σ2 h => ?_)
  dsimp only at h
  refine v_aload_n 38 C 0 0 dX8_here_38 rfl rfl ?_
  refine g_X8_39_23 39 C dX8_here_39 ?_
  refine v_aload_n 42 C 0 0 dX8_here_42 rfl rfl ?_
  refine g_X8_39_21 43 C dX8_here_43 ?_
  refine v_icmp_ge 46 C 61 dX8_here_46 (by decide) h (fun h => ?_) (fun h => ?_)
  · refine v_iconst 61 C (-1 : Int32) dX8_here_61 (by decide) ?_
    exact v_sub [0] rfl (w_f_X8_here_j62 C h hK)
  · refine v_aload_n 49 C 0 0 dX8_here_49 rfl rfl ?_
    refine g_X8_39_20 50 C dX8_here_50 ?_
    refine v_aload_n 53 C 0 0 dX8_here_53 rfl rfl ?_
    refine g_X8_39_23 54 C dX8_here_54 ?_
    refine v_iald 57 C 51 (by decide) (ce_51 G) dX8_here_57 h (fun h => ?_)
    refine v_goto 58 C 62 dX8_here_58 (by decide) ?_
    exact v_sub [0] rfl (w_f_X8_here_j62 C h hK)
theorem c_f_X8_here (l : Launch) (G : Wld) (hG : GI G) (σ : Sto) (y : Sto × Int32) (h : f_X8_here σ = some y) : Ct l G yX8_here cX8_here 1 (some .int) 1 [.ref (G.1 39)] σ (some (.int y.2)) y.1 := by
  refine ct_intro RX8 hG (by decide) rfl (Nat.le_of_ble_eq_true rfl) (fun X hX C hK => ?_)
  subst hX
  exact w_f_X8_here C h hK
theorem r_f_X8_here {G : Wld} {X : Cxt} {own : String} {cc : ByteArray} {nL n : Nat} {σ : Sto} {lv : List (Nat × Value)} {st : List Value} {β : Type} {r : β} {F : Sto → Int32 → Option β} {ix : Nat} (pc : Nat) (C : Cx G X own cc nL n) (hn : 1 < n) (h1 : Cond.methodLink own ix yX8_here ∈ lw_gd) (hd : decode cc pc = .ok (.invokevirtual ix, 3)) (hsum : (st.map fun v => v.category).sum ≤ 8) (h : bd2 (f_X8_here σ) F = some r) (kk : ∀ σ1 v, F σ1 v = some r → V G X nL σ1 lv (.int v :: st) (pc + 3)) : V G X nL σ lv (.ref (G.1 39) :: st) pc := by
  obtain ⟨z, hz, h⟩ := bd2_some h
  exact v_callV pc C 39 0 [] st (c_f_X8_here (xl X) G C.2.2.2.2.2.2.1 _ _ hz) hn (by decide) (by decide) (ce_39 G _ _) rfl (by decide +kernel) rfl h1 q_952 q_22 q_68 q_953 rfl hsum hd (kk _ _ h)
-- f_X8_readWord
def f_X8_readWord_j92 (σ : Sto) (s0 : Int64) : Option ((Sto) ⊕ (Sto)) :=
  bs (sl σ 39 s0) fun σ8 => bs (su σ8 39 25 ((σ8.1 39 25) + (1 : Int32))) fun σ9 => some (.inl σ9)
def f_X8_readWord_l18 (σ : Sto) : Option ((Sto) ⊕ (Sto)) :=
  if (σ.1 39 21) ≤ (σ.1 39 25) then (some (.inr σ)) else (gd (inB (σ.1 39 25) 500) (bd2 (f_X8_in σ ((σ.1 51 ((σ.1 39 25)).toNatClampNeg)).toInt64 (97 : Int64) (122 : Int64)) fun σ6 v7 => if v7 = 0 then (some (.inr σ6)) else (if (lg_cmp (σ6.2 39) (100000000000000 : Int64)) ≤ 0 then (gd (inB (σ6.1 39 25) 500) (f_X8_readWord_j92 σ6 ((((27 : Int64) * (σ6.2 39)) + ((σ6.1 51 ((σ6.1 39 25)).toNatClampNeg)).toInt64) - (96 : Int64)))) else (f_X8_readWord_j92 σ6 (200000000000000 : Int64)))))
def f_X8_readWord (σ : Sto) : Option (Sto) :=
  bd2 (f_X8_here σ) fun σ1 v2 => bs v2 fun z3 => bs (sl σ1 39 (0 : Int64)) fun σ4 => bs (su σ4 39 25 (σ4.1 39 23)) fun σ5 => bE0 (lpF (fun t => f_X8_readWord_l18 t) FU σ5) (fun σ10 => some σ10)
theorem w_f_X8_readWord_j92 {G : Wld} {X : Cxt} (C : Cx G X RX8 cX8_readWord 2 2) {σ : Sto} {s0 : Int64} {y : (Sto) ⊕ (Sto)} (h : f_X8_readWord_j92 σ s0 = some y) (hc : ∀ t : Sto, y = .inl t → V G X 2 t [(0, .ref (G.1 39))] [] 18) {Ve : Sto → Prop} (he : ∀ e, y = .inr e → Ve e) (hx : ∀ (σ : Sto), Ve (σ) → V G X 2 σ [(0, .ref (G.1 39))] [] 108) : V G X 2 σ [(0, .ref (G.1 39))] [.long s0, .ref (G.1 39)] 92 := by
  unfold f_X8_readWord_j92 at h
  refine p_X8_39_24 92 C dX8_readWord_92 h (fun σ8 h => ?_)
  refine v_aload_n 95 C 0 0 dX8_readWord_95 rfl rfl ?_
  refine v_dup 96 C dX8_readWord_96 rfl ?_
  refine g_X8_39_25 97 C dX8_readWord_97 ?_
  refine v_iconst 100 C (1 : Int32) dX8_readWord_100 (by decide) ?_
  refine v_iadd 101 C dX8_readWord_101 ?_
  refine p_X8_39_25 102 C dX8_readWord_102 h (fun σ9 h => ?_)
  refine v_goto 105 C 18 dX8_readWord_105 (by decide) ?_
  exact v_sub [0] rfl (hc _ (Option.some.inj h).symm)
theorem w_f_X8_readWord_l18 {G : Wld} {X : Cxt} (C : Cx G X RX8 cX8_readWord 2 2) {σ : Sto} {y : (Sto) ⊕ (Sto)} (h : f_X8_readWord_l18 σ = some y) (hc : ∀ t : Sto, y = .inl t → V G X 2 t [(0, .ref (G.1 39))] [] 18) {Ve : Sto → Prop} (he : ∀ e, y = .inr e → Ve e) (hx : ∀ (σ : Sto), Ve (σ) → V G X 2 σ [(0, .ref (G.1 39))] [] 108) : V G X 2 σ [(0, .ref (G.1 39))] [] 18 := by
  unfold f_X8_readWord_l18 at h
  refine v_aload_n 18 C 0 0 dX8_readWord_18 rfl rfl ?_
  refine g_X8_39_25 19 C dX8_readWord_19 ?_
  refine v_aload_n 22 C 0 0 dX8_readWord_22 rfl rfl ?_
  refine g_X8_39_21 23 C dX8_readWord_23 ?_
  refine v_icmp_ge 26 C 108 dX8_readWord_26 (by decide) h (fun h => ?_) (fun h => ?_)
  · exact v_sub [0] rfl (hx _ (he _ (Option.some.inj h).symm))
  · refine v_aload_n 29 C 0 0 dX8_readWord_29 rfl rfl ?_
    refine g_X8_39_20 30 C dX8_readWord_30 ?_
    refine v_aload_n 33 C 0 0 dX8_readWord_33 rfl rfl ?_
    refine g_X8_39_25 34 C dX8_readWord_34 ?_
    refine v_iald 37 C 51 (by decide) (ce_51 G) dX8_readWord_37 h (fun h => ?_)
    refine v_i2l 38 C dX8_readWord_38 ?_
    refine v_ldc2_w 39 C dX8_readWord_39 q_962 ?_
    refine v_ldc2_w 42 C dX8_readWord_42 q_963 ?_
    refine r_f_X8_in 45 C (by decide) q_940 dX8_readWord_45 (Nat.le_of_ble_eq_true rfl) h (fun σ6 v7 h => ?_)
    refine v_if_eq 48 C 108 dX8_readWord_48 (by decide) h (fun h => ?_) (fun h => ?_)
    · exact v_sub [0] rfl (hx _ (he _ (Option.some.inj h).symm))
    · refine v_aload_n 51 C 0 0 dX8_readWord_51 rfl rfl ?_
      refine v_aload_n 52 C 0 0 dX8_readWord_52 rfl rfl ?_
      refine g_X8_39_24 53 C dX8_readWord_53 ?_
      refine v_ldc2_w 56 C dX8_readWord_56 q_964 ?_
      refine v_lcmp 59 C dX8_readWord_59 ?_
      refine v_if_le 60 C 69 dX8_readWord_60 (by decide) h (fun h => ?_) (fun h => ?_)
      · refine v_ldc2_w 69 C dX8_readWord_69 q_966 ?_
        refine v_aload_n 72 C 0 0 dX8_readWord_72 rfl rfl ?_
        refine g_X8_39_24 73 C dX8_readWord_73 ?_
        refine v_lmul 76 C dX8_readWord_76 ?_
        refine v_aload_n 77 C 0 0 dX8_readWord_77 rfl rfl ?_
        refine g_X8_39_20 78 C dX8_readWord_78 ?_
        refine v_aload_n 81 C 0 0 dX8_readWord_81 rfl rfl ?_
        refine g_X8_39_25 82 C dX8_readWord_82 ?_
        refine v_iald 85 C 51 (by decide) (ce_51 G) dX8_readWord_85 h (fun h => ?_)
        refine v_i2l 86 C dX8_readWord_86 ?_
        refine v_ladd 87 C dX8_readWord_87 ?_
        refine v_ldc2_w 88 C dX8_readWord_88 q_967 ?_
        refine v_lsub 91 C dX8_readWord_91 ?_
        exact v_sub [0] rfl (w_f_X8_readWord_j92 C h hc he hx)
      · refine v_ldc2_w 63 C dX8_readWord_63 q_965 ?_
        refine v_goto 66 C 92 dX8_readWord_66 (by decide) ?_
        exact v_sub [0] rfl (w_f_X8_readWord_j92 C h hc he hx)
theorem w_f_X8_readWord {G : Wld} {X : Cxt} (C : Cx G X RX8 cX8_readWord 2 2) {σ : Sto} {y : Sto} (h : f_X8_readWord σ = some y) (hK : Rx G X none none y) : V G X 2 σ [(0, .ref (G.1 39))] [] 0 := by
  unfold f_X8_readWord at h
  refine v_aload_n 0 C 0 0 dX8_readWord_0 rfl rfl ?_
  refine r_f_X8_here 1 C (by decide) q_950 dX8_readWord_1 (Nat.le_of_ble_eq_true rfl) h (fun σ1 v2 h => ?_)
  refine b_istore_n 4 C 1 (lv2 := fun z3 => [(1, .int z3), (0, .ref (G.1 39))]) dX8_readWord_4 rfl (by decide) (fun _ => rfl) h (fun z3 h => ?_)
  refine v_aload_n 5 C 0 1 dX8_readWord_5 rfl rfl ?_
  refine v_lconst 6 C (0 : Int64) dX8_readWord_6 (by decide) ?_
  refine p_X8_39_24 7 C dX8_readWord_7 h (fun σ4 h => ?_)
  refine v_aload_n 10 C 0 1 dX8_readWord_10 rfl rfl ?_
  refine v_aload_n 11 C 0 1 dX8_readWord_11 rfl rfl ?_
  refine g_X8_39_23 12 C dX8_readWord_12 ?_
  refine p_X8_39_25 15 C dX8_readWord_15 h (fun σ5 h => ?_)
  refine v_sub [1] rfl ?_
  refine lp_go (Vh := fun t => V G X 2 t [(0, .ref (G.1 39))] [] 18) h ?_
  intro t11 y11 hy11 hc11 he11
  refine w_f_X8_readWord_l18 C hy11 hc11 he11 (fun σ10 h => ?_)
  dsimp only at h
  cases h
  exact v_vret 108 C hK dX8_readWord_108
theorem c_f_X8_readWord (l : Launch) (G : Wld) (hG : GI G) (σ : Sto) (y : Sto) (h : f_X8_readWord σ = some y) : Ct l G yX8_readWord cX8_readWord 2 none 2 [.ref (G.1 39)] σ none y := by
  refine ct_intro RX8 hG (by decide) rfl (Nat.le_of_ble_eq_true rfl) (fun X hX C hK => ?_)
  subst hX
  exact w_f_X8_readWord C h hK
theorem r_f_X8_readWord {G : Wld} {X : Cxt} {own : String} {cc : ByteArray} {nL n : Nat} {σ : Sto} {lv : List (Nat × Value)} {st : List Value} {β : Type} {r : β} {F : Sto → Option β} {ix : Nat} (pc : Nat) (C : Cx G X own cc nL n) (hn : 2 < n) (h1 : Cond.methodLink own ix yX8_readWord ∈ lw_gd) (hd : decode cc pc = .ok (.invokevirtual ix, 3)) (hsum : (st.map fun v => v.category).sum ≤ 8) (h : bd1 (f_X8_readWord σ) F = some r) (kk : ∀ σ1, F σ1 = some r → V G X nL σ1 lv (st) (pc + 3)) : V G X nL σ lv (.ref (G.1 39) :: st) pc := by
  obtain ⟨z, hz, h⟩ := bd1_some h
  exact v_callV pc C 39 0 [] st (c_f_X8_readWord (xl X) G C.2.2.2.2.2.2.1 _ _ hz) hn (by decide) (by decide) (ce_39 G _ _) rfl (by decide +kernel) rfl h1 q_960 q_24 q_68 q_961 rfl hsum hd (kk _ h)
-- f_X8_code
def f_X8_code (σ : Sto) (a0 : Int32) (a1 : Int32) (a2 : Int32) : Option (Sto × Int64) :=
  some (σ, ((((27 : Int64) * ((((27 : Int64) * ((a0).toInt64 - (96 : Int64))) + (a1).toInt64) - (96 : Int64))) + (a2).toInt64) - (96 : Int64)))
theorem w_f_X8_code {G : Wld} {X : Cxt} (C : Cx G X RX8 cX8_code 3 1) {σ : Sto} {a0 : Int32} {a1 : Int32} {a2 : Int32} {y : Sto × Int64} (h : f_X8_code σ a0 a1 a2 = some y) (hK : Rx G X (some .long) (some (.long y.2)) y.1) : V G X 3 σ [(0, .int a0), (1, .int a1), (2, .int a2)] [] 0 := by
  unfold f_X8_code at h
  refine v_ldc2_w 0 C dX8_code_0 q_966 ?_
  refine v_ldc2_w 3 C dX8_code_3 q_966 ?_
  refine v_iload_n 6 C 0 0 dX8_code_6 rfl rfl ?_
  refine v_i2l 7 C dX8_code_7 ?_
  refine v_ldc2_w 8 C dX8_code_8 q_967 ?_
  refine v_lsub 11 C dX8_code_11 ?_
  refine v_lmul 12 C dX8_code_12 ?_
  refine v_iload_n 13 C 1 1 dX8_code_13 rfl rfl ?_
  refine v_i2l 14 C dX8_code_14 ?_
  refine v_ladd 15 C dX8_code_15 ?_
  refine v_ldc2_w 16 C dX8_code_16 q_967 ?_
  refine v_lsub 19 C dX8_code_19 ?_
  refine v_lmul 20 C dX8_code_20 ?_
  refine v_iload_n 21 C 2 2 dX8_code_21 rfl rfl ?_
  refine v_i2l 22 C dX8_code_22 ?_
  refine v_ladd 23 C dX8_code_23 ?_
  refine v_ldc2_w 24 C dX8_code_24 q_967 ?_
  refine v_lsub 27 C dX8_code_27 ?_
  cases h
  exact v_lret 28 C hK dX8_code_28
theorem c_f_X8_code (l : Launch) (G : Wld) (hG : GI G) (σ : Sto) (a0 : Int32) (a1 : Int32) (a2 : Int32) (y : Sto × Int64) (h : f_X8_code σ a0 a1 a2 = some y) : Ct l G yX8_code cX8_code 3 (some .long) 1 [.int a0, .int a1, .int a2] σ (some (.long y.2)) y.1 := by
  refine ct_intro RX8 hG (by decide) rfl (Nat.le_of_ble_eq_true rfl) (fun X hX C hK => ?_)
  subst hX
  exact w_f_X8_code C h hK
theorem r_f_X8_code {G : Wld} {X : Cxt} {own : String} {cc : ByteArray} {nL n : Nat} {σ : Sto} {lv : List (Nat × Value)} {st : List Value} {β : Type} {r : β} {F : Sto → Int64 → Option β} {a0 : Int32} {a1 : Int32} {a2 : Int32} {ix : Nat} (pc : Nat) (C : Cx G X own cc nL n) (hn : 1 < n) (h1 : Cond.methodLink own ix yX8_code ∈ lw_gd) (hd : decode cc pc = .ok (.invokestatic ix, 3)) (hsum : (st.map fun v => v.category).sum ≤ 8) (h : bd2 (f_X8_code σ a0 a1 a2) F = some r) (kk : ∀ σ1 v, F σ1 v = some r → V G X nL σ1 lv (.long v :: st) (pc + 3)) : V G X nL σ lv (.int a2 :: .int a1 :: .int a0 :: st) pc := by
  obtain ⟨z, hz, h⟩ := bd2_some h
  exact v_callS pc C 3 [.int a0, .int a1, .int a2] st (c_f_X8_code (xl X) G C.2.2.2.2.2.2.1 _ _ _ _ _ hz) hn (by decide) (by decide +kernel) rfl h1 q_969 q_68 q_970 rfl hsum hd (kk _ _ h)
-- f_X8_more
def f_X8_more (σ : Sto) (a0 : Int64) (a1 : Int32) : Option (Sto × Int64) :=
  some (σ, ((((27 : Int64) * a0) + (a1).toInt64) - (96 : Int64)))
theorem w_f_X8_more {G : Wld} {X : Cxt} (C : Cx G X RX8 cX8_more 3 1) {σ : Sto} {a0 : Int64} {a1 : Int32} {y : Sto × Int64} (h : f_X8_more σ a0 a1 = some y) (hK : Rx G X (some .long) (some (.long y.2)) y.1) : V G X 3 σ [(0, .long a0), (2, .int a1)] [] 0 := by
  unfold f_X8_more at h
  refine v_ldc2_w 0 C dX8_more_0 q_966 ?_
  refine v_lload_n 3 C 0 0 dX8_more_3 rfl rfl ?_
  refine v_lmul 4 C dX8_more_4 ?_
  refine v_iload_n 5 C 2 1 dX8_more_5 rfl rfl ?_
  refine v_i2l 6 C dX8_more_6 ?_
  refine v_ladd 7 C dX8_more_7 ?_
  refine v_ldc2_w 8 C dX8_more_8 q_967 ?_
  refine v_lsub 11 C dX8_more_11 ?_
  cases h
  exact v_lret 12 C hK dX8_more_12
theorem c_f_X8_more (l : Launch) (G : Wld) (hG : GI G) (σ : Sto) (a0 : Int64) (a1 : Int32) (y : Sto × Int64) (h : f_X8_more σ a0 a1 = some y) : Ct l G yX8_more cX8_more 3 (some .long) 1 [.long a0, .int a1] σ (some (.long y.2)) y.1 := by
  refine ct_intro RX8 hG (by decide) rfl (Nat.le_of_ble_eq_true rfl) (fun X hX C hK => ?_)
  subst hX
  exact w_f_X8_more C h hK
theorem r_f_X8_more {G : Wld} {X : Cxt} {own : String} {cc : ByteArray} {nL n : Nat} {σ : Sto} {lv : List (Nat × Value)} {st : List Value} {β : Type} {r : β} {F : Sto → Int64 → Option β} {a0 : Int64} {a1 : Int32} {ix : Nat} (pc : Nat) (C : Cx G X own cc nL n) (hn : 1 < n) (h1 : Cond.methodLink own ix yX8_more ∈ lw_gd) (hd : decode cc pc = .ok (.invokestatic ix, 3)) (hsum : (st.map fun v => v.category).sum ≤ 8) (h : bd2 (f_X8_more σ a0 a1) F = some r) (kk : ∀ σ1 v, F σ1 v = some r → V G X nL σ1 lv (.long v :: st) (pc + 3)) : V G X nL σ lv (.int a1 :: .long a0 :: st) pc := by
  obtain ⟨z, hz, h⟩ := bd2_some h
  exact v_callS pc C 2 [.long a0, .int a1] st (c_f_X8_more (xl X) G C.2.2.2.2.2.2.1 _ _ _ _ hz) hn (by decide) (by decide +kernel) rfl h1 q_972 q_68 q_973 rfl hsum hd (kk _ _ h)
-- f_X8_fails
def f_X8_fails (σ : Sto) (a1 : Int32) (a2 : Int32) : Option (Sto × Int32) :=
  bs (su σ 39 22 a2) fun σ1 => some (σ1, a1)
theorem w_f_X8_fails {G : Wld} {X : Cxt} (C : Cx G X RX8 cX8_fails 3 1) {σ : Sto} {a1 : Int32} {a2 : Int32} {y : Sto × Int32} (h : f_X8_fails σ a1 a2 = some y) (hK : Rx G X (some .int) (some (.int y.2)) y.1) : V G X 3 σ [(0, .ref (G.1 39)), (1, .int a1), (2, .int a2)] [] 0 := by
  unfold f_X8_fails at h
  refine v_aload_n 0 C 0 0 dX8_fails_0 rfl rfl ?_
  refine v_iload_n 1 C 2 2 dX8_fails_1 rfl rfl ?_
  refine p_X8_39_22 2 C dX8_fails_2 h (fun σ1 h => ?_)
  refine v_iload_n 5 C 1 1 dX8_fails_5 rfl rfl ?_
  cases h
  exact v_iret 6 C hK dX8_fails_6
theorem c_f_X8_fails (l : Launch) (G : Wld) (hG : GI G) (σ : Sto) (a1 : Int32) (a2 : Int32) (y : Sto × Int32) (h : f_X8_fails σ a1 a2 = some y) : Ct l G yX8_fails cX8_fails 3 (some .int) 1 [.ref (G.1 39), .int a1, .int a2] σ (some (.int y.2)) y.1 := by
  refine ct_intro RX8 hG (by decide) rfl (Nat.le_of_ble_eq_true rfl) (fun X hX C hK => ?_)
  subst hX
  exact w_f_X8_fails C h hK
theorem r_f_X8_fails {G : Wld} {X : Cxt} {own : String} {cc : ByteArray} {nL n : Nat} {σ : Sto} {lv : List (Nat × Value)} {st : List Value} {β : Type} {r : β} {F : Sto → Int32 → Option β} {a1 : Int32} {a2 : Int32} {ix : Nat} (pc : Nat) (C : Cx G X own cc nL n) (hn : 1 < n) (h1 : Cond.methodLink own ix yX8_fails ∈ lw_gd) (hd : decode cc pc = .ok (.invokevirtual ix, 3)) (hsum : (st.map fun v => v.category).sum ≤ 8) (h : bd2 (f_X8_fails σ a1 a2) F = some r) (kk : ∀ σ1 v, F σ1 v = some r → V G X nL σ1 lv (.int v :: st) (pc + 3)) : V G X nL σ lv (.int a2 :: .int a1 :: .ref (G.1 39) :: st) pc := by
  obtain ⟨z, hz, h⟩ := bd2_some h
  exact v_callV pc C 39 2 [.int a1, .int a2] st (c_f_X8_fails (xl X) G C.2.2.2.2.2.2.1 _ _ _ _ hz) hn (by decide) (by decide) (ce_39 G _ _) rfl (by decide +kernel) rfl h1 q_976 q_25 q_68 q_977 rfl hsum hd (kk _ _ h)
-- f_X8_takeNumber
def f_X8_takeNumber_j113 (σ : Sto) (x1 : Int32) (x2 : Int32) (s0 : Int32) : Option ((Sto) ⊕ (Sto)) :=
  bs (su σ 39 26 s0) fun σ10 => bs (su σ10 39 23 ((σ10.1 39 23) + (1 : Int32))) fun σ11 => some (.inl σ11)
def f_X8_takeNumber_l42 (x1 : Int32) (x2 : Int32) (σ : Sto) : Option ((Sto) ⊕ (Sto)) :=
  if (σ.1 39 21) ≤ (σ.1 39 23) then (some (.inr σ)) else (gd (inB (σ.1 39 23) 500) (bd2 (f_X8_in σ ((σ.1 51 ((σ.1 39 23)).toNatClampNeg)).toInt64 (48 : Int64) (57 : Int64)) fun σ8 v9 => if v9 = 0 then (some (.inr σ8)) else (if (σ8.1 39 26) ≤ (10000 : Int32) then (gd (inB (σ8.1 39 23) 500) (f_X8_takeNumber_j113 σ8 x1 x2 ((((10 : Int32) * (σ8.1 39 26)) + (σ8.1 51 ((σ8.1 39 23)).toNatClampNeg)) - (48 : Int32)))) else (f_X8_takeNumber_j113 σ8 x1 x2 (σ8.1 39 26)))))
def f_X8_takeNumber_j170 (σ : Sto) (s0 : Int32) : Option (Sto × Int32) :=
  some (σ, s0)
def f_X8_takeNumber_j157 (σ : Sto) : Option (Sto × Int32) :=
  bd2 (f_X8_fails σ (2 : Int32) (σ.1 39 27)) fun σ14 v15 => f_X8_takeNumber_j170 σ14 v15
def f_X8_takeNumber (σ : Sto) (a1 : Int32) (a2 : Int32) : Option (Sto × Int32) :=
  bd2 (f_X8_here σ) fun σ1 v2 => bs v2 fun z3 => bd2 (f_X8_in σ1 (z3).toInt64 (48 : Int64) (57 : Int64)) fun σ4 v5 => if v5 = 0 then (bd2 (f_X8_fails σ4 (1 : Int32) (σ4.1 39 23)) fun σ18 v19 => some (σ18, v19)) else (bs (su σ4 39 27 (σ4.1 39 23)) fun σ6 => bs (su σ6 39 26 (0 : Int32)) fun σ7 => bE0 (lpF (fun t => f_X8_takeNumber_l42 a1 a2 t) FU σ7) (fun σ12 => if (3 : Int32) < ((σ12.1 39 23) - (σ12.1 39 27)) then (f_X8_takeNumber_j157 σ12) else (bd2 (f_X8_in σ12 ((σ12.1 39 26)).toInt64 (a1).toInt64 (a2).toInt64) fun σ16 v17 => if v17 = 0 then (f_X8_takeNumber_j157 σ16) else (f_X8_takeNumber_j170 σ16 (0 : Int32)))))
theorem w_f_X8_takeNumber_j113 {G : Wld} {X : Cxt} (C : Cx G X RX8 cX8_takeNumber 4 2) {σ : Sto} {x1 : Int32} {x2 : Int32} {s0 : Int32} {y : (Sto) ⊕ (Sto)} (h : f_X8_takeNumber_j113 σ x1 x2 s0 = some y) (hc : ∀ t : Sto, y = .inl t → V G X 4 t [(0, .ref (G.1 39)), (1, .int x1), (2, .int x2)] [] 42) {Ve : Sto → Prop} (he : ∀ e, y = .inr e → Ve e) (hx : ∀ (σ : Sto), Ve (σ) → V G X 4 σ [(0, .ref (G.1 39)), (1, .int x1), (2, .int x2)] [] 129) : V G X 4 σ [(0, .ref (G.1 39)), (1, .int x1), (2, .int x2)] [.int s0, .ref (G.1 39)] 113 := by
  unfold f_X8_takeNumber_j113 at h
  refine p_X8_39_26 113 C dX8_takeNumber_113 h (fun σ10 h => ?_)
  refine v_aload_n 116 C 0 0 dX8_takeNumber_116 rfl rfl ?_
  refine v_dup 117 C dX8_takeNumber_117 rfl ?_
  refine g_X8_39_23 118 C dX8_takeNumber_118 ?_
  refine v_iconst 121 C (1 : Int32) dX8_takeNumber_121 (by decide) ?_
  refine v_iadd 122 C dX8_takeNumber_122 ?_
  refine p_X8_39_23 123 C dX8_takeNumber_123 h (fun σ11 h => ?_)
  refine v_goto 126 C 42 dX8_takeNumber_126 (by decide) ?_
  exact v_sub [0, 1, 2] rfl (hc _ (Option.some.inj h).symm)
theorem w_f_X8_takeNumber_l42 {G : Wld} {X : Cxt} (C : Cx G X RX8 cX8_takeNumber 4 2) {x1 : Int32} {x2 : Int32} {σ : Sto} {y : (Sto) ⊕ (Sto)} (h : f_X8_takeNumber_l42 x1 x2 σ = some y) (hc : ∀ t : Sto, y = .inl t → V G X 4 t [(0, .ref (G.1 39)), (1, .int x1), (2, .int x2)] [] 42) {Ve : Sto → Prop} (he : ∀ e, y = .inr e → Ve e) (hx : ∀ (σ : Sto), Ve (σ) → V G X 4 σ [(0, .ref (G.1 39)), (1, .int x1), (2, .int x2)] [] 129) : V G X 4 σ [(0, .ref (G.1 39)), (1, .int x1), (2, .int x2)] [] 42 := by
  unfold f_X8_takeNumber_l42 at h
  refine v_aload_n 42 C 0 0 dX8_takeNumber_42 rfl rfl ?_
  refine g_X8_39_23 43 C dX8_takeNumber_43 ?_
  refine v_aload_n 46 C 0 0 dX8_takeNumber_46 rfl rfl ?_
  refine g_X8_39_21 47 C dX8_takeNumber_47 ?_
  refine v_icmp_ge 50 C 129 dX8_takeNumber_50 (by decide) h (fun h => ?_) (fun h => ?_)
  · exact v_sub [0, 1, 2] rfl (hx _ (he _ (Option.some.inj h).symm))
  · refine v_aload_n 53 C 0 0 dX8_takeNumber_53 rfl rfl ?_
    refine g_X8_39_20 54 C dX8_takeNumber_54 ?_
    refine v_aload_n 57 C 0 0 dX8_takeNumber_57 rfl rfl ?_
    refine g_X8_39_23 58 C dX8_takeNumber_58 ?_
    refine v_iald 61 C 51 (by decide) (ce_51 G) dX8_takeNumber_61 h (fun h => ?_)
    refine v_i2l 62 C dX8_takeNumber_62 ?_
    refine v_ldc2_w 63 C dX8_takeNumber_63 q_986 ?_
    refine v_ldc2_w 66 C dX8_takeNumber_66 q_987 ?_
    refine r_f_X8_in 69 C (by decide) q_940 dX8_takeNumber_69 (Nat.le_of_ble_eq_true rfl) h (fun σ8 v9 h => ?_)
    refine v_if_eq 72 C 129 dX8_takeNumber_72 (by decide) h (fun h => ?_) (fun h => ?_)
    · exact v_sub [0, 1, 2] rfl (hx _ (he _ (Option.some.inj h).symm))
    · refine v_aload_n 75 C 0 0 dX8_takeNumber_75 rfl rfl ?_
      refine v_aload_n 76 C 0 0 dX8_takeNumber_76 rfl rfl ?_
      refine g_X8_39_26 77 C dX8_takeNumber_77 ?_
      refine v_sipush 80 C (10000 : Int32) dX8_takeNumber_80 (by decide) ?_
      refine v_icmp_le 83 C 93 dX8_takeNumber_83 (by decide) h (fun h => ?_) (fun h => ?_)
      · refine v_bipush 93 C (10 : Int32) dX8_takeNumber_93 (by decide) ?_
        refine v_aload_n 95 C 0 0 dX8_takeNumber_95 rfl rfl ?_
        refine g_X8_39_26 96 C dX8_takeNumber_96 ?_
        refine v_imul 99 C dX8_takeNumber_99 ?_
        refine v_aload_n 100 C 0 0 dX8_takeNumber_100 rfl rfl ?_
        refine g_X8_39_20 101 C dX8_takeNumber_101 ?_
        refine v_aload_n 104 C 0 0 dX8_takeNumber_104 rfl rfl ?_
        refine g_X8_39_23 105 C dX8_takeNumber_105 ?_
        refine v_iald 108 C 51 (by decide) (ce_51 G) dX8_takeNumber_108 h (fun h => ?_)
        refine v_iadd 109 C dX8_takeNumber_109 ?_
        refine v_bipush 110 C (48 : Int32) dX8_takeNumber_110 (by decide) ?_
        refine v_isub 112 C dX8_takeNumber_112 ?_
        exact v_sub [0, 1, 2] rfl (w_f_X8_takeNumber_j113 C h hc he hx)
      · refine v_aload_n 86 C 0 0 dX8_takeNumber_86 rfl rfl ?_
        refine g_X8_39_26 87 C dX8_takeNumber_87 ?_
        refine v_goto 90 C 113 dX8_takeNumber_90 (by decide) ?_
        exact v_sub [0, 1, 2] rfl (w_f_X8_takeNumber_j113 C h hc he hx)
theorem w_f_X8_takeNumber_j170 {G : Wld} {X : Cxt} (C : Cx G X RX8 cX8_takeNumber 4 2) {σ : Sto} {s0 : Int32} {y : Sto × Int32} (h : f_X8_takeNumber_j170 σ s0 = some y) (hK : Rx G X (some .int) (some (.int y.2)) y.1) : V G X 4 σ [(0, .ref (G.1 39))] [.int s0] 170 := by
  unfold f_X8_takeNumber_j170 at h
  cases h
  exact v_iret 170 C hK dX8_takeNumber_170
theorem w_f_X8_takeNumber_j157 {G : Wld} {X : Cxt} (C : Cx G X RX8 cX8_takeNumber 4 2) {σ : Sto} {y : Sto × Int32} (h : f_X8_takeNumber_j157 σ = some y) (hK : Rx G X (some .int) (some (.int y.2)) y.1) : V G X 4 σ [(0, .ref (G.1 39))] [] 157 := by
  unfold f_X8_takeNumber_j157 at h
  refine v_aload_n 157 C 0 0 dX8_takeNumber_157 rfl rfl ?_
  refine v_iconst 158 C (2 : Int32) dX8_takeNumber_158 (by decide) ?_
  refine v_aload_n 159 C 0 0 dX8_takeNumber_159 rfl rfl ?_
  refine g_X8_39_27 160 C dX8_takeNumber_160 ?_
  refine r_f_X8_fails 163 C (by decide) q_974 dX8_takeNumber_163 (Nat.le_of_ble_eq_true rfl) h (fun σ14 v15 h => ?_)
  refine v_goto 166 C 170 dX8_takeNumber_166 (by decide) ?_
  exact v_sub [0] rfl (w_f_X8_takeNumber_j170 C h hK)
theorem w_f_X8_takeNumber {G : Wld} {X : Cxt} (C : Cx G X RX8 cX8_takeNumber 4 2) {σ : Sto} {a1 : Int32} {a2 : Int32} {y : Sto × Int32} (h : f_X8_takeNumber σ a1 a2 = some y) (hK : Rx G X (some .int) (some (.int y.2)) y.1) : V G X 4 σ [(0, .ref (G.1 39)), (1, .int a1), (2, .int a2)] [] 0 := by
  unfold f_X8_takeNumber at h
  refine v_aload_n 0 C 0 0 dX8_takeNumber_0 rfl rfl ?_
  refine r_f_X8_here 1 C (by decide) q_950 dX8_takeNumber_1 (Nat.le_of_ble_eq_true rfl) h (fun σ1 v2 h => ?_)
  refine b_istore_n 4 C 3 (lv2 := fun z3 => [(3, .int z3), (0, .ref (G.1 39)), (1, .int a1), (2, .int a2)]) dX8_takeNumber_4 rfl (by decide) (fun _ => rfl) h (fun z3 h => ?_)
  refine v_iload_n 5 C 3 0 dX8_takeNumber_5 rfl rfl ?_
  refine v_i2l 6 C dX8_takeNumber_6 ?_
  refine v_ldc2_w 7 C dX8_takeNumber_7 q_986 ?_
  refine v_ldc2_w 10 C dX8_takeNumber_10 q_987 ?_
  refine r_f_X8_in 13 C (by decide) q_940 dX8_takeNumber_13 (Nat.le_of_ble_eq_true rfl) h (fun σ4 v5 h => ?_)
  refine v_if_ne 16 C 29 dX8_takeNumber_16 (by decide) h (fun h => ?_) (fun h => ?_)
  · refine v_aload_n 29 C 0 1 dX8_takeNumber_29 rfl rfl ?_
    refine v_aload_n 30 C 0 1 dX8_takeNumber_30 rfl rfl ?_
    refine g_X8_39_23 31 C dX8_takeNumber_31 ?_
    refine p_X8_39_27 34 C dX8_takeNumber_34 h (fun σ6 h => ?_)
    refine v_aload_n 37 C 0 1 dX8_takeNumber_37 rfl rfl ?_
    refine v_iconst 38 C (0 : Int32) dX8_takeNumber_38 (by decide) ?_
    refine p_X8_39_26 39 C dX8_takeNumber_39 h (fun σ7 h => ?_)
    refine v_sub [1, 2, 3] rfl ?_
    refine lp_go (Vh := fun t => V G X 4 t [(0, .ref (G.1 39)), (1, .int a1), (2, .int a2)] [] 42) h ?_
    intro t13 y13 hy13 hc13 he13
    refine w_f_X8_takeNumber_l42 C hy13 hc13 he13 (fun σ12 h => ?_)
    dsimp only at h
    refine v_aload_n 129 C 0 0 dX8_takeNumber_129 rfl rfl ?_
    refine g_X8_39_23 130 C dX8_takeNumber_130 ?_
    refine v_aload_n 133 C 0 0 dX8_takeNumber_133 rfl rfl ?_
    refine g_X8_39_27 134 C dX8_takeNumber_134 ?_
    refine v_isub 137 C dX8_takeNumber_137 ?_
    refine v_iconst 138 C (3 : Int32) dX8_takeNumber_138 (by decide) ?_
    refine v_icmp_gt 139 C 157 dX8_takeNumber_139 (by decide) h (fun h => ?_) (fun h => ?_)
    · exact v_sub [0] rfl (w_f_X8_takeNumber_j157 C h hK)
    · refine v_aload_n 142 C 0 0 dX8_takeNumber_142 rfl rfl ?_
      refine g_X8_39_26 143 C dX8_takeNumber_143 ?_
      refine v_i2l 146 C dX8_takeNumber_146 ?_
      refine v_iload_n 147 C 1 1 dX8_takeNumber_147 rfl rfl ?_
      refine v_i2l 148 C dX8_takeNumber_148 ?_
      refine v_iload_n 149 C 2 2 dX8_takeNumber_149 rfl rfl ?_
      refine v_i2l 150 C dX8_takeNumber_150 ?_
      refine r_f_X8_in 151 C (by decide) q_940 dX8_takeNumber_151 (Nat.le_of_ble_eq_true rfl) h (fun σ16 v17 h => ?_)
      refine v_if_ne 154 C 169 dX8_takeNumber_154 (by decide) h (fun h => ?_) (fun h => ?_)
      · refine v_iconst 169 C (0 : Int32) dX8_takeNumber_169 (by decide) ?_
        exact v_sub [0] rfl (w_f_X8_takeNumber_j170 C h hK)
      · exact v_sub [0] rfl (w_f_X8_takeNumber_j157 C h hK)
  · refine v_aload_n 19 C 0 1 dX8_takeNumber_19 rfl rfl ?_
    refine v_iconst 20 C (1 : Int32) dX8_takeNumber_20 (by decide) ?_
    refine v_aload_n 21 C 0 1 dX8_takeNumber_21 rfl rfl ?_
    refine g_X8_39_23 22 C dX8_takeNumber_22 ?_
    refine r_f_X8_fails 25 C (by decide) q_974 dX8_takeNumber_25 (Nat.le_of_ble_eq_true rfl) h (fun σ18 v19 h => ?_)
    cases h
    exact v_iret 28 C hK dX8_takeNumber_28
theorem c_f_X8_takeNumber (l : Launch) (G : Wld) (hG : GI G) (σ : Sto) (a1 : Int32) (a2 : Int32) (y : Sto × Int32) (h : f_X8_takeNumber σ a1 a2 = some y) : Ct l G yX8_takeNumber cX8_takeNumber 4 (some .int) 2 [.ref (G.1 39), .int a1, .int a2] σ (some (.int y.2)) y.1 := by
  refine ct_intro RX8 hG (by decide) rfl (Nat.le_of_ble_eq_true rfl) (fun X hX C hK => ?_)
  subst hX
  exact w_f_X8_takeNumber C h hK
theorem r_f_X8_takeNumber {G : Wld} {X : Cxt} {own : String} {cc : ByteArray} {nL n : Nat} {σ : Sto} {lv : List (Nat × Value)} {st : List Value} {β : Type} {r : β} {F : Sto → Int32 → Option β} {a1 : Int32} {a2 : Int32} {ix : Nat} (pc : Nat) (C : Cx G X own cc nL n) (hn : 2 < n) (h1 : Cond.methodLink own ix yX8_takeNumber ∈ lw_gd) (hd : decode cc pc = .ok (.invokevirtual ix, 3)) (hsum : (st.map fun v => v.category).sum ≤ 8) (h : bd2 (f_X8_takeNumber σ a1 a2) F = some r) (kk : ∀ σ1 v, F σ1 v = some r → V G X nL σ1 lv (.int v :: st) (pc + 3)) : V G X nL σ lv (.int a2 :: .int a1 :: .ref (G.1 39) :: st) pc := by
  obtain ⟨z, hz, h⟩ := bd2_some h
  exact v_callV pc C 39 2 [.int a1, .int a2] st (c_f_X8_takeNumber (xl X) G C.2.2.2.2.2.2.1 _ _ _ _ hz) hn (by decide) (by decide) (ce_39 G _ _) rfl (by decide +kernel) rfl h1 q_984 q_27 q_68 q_985 rfl hsum hd (kk _ _ h)
-- f_X8_into_58
def f_X8_into_58 (σ : Sto) (a2 : Int32) (a3 : Int32) (a4 : Int32) : Option (Sto × Int32) :=
  bd2 (f_X8_takeNumber σ a3 a4) fun σ1 v2 => bs v2 fun z3 => gd (inB a2 4) (bs (su σ1 58 (a2).toNatClampNeg (σ1.1 39 26)) fun σ4 => some (σ4, z3))
theorem w_f_X8_into_58 {G : Wld} {X : Cxt} (C : Cx G X RX8 cX8_into 6 3) {σ : Sto} {a2 : Int32} {a3 : Int32} {a4 : Int32} {y : Sto × Int32} (h : f_X8_into_58 σ a2 a3 a4 = some y) (hK : Rx G X (some .int) (some (.int y.2)) y.1) : V G X 6 σ [(0, .ref (G.1 39)), (1, .ref (G.1 58)), (2, .int a2), (3, .int a3), (4, .int a4)] [] 0 := by
  unfold f_X8_into_58 at h
  refine v_aload_n 0 C 0 0 dX8_into_0 rfl rfl ?_
  refine v_iload_n 1 C 3 3 dX8_into_1 rfl rfl ?_
  refine v_iload 2 C 4 4 dX8_into_2 rfl ?_
  refine r_f_X8_takeNumber 4 C (by decide) q_982 dX8_into_4 (Nat.le_of_ble_eq_true rfl) h (fun σ1 v2 h => ?_)
  refine b_istore 7 C 5 (lv2 := fun z3 => [(5, .int z3), (0, .ref (G.1 39)), (1, .ref (G.1 58)), (2, .int a2), (3, .int a3), (4, .int a4)]) dX8_into_7 (by decide) (fun _ => rfl) h (fun z3 h => ?_)
  refine v_aload_n 9 C 1 2 dX8_into_9 rfl rfl ?_
  refine v_iload_n 10 C 2 3 dX8_into_10 rfl rfl ?_
  refine v_aload_n 11 C 0 1 dX8_into_11 rfl rfl ?_
  refine g_X8_39_26 12 C dX8_into_12 ?_
  refine b_iast 15 C 58 (by decide) (ce_58 G) dX8_into_15 h (fun σ4 h => ?_)
  refine v_iload 16 C 5 0 dX8_into_16 rfl ?_
  cases h
  exact v_iret 18 C hK dX8_into_18
theorem c_f_X8_into_58 (l : Launch) (G : Wld) (hG : GI G) (σ : Sto) (a2 : Int32) (a3 : Int32) (a4 : Int32) (y : Sto × Int32) (h : f_X8_into_58 σ a2 a3 a4 = some y) : Ct l G yX8_into cX8_into 6 (some .int) 3 [.ref (G.1 39), .ref (G.1 58), .int a2, .int a3, .int a4] σ (some (.int y.2)) y.1 := by
  refine ct_intro RX8 hG (by decide) rfl (Nat.le_of_ble_eq_true rfl) (fun X hX C hK => ?_)
  subst hX
  exact w_f_X8_into_58 C h hK
theorem r_f_X8_into_58 {G : Wld} {X : Cxt} {own : String} {cc : ByteArray} {nL n : Nat} {σ : Sto} {lv : List (Nat × Value)} {st : List Value} {β : Type} {r : β} {F : Sto → Int32 → Option β} {a2 : Int32} {a3 : Int32} {a4 : Int32} {ix : Nat} (pc : Nat) (C : Cx G X own cc nL n) (hn : 3 < n) (h1 : Cond.methodLink own ix yX8_into ∈ lw_gd) (hd : decode cc pc = .ok (.invokevirtual ix, 3)) (hsum : (st.map fun v => v.category).sum ≤ 8) (h : bd2 (f_X8_into_58 σ a2 a3 a4) F = some r) (kk : ∀ σ1 v, F σ1 v = some r → V G X nL σ1 lv (.int v :: st) (pc + 3)) : V G X nL σ lv (.int a4 :: .int a3 :: .int a2 :: .ref (G.1 58) :: .ref (G.1 39) :: st) pc := by
  obtain ⟨z, hz, h⟩ := bd2_some h
  exact v_callV pc C 39 4 [.ref (G.1 58), .int a2, .int a3, .int a4] st (c_f_X8_into_58 (xl X) G C.2.2.2.2.2.2.1 _ _ _ _ _ hz) hn (by decide) (by decide) (ce_39 G _ _) rfl (by decide +kernel) rfl h1 q_994 q_29 q_68 q_995 rfl hsum hd (kk _ _ h)
-- f_X8_into_59
def f_X8_into_59 (σ : Sto) (a2 : Int32) (a3 : Int32) (a4 : Int32) : Option (Sto × Int32) :=
  bd2 (f_X8_takeNumber σ a3 a4) fun σ1 v2 => bs v2 fun z3 => gd (inB a2 4) (bs (su σ1 59 (a2).toNatClampNeg (σ1.1 39 26)) fun σ4 => some (σ4, z3))
theorem w_f_X8_into_59 {G : Wld} {X : Cxt} (C : Cx G X RX8 cX8_into 6 3) {σ : Sto} {a2 : Int32} {a3 : Int32} {a4 : Int32} {y : Sto × Int32} (h : f_X8_into_59 σ a2 a3 a4 = some y) (hK : Rx G X (some .int) (some (.int y.2)) y.1) : V G X 6 σ [(0, .ref (G.1 39)), (1, .ref (G.1 59)), (2, .int a2), (3, .int a3), (4, .int a4)] [] 0 := by
  unfold f_X8_into_59 at h
  refine v_aload_n 0 C 0 0 dX8_into_0 rfl rfl ?_
  refine v_iload_n 1 C 3 3 dX8_into_1 rfl rfl ?_
  refine v_iload 2 C 4 4 dX8_into_2 rfl ?_
  refine r_f_X8_takeNumber 4 C (by decide) q_982 dX8_into_4 (Nat.le_of_ble_eq_true rfl) h (fun σ1 v2 h => ?_)
  refine b_istore 7 C 5 (lv2 := fun z3 => [(5, .int z3), (0, .ref (G.1 39)), (1, .ref (G.1 59)), (2, .int a2), (3, .int a3), (4, .int a4)]) dX8_into_7 (by decide) (fun _ => rfl) h (fun z3 h => ?_)
  refine v_aload_n 9 C 1 2 dX8_into_9 rfl rfl ?_
  refine v_iload_n 10 C 2 3 dX8_into_10 rfl rfl ?_
  refine v_aload_n 11 C 0 1 dX8_into_11 rfl rfl ?_
  refine g_X8_39_26 12 C dX8_into_12 ?_
  refine b_iast 15 C 59 (by decide) (ce_59 G) dX8_into_15 h (fun σ4 h => ?_)
  refine v_iload 16 C 5 0 dX8_into_16 rfl ?_
  cases h
  exact v_iret 18 C hK dX8_into_18
theorem c_f_X8_into_59 (l : Launch) (G : Wld) (hG : GI G) (σ : Sto) (a2 : Int32) (a3 : Int32) (a4 : Int32) (y : Sto × Int32) (h : f_X8_into_59 σ a2 a3 a4 = some y) : Ct l G yX8_into cX8_into 6 (some .int) 3 [.ref (G.1 39), .ref (G.1 59), .int a2, .int a3, .int a4] σ (some (.int y.2)) y.1 := by
  refine ct_intro RX8 hG (by decide) rfl (Nat.le_of_ble_eq_true rfl) (fun X hX C hK => ?_)
  subst hX
  exact w_f_X8_into_59 C h hK
theorem r_f_X8_into_59 {G : Wld} {X : Cxt} {own : String} {cc : ByteArray} {nL n : Nat} {σ : Sto} {lv : List (Nat × Value)} {st : List Value} {β : Type} {r : β} {F : Sto → Int32 → Option β} {a2 : Int32} {a3 : Int32} {a4 : Int32} {ix : Nat} (pc : Nat) (C : Cx G X own cc nL n) (hn : 3 < n) (h1 : Cond.methodLink own ix yX8_into ∈ lw_gd) (hd : decode cc pc = .ok (.invokevirtual ix, 3)) (hsum : (st.map fun v => v.category).sum ≤ 8) (h : bd2 (f_X8_into_59 σ a2 a3 a4) F = some r) (kk : ∀ σ1 v, F σ1 v = some r → V G X nL σ1 lv (.int v :: st) (pc + 3)) : V G X nL σ lv (.int a4 :: .int a3 :: .int a2 :: .ref (G.1 59) :: .ref (G.1 39) :: st) pc := by
  obtain ⟨z, hz, h⟩ := bd2_some h
  exact v_callV pc C 39 4 [.ref (G.1 59), .int a2, .int a3, .int a4] st (c_f_X8_into_59 (xl X) G C.2.2.2.2.2.2.1 _ _ _ _ _ hz) hn (by decide) (by decide) (ce_39 G _ _) rfl (by decide +kernel) rfl h1 q_994 q_29 q_68 q_995 rfl hsum hd (kk _ _ h)
-- f_X8_takeHat
def f_X8_takeHat_j48 (σ : Sto) (s0 : Int32) : Option (Sto × Int32) :=
  some (σ, s0)
def f_X8_takeHat (σ : Sto) : Option (Sto × Int32) :=
  bs (σ.1 39 39) fun z1 => bs (su σ 39 39 ((σ.1 39 39) + (1 : Int32))) fun σ2 => bd2 (f_X8_into_58 σ2 z1 (1 : Int32) (20 : Int32)) fun σ3 v4 => bs v4 fun z5 => if z5 ≤ 0 then (bd2 (f_X8_into_59 σ3 z1 (0 : Int32) (50 : Int32)) fun σ6 v7 => f_X8_takeHat_j48 σ6 v7) else (f_X8_takeHat_j48 σ3 z5)
theorem w_f_X8_takeHat_j48 {G : Wld} {X : Cxt} (C : Cx G X RX8 cX8_takeHat 3 4) {σ : Sto} {s0 : Int32} {y : Sto × Int32} (h : f_X8_takeHat_j48 σ s0 = some y) (hK : Rx G X (some .int) (some (.int y.2)) y.1) : V G X 3 σ [(0, .ref (G.1 39))] [.int s0] 48 := by
  unfold f_X8_takeHat_j48 at h
  cases h
  exact v_iret 48 C hK dX8_takeHat_48
theorem w_f_X8_takeHat {G : Wld} {X : Cxt} (C : Cx G X RX8 cX8_takeHat 3 4) {σ : Sto} {y : Sto × Int32} (h : f_X8_takeHat σ = some y) (hK : Rx G X (some .int) (some (.int y.2)) y.1) : V G X 3 σ [(0, .ref (G.1 39))] [] 0 := by
  unfold f_X8_takeHat at h
  refine v_aload_n 0 C 0 0 dX8_takeHat_0 rfl rfl ?_
  refine g_X8_39_39 1 C dX8_takeHat_1 ?_
  refine b_istore_n 4 C 1 (lv2 := fun z1 => [(1, .int z1), (0, .ref (G.1 39))]) dX8_takeHat_4 rfl (by decide) (fun _ => rfl) h (fun z1 h => ?_)
  refine v_aload_n 5 C 0 1 dX8_takeHat_5 rfl rfl ?_
  refine v_dup 6 C dX8_takeHat_6 rfl ?_
  refine g_X8_39_39 7 C dX8_takeHat_7 ?_
  refine v_iconst 10 C (1 : Int32) dX8_takeHat_10 (by decide) ?_
  refine v_iadd 11 C dX8_takeHat_11 ?_
  refine p_X8_39_39 12 C dX8_takeHat_12 h (fun σ2 h => ?_)
  refine v_aload_n 15 C 0 1 dX8_takeHat_15 rfl rfl ?_
  refine v_aload_n 16 C 0 1 dX8_takeHat_16 rfl rfl ?_
  refine g_X8_39_40 17 C dX8_takeHat_17 ?_
  refine v_iload_n 20 C 1 0 dX8_takeHat_20 rfl rfl ?_
  refine v_iconst 21 C (1 : Int32) dX8_takeHat_21 (by decide) ?_
  refine v_bipush 22 C (20 : Int32) dX8_takeHat_22 (by decide) ?_
  refine r_f_X8_into_58 24 C (by decide) q_992 dX8_takeHat_24 (Nat.le_of_ble_eq_true rfl) h (fun σ3 v4 h => ?_)
  refine b_istore_n 27 C 2 (lv2 := fun z5 => [(2, .int z5), (1, .int z1), (0, .ref (G.1 39))]) dX8_takeHat_27 rfl (by decide) (fun _ => rfl) h (fun z5 h => ?_)
  refine v_iload_n 28 C 2 0 dX8_takeHat_28 rfl rfl ?_
  refine v_if_le 29 C 36 dX8_takeHat_29 (by decide) h (fun h => ?_) (fun h => ?_)
  · refine v_aload_n 36 C 0 2 dX8_takeHat_36 rfl rfl ?_
    refine v_aload_n 37 C 0 2 dX8_takeHat_37 rfl rfl ?_
    refine g_X8_39_41 38 C dX8_takeHat_38 ?_
    refine v_iload_n 41 C 1 1 dX8_takeHat_41 rfl rfl ?_
    refine v_iconst 42 C (0 : Int32) dX8_takeHat_42 (by decide) ?_
    refine v_bipush 43 C (50 : Int32) dX8_takeHat_43 (by decide) ?_
    refine r_f_X8_into_59 45 C (by decide) q_992 dX8_takeHat_45 (Nat.le_of_ble_eq_true rfl) h (fun σ6 v7 h => ?_)
    exact v_sub [2] rfl (w_f_X8_takeHat_j48 C h hK)
  · refine v_iload_n 32 C 2 0 dX8_takeHat_32 rfl rfl ?_
    refine v_goto 33 C 48 dX8_takeHat_33 (by decide) ?_
    exact v_sub [2] rfl (w_f_X8_takeHat_j48 C h hK)
theorem c_f_X8_takeHat (l : Launch) (G : Wld) (hG : GI G) (σ : Sto) (y : Sto × Int32) (h : f_X8_takeHat σ = some y) : Ct l G yX8_takeHat cX8_takeHat 3 (some .int) 4 [.ref (G.1 39)] σ (some (.int y.2)) y.1 := by
  refine ct_intro RX8 hG (by decide) rfl (Nat.le_of_ble_eq_true rfl) (fun X hX C hK => ?_)
  subst hX
  exact w_f_X8_takeHat C h hK
theorem r_f_X8_takeHat {G : Wld} {X : Cxt} {own : String} {cc : ByteArray} {nL n : Nat} {σ : Sto} {lv : List (Nat × Value)} {st : List Value} {β : Type} {r : β} {F : Sto → Int32 → Option β} {ix : Nat} (pc : Nat) (C : Cx G X own cc nL n) (hn : 4 < n) (h1 : Cond.methodLink own ix yX8_takeHat ∈ lw_gd) (hd : decode cc pc = .ok (.invokevirtual ix, 3)) (hsum : (st.map fun v => v.category).sum ≤ 8) (h : bd2 (f_X8_takeHat σ) F = some r) (kk : ∀ σ1 v, F σ1 v = some r → V G X nL σ1 lv (.int v :: st) (pc + 3)) : V G X nL σ lv (.ref (G.1 39) :: st) pc := by
  obtain ⟨z, hz, h⟩ := bd2_some h
  exact v_callV pc C 39 0 [] st (c_f_X8_takeHat (xl X) G C.2.2.2.2.2.2.1 _ _ hz) hn (by decide) (by decide) (ce_39 G _ _) rfl (by decide +kernel) rfl h1 q_1006 q_32 q_68 q_1007 rfl hsum hd (kk _ _ h)
-- f_X8_into_57
def f_X8_into_57 (σ : Sto) (a2 : Int32) (a3 : Int32) (a4 : Int32) : Option (Sto × Int32) :=
  bd2 (f_X8_takeNumber σ a3 a4) fun σ1 v2 => bs v2 fun z3 => gd (inB a2 6) (bs (su σ1 57 (a2).toNatClampNeg (σ1.1 39 26)) fun σ4 => some (σ4, z3))
theorem w_f_X8_into_57 {G : Wld} {X : Cxt} (C : Cx G X RX8 cX8_into 6 3) {σ : Sto} {a2 : Int32} {a3 : Int32} {a4 : Int32} {y : Sto × Int32} (h : f_X8_into_57 σ a2 a3 a4 = some y) (hK : Rx G X (some .int) (some (.int y.2)) y.1) : V G X 6 σ [(0, .ref (G.1 39)), (1, .ref (G.1 57)), (2, .int a2), (3, .int a3), (4, .int a4)] [] 0 := by
  unfold f_X8_into_57 at h
  refine v_aload_n 0 C 0 0 dX8_into_0 rfl rfl ?_
  refine v_iload_n 1 C 3 3 dX8_into_1 rfl rfl ?_
  refine v_iload 2 C 4 4 dX8_into_2 rfl ?_
  refine r_f_X8_takeNumber 4 C (by decide) q_982 dX8_into_4 (Nat.le_of_ble_eq_true rfl) h (fun σ1 v2 h => ?_)
  refine b_istore 7 C 5 (lv2 := fun z3 => [(5, .int z3), (0, .ref (G.1 39)), (1, .ref (G.1 57)), (2, .int a2), (3, .int a3), (4, .int a4)]) dX8_into_7 (by decide) (fun _ => rfl) h (fun z3 h => ?_)
  refine v_aload_n 9 C 1 2 dX8_into_9 rfl rfl ?_
  refine v_iload_n 10 C 2 3 dX8_into_10 rfl rfl ?_
  refine v_aload_n 11 C 0 1 dX8_into_11 rfl rfl ?_
  refine g_X8_39_26 12 C dX8_into_12 ?_
  refine b_iast 15 C 57 (by decide) (ce_57 G) dX8_into_15 h (fun σ4 h => ?_)
  refine v_iload 16 C 5 0 dX8_into_16 rfl ?_
  cases h
  exact v_iret 18 C hK dX8_into_18
theorem c_f_X8_into_57 (l : Launch) (G : Wld) (hG : GI G) (σ : Sto) (a2 : Int32) (a3 : Int32) (a4 : Int32) (y : Sto × Int32) (h : f_X8_into_57 σ a2 a3 a4 = some y) : Ct l G yX8_into cX8_into 6 (some .int) 3 [.ref (G.1 39), .ref (G.1 57), .int a2, .int a3, .int a4] σ (some (.int y.2)) y.1 := by
  refine ct_intro RX8 hG (by decide) rfl (Nat.le_of_ble_eq_true rfl) (fun X hX C hK => ?_)
  subst hX
  exact w_f_X8_into_57 C h hK
theorem r_f_X8_into_57 {G : Wld} {X : Cxt} {own : String} {cc : ByteArray} {nL n : Nat} {σ : Sto} {lv : List (Nat × Value)} {st : List Value} {β : Type} {r : β} {F : Sto → Int32 → Option β} {a2 : Int32} {a3 : Int32} {a4 : Int32} {ix : Nat} (pc : Nat) (C : Cx G X own cc nL n) (hn : 3 < n) (h1 : Cond.methodLink own ix yX8_into ∈ lw_gd) (hd : decode cc pc = .ok (.invokevirtual ix, 3)) (hsum : (st.map fun v => v.category).sum ≤ 8) (h : bd2 (f_X8_into_57 σ a2 a3 a4) F = some r) (kk : ∀ σ1 v, F σ1 v = some r → V G X nL σ1 lv (.int v :: st) (pc + 3)) : V G X nL σ lv (.int a4 :: .int a3 :: .int a2 :: .ref (G.1 57) :: .ref (G.1 39) :: st) pc := by
  obtain ⟨z, hz, h⟩ := bd2_some h
  exact v_callV pc C 39 4 [.ref (G.1 57), .int a2, .int a3, .int a4] st (c_f_X8_into_57 (xl X) G C.2.2.2.2.2.2.1 _ _ _ _ _ hz) hn (by decide) (by decide) (ce_39 G _ _) rfl (by decide +kernel) rfl h1 q_994 q_29 q_68 q_995 rfl hsum hd (kk _ _ h)
-- f_X8_takeBeggar
def f_X8_takeBeggar (σ : Sto) : Option (Sto × Int32) :=
  bs (σ.1 39 37) fun z1 => bs (su σ 39 37 ((σ.1 39 37) + (1 : Int32))) fun σ2 => bd2 (f_X8_into_57 σ2 z1 (1 : Int32) (90 : Int32)) fun σ3 v4 => some (σ3, v4)
theorem w_f_X8_takeBeggar {G : Wld} {X : Cxt} (C : Cx G X RX8 cX8_takeBeggar 2 4) {σ : Sto} {y : Sto × Int32} (h : f_X8_takeBeggar σ = some y) (hK : Rx G X (some .int) (some (.int y.2)) y.1) : V G X 2 σ [(0, .ref (G.1 39))] [] 0 := by
  unfold f_X8_takeBeggar at h
  refine v_aload_n 0 C 0 0 dX8_takeBeggar_0 rfl rfl ?_
  refine g_X8_39_37 1 C dX8_takeBeggar_1 ?_
  refine b_istore_n 4 C 1 (lv2 := fun z1 => [(1, .int z1), (0, .ref (G.1 39))]) dX8_takeBeggar_4 rfl (by decide) (fun _ => rfl) h (fun z1 h => ?_)
  refine v_aload_n 5 C 0 1 dX8_takeBeggar_5 rfl rfl ?_
  refine v_dup 6 C dX8_takeBeggar_6 rfl ?_
  refine g_X8_39_37 7 C dX8_takeBeggar_7 ?_
  refine v_iconst 10 C (1 : Int32) dX8_takeBeggar_10 (by decide) ?_
  refine v_iadd 11 C dX8_takeBeggar_11 ?_
  refine p_X8_39_37 12 C dX8_takeBeggar_12 h (fun σ2 h => ?_)
  refine v_aload_n 15 C 0 1 dX8_takeBeggar_15 rfl rfl ?_
  refine v_aload_n 16 C 0 1 dX8_takeBeggar_16 rfl rfl ?_
  refine g_X8_39_38 17 C dX8_takeBeggar_17 ?_
  refine v_iload_n 20 C 1 0 dX8_takeBeggar_20 rfl rfl ?_
  refine v_iconst 21 C (1 : Int32) dX8_takeBeggar_21 (by decide) ?_
  refine v_bipush 22 C (90 : Int32) dX8_takeBeggar_22 (by decide) ?_
  refine r_f_X8_into_57 24 C (by decide) q_992 dX8_takeBeggar_24 (Nat.le_of_ble_eq_true rfl) h (fun σ3 v4 h => ?_)
  cases h
  exact v_iret 27 C hK dX8_takeBeggar_27
theorem c_f_X8_takeBeggar (l : Launch) (G : Wld) (hG : GI G) (σ : Sto) (y : Sto × Int32) (h : f_X8_takeBeggar σ = some y) : Ct l G yX8_takeBeggar cX8_takeBeggar 2 (some .int) 4 [.ref (G.1 39)] σ (some (.int y.2)) y.1 := by
  refine ct_intro RX8 hG (by decide) rfl (Nat.le_of_ble_eq_true rfl) (fun X hX C hK => ?_)
  subst hX
  exact w_f_X8_takeBeggar C h hK
theorem r_f_X8_takeBeggar {G : Wld} {X : Cxt} {own : String} {cc : ByteArray} {nL n : Nat} {σ : Sto} {lv : List (Nat × Value)} {st : List Value} {β : Type} {r : β} {F : Sto → Int32 → Option β} {ix : Nat} (pc : Nat) (C : Cx G X own cc nL n) (hn : 4 < n) (h1 : Cond.methodLink own ix yX8_takeBeggar ∈ lw_gd) (hd : decode cc pc = .ok (.invokevirtual ix, 3)) (hsum : (st.map fun v => v.category).sum ≤ 8) (h : bd2 (f_X8_takeBeggar σ) F = some r) (kk : ∀ σ1 v, F σ1 v = some r → V G X nL σ1 lv (.int v :: st) (pc + 3)) : V G X nL σ lv (.ref (G.1 39) :: st) pc := by
  obtain ⟨z, hz, h⟩ := bd2_some h
  exact v_callV pc C 39 0 [] st (c_f_X8_takeBeggar (xl X) G C.2.2.2.2.2.2.1 _ _ hz) hn (by decide) (by decide) (ce_39 G _ _) rfl (by decide +kernel) rfl h1 q_1002 q_31 q_68 q_1003 rfl hsum hd (kk _ _ h)
-- f_X8_into_54
def f_X8_into_54 (σ : Sto) (a2 : Int32) (a3 : Int32) (a4 : Int32) : Option (Sto × Int32) :=
  bd2 (f_X8_takeNumber σ a3 a4) fun σ1 v2 => bs v2 fun z3 => gd (inB a2 6) (bs (su σ1 54 (a2).toNatClampNeg (σ1.1 39 26)) fun σ4 => some (σ4, z3))
theorem w_f_X8_into_54 {G : Wld} {X : Cxt} (C : Cx G X RX8 cX8_into 6 3) {σ : Sto} {a2 : Int32} {a3 : Int32} {a4 : Int32} {y : Sto × Int32} (h : f_X8_into_54 σ a2 a3 a4 = some y) (hK : Rx G X (some .int) (some (.int y.2)) y.1) : V G X 6 σ [(0, .ref (G.1 39)), (1, .ref (G.1 54)), (2, .int a2), (3, .int a3), (4, .int a4)] [] 0 := by
  unfold f_X8_into_54 at h
  refine v_aload_n 0 C 0 0 dX8_into_0 rfl rfl ?_
  refine v_iload_n 1 C 3 3 dX8_into_1 rfl rfl ?_
  refine v_iload 2 C 4 4 dX8_into_2 rfl ?_
  refine r_f_X8_takeNumber 4 C (by decide) q_982 dX8_into_4 (Nat.le_of_ble_eq_true rfl) h (fun σ1 v2 h => ?_)
  refine b_istore 7 C 5 (lv2 := fun z3 => [(5, .int z3), (0, .ref (G.1 39)), (1, .ref (G.1 54)), (2, .int a2), (3, .int a3), (4, .int a4)]) dX8_into_7 (by decide) (fun _ => rfl) h (fun z3 h => ?_)
  refine v_aload_n 9 C 1 2 dX8_into_9 rfl rfl ?_
  refine v_iload_n 10 C 2 3 dX8_into_10 rfl rfl ?_
  refine v_aload_n 11 C 0 1 dX8_into_11 rfl rfl ?_
  refine g_X8_39_26 12 C dX8_into_12 ?_
  refine b_iast 15 C 54 (by decide) (ce_54 G) dX8_into_15 h (fun σ4 h => ?_)
  refine v_iload 16 C 5 0 dX8_into_16 rfl ?_
  cases h
  exact v_iret 18 C hK dX8_into_18
theorem c_f_X8_into_54 (l : Launch) (G : Wld) (hG : GI G) (σ : Sto) (a2 : Int32) (a3 : Int32) (a4 : Int32) (y : Sto × Int32) (h : f_X8_into_54 σ a2 a3 a4 = some y) : Ct l G yX8_into cX8_into 6 (some .int) 3 [.ref (G.1 39), .ref (G.1 54), .int a2, .int a3, .int a4] σ (some (.int y.2)) y.1 := by
  refine ct_intro RX8 hG (by decide) rfl (Nat.le_of_ble_eq_true rfl) (fun X hX C hK => ?_)
  subst hX
  exact w_f_X8_into_54 C h hK
theorem r_f_X8_into_54 {G : Wld} {X : Cxt} {own : String} {cc : ByteArray} {nL n : Nat} {σ : Sto} {lv : List (Nat × Value)} {st : List Value} {β : Type} {r : β} {F : Sto → Int32 → Option β} {a2 : Int32} {a3 : Int32} {a4 : Int32} {ix : Nat} (pc : Nat) (C : Cx G X own cc nL n) (hn : 3 < n) (h1 : Cond.methodLink own ix yX8_into ∈ lw_gd) (hd : decode cc pc = .ok (.invokevirtual ix, 3)) (hsum : (st.map fun v => v.category).sum ≤ 8) (h : bd2 (f_X8_into_54 σ a2 a3 a4) F = some r) (kk : ∀ σ1 v, F σ1 v = some r → V G X nL σ1 lv (.int v :: st) (pc + 3)) : V G X nL σ lv (.int a4 :: .int a3 :: .int a2 :: .ref (G.1 54) :: .ref (G.1 39) :: st) pc := by
  obtain ⟨z, hz, h⟩ := bd2_some h
  exact v_callV pc C 39 4 [.ref (G.1 54), .int a2, .int a3, .int a4] st (c_f_X8_into_54 (xl X) G C.2.2.2.2.2.2.1 _ _ _ _ _ hz) hn (by decide) (by decide) (ce_39 G _ _) rfl (by decide +kernel) rfl h1 q_994 q_29 q_68 q_995 rfl hsum hd (kk _ _ h)
-- f_X8_into_55
def f_X8_into_55 (σ : Sto) (a2 : Int32) (a3 : Int32) (a4 : Int32) : Option (Sto × Int32) :=
  bd2 (f_X8_takeNumber σ a3 a4) fun σ1 v2 => bs v2 fun z3 => gd (inB a2 6) (bs (su σ1 55 (a2).toNatClampNeg (σ1.1 39 26)) fun σ4 => some (σ4, z3))
theorem w_f_X8_into_55 {G : Wld} {X : Cxt} (C : Cx G X RX8 cX8_into 6 3) {σ : Sto} {a2 : Int32} {a3 : Int32} {a4 : Int32} {y : Sto × Int32} (h : f_X8_into_55 σ a2 a3 a4 = some y) (hK : Rx G X (some .int) (some (.int y.2)) y.1) : V G X 6 σ [(0, .ref (G.1 39)), (1, .ref (G.1 55)), (2, .int a2), (3, .int a3), (4, .int a4)] [] 0 := by
  unfold f_X8_into_55 at h
  refine v_aload_n 0 C 0 0 dX8_into_0 rfl rfl ?_
  refine v_iload_n 1 C 3 3 dX8_into_1 rfl rfl ?_
  refine v_iload 2 C 4 4 dX8_into_2 rfl ?_
  refine r_f_X8_takeNumber 4 C (by decide) q_982 dX8_into_4 (Nat.le_of_ble_eq_true rfl) h (fun σ1 v2 h => ?_)
  refine b_istore 7 C 5 (lv2 := fun z3 => [(5, .int z3), (0, .ref (G.1 39)), (1, .ref (G.1 55)), (2, .int a2), (3, .int a3), (4, .int a4)]) dX8_into_7 (by decide) (fun _ => rfl) h (fun z3 h => ?_)
  refine v_aload_n 9 C 1 2 dX8_into_9 rfl rfl ?_
  refine v_iload_n 10 C 2 3 dX8_into_10 rfl rfl ?_
  refine v_aload_n 11 C 0 1 dX8_into_11 rfl rfl ?_
  refine g_X8_39_26 12 C dX8_into_12 ?_
  refine b_iast 15 C 55 (by decide) (ce_55 G) dX8_into_15 h (fun σ4 h => ?_)
  refine v_iload 16 C 5 0 dX8_into_16 rfl ?_
  cases h
  exact v_iret 18 C hK dX8_into_18
theorem c_f_X8_into_55 (l : Launch) (G : Wld) (hG : GI G) (σ : Sto) (a2 : Int32) (a3 : Int32) (a4 : Int32) (y : Sto × Int32) (h : f_X8_into_55 σ a2 a3 a4 = some y) : Ct l G yX8_into cX8_into 6 (some .int) 3 [.ref (G.1 39), .ref (G.1 55), .int a2, .int a3, .int a4] σ (some (.int y.2)) y.1 := by
  refine ct_intro RX8 hG (by decide) rfl (Nat.le_of_ble_eq_true rfl) (fun X hX C hK => ?_)
  subst hX
  exact w_f_X8_into_55 C h hK
theorem r_f_X8_into_55 {G : Wld} {X : Cxt} {own : String} {cc : ByteArray} {nL n : Nat} {σ : Sto} {lv : List (Nat × Value)} {st : List Value} {β : Type} {r : β} {F : Sto → Int32 → Option β} {a2 : Int32} {a3 : Int32} {a4 : Int32} {ix : Nat} (pc : Nat) (C : Cx G X own cc nL n) (hn : 3 < n) (h1 : Cond.methodLink own ix yX8_into ∈ lw_gd) (hd : decode cc pc = .ok (.invokevirtual ix, 3)) (hsum : (st.map fun v => v.category).sum ≤ 8) (h : bd2 (f_X8_into_55 σ a2 a3 a4) F = some r) (kk : ∀ σ1 v, F σ1 v = some r → V G X nL σ1 lv (.int v :: st) (pc + 3)) : V G X nL σ lv (.int a4 :: .int a3 :: .int a2 :: .ref (G.1 55) :: .ref (G.1 39) :: st) pc := by
  obtain ⟨z, hz, h⟩ := bd2_some h
  exact v_callV pc C 39 4 [.ref (G.1 55), .int a2, .int a3, .int a4] st (c_f_X8_into_55 (xl X) G C.2.2.2.2.2.2.1 _ _ _ _ _ hz) hn (by decide) (by decide) (ce_39 G _ _) rfl (by decide +kernel) rfl h1 q_994 q_29 q_68 q_995 rfl hsum hd (kk _ _ h)
-- f_X8_into_56
def f_X8_into_56 (σ : Sto) (a2 : Int32) (a3 : Int32) (a4 : Int32) : Option (Sto × Int32) :=
  bd2 (f_X8_takeNumber σ a3 a4) fun σ1 v2 => bs v2 fun z3 => gd (inB a2 6) (bs (su σ1 56 (a2).toNatClampNeg (σ1.1 39 26)) fun σ4 => some (σ4, z3))
theorem w_f_X8_into_56 {G : Wld} {X : Cxt} (C : Cx G X RX8 cX8_into 6 3) {σ : Sto} {a2 : Int32} {a3 : Int32} {a4 : Int32} {y : Sto × Int32} (h : f_X8_into_56 σ a2 a3 a4 = some y) (hK : Rx G X (some .int) (some (.int y.2)) y.1) : V G X 6 σ [(0, .ref (G.1 39)), (1, .ref (G.1 56)), (2, .int a2), (3, .int a3), (4, .int a4)] [] 0 := by
  unfold f_X8_into_56 at h
  refine v_aload_n 0 C 0 0 dX8_into_0 rfl rfl ?_
  refine v_iload_n 1 C 3 3 dX8_into_1 rfl rfl ?_
  refine v_iload 2 C 4 4 dX8_into_2 rfl ?_
  refine r_f_X8_takeNumber 4 C (by decide) q_982 dX8_into_4 (Nat.le_of_ble_eq_true rfl) h (fun σ1 v2 h => ?_)
  refine b_istore 7 C 5 (lv2 := fun z3 => [(5, .int z3), (0, .ref (G.1 39)), (1, .ref (G.1 56)), (2, .int a2), (3, .int a3), (4, .int a4)]) dX8_into_7 (by decide) (fun _ => rfl) h (fun z3 h => ?_)
  refine v_aload_n 9 C 1 2 dX8_into_9 rfl rfl ?_
  refine v_iload_n 10 C 2 3 dX8_into_10 rfl rfl ?_
  refine v_aload_n 11 C 0 1 dX8_into_11 rfl rfl ?_
  refine g_X8_39_26 12 C dX8_into_12 ?_
  refine b_iast 15 C 56 (by decide) (ce_56 G) dX8_into_15 h (fun σ4 h => ?_)
  refine v_iload 16 C 5 0 dX8_into_16 rfl ?_
  cases h
  exact v_iret 18 C hK dX8_into_18
theorem c_f_X8_into_56 (l : Launch) (G : Wld) (hG : GI G) (σ : Sto) (a2 : Int32) (a3 : Int32) (a4 : Int32) (y : Sto × Int32) (h : f_X8_into_56 σ a2 a3 a4 = some y) : Ct l G yX8_into cX8_into 6 (some .int) 3 [.ref (G.1 39), .ref (G.1 56), .int a2, .int a3, .int a4] σ (some (.int y.2)) y.1 := by
  refine ct_intro RX8 hG (by decide) rfl (Nat.le_of_ble_eq_true rfl) (fun X hX C hK => ?_)
  subst hX
  exact w_f_X8_into_56 C h hK
theorem r_f_X8_into_56 {G : Wld} {X : Cxt} {own : String} {cc : ByteArray} {nL n : Nat} {σ : Sto} {lv : List (Nat × Value)} {st : List Value} {β : Type} {r : β} {F : Sto → Int32 → Option β} {a2 : Int32} {a3 : Int32} {a4 : Int32} {ix : Nat} (pc : Nat) (C : Cx G X own cc nL n) (hn : 3 < n) (h1 : Cond.methodLink own ix yX8_into ∈ lw_gd) (hd : decode cc pc = .ok (.invokevirtual ix, 3)) (hsum : (st.map fun v => v.category).sum ≤ 8) (h : bd2 (f_X8_into_56 σ a2 a3 a4) F = some r) (kk : ∀ σ1 v, F σ1 v = some r → V G X nL σ1 lv (.int v :: st) (pc + 3)) : V G X nL σ lv (.int a4 :: .int a3 :: .int a2 :: .ref (G.1 56) :: .ref (G.1 39) :: st) pc := by
  obtain ⟨z, hz, h⟩ := bd2_some h
  exact v_callV pc C 39 4 [.ref (G.1 56), .int a2, .int a3, .int a4] st (c_f_X8_into_56 (xl X) G C.2.2.2.2.2.2.1 _ _ _ _ _ hz) hn (by decide) (by decide) (ce_39 G _ _) rfl (by decide +kernel) rfl h1 q_994 q_29 q_68 q_995 rfl hsum hd (kk _ _ h)
-- f_X8_takeSpot
def f_X8_takeSpot_j70 (σ : Sto) (s0 : Int32) : Option (Sto × Int32) :=
  some (σ, s0)
def f_X8_takeSpot_j48 (σ : Sto) (x1 : Int32) (s0 : Int32) : Option (Sto × Int32) :=
  bs s0 fun z8 => if z8 ≤ 0 then (bd2 (f_X8_into_56 σ x1 (0 : Int32) (200 : Int32)) fun σ9 v10 => f_X8_takeSpot_j70 σ9 v10) else (f_X8_takeSpot_j70 σ z8)
def f_X8_takeSpot (σ : Sto) : Option (Sto × Int32) :=
  bs (σ.1 39 33) fun z1 => bs (su σ 39 33 ((σ.1 39 33) + (1 : Int32))) fun σ2 => bd2 (f_X8_into_54 σ2 z1 (0 : Int32) (20 : Int32)) fun σ3 v4 => bs v4 fun z5 => if z5 ≤ 0 then (bd2 (f_X8_into_55 σ3 z1 (0 : Int32) (9 : Int32)) fun σ6 v7 => f_X8_takeSpot_j48 σ6 z1 v7) else (f_X8_takeSpot_j48 σ3 z1 z5)
theorem w_f_X8_takeSpot_j70 {G : Wld} {X : Cxt} (C : Cx G X RX8 cX8_takeSpot 3 4) {σ : Sto} {s0 : Int32} {y : Sto × Int32} (h : f_X8_takeSpot_j70 σ s0 = some y) (hK : Rx G X (some .int) (some (.int y.2)) y.1) : V G X 3 σ [(0, .ref (G.1 39))] [.int s0] 70 := by
  unfold f_X8_takeSpot_j70 at h
  cases h
  exact v_iret 70 C hK dX8_takeSpot_70
theorem w_f_X8_takeSpot_j48 {G : Wld} {X : Cxt} (C : Cx G X RX8 cX8_takeSpot 3 4) {σ : Sto} {x1 : Int32} {s0 : Int32} {y : Sto × Int32} (h : f_X8_takeSpot_j48 σ x1 s0 = some y) (hK : Rx G X (some .int) (some (.int y.2)) y.1) : V G X 3 σ [(0, .ref (G.1 39)), (1, .int x1)] [.int s0] 48 := by
  unfold f_X8_takeSpot_j48 at h
  refine b_istore_n 48 C 2 (lv2 := fun z8 => [(2, .int z8), (0, .ref (G.1 39)), (1, .int x1)]) dX8_takeSpot_48 rfl (by decide) (fun _ => rfl) h (fun z8 h => ?_)
  refine v_iload_n 49 C 2 0 dX8_takeSpot_49 rfl rfl ?_
  refine v_if_le 50 C 57 dX8_takeSpot_50 (by decide) h (fun h => ?_) (fun h => ?_)
  · refine v_aload_n 57 C 0 1 dX8_takeSpot_57 rfl rfl ?_
    refine v_aload_n 58 C 0 1 dX8_takeSpot_58 rfl rfl ?_
    refine g_X8_39_36 59 C dX8_takeSpot_59 ?_
    refine v_iload_n 62 C 1 2 dX8_takeSpot_62 rfl rfl ?_
    refine v_iconst 63 C (0 : Int32) dX8_takeSpot_63 (by decide) ?_
    refine v_sipush 64 C (200 : Int32) dX8_takeSpot_64 (by decide) ?_
    refine r_f_X8_into_56 67 C (by decide) q_992 dX8_takeSpot_67 (Nat.le_of_ble_eq_true rfl) h (fun σ9 v10 h => ?_)
    exact v_sub [1] rfl (w_f_X8_takeSpot_j70 C h hK)
  · refine v_iload_n 53 C 2 0 dX8_takeSpot_53 rfl rfl ?_
    refine v_goto 54 C 70 dX8_takeSpot_54 (by decide) ?_
    exact v_sub [1] rfl (w_f_X8_takeSpot_j70 C h hK)
theorem w_f_X8_takeSpot {G : Wld} {X : Cxt} (C : Cx G X RX8 cX8_takeSpot 3 4) {σ : Sto} {y : Sto × Int32} (h : f_X8_takeSpot σ = some y) (hK : Rx G X (some .int) (some (.int y.2)) y.1) : V G X 3 σ [(0, .ref (G.1 39))] [] 0 := by
  unfold f_X8_takeSpot at h
  refine v_aload_n 0 C 0 0 dX8_takeSpot_0 rfl rfl ?_
  refine g_X8_39_33 1 C dX8_takeSpot_1 ?_
  refine b_istore_n 4 C 1 (lv2 := fun z1 => [(1, .int z1), (0, .ref (G.1 39))]) dX8_takeSpot_4 rfl (by decide) (fun _ => rfl) h (fun z1 h => ?_)
  refine v_aload_n 5 C 0 1 dX8_takeSpot_5 rfl rfl ?_
  refine v_dup 6 C dX8_takeSpot_6 rfl ?_
  refine g_X8_39_33 7 C dX8_takeSpot_7 ?_
  refine v_iconst 10 C (1 : Int32) dX8_takeSpot_10 (by decide) ?_
  refine v_iadd 11 C dX8_takeSpot_11 ?_
  refine p_X8_39_33 12 C dX8_takeSpot_12 h (fun σ2 h => ?_)
  refine v_aload_n 15 C 0 1 dX8_takeSpot_15 rfl rfl ?_
  refine v_aload_n 16 C 0 1 dX8_takeSpot_16 rfl rfl ?_
  refine g_X8_39_34 17 C dX8_takeSpot_17 ?_
  refine v_iload_n 20 C 1 0 dX8_takeSpot_20 rfl rfl ?_
  refine v_iconst 21 C (0 : Int32) dX8_takeSpot_21 (by decide) ?_
  refine v_bipush 22 C (20 : Int32) dX8_takeSpot_22 (by decide) ?_
  refine r_f_X8_into_54 24 C (by decide) q_992 dX8_takeSpot_24 (Nat.le_of_ble_eq_true rfl) h (fun σ3 v4 h => ?_)
  refine b_istore_n 27 C 2 (lv2 := fun z5 => [(2, .int z5), (1, .int z1), (0, .ref (G.1 39))]) dX8_takeSpot_27 rfl (by decide) (fun _ => rfl) h (fun z5 h => ?_)
  refine v_iload_n 28 C 2 0 dX8_takeSpot_28 rfl rfl ?_
  refine v_if_le 29 C 36 dX8_takeSpot_29 (by decide) h (fun h => ?_) (fun h => ?_)
  · refine v_aload_n 36 C 0 2 dX8_takeSpot_36 rfl rfl ?_
    refine v_aload_n 37 C 0 2 dX8_takeSpot_37 rfl rfl ?_
    refine g_X8_39_35 38 C dX8_takeSpot_38 ?_
    refine v_iload_n 41 C 1 1 dX8_takeSpot_41 rfl rfl ?_
    refine v_iconst 42 C (0 : Int32) dX8_takeSpot_42 (by decide) ?_
    refine v_bipush 43 C (9 : Int32) dX8_takeSpot_43 (by decide) ?_
    refine r_f_X8_into_55 45 C (by decide) q_992 dX8_takeSpot_45 (Nat.le_of_ble_eq_true rfl) h (fun σ6 v7 h => ?_)
    exact v_sub [2, 1] rfl (w_f_X8_takeSpot_j48 C h hK)
  · refine v_iload_n 32 C 2 0 dX8_takeSpot_32 rfl rfl ?_
    refine v_goto 33 C 48 dX8_takeSpot_33 (by decide) ?_
    exact v_sub [2, 1] rfl (w_f_X8_takeSpot_j48 C h hK)
theorem c_f_X8_takeSpot (l : Launch) (G : Wld) (hG : GI G) (σ : Sto) (y : Sto × Int32) (h : f_X8_takeSpot σ = some y) : Ct l G yX8_takeSpot cX8_takeSpot 3 (some .int) 4 [.ref (G.1 39)] σ (some (.int y.2)) y.1 := by
  refine ct_intro RX8 hG (by decide) rfl (Nat.le_of_ble_eq_true rfl) (fun X hX C hK => ?_)
  subst hX
  exact w_f_X8_takeSpot C h hK
theorem r_f_X8_takeSpot {G : Wld} {X : Cxt} {own : String} {cc : ByteArray} {nL n : Nat} {σ : Sto} {lv : List (Nat × Value)} {st : List Value} {β : Type} {r : β} {F : Sto → Int32 → Option β} {ix : Nat} (pc : Nat) (C : Cx G X own cc nL n) (hn : 4 < n) (h1 : Cond.methodLink own ix yX8_takeSpot ∈ lw_gd) (hd : decode cc pc = .ok (.invokevirtual ix, 3)) (hsum : (st.map fun v => v.category).sum ≤ 8) (h : bd2 (f_X8_takeSpot σ) F = some r) (kk : ∀ σ1 v, F σ1 v = some r → V G X nL σ1 lv (.int v :: st) (pc + 3)) : V G X nL σ lv (.ref (G.1 39) :: st) pc := by
  obtain ⟨z, hz, h⟩ := bd2_some h
  exact v_callV pc C 39 0 [] st (c_f_X8_takeSpot (xl X) G C.2.2.2.2.2.2.1 _ _ hz) hn (by decide) (by decide) (ce_39 G _ _) rfl (by decide +kernel) rfl h1 q_998 q_30 q_68 q_999 rfl hsum hd (kk _ _ h)
-- f_X8_into_52
def f_X8_into_52 (σ : Sto) (a2 : Int32) (a3 : Int32) (a4 : Int32) : Option (Sto × Int32) :=
  bd2 (f_X8_takeNumber σ a3 a4) fun σ1 v2 => bs v2 fun z3 => gd (inB a2 4) (bs (su σ1 52 (a2).toNatClampNeg (σ1.1 39 26)) fun σ4 => some (σ4, z3))
theorem w_f_X8_into_52 {G : Wld} {X : Cxt} (C : Cx G X RX8 cX8_into 6 3) {σ : Sto} {a2 : Int32} {a3 : Int32} {a4 : Int32} {y : Sto × Int32} (h : f_X8_into_52 σ a2 a3 a4 = some y) (hK : Rx G X (some .int) (some (.int y.2)) y.1) : V G X 6 σ [(0, .ref (G.1 39)), (1, .ref (G.1 52)), (2, .int a2), (3, .int a3), (4, .int a4)] [] 0 := by
  unfold f_X8_into_52 at h
  refine v_aload_n 0 C 0 0 dX8_into_0 rfl rfl ?_
  refine v_iload_n 1 C 3 3 dX8_into_1 rfl rfl ?_
  refine v_iload 2 C 4 4 dX8_into_2 rfl ?_
  refine r_f_X8_takeNumber 4 C (by decide) q_982 dX8_into_4 (Nat.le_of_ble_eq_true rfl) h (fun σ1 v2 h => ?_)
  refine b_istore 7 C 5 (lv2 := fun z3 => [(5, .int z3), (0, .ref (G.1 39)), (1, .ref (G.1 52)), (2, .int a2), (3, .int a3), (4, .int a4)]) dX8_into_7 (by decide) (fun _ => rfl) h (fun z3 h => ?_)
  refine v_aload_n 9 C 1 2 dX8_into_9 rfl rfl ?_
  refine v_iload_n 10 C 2 3 dX8_into_10 rfl rfl ?_
  refine v_aload_n 11 C 0 1 dX8_into_11 rfl rfl ?_
  refine g_X8_39_26 12 C dX8_into_12 ?_
  refine b_iast 15 C 52 (by decide) (ce_52 G) dX8_into_15 h (fun σ4 h => ?_)
  refine v_iload 16 C 5 0 dX8_into_16 rfl ?_
  cases h
  exact v_iret 18 C hK dX8_into_18
theorem c_f_X8_into_52 (l : Launch) (G : Wld) (hG : GI G) (σ : Sto) (a2 : Int32) (a3 : Int32) (a4 : Int32) (y : Sto × Int32) (h : f_X8_into_52 σ a2 a3 a4 = some y) : Ct l G yX8_into cX8_into 6 (some .int) 3 [.ref (G.1 39), .ref (G.1 52), .int a2, .int a3, .int a4] σ (some (.int y.2)) y.1 := by
  refine ct_intro RX8 hG (by decide) rfl (Nat.le_of_ble_eq_true rfl) (fun X hX C hK => ?_)
  subst hX
  exact w_f_X8_into_52 C h hK
theorem r_f_X8_into_52 {G : Wld} {X : Cxt} {own : String} {cc : ByteArray} {nL n : Nat} {σ : Sto} {lv : List (Nat × Value)} {st : List Value} {β : Type} {r : β} {F : Sto → Int32 → Option β} {a2 : Int32} {a3 : Int32} {a4 : Int32} {ix : Nat} (pc : Nat) (C : Cx G X own cc nL n) (hn : 3 < n) (h1 : Cond.methodLink own ix yX8_into ∈ lw_gd) (hd : decode cc pc = .ok (.invokevirtual ix, 3)) (hsum : (st.map fun v => v.category).sum ≤ 8) (h : bd2 (f_X8_into_52 σ a2 a3 a4) F = some r) (kk : ∀ σ1 v, F σ1 v = some r → V G X nL σ1 lv (.int v :: st) (pc + 3)) : V G X nL σ lv (.int a4 :: .int a3 :: .int a2 :: .ref (G.1 52) :: .ref (G.1 39) :: st) pc := by
  obtain ⟨z, hz, h⟩ := bd2_some h
  exact v_callV pc C 39 4 [.ref (G.1 52), .int a2, .int a3, .int a4] st (c_f_X8_into_52 (xl X) G C.2.2.2.2.2.2.1 _ _ _ _ _ hz) hn (by decide) (by decide) (ce_39 G _ _) rfl (by decide +kernel) rfl h1 q_994 q_29 q_68 q_995 rfl hsum hd (kk _ _ h)
-- f_X8_into_53
def f_X8_into_53 (σ : Sto) (a2 : Int32) (a3 : Int32) (a4 : Int32) : Option (Sto × Int32) :=
  bd2 (f_X8_takeNumber σ a3 a4) fun σ1 v2 => bs v2 fun z3 => gd (inB a2 4) (bs (su σ1 53 (a2).toNatClampNeg (σ1.1 39 26)) fun σ4 => some (σ4, z3))
theorem w_f_X8_into_53 {G : Wld} {X : Cxt} (C : Cx G X RX8 cX8_into 6 3) {σ : Sto} {a2 : Int32} {a3 : Int32} {a4 : Int32} {y : Sto × Int32} (h : f_X8_into_53 σ a2 a3 a4 = some y) (hK : Rx G X (some .int) (some (.int y.2)) y.1) : V G X 6 σ [(0, .ref (G.1 39)), (1, .ref (G.1 53)), (2, .int a2), (3, .int a3), (4, .int a4)] [] 0 := by
  unfold f_X8_into_53 at h
  refine v_aload_n 0 C 0 0 dX8_into_0 rfl rfl ?_
  refine v_iload_n 1 C 3 3 dX8_into_1 rfl rfl ?_
  refine v_iload 2 C 4 4 dX8_into_2 rfl ?_
  refine r_f_X8_takeNumber 4 C (by decide) q_982 dX8_into_4 (Nat.le_of_ble_eq_true rfl) h (fun σ1 v2 h => ?_)
  refine b_istore 7 C 5 (lv2 := fun z3 => [(5, .int z3), (0, .ref (G.1 39)), (1, .ref (G.1 53)), (2, .int a2), (3, .int a3), (4, .int a4)]) dX8_into_7 (by decide) (fun _ => rfl) h (fun z3 h => ?_)
  refine v_aload_n 9 C 1 2 dX8_into_9 rfl rfl ?_
  refine v_iload_n 10 C 2 3 dX8_into_10 rfl rfl ?_
  refine v_aload_n 11 C 0 1 dX8_into_11 rfl rfl ?_
  refine g_X8_39_26 12 C dX8_into_12 ?_
  refine b_iast 15 C 53 (by decide) (ce_53 G) dX8_into_15 h (fun σ4 h => ?_)
  refine v_iload 16 C 5 0 dX8_into_16 rfl ?_
  cases h
  exact v_iret 18 C hK dX8_into_18
theorem c_f_X8_into_53 (l : Launch) (G : Wld) (hG : GI G) (σ : Sto) (a2 : Int32) (a3 : Int32) (a4 : Int32) (y : Sto × Int32) (h : f_X8_into_53 σ a2 a3 a4 = some y) : Ct l G yX8_into cX8_into 6 (some .int) 3 [.ref (G.1 39), .ref (G.1 53), .int a2, .int a3, .int a4] σ (some (.int y.2)) y.1 := by
  refine ct_intro RX8 hG (by decide) rfl (Nat.le_of_ble_eq_true rfl) (fun X hX C hK => ?_)
  subst hX
  exact w_f_X8_into_53 C h hK
theorem r_f_X8_into_53 {G : Wld} {X : Cxt} {own : String} {cc : ByteArray} {nL n : Nat} {σ : Sto} {lv : List (Nat × Value)} {st : List Value} {β : Type} {r : β} {F : Sto → Int32 → Option β} {a2 : Int32} {a3 : Int32} {a4 : Int32} {ix : Nat} (pc : Nat) (C : Cx G X own cc nL n) (hn : 3 < n) (h1 : Cond.methodLink own ix yX8_into ∈ lw_gd) (hd : decode cc pc = .ok (.invokevirtual ix, 3)) (hsum : (st.map fun v => v.category).sum ≤ 8) (h : bd2 (f_X8_into_53 σ a2 a3 a4) F = some r) (kk : ∀ σ1 v, F σ1 v = some r → V G X nL σ1 lv (.int v :: st) (pc + 3)) : V G X nL σ lv (.int a4 :: .int a3 :: .int a2 :: .ref (G.1 53) :: .ref (G.1 39) :: st) pc := by
  obtain ⟨z, hz, h⟩ := bd2_some h
  exact v_callV pc C 39 4 [.ref (G.1 53), .int a2, .int a3, .int a4] st (c_f_X8_into_53 (xl X) G C.2.2.2.2.2.2.1 _ _ _ _ _ hz) hn (by decide) (by decide) (ce_39 G _ _) rfl (by decide +kernel) rfl h1 q_994 q_29 q_68 q_995 rfl hsum hd (kk _ _ h)
-- f_X8_takeBell
def f_X8_takeBell_j48 (σ : Sto) (s0 : Int32) : Option (Sto × Int32) :=
  some (σ, s0)
def f_X8_takeBell (σ : Sto) : Option (Sto × Int32) :=
  bs (σ.1 39 30) fun z1 => bs (su σ 39 30 ((σ.1 39 30) + (1 : Int32))) fun σ2 => bd2 (f_X8_into_52 σ2 z1 (0 : Int32) (99 : Int32)) fun σ3 v4 => bs v4 fun z5 => if z5 ≤ 0 then (bd2 (f_X8_into_53 σ3 z1 (0 : Int32) (9 : Int32)) fun σ6 v7 => f_X8_takeBell_j48 σ6 v7) else (f_X8_takeBell_j48 σ3 z5)
theorem w_f_X8_takeBell_j48 {G : Wld} {X : Cxt} (C : Cx G X RX8 cX8_takeBell 3 4) {σ : Sto} {s0 : Int32} {y : Sto × Int32} (h : f_X8_takeBell_j48 σ s0 = some y) (hK : Rx G X (some .int) (some (.int y.2)) y.1) : V G X 3 σ [(0, .ref (G.1 39))] [.int s0] 48 := by
  unfold f_X8_takeBell_j48 at h
  cases h
  exact v_iret 48 C hK dX8_takeBell_48
theorem w_f_X8_takeBell {G : Wld} {X : Cxt} (C : Cx G X RX8 cX8_takeBell 3 4) {σ : Sto} {y : Sto × Int32} (h : f_X8_takeBell σ = some y) (hK : Rx G X (some .int) (some (.int y.2)) y.1) : V G X 3 σ [(0, .ref (G.1 39))] [] 0 := by
  unfold f_X8_takeBell at h
  refine v_aload_n 0 C 0 0 dX8_takeBell_0 rfl rfl ?_
  refine g_X8_39_30 1 C dX8_takeBell_1 ?_
  refine b_istore_n 4 C 1 (lv2 := fun z1 => [(1, .int z1), (0, .ref (G.1 39))]) dX8_takeBell_4 rfl (by decide) (fun _ => rfl) h (fun z1 h => ?_)
  refine v_aload_n 5 C 0 1 dX8_takeBell_5 rfl rfl ?_
  refine v_dup 6 C dX8_takeBell_6 rfl ?_
  refine g_X8_39_30 7 C dX8_takeBell_7 ?_
  refine v_iconst 10 C (1 : Int32) dX8_takeBell_10 (by decide) ?_
  refine v_iadd 11 C dX8_takeBell_11 ?_
  refine p_X8_39_30 12 C dX8_takeBell_12 h (fun σ2 h => ?_)
  refine v_aload_n 15 C 0 1 dX8_takeBell_15 rfl rfl ?_
  refine v_aload_n 16 C 0 1 dX8_takeBell_16 rfl rfl ?_
  refine g_X8_39_31 17 C dX8_takeBell_17 ?_
  refine v_iload_n 20 C 1 0 dX8_takeBell_20 rfl rfl ?_
  refine v_iconst 21 C (0 : Int32) dX8_takeBell_21 (by decide) ?_
  refine v_bipush 22 C (99 : Int32) dX8_takeBell_22 (by decide) ?_
  refine r_f_X8_into_52 24 C (by decide) q_992 dX8_takeBell_24 (Nat.le_of_ble_eq_true rfl) h (fun σ3 v4 h => ?_)
  refine b_istore_n 27 C 2 (lv2 := fun z5 => [(2, .int z5), (1, .int z1), (0, .ref (G.1 39))]) dX8_takeBell_27 rfl (by decide) (fun _ => rfl) h (fun z5 h => ?_)
  refine v_iload_n 28 C 2 0 dX8_takeBell_28 rfl rfl ?_
  refine v_if_le 29 C 36 dX8_takeBell_29 (by decide) h (fun h => ?_) (fun h => ?_)
  · refine v_aload_n 36 C 0 2 dX8_takeBell_36 rfl rfl ?_
    refine v_aload_n 37 C 0 2 dX8_takeBell_37 rfl rfl ?_
    refine g_X8_39_32 38 C dX8_takeBell_38 ?_
    refine v_iload_n 41 C 1 1 dX8_takeBell_41 rfl rfl ?_
    refine v_iconst 42 C (0 : Int32) dX8_takeBell_42 (by decide) ?_
    refine v_bipush 43 C (9 : Int32) dX8_takeBell_43 (by decide) ?_
    refine r_f_X8_into_53 45 C (by decide) q_992 dX8_takeBell_45 (Nat.le_of_ble_eq_true rfl) h (fun σ6 v7 h => ?_)
    exact v_sub [2] rfl (w_f_X8_takeBell_j48 C h hK)
  · refine v_iload_n 32 C 2 0 dX8_takeBell_32 rfl rfl ?_
    refine v_goto 33 C 48 dX8_takeBell_33 (by decide) ?_
    exact v_sub [2] rfl (w_f_X8_takeBell_j48 C h hK)
theorem c_f_X8_takeBell (l : Launch) (G : Wld) (hG : GI G) (σ : Sto) (y : Sto × Int32) (h : f_X8_takeBell σ = some y) : Ct l G yX8_takeBell cX8_takeBell 3 (some .int) 4 [.ref (G.1 39)] σ (some (.int y.2)) y.1 := by
  refine ct_intro RX8 hG (by decide) rfl (Nat.le_of_ble_eq_true rfl) (fun X hX C hK => ?_)
  subst hX
  exact w_f_X8_takeBell C h hK
theorem r_f_X8_takeBell {G : Wld} {X : Cxt} {own : String} {cc : ByteArray} {nL n : Nat} {σ : Sto} {lv : List (Nat × Value)} {st : List Value} {β : Type} {r : β} {F : Sto → Int32 → Option β} {ix : Nat} (pc : Nat) (C : Cx G X own cc nL n) (hn : 4 < n) (h1 : Cond.methodLink own ix yX8_takeBell ∈ lw_gd) (hd : decode cc pc = .ok (.invokevirtual ix, 3)) (hsum : (st.map fun v => v.category).sum ≤ 8) (h : bd2 (f_X8_takeBell σ) F = some r) (kk : ∀ σ1 v, F σ1 v = some r → V G X nL σ1 lv (.int v :: st) (pc + 3)) : V G X nL σ lv (.ref (G.1 39) :: st) pc := by
  obtain ⟨z, hz, h⟩ := bd2_some h
  exact v_callV pc C 39 0 [] st (c_f_X8_takeBell (xl X) G C.2.2.2.2.2.2.1 _ _ hz) hn (by decide) (by decide) (ce_39 G _ _) rfl (by decide +kernel) rfl h1 q_990 q_28 q_68 q_991 rfl hsum hd (kk _ _ h)
-- f_X8_takeYear
def f_X8_takeYear (σ : Sto) : Option (Sto × Int32) :=
  bd2 (f_X8_takeNumber σ (1 : Int32) (60 : Int32)) fun σ1 v2 => bs v2 fun z3 => bs (su σ1 39 28 (σ1.1 39 26)) fun σ4 => some (σ4, z3)
theorem w_f_X8_takeYear {G : Wld} {X : Cxt} (C : Cx G X RX8 cX8_takeYear 2 3) {σ : Sto} {y : Sto × Int32} (h : f_X8_takeYear σ = some y) (hK : Rx G X (some .int) (some (.int y.2)) y.1) : V G X 2 σ [(0, .ref (G.1 39))] [] 0 := by
  unfold f_X8_takeYear at h
  refine v_aload_n 0 C 0 0 dX8_takeYear_0 rfl rfl ?_
  refine v_iconst 1 C (1 : Int32) dX8_takeYear_1 (by decide) ?_
  refine v_bipush 2 C (60 : Int32) dX8_takeYear_2 (by decide) ?_
  refine r_f_X8_takeNumber 4 C (by decide) q_982 dX8_takeYear_4 (Nat.le_of_ble_eq_true rfl) h (fun σ1 v2 h => ?_)
  refine b_istore_n 7 C 1 (lv2 := fun z3 => [(1, .int z3), (0, .ref (G.1 39))]) dX8_takeYear_7 rfl (by decide) (fun _ => rfl) h (fun z3 h => ?_)
  refine v_aload_n 8 C 0 1 dX8_takeYear_8 rfl rfl ?_
  refine v_aload_n 9 C 0 1 dX8_takeYear_9 rfl rfl ?_
  refine g_X8_39_26 10 C dX8_takeYear_10 ?_
  refine p_X8_39_28 13 C dX8_takeYear_13 h (fun σ4 h => ?_)
  refine v_iload_n 16 C 1 0 dX8_takeYear_16 rfl rfl ?_
  cases h
  exact v_iret 17 C hK dX8_takeYear_17
theorem c_f_X8_takeYear (l : Launch) (G : Wld) (hG : GI G) (σ : Sto) (y : Sto × Int32) (h : f_X8_takeYear σ = some y) : Ct l G yX8_takeYear cX8_takeYear 2 (some .int) 3 [.ref (G.1 39)] σ (some (.int y.2)) y.1 := by
  refine ct_intro RX8 hG (by decide) rfl (Nat.le_of_ble_eq_true rfl) (fun X hX C hK => ?_)
  subst hX
  exact w_f_X8_takeYear C h hK
theorem r_f_X8_takeYear {G : Wld} {X : Cxt} {own : String} {cc : ByteArray} {nL n : Nat} {σ : Sto} {lv : List (Nat × Value)} {st : List Value} {β : Type} {r : β} {F : Sto → Int32 → Option β} {ix : Nat} (pc : Nat) (C : Cx G X own cc nL n) (hn : 3 < n) (h1 : Cond.methodLink own ix yX8_takeYear ∈ lw_gd) (hd : decode cc pc = .ok (.invokevirtual ix, 3)) (hsum : (st.map fun v => v.category).sum ≤ 8) (h : bd2 (f_X8_takeYear σ) F = some r) (kk : ∀ σ1 v, F σ1 v = some r → V G X nL σ1 lv (.int v :: st) (pc + 3)) : V G X nL σ lv (.ref (G.1 39) :: st) pc := by
  obtain ⟨z, hz, h⟩ := bd2_some h
  exact v_callV pc C 39 0 [] st (c_f_X8_takeYear (xl X) G C.2.2.2.2.2.2.1 _ _ hz) hn (by decide) (by decide) (ce_39 G _ _) rfl (by decide +kernel) rfl h1 q_980 q_26 q_68 q_981 rfl hsum hd (kk _ _ h)
-- f_X8_takeClause
def f_X8_takeClause_j166 (σ : Sto) : Option (Sto × Int32) :=
  bd2 (f_X8_fails σ (1 : Int32) (σ.1 39 23)) fun σ27 v28 => some (σ27, v28)
def f_X8_takeClause_j391 (σ : Sto) (x4 : Int32) : Option (Sto × Int32) :=
  bs (su σ 39 23 ((σ.1 39 23) + (1 : Int32))) fun σ35 => some (σ35, x4)
def f_X8_takeClause_j365 (σ : Sto) (s0 : Int32) : Option (Sto × Int32) :=
  bs s0 fun z34 => if z34 = 0 then (bd2 (f_X8_here σ) fun σ36 v37 => if v37 = (59 : Int32) then (f_X8_takeClause_j391 σ36 z34) else (bd2 (f_X8_fails σ36 (1 : Int32) (σ36.1 39 23)) fun σ38 v39 => some (σ38, v39))) else (f_X8_takeClause_j391 σ z34)
def f_X8_takeClause_j310 (σ : Sto) (x2 : Int32) (s0 : Int32) (s1 : Int32) : Option (Sto × Int32) :=
  bs (su σ 39 29 (s1 + s0)) fun σ31 => if x2 = 0 then (bd2 (f_X8_takeYear σ31) fun σ46 v47 => f_X8_takeClause_j365 σ46 v47) else (if x2 = (1 : Int32) then (bd2 (f_X8_takeBell σ31) fun σ44 v45 => f_X8_takeClause_j365 σ44 v45) else (if x2 = (2 : Int32) then (bd2 (f_X8_takeSpot σ31) fun σ42 v43 => f_X8_takeClause_j365 σ42 v43) else (if x2 = (3 : Int32) then (bd2 (f_X8_takeBeggar σ31) fun σ40 v41 => f_X8_takeClause_j365 σ40 v41) else (bd2 (f_X8_takeHat σ31) fun σ32 v33 => f_X8_takeClause_j365 σ32 v33))))
def f_X8_takeClause_j273 (σ : Sto) (x2 : Int32) (s0 : Int32) : Option (Sto × Int32) :=
  bs s0 fun z29 => if z29 = 0 then (bs (su σ 39 23 (σ.1 39 25)) fun σ30 => if x2 = 0 then (f_X8_takeClause_j310 σ30 x2 (0 : Int32) (σ30.1 39 29)) else (f_X8_takeClause_j310 σ30 x2 (1 : Int32) (σ30.1 39 29))) else (bd2 (f_X8_fails σ (3 : Int32) (σ.1 39 23)) fun σ48 v49 => some (σ48, v49))
def f_X8_takeClause_j176 (σ : Sto) (x2 : Int32) : Option (Sto × Int32) :=
  if x2 = 0 then (if (σ.1 39 28) ≤ 0 then (f_X8_takeClause_j273 σ x2 (0 : Int32)) else (f_X8_takeClause_j273 σ x2 (1 : Int32))) else (if x2 = (1 : Int32) then (if (σ.1 39 30) = (4 : Int32) then (f_X8_takeClause_j273 σ x2 (1 : Int32)) else (f_X8_takeClause_j273 σ x2 (0 : Int32))) else (if x2 = (2 : Int32) then (if (σ.1 39 33) = (6 : Int32) then (f_X8_takeClause_j273 σ x2 (1 : Int32)) else (f_X8_takeClause_j273 σ x2 (0 : Int32))) else (if x2 = (3 : Int32) then (if (σ.1 39 37) = (6 : Int32) then (f_X8_takeClause_j273 σ x2 (1 : Int32)) else (f_X8_takeClause_j273 σ x2 (0 : Int32))) else (if (σ.1 39 39) = (4 : Int32) then (f_X8_takeClause_j273 σ x2 (1 : Int32)) else (f_X8_takeClause_j273 σ x2 (0 : Int32))))))
def f_X8_takeClause_j150 (σ : Sto) (s0 : Int32) : Option (Sto × Int32) :=
  bs s0 fun z26 => if z26 < 0 then (f_X8_takeClause_j166 σ) else (if z26 = 0 then (if (σ.1 39 29) ≤ 0 then (f_X8_takeClause_j176 σ z26) else (f_X8_takeClause_j166 σ)) else (f_X8_takeClause_j176 σ z26))
def f_X8_takeClause_j83 (σ : Sto) (s0 : Int32) : Option (Sto × Int32) :=
  bs s0 fun z15 => if z15 < 0 then (bd2 (f_X8_code σ (98 : Int32) (101 : Int32) (103 : Int32)) fun σ16 v17 => bd2 (f_X8_more σ16 v17 (103 : Int32)) fun σ18 v19 => bd2 (f_X8_more σ18 v19 (97 : Int32)) fun σ20 v21 => bd2 (f_X8_more σ20 v21 (114 : Int32)) fun σ22 v23 => if (lg_cmp (σ.2 39) v23) = 0 then (f_X8_takeClause_j150 σ22 (3 : Int32)) else (bd2 (f_X8_code σ22 (104 : Int32) (97 : Int32) (116 : Int32)) fun σ24 v25 => if (lg_cmp (σ22.2 39) v25) = 0 then (f_X8_takeClause_j150 σ24 (4 : Int32)) else (f_X8_takeClause_j150 σ24 (-1 : Int32)))) else (f_X8_takeClause_j150 σ z15)
def f_X8_takeClause (σ : Sto) : Option (Sto × Int32) :=
  bd1 (f_X8_readWord σ) fun σ1 => bd2 (f_X8_code σ1 (121 : Int32) (101 : Int32) (97 : Int32)) fun σ3 v4 => bd2 (f_X8_more σ3 v4 (114 : Int32)) fun σ5 v6 => if (lg_cmp (σ1.2 39) v6) = 0 then (f_X8_takeClause_j83 σ5 (0 : Int32)) else (bd2 (f_X8_code σ5 (98 : Int32) (101 : Int32) (108 : Int32)) fun σ7 v8 => bd2 (f_X8_more σ7 v8 (108 : Int32)) fun σ9 v10 => if (lg_cmp (σ5.2 39) v10) = 0 then (f_X8_takeClause_j83 σ9 (1 : Int32)) else (bd2 (f_X8_code σ9 (115 : Int32) (112 : Int32) (111 : Int32)) fun σ11 v12 => bd2 (f_X8_more σ11 v12 (116 : Int32)) fun σ13 v14 => if (lg_cmp (σ9.2 39) v14) = 0 then (f_X8_takeClause_j83 σ13 (2 : Int32)) else (f_X8_takeClause_j83 σ13 (-1 : Int32))))
theorem w_f_X8_takeClause_j166 {G : Wld} {X : Cxt} (C : Cx G X RX8 cX8_takeClause 5 5) {σ : Sto} {y : Sto × Int32} (h : f_X8_takeClause_j166 σ = some y) (hK : Rx G X (some .int) (some (.int y.2)) y.1) : V G X 5 σ [(0, .ref (G.1 39))] [] 166 := by
  unfold f_X8_takeClause_j166 at h
  refine v_aload_n 166 C 0 0 dX8_takeClause_166 rfl rfl ?_
  refine v_iconst 167 C (1 : Int32) dX8_takeClause_167 (by decide) ?_
  refine v_aload_n 168 C 0 0 dX8_takeClause_168 rfl rfl ?_
  refine g_X8_39_23 169 C dX8_takeClause_169 ?_
  refine r_f_X8_fails 172 C (by decide) q_974 dX8_takeClause_172 (Nat.le_of_ble_eq_true rfl) h (fun σ27 v28 h => ?_)
  cases h
  exact v_iret 175 C hK dX8_takeClause_175
theorem w_f_X8_takeClause_j391 {G : Wld} {X : Cxt} (C : Cx G X RX8 cX8_takeClause 5 5) {σ : Sto} {x4 : Int32} {y : Sto × Int32} (h : f_X8_takeClause_j391 σ x4 = some y) (hK : Rx G X (some .int) (some (.int y.2)) y.1) : V G X 5 σ [(0, .ref (G.1 39)), (4, .int x4)] [] 391 := by
  unfold f_X8_takeClause_j391 at h
  refine v_aload_n 391 C 0 0 dX8_takeClause_391 rfl rfl ?_
  refine v_dup 392 C dX8_takeClause_392 rfl ?_
  refine g_X8_39_23 393 C dX8_takeClause_393 ?_
  refine v_iconst 396 C (1 : Int32) dX8_takeClause_396 (by decide) ?_
  refine v_iadd 397 C dX8_takeClause_397 ?_
  refine p_X8_39_23 398 C dX8_takeClause_398 h (fun σ35 h => ?_)
  refine v_iload 401 C 4 1 dX8_takeClause_401 rfl ?_
  cases h
  exact v_iret 403 C hK dX8_takeClause_403
theorem w_f_X8_takeClause_j365 {G : Wld} {X : Cxt} (C : Cx G X RX8 cX8_takeClause 5 5) {σ : Sto} {s0 : Int32} {y : Sto × Int32} (h : f_X8_takeClause_j365 σ s0 = some y) (hK : Rx G X (some .int) (some (.int y.2)) y.1) : V G X 5 σ [(0, .ref (G.1 39))] [.int s0] 365 := by
  unfold f_X8_takeClause_j365 at h
  refine b_istore 365 C 4 (lv2 := fun z34 => [(4, .int z34), (0, .ref (G.1 39))]) dX8_takeClause_365 (by decide) (fun _ => rfl) h (fun z34 h => ?_)
  refine v_iload 367 C 4 0 dX8_takeClause_367 rfl ?_
  refine v_if_ne 369 C 391 dX8_takeClause_369 (by decide) h (fun h => ?_) (fun h => ?_)
  · exact v_sub [1, 0] rfl (w_f_X8_takeClause_j391 C h hK)
  · refine v_aload_n 372 C 0 1 dX8_takeClause_372 rfl rfl ?_
    refine r_f_X8_here 373 C (by decide) q_950 dX8_takeClause_373 (Nat.le_of_ble_eq_true rfl) h (fun σ36 v37 h => ?_)
    refine v_bipush 376 C (59 : Int32) dX8_takeClause_376 (by decide) ?_
    refine v_icmp_eq 378 C 391 dX8_takeClause_378 (by decide) h (fun h => ?_) (fun h => ?_)
    · exact v_sub [1, 0] rfl (w_f_X8_takeClause_j391 C h hK)
    · refine v_aload_n 381 C 0 1 dX8_takeClause_381 rfl rfl ?_
      refine v_iconst 382 C (1 : Int32) dX8_takeClause_382 (by decide) ?_
      refine v_aload_n 383 C 0 1 dX8_takeClause_383 rfl rfl ?_
      refine g_X8_39_23 384 C dX8_takeClause_384 ?_
      refine r_f_X8_fails 387 C (by decide) q_974 dX8_takeClause_387 (Nat.le_of_ble_eq_true rfl) h (fun σ38 v39 h => ?_)
      cases h
      exact v_iret 390 C hK dX8_takeClause_390
theorem w_f_X8_takeClause_j310 {G : Wld} {X : Cxt} (C : Cx G X RX8 cX8_takeClause 5 5) {σ : Sto} {x2 : Int32} {s0 : Int32} {s1 : Int32} {y : Sto × Int32} (h : f_X8_takeClause_j310 σ x2 s0 s1 = some y) (hK : Rx G X (some .int) (some (.int y.2)) y.1) : V G X 5 σ [(0, .ref (G.1 39)), (2, .int x2)] [.int s0, .int s1, .ref (G.1 39)] 310 := by
  unfold f_X8_takeClause_j310 at h
  refine v_iadd 310 C dX8_takeClause_310 ?_
  refine p_X8_39_29 311 C dX8_takeClause_311 h (fun σ31 h => ?_)
  refine v_iload_n 314 C 2 1 dX8_takeClause_314 rfl rfl ?_
  refine v_if_ne 315 C 325 dX8_takeClause_315 (by decide) h (fun h => ?_) (fun h => ?_)
  · refine v_iload_n 325 C 2 1 dX8_takeClause_325 rfl rfl ?_
    refine v_iconst 326 C (1 : Int32) dX8_takeClause_326 (by decide) ?_
    refine v_icmp_ne 327 C 337 dX8_takeClause_327 (by decide) h (fun h => ?_) (fun h => ?_)
    · refine v_iload_n 337 C 2 1 dX8_takeClause_337 rfl rfl ?_
      refine v_iconst 338 C (2 : Int32) dX8_takeClause_338 (by decide) ?_
      refine v_icmp_ne 339 C 349 dX8_takeClause_339 (by decide) h (fun h => ?_) (fun h => ?_)
      · refine v_iload_n 349 C 2 1 dX8_takeClause_349 rfl rfl ?_
        refine v_iconst 350 C (3 : Int32) dX8_takeClause_350 (by decide) ?_
        refine v_icmp_ne 351 C 361 dX8_takeClause_351 (by decide) h (fun h => ?_) (fun h => ?_)
        · refine v_aload_n 361 C 0 0 dX8_takeClause_361 rfl rfl ?_
          refine r_f_X8_takeHat 362 C (by decide) q_1004 dX8_takeClause_362 (Nat.le_of_ble_eq_true rfl) h (fun σ32 v33 h => ?_)
          exact v_sub [0] rfl (w_f_X8_takeClause_j365 C h hK)
        · refine v_aload_n 354 C 0 0 dX8_takeClause_354 rfl rfl ?_
          refine r_f_X8_takeBeggar 355 C (by decide) q_1000 dX8_takeClause_355 (Nat.le_of_ble_eq_true rfl) h (fun σ40 v41 h => ?_)
          refine v_goto 358 C 365 dX8_takeClause_358 (by decide) ?_
          exact v_sub [0] rfl (w_f_X8_takeClause_j365 C h hK)
      · refine v_aload_n 342 C 0 0 dX8_takeClause_342 rfl rfl ?_
        refine r_f_X8_takeSpot 343 C (by decide) q_996 dX8_takeClause_343 (Nat.le_of_ble_eq_true rfl) h (fun σ42 v43 h => ?_)
        refine v_goto 346 C 365 dX8_takeClause_346 (by decide) ?_
        exact v_sub [0] rfl (w_f_X8_takeClause_j365 C h hK)
    · refine v_aload_n 330 C 0 0 dX8_takeClause_330 rfl rfl ?_
      refine r_f_X8_takeBell 331 C (by decide) q_988 dX8_takeClause_331 (Nat.le_of_ble_eq_true rfl) h (fun σ44 v45 h => ?_)
      refine v_goto 334 C 365 dX8_takeClause_334 (by decide) ?_
      exact v_sub [0] rfl (w_f_X8_takeClause_j365 C h hK)
  · refine v_aload_n 318 C 0 0 dX8_takeClause_318 rfl rfl ?_
    refine r_f_X8_takeYear 319 C (by decide) q_978 dX8_takeClause_319 (Nat.le_of_ble_eq_true rfl) h (fun σ46 v47 h => ?_)
    refine v_goto 322 C 365 dX8_takeClause_322 (by decide) ?_
    exact v_sub [0] rfl (w_f_X8_takeClause_j365 C h hK)
theorem w_f_X8_takeClause_j273 {G : Wld} {X : Cxt} (C : Cx G X RX8 cX8_takeClause 5 5) {σ : Sto} {x2 : Int32} {s0 : Int32} {y : Sto × Int32} (h : f_X8_takeClause_j273 σ x2 s0 = some y) (hK : Rx G X (some .int) (some (.int y.2)) y.1) : V G X 5 σ [(0, .ref (G.1 39)), (2, .int x2)] [.int s0] 273 := by
  unfold f_X8_takeClause_j273 at h
  refine b_istore_n 273 C 3 (lv2 := fun z29 => [(3, .int z29), (0, .ref (G.1 39)), (2, .int x2)]) dX8_takeClause_273 rfl (by decide) (fun _ => rfl) h (fun z29 h => ?_)
  refine v_iload_n 274 C 3 0 dX8_takeClause_274 rfl rfl ?_
  refine v_if_eq 275 C 288 dX8_takeClause_275 (by decide) h (fun h => ?_) (fun h => ?_)
  · refine v_aload_n 288 C 0 1 dX8_takeClause_288 rfl rfl ?_
    refine v_aload_n 289 C 0 1 dX8_takeClause_289 rfl rfl ?_
    refine g_X8_39_25 290 C dX8_takeClause_290 ?_
    refine p_X8_39_23 293 C dX8_takeClause_293 h (fun σ30 h => ?_)
    refine v_aload_n 296 C 0 1 dX8_takeClause_296 rfl rfl ?_
    refine v_dup 297 C dX8_takeClause_297 rfl ?_
    refine g_X8_39_29 298 C dX8_takeClause_298 ?_
    refine v_iload_n 301 C 2 2 dX8_takeClause_301 rfl rfl ?_
    refine v_if_ne 302 C 309 dX8_takeClause_302 (by decide) h (fun h => ?_) (fun h => ?_)
    · refine v_iconst 309 C (1 : Int32) dX8_takeClause_309 (by decide) ?_
      exact v_sub [1, 2] rfl (w_f_X8_takeClause_j310 C h hK)
    · refine v_iconst 305 C (0 : Int32) dX8_takeClause_305 (by decide) ?_
      refine v_goto 306 C 310 dX8_takeClause_306 (by decide) ?_
      exact v_sub [1, 2] rfl (w_f_X8_takeClause_j310 C h hK)
  · refine v_aload_n 278 C 0 1 dX8_takeClause_278 rfl rfl ?_
    refine v_iconst 279 C (3 : Int32) dX8_takeClause_279 (by decide) ?_
    refine v_aload_n 280 C 0 1 dX8_takeClause_280 rfl rfl ?_
    refine g_X8_39_23 281 C dX8_takeClause_281 ?_
    refine r_f_X8_fails 284 C (by decide) q_974 dX8_takeClause_284 (Nat.le_of_ble_eq_true rfl) h (fun σ48 v49 h => ?_)
    cases h
    exact v_iret 287 C hK dX8_takeClause_287
theorem w_f_X8_takeClause_j176 {G : Wld} {X : Cxt} (C : Cx G X RX8 cX8_takeClause 5 5) {σ : Sto} {x2 : Int32} {y : Sto × Int32} (h : f_X8_takeClause_j176 σ x2 = some y) (hK : Rx G X (some .int) (some (.int y.2)) y.1) : V G X 5 σ [(0, .ref (G.1 39)), (2, .int x2)] [] 176 := by
  unfold f_X8_takeClause_j176 at h
  refine v_iload_n 176 C 2 1 dX8_takeClause_176 rfl rfl ?_
  refine v_if_ne 177 C 195 dX8_takeClause_177 (by decide) h (fun h => ?_) (fun h => ?_)
  · refine v_iload_n 195 C 2 1 dX8_takeClause_195 rfl rfl ?_
    refine v_iconst 196 C (1 : Int32) dX8_takeClause_196 (by decide) ?_
    refine v_icmp_ne 197 C 216 dX8_takeClause_197 (by decide) h (fun h => ?_) (fun h => ?_)
    · refine v_iload_n 216 C 2 1 dX8_takeClause_216 rfl rfl ?_
      refine v_iconst 217 C (2 : Int32) dX8_takeClause_217 (by decide) ?_
      refine v_icmp_ne 218 C 238 dX8_takeClause_218 (by decide) h (fun h => ?_) (fun h => ?_)
      · refine v_iload_n 238 C 2 1 dX8_takeClause_238 rfl rfl ?_
        refine v_iconst 239 C (3 : Int32) dX8_takeClause_239 (by decide) ?_
        refine v_icmp_ne 240 C 260 dX8_takeClause_240 (by decide) h (fun h => ?_) (fun h => ?_)
        · refine v_aload_n 260 C 0 0 dX8_takeClause_260 rfl rfl ?_
          refine g_X8_39_39 261 C dX8_takeClause_261 ?_
          refine v_iconst 264 C (4 : Int32) dX8_takeClause_264 (by decide) ?_
          refine v_icmp_ne 265 C 272 dX8_takeClause_265 (by decide) h (fun h => ?_) (fun h => ?_)
          · refine v_iconst 272 C (0 : Int32) dX8_takeClause_272 (by decide) ?_
            exact v_sub [0, 1] rfl (w_f_X8_takeClause_j273 C h hK)
          · refine v_iconst 268 C (1 : Int32) dX8_takeClause_268 (by decide) ?_
            refine v_goto 269 C 273 dX8_takeClause_269 (by decide) ?_
            exact v_sub [0, 1] rfl (w_f_X8_takeClause_j273 C h hK)
        · refine v_aload_n 243 C 0 0 dX8_takeClause_243 rfl rfl ?_
          refine g_X8_39_37 244 C dX8_takeClause_244 ?_
          refine v_bipush 247 C (6 : Int32) dX8_takeClause_247 (by decide) ?_
          refine v_icmp_ne 249 C 256 dX8_takeClause_249 (by decide) h (fun h => ?_) (fun h => ?_)
          · refine v_iconst 256 C (0 : Int32) dX8_takeClause_256 (by decide) ?_
            refine v_goto 257 C 273 dX8_takeClause_257 (by decide) ?_
            exact v_sub [0, 1] rfl (w_f_X8_takeClause_j273 C h hK)
          · refine v_iconst 252 C (1 : Int32) dX8_takeClause_252 (by decide) ?_
            refine v_goto 253 C 273 dX8_takeClause_253 (by decide) ?_
            exact v_sub [0, 1] rfl (w_f_X8_takeClause_j273 C h hK)
      · refine v_aload_n 221 C 0 0 dX8_takeClause_221 rfl rfl ?_
        refine g_X8_39_33 222 C dX8_takeClause_222 ?_
        refine v_bipush 225 C (6 : Int32) dX8_takeClause_225 (by decide) ?_
        refine v_icmp_ne 227 C 234 dX8_takeClause_227 (by decide) h (fun h => ?_) (fun h => ?_)
        · refine v_iconst 234 C (0 : Int32) dX8_takeClause_234 (by decide) ?_
          refine v_goto 235 C 273 dX8_takeClause_235 (by decide) ?_
          exact v_sub [0, 1] rfl (w_f_X8_takeClause_j273 C h hK)
        · refine v_iconst 230 C (1 : Int32) dX8_takeClause_230 (by decide) ?_
          refine v_goto 231 C 273 dX8_takeClause_231 (by decide) ?_
          exact v_sub [0, 1] rfl (w_f_X8_takeClause_j273 C h hK)
    · refine v_aload_n 200 C 0 0 dX8_takeClause_200 rfl rfl ?_
      refine g_X8_39_30 201 C dX8_takeClause_201 ?_
      refine v_iconst 204 C (4 : Int32) dX8_takeClause_204 (by decide) ?_
      refine v_icmp_ne 205 C 212 dX8_takeClause_205 (by decide) h (fun h => ?_) (fun h => ?_)
      · refine v_iconst 212 C (0 : Int32) dX8_takeClause_212 (by decide) ?_
        refine v_goto 213 C 273 dX8_takeClause_213 (by decide) ?_
        exact v_sub [0, 1] rfl (w_f_X8_takeClause_j273 C h hK)
      · refine v_iconst 208 C (1 : Int32) dX8_takeClause_208 (by decide) ?_
        refine v_goto 209 C 273 dX8_takeClause_209 (by decide) ?_
        exact v_sub [0, 1] rfl (w_f_X8_takeClause_j273 C h hK)
  · refine v_aload_n 180 C 0 0 dX8_takeClause_180 rfl rfl ?_
    refine g_X8_39_28 181 C dX8_takeClause_181 ?_
    refine v_if_le 184 C 191 dX8_takeClause_184 (by decide) h (fun h => ?_) (fun h => ?_)
    · refine v_iconst 191 C (0 : Int32) dX8_takeClause_191 (by decide) ?_
      refine v_goto 192 C 273 dX8_takeClause_192 (by decide) ?_
      exact v_sub [0, 1] rfl (w_f_X8_takeClause_j273 C h hK)
    · refine v_iconst 187 C (1 : Int32) dX8_takeClause_187 (by decide) ?_
      refine v_goto 188 C 273 dX8_takeClause_188 (by decide) ?_
      exact v_sub [0, 1] rfl (w_f_X8_takeClause_j273 C h hK)
theorem w_f_X8_takeClause_j150 {G : Wld} {X : Cxt} (C : Cx G X RX8 cX8_takeClause 5 5) {σ : Sto} {s0 : Int32} {y : Sto × Int32} (h : f_X8_takeClause_j150 σ s0 = some y) (hK : Rx G X (some .int) (some (.int y.2)) y.1) : V G X 5 σ [(0, .ref (G.1 39))] [.int s0] 150 := by
  unfold f_X8_takeClause_j150 at h
  refine b_istore_n 150 C 2 (lv2 := fun z26 => [(2, .int z26), (0, .ref (G.1 39))]) dX8_takeClause_150 rfl (by decide) (fun _ => rfl) h (fun z26 h => ?_)
  refine v_iload_n 151 C 2 0 dX8_takeClause_151 rfl rfl ?_
  refine v_if_lt 152 C 166 dX8_takeClause_152 (by decide) h (fun h => ?_) (fun h => ?_)
  · exact v_sub [1] rfl (w_f_X8_takeClause_j166 C h hK)
  · refine v_iload_n 155 C 2 0 dX8_takeClause_155 rfl rfl ?_
    refine v_if_ne 156 C 176 dX8_takeClause_156 (by decide) h (fun h => ?_) (fun h => ?_)
    · exact v_sub [1, 0] rfl (w_f_X8_takeClause_j176 C h hK)
    · refine v_aload_n 159 C 0 1 dX8_takeClause_159 rfl rfl ?_
      refine g_X8_39_29 160 C dX8_takeClause_160 ?_
      refine v_if_le 163 C 176 dX8_takeClause_163 (by decide) h (fun h => ?_) (fun h => ?_)
      · exact v_sub [1, 0] rfl (w_f_X8_takeClause_j176 C h hK)
      · exact v_sub [1] rfl (w_f_X8_takeClause_j166 C h hK)
theorem w_f_X8_takeClause_j83 {G : Wld} {X : Cxt} (C : Cx G X RX8 cX8_takeClause 5 5) {σ : Sto} {s0 : Int32} {y : Sto × Int32} (h : f_X8_takeClause_j83 σ s0 = some y) (hK : Rx G X (some .int) (some (.int y.2)) y.1) : V G X 5 σ [(0, .ref (G.1 39))] [.int s0] 83 := by
  unfold f_X8_takeClause_j83 at h
  refine b_istore_n 83 C 1 (lv2 := fun z15 => [(1, .int z15), (0, .ref (G.1 39))]) dX8_takeClause_83 rfl (by decide) (fun _ => rfl) h (fun z15 h => ?_)
  refine v_iload_n 84 C 1 0 dX8_takeClause_84 rfl rfl ?_
  refine v_if_lt 85 C 92 dX8_takeClause_85 (by decide) h (fun h => ?_) (fun h => ?_)
  · refine v_aload_n 92 C 0 1 dX8_takeClause_92 rfl rfl ?_
    refine g_X8_39_24 93 C dX8_takeClause_93 ?_
    refine v_bipush 96 C (98 : Int32) dX8_takeClause_96 (by decide) ?_
    refine v_bipush 98 C (101 : Int32) dX8_takeClause_98 (by decide) ?_
    refine v_bipush 100 C (103 : Int32) dX8_takeClause_100 (by decide) ?_
    refine r_f_X8_code 102 C (by decide) q_968 dX8_takeClause_102 (Nat.le_of_ble_eq_true rfl) h (fun σ16 v17 h => ?_)
    refine v_bipush 105 C (103 : Int32) dX8_takeClause_105 (by decide) ?_
    refine r_f_X8_more 107 C (by decide) q_971 dX8_takeClause_107 (Nat.le_of_ble_eq_true rfl) h (fun σ18 v19 h => ?_)
    refine v_bipush 110 C (97 : Int32) dX8_takeClause_110 (by decide) ?_
    refine r_f_X8_more 112 C (by decide) q_971 dX8_takeClause_112 (Nat.le_of_ble_eq_true rfl) h (fun σ20 v21 h => ?_)
    refine v_bipush 115 C (114 : Int32) dX8_takeClause_115 (by decide) ?_
    refine r_f_X8_more 117 C (by decide) q_971 dX8_takeClause_117 (Nat.le_of_ble_eq_true rfl) h (fun σ22 v23 h => ?_)
    refine v_lcmp 120 C dX8_takeClause_120 ?_
    refine v_if_ne 121 C 128 dX8_takeClause_121 (by decide) h (fun h => ?_) (fun h => ?_)
    · refine v_aload_n 128 C 0 1 dX8_takeClause_128 rfl rfl ?_
      refine g_X8_39_24 129 C dX8_takeClause_129 ?_
      refine v_bipush 132 C (104 : Int32) dX8_takeClause_132 (by decide) ?_
      refine v_bipush 134 C (97 : Int32) dX8_takeClause_134 (by decide) ?_
      refine v_bipush 136 C (116 : Int32) dX8_takeClause_136 (by decide) ?_
      refine r_f_X8_code 138 C (by decide) q_968 dX8_takeClause_138 (Nat.le_of_ble_eq_true rfl) h (fun σ24 v25 h => ?_)
      refine v_lcmp 141 C dX8_takeClause_141 ?_
      refine v_if_ne 142 C 149 dX8_takeClause_142 (by decide) h (fun h => ?_) (fun h => ?_)
      · refine v_iconst 149 C (-1 : Int32) dX8_takeClause_149 (by decide) ?_
        exact v_sub [1] rfl (w_f_X8_takeClause_j150 C h hK)
      · refine v_iconst 145 C (4 : Int32) dX8_takeClause_145 (by decide) ?_
        refine v_goto 146 C 150 dX8_takeClause_146 (by decide) ?_
        exact v_sub [1] rfl (w_f_X8_takeClause_j150 C h hK)
    · refine v_iconst 124 C (3 : Int32) dX8_takeClause_124 (by decide) ?_
      refine v_goto 125 C 150 dX8_takeClause_125 (by decide) ?_
      exact v_sub [1] rfl (w_f_X8_takeClause_j150 C h hK)
  · refine v_iload_n 88 C 1 0 dX8_takeClause_88 rfl rfl ?_
    refine v_goto 89 C 150 dX8_takeClause_89 (by decide) ?_
    exact v_sub [1] rfl (w_f_X8_takeClause_j150 C h hK)
theorem w_f_X8_takeClause {G : Wld} {X : Cxt} (C : Cx G X RX8 cX8_takeClause 5 5) {σ : Sto} {y : Sto × Int32} (h : f_X8_takeClause σ = some y) (hK : Rx G X (some .int) (some (.int y.2)) y.1) : V G X 5 σ [(0, .ref (G.1 39))] [] 0 := by
  unfold f_X8_takeClause at h
  refine v_aload_n 0 C 0 0 dX8_takeClause_0 rfl rfl ?_
  refine r_f_X8_readWord 1 C (by decide) q_958 dX8_takeClause_1 (Nat.le_of_ble_eq_true rfl) h (fun σ1 h => ?_)
  refine v_aload_n 4 C 0 0 dX8_takeClause_4 rfl rfl ?_
  refine g_X8_39_24 5 C dX8_takeClause_5 ?_
  refine v_bipush 8 C (121 : Int32) dX8_takeClause_8 (by decide) ?_
  refine v_bipush 10 C (101 : Int32) dX8_takeClause_10 (by decide) ?_
  refine v_bipush 12 C (97 : Int32) dX8_takeClause_12 (by decide) ?_
  refine r_f_X8_code 14 C (by decide) q_968 dX8_takeClause_14 (Nat.le_of_ble_eq_true rfl) h (fun σ3 v4 h => ?_)
  refine v_bipush 17 C (114 : Int32) dX8_takeClause_17 (by decide) ?_
  refine r_f_X8_more 19 C (by decide) q_971 dX8_takeClause_19 (Nat.le_of_ble_eq_true rfl) h (fun σ5 v6 h => ?_)
  refine v_lcmp 22 C dX8_takeClause_22 ?_
  refine v_if_ne 23 C 30 dX8_takeClause_23 (by decide) h (fun h => ?_) (fun h => ?_)
  · refine v_aload_n 30 C 0 0 dX8_takeClause_30 rfl rfl ?_
    refine g_X8_39_24 31 C dX8_takeClause_31 ?_
    refine v_bipush 34 C (98 : Int32) dX8_takeClause_34 (by decide) ?_
    refine v_bipush 36 C (101 : Int32) dX8_takeClause_36 (by decide) ?_
    refine v_bipush 38 C (108 : Int32) dX8_takeClause_38 (by decide) ?_
    refine r_f_X8_code 40 C (by decide) q_968 dX8_takeClause_40 (Nat.le_of_ble_eq_true rfl) h (fun σ7 v8 h => ?_)
    refine v_bipush 43 C (108 : Int32) dX8_takeClause_43 (by decide) ?_
    refine r_f_X8_more 45 C (by decide) q_971 dX8_takeClause_45 (Nat.le_of_ble_eq_true rfl) h (fun σ9 v10 h => ?_)
    refine v_lcmp 48 C dX8_takeClause_48 ?_
    refine v_if_ne 49 C 56 dX8_takeClause_49 (by decide) h (fun h => ?_) (fun h => ?_)
    · refine v_aload_n 56 C 0 0 dX8_takeClause_56 rfl rfl ?_
      refine g_X8_39_24 57 C dX8_takeClause_57 ?_
      refine v_bipush 60 C (115 : Int32) dX8_takeClause_60 (by decide) ?_
      refine v_bipush 62 C (112 : Int32) dX8_takeClause_62 (by decide) ?_
      refine v_bipush 64 C (111 : Int32) dX8_takeClause_64 (by decide) ?_
      refine r_f_X8_code 66 C (by decide) q_968 dX8_takeClause_66 (Nat.le_of_ble_eq_true rfl) h (fun σ11 v12 h => ?_)
      refine v_bipush 69 C (116 : Int32) dX8_takeClause_69 (by decide) ?_
      refine r_f_X8_more 71 C (by decide) q_971 dX8_takeClause_71 (Nat.le_of_ble_eq_true rfl) h (fun σ13 v14 h => ?_)
      refine v_lcmp 74 C dX8_takeClause_74 ?_
      refine v_if_ne 75 C 82 dX8_takeClause_75 (by decide) h (fun h => ?_) (fun h => ?_)
      · refine v_iconst 82 C (-1 : Int32) dX8_takeClause_82 (by decide) ?_
        exact v_sub [0] rfl (w_f_X8_takeClause_j83 C h hK)
      · refine v_iconst 78 C (2 : Int32) dX8_takeClause_78 (by decide) ?_
        refine v_goto 79 C 83 dX8_takeClause_79 (by decide) ?_
        exact v_sub [0] rfl (w_f_X8_takeClause_j83 C h hK)
    · refine v_iconst 52 C (1 : Int32) dX8_takeClause_52 (by decide) ?_
      refine v_goto 53 C 83 dX8_takeClause_53 (by decide) ?_
      exact v_sub [0] rfl (w_f_X8_takeClause_j83 C h hK)
  · refine v_iconst 26 C (0 : Int32) dX8_takeClause_26 (by decide) ?_
    refine v_goto 27 C 83 dX8_takeClause_27 (by decide) ?_
    exact v_sub [0] rfl (w_f_X8_takeClause_j83 C h hK)
theorem c_f_X8_takeClause (l : Launch) (G : Wld) (hG : GI G) (σ : Sto) (y : Sto × Int32) (h : f_X8_takeClause σ = some y) : Ct l G yX8_takeClause cX8_takeClause 5 (some .int) 5 [.ref (G.1 39)] σ (some (.int y.2)) y.1 := by
  refine ct_intro RX8 hG (by decide) rfl (Nat.le_of_ble_eq_true rfl) (fun X hX C hK => ?_)
  subst hX
  exact w_f_X8_takeClause C h hK
theorem r_f_X8_takeClause {G : Wld} {X : Cxt} {own : String} {cc : ByteArray} {nL n : Nat} {σ : Sto} {lv : List (Nat × Value)} {st : List Value} {β : Type} {r : β} {F : Sto → Int32 → Option β} {ix : Nat} (pc : Nat) (C : Cx G X own cc nL n) (hn : 5 < n) (h1 : Cond.methodLink own ix yX8_takeClause ∈ lw_gd) (hd : decode cc pc = .ok (.invokevirtual ix, 3)) (hsum : (st.map fun v => v.category).sum ≤ 8) (h : bd2 (f_X8_takeClause σ) F = some r) (kk : ∀ σ1 v, F σ1 v = some r → V G X nL σ1 lv (.int v :: st) (pc + 3)) : V G X nL σ lv (.ref (G.1 39) :: st) pc := by
  obtain ⟨z, hz, h⟩ := bd2_some h
  exact v_callV pc C 39 0 [] st (c_f_X8_takeClause (xl X) G C.2.2.2.2.2.2.1 _ _ hz) hn (by decide) (by decide) (ce_39 G _ _) rfl (by decide +kernel) rfl h1 q_956 q_23 q_68 q_957 rfl hsum hd (kk _ _ h)
-- f_X8_square
def f_X8_square_l42 (σ : Sto) (x1 : Int32) : Option ((Sto × Int32) ⊕ (Sto × Int32)) :=
  if x1 = 0 then (bd2 (f_X8_here σ) fun σ10 v11 => if v11 < 0 then (some (.inr (σ10, x1))) else (bd2 (f_X8_takeClause σ10) fun σ12 v13 => bs v13 fun z14 => some (.inl (σ12, z14)))) else (some (.inr (σ, x1)))
def f_X8_square_l129 (σ : Sto) (x2 : Int32) : Option ((Sto × Int32) ⊕ (Sto × Int32)) :=
  if (4 : Int32) ≤ x2 then (some (.inr (σ, x2))) else (gd (inB x2 4) (gd (inB x2 4) (bs (su σ 40 (x2).toNatClampNeg (σ.1 52 (x2).toNatClampNeg)) fun σ25 => gd (inB x2 4) (gd (inB x2 4) (bs (su σ25 41 (x2).toNatClampNeg (σ25.1 53 (x2).toNatClampNeg)) fun σ26 => gd (inB x2 4) (gd (inB x2 4) (bs (su σ26 46 (x2).toNatClampNeg (σ26.1 58 (x2).toNatClampNeg)) fun σ27 => gd (inB x2 4) (gd (inB x2 4) (bs (su σ27 47 (x2).toNatClampNeg (σ27.1 59 (x2).toNatClampNeg)) fun σ28 => bs (x2 + (1 : Int32)) fun z29 => some (.inl (σ28, z29)))))))))))
def f_X8_square_l190 (σ : Sto) (x2 : Int32) : Option ((Sto × Int32) ⊕ (Sto × Int32)) :=
  if (6 : Int32) ≤ x2 then (some (.inr (σ, x2))) else (gd (inB x2 6) (gd (inB x2 6) (bs (su σ 42 (x2).toNatClampNeg (σ.1 54 (x2).toNatClampNeg)) fun σ34 => gd (inB x2 6) (gd (inB x2 6) (bs (su σ34 43 (x2).toNatClampNeg (σ34.1 55 (x2).toNatClampNeg)) fun σ35 => gd (inB x2 6) (gd (inB x2 6) (bs (su σ35 44 (x2).toNatClampNeg (σ35.1 56 (x2).toNatClampNeg)) fun σ36 => gd (inB x2 6) (gd (inB x2 7) (bs (su σ36 45 (x2).toNatClampNeg (σ36.1 57 (x2).toNatClampNeg)) fun σ37 => gd (inB x2 6) (bs (su σ37 50 (x2).toNatClampNeg (0 : Int32)) fun σ38 => bs (x2 + (1 : Int32)) fun z39 => some (.inl (σ38, z39))))))))))))
def f_X8_square_l259 (σ : Sto) (x2 : Int32) : Option ((Sto × Int32) ⊕ (Sto × Int32)) :=
  if (7 : Int32) ≤ x2 then (some (.inr (σ, x2))) else (gd (inB x2 7) (bs (su σ 48 (x2).toNatClampNeg (-1 : Int32)) fun σ44 => gd (inB x2 7) (bs (su σ44 49 (x2).toNatClampNeg (-1 : Int32)) fun σ45 => bs (x2 + (1 : Int32)) fun z46 => some (.inl (σ45, z46)))))
def f_X8_square_j92 (σ : Sto) (s0 : Int32) : Option (Sto × Int32) :=
  bs (su σ 39 0 s0) fun σ19 => bs (su σ19 39 1 (σ19.1 39 30)) fun σ20 => bs (su σ20 39 4 (σ20.1 39 33)) fun σ21 => bs (su σ21 39 8 (σ21.1 39 37)) fun σ22 => bs (su σ22 39 10 (σ22.1 39 39)) fun σ23 => bs (0 : Int32) fun z24 => bE1 (lpF (fun t => f_X8_square_l129 t.1 t.2) FU (σ23, z24)) (fun σ30 z31 => bs (0 : Int32) fun z33 => bE1 (lpF (fun t => f_X8_square_l190 t.1 t.2) FU (σ30, z33)) (fun σ40 z41 => bs (0 : Int32) fun z43 => bE1 (lpF (fun t => f_X8_square_l259 t.1 t.2) FU (σ40, z43)) (fun σ47 z48 => bs (su σ47 39 13 (0 : Int32)) fun σ50 => bs (su σ50 39 17 (0 : Int32)) fun σ51 => bs (su σ51 39 48 (0 : Int32)) fun σ52 => bs (su σ52 39 52 (0 : Int32)) fun σ53 => gd (inB (0 : Int32) 2) (bs (su σ53 72 ((0 : Int32)).toNatClampNeg (vp_nar .boolean (0 : Int32))) fun σ54 => gd (inB (1 : Int32) 2) (bs (su σ54 72 ((1 : Int32)).toNatClampNeg (vp_nar .boolean (0 : Int32))) fun σ55 => some (σ55, (σ55.1 39 8)))))))
def f_X8_square (σ : Sto) : Option (Sto × Int32) :=
  bs (su σ 39 22 (-1 : Int32)) fun σ1 => bs (su σ1 39 23 (0 : Int32)) fun σ2 => bs (su σ2 39 28 (0 : Int32)) fun σ3 => bs (su σ3 39 29 (0 : Int32)) fun σ4 => bs (su σ4 39 30 (0 : Int32)) fun σ5 => bs (su σ5 39 33 (0 : Int32)) fun σ6 => bs (su σ6 39 37 (0 : Int32)) fun σ7 => bs (su σ7 39 39 (0 : Int32)) fun σ8 => bs (0 : Int32) fun z9 => bE1 (lpF (fun t => f_X8_square_l42 t.1 t.2) FU (σ8, z9)) (fun σ15 z16 => bs (su σ15 39 21 (0 : Int32)) fun σ18 => if z16 ≤ 0 then (if (σ18.1 39 28) ≤ 0 then (f_X8_square_j92 σ18 (12 : Int32)) else (f_X8_square_j92 σ18 (σ18.1 39 28))) else (some (σ18, ((-10 : Int32) - z16))))
theorem w_f_X8_square_l42 {G : Wld} {X : Cxt} (C : Cx G X RX8 cX8_square 3 6) {σ : Sto} {x1 : Int32} {y : (Sto × Int32) ⊕ (Sto × Int32)} (h : f_X8_square_l42 σ x1 = some y) (hc : ∀ t : Sto × Int32, y = .inl t → V G X 3 t.1 [(0, .ref (G.1 39)), (1, .int t.2)] [] 42) {Ve : Sto × Int32 → Prop} (he : ∀ e, y = .inr e → Ve e) (hx : ∀ (σ : Sto) (x1 : Int32), Ve (σ, x1) → V G X 3 σ [(0, .ref (G.1 39)), (1, .int x1)] [] 61) : V G X 3 σ [(0, .ref (G.1 39)), (1, .int x1)] [] 42 := by
  unfold f_X8_square_l42 at h
  refine v_iload_n 42 C 1 1 dX8_square_42 rfl rfl ?_
  refine v_if_ne 43 C 61 dX8_square_43 (by decide) h (fun h => ?_) (fun h => ?_)
  · exact v_sub [0, 1] rfl (hx _ _ (he _ (Option.some.inj h).symm))
  · refine v_aload_n 46 C 0 0 dX8_square_46 rfl rfl ?_
    refine r_f_X8_here 47 C (by decide) q_950 dX8_square_47 (Nat.le_of_ble_eq_true rfl) h (fun σ10 v11 h => ?_)
    refine v_if_lt 50 C 61 dX8_square_50 (by decide) h (fun h => ?_) (fun h => ?_)
    · exact v_sub [0, 1] rfl (hx _ _ (he _ (Option.some.inj h).symm))
    · refine v_aload_n 53 C 0 0 dX8_square_53 rfl rfl ?_
      refine r_f_X8_takeClause 54 C (by decide) q_954 dX8_square_54 (Nat.le_of_ble_eq_true rfl) h (fun σ12 v13 h => ?_)
      refine b_istore_n 57 C 1 (lv2 := fun z14 => [(1, .int z14), (0, .ref (G.1 39))]) dX8_square_57 rfl (by decide) (fun _ => rfl) h (fun z14 h => ?_)
      refine v_goto 58 C 42 dX8_square_58 (by decide) ?_
      exact v_sub [1, 0] rfl (hc _ (Option.some.inj h).symm)
theorem w_f_X8_square_l129 {G : Wld} {X : Cxt} (C : Cx G X RX8 cX8_square 3 6) {σ : Sto} {x2 : Int32} {y : (Sto × Int32) ⊕ (Sto × Int32)} (h : f_X8_square_l129 σ x2 = some y) (hc : ∀ t : Sto × Int32, y = .inl t → V G X 3 t.1 [(0, .ref (G.1 39)), (2, .int t.2)] [] 129) {Ve : Sto × Int32 → Prop} (he : ∀ e, y = .inr e → Ve e) (hx : ∀ (σ : Sto) (x2 : Int32), Ve (σ, x2) → V G X 3 σ [(0, .ref (G.1 39)), (2, .int x2)] [] 188) : V G X 3 σ [(0, .ref (G.1 39)), (2, .int x2)] [] 129 := by
  unfold f_X8_square_l129 at h
  refine v_iload_n 129 C 2 1 dX8_square_129 rfl rfl ?_
  refine v_iconst 130 C (4 : Int32) dX8_square_130 (by decide) ?_
  refine v_icmp_ge 131 C 188 dX8_square_131 (by decide) h (fun h => ?_) (fun h => ?_)
  · exact v_sub [0, 1] rfl (hx _ _ (he _ (Option.some.inj h).symm))
  · refine v_aload_n 134 C 0 0 dX8_square_134 rfl rfl ?_
    refine g_X8_39_2 135 C dX8_square_135 ?_
    refine v_iload_n 138 C 2 1 dX8_square_138 rfl rfl ?_
    refine v_aload_n 139 C 0 0 dX8_square_139 rfl rfl ?_
    refine g_X8_39_31 140 C dX8_square_140 ?_
    refine v_iload_n 143 C 2 1 dX8_square_143 rfl rfl ?_
    refine v_iald 144 C 52 (by decide) (ce_52 G) dX8_square_144 h (fun h => ?_)
    refine b_iast 145 C 40 (by decide) (ce_40 G) dX8_square_145 h (fun σ25 h => ?_)
    refine v_aload_n 146 C 0 0 dX8_square_146 rfl rfl ?_
    refine g_X8_39_3 147 C dX8_square_147 ?_
    refine v_iload_n 150 C 2 1 dX8_square_150 rfl rfl ?_
    refine v_aload_n 151 C 0 0 dX8_square_151 rfl rfl ?_
    refine g_X8_39_32 152 C dX8_square_152 ?_
    refine v_iload_n 155 C 2 1 dX8_square_155 rfl rfl ?_
    refine v_iald 156 C 53 (by decide) (ce_53 G) dX8_square_156 h (fun h => ?_)
    refine b_iast 157 C 41 (by decide) (ce_41 G) dX8_square_157 h (fun σ26 h => ?_)
    refine v_aload_n 158 C 0 0 dX8_square_158 rfl rfl ?_
    refine g_X8_39_11 159 C dX8_square_159 ?_
    refine v_iload_n 162 C 2 1 dX8_square_162 rfl rfl ?_
    refine v_aload_n 163 C 0 0 dX8_square_163 rfl rfl ?_
    refine g_X8_39_40 164 C dX8_square_164 ?_
    refine v_iload_n 167 C 2 1 dX8_square_167 rfl rfl ?_
    refine v_iald 168 C 58 (by decide) (ce_58 G) dX8_square_168 h (fun h => ?_)
    refine b_iast 169 C 46 (by decide) (ce_46 G) dX8_square_169 h (fun σ27 h => ?_)
    refine v_aload_n 170 C 0 0 dX8_square_170 rfl rfl ?_
    refine g_X8_39_12 171 C dX8_square_171 ?_
    refine v_iload_n 174 C 2 1 dX8_square_174 rfl rfl ?_
    refine v_aload_n 175 C 0 0 dX8_square_175 rfl rfl ?_
    refine g_X8_39_41 176 C dX8_square_176 ?_
    refine v_iload_n 179 C 2 1 dX8_square_179 rfl rfl ?_
    refine v_iald 180 C 59 (by decide) (ce_59 G) dX8_square_180 h (fun h => ?_)
    refine b_iast 181 C 47 (by decide) (ce_47 G) dX8_square_181 h (fun σ28 h => ?_)
    refine b_iinc 182 C 2 1 (1 : Int32) (lv2 := fun z29 => [(2, .int z29), (0, .ref (G.1 39))]) dX8_square_182 rfl (by decide) (by decide) (fun _ => rfl) h (fun z29 h => ?_)
    refine v_goto 185 C 129 dX8_square_185 (by decide) ?_
    exact v_sub [1, 0] rfl (hc _ (Option.some.inj h).symm)
theorem w_f_X8_square_l190 {G : Wld} {X : Cxt} (C : Cx G X RX8 cX8_square 3 6) {σ : Sto} {x2 : Int32} {y : (Sto × Int32) ⊕ (Sto × Int32)} (h : f_X8_square_l190 σ x2 = some y) (hc : ∀ t : Sto × Int32, y = .inl t → V G X 3 t.1 [(0, .ref (G.1 39)), (2, .int t.2)] [] 190) {Ve : Sto × Int32 → Prop} (he : ∀ e, y = .inr e → Ve e) (hx : ∀ (σ : Sto) (x2 : Int32), Ve (σ, x2) → V G X 3 σ [(0, .ref (G.1 39)), (2, .int x2)] [] 257) : V G X 3 σ [(0, .ref (G.1 39)), (2, .int x2)] [] 190 := by
  unfold f_X8_square_l190 at h
  refine v_iload_n 190 C 2 1 dX8_square_190 rfl rfl ?_
  refine v_bipush 191 C (6 : Int32) dX8_square_191 (by decide) ?_
  refine v_icmp_ge 193 C 257 dX8_square_193 (by decide) h (fun h => ?_) (fun h => ?_)
  · exact v_sub [0, 1] rfl (hx _ _ (he _ (Option.some.inj h).symm))
  · refine v_aload_n 196 C 0 0 dX8_square_196 rfl rfl ?_
    refine g_X8_39_5 197 C dX8_square_197 ?_
    refine v_iload_n 200 C 2 1 dX8_square_200 rfl rfl ?_
    refine v_aload_n 201 C 0 0 dX8_square_201 rfl rfl ?_
    refine g_X8_39_34 202 C dX8_square_202 ?_
    refine v_iload_n 205 C 2 1 dX8_square_205 rfl rfl ?_
    refine v_iald 206 C 54 (by decide) (ce_54 G) dX8_square_206 h (fun h => ?_)
    refine b_iast 207 C 42 (by decide) (ce_42 G) dX8_square_207 h (fun σ34 h => ?_)
    refine v_aload_n 208 C 0 0 dX8_square_208 rfl rfl ?_
    refine g_X8_39_6 209 C dX8_square_209 ?_
    refine v_iload_n 212 C 2 1 dX8_square_212 rfl rfl ?_
    refine v_aload_n 213 C 0 0 dX8_square_213 rfl rfl ?_
    refine g_X8_39_35 214 C dX8_square_214 ?_
    refine v_iload_n 217 C 2 1 dX8_square_217 rfl rfl ?_
    refine v_iald 218 C 55 (by decide) (ce_55 G) dX8_square_218 h (fun h => ?_)
    refine b_iast 219 C 43 (by decide) (ce_43 G) dX8_square_219 h (fun σ35 h => ?_)
    refine v_aload_n 220 C 0 0 dX8_square_220 rfl rfl ?_
    refine g_X8_39_7 221 C dX8_square_221 ?_
    refine v_iload_n 224 C 2 1 dX8_square_224 rfl rfl ?_
    refine v_aload_n 225 C 0 0 dX8_square_225 rfl rfl ?_
    refine g_X8_39_36 226 C dX8_square_226 ?_
    refine v_iload_n 229 C 2 1 dX8_square_229 rfl rfl ?_
    refine v_iald 230 C 56 (by decide) (ce_56 G) dX8_square_230 h (fun h => ?_)
    refine b_iast 231 C 44 (by decide) (ce_44 G) dX8_square_231 h (fun σ36 h => ?_)
    refine v_aload_n 232 C 0 0 dX8_square_232 rfl rfl ?_
    refine g_X8_39_9 233 C dX8_square_233 ?_
    refine v_iload_n 236 C 2 1 dX8_square_236 rfl rfl ?_
    refine v_aload_n 237 C 0 0 dX8_square_237 rfl rfl ?_
    refine g_X8_39_38 238 C dX8_square_238 ?_
    refine v_iload_n 241 C 2 1 dX8_square_241 rfl rfl ?_
    refine v_iald 242 C 57 (by decide) (ce_57 G) dX8_square_242 h (fun h => ?_)
    refine b_iast 243 C 45 (by decide) (ce_45 G) dX8_square_243 h (fun σ37 h => ?_)
    refine v_aload_n 244 C 0 0 dX8_square_244 rfl rfl ?_
    refine g_X8_39_16 245 C dX8_square_245 ?_
    refine v_iload_n 248 C 2 1 dX8_square_248 rfl rfl ?_
    refine v_iconst 249 C (0 : Int32) dX8_square_249 (by decide) ?_
    refine b_iast 250 C 50 (by decide) (ce_50 G) dX8_square_250 h (fun σ38 h => ?_)
    refine b_iinc 251 C 2 1 (1 : Int32) (lv2 := fun z39 => [(2, .int z39), (0, .ref (G.1 39))]) dX8_square_251 rfl (by decide) (by decide) (fun _ => rfl) h (fun z39 h => ?_)
    refine v_goto 254 C 190 dX8_square_254 (by decide) ?_
    exact v_sub [1, 0] rfl (hc _ (Option.some.inj h).symm)
theorem w_f_X8_square_l259 {G : Wld} {X : Cxt} (C : Cx G X RX8 cX8_square 3 6) {σ : Sto} {x2 : Int32} {y : (Sto × Int32) ⊕ (Sto × Int32)} (h : f_X8_square_l259 σ x2 = some y) (hc : ∀ t : Sto × Int32, y = .inl t → V G X 3 t.1 [(0, .ref (G.1 39)), (2, .int t.2)] [] 259) {Ve : Sto × Int32 → Prop} (he : ∀ e, y = .inr e → Ve e) (hx : ∀ (σ : Sto) (x2 : Int32), Ve (σ, x2) → V G X 3 σ [(0, .ref (G.1 39)), (2, .int x2)] [] 285) : V G X 3 σ [(0, .ref (G.1 39)), (2, .int x2)] [] 259 := by
  unfold f_X8_square_l259 at h
  refine v_iload_n 259 C 2 1 dX8_square_259 rfl rfl ?_
  refine v_bipush 260 C (7 : Int32) dX8_square_260 (by decide) ?_
  refine v_icmp_ge 262 C 285 dX8_square_262 (by decide) h (fun h => ?_) (fun h => ?_)
  · exact v_sub [0, 1] rfl (hx _ _ (he _ (Option.some.inj h).symm))
  · refine v_aload_n 265 C 0 0 dX8_square_265 rfl rfl ?_
    refine g_X8_39_14 266 C dX8_square_266 ?_
    refine v_iload_n 269 C 2 1 dX8_square_269 rfl rfl ?_
    refine v_iconst 270 C (-1 : Int32) dX8_square_270 (by decide) ?_
    refine b_iast 271 C 48 (by decide) (ce_48 G) dX8_square_271 h (fun σ44 h => ?_)
    refine v_aload_n 272 C 0 0 dX8_square_272 rfl rfl ?_
    refine g_X8_39_15 273 C dX8_square_273 ?_
    refine v_iload_n 276 C 2 1 dX8_square_276 rfl rfl ?_
    refine v_iconst 277 C (-1 : Int32) dX8_square_277 (by decide) ?_
    refine b_iast 278 C 49 (by decide) (ce_49 G) dX8_square_278 h (fun σ45 h => ?_)
    refine b_iinc 279 C 2 1 (1 : Int32) (lv2 := fun z46 => [(2, .int z46), (0, .ref (G.1 39))]) dX8_square_279 rfl (by decide) (by decide) (fun _ => rfl) h (fun z46 h => ?_)
    refine v_goto 282 C 259 dX8_square_282 (by decide) ?_
    exact v_sub [1, 0] rfl (hc _ (Option.some.inj h).symm)
theorem w_f_X8_square_j92 {G : Wld} {X : Cxt} (C : Cx G X RX8 cX8_square 3 6) {σ : Sto} {s0 : Int32} {y : Sto × Int32} (h : f_X8_square_j92 σ s0 = some y) (hK : Rx G X (some .int) (some (.int y.2)) y.1) : V G X 3 σ [(0, .ref (G.1 39))] [.int s0, .ref (G.1 39)] 92 := by
  unfold f_X8_square_j92 at h
  refine p_X8_39_0 92 C dX8_square_92 h (fun σ19 h => ?_)
  refine v_aload_n 95 C 0 0 dX8_square_95 rfl rfl ?_
  refine v_aload_n 96 C 0 0 dX8_square_96 rfl rfl ?_
  refine g_X8_39_30 97 C dX8_square_97 ?_
  refine p_X8_39_1 100 C dX8_square_100 h (fun σ20 h => ?_)
  refine v_aload_n 103 C 0 0 dX8_square_103 rfl rfl ?_
  refine v_aload_n 104 C 0 0 dX8_square_104 rfl rfl ?_
  refine g_X8_39_33 105 C dX8_square_105 ?_
  refine p_X8_39_4 108 C dX8_square_108 h (fun σ21 h => ?_)
  refine v_aload_n 111 C 0 0 dX8_square_111 rfl rfl ?_
  refine v_aload_n 112 C 0 0 dX8_square_112 rfl rfl ?_
  refine g_X8_39_37 113 C dX8_square_113 ?_
  refine p_X8_39_8 116 C dX8_square_116 h (fun σ22 h => ?_)
  refine v_aload_n 119 C 0 0 dX8_square_119 rfl rfl ?_
  refine v_aload_n 120 C 0 0 dX8_square_120 rfl rfl ?_
  refine g_X8_39_39 121 C dX8_square_121 ?_
  refine p_X8_39_10 124 C dX8_square_124 h (fun σ23 h => ?_)
  refine v_iconst 127 C (0 : Int32) dX8_square_127 (by decide) ?_
  refine b_istore_n 128 C 2 (lv2 := fun z24 => [(2, .int z24), (0, .ref (G.1 39))]) dX8_square_128 rfl (by decide) (fun _ => rfl) h (fun z24 h => ?_)
  refine v_sub [1, 0] rfl ?_
  refine lp_go (Vh := fun t => V G X 3 t.1 [(0, .ref (G.1 39)), (2, .int t.2)] [] 129) h ?_
  intro t32 y32 hy32 hc32 he32
  refine w_f_X8_square_l129 C hy32 hc32 he32 (fun σ30 z31 h => ?_)
  dsimp only at h
  refine v_iconst 188 C (0 : Int32) dX8_square_188 (by decide) ?_
  refine b_istore_n 189 C 2 (lv2 := fun z33 => [(2, .int z33), (0, .ref (G.1 39))]) dX8_square_189 rfl (by decide) (fun _ => rfl) h (fun z33 h => ?_)
  refine v_sub [1, 0] rfl ?_
  refine lp_go (Vh := fun t => V G X 3 t.1 [(0, .ref (G.1 39)), (2, .int t.2)] [] 190) h ?_
  intro t42 y42 hy42 hc42 he42
  refine w_f_X8_square_l190 C hy42 hc42 he42 (fun σ40 z41 h => ?_)
  dsimp only at h
  refine v_iconst 257 C (0 : Int32) dX8_square_257 (by decide) ?_
  refine b_istore_n 258 C 2 (lv2 := fun z43 => [(2, .int z43), (0, .ref (G.1 39))]) dX8_square_258 rfl (by decide) (fun _ => rfl) h (fun z43 h => ?_)
  refine v_sub [1, 0] rfl ?_
  refine lp_go (Vh := fun t => V G X 3 t.1 [(0, .ref (G.1 39)), (2, .int t.2)] [] 259) h ?_
  intro t49 y49 hy49 hc49 he49
  refine w_f_X8_square_l259 C hy49 hc49 he49 (fun σ47 z48 h => ?_)
  dsimp only at h
  refine v_aload_n 285 C 0 0 dX8_square_285 rfl rfl ?_
  refine v_iconst 286 C (0 : Int32) dX8_square_286 (by decide) ?_
  refine p_X8_39_13 287 C dX8_square_287 h (fun σ50 h => ?_)
  refine v_aload_n 290 C 0 0 dX8_square_290 rfl rfl ?_
  refine v_iconst 291 C (0 : Int32) dX8_square_291 (by decide) ?_
  refine p_X8_39_17 292 C dX8_square_292 h (fun σ51 h => ?_)
  refine v_aload_n 295 C 0 0 dX8_square_295 rfl rfl ?_
  refine v_iconst 296 C (0 : Int32) dX8_square_296 (by decide) ?_
  refine p_X8_39_48 297 C dX8_square_297 h (fun σ52 h => ?_)
  refine v_aload_n 300 C 0 0 dX8_square_300 rfl rfl ?_
  refine v_iconst 301 C (0 : Int32) dX8_square_301 (by decide) ?_
  refine p_X8_39_52 302 C dX8_square_302 h (fun σ53 h => ?_)
  refine v_aload_n 305 C 0 0 dX8_square_305 rfl rfl ?_
  refine g_X8_39_57 306 C dX8_square_306 ?_
  refine v_iconst 309 C (0 : Int32) dX8_square_309 (by decide) ?_
  refine v_iconst 310 C (0 : Int32) dX8_square_310 (by decide) ?_
  refine b_zast 311 C 72 (by decide) (ce_72 G) dX8_square_311 h (fun σ54 h => ?_)
  refine v_aload_n 312 C 0 0 dX8_square_312 rfl rfl ?_
  refine g_X8_39_57 313 C dX8_square_313 ?_
  refine v_iconst 316 C (1 : Int32) dX8_square_316 (by decide) ?_
  refine v_iconst 317 C (0 : Int32) dX8_square_317 (by decide) ?_
  refine b_zast 318 C 72 (by decide) (ce_72 G) dX8_square_318 h (fun σ55 h => ?_)
  refine v_aload_n 319 C 0 0 dX8_square_319 rfl rfl ?_
  refine g_X8_39_8 320 C dX8_square_320 ?_
  cases h
  exact v_iret 323 C hK dX8_square_323
theorem w_f_X8_square {G : Wld} {X : Cxt} (C : Cx G X RX8 cX8_square 3 6) {σ : Sto} {y : Sto × Int32} (h : f_X8_square σ = some y) (hK : Rx G X (some .int) (some (.int y.2)) y.1) : V G X 3 σ [(0, .ref (G.1 39))] [] 0 := by
  unfold f_X8_square at h
  refine v_aload_n 0 C 0 0 dX8_square_0 rfl rfl ?_
  refine v_iconst 1 C (-1 : Int32) dX8_square_1 (by decide) ?_
  refine p_X8_39_22 2 C dX8_square_2 h (fun σ1 h => ?_)
  refine v_aload_n 5 C 0 0 dX8_square_5 rfl rfl ?_
  refine v_iconst 6 C (0 : Int32) dX8_square_6 (by decide) ?_
  refine p_X8_39_23 7 C dX8_square_7 h (fun σ2 h => ?_)
  refine v_aload_n 10 C 0 0 dX8_square_10 rfl rfl ?_
  refine v_iconst 11 C (0 : Int32) dX8_square_11 (by decide) ?_
  refine p_X8_39_28 12 C dX8_square_12 h (fun σ3 h => ?_)
  refine v_aload_n 15 C 0 0 dX8_square_15 rfl rfl ?_
  refine v_iconst 16 C (0 : Int32) dX8_square_16 (by decide) ?_
  refine p_X8_39_29 17 C dX8_square_17 h (fun σ4 h => ?_)
  refine v_aload_n 20 C 0 0 dX8_square_20 rfl rfl ?_
  refine v_iconst 21 C (0 : Int32) dX8_square_21 (by decide) ?_
  refine p_X8_39_30 22 C dX8_square_22 h (fun σ5 h => ?_)
  refine v_aload_n 25 C 0 0 dX8_square_25 rfl rfl ?_
  refine v_iconst 26 C (0 : Int32) dX8_square_26 (by decide) ?_
  refine p_X8_39_33 27 C dX8_square_27 h (fun σ6 h => ?_)
  refine v_aload_n 30 C 0 0 dX8_square_30 rfl rfl ?_
  refine v_iconst 31 C (0 : Int32) dX8_square_31 (by decide) ?_
  refine p_X8_39_37 32 C dX8_square_32 h (fun σ7 h => ?_)
  refine v_aload_n 35 C 0 0 dX8_square_35 rfl rfl ?_
  refine v_iconst 36 C (0 : Int32) dX8_square_36 (by decide) ?_
  refine p_X8_39_39 37 C dX8_square_37 h (fun σ8 h => ?_)
  refine v_iconst 40 C (0 : Int32) dX8_square_40 (by decide) ?_
  refine b_istore_n 41 C 1 (lv2 := fun z9 => [(1, .int z9), (0, .ref (G.1 39))]) dX8_square_41 rfl (by decide) (fun _ => rfl) h (fun z9 h => ?_)
  refine v_sub [1, 0] rfl ?_
  refine lp_go (Vh := fun t => V G X 3 t.1 [(0, .ref (G.1 39)), (1, .int t.2)] [] 42) h ?_
  intro t17 y17 hy17 hc17 he17
  refine w_f_X8_square_l42 C hy17 hc17 he17 (fun σ15 z16 h => ?_)
  dsimp only at h
  refine v_aload_n 61 C 0 0 dX8_square_61 rfl rfl ?_
  refine v_iconst 62 C (0 : Int32) dX8_square_62 (by decide) ?_
  refine p_X8_39_21 63 C dX8_square_63 h (fun σ18 h => ?_)
  refine v_iload_n 66 C 1 1 dX8_square_66 rfl rfl ?_
  refine v_if_le 67 C 75 dX8_square_67 (by decide) h (fun h => ?_) (fun h => ?_)
  · refine v_aload_n 75 C 0 0 dX8_square_75 rfl rfl ?_
    refine v_aload_n 76 C 0 0 dX8_square_76 rfl rfl ?_
    refine g_X8_39_28 77 C dX8_square_77 ?_
    refine v_if_le 80 C 90 dX8_square_80 (by decide) h (fun h => ?_) (fun h => ?_)
    · refine v_bipush 90 C (12 : Int32) dX8_square_90 (by decide) ?_
      exact v_sub [0] rfl (w_f_X8_square_j92 C h hK)
    · refine v_aload_n 83 C 0 0 dX8_square_83 rfl rfl ?_
      refine g_X8_39_28 84 C dX8_square_84 ?_
      refine v_goto 87 C 92 dX8_square_87 (by decide) ?_
      exact v_sub [0] rfl (w_f_X8_square_j92 C h hK)
  · refine v_bipush 70 C (-10 : Int32) dX8_square_70 (by decide) ?_
    refine v_iload_n 72 C 1 1 dX8_square_72 rfl rfl ?_
    refine v_isub 73 C dX8_square_73 ?_
    cases h
    exact v_iret 74 C hK dX8_square_74
theorem c_f_X8_square (l : Launch) (G : Wld) (hG : GI G) (σ : Sto) (y : Sto × Int32) (h : f_X8_square σ = some y) : Ct l G yX8_square cX8_square 3 (some .int) 6 [.ref (G.1 39)] σ (some (.int y.2)) y.1 := by
  refine ct_intro RX8 hG (by decide) rfl (Nat.le_of_ble_eq_true rfl) (fun X hX C hK => ?_)
  subst hX
  exact w_f_X8_square C h hK
theorem r_f_X8_square {G : Wld} {X : Cxt} {own : String} {cc : ByteArray} {nL n : Nat} {σ : Sto} {lv : List (Nat × Value)} {st : List Value} {β : Type} {r : β} {F : Sto → Int32 → Option β} {ix : Nat} (pc : Nat) (C : Cx G X own cc nL n) (hn : 6 < n) (h1 : Cond.methodLink own ix yX8_square ∈ lw_gd) (hd : decode cc pc = .ok (.invokevirtual ix, 3)) (hsum : (st.map fun v => v.category).sum ≤ 8) (h : bd2 (f_X8_square σ) F = some r) (kk : ∀ σ1 v, F σ1 v = some r → V G X nL σ1 lv (.int v :: st) (pc + 3)) : V G X nL σ lv (.ref (G.1 39) :: st) pc := by
  obtain ⟨z, hz, h⟩ := bd2_some h
  exact v_callV pc C 39 0 [] st (c_f_X8_square (xl X) G C.2.2.2.2.2.2.1 _ _ hz) hn (by decide) (by decide) (ce_39 G _ _) rfl (by decide +kernel) rfl h1 q_947 q_948 q_68 q_949 rfl hsum hd (kk _ _ h)
-- f_X8_fault
def f_X8_fault (σ : Sto) : Option (Sto × Int32) :=
  some (σ, (σ.1 39 22))
theorem w_f_X8_fault {G : Wld} {X : Cxt} (C : Cx G X RX8 cX8_fault 1 1) {σ : Sto} {y : Sto × Int32} (h : f_X8_fault σ = some y) (hK : Rx G X (some .int) (some (.int y.2)) y.1) : V G X 1 σ [(0, .ref (G.1 39))] [] 0 := by
  unfold f_X8_fault at h
  refine v_aload_n 0 C 0 0 dX8_fault_0 rfl rfl ?_
  refine g_X8_39_22 1 C dX8_fault_1 ?_
  cases h
  exact v_iret 4 C hK dX8_fault_4
theorem c_f_X8_fault (l : Launch) (G : Wld) (hG : GI G) (σ : Sto) (y : Sto × Int32) (h : f_X8_fault σ = some y) : Ct l G yX8_fault cX8_fault 1 (some .int) 1 [.ref (G.1 39)] σ (some (.int y.2)) y.1 := by
  refine ct_intro RX8 hG (by decide) rfl (Nat.le_of_ble_eq_true rfl) (fun X hX C hK => ?_)
  subst hX
  exact w_f_X8_fault C h hK
theorem r_f_X8_fault {G : Wld} {X : Cxt} {own : String} {cc : ByteArray} {nL n : Nat} {σ : Sto} {lv : List (Nat × Value)} {st : List Value} {β : Type} {r : β} {F : Sto → Int32 → Option β} {ix : Nat} (pc : Nat) (C : Cx G X own cc nL n) (hn : 1 < n) (h1 : Cond.methodLink own ix yX8_fault ∈ lw_gd) (hd : decode cc pc = .ok (.invokevirtual ix, 3)) (hsum : (st.map fun v => v.category).sum ≤ 8) (h : bd2 (f_X8_fault σ) F = some r) (kk : ∀ σ1 v, F σ1 v = some r → V G X nL σ1 lv (.int v :: st) (pc + 3)) : V G X nL σ lv (.ref (G.1 39) :: st) pc := by
  obtain ⟨z, hz, h⟩ := bd2_some h
  exact v_callV pc C 39 0 [] st (c_f_X8_fault (xl X) G C.2.2.2.2.2.2.1 _ _ hz) hn (by decide) (by decide) (ce_39 G _ _) rfl (by decide +kernel) rfl h1 q_1009 q_1010 q_68 q_1011 rfl hsum hd (kk _ _ h)
-- f_X8_told
def f_X8_told (σ : Sto) (a1 : Int32) : Option (Sto × Int32) :=
  if a1 = (0 : Int32) then (some (σ, (σ.1 39 0))) else if a1 = (1 : Int32) then (some (σ, (σ.1 39 1))) else if a1 = (2 : Int32) then (some (σ, (σ.1 39 4))) else if a1 = (3 : Int32) then (some (σ, (σ.1 39 8))) else if a1 = (4 : Int32) then (some (σ, (σ.1 39 10))) else if a1 = (5 : Int32) then (some (σ, (σ.1 39 21))) else if a1 = (6 : Int32) then (some (σ, (σ.1 39 13))) else if a1 = (7 : Int32) then (some (σ, (σ.1 39 18))) else if a1 = (8 : Int32) then (some (σ, (σ.1 39 17))) else if a1 = (9 : Int32) then (some (σ, (σ.1 39 48))) else if a1 = (10 : Int32) then (some (σ, (σ.1 39 52))) else (some (σ, (-1000000002 : Int32)))
theorem w_f_X8_told {G : Wld} {X : Cxt} (C : Cx G X RX8 cX8_told 2 1) {σ : Sto} {a1 : Int32} {y : Sto × Int32} (h : f_X8_told σ a1 = some y) (hK : Rx G X (some .int) (some (.int y.2)) y.1) : V G X 2 σ [(0, .ref (G.1 39)), (1, .int a1)] [] 0 := by
  unfold f_X8_told at h
  refine v_iload_n 0 C 1 1 dX8_told_0 rfl rfl ?_
  by_cases c1_0 : a1 = (0 : Int32)
  · replace h := it_t h c1_0
    refine v_tableAt 1 C (off := 59) (0 : Int32) 60 c1_0 dX8_told_1 (by decide) (by decide) (by decide) (by decide) ?_
    refine v_aload_n 60 C 0 0 dX8_told_60 rfl rfl ?_
    refine g_X8_39_0 61 C dX8_told_61 ?_
    cases h
    exact v_iret 64 C hK dX8_told_64
  · replace h := it_f h c1_0
    by_cases c1_1 : a1 = (1 : Int32)
    · replace h := it_t h c1_1
      refine v_tableAt 1 C (off := 64) (1 : Int32) 65 c1_1 dX8_told_1 (by decide) (by decide) (by decide) (by decide) ?_
      refine v_aload_n 65 C 0 0 dX8_told_65 rfl rfl ?_
      refine g_X8_39_1 66 C dX8_told_66 ?_
      cases h
      exact v_iret 69 C hK dX8_told_69
    · replace h := it_f h c1_1
      by_cases c1_2 : a1 = (2 : Int32)
      · replace h := it_t h c1_2
        refine v_tableAt 1 C (off := 69) (2 : Int32) 70 c1_2 dX8_told_1 (by decide) (by decide) (by decide) (by decide) ?_
        refine v_aload_n 70 C 0 0 dX8_told_70 rfl rfl ?_
        refine g_X8_39_4 71 C dX8_told_71 ?_
        cases h
        exact v_iret 74 C hK dX8_told_74
      · replace h := it_f h c1_2
        by_cases c1_3 : a1 = (3 : Int32)
        · replace h := it_t h c1_3
          refine v_tableAt 1 C (off := 74) (3 : Int32) 75 c1_3 dX8_told_1 (by decide) (by decide) (by decide) (by decide) ?_
          refine v_aload_n 75 C 0 0 dX8_told_75 rfl rfl ?_
          refine g_X8_39_8 76 C dX8_told_76 ?_
          cases h
          exact v_iret 79 C hK dX8_told_79
        · replace h := it_f h c1_3
          by_cases c1_4 : a1 = (4 : Int32)
          · replace h := it_t h c1_4
            refine v_tableAt 1 C (off := 79) (4 : Int32) 80 c1_4 dX8_told_1 (by decide) (by decide) (by decide) (by decide) ?_
            refine v_aload_n 80 C 0 0 dX8_told_80 rfl rfl ?_
            refine g_X8_39_10 81 C dX8_told_81 ?_
            cases h
            exact v_iret 84 C hK dX8_told_84
          · replace h := it_f h c1_4
            by_cases c1_5 : a1 = (5 : Int32)
            · replace h := it_t h c1_5
              refine v_tableAt 1 C (off := 84) (5 : Int32) 85 c1_5 dX8_told_1 (by decide) (by decide) (by decide) (by decide) ?_
              refine v_aload_n 85 C 0 0 dX8_told_85 rfl rfl ?_
              refine g_X8_39_21 86 C dX8_told_86 ?_
              cases h
              exact v_iret 89 C hK dX8_told_89
            · replace h := it_f h c1_5
              by_cases c1_6 : a1 = (6 : Int32)
              · replace h := it_t h c1_6
                refine v_tableAt 1 C (off := 89) (6 : Int32) 90 c1_6 dX8_told_1 (by decide) (by decide) (by decide) (by decide) ?_
                refine v_aload_n 90 C 0 0 dX8_told_90 rfl rfl ?_
                refine g_X8_39_13 91 C dX8_told_91 ?_
                cases h
                exact v_iret 94 C hK dX8_told_94
              · replace h := it_f h c1_6
                by_cases c1_7 : a1 = (7 : Int32)
                · replace h := it_t h c1_7
                  refine v_tableAt 1 C (off := 94) (7 : Int32) 95 c1_7 dX8_told_1 (by decide) (by decide) (by decide) (by decide) ?_
                  refine v_aload_n 95 C 0 0 dX8_told_95 rfl rfl ?_
                  refine g_X8_39_18 96 C dX8_told_96 ?_
                  cases h
                  exact v_iret 99 C hK dX8_told_99
                · replace h := it_f h c1_7
                  by_cases c1_8 : a1 = (8 : Int32)
                  · replace h := it_t h c1_8
                    refine v_tableAt 1 C (off := 99) (8 : Int32) 100 c1_8 dX8_told_1 (by decide) (by decide) (by decide) (by decide) ?_
                    refine v_aload_n 100 C 0 0 dX8_told_100 rfl rfl ?_
                    refine g_X8_39_17 101 C dX8_told_101 ?_
                    cases h
                    exact v_iret 104 C hK dX8_told_104
                  · replace h := it_f h c1_8
                    by_cases c1_9 : a1 = (9 : Int32)
                    · replace h := it_t h c1_9
                      refine v_tableAt 1 C (off := 104) (9 : Int32) 105 c1_9 dX8_told_1 (by decide) (by decide) (by decide) (by decide) ?_
                      refine v_aload_n 105 C 0 0 dX8_told_105 rfl rfl ?_
                      refine g_X8_39_48 106 C dX8_told_106 ?_
                      cases h
                      exact v_iret 109 C hK dX8_told_109
                    · replace h := it_f h c1_9
                      by_cases c1_10 : a1 = (10 : Int32)
                      · replace h := it_t h c1_10
                        refine v_tableAt 1 C (off := 109) (10 : Int32) 110 c1_10 dX8_told_1 (by decide) (by decide) (by decide) (by decide) ?_
                        refine v_aload_n 110 C 0 0 dX8_told_110 rfl rfl ?_
                        refine g_X8_39_52 111 C dX8_told_111 ?_
                        cases h
                        exact v_iret 114 C hK dX8_told_114
                      · replace h := it_f h c1_10
                        refine v_tableOut 1 C 115 dX8_told_1 (sw_out 11 (by decide) (fun j hj => by
                          rcases (show j = 0 ∨ j = 1 ∨ j = 2 ∨ j = 3 ∨ j = 4 ∨ j = 5 ∨ j = 6 ∨ j = 7 ∨ j = 8 ∨ j = 9 ∨ j = 10 by omega) with rfl | rfl | rfl | rfl | rfl | rfl | rfl | rfl | rfl | rfl | rfl
                          · exact c1_0
                          · exact c1_1
                          · exact c1_2
                          · exact c1_3
                          · exact c1_4
                          · exact c1_5
                          · exact c1_6
                          · exact c1_7
                          · exact c1_8
                          · exact c1_9
                          · exact c1_10)) (by decide) ?_
                        refine v_ldc 115 C dX8_told_115 q_943 ?_
                        cases h
                        exact v_iret 117 C hK dX8_told_117
theorem c_f_X8_told (l : Launch) (G : Wld) (hG : GI G) (σ : Sto) (a1 : Int32) (y : Sto × Int32) (h : f_X8_told σ a1 = some y) : Ct l G yX8_told cX8_told 2 (some .int) 1 [.ref (G.1 39), .int a1] σ (some (.int y.2)) y.1 := by
  refine ct_intro RX8 hG (by decide) rfl (Nat.le_of_ble_eq_true rfl) (fun X hX C hK => ?_)
  subst hX
  exact w_f_X8_told C h hK
theorem r_f_X8_told {G : Wld} {X : Cxt} {own : String} {cc : ByteArray} {nL n : Nat} {σ : Sto} {lv : List (Nat × Value)} {st : List Value} {β : Type} {r : β} {F : Sto → Int32 → Option β} {a1 : Int32} {ix : Nat} (pc : Nat) (C : Cx G X own cc nL n) (hn : 1 < n) (h1 : Cond.methodLink own ix yX8_told ∈ lw_gd) (hd : decode cc pc = .ok (.invokevirtual ix, 3)) (hsum : (st.map fun v => v.category).sum ≤ 8) (h : bd2 (f_X8_told σ a1) F = some r) (kk : ∀ σ1 v, F σ1 v = some r → V G X nL σ1 lv (.int v :: st) (pc + 3)) : V G X nL σ lv (.int a1 :: .ref (G.1 39) :: st) pc := by
  obtain ⟨z, hz, h⟩ := bd2_some h
  exact v_callV pc C 39 1 [.int a1] st (c_f_X8_told (xl X) G C.2.2.2.2.2.2.1 _ _ _ hz) hn (by decide) (by decide) (ce_39 G _ _) rfl (by decide +kernel) rfl h1 q_1013 q_1014 q_68 q_1015 rfl hsum hd (kk _ _ h)
-- f_X8_isBell
def f_X8_isBell (σ : Sto) (a1 : Int32) : Option (Sto × Int32) :=
  bd2 (f_X8_in σ (a1).toInt64 (0 : Int64) (((σ.1 39 1) - (1 : Int32))).toInt64) fun σ1 v2 => gd (zB v2) (some (σ1, v2))
theorem w_f_X8_isBell {G : Wld} {X : Cxt} (C : Cx G X RX8 cX8_isBell 2 2) {σ : Sto} {a1 : Int32} {y : Sto × Int32} (h : f_X8_isBell σ a1 = some y) (hK : Rx G X (some .boolean) (some (.int y.2)) y.1) : V G X 2 σ [(0, .ref (G.1 39)), (1, .int a1)] [] 0 := by
  unfold f_X8_isBell at h
  refine v_iload_n 0 C 1 1 dX8_isBell_0 rfl rfl ?_
  refine v_i2l 1 C dX8_isBell_1 ?_
  refine v_lconst 2 C (0 : Int64) dX8_isBell_2 (by decide) ?_
  refine v_aload_n 3 C 0 0 dX8_isBell_3 rfl rfl ?_
  refine g_X8_39_1 4 C dX8_isBell_4 ?_
  refine v_iconst 7 C (1 : Int32) dX8_isBell_7 (by decide) ?_
  refine v_isub 8 C dX8_isBell_8 ?_
  refine v_i2l 9 C dX8_isBell_9 ?_
  refine r_f_X8_in 10 C (by decide) q_940 dX8_isBell_10 (Nat.le_of_ble_eq_true rfl) h (fun σ1 v2 h => ?_)
  obtain ⟨hz, h⟩ := gd_some h
  cases h
  exact v_zret 13 C (zB_nar hz) hK dX8_isBell_13
theorem c_f_X8_isBell (l : Launch) (G : Wld) (hG : GI G) (σ : Sto) (a1 : Int32) (y : Sto × Int32) (h : f_X8_isBell σ a1 = some y) : Ct l G yX8_isBell cX8_isBell 2 (some .boolean) 2 [.ref (G.1 39), .int a1] σ (some (.int y.2)) y.1 := by
  refine ct_intro RX8 hG (by decide) rfl (Nat.le_of_ble_eq_true rfl) (fun X hX C hK => ?_)
  subst hX
  exact w_f_X8_isBell C h hK
theorem r_f_X8_isBell {G : Wld} {X : Cxt} {own : String} {cc : ByteArray} {nL n : Nat} {σ : Sto} {lv : List (Nat × Value)} {st : List Value} {β : Type} {r : β} {F : Sto → Int32 → Option β} {a1 : Int32} {ix : Nat} (pc : Nat) (C : Cx G X own cc nL n) (hn : 2 < n) (h1 : Cond.methodLink own ix yX8_isBell ∈ lw_gd) (hd : decode cc pc = .ok (.invokevirtual ix, 3)) (hsum : (st.map fun v => v.category).sum ≤ 8) (h : bd2 (f_X8_isBell σ a1) F = some r) (kk : ∀ σ1 v, F σ1 v = some r → V G X nL σ1 lv (.int v :: st) (pc + 3)) : V G X nL σ lv (.int a1 :: .ref (G.1 39) :: st) pc := by
  obtain ⟨z, hz, h⟩ := bd2_some h
  exact v_callV pc C 39 1 [.int a1] st (c_f_X8_isBell (xl X) G C.2.2.2.2.2.2.1 _ _ _ hz) hn (by decide) (by decide) (ce_39 G _ _) rfl (by decide +kernel) rfl h1 q_1022 q_33 q_68 q_1023 rfl hsum hd (kk _ _ h)
-- f_X8_longOn
def f_X8_longOn_j27 (σ : Sto) (x1 : Int32) (s0 : Int32) : Option (Sto × Int32) :=
  bs s0 fun z2 => gd (inB x1 4) (gd (inB x1 4) (some (σ, ((σ.1 40 (x1).toNatClampNeg) + ((σ.1 41 (x1).toNatClampNeg) * z2)))))
def f_X8_longOn (σ : Sto) (a1 : Int32) (a2 : Int32) : Option (Sto × Int32) :=
  gd (nzI (σ.1 39 0)) (bs (iR a2 (σ.1 39 0)) fun z1 => if ((σ.1 39 0) - z1) ≤ z1 then (f_X8_longOn_j27 σ a1 ((σ.1 39 0) - z1)) else (f_X8_longOn_j27 σ a1 z1))
theorem w_f_X8_longOn_j27 {G : Wld} {X : Cxt} (C : Cx G X RX8 cX8_longOn 5 1) {σ : Sto} {x1 : Int32} {s0 : Int32} {y : Sto × Int32} (h : f_X8_longOn_j27 σ x1 s0 = some y) (hK : Rx G X (some .int) (some (.int y.2)) y.1) : V G X 5 σ [(0, .ref (G.1 39)), (1, .int x1)] [.int s0] 27 := by
  unfold f_X8_longOn_j27 at h
  refine b_istore 27 C 4 (lv2 := fun z2 => [(4, .int z2), (0, .ref (G.1 39)), (1, .int x1)]) dX8_longOn_27 (by decide) (fun _ => rfl) h (fun z2 h => ?_)
  refine v_aload_n 29 C 0 1 dX8_longOn_29 rfl rfl ?_
  refine g_X8_39_2 30 C dX8_longOn_30 ?_
  refine v_iload_n 33 C 1 2 dX8_longOn_33 rfl rfl ?_
  refine v_iald 34 C 40 (by decide) (ce_40 G) dX8_longOn_34 h (fun h => ?_)
  refine v_aload_n 35 C 0 1 dX8_longOn_35 rfl rfl ?_
  refine g_X8_39_3 36 C dX8_longOn_36 ?_
  refine v_iload_n 39 C 1 2 dX8_longOn_39 rfl rfl ?_
  refine v_iald 40 C 41 (by decide) (ce_41 G) dX8_longOn_40 h (fun h => ?_)
  refine v_iload 41 C 4 0 dX8_longOn_41 rfl ?_
  refine v_imul 43 C dX8_longOn_43 ?_
  refine v_iadd 44 C dX8_longOn_44 ?_
  cases h
  exact v_iret 45 C hK dX8_longOn_45
theorem w_f_X8_longOn {G : Wld} {X : Cxt} (C : Cx G X RX8 cX8_longOn 5 1) {σ : Sto} {a1 : Int32} {a2 : Int32} {y : Sto × Int32} (h : f_X8_longOn σ a1 a2 = some y) (hK : Rx G X (some .int) (some (.int y.2)) y.1) : V G X 5 σ [(0, .ref (G.1 39)), (1, .int a1), (2, .int a2)] [] 0 := by
  unfold f_X8_longOn at h
  refine v_iload_n 0 C 2 2 dX8_longOn_0 rfl rfl ?_
  refine v_aload_n 1 C 0 0 dX8_longOn_1 rfl rfl ?_
  refine g_X8_39_0 2 C dX8_longOn_2 ?_
  refine v_irem 5 C dX8_longOn_5 h (fun h => ?_)
  refine b_istore_n 6 C 3 (lv2 := fun z1 => [(3, .int z1), (0, .ref (G.1 39)), (1, .int a1), (2, .int a2)]) dX8_longOn_6 rfl (by decide) (fun _ => rfl) h (fun z1 h => ?_)
  refine v_iload_n 7 C 3 0 dX8_longOn_7 rfl rfl ?_
  refine v_aload_n 8 C 0 1 dX8_longOn_8 rfl rfl ?_
  refine g_X8_39_0 9 C dX8_longOn_9 ?_
  refine v_iload_n 12 C 3 0 dX8_longOn_12 rfl rfl ?_
  refine v_isub 13 C dX8_longOn_13 ?_
  refine v_icmp_ge 14 C 21 dX8_longOn_14 (by decide) h (fun h => ?_) (fun h => ?_)
  · refine v_aload_n 21 C 0 1 dX8_longOn_21 rfl rfl ?_
    refine g_X8_39_0 22 C dX8_longOn_22 ?_
    refine v_iload_n 25 C 3 0 dX8_longOn_25 rfl rfl ?_
    refine v_isub 26 C dX8_longOn_26 ?_
    exact v_sub [1, 2] rfl (w_f_X8_longOn_j27 C h hK)
  · refine v_iload_n 17 C 3 0 dX8_longOn_17 rfl rfl ?_
    refine v_goto 18 C 27 dX8_longOn_18 (by decide) ?_
    exact v_sub [1, 2] rfl (w_f_X8_longOn_j27 C h hK)
theorem c_f_X8_longOn (l : Launch) (G : Wld) (hG : GI G) (σ : Sto) (a1 : Int32) (a2 : Int32) (y : Sto × Int32) (h : f_X8_longOn σ a1 a2 = some y) : Ct l G yX8_longOn cX8_longOn 5 (some .int) 1 [.ref (G.1 39), .int a1, .int a2] σ (some (.int y.2)) y.1 := by
  refine ct_intro RX8 hG (by decide) rfl (Nat.le_of_ble_eq_true rfl) (fun X hX C hK => ?_)
  subst hX
  exact w_f_X8_longOn C h hK
theorem r_f_X8_longOn {G : Wld} {X : Cxt} {own : String} {cc : ByteArray} {nL n : Nat} {σ : Sto} {lv : List (Nat × Value)} {st : List Value} {β : Type} {r : β} {F : Sto → Int32 → Option β} {a1 : Int32} {a2 : Int32} {ix : Nat} (pc : Nat) (C : Cx G X own cc nL n) (hn : 1 < n) (h1 : Cond.methodLink own ix yX8_longOn ∈ lw_gd) (hd : decode cc pc = .ok (.invokevirtual ix, 3)) (hsum : (st.map fun v => v.category).sum ≤ 8) (h : bd2 (f_X8_longOn σ a1 a2) F = some r) (kk : ∀ σ1 v, F σ1 v = some r → V G X nL σ1 lv (.int v :: st) (pc + 3)) : V G X nL σ lv (.int a2 :: .int a1 :: .ref (G.1 39) :: st) pc := by
  obtain ⟨z, hz, h⟩ := bd2_some h
  exact v_callV pc C 39 2 [.int a1, .int a2] st (c_f_X8_longOn (xl X) G C.2.2.2.2.2.2.1 _ _ _ _ hz) hn (by decide) (by decide) (ce_39 G _ _) rfl (by decide +kernel) rfl h1 q_1028 q_34 q_68 q_1029 rfl hsum hd (kk _ _ h)
-- f_X8_bell
def f_X8_bell_j34 (σ : Sto) (s0 : Int32) : Option (Sto × Int32) :=
  some (σ, s0)
def f_X8_bell (σ : Sto) (a1 : Int32) (a2 : Int32) : Option (Sto × Int32) :=
  bd2 (f_X8_isBell σ a1) fun σ1 v2 => if v2 = 0 then (some (σ1, (-1000000001 : Int32))) else (bd2 (f_X8_in σ1 (a2).toInt64 (0 : Int64) (99999 : Int64)) fun σ3 v4 => if v4 = 0 then (f_X8_bell_j34 σ3 (-1000000002 : Int32)) else (bd2 (f_X8_longOn σ3 a1 a2) fun σ5 v6 => f_X8_bell_j34 σ5 v6))
theorem w_f_X8_bell_j34 {G : Wld} {X : Cxt} (C : Cx G X RX8 cX8_bell 3 3) {σ : Sto} {s0 : Int32} {y : Sto × Int32} (h : f_X8_bell_j34 σ s0 = some y) (hK : Rx G X (some .int) (some (.int y.2)) y.1) : V G X 3 σ [(0, .ref (G.1 39))] [.int s0] 34 := by
  unfold f_X8_bell_j34 at h
  cases h
  exact v_iret 34 C hK dX8_bell_34
theorem w_f_X8_bell {G : Wld} {X : Cxt} (C : Cx G X RX8 cX8_bell 3 3) {σ : Sto} {a1 : Int32} {a2 : Int32} {y : Sto × Int32} (h : f_X8_bell σ a1 a2 = some y) (hK : Rx G X (some .int) (some (.int y.2)) y.1) : V G X 3 σ [(0, .ref (G.1 39)), (1, .int a1), (2, .int a2)] [] 0 := by
  unfold f_X8_bell at h
  refine v_aload_n 0 C 0 0 dX8_bell_0 rfl rfl ?_
  refine v_iload_n 1 C 1 1 dX8_bell_1 rfl rfl ?_
  refine r_f_X8_isBell 2 C (by decide) q_1020 dX8_bell_2 (Nat.le_of_ble_eq_true rfl) h (fun σ1 v2 h => ?_)
  refine v_if_ne 5 C 11 dX8_bell_5 (by decide) h (fun h => ?_) (fun h => ?_)
  · refine v_iload_n 11 C 2 2 dX8_bell_11 rfl rfl ?_
    refine v_i2l 12 C dX8_bell_12 ?_
    refine v_lconst 13 C (0 : Int64) dX8_bell_13 (by decide) ?_
    refine v_ldc2_w 14 C dX8_bell_14 q_1025 ?_
    refine r_f_X8_in 17 C (by decide) q_940 dX8_bell_17 (Nat.le_of_ble_eq_true rfl) h (fun σ3 v4 h => ?_)
    refine v_if_eq 20 C 32 dX8_bell_20 (by decide) h (fun h => ?_) (fun h => ?_)
    · refine v_ldc 32 C dX8_bell_32 q_943 ?_
      exact v_sub [0] rfl (w_f_X8_bell_j34 C h hK)
    · refine v_aload_n 23 C 0 0 dX8_bell_23 rfl rfl ?_
      refine v_iload_n 24 C 1 1 dX8_bell_24 rfl rfl ?_
      refine v_iload_n 25 C 2 2 dX8_bell_25 rfl rfl ?_
      refine r_f_X8_longOn 26 C (by decide) q_1026 dX8_bell_26 (Nat.le_of_ble_eq_true rfl) h (fun σ5 v6 h => ?_)
      refine v_goto 29 C 34 dX8_bell_29 (by decide) ?_
      exact v_sub [0] rfl (w_f_X8_bell_j34 C h hK)
  · refine v_ldc 8 C dX8_bell_8 q_1024 ?_
    cases h
    exact v_iret 10 C hK dX8_bell_10
theorem c_f_X8_bell (l : Launch) (G : Wld) (hG : GI G) (σ : Sto) (a1 : Int32) (a2 : Int32) (y : Sto × Int32) (h : f_X8_bell σ a1 a2 = some y) : Ct l G yX8_bell cX8_bell 3 (some .int) 3 [.ref (G.1 39), .int a1, .int a2] σ (some (.int y.2)) y.1 := by
  refine ct_intro RX8 hG (by decide) rfl (Nat.le_of_ble_eq_true rfl) (fun X hX C hK => ?_)
  subst hX
  exact w_f_X8_bell C h hK
theorem r_f_X8_bell {G : Wld} {X : Cxt} {own : String} {cc : ByteArray} {nL n : Nat} {σ : Sto} {lv : List (Nat × Value)} {st : List Value} {β : Type} {r : β} {F : Sto → Int32 → Option β} {a1 : Int32} {a2 : Int32} {ix : Nat} (pc : Nat) (C : Cx G X own cc nL n) (hn : 3 < n) (h1 : Cond.methodLink own ix yX8_bell ∈ lw_gd) (hd : decode cc pc = .ok (.invokevirtual ix, 3)) (hsum : (st.map fun v => v.category).sum ≤ 8) (h : bd2 (f_X8_bell σ a1 a2) F = some r) (kk : ∀ σ1 v, F σ1 v = some r → V G X nL σ1 lv (.int v :: st) (pc + 3)) : V G X nL σ lv (.int a2 :: .int a1 :: .ref (G.1 39) :: st) pc := by
  obtain ⟨z, hz, h⟩ := bd2_some h
  exact v_callV pc C 39 2 [.int a1, .int a2] st (c_f_X8_bell (xl X) G C.2.2.2.2.2.2.1 _ _ _ _ hz) hn (by decide) (by decide) (ce_39 G _ _) rfl (by decide +kernel) rfl h1 q_1017 q_1018 q_68 q_1019 rfl hsum hd (kk _ _ h)
-- f_X8_isSpot
def f_X8_isSpot (σ : Sto) (a1 : Int32) : Option (Sto × Int32) :=
  bd2 (f_X8_in σ (a1).toInt64 (0 : Int64) (((σ.1 39 4) - (1 : Int32))).toInt64) fun σ1 v2 => gd (zB v2) (some (σ1, v2))
theorem w_f_X8_isSpot {G : Wld} {X : Cxt} (C : Cx G X RX8 cX8_isSpot 2 2) {σ : Sto} {a1 : Int32} {y : Sto × Int32} (h : f_X8_isSpot σ a1 = some y) (hK : Rx G X (some .boolean) (some (.int y.2)) y.1) : V G X 2 σ [(0, .ref (G.1 39)), (1, .int a1)] [] 0 := by
  unfold f_X8_isSpot at h
  refine v_iload_n 0 C 1 1 dX8_isSpot_0 rfl rfl ?_
  refine v_i2l 1 C dX8_isSpot_1 ?_
  refine v_lconst 2 C (0 : Int64) dX8_isSpot_2 (by decide) ?_
  refine v_aload_n 3 C 0 0 dX8_isSpot_3 rfl rfl ?_
  refine g_X8_39_4 4 C dX8_isSpot_4 ?_
  refine v_iconst 7 C (1 : Int32) dX8_isSpot_7 (by decide) ?_
  refine v_isub 8 C dX8_isSpot_8 ?_
  refine v_i2l 9 C dX8_isSpot_9 ?_
  refine r_f_X8_in 10 C (by decide) q_940 dX8_isSpot_10 (Nat.le_of_ble_eq_true rfl) h (fun σ1 v2 h => ?_)
  obtain ⟨hz, h⟩ := gd_some h
  cases h
  exact v_zret 13 C (zB_nar hz) hK dX8_isSpot_13
theorem c_f_X8_isSpot (l : Launch) (G : Wld) (hG : GI G) (σ : Sto) (a1 : Int32) (y : Sto × Int32) (h : f_X8_isSpot σ a1 = some y) : Ct l G yX8_isSpot cX8_isSpot 2 (some .boolean) 2 [.ref (G.1 39), .int a1] σ (some (.int y.2)) y.1 := by
  refine ct_intro RX8 hG (by decide) rfl (Nat.le_of_ble_eq_true rfl) (fun X hX C hK => ?_)
  subst hX
  exact w_f_X8_isSpot C h hK
theorem r_f_X8_isSpot {G : Wld} {X : Cxt} {own : String} {cc : ByteArray} {nL n : Nat} {σ : Sto} {lv : List (Nat × Value)} {st : List Value} {β : Type} {r : β} {F : Sto → Int32 → Option β} {a1 : Int32} {ix : Nat} (pc : Nat) (C : Cx G X own cc nL n) (hn : 2 < n) (h1 : Cond.methodLink own ix yX8_isSpot ∈ lw_gd) (hd : decode cc pc = .ok (.invokevirtual ix, 3)) (hsum : (st.map fun v => v.category).sum ≤ 8) (h : bd2 (f_X8_isSpot σ a1) F = some r) (kk : ∀ σ1 v, F σ1 v = some r → V G X nL σ1 lv (.int v :: st) (pc + 3)) : V G X nL σ lv (.int a1 :: .ref (G.1 39) :: st) pc := by
  obtain ⟨z, hz, h⟩ := bd2_some h
  exact v_callV pc C 39 1 [.int a1] st (c_f_X8_isSpot (xl X) G C.2.2.2.2.2.2.1 _ _ _ hz) hn (by decide) (by decide) (ce_39 G _ _) rfl (by decide +kernel) rfl h1 q_1036 q_35 q_68 q_1037 rfl hsum hd (kk _ _ h)
-- f_X8_whoIsOn
def f_X8_whoIsOn_j28 (σ : Sto) (x1 : Int32) (x2 : Int32) (x4 : Int32) (s0 : Int32) : Option ((Sto × Int32 × Int32) ⊕ (Sto × Int32 × Int32)) :=
  bs s0 fun z3 => bs (x4 + (1 : Int32)) fun z4 => some (.inl (σ, z3, z4))
def f_X8_whoIsOn_l5 (x1 : Int32) (x2 : Int32) (σ : Sto) (x3 : Int32) (x4 : Int32) : Option ((Sto × Int32 × Int32) ⊕ (Sto × Int32 × Int32)) :=
  if x2 ≤ x4 then (some (.inr (σ, x3, x4))) else (gd (inB x4 7) (if (σ.1 48 (x4).toNatClampNeg) = x1 then (f_X8_whoIsOn_j28 σ x1 x2 x4 x4) else (f_X8_whoIsOn_j28 σ x1 x2 x4 x3)))
def f_X8_whoIsOn (σ : Sto) (a1 : Int32) (a2 : Int32) : Option (Sto × Int32) :=
  bs (-1 : Int32) fun z1 => bs (0 : Int32) fun z2 => bE2 (lpF (fun t => f_X8_whoIsOn_l5 a1 a2 t.1 t.2.1 t.2.2) FU (σ, z1, z2)) (fun σ5 z6 z7 => some (σ5, z6))
theorem w_f_X8_whoIsOn_j28 {G : Wld} {X : Cxt} (C : Cx G X RX8 cX8_whoIsOn 5 1) {σ : Sto} {x1 : Int32} {x2 : Int32} {x4 : Int32} {s0 : Int32} {y : (Sto × Int32 × Int32) ⊕ (Sto × Int32 × Int32)} (h : f_X8_whoIsOn_j28 σ x1 x2 x4 s0 = some y) (hc : ∀ t : Sto × Int32 × Int32, y = .inl t → V G X 5 t.1 [(0, .ref (G.1 39)), (1, .int x1), (2, .int x2), (3, .int t.2.1), (4, .int t.2.2)] [] 5) {Ve : Sto × Int32 × Int32 → Prop} (he : ∀ e, y = .inr e → Ve e) (hx : ∀ (σ : Sto) (x3 : Int32) (x4 : Int32), Ve (σ, x3, x4) → V G X 5 σ [(0, .ref (G.1 39)), (1, .int x1), (2, .int x2), (3, .int x3), (4, .int x4)] [] 35) : V G X 5 σ [(0, .ref (G.1 39)), (1, .int x1), (2, .int x2), (4, .int x4)] [.int s0] 28 := by
  unfold f_X8_whoIsOn_j28 at h
  refine b_istore_n 28 C 3 (lv2 := fun z3 => [(3, .int z3), (0, .ref (G.1 39)), (1, .int x1), (2, .int x2), (4, .int x4)]) dX8_whoIsOn_28 rfl (by decide) (fun _ => rfl) h (fun z3 h => ?_)
  refine b_iinc 29 C 4 4 (1 : Int32) (lv2 := fun z4 => [(4, .int z4), (3, .int z3), (0, .ref (G.1 39)), (1, .int x1), (2, .int x2)]) dX8_whoIsOn_29 rfl (by decide) (by decide) (fun _ => rfl) h (fun z4 h => ?_)
  refine v_goto 32 C 5 dX8_whoIsOn_32 (by decide) ?_
  exact v_sub [2, 3, 4, 1, 0] rfl (hc _ (Option.some.inj h).symm)
theorem w_f_X8_whoIsOn_l5 {G : Wld} {X : Cxt} (C : Cx G X RX8 cX8_whoIsOn 5 1) {x1 : Int32} {x2 : Int32} {σ : Sto} {x3 : Int32} {x4 : Int32} {y : (Sto × Int32 × Int32) ⊕ (Sto × Int32 × Int32)} (h : f_X8_whoIsOn_l5 x1 x2 σ x3 x4 = some y) (hc : ∀ t : Sto × Int32 × Int32, y = .inl t → V G X 5 t.1 [(0, .ref (G.1 39)), (1, .int x1), (2, .int x2), (3, .int t.2.1), (4, .int t.2.2)] [] 5) {Ve : Sto × Int32 × Int32 → Prop} (he : ∀ e, y = .inr e → Ve e) (hx : ∀ (σ : Sto) (x3 : Int32) (x4 : Int32), Ve (σ, x3, x4) → V G X 5 σ [(0, .ref (G.1 39)), (1, .int x1), (2, .int x2), (3, .int x3), (4, .int x4)] [] 35) : V G X 5 σ [(0, .ref (G.1 39)), (1, .int x1), (2, .int x2), (3, .int x3), (4, .int x4)] [] 5 := by
  unfold f_X8_whoIsOn_l5 at h
  refine v_iload 5 C 4 4 dX8_whoIsOn_5 rfl ?_
  refine v_iload_n 7 C 2 2 dX8_whoIsOn_7 rfl rfl ?_
  refine v_icmp_ge 8 C 35 dX8_whoIsOn_8 (by decide) h (fun h => ?_) (fun h => ?_)
  · exact v_sub [0, 1, 2, 3, 4] rfl (hx _ _ _ (he _ (Option.some.inj h).symm))
  · refine v_aload_n 11 C 0 0 dX8_whoIsOn_11 rfl rfl ?_
    refine g_X8_39_14 12 C dX8_whoIsOn_12 ?_
    refine v_iload 15 C 4 4 dX8_whoIsOn_15 rfl ?_
    refine v_iald 17 C 48 (by decide) (ce_48 G) dX8_whoIsOn_17 h (fun h => ?_)
    refine v_iload_n 18 C 1 1 dX8_whoIsOn_18 rfl rfl ?_
    refine v_icmp_ne 19 C 27 dX8_whoIsOn_19 (by decide) h (fun h => ?_) (fun h => ?_)
    · refine v_iload_n 27 C 3 3 dX8_whoIsOn_27 rfl rfl ?_
      exact v_sub [0, 1, 2, 4] rfl (w_f_X8_whoIsOn_j28 C h hc he hx)
    · refine v_iload 22 C 4 4 dX8_whoIsOn_22 rfl ?_
      refine v_goto 24 C 28 dX8_whoIsOn_24 (by decide) ?_
      exact v_sub [0, 1, 2, 4] rfl (w_f_X8_whoIsOn_j28 C h hc he hx)
theorem w_f_X8_whoIsOn {G : Wld} {X : Cxt} (C : Cx G X RX8 cX8_whoIsOn 5 1) {σ : Sto} {a1 : Int32} {a2 : Int32} {y : Sto × Int32} (h : f_X8_whoIsOn σ a1 a2 = some y) (hK : Rx G X (some .int) (some (.int y.2)) y.1) : V G X 5 σ [(0, .ref (G.1 39)), (1, .int a1), (2, .int a2)] [] 0 := by
  unfold f_X8_whoIsOn at h
  refine v_iconst 0 C (-1 : Int32) dX8_whoIsOn_0 (by decide) ?_
  refine b_istore_n 1 C 3 (lv2 := fun z1 => [(3, .int z1), (0, .ref (G.1 39)), (1, .int a1), (2, .int a2)]) dX8_whoIsOn_1 rfl (by decide) (fun _ => rfl) h (fun z1 h => ?_)
  refine v_iconst 2 C (0 : Int32) dX8_whoIsOn_2 (by decide) ?_
  refine b_istore 3 C 4 (lv2 := fun z2 => [(4, .int z2), (3, .int z1), (0, .ref (G.1 39)), (1, .int a1), (2, .int a2)]) dX8_whoIsOn_3 (by decide) (fun _ => rfl) h (fun z2 h => ?_)
  refine v_sub [2, 3, 4, 1, 0] rfl ?_
  refine lp_go (Vh := fun t => V G X 5 t.1 [(0, .ref (G.1 39)), (1, .int a1), (2, .int a2), (3, .int t.2.1), (4, .int t.2.2)] [] 5) h ?_
  intro t8 y8 hy8 hc8 he8
  refine w_f_X8_whoIsOn_l5 C hy8 hc8 he8 (fun σ5 z6 z7 h => ?_)
  dsimp only at h
  refine v_iload_n 35 C 3 3 dX8_whoIsOn_35 rfl rfl ?_
  cases h
  exact v_iret 36 C hK dX8_whoIsOn_36
theorem c_f_X8_whoIsOn (l : Launch) (G : Wld) (hG : GI G) (σ : Sto) (a1 : Int32) (a2 : Int32) (y : Sto × Int32) (h : f_X8_whoIsOn σ a1 a2 = some y) : Ct l G yX8_whoIsOn cX8_whoIsOn 5 (some .int) 1 [.ref (G.1 39), .int a1, .int a2] σ (some (.int y.2)) y.1 := by
  refine ct_intro RX8 hG (by decide) rfl (Nat.le_of_ble_eq_true rfl) (fun X hX C hK => ?_)
  subst hX
  exact w_f_X8_whoIsOn C h hK
theorem r_f_X8_whoIsOn {G : Wld} {X : Cxt} {own : String} {cc : ByteArray} {nL n : Nat} {σ : Sto} {lv : List (Nat × Value)} {st : List Value} {β : Type} {r : β} {F : Sto → Int32 → Option β} {a1 : Int32} {a2 : Int32} {ix : Nat} (pc : Nat) (C : Cx G X own cc nL n) (hn : 1 < n) (h1 : Cond.methodLink own ix yX8_whoIsOn ∈ lw_gd) (hd : decode cc pc = .ok (.invokevirtual ix, 3)) (hsum : (st.map fun v => v.category).sum ≤ 8) (h : bd2 (f_X8_whoIsOn σ a1 a2) F = some r) (kk : ∀ σ1 v, F σ1 v = some r → V G X nL σ1 lv (.int v :: st) (pc + 3)) : V G X nL σ lv (.int a2 :: .int a1 :: .ref (G.1 39) :: st) pc := by
  obtain ⟨z, hz, h⟩ := bd2_some h
  exact v_callV pc C 39 2 [.int a1, .int a2] st (c_f_X8_whoIsOn (xl X) G C.2.2.2.2.2.2.1 _ _ _ _ hz) hn (by decide) (by decide) (ce_39 G _ _) rfl (by decide +kernel) rfl h1 q_1040 q_36 q_68 q_1041 rfl hsum hd (kk _ _ h)
