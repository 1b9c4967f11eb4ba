/-! the five words: length and charAt of the JDK's String over them -/
def sLen (w : Nat) : Int32 := Int32.ofNat (kLen.getD w 0)
def sChr (w : Nat) (i : Int32) : Int32 := ((kByt.getD w []).getD i.toNatClampNeg 0) &&& 255
section VSTRS
variable {G : Wld} {X : Cxt} {own : String} {cc : ByteArray} {nL n : Nat} {σ : Sto} {lv : List (Nat × Value)} {st : List Value}
theorem v_ldcS (pc : Nat) (C : Cx G X own cc nL n) {ix : Nat} (w : Nat) (hw : w < 5) (ho : own = "ShadowAlms$Reader") (hx : kIx w = ix) (hd : decode cc pc = .ok (.ldc ix, 2)) (k : V G X nL σ lv (.ref (G.2.2.2.2.1 w) :: st) (pc + 2)) : V G X nL σ lv st pc := by
  intro H locs ls hP hS hl
  subst hx
  subst ho
  exact va_ldcS C.1 C.2.1 C.2.2.2.1 (C.2.2.2.2.2.2.2.2.1.2.2.2.2.1 w hw) hd (k H locs ls hP hS hl)
theorem v_kval (pc : Nat) (C : Cx G X own cc nL n) {ix : Nat} {w : Nat} (hw : w < 5) (h1 : Cond.fieldLink own ix "java/lang/String" "value" "[B" ∈ lw_gd) (hd : decode cc pc = .ok (.getfield ix, 3)) (k : V G X nL σ lv (.ref (G.2.2.2.2.2.1 w) :: st) (pc + 3)) : V G X nL σ lv (.ref (G.2.2.2.2.1 w) :: st) pc := by
  intro H locs ls hP hS hl
  exact vk_getf C.1 C.2.1 ((C.2.2.2.2.2.2.2.2.1.2.2.2.1.1 w hw).2.2.1) hS C.2.2.2.1 (C.2.2.2.2.1 _ h1) (fun _ h => h) hd (k H locs ls hP hS hl)
theorem v_kcod (pc : Nat) (C : Cx G X own cc nL n) {ix : Nat} {w : Nat} (hw : w < 5) (h1 : Cond.fieldLink own ix "java/lang/String" "coder" "B" ∈ lw_gd) (hd : decode cc pc = .ok (.getfield ix, 3)) (k : V G X nL σ lv (.int 0 :: st) (pc + 3)) : V G X nL σ lv (.ref (G.2.2.2.2.1 w) :: st) pc := by
  intro H locs ls hP hS hl
  exact vk_getf C.1 C.2.1 ((C.2.2.2.2.2.2.2.2.1.2.2.2.1.1 w hw).2.1) hS C.2.2.2.1 (C.2.2.2.2.1 _ h1) (fun _ h => h) hd (k H locs ls hP hS hl)
theorem v_kcmp (pc : Nat) (C : Cx G X own cc nL n) {ix : Nat} (h1 : Cond.fieldLink own ix "java/lang/String" "COMPACT_STRINGS" "Z" ∈ lw_gd) (hd : decode cc pc = .ok (.getstatic ix, 3)) (k : V G X nL σ lv (.int 1 :: st) (pc + 3)) : V G X nL σ lv st pc := by
  intro H locs ls hP hS hl
  exact va_gets C.1 C.2.1 (C.2.2.2.2.2.2.2.2.1.2.1) hS C.2.2.2.1 (C.2.2.2.2.1 _ h1) (fun _ h => h) hd (k H locs ls hP hS hl)
theorem v_kfmt (pc : Nat) (C : Cx G X own cc nL n) {ix : Nat} (h1 : Cond.fieldLink own ix "jdk/internal/util/Preconditions" "SIOOBE_FORMATTER" "Ljava/util/function/BiFunction;" ∈ lw_gd) (hd : decode cc pc = .ok (.getstatic ix, 3)) (k : V G X nL σ lv (G.2.2.2.2.2.2 :: st) (pc + 3)) : V G X nL σ lv st pc := by
  intro H locs ls hP hS hl
  exact va_gets C.1 C.2.1 (C.2.2.2.2.2.2.2.2.1.2.2.1.1) hS C.2.2.2.1 (C.2.2.2.2.1 _ h1) (fun _ h => h) hd (k H locs ls hP hS hl)
theorem v_klen (pc : Nat) (C : Cx G X own cc nL n) {w : Nat} (hw : w < 5) (hd : decode cc pc = .ok (.arraylength, 1)) (k : V G X nL σ lv (.int (sLen w) :: st) (pc + 1)) : V G X nL σ lv (.ref (G.2.2.2.2.2.1 w) :: st) pc := by
  intro H locs ls hP hS hl
  exact va_tlen C.1 C.2.1 ((C.2.2.2.2.2.2.2.2.1.2.2.2.1.1 w hw).2.2.2) hS rfl hd (k H locs ls hP hS hl)
theorem v_kald (pc : Nat) (C : Cx G X own cc nL n) {w : Nat} {i : Int32} (hw : w < 5) (hi : inB i (kLen.getD w 0) = true) (hd : decode cc pc = .ok (.baload, 1)) (k : V G X nL σ lv (.int ((kByt.getD w []).getD i.toNatClampNeg 0) :: st) (pc + 1)) : V G X nL σ lv (.int i :: .ref (G.2.2.2.2.2.1 w) :: st) pc := by
  intro H locs ls hP hS hl
  exact va_tb C.1 C.2.1 ((C.2.2.2.2.2.2.2.2.1.2.2.2.1.1 w hw).2.2.2) hS (inB_in hi) rfl hd (k H locs ls hP hS hl)
theorem v_callK (pc : Nat) (C : Cx G X own cc nL n) {y : MethodName} {bytes : ByteArray} {maxL n2 ix : Nat} {ret : Option FieldType} {σ' : Sto} {rv : Option Value} {w : Nat} (np : Nat) (As rest : List Value)
    (hc : Ct (xl X) G y bytes maxL ret n2 (.ref (G.2.2.2.2.1 w) :: As) σ rv σ') (hn : n2 < n) (hm : maxL ≤ 31) (hw : w < 5)
    (hy : y.cls = "java/lang/String" ∧ y.cls ≠ "java/lang/invoke/MethodHandle" ∧ y.cls ≠ "java/lang/invoke/VarHandle" ∧ (parseMethodDescriptor y.desc).map (fun d => d.parameters.length) = some np) (hlen : As.length = np)
    (h1 : Cond.methodLink own ix y ∈ lw_gd) (h2 : Cond.instanceMethod y ∈ lw_gd) (h3 : Cond.selects "java/lang/String" y y ∈ lw_gd) (h4 : Cond.initialized "java/lang/String" ∈ lw_gd) (h5 : Cond.code y bytes maxL ret ∈ lw_gd)
    (hst : st = As.reverse ++ .ref (G.2.2.2.2.1 w) :: rest) (hsum : (rest.map fun v => v.category).sum ≤ 8) (hd : decode cc pc = .ok (.invokevirtual ix, 3)) (kk : V G X nL σ' lv (rv.toList ++ rest) (pc + 3)) : V G X nL σ lv st pc := by
  intro H locs ls hP hS hl
  have hR := C.2.2.2.2.2.2.2.2.2
  refine v_back C hS hl (rest := rest) (va_runV (mc := 0) (ms := 0) (Ts := lw_gd) (As := As) (rest := rest) ⟨C.1, C.2.1, C.2.2.1, C.2.2.2.1, C.2.2.2.2.1⟩ hc (cwV np C.2.2.2.2.1 (good_V h1 h2 h3 h4 h5) rfl rfl rfl hy ⟨?_, ?_⟩) ⟨blind_Wd, vk_recv (C.2.2.2.2.2.2.2.2.1.2.2.2.1) hw hS, pre_Wd C hP hS⟩ rfl hlen hl.1 hst (lv_room hsum) hd ⟨hR.2.2.1, hR.2.2.2⟩) kk
  · show n2 + 1 ≤ _
    omega
  · show 8 + (maxL + 11) + 50 * n2 ≤ _
    omega
end VSTRS
theorem k_coder (l : Launch) (G : Wld) (hG : GI G) (σ : Sto) (w : Nat) (hw : w < 5) : Ct l G yJ0_coder_7d493 cJ0_coder_7d493 1 (some .byte) 1 [.ref (G.2.2.2.2.1 w)] σ (some (.int 0)) σ := by
  refine ct_intro RJ0 hG (by decide) rfl (Nat.le_of_ble_eq_true rfl) (fun X hX C hK => ?_)
  refine v_kcmp 0 C q_379 dJ0_coder_7d493_0 ?_
  refine v_if_eq 3 C 13 (F := none) (E := some ()) (r := ()) dJ0_coder_7d493_3 (by decide) (if_neg (by decide)) (fun h => by cases h) (fun _ => ?_)
  refine v_aload_n 6 C 0 0 dJ0_coder_7d493_6 rfl rfl ?_
  refine v_kcod 7 C hw q_1236 dJ0_coder_7d493_7 ?_
  refine v_goto 10 C 14 dJ0_coder_7d493_10 (by decide) ?_
  exact v_zret 14 C rfl hK dJ0_coder_7d493_14
theorem k_isLatin1 (l : Launch) (G : Wld) (hG : GI G) (σ : Sto) (w : Nat) (hw : w < 5) : Ct l G yJ0_isLatin1_aae02 cJ0_isLatin1_aae02 1 (some .boolean) 1 [.ref (G.2.2.2.2.1 w)] σ (some (.int 1)) σ := by
  refine ct_intro RJ0 hG (by decide) rfl (Nat.le_of_ble_eq_true rfl) (fun X hX C hK => ?_)
  refine v_kcmp 0 C q_379 dJ0_isLatin1_aae02_0 ?_
  refine v_if_eq 3 C 17 (F := none) (E := some ()) (r := ()) dJ0_isLatin1_aae02_3 (by decide) (if_neg (by decide)) (fun h => by cases h) (fun _ => ?_)
  refine v_aload_n 6 C 0 0 dJ0_isLatin1_aae02_6 rfl rfl ?_
  refine v_kcod 7 C hw q_1236 dJ0_isLatin1_aae02_7 ?_
  refine v_if_ne 10 C 17 (F := none) (E := some ()) (r := ()) dJ0_isLatin1_aae02_10 (by decide) (if_pos rfl) (fun h => by cases h) (fun _ => ?_)
  refine v_iconst 13 C 1 dJ0_isLatin1_aae02_13 (by decide) ?_
  refine v_goto 14 C 18 dJ0_isLatin1_aae02_14 (by decide) ?_
  exact v_zret 18 C rfl hK dJ0_isLatin1_aae02_18
theorem k_length (l : Launch) (G : Wld) (hG : GI G) (σ : Sto) (w : Nat) (hw : w < 5) : Ct l G yJ0_length_8abf5 cJ0_length_8abf5 1 (some .int) 2 [.ref (G.2.2.2.2.1 w)] σ (some (.int (sLen w))) σ := by
  refine ct_intro RJ0 hG (by decide) rfl (Nat.le_of_ble_eq_true rfl) (fun X hX C hK => ?_)
  refine v_aload_n 0 C 0 0 dJ0_length_8abf5_0 rfl rfl ?_
  refine v_kval 1 C hw q_1235 dJ0_length_8abf5_1 ?_
  refine v_klen 4 C hw dJ0_length_8abf5_4 ?_
  refine v_aload_n 5 C 0 0 dJ0_length_8abf5_5 rfl rfl ?_
  refine v_callK 6 C 0 [] [.int (sLen w)] (k_coder (xl X) G C.2.2.2.2.2.2.1 σ w hw) (by decide) (by decide) hw (by decide +kernel) rfl q_375 q_376 q_377 q_69 q_378 rfl (Nat.le_of_ble_eq_true rfl) dJ0_length_8abf5_6 ?_
  refine v_ishr 9 C dJ0_length_8abf5_9 ?_
  have e : sLen w >>> ((0 : Int32) &&& 31) = sLen w := sb_shr0 _
  rw [e]
  exact v_iret 10 C hK dJ0_length_8abf5_10
theorem k_chk3 (l : Launch) (G : Wld) (hG : GI G) (σ : Sto) (i m : Int32) (f : Value) (hf : f = .null ∨ ∃ t, f = .ref t) (h0 : ¬ i < 0) (h1 : i < m) : Ct l G yJ3_checkIndex_8e157 cJ3_checkIndex_8e157 3 (some .int) 1 [.int i, .int m, f] σ (some (.int i)) σ := by
  have hlen : (lg_sl [.int i, .int m, f]).length ≤ 3 := by
    rcases hf with rfl | ⟨t, rfl⟩
    · exact Nat.le_of_ble_eq_true rfl
    · exact Nat.le_of_ble_eq_true rfl
  refine ct_intro RJ3 hG (by decide) rfl hlen (fun X hX C hK => ?_)
  refine v_iload_n 0 C 0 0 dJ3_checkIndex_8e157_0 rfl rfl ?_
  refine v_if_lt 1 C 9 (F := none) (E := some ()) (r := ()) dJ3_checkIndex_8e157_1 (by decide) (if_neg h0) (fun h => by cases h) (fun _ => ?_)
  refine v_iload_n 4 C 0 0 dJ3_checkIndex_8e157_4 rfl rfl ?_
  refine v_iload_n 5 C 1 1 dJ3_checkIndex_8e157_5 rfl rfl ?_
  refine v_icmp_lt 6 C 16 (F := some ()) (E := none) (r := ()) dJ3_checkIndex_8e157_6 (by decide) (if_pos h1) (fun _ => ?_) (fun h => by cases h)
  refine v_iload_n 16 C 0 0 dJ3_checkIndex_8e157_16 rfl rfl ?_
  exact v_iret 17 C hK dJ3_checkIndex_8e157_17
theorem k_chk0 (l : Launch) (G : Wld) (hG : GI G) (σ : Sto) (i m : Int32) (h0 : ¬ i < 0) (h1 : i < m) : Ct l G yJ0_checkIndex_df160 cJ0_checkIndex_df160 2 none 2 [.int i, .int m] σ none σ := by
  refine ct_intro RJ0 hG (by decide) rfl (Nat.le_of_ble_eq_true rfl) (fun X hX C hK => ?_)
  refine v_iload_n 0 C 0 0 dJ0_checkIndex_df160_0 rfl rfl ?_
  refine v_iload_n 1 C 1 1 dJ0_checkIndex_df160_1 rfl rfl ?_
  refine v_kfmt 2 C q_395 dJ0_checkIndex_df160_2 ?_
  refine v_callS 5 C 3 [.int i, .int m, G.2.2.2.2.2.2] [] (k_chk3 (xl X) G C.2.2.2.2.2.2.1 σ i m _ (C.2.2.2.2.2.2.2.2.1.2.2.1.2.2) h0 h1) (by decide) (by decide) (by decide +kernel) rfl q_397 q_398 q_71 q_399 rfl (Nat.le_of_ble_eq_true rfl) dJ0_checkIndex_df160_5 ?_
  refine v_pop 8 C dJ0_checkIndex_df160_8 rfl ?_
  exact v_vret 9 C hK dJ0_checkIndex_df160_9
theorem k_latin (l : Launch) (G : Wld) (hG : GI G) (σ : Sto) (w : Nat) (i : Int32) (hw : w < 5) (hi : inB i (kLen.getD w 0) = true) : Ct l G yJ1_charAt_3b067 cJ1_charAt_3b067 2 (some .char) 3 [.ref (G.2.2.2.2.2.1 w), .int i] σ (some (.int (sChr w i))) σ := by
  have hL : kLen.getD w 0 < 2 ^ 31 := by
    rcases (show w = 0 ∨ w = 1 ∨ w = 2 ∨ w = 3 ∨ w = 4 by omega) with rfl | rfl | rfl | rfl | rfl <;> decide
  obtain ⟨j, hj, rfl⟩ := vp_in_of (inB_in hi) hL
  have h0 : ¬ nI j < 0 := nI_pos (by omega)
  have h1 : nI j < sLen w := nI_lt hj hL
  refine ct_intro RJ1 hG (by decide) rfl (Nat.le_of_ble_eq_true rfl) (fun X hX C hK => ?_)
  refine v_iload_n 0 C 1 1 dJ1_charAt_3b067_0 rfl rfl ?_
  refine v_aload_n 1 C 0 0 dJ1_charAt_3b067_1 rfl rfl ?_
  refine v_klen 2 C hw dJ1_charAt_3b067_2 ?_
  refine v_callS 3 C 2 [.int (nI j), .int (sLen w)] [] (k_chk0 (xl X) G C.2.2.2.2.2.2.1 σ _ _ h0 h1) (by decide) (by decide) (by decide +kernel) rfl q_392 q_393 q_69 q_394 rfl (Nat.le_of_ble_eq_true rfl) dJ1_charAt_3b067_3 ?_
  refine v_aload_n 6 C 0 0 dJ1_charAt_3b067_6 rfl rfl ?_
  refine v_iload_n 7 C 1 1 dJ1_charAt_3b067_7 rfl rfl ?_
  refine v_kald 8 C hw hi dJ1_charAt_3b067_8 ?_
  refine v_sipush 9 C 255 dJ1_charAt_3b067_9 (by decide) ?_
  refine v_iand 12 C dJ1_charAt_3b067_12 ?_
  refine v_i2c 13 C dJ1_charAt_3b067_13 ?_
  rw [sc_c2]
  exact v_zret 14 C (sc_nar _) hK dJ1_charAt_3b067_14
theorem k_charAt (l : Launch) (G : Wld) (hG : GI G) (σ : Sto) (w : Nat) (i : Int32) (hw : w < 5) (hi : inB i (kLen.getD w 0) = true) : Ct l G yJ0_charAt_5068e cJ0_charAt_5068e 2 (some .char) 4 [.ref (G.2.2.2.2.1 w), .int i] σ (some (.int (sChr w i))) σ := by
  refine ct_intro RJ0 hG (by decide) rfl (Nat.le_of_ble_eq_true rfl) (fun X hX C hK => ?_)
  refine v_aload_n 0 C 0 0 dJ0_charAt_5068e_0 rfl rfl ?_
  refine v_callK 1 C 0 [] [] (k_isLatin1 (xl X) G C.2.2.2.2.2.2.1 σ w hw) (by decide) (by decide) hw (by decide +kernel) rfl q_385 q_386 q_387 q_69 q_388 rfl (Nat.le_of_ble_eq_true rfl) dJ0_charAt_5068e_1 ?_
  refine v_if_eq 4 C 16 (F := none) (E := some ()) (r := ()) dJ0_charAt_5068e_4 (by decide) (if_neg (by decide)) (fun h => by cases h) (fun _ => ?_)
  refine v_aload_n 7 C 0 0 dJ0_charAt_5068e_7 rfl rfl ?_
  refine v_kval 8 C hw q_1235 dJ0_charAt_5068e_8 ?_
  refine v_iload_n 11 C 1 1 dJ0_charAt_5068e_11 rfl rfl ?_
  refine v_callS 12 C 2 [.ref (G.2.2.2.2.2.1 w), .int i] [] (k_latin (xl X) G C.2.2.2.2.2.2.1 σ w i hw hi) (by decide) (by decide) (by decide +kernel) rfl q_389 q_390 q_70 q_391 rfl (Nat.le_of_ble_eq_true rfl) dJ0_charAt_5068e_12 ?_
  exact v_zret 15 C (sc_nar _) hK dJ0_charAt_5068e_15
section VSTRS2
variable {G : Wld} {X : Cxt} {own : String} {cc : ByteArray} {nL n : Nat} {σ : Sto} {lv : List (Nat × Value)} {st : List Value} {β : Type} {r : β} {F : Option β}
theorem r_Slen (pc : Nat) (C : Cx G X own cc nL n) {ix : Nat} (hn : 4 < n) (h1 : Cond.methodLink own ix yJ0_length_8abf5 ∈ lw_gd) (hd : decode cc pc = .ok (.invokevirtual ix, 3)) (hsum : (st.map fun v => v.category).sum ≤ 8) {w : Nat} (h : gd (decide (w < 5)) F = some r) (kk : F = some r → V G X nL σ lv (.int (sLen w) :: st) (pc + 3)) : V G X nL σ lv (.ref (G.2.2.2.2.1 w) :: st) pc := by
  obtain ⟨hw, h⟩ := gd_some h
  exact v_callK pc C 0 [] st (k_length (xl X) G C.2.2.2.2.2.2.1 σ w (of_decide_eq_true hw)) (by omega) (by decide) (of_decide_eq_true hw) (by decide +kernel) rfl h1 q_372 q_373 q_69 q_374 rfl hsum hd (kk h)
theorem r_SchA (pc : Nat) (C : Cx G X own cc nL n) {ix : Nat} (hn : 4 < n) (h1 : Cond.methodLink own ix yJ0_charAt_5068e ∈ lw_gd) (hd : decode cc pc = .ok (.invokevirtual ix, 3)) (hsum : (st.map fun v => v.category).sum ≤ 8) {w : Nat} {i : Int32} (h : gd (decide (w < 5)) (gd (inB i (kLen.getD w 0)) F) = some r) (kk : F = some r → V G X nL σ lv (.int (sChr w i) :: st) (pc + 3)) : V G X nL σ lv (.int i :: .ref (G.2.2.2.2.1 w) :: st) pc := by
  obtain ⟨hw, h⟩ := gd_some h
  obtain ⟨hi, h⟩ := gd_some h
  exact v_callK pc C 1 [.int i] st (k_charAt (xl X) G C.2.2.2.2.2.2.1 σ w i (of_decide_eq_true hw) hi) (by omega) (by decide) (of_decide_eq_true hw) (by decide +kernel) rfl h1 q_382 q_383 q_69 q_384 rfl hsum hd (kk h)
end VSTRS2
