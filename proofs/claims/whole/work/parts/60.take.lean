/-! square: the draft of the reference, what it takes -/
def PM (k j : Nat) : Prop := (k = 39 ∧ 22 ≤ j ∧ j ≤ 41) ∨ (52 ≤ k ∧ k ≤ 59)
def DM0 (Y : Sto) (c : Nat) (v : Nat → Nat → Nat) : Prop := (c = 0 ∧ Y.1 39 28 = 0) ∨ (c = 1 ∧ Y.1 39 28 = nI (v 0 0))
def DM1 (Y : Sto) (c : Nat) (v : Nat → Nat → Nat) : Prop := Y.1 39 30 = nI c ∧ ∀ i, i < c → Y.1 52 i = nI (v i 0) ∧ Y.1 53 i = nI (v i 1)
def DM2 (Y : Sto) (c : Nat) (v : Nat → Nat → Nat) : Prop := Y.1 39 33 = nI c ∧ ∀ i, i < c → Y.1 54 i = nI (v i 0) ∧ Y.1 55 i = nI (v i 1) ∧ Y.1 56 i = nI (v i 2)
def DM3 (Y : Sto) (c : Nat) (v : Nat → Nat → Nat) : Prop := Y.1 39 37 = nI c ∧ ∀ i, i < c → Y.1 57 i = nI (v i 0)
def DM4 (Y : Sto) (c : Nat) (v : Nat → Nat → Nat) : Prop := Y.1 39 39 = nI c ∧ ∀ i, i < c → Y.1 58 i = nI (v i 0) ∧ Y.1 59 i = nI (v i 1)
def DMr (Y : Sto) (D : Dr) (r : Nat) : Prop := Y.1 39 29 = nI r ∧ DM0 Y (D.1 0) (D.2 0) ∧ DM1 Y (D.1 1) (D.2 1) ∧ DM2 Y (D.1 2) (D.2 2) ∧ DM3 Y (D.1 3) (D.2 3) ∧ DM4 Y (D.1 4) (D.2 4)
theorem DM0.fr {Y Z : Sto} {c : Nat} {v : Nat → Nat → Nat} {P : Nat → Nat → Prop} (h : DM0 Y c v) (hf : Fr P Y Z) (h1 : ¬ P 39 28) : DM0 Z c v := by
  unfold DM0
  rw [hf 39 28 h1]
  exact h
theorem DM1.fr {Y Z : Sto} {c : Nat} {v : Nat → Nat → Nat} {P : Nat → Nat → Prop} (h : DM1 Y c v) (hf : Fr P Y Z) (h1 : ¬ P 39 30) (p52 : ∀ j, ¬ P 52 j) (p53 : ∀ j, ¬ P 53 j) : DM1 Z c v := ⟨(hf 39 30 h1).trans h.1, fun i hi => by rw [hf 52 i (p52 i), hf 53 i (p53 i)]; exact h.2 i hi⟩
theorem DM2.fr {Y Z : Sto} {c : Nat} {v : Nat → Nat → Nat} {P : Nat → Nat → Prop} (h : DM2 Y c v) (hf : Fr P Y Z) (h1 : ¬ P 39 33) (p54 : ∀ j, ¬ P 54 j) (p55 : ∀ j, ¬ P 55 j) (p56 : ∀ j, ¬ P 56 j) : DM2 Z c v := ⟨(hf 39 33 h1).trans h.1, fun i hi => by rw [hf 54 i (p54 i), hf 55 i (p55 i), hf 56 i (p56 i)]; exact h.2 i hi⟩
theorem DM3.fr {Y Z : Sto} {c : Nat} {v : Nat → Nat → Nat} {P : Nat → Nat → Prop} (h : DM3 Y c v) (hf : Fr P Y Z) (h1 : ¬ P 39 37) (p57 : ∀ j, ¬ P 57 j) : DM3 Z c v := ⟨(hf 39 37 h1).trans h.1, fun i hi => by rw [hf 57 i (p57 i)]; exact h.2 i hi⟩
theorem DM4.fr {Y Z : Sto} {c : Nat} {v : Nat → Nat → Nat} {P : Nat → Nat → Prop} (h : DM4 Y c v) (hf : Fr P Y Z) (h1 : ¬ P 39 39) (p58 : ∀ j, ¬ P 58 j) (p59 : ∀ j, ¬ P 59 j) : DM4 Z c v := ⟨(hf 39 39 h1).trans h.1, fun i hi => by rw [hf 58 i (p58 i), hf 59 i (p59 i)]; exact h.2 i hi⟩
theorem addD_c {D : Dr} {k : Nat} {v : Nat → Nat} : (addD D k v).1 k = D.1 k + 1 := if_pos rfl
theorem addD_o {D : Dr} {k k2 : Nat} {v : Nat → Nat} (h : ¬ k2 = k) : (addD D k v).1 k2 = D.1 k2 ∧ (addD D k v).2 k2 = D.2 k2 := ⟨if_neg h, funext (fun i => funext (fun j => if_neg (fun z => h z.1)))⟩
theorem addD_n {D : Dr} {k : Nat} {v : Nat → Nat} {j : Nat} : (addD D k v).2 k (D.1 k) j = v j := if_pos ⟨rfl, rfl⟩
theorem addD_i {D : Dr} {k : Nat} {v : Nat → Nat} {i j : Nat} (h : ¬ i = D.1 k) : (addD D k v).2 k i j = D.2 k i j := if_neg (fun z => h z.2)
theorem fF_b {t : Nat → Nat} {len k a i : Nat} (h : fF t len k a i = none) (c : nmK t len (atS t len a i) (loK k i) (hiK k i) = 0) : fF t len k a (i + 1) = none := (fF_n h).trans (if_pos c)
theorem fF_c {t : Nat → Nat} {len k a i : Nat} (h : fF t len k a i = none) (c : ¬ nmK t len (atS t len a i) (loK k i) (hiK k i) = 0) : fF t len k a (i + 1) = some (nmK t len (atS t len a i) (loK k i) (hiK k i), nmP t len (atS t len a i)) := (fF_n h).trans (if_neg c)
theorem m_into_52 {Y : Sto} {t : Nat → Nat} {len a lo hi c : Nat} (h : XM Y t len) (ha : a ≤ len) (e2 : Y.1 39 23 = nI a) (hlo : lo ≤ 1000) (hhi : hi ≤ 1000) (hc : c < 4) : Ok (f_X8_into_52 Y (nI c) (nI lo) (nI hi)) (fun y => y.2 = nI (nmK t len a lo hi) ∧ Fr (fun k j => (k = 39 ∧ 22 ≤ j ∧ j ≤ 27) ∨ (k = 52 ∧ j = c)) Y y.1 ∧ (nmK t len a lo hi = 0 → y.1.1 39 22 = Y.1 39 22 ∧ y.1.1 39 23 = nI (nmB t len a) ∧ y.1.1 52 c = nI (nmV t len a)) ∧ (¬ nmK t len a lo hi = 0 → y.1.1 39 22 = nI (nmP t len a))) := by
  unfold f_X8_into_52
  rw [ok_bd2]
  refine ok_mono (m_takeNumber h ha e2 hlo hhi) (fun y hy => ?_)
  obtain ⟨Z, v⟩ := y
  obtain ⟨q1, q2, q3, q4⟩ := hy
  dsimp only at q1 q2 q3 q4 ⊢
  rw [ok_bs, inB_n hc (by omega), gd_true, ok_bs, ok_some, nI_clamp (show c < 2 ^ 31 by omega)]
  refine ⟨q1, (q2.mono (fun k j q => Or.inl q)).su (Or.inr ⟨rfl, rfl⟩), fun q => ?_, fun q => ?_⟩
  · obtain ⟨r1, r2, r3⟩ := q3 q
    refine ⟨?_, ?_, ?_⟩
    · rw [su_at, if_neg (by omega)]; exact r1
    · rw [su_at, if_neg (by omega)]; exact r2
    · rw [su_at, if_pos ⟨rfl, rfl⟩]; exact r3
  · rw [su_at, if_neg (by omega)]
    exact q4 q
theorem m_into_53 {Y : Sto} {t : Nat → Nat} {len a lo hi c : Nat} (h : XM Y t len) (ha : a ≤ len) (e2 : Y.1 39 23 = nI a) (hlo : lo ≤ 1000) (hhi : hi ≤ 1000) (hc : c < 4) : Ok (f_X8_into_53 Y (nI c) (nI lo) (nI hi)) (fun y => y.2 = nI (nmK t len a lo hi) ∧ Fr (fun k j => (k = 39 ∧ 22 ≤ j ∧ j ≤ 27) ∨ (k = 53 ∧ j = c)) Y y.1 ∧ (nmK t len a lo hi = 0 → y.1.1 39 22 = Y.1 39 22 ∧ y.1.1 39 23 = nI (nmB t len a) ∧ y.1.1 53 c = nI (nmV t len a)) ∧ (¬ nmK t len a lo hi = 0 → y.1.1 39 22 = nI (nmP t len a))) := by
  unfold f_X8_into_53
  rw [ok_bd2]
  refine ok_mono (m_takeNumber h ha e2 hlo hhi) (fun y hy => ?_)
  obtain ⟨Z, v⟩ := y
  obtain ⟨q1, q2, q3, q4⟩ := hy
  dsimp only at q1 q2 q3 q4 ⊢
  rw [ok_bs, inB_n hc (by omega), gd_true, ok_bs, ok_some, nI_clamp (show c < 2 ^ 31 by omega)]
  refine ⟨q1, (q2.mono (fun k j q => Or.inl q)).su (Or.inr ⟨rfl, rfl⟩), fun q => ?_, fun q => ?_⟩
  · obtain ⟨r1, r2, r3⟩ := q3 q
    refine ⟨?_, ?_, ?_⟩
    · rw [su_at, if_neg (by omega)]; exact r1
    · rw [su_at, if_neg (by omega)]; exact r2
    · rw [su_at, if_pos ⟨rfl, rfl⟩]; exact r3
  · rw [su_at, if_neg (by omega)]
    exact q4 q
theorem m_into_54 {Y : Sto} {t : Nat → Nat} {len a lo hi c : Nat} (h : XM Y t len) (ha : a ≤ len) (e2 : Y.1 39 23 = nI a) (hlo : lo ≤ 1000) (hhi : hi ≤ 1000) (hc : c < 6) : Ok (f_X8_into_54 Y (nI c) (nI lo) (nI hi)) (fun y => y.2 = nI (nmK t len a lo hi) ∧ Fr (fun k j => (k = 39 ∧ 22 ≤ j ∧ j ≤ 27) ∨ (k = 54 ∧ j = c)) Y y.1 ∧ (nmK t len a lo hi = 0 → y.1.1 39 22 = Y.1 39 22 ∧ y.1.1 39 23 = nI (nmB t len a) ∧ y.1.1 54 c = nI (nmV t len a)) ∧ (¬ nmK t len a lo hi = 0 → y.1.1 39 22 = nI (nmP t len a))) := by
  unfold f_X8_into_54
  rw [ok_bd2]
  refine ok_mono (m_takeNumber h ha e2 hlo hhi) (fun y hy => ?_)
  obtain ⟨Z, v⟩ := y
  obtain ⟨q1, q2, q3, q4⟩ := hy
  dsimp only at q1 q2 q3 q4 ⊢
  rw [ok_bs, inB_n hc (by omega), gd_true, ok_bs, ok_some, nI_clamp (show c < 2 ^ 31 by omega)]
  refine ⟨q1, (q2.mono (fun k j q => Or.inl q)).su (Or.inr ⟨rfl, rfl⟩), fun q => ?_, fun q => ?_⟩
  · obtain ⟨r1, r2, r3⟩ := q3 q
    refine ⟨?_, ?_, ?_⟩
    · rw [su_at, if_neg (by omega)]; exact r1
    · rw [su_at, if_neg (by omega)]; exact r2
    · rw [su_at, if_pos ⟨rfl, rfl⟩]; exact r3
  · rw [su_at, if_neg (by omega)]
    exact q4 q
theorem m_into_55 {Y : Sto} {t : Nat → Nat} {len a lo hi c : Nat} (h : XM Y t len) (ha : a ≤ len) (e2 : Y.1 39 23 = nI a) (hlo : lo ≤ 1000) (hhi : hi ≤ 1000) (hc : c < 6) : Ok (f_X8_into_55 Y (nI c) (nI lo) (nI hi)) (fun y => y.2 = nI (nmK t len a lo hi) ∧ Fr (fun k j => (k = 39 ∧ 22 ≤ j ∧ j ≤ 27) ∨ (k = 55 ∧ j = c)) Y y.1 ∧ (nmK t len a lo hi = 0 → y.1.1 39 22 = Y.1 39 22 ∧ y.1.1 39 23 = nI (nmB t len a) ∧ y.1.1 55 c = nI (nmV t len a)) ∧ (¬ nmK t len a lo hi = 0 → y.1.1 39 22 = nI (nmP t len a))) := by
  unfold f_X8_into_55
  rw [ok_bd2]
  refine ok_mono (m_takeNumber h ha e2 hlo hhi) (fun y hy => ?_)
  obtain ⟨Z, v⟩ := y
  obtain ⟨q1, q2, q3, q4⟩ := hy
  dsimp only at q1 q2 q3 q4 ⊢
  rw [ok_bs, inB_n hc (by omega), gd_true, ok_bs, ok_some, nI_clamp (show c < 2 ^ 31 by omega)]
  refine ⟨q1, (q2.mono (fun k j q => Or.inl q)).su (Or.inr ⟨rfl, rfl⟩), fun q => ?_, fun q => ?_⟩
  · obtain ⟨r1, r2, r3⟩ := q3 q
    refine ⟨?_, ?_, ?_⟩
    · rw [su_at, if_neg (by omega)]; exact r1
    · rw [su_at, if_neg (by omega)]; exact r2
    · rw [su_at, if_pos ⟨rfl, rfl⟩]; exact r3
  · rw [su_at, if_neg (by omega)]
    exact q4 q
theorem m_into_56 {Y : Sto} {t : Nat → Nat} {len a lo hi c : Nat} (h : XM Y t len) (ha : a ≤ len) (e2 : Y.1 39 23 = nI a) (hlo : lo ≤ 1000) (hhi : hi ≤ 1000) (hc : c < 6) : Ok (f_X8_into_56 Y (nI c) (nI lo) (nI hi)) (fun y => y.2 = nI (nmK t len a lo hi) ∧ Fr (fun k j => (k = 39 ∧ 22 ≤ j ∧ j ≤ 27) ∨ (k = 56 ∧ j = c)) Y y.1 ∧ (nmK t len a lo hi = 0 → y.1.1 39 22 = Y.1 39 22 ∧ y.1.1 39 23 = nI (nmB t len a) ∧ y.1.1 56 c = nI (nmV t len a)) ∧ (¬ nmK t len a lo hi = 0 → y.1.1 39 22 = nI (nmP t len a))) := by
  unfold f_X8_into_56
  rw [ok_bd2]
  refine ok_mono (m_takeNumber h ha e2 hlo hhi) (fun y hy => ?_)
  obtain ⟨Z, v⟩ := y
  obtain ⟨q1, q2, q3, q4⟩ := hy
  dsimp only at q1 q2 q3 q4 ⊢
  rw [ok_bs, inB_n hc (by omega), gd_true, ok_bs, ok_some, nI_clamp (show c < 2 ^ 31 by omega)]
  refine ⟨q1, (q2.mono (fun k j q => Or.inl q)).su (Or.inr ⟨rfl, rfl⟩), fun q => ?_, fun q => ?_⟩
  · obtain ⟨r1, r2, r3⟩ := q3 q
    refine ⟨?_, ?_, ?_⟩
    · rw [su_at, if_neg (by omega)]; exact r1
    · rw [su_at, if_neg (by omega)]; exact r2
    · rw [su_at, if_pos ⟨rfl, rfl⟩]; exact r3
  · rw [su_at, if_neg (by omega)]
    exact q4 q
theorem m_into_57 {Y : Sto} {t : Nat → Nat} {len a lo hi c : Nat} (h : XM Y t len) (ha : a ≤ len) (e2 : Y.1 39 23 = nI a) (hlo : lo ≤ 1000) (hhi : hi ≤ 1000) (hc : c < 6) : Ok (f_X8_into_57 Y (nI c) (nI lo) (nI hi)) (fun y => y.2 = nI (nmK t len a lo hi) ∧ Fr (fun k j => (k = 39 ∧ 22 ≤ j ∧ j ≤ 27) ∨ (k = 57 ∧ j = c)) Y y.1 ∧ (nmK t len a lo hi = 0 → y.1.1 39 22 = Y.1 39 22 ∧ y.1.1 39 23 = nI (nmB t len a) ∧ y.1.1 57 c = nI (nmV t len a)) ∧ (¬ nmK t len a lo hi = 0 → y.1.1 39 22 = nI (nmP t len a))) := by
  unfold f_X8_into_57
  rw [ok_bd2]
  refine ok_mono (m_takeNumber h ha e2 hlo hhi) (fun y hy => ?_)
  obtain ⟨Z, v⟩ := y
  obtain ⟨q1, q2, q3, q4⟩ := hy
  dsimp only at q1 q2 q3 q4 ⊢
  rw [ok_bs, inB_n hc (by omega), gd_true, ok_bs, ok_some, nI_clamp (show c < 2 ^ 31 by omega)]
  refine ⟨q1, (q2.mono (fun k j q => Or.inl q)).su (Or.inr ⟨rfl, rfl⟩), fun q => ?_, fun q => ?_⟩
  · obtain ⟨r1, r2, r3⟩ := q3 q
    refine ⟨?_, ?_, ?_⟩
    · rw [su_at, if_neg (by omega)]; exact r1
    · rw [su_at, if_neg (by omega)]; exact r2
    · rw [su_at, if_pos ⟨rfl, rfl⟩]; exact r3
  · rw [su_at, if_neg (by omega)]
    exact q4 q
theorem m_into_58 {Y : Sto} {t : Nat → Nat} {len a lo hi c : Nat} (h : XM Y t len) (ha : a ≤ len) (e2 : Y.1 39 23 = nI a) (hlo : lo ≤ 1000) (hhi : hi ≤ 1000) (hc : c < 4) : Ok (f_X8_into_58 Y (nI c) (nI lo) (nI hi)) (fun y => y.2 = nI (nmK t len a lo hi) ∧ Fr (fun k j => (k = 39 ∧ 22 ≤ j ∧ j ≤ 27) ∨ (k = 58 ∧ j = c)) Y y.1 ∧ (nmK t len a lo hi = 0 → y.1.1 39 22 = Y.1 39 22 ∧ y.1.1 39 23 = nI (nmB t len a) ∧ y.1.1 58 c = nI (nmV t len a)) ∧ (¬ nmK t len a lo hi = 0 → y.1.1 39 22 = nI (nmP t len a))) := by
  unfold f_X8_into_58
  rw [ok_bd2]
  refine ok_mono (m_takeNumber h ha e2 hlo hhi) (fun y hy => ?_)
  obtain ⟨Z, v⟩ := y
  obtain ⟨q1, q2, q3, q4⟩ := hy
  dsimp only at q1 q2 q3 q4 ⊢
  rw [ok_bs, inB_n hc (by omega), gd_true, ok_bs, ok_some, nI_clamp (show c < 2 ^ 31 by omega)]
  refine ⟨q1, (q2.mono (fun k j q => Or.inl q)).su (Or.inr ⟨rfl, rfl⟩), fun q => ?_, fun q => ?_⟩
  · obtain ⟨r1, r2, r3⟩ := q3 q
    refine ⟨?_, ?_, ?_⟩
    · rw [su_at, if_neg (by omega)]; exact r1
    · rw [su_at, if_neg (by omega)]; exact r2
    · rw [su_at, if_pos ⟨rfl, rfl⟩]; exact r3
  · rw [su_at, if_neg (by omega)]
    exact q4 q
theorem m_into_59 {Y : Sto} {t : Nat → Nat} {len a lo hi c : Nat} (h : XM Y t len) (ha : a ≤ len) (e2 : Y.1 39 23 = nI a) (hlo : lo ≤ 1000) (hhi : hi ≤ 1000) (hc : c < 4) : Ok (f_X8_into_59 Y (nI c) (nI lo) (nI hi)) (fun y => y.2 = nI (nmK t len a lo hi) ∧ Fr (fun k j => (k = 39 ∧ 22 ≤ j ∧ j ≤ 27) ∨ (k = 59 ∧ j = c)) Y y.1 ∧ (nmK t len a lo hi = 0 → y.1.1 39 22 = Y.1 39 22 ∧ y.1.1 39 23 = nI (nmB t len a) ∧ y.1.1 59 c = nI (nmV t len a)) ∧ (¬ nmK t len a lo hi = 0 → y.1.1 39 22 = nI (nmP t len a))) := by
  unfold f_X8_into_59
  rw [ok_bd2]
  refine ok_mono (m_takeNumber h ha e2 hlo hhi) (fun y hy => ?_)
  obtain ⟨Z, v⟩ := y
  obtain ⟨q1, q2, q3, q4⟩ := hy
  dsimp only at q1 q2 q3 q4 ⊢
  rw [ok_bs, inB_n hc (by omega), gd_true, ok_bs, ok_some, nI_clamp (show c < 2 ^ 31 by omega)]
  refine ⟨q1, (q2.mono (fun k j q => Or.inl q)).su (Or.inr ⟨rfl, rfl⟩), fun q => ?_, fun q => ?_⟩
  · obtain ⟨r1, r2, r3⟩ := q3 q
    refine ⟨?_, ?_, ?_⟩
    · rw [su_at, if_neg (by omega)]; exact r1
    · rw [su_at, if_neg (by omega)]; exact r2
    · rw [su_at, if_pos ⟨rfl, rfl⟩]; exact r3
  · rw [su_at, if_neg (by omega)]
    exact q4 q
def TakeOk (k : Nat) (tk : Sto → Option (Sto × Int32)) : Prop := ∀ (Y : Sto) (t : Nat → Nat) (len a : Nat) (D : Dr) (r : Nat), XM Y t len → a ≤ len → Y.1 39 23 = nI a → DMr Y D r → DB D → D.1 k < mstK k → Ok (tk Y) (fun y => Fr PM Y y.1 ∧ (fF t len k a (numK k) = none → y.2 = 0 ∧ y.1.1 39 22 = Y.1 39 22 ∧ y.1.1 39 23 = nI (atS t len a (numK k)) ∧ DMr y.1 (addD D k (fun j => nmV t len (atS t len a j))) r) ∧ ∀ f, fF t len k a (numK k) = some f → y.2 = nI f.1 ∧ y.1.1 39 22 = nI f.2)
theorem t_year : TakeOk 0 f_X8_takeYear := by
  intro Y t len a D r h ha e2 hD hB hc
  obtain ⟨d29, d0, d1, d2, d3, d4⟩ := hD
  have c0 : D.1 0 = 0 := by have : mstK 0 = 1 := rfl; omega
  have n0 : fF t len 0 a 0 = none := rfl
  unfold f_X8_takeYear
  rw [ok_bd2]
  refine ok_mono (m_takeNumber (lo := loK 0 0) (hi := hiK 0 0) h ha e2 (lohi_le 0 (by omega) 0 (by omega)).1 (lohi_le 0 (by omega) 0 (by omega)).2) (fun y hy => ?_)
  obtain ⟨Z, v⟩ := y
  obtain ⟨q1, q2, q3, q4⟩ := hy
  dsimp only at q1 q2 q3 q4 ⊢
  rw [ok_bs, ok_bs, ok_some]
  have hf : Fr (fun k j => k = 39 ∧ ((22 ≤ j ∧ j ≤ 27) ∨ j = 28)) Y (su Z 39 28 (Z.1 39 26)) := (q2.mono (fun k j q => by omega)).su (by omega)
  refine ⟨hf.mono (fun k j q => by unfold PM; omega), fun q => ?_, fun f q => ?_⟩
  · have c : nmK t len (atS t len a 0) (loK 0 0) (hiK 0 0) = 0 := by
      by_cases c : nmK t len (atS t len a 0) (loK 0 0) (hiK 0 0) = 0
      · exact c
      · have q : fF t len 0 a (0 + 1) = none := q
        rw [fF_c n0 c] at q
        cases q
    obtain ⟨r1, r2, r3⟩ := q3 c
    have q1 : v = nI (nmK t len (atS t len a 0) (loK 0 0) (hiK 0 0)) := q1
    rw [c] at q1
    refine ⟨q1, ?_, ?_, ?_⟩
    · rw [su_at, if_neg (by omega)]; exact r1
    · rw [su_at, if_neg (by omega)]; exact r2
    · refine ⟨(hf 39 29 (by omega)).trans d29, ?_, ?_, ?_, ?_, ?_⟩
      · refine Or.inr ⟨?_, ?_⟩
        · rw [addD_c]; omega
        · have e : (addD D 0 (fun j => nmV t len (atS t len a j))).2 0 (D.1 0) 0 = _ := addD_n
          rw [c0] at e
          rw [e, su_at, if_pos ⟨rfl, rfl⟩]
          exact r3
      · rw [(addD_o (by omega)).1, (addD_o (by omega)).2]; exact d1.fr hf (by omega) (by omega) (by omega)
      · rw [(addD_o (by omega)).1, (addD_o (by omega)).2]; exact d2.fr hf (by omega) (by omega) (by omega) (by omega)
      · rw [(addD_o (by omega)).1, (addD_o (by omega)).2]; exact d3.fr hf (by omega) (by omega)
      · rw [(addD_o (by omega)).1, (addD_o (by omega)).2]; exact d4.fr hf (by omega) (by omega) (by omega)
  · have q : fF t len 0 a (0 + 1) = some f := q
    by_cases c : nmK t len (atS t len a 0) (loK 0 0) (hiK 0 0) = 0
    · rw [fF_b n0 c] at q; cases q
    · rw [fF_c n0 c] at q
      cases q
      refine ⟨q1, ?_⟩
      rw [su_at, if_neg (by omega)]
      exact q4 c
theorem t_bell : TakeOk 1 f_X8_takeBell := by
  intro Y t len a D r h ha e2 hD hB hc
  obtain ⟨d29, d0, d1, d2, d3, d4⟩ := hD
  have hm : mstK 1 = 4 := rfl
  have hz : ∀ {x : Nat}, x ≤ 2 → ¬ x = 0 → ¬ nI x ≤ 0 := fun {x} h1 h2 q => by have := (nI_leI (b := 0) (by omega) (by omega)).mp q; omega
  have n0 : fF t len 1 a 0 = none := rfl
  have gl : ∀ i, atS t len a i ≤ len := fun i => (atS_rg ha i).2
  have eC : Y.1 39 30 = nI (D.1 1) := d1.1
  unfold f_X8_takeBell f_X8_takeBell_j48
  rw [ok_bs, ok_bs, eC, nI_1]
  have hf0 : Fr (fun k j => (k = 39 ∧ ((22 ≤ j ∧ j ≤ 27) ∨ j = 30))) Y (su Y 39 30 (nI (D.1 1 + 1))) := Fr.rf.su (by omega)
  have h0 : XM (su Y 39 30 (nI (D.1 1 + 1))) t len := h.fr hf0 (by omega) (by omega)
  have e0 : (su Y 39 30 (nI (D.1 1 + 1))).1 39 23 = nI (atS t len a 0) := by rw [su_at, if_neg (by omega)]; exact e2
  have k0 : (su Y 39 30 (nI (D.1 1 + 1))).1 39 30 = nI (D.1 1 + 1) := by rw [su_at, if_pos ⟨rfl, rfl⟩]
  have g0 : (su Y 39 30 (nI (D.1 1 + 1))).1 39 22 = Y.1 39 22 := by rw [su_at, if_neg (by omega)]
  generalize su Y 39 30 (nI (D.1 1 + 1)) = Z0 at *
  have good : ∀ (Z : Sto), Fr (fun k j => (k = 39 ∧ ((22 ≤ j ∧ j ≤ 27) ∨ j = 30)) ∨ ((k = 52 ∨ k = 53) ∧ j = D.1 1)) Y Z → Z.1 39 30 = nI (D.1 1 + 1) → fF t len 1 a 2 = none → Z.1 39 22 = Y.1 39 22 → Z.1 39 23 = nI (atS t len a 2) → Z.1 52 (D.1 1) = nI (nmV t len (atS t len a 0)) → Z.1 53 (D.1 1) = nI (nmV t len (atS t len a 1)) → Ok (some (Z, (0 : Int32))) (fun y => Fr PM Y y.1 ∧ (fF t len 1 a (numK 1) = none → y.2 = 0 ∧ y.1.1 39 22 = Y.1 39 22 ∧ y.1.1 39 23 = nI (atS t len a (numK 1)) ∧ DMr y.1 (addD D 1 (fun j => nmV t len (atS t len a j))) r) ∧ ∀ f, fF t len 1 a (numK 1) = some f → y.2 = nI f.1 ∧ y.1.1 39 22 = nI f.2) := by
    intro Z hf u1 u2 u3 u4 w0 w1
    rw [ok_some]
    refine ⟨hf.mono (fun k j q => by unfold PM; omega), fun _ => ⟨rfl, u3, u4, (hf 39 29 (by omega)).trans d29, ?_, ?_, ?_, ?_, ?_⟩, fun f q => ?_⟩
    · rw [(addD_o (by omega)).1, (addD_o (by omega)).2]; exact d0.fr hf (by omega)
    · refine ⟨by rw [addD_c]; exact u1, fun i hi => ?_⟩
      rw [addD_c] at hi
      by_cases c : i = D.1 1
      · subst c
        rw [addD_n, addD_n]
        exact ⟨w0, w1⟩
      · rw [addD_i c, addD_i c, hf 52 i (by omega), hf 53 i (by omega)]
        exact d1.2 i (by omega)
    · rw [(addD_o (by omega)).1, (addD_o (by omega)).2]; exact d2.fr hf (by omega) (by omega) (by omega) (by omega)
    · rw [(addD_o (by omega)).1, (addD_o (by omega)).2]; exact d3.fr hf (by omega) (by omega)
    · rw [(addD_o (by omega)).1, (addD_o (by omega)).2]; exact d4.fr hf (by omega) (by omega) (by omega)
    · have q : fF t len 1 a 2 = some f := q
      rw [u2] at q; cases q
  have badd : ∀ (Z : Sto) (x y : Nat), Fr (fun k j => (k = 39 ∧ ((22 ≤ j ∧ j ≤ 27) ∨ j = 30)) ∨ ((k = 52 ∨ k = 53) ∧ j = D.1 1)) Y Z → fF t len 1 a 2 = some (x, y) → Z.1 39 22 = nI y → Ok (some (Z, nI x)) (fun y => Fr PM Y y.1 ∧ (fF t len 1 a (numK 1) = none → y.2 = 0 ∧ y.1.1 39 22 = Y.1 39 22 ∧ y.1.1 39 23 = nI (atS t len a (numK 1)) ∧ DMr y.1 (addD D 1 (fun j => nmV t len (atS t len a j))) r) ∧ ∀ f, fF t len 1 a (numK 1) = some f → y.2 = nI f.1 ∧ y.1.1 39 22 = nI f.2) := by
    intro Z x y hf u1 u2
    rw [ok_some]
    refine ⟨hf.mono (fun k j q => by unfold PM; omega), fun q => ?_, fun f q => ?_⟩
    · have q : fF t len 1 a 2 = none := q
      rw [u1] at q; cases q
    · have q : fF t len 1 a 2 = some f := q
      rw [u1] at q; cases q; exact ⟨rfl, u2⟩
  rw [ok_bd2]
  refine ok_mono (m_into_52 (lo := loK 1 0) (hi := hiK 1 0) h0 (gl 0) e0 (lohi_le 1 (by omega) 0 (by omega)).1 (lohi_le 1 (by omega) 0 (by omega)).2 (show D.1 1 < 4 by omega)) (fun y hy => ?_)
  obtain ⟨Z1, v⟩ := y
  obtain ⟨q1, q2, q3, q4⟩ := hy
  dsimp only at q1 q2 q3 q4 ⊢
  subst q1
  have hf1 : Fr (fun k j => (k = 39 ∧ ((22 ≤ j ∧ j ≤ 27) ∨ j = 30)) ∨ ((k = 52) ∧ j = D.1 1)) Y Z1 := (hf0.mono (fun k j q => by omega)).tr (q2.mono (fun k j q => by omega))
  by_cases c0 : nmK t len (atS t len a 0) (loK 1 0) (hiK 1 0) = 0
  · obtain ⟨r0, s0, v0⟩ := q3 c0
    have n1 : fF t len 1 a 1 = none := fF_b n0 c0
    have h1 := h.fr hf1 (by omega) (by omega)
    have e1 : Z1.1 39 23 = nI (atS t len a 1) := s0
    have k1 : Z1.1 39 30 = nI (D.1 1 + 1) := (q2 39 30 (by omega)).trans k0
    have g1 : Z1.1 39 22 = Y.1 39 22 := r0.trans g0
    rw [c0, ok_bs, if_pos (show nI 0 ≤ 0 by decide)]
    rw [ok_bd2]
    refine ok_mono (m_into_53 (lo := loK 1 1) (hi := hiK 1 1) h1 (gl 1) e1 (lohi_le 1 (by omega) 1 (by omega)).1 (lohi_le 1 (by omega) 1 (by omega)).2 (show D.1 1 < 4 by omega)) (fun y hy => ?_)
    obtain ⟨Z2, v⟩ := y
    obtain ⟨q1, q2, q3, q4⟩ := hy
    dsimp only at q1 q2 q3 q4 ⊢
    subst q1
    have hf2 : Fr (fun k j => (k = 39 ∧ ((22 ≤ j ∧ j ≤ 27) ∨ j = 30)) ∨ ((k = 52 ∨ k = 53) ∧ j = D.1 1)) Y Z2 := (hf1.mono (fun k j q => by omega)).tr (q2.mono (fun k j q => by omega))
    by_cases c1 : nmK t len (atS t len a 1) (loK 1 1) (hiK 1 1) = 0
    · obtain ⟨r1, s1, v1⟩ := q3 c1
      have n2 : fF t len 1 a 2 = none := fF_b n1 c1
      have h2 := h.fr hf2 (by omega) (by omega)
      have e2 : Z2.1 39 23 = nI (atS t len a 2) := s1
      have k2 : Z2.1 39 30 = nI (D.1 1 + 1) := (q2 39 30 (by omega)).trans k1
      have g2 : Z2.1 39 22 = Y.1 39 22 := r1.trans g1
      have v0 := (q2 52 (D.1 1) (by omega)).trans v0
      rw [c1]
      exact good Z2 hf2 k2 n2 g2 e2 v0 v1
    · have nz := hz (nmK_le t len (atS t len a 1) (loK 1 1) (hiK 1 1)) c1
      exact badd Z2 _ _ (hf2.mono (fun k j q => by omega)) (fF_c n1 c1) (q4 c1)
  · have nz := hz (nmK_le t len (atS t len a 0) (loK 1 0) (hiK 1 0)) c0
    rw [ok_bs, if_neg nz]
    exact badd Z1 _ _ (hf1.mono (fun k j q => by omega)) (fF_s (fF_c n0 c0)) (q4 c0)
theorem t_spot : TakeOk 2 f_X8_takeSpot := by
  intro Y t len a D r h ha e2 hD hB hc
  obtain ⟨d29, d0, d1, d2, d3, d4⟩ := hD
  have hm : mstK 2 = 6 := rfl
  have hz : ∀ {x : Nat}, x ≤ 2 → ¬ x = 0 → ¬ nI x ≤ 0 := fun {x} h1 h2 q => by have := (nI_leI (b := 0) (by omega) (by omega)).mp q; omega
  have n0 : fF t len 2 a 0 = none := rfl
  have gl : ∀ i, atS t len a i ≤ len := fun i => (atS_rg ha i).2
  have eC : Y.1 39 33 = nI (D.1 2) := d2.1
  unfold f_X8_takeSpot f_X8_takeSpot_j48 f_X8_takeSpot_j70
  rw [ok_bs, ok_bs, eC, nI_1]
  have hf0 : Fr (fun k j => (k = 39 ∧ ((22 ≤ j ∧ j ≤ 27) ∨ j = 33))) Y (su Y 39 33 (nI (D.1 2 + 1))) := Fr.rf.su (by omega)
  have h0 : XM (su Y 39 33 (nI (D.1 2 + 1))) t len := h.fr hf0 (by omega) (by omega)
  have e0 : (su Y 39 33 (nI (D.1 2 + 1))).1 39 23 = nI (atS t len a 0) := by rw [su_at, if_neg (by omega)]; exact e2
  have k0 : (su Y 39 33 (nI (D.1 2 + 1))).1 39 33 = nI (D.1 2 + 1) := by rw [su_at, if_pos ⟨rfl, rfl⟩]
  have g0 : (su Y 39 33 (nI (D.1 2 + 1))).1 39 22 = Y.1 39 22 := by rw [su_at, if_neg (by omega)]
  generalize su Y 39 33 (nI (D.1 2 + 1)) = Z0 at *
  have good : ∀ (Z : Sto), Fr (fun k j => (k = 39 ∧ ((22 ≤ j ∧ j ≤ 27) ∨ j = 33)) ∨ ((k = 54 ∨ k = 55 ∨ k = 56) ∧ j = D.1 2)) Y Z → Z.1 39 33 = nI (D.1 2 + 1) → fF t len 2 a 3 = none → Z.1 39 22 = Y.1 39 22 → Z.1 39 23 = nI (atS t len a 3) → Z.1 54 (D.1 2) = nI (nmV t len (atS t len a 0)) → Z.1 55 (D.1 2) = nI (nmV t len (atS t len a 1)) → Z.1 56 (D.1 2) = nI (nmV t len (atS t len a 2)) → Ok (some (Z, (0 : Int32))) (fun y => Fr PM Y y.1 ∧ (fF t len 2 a (numK 2) = none → y.2 = 0 ∧ y.1.1 39 22 = Y.1 39 22 ∧ y.1.1 39 23 = nI (atS t len a (numK 2)) ∧ DMr y.1 (addD D 2 (fun j => nmV t len (atS t len a j))) r) ∧ ∀ f, fF t len 2 a (numK 2) = some f → y.2 = nI f.1 ∧ y.1.1 39 22 = nI f.2) := by
    intro Z hf u1 u2 u3 u4 w0 w1 w2
    rw [ok_some]
    refine ⟨hf.mono (fun k j q => by unfold PM; omega), fun _ => ⟨rfl, u3, u4, (hf 39 29 (by omega)).trans d29, ?_, ?_, ?_, ?_, ?_⟩, fun f q => ?_⟩
    · rw [(addD_o (by omega)).1, (addD_o (by omega)).2]; exact d0.fr hf (by omega)
    · rw [(addD_o (by omega)).1, (addD_o (by omega)).2]; exact d1.fr hf (by omega) (by omega) (by omega)
    · refine ⟨by rw [addD_c]; exact u1, fun i hi => ?_⟩
      rw [addD_c] at hi
      by_cases c : i = D.1 2
      · subst c
        rw [addD_n, addD_n, addD_n]
        exact ⟨w0, w1, w2⟩
      · rw [addD_i c, addD_i c, addD_i c, hf 54 i (by omega), hf 55 i (by omega), hf 56 i (by omega)]
        exact d2.2 i (by omega)
    · rw [(addD_o (by omega)).1, (addD_o (by omega)).2]; exact d3.fr hf (by omega) (by omega)
    · rw [(addD_o (by omega)).1, (addD_o (by omega)).2]; exact d4.fr hf (by omega) (by omega) (by omega)
    · have q : fF t len 2 a 3 = some f := q
      rw [u2] at q; cases q
  have badd : ∀ (Z : Sto) (x y : Nat), Fr (fun k j => (k = 39 ∧ ((22 ≤ j ∧ j ≤ 27) ∨ j = 33)) ∨ ((k = 54 ∨ k = 55 ∨ k = 56) ∧ j = D.1 2)) Y Z → fF t len 2 a 3 = some (x, y) → Z.1 39 22 = nI y → Ok (some (Z, nI x)) (fun y => Fr PM Y y.1 ∧ (fF t len 2 a (numK 2) = none → y.2 = 0 ∧ y.1.1 39 22 = Y.1 39 22 ∧ y.1.1 39 23 = nI (atS t len a (numK 2)) ∧ DMr y.1 (addD D 2 (fun j => nmV t len (atS t len a j))) r) ∧ ∀ f, fF t len 2 a (numK 2) = some f → y.2 = nI f.1 ∧ y.1.1 39 22 = nI f.2) := by
    intro Z x y hf u1 u2
    rw [ok_some]
    refine ⟨hf.mono (fun k j q => by unfold PM; omega), fun q => ?_, fun f q => ?_⟩
    · have q : fF t len 2 a 3 = none := q
      rw [u1] at q; cases q
    · have q : fF t len 2 a 3 = some f := q
      rw [u1] at q; cases q; exact ⟨rfl, u2⟩
  rw [ok_bd2]
  refine ok_mono (m_into_54 (lo := loK 2 0) (hi := hiK 2 0) h0 (gl 0) e0 (lohi_le 2 (by omega) 0 (by omega)).1 (lohi_le 2 (by omega) 0 (by omega)).2 (show D.1 2 < 6 by omega)) (fun y hy => ?_)
  obtain ⟨Z1, v⟩ := y
  obtain ⟨q1, q2, q3, q4⟩ := hy
  dsimp only at q1 q2 q3 q4 ⊢
  subst q1
  have hf1 : Fr (fun k j => (k = 39 ∧ ((22 ≤ j ∧ j ≤ 27) ∨ j = 33)) ∨ ((k = 54) ∧ j = D.1 2)) Y Z1 := (hf0.mono (fun k j q => by omega)).tr (q2.mono (fun k j q => by omega))
  by_cases c0 : nmK t len (atS t len a 0) (loK 2 0) (hiK 2 0) = 0
  · obtain ⟨r0, s0, v0⟩ := q3 c0
    have n1 : fF t len 2 a 1 = none := fF_b n0 c0
    have h1 := h.fr hf1 (by omega) (by omega)
    have e1 : Z1.1 39 23 = nI (atS t len a 1) := s0
    have k1 : Z1.1 39 33 = nI (D.1 2 + 1) := (q2 39 33 (by omega)).trans k0
    have g1 : Z1.1 39 22 = Y.1 39 22 := r0.trans g0
    rw [c0, ok_bs, if_pos (show nI 0 ≤ 0 by decide)]
    rw [ok_bd2]
    refine ok_mono (m_into_55 (lo := loK 2 1) (hi := hiK 2 1) h1 (gl 1) e1 (lohi_le 2 (by omega) 1 (by omega)).1 (lohi_le 2 (by omega) 1 (by omega)).2 (show D.1 2 < 6 by omega)) (fun y hy => ?_)
    obtain ⟨Z2, v⟩ := y
    obtain ⟨q1, q2, q3, q4⟩ := hy
    dsimp only at q1 q2 q3 q4 ⊢
    subst q1
    have hf2 : Fr (fun k j => (k = 39 ∧ ((22 ≤ j ∧ j ≤ 27) ∨ j = 33)) ∨ ((k = 54 ∨ k = 55) ∧ j = D.1 2)) Y Z2 := (hf1.mono (fun k j q => by omega)).tr (q2.mono (fun k j q => by omega))
    by_cases c1 : nmK t len (atS t len a 1) (loK 2 1) (hiK 2 1) = 0
    · obtain ⟨r1, s1, v1⟩ := q3 c1
      have n2 : fF t len 2 a 2 = none := fF_b n1 c1
      have h2 := h.fr hf2 (by omega) (by omega)
      have e2 : Z2.1 39 23 = nI (atS t len a 2) := s1
      have k2 : Z2.1 39 33 = nI (D.1 2 + 1) := (q2 39 33 (by omega)).trans k1
      have g2 : Z2.1 39 22 = Y.1 39 22 := r1.trans g1
      have v0 := (q2 54 (D.1 2) (by omega)).trans v0
      rw [c1, ok_bs, if_pos (show nI 0 ≤ 0 by decide)]
      rw [ok_bd2]
      refine ok_mono (m_into_56 (lo := loK 2 2) (hi := hiK 2 2) h2 (gl 2) e2 (lohi_le 2 (by omega) 2 (by omega)).1 (lohi_le 2 (by omega) 2 (by omega)).2 (show D.1 2 < 6 by omega)) (fun y hy => ?_)
      obtain ⟨Z3, v⟩ := y
      obtain ⟨q1, q2, q3, q4⟩ := hy
      dsimp only at q1 q2 q3 q4 ⊢
      subst q1
      have hf3 : Fr (fun k j => (k = 39 ∧ ((22 ≤ j ∧ j ≤ 27) ∨ j = 33)) ∨ ((k = 54 ∨ k = 55 ∨ k = 56) ∧ j = D.1 2)) Y Z3 := (hf2.mono (fun k j q => by omega)).tr (q2.mono (fun k j q => by omega))
      by_cases c2 : nmK t len (atS t len a 2) (loK 2 2) (hiK 2 2) = 0
      · obtain ⟨r2, s2, v2⟩ := q3 c2
        have n3 : fF t len 2 a 3 = none := fF_b n2 c2
        have h3 := h.fr hf3 (by omega) (by omega)
        have e3 : Z3.1 39 23 = nI (atS t len a 3) := s2
        have k3 : Z3.1 39 33 = nI (D.1 2 + 1) := (q2 39 33 (by omega)).trans k2
        have g3 : Z3.1 39 22 = Y.1 39 22 := r2.trans g2
        have v0 := (q2 54 (D.1 2) (by omega)).trans v0
        have v1 := (q2 55 (D.1 2) (by omega)).trans v1
        rw [c2]
        exact good Z3 hf3 k3 n3 g3 e3 v0 v1 v2
      · have nz := hz (nmK_le t len (atS t len a 2) (loK 2 2) (hiK 2 2)) c2
        exact badd Z3 _ _ (hf3.mono (fun k j q => by omega)) (fF_c n2 c2) (q4 c2)
    · have nz := hz (nmK_le t len (atS t len a 1) (loK 2 1) (hiK 2 1)) c1
      rw [ok_bs, if_neg nz]
      exact badd Z2 _ _ (hf2.mono (fun k j q => by omega)) (fF_s (fF_c n1 c1)) (q4 c1)
  · have nz := hz (nmK_le t len (atS t len a 0) (loK 2 0) (hiK 2 0)) c0
    rw [ok_bs, if_neg nz, ok_bs, if_neg nz]
    exact badd Z1 _ _ (hf1.mono (fun k j q => by omega)) (fF_s (fF_s (fF_c n0 c0))) (q4 c0)
theorem t_beggar : TakeOk 3 f_X8_takeBeggar := by
  intro Y t len a D r h ha e2 hD hB hc
  obtain ⟨d29, d0, d1, d2, d3, d4⟩ := hD
  have hm : mstK 3 = 6 := rfl
  have hz : ∀ {x : Nat}, x ≤ 2 → ¬ x = 0 → ¬ nI x ≤ 0 := fun {x} h1 h2 q => by have := (nI_leI (b := 0) (by omega) (by omega)).mp q; omega
  have n0 : fF t len 3 a 0 = none := rfl
  have gl : ∀ i, atS t len a i ≤ len := fun i => (atS_rg ha i).2
  have eC : Y.1 39 37 = nI (D.1 3) := d3.1
  unfold f_X8_takeBeggar
  rw [ok_bs, ok_bs, eC, nI_1]
  have hf0 : Fr (fun k j => (k = 39 ∧ ((22 ≤ j ∧ j ≤ 27) ∨ j = 37))) Y (su Y 39 37 (nI (D.1 3 + 1))) := Fr.rf.su (by omega)
  have h0 : XM (su Y 39 37 (nI (D.1 3 + 1))) t len := h.fr hf0 (by omega) (by omega)
  have e0 : (su Y 39 37 (nI (D.1 3 + 1))).1 39 23 = nI (atS t len a 0) := by rw [su_at, if_neg (by omega)]; exact e2
  have k0 : (su Y 39 37 (nI (D.1 3 + 1))).1 39 37 = nI (D.1 3 + 1) := by rw [su_at, if_pos ⟨rfl, rfl⟩]
  have g0 : (su Y 39 37 (nI (D.1 3 + 1))).1 39 22 = Y.1 39 22 := by rw [su_at, if_neg (by omega)]
  generalize su Y 39 37 (nI (D.1 3 + 1)) = Z0 at *
  have good : ∀ (Z : Sto), Fr (fun k j => (k = 39 ∧ ((22 ≤ j ∧ j ≤ 27) ∨ j = 37)) ∨ ((k = 57) ∧ j = D.1 3)) Y Z → Z.1 39 37 = nI (D.1 3 + 1) → fF t len 3 a 1 = none → Z.1 39 22 = Y.1 39 22 → Z.1 39 23 = nI (atS t len a 1) → Z.1 57 (D.1 3) = nI (nmV t len (atS t len a 0)) → Ok (some (Z, (0 : Int32))) (fun y => Fr PM Y y.1 ∧ (fF t len 3 a (numK 3) = none → y.2 = 0 ∧ y.1.1 39 22 = Y.1 39 22 ∧ y.1.1 39 23 = nI (atS t len a (numK 3)) ∧ DMr y.1 (addD D 3 (fun j => nmV t len (atS t len a j))) r) ∧ ∀ f, fF t len 3 a (numK 3) = some f → y.2 = nI f.1 ∧ y.1.1 39 22 = nI f.2) := by
    intro Z hf u1 u2 u3 u4 w0
    rw [ok_some]
    refine ⟨hf.mono (fun k j q => by unfold PM; omega), fun _ => ⟨rfl, u3, u4, (hf 39 29 (by omega)).trans d29, ?_, ?_, ?_, ?_, ?_⟩, fun f q => ?_⟩
    · rw [(addD_o (by omega)).1, (addD_o (by omega)).2]; exact d0.fr hf (by omega)
    · rw [(addD_o (by omega)).1, (addD_o (by omega)).2]; exact d1.fr hf (by omega) (by omega) (by omega)
    · rw [(addD_o (by omega)).1, (addD_o (by omega)).2]; exact d2.fr hf (by omega) (by omega) (by omega) (by omega)
    · refine ⟨by rw [addD_c]; exact u1, fun i hi => ?_⟩
      rw [addD_c] at hi
      by_cases c : i = D.1 3
      · subst c
        rw [addD_n]
        exact w0
      · rw [addD_i c, hf 57 i (by omega)]
        exact d3.2 i (by omega)
    · rw [(addD_o (by omega)).1, (addD_o (by omega)).2]; exact d4.fr hf (by omega) (by omega) (by omega)
    · have q : fF t len 3 a 1 = some f := q
      rw [u2] at q; cases q
  have badd : ∀ (Z : Sto) (x y : Nat), Fr (fun k j => (k = 39 ∧ ((22 ≤ j ∧ j ≤ 27) ∨ j = 37)) ∨ ((k = 57) ∧ j = D.1 3)) Y Z → fF t len 3 a 1 = some (x, y) → Z.1 39 22 = nI y → Ok (some (Z, nI x)) (fun y => Fr PM Y y.1 ∧ (fF t len 3 a (numK 3) = none → y.2 = 0 ∧ y.1.1 39 22 = Y.1 39 22 ∧ y.1.1 39 23 = nI (atS t len a (numK 3)) ∧ DMr y.1 (addD D 3 (fun j => nmV t len (atS t len a j))) r) ∧ ∀ f, fF t len 3 a (numK 3) = some f → y.2 = nI f.1 ∧ y.1.1 39 22 = nI f.2) := by
    intro Z x y hf u1 u2
    rw [ok_some]
    refine ⟨hf.mono (fun k j q => by unfold PM; omega), fun q => ?_, fun f q => ?_⟩
    · have q : fF t len 3 a 1 = none := q
      rw [u1] at q; cases q
    · have q : fF t len 3 a 1 = some f := q
      rw [u1] at q; cases q; exact ⟨rfl, u2⟩
  rw [ok_bd2]
  refine ok_mono (m_into_57 (lo := loK 3 0) (hi := hiK 3 0) h0 (gl 0) e0 (lohi_le 3 (by omega) 0 (by omega)).1 (lohi_le 3 (by omega) 0 (by omega)).2 (show D.1 3 < 6 by omega)) (fun y hy => ?_)
  obtain ⟨Z1, v⟩ := y
  obtain ⟨q1, q2, q3, q4⟩ := hy
  dsimp only at q1 q2 q3 q4 ⊢
  subst q1
  have hf1 : Fr (fun k j => (k = 39 ∧ ((22 ≤ j ∧ j ≤ 27) ∨ j = 37)) ∨ ((k = 57) ∧ j = D.1 3)) Y Z1 := (hf0.mono (fun k j q => by omega)).tr (q2.mono (fun k j q => by omega))
  by_cases c0 : nmK t len (atS t len a 0) (loK 3 0) (hiK 3 0) = 0
  · obtain ⟨r0, s0, v0⟩ := q3 c0
    have n1 : fF t len 3 a 1 = none := fF_b n0 c0
    have h1 := h.fr hf1 (by omega) (by omega)
    have e1 : Z1.1 39 23 = nI (atS t len a 1) := s0
    have k1 : Z1.1 39 37 = nI (D.1 3 + 1) := (q2 39 37 (by omega)).trans k0
    have g1 : Z1.1 39 22 = Y.1 39 22 := r0.trans g0
    rw [c0]
    exact good Z1 hf1 k1 n1 g1 e1 v0
  · have nz := hz (nmK_le t len (atS t len a 0) (loK 3 0) (hiK 3 0)) c0
    exact badd Z1 _ _ (hf1.mono (fun k j q => by omega)) (fF_c n0 c0) (q4 c0)
theorem t_hat : TakeOk 4 f_X8_takeHat := by
  intro Y t len a D r h ha e2 hD hB hc
  obtain ⟨d29, d0, d1, d2, d3, d4⟩ := hD
  have hm : mstK 4 = 4 := rfl
  have hz : ∀ {x : Nat}, x ≤ 2 → ¬ x = 0 → ¬ nI x ≤ 0 := fun {x} h1 h2 q => by have := (nI_leI (b := 0) (by omega) (by omega)).mp q; omega
  have n0 : fF t len 4 a 0 = none := rfl
  have gl : ∀ i, atS t len a i ≤ len := fun i => (atS_rg ha i).2
  have eC : Y.1 39 39 = nI (D.1 4) := d4.1
  unfold f_X8_takeHat f_X8_takeHat_j48
  rw [ok_bs, ok_bs, eC, nI_1]
  have hf0 : Fr (fun k j => (k = 39 ∧ ((22 ≤ j ∧ j ≤ 27) ∨ j = 39))) Y (su Y 39 39 (nI (D.1 4 + 1))) := Fr.rf.su (by omega)
  have h0 : XM (su Y 39 39 (nI (D.1 4 + 1))) t len := h.fr hf0 (by omega) (by omega)
  have e0 : (su Y 39 39 (nI (D.1 4 + 1))).1 39 23 = nI (atS t len a 0) := by rw [su_at, if_neg (by omega)]; exact e2
  have k0 : (su Y 39 39 (nI (D.1 4 + 1))).1 39 39 = nI (D.1 4 + 1) := by rw [su_at, if_pos ⟨rfl, rfl⟩]
  have g0 : (su Y 39 39 (nI (D.1 4 + 1))).1 39 22 = Y.1 39 22 := by rw [su_at, if_neg (by omega)]
  generalize su Y 39 39 (nI (D.1 4 + 1)) = Z0 at *
  have good : ∀ (Z : Sto), Fr (fun k j => (k = 39 ∧ ((22 ≤ j ∧ j ≤ 27) ∨ j = 39)) ∨ ((k = 58 ∨ k = 59) ∧ j = D.1 4)) Y Z → Z.1 39 39 = nI (D.1 4 + 1) → fF t len 4 a 2 = none → Z.1 39 22 = Y.1 39 22 → Z.1 39 23 = nI (atS t len a 2) → Z.1 58 (D.1 4) = nI (nmV t len (atS t len a 0)) → Z.1 59 (D.1 4) = nI (nmV t len (atS t len a 1)) → Ok (some (Z, (0 : Int32))) (fun y => Fr PM Y y.1 ∧ (fF t len 4 a (numK 4) = none → y.2 = 0 ∧ y.1.1 39 22 = Y.1 39 22 ∧ y.1.1 39 23 = nI (atS t len a (numK 4)) ∧ DMr y.1 (addD D 4 (fun j => nmV t len (atS t len a j))) r) ∧ ∀ f, fF t len 4 a (numK 4) = some f → y.2 = nI f.1 ∧ y.1.1 39 22 = nI f.2) := by
    intro Z hf u1 u2 u3 u4 w0 w1
    rw [ok_some]
    refine ⟨hf.mono (fun k j q => by unfold PM; omega), fun _ => ⟨rfl, u3, u4, (hf 39 29 (by omega)).trans d29, ?_, ?_, ?_, ?_, ?_⟩, fun f q => ?_⟩
    · rw [(addD_o (by omega)).1, (addD_o (by omega)).2]; exact d0.fr hf (by omega)
    · rw [(addD_o (by omega)).1, (addD_o (by omega)).2]; exact d1.fr hf (by omega) (by omega) (by omega)
    · rw [(addD_o (by omega)).1, (addD_o (by omega)).2]; exact d2.fr hf (by omega) (by omega) (by omega) (by omega)
    · rw [(addD_o (by omega)).1, (addD_o (by omega)).2]; exact d3.fr hf (by omega) (by omega)
    · refine ⟨by rw [addD_c]; exact u1, fun i hi => ?_⟩
      rw [addD_c] at hi
      by_cases c : i = D.1 4
      · subst c
        rw [addD_n, addD_n]
        exact ⟨w0, w1⟩
      · rw [addD_i c, addD_i c, hf 58 i (by omega), hf 59 i (by omega)]
        exact d4.2 i (by omega)
    · have q : fF t len 4 a 2 = some f := q
      rw [u2] at q; cases q
  have badd : ∀ (Z : Sto) (x y : Nat), Fr (fun k j => (k = 39 ∧ ((22 ≤ j ∧ j ≤ 27) ∨ j = 39)) ∨ ((k = 58 ∨ k = 59) ∧ j = D.1 4)) Y Z → fF t len 4 a 2 = some (x, y) → Z.1 39 22 = nI y → Ok (some (Z, nI x)) (fun y => Fr PM Y y.1 ∧ (fF t len 4 a (numK 4) = none → y.2 = 0 ∧ y.1.1 39 22 = Y.1 39 22 ∧ y.1.1 39 23 = nI (atS t len a (numK 4)) ∧ DMr y.1 (addD D 4 (fun j => nmV t len (atS t len a j))) r) ∧ ∀ f, fF t len 4 a (numK 4) = some f → y.2 = nI f.1 ∧ y.1.1 39 22 = nI f.2) := by
    intro Z x y hf u1 u2
    rw [ok_some]
    refine ⟨hf.mono (fun k j q => by unfold PM; omega), fun q => ?_, fun f q => ?_⟩
    · have q : fF t len 4 a 2 = none := q
      rw [u1] at q; cases q
    · have q : fF t len 4 a 2 = some f := q
      rw [u1] at q; cases q; exact ⟨rfl, u2⟩
  rw [ok_bd2]
  refine ok_mono (m_into_58 (lo := loK 4 0) (hi := hiK 4 0) h0 (gl 0) e0 (lohi_le 4 (by omega) 0 (by omega)).1 (lohi_le 4 (by omega) 0 (by omega)).2 (show D.1 4 < 4 by omega)) (fun y hy => ?_)
  obtain ⟨Z1, v⟩ := y
  obtain ⟨q1, q2, q3, q4⟩ := hy
  dsimp only at q1 q2 q3 q4 ⊢
  subst q1
  have hf1 : Fr (fun k j => (k = 39 ∧ ((22 ≤ j ∧ j ≤ 27) ∨ j = 39)) ∨ ((k = 58) ∧ j = D.1 4)) Y Z1 := (hf0.mono (fun k j q => by omega)).tr (q2.mono (fun k j q => by omega))
  by_cases c0 : nmK t len (atS t len a 0) (loK 4 0) (hiK 4 0) = 0
  · obtain ⟨r0, s0, v0⟩ := q3 c0
    have n1 : fF t len 4 a 1 = none := fF_b n0 c0
    have h1 := h.fr hf1 (by omega) (by omega)
    have e1 : Z1.1 39 23 = nI (atS t len a 1) := s0
    have k1 : Z1.1 39 39 = nI (D.1 4 + 1) := (q2 39 39 (by omega)).trans k0
    have g1 : Z1.1 39 22 = Y.1 39 22 := r0.trans g0
    rw [c0, ok_bs, if_pos (show nI 0 ≤ 0 by decide)]
    rw [ok_bd2]
    refine ok_mono (m_into_59 (lo := loK 4 1) (hi := hiK 4 1) h1 (gl 1) e1 (lohi_le 4 (by omega) 1 (by omega)).1 (lohi_le 4 (by omega) 1 (by omega)).2 (show D.1 4 < 4 by omega)) (fun y hy => ?_)
    obtain ⟨Z2, v⟩ := y
    obtain ⟨q1, q2, q3, q4⟩ := hy
    dsimp only at q1 q2 q3 q4 ⊢
    subst q1
    have hf2 : Fr (fun k j => (k = 39 ∧ ((22 ≤ j ∧ j ≤ 27) ∨ j = 39)) ∨ ((k = 58 ∨ k = 59) ∧ j = D.1 4)) Y Z2 := (hf1.mono (fun k j q => by omega)).tr (q2.mono (fun k j q => by omega))
    by_cases c1 : nmK t len (atS t len a 1) (loK 4 1) (hiK 4 1) = 0
    · obtain ⟨r1, s1, v1⟩ := q3 c1
      have n2 : fF t len 4 a 2 = none := fF_b n1 c1
      have h2 := h.fr hf2 (by omega) (by omega)
      have e2 : Z2.1 39 23 = nI (atS t len a 2) := s1
      have k2 : Z2.1 39 39 = nI (D.1 4 + 1) := (q2 39 39 (by omega)).trans k1
      have g2 : Z2.1 39 22 = Y.1 39 22 := r1.trans g1
      have v0 := (q2 58 (D.1 4) (by omega)).trans v0
      rw [c1]
      exact good Z2 hf2 k2 n2 g2 e2 v0 v1
    · have nz := hz (nmK_le t len (atS t len a 1) (loK 4 1) (hiK 4 1)) c1
      exact badd Z2 _ _ (hf2.mono (fun k j q => by omega)) (fF_c n1 c1) (q4 c1)
  · have nz := hz (nmK_le t len (atS t len a 0) (loK 4 0) (hiK 4 0)) c0
    rw [ok_bs, if_neg nz]
    exact badd Z1 _ _ (hf1.mono (fun k j q => by omega)) (fF_s (fF_c n0 c0)) (q4 c0)
