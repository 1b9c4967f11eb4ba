/-! the pure side: what a reading comes to -/
def Ok {β : Type} (f : Option β) (P : β → Prop) : Prop := ∃ y, f = some y ∧ P y
theorem ok_some {β : Type} {y : β} {P : β → Prop} : Ok (some y) P ↔ P y := ⟨fun ⟨_, h1, h2⟩ => by cases h1; exact h2, fun h => ⟨y, rfl, h⟩⟩
theorem ok_gd {β : Type} {b : Bool} {a : Option β} {P : β → Prop} : Ok (gd b a) P ↔ b = true ∧ Ok a P := ⟨fun ⟨y, h1, h2⟩ => ⟨(gd_some h1).1, y, (gd_some h1).2, h2⟩, fun ⟨hb, y, h1, h2⟩ => ⟨y, by rw [gd_t _ hb]; exact h1, h2⟩⟩
theorem ok_bs {α β : Type} {x : α} {k : α → Option β} {P : β → Prop} : Ok (bs x k) P ↔ Ok (k x) P := Iff.rfl
theorem ok_if {β : Type} {c : Prop} [Decidable c] {a b : Option β} {P : β → Prop} : Ok (if c then a else b) P ↔ (c → Ok a P) ∧ (¬ c → Ok b P) := by
  by_cases h : c
  · rw [if_pos h]; exact ⟨fun q => ⟨fun _ => q, fun n => absurd h n⟩, fun q => q.1 h⟩
  · rw [if_neg h]; exact ⟨fun q => ⟨fun n => absurd n h, fun _ => q⟩, fun q => q.2 h⟩
theorem ok_bind {α β : Type} {f : Option α} {k : α → Option β} {P : β → Prop} : Ok (f.bind k) P ↔ Ok f (fun y => Ok (k y) P) := by
  constructor
  · rintro ⟨y, h1, h2⟩
    obtain ⟨z, hz, h1⟩ := bd_some h1
    exact ⟨z, hz, y, h1, h2⟩
  · rintro ⟨z, rfl, y, h1, h2⟩
    exact ⟨y, h1, h2⟩
theorem ok_bd2 {α β : Type} {f : Option (Sto × α)} {k : Sto → α → Option β} {P : β → Prop} : Ok (bd2 f k) P ↔ Ok f (fun y => Ok (k y.1 y.2) P) := ok_bind
theorem ok_bd1 {β : Type} {f : Option Sto} {k : Sto → Option β} {P : β → Prop} : Ok (bd1 f k) P ↔ Ok f (fun y => Ok (k y) P) := ok_bind
theorem ok_bE0 {β : Type} {f : Option Sto} {k : Sto → Option β} {P : β → Prop} : Ok (bE0 f k) P ↔ Ok f (fun y => Ok (k y) P) := ok_bind
theorem ok_bE1 {A1 β : Type} {f : Option (Sto × A1)} {k : Sto → A1 → Option β} {P : β → Prop} : Ok (bE1 f k) P ↔ Ok f (fun y => Ok (k y.1 y.2) P) := ok_bind
theorem ok_bE2 {A1 A2 β : Type} {f : Option (Sto × A1 × A2)} {k : Sto → A1 → A2 → Option β} {P : β → Prop} : Ok (bE2 f k) P ↔ Ok f (fun y => Ok (k y.1 y.2.1 y.2.2) P) := ok_bind
theorem ok_bE3 {A1 A2 A3 β : Type} {f : Option (Sto × A1 × A2 × A3)} {k : Sto → A1 → A2 → A3 → Option β} {P : β → Prop} : Ok (bE3 f k) P ↔ Ok f (fun y => Ok (k y.1 y.2.1 y.2.2.1 y.2.2.2) P) := ok_bind
theorem ok_bE4 {A1 A2 A3 A4 β : Type} {f : Option (Sto × A1 × A2 × A3 × A4)} {k : Sto → A1 → A2 → A3 → A4 → Option β} {P : β → Prop} : Ok (bE4 f k) P ↔ Ok f (fun y => Ok (k y.1 y.2.1 y.2.2.1 y.2.2.2.1 y.2.2.2.2) P) := ok_bind
theorem ok_mono {β : Type} {f : Option β} {P Q : β → Prop} (h : Ok f P) (hq : ∀ y, P y → Q y) : Ok f Q := by
  obtain ⟨y, h1, h2⟩ := h
  exact ⟨y, h1, hq y h2⟩
theorem ok_eq {β : Type} {f : Option β} {y : β} {P : β → Prop} (h : f = some y) (hp : P y) : Ok f P := ⟨y, h, hp⟩
theorem ok_and {β : Type} {f : Option β} {P Q : β → Prop} (h1 : Ok f P) (h2 : Ok f Q) : Ok f (fun y => P y ∧ Q y) := by
  obtain ⟨y, a1, a2⟩ := h1
  obtain ⟨z, b1, b2⟩ := h2
  rw [a1] at b1
  cases b1
  exact ⟨y, a1, a2, b2⟩
theorem bd2_eq {α β : Type} (σ : Sto) (v : α) (k : Sto → α → Option β) : bd2 (some (σ, v)) k = k σ v := rfl
theorem bd1_eq {β : Type} (σ : Sto) (k : Sto → Option β) : bd1 (some σ) k = k σ := rfl
theorem bs_eq {α β : Type} (x : α) (k : α → β) : bs x k = k x := rfl
theorem bE1_eq {A1 β : Type} (σ : Sto) (a : A1) (k : Sto → A1 → Option β) : bE1 (some (σ, a)) k = k σ a := rfl
theorem bE2_eq {A1 A2 β : Type} (σ : Sto) (a : A1) (b : A2) (k : Sto → A1 → A2 → Option β) : bE2 (some (σ, a, b)) k = k σ a b := rfl
theorem bE3_eq {A1 A2 A3 β : Type} (σ : Sto) (a : A1) (b : A2) (c : A3) (k : Sto → A1 → A2 → A3 → Option β) : bE3 (some (σ, a, b, c)) k = k σ a b c := rfl
/-- loops -/
theorem lp_eqN {α β : Type} {it : α → Option (α ⊕ β)} (seq : Nat → α) (e : β) : ∀ (m i n : Nat), i + m = n → (∀ j, i ≤ j → j < n → it (seq j) = some (.inl (seq (j + 1)))) → it (seq n) = some (.inr e) → ∀ f, m < f → lpF it f (seq i) = some e := by
  intro m
  induction m with
  | zero =>
    intro i n hi hs he f hf
    cases f with
    | zero => omega
    | succ f =>
      have : i = n := by omega
      subst this
      unfold lpF
      rw [he]
  | succ m ih =>
    intro i n hi hs he f hf
    cases f with
    | zero => omega
    | succ f =>
      unfold lpF
      rw [hs i (Nat.le_refl i) (by omega)]
      exact ih (i + 1) n (by omega) (fun j h1 h2 => hs j (by omega) h2) he f (by omega)
theorem lp_eq {α β : Type} {it : α → Option (α ⊕ β)} (seq : Nat → α) (n : Nat) (hn : n < FU) {e : β} (hs : ∀ j, j < n → it (seq j) = some (.inl (seq (j + 1)))) (he : it (seq n) = some (.inr e)) : lpF it FU (seq 0) = some e :=
  lp_eqN seq e n 0 n (by omega) (fun j _ h => hs j h) he FU hn
theorem lp_okN {α β : Type} {it : α → Option (α ⊕ β)} {I : Nat → α → Prop} {Q : β → Prop} (n : Nat) (hs : ∀ i x, i < n → I i x → Ok (it x) (fun y => (∃ x', y = .inl x' ∧ I (i + 1) x') ∨ ∃ e, y = .inr e ∧ Q e)) (he : ∀ x, I n x → Ok (it x) (fun y => ∃ e, y = .inr e ∧ Q e)) : ∀ (m i f : Nat) (x : α), i + m = n → I i x → m < f → Ok (lpF it f x) Q := by
  intro m
  induction m with
  | zero =>
    intro i f x hi hI hf
    cases f with
    | zero => omega
    | succ f =>
      have : i = n := by omega
      subst this
      obtain ⟨y, h1, e, rfl, hq⟩ := he x hI
      refine ⟨e, ?_, hq⟩
      unfold lpF
      rw [h1]
  | succ m ih =>
    intro i f x hi hI hf
    cases f with
    | zero => omega
    | succ f =>
      obtain ⟨y, h1, h⟩ := hs i x (by omega) hI
      rcases h with ⟨x', rfl, h2⟩ | ⟨e, rfl, hq⟩
      · obtain ⟨z, h3, h4⟩ := ih (i + 1) f x' (by omega) h2 (by omega)
        refine ⟨z, ?_, h4⟩
        unfold lpF
        rw [h1]
        exact h3
      · refine ⟨e, ?_, hq⟩
        unfold lpF
        rw [h1]
/-- a loop of n steps at most, then its end -/
theorem lp_for {α β : Type} {it : α → Option (α ⊕ β)} (I : Nat → α → Prop) {Q : β → Prop} (n : Nat) (hn : n < FU) {x : α} (h0 : I 0 x) (hs : ∀ i x, i < n → I i x → Ok (it x) (fun y => (∃ x', y = .inl x' ∧ I (i + 1) x') ∨ ∃ e, y = .inr e ∧ Q e)) (he : ∀ x, I n x → Ok (it x) (fun y => ∃ e, y = .inr e ∧ Q e)) : Ok (lpF it FU x) Q :=
  lp_okN n hs he n 0 FU x (by omega) h0 hn
theorem FU_big {n : Nat} (h : n < 200000) : n < FU := h
/-- numbers -/
theorem inB_nI {i n : Nat} (hi : i < 2 ^ 31) : inB (nI i) n = decide (i < n) := by
  unfold inB
  rw [nI_toInt hi]
  by_cases h : i < n
  · rw [decide_eq_true h]
    exact decide_eq_true ⟨by omega, by omega⟩
  · rw [decide_eq_false h]
    exact decide_eq_false (fun q => h (by omega))
theorem inB_of {x : Int32} {n : Nat} (h0 : 0 ≤ x.toInt) (h1 : x.toInt < n) : inB x n = true := decide_eq_true ⟨h0, h1⟩
theorem cl_toInt {x : Int32} (h : 0 ≤ x.toInt) : (x.toNatClampNeg : Int) = x.toInt := by
  show ((x.toInt.toNat : Nat) : Int) = x.toInt
  omega
theorem nI_cl {x : Int32} (h : 0 ≤ x.toInt) : nI x.toNatClampNeg = x := by
  apply Int32.toInt_inj.mp
  have h2 := Int32.toInt_lt x
  have h3 := cl_toInt h
  rw [nI_toInt (by omega)]
  exact h3
theorem i_lt {a b : Int32} : a < b ↔ a.toInt < b.toInt := Int32.lt_iff_toInt_lt
theorem i_le {a b : Int32} : a ≤ b ↔ a.toInt ≤ b.toInt := Int32.le_iff_toInt_le
theorem i_eq {a b : Int32} : a = b ↔ a.toInt = b.toInt := Int32.toInt_inj.symm
/-- what the store keeps -/
def Fr (P : Nat → Nat → Prop) (σ τ : Sto) : Prop := ∀ k j, ¬ P k j → τ.1 k j = σ.1 k j
theorem Fr.rf {P : Nat → Nat → Prop} {σ : Sto} : Fr P σ σ := fun _ _ _ => rfl
theorem Fr.tr {P : Nat → Nat → Prop} {a b c : Sto} (h1 : Fr P a b) (h2 : Fr P b c) : Fr P a c := fun k j h => (h2 k j h).trans (h1 k j h)
theorem Fr.mono {P Q : Nat → Nat → Prop} {a b : Sto} (h1 : Fr P a b) (h : ∀ k j, P k j → Q k j) : Fr Q a b := fun k j hq => h1 k j (fun hp => hq (h k j hp))
theorem Fr.su {P : Nat → Nat → Prop} {σ τ : Sto} {k j : Nat} {v : Int32} (h : Fr P σ τ) (hp : P k j) : Fr P σ (su τ k j v) := by
  intro a b hn
  show (if a = k then upd (τ.1 k) j v else τ.1 a) b = σ.1 a b
  by_cases e : a = k
  · subst e
    rw [if_pos rfl]
    by_cases e2 : b = j
    · subst e2
      exact absurd hp hn
    · rw [pk_un e2]
      exact h a b hn
  · rw [if_neg e]
    exact h a b hn
theorem Fr.sc {P : Nat → Nat → Prop} {σ τ : Sto} {k : Nat} {f : Nat → Int32} (h : Fr P σ τ) (hp : ∀ j, P k j) : Fr P σ (sc τ k f) := by
  intro a b hn
  show (if a = k then f else τ.1 a) b = σ.1 a b
  by_cases e : a = k
  · subst e
    exact absurd (hp b) hn
  · rw [if_neg e]
    exact h a b hn
theorem Fr.sl {P : Nat → Nat → Prop} {σ τ : Sto} {k : Nat} {v : Int64} (h : Fr P σ τ) : Fr P σ (sl τ k v) := h
theorem su_at (σ : Sto) (k j : Nat) (v : Int32) (a b : Nat) : (su σ k j v).1 a b = if a = k ∧ b = j then v else σ.1 a b := by
  show (if a = k then upd (σ.1 k) j v else σ.1 a) b = _
  by_cases e : a = k
  · subst e
    rw [if_pos rfl]
    by_cases e2 : b = j
    · subst e2
      rw [pk_us, if_pos ⟨rfl, rfl⟩]
    · rw [pk_un e2, if_neg (fun h => e2 h.2)]
  · rw [if_neg e, if_neg (fun h => e h.1)]
theorem sc_at (σ : Sto) (k : Nat) (f : Nat → Int32) (a b : Nat) : (sc σ k f).1 a b = if a = k then f b else σ.1 a b := by
  show (if a = k then f else σ.1 a) b = _
  by_cases e : a = k
  · rw [if_pos e, if_pos e]
  · rw [if_neg e, if_neg e]
theorem sl_at (σ : Sto) (k : Nat) (v : Int64) (a b : Nat) : (sl σ k v).1 a b = σ.1 a b := rfl
theorem sl_2 (σ : Sto) (k : Nat) (v : Int64) (a : Nat) : (sl σ k v).2 a = if a = k then v else σ.2 a := rfl
theorem su_2 (σ : Sto) (k j : Nat) (v : Int32) : (su σ k j v).2 = σ.2 := rfl
theorem sc_2 (σ : Sto) (k : Nat) (f : Nat → Int32) : (sc σ k f).2 = σ.2 := rfl
