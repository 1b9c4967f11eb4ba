/-! standing: codes, folds over codes -/
def stepF (ok : Nat → Bool) (V : Nat → Int32) (a : Option (Int32 × Nat)) (c : Nat) : Option (Int32 × Nat) :=
  if ok c = true then (match a with
    | none => some (V c, c)
    | some p => if V c ≤ p.1 then some p else some (V c, c)) else a
def foldF (ok : Nat → Bool) (V : Nat → Int32) (lo : Nat) : Nat → Option (Int32 × Nat) → Option (Int32 × Nat)
  | 0, a => a
  | n + 1, a => stepF ok V (foldF ok V lo n a) (lo + n)
theorem foldF_add (ok : Nat → Bool) (V : Nat → Int32) (lo n : Nat) (a : Option (Int32 × Nat)) : ∀ m, foldF ok V lo (n + m) a = foldF ok V (lo + n) m (foldF ok V lo n a) := by
  intro m
  induction m with
  | zero => rfl
  | succ m ih =>
    show stepF ok V (foldF ok V lo (n + m) a) (lo + (n + m)) = stepF ok V (foldF ok V (lo + n) m (foldF ok V lo n a)) (lo + n + m)
    rw [ih, Nat.add_assoc]
theorem foldF_no (ok : Nat → Bool) (V : Nat → Int32) (lo : Nat) (a : Option (Int32 × Nat)) : ∀ n, (∀ c, lo ≤ c → c < lo + n → ok c = false) → foldF ok V lo n a = a := by
  intro n
  induction n with
  | zero => intro _; rfl
  | succ n ih =>
    intro h
    show stepF ok V (foldF ok V lo n a) (lo + n) = a
    rw [ih (fun c h1 h2 => h c h1 (by omega))]
    unfold stepF
    rw [if_neg (by rw [h (lo + n) (by omega) (by omega)]; decide)]
theorem foldF_1 (ok : Nat → Bool) (V : Nat → Int32) (lo : Nat) (a : Option (Int32 × Nat)) : foldF ok V lo 1 a = stepF ok V a lo := rfl
/-- the digit of spot s among t -/
def dgT (B t q s : Nat) : Nat := q / B ^ (t - 1 - s) % B
theorem dgT_last {B t q d : Nat} (hB : 0 < B) (hd : d < B) : dgT B (t + 1) (q * B + d) t = d := by
  unfold dgT
  rw [show t + 1 - 1 - t = 0 by omega, Nat.pow_zero, Nat.div_one, Nat.add_comm, Nat.add_mul_mod_self_right]
  exact Nat.mod_eq_of_lt hd
theorem dgT_old {B t q d s : Nat} (hB : 0 < B) (hd : d < B) (hs : s < t) : dgT B (t + 1) (q * B + d) s = dgT B t q s := by
  unfold dgT
  rw [show t + 1 - 1 - s = (t - 1 - s) + 1 by omega, Nat.pow_succ', ← Nat.div_div_eq_div_mul]
  rw [show (q * B + d) / B = q by rw [Nat.add_comm, Nat.add_mul_div_right _ _ hB, Nat.div_eq_of_lt hd, Nat.zero_add]]
/-- all digits below spot t of a code in the prefix's range are the prefix's -/
theorem dgT_pre {B t k q r s : Nat} (hB : 0 < B) (hr : r < B ^ k) (hs : s < t) : dgT B (t + k) (q * B ^ k + r) s = dgT B t q s := by
  unfold dgT
  rw [show t + k - 1 - s = k + (t - 1 - s) by omega, Nat.pow_add, ← Nat.div_div_eq_div_mul]
  rw [show (q * B ^ k + r) / B ^ k = q by rw [Nat.add_comm, Nat.add_mul_div_right _ _ (Nat.pow_pos hB), Nat.div_eq_of_lt hr, Nat.zero_add]]
/-- how many are placed on spots lo .. lo+n-1 -/
def cntR (ng : Nat) (dg : Nat → Nat) (lo : Nat) : Nat → Nat
  | 0 => 0
  | n + 1 => cntR ng dg lo n + (if dg (lo + n) < ng then 1 else 0)
theorem cntR_le (ng : Nat) (dg : Nat → Nat) (lo : Nat) : ∀ n, cntR ng dg lo n ≤ n := by
  intro n
  induction n with
  | zero => exact Nat.le_refl 0
  | succ n ih =>
    show cntR ng dg lo n + (if dg (lo + n) < ng then 1 else 0) ≤ n + 1
    split <;> omega
theorem cntR_add (ng : Nat) (dg : Nat → Nat) (lo n : Nat) : ∀ m, cntR ng dg lo (n + m) = cntR ng dg lo n + cntR ng dg (lo + n) m := by
  intro m
  induction m with
  | zero => rfl
  | succ m ih =>
    show cntR ng dg lo (n + m) + (if dg (lo + (n + m)) < ng then 1 else 0) = cntR ng dg lo n + (cntR ng dg (lo + n) m + (if dg (lo + n + m) < ng then 1 else 0))
    rw [ih, Nat.add_assoc, Nat.add_assoc]
theorem cntR_cong {ng : Nat} {dg dg' : Nat → Nat} {lo : Nat} : ∀ {n : Nat}, (∀ s, lo ≤ s → s < lo + n → dg s = dg' s) → cntR ng dg lo n = cntR ng dg' lo n := by
  intro n
  induction n with
  | zero => intro _; rfl
  | succ n ih =>
    intro h
    show cntR ng dg lo n + (if dg (lo + n) < ng then 1 else 0) = cntR ng dg' lo n + (if dg' (lo + n) < ng then 1 else 0)
    rw [ih (fun s h1 h2 => h s h1 (by omega)), h (lo + n) (by omega) (by omega)]
/-- no one on two of the spots lo .. hi-1 -/
def noDup (ng : Nat) (dg : Nat → Nat) (lo hi : Nat) : Prop := ∀ s s', lo ≤ s → s < hi → lo ≤ s' → s' < hi → dg s = dg s' → dg s < ng → s = s'
def okC (ng ns m : Nat) (c : Nat) : Prop := noDup ng (dgT (ng + 1) ns c) 0 ns ∧ cntR ng (dgT (ng + 1) ns c) 0 ns = m
/-- who is on a spot -/
def rwD (ng : Nat) (d : Nat) : Int32 := if d < ng then nI d else -1
theorem mk_bit : ∀ U, U < 64 → ∀ g, g < 6 → (((nI U >>> (nI g &&& 31)) &&& (1 : Int32)) = 0 ↔ U.testBit g = false) := by decide +kernel
theorem mk_or : ∀ U, U < 64 → ∀ g, g < 6 → (nI U ||| ((1 : Int32) <<< (nI g &&& 31))) = nI (U ||| 2 ^ g) ∧ (U ||| 2 ^ g) < 64 := by decide +kernel
theorem mk_tb : ∀ U, U < 64 → ∀ g, g < 6 → ∀ h, h < 6 → (U ||| 2 ^ g).testBit h = (U.testBit h || decide (h = g)) := by decide +kernel
