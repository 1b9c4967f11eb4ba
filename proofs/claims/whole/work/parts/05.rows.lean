/-! the machine, read as a pure store: V: from this store, these locals, this stack, this place the machine comes to its end -/
/-- program, launch, world outside, room, start, method, arguments, frames below, method, code, cells, slots, aim, what may change -/
abbrev Cxt : Type := Program × Launch × Env × Room × State × MethodId × Array Value × List Frame × Method × Code × Nat × Nat × (State → Prop) × (Nat → Prop)
abbrev xp (X : Cxt) : Program := X.1
abbrev xl (X : Cxt) : Launch := X.2.1
abbrev xe (X : Cxt) : Env := X.2.2.1
abbrev xR (X : Cxt) : Room := X.2.2.2.1
abbrev xs (X : Cxt) : State := X.2.2.2.2.1
abbrev xm (X : Cxt) : MethodId := X.2.2.2.2.2.1
abbrev xa (X : Cxt) : Array Value := X.2.2.2.2.2.2.1
abbrev xb (X : Cxt) : List Frame := X.2.2.2.2.2.2.2.1
abbrev xh (X : Cxt) : Method := X.2.2.2.2.2.2.2.2.1
abbrev xc (X : Cxt) : Code := X.2.2.2.2.2.2.2.2.2.1
abbrev xk (X : Cxt) : Nat := X.2.2.2.2.2.2.2.2.2.2.1
abbrev xn (X : Cxt) : Nat := X.2.2.2.2.2.2.2.2.2.2.2.1
abbrev xQ (X : Cxt) : State → Prop := X.2.2.2.2.2.2.2.2.2.2.2.2.1
abbrev xA (X : Cxt) : Nat → Prop := X.2.2.2.2.2.2.2.2.2.2.2.2.2
/-- the tables' words that every callee may be handed -/
def lw_gd : List Cond := lw_tbl.filter goodWord
theorem mem_gd {w : Cond} (h : w ∈ lw_tbl) (hg : goodWord w = true) : w ∈ lw_gd := List.mem_filter.mpr ⟨h, hg⟩
def V (G : Wld) (X : Cxt) (nL : Nat) (σ : Sto) (lv : List (Nat × Value)) (st : List Value) (pc : Nat) : Prop :=
  ∀ (H : Heap) (locs : List Loc) (ls : Array Slot), va_P G.2.2.1 vwCl (WS G σ) H → va_S (xA X) (xs X).heap H locs → lv_has ls nL lv →
    W (xp X) (xl X) (xe X) (xR X) (xs X) (xm X) (xa X) (xb X) (xh X) (xc X) H locs (xk X) (xn X) (xQ X) (F0 (xm X) pc ls st)
/-- the class's own static rows -/
def sNm (i : Nat) : String := if i = 0 then "MOST" else if i = 1 then "NUMBERS" else if i = 2 then "LEAST" else "GREATEST"
def sLn (i : Nat) : Nat := if i = 0 then 5 else if i = 1 then 5 else 15
def sTb (i : Nat) : List Int32 := if i = 0 then [1, 4, 6, 6, 4] else if i = 1 then [1, 2, 3, 1, 2] else if i = 2 then [1, 0, 0, 0, 0, 0, 0, 0, 0, 1, 0, 0, 1, 0, 0] else [60, 0, 0, 99, 9, 0, 20, 9, 200, 90, 0, 0, 20, 50, 0]
/-- the five words -/
def kIx (i : Nat) : Nat := if i = 0 then 111 else if i = 1 then 113 else if i = 2 then 115 else if i = 3 then 117 else 119
def kTx (i : Nat) : String := if i = 0 then "year" else if i = 1 then "bell" else if i = 2 then "spot" else if i = 3 then "beggar" else "hat"
def kLen : List Nat := [4, 4, 4, 6, 3]
def kByt : List (List Int32) := [[121, 101, 97, 114], [98, 101, 108, 108], [115, 112, 111, 116], [98, 101, 103, 103, 97, 114], [104, 97, 116]]
/-- the places in the pools by which nested classes read the static rows -/
def nOw (j : Nat) : String := if j = 4 then "ShadowAlms$Plan" else "ShadowAlms$Reader"
def nIx (j : Nat) : Nat := if j = 0 then 91 else if j = 1 then 65 else if j = 2 then 68 else if j = 3 then 71 else 30
def nTb (j : Nat) : Nat := if j = 4 then 0 else j
abbrev nLk (j : Nat) : Cond := .fieldLinkNest (nOw j) (nIx j) "ShadowAlms" (sNm (nTb j)) "[I" "ShadowAlms"
def SF (G : Wld) (A : Nat → Prop) (U : State) (H : Heap) : Prop :=
  (∀ i, i < 4 → va_Z "ShadowAlms" (sNm i) "[I" (.ref (G.2.2.2.1 i)) A U H ∧ va_T .int (G.2.2.2.1 i) (sLn i) (fun j => .int ((sTb i).getD j 0)) A U H) ∧
  va_Z "java/lang/String" "COMPACT_STRINGS" "Z" (.int 1) A U H ∧
  (va_Z "jdk/internal/util/Preconditions" "SIOOBE_FORMATTER" "Ljava/util/function/BiFunction;" G.2.2.2.2.2.2 A U H ∧ G.2.2.2.2.2.2.category = 1 ∧ (G.2.2.2.2.2.2 = .null ∨ ∃ t, G.2.2.2.2.2.2 = .ref t)) ∧
  vk_S 5 kLen kByt G.2.2.2.2.1 G.2.2.2.2.2.1 A U H ∧ (∀ i, i < 5 → vk_R "ShadowAlms$Reader" (kIx i) (kTx i) (G.2.2.2.2.1 i) U) ∧ ∀ j, j < 5 → va_Nw (nLk j) U
theorem SF.warm {G : Wld} {A : Nat → Prop} {s U : State} {H : Heap} (hW : s.WarmedH U.vm) (h : SF G A s H) : SF G A U H :=
  ⟨fun i hi => ⟨va_Z.moved hW.alike (h.1 i hi).1, va_T.moved hW.alike (h.1 i hi).2⟩, va_Z.moved hW.alike h.2.1, ⟨va_Z.moved hW.alike h.2.2.1.1, h.2.2.1.2⟩, vk_S.moved hW.alike h.2.2.2.1, fun i hi => vk_R.warm hW (h.2.2.2.2.1 i hi), fun j hj => va_Nw.warmF hW (h.2.2.2.2.2 j hj)⟩
theorem SF.same {G : Wld} {A : Nat → Prop} {u U : State} {H : Heap} (hv : U.vm = u.vm) (h : SF G A u H) : SF G A U H := by
  have hA : u.vm.Alike U.vm := by rw [hv]; exact Vm.Alike.refl u.vm
  exact ⟨fun i hi => ⟨va_Z.moved hA (h.1 i hi).1, va_T.moved hA (h.1 i hi).2⟩, va_Z.moved hA h.2.1, ⟨va_Z.moved hA h.2.2.1.1, h.2.2.1.2⟩, vk_S.moved hA h.2.2.2.1, fun i hi => vk_R.same hv (h.2.2.2.2.1 i hi), fun j hj => va_Nw.same rfl hv.symm (h.2.2.2.2.2 j hj)⟩
theorem SF.kept {G : Wld} {A : Nat → Prop} {U : State} {H H1 : Heap} (h : SF G A U H) (hq : ∀ a : Nat, a < H.size → ¬ A a → H1[a]? = H[a]?) : SF G A U H1 :=
  ⟨fun i hi => ⟨(h.1 i hi).1.kept hq, (h.1 i hi).2.kept hq⟩, h.2.1.kept hq, ⟨h.2.2.1.1.kept hq, h.2.2.1.2⟩, h.2.2.2.1.kept hq, h.2.2.2.2⟩
theorem SF.narrow {G : Wld} {A B : Nat → Prop} {U : State} {H : Heap} (h : SF G A U H) (hAB : ∀ q, B q → A q) : SF G B U H :=
  ⟨fun i hi => ⟨(h.1 i hi).1.narrow hAB, (h.1 i hi).2.narrow hAB⟩, h.2.1.narrow hAB, ⟨h.2.2.1.1.narrow hAB, h.2.2.1.2⟩, h.2.2.2.1.narrow hAB, h.2.2.2.2⟩
def Cx (G : Wld) (X : Cxt) (own : String) (cc : ByteArray) (nL n : Nat) : Prop :=
  (xp X).tables.exec = Jvm.exec ∧ (xc X).code = cc ∧ (xc X).maxLocals = nL ∧ (xs X).vm.findClass own = some (xm X).cls ∧ (∀ w ∈ lw_gd, w.before (xa X) (xs X) = true) ∧ va_K G.2.2.1 vwCl (tyL G) (xs X) ∧
  (∀ i j, i < NC → j < NC → G.1 i = G.1 j → i = j) ∧ (∀ k, k < NC → xA X (G.1 k)) ∧ SF G (xA X) (xs X) (xs X).heap ∧ n ≤ (xR X).frames ∧ 50 * n ≤ (xR X).locals ∧ xk X ≤ (xR X).cells ∧ xn X ≤ (xR X).slots
/-- guards -/
def gd {β : Type} (b : Bool) (a : Option β) : Option β := match b with
  | true => a
  | false => none
theorem gd_some {β : Type} {b : Bool} {a : Option β} {y : β} (h : gd b a = some y) : b = true ∧ a = some y := by
  cases b with
  | true => exact ⟨rfl, h⟩
  | false => cases h
theorem gd_t {β : Type} {b : Bool} (a : Option β) (h : b = true) : gd b a = a := by rw [h]; rfl
def inB (i : Int32) (n : Nat) : Bool := decide (0 ≤ i.toInt ∧ i.toInt < n)
theorem inB_in {i : Int32} {n : Nat} (h : inB i n = true) : vp_in i n := vp_in_iff.mpr (of_decide_eq_true h)
def nzI (y : Int32) : Bool := decide (¬ y = 0)
def nzL (y : Int64) : Bool := decide (¬ y = 0)
def zB (v : Int32) : Bool := decide (v = 0 ∨ v = 1)
theorem it_t {β : Type} {c : Prop} [Decidable c] {a b : Option β} {y : β} (h : (if c then a else b) = some y) (hc : c) : a = some y := by rwa [if_pos hc] at h
theorem it_f {β : Type} {c : Prop} [Decidable c] {a b : Option β} {y : β} (h : (if c then a else b) = some y) (hc : ¬ c) : b = some y := by rwa [if_neg hc] at h
theorem bd_some {α β : Type} {f : Option α} {k : α → Option β} {y : β} (h : f.bind k = some y) : ∃ z, f = some z ∧ k z = some y := by
  cases f with
  | none => cases h
  | some z => exact ⟨z, rfl, h⟩
/-- loops: a step goes on, or ends -/
def lpF {α β : Type} (it : α → Option (α ⊕ β)) : Nat → α → Option β
  | 0, _ => none
  | n + 1, x => match it x with
    | none => none
    | some (.inl x') => lpF it n x'
    | some (.inr e) => some e
def FU : Nat := 200000
theorem lp_rule {α β : Type} {it : α → Option (α ⊕ β)} {Vh : α → Prop} {Ve : β → Prop} (hs : ∀ x y, it x = some y → (∀ x', y = .inl x' → Vh x') → (∀ e, y = .inr e → Ve e) → Vh x) : ∀ (n : Nat) (x : α) (e : β), lpF it n x = some e → Ve e → Vh x := by
  intro n
  induction n with
  | zero => intro x e h; cases h
  | succ n ih =>
    intro x e h he
    unfold lpF at h
    split at h
    · cases h
    · rename_i x' hx
      exact hs x _ hx (fun z hz => by cases hz; exact ih x' e h he) (fun z hz => by cases hz)
    · rename_i e' hx
      cases h
      exact hs x _ hx (fun z hz => by cases hz) (fun z hz => by cases hz; exact he)
def iR (x y : Int32) : Int32 := x - x / y * y
def iMin (x y : Int32) : Int32 := if y < x then y else x
def iMax (x y : Int32) : Int32 := if x < y then y else x
def lR (x y : Int64) : Int64 := x - x / y * y

section VROWS
variable {G : Wld} {X : Cxt} {own : String} {cc : ByteArray} {nL n : Nat} {σ : Sto} {lv : List (Nat × Value)} {st : List Value}
theorem v_iadd (pc : Nat) (C : Cx G X own cc nL n) {x y : Int32} (hd : decode cc pc = .ok (.iadd, 1))  (k : V G X nL σ lv (.int (x + y) :: st) (pc + 1)) : V G X nL σ lv (.int y :: .int x :: st) pc := by
  intro H locs ls hP hS hl
  exact lv_iadd C.1 C.2.1 hd  (k H locs ls hP hS hl)
theorem v_isub (pc : Nat) (C : Cx G X own cc nL n) {x y : Int32} (hd : decode cc pc = .ok (.isub, 1))  (k : V G X nL σ lv (.int (x - y) :: st) (pc + 1)) : V G X nL σ lv (.int y :: .int x :: st) pc := by
  intro H locs ls hP hS hl
  exact lv_isub C.1 C.2.1 hd  (k H locs ls hP hS hl)
theorem v_imul (pc : Nat) (C : Cx G X own cc nL n) {x y : Int32} (hd : decode cc pc = .ok (.imul, 1))  (k : V G X nL σ lv (.int (x * y) :: st) (pc + 1)) : V G X nL σ lv (.int y :: .int x :: st) pc := by
  intro H locs ls hP hS hl
  exact lv_imul C.1 C.2.1 hd  (k H locs ls hP hS hl)
theorem v_iand (pc : Nat) (C : Cx G X own cc nL n) {x y : Int32} (hd : decode cc pc = .ok (.iand, 1))  (k : V G X nL σ lv (.int (x &&& y) :: st) (pc + 1)) : V G X nL σ lv (.int y :: .int x :: st) pc := by
  intro H locs ls hP hS hl
  exact lv_iand C.1 C.2.1 hd  (k H locs ls hP hS hl)
theorem v_ior (pc : Nat) (C : Cx G X own cc nL n) {x y : Int32} (hd : decode cc pc = .ok (.ior, 1))  (k : V G X nL σ lv (.int (x ||| y) :: st) (pc + 1)) : V G X nL σ lv (.int y :: .int x :: st) pc := by
  intro H locs ls hP hS hl
  exact lv_ior C.1 C.2.1 hd  (k H locs ls hP hS hl)
theorem v_ixor (pc : Nat) (C : Cx G X own cc nL n) {x y : Int32} (hd : decode cc pc = .ok (.ixor, 1))  (k : V G X nL σ lv (.int (x ^^^ y) :: st) (pc + 1)) : V G X nL σ lv (.int y :: .int x :: st) pc := by
  intro H locs ls hP hS hl
  exact lv_ixor C.1 C.2.1 hd  (k H locs ls hP hS hl)
theorem v_ishl (pc : Nat) (C : Cx G X own cc nL n) {x y : Int32} (hd : decode cc pc = .ok (.ishl, 1))  (k : V G X nL σ lv (.int (x <<< (y &&& 31)) :: st) (pc + 1)) : V G X nL σ lv (.int y :: .int x :: st) pc := by
  intro H locs ls hP hS hl
  exact lv_ishl C.1 C.2.1 hd  (k H locs ls hP hS hl)
theorem v_ishr (pc : Nat) (C : Cx G X own cc nL n) {x y : Int32} (hd : decode cc pc = .ok (.ishr, 1))  (k : V G X nL σ lv (.int (x >>> (y &&& 31)) :: st) (pc + 1)) : V G X nL σ lv (.int y :: .int x :: st) pc := by
  intro H locs ls hP hS hl
  exact lv_ishr C.1 C.2.1 hd  (k H locs ls hP hS hl)
theorem v_ladd (pc : Nat) (C : Cx G X own cc nL n) {x y : Int64} (hd : decode cc pc = .ok (.ladd, 1))  (k : V G X nL σ lv (.long (x + y) :: st) (pc + 1)) : V G X nL σ lv (.long y :: .long x :: st) pc := by
  intro H locs ls hP hS hl
  exact lv_ladd C.1 C.2.1 hd  (k H locs ls hP hS hl)
theorem v_lsub (pc : Nat) (C : Cx G X own cc nL n) {x y : Int64} (hd : decode cc pc = .ok (.lsub, 1))  (k : V G X nL σ lv (.long (x - y) :: st) (pc + 1)) : V G X nL σ lv (.long y :: .long x :: st) pc := by
  intro H locs ls hP hS hl
  exact lv_lsub C.1 C.2.1 hd  (k H locs ls hP hS hl)
theorem v_lmul (pc : Nat) (C : Cx G X own cc nL n) {x y : Int64} (hd : decode cc pc = .ok (.lmul, 1))  (k : V G X nL σ lv (.long (x * y) :: st) (pc + 1)) : V G X nL σ lv (.long y :: .long x :: st) pc := by
  intro H locs ls hP hS hl
  exact lv_lmul C.1 C.2.1 hd  (k H locs ls hP hS hl)
theorem v_land (pc : Nat) (C : Cx G X own cc nL n) {x y : Int64} (hd : decode cc pc = .ok (.land, 1))  (k : V G X nL σ lv (.long (x &&& y) :: st) (pc + 1)) : V G X nL σ lv (.long y :: .long x :: st) pc := by
  intro H locs ls hP hS hl
  exact lv_land C.1 C.2.1 hd  (k H locs ls hP hS hl)
theorem v_lor (pc : Nat) (C : Cx G X own cc nL n) {x y : Int64} (hd : decode cc pc = .ok (.lor, 1))  (k : V G X nL σ lv (.long (x ||| y) :: st) (pc + 1)) : V G X nL σ lv (.long y :: .long x :: st) pc := by
  intro H locs ls hP hS hl
  exact lv_lor C.1 C.2.1 hd  (k H locs ls hP hS hl)
theorem v_lshl (pc : Nat) (C : Cx G X own cc nL n) {x : Int64} {y : Int32} (hd : decode cc pc = .ok (.lshl, 1))  (k : V G X nL σ lv (.long (x <<< (y.toInt64 &&& 63)) :: st) (pc + 1)) : V G X nL σ lv (.int y :: .long x :: st) pc := by
  intro H locs ls hP hS hl
  exact lv_lshl C.1 C.2.1 hd rfl (k H locs ls hP hS hl)
theorem v_lshr (pc : Nat) (C : Cx G X own cc nL n) {x : Int64} {y : Int32} (hd : decode cc pc = .ok (.lshr, 1))  (k : V G X nL σ lv (.long (x >>> (y.toInt64 &&& 63)) :: st) (pc + 1)) : V G X nL σ lv (.int y :: .long x :: st) pc := by
  intro H locs ls hP hS hl
  exact lv_lshr C.1 C.2.1 hd rfl (k H locs ls hP hS hl)
theorem v_lushr (pc : Nat) (C : Cx G X own cc nL n) {x : Int64} {y : Int32} (hd : decode cc pc = .ok (.lushr, 1))  (k : V G X nL σ lv (.long ((x.toUInt64 >>> (y.toInt64.toUInt64 &&& Int64.toUInt64 63)).toInt64) :: st) (pc + 1)) : V G X nL σ lv (.int y :: .long x :: st) pc := by
  intro H locs ls hP hS hl
  exact lv_lushr C.1 C.2.1 hd rfl (k H locs ls hP hS hl)
theorem v_lcmp (pc : Nat) (C : Cx G X own cc nL n) {x y : Int64} (hd : decode cc pc = .ok (.lcmp, 1))  (k : V G X nL σ lv (.int (lg_cmp x y) :: st) (pc + 1)) : V G X nL σ lv (.long y :: .long x :: st) pc := by
  intro H locs ls hP hS hl
  exact W.lcmp C.1 C.2.1 hd  (k H locs ls hP hS hl)
theorem v_i2l (pc : Nat) (C : Cx G X own cc nL n) {x : Int32} (hd : decode cc pc = .ok (.i2l, 1))  (k : V G X nL σ lv (.long x.toInt64 :: st) (pc + 1)) : V G X nL σ lv (.int x :: st) pc := by
  intro H locs ls hP hS hl
  exact lv_i2l C.1 C.2.1 hd rfl (k H locs ls hP hS hl)
theorem v_l2i (pc : Nat) (C : Cx G X own cc nL n) {x : Int64} (hd : decode cc pc = .ok (.l2i, 1))  (k : V G X nL σ lv (.int x.toInt32 :: st) (pc + 1)) : V G X nL σ lv (.long x :: st) pc := by
  intro H locs ls hP hS hl
  exact lv_l2i C.1 C.2.1 hd rfl (k H locs ls hP hS hl)
theorem v_i2c (pc : Nat) (C : Cx G X own cc nL n) {x : Int32} (hd : decode cc pc = .ok (.i2c, 1))  (k : V G X nL σ lv (.int (x.toUInt32 % 65536).toInt32 :: st) (pc + 1)) : V G X nL σ lv (.int x :: st) pc := by
  intro H locs ls hP hS hl
  exact lv_i2c C.1 C.2.1 hd rfl (k H locs ls hP hS hl)
theorem v_iconst (pc : Nat) (C : Cx G X own cc nL n) {c : Int} (v : Int32) (hd : decode cc pc = .ok (.iconst c, 1)) (hv : Int32.ofInt c = v) (k : V G X nL σ lv (.int v :: st) (pc + 1)) : V G X nL σ lv (st) pc := by
  intro H locs ls hP hS hl
  exact lv_iconst C.1 C.2.1 hd hv (k H locs ls hP hS hl)
theorem v_bipush (pc : Nat) (C : Cx G X own cc nL n) {c : Int} (v : Int32) (hd : decode cc pc = .ok (.bipush c, 2)) (hv : (Int8.ofInt c).toInt32 = v) (k : V G X nL σ lv (.int v :: st) (pc + 2)) : V G X nL σ lv (st) pc := by
  intro H locs ls hP hS hl
  exact lv_bipush C.1 C.2.1 hd hv (k H locs ls hP hS hl)
theorem v_sipush (pc : Nat) (C : Cx G X own cc nL n) {c : Int} (v : Int32) (hd : decode cc pc = .ok (.sipush c, 3)) (hv : (Int16.ofInt c).toInt32 = v) (k : V G X nL σ lv (.int v :: st) (pc + 3)) : V G X nL σ lv (st) pc := by
  intro H locs ls hP hS hl
  exact lv_sipush C.1 C.2.1 hd hv (k H locs ls hP hS hl)
theorem v_lconst (pc : Nat) (C : Cx G X own cc nL n) {c : Fin 2} (v : Int64) (hd : decode cc pc = .ok (.lconst c, 1)) (hv : Int64.ofNat (c : Nat) = v) (k : V G X nL σ lv (.long v :: st) (pc + 1)) : V G X nL σ lv (st) pc := by
  intro H locs ls hP hS hl
  exact lv_lconst C.1 C.2.1 hd hv (k H locs ls hP hS hl)
theorem v_dup (pc : Nat) (C : Cx G X own cc nL n) {v : Value} (hd : decode cc pc = .ok (.dup, 1)) (hv : v.category = 1) (k : V G X nL σ lv (v :: v :: st) (pc + 1)) : V G X nL σ lv (v :: st) pc := by
  intro H locs ls hP hS hl
  exact lv_dup C.1 C.2.1 hd hv (k H locs ls hP hS hl)
theorem v_dup2 (pc : Nat) (C : Cx G X own cc nL n) {v w : Value} (hd : decode cc pc = .ok (.dup2, 1)) (hv : v.category = 1) (hw : w.category = 1) (k : V G X nL σ lv (v :: w :: v :: w :: st) (pc + 1)) : V G X nL σ lv (v :: w :: st) pc := by
  intro H locs ls hP hS hl
  exact lv_dup2_11 C.1 C.2.1 hd hv hw (k H locs ls hP hS hl)
theorem v_pop (pc : Nat) (C : Cx G X own cc nL n) {v : Value} (hd : decode cc pc = .ok (.pop, 1)) (hv : v.category = 1) (k : V G X nL σ lv (st) (pc + 1)) : V G X nL σ lv (v :: st) pc := by
  intro H locs ls hP hS hl
  exact lv_pop C.1 C.2.1 hd hv (k H locs ls hP hS hl)
theorem v_ldc (pc : Nat) (C : Cx G X own cc nL n) {ix : Nat} {v : Int32} (hd : decode cc pc = .ok (.ldc ix, 2)) (hw : Cond.constant own ix v ∈ lw_gd) (k : V G X nL σ lv (.int v :: st) (pc + 2)) : V G X nL σ lv st pc := by
  intro H locs ls hP hS hl
  exact lv_ldc C.1 C.2.1 C.2.2.2.1 (C.2.2.2.2.1 _ hw) hd (k H locs ls hP hS hl)
theorem v_ldc_w (pc : Nat) (C : Cx G X own cc nL n) {ix : Nat} {v : Int32} (hd : decode cc pc = .ok (.ldc_w ix, 3)) (hw : Cond.constant own ix v ∈ lw_gd) (k : V G X nL σ lv (.int v :: st) (pc + 3)) : V G X nL σ lv st pc := by
  intro H locs ls hP hS hl
  exact lv_ldcw C.1 C.2.1 C.2.2.2.1 (C.2.2.2.2.1 _ hw) hd (k H locs ls hP hS hl)
theorem v_ldc2_w (pc : Nat) (C : Cx G X own cc nL n) {ix : Nat} {v : Int64} (hd : decode cc pc = .ok (.ldc2_w ix, 3)) (hw : Cond.constantLong own ix v ∈ lw_gd) (k : V G X nL σ lv (.long v :: st) (pc + 3)) : V G X nL σ lv st pc := by
  intro H locs ls hP hS hl
  exact lv_ldc2 C.1 C.2.1 C.2.2.2.1 (C.2.2.2.2.1 _ hw) hd (k H locs ls hP hS hl)
theorem v_iload_n (pc : Nat) (C : Cx G X own cc nL n) {j : Fin 4} (i q : Nat) {x : Int32} (hd : decode cc pc = .ok (.iload_n j, 1)) (hi : (j : Nat) = i) (hq : lv[q]? = some (i, .int x)) (k : V G X nL σ lv (.int x :: st) (pc + 1)) : V G X nL σ lv st pc := by
  intro H locs ls hP hS hl
  exact lv_iload_n C.1 C.2.1 hd hi (lv_at hl q hq) (k H locs ls hP hS hl)
theorem v_iload (pc : Nat) (C : Cx G X own cc nL n) (i q : Nat) {x : Int32} (hd : decode cc pc = .ok (.iload i, 2)) (hq : lv[q]? = some (i, .int x)) (k : V G X nL σ lv (.int x :: st) (pc + 2)) : V G X nL σ lv st pc := by
  intro H locs ls hP hS hl
  exact lv_iload C.1 C.2.1 hd (lv_at hl q hq) (k H locs ls hP hS hl)
theorem v_lload_n (pc : Nat) (C : Cx G X own cc nL n) {j : Fin 4} (i q : Nat) {x : Int64} (hd : decode cc pc = .ok (.lload_n j, 1)) (hi : (j : Nat) = i) (hq : lv[q]? = some (i, .long x)) (k : V G X nL σ lv (.long x :: st) (pc + 1)) : V G X nL σ lv st pc := by
  intro H locs ls hP hS hl
  exact lv_lload_n C.1 C.2.1 hd hi (lv_at hl q hq) (k H locs ls hP hS hl)
theorem v_lload (pc : Nat) (C : Cx G X own cc nL n) (i q : Nat) {x : Int64} (hd : decode cc pc = .ok (.lload i, 2)) (hq : lv[q]? = some (i, .long x)) (k : V G X nL σ lv (.long x :: st) (pc + 2)) : V G X nL σ lv st pc := by
  intro H locs ls hP hS hl
  exact lv_lload C.1 C.2.1 hd (lv_at hl q hq) (k H locs ls hP hS hl)
theorem v_aload_n (pc : Nat) (C : Cx G X own cc nL n) {j : Fin 4} (i q : Nat) {x : Nat} (hd : decode cc pc = .ok (.aload_n j, 1)) (hi : (j : Nat) = i) (hq : lv[q]? = some (i, .ref x)) (k : V G X nL σ lv (.ref x :: st) (pc + 1)) : V G X nL σ lv st pc := by
  intro H locs ls hP hS hl
  exact lv_aload_n C.1 C.2.1 hd hi (lv_at hl q hq) (k H locs ls hP hS hl)
theorem v_aload (pc : Nat) (C : Cx G X own cc nL n) (i q : Nat) {x : Nat} (hd : decode cc pc = .ok (.aload i, 2)) (hq : lv[q]? = some (i, .ref x)) (k : V G X nL σ lv (.ref x :: st) (pc + 2)) : V G X nL σ lv st pc := by
  intro H locs ls hP hS hl
  exact lv_aload C.1 C.2.1 hd (lv_at hl q hq) (k H locs ls hP hS hl)
theorem v_istore_n (pc : Nat) (C : Cx G X own cc nL n) {j : Fin 4} (i : Nat) {x : Int32} {lv2 : List (Nat × Value)} (hd : decode cc pc = .ok (.istore_n j, 1)) (hi : (j : Nat) = i) (hn : i < nL) (hl2 : (i, Value.int x) :: lv.filter (fun q => !(q.1 == i) && !(q.1 + 1 == i && q.2.category == 2)) = lv2) (k : V G X nL σ lv2 st (pc + 1)) : V G X nL σ lv (.int x :: st) pc := by
  intro H locs ls hP hS hl
  exact lv_istore_n C.1 C.2.1 hd hi hl hn hl2 (fun ls2 h2 => k H locs ls2 hP hS h2)
theorem v_istore (pc : Nat) (C : Cx G X own cc nL n) (i : Nat) {x : Int32} {lv2 : List (Nat × Value)} (hd : decode cc pc = .ok (.istore i, 2)) (hn : i < nL) (hl2 : (i, Value.int x) :: lv.filter (fun q => !(q.1 == i) && !(q.1 + 1 == i && q.2.category == 2)) = lv2) (k : V G X nL σ lv2 st (pc + 2)) : V G X nL σ lv (.int x :: st) pc := by
  intro H locs ls hP hS hl
  exact lv_istore C.1 C.2.1 hd hl hn hl2 (fun ls2 h2 => k H locs ls2 hP hS h2)
theorem v_astore_n (pc : Nat) (C : Cx G X own cc nL n) {j : Fin 4} (i : Nat) {x : Nat} {lv2 : List (Nat × Value)} (hd : decode cc pc = .ok (.astore_n j, 1)) (hi : (j : Nat) = i) (hn : i < nL) (hl2 : (i, Value.ref x) :: lv.filter (fun q => !(q.1 == i) && !(q.1 + 1 == i && q.2.category == 2)) = lv2) (k : V G X nL σ lv2 st (pc + 1)) : V G X nL σ lv (.ref x :: st) pc := by
  intro H locs ls hP hS hl
  exact lv_astore_n C.1 C.2.1 hd hi hl hn hl2 (fun ls2 h2 => k H locs ls2 hP hS h2)
theorem v_astore (pc : Nat) (C : Cx G X own cc nL n) (i : Nat) {x : Nat} {lv2 : List (Nat × Value)} (hd : decode cc pc = .ok (.astore i, 2)) (hn : i < nL) (hl2 : (i, Value.ref x) :: lv.filter (fun q => !(q.1 == i) && !(q.1 + 1 == i && q.2.category == 2)) = lv2) (k : V G X nL σ lv2 st (pc + 2)) : V G X nL σ lv (.ref x :: st) pc := by
  intro H locs ls hP hS hl
  exact lv_astore C.1 C.2.1 hd hl hn hl2 (fun ls2 h2 => k H locs ls2 hP hS h2)
theorem v_iinc (pc : Nat) (C : Cx G X own cc nL n) (i q : Nat) {c : Int} {x : Int32} (v : Int32) {lv2 : List (Nat × Value)} (hd : decode cc pc = .ok (.iinc i c, 3)) (hq : lv[q]? = some (i, .int x)) (hv : Int32.ofInt c = v) (hn : i < nL) (hl2 : (i, Value.int (x + v)) :: lv.filter (fun q => !(q.1 == i) && !(q.1 + 1 == i && q.2.category == 2)) = lv2) (k : V G X nL σ lv2 st (pc + 3)) : V G X nL σ lv st pc := by
  intro H locs ls hP hS hl
  exact lv_iinc C.1 C.2.1 hd hl hq (by rw [hv]) hn hl2 (fun ls2 h2 => k H locs ls2 hP hS h2)
/-- fewer locals, in another order -/
theorem v_sub {lv2 : List (Nat × Value)} {pc : Nat} (ks : List Nat) (h : lv_pick lv ks = lv2) (k : V G X nL σ lv2 st pc) : V G X nL σ lv st pc := by
  intro H locs ls hP hS hl
  exact k H locs ls hP hS (lv_sub hl ks h)
theorem v_goto (pc : Nat) (C : Cx G X own cc nL n) {off : Int} (tgt : Nat) (hd : decode cc pc = .ok (.goto off, 3)) (ht : (pc : Int) + off = (tgt : Int)) (k : V G X nL σ lv st tgt) : V G X nL σ lv st pc := by
  intro H locs ls hP hS hl
  exact lv_goto C.1 C.2.1 hd ht (k H locs ls hP hS hl)
/-- division -/
theorem v_idiv (pc : Nat) (C : Cx G X own cc nL n) {x y : Int32} {β : Type} {F : Option β} {r : β} (hd : decode cc pc = .ok (.idiv, 1)) (h : gd (nzI y) F = some r) (k : F = some r → V G X nL σ lv (.int (x / y) :: st) (pc + 1)) : V G X nL σ lv (.int y :: .int x :: st) pc := by
  intro H locs ls hP hS hl
  exact lv_idiv C.1 C.2.1 hd (of_decide_eq_true (gd_some h).1) (k (gd_some h).2 H locs ls hP hS hl)
theorem v_irem (pc : Nat) (C : Cx G X own cc nL n) {x y : Int32} {β : Type} {F : Option β} {r : β} (hd : decode cc pc = .ok (.irem, 1)) (h : gd (nzI y) F = some r) (k : F = some r → V G X nL σ lv (.int (iR x y) :: st) (pc + 1)) : V G X nL σ lv (.int y :: .int x :: st) pc := by
  intro H locs ls hP hS hl
  exact lv_irem C.1 C.2.1 hd (of_decide_eq_true (gd_some h).1) (k (gd_some h).2 H locs ls hP hS hl)
theorem v_lrem (pc : Nat) (C : Cx G X own cc nL n) {x y : Int64} {β : Type} {F : Option β} {r : β} (hd : decode cc pc = .ok (.lrem, 1)) (h : gd (nzL y) F = some r) (k : F = some r → V G X nL σ lv (.long (lR x y) :: st) (pc + 1)) : V G X nL σ lv (.long y :: .long x :: st) pc := by
  intro H locs ls hP hS hl
  exact lv_lrem C.1 C.2.1 hd (of_decide_eq_true (gd_some h).1) (k (gd_some h).2 H locs ls hP hS hl)
/-- branches, led by the pure reading h -/
theorem v_if_eq (pc : Nat) (C : Cx G X own cc nL n) {x : Int32} {off : Int} (tgt : Nat) {β : Type} {F E : Option β} {r : β} (hd : decode cc pc = .ok (.ifCond .eq off, 3)) (ht : (pc : Int) + off = (tgt : Int)) (h : (if x = 0 then F else E) = some r) (kt : F = some r → V G X nL σ lv st tgt) (kf : E = some r → V G X nL σ lv st (pc + 3)) : V G X nL σ lv (.int x :: st) pc := by
  intro H locs ls hP hS hl
  exact lv_if_eq C.1 C.2.1 hd ht (fun c => kt (it_t h c) H locs ls hP hS hl) (fun c => kf (it_f h c) H locs ls hP hS hl)
theorem v_icmp_eq (pc : Nat) (C : Cx G X own cc nL n) {x y : Int32} {off : Int} (tgt : Nat) {β : Type} {F E : Option β} {r : β} (hd : decode cc pc = .ok (.if_icmp .eq off, 3)) (ht : (pc : Int) + off = (tgt : Int)) (h : (if x = y then F else E) = some r) (kt : F = some r → V G X nL σ lv st tgt) (kf : E = some r → V G X nL σ lv st (pc + 3)) : V G X nL σ lv (.int y :: .int x :: st) pc := by
  intro H locs ls hP hS hl
  exact lv_icmp_eq C.1 C.2.1 hd ht (fun c => kt (it_t h c) H locs ls hP hS hl) (fun c => kf (it_f h c) H locs ls hP hS hl)
theorem v_if_lt (pc : Nat) (C : Cx G X own cc nL n) {x : Int32} {off : Int} (tgt : Nat) {β : Type} {F E : Option β} {r : β} (hd : decode cc pc = .ok (.ifCond .lt off, 3)) (ht : (pc : Int) + off = (tgt : Int)) (h : (if x < 0 then F else E) = some r) (kt : F = some r → V G X nL σ lv st tgt) (kf : E = some r → V G X nL σ lv st (pc + 3)) : V G X nL σ lv (.int x :: st) pc := by
  intro H locs ls hP hS hl
  exact lv_if_lt C.1 C.2.1 hd ht (fun c => kt (it_t h c) H locs ls hP hS hl) (fun c => kf (it_f h c) H locs ls hP hS hl)
theorem v_icmp_lt (pc : Nat) (C : Cx G X own cc nL n) {x y : Int32} {off : Int} (tgt : Nat) {β : Type} {F E : Option β} {r : β} (hd : decode cc pc = .ok (.if_icmp .lt off, 3)) (ht : (pc : Int) + off = (tgt : Int)) (h : (if x < y then F else E) = some r) (kt : F = some r → V G X nL σ lv st tgt) (kf : E = some r → V G X nL σ lv st (pc + 3)) : V G X nL σ lv (.int y :: .int x :: st) pc := by
  intro H locs ls hP hS hl
  exact lv_icmp_lt C.1 C.2.1 hd ht (fun c => kt (it_t h c) H locs ls hP hS hl) (fun c => kf (it_f h c) H locs ls hP hS hl)
theorem v_if_ge (pc : Nat) (C : Cx G X own cc nL n) {x : Int32} {off : Int} (tgt : Nat) {β : Type} {F E : Option β} {r : β} (hd : decode cc pc = .ok (.ifCond .ge off, 3)) (ht : (pc : Int) + off = (tgt : Int)) (h : (if 0 ≤ x then F else E) = some r) (kt : F = some r → V G X nL σ lv st tgt) (kf : E = some r → V G X nL σ lv st (pc + 3)) : V G X nL σ lv (.int x :: st) pc := by
  intro H locs ls hP hS hl
  exact lv_if_ge C.1 C.2.1 hd ht (fun c => kt (it_t h c) H locs ls hP hS hl) (fun c => kf (it_f h c) H locs ls hP hS hl)
theorem v_icmp_ge (pc : Nat) (C : Cx G X own cc nL n) {x y : Int32} {off : Int} (tgt : Nat) {β : Type} {F E : Option β} {r : β} (hd : decode cc pc = .ok (.if_icmp .ge off, 3)) (ht : (pc : Int) + off = (tgt : Int)) (h : (if y ≤ x then F else E) = some r) (kt : F = some r → V G X nL σ lv st tgt) (kf : E = some r → V G X nL σ lv st (pc + 3)) : V G X nL σ lv (.int y :: .int x :: st) pc := by
  intro H locs ls hP hS hl
  exact lv_icmp_ge C.1 C.2.1 hd ht (fun c => kt (it_t h c) H locs ls hP hS hl) (fun c => kf (it_f h c) H locs ls hP hS hl)
theorem v_if_gt (pc : Nat) (C : Cx G X own cc nL n) {x : Int32} {off : Int} (tgt : Nat) {β : Type} {F E : Option β} {r : β} (hd : decode cc pc = .ok (.ifCond .gt off, 3)) (ht : (pc : Int) + off = (tgt : Int)) (h : (if 0 < x then F else E) = some r) (kt : F = some r → V G X nL σ lv st tgt) (kf : E = some r → V G X nL σ lv st (pc + 3)) : V G X nL σ lv (.int x :: st) pc := by
  intro H locs ls hP hS hl
  exact lv_if_gt C.1 C.2.1 hd ht (fun c => kt (it_t h c) H locs ls hP hS hl) (fun c => kf (it_f h c) H locs ls hP hS hl)
theorem v_icmp_gt (pc : Nat) (C : Cx G X own cc nL n) {x y : Int32} {off : Int} (tgt : Nat) {β : Type} {F E : Option β} {r : β} (hd : decode cc pc = .ok (.if_icmp .gt off, 3)) (ht : (pc : Int) + off = (tgt : Int)) (h : (if y < x then F else E) = some r) (kt : F = some r → V G X nL σ lv st tgt) (kf : E = some r → V G X nL σ lv st (pc + 3)) : V G X nL σ lv (.int y :: .int x :: st) pc := by
  intro H locs ls hP hS hl
  exact lv_icmp_gt C.1 C.2.1 hd ht (fun c => kt (it_t h c) H locs ls hP hS hl) (fun c => kf (it_f h c) H locs ls hP hS hl)
theorem v_if_le (pc : Nat) (C : Cx G X own cc nL n) {x : Int32} {off : Int} (tgt : Nat) {β : Type} {F E : Option β} {r : β} (hd : decode cc pc = .ok (.ifCond .le off, 3)) (ht : (pc : Int) + off = (tgt : Int)) (h : (if x ≤ 0 then F else E) = some r) (kt : F = some r → V G X nL σ lv st tgt) (kf : E = some r → V G X nL σ lv st (pc + 3)) : V G X nL σ lv (.int x :: st) pc := by
  intro H locs ls hP hS hl
  exact lv_if_le C.1 C.2.1 hd ht (fun c => kt (it_t h c) H locs ls hP hS hl) (fun c => kf (it_f h c) H locs ls hP hS hl)
theorem v_icmp_le (pc : Nat) (C : Cx G X own cc nL n) {x y : Int32} {off : Int} (tgt : Nat) {β : Type} {F E : Option β} {r : β} (hd : decode cc pc = .ok (.if_icmp .le off, 3)) (ht : (pc : Int) + off = (tgt : Int)) (h : (if x ≤ y then F else E) = some r) (kt : F = some r → V G X nL σ lv st tgt) (kf : E = some r → V G X nL σ lv st (pc + 3)) : V G X nL σ lv (.int y :: .int x :: st) pc := by
  intro H locs ls hP hS hl
  exact lv_icmp_le C.1 C.2.1 hd ht (fun c => kt (it_t h c) H locs ls hP hS hl) (fun c => kf (it_f h c) H locs ls hP hS hl)
theorem v_if_ne (pc : Nat) (C : Cx G X own cc nL n) {x : Int32} {off : Int} (tgt : Nat) {β : Type} {F E : Option β} {r : β} (hd : decode cc pc = .ok (.ifCond .ne off, 3)) (ht : (pc : Int) + off = (tgt : Int)) (h : (if x = 0 then E else F) = some r) (kt : F = some r → V G X nL σ lv st tgt) (kf : E = some r → V G X nL σ lv st (pc + 3)) : V G X nL σ lv (.int x :: st) pc := by
  intro H locs ls hP hS hl
  exact lv_if_ne C.1 C.2.1 hd ht (fun c => kt (it_f h c) H locs ls hP hS hl) (fun c => kf (it_t h c) H locs ls hP hS hl)
theorem v_icmp_ne (pc : Nat) (C : Cx G X own cc nL n) {x y : Int32} {off : Int} (tgt : Nat) {β : Type} {F E : Option β} {r : β} (hd : decode cc pc = .ok (.if_icmp .ne off, 3)) (ht : (pc : Int) + off = (tgt : Int)) (h : (if x = y then E else F) = some r) (kt : F = some r → V G X nL σ lv st tgt) (kf : E = some r → V G X nL σ lv st (pc + 3)) : V G X nL σ lv (.int y :: .int x :: st) pc := by
  intro H locs ls hP hS hl
  exact lv_icmp_ne C.1 C.2.1 hd ht (fun c => kt (it_f h c) H locs ls hP hS hl) (fun c => kf (it_t h c) H locs ls hP hS hl)
/-- switches: in the table or out of it; the pure reading tests the places one by one -/
theorem v_tableOut (pc : Nat) (C : Cx G X own cc nL n) {dflt lo hi : Int} {offs : Array Int} {len : Nat} {x : Int32} (tgt : Nat) (hd : decode cc pc = .ok (.tableswitch dflt lo hi offs, len)) (h : x.toInt < lo ∨ hi < x.toInt) (ht : (pc : Int) + dflt = (tgt : Int)) (k : V G X nL σ lv st tgt) : V G X nL σ lv (.int x :: st) pc := by
  intro H locs ls hP hS hl
  exact lv_tableOut C.1 C.2.1 hd h ht (k H locs ls hP hS hl)
theorem v_tableIn (pc : Nat) (C : Cx G X own cc nL n) {dflt lo hi : Int} {offs : Array Int} {len : Nat} {x : Int32} {off : Int} (tgt : Nat) (hd : decode cc pc = .ok (.tableswitch dflt lo hi offs, len)) (h1 : ¬ x.toInt < lo) (h2 : ¬ hi < x.toInt) (ho : offs[(x.toInt - lo).toNat]? = some off) (ht : (pc : Int) + off = (tgt : Int)) (k : V G X nL σ lv st tgt) : V G X nL σ lv (.int x :: st) pc := by
  intro H locs ls hP hS hl
  exact lv_tableIn C.1 C.2.1 hd h1 h2 ho ht (k H locs ls hP hS hl)
/-- fields -/
theorem v_get (pc : Nat) (C : Cx G X own cc nL n) {ci N ix : Nat} {CN : String} {T : u_T} {fs : List Value} {v : Value} (k slot : Nat) (hk : k < NC) (hce : ceF G k (σ.1 k) (σ.2 k) = .inr (ci, fs)) (hc : vwCl[ci]? = some (CN, T, N)) (hin : ∀ w ∈ u_ws CN T N, w ∈ lw_gd) (hs : slot < N) (hw : Cond.fieldLink own ix (T slot).1 (T slot).2.1 (T slot).2.2.1 ∈ lw_gd) (hv : fs[slot]? = some v) (hd : decode cc pc = .ok (.getfield ix, 3)) (kk : V G X nL σ lv (v :: st) (pc + 3)) : V G X nL σ lv (.ref (G.1 k) :: st) pc := by
  intro H locs ls hP hS hl
  exact va_get C.1 C.2.1 C.2.2.2.2.1 hin C.2.2.2.1 C.2.2.2.2.2.1 hP k (by rw [WS_at hk, hce]) hc slot hs (C.2.2.2.2.1 _ hw) (fun _ h => h) hv hd (kk H locs ls hP hS hl)
theorem v_put (pc : Nat) (C : Cx G X own cc nL n) {ci N ix : Nat} {CN : String} {T : u_T} {ty0 : Nat → FieldType} {fs : List Value} {v : Int32} (k slot : Nat) (hk : k < NC) (hce : ceF G k (σ.1 k) (σ.2 k) = .inr (ci, fs)) (hce2 : ceF G k (upd (σ.1 k) slot v) (σ.2 k) = .inr (ci, fs.set slot (.int v))) (hc : vwCl[ci]? = some (CN, T, N)) (hin : ∀ w ∈ u_ws CN T N, w ∈ lw_gd) (hty : ∀ k, k < N → parseFieldDescriptor (T k).2.2.1 = some (ty0 k)) (hnm : ∀ a, a < N → ∀ b, b < N → a ≠ b → (T a).2.1 ≠ (T b).2.1) (hs : slot < N) (hw : Cond.fieldLink own ix (T slot).1 (T slot).2.1 (T slot).2.2.1 ∈ lw_gd) (hfin : (T slot).2.2.2 = false) (hnar : narrow (ty0 slot) (.int v) = .int v) (hfit : fits (ty0 slot) (.int v) = true) (hlen : slot < fs.length) (hd : decode cc pc = .ok (.putfield ix, 3)) (kk : V G X nL (su σ k slot v) lv st (pc + 3)) : V G X nL σ lv (.int v :: .ref (G.1 k) :: st) pc := by
  intro H locs ls hP hS hl
  refine va_put C.1 C.2.1 C.2.2.2.2.1 hin ty0 hty hnm C.2.2.2.1 C.2.2.2.2.2.1 hP (WS_D C.2.2.2.2.2.2.1 C.2.2.2.2.2.2.2.1) hS k (by rw [WS_at hk, hce]) hc slot hs (C.2.2.2.2.1 _ hw) (fun _ h => h) hfin (hty slot hs) hnar hfit hlen hd (fun H1 locs1 hP1 hD1 hS1 => ?_)
  rw [WS_sc _ hce2] at hP1
  exact kk H1 locs1 ls hP1 hS1 hl
theorem v_putL (pc : Nat) (C : Cx G X own cc nL n) {ci N ix : Nat} {CN : String} {T : u_T} {ty0 : Nat → FieldType} {fs : List Value} {v : Int64} (k slot : Nat) (hk : k < NC) (hce : ceF G k (σ.1 k) (σ.2 k) = .inr (ci, fs)) (hce2 : ceF G k (σ.1 k) v = .inr (ci, fs.set slot (.long v))) (hc : vwCl[ci]? = some (CN, T, N)) (hin : ∀ w ∈ u_ws CN T N, w ∈ lw_gd) (hty : ∀ k, k < N → parseFieldDescriptor (T k).2.2.1 = some (ty0 k)) (hnm : ∀ a, a < N → ∀ b, b < N → a ≠ b → (T a).2.1 ≠ (T b).2.1) (hs : slot < N) (hw : Cond.fieldLink own ix (T slot).1 (T slot).2.1 (T slot).2.2.1 ∈ lw_gd) (hfin : (T slot).2.2.2 = false) (hnar : narrow (ty0 slot) (.long v) = .long v) (hfit : fits (ty0 slot) (.long v) = true) (hlen : slot < fs.length) (hd : decode cc pc = .ok (.putfield ix, 3)) (kk : V G X nL (sl σ k v) lv st (pc + 3)) : V G X nL σ lv (.long v :: .ref (G.1 k) :: st) pc := by
  intro H locs ls hP hS hl
  refine va_put C.1 C.2.1 C.2.2.2.2.1 hin ty0 hty hnm C.2.2.2.1 C.2.2.2.2.2.1 hP (WS_D C.2.2.2.2.2.2.1 C.2.2.2.2.2.2.2.1) hS k (by rw [WS_at hk, hce]) hc slot hs (C.2.2.2.2.1 _ hw) (fun _ h => h) hfin (hty slot hs) hnar hfit hlen hd (fun H1 locs1 hP1 hD1 hS1 => ?_)
  rw [WS_sl _ hce2] at hP1
  exact kk H1 locs1 ls hP1 hS1 hl
/-- arrays -/
theorem v_iald (pc : Nat) (C : Cx G X own cc nL n) (k : Nat) {m : Nat} {i : Int32} {β : Type} {F : Option β} {r : β} (hk : k < NC) (hce : ∀ f d, ceF G k f d = .inl (G.2.1 0, (m, .inl f))) (hd : decode cc pc = .ok (.iaload, 1)) (h : gd (inB i m) F = some r) (kk : F = some r → V G X nL σ lv (.int (σ.1 k i.toNatClampNeg) :: st) (pc + 1)) : V G X nL σ lv (.int i :: .ref (G.1 k) :: st) pc := by
  intro H locs ls hP hS hl
  exact va_iald C.1 C.2.1 C.2.2.2.2.2.1 hP k 0 (by rw [WS_at hk, hce]) rfl (inB_in (gd_some h).1) hd (kk (gd_some h).2 H locs ls hP hS hl)
theorem v_cald (pc : Nat) (C : Cx G X own cc nL n) (k : Nat) {m : Nat} {i : Int32} {β : Type} {F : Option β} {r : β} (hk : k < NC) (hce : ∀ f d, ceF G k f d = .inl (G.2.1 1, (m, .inl f))) (hd : decode cc pc = .ok (.caload, 1)) (h : gd (inB i m) F = some r) (kk : F = some r → V G X nL σ lv (.int (σ.1 k i.toNatClampNeg) :: st) (pc + 1)) : V G X nL σ lv (.int i :: .ref (G.1 k) :: st) pc := by
  intro H locs ls hP hS hl
  exact va_cald C.1 C.2.1 C.2.2.2.2.2.1 hP k 1 (by rw [WS_at hk, hce]) rfl (inB_in (gd_some h).1) hd (kk (gd_some h).2 H locs ls hP hS hl)
theorem v_zald (pc : Nat) (C : Cx G X own cc nL n) (k : Nat) {m : Nat} {i : Int32} {β : Type} {F : Option β} {r : β} (hk : k < NC) (hce : ∀ f d, ceF G k f d = .inl (G.2.1 2, (m, .inl f))) (hd : decode cc pc = .ok (.baload, 1)) (h : gd (inB i m) F = some r) (kk : F = some r → V G X nL σ lv (.int (σ.1 k i.toNatClampNeg) :: st) (pc + 1)) : V G X nL σ lv (.int i :: .ref (G.1 k) :: st) pc := by
  intro H locs ls hP hS hl
  exact va_zald C.1 C.2.1 C.2.2.2.2.2.1 hP k 2 (by rw [WS_at hk, hce]) rfl (inB_in (gd_some h).1) hd (kk (gd_some h).2 H locs ls hP hS hl)
theorem v_iast (pc : Nat) (C : Cx G X own cc nL n) (k : Nat) {m : Nat} {i x : Int32} {β : Type} {F : Option β} {r : β} (hk : k < NC) (hce : ∀ f d, ceF G k f d = .inl (G.2.1 0, (m, .inl f))) (hd : decode cc pc = .ok (.iastore, 1)) (h : gd (inB i m) F = some r) (kk : F = some r → V G X nL (su σ k i.toNatClampNeg x) lv st (pc + 1)) : V G X nL σ lv (.int x :: .int i :: .ref (G.1 k) :: st) pc := by
  intro H locs ls hP hS hl
  refine va_iast C.1 C.2.1 C.2.2.2.2.2.1 hP (WS_D C.2.2.2.2.2.2.1 C.2.2.2.2.2.2.2.1) hS k 0 (by rw [WS_at hk, hce]) rfl (inB_in (gd_some h).1) hd (fun H1 locs1 hP1 hD1 hS1 => ?_)
  rw [WS_sc _ (hce _ _)] at hP1
  exact kk (gd_some h).2 H1 locs1 ls hP1 hS1 hl
theorem v_cast (pc : Nat) (C : Cx G X own cc nL n) (k : Nat) {m : Nat} {i x : Int32} {β : Type} {F : Option β} {r : β} (hk : k < NC) (hce : ∀ f d, ceF G k f d = .inl (G.2.1 1, (m, .inl f))) (hd : decode cc pc = .ok (.castore, 1)) (h : gd (inB i m) F = some r) (kk : F = some r → V G X nL (su σ k i.toNatClampNeg (vp_nar .char x)) lv st (pc + 1)) : V G X nL σ lv (.int x :: .int i :: .ref (G.1 k) :: st) pc := by
  intro H locs ls hP hS hl
  refine va_cast C.1 C.2.1 C.2.2.2.2.2.1 hP (WS_D C.2.2.2.2.2.2.1 C.2.2.2.2.2.2.2.1) hS k 1 (by rw [WS_at hk, hce]) rfl (inB_in (gd_some h).1) hd (fun H1 locs1 hP1 hD1 hS1 => ?_)
  rw [WS_sc _ (hce _ _)] at hP1
  exact kk (gd_some h).2 H1 locs1 ls hP1 hS1 hl
theorem v_zast (pc : Nat) (C : Cx G X own cc nL n) (k : Nat) {m : Nat} {i x : Int32} {β : Type} {F : Option β} {r : β} (hk : k < NC) (hce : ∀ f d, ceF G k f d = .inl (G.2.1 2, (m, .inl f))) (hd : decode cc pc = .ok (.bastore, 1)) (h : gd (inB i m) F = some r) (kk : F = some r → V G X nL (su σ k i.toNatClampNeg (vp_nar .boolean x)) lv st (pc + 1)) : V G X nL σ lv (.int x :: .int i :: .ref (G.1 k) :: st) pc := by
  intro H locs ls hP hS hl
  refine va_zast C.1 C.2.1 C.2.2.2.2.2.1 hP (WS_D C.2.2.2.2.2.2.1 C.2.2.2.2.2.2.2.1) hS k 2 (by rw [WS_at hk, hce]) rfl (inB_in (gd_some h).1) hd (fun H1 locs1 hP1 hD1 hS1 => ?_)
  rw [WS_sc _ (hce _ _)] at hP1
  exact kk (gd_some h).2 H1 locs1 ls hP1 hS1 hl
theorem v_alen (pc : Nat) (C : Cx G X own cc nL n) (k t : Nat) {m : Nat} (v : Int32) {ty : FieldType} {cA : ClassId} (hk : k < NC) (hce : ∀ f d, ceF G k f d = .inl (cA, (m, .inl f))) (ht : (tyL G)[t]? = some (cA, ty)) (hv : Int32.ofNat m = v) (hd : decode cc pc = .ok (.arraylength, 1)) (kk : V G X nL σ lv (.int v :: st) (pc + 1)) : V G X nL σ lv (.ref (G.1 k) :: st) pc := by
  intro H locs ls hP hS hl
  exact va_alen C.1 C.2.1 C.2.2.2.2.2.1 hP k t (by rw [WS_at hk, hce]) ht hv hd (kk H locs ls hP hS hl)
theorem v_copy (pc : Nat) (C : Cx G X own cc nL n) {ix : Nat} (k0 k1 : Nat) {m0 m1 : Nat} {sp dp w : Int32} {β : Type} {F : Option β} {r : β} (hk0 : k0 < NC) (hk1 : k1 < NC) (hce0 : ∀ f d, ceF G k0 f d = .inl (G.2.1 0, (m0, .inl f))) (hce1 : ∀ f d, ceF G k1 f d = .inl (G.2.1 0, (m1, .inl f)))
    (hw1 : Cond.methodLink own ix arraycopyName ∈ lw_gd) (hw2 : Cond.native arraycopyName ∈ lw_gd) (hw3 : Cond.static arraycopyName ∈ lw_gd) (hw4 : Cond.initialized "java/lang/System" ∈ lw_gd) (hst : (st.map fun v => v.category).sum + (nativeFrameWords "java/lang/System" "arraycopy" 5 + 11) ≤ 50) (hn : 1 ≤ n)
    (hd : decode cc pc = .ok (.invokestatic ix, 3)) (h : gd (decide (0 ≤ sp.toInt ∧ 0 ≤ dp.toInt ∧ 0 ≤ w.toInt ∧ sp.toInt + w.toInt ≤ m0 ∧ dp.toInt + w.toInt ≤ m1)) F = some r)
    (kk : F = some r → V G X nL (sc σ k1 (va_cpy (σ.1 k0) (σ.1 k1) sp.toNatClampNeg dp.toNatClampNeg w.toNatClampNeg)) lv st (pc + 3)) : V G X nL σ lv (.int w :: .int dp :: .ref (G.1 k1) :: .int sp :: .ref (G.1 k0) :: st) pc := by
  intro H locs ls hP hS hl
  obtain ⟨g1, g2, g3, g4, g5⟩ := of_decide_eq_true (gd_some h).1
  have nn : ∀ z : Int32, 0 ≤ z.toInt → ¬ z < 0 := fun z hz q => by
    have := Int32.lt_iff_toInt_lt.mp q
    have z0 : (0 : Int32).toInt = 0 := by decide
    omega
  have cn : ∀ z : Int32, 0 ≤ z.toInt → ((z.toNatClampNeg : Nat) : Int) = z.toInt := fun z hz => by
    show ((z.toInt.toNat : Nat) : Int) = z.toInt
    omega
  have e1 := cn sp g1
  have e2 := cn dp g2
  have e3 := cn w g3
  have hR := C.2.2.2.2.2.2.2.2.2
  refine va_copyi (ty := .int) C.1 C.2.1 (C.2.2.1.trans hl.1.symm) C.2.2.2.1 (C.2.2.2.2.1 _ hw1) (C.2.2.2.2.1 _ hw2) (C.2.2.2.2.1 _ hw3) (C.2.2.2.2.1 _ hw4) C.2.2.2.2.2.1 hP (WS_D C.2.2.2.2.2.2.1 C.2.2.2.2.2.2.2.1) hS k0 k1 0 0 (by rw [WS_at hk0, hce0]) (by rw [WS_at hk1, hce1]) rfl rfl rfl (nn _ g1) (nn _ g2) (nn _ g3) (by omega) (by omega) (fun _ _ => rfl) (Nat.le_trans hn hR.1) (Nat.le_trans hst (Nat.le_trans (by omega) hR.2.1)) hd (fun H1 locs1 hP1 hD1 hS1 => ?_)
  rw [WS_sc _ (hce1 _ _)] at hP1
  exact kk (gd_some h).2 H1 locs1 ls hP1 hS1 hl
theorem v_min (pc : Nat) (C : Cx G X own cc nL n) {ix : Nat} {x y : Int32} (hw1 : Cond.methodLink own ix Lib.Math.min.name ∈ lw_gd) (hw2 : Cond.static Lib.Math.min.name ∈ lw_gd) (hw3 : Cond.initialized "java/lang/Math" ∈ lw_gd) (hw4 : Cond.code Lib.Math.min.name Lib.Math.min.code 2 (some .int) ∈ lw_gd) (hst : (st.map fun v => v.category).sum + 13 ≤ 50) (hn : 1 ≤ n) (hd : decode cc pc = .ok (.invokestatic ix, 3)) (k : V G X nL σ lv (.int (iMin x y) :: st) (pc + 3)) : V G X nL σ lv (.int y :: .int x :: st) pc := by
  intro H locs ls hP hS hl
  have hR := C.2.2.2.2.2.2.2.2.2
  exact va_mmin C.1 C.2.1 (C.2.2.1.trans hl.1.symm) C.2.2.2.1 (C.2.2.2.2.1 _ hw1) (C.2.2.2.2.1 _ hw2) (C.2.2.2.2.1 _ hw3) (C.2.2.2.2.1 _ hw4) (Nat.le_trans hn hR.1) (Nat.le_trans hst (Nat.le_trans (by omega) hR.2.1)) hR.2.2.1 hR.2.2.2 hd (k H locs ls hP hS hl)
theorem v_max (pc : Nat) (C : Cx G X own cc nL n) {ix : Nat} {x y : Int32} (hw1 : Cond.methodLink own ix Lib.Math.max.name ∈ lw_gd) (hw2 : Cond.static Lib.Math.max.name ∈ lw_gd) (hw3 : Cond.initialized "java/lang/Math" ∈ lw_gd) (hw4 : Cond.code Lib.Math.max.name Lib.Math.max.code 2 (some .int) ∈ lw_gd) (hst : (st.map fun v => v.category).sum + 13 ≤ 50) (hn : 1 ≤ n) (hd : decode cc pc = .ok (.invokestatic ix, 3)) (k : V G X nL σ lv (.int (iMax x y) :: st) (pc + 3)) : V G X nL σ lv (.int y :: .int x :: st) pc := by
  intro H locs ls hP hS hl
  have hR := C.2.2.2.2.2.2.2.2.2
  exact va_mmax C.1 C.2.1 (C.2.2.1.trans hl.1.symm) C.2.2.2.1 (C.2.2.2.2.1 _ hw1) (C.2.2.2.2.1 _ hw2) (C.2.2.2.2.1 _ hw3) (C.2.2.2.2.1 _ hw4) (Nat.le_trans hn hR.1) (Nat.le_trans hst (Nat.le_trans (by omega) hR.2.1)) hR.2.2.1 hR.2.2.2 hd (k H locs ls hP hS hl)
/-- static rows of the class -/
theorem v_gets (pc : Nat) (C : Cx G X own cc nL n) {ix : Nat} (i j : Nat) (hj : j < 5) (hi : nTb j = i) (h4 : i < 4) (ho : nOw j = own) (hx : nIx j = ix) (hd : decode cc pc = .ok (.getstatic ix, 3)) (k : V G X nL σ lv (.ref (G.2.2.2.1 i) :: st) (pc + 3)) : V G X nL σ lv st pc := by
  intro H locs ls hP hS hl
  subst hi; subst ho; subst hx
  exact va_getsN C.1 C.2.1 ((C.2.2.2.2.2.2.2.2.1.1 _ h4).1) hS C.2.2.2.1 (va_Nw.use rfl (C.2.2.2.2.2.2.2.2.1.2.2.2.2.2 j hj)) (fun _ h => h) hd (k H locs ls hP hS hl)
theorem v_sald (pc : Nat) (C : Cx G X own cc nL n) (q : Nat) {i : Int32} {β : Type} {F : Option β} {r : β} (hq : q < 4) (hd : decode cc pc = .ok (.iaload, 1)) (h : gd (inB i (sLn q)) F = some r) (k : F = some r → V G X nL σ lv (.int ((sTb q).getD i.toNatClampNeg 0) :: st) (pc + 1)) : V G X nL σ lv (.int i :: .ref (G.2.2.2.1 q) :: st) pc := by
  intro H locs ls hP hS hl
  exact va_ti C.1 C.2.1 ((C.2.2.2.2.2.2.2.2.1.1 q hq).2) hS (inB_in (gd_some h).1) rfl hd (k (gd_some h).2 H locs ls hP hS hl)
end VROWS
