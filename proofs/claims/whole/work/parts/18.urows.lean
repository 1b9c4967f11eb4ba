/-! constructors: worlds that grow, as lists of cells -/
def mOw (j : Nat) : String := if j = 2 then "ShadowAlms$Reader" else "ShadowAlms"
def mIx (j : Nat) : Nat := if j = 0 then 9 else if j = 1 then 18 else 21
abbrev mLk (j : Nat) : Cond := .methodLinkNest (mOw j) (mIx j) (if j = 1 then yX3_init else yX2_init) "ShadowAlms"
def NW (U : State) : Prop := (∀ j, j < 3 → va_Nw (mLk j) U) ∧ va_AO "ShadowAlms$State" U
def U (G : Wld) (X : Cxt) (nL kc ks : Nat) (ws : va_W) (lv : List (Nat × Value)) (st : List Value) (pc : Nat) : Prop :=
  ∀ (H : Heap) (locs : List Loc) (ls : Array Slot), va_P G.2.2.1 vwCl ws H → va_D (xA X) ws → va_S (xA X) (xs X).heap H locs → lv_has ls nL lv →
    W (xp X) (xl X) (xe X) (xR X) (xs X) (xm X) (xa X) (xb X) (xh X) (xc X) H locs kc ks (xQ X) (F0 (xm X) pc ls st)
def Cy (G : Wld) (X : Cxt) (own : String) (cc : ByteArray) (nL n kc ks : Nat) : Prop :=
  (xp X).tables.exec = Jvm.exec ∧ (xc X).code = cc ∧ (xc X).maxLocals = nL ∧ (xs X).vm.findClass own = some (xm X).cls ∧ (∀ w ∈ lw_gd, w.before (xa X) (xs X) = true) ∧ va_K G.2.2.1 vwCl (tyL G) (xs X) ∧
  (∀ q : Nat, (xs X).heap.size ≤ q → xA X q) ∧ NW (xs X) ∧ n ≤ (xR X).frames ∧ 50 * n ≤ (xR X).locals ∧ kc ≤ (xR X).cells ∧ ks ≤ (xR X).slots
def Wc (G : Wld) (ws : va_W) (sz : Nat) (T : State) : Prop := T.heap.size = sz ∧ va_P G.2.2.1 vwCl ws T.heap ∧ va_K G.2.2.1 vwCl (tyL G) T ∧ va_D (fun _ => True) ws ∧ NW T
def Qc (G : Wld) (ws : va_W) (sz : Nat) (Post : va_W → Prop) : Array Value → State → Outcome → State → Prop := fun _ st oc t => (oc = .returned none ∧ ∃ ws2, Post ws2 ∧ va_P G.2.2.1 vwCl ws2 t.heap ∧ va_D (va_A ws sz) ws2) ∧ va_F (va_A ws sz) st t
def rmC (n kc ks : Nat) : Room := { frames := n, cells := kc, slots := ks, locals := 50 * n }
def Cu (l : Launch) (G : Wld) (y : MethodName) (cc : ByteArray) (nL n kc ks : Nat) (av : List Value) (ws : va_W) (Post : va_W → Prop) : Prop :=
  ∀ sz : Nat, Met l y (Cond.code y cc nL none :: lw_gd) (rmC n kc ks) (va_Pc av (Wc G ws sz)) (Qc G ws sz Post) kc ks (va_A ws sz)
def Ry (G : Wld) (X : Cxt) (nm : String) (kc ks : Nat) (ws : va_W) (Post : va_W → Prop) : Prop :=
  (xh X).sig.returnType = none ∧ (xh X).locks = false ∧ (xh X).name = nm ∧ xA X = va_A ws (xs X).heap.size ∧ xQ X = MQ (xb X) (Qc G ws (xs X).heap.size Post) (xa X) (xs X) kc ks (va_A ws (xs X).heap.size)
theorem cu_intro {l : Launch} {G : Wld} {y : MethodName} {cc : ByteArray} {nL n kc ks : Nat} {av : List Value} {ws : va_W} {Post : va_W → Prop} (own : String) (hy : plainName y.cls = true) (hown : y.cls = own) (hlen : (lg_sl av).length ≤ nL)
    (body : ∀ X : Cxt, xl X = l → Cy G X own cc nL n kc ks → Ry G X y.name kc ks ws Post → U G X nL 0 0 ws (lv_args 0 av) [] 0) : Cu l G y cc nL n kc ks av ws Post := by
  intro sz
  refine Met.ofW (cc := cc) (maxL := nL) (ret := none) hy rfl ?_
  intro p e s m args below meth c s₁ B hml hv
  obtain ⟨rfl, hsz, hP, hK, hD0, hN⟩ := hv
  subst hsz
  have hts := atoms_spec (ws := Cond.code y cc nL none :: lw_gd) B.pre
  subst hown
  have hf : s.vm.findClass y.cls = some m.cls := findClass_of_methodNamed B.named
  have hV := body (p, l, e, rmC n kc ks, s, m, av.toArray, below, meth, c, 0, 0, MQ below (Qc G ws s.heap.size Post) av.toArray s kc ks (va_A ws s.heap.size), va_A ws s.heap.size) rfl
    ⟨B.exec, B.bytes, hml, hf, fun w hw => hts w (List.mem_cons_of_mem _ hw), hK, fun q h => Or.inr h, hN, Nat.le_refl _, Nat.le_refl _, Nat.le_refl _, Nat.le_refl _⟩
    ⟨B.returns, B.notSynchronized, (name_of_methodNamed B.named B.method).1, rfl, rfl⟩
  have hl := lv_entry av hlen
  rw [lg_entry_eq]
  exact hV s.heap [] _ hP (hD0.self (sz := s.heap.size)) va_S.rf hl
section UROWS
variable {G : Wld} {X : Cxt} {own : String} {cc : ByteArray} {nL n mc ms kc ks : Nat} {ws : va_W} {lv : List (Nat × Value)} {st : List Value}
theorem u_iconst (pc : Nat) (C : Cy G X own cc nL n mc ms) {c : Int} (v : Int32) (hd : decode cc pc = .ok (.iconst c, 1)) (hv : Int32.ofInt c = v) (k : U G X nL kc ks ws lv (.int v :: st) (pc + 1)) : U G X nL kc ks ws lv (st) (pc) := by
  intro H locs ls hP hD hS hl
  exact lv_iconst C.1 C.2.1 hd hv (k H locs ls hP hD hS hl)
theorem u_bipush (pc : Nat) (C : Cy G X own cc nL n mc ms) {c : Int} (v : Int32) (hd : decode cc pc = .ok (.bipush c, 2)) (hv : (Int8.ofInt c).toInt32 = v) (k : U G X nL kc ks ws lv (.int v :: st) (pc + 2)) : U G X nL kc ks ws lv (st) (pc) := by
  intro H locs ls hP hD hS hl
  exact lv_bipush C.1 C.2.1 hd hv (k H locs ls hP hD hS hl)
theorem u_sipush (pc : Nat) (C : Cy G X own cc nL n mc ms) {c : Int} (v : Int32) (hd : decode cc pc = .ok (.sipush c, 3)) (hv : (Int16.ofInt c).toInt32 = v) (k : U G X nL kc ks ws lv (.int v :: st) (pc + 3)) : U G X nL kc ks ws lv (st) (pc) := by
  intro H locs ls hP hD hS hl
  exact lv_sipush C.1 C.2.1 hd hv (k H locs ls hP hD hS hl)
theorem u_dup (pc : Nat) (C : Cy G X own cc nL n mc ms) {v : Value} (hd : decode cc pc = .ok (.dup, 1)) (hv : v.category = 1) (k : U G X nL kc ks ws lv (v :: v :: st) (pc + 1)) : U G X nL kc ks ws lv (v :: st) (pc) := by
  intro H locs ls hP hD hS hl
  exact lv_dup C.1 C.2.1 hd hv (k H locs ls hP hD hS hl)
theorem u_imul (pc : Nat) (C : Cy G X own cc nL n mc ms) {x y : Int32} (hd : decode cc pc = .ok (.imul, 1))  (k : U G X nL kc ks ws lv (.int (x * y) :: st) (pc + 1)) : U G X nL kc ks ws lv (.int y :: .int x :: st) (pc) := by
  intro H locs ls hP hD hS hl
  exact lv_imul C.1 C.2.1 hd  (k H locs ls hP hD hS hl)
theorem u_iload_n (pc : Nat) (C : Cy G X own cc nL n mc ms) {j : Fin 4} (i q : Nat) {x : Int32} (hd : decode cc pc = .ok (.iload_n j, 1)) (hi : (j : Nat) = i) (hq : lv[q]? = some (i, .int x)) (k : U G X nL kc ks ws lv (.int x :: st) (pc + 1)) : U G X nL kc ks ws lv (st) (pc) := by
  intro H locs ls hP hD hS hl
  exact lv_iload_n C.1 C.2.1 hd hi (lv_at hl q hq) (k H locs ls hP hD hS hl)
theorem u_aload_n (pc : Nat) (C : Cy G X own cc nL n mc ms) {j : Fin 4} (i q : Nat) {x : Nat} (hd : decode cc pc = .ok (.aload_n j, 1)) (hi : (j : Nat) = i) (hq : lv[q]? = some (i, .ref x)) (k : U G X nL kc ks ws lv (.ref x :: st) (pc + 1)) : U G X nL kc ks ws lv (st) (pc) := by
  intro H locs ls hP hD hS hl
  exact lv_aload_n C.1 C.2.1 hd hi (lv_at hl q hq) (k H locs ls hP hD hS hl)
theorem u_istore_n (pc : Nat) (C : Cy G X own cc nL n mc ms) {j : Fin 4} (i : Nat) {x : Int32} {lv2 : List (Nat × Value)} (hd : decode cc pc = .ok (.istore_n j, 1)) (hi : (j : Nat) = i) (hn : i < nL) (hl2 : (i, Value.int x) :: lv.filter (fun q => !(q.1 == i) && !(q.1 + 1 == i && q.2.category == 2)) = lv2) (k : U G X nL kc ks ws lv2 (st) (pc + 1)) : U G X nL kc ks ws lv (.int x :: st) (pc) := by
  intro H locs ls hP hD hS hl
  exact lv_istore_n C.1 C.2.1 hd hi hl hn hl2 (fun ls2 h2 => k H locs ls2 hP hD hS h2)
theorem u_astore_n (pc : Nat) (C : Cy G X own cc nL n mc ms) {j : Fin 4} (i : Nat) {x : Nat} {lv2 : List (Nat × Value)} (hd : decode cc pc = .ok (.astore_n j, 1)) (hi : (j : Nat) = i) (hn : i < nL) (hl2 : (i, Value.ref x) :: lv.filter (fun q => !(q.1 == i) && !(q.1 + 1 == i && q.2.category == 2)) = lv2) (k : U G X nL kc ks ws lv2 (st) (pc + 1)) : U G X nL kc ks ws lv (.ref x :: st) (pc) := by
  intro H locs ls hP hD hS hl
  exact lv_astore_n C.1 C.2.1 hd hi hl hn hl2 (fun ls2 h2 => k H locs ls2 hP hD hS h2)
theorem u_iinc (pc : Nat) (C : Cy G X own cc nL n mc ms) (i q : Nat) {c : Int} {x : Int32} (v : Int32) {lv2 : List (Nat × Value)} (hd : decode cc pc = .ok (.iinc i c, 3)) (hq : lv[q]? = some (i, .int x)) (hv : Int32.ofInt c = v) (hn : i < nL) (hl2 : (i, Value.int (x + v)) :: lv.filter (fun q => !(q.1 == i) && !(q.1 + 1 == i && q.2.category == 2)) = lv2) (k : U G X nL kc ks ws lv2 (st) (pc + 3)) : U G X nL kc ks ws lv (st) (pc) := by
  intro H locs ls hP hD hS hl
  exact lv_iinc C.1 C.2.1 hd hl hq (by rw [hv]) hn hl2 (fun ls2 h2 => k H locs ls2 hP hD hS h2)
theorem u_goto (pc : Nat) (C : Cy G X own cc nL n mc ms) {off : Int} (tgt : Nat) (hd : decode cc pc = .ok (.goto off, 3)) (ht : (pc : Int) + off = (tgt : Int)) (k : U G X nL kc ks ws lv (st) (tgt)) : U G X nL kc ks ws lv (st) (pc) := by
  intro H locs ls hP hD hS hl
  exact lv_goto C.1 C.2.1 hd ht (k H locs ls hP hD hS hl)
theorem u_icmp_ge (pc : Nat) (C : Cy G X own cc nL n mc ms) {x y : Int32} {off : Int} (tgt : Nat) (hd : decode cc pc = .ok (.if_icmp .ge off, 3)) (ht : (pc : Int) + off = (tgt : Int)) (kt : y ≤ x → U G X nL kc ks ws lv (st) (tgt)) (kf : ¬ y ≤ x → U G X nL kc ks ws lv (st) (pc + 3)) : U G X nL kc ks ws lv (.int y :: .int x :: st) (pc) := by
  intro H locs ls hP hD hS hl
  exact lv_icmp_ge C.1 C.2.1 hd ht (fun c => kt c H locs ls hP hD hS hl) (fun c => kf c H locs ls hP hD hS hl)
theorem u_eq {ws2 : va_W} {pc : Nat} (h : ws = ws2) (k : U G X nL kc ks ws2 lv (st) (pc)) : U G X nL kc ks ws lv (st) (pc) := h ▸ k
theorem u_sub {lv2 : List (Nat × Value)} {pc : Nat} (js : List Nat) (h : lv_pick lv js = lv2) (k : U G X nL kc ks ws lv2 (st) (pc)) : U G X nL kc ks ws lv (st) (pc) := by
  intro H locs ls hP hD hS hl
  exact k H locs ls hP hD hS (lv_sub hl js h)
theorem u_wide {k2 n2 pc : Nat} (h1 : kc ≤ k2) (h2 : ks ≤ n2) (k : U G X nL k2 n2 ws lv (st) (pc)) : U G X nL kc ks ws lv (st) (pc) := by
  intro H locs ls hP hD hS hl
  exact W.widen h1 h2 (k H locs ls hP hD hS hl)
theorem u_new (pc : Nat) (C : Cy G X own cc nL n mc ms) {ix ci N : Nat} {CN : String} {T : u_T} (ty : Nat → FieldType) (fs : List Value) (hty : ∀ k, k < N → parseFieldDescriptor (T k).2.2.1 = some (ty k)) (hc : vwCl[ci]? = some (CN, T, N)) (hin : ∀ w ∈ u_ws CN T N, w ∈ lw_gd) (h1 : Cond.classLink own ix CN ∈ lw_gd) (h2 : Cond.instantiable CN N ∈ lw_gd) (h3 : Cond.initialized CN ∈ lw_gd) (hfs : ∀ j, j < N → defaultValue (ty j) = vp_V fs j) (hcells : kc + 1 ≤ mc) (hslots : ks + N ≤ ms) (hd : decode cc pc = .ok (.new ix, 3)) (k : ∀ q : Nat, U G X nL (kc + 1) (ks + N) (ws ++ [(q, .inr (ci, fs))]) lv (.ref q :: st) (pc + 3)) : U G X nL kc ks ws lv (st) (pc) := by
  intro H locs ls hP hD hS hl
  have hR := C.2.2.2.2.2.2.2.2.2.2
  exact va_new C.1 C.2.1 C.2.2.2.2.1 hin ty hty C.2.2.2.1 (C.2.2.2.2.1 _ h1) (C.2.2.2.2.1 _ h2) (C.2.2.2.2.1 _ h3) C.2.2.2.2.2.1 hP hD hS C.2.2.2.2.2.2.1 hc hfs (Nat.le_trans hcells hR.1) (Nat.le_trans hslots hR.2) hd (fun q H1 hP1 hD1 hS1 => k q H1 locs ls hP1 hD1 hS1 hl)
theorem u_newa (pc : Nat) (C : Cy G X own cc nL n mc ms) {aty : ArrayType} (t : Nat) {ty : FieldType} {v : Int32} (N : Nat) (h1 : Cond.arrayClass ty ∈ lw_gd) (hty : newarray.typeOf aty = ty) (ht : (tyL G)[t]? = some (G.2.1 t, ty)) (hra : ∀ cA, va_RA (xs X) cA ty = ((xs X).vm.findClass ("[" ++ ty.toString) = some cA)) (ha : ∀ cA : ClassId, vp_cell cA (N, .inl (fun _ => 0)) = arrV cA N (fun _ => defaultValue ty)) (hn : ¬ v < 0) (hN : v.toNatClampNeg = N) (hb : N * componentBytes ty ≤ 536870912) (hcells : kc + 1 ≤ mc) (hslots : ks + N ≤ ms) (hd : decode cc pc = .ok (.newarray aty, 2)) (k : ∀ q : Nat, U G X nL (kc + 1) (ks + N) (ws ++ [(q, .inl (G.2.1 t, (N, .inl (fun _ => 0))))]) lv (.ref q :: st) (pc + 2)) : U G X nL kc ks ws lv (.int v :: st) (pc) := by
  intro H locs ls hP hD hS hl
  have hR := C.2.2.2.2.2.2.2.2.2.2
  refine va_newa C.1 C.2.1 (by rw [hty]; exact C.2.2.2.2.1 _ h1) hty C.2.2.2.2.2.1 hP hD hS C.2.2.2.2.2.2.1 ha hn hN hb (Nat.le_trans hcells hR.1) (Nat.le_trans hslots hR.2) hd (fun q cA H1 hK1 hP1 hD1 hS1 => ?_)
  have e1 := (hK1.2 4 (cA, ty) rfl).2
  have e2 := (C.2.2.2.2.2.1.2 t _ ht).2
  rw [hra] at e1 e2
  cases Option.some.inj (e1.symm.trans e2)
  exact k q H1 locs ls hP1 hD1 hS1 hl
theorem u_newq (pc : Nat) (C : Cy G X own cc nL n mc ms) {ix : Nat} {v : Int32} (N : Nat) (h1 : Cond.classLink own ix "ShadowAlms$State" ∈ lw_gd) (hn : ¬ v < 0) (hN : v.toNatClampNeg = N) (hb : N * 4 ≤ 536870912) (hcells : kc + 1 ≤ mc) (hslots : ks + N ≤ ms) (hd : decode cc pc = .ok (.anewarray ix, 3)) (k : ∀ q : Nat, U G X nL (kc + 1) (ks + N) (ws ++ [(q, .inl (G.2.1 3, (N, .inr (.inr (.inr (.inr (fun _ => none)))))))]) lv (.ref q :: st) (pc + 3)) : U G X nL kc ks ws lv (.int v :: st) (pc) := by
  intro H locs ls hP hD hS hl
  have hR := C.2.2.2.2.2.2.2.2.2.2
  refine va_newq C.1 C.2.1 C.2.2.2.1 (C.2.2.2.2.1 _ h1) C.2.2.2.2.2.2.2.1.2 C.2.2.2.2.2.1 hP hD hS C.2.2.2.2.2.2.1 hn hN hb (Nat.le_trans hcells hR.1) (Nat.le_trans hslots hR.2) hd (fun q cA H1 hK1 hP1 hD1 hS1 => ?_)
  obtain ⟨_, _, _, _, _, e1⟩ := (hK1.2 4 (cA, .object "ShadowAlms$State") rfl).2
  obtain ⟨_, _, _, _, _, e2⟩ := (C.2.2.2.2.2.1.2 3 _ rfl).2
  cases Option.some.inj (e1.symm.trans e2)
  exact k q H1 locs ls hP1 hD1 hS1 hl
theorem u_astq (pc : Nat) (C : Cy G X own cc nL n mc ms) {a m v : Nat} {i : Int32} {vs : List Value} {f : Nat → Option Nat} (q0 qk : Nat) (ha : ws[q0]? = some (a, .inl (G.2.1 3, (m, .inr (.inr (.inr (.inr f))))))) (hv : ws[qk]? = some (v, .inr (6, vs))) (hi : vp_in i m) (hd : decode cc pc = .ok (.aastore, 1)) (k : U G X nL kc ks (ws.set q0 (a, .inl (G.2.1 3, (m, .inr (.inr (.inr (.inr (va_up f i.toNatClampNeg (some v))))))))) lv (st) (pc + 1)) : U G X nL kc ks ws lv (.ref v :: .int i :: .ref a :: st) (pc) := by
  intro H locs ls hP hD hS hl
  exact va_astq C.1 C.2.1 C.2.2.2.2.2.1 hP hD hS q0 3 qk 6 ha (r := (RX6, TX6, 7)) rfl hv rfl hi hd (fun H1 locs1 hP1 hD1 hS1 => k H1 locs1 ls hP1 hD1 hS1 hl)
theorem u_putF (pc : Nat) (C : Cy G X own cc nL n mc ms) {ix ci N a : Nat} {T : u_T} {ty0 : Nat → FieldType} {fs : List Value} {v : Value} (q0 slot : Nat) (hname : (xh X).name = "<init>") (he : ws[q0]? = some (a, .inr (ci, fs))) (hc : vwCl[ci]? = some (own, T, N)) (hin : ∀ w ∈ u_ws own T N, w ∈ lw_gd) (hty : ∀ k, k < N → parseFieldDescriptor (T k).2.2.1 = some (ty0 k)) (hnm : ∀ a, a < N → ∀ b, b < N → a ≠ b → (T a).2.1 ≠ (T b).2.1) (hs : slot < N) (hw : Cond.fieldLink own ix (T slot).1 (T slot).2.1 (T slot).2.2.1 ∈ lw_gd) (hfin : (T slot).2.2.2 = true) (hdec : (T slot).1 = own) (hnar : narrow (ty0 slot) v = v) (hfit : fits (ty0 slot) v = true) (hlen : slot < fs.length) (hd : decode cc pc = .ok (.putfield ix, 3)) (k : U G X nL kc ks (ws.set q0 (a, .inr (ci, fs.set slot v))) lv (st) (pc + 3)) : U G X nL kc ks ws lv (v :: .ref a :: st) (pc) := by
  intro H locs ls hP hD hS hl
  exact va_putF C.1 C.2.1 C.2.2.2.2.1 hin ty0 hty hnm C.2.2.2.1 C.2.2.2.2.2.1 hP hD hS q0 he hc slot hs (C.2.2.2.2.1 _ hw) (fun _ h => h) hfin hname hdec (hty slot hs) hnar hfit hlen hd (fun H1 locs1 hP1 hD1 hS1 => k H1 locs1 ls hP1 hD1 hS1 hl)
theorem u_put (pc : Nat) (C : Cy G X own cc nL n mc ms) {ix ci N a : Nat} {T : u_T} {ty0 : Nat → FieldType} {fs : List Value} {v : Value} (q0 slot : Nat) (he : ws[q0]? = some (a, .inr (ci, fs))) (hc : vwCl[ci]? = some (own, T, N)) (hin : ∀ w ∈ u_ws own T N, w ∈ lw_gd) (hty : ∀ k, k < N → parseFieldDescriptor (T k).2.2.1 = some (ty0 k)) (hnm : ∀ a, a < N → ∀ b, b < N → a ≠ b → (T a).2.1 ≠ (T b).2.1) (hs : slot < N) (hw : Cond.fieldLink own ix (T slot).1 (T slot).2.1 (T slot).2.2.1 ∈ lw_gd) (hfin : (T slot).2.2.2 = false) (hnar : narrow (ty0 slot) v = v) (hfit : fits (ty0 slot) v = true) (hlen : slot < fs.length) (hd : decode cc pc = .ok (.putfield ix, 3)) (k : U G X nL kc ks (ws.set q0 (a, .inr (ci, fs.set slot v))) lv (st) (pc + 3)) : U G X nL kc ks ws lv (v :: .ref a :: st) (pc) := by
  intro H locs ls hP hD hS hl
  exact va_put C.1 C.2.1 C.2.2.2.2.1 hin ty0 hty hnm C.2.2.2.1 C.2.2.2.2.2.1 hP hD hS q0 he hc slot hs (C.2.2.2.2.1 _ hw) (fun _ h => h) hfin (hty slot hs) hnar hfit hlen hd (fun H1 locs1 hP1 hD1 hS1 => k H1 locs1 ls hP1 hD1 hS1 hl)
theorem u_get (pc : Nat) (C : Cy G X own cc nL n mc ms) {ix ci N a : Nat} {T : u_T} {fs : List Value} {v : Value} (q0 slot : Nat) (he : ws[q0]? = some (a, .inr (ci, fs))) (hc : vwCl[ci]? = some (own, T, N)) (hin : ∀ w ∈ u_ws own T N, w ∈ lw_gd) (hs : slot < N) (hw : Cond.fieldLink own ix (T slot).1 (T slot).2.1 (T slot).2.2.1 ∈ lw_gd) (hv : fs[slot]? = some v) (hd : decode cc pc = .ok (.getfield ix, 3)) (k : U G X nL kc ks ws lv (v :: st) (pc + 3)) : U G X nL kc ks ws lv (.ref a :: st) (pc) := by
  intro H locs ls hP hD hS hl
  exact va_get C.1 C.2.1 C.2.2.2.2.1 hin C.2.2.2.1 C.2.2.2.2.2.1 hP q0 he hc slot hs (C.2.2.2.2.1 _ hw) (fun _ h => h) hv hd (k H locs ls hP hD hS hl)
theorem u_alen (pc : Nat) (C : Cy G X own cc nL n mc ms) {a m : Nat} {f : Nat → Int32} (v : Int32) (q0 : Nat) (he : ws[q0]? = some (a, .inl (G.2.1 0, (m, .inl f)))) (hv : Int32.ofNat m = v) (hd : decode cc pc = .ok (.arraylength, 1)) (k : U G X nL kc ks ws lv (.int v :: st) (pc + 1)) : U G X nL kc ks ws lv (.ref a :: st) (pc) := by
  intro H locs ls hP hD hS hl
  exact va_alen C.1 C.2.1 C.2.2.2.2.2.1 hP q0 0 he rfl hv hd (k H locs ls hP hD hS hl)
theorem u_iast (pc : Nat) (C : Cy G X own cc nL n mc ms) {a m : Nat} {f : Nat → Int32} {i x : Int32} (q0 : Nat) (he : ws[q0]? = some (a, .inl (G.2.1 0, (m, .inl f)))) (hi : vp_in i m) (hd : decode cc pc = .ok (.iastore, 1)) (k : U G X nL kc ks (ws.set q0 (a, .inl (G.2.1 0, (m, .inl (upd f i.toNatClampNeg x))))) lv (st) (pc + 1)) : U G X nL kc ks ws lv (.int x :: .int i :: .ref a :: st) (pc) := by
  intro H locs ls hP hD hS hl
  exact va_iast C.1 C.2.1 C.2.2.2.2.2.1 hP hD hS q0 0 he rfl hi hd (fun H1 locs1 hP1 hD1 hS1 => k H1 locs1 ls hP1 hD1 hS1 hl)
theorem u_obj (pc : Nat) (C : Cy G X own cc nL n mc ms) {ix a : Nat} (h1 : Cond.methodLink own ix Lib.objectInit ∈ lw_gd) (h2 : Cond.instanceMethod Lib.objectInit ∈ lw_gd) (h3 : Cond.code Lib.objectInit ⟨#[0xb1]⟩ 1 none ∈ lw_gd) (hn : 1 ≤ n) (hd : decode cc pc = .ok (.invokespecial ix, 3)) (k : U G X nL kc ks ws lv ([]) (pc + 3)) : U G X nL kc ks ws lv ([.ref a]) (pc) := by
  intro H locs ls hP hD hS hl
  have hR := C.2.2.2.2.2.2.2.2
  exact W.objInit C.1 C.2.1 C.2.2.2.1 (C.2.2.2.2.1 _ h1) (C.2.2.2.2.1 _ h2) (C.2.2.2.2.1 _ h3) rfl (hl.1.trans C.2.2.1.symm) rfl hd (Nat.le_trans hn hR.1) (Nat.le_trans (show 2 * (F0 (xm X) pc ls [Value.ref a]).monitorRoom + (([] : List Value).map fun v => v.category).sum + 12 ≤ 50 from Nat.le_of_ble_eq_true rfl) (Nat.le_trans (by omega) hR.2.1)) (k H locs ls hP hD hS hl)
theorem blind_Wc {av : List Value} {sz : Nat} : FrameBlind (va_Pc av (Wc G ws sz)) := by
  intro a T g mk q
  obtain ⟨q0, q1, qP, qK, qD, qN⟩ := q
  exact ⟨q0, q1, qP, va_K.moved (u := T) (U := T.calling g mk a) (Vm.Alike.refl T.vm) qK, qD, fun j hj => va_Nw.same rfl rfl (qN.1 j hj), va_AO.moved (u := T) (U := T.calling g mk a) (Vm.Alike.refl T.vm) qN.2⟩
/-- behind a call: what the callee left, beside the rest -/
theorem u_back (C : Cy G X own cc nL n mc ms) {pc : Nat} {ls : Array Slot} {H : Heap} {locs : List Loc} {rest : List Value} {a : Array Value} {Post : va_W → Prop} {wc wr : va_W} {c2 s2 : Nat} (isC isR : List Nat) (hC : isC.map (fun i => ws[i]?) = wc.map some) (hR : isR.map (fun i => ws[i]?) = wr.map some) (hnd : va_nd isR = true) (hdis : ∀ i ∈ isR, i ∉ isC)
    (hP : va_P G.2.2.1 vwCl ws H) (hD : va_D (xA X) ws) (hS : va_S (xA X) (xs X).heap H locs) (hl : lv_has ls nL lv)
    (hr : va_Run (xp X) (xl X) (xe X) (xR X) (xs X) (xm X) (xa X) (xb X) (xh X) (xc X) H locs kc ks c2 s2 (F0 (xm X) pc ls st) rest (Qc G wc H.size Post a) (va_A wc H.size))
    (kk : ∀ ws2, Post ws2 → U G X nL (kc + c2) (ks + s2) (wr ++ ws2) lv rest (pc + 3)) : W (xp X) (xl X) (xe X) (xR X) (xs X) (xm X) (xa X) (xb X) (xh X) (xc X) H locs kc ks (xQ X) (F0 (xm X) pc ls st) := by
  have hF := va_free (wc := wc) hD hS C.2.2.2.2.2.2.1 isC hC
  intro T hT XS
  obtain ⟨v, st₀, t, T', L, h0, X', hL, e1, e2, ⟨⟨hv, ws2, hpost, hp, hd2⟩, hz, hk⟩, stp⟩ := hr T hT XS
  cases hv
  rw [h0] at hz hk
  obtain ⟨hP2, hD2⟩ := va_join (H1 := T'.heap) hP hD isC isR hC hR hnd hdis (fun q h1 h2 => by rw [e1]; exact hk q h1 h2) hF (by rw [e1]; exact hp) hd2
  obtain ⟨t2, a1, b1⟩ := kk ws2 hpost T'.heap (locs ++ L) ls hP2 hD2
    ⟨Nat.le_trans hS.1 (by rw [e1]; exact hz), fun q h1 h2 => by rw [e1, hk q (Nat.lt_of_lt_of_le h1 hS.1) (fun z => h2 (hF q z))]; exact hS.2.1 q h1 h2, fun q hq => by
      rcases List.mem_append.mp hq with h | h
      · exact hS.2.2 q h
      · exact hF _ (hL q h)⟩ hl T' rfl X'
  exact ⟨t2, stp t2 a1, b1⟩
theorem pre_Wc (C : Cy G X own cc nL n mc ms) {H : Heap} {locs : List Loc} {wc : va_W} (hP : va_P G.2.2.1 vwCl wc H) (hD : va_D (xA X) wc) {av : List Value} : ∀ T : State, T.heap = H → (xs X).WarmedH T.vm → va_Pc av (Wc G wc H.size) av.toArray T := by
  intro T hT hW
  exact ⟨rfl, by rw [hT], by rw [hT]; exact hP, va_K.moved hW.alike C.2.2.2.2.2.1, hD.weaken (fun _ _ _ _ => trivial), fun j hj => va_Nw.warmM hW (C.2.2.2.2.2.2.2.1.1 j hj), va_AO.moved hW.alike C.2.2.2.2.2.2.2.1.2⟩
theorem good_I {y : MethodName} {bytes : ByteArray} {maxL : Nat} {ret : Option FieldType} (h5 : Cond.code y bytes maxL ret ∈ lw_gd) : GoodIn lw_gd (Cond.code y bytes maxL ret :: lw_gd) := by
  intro w hw
  have hm : w ∈ lw_gd := by
    rcases List.mem_cons.mp hw with rfl | h
    · exact h5
    · exact h
  exact ⟨hm, good_of_word (lw_good w hm)⟩
theorem sub_of {ws wc : va_W} {H : Heap} {D : va_G} {cl : List vw_C} (hP : va_P D cl ws H) (isC : List Nat) (hC : isC.map (fun i => ws[i]?) = wc.map some) : va_P D cl wc H := by
  intro k q hq
  have h1 : (isC.map (fun i => ws[i]?))[k]? = some (some q) := by rw [hC, List.getElem?_map, hq]; rfl
  rw [List.getElem?_map] at h1
  cases hi : isC[k]? with
  | none => rw [hi] at h1; cases h1
  | some i => rw [hi] at h1; exact hP i q (Option.some.inj h1)
theorem u_callI (pc : Nat) (C : Cy G X own cc nL n mc ms) {y : MethodName} {bytes : ByteArray} {maxL n2 c2 s2 ix b : Nat} {Post : va_W → Prop} {wr : va_W} (wc : va_W) (np : Nat) (As rest : List Value) (isC isR : List Nat) (hC : isC.map (fun i => ws[i]?) = wc.map some) (hR : isR.map (fun i => ws[i]?) = wr.map some) (hnc : va_nd isC = true) (hnd : va_nd isR = true) (hdis : ∀ i ∈ isR, i ∉ isC)
    (hc : Cu (xl X) G y bytes maxL n2 c2 s2 (.ref b :: As) wc Post) (hn : n2 < n) (hm : maxL ≤ 31) (hname : y.name = "<init>")
    (hy : y.cls ≠ "java/lang/invoke/MethodHandle" ∧ y.cls ≠ "java/lang/invoke/VarHandle" ∧ (parseMethodDescriptor y.desc).map (fun d => d.parameters.length) = some np) (hlen : As.length = np)
    (h1 : Cond.methodLink own ix y ∈ lw_gd) (h2 : Cond.instanceMethod y ∈ lw_gd) (h4 : Cond.initialized y.cls ∈ lw_gd) (h5 : Cond.code y bytes maxL none ∈ lw_gd)
    (hst : st = As.reverse ++ .ref b :: rest) (hsum : (rest.map fun v => v.category).sum ≤ 8) (hkc : kc + c2 ≤ mc) (hks : ks + s2 ≤ ms) (hd : decode cc pc = .ok (.invokespecial ix, 3)) (kk : ∀ ws2, Post ws2 → U G X nL (kc + c2) (ks + s2) (wr ++ ws2) lv rest (pc + 3)) : U G X nL kc ks ws lv (st) (pc) := by
  intro H locs ls hP hD hS hl
  have hRm := C.2.2.2.2.2.2.2.2
  refine u_back C isC isR hC hR hnd hdis hP hD hS hl (va_runI (Ts := lw_gd) (As := As) (rest := rest) ⟨C.1, C.2.1, C.2.2.1, C.2.2.2.1, C.2.2.2.2.1⟩ (hc H.size) ⟨callB_of np C.2.2.2.2.1 (good_I h5) rfl rfl rfl (C.2.2.2.2.1 _ h4) (C.2.2.2.2.1 _ h1) hy ⟨?_, ?_⟩, hname, C.2.2.2.2.1 _ h2⟩ ⟨blind_Wc, pre_Wc C (locs := locs) (sub_of hP isC hC) (hD.sub isC hnc hC)⟩ rfl hlen hl.1 hst (lv_room hsum) hd ⟨Nat.le_trans hkc hRm.2.2.1, Nat.le_trans hks hRm.2.2.2⟩) kk
  · show n2 + 1 ≤ _
    omega
  · show 8 + (maxL + 11) + 50 * n2 ≤ _
    omega
theorem u_callN (pc : Nat) (C : Cy G X own cc nL n mc ms) {y : MethodName} {bytes : ByteArray} {maxL n2 c2 s2 ix b : Nat} {Post : va_W → Prop} {wr : va_W} (j : Nat) (hj : j < 3) (hjo : mOw j = own) (hjx : mIx j = ix) (hjy : (if j = 1 then yX3_init else yX2_init) = y) (wc : va_W) (np : Nat) (As rest : List Value) (isC isR : List Nat) (hC : isC.map (fun i => ws[i]?) = wc.map some) (hR : isR.map (fun i => ws[i]?) = wr.map some) (hnc : va_nd isC = true) (hnd : va_nd isR = true) (hdis : ∀ i ∈ isR, i ∉ isC)
    (hc : Cu (xl X) G y bytes maxL n2 c2 s2 (.ref b :: As) wc Post) (hn : n2 < n) (hm : maxL ≤ 31) (hname : y.name = "<init>")
    (hy : y.cls ≠ "java/lang/invoke/MethodHandle" ∧ y.cls ≠ "java/lang/invoke/VarHandle" ∧ (parseMethodDescriptor y.desc).map (fun d => d.parameters.length) = some np) (hlen : As.length = np)
    (h2 : Cond.instanceMethod y ∈ lw_gd) (h4 : Cond.initialized y.cls ∈ lw_gd) (h5 : Cond.code y bytes maxL none ∈ lw_gd)
    (hst : st = As.reverse ++ .ref b :: rest) (hsum : (rest.map fun v => v.category).sum ≤ 8) (hkc : kc + c2 ≤ mc) (hks : ks + s2 ≤ ms) (hd : decode cc pc = .ok (.invokespecial ix, 3)) (kk : ∀ ws2, Post ws2 → U G X nL (kc + c2) (ks + s2) (wr ++ ws2) lv rest (pc + 3)) : U G X nL kc ks ws lv (st) (pc) := by
  intro H locs ls hP hD hS hl
  have hRm := C.2.2.2.2.2.2.2.2
  subst hjo
  subst hjx
  subst hjy
  refine u_back C isC isR hC hR hnd hdis hP hD hS hl (va_runIN (Ts := lw_gd) (As := As) (rest := rest) ⟨C.1, C.2.1, C.2.2.1, C.2.2.2.1, C.2.2.2.2.1⟩ (hc H.size) ⟨va_cnB np C.2.2.2.2.1 (good_I h5) rfl rfl rfl (C.2.2.2.2.2.2.2.1.1 j hj) (C.2.2.2.2.1 _ h4) hy ⟨?_, ?_⟩, hname, C.2.2.2.2.1 _ h2⟩ ⟨blind_Wc, pre_Wc C (locs := locs) (sub_of hP isC hC) (hD.sub isC hnc hC)⟩ rfl hlen hl.1 hst (lv_room hsum) hd ⟨Nat.le_trans hkc hRm.2.2.1, Nat.le_trans hks hRm.2.2.2⟩) kk
  · show n2 + 1 ≤ _
    omega
  · show 8 + (maxL + 11) + 50 * n2 ≤ _
    omega
theorem u_callV (pc : Nat) (C : Cy G X own cc nL n mc ms) {y : MethodName} {bytes : ByteArray} {maxL n2 c2 s2 ix b ci q0 N : Nat} {CN : String} {T : u_T} {fs : List Value} {Post : va_W → Prop} {wr : va_W} (wc : va_W) (np : Nat) (As rest : List Value) (isC isR : List Nat) (hC : isC.map (fun i => ws[i]?) = wc.map some) (hR : isR.map (fun i => ws[i]?) = wr.map some) (hnc : va_nd isC = true) (hnd : va_nd isR = true) (hdis : ∀ i ∈ isR, i ∉ isC)
    (hc : Cu (xl X) G y bytes maxL n2 c2 s2 (.ref b :: As) wc Post) (hn : n2 < n) (hm : maxL ≤ 31) (he : ws[q0]? = some (b, .inr (ci, fs))) (hcl : vwCl[ci]? = some (CN, T, N))
    (hy : y.cls = CN ∧ y.cls ≠ "java/lang/invoke/MethodHandle" ∧ y.cls ≠ "java/lang/invoke/VarHandle" ∧ (parseMethodDescriptor y.desc).map (fun d => d.parameters.length) = some np) (hlen : As.length = np)
    (h1 : Cond.methodLink own ix y ∈ lw_gd) (h2 : Cond.instanceMethod y ∈ lw_gd) (h3 : Cond.selects CN y y ∈ lw_gd) (h4 : Cond.initialized CN ∈ lw_gd) (h5 : Cond.code y bytes maxL none ∈ lw_gd)
    (hst : st = As.reverse ++ .ref b :: rest) (hsum : (rest.map fun v => v.category).sum ≤ 8) (hkc : kc + c2 ≤ mc) (hks : ks + s2 ≤ ms) (hd : decode cc pc = .ok (.invokevirtual ix, 3)) (kk : ∀ ws2, Post ws2 → U G X nL (kc + c2) (ks + s2) (wr ++ ws2) lv rest (pc + 3)) : U G X nL kc ks ws lv (st) (pc) := by
  intro H locs ls hP hD hS hl
  have hRm := C.2.2.2.2.2.2.2.2
  refine u_back C isC isR hC hR hnd hdis hP hD hS hl (va_runV (Ts := lw_gd) (As := As) (rest := rest) ⟨C.1, C.2.1, C.2.2.1, C.2.2.2.1, C.2.2.2.2.1⟩ (hc H.size) (cwV np C.2.2.2.2.1 (good_V h1 h2 h3 h4 h5) rfl rfl rfl hy ⟨?_, ?_⟩) ⟨blind_Wc, va_recv C.2.2.2.2.2.1 hP hcl he, pre_Wc C (locs := locs) (sub_of hP isC hC) (hD.sub isC hnc hC)⟩ rfl hlen hl.1 hst (lv_room hsum) hd ⟨Nat.le_trans hkc hRm.2.2.1, Nat.le_trans hks hRm.2.2.2⟩) kk
  · show n2 + 1 ≤ _
    omega
  · show 8 + (maxL + 11) + 50 * n2 ≤ _
    omega
theorem u_callS (pc : Nat) (C : Cy G X own cc nL n mc ms) {y : MethodName} {bytes : ByteArray} {maxL n2 c2 s2 ix : Nat} {Post : va_W → Prop} {wr : va_W} (wc : va_W) (np : Nat) (As rest : List Value) (isC isR : List Nat) (hC : isC.map (fun i => ws[i]?) = wc.map some) (hR : isR.map (fun i => ws[i]?) = wr.map some) (hnc : va_nd isC = true) (hnd : va_nd isR = true) (hdis : ∀ i ∈ isR, i ∉ isC)
    (hc : Cu (xl X) G y bytes maxL n2 c2 s2 As wc Post) (hn : n2 < n) (hm : maxL ≤ 31)
    (hy : y.cls ≠ "java/lang/invoke/MethodHandle" ∧ y.cls ≠ "java/lang/invoke/VarHandle" ∧ (parseMethodDescriptor y.desc).map (fun d => d.parameters.length) = some np) (hlen : As.length = np)
    (h1 : Cond.methodLink own ix y ∈ lw_gd) (h2 : Cond.static y ∈ lw_gd) (h4 : Cond.initialized y.cls ∈ lw_gd) (h5 : Cond.code y bytes maxL none ∈ lw_gd)
    (hst : st = As.reverse ++ rest) (hsum : (rest.map fun v => v.category).sum ≤ 8) (hkc : kc + c2 ≤ mc) (hks : ks + s2 ≤ ms) (hd : decode cc pc = .ok (.invokestatic ix, 3)) (kk : ∀ ws2, Post ws2 → U G X nL (kc + c2) (ks + s2) (wr ++ ws2) lv rest (pc + 3)) : U G X nL kc ks ws lv (st) (pc) := by
  intro H locs ls hP hD hS hl
  have hRm := C.2.2.2.2.2.2.2.2
  refine u_back C isC isR hC hR hnd hdis hP hD hS hl (va_runS (Ts := lw_gd) (As := As) (rest := rest) ⟨C.1, C.2.1, C.2.2.1, C.2.2.2.1, C.2.2.2.2.1⟩ (hc H.size) (va_cwS np C.2.2.2.2.1 (good_S h1 h2 h4 h5) rfl rfl rfl hy ⟨?_, ?_⟩) ⟨blind_Wc, pre_Wc C (locs := locs) (sub_of hP isC hC) (hD.sub isC hnc hC)⟩ rfl hlen hl.1 hst (lv_room hsum) hd ⟨Nat.le_trans hkc hRm.2.2.1, Nat.le_trans hks hRm.2.2.2⟩) kk
  · show n2 + 1 ≤ _
    omega
  · show 8 + (maxL + 11) + 50 * n2 ≤ _
    omega
theorem u_ret (pc : Nat) (C : Cy G X own cc nL n mc ms) {nm : String} {w0 : va_W} {c2 s2 : Nat} {Post : va_W → Prop} (hR : Ry G X nm c2 s2 w0 Post) (hp : Post ws) (hkc : kc ≤ c2) (hks : ks ≤ s2) (hd : decode cc pc = .ok (.return_, 1)) : U G X nL kc ks ws lv ([]) (pc) := by
  intro H locs ls hP hD hS hl
  obtain ⟨h1, h2, h3, h5, h6⟩ := hR
  rw [h5] at hS hD
  rw [h6]
  exact W.widen hkc hks (W.vret C.1 C.2.1 h1 (fun t ht hW => ⟨⟨rfl, ws, hp, by rw [ht]; exact hP, hD⟩, hS.F ht⟩) hS.2.2 hd h2)
end UROWS
