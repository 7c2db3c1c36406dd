section GK
/-- the world's constants: class numbers and slots, the classes of int[], boolean[], long[], the addresses -/
abbrev Et : Type := va_G × ClassId × ClassId × ClassId × List Nat
def tyE (ε : Et) : List (ClassId × FieldType) := [(ε.2.1, .int), (ε.2.2.1, .boolean), (ε.2.2.2.1, .long)]
abbrev Hp : Type := Nat → va_E
/-- how many cells the world has, their addresses, the cells as a list -/
def NP : Nat := 56
def ad (ε : Et) (p : Nat) : Nat := ε.2.2.2.2.getD p 0
def pl (ε : Et) (h : Hp) : va_W := (List.range NP).map (fun p => (ad ε p, h p))
def aI (ε : Et) (n : Nat) (f : Nat → Int32) : va_E := .inl (ε.2.1, n, .inl f)
def aZ (ε : Et) (n : Nat) (f : Nat → Int32) : va_E := .inl (ε.2.2.1, n, .inl f)
def aJ (ε : Et) (n : Nat) (f : Nat → Int64) : va_E := .inl (ε.2.2.2.1, n, .inr (.inl f))
/-- a method's body: program, launch, env, room, start, method, arguments, frames below, code, what may change, goal -/
abbrev Kt : Type := Program × Launch × Env × Room × State × MethodId × Array Value × List Frame × Method × Code × (Nat → Prop) × (State → Prop)
def Wd (ε : Et) (A : Nat → Prop) (H0 : Heap) (h : Hp) (H : Heap) (locs : List Loc) : Prop := va_P ε.1 vwCl (pl ε h) H ∧ va_D A (pl ε h) ∧ va_S A H0 H locs
/-- at pc, with locals lv, operands st, in the world h, k cells of n slots made: it comes to its goal -/
def G (ε : Et) (κ : Kt) (k n pc : Nat) (lv : List (Nat × Value)) (st : List Value) (h : Hp) : Prop := match κ with
  | (p, l, e, R, s, m, args, below, meth, c, A, Q) => ∀ (H : Heap) (locs : List Loc) (ls : Array Slot), Wd ε A s.heap h H locs → lv_has ls c.maxLocals lv → W p l e R s m args below meth c H locs k n Q (F0 m pc ls st)
/-- what a body knows: the machine, its code, its class, the words, the tables, its depth -/
def Cx (ε : Et) (κ : Kt) (cc : ByteArray) (nL : Nat) (own : String) (d : Nat) : Prop := match κ with
  | (p, _, _, R, s, m, args, _, meth, c, A, _) => p.tables.exec = Jvm.exec ∧ c.code = cc ∧ c.maxLocals = nL ∧ s.vm.findClass own = some m.cls ∧ (∀ w ∈ TB, w.before args s = true) ∧ va_K ε.1 vwCl (tyE ε) s ∧ Nst s ∧ meth.locks = false ∧ (∀ q : Nat, s.heap.size ≤ q → A q) ∧ d ≤ R.frames ∧ 30 * d ≤ R.locals
variable {ε : Et} {κ : Kt} {cc : ByteArray} {nL d : Nat} {own : String} {k n pc : Nat} {lv lv' : List (Nat × Value)} {st : List Value} {h : Hp}

theorem g_iload_n (C : Cx ε κ cc nL own d) {k0 : Fin 4} {i : Nat} {x : Int32} (hd : decode cc pc = .ok (.iload_n k0, 1)) (hi : (k0 : Nat) = i) (j : Nat) (hj : lv[j]? = some (i, .int x)) (kk : G ε κ k n (pc + 1) lv (.int x :: st) h) : G ε κ k n pc lv st h := by
  obtain ⟨p, l, e0, R, s, m, args, below, meth, c, A, Q⟩ := κ
  obtain ⟨hx, hb, hml, hown, hts, hK, hN, hlk, hA, hfr, hlo⟩ := C
  intro H locs ls hw hl
  exact lv_iload_n hx hb hd hi (lv_at hl j hj) (kk H locs ls hw hl)
theorem g_iload (C : Cx ε κ cc nL own d) {i : Nat} {x : Int32} (hd : decode cc pc = .ok (.iload i, 2)) (j : Nat) (hj : lv[j]? = some (i, .int x)) (kk : G ε κ k n (pc + 2) lv (.int x :: st) h) : G ε κ k n pc lv st h := by
  obtain ⟨p, l, e0, R, s, m, args, below, meth, c, A, Q⟩ := κ
  obtain ⟨hx, hb, hml, hown, hts, hK, hN, hlk, hA, hfr, hlo⟩ := C
  intro H locs ls hw hl
  exact lv_iload hx hb hd (lv_at hl j hj) (kk H locs ls hw hl)
theorem g_aload_n (C : Cx ε κ cc nL own d) {k0 : Fin 4} {i : Nat} {x : Nat} (hd : decode cc pc = .ok (.aload_n k0, 1)) (hi : (k0 : Nat) = i) (j : Nat) (hj : lv[j]? = some (i, .ref x)) (kk : G ε κ k n (pc + 1) lv (.ref x :: st) h) : G ε κ k n pc lv st h := by
  obtain ⟨p, l, e0, R, s, m, args, below, meth, c, A, Q⟩ := κ
  obtain ⟨hx, hb, hml, hown, hts, hK, hN, hlk, hA, hfr, hlo⟩ := C
  intro H locs ls hw hl
  exact lv_aload_n hx hb hd hi (lv_at hl j hj) (kk H locs ls hw hl)
theorem g_aload (C : Cx ε κ cc nL own d) {i : Nat} {x : Nat} (hd : decode cc pc = .ok (.aload i, 2)) (j : Nat) (hj : lv[j]? = some (i, .ref x)) (kk : G ε κ k n (pc + 2) lv (.ref x :: st) h) : G ε κ k n pc lv st h := by
  obtain ⟨p, l, e0, R, s, m, args, below, meth, c, A, Q⟩ := κ
  obtain ⟨hx, hb, hml, hown, hts, hK, hN, hlk, hA, hfr, hlo⟩ := C
  intro H locs ls hw hl
  exact lv_aload hx hb hd (lv_at hl j hj) (kk H locs ls hw hl)
theorem g_lload_n (C : Cx ε κ cc nL own d) {k0 : Fin 4} {i : Nat} {x : Int64} (hd : decode cc pc = .ok (.lload_n k0, 1)) (hi : (k0 : Nat) = i) (j : Nat) (hj : lv[j]? = some (i, .long x)) (kk : G ε κ k n (pc + 1) lv (.long x :: st) h) : G ε κ k n pc lv st h := by
  obtain ⟨p, l, e0, R, s, m, args, below, meth, c, A, Q⟩ := κ
  obtain ⟨hx, hb, hml, hown, hts, hK, hN, hlk, hA, hfr, hlo⟩ := C
  intro H locs ls hw hl
  exact lv_lload_n hx hb hd hi (lv_at hl j hj) (kk H locs ls hw hl)
theorem g_lload (C : Cx ε κ cc nL own d) {i : Nat} {x : Int64} (hd : decode cc pc = .ok (.lload i, 2)) (j : Nat) (hj : lv[j]? = some (i, .long x)) (kk : G ε κ k n (pc + 2) lv (.long x :: st) h) : G ε κ k n pc lv st h := by
  obtain ⟨p, l, e0, R, s, m, args, below, meth, c, A, Q⟩ := κ
  obtain ⟨hx, hb, hml, hown, hts, hK, hN, hlk, hA, hfr, hlo⟩ := C
  intro H locs ls hw hl
  exact lv_lload hx hb hd (lv_at hl j hj) (kk H locs ls hw hl)
theorem g_iconst (C : Cx ε κ cc nL own d) {i : Int} {v : Int32} (hd : decode cc pc = .ok (.iconst i, 1)) (hv : Int32.ofInt i = v) (kk : G ε κ k n (pc + 1) lv (.int v :: st) h) : G ε κ k n pc lv st h := by
  obtain ⟨p, l, e0, R, s, m, args, below, meth, c, A, Q⟩ := κ
  obtain ⟨hx, hb, hml, hown, hts, hK, hN, hlk, hA, hfr, hlo⟩ := C
  intro H locs ls hw hl
  exact lv_iconst hx hb hd hv (kk H locs ls hw hl)
theorem g_bipush (C : Cx ε κ cc nL own d) {i : Int} {v : Int32} (hd : decode cc pc = .ok (.bipush i, 2)) (hv : (Int8.ofInt i).toInt32 = v) (kk : G ε κ k n (pc + 2) lv (.int v :: st) h) : G ε κ k n pc lv st h := by
  obtain ⟨p, l, e0, R, s, m, args, below, meth, c, A, Q⟩ := κ
  obtain ⟨hx, hb, hml, hown, hts, hK, hN, hlk, hA, hfr, hlo⟩ := C
  intro H locs ls hw hl
  exact lv_bipush hx hb hd hv (kk H locs ls hw hl)
theorem g_sipush (C : Cx ε κ cc nL own d) {i : Int} {v : Int32} (hd : decode cc pc = .ok (.sipush i, 3)) (hv : (Int16.ofInt i).toInt32 = v) (kk : G ε κ k n (pc + 3) lv (.int v :: st) h) : G ε κ k n pc lv st h := by
  obtain ⟨p, l, e0, R, s, m, args, below, meth, c, A, Q⟩ := κ
  obtain ⟨hx, hb, hml, hown, hts, hK, hN, hlk, hA, hfr, hlo⟩ := C
  intro H locs ls hw hl
  exact lv_sipush hx hb hd hv (kk H locs ls hw hl)
theorem g_iadd (C : Cx ε κ cc nL own d) {x y : Int32} (hd : decode cc pc = .ok (.iadd, 1))  (kk : G ε κ k n (pc + 1) lv (.int (x + y) :: st) h) : G ε κ k n pc lv (.int y :: .int x :: st) h := by
  obtain ⟨p, l, e0, R, s, m, args, below, meth, c, A, Q⟩ := κ
  obtain ⟨hx, hb, hml, hown, hts, hK, hN, hlk, hA, hfr, hlo⟩ := C
  intro H locs ls hw hl
  exact lv_iadd hx hb hd (kk H locs ls hw hl)
theorem g_isub (C : Cx ε κ cc nL own d) {x y : Int32} (hd : decode cc pc = .ok (.isub, 1))  (kk : G ε κ k n (pc + 1) lv (.int (x - y) :: st) h) : G ε κ k n pc lv (.int y :: .int x :: st) h := by
  obtain ⟨p, l, e0, R, s, m, args, below, meth, c, A, Q⟩ := κ
  obtain ⟨hx, hb, hml, hown, hts, hK, hN, hlk, hA, hfr, hlo⟩ := C
  intro H locs ls hw hl
  exact lv_isub hx hb hd (kk H locs ls hw hl)
theorem g_imul (C : Cx ε κ cc nL own d) {x y : Int32} (hd : decode cc pc = .ok (.imul, 1))  (kk : G ε κ k n (pc + 1) lv (.int (x * y) :: st) h) : G ε κ k n pc lv (.int y :: .int x :: st) h := by
  obtain ⟨p, l, e0, R, s, m, args, below, meth, c, A, Q⟩ := κ
  obtain ⟨hx, hb, hml, hown, hts, hK, hN, hlk, hA, hfr, hlo⟩ := C
  intro H locs ls hw hl
  exact lv_imul hx hb hd (kk H locs ls hw hl)
theorem g_iand (C : Cx ε κ cc nL own d) {x y : Int32} (hd : decode cc pc = .ok (.iand, 1))  (kk : G ε κ k n (pc + 1) lv (.int (x &&& y) :: st) h) : G ε κ k n pc lv (.int y :: .int x :: st) h := by
  obtain ⟨p, l, e0, R, s, m, args, below, meth, c, A, Q⟩ := κ
  obtain ⟨hx, hb, hml, hown, hts, hK, hN, hlk, hA, hfr, hlo⟩ := C
  intro H locs ls hw hl
  exact lv_iand hx hb hd (kk H locs ls hw hl)
theorem g_land (C : Cx ε κ cc nL own d) {x y : Int64} (hd : decode cc pc = .ok (.land, 1))  (kk : G ε κ k n (pc + 1) lv (.long (x &&& y) :: st) h) : G ε κ k n pc lv (.long y :: .long x :: st) h := by
  obtain ⟨p, l, e0, R, s, m, args, below, meth, c, A, Q⟩ := κ
  obtain ⟨hx, hb, hml, hown, hts, hK, hN, hlk, hA, hfr, hlo⟩ := C
  intro H locs ls hw hl
  exact lv_land hx hb hd (kk H locs ls hw hl)
theorem g_lor (C : Cx ε κ cc nL own d) {x y : Int64} (hd : decode cc pc = .ok (.lor, 1))  (kk : G ε κ k n (pc + 1) lv (.long (x ||| y) :: st) h) : G ε κ k n pc lv (.long y :: .long x :: st) h := by
  obtain ⟨p, l, e0, R, s, m, args, below, meth, c, A, Q⟩ := κ
  obtain ⟨hx, hb, hml, hown, hts, hK, hN, hlk, hA, hfr, hlo⟩ := C
  intro H locs ls hw hl
  exact lv_lor hx hb hd (kk H locs ls hw hl)
theorem g_idiv (C : Cx ε κ cc nL own d) {x y : Int32} (hd : decode cc pc = .ok (.idiv, 1)) (hne : ¬ y = 0) (kk : G ε κ k n (pc + 1) lv (.int (x / y) :: st) h) : G ε κ k n pc lv (.int y :: .int x :: st) h := by
  obtain ⟨p, l, e0, R, s, m, args, below, meth, c, A, Q⟩ := κ
  obtain ⟨hx, hb, hml, hown, hts, hK, hN, hlk, hA, hfr, hlo⟩ := C
  intro H locs ls hw hl
  exact lv_idiv hx hb hd hne (kk H locs ls hw hl)
theorem g_irem (C : Cx ε κ cc nL own d) {x y : Int32} (hd : decode cc pc = .ok (.irem, 1)) (hne : ¬ y = 0) (kk : G ε κ k n (pc + 1) lv (.int (x - x / y * y) :: st) h) : G ε κ k n pc lv (.int y :: .int x :: st) h := by
  obtain ⟨p, l, e0, R, s, m, args, below, meth, c, A, Q⟩ := κ
  obtain ⟨hx, hb, hml, hown, hts, hK, hN, hlk, hA, hfr, hlo⟩ := C
  intro H locs ls hw hl
  exact lv_irem hx hb hd hne (kk H locs ls hw hl)
theorem g_ineg (C : Cx ε κ cc nL own d) {x : Int32} (hd : decode cc pc = .ok (.ineg, 1))  (kk : G ε κ k n (pc + 1) lv (.int (-x) :: st) h) : G ε κ k n pc lv (.int x :: st) h := by
  obtain ⟨p, l, e0, R, s, m, args, below, meth, c, A, Q⟩ := κ
  obtain ⟨hx, hb, hml, hown, hts, hK, hN, hlk, hA, hfr, hlo⟩ := C
  intro H locs ls hw hl
  exact lv_ineg hx hb hd (kk H locs ls hw hl)
theorem g_i2l (C : Cx ε κ cc nL own d) {x : Int32} {v : Int64} (hd : decode cc pc = .ok (.i2l, 1)) (hv : x.toInt64 = v) (kk : G ε κ k n (pc + 1) lv (.long v :: st) h) : G ε κ k n pc lv (.int x :: st) h := by
  obtain ⟨p, l, e0, R, s, m, args, below, meth, c, A, Q⟩ := κ
  obtain ⟨hx, hb, hml, hown, hts, hK, hN, hlk, hA, hfr, hlo⟩ := C
  intro H locs ls hw hl
  exact lv_i2l hx hb hd hv (kk H locs ls hw hl)
theorem g_l2i (C : Cx ε κ cc nL own d) {x : Int64} {v : Int32} (hd : decode cc pc = .ok (.l2i, 1)) (hv : x.toInt32 = v) (kk : G ε κ k n (pc + 1) lv (.int v :: st) h) : G ε κ k n pc lv (.long x :: st) h := by
  obtain ⟨p, l, e0, R, s, m, args, below, meth, c, A, Q⟩ := κ
  obtain ⟨hx, hb, hml, hown, hts, hK, hN, hlk, hA, hfr, hlo⟩ := C
  intro H locs ls hw hl
  exact lv_l2i hx hb hd hv (kk H locs ls hw hl)
theorem g_lushr (C : Cx ε κ cc nL own d) {x v : Int64} {y : Int32} (hd : decode cc pc = .ok (.lushr, 1)) (hv : (x.toUInt64 >>> (y.toInt64.toUInt64 &&& Int64.toUInt64 63)).toInt64 = v) (kk : G ε κ k n (pc + 1) lv (.long v :: st) h) : G ε κ k n pc lv (.int y :: .long x :: st) h := by
  obtain ⟨p, l, e0, R, s, m, args, below, meth, c, A, Q⟩ := κ
  obtain ⟨hx, hb, hml, hown, hts, hK, hN, hlk, hA, hfr, hlo⟩ := C
  intro H locs ls hw hl
  exact lv_lushr hx hb hd hv (kk H locs ls hw hl)
theorem g_lshr (C : Cx ε κ cc nL own d) {x v : Int64} {y : Int32} (hd : decode cc pc = .ok (.lshr, 1)) (hv : x >>> (y.toInt64 &&& 63) = v) (kk : G ε κ k n (pc + 1) lv (.long v :: st) h) : G ε κ k n pc lv (.int y :: .long x :: st) h := by
  obtain ⟨p, l, e0, R, s, m, args, below, meth, c, A, Q⟩ := κ
  obtain ⟨hx, hb, hml, hown, hts, hK, hN, hlk, hA, hfr, hlo⟩ := C
  intro H locs ls hw hl
  exact lv_lshr hx hb hd hv (kk H locs ls hw hl)
theorem g_lshl (C : Cx ε κ cc nL own d) {x v : Int64} {y : Int32} (hd : decode cc pc = .ok (.lshl, 1)) (hv : x <<< (y.toInt64 &&& 63) = v) (kk : G ε κ k n (pc + 1) lv (.long v :: st) h) : G ε κ k n pc lv (.int y :: .long x :: st) h := by
  obtain ⟨p, l, e0, R, s, m, args, below, meth, c, A, Q⟩ := κ
  obtain ⟨hx, hb, hml, hown, hts, hK, hN, hlk, hA, hfr, hlo⟩ := C
  intro H locs ls hw hl
  exact lv_lshl hx hb hd hv (kk H locs ls hw hl)
theorem g_dup (C : Cx ε κ cc nL own d) {va : Value} (hd : decode cc pc = .ok (.dup, 1)) (hva : va.category = 1) (kk : G ε κ k n (pc + 1) lv (va :: va :: st) h) : G ε κ k n pc lv (va :: st) h := by
  obtain ⟨p, l, e0, R, s, m, args, below, meth, c, A, Q⟩ := κ
  obtain ⟨hx, hb, hml, hown, hts, hK, hN, hlk, hA, hfr, hlo⟩ := C
  intro H locs ls hw hl
  exact lv_dup hx hb hd hva (kk H locs ls hw hl)
theorem g_dup2 (C : Cx ε κ cc nL own d) {va vb : Value} (hd : decode cc pc = .ok (.dup2, 1)) (hva : va.category = 1) (hvb : vb.category = 1) (kk : G ε κ k n (pc + 1) lv (va :: vb :: va :: vb :: st) h) : G ε κ k n pc lv (va :: vb :: st) h := by
  obtain ⟨p, l, e0, R, s, m, args, below, meth, c, A, Q⟩ := κ
  obtain ⟨hx, hb, hml, hown, hts, hK, hN, hlk, hA, hfr, hlo⟩ := C
  intro H locs ls hw hl
  exact lv_dup2_11 hx hb hd hva hvb (kk H locs ls hw hl)
theorem g_pop (C : Cx ε κ cc nL own d) {va : Value} (hd : decode cc pc = .ok (.pop, 1)) (hva : va.category = 1) (kk : G ε κ k n (pc + 1) lv st h) : G ε κ k n pc lv (va :: st) h := by
  obtain ⟨p, l, e0, R, s, m, args, below, meth, c, A, Q⟩ := κ
  obtain ⟨hx, hb, hml, hown, hts, hK, hN, hlk, hA, hfr, hlo⟩ := C
  intro H locs ls hw hl
  exact lv_pop hx hb hd hva (kk H locs ls hw hl)
theorem g_ldc2 (C : Cx ε κ cc nL own d) {index : Nat} {v : Int64} (hd : decode cc pc = .ok (.ldc2_w index, 3)) (hc : Jvm.Cond.constantLong own index v ∈ TB) (kk : G ε κ k n (pc + 3) lv (.long v :: st) h) : G ε κ k n pc lv st h := by
  obtain ⟨p, l, e0, R, s, m, args, below, meth, c, A, Q⟩ := κ
  obtain ⟨hx, hb, hml, hown, hts, hK, hN, hlk, hA, hfr, hlo⟩ := C
  intro H locs ls hw hl
  exact lv_ldc2 hx hb hown (hts _ hc) hd (kk H locs ls hw hl)
-- branches: see below
theorem g_if_eq (C : Cx ε κ cc nL own d) {x : Int32} {off : Int} {tgt : Nat} (hd : decode cc pc = .ok (.ifCond .eq off, 3)) (ht : (pc : Int) + off = (tgt : Int)) (kt : x = 0 → G ε κ k n tgt lv st h) (kf : ¬ x = 0 → G ε κ k n (pc + 3) lv st h) : G ε κ k n pc lv (.int x :: st) h := by
  obtain ⟨p, l, e0, R, s, m, args, below, meth, c, A, Q⟩ := κ
  obtain ⟨hx, hb, hml, hown, hts, hK, hN, hlk, hA, hfr, hlo⟩ := C
  intro H locs ls hw hl
  exact lv_if_eq hx hb hd ht (fun q => kt q H locs ls hw hl) (fun q => kf q H locs ls hw hl)
theorem g_icmp_eq (C : Cx ε κ cc nL own d) {x y : Int32} {off : Int} {tgt : Nat} (hd : decode cc pc = .ok (.if_icmp .eq off, 3)) (ht : (pc : Int) + off = (tgt : Int)) (kt : x = y → G ε κ k n tgt lv st h) (kf : ¬ x = y → G ε κ k n (pc + 3) lv st h) : G ε κ k n pc lv (.int y :: .int x :: st) h := by
  obtain ⟨p, l, e0, R, s, m, args, below, meth, c, A, Q⟩ := κ
  obtain ⟨hx, hb, hml, hown, hts, hK, hN, hlk, hA, hfr, hlo⟩ := C
  intro H locs ls hw hl
  exact lv_icmp_eq hx hb hd ht (fun q => kt q H locs ls hw hl) (fun q => kf q H locs ls hw hl)
theorem g_if_ne (C : Cx ε κ cc nL own d) {x : Int32} {off : Int} {tgt : Nat} (hd : decode cc pc = .ok (.ifCond .ne off, 3)) (ht : (pc : Int) + off = (tgt : Int)) (kt : ¬ x = 0 → G ε κ k n tgt lv st h) (kf : x = 0 → G ε κ k n (pc + 3) lv st h) : G ε κ k n pc lv (.int x :: st) h := by
  obtain ⟨p, l, e0, R, s, m, args, below, meth, c, A, Q⟩ := κ
  obtain ⟨hx, hb, hml, hown, hts, hK, hN, hlk, hA, hfr, hlo⟩ := C
  intro H locs ls hw hl
  exact lv_if_ne hx hb hd ht (fun q => kt q H locs ls hw hl) (fun q => kf q H locs ls hw hl)
theorem g_icmp_ne (C : Cx ε κ cc nL own d) {x y : Int32} {off : Int} {tgt : Nat} (hd : decode cc pc = .ok (.if_icmp .ne off, 3)) (ht : (pc : Int) + off = (tgt : Int)) (kt : ¬ x = y → G ε κ k n tgt lv st h) (kf : x = y → G ε κ k n (pc + 3) lv st h) : G ε κ k n pc lv (.int y :: .int x :: st) h := by
  obtain ⟨p, l, e0, R, s, m, args, below, meth, c, A, Q⟩ := κ
  obtain ⟨hx, hb, hml, hown, hts, hK, hN, hlk, hA, hfr, hlo⟩ := C
  intro H locs ls hw hl
  exact lv_icmp_ne hx hb hd ht (fun q => kt q H locs ls hw hl) (fun q => kf q H locs ls hw hl)
theorem g_if_lt (C : Cx ε κ cc nL own d) {x : Int32} {off : Int} {tgt : Nat} (hd : decode cc pc = .ok (.ifCond .lt off, 3)) (ht : (pc : Int) + off = (tgt : Int)) (kt : x < 0 → G ε κ k n tgt lv st h) (kf : ¬ x < 0 → G ε κ k n (pc + 3) lv st h) : G ε κ k n pc lv (.int x :: st) h := by
  obtain ⟨p, l, e0, R, s, m, args, below, meth, c, A, Q⟩ := κ
  obtain ⟨hx, hb, hml, hown, hts, hK, hN, hlk, hA, hfr, hlo⟩ := C
  intro H locs ls hw hl
  exact lv_if_lt hx hb hd ht (fun q => kt q H locs ls hw hl) (fun q => kf q H locs ls hw hl)
theorem g_icmp_lt (C : Cx ε κ cc nL own d) {x y : Int32} {off : Int} {tgt : Nat} (hd : decode cc pc = .ok (.if_icmp .lt off, 3)) (ht : (pc : Int) + off = (tgt : Int)) (kt : x < y → G ε κ k n tgt lv st h) (kf : ¬ x < y → G ε κ k n (pc + 3) lv st h) : G ε κ k n pc lv (.int y :: .int x :: st) h := by
  obtain ⟨p, l, e0, R, s, m, args, below, meth, c, A, Q⟩ := κ
  obtain ⟨hx, hb, hml, hown, hts, hK, hN, hlk, hA, hfr, hlo⟩ := C
  intro H locs ls hw hl
  exact lv_icmp_lt hx hb hd ht (fun q => kt q H locs ls hw hl) (fun q => kf q H locs ls hw hl)
theorem g_if_ge (C : Cx ε κ cc nL own d) {x : Int32} {off : Int} {tgt : Nat} (hd : decode cc pc = .ok (.ifCond .ge off, 3)) (ht : (pc : Int) + off = (tgt : Int)) (kt : 0 ≤ x → G ε κ k n tgt lv st h) (kf : ¬ 0 ≤ x → G ε κ k n (pc + 3) lv st h) : G ε κ k n pc lv (.int x :: st) h := by
  obtain ⟨p, l, e0, R, s, m, args, below, meth, c, A, Q⟩ := κ
  obtain ⟨hx, hb, hml, hown, hts, hK, hN, hlk, hA, hfr, hlo⟩ := C
  intro H locs ls hw hl
  exact lv_if_ge hx hb hd ht (fun q => kt q H locs ls hw hl) (fun q => kf q H locs ls hw hl)
theorem g_icmp_ge (C : Cx ε κ cc nL own d) {x y : Int32} {off : Int} {tgt : Nat} (hd : decode cc pc = .ok (.if_icmp .ge off, 3)) (ht : (pc : Int) + off = (tgt : Int)) (kt : y ≤ x → G ε κ k n tgt lv st h) (kf : ¬ y ≤ x → G ε κ k n (pc + 3) lv st h) : G ε κ k n pc lv (.int y :: .int x :: st) h := by
  obtain ⟨p, l, e0, R, s, m, args, below, meth, c, A, Q⟩ := κ
  obtain ⟨hx, hb, hml, hown, hts, hK, hN, hlk, hA, hfr, hlo⟩ := C
  intro H locs ls hw hl
  exact lv_icmp_ge hx hb hd ht (fun q => kt q H locs ls hw hl) (fun q => kf q H locs ls hw hl)
theorem g_if_gt (C : Cx ε κ cc nL own d) {x : Int32} {off : Int} {tgt : Nat} (hd : decode cc pc = .ok (.ifCond .gt off, 3)) (ht : (pc : Int) + off = (tgt : Int)) (kt : 0 < x → G ε κ k n tgt lv st h) (kf : ¬ 0 < x → G ε κ k n (pc + 3) lv st h) : G ε κ k n pc lv (.int x :: st) h := by
  obtain ⟨p, l, e0, R, s, m, args, below, meth, c, A, Q⟩ := κ
  obtain ⟨hx, hb, hml, hown, hts, hK, hN, hlk, hA, hfr, hlo⟩ := C
  intro H locs ls hw hl
  exact lv_if_gt hx hb hd ht (fun q => kt q H locs ls hw hl) (fun q => kf q H locs ls hw hl)
theorem g_icmp_gt (C : Cx ε κ cc nL own d) {x y : Int32} {off : Int} {tgt : Nat} (hd : decode cc pc = .ok (.if_icmp .gt off, 3)) (ht : (pc : Int) + off = (tgt : Int)) (kt : y < x → G ε κ k n tgt lv st h) (kf : ¬ y < x → G ε κ k n (pc + 3) lv st h) : G ε κ k n pc lv (.int y :: .int x :: st) h := by
  obtain ⟨p, l, e0, R, s, m, args, below, meth, c, A, Q⟩ := κ
  obtain ⟨hx, hb, hml, hown, hts, hK, hN, hlk, hA, hfr, hlo⟩ := C
  intro H locs ls hw hl
  exact lv_icmp_gt hx hb hd ht (fun q => kt q H locs ls hw hl) (fun q => kf q H locs ls hw hl)
theorem g_if_le (C : Cx ε κ cc nL own d) {x : Int32} {off : Int} {tgt : Nat} (hd : decode cc pc = .ok (.ifCond .le off, 3)) (ht : (pc : Int) + off = (tgt : Int)) (kt : x ≤ 0 → G ε κ k n tgt lv st h) (kf : ¬ x ≤ 0 → G ε κ k n (pc + 3) lv st h) : G ε κ k n pc lv (.int x :: st) h := by
  obtain ⟨p, l, e0, R, s, m, args, below, meth, c, A, Q⟩ := κ
  obtain ⟨hx, hb, hml, hown, hts, hK, hN, hlk, hA, hfr, hlo⟩ := C
  intro H locs ls hw hl
  exact lv_if_le hx hb hd ht (fun q => kt q H locs ls hw hl) (fun q => kf q H locs ls hw hl)
theorem g_icmp_le (C : Cx ε κ cc nL own d) {x y : Int32} {off : Int} {tgt : Nat} (hd : decode cc pc = .ok (.if_icmp .le off, 3)) (ht : (pc : Int) + off = (tgt : Int)) (kt : x ≤ y → G ε κ k n tgt lv st h) (kf : ¬ x ≤ y → G ε κ k n (pc + 3) lv st h) : G ε κ k n pc lv (.int y :: .int x :: st) h := by
  obtain ⟨p, l, e0, R, s, m, args, below, meth, c, A, Q⟩ := κ
  obtain ⟨hx, hb, hml, hown, hts, hK, hN, hlk, hA, hfr, hlo⟩ := C
  intro H locs ls hw hl
  exact lv_icmp_le hx hb hd ht (fun q => kt q H locs ls hw hl) (fun q => kf q H locs ls hw hl)
theorem g_goto (C : Cx ε κ cc nL own d) {off : Int} {tgt : Nat} (hd : decode cc pc = .ok (.goto off, 3)) (ht : (pc : Int) + off = (tgt : Int)) (kk : G ε κ k n tgt lv st h) : G ε κ k n pc lv st h := by
  obtain ⟨p, l, e0, R, s, m, args, below, meth, c, A, Q⟩ := κ
  obtain ⟨hx, hb, hml, hown, hts, hK, hN, hlk, hA, hfr, hlo⟩ := C
  intro H locs ls hw hl
  exact lv_goto hx hb hd ht (kk H locs ls hw hl)
theorem g_tabIn (C : Cx ε κ cc nL own d) {dflt lo hi : Int} {offs : Array Int} {len : Nat} {x : Int32} {off : Int} {tgt : Nat} (hd : decode cc pc = .ok (.tableswitch dflt lo hi offs, len)) (h1 : ¬ x.toInt < lo) (h2 : ¬ hi < x.toInt) (ho : offs[(x.toInt - lo).toNat]? = some off) (ht : (pc : Int) + off = (tgt : Int)) (kk : G ε κ k n tgt lv st h) : G ε κ k n pc lv (.int x :: st) h := by
  obtain ⟨p, l, e0, R, s, m, args, below, meth, c, A, Q⟩ := κ
  obtain ⟨hx, hb, hml, hown, hts, hK, hN, hlk, hA, hfr, hlo⟩ := C
  intro H locs ls hw hl
  exact lv_tableIn hx hb hd h1 h2 ho ht (kk H locs ls hw hl)
theorem g_tabOut (C : Cx ε κ cc nL own d) {dflt lo hi : Int} {offs : Array Int} {len : Nat} {x : Int32} {tgt : Nat} (hd : decode cc pc = .ok (.tableswitch dflt lo hi offs, len)) (hq : x.toInt < lo ∨ hi < x.toInt) (ht : (pc : Int) + dflt = (tgt : Int)) (kk : G ε κ k n tgt lv st h) : G ε κ k n pc lv (.int x :: st) h := by
  obtain ⟨p, l, e0, R, s, m, args, below, meth, c, A, Q⟩ := κ
  obtain ⟨hx, hb, hml, hown, hts, hK, hN, hlk, hA, hfr, hlo⟩ := C
  intro H locs ls hw hl
  exact lv_tableOut hx hb hd hq ht (kk H locs ls hw hl)
theorem g_istore_n (C : Cx ε κ cc nL own d) {k0 : Fin 4} {i : Nat} {x : Int32} (lv' : List (Nat × Value)) (hd : decode cc pc = .ok (.istore_n k0, 1)) (hi : (k0 : Nat) = i) (hn : i < nL) (hq : (i, Value.int x) :: lv.filter (fun q => !(q.1 == i) && !(q.1 + 1 == i && q.2.category == 2)) = lv') (kk : G ε κ k n (pc + 1) lv' st h) : G ε κ k n pc lv (Value.int x :: st) h := by
  obtain ⟨p, l, e0, R, s, m, args, below, meth, c, A, Q⟩ := κ
  obtain ⟨hx, hb, hml, hown, hts, hK, hN, hlk, hA, hfr, hlo⟩ := C
  intro H locs ls hw hl
  exact lv_istore_n hx hb hd hi hl (by rw [hml]; exact hn) hq (fun ls hl => kk H locs ls hw hl)
theorem g_istore (C : Cx ε κ cc nL own d) {i : Nat} {x : Int32} (lv' : List (Nat × Value)) (hd : decode cc pc = .ok (.istore i, 2))  (hn : i < nL) (hq : (i, Value.int x) :: lv.filter (fun q => !(q.1 == i) && !(q.1 + 1 == i && q.2.category == 2)) = lv') (kk : G ε κ k n (pc + 2) lv' st h) : G ε κ k n pc lv (Value.int x :: st) h := by
  obtain ⟨p, l, e0, R, s, m, args, below, meth, c, A, Q⟩ := κ
  obtain ⟨hx, hb, hml, hown, hts, hK, hN, hlk, hA, hfr, hlo⟩ := C
  intro H locs ls hw hl
  exact lv_istore hx hb hd hl (by rw [hml]; exact hn) hq (fun ls hl => kk H locs ls hw hl)
theorem g_astore_n (C : Cx ε κ cc nL own d) {k0 : Fin 4} {i : Nat} {x : Nat} (lv' : List (Nat × Value)) (hd : decode cc pc = .ok (.astore_n k0, 1)) (hi : (k0 : Nat) = i) (hn : i < nL) (hq : (i, Value.ref x) :: lv.filter (fun q => !(q.1 == i) && !(q.1 + 1 == i && q.2.category == 2)) = lv') (kk : G ε κ k n (pc + 1) lv' st h) : G ε κ k n pc lv (Value.ref x :: st) h := by
  obtain ⟨p, l, e0, R, s, m, args, below, meth, c, A, Q⟩ := κ
  obtain ⟨hx, hb, hml, hown, hts, hK, hN, hlk, hA, hfr, hlo⟩ := C
  intro H locs ls hw hl
  exact lv_astore_n hx hb hd hi hl (by rw [hml]; exact hn) hq (fun ls hl => kk H locs ls hw hl)
theorem g_astore (C : Cx ε κ cc nL own d) {i : Nat} {x : Nat} (lv' : List (Nat × Value)) (hd : decode cc pc = .ok (.astore i, 2))  (hn : i < nL) (hq : (i, Value.ref x) :: lv.filter (fun q => !(q.1 == i) && !(q.1 + 1 == i && q.2.category == 2)) = lv') (kk : G ε κ k n (pc + 2) lv' st h) : G ε κ k n pc lv (Value.ref x :: st) h := by
  obtain ⟨p, l, e0, R, s, m, args, below, meth, c, A, Q⟩ := κ
  obtain ⟨hx, hb, hml, hown, hts, hK, hN, hlk, hA, hfr, hlo⟩ := C
  intro H locs ls hw hl
  exact lv_astore hx hb hd hl (by rw [hml]; exact hn) hq (fun ls hl => kk H locs ls hw hl)
theorem g_iinc (C : Cx ε κ cc nL own d) {i : Nat} {z : Int} {x v : Int32} (lv' : List (Nat × Value)) (hd : decode cc pc = .ok (.iinc i z, 3)) (j : Nat) (hj : lv[j]? = some (i, .int x)) (hv : x + Int32.ofInt z = v) (hn : i < nL) (hq : (i, Value.int v) :: lv.filter (fun q => !(q.1 == i) && !(q.1 + 1 == i && q.2.category == 2)) = lv') (kk : G ε κ k n (pc + 3) lv' st h) : G ε κ k n pc lv st h := by
  obtain ⟨p, l, e0, R, s, m, args, below, meth, c, A, Q⟩ := κ
  obtain ⟨hx, hb, hml, hown, hts, hK, hN, hlk, hA, hfr, hlo⟩ := C
  intro H locs ls hw hl
  exact lv_iinc hx hb hd hl hj hv (by rw [hml]; exact hn) hq (fun ls hl => kk H locs ls hw hl)
theorem pl_get {a : Nat} (ha : a < NP) : (pl ε h)[a]? = some (ad ε a, h a) := by simp [pl, ha]
theorem pl_set {a : Nat} {e : va_E} : (pl ε h).set a (ad ε a, e) = pl ε (va_up h a e) := by
  apply List.ext_getElem?
  intro i
  by_cases hi : i < NP
  · by_cases hia : a = i
    · subst hia
      simp [pl, hi, va_up_self]
    · rw [List.getElem?_set_ne hia]
      simp [pl, hi, va_up_ne _ _ (Ne.symm hia)]
  · rw [List.getElem?_eq_none (by simp [pl]; omega), List.getElem?_eq_none (by simp [pl]; omega)]
theorem g_get (C : Cx ε κ cc nL own d) {ci a index : Nat} {R0 ref : String} {T : u_T} {N : Nat} {ty : Nat → FieldType} {fs : List Value} (j : Nat) {v : Value} (F : Fk ci R0 T N ty) (hj : j < N) (hlink : Cond.fieldLink own index ref (T j).2.1 (T j).2.2.1 ∈ TB) (href : ref = (T j).1) (ha : a < NP) (e : h a = .inr (ci, fs)) (hv : fs[j]? = some v) (hd : decode cc pc = .ok (.getfield index, 3)) (kk : G ε κ k n (pc + 3) lv (v :: st) h) : G ε κ k n pc lv (.ref (ad ε a) :: st) h := by
  obtain ⟨p, l, e0, R, s, m, args, below, meth, c, A, Q⟩ := κ
  obtain ⟨hx, hb, hml, hown, hts, hK, hN, hlk, hA, hfr, hlo⟩ := C
  intro H locs ls hw hl
  have hq := pl_get (ε := ε) (h := h) ha
  rw [e] at hq
  exact va_get hx hb hts F.2.1 hown hK hw.1 a hq F.1 j hj (hts _ hlink) (fun x h9 => by rw [href]; exact h9) hv hd (kk H locs ls hw hl)
theorem g_put (C : Cx ε κ cc nL own d) {ci a index : Nat} {R0 ref : String} {T : u_T} {N : Nat} {ty : Nat → FieldType} {fs fs' : List Value} (j : Nat) {v : Value} (F : Fk ci R0 T N ty) (hj : j < N) (hlink : Cond.fieldLink own index ref (T j).2.1 (T j).2.2.1 ∈ TB) (href : ref = (T j).1) (ha : a < NP) (e : h a = .inr (ci, fs)) (hfin : (T j).2.2.2 = false) (hn : narrow (ty j) v = v) (hfit : fits (ty j) v = true) (hjl : j < fs.length) (hfs : fs.set j v = fs') (hd : decode cc pc = .ok (.putfield index, 3)) (kk : ∀ h1 : Hp, h1 = va_up h a (.inr (ci, fs')) → G ε κ k n (pc + 3) lv st h1) : G ε κ k n pc lv (v :: .ref (ad ε a) :: st) h := by
  obtain ⟨p, l, e0, R, s, m, args, below, meth, c, A, Q⟩ := κ
  obtain ⟨hx, hb, hml, hown, hts, hK, hN, hlk, hA, hfr, hlo⟩ := C
  intro H locs ls hw hl
  have hq := pl_get (ε := ε) (h := h) ha
  rw [e] at hq
  refine va_put hx hb hts F.2.1 ty F.2.2.1 F.2.2.2 hown hK hw.1 hw.2.1 hw.2.2 a hq F.1 j hj (hts _ hlink) (fun x h9 => by rw [href]; exact h9) hfin (F.2.2.1 j hj) hn hfit hjl hd (fun H1 locs1 hP hD hS => ?_)
  rw [pl_set, hfs] at hP hD
  exact kk _ rfl H1 locs1 ls ⟨hP, hD, hS⟩ hl
theorem g_ald (C : Cx ε κ cc nL own d) {a N : Nat} {f : Nat → Int32} {i : Int32} (ha : a < NP) (e : h a = aI ε N f) (hi : vp_in i N) (hd : decode cc pc = .ok (.iaload, 1)) (kk : G ε κ k n (pc + 1) lv (.int (f i.toNatClampNeg) :: st) h) : G ε κ k n pc lv (.int i :: .ref (ad ε a) :: st) h := by
  obtain ⟨p, l, e0, R, s, m, args, below, meth, c, A, Q⟩ := κ
  obtain ⟨hx, hb, hml, hown, hts, hK, hN, hlk, hA, hfr, hlo⟩ := C
  intro H locs ls hw hl
  have hq := pl_get (ε := ε) (h := h) ha
  rw [e] at hq
  exact va_iald hx hb hK hw.1 a 0 hq rfl hi hd (kk H locs ls hw hl)
theorem g_zld (C : Cx ε κ cc nL own d) {a N : Nat} {f : Nat → Int32} {i : Int32} (ha : a < NP) (e : h a = aZ ε N f) (hi : vp_in i N) (hd : decode cc pc = .ok (.baload, 1)) (kk : G ε κ k n (pc + 1) lv (.int (f i.toNatClampNeg) :: st) h) : G ε κ k n pc lv (.int i :: .ref (ad ε a) :: st) h := by
  obtain ⟨p, l, e0, R, s, m, args, below, meth, c, A, Q⟩ := κ
  obtain ⟨hx, hb, hml, hown, hts, hK, hN, hlk, hA, hfr, hlo⟩ := C
  intro H locs ls hw hl
  have hq := pl_get (ε := ε) (h := h) ha
  rw [e] at hq
  exact va_zald hx hb hK hw.1 a 1 hq rfl hi hd (kk H locs ls hw hl)
theorem g_lld (C : Cx ε κ cc nL own d) {a N : Nat} {f : Nat → Int64} {i : Int32} (ha : a < NP) (e : h a = aJ ε N f) (hi : vp_in i N) (hd : decode cc pc = .ok (.laload, 1)) (kk : G ε κ k n (pc + 1) lv (.long (f i.toNatClampNeg) :: st) h) : G ε κ k n pc lv (.int i :: .ref (ad ε a) :: st) h := by
  obtain ⟨p, l, e0, R, s, m, args, below, meth, c, A, Q⟩ := κ
  obtain ⟨hx, hb, hml, hown, hts, hK, hN, hlk, hA, hfr, hlo⟩ := C
  intro H locs ls hw hl
  have hq := pl_get (ε := ε) (h := h) ha
  rw [e] at hq
  exact va_lald hx hb hK hw.1 a 2 hq rfl hi hd (kk H locs ls hw hl)
theorem g_ast (C : Cx ε κ cc nL own d) {a N : Nat} {f : Nat → Int32} {i x : Int32} (ha : a < NP) (e : h a = aI ε N f) (hi : vp_in i N) (hd : decode cc pc = .ok (.iastore, 1)) (kk : ∀ h1 : Hp, h1 = va_up h a (aI ε N (upd f i.toNatClampNeg x)) → G ε κ k n (pc + 1) lv st h1) : G ε κ k n pc lv (.int x :: .int i :: .ref (ad ε a) :: st) h := by
  obtain ⟨p, l, e0, R, s, m, args, below, meth, c, A, Q⟩ := κ
  obtain ⟨hx, hb, hml, hown, hts, hK, hN, hlk, hA, hfr, hlo⟩ := C
  intro H locs ls hw hl
  have hq := pl_get (ε := ε) (h := h) ha
  rw [e] at hq
  refine va_iast hx hb hK hw.1 hw.2.1 hw.2.2 a 0 hq rfl hi hd (fun H1 locs1 hP hD hS => ?_)
  rw [pl_set] at hP hD
  exact kk _ rfl H1 locs1 ls ⟨hP, hD, hS⟩ hl
theorem g_zst (C : Cx ε κ cc nL own d) {a N : Nat} {f : Nat → Int32} {i x : Int32} (ha : a < NP) (e : h a = aZ ε N f) (hi : vp_in i N) (hd : decode cc pc = .ok (.bastore, 1)) (kk : ∀ h1 : Hp, h1 = va_up h a (aZ ε N (upd f i.toNatClampNeg (vp_nar .boolean x))) → G ε κ k n (pc + 1) lv st h1) : G ε κ k n pc lv (.int x :: .int i :: .ref (ad ε a) :: st) h := by
  obtain ⟨p, l, e0, R, s, m, args, below, meth, c, A, Q⟩ := κ
  obtain ⟨hx, hb, hml, hown, hts, hK, hN, hlk, hA, hfr, hlo⟩ := C
  intro H locs ls hw hl
  have hq := pl_get (ε := ε) (h := h) ha
  rw [e] at hq
  refine va_zast hx hb hK hw.1 hw.2.1 hw.2.2 a 1 hq rfl hi hd (fun H1 locs1 hP hD hS => ?_)
  rw [pl_set] at hP hD
  exact kk _ rfl H1 locs1 ls ⟨hP, hD, hS⟩ hl
theorem g_lst (C : Cx ε κ cc nL own d) {a N : Nat} {f : Nat → Int64} {i : Int32} {x : Int64} (ha : a < NP) (e : h a = aJ ε N f) (hi : vp_in i N) (hd : decode cc pc = .ok (.lastore, 1)) (kk : ∀ h1 : Hp, h1 = va_up h a (aJ ε N (vp_updL f i.toNatClampNeg x)) → G ε κ k n (pc + 1) lv st h1) : G ε κ k n pc lv (.long x :: .int i :: .ref (ad ε a) :: st) h := by
  obtain ⟨p, l, e0, R, s, m, args, below, meth, c, A, Q⟩ := κ
  obtain ⟨hx, hb, hml, hown, hts, hK, hN, hlk, hA, hfr, hlo⟩ := C
  intro H locs ls hw hl
  have hq := pl_get (ε := ε) (h := h) ha
  rw [e] at hq
  refine va_last hx hb hK hw.1 hw.2.1 hw.2.2 a 2 hq rfl hi hd (fun H1 locs1 hP hD hS => ?_)
  rw [pl_set] at hP hD
  exact kk _ rfl H1 locs1 ls ⟨hP, hD, hS⟩ hl
theorem g_len (C : Cx ε κ cc nL own d) {a N : Nat} {f : Nat → Int32} {v : Int32} (ha : a < NP) (e : h a = aI ε N f) (hv : nI N = v) (hd : decode cc pc = .ok (.arraylength, 1)) (kk : G ε κ k n (pc + 1) lv (.int v :: st) h) : G ε κ k n pc lv (.ref (ad ε a) :: st) h := by
  obtain ⟨p, l, e0, R, s, m, args, below, meth, c, A, Q⟩ := κ
  obtain ⟨hx, hb, hml, hown, hts, hK, hN, hlk, hA, hfr, hlo⟩ := C
  intro H locs ls hw hl
  have hq := pl_get (ε := ε) (h := h) ha
  rw [e] at hq
  exact va_alen hx hb hK hw.1 a 0 hq rfl hv hd (kk H locs ls hw hl)
/-- Math.min, Math.max -/
theorem g_min (C : Cx ε κ cc nL own d) {index : Nat} {x y : Int32} (hd1 : 1 ≤ d) (hlink : Cond.methodLink own index Lib.Math.min.name ∈ TB) (hstat : Cond.static Lib.Math.min.name ∈ TB) (hini : Cond.initialized "java/lang/Math" ∈ TB) (hcode : Cond.code Lib.Math.min.name Lib.Math.min.code 2 (some .int) ∈ TB) (hst : (st.map fun v => v.category).sum ≤ 8) (hcn : k = 0 ∧ n = 0) (hd : decode cc pc = .ok (.invokestatic index, 3)) (kk : G ε κ k n (pc + 3) lv (.int (if y < x then y else x) :: st) h) : G ε κ k n pc lv (.int y :: .int x :: st) h := by
  obtain ⟨p, l, e0, R, s, m, args, below, meth, c, A, Q⟩ := κ
  obtain ⟨hx, hb, hml, hown, hts, hK, hN, hlk, hA, hfr, hlo⟩ := C
  intro H locs ls hw hl
  refine va_mmin hx hb hl.1.symm hown (hts _ hlink) (hts _ hstat) (hts _ hini) (hts _ hcode) (Nat.le_trans hd1 hfr) (by omega) (by rw [hcn.1]; exact Nat.zero_le _) (by rw [hcn.2]; exact Nat.zero_le _) hd (kk H locs ls hw hl)
/-- a method's room at depth d -/
def rmD (d mc ms : Nat) : Room := { frames := d, cells := mc, slots := ms, locals := 30 * d }
def Qg (ε : Et) (Post : Option Value → Hp → Prop) (A : Nat → Prop) : Array Value → State → Outcome → State → Prop := fun _ s oc t => (∃ (v : Option Value) (h' : Hp), oc = .returned v ∧ Post v h' ∧ va_P ε.1 vwCl (pl ε h') t.heap ∧ va_D A (pl ε h')) ∧ va_F A s t
def Pg (ε : Et) (av : List Value) (h : Hp) (sz : Nat) : Array Value → State → Prop := va_Pc av (fun U => U.heap.size = sz ∧ va_P ε.1 vwCl (pl ε h) U.heap ∧ va_K ε.1 vwCl (tyE ε) U ∧ Nst U ∧ va_D (fun _ => True) (pl ε h))
/-- a method's contract: called with av in the world h it returns v in a world h', with Post -/
def RM (l : Launch) (ε : Et) (y : MethodName) (cc : ByteArray) (nL : Nat) (ret : Option FieldType) (d mc ms : Nat) (av : List Value) (h : Hp) (Post : Option Value → Hp → Prop) : Prop :=
  ∀ sz : Nat, Met l y (.code y cc nL ret :: TB) (rmD d mc ms) (Pg ε av h sz) (Qg ε Post (va_A (pl ε h) sz)) mc ms (va_A (pl ε h) sz)
/-- how a body returns -/
def Ret (ε : Et) (κ : Kt) (cc : ByteArray) (ret : Option FieldType) (mc ms : Nat) (Post : Option Value → Hp → Prop) : Prop :=
  (ret = none → ∀ (pc : Nat) (lv : List (Nat × Value)) (h : Hp), decode cc pc = .ok (.return_, 1) → Post none h → G ε κ mc ms pc lv [] h) ∧
  (∀ (ty : FieldType) (pc : Nat) (lv : List (Nat × Value)) (h : Hp) (r : Int32), ret = some ty → decode cc pc = .ok (.ireturn, 1) → narrow ty (.int r) = .int r → Post (some (.int r)) h → G ε κ mc ms pc lv [.int r] h)
theorem RM.of {l : Launch} {y : MethodName} {ret : Option FieldType} {mc ms : Nat} {av : List Value} {Post : Option Value → Hp → Prop} (hy : plainName y.cls = true) (hav : (lg_sl av).length ≤ nL)
    (body : ∀ κ : Kt, Cx ε κ cc nL y.cls d → Ret ε κ cc ret mc ms Post → G ε κ 0 0 0 (lv_args 0 av) [] h) : RM l ε y cc nL ret d mc ms av h Post := by
  intro sz
  refine Met.ofW (cc := cc) (maxL := nL) (ret := ret) hy rfl ?_
  intro p e s m args below meth c s₁ B hml hv
  obtain ⟨rfl, hsz, hP, hK, hN, hD0⟩ := hv
  subst hsz
  have hts := atoms_spec (ws := .code y cc nL ret :: TB) B.pre
  have hD := hD0.self (sz := s.heap.size)
  have hA : ∀ q : Nat, s.heap.size ≤ q → va_A (pl ε h) s.heap.size q := fun q h => Or.inr h
  have hl := lv_entry av (n := nL) hav
  rw [lg_entry_eq]
  have hr := B.returns
  have hlk : meth.locks = false := B.notSynchronized
  refine body (p, l, e, _, s, m, av.toArray, below, meth, c, _, _) ⟨B.exec, B.bytes, hml, findClass_of_methodNamed B.named, fun w hw => hts w (List.mem_cons_of_mem _ hw), hK, hN, hlk, hA, Nat.le_refl _, Nat.le_refl _⟩ ⟨?_, ?_⟩ s.heap [] _ ⟨hP, hD, va_S.rf⟩ (by rw [hml]; exact hl)
  · intro hn pc lv h' hd hp H locs ls hw hl
    exact W.vret B.exec B.bytes (hr.trans hn) (fun t ht hW => ⟨⟨none, h', rfl, hp, by rw [ht]; exact hw.1, hw.2.1⟩, hw.2.2.F ht⟩) hw.2.2.2.2 hd
  · intro ty pc lv h' r hn hd hnar hp H locs ls hw hl
    exact W.zret B.exec B.bytes (hr.trans hn) hnar (fun t ht hW => ⟨⟨some (.int r), h', rfl, hp, by rw [ht]; exact hw.1, hw.2.1⟩, hw.2.2.F ht⟩) hw.2.2.2.2 hd
theorem fblind {av : List Value} {sz : Nat} : FrameBlind (Pg ε av h sz) := fun a U g mk q => by
  obtain ⟨q0, q1, qP, qK, qN, qD⟩ := q
  exact ⟨q0, q1, qP, va_K.moved (u := U) (U := U.calling g mk a) (Vm.Alike.refl U.vm) qK, fun z hz => va_Nw.same rfl (u := U) (U := U.calling g mk a) rfl (qN z hz), qD⟩
theorem g_after {p : Program} {l : Launch} {e : Env} {R : Room} {s : State} {m : MethodId} {args : Array Value} {below : List Frame} {meth : Method} {c : Code} {A : Nat → Prop} {Q : State → Prop} {H : Heap} {locs : List Loc} {ls : Array Slot} {st0 rest : List Value} {a : Array Value} {mc ms : Nat} {Post : Option Value → Hp → Prop}
    (hA : ∀ q : Nat, s.heap.size ≤ q → A q) (hw : Wd ε A s.heap h H locs) (hl : lv_has ls c.maxLocals lv)
    (hr : va_Run p l e R s m args below meth c H locs k n mc ms (F0 m pc ls st0) rest (Qg ε Post (va_A (pl ε h) H.size) a) (va_A (pl ε h) H.size))
    (kk : ∀ (v : Option Value) (h1 : Hp), Post v h1 → G ε (p, l, e, R, s, m, args, below, meth, c, A, Q) (k + mc) (n + ms) (pc + 3) lv (v.toList ++ rest) h1) : W p l e R s m args below meth c H locs k n Q (F0 m pc ls st0) := by
  have hf : ∀ q, va_A (pl ε h) H.size q → A q := fun q hq => hq.elim (fun ⟨i, e9, h9⟩ => hw.2.1.2 i _ h9) (fun h9 => hA q (Nat.le_trans hw.2.2.1 h9))
  intro T hT X
  obtain ⟨v, st₀, t, T', L, h0, X', hL, e1, e2, ⟨⟨v', h1, hv, hp, hP1, hD1⟩, hz, hk⟩, stp⟩ := hr T hT X
  cases hv
  rw [h0] at hz hk
  have hS := hw.2.2
  obtain ⟨t2, a1, b1⟩ := kk v h1 hp T'.heap (locs ++ L) ls ⟨by rw [e1]; exact hP1, hD1.weaken (fun _ _ _ h9 => hf _ h9), ⟨Nat.le_trans hS.1 (by rw [e1]; exact hz), fun q h1 h2 => by rw [e1, hk q (Nat.lt_of_lt_of_le h1 hS.1) (fun z => h2 (hf q z))]; exact hS.2.1 q h1 h2, fun q hq => by
      rcases List.mem_append.mp hq with h | h
      · exact hS.2.2 q h
      · exact hf _ (hL q h)⟩⟩ hl T' rfl X'
  exact ⟨t2, stp t2 a1, b1⟩
theorem g_call (C : Cx ε κ cc nL own d) {y : MethodName} {bytes : ByteArray} {maxL d' mc ms b ci index np : Nat} {ret : Option FieldType} {As rest st0 : List Value} {fs : List Value} {T : u_T} {N : Nat} {Post : Option Value → Hp → Prop}
    (hM : RM κ.2.1 ε y bytes maxL ret d' mc ms (.ref (ad ε b) :: As) h Post) (hw9 : Wv own index y bytes maxL ret np) (hdp : d' < d) (hb9 : b < NP) (he : h b = .inr (ci, fs)) (hci : vwCl[ci]? = some (y.cls, T, N)) (hn : As.length = np) (hst : st0 = As.reverse ++ .ref (ad ε b) :: rest) (hcat : (rest.map fun v => v.category).sum ≤ 8) (hroom : k + mc ≤ κ.2.2.2.1.cells ∧ n + ms ≤ κ.2.2.2.1.slots) (hd : decode cc pc = .ok (.invokevirtual index, 3))
    (kk : ∀ (v : Option Value) (h1 : Hp), Post v h1 → G ε κ (k + mc) (n + ms) (pc + 3) lv (v.toList ++ rest) h1) : G ε κ k n pc lv st0 h := by
  obtain ⟨p, l, e0, R, s, m, args, below, meth, c, A, Q⟩ := κ
  obtain ⟨hx, hb, hml, hown, hts, hK, hN, hlk, hA, hfr, hlo⟩ := C
  intro H locs ls hw hl
  obtain ⟨w1, w2, w3, w4, w5, w6, w7⟩ := hw9
  have hq := pl_get (ε := ε) (h := h) hb9
  rw [he] at hq
  have hG : GoodIn TB (.code y bytes maxL ret :: TB) := tb_goodc w5
  refine g_after hA hw hl (va_runV (Ts := TB) (As := As) (rest := rest) (C := y.cls) (b := ad ε b) ⟨hx, hb, hml, hown, hts⟩ (hM H.size) ⟨callB_of np hts hG rfl rfl rfl (hts _ w4) (hts _ w1) w7 ⟨Nat.le_trans hdp hfr, ?_⟩, hts _ w2, hts _ w3⟩ ⟨fblind, va_recv hK hw.1 hci hq, fun U hU hW => ⟨rfl, by rw [hU], by rw [hU]; exact hw.1, va_K.moved hW.alike hK, fun z hz => va_Nw.warmM hW (hN z hz), hw.2.1.weaken (fun _ _ _ _ => trivial)⟩⟩ rfl hn (hl.1.trans hml) hst (lv_room hcat) hd hroom) kk
  show 8 + (maxL + 11) + 30 * d' ≤ R.locals
  omega
theorem g_callS (C : Cx ε κ cc nL own d) {y : MethodName} {bytes : ByteArray} {maxL d' mc ms index np : Nat} {ret : Option FieldType} {As rest st0 : List Value} {Post : Option Value → Hp → Prop}
    (hM : RM κ.2.1 ε y bytes maxL ret d' mc ms As h Post) (hw9 : Wst own index y bytes maxL ret np) (hdp : d' < d) (hn : As.length = np) (hst : st0 = As.reverse ++ rest) (hcat : (rest.map fun v => v.category).sum ≤ 8) (hroom : k + mc ≤ κ.2.2.2.1.cells ∧ n + ms ≤ κ.2.2.2.1.slots) (hd : decode cc pc = .ok (.invokestatic index, 3))
    (kk : ∀ (v : Option Value) (h1 : Hp), Post v h1 → G ε κ (k + mc) (n + ms) (pc + 3) lv (v.toList ++ rest) h1) : G ε κ k n pc lv st0 h := by
  obtain ⟨p, l, e0, R, s, m, args, below, meth, c, A, Q⟩ := κ
  obtain ⟨hx, hb, hml, hown, hts, hK, hN, hlk, hA, hfr, hlo⟩ := C
  intro H locs ls hw hl
  obtain ⟨w1, w2, w4, w5, w6, w7⟩ := hw9
  have hG : GoodIn TB (.code y bytes maxL ret :: TB) := tb_goodc w5
  refine g_after hA hw hl (va_runS (Ts := TB) (As := As) (rest := rest) ⟨hx, hb, hml, hown, hts⟩ (hM H.size) ⟨callB_of np hts hG rfl rfl rfl (hts _ w4) (hts _ w1) w7 ⟨Nat.le_trans hdp hfr, ?_⟩, hts _ w2⟩ ⟨fblind, fun U hU hW => ⟨rfl, by rw [hU], by rw [hU]; exact hw.1, va_K.moved hW.alike hK, fun z hz => va_Nw.warmM hW (hN z hz), hw.2.1.weaken (fun _ _ _ _ => trivial)⟩⟩ rfl hn (hl.1.trans hml) hst (lv_room hcat) hd hroom) kk
  show 8 + (maxL + 11) + 30 * d' ≤ R.locals
  omega
theorem g_callN (C : Cx ε κ cc nL own d) {y : MethodName} {bytes : ByteArray} {maxL d' mc ms index np : Nat} {ret : Option FieldType} {As rest st0 : List Value} {Post : Option Value → Hp → Prop}
    (hM : RM κ.2.1 ε y bytes maxL ret d' mc ms As h Post) (hw9 : Wsn own index y bytes maxL ret np) (hdp : d' < d) (hn : As.length = np) (hst : st0 = As.reverse ++ rest) (hcat : (rest.map fun v => v.category).sum ≤ 8) (hroom : k + mc ≤ κ.2.2.2.1.cells ∧ n + ms ≤ κ.2.2.2.1.slots) (hd : decode cc pc = .ok (.invokestatic index, 3))
    (kk : ∀ (v : Option Value) (h1 : Hp), Post v h1 → G ε κ (k + mc) (n + ms) (pc + 3) lv (v.toList ++ rest) h1) : G ε κ k n pc lv st0 h := by
  obtain ⟨p, l, e0, R, s, m, args, below, meth, c, A, Q⟩ := κ
  obtain ⟨hx, hb, hml, hown, hts, hK, hN, hlk, hA, hfr, hlo⟩ := C
  intro H locs ls hw hl
  obtain ⟨w1, w2, w4, w5, w6, w7⟩ := hw9
  have hG : GoodIn TB (.code y bytes maxL ret :: TB) := tb_goodc w5
  refine g_after hA hw hl (va_runSN (Ts := TB) (As := As) (rest := rest) ⟨hx, hb, hml, hown, hts⟩ (hM H.size) ⟨va_cnB np hts hG rfl rfl rfl (hN _ w1) (hts _ w4) w7 ⟨Nat.le_trans hdp hfr, ?_⟩, hts _ w2, trivial⟩ ⟨fblind, fun U hU hW => ⟨rfl, by rw [hU], by rw [hU]; exact hw.1, va_K.moved hW.alike hK, fun z hz => va_Nw.warmM hW (hN z hz), hw.2.1.weaken (fun _ _ _ _ => trivial)⟩⟩ rfl hn (hl.1.trans hml) hst (lv_room hcat) hd hroom) kk
  show 8 + (maxL + 11) + 30 * d' ≤ R.locals
  omega
theorem g_call0 (C : Cx ε κ cc nL own d) {y : MethodName} {bytes : ByteArray} {maxL d' b ci index np : Nat} {ret : Option FieldType} {As rest st0 : List Value} {fs : List Value} {T : u_T} {N : Nat} {Post : Option Value → Hp → Prop}
    (hM : RM κ.2.1 ε y bytes maxL ret d' 0 0 (.ref (ad ε b) :: As) h Post) (hw9 : Wv own index y bytes maxL ret np) (hdp : d' < d) (hb9 : b < NP) (he : h b = .inr (ci, fs)) (hci : vwCl[ci]? = some (y.cls, T, N)) (hn : As.length = np) (hst : st0 = As.reverse ++ .ref (ad ε b) :: rest) (hcat : (rest.map fun v => v.category).sum ≤ 8) (hd : decode cc pc = .ok (.invokevirtual index, 3))
    (kk : ∀ (v : Option Value) (h1 : Hp), Post v h1 → G ε κ 0 0 (pc + 3) lv (v.toList ++ rest) h1) : G ε κ 0 0 pc lv st0 h := g_call C hM hw9 hdp hb9 he hci hn hst hcat ⟨Nat.zero_le _, Nat.zero_le _⟩ hd kk
theorem g_callS0 (C : Cx ε κ cc nL own d) {y : MethodName} {bytes : ByteArray} {maxL d' index np : Nat} {ret : Option FieldType} {As rest st0 : List Value} {Post : Option Value → Hp → Prop}
    (hM : RM κ.2.1 ε y bytes maxL ret d' 0 0 As h Post) (hw9 : Wst own index y bytes maxL ret np) (hdp : d' < d) (hn : As.length = np) (hst : st0 = As.reverse ++ rest) (hcat : (rest.map fun v => v.category).sum ≤ 8) (hd : decode cc pc = .ok (.invokestatic index, 3))
    (kk : ∀ (v : Option Value) (h1 : Hp), Post v h1 → G ε κ 0 0 (pc + 3) lv (v.toList ++ rest) h1) : G ε κ 0 0 pc lv st0 h := g_callS C hM hw9 hdp hn hst hcat ⟨Nat.zero_le _, Nat.zero_le _⟩ hd kk
theorem g_callN0 (C : Cx ε κ cc nL own d) {y : MethodName} {bytes : ByteArray} {maxL d' index np : Nat} {ret : Option FieldType} {As rest st0 : List Value} {Post : Option Value → Hp → Prop}
    (hM : RM κ.2.1 ε y bytes maxL ret d' 0 0 As h Post) (hw9 : Wsn own index y bytes maxL ret np) (hdp : d' < d) (hn : As.length = np) (hst : st0 = As.reverse ++ rest) (hcat : (rest.map fun v => v.category).sum ≤ 8) (hd : decode cc pc = .ok (.invokestatic index, 3))
    (kk : ∀ (v : Option Value) (h1 : Hp), Post v h1 → G ε κ 0 0 (pc + 3) lv (v.toList ++ rest) h1) : G ε κ 0 0 pc lv st0 h := g_callN C hM hw9 hdp hn hst hcat ⟨Nat.zero_le _, Nat.zero_le _⟩ hd kk
theorem g_pick (kk : G ε κ k n pc lv' st h) (is : List Nat) (hq : lv_pick lv is = lv') : G ε κ k n pc lv st h := by
  obtain ⟨p, l, e, R, s, m, args, below, meth, c, A, Q⟩ := κ
  intro H locs ls hw hl
  exact kk H locs ls hw (lv_sub hl is hq)
theorem G.topi {x : Int32} (kk : ∀ y : Int32, y = x → G ε κ k n pc lv (.int y :: st) h) : G ε κ k n pc lv (.int x :: st) h := kk x rfl
theorem G.eqi {x y : Int32} (e : x = y) (kk : G ε κ k n pc lv (.int y :: st) h) : G ε κ k n pc lv (.int x :: st) h := e ▸ kk
end GK
