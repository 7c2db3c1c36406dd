section CT
/-- as G, over a list of cells -/
def GL (ε : Et) (κ : Kt) (k n pc : Nat) (lv : List (Nat × Value)) (st : List Value) (ws : va_W) : Prop := match κ with
  | (p, l, e, R, s, m, args, below, meth, c, A, Q) => ∀ (H : Heap) (locs : List Loc) (ls : Array Slot), va_P ε.1 vwCl ws H → va_D A ws → va_S A s.heap H locs → lv_has ls c.maxLocals lv → W p l e R s m args below meth c H locs k n Q (F0 m pc ls st)
def Kin (κ : Kt) : Prop := match κ with
  | (_, _, _, _, _, _, _, _, meth, _, _, _) => meth.name = "<init>"
variable {ε : Et} {κ : Kt} {cc : ByteArray} {nL d : Nat} {own : String} {k n pc : Nat} {lv : List (Nat × Value)} {st : List Value} {ws : va_W}
theorem gl_iload_n (C : Cx ε κ cc nL own d) {k0 : Fin 4} {i : Nat} {x : Int32} (hd : decode cc pc = .ok (.iload_n k0, 1)) (hi : (k0 : Nat) = i) (j : Nat) (hj : lv[j]? = some (i, .int x)) (kk : GL ε κ k n (pc + 1) lv (.int x :: st) ws) : GL ε κ k n pc lv st ws := by
  obtain ⟨p, l, e0, R, s, m, args, below, meth, c, A, Q⟩ := κ
  obtain ⟨hx, hb, hml, hown, hts, hK, hN, hlk, hA, hfr, hlo⟩ := C
  intro H locs ls hP hD hS hl
  exact lv_iload_n hx hb hd hi (lv_at hl j hj) (kk H locs ls hP hD hS hl)
theorem gl_aload_n (C : Cx ε κ cc nL own d) {k0 : Fin 4} {i : Nat} {x : Nat} (hd : decode cc pc = .ok (.aload_n k0, 1)) (hi : (k0 : Nat) = i) (j : Nat) (hj : lv[j]? = some (i, .ref x)) (kk : GL ε κ k n (pc + 1) lv (.ref x :: st) ws) : GL ε κ k n pc lv st ws := by
  obtain ⟨p, l, e0, R, s, m, args, below, meth, c, A, Q⟩ := κ
  obtain ⟨hx, hb, hml, hown, hts, hK, hN, hlk, hA, hfr, hlo⟩ := C
  intro H locs ls hP hD hS hl
  exact lv_aload_n hx hb hd hi (lv_at hl j hj) (kk H locs ls hP hD hS hl)
theorem gl_iconst (C : Cx ε κ cc nL own d) {i : Int} {v : Int32} (hd : decode cc pc = .ok (.iconst i, 1)) (hv : Int32.ofInt i = v) (kk : GL ε κ k n (pc + 1) lv (.int v :: st) ws) : GL ε κ k n pc lv st ws := by
  obtain ⟨p, l, e0, R, s, m, args, below, meth, c, A, Q⟩ := κ
  obtain ⟨hx, hb, hml, hown, hts, hK, hN, hlk, hA, hfr, hlo⟩ := C
  intro H locs ls hP hD hS hl
  exact lv_iconst hx hb hd hv (kk H locs ls hP hD hS hl)
theorem gl_bipush (C : Cx ε κ cc nL own d) {i : Int} {v : Int32} (hd : decode cc pc = .ok (.bipush i, 2)) (hv : (Int8.ofInt i).toInt32 = v) (kk : GL ε κ k n (pc + 2) lv (.int v :: st) ws) : GL ε κ k n pc lv st ws := by
  obtain ⟨p, l, e0, R, s, m, args, below, meth, c, A, Q⟩ := κ
  obtain ⟨hx, hb, hml, hown, hts, hK, hN, hlk, hA, hfr, hlo⟩ := C
  intro H locs ls hP hD hS hl
  exact lv_bipush hx hb hd hv (kk H locs ls hP hD hS hl)
theorem gl_sipush (C : Cx ε κ cc nL own d) {i : Int} {v : Int32} (hd : decode cc pc = .ok (.sipush i, 3)) (hv : (Int16.ofInt i).toInt32 = v) (kk : GL ε κ k n (pc + 3) lv (.int v :: st) ws) : GL ε κ k n pc lv st ws := by
  obtain ⟨p, l, e0, R, s, m, args, below, meth, c, A, Q⟩ := κ
  obtain ⟨hx, hb, hml, hown, hts, hK, hN, hlk, hA, hfr, hlo⟩ := C
  intro H locs ls hP hD hS hl
  exact lv_sipush hx hb hd hv (kk H locs ls hP hD hS hl)
theorem gl_dup (C : Cx ε κ cc nL own d) {va : Value} (hd : decode cc pc = .ok (.dup, 1)) (hva : va.category = 1) (kk : GL ε κ k n (pc + 1) lv (va :: va :: st) ws) : GL ε κ k n pc lv (va :: st) ws := by
  obtain ⟨p, l, e0, R, s, m, args, below, meth, c, A, Q⟩ := κ
  obtain ⟨hx, hb, hml, hown, hts, hK, hN, hlk, hA, hfr, hlo⟩ := C
  intro H locs ls hP hD hS hl
  exact lv_dup hx hb hd hva (kk H locs ls hP hD hS hl)
set_option maxRecDepth 20000 in
theorem ob_i : Cond.instanceMethod Lib.objectInit ∈ TB := tb_in (i := 90) rfl rfl
set_option maxRecDepth 20000 in
theorem ob_c : Cond.code Lib.objectInit ⟨#[0xb1]⟩ 1 none ∈ TB := tb_in (i := 91) rfl rfl
theorem gl_obj (C : Cx ε κ cc nL own d) {a idx : Nat} (hlink : Cond.methodLink own idx Lib.objectInit ∈ TB) (hd1 : 1 ≤ d) (hd : decode cc pc = .ok (.invokespecial idx, 3)) (kk : GL ε κ k n (pc + 3) lv [] ws) : GL ε κ k n pc lv [.ref a] ws := by
  obtain ⟨p, l, e0, R, s, m, args, below, meth, c, A, Q⟩ := κ
  obtain ⟨hx, hb, hml, hown, hts, hK, hN, hlk, hA, hfr, hlo⟩ := C
  intro H locs ls hP hD hS hl
  exact W.objInit hx hb hown (hts _ hlink) (hts _ ob_i) (hts _ ob_c) rfl hl.1 rfl hd (Nat.le_trans hd1 hfr) (by show 0 + 0 + 12 ≤ R.locals; omega) (kk H locs ls hP hD hS hl)
theorem gl_new (C : Cx ε κ cc nL own d) {ci index : Nat} {R0 : String} {T : u_T} {N : Nat} {ty : Nat → FieldType} (fs : List Value) (F : Fk ci R0 T N ty) (hcl : Cond.classLink own index R0 ∈ TB) (hinst : Cond.instantiable R0 N ∈ TB) (hini : Cond.initialized R0 ∈ TB) (hfs : ∀ j, j < N → defaultValue (ty j) = vp_V fs j) (hr : k + 1 ≤ κ.2.2.2.1.cells ∧ n + N ≤ κ.2.2.2.1.slots) (hd : decode cc pc = .ok (.new index, 3)) (kk : ∀ q : Nat, GL ε κ (k + 1) (n + N) (pc + 3) lv (.ref q :: st) (ws ++ [(q, .inr (ci, fs))])) : GL ε κ k n pc lv st ws := by
  obtain ⟨p, l, e0, R, s, m, args, below, meth, c, A, Q⟩ := κ
  obtain ⟨hx, hb, hml, hown, hts, hK, hN, hlk, hA, hfr, hlo⟩ := C
  intro H locs ls hP hD hS hl
  exact va_new hx hb hts F.2.1 ty F.2.2.1 hown (hts _ hcl) (hts _ hinst) (hts _ hini) hK hP hD hS hA F.1 hfs hr.1 hr.2 hd (fun q H1 hP hD hS => kk q H1 locs ls hP hD hS hl)
set_option maxRecDepth 20000 in
theorem ac_int : Cond.arrayClass .int ∈ TB := tb_in (i := 108) rfl rfl
theorem gl_newa_int (C : Cx ε κ cc nL own d) {N : Nat} {v : Int32} (hv : v = nI N) (hN : N ≤ 20000) (hr : k + 1 ≤ κ.2.2.2.1.cells ∧ n + N ≤ κ.2.2.2.1.slots) (hd : decode cc pc = .ok (.newarray .int, 2)) (kk : ∀ q : Nat, GL ε κ (k + 1) (n + N) (pc + 2) lv (.ref q :: st) (ws ++ [(q, aI ε N (fun _ => 0))])) : GL ε κ k n pc lv (.int v :: st) ws := by
  obtain ⟨p, l, e0, R, s, m, args, below, meth, c, A, Q⟩ := κ
  obtain ⟨hx, hb, hml, hown, hts, hK, hN, hlk, hA, hfr, hlo⟩ := C
  intro H locs ls hP hD hS hl
  subst hv
  refine va_newa (atype := .int) (ty := .int) (a0 := (N, .inl (fun _ => 0))) hx hb (hts _ ac_int) rfl hK hP hD hS hA (fun _ => rfl) (nI_pos (by omega)) (nI_clamp (by omega)) (show N * 4 ≤ 536870912 by omega) hr.1 hr.2 hd (fun q cA H1 hK1 hP hD hS => ?_)
  have e1 : s.vm.findClass ("[" ++ (FieldType.int).toString) = some cA := (hK1.2 3 (cA, .int) rfl).2
  have e2 : s.vm.findClass ("[" ++ (FieldType.int).toString) = some ε.2.1 := (hK.2 0 _ rfl).2
  obtain rfl := Option.some.inj (e1.symm.trans e2)
  exact kk q H1 locs ls hP hD hS hl
set_option maxRecDepth 20000 in
theorem ac_boolean : Cond.arrayClass .boolean ∈ TB := tb_in (i := 249) rfl rfl
theorem gl_newa_boolean (C : Cx ε κ cc nL own d) {N : Nat} {v : Int32} (hv : v = nI N) (hN : N ≤ 20000) (hr : k + 1 ≤ κ.2.2.2.1.cells ∧ n + N ≤ κ.2.2.2.1.slots) (hd : decode cc pc = .ok (.newarray .boolean, 2)) (kk : ∀ q : Nat, GL ε κ (k + 1) (n + N) (pc + 2) lv (.ref q :: st) (ws ++ [(q, aZ ε N (fun _ => 0))])) : GL ε κ k n pc lv (.int v :: st) ws := by
  obtain ⟨p, l, e0, R, s, m, args, below, meth, c, A, Q⟩ := κ
  obtain ⟨hx, hb, hml, hown, hts, hK, hN, hlk, hA, hfr, hlo⟩ := C
  intro H locs ls hP hD hS hl
  subst hv
  refine va_newa (atype := .boolean) (ty := .boolean) (a0 := (N, .inl (fun _ => 0))) hx hb (hts _ ac_boolean) rfl hK hP hD hS hA (fun _ => rfl) (nI_pos (by omega)) (nI_clamp (by omega)) (show N * 1 ≤ 536870912 by omega) hr.1 hr.2 hd (fun q cA H1 hK1 hP hD hS => ?_)
  have e1 : s.vm.findClass ("[" ++ (FieldType.boolean).toString) = some cA := (hK1.2 3 (cA, .boolean) rfl).2
  have e2 : s.vm.findClass ("[" ++ (FieldType.boolean).toString) = some ε.2.2.1 := (hK.2 1 _ rfl).2
  obtain rfl := Option.some.inj (e1.symm.trans e2)
  exact kk q H1 locs ls hP hD hS hl
set_option maxRecDepth 20000 in
theorem ac_long : Cond.arrayClass .long ∈ TB := tb_in (i := 1251) rfl rfl
theorem gl_newa_long (C : Cx ε κ cc nL own d) {N : Nat} {v : Int32} (hv : v = nI N) (hN : N ≤ 20000) (hr : k + 1 ≤ κ.2.2.2.1.cells ∧ n + N ≤ κ.2.2.2.1.slots) (hd : decode cc pc = .ok (.newarray .long, 2)) (kk : ∀ q : Nat, GL ε κ (k + 1) (n + N) (pc + 2) lv (.ref q :: st) (ws ++ [(q, aJ ε N (fun _ => 0))])) : GL ε κ k n pc lv (.int v :: st) ws := by
  obtain ⟨p, l, e0, R, s, m, args, below, meth, c, A, Q⟩ := κ
  obtain ⟨hx, hb, hml, hown, hts, hK, hN, hlk, hA, hfr, hlo⟩ := C
  intro H locs ls hP hD hS hl
  subst hv
  refine va_newa (atype := .long) (ty := .long) (a0 := (N, .inr (.inl (fun _ => 0)))) hx hb (hts _ ac_long) rfl hK hP hD hS hA (fun _ => rfl) (nI_pos (by omega)) (nI_clamp (by omega)) (show N * 8 ≤ 536870912 by omega) hr.1 hr.2 hd (fun q cA H1 hK1 hP hD hS => ?_)
  have e1 : s.vm.findClass ("[" ++ (FieldType.long).toString) = some cA := (hK1.2 3 (cA, .long) rfl).2
  have e2 : s.vm.findClass ("[" ++ (FieldType.long).toString) = some ε.2.2.2.1 := (hK.2 2 _ rfl).2
  obtain rfl := Option.some.inj (e1.symm.trans e2)
  exact kk q H1 locs ls hP hD hS hl
theorem gl_put (C : Cx ε κ cc nL own d) {ci a index : Nat} {R0 ref : String} {T : u_T} {N : Nat} {ty : Nat → FieldType} {fs : List Value} (q0 j : Nat) {v : Value} (F : Fk ci R0 T N ty) (hj : j < N) (hlink : Cond.fieldLink own index ref (T j).2.1 (T j).2.2.1 ∈ TB) (href : ref = (T j).1) (e : ws[q0]? = some (a, .inr (ci, fs))) (hfin : (T j).2.2.2 = false) (hn : narrow (ty j) v = v) (hfit : fits (ty j) v = true) (hjl : j < fs.length) (hd : decode cc pc = .ok (.putfield index, 3)) (kk : GL ε κ k n (pc + 3) lv st (ws.set q0 (a, .inr (ci, fs.set j v)))) : GL ε κ k n pc lv (v :: .ref a :: st) ws := by
  obtain ⟨p, l, e0, R, s, m, args, below, meth, c, A, Q⟩ := κ
  obtain ⟨hx, hb, hml, hown, hts, hK, hN, hlk, hA, hfr, hlo⟩ := C
  intro H locs ls hP hD hS hl
  exact va_put hx hb hts F.2.1 ty F.2.2.1 F.2.2.2 hown hK hP hD hS q0 e F.1 j hj (hts _ hlink) (fun x h9 => by rw [href]; exact h9) hfin (F.2.2.1 j hj) hn hfit hjl hd (fun H1 locs1 hP hD hS => kk H1 locs1 ls hP hD hS hl)
theorem gl_putF (C : Cx ε κ cc nL own d) (hki : Kin κ) {ci a index : Nat} {R0 ref : String} {T : u_T} {N : Nat} {ty : Nat → FieldType} {fs : List Value} (q0 j : Nat) {v : Value} (F : Fk ci R0 T N ty) (hj : j < N) (hlink : Cond.fieldLink own index ref (T j).2.1 (T j).2.2.1 ∈ TB) (href : ref = (T j).1) (hdc : (T j).1 = own) (e : ws[q0]? = some (a, .inr (ci, fs))) (hfin : (T j).2.2.2 = true) (hn : narrow (ty j) v = v) (hfit : fits (ty j) v = true) (hjl : j < fs.length) (hd : decode cc pc = .ok (.putfield index, 3)) (kk : GL ε κ k n (pc + 3) lv st (ws.set q0 (a, .inr (ci, fs.set j v)))) : GL ε κ k n pc lv (v :: .ref a :: st) ws := by
  obtain ⟨p, l, e0, R, s, m, args, below, meth, c, A, Q⟩ := κ
  obtain ⟨hx, hb, hml, hown, hts, hK, hN, hlk, hA, hfr, hlo⟩ := C
  intro H locs ls hP hD hS hl
  exact va_putF hx hb hts F.2.1 ty F.2.2.1 F.2.2.2 hown hK hP hD hS q0 e F.1 j hj (hts _ hlink) (fun x h9 => by rw [href]; exact h9) hfin hki hdc (F.2.2.1 j hj) hn hfit hjl hd (fun H1 locs1 hP hD hS => kk H1 locs1 ls hP hD hS hl)
theorem gl_max (C : Cx ε κ cc nL own d) {index : Nat} {x y v : Int32} (hd1 : 1 ≤ d) (hlink : Cond.methodLink own index Lib.Math.max.name ∈ TB) (hst : (st.map fun v => v.category).sum ≤ 8) (hr : k ≤ κ.2.2.2.1.cells ∧ n ≤ κ.2.2.2.1.slots) (hv : (if x < y then y else x) = v) (hd : decode cc pc = .ok (.invokestatic index, 3)) (kk : GL ε κ k n (pc + 3) lv (.int v :: st) ws) : GL ε κ k n pc lv (.int y :: .int x :: st) ws := by
  obtain ⟨p, l, e0, R, s, m, args, below, meth, c, A, Q⟩ := κ
  obtain ⟨hx, hb, hml, hown, hts, hK, hN, hlk, hA, hfr, hlo⟩ := C
  intro H locs ls hP hD hS hl
  subst hv
  exact va_mmax hx hb hl.1.symm hown (hts _ hlink) (hts _ wms_max) (hts _ wmi) (hts _ wmc_max) (Nat.le_trans hd1 hfr) (by omega) hr.1 hr.2 hd (kk H locs ls hP hD hS hl)
/-- a constructor's contract: in a world of its object alone; nn cells come, at addresses qs; then the world is Wf qs -/
def Pc0 (ε : Et) (av : List Value) (w0 : va_W) (sz : Nat) : Array Value → State → Prop := va_Pc av (fun U => U.heap.size = sz ∧ va_P ε.1 vwCl w0 U.heap ∧ va_K ε.1 vwCl (tyE ε) U ∧ Nst U ∧ va_D (fun _ => True) w0)
def Qc0 (ε : Et) (Wf : List Nat → va_W) (nn : Nat) (A : Nat → Prop) : Array Value → State → Outcome → State → Prop := fun _ s oc t => (∃ qs : List Nat, oc = .returned none ∧ qs.length = nn ∧ va_P ε.1 vwCl (Wf qs) t.heap ∧ va_D A (Wf qs)) ∧ va_F A s t
def RC (l : Launch) (ε : Et) (y : MethodName) (cc : ByteArray) (nL d mc ms : Nat) (av : List Value) (w0 : va_W) (Wf : List Nat → va_W) (nn : Nat) : Prop :=
  ∀ sz : Nat, Met l y (.code y cc nL none :: TB) (rmD d mc ms) (Pc0 ε av w0 sz) (Qc0 ε Wf nn (va_A w0 sz)) mc ms (va_A w0 sz)
theorem fblind0 {av : List Value} {w0 : va_W} {sz : Nat} : FrameBlind (Pc0 ε av w0 sz) := fun a U g mk q => by
  obtain ⟨q0, q1, qP, qK, qN, qD⟩ := q
  exact ⟨q0, q1, qP, va_K.moved (u := U) (U := U.calling g mk a) (Vm.Alike.refl U.vm) qK, fun z hz => va_Nw.same rfl (u := U) (U := U.calling g mk a) rfl (qN z hz), qD⟩
theorem RC.of {l : Launch} {y : MethodName} {mc ms nn : Nat} {av : List Value} {w0 : va_W} {Wf : List Nat → va_W} (hy : plainName y.cls = true) (hyi : y.name = "<init>") (hav : (lg_sl av).length ≤ nL)
    (body : ∀ κ : Kt, κ.2.1 = l → κ.2.2.2.1 = rmD d mc ms → Cx ε κ cc nL y.cls d → Kin κ → (∀ (pc : Nat) (lv : List (Nat × Value)) (qs : List Nat), decode cc pc = .ok (.return_, 1) → qs.length = nn → GL ε κ mc ms pc lv [] (Wf qs)) → GL ε κ 0 0 0 (lv_args 0 av) [] w0) : RC l ε y cc nL d mc ms av w0 Wf nn := by
  intro sz
  refine Met.ofW (cc := cc) (maxL := nL) (ret := none) hy rfl ?_
  intro p e s m args below meth c s₁ B hml hv
  obtain ⟨rfl, hsz, hP, hK, hN, hD0⟩ := hv
  subst hsz
  have hts := atoms_spec (ws := .code y cc nL none :: TB) B.pre
  have hD := hD0.self (sz := s.heap.size)
  have hA : ∀ q : Nat, s.heap.size ≤ q → va_A w0 s.heap.size q := fun q h => Or.inr h
  have hl := lv_entry av (n := nL) hav
  have hin : meth.name = "<init>" := ((name_of_methodNamed B.named B.method).1).trans hyi
  rw [lg_entry_eq]
  have hr := B.returns
  have hlk : meth.locks = false := B.notSynchronized
  refine body (p, l, e, _, s, m, av.toArray, below, meth, c, _, _) rfl rfl ⟨B.exec, B.bytes, hml, findClass_of_methodNamed B.named, fun w hw => hts w (List.mem_cons_of_mem _ hw), hK, hN, hlk, hA, Nat.le_refl _, Nat.le_refl _⟩ hin ?_ s.heap [] _ hP hD va_S.rf (by rw [hml]; exact hl)
  intro pc lv qs hd hq H locs ls hP hD hS hl
  exact W.vret B.exec B.bytes hr (fun t ht hW => ⟨⟨qs, rfl, hq, by rw [ht]; exact hP, hD⟩, hS.F ht⟩) hS.2.2 hd
/-- behind a constructor's call: the other cells, and the new object's world -/
theorem gl_after {p : Program} {l : Launch} {e : Env} {R : Room} {s : State} {m : MethodId} {args : Array Value} {below : List Frame} {meth : Method} {c : Code} {A : Nat → Prop} {Q : State → Prop} {H : Heap} {locs : List Loc} {ls : Array Slot} {st0 rest : List Value} {a : Array Value} {mc ms nn h0 : Nat} {c0 : va_E} {wr : va_W} {Wf : List Nat → va_W}
    (hA : ∀ q : Nat, s.heap.size ≤ q → A q) (hP : va_P ε.1 vwCl (wr ++ [(h0, c0)]) H) (hD : va_D A (wr ++ [(h0, c0)])) (hS : va_S A s.heap H locs) (hl : lv_has ls c.maxLocals lv)
    (hr : va_Run p l e R s m args below meth c H locs k n mc ms (F0 m pc ls st0) rest (Qc0 ε Wf nn (va_A [(h0, c0)] H.size) a) (va_A [(h0, c0)] H.size))
    (kk : ∀ qs : List Nat, qs.length = nn → GL ε (p, l, e, R, s, m, args, below, meth, c, A, Q) (k + mc) (n + ms) (pc + 3) lv rest (wr ++ Wf qs)) : W p l e R s m args below meth c H locs k n Q (F0 m pc ls st0) := by
  have hlast : (wr ++ [(h0, c0)])[wr.length]? = some (h0, c0) := by simp
  have hf : ∀ q, va_A [(h0, c0)] H.size q → A q := fun q hq => hq.elim (fun ⟨i, e9, h9⟩ => by
    have h8 : i < 1 := (List.getElem?_eq_some_iff.mp h9).1
    rw [show i = 0 by omega] at h9
    cases h9
    exact hD.2 _ _ hlast) (fun h9 => hA q (Nat.le_trans hS.1 h9))
  intro T hT X
  obtain ⟨v, st₀, t, T', L, h0e, X', hL, e1, e2, ⟨⟨qs, hv, hq, hP1, hD1⟩, hz, hk⟩, stp⟩ := hr T hT X
  cases hv
  rw [h0e] at hz hk
  have hwr : ∀ (i : Nat) (x : Nat × va_E), wr[i]? = some x → x.1 < H.size ∧ ¬ va_A [(h0, c0)] H.size x.1 := by
    intro i x hi
    have hil : i < wr.length := (List.getElem?_eq_some_iff.mp hi).1
    have hi' : (wr ++ [(h0, c0)])[i]? = some x := by rw [List.getElem?_append_left hil]; exact hi
    have hlt := (hP i x hi').lt
    refine ⟨hlt, fun hq => hq.elim (fun ⟨j, e9, h9⟩ => ?_) (fun h9 => by omega)⟩
    have h8 : j < 1 := (List.getElem?_eq_some_iff.mp h9).1
    rw [show j = 0 by omega] at h9
    cases h9
    have := hD.1 i wr.length x (x.1, c0) hi' hlast rfl
    omega
  have hPr : va_P ε.1 vwCl wr T'.heap := by
    intro i x hi
    have hil : i < wr.length := (List.getElem?_eq_some_iff.mp hi).1
    have hi' : (wr ++ [(h0, c0)])[i]? = some x := by rw [List.getElem?_append_left hil]; exact hi
    have hx := hwr i x hi
    exact (hP i x hi').kept (by rw [e1]; exact hk x.1 hx.1 hx.2)
  have hDr : va_D A wr := by
    refine ⟨fun i j x y hi hj he => ?_, fun i x hi => ?_⟩
    · have hil : i < wr.length := (List.getElem?_eq_some_iff.mp hi).1
      have hjl : j < wr.length := (List.getElem?_eq_some_iff.mp hj).1
      exact hD.1 i j x y (by rw [List.getElem?_append_left hil]; exact hi) (by rw [List.getElem?_append_left hjl]; exact hj) he
    · have hil : i < wr.length := (List.getElem?_eq_some_iff.mp hi).1
      exact hD.2 i x (by rw [List.getElem?_append_left hil]; exact hi)
  obtain ⟨t2, a1, b1⟩ := kk qs hq T'.heap (locs ++ L) ls (hPr.app (by rw [e1]; exact hP1)) (hDr.app (hD1.weaken (fun _ _ _ h9 => hf _ h9)) (fun i j x y hi hj he => (hwr i x hi).2 (by rw [he]; exact hD1.2 j y hj))) ⟨Nat.le_trans hS.1 (by rw [e1]; exact hz), fun q h1 h2 => by rw [e1, hk q (Nat.lt_of_lt_of_le h1 hS.1) (fun z => h2 (hf q z))]; exact hS.2.1 q h1 h2, fun q hq => by
      rcases List.mem_append.mp hq with h | h
      · exact hS.2.2 q h
      · exact hf _ (hL q h)⟩ hl T' rfl X'
  exact ⟨t2, stp t2 a1, b1⟩
theorem pw {wr : va_W} {h0 : Nat} {c0 : va_E} {H : Heap} (hP : va_P ε.1 vwCl (wr ++ [(h0, c0)]) H) : va_P ε.1 vwCl [(h0, c0)] H := by
  intro i x hi
  have h8 : i < 1 := (List.getElem?_eq_some_iff.mp hi).1
  rw [show i = 0 by omega] at hi
  cases hi
  exact hP wr.length _ (by simp)
theorem dw {h0 : Nat} {c0 : va_E} : va_D (fun _ => True) [(h0, c0)] := by
  refine ⟨fun i j x y hi hj _ => ?_, fun _ _ _ => trivial⟩
  have h1 : i < 1 := (List.getElem?_eq_some_iff.mp hi).1
  have h2 : j < 1 := (List.getElem?_eq_some_iff.mp hj).1
  omega
theorem gl_ctor (C : Cx ε κ cc nL own d) {y : MethodName} {bytes : ByteArray} {maxL d' mc ms nn h0 index np : Nat} {c0 : va_E} {As rest st0 : List Value} {Wf : List Nat → va_W} (wr : va_W)
    (hM : RC κ.2.1 ε y bytes maxL d' mc ms (.ref h0 :: As) [(h0, c0)] Wf nn) (w1 : Cond.methodLink own index y ∈ TB) (w2 : Cond.instanceMethod y ∈ TB) (w4 : Cond.initialized y.cls ∈ TB) (w5 : Cond.code y bytes maxL none ∈ TB) (w6 : maxL ≤ 11) (hy1 : y.name = "<init>") (w7 : y.cls ≠ "java/lang/invoke/MethodHandle" ∧ y.cls ≠ "java/lang/invoke/VarHandle" ∧ (parseMethodDescriptor y.desc).map (fun d => d.parameters.length) = some np) (hdp : d' < d) (hn : As.length = np) (hst : st0 = As.reverse ++ .ref h0 :: rest) (hcat : (rest.map fun v => v.category).sum ≤ 8) (hroom : k + mc ≤ κ.2.2.2.1.cells ∧ n + ms ≤ κ.2.2.2.1.slots) (hd : decode cc pc = .ok (.invokespecial index, 3))
    (kk : ∀ qs : List Nat, qs.length = nn → GL ε κ (k + mc) (n + ms) (pc + 3) lv rest (wr ++ Wf qs)) : GL ε κ k n pc lv st0 (wr ++ [(h0, c0)]) := by
  obtain ⟨p, l, e0, R, s, m, args, below, meth, c, A, Q⟩ := κ
  obtain ⟨hx, hb, hml, hown, hts, hK, hN, hlk, hA, hfr, hlo⟩ := C
  intro H locs ls hP hD hS hl
  have hG : GoodIn TB (.code y bytes maxL none :: TB) := tb_goodc w5
  refine gl_after hA hP hD hS hl (va_runI (Ts := TB) (As := As) (rest := rest) (b := h0) ⟨hx, hb, hml, hown, hts⟩ (hM H.size) ⟨callB_of np hts hG rfl rfl rfl (hts _ w4) (hts _ w1) w7 ⟨Nat.le_trans hdp hfr, ?_⟩, hy1, hts _ w2⟩ ⟨fblind0, fun U hU hW => ⟨rfl, by rw [hU], by rw [hU]; exact pw hP, va_K.moved hW.alike hK, fun z hz => va_Nw.warmM hW (hN z hz), dw⟩⟩ rfl hn (hl.1.trans hml) hst (lv_room hcat) hd hroom) kk
  show 8 + (maxL + 11) + 30 * d' ≤ R.locals
  omega
theorem gl_ctorN (C : Cx ε κ cc nL own d) {y : MethodName} {bytes : ByteArray} {maxL d' mc ms nn h0 index np : Nat} {c0 : va_E} {As rest st0 : List Value} {Wf : List Nat → va_W} (wr : va_W)
    (hM : RC κ.2.1 ε y bytes maxL d' mc ms (.ref h0 :: As) [(h0, c0)] Wf nn) (w1 : (own, index, y) ∈ NS) (w2 : Cond.instanceMethod y ∈ TB) (w4 : Cond.initialized y.cls ∈ TB) (w5 : Cond.code y bytes maxL none ∈ TB) (w6 : maxL ≤ 11) (hy1 : y.name = "<init>") (w7 : y.cls ≠ "java/lang/invoke/MethodHandle" ∧ y.cls ≠ "java/lang/invoke/VarHandle" ∧ (parseMethodDescriptor y.desc).map (fun d => d.parameters.length) = some np) (hdp : d' < d) (hn : As.length = np) (hst : st0 = As.reverse ++ .ref h0 :: rest) (hcat : (rest.map fun v => v.category).sum ≤ 8) (hroom : k + mc ≤ κ.2.2.2.1.cells ∧ n + ms ≤ κ.2.2.2.1.slots) (hd : decode cc pc = .ok (.invokespecial index, 3))
    (kk : ∀ qs : List Nat, qs.length = nn → GL ε κ (k + mc) (n + ms) (pc + 3) lv rest (wr ++ Wf qs)) : GL ε κ k n pc lv st0 (wr ++ [(h0, c0)]) := by
  obtain ⟨p, l, e0, R, s, m, args, below, meth, c, A, Q⟩ := κ
  obtain ⟨hx, hb, hml, hown, hts, hK, hN, hlk, hA, hfr, hlo⟩ := C
  intro H locs ls hP hD hS hl
  have hG : GoodIn TB (.code y bytes maxL none :: TB) := tb_goodc w5
  refine gl_after hA hP hD hS hl (va_runIN (Ts := TB) (As := As) (rest := rest) (b := h0) ⟨hx, hb, hml, hown, hts⟩ (hM H.size) ⟨va_cnB np hts hG rfl rfl rfl (hN _ w1) (hts _ w4) w7 ⟨Nat.le_trans hdp hfr, ?_⟩, hy1, hts _ w2⟩ ⟨fblind0, fun U hU hW => ⟨rfl, by rw [hU], by rw [hU]; exact pw hP, va_K.moved hW.alike hK, fun z hz => va_Nw.warmM hW (hN z hz), dw⟩⟩ rfl hn (hl.1.trans hml) hst (lv_room hcat) hd hroom) kk
  show 8 + (maxL + 11) + 30 * d' ≤ R.locals
  omega
theorem gl_w {ws' : va_W} (e : ws = ws') (kk : GL ε κ k n pc lv st ws') : GL ε κ k n pc lv st ws := e ▸ kk
set_option maxRecDepth 20000 in
set_option maxHeartbeats 2000000 in
theorem c_X4_init_6000 {l : Launch} {h0 : Nat} : RC l ε yX4_init cX4_init 2 1 1 6000 [.ref h0, .int 6000] [(h0, .inr (4, [.null, .int 0]))] (fun qs => [(h0, .inr (4, [.ref (qs.getD 0 0), .int 0])), ((qs.getD 0 0), aI ε 6000 (fun _ => 0))]) 1 := by
  refine RC.of (by decide) rfl (Nat.le_of_ble_eq_true rfl) (fun κ hkl hR C hki K => ?_)
  refine gl_aload_n C dX4_init_0 rfl 0 rfl ?_
  refine gl_obj C (tb_in (i := 97) rfl rfl) (by decide) dX4_init_1 ?_
  refine gl_aload_n C dX4_init_4 rfl 0 rfl ?_
  refine gl_iload_n C dX4_init_5 rfl 1 rfl ?_
  refine gl_iconst (v := 0) C dX4_init_6 (by decide) ?_
  refine gl_max (v := 6000) C (by decide) wm_X4_9 (Nat.le_of_ble_eq_true rfl) (by rw [hR]; exact ⟨Nat.le_of_ble_eq_true rfl, Nat.le_of_ble_eq_true rfl⟩) (by decide) dX4_init_7 ?_
  refine gl_newa_int (N := 6000) C (by decide) (by decide) (by rw [hR]; exact ⟨Nat.le_of_ble_eq_true rfl, Nat.le_of_ble_eq_true rfl⟩) dX4_init_10 (fun q1 => ?_)
  refine gl_w (ws' := [(h0, .inr (4, [.null, .int 0])), (q1, aI ε 6000 (fun _ => 0))]) rfl ?_
  refine gl_putF C hki 0 0 F_X4 (by decide) fl_X4_15 rfl rfl rfl rfl rfl rfl (Nat.le_of_ble_eq_true rfl) dX4_init_12 ?_
  refine gl_w (ws' := [(h0, .inr (4, [.ref q1, .int 0])), (q1, aI ε 6000 (fun _ => 0))]) rfl ?_
  exact K 15 _ [q1] dX4_init_15 rfl
set_option maxRecDepth 20000 in
set_option maxHeartbeats 2000000 in
theorem c_X4_init_12000 {l : Launch} {h0 : Nat} : RC l ε yX4_init cX4_init 2 1 1 12000 [.ref h0, .int 12000] [(h0, .inr (4, [.null, .int 0]))] (fun qs => [(h0, .inr (4, [.ref (qs.getD 0 0), .int 0])), ((qs.getD 0 0), aI ε 12000 (fun _ => 0))]) 1 := by
  refine RC.of (by decide) rfl (Nat.le_of_ble_eq_true rfl) (fun κ hkl hR C hki K => ?_)
  refine gl_aload_n C dX4_init_0 rfl 0 rfl ?_
  refine gl_obj C (tb_in (i := 97) rfl rfl) (by decide) dX4_init_1 ?_
  refine gl_aload_n C dX4_init_4 rfl 0 rfl ?_
  refine gl_iload_n C dX4_init_5 rfl 1 rfl ?_
  refine gl_iconst (v := 0) C dX4_init_6 (by decide) ?_
  refine gl_max (v := 12000) C (by decide) wm_X4_9 (Nat.le_of_ble_eq_true rfl) (by rw [hR]; exact ⟨Nat.le_of_ble_eq_true rfl, Nat.le_of_ble_eq_true rfl⟩) (by decide) dX4_init_7 ?_
  refine gl_newa_int (N := 12000) C (by decide) (by decide) (by rw [hR]; exact ⟨Nat.le_of_ble_eq_true rfl, Nat.le_of_ble_eq_true rfl⟩) dX4_init_10 (fun q1 => ?_)
  refine gl_w (ws' := [(h0, .inr (4, [.null, .int 0])), (q1, aI ε 12000 (fun _ => 0))]) rfl ?_
  refine gl_putF C hki 0 0 F_X4 (by decide) fl_X4_15 rfl rfl rfl rfl rfl rfl (Nat.le_of_ble_eq_true rfl) dX4_init_12 ?_
  refine gl_w (ws' := [(h0, .inr (4, [.ref q1, .int 0])), (q1, aI ε 12000 (fun _ => 0))]) rfl ?_
  exact K 15 _ [q1] dX4_init_15 rfl
set_option maxRecDepth 20000 in
set_option maxHeartbeats 2000000 in
theorem c_X3_init {l : Launch} {h0 : Nat} : RC l ε yX3_init cX3_init 1 2 5 6182 [.ref h0] [(h0, .inr (3, [.null, .null, .null, .null, .int 0, .int 0]))] (fun qs => [(h0, .inr (3, [.ref (qs.getD 0 0), .ref (qs.getD 2 0), .ref (qs.getD 3 0), .ref (qs.getD 4 0), .int 0, .int 0])), ((qs.getD 0 0), .inr (4, [.ref (qs.getD 1 0), .int 0])), ((qs.getD 1 0), aI ε 6000 (fun _ => 0)), ((qs.getD 2 0), aI ε 60 (fun _ => 0)), ((qs.getD 3 0), aI ε 60 (fun _ => 0)), ((qs.getD 4 0), aI ε 60 (fun _ => 0))]) 5 := by
  refine RC.of (by decide) rfl (Nat.le_of_ble_eq_true rfl) (fun κ hkl hR C hki K => ?_)
  refine gl_aload_n C dX3_init_0 rfl 0 rfl ?_
  refine gl_obj C (tb_in (i := 120) rfl rfl) (by decide) dX3_init_1 ?_
  refine gl_aload_n C dX3_init_4 rfl 0 rfl ?_
  refine gl_new C [.null, .int 0] F_X4 (tb_in (i := 121) rfl rfl) (tb_in (i := 93) rfl rfl) (tb_in (i := 68) rfl rfl) (fun j hj => by rcases (show j = 0 ∨ j = 1 by omega) with rfl | rfl <;> rfl) (by rw [hR]; exact ⟨Nat.le_of_ble_eq_true rfl, Nat.le_of_ble_eq_true rfl⟩) dX3_init_5 (fun q1 => ?_)
  refine gl_w (ws' := [(h0, .inr (3, [.null, .null, .null, .null, .int 0, .int 0])), (q1, .inr (4, [.null, .int 0]))]) rfl ?_
  refine gl_dup C dX3_init_8 rfl ?_
  refine gl_sipush (v := 6000) C dX3_init_9 (by decide) ?_
  refine gl_ctor (k := 1) (n := 2) (As := [.int 6000]) (rest := [.ref q1, .ref h0]) C [(h0, .inr (3, [.null, .null, .null, .null, .int 0, .int 0]))] (c_X4_init_6000 (h0 := q1)) (tb_in (i := 122) rfl rfl) (tb_in (i := 95) rfl rfl) (tb_in (i := 68) rfl rfl) (tb_in (i := 96) rfl rfl) (by decide) rfl ⟨by decide +kernel, by decide +kernel, by decide +kernel⟩ (by decide) rfl rfl (Nat.le_of_ble_eq_true rfl) (by rw [hR]; exact ⟨Nat.le_of_ble_eq_true rfl, Nat.le_of_ble_eq_true rfl⟩) dX3_init_12 (fun u2 _ => ?_)
  refine gl_w (ws' := [(h0, .inr (3, [.null, .null, .null, .null, .int 0, .int 0])), (q1, .inr (4, [.ref (u2.getD 0 0), .int 0])), ((u2.getD 0 0), aI ε 6000 (fun _ => 0))]) rfl ?_
  refine gl_putF C hki 0 0 F_X3 (by decide) fl_X3_14 rfl rfl rfl rfl rfl rfl (Nat.le_of_ble_eq_true rfl) dX3_init_15 ?_
  refine gl_w (ws' := [(h0, .inr (3, [.ref q1, .null, .null, .null, .int 0, .int 0])), (q1, .inr (4, [.ref (u2.getD 0 0), .int 0])), ((u2.getD 0 0), aI ε 6000 (fun _ => 0))]) rfl ?_
  refine gl_aload_n C dX3_init_18 rfl 0 rfl ?_
  refine gl_bipush (v := 60) C dX3_init_19 (by decide) ?_
  refine gl_newa_int (N := 60) C (by decide) (by decide) (by rw [hR]; exact ⟨Nat.le_of_ble_eq_true rfl, Nat.le_of_ble_eq_true rfl⟩) dX3_init_21 (fun q3 => ?_)
  refine gl_w (ws' := [(h0, .inr (3, [.ref q1, .null, .null, .null, .int 0, .int 0])), (q1, .inr (4, [.ref (u2.getD 0 0), .int 0])), ((u2.getD 0 0), aI ε 6000 (fun _ => 0)), (q3, aI ε 60 (fun _ => 0))]) rfl ?_
  refine gl_putF C hki 0 1 F_X3 (by decide) fl_X3_20 rfl rfl rfl rfl rfl rfl (Nat.le_of_ble_eq_true rfl) dX3_init_23 ?_
  refine gl_w (ws' := [(h0, .inr (3, [.ref q1, .ref q3, .null, .null, .int 0, .int 0])), (q1, .inr (4, [.ref (u2.getD 0 0), .int 0])), ((u2.getD 0 0), aI ε 6000 (fun _ => 0)), (q3, aI ε 60 (fun _ => 0))]) rfl ?_
  refine gl_aload_n C dX3_init_26 rfl 0 rfl ?_
  refine gl_bipush (v := 60) C dX3_init_27 (by decide) ?_
  refine gl_newa_int (N := 60) C (by decide) (by decide) (by rw [hR]; exact ⟨Nat.le_of_ble_eq_true rfl, Nat.le_of_ble_eq_true rfl⟩) dX3_init_29 (fun q4 => ?_)
  refine gl_w (ws' := [(h0, .inr (3, [.ref q1, .ref q3, .null, .null, .int 0, .int 0])), (q1, .inr (4, [.ref (u2.getD 0 0), .int 0])), ((u2.getD 0 0), aI ε 6000 (fun _ => 0)), (q3, aI ε 60 (fun _ => 0)), (q4, aI ε 60 (fun _ => 0))]) rfl ?_
  refine gl_putF C hki 0 2 F_X3 (by decide) fl_X3_24 rfl rfl rfl rfl rfl rfl (Nat.le_of_ble_eq_true rfl) dX3_init_31 ?_
  refine gl_w (ws' := [(h0, .inr (3, [.ref q1, .ref q3, .ref q4, .null, .int 0, .int 0])), (q1, .inr (4, [.ref (u2.getD 0 0), .int 0])), ((u2.getD 0 0), aI ε 6000 (fun _ => 0)), (q3, aI ε 60 (fun _ => 0)), (q4, aI ε 60 (fun _ => 0))]) rfl ?_
  refine gl_aload_n C dX3_init_34 rfl 0 rfl ?_
  refine gl_bipush (v := 60) C dX3_init_35 (by decide) ?_
  refine gl_newa_int (N := 60) C (by decide) (by decide) (by rw [hR]; exact ⟨Nat.le_of_ble_eq_true rfl, Nat.le_of_ble_eq_true rfl⟩) dX3_init_37 (fun q5 => ?_)
  refine gl_w (ws' := [(h0, .inr (3, [.ref q1, .ref q3, .ref q4, .null, .int 0, .int 0])), (q1, .inr (4, [.ref (u2.getD 0 0), .int 0])), ((u2.getD 0 0), aI ε 6000 (fun _ => 0)), (q3, aI ε 60 (fun _ => 0)), (q4, aI ε 60 (fun _ => 0)), (q5, aI ε 60 (fun _ => 0))]) rfl ?_
  refine gl_putF C hki 0 3 F_X3 (by decide) fl_X3_27 rfl rfl rfl rfl rfl rfl (Nat.le_of_ble_eq_true rfl) dX3_init_39 ?_
  refine gl_w (ws' := [(h0, .inr (3, [.ref q1, .ref q3, .ref q4, .ref q5, .int 0, .int 0])), (q1, .inr (4, [.ref (u2.getD 0 0), .int 0])), ((u2.getD 0 0), aI ε 6000 (fun _ => 0)), (q3, aI ε 60 (fun _ => 0)), (q4, aI ε 60 (fun _ => 0)), (q5, aI ε 60 (fun _ => 0))]) rfl ?_
  exact K 42 _ [q1, (u2.getD 0 0), q3, q4, q5] dX3_init_42 rfl
set_option maxRecDepth 20000 in
set_option maxHeartbeats 2000000 in
theorem c_X2_init {l : Launch} {h0 : Nat} : RC l ε yX2_init cX2_init 1 3 6 6188 [.ref h0] [(h0, .inr (2, [.null, .int 0, .int 0, .int 0, .int 0]))] (fun qs => [(h0, .inr (2, [.ref (qs.getD 0 0), .int 0, .int 0, .int 0, .int 0])), ((qs.getD 0 0), .inr (3, [.ref (qs.getD 1 0), .ref (qs.getD 3 0), .ref (qs.getD 4 0), .ref (qs.getD 5 0), .int 0, .int 0])), ((qs.getD 1 0), .inr (4, [.ref (qs.getD 2 0), .int 0])), ((qs.getD 2 0), aI ε 6000 (fun _ => 0)), ((qs.getD 3 0), aI ε 60 (fun _ => 0)), ((qs.getD 4 0), aI ε 60 (fun _ => 0)), ((qs.getD 5 0), aI ε 60 (fun _ => 0))]) 6 := by
  refine RC.of (by decide) rfl (Nat.le_of_ble_eq_true rfl) (fun κ hkl hR C hki K => ?_)
  refine gl_aload_n C dX2_init_0 rfl 0 rfl ?_
  refine gl_obj C (tb_in (i := 114) rfl rfl) (by decide) dX2_init_1 ?_
  refine gl_aload_n C dX2_init_4 rfl 0 rfl ?_
  refine gl_new C [.null, .null, .null, .null, .int 0, .int 0] F_X3 (tb_in (i := 115) rfl rfl) (tb_in (i := 116) rfl rfl) (tb_in (i := 71) rfl rfl) (fun j hj => by rcases (show j = 0 ∨ j = 1 ∨ j = 2 ∨ j = 3 ∨ j = 4 ∨ j = 5 by omega) with rfl | rfl | rfl | rfl | rfl | rfl <;> rfl) (by rw [hR]; exact ⟨Nat.le_of_ble_eq_true rfl, Nat.le_of_ble_eq_true rfl⟩) dX2_init_5 (fun q1 => ?_)
  refine gl_w (ws' := [(h0, .inr (2, [.null, .int 0, .int 0, .int 0, .int 0])), (q1, .inr (3, [.null, .null, .null, .null, .int 0, .int 0]))]) rfl ?_
  refine gl_dup C dX2_init_8 rfl ?_
  refine gl_ctorN (k := 1) (n := 6) (As := []) (rest := [.ref q1, .ref h0]) C [(h0, .inr (2, [.null, .int 0, .int 0, .int 0, .int 0]))] (c_X3_init (h0 := q1)) (List.mem_of_getElem? (i := 1) rfl) (tb_in (i := 118) rfl rfl) (tb_in (i := 71) rfl rfl) (tb_in (i := 119) rfl rfl) (by decide) rfl ⟨by decide +kernel, by decide +kernel, by decide +kernel⟩ (by decide) rfl rfl (Nat.le_of_ble_eq_true rfl) (by rw [hR]; exact ⟨Nat.le_of_ble_eq_true rfl, Nat.le_of_ble_eq_true rfl⟩) dX2_init_9 (fun u2 _ => ?_)
  refine gl_w (ws' := [(h0, .inr (2, [.null, .int 0, .int 0, .int 0, .int 0])), (q1, .inr (3, [.ref (u2.getD 0 0), .ref (u2.getD 2 0), .ref (u2.getD 3 0), .ref (u2.getD 4 0), .int 0, .int 0])), ((u2.getD 0 0), .inr (4, [.ref (u2.getD 1 0), .int 0])), ((u2.getD 1 0), aI ε 6000 (fun _ => 0)), ((u2.getD 2 0), aI ε 60 (fun _ => 0)), ((u2.getD 3 0), aI ε 60 (fun _ => 0)), ((u2.getD 4 0), aI ε 60 (fun _ => 0))]) rfl ?_
  refine gl_put C 0 0 F_X2 (by decide) fl_X2_12 rfl rfl rfl rfl rfl (Nat.le_of_ble_eq_true rfl) dX2_init_12 ?_
  refine gl_w (ws' := [(h0, .inr (2, [.ref q1, .int 0, .int 0, .int 0, .int 0])), (q1, .inr (3, [.ref (u2.getD 0 0), .ref (u2.getD 2 0), .ref (u2.getD 3 0), .ref (u2.getD 4 0), .int 0, .int 0])), ((u2.getD 0 0), .inr (4, [.ref (u2.getD 1 0), .int 0])), ((u2.getD 1 0), aI ε 6000 (fun _ => 0)), ((u2.getD 2 0), aI ε 60 (fun _ => 0)), ((u2.getD 3 0), aI ε 60 (fun _ => 0)), ((u2.getD 4 0), aI ε 60 (fun _ => 0))]) rfl ?_
  exact K 15 _ [q1, (u2.getD 0 0), (u2.getD 1 0), (u2.getD 2 0), (u2.getD 3 0), (u2.getD 4 0)] dX2_init_15 rfl
set_option maxRecDepth 20000 in
set_option maxHeartbeats 2000000 in
theorem c_X4_init_12 {l : Launch} {h0 : Nat} : RC l ε yX4_init cX4_init 2 1 1 12 [.ref h0, .int 12] [(h0, .inr (4, [.null, .int 0]))] (fun qs => [(h0, .inr (4, [.ref (qs.getD 0 0), .int 0])), ((qs.getD 0 0), aI ε 12 (fun _ => 0))]) 1 := by
  refine RC.of (by decide) rfl (Nat.le_of_ble_eq_true rfl) (fun κ hkl hR C hki K => ?_)
  refine gl_aload_n C dX4_init_0 rfl 0 rfl ?_
  refine gl_obj C (tb_in (i := 97) rfl rfl) (by decide) dX4_init_1 ?_
  refine gl_aload_n C dX4_init_4 rfl 0 rfl ?_
  refine gl_iload_n C dX4_init_5 rfl 1 rfl ?_
  refine gl_iconst (v := 0) C dX4_init_6 (by decide) ?_
  refine gl_max (v := 12) C (by decide) wm_X4_9 (Nat.le_of_ble_eq_true rfl) (by rw [hR]; exact ⟨Nat.le_of_ble_eq_true rfl, Nat.le_of_ble_eq_true rfl⟩) (by decide) dX4_init_7 ?_
  refine gl_newa_int (N := 12) C (by decide) (by decide) (by rw [hR]; exact ⟨Nat.le_of_ble_eq_true rfl, Nat.le_of_ble_eq_true rfl⟩) dX4_init_10 (fun q1 => ?_)
  refine gl_w (ws' := [(h0, .inr (4, [.null, .int 0])), (q1, aI ε 12 (fun _ => 0))]) rfl ?_
  refine gl_putF C hki 0 0 F_X4 (by decide) fl_X4_15 rfl rfl rfl rfl rfl rfl (Nat.le_of_ble_eq_true rfl) dX4_init_12 ?_
  refine gl_w (ws' := [(h0, .inr (4, [.ref q1, .int 0])), (q1, aI ε 12 (fun _ => 0))]) rfl ?_
  exact K 15 _ [q1] dX4_init_15 rfl
set_option maxRecDepth 20000 in
set_option maxHeartbeats 2000000 in
theorem c_X0_init {l : Launch} {h0 : Nat} : RC l ε yX0_init cX0_init 1 2 3 206 [.ref h0] [(h0, .inr (0, [.null, .null, .int 0, .int 0, .int 0]))] (fun qs => [(h0, .inr (0, [.ref (qs.getD 0 0), .ref (qs.getD 1 0), .int 0, .int 0, .int 13])), ((qs.getD 0 0), aI ε 192 (fun _ => 0)), ((qs.getD 1 0), .inr (4, [.ref (qs.getD 2 0), .int 0])), ((qs.getD 2 0), aI ε 12 (fun _ => 0))]) 3 := by
  refine RC.of (by decide) rfl (Nat.le_of_ble_eq_true rfl) (fun κ hkl hR C hki K => ?_)
  refine gl_aload_n C dX0_init_0 rfl 0 rfl ?_
  refine gl_obj C (tb_in (i := 163) rfl rfl) (by decide) dX0_init_1 ?_
  refine gl_aload_n C dX0_init_4 rfl 0 rfl ?_
  refine gl_sipush (v := 192) C dX0_init_5 (by decide) ?_
  refine gl_newa_int (N := 192) C (by decide) (by decide) (by rw [hR]; exact ⟨Nat.le_of_ble_eq_true rfl, Nat.le_of_ble_eq_true rfl⟩) dX0_init_8 (fun q1 => ?_)
  refine gl_w (ws' := [(h0, .inr (0, [.null, .null, .int 0, .int 0, .int 0])), (q1, aI ε 192 (fun _ => 0))]) rfl ?_
  refine gl_putF C hki 0 0 F_X0 (by decide) fl_X0_9 rfl rfl rfl rfl rfl rfl (Nat.le_of_ble_eq_true rfl) dX0_init_10 ?_
  refine gl_w (ws' := [(h0, .inr (0, [.ref q1, .null, .int 0, .int 0, .int 0])), (q1, aI ε 192 (fun _ => 0))]) rfl ?_
  refine gl_aload_n C dX0_init_13 rfl 0 rfl ?_
  refine gl_new C [.null, .int 0] F_X4 (tb_in (i := 164) rfl rfl) (tb_in (i := 93) rfl rfl) (tb_in (i := 68) rfl rfl) (fun j hj => by rcases (show j = 0 ∨ j = 1 by omega) with rfl | rfl <;> rfl) (by rw [hR]; exact ⟨Nat.le_of_ble_eq_true rfl, Nat.le_of_ble_eq_true rfl⟩) dX0_init_14 (fun q2 => ?_)
  refine gl_w (ws' := [(h0, .inr (0, [.ref q1, .null, .int 0, .int 0, .int 0])), (q1, aI ε 192 (fun _ => 0)), (q2, .inr (4, [.null, .int 0]))]) rfl ?_
  refine gl_dup C dX0_init_17 rfl ?_
  refine gl_bipush (v := 12) C dX0_init_18 (by decide) ?_
  refine gl_ctor (k := 2) (n := 194) (As := [.int 12]) (rest := [.ref q2, .ref h0]) C [(h0, .inr (0, [.ref q1, .null, .int 0, .int 0, .int 0])), (q1, aI ε 192 (fun _ => 0))] (c_X4_init_12 (h0 := q2)) (tb_in (i := 165) rfl rfl) (tb_in (i := 95) rfl rfl) (tb_in (i := 68) rfl rfl) (tb_in (i := 96) rfl rfl) (by decide) rfl ⟨by decide +kernel, by decide +kernel, by decide +kernel⟩ (by decide) rfl rfl (Nat.le_of_ble_eq_true rfl) (by rw [hR]; exact ⟨Nat.le_of_ble_eq_true rfl, Nat.le_of_ble_eq_true rfl⟩) dX0_init_20 (fun u3 _ => ?_)
  refine gl_w (ws' := [(h0, .inr (0, [.ref q1, .null, .int 0, .int 0, .int 0])), (q1, aI ε 192 (fun _ => 0)), (q2, .inr (4, [.ref (u3.getD 0 0), .int 0])), ((u3.getD 0 0), aI ε 12 (fun _ => 0))]) rfl ?_
  refine gl_putF C hki 0 1 F_X0 (by decide) fl_X0_20 rfl rfl rfl rfl rfl rfl (Nat.le_of_ble_eq_true rfl) dX0_init_23 ?_
  refine gl_w (ws' := [(h0, .inr (0, [.ref q1, .ref q2, .int 0, .int 0, .int 0])), (q1, aI ε 192 (fun _ => 0)), (q2, .inr (4, [.ref (u3.getD 0 0), .int 0])), ((u3.getD 0 0), aI ε 12 (fun _ => 0))]) rfl ?_
  refine gl_aload_n C dX0_init_26 rfl 0 rfl ?_
  refine gl_bipush (v := 13) C dX0_init_27 (by decide) ?_
  refine gl_put C 0 4 F_X0 (by decide) fl_X0_24 rfl rfl rfl rfl rfl (Nat.le_of_ble_eq_true rfl) dX0_init_29 ?_
  refine gl_w (ws' := [(h0, .inr (0, [.ref q1, .ref q2, .int 0, .int 0, .int 13])), (q1, aI ε 192 (fun _ => 0)), (q2, .inr (4, [.ref (u3.getD 0 0), .int 0])), ((u3.getD 0 0), aI ε 12 (fun _ => 0))]) rfl ?_
  exact K 32 _ [q1, q2, (u3.getD 0 0)] dX0_init_32 rfl
set_option maxRecDepth 20000 in
set_option maxHeartbeats 2000000 in
theorem c_X4_init_30 {l : Launch} {h0 : Nat} : RC l ε yX4_init cX4_init 2 1 1 30 [.ref h0, .int 30] [(h0, .inr (4, [.null, .int 0]))] (fun qs => [(h0, .inr (4, [.ref (qs.getD 0 0), .int 0])), ((qs.getD 0 0), aI ε 30 (fun _ => 0))]) 1 := by
  refine RC.of (by decide) rfl (Nat.le_of_ble_eq_true rfl) (fun κ hkl hR C hki K => ?_)
  refine gl_aload_n C dX4_init_0 rfl 0 rfl ?_
  refine gl_obj C (tb_in (i := 97) rfl rfl) (by decide) dX4_init_1 ?_
  refine gl_aload_n C dX4_init_4 rfl 0 rfl ?_
  refine gl_iload_n C dX4_init_5 rfl 1 rfl ?_
  refine gl_iconst (v := 0) C dX4_init_6 (by decide) ?_
  refine gl_max (v := 30) C (by decide) wm_X4_9 (Nat.le_of_ble_eq_true rfl) (by rw [hR]; exact ⟨Nat.le_of_ble_eq_true rfl, Nat.le_of_ble_eq_true rfl⟩) (by decide) dX4_init_7 ?_
  refine gl_newa_int (N := 30) C (by decide) (by decide) (by rw [hR]; exact ⟨Nat.le_of_ble_eq_true rfl, Nat.le_of_ble_eq_true rfl⟩) dX4_init_10 (fun q1 => ?_)
  refine gl_w (ws' := [(h0, .inr (4, [.null, .int 0])), (q1, aI ε 30 (fun _ => 0))]) rfl ?_
  refine gl_putF C hki 0 0 F_X4 (by decide) fl_X4_15 rfl rfl rfl rfl rfl rfl (Nat.le_of_ble_eq_true rfl) dX4_init_12 ?_
  refine gl_w (ws' := [(h0, .inr (4, [.ref q1, .int 0])), (q1, aI ε 30 (fun _ => 0))]) rfl ?_
  exact K 15 _ [q1] dX4_init_15 rfl
set_option maxRecDepth 20000 in
set_option maxHeartbeats 2000000 in
theorem c_X6_init {l : Launch} {h0 : Nat} : RC l ε yX6_init cX6_init 1 2 2 32 [.ref h0] [(h0, .inr (6, [.null, .int 0, .int 0, .int 0, .int 0, .int 0]))] (fun qs => [(h0, .inr (6, [.ref (qs.getD 0 0), .int 0, .int 0, .int 1, .int 0, .int 0])), ((qs.getD 0 0), .inr (4, [.ref (qs.getD 1 0), .int 0])), ((qs.getD 1 0), aI ε 30 (fun _ => 0))]) 2 := by
  refine RC.of (by decide) rfl (Nat.le_of_ble_eq_true rfl) (fun κ hkl hR C hki K => ?_)
  refine gl_aload_n C dX6_init_0 rfl 0 rfl ?_
  refine gl_obj C (tb_in (i := 187) rfl rfl) (by decide) dX6_init_1 ?_
  refine gl_aload_n C dX6_init_4 rfl 0 rfl ?_
  refine gl_new C [.null, .int 0] F_X4 (tb_in (i := 188) rfl rfl) (tb_in (i := 93) rfl rfl) (tb_in (i := 68) rfl rfl) (fun j hj => by rcases (show j = 0 ∨ j = 1 by omega) with rfl | rfl <;> rfl) (by rw [hR]; exact ⟨Nat.le_of_ble_eq_true rfl, Nat.le_of_ble_eq_true rfl⟩) dX6_init_5 (fun q1 => ?_)
  refine gl_w (ws' := [(h0, .inr (6, [.null, .int 0, .int 0, .int 0, .int 0, .int 0])), (q1, .inr (4, [.null, .int 0]))]) rfl ?_
  refine gl_dup C dX6_init_8 rfl ?_
  refine gl_bipush (v := 30) C dX6_init_9 (by decide) ?_
  refine gl_ctor (k := 1) (n := 2) (As := [.int 30]) (rest := [.ref q1, .ref h0]) C [(h0, .inr (6, [.null, .int 0, .int 0, .int 0, .int 0, .int 0]))] (c_X4_init_30 (h0 := q1)) (tb_in (i := 189) rfl rfl) (tb_in (i := 95) rfl rfl) (tb_in (i := 68) rfl rfl) (tb_in (i := 96) rfl rfl) (by decide) rfl ⟨by decide +kernel, by decide +kernel, by decide +kernel⟩ (by decide) rfl rfl (Nat.le_of_ble_eq_true rfl) (by rw [hR]; exact ⟨Nat.le_of_ble_eq_true rfl, Nat.le_of_ble_eq_true rfl⟩) dX6_init_11 (fun u2 _ => ?_)
  refine gl_w (ws' := [(h0, .inr (6, [.null, .int 0, .int 0, .int 0, .int 0, .int 0])), (q1, .inr (4, [.ref (u2.getD 0 0), .int 0])), ((u2.getD 0 0), aI ε 30 (fun _ => 0))]) rfl ?_
  refine gl_putF C hki 0 0 F_X6 (by decide) fl_X6_14 rfl rfl rfl rfl rfl rfl (Nat.le_of_ble_eq_true rfl) dX6_init_14 ?_
  refine gl_w (ws' := [(h0, .inr (6, [.ref q1, .int 0, .int 0, .int 0, .int 0, .int 0])), (q1, .inr (4, [.ref (u2.getD 0 0), .int 0])), ((u2.getD 0 0), aI ε 30 (fun _ => 0))]) rfl ?_
  refine gl_aload_n C dX6_init_17 rfl 0 rfl ?_
  refine gl_iconst (v := 1) C dX6_init_18 (by decide) ?_
  refine gl_put C 0 3 F_X6 (by decide) fl_X6_20 rfl rfl rfl rfl rfl (Nat.le_of_ble_eq_true rfl) dX6_init_19 ?_
  refine gl_w (ws' := [(h0, .inr (6, [.ref q1, .int 0, .int 0, .int 1, .int 0, .int 0])), (q1, .inr (4, [.ref (u2.getD 0 0), .int 0])), ((u2.getD 0 0), aI ε 30 (fun _ => 0))]) rfl ?_
  exact K 22 _ [q1, (u2.getD 0 0)] dX6_init_22 rfl
set_option maxRecDepth 20000 in
set_option maxHeartbeats 2000000 in
theorem c_X1_init {l : Launch} {h0 : Nat} : RC l ε yX1_init cX1_init 1 1 7 1036 [.ref h0] [(h0, .inr (1, [.null, .null, .null, .null, .null, .null, .null, .int 0, .int 0]))] (fun qs => [(h0, .inr (1, [.ref (qs.getD 0 0), .ref (qs.getD 1 0), .ref (qs.getD 2 0), .ref (qs.getD 3 0), .ref (qs.getD 4 0), .ref (qs.getD 5 0), .ref (qs.getD 6 0), .int 0, .int 0])), ((qs.getD 0 0), aI ε 720 (fun _ => 0)), ((qs.getD 1 0), aI ε 60 (fun _ => 0)), ((qs.getD 2 0), aI ε 60 (fun _ => 0)), ((qs.getD 3 0), aI ε 60 (fun _ => 0)), ((qs.getD 4 0), aI ε 60 (fun _ => 0)), ((qs.getD 5 0), aI ε 60 (fun _ => 0)), ((qs.getD 6 0), aI ε 16 (fun _ => 0))]) 7 := by
  refine RC.of (by decide) rfl (Nat.le_of_ble_eq_true rfl) (fun κ hkl hR C hki K => ?_)
  refine gl_aload_n C dX1_init_0 rfl 0 rfl ?_
  refine gl_obj C (tb_in (i := 220) rfl rfl) (by decide) dX1_init_1 ?_
  refine gl_aload_n C dX1_init_4 rfl 0 rfl ?_
  refine gl_sipush (v := 720) C dX1_init_5 (by decide) ?_
  refine gl_newa_int (N := 720) C (by decide) (by decide) (by rw [hR]; exact ⟨Nat.le_of_ble_eq_true rfl, Nat.le_of_ble_eq_true rfl⟩) dX1_init_8 (fun q1 => ?_)
  refine gl_w (ws' := [(h0, .inr (1, [.null, .null, .null, .null, .null, .null, .null, .int 0, .int 0])), (q1, aI ε 720 (fun _ => 0))]) rfl ?_
  refine gl_putF C hki 0 0 F_X1 (by decide) fl_X1_9 rfl rfl rfl rfl rfl rfl (Nat.le_of_ble_eq_true rfl) dX1_init_10 ?_
  refine gl_w (ws' := [(h0, .inr (1, [.ref q1, .null, .null, .null, .null, .null, .null, .int 0, .int 0])), (q1, aI ε 720 (fun _ => 0))]) rfl ?_
  refine gl_aload_n C dX1_init_13 rfl 0 rfl ?_
  refine gl_bipush (v := 60) C dX1_init_14 (by decide) ?_
  refine gl_newa_int (N := 60) C (by decide) (by decide) (by rw [hR]; exact ⟨Nat.le_of_ble_eq_true rfl, Nat.le_of_ble_eq_true rfl⟩) dX1_init_16 (fun q2 => ?_)
  refine gl_w (ws' := [(h0, .inr (1, [.ref q1, .null, .null, .null, .null, .null, .null, .int 0, .int 0])), (q1, aI ε 720 (fun _ => 0)), (q2, aI ε 60 (fun _ => 0))]) rfl ?_
  refine gl_putF C hki 0 1 F_X1 (by decide) fl_X1_15 rfl rfl rfl rfl rfl rfl (Nat.le_of_ble_eq_true rfl) dX1_init_18 ?_
  refine gl_w (ws' := [(h0, .inr (1, [.ref q1, .ref q2, .null, .null, .null, .null, .null, .int 0, .int 0])), (q1, aI ε 720 (fun _ => 0)), (q2, aI ε 60 (fun _ => 0))]) rfl ?_
  refine gl_aload_n C dX1_init_21 rfl 0 rfl ?_
  refine gl_bipush (v := 60) C dX1_init_22 (by decide) ?_
  refine gl_newa_int (N := 60) C (by decide) (by decide) (by rw [hR]; exact ⟨Nat.le_of_ble_eq_true rfl, Nat.le_of_ble_eq_true rfl⟩) dX1_init_24 (fun q3 => ?_)
  refine gl_w (ws' := [(h0, .inr (1, [.ref q1, .ref q2, .null, .null, .null, .null, .null, .int 0, .int 0])), (q1, aI ε 720 (fun _ => 0)), (q2, aI ε 60 (fun _ => 0)), (q3, aI ε 60 (fun _ => 0))]) rfl ?_
  refine gl_putF C hki 0 2 F_X1 (by decide) fl_X1_18 rfl rfl rfl rfl rfl rfl (Nat.le_of_ble_eq_true rfl) dX1_init_26 ?_
  refine gl_w (ws' := [(h0, .inr (1, [.ref q1, .ref q2, .ref q3, .null, .null, .null, .null, .int 0, .int 0])), (q1, aI ε 720 (fun _ => 0)), (q2, aI ε 60 (fun _ => 0)), (q3, aI ε 60 (fun _ => 0))]) rfl ?_
  refine gl_aload_n C dX1_init_29 rfl 0 rfl ?_
  refine gl_bipush (v := 60) C dX1_init_30 (by decide) ?_
  refine gl_newa_int (N := 60) C (by decide) (by decide) (by rw [hR]; exact ⟨Nat.le_of_ble_eq_true rfl, Nat.le_of_ble_eq_true rfl⟩) dX1_init_32 (fun q4 => ?_)
  refine gl_w (ws' := [(h0, .inr (1, [.ref q1, .ref q2, .ref q3, .null, .null, .null, .null, .int 0, .int 0])), (q1, aI ε 720 (fun _ => 0)), (q2, aI ε 60 (fun _ => 0)), (q3, aI ε 60 (fun _ => 0)), (q4, aI ε 60 (fun _ => 0))]) rfl ?_
  refine gl_putF C hki 0 3 F_X1 (by decide) fl_X1_21 rfl rfl rfl rfl rfl rfl (Nat.le_of_ble_eq_true rfl) dX1_init_34 ?_
  refine gl_w (ws' := [(h0, .inr (1, [.ref q1, .ref q2, .ref q3, .ref q4, .null, .null, .null, .int 0, .int 0])), (q1, aI ε 720 (fun _ => 0)), (q2, aI ε 60 (fun _ => 0)), (q3, aI ε 60 (fun _ => 0)), (q4, aI ε 60 (fun _ => 0))]) rfl ?_
  refine gl_aload_n C dX1_init_37 rfl 0 rfl ?_
  refine gl_bipush (v := 60) C dX1_init_38 (by decide) ?_
  refine gl_newa_int (N := 60) C (by decide) (by decide) (by rw [hR]; exact ⟨Nat.le_of_ble_eq_true rfl, Nat.le_of_ble_eq_true rfl⟩) dX1_init_40 (fun q5 => ?_)
  refine gl_w (ws' := [(h0, .inr (1, [.ref q1, .ref q2, .ref q3, .ref q4, .null, .null, .null, .int 0, .int 0])), (q1, aI ε 720 (fun _ => 0)), (q2, aI ε 60 (fun _ => 0)), (q3, aI ε 60 (fun _ => 0)), (q4, aI ε 60 (fun _ => 0)), (q5, aI ε 60 (fun _ => 0))]) rfl ?_
  refine gl_putF C hki 0 4 F_X1 (by decide) fl_X1_24 rfl rfl rfl rfl rfl rfl (Nat.le_of_ble_eq_true rfl) dX1_init_42 ?_
  refine gl_w (ws' := [(h0, .inr (1, [.ref q1, .ref q2, .ref q3, .ref q4, .ref q5, .null, .null, .int 0, .int 0])), (q1, aI ε 720 (fun _ => 0)), (q2, aI ε 60 (fun _ => 0)), (q3, aI ε 60 (fun _ => 0)), (q4, aI ε 60 (fun _ => 0)), (q5, aI ε 60 (fun _ => 0))]) rfl ?_
  refine gl_aload_n C dX1_init_45 rfl 0 rfl ?_
  refine gl_bipush (v := 60) C dX1_init_46 (by decide) ?_
  refine gl_newa_int (N := 60) C (by decide) (by decide) (by rw [hR]; exact ⟨Nat.le_of_ble_eq_true rfl, Nat.le_of_ble_eq_true rfl⟩) dX1_init_48 (fun q6 => ?_)
  refine gl_w (ws' := [(h0, .inr (1, [.ref q1, .ref q2, .ref q3, .ref q4, .ref q5, .null, .null, .int 0, .int 0])), (q1, aI ε 720 (fun _ => 0)), (q2, aI ε 60 (fun _ => 0)), (q3, aI ε 60 (fun _ => 0)), (q4, aI ε 60 (fun _ => 0)), (q5, aI ε 60 (fun _ => 0)), (q6, aI ε 60 (fun _ => 0))]) rfl ?_
  refine gl_putF C hki 0 5 F_X1 (by decide) fl_X1_27 rfl rfl rfl rfl rfl rfl (Nat.le_of_ble_eq_true rfl) dX1_init_50 ?_
  refine gl_w (ws' := [(h0, .inr (1, [.ref q1, .ref q2, .ref q3, .ref q4, .ref q5, .ref q6, .null, .int 0, .int 0])), (q1, aI ε 720 (fun _ => 0)), (q2, aI ε 60 (fun _ => 0)), (q3, aI ε 60 (fun _ => 0)), (q4, aI ε 60 (fun _ => 0)), (q5, aI ε 60 (fun _ => 0)), (q6, aI ε 60 (fun _ => 0))]) rfl ?_
  refine gl_aload_n C dX1_init_53 rfl 0 rfl ?_
  refine gl_bipush (v := 16) C dX1_init_54 (by decide) ?_
  refine gl_newa_int (N := 16) C (by decide) (by decide) (by rw [hR]; exact ⟨Nat.le_of_ble_eq_true rfl, Nat.le_of_ble_eq_true rfl⟩) dX1_init_56 (fun q7 => ?_)
  refine gl_w (ws' := [(h0, .inr (1, [.ref q1, .ref q2, .ref q3, .ref q4, .ref q5, .ref q6, .null, .int 0, .int 0])), (q1, aI ε 720 (fun _ => 0)), (q2, aI ε 60 (fun _ => 0)), (q3, aI ε 60 (fun _ => 0)), (q4, aI ε 60 (fun _ => 0)), (q5, aI ε 60 (fun _ => 0)), (q6, aI ε 60 (fun _ => 0)), (q7, aI ε 16 (fun _ => 0))]) rfl ?_
  refine gl_putF C hki 0 6 F_X1 (by decide) fl_X1_30 rfl rfl rfl rfl rfl rfl (Nat.le_of_ble_eq_true rfl) dX1_init_58 ?_
  refine gl_w (ws' := [(h0, .inr (1, [.ref q1, .ref q2, .ref q3, .ref q4, .ref q5, .ref q6, .ref q7, .int 0, .int 0])), (q1, aI ε 720 (fun _ => 0)), (q2, aI ε 60 (fun _ => 0)), (q3, aI ε 60 (fun _ => 0)), (q4, aI ε 60 (fun _ => 0)), (q5, aI ε 60 (fun _ => 0)), (q6, aI ε 60 (fun _ => 0)), (q7, aI ε 16 (fun _ => 0))]) rfl ?_
  exact K 61 _ [q1, q2, q3, q4, q5, q6, q7] dX1_init_61 rfl
set_option maxRecDepth 20000 in
set_option maxHeartbeats 2000000 in
theorem c_X5_init {l : Launch} {h0 : Nat} : RC l ε yX5_init cX5_init 1 2 13 1345 [.ref h0] [(h0, .inr (5, [.null, .null, .null, .null, .null, .null, .int 0, .int 0, .int 0]))] (fun qs => [(h0, .inr (5, [.ref (qs.getD 0 0), .ref (qs.getD 1 0), .ref (qs.getD 2 0), .ref (qs.getD 3 0), .ref (qs.getD 4 0), .ref (qs.getD 5 0), .int 0, .int 0, .int 0])), ((qs.getD 0 0), aI ε 60 (fun _ => 0)), ((qs.getD 1 0), aI ε 60 (fun _ => 0)), ((qs.getD 2 0), aI ε 60 (fun _ => 0)), ((qs.getD 3 0), aI ε 60 (fun _ => 0)), ((qs.getD 4 0), aZ ε 60 (fun _ => 0)), ((qs.getD 5 0), .inr (1, [.ref (qs.getD 6 0), .ref (qs.getD 7 0), .ref (qs.getD 8 0), .ref (qs.getD 9 0), .ref (qs.getD 10 0), .ref (qs.getD 11 0), .ref (qs.getD 12 0), .int 0, .int 0])), ((qs.getD 6 0), aI ε 720 (fun _ => 0)), ((qs.getD 7 0), aI ε 60 (fun _ => 0)), ((qs.getD 8 0), aI ε 60 (fun _ => 0)), ((qs.getD 9 0), aI ε 60 (fun _ => 0)), ((qs.getD 10 0), aI ε 60 (fun _ => 0)), ((qs.getD 11 0), aI ε 60 (fun _ => 0)), ((qs.getD 12 0), aI ε 16 (fun _ => 0))]) 13 := by
  refine RC.of (by decide) rfl (Nat.le_of_ble_eq_true rfl) (fun κ hkl hR C hki K => ?_)
  refine gl_aload_n C dX5_init_0 rfl 0 rfl ?_
  refine gl_obj C (tb_in (i := 214) rfl rfl) (by decide) dX5_init_1 ?_
  refine gl_aload_n C dX5_init_4 rfl 0 rfl ?_
  refine gl_bipush (v := 60) C dX5_init_5 (by decide) ?_
  refine gl_newa_int (N := 60) C (by decide) (by decide) (by rw [hR]; exact ⟨Nat.le_of_ble_eq_true rfl, Nat.le_of_ble_eq_true rfl⟩) dX5_init_7 (fun q1 => ?_)
  refine gl_w (ws' := [(h0, .inr (5, [.null, .null, .null, .null, .null, .null, .int 0, .int 0, .int 0])), (q1, aI ε 60 (fun _ => 0))]) rfl ?_
  refine gl_putF C hki 0 0 F_X5 (by decide) fl_X5_9 rfl rfl rfl rfl rfl rfl (Nat.le_of_ble_eq_true rfl) dX5_init_9 ?_
  refine gl_w (ws' := [(h0, .inr (5, [.ref q1, .null, .null, .null, .null, .null, .int 0, .int 0, .int 0])), (q1, aI ε 60 (fun _ => 0))]) rfl ?_
  refine gl_aload_n C dX5_init_12 rfl 0 rfl ?_
  refine gl_bipush (v := 60) C dX5_init_13 (by decide) ?_
  refine gl_newa_int (N := 60) C (by decide) (by decide) (by rw [hR]; exact ⟨Nat.le_of_ble_eq_true rfl, Nat.le_of_ble_eq_true rfl⟩) dX5_init_15 (fun q2 => ?_)
  refine gl_w (ws' := [(h0, .inr (5, [.ref q1, .null, .null, .null, .null, .null, .int 0, .int 0, .int 0])), (q1, aI ε 60 (fun _ => 0)), (q2, aI ε 60 (fun _ => 0))]) rfl ?_
  refine gl_putF C hki 0 1 F_X5 (by decide) fl_X5_15 rfl rfl rfl rfl rfl rfl (Nat.le_of_ble_eq_true rfl) dX5_init_17 ?_
  refine gl_w (ws' := [(h0, .inr (5, [.ref q1, .ref q2, .null, .null, .null, .null, .int 0, .int 0, .int 0])), (q1, aI ε 60 (fun _ => 0)), (q2, aI ε 60 (fun _ => 0))]) rfl ?_
  refine gl_aload_n C dX5_init_20 rfl 0 rfl ?_
  refine gl_bipush (v := 60) C dX5_init_21 (by decide) ?_
  refine gl_newa_int (N := 60) C (by decide) (by decide) (by rw [hR]; exact ⟨Nat.le_of_ble_eq_true rfl, Nat.le_of_ble_eq_true rfl⟩) dX5_init_23 (fun q3 => ?_)
  refine gl_w (ws' := [(h0, .inr (5, [.ref q1, .ref q2, .null, .null, .null, .null, .int 0, .int 0, .int 0])), (q1, aI ε 60 (fun _ => 0)), (q2, aI ε 60 (fun _ => 0)), (q3, aI ε 60 (fun _ => 0))]) rfl ?_
  refine gl_putF C hki 0 2 F_X5 (by decide) fl_X5_18 rfl rfl rfl rfl rfl rfl (Nat.le_of_ble_eq_true rfl) dX5_init_25 ?_
  refine gl_w (ws' := [(h0, .inr (5, [.ref q1, .ref q2, .ref q3, .null, .null, .null, .int 0, .int 0, .int 0])), (q1, aI ε 60 (fun _ => 0)), (q2, aI ε 60 (fun _ => 0)), (q3, aI ε 60 (fun _ => 0))]) rfl ?_
  refine gl_aload_n C dX5_init_28 rfl 0 rfl ?_
  refine gl_bipush (v := 60) C dX5_init_29 (by decide) ?_
  refine gl_newa_int (N := 60) C (by decide) (by decide) (by rw [hR]; exact ⟨Nat.le_of_ble_eq_true rfl, Nat.le_of_ble_eq_true rfl⟩) dX5_init_31 (fun q4 => ?_)
  refine gl_w (ws' := [(h0, .inr (5, [.ref q1, .ref q2, .ref q3, .null, .null, .null, .int 0, .int 0, .int 0])), (q1, aI ε 60 (fun _ => 0)), (q2, aI ε 60 (fun _ => 0)), (q3, aI ε 60 (fun _ => 0)), (q4, aI ε 60 (fun _ => 0))]) rfl ?_
  refine gl_putF C hki 0 3 F_X5 (by decide) fl_X5_21 rfl rfl rfl rfl rfl rfl (Nat.le_of_ble_eq_true rfl) dX5_init_33 ?_
  refine gl_w (ws' := [(h0, .inr (5, [.ref q1, .ref q2, .ref q3, .ref q4, .null, .null, .int 0, .int 0, .int 0])), (q1, aI ε 60 (fun _ => 0)), (q2, aI ε 60 (fun _ => 0)), (q3, aI ε 60 (fun _ => 0)), (q4, aI ε 60 (fun _ => 0))]) rfl ?_
  refine gl_aload_n C dX5_init_36 rfl 0 rfl ?_
  refine gl_bipush (v := 60) C dX5_init_37 (by decide) ?_
  refine gl_newa_boolean (N := 60) C (by decide) (by decide) (by rw [hR]; exact ⟨Nat.le_of_ble_eq_true rfl, Nat.le_of_ble_eq_true rfl⟩) dX5_init_39 (fun q5 => ?_)
  refine gl_w (ws' := [(h0, .inr (5, [.ref q1, .ref q2, .ref q3, .ref q4, .null, .null, .int 0, .int 0, .int 0])), (q1, aI ε 60 (fun _ => 0)), (q2, aI ε 60 (fun _ => 0)), (q3, aI ε 60 (fun _ => 0)), (q4, aI ε 60 (fun _ => 0)), (q5, aZ ε 60 (fun _ => 0))]) rfl ?_
  refine gl_putF C hki 0 4 F_X5 (by decide) fl_X5_24 rfl rfl rfl rfl rfl rfl (Nat.le_of_ble_eq_true rfl) dX5_init_41 ?_
  refine gl_w (ws' := [(h0, .inr (5, [.ref q1, .ref q2, .ref q3, .ref q4, .ref q5, .null, .int 0, .int 0, .int 0])), (q1, aI ε 60 (fun _ => 0)), (q2, aI ε 60 (fun _ => 0)), (q3, aI ε 60 (fun _ => 0)), (q4, aI ε 60 (fun _ => 0)), (q5, aZ ε 60 (fun _ => 0))]) rfl ?_
  refine gl_aload_n C dX5_init_44 rfl 0 rfl ?_
  refine gl_new C [.null, .null, .null, .null, .null, .null, .null, .int 0, .int 0] F_X1 (tb_in (i := 215) rfl rfl) (tb_in (i := 216) rfl rfl) (tb_in (i := 75) rfl rfl) (fun j hj => by rcases (show j = 0 ∨ j = 1 ∨ j = 2 ∨ j = 3 ∨ j = 4 ∨ j = 5 ∨ j = 6 ∨ j = 7 ∨ j = 8 by omega) with rfl | rfl | rfl | rfl | rfl | rfl | rfl | rfl | rfl <;> rfl) (by rw [hR]; exact ⟨Nat.le_of_ble_eq_true rfl, Nat.le_of_ble_eq_true rfl⟩) dX5_init_45 (fun q6 => ?_)
  refine gl_w (ws' := [(h0, .inr (5, [.ref q1, .ref q2, .ref q3, .ref q4, .ref q5, .null, .int 0, .int 0, .int 0])), (q1, aI ε 60 (fun _ => 0)), (q2, aI ε 60 (fun _ => 0)), (q3, aI ε 60 (fun _ => 0)), (q4, aI ε 60 (fun _ => 0)), (q5, aZ ε 60 (fun _ => 0)), (q6, .inr (1, [.null, .null, .null, .null, .null, .null, .null, .int 0, .int 0]))]) rfl ?_
  refine gl_dup C dX5_init_48 rfl ?_
  refine gl_ctorN (k := 6) (n := 309) (As := []) (rest := [.ref q6, .ref h0]) C [(h0, .inr (5, [.ref q1, .ref q2, .ref q3, .ref q4, .ref q5, .null, .int 0, .int 0, .int 0])), (q1, aI ε 60 (fun _ => 0)), (q2, aI ε 60 (fun _ => 0)), (q3, aI ε 60 (fun _ => 0)), (q4, aI ε 60 (fun _ => 0)), (q5, aZ ε 60 (fun _ => 0))] (c_X1_init (h0 := q6)) (List.mem_of_getElem? (i := 5) rfl) (tb_in (i := 218) rfl rfl) (tb_in (i := 75) rfl rfl) (tb_in (i := 219) rfl rfl) (by decide) rfl ⟨by decide +kernel, by decide +kernel, by decide +kernel⟩ (by decide) rfl rfl (Nat.le_of_ble_eq_true rfl) (by rw [hR]; exact ⟨Nat.le_of_ble_eq_true rfl, Nat.le_of_ble_eq_true rfl⟩) dX5_init_49 (fun u7 _ => ?_)
  refine gl_w (ws' := [(h0, .inr (5, [.ref q1, .ref q2, .ref q3, .ref q4, .ref q5, .null, .int 0, .int 0, .int 0])), (q1, aI ε 60 (fun _ => 0)), (q2, aI ε 60 (fun _ => 0)), (q3, aI ε 60 (fun _ => 0)), (q4, aI ε 60 (fun _ => 0)), (q5, aZ ε 60 (fun _ => 0)), (q6, .inr (1, [.ref (u7.getD 0 0), .ref (u7.getD 1 0), .ref (u7.getD 2 0), .ref (u7.getD 3 0), .ref (u7.getD 4 0), .ref (u7.getD 5 0), .ref (u7.getD 6 0), .int 0, .int 0])), ((u7.getD 0 0), aI ε 720 (fun _ => 0)), ((u7.getD 1 0), aI ε 60 (fun _ => 0)), ((u7.getD 2 0), aI ε 60 (fun _ => 0)), ((u7.getD 3 0), aI ε 60 (fun _ => 0)), ((u7.getD 4 0), aI ε 60 (fun _ => 0)), ((u7.getD 5 0), aI ε 60 (fun _ => 0)), ((u7.getD 6 0), aI ε 16 (fun _ => 0))]) rfl ?_
  refine gl_putF C hki 0 5 F_X5 (by decide) fl_X5_31 rfl rfl rfl rfl rfl rfl (Nat.le_of_ble_eq_true rfl) dX5_init_52 ?_
  refine gl_w (ws' := [(h0, .inr (5, [.ref q1, .ref q2, .ref q3, .ref q4, .ref q5, .ref q6, .int 0, .int 0, .int 0])), (q1, aI ε 60 (fun _ => 0)), (q2, aI ε 60 (fun _ => 0)), (q3, aI ε 60 (fun _ => 0)), (q4, aI ε 60 (fun _ => 0)), (q5, aZ ε 60 (fun _ => 0)), (q6, .inr (1, [.ref (u7.getD 0 0), .ref (u7.getD 1 0), .ref (u7.getD 2 0), .ref (u7.getD 3 0), .ref (u7.getD 4 0), .ref (u7.getD 5 0), .ref (u7.getD 6 0), .int 0, .int 0])), ((u7.getD 0 0), aI ε 720 (fun _ => 0)), ((u7.getD 1 0), aI ε 60 (fun _ => 0)), ((u7.getD 2 0), aI ε 60 (fun _ => 0)), ((u7.getD 3 0), aI ε 60 (fun _ => 0)), ((u7.getD 4 0), aI ε 60 (fun _ => 0)), ((u7.getD 5 0), aI ε 60 (fun _ => 0)), ((u7.getD 6 0), aI ε 16 (fun _ => 0))]) rfl ?_
  exact K 55 _ [q1, q2, q3, q4, q5, q6, (u7.getD 0 0), (u7.getD 1 0), (u7.getD 2 0), (u7.getD 3 0), (u7.getD 4 0), (u7.getD 5 0), (u7.getD 6 0)] dX5_init_55 rfl
set_option maxRecDepth 20000 in
set_option maxHeartbeats 2000000 in
theorem c_X8_init {l : Launch} {h0 : Nat} : RC l ε yX8_init cX8_init 1 4 38 31988 [.ref h0] [(h0, .inr (7, [.null, .null, .null, .null, .null, .null, .null, .int 0]))] (fun qs => [(h0, .inr (7, [.ref (qs.getD 0 0), .ref (qs.getD 2 0), .ref (qs.getD 4 0), .ref (qs.getD 11 0), .ref (qs.getD 15 0), .ref (qs.getD 18 0), .ref (qs.getD 32 0), .int (-1)])), ((qs.getD 0 0), .inr (4, [.ref (qs.getD 1 0), .int 0])), ((qs.getD 1 0), aI ε 6000 (fun _ => 0)), ((qs.getD 2 0), .inr (4, [.ref (qs.getD 3 0), .int 0])), ((qs.getD 3 0), aI ε 12000 (fun _ => 0)), ((qs.getD 4 0), .inr (2, [.ref (qs.getD 5 0), .int 0, .int 0, .int 0, .int 0])), ((qs.getD 5 0), .inr (3, [.ref (qs.getD 6 0), .ref (qs.getD 8 0), .ref (qs.getD 9 0), .ref (qs.getD 10 0), .int 0, .int 0])), ((qs.getD 6 0), .inr (4, [.ref (qs.getD 7 0), .int 0])), ((qs.getD 7 0), aI ε 6000 (fun _ => 0)), ((qs.getD 8 0), aI ε 60 (fun _ => 0)), ((qs.getD 9 0), aI ε 60 (fun _ => 0)), ((qs.getD 10 0), aI ε 60 (fun _ => 0)), ((qs.getD 11 0), .inr (0, [.ref (qs.getD 12 0), .ref (qs.getD 13 0), .int 0, .int 0, .int 13])), ((qs.getD 12 0), aI ε 192 (fun _ => 0)), ((qs.getD 13 0), .inr (4, [.ref (qs.getD 14 0), .int 0])), ((qs.getD 14 0), aI ε 12 (fun _ => 0)), ((qs.getD 15 0), .inr (6, [.ref (qs.getD 16 0), .int 0, .int 0, .int 1, .int 0, .int 0])), ((qs.getD 16 0), .inr (4, [.ref (qs.getD 17 0), .int 0])), ((qs.getD 17 0), aI ε 30 (fun _ => 0)), ((qs.getD 18 0), .inr (5, [.ref (qs.getD 19 0), .ref (qs.getD 20 0), .ref (qs.getD 21 0), .ref (qs.getD 22 0), .ref (qs.getD 23 0), .ref (qs.getD 24 0), .int 0, .int 0, .int 0])), ((qs.getD 19 0), aI ε 60 (fun _ => 0)), ((qs.getD 20 0), aI ε 60 (fun _ => 0)), ((qs.getD 21 0), aI ε 60 (fun _ => 0)), ((qs.getD 22 0), aI ε 60 (fun _ => 0)), ((qs.getD 23 0), aZ ε 60 (fun _ => 0)), ((qs.getD 24 0), .inr (1, [.ref (qs.getD 25 0), .ref (qs.getD 26 0), .ref (qs.getD 27 0), .ref (qs.getD 28 0), .ref (qs.getD 29 0), .ref (qs.getD 30 0), .ref (qs.getD 31 0), .int 0, .int 0])), ((qs.getD 25 0), aI ε 720 (fun _ => 0)), ((qs.getD 26 0), aI ε 60 (fun _ => 0)), ((qs.getD 27 0), aI ε 60 (fun _ => 0)), ((qs.getD 28 0), aI ε 60 (fun _ => 0)), ((qs.getD 29 0), aI ε 60 (fun _ => 0)), ((qs.getD 30 0), aI ε 60 (fun _ => 0)), ((qs.getD 31 0), aI ε 16 (fun _ => 0)), ((qs.getD 32 0), .inr (3, [.ref (qs.getD 33 0), .ref (qs.getD 35 0), .ref (qs.getD 36 0), .ref (qs.getD 37 0), .int 0, .int 0])), ((qs.getD 33 0), .inr (4, [.ref (qs.getD 34 0), .int 0])), ((qs.getD 34 0), aI ε 6000 (fun _ => 0)), ((qs.getD 35 0), aI ε 60 (fun _ => 0)), ((qs.getD 36 0), aI ε 60 (fun _ => 0)), ((qs.getD 37 0), aI ε 60 (fun _ => 0))]) 38 := by
  refine RC.of (by decide) rfl (Nat.le_of_ble_eq_true rfl) (fun κ hkl hR C hki K => ?_)
  refine gl_aload_n C dX8_init_0 rfl 0 rfl ?_
  refine gl_obj C (tb_in (i := 89) rfl rfl) (by decide) dX8_init_1 ?_
  refine gl_aload_n C dX8_init_4 rfl 0 rfl ?_
  refine gl_new C [.null, .int 0] F_X4 (tb_in (i := 92) rfl rfl) (tb_in (i := 93) rfl rfl) (tb_in (i := 68) rfl rfl) (fun j hj => by rcases (show j = 0 ∨ j = 1 by omega) with rfl | rfl <;> rfl) (by rw [hR]; exact ⟨Nat.le_of_ble_eq_true rfl, Nat.le_of_ble_eq_true rfl⟩) dX8_init_5 (fun q1 => ?_)
  refine gl_w (ws' := [(h0, .inr (7, [.null, .null, .null, .null, .null, .null, .null, .int 0])), (q1, .inr (4, [.null, .int 0]))]) rfl ?_
  refine gl_dup C dX8_init_8 rfl ?_
  refine gl_sipush (v := 6000) C dX8_init_9 (by decide) ?_
  refine gl_ctor (k := 1) (n := 2) (As := [.int 6000]) (rest := [.ref q1, .ref h0]) C [(h0, .inr (7, [.null, .null, .null, .null, .null, .null, .null, .int 0]))] (c_X4_init_6000 (h0 := q1)) (tb_in (i := 94) rfl rfl) (tb_in (i := 95) rfl rfl) (tb_in (i := 68) rfl rfl) (tb_in (i := 96) rfl rfl) (by decide) rfl ⟨by decide +kernel, by decide +kernel, by decide +kernel⟩ (by decide) rfl rfl (Nat.le_of_ble_eq_true rfl) (by rw [hR]; exact ⟨Nat.le_of_ble_eq_true rfl, Nat.le_of_ble_eq_true rfl⟩) dX8_init_12 (fun u2 _ => ?_)
  refine gl_w (ws' := [(h0, .inr (7, [.null, .null, .null, .null, .null, .null, .null, .int 0])), (q1, .inr (4, [.ref (u2.getD 0 0), .int 0])), ((u2.getD 0 0), aI ε 6000 (fun _ => 0))]) rfl ?_
  refine gl_putF C hki 0 0 F_X8 (by decide) fl_X8_14 rfl rfl rfl rfl rfl rfl (Nat.le_of_ble_eq_true rfl) dX8_init_15 ?_
  refine gl_w (ws' := [(h0, .inr (7, [.ref q1, .null, .null, .null, .null, .null, .null, .int 0])), (q1, .inr (4, [.ref (u2.getD 0 0), .int 0])), ((u2.getD 0 0), aI ε 6000 (fun _ => 0))]) rfl ?_
  refine gl_aload_n C dX8_init_18 rfl 0 rfl ?_
  refine gl_new C [.null, .int 0] F_X4 (tb_in (i := 92) rfl rfl) (tb_in (i := 93) rfl rfl) (tb_in (i := 68) rfl rfl) (fun j hj => by rcases (show j = 0 ∨ j = 1 by omega) with rfl | rfl <;> rfl) (by rw [hR]; exact ⟨Nat.le_of_ble_eq_true rfl, Nat.le_of_ble_eq_true rfl⟩) dX8_init_19 (fun q3 => ?_)
  refine gl_w (ws' := [(h0, .inr (7, [.ref q1, .null, .null, .null, .null, .null, .null, .int 0])), (q1, .inr (4, [.ref (u2.getD 0 0), .int 0])), ((u2.getD 0 0), aI ε 6000 (fun _ => 0)), (q3, .inr (4, [.null, .int 0]))]) rfl ?_
  refine gl_dup C dX8_init_22 rfl ?_
  refine gl_sipush (v := 12000) C dX8_init_23 (by decide) ?_
  refine gl_ctor (k := 3) (n := 6004) (As := [.int 12000]) (rest := [.ref q3, .ref h0]) C [(h0, .inr (7, [.ref q1, .null, .null, .null, .null, .null, .null, .int 0])), (q1, .inr (4, [.ref (u2.getD 0 0), .int 0])), ((u2.getD 0 0), aI ε 6000 (fun _ => 0))] (c_X4_init_12000 (h0 := q3)) (tb_in (i := 94) rfl rfl) (tb_in (i := 95) rfl rfl) (tb_in (i := 68) rfl rfl) (tb_in (i := 96) rfl rfl) (by decide) rfl ⟨by decide +kernel, by decide +kernel, by decide +kernel⟩ (by decide) rfl rfl (Nat.le_of_ble_eq_true rfl) (by rw [hR]; exact ⟨Nat.le_of_ble_eq_true rfl, Nat.le_of_ble_eq_true rfl⟩) dX8_init_26 (fun u4 _ => ?_)
  refine gl_w (ws' := [(h0, .inr (7, [.ref q1, .null, .null, .null, .null, .null, .null, .int 0])), (q1, .inr (4, [.ref (u2.getD 0 0), .int 0])), ((u2.getD 0 0), aI ε 6000 (fun _ => 0)), (q3, .inr (4, [.ref (u4.getD 0 0), .int 0])), ((u4.getD 0 0), aI ε 12000 (fun _ => 0))]) rfl ?_
  refine gl_putF C hki 0 1 F_X8 (by decide) fl_X8_18 rfl rfl rfl rfl rfl rfl (Nat.le_of_ble_eq_true rfl) dX8_init_29 ?_
  refine gl_w (ws' := [(h0, .inr (7, [.ref q1, .ref q3, .null, .null, .null, .null, .null, .int 0])), (q1, .inr (4, [.ref (u2.getD 0 0), .int 0])), ((u2.getD 0 0), aI ε 6000 (fun _ => 0)), (q3, .inr (4, [.ref (u4.getD 0 0), .int 0])), ((u4.getD 0 0), aI ε 12000 (fun _ => 0))]) rfl ?_
  refine gl_aload_n C dX8_init_32 rfl 0 rfl ?_
  refine gl_new C [.null, .int 0, .int 0, .int 0, .int 0] F_X2 (tb_in (i := 109) rfl rfl) (tb_in (i := 110) rfl rfl) (tb_in (i := 70) rfl rfl) (fun j hj => by rcases (show j = 0 ∨ j = 1 ∨ j = 2 ∨ j = 3 ∨ j = 4 by omega) with rfl | rfl | rfl | rfl | rfl <;> rfl) (by rw [hR]; exact ⟨Nat.le_of_ble_eq_true rfl, Nat.le_of_ble_eq_true rfl⟩) dX8_init_33 (fun q5 => ?_)
  refine gl_w (ws' := [(h0, .inr (7, [.ref q1, .ref q3, .null, .null, .null, .null, .null, .int 0])), (q1, .inr (4, [.ref (u2.getD 0 0), .int 0])), ((u2.getD 0 0), aI ε 6000 (fun _ => 0)), (q3, .inr (4, [.ref (u4.getD 0 0), .int 0])), ((u4.getD 0 0), aI ε 12000 (fun _ => 0)), (q5, .inr (2, [.null, .int 0, .int 0, .int 0, .int 0]))]) rfl ?_
  refine gl_dup C dX8_init_36 rfl ?_
  refine gl_ctorN (k := 5) (n := 18009) (As := []) (rest := [.ref q5, .ref h0]) C [(h0, .inr (7, [.ref q1, .ref q3, .null, .null, .null, .null, .null, .int 0])), (q1, .inr (4, [.ref (u2.getD 0 0), .int 0])), ((u2.getD 0 0), aI ε 6000 (fun _ => 0)), (q3, .inr (4, [.ref (u4.getD 0 0), .int 0])), ((u4.getD 0 0), aI ε 12000 (fun _ => 0))] (c_X2_init (h0 := q5)) (List.mem_of_getElem? (i := 0) rfl) (tb_in (i := 112) rfl rfl) (tb_in (i := 70) rfl rfl) (tb_in (i := 113) rfl rfl) (by decide) rfl ⟨by decide +kernel, by decide +kernel, by decide +kernel⟩ (by decide) rfl rfl (Nat.le_of_ble_eq_true rfl) (by rw [hR]; exact ⟨Nat.le_of_ble_eq_true rfl, Nat.le_of_ble_eq_true rfl⟩) dX8_init_37 (fun u6 _ => ?_)
  refine gl_w (ws' := [(h0, .inr (7, [.ref q1, .ref q3, .null, .null, .null, .null, .null, .int 0])), (q1, .inr (4, [.ref (u2.getD 0 0), .int 0])), ((u2.getD 0 0), aI ε 6000 (fun _ => 0)), (q3, .inr (4, [.ref (u4.getD 0 0), .int 0])), ((u4.getD 0 0), aI ε 12000 (fun _ => 0)), (q5, .inr (2, [.ref (u6.getD 0 0), .int 0, .int 0, .int 0, .int 0])), ((u6.getD 0 0), .inr (3, [.ref (u6.getD 1 0), .ref (u6.getD 3 0), .ref (u6.getD 4 0), .ref (u6.getD 5 0), .int 0, .int 0])), ((u6.getD 1 0), .inr (4, [.ref (u6.getD 2 0), .int 0])), ((u6.getD 2 0), aI ε 6000 (fun _ => 0)), ((u6.getD 3 0), aI ε 60 (fun _ => 0)), ((u6.getD 4 0), aI ε 60 (fun _ => 0)), ((u6.getD 5 0), aI ε 60 (fun _ => 0))]) rfl ?_
  refine gl_putF C hki 0 2 F_X8 (by decide) fl_X8_24 rfl rfl rfl rfl rfl rfl (Nat.le_of_ble_eq_true rfl) dX8_init_40 ?_
  refine gl_w (ws' := [(h0, .inr (7, [.ref q1, .ref q3, .ref q5, .null, .null, .null, .null, .int 0])), (q1, .inr (4, [.ref (u2.getD 0 0), .int 0])), ((u2.getD 0 0), aI ε 6000 (fun _ => 0)), (q3, .inr (4, [.ref (u4.getD 0 0), .int 0])), ((u4.getD 0 0), aI ε 12000 (fun _ => 0)), (q5, .inr (2, [.ref (u6.getD 0 0), .int 0, .int 0, .int 0, .int 0])), ((u6.getD 0 0), .inr (3, [.ref (u6.getD 1 0), .ref (u6.getD 3 0), .ref (u6.getD 4 0), .ref (u6.getD 5 0), .int 0, .int 0])), ((u6.getD 1 0), .inr (4, [.ref (u6.getD 2 0), .int 0])), ((u6.getD 2 0), aI ε 6000 (fun _ => 0)), ((u6.getD 3 0), aI ε 60 (fun _ => 0)), ((u6.getD 4 0), aI ε 60 (fun _ => 0)), ((u6.getD 5 0), aI ε 60 (fun _ => 0))]) rfl ?_
  refine gl_aload_n C dX8_init_43 rfl 0 rfl ?_
  refine gl_new C [.null, .null, .int 0, .int 0, .int 0] F_X0 (tb_in (i := 158) rfl rfl) (tb_in (i := 159) rfl rfl) (tb_in (i := 72) rfl rfl) (fun j hj => by rcases (show j = 0 ∨ j = 1 ∨ j = 2 ∨ j = 3 ∨ j = 4 by omega) with rfl | rfl | rfl | rfl | rfl <;> rfl) (by rw [hR]; exact ⟨Nat.le_of_ble_eq_true rfl, Nat.le_of_ble_eq_true rfl⟩) dX8_init_44 (fun q7 => ?_)
  refine gl_w (ws' := [(h0, .inr (7, [.ref q1, .ref q3, .ref q5, .null, .null, .null, .null, .int 0])), (q1, .inr (4, [.ref (u2.getD 0 0), .int 0])), ((u2.getD 0 0), aI ε 6000 (fun _ => 0)), (q3, .inr (4, [.ref (u4.getD 0 0), .int 0])), ((u4.getD 0 0), aI ε 12000 (fun _ => 0)), (q5, .inr (2, [.ref (u6.getD 0 0), .int 0, .int 0, .int 0, .int 0])), ((u6.getD 0 0), .inr (3, [.ref (u6.getD 1 0), .ref (u6.getD 3 0), .ref (u6.getD 4 0), .ref (u6.getD 5 0), .int 0, .int 0])), ((u6.getD 1 0), .inr (4, [.ref (u6.getD 2 0), .int 0])), ((u6.getD 2 0), aI ε 6000 (fun _ => 0)), ((u6.getD 3 0), aI ε 60 (fun _ => 0)), ((u6.getD 4 0), aI ε 60 (fun _ => 0)), ((u6.getD 5 0), aI ε 60 (fun _ => 0)), (q7, .inr (0, [.null, .null, .int 0, .int 0, .int 0]))]) rfl ?_
  refine gl_dup C dX8_init_47 rfl ?_
  refine gl_ctorN (k := 12) (n := 24202) (As := []) (rest := [.ref q7, .ref h0]) C [(h0, .inr (7, [.ref q1, .ref q3, .ref q5, .null, .null, .null, .null, .int 0])), (q1, .inr (4, [.ref (u2.getD 0 0), .int 0])), ((u2.getD 0 0), aI ε 6000 (fun _ => 0)), (q3, .inr (4, [.ref (u4.getD 0 0), .int 0])), ((u4.getD 0 0), aI ε 12000 (fun _ => 0)), (q5, .inr (2, [.ref (u6.getD 0 0), .int 0, .int 0, .int 0, .int 0])), ((u6.getD 0 0), .inr (3, [.ref (u6.getD 1 0), .ref (u6.getD 3 0), .ref (u6.getD 4 0), .ref (u6.getD 5 0), .int 0, .int 0])), ((u6.getD 1 0), .inr (4, [.ref (u6.getD 2 0), .int 0])), ((u6.getD 2 0), aI ε 6000 (fun _ => 0)), ((u6.getD 3 0), aI ε 60 (fun _ => 0)), ((u6.getD 4 0), aI ε 60 (fun _ => 0)), ((u6.getD 5 0), aI ε 60 (fun _ => 0))] (c_X0_init (h0 := q7)) (List.mem_of_getElem? (i := 2) rfl) (tb_in (i := 161) rfl rfl) (tb_in (i := 72) rfl rfl) (tb_in (i := 162) rfl rfl) (by decide) rfl ⟨by decide +kernel, by decide +kernel, by decide +kernel⟩ (by decide) rfl rfl (Nat.le_of_ble_eq_true rfl) (by rw [hR]; exact ⟨Nat.le_of_ble_eq_true rfl, Nat.le_of_ble_eq_true rfl⟩) dX8_init_48 (fun u8 _ => ?_)
  refine gl_w (ws' := [(h0, .inr (7, [.ref q1, .ref q3, .ref q5, .null, .null, .null, .null, .int 0])), (q1, .inr (4, [.ref (u2.getD 0 0), .int 0])), ((u2.getD 0 0), aI ε 6000 (fun _ => 0)), (q3, .inr (4, [.ref (u4.getD 0 0), .int 0])), ((u4.getD 0 0), aI ε 12000 (fun _ => 0)), (q5, .inr (2, [.ref (u6.getD 0 0), .int 0, .int 0, .int 0, .int 0])), ((u6.getD 0 0), .inr (3, [.ref (u6.getD 1 0), .ref (u6.getD 3 0), .ref (u6.getD 4 0), .ref (u6.getD 5 0), .int 0, .int 0])), ((u6.getD 1 0), .inr (4, [.ref (u6.getD 2 0), .int 0])), ((u6.getD 2 0), aI ε 6000 (fun _ => 0)), ((u6.getD 3 0), aI ε 60 (fun _ => 0)), ((u6.getD 4 0), aI ε 60 (fun _ => 0)), ((u6.getD 5 0), aI ε 60 (fun _ => 0)), (q7, .inr (0, [.ref (u8.getD 0 0), .ref (u8.getD 1 0), .int 0, .int 0, .int 13])), ((u8.getD 0 0), aI ε 192 (fun _ => 0)), ((u8.getD 1 0), .inr (4, [.ref (u8.getD 2 0), .int 0])), ((u8.getD 2 0), aI ε 12 (fun _ => 0))]) rfl ?_
  refine gl_putF C hki 0 3 F_X8 (by decide) fl_X8_31 rfl rfl rfl rfl rfl rfl (Nat.le_of_ble_eq_true rfl) dX8_init_51 ?_
  refine gl_w (ws' := [(h0, .inr (7, [.ref q1, .ref q3, .ref q5, .ref q7, .null, .null, .null, .int 0])), (q1, .inr (4, [.ref (u2.getD 0 0), .int 0])), ((u2.getD 0 0), aI ε 6000 (fun _ => 0)), (q3, .inr (4, [.ref (u4.getD 0 0), .int 0])), ((u4.getD 0 0), aI ε 12000 (fun _ => 0)), (q5, .inr (2, [.ref (u6.getD 0 0), .int 0, .int 0, .int 0, .int 0])), ((u6.getD 0 0), .inr (3, [.ref (u6.getD 1 0), .ref (u6.getD 3 0), .ref (u6.getD 4 0), .ref (u6.getD 5 0), .int 0, .int 0])), ((u6.getD 1 0), .inr (4, [.ref (u6.getD 2 0), .int 0])), ((u6.getD 2 0), aI ε 6000 (fun _ => 0)), ((u6.getD 3 0), aI ε 60 (fun _ => 0)), ((u6.getD 4 0), aI ε 60 (fun _ => 0)), ((u6.getD 5 0), aI ε 60 (fun _ => 0)), (q7, .inr (0, [.ref (u8.getD 0 0), .ref (u8.getD 1 0), .int 0, .int 0, .int 13])), ((u8.getD 0 0), aI ε 192 (fun _ => 0)), ((u8.getD 1 0), .inr (4, [.ref (u8.getD 2 0), .int 0])), ((u8.getD 2 0), aI ε 12 (fun _ => 0))]) rfl ?_
  refine gl_aload_n C dX8_init_54 rfl 0 rfl ?_
  refine gl_new C [.null, .int 0, .int 0, .int 0, .int 0, .int 0] F_X6 (tb_in (i := 182) rfl rfl) (tb_in (i := 183) rfl rfl) (tb_in (i := 73) rfl rfl) (fun j hj => by rcases (show j = 0 ∨ j = 1 ∨ j = 2 ∨ j = 3 ∨ j = 4 ∨ j = 5 by omega) with rfl | rfl | rfl | rfl | rfl | rfl <;> rfl) (by rw [hR]; exact ⟨Nat.le_of_ble_eq_true rfl, Nat.le_of_ble_eq_true rfl⟩) dX8_init_55 (fun q9 => ?_)
  refine gl_w (ws' := [(h0, .inr (7, [.ref q1, .ref q3, .ref q5, .ref q7, .null, .null, .null, .int 0])), (q1, .inr (4, [.ref (u2.getD 0 0), .int 0])), ((u2.getD 0 0), aI ε 6000 (fun _ => 0)), (q3, .inr (4, [.ref (u4.getD 0 0), .int 0])), ((u4.getD 0 0), aI ε 12000 (fun _ => 0)), (q5, .inr (2, [.ref (u6.getD 0 0), .int 0, .int 0, .int 0, .int 0])), ((u6.getD 0 0), .inr (3, [.ref (u6.getD 1 0), .ref (u6.getD 3 0), .ref (u6.getD 4 0), .ref (u6.getD 5 0), .int 0, .int 0])), ((u6.getD 1 0), .inr (4, [.ref (u6.getD 2 0), .int 0])), ((u6.getD 2 0), aI ε 6000 (fun _ => 0)), ((u6.getD 3 0), aI ε 60 (fun _ => 0)), ((u6.getD 4 0), aI ε 60 (fun _ => 0)), ((u6.getD 5 0), aI ε 60 (fun _ => 0)), (q7, .inr (0, [.ref (u8.getD 0 0), .ref (u8.getD 1 0), .int 0, .int 0, .int 13])), ((u8.getD 0 0), aI ε 192 (fun _ => 0)), ((u8.getD 1 0), .inr (4, [.ref (u8.getD 2 0), .int 0])), ((u8.getD 2 0), aI ε 12 (fun _ => 0)), (q9, .inr (6, [.null, .int 0, .int 0, .int 0, .int 0, .int 0]))]) rfl ?_
  refine gl_dup C dX8_init_58 rfl ?_
  refine gl_ctorN (k := 16) (n := 24414) (As := []) (rest := [.ref q9, .ref h0]) C [(h0, .inr (7, [.ref q1, .ref q3, .ref q5, .ref q7, .null, .null, .null, .int 0])), (q1, .inr (4, [.ref (u2.getD 0 0), .int 0])), ((u2.getD 0 0), aI ε 6000 (fun _ => 0)), (q3, .inr (4, [.ref (u4.getD 0 0), .int 0])), ((u4.getD 0 0), aI ε 12000 (fun _ => 0)), (q5, .inr (2, [.ref (u6.getD 0 0), .int 0, .int 0, .int 0, .int 0])), ((u6.getD 0 0), .inr (3, [.ref (u6.getD 1 0), .ref (u6.getD 3 0), .ref (u6.getD 4 0), .ref (u6.getD 5 0), .int 0, .int 0])), ((u6.getD 1 0), .inr (4, [.ref (u6.getD 2 0), .int 0])), ((u6.getD 2 0), aI ε 6000 (fun _ => 0)), ((u6.getD 3 0), aI ε 60 (fun _ => 0)), ((u6.getD 4 0), aI ε 60 (fun _ => 0)), ((u6.getD 5 0), aI ε 60 (fun _ => 0)), (q7, .inr (0, [.ref (u8.getD 0 0), .ref (u8.getD 1 0), .int 0, .int 0, .int 13])), ((u8.getD 0 0), aI ε 192 (fun _ => 0)), ((u8.getD 1 0), .inr (4, [.ref (u8.getD 2 0), .int 0])), ((u8.getD 2 0), aI ε 12 (fun _ => 0))] (c_X6_init (h0 := q9)) (List.mem_of_getElem? (i := 3) rfl) (tb_in (i := 185) rfl rfl) (tb_in (i := 73) rfl rfl) (tb_in (i := 186) rfl rfl) (by decide) rfl ⟨by decide +kernel, by decide +kernel, by decide +kernel⟩ (by decide) rfl rfl (Nat.le_of_ble_eq_true rfl) (by rw [hR]; exact ⟨Nat.le_of_ble_eq_true rfl, Nat.le_of_ble_eq_true rfl⟩) dX8_init_59 (fun u10 _ => ?_)
  refine gl_w (ws' := [(h0, .inr (7, [.ref q1, .ref q3, .ref q5, .ref q7, .null, .null, .null, .int 0])), (q1, .inr (4, [.ref (u2.getD 0 0), .int 0])), ((u2.getD 0 0), aI ε 6000 (fun _ => 0)), (q3, .inr (4, [.ref (u4.getD 0 0), .int 0])), ((u4.getD 0 0), aI ε 12000 (fun _ => 0)), (q5, .inr (2, [.ref (u6.getD 0 0), .int 0, .int 0, .int 0, .int 0])), ((u6.getD 0 0), .inr (3, [.ref (u6.getD 1 0), .ref (u6.getD 3 0), .ref (u6.getD 4 0), .ref (u6.getD 5 0), .int 0, .int 0])), ((u6.getD 1 0), .inr (4, [.ref (u6.getD 2 0), .int 0])), ((u6.getD 2 0), aI ε 6000 (fun _ => 0)), ((u6.getD 3 0), aI ε 60 (fun _ => 0)), ((u6.getD 4 0), aI ε 60 (fun _ => 0)), ((u6.getD 5 0), aI ε 60 (fun _ => 0)), (q7, .inr (0, [.ref (u8.getD 0 0), .ref (u8.getD 1 0), .int 0, .int 0, .int 13])), ((u8.getD 0 0), aI ε 192 (fun _ => 0)), ((u8.getD 1 0), .inr (4, [.ref (u8.getD 2 0), .int 0])), ((u8.getD 2 0), aI ε 12 (fun _ => 0)), (q9, .inr (6, [.ref (u10.getD 0 0), .int 0, .int 0, .int 1, .int 0, .int 0])), ((u10.getD 0 0), .inr (4, [.ref (u10.getD 1 0), .int 0])), ((u10.getD 1 0), aI ε 30 (fun _ => 0))]) rfl ?_
  refine gl_putF C hki 0 4 F_X8 (by decide) fl_X8_38 rfl rfl rfl rfl rfl rfl (Nat.le_of_ble_eq_true rfl) dX8_init_62 ?_
  refine gl_w (ws' := [(h0, .inr (7, [.ref q1, .ref q3, .ref q5, .ref q7, .ref q9, .null, .null, .int 0])), (q1, .inr (4, [.ref (u2.getD 0 0), .int 0])), ((u2.getD 0 0), aI ε 6000 (fun _ => 0)), (q3, .inr (4, [.ref (u4.getD 0 0), .int 0])), ((u4.getD 0 0), aI ε 12000 (fun _ => 0)), (q5, .inr (2, [.ref (u6.getD 0 0), .int 0, .int 0, .int 0, .int 0])), ((u6.getD 0 0), .inr (3, [.ref (u6.getD 1 0), .ref (u6.getD 3 0), .ref (u6.getD 4 0), .ref (u6.getD 5 0), .int 0, .int 0])), ((u6.getD 1 0), .inr (4, [.ref (u6.getD 2 0), .int 0])), ((u6.getD 2 0), aI ε 6000 (fun _ => 0)), ((u6.getD 3 0), aI ε 60 (fun _ => 0)), ((u6.getD 4 0), aI ε 60 (fun _ => 0)), ((u6.getD 5 0), aI ε 60 (fun _ => 0)), (q7, .inr (0, [.ref (u8.getD 0 0), .ref (u8.getD 1 0), .int 0, .int 0, .int 13])), ((u8.getD 0 0), aI ε 192 (fun _ => 0)), ((u8.getD 1 0), .inr (4, [.ref (u8.getD 2 0), .int 0])), ((u8.getD 2 0), aI ε 12 (fun _ => 0)), (q9, .inr (6, [.ref (u10.getD 0 0), .int 0, .int 0, .int 1, .int 0, .int 0])), ((u10.getD 0 0), .inr (4, [.ref (u10.getD 1 0), .int 0])), ((u10.getD 1 0), aI ε 30 (fun _ => 0))]) rfl ?_
  refine gl_aload_n C dX8_init_65 rfl 0 rfl ?_
  refine gl_new C [.null, .null, .null, .null, .null, .null, .int 0, .int 0, .int 0] F_X5 (tb_in (i := 209) rfl rfl) (tb_in (i := 210) rfl rfl) (tb_in (i := 74) rfl rfl) (fun j hj => by rcases (show j = 0 ∨ j = 1 ∨ j = 2 ∨ j = 3 ∨ j = 4 ∨ j = 5 ∨ j = 6 ∨ j = 7 ∨ j = 8 by omega) with rfl | rfl | rfl | rfl | rfl | rfl | rfl | rfl | rfl <;> rfl) (by rw [hR]; exact ⟨Nat.le_of_ble_eq_true rfl, Nat.le_of_ble_eq_true rfl⟩) dX8_init_66 (fun q11 => ?_)
  refine gl_w (ws' := [(h0, .inr (7, [.ref q1, .ref q3, .ref q5, .ref q7, .ref q9, .null, .null, .int 0])), (q1, .inr (4, [.ref (u2.getD 0 0), .int 0])), ((u2.getD 0 0), aI ε 6000 (fun _ => 0)), (q3, .inr (4, [.ref (u4.getD 0 0), .int 0])), ((u4.getD 0 0), aI ε 12000 (fun _ => 0)), (q5, .inr (2, [.ref (u6.getD 0 0), .int 0, .int 0, .int 0, .int 0])), ((u6.getD 0 0), .inr (3, [.ref (u6.getD 1 0), .ref (u6.getD 3 0), .ref (u6.getD 4 0), .ref (u6.getD 5 0), .int 0, .int 0])), ((u6.getD 1 0), .inr (4, [.ref (u6.getD 2 0), .int 0])), ((u6.getD 2 0), aI ε 6000 (fun _ => 0)), ((u6.getD 3 0), aI ε 60 (fun _ => 0)), ((u6.getD 4 0), aI ε 60 (fun _ => 0)), ((u6.getD 5 0), aI ε 60 (fun _ => 0)), (q7, .inr (0, [.ref (u8.getD 0 0), .ref (u8.getD 1 0), .int 0, .int 0, .int 13])), ((u8.getD 0 0), aI ε 192 (fun _ => 0)), ((u8.getD 1 0), .inr (4, [.ref (u8.getD 2 0), .int 0])), ((u8.getD 2 0), aI ε 12 (fun _ => 0)), (q9, .inr (6, [.ref (u10.getD 0 0), .int 0, .int 0, .int 1, .int 0, .int 0])), ((u10.getD 0 0), .inr (4, [.ref (u10.getD 1 0), .int 0])), ((u10.getD 1 0), aI ε 30 (fun _ => 0)), (q11, .inr (5, [.null, .null, .null, .null, .null, .null, .int 0, .int 0, .int 0]))]) rfl ?_
  refine gl_dup C dX8_init_69 rfl ?_
  refine gl_ctorN (k := 19) (n := 24455) (As := []) (rest := [.ref q11, .ref h0]) C [(h0, .inr (7, [.ref q1, .ref q3, .ref q5, .ref q7, .ref q9, .null, .null, .int 0])), (q1, .inr (4, [.ref (u2.getD 0 0), .int 0])), ((u2.getD 0 0), aI ε 6000 (fun _ => 0)), (q3, .inr (4, [.ref (u4.getD 0 0), .int 0])), ((u4.getD 0 0), aI ε 12000 (fun _ => 0)), (q5, .inr (2, [.ref (u6.getD 0 0), .int 0, .int 0, .int 0, .int 0])), ((u6.getD 0 0), .inr (3, [.ref (u6.getD 1 0), .ref (u6.getD 3 0), .ref (u6.getD 4 0), .ref (u6.getD 5 0), .int 0, .int 0])), ((u6.getD 1 0), .inr (4, [.ref (u6.getD 2 0), .int 0])), ((u6.getD 2 0), aI ε 6000 (fun _ => 0)), ((u6.getD 3 0), aI ε 60 (fun _ => 0)), ((u6.getD 4 0), aI ε 60 (fun _ => 0)), ((u6.getD 5 0), aI ε 60 (fun _ => 0)), (q7, .inr (0, [.ref (u8.getD 0 0), .ref (u8.getD 1 0), .int 0, .int 0, .int 13])), ((u8.getD 0 0), aI ε 192 (fun _ => 0)), ((u8.getD 1 0), .inr (4, [.ref (u8.getD 2 0), .int 0])), ((u8.getD 2 0), aI ε 12 (fun _ => 0)), (q9, .inr (6, [.ref (u10.getD 0 0), .int 0, .int 0, .int 1, .int 0, .int 0])), ((u10.getD 0 0), .inr (4, [.ref (u10.getD 1 0), .int 0])), ((u10.getD 1 0), aI ε 30 (fun _ => 0))] (c_X5_init (h0 := q11)) (List.mem_of_getElem? (i := 4) rfl) (tb_in (i := 212) rfl rfl) (tb_in (i := 74) rfl rfl) (tb_in (i := 213) rfl rfl) (by decide) rfl ⟨by decide +kernel, by decide +kernel, by decide +kernel⟩ (by decide) rfl rfl (Nat.le_of_ble_eq_true rfl) (by rw [hR]; exact ⟨Nat.le_of_ble_eq_true rfl, Nat.le_of_ble_eq_true rfl⟩) dX8_init_70 (fun u12 _ => ?_)
  refine gl_w (ws' := [(h0, .inr (7, [.ref q1, .ref q3, .ref q5, .ref q7, .ref q9, .null, .null, .int 0])), (q1, .inr (4, [.ref (u2.getD 0 0), .int 0])), ((u2.getD 0 0), aI ε 6000 (fun _ => 0)), (q3, .inr (4, [.ref (u4.getD 0 0), .int 0])), ((u4.getD 0 0), aI ε 12000 (fun _ => 0)), (q5, .inr (2, [.ref (u6.getD 0 0), .int 0, .int 0, .int 0, .int 0])), ((u6.getD 0 0), .inr (3, [.ref (u6.getD 1 0), .ref (u6.getD 3 0), .ref (u6.getD 4 0), .ref (u6.getD 5 0), .int 0, .int 0])), ((u6.getD 1 0), .inr (4, [.ref (u6.getD 2 0), .int 0])), ((u6.getD 2 0), aI ε 6000 (fun _ => 0)), ((u6.getD 3 0), aI ε 60 (fun _ => 0)), ((u6.getD 4 0), aI ε 60 (fun _ => 0)), ((u6.getD 5 0), aI ε 60 (fun _ => 0)), (q7, .inr (0, [.ref (u8.getD 0 0), .ref (u8.getD 1 0), .int 0, .int 0, .int 13])), ((u8.getD 0 0), aI ε 192 (fun _ => 0)), ((u8.getD 1 0), .inr (4, [.ref (u8.getD 2 0), .int 0])), ((u8.getD 2 0), aI ε 12 (fun _ => 0)), (q9, .inr (6, [.ref (u10.getD 0 0), .int 0, .int 0, .int 1, .int 0, .int 0])), ((u10.getD 0 0), .inr (4, [.ref (u10.getD 1 0), .int 0])), ((u10.getD 1 0), aI ε 30 (fun _ => 0)), (q11, .inr (5, [.ref (u12.getD 0 0), .ref (u12.getD 1 0), .ref (u12.getD 2 0), .ref (u12.getD 3 0), .ref (u12.getD 4 0), .ref (u12.getD 5 0), .int 0, .int 0, .int 0])), ((u12.getD 0 0), aI ε 60 (fun _ => 0)), ((u12.getD 1 0), aI ε 60 (fun _ => 0)), ((u12.getD 2 0), aI ε 60 (fun _ => 0)), ((u12.getD 3 0), aI ε 60 (fun _ => 0)), ((u12.getD 4 0), aZ ε 60 (fun _ => 0)), ((u12.getD 5 0), .inr (1, [.ref (u12.getD 6 0), .ref (u12.getD 7 0), .ref (u12.getD 8 0), .ref (u12.getD 9 0), .ref (u12.getD 10 0), .ref (u12.getD 11 0), .ref (u12.getD 12 0), .int 0, .int 0])), ((u12.getD 6 0), aI ε 720 (fun _ => 0)), ((u12.getD 7 0), aI ε 60 (fun _ => 0)), ((u12.getD 8 0), aI ε 60 (fun _ => 0)), ((u12.getD 9 0), aI ε 60 (fun _ => 0)), ((u12.getD 10 0), aI ε 60 (fun _ => 0)), ((u12.getD 11 0), aI ε 60 (fun _ => 0)), ((u12.getD 12 0), aI ε 16 (fun _ => 0))]) rfl ?_
  refine gl_putF C hki 0 5 F_X8 (by decide) fl_X8_45 rfl rfl rfl rfl rfl rfl (Nat.le_of_ble_eq_true rfl) dX8_init_73 ?_
  refine gl_w (ws' := [(h0, .inr (7, [.ref q1, .ref q3, .ref q5, .ref q7, .ref q9, .ref q11, .null, .int 0])), (q1, .inr (4, [.ref (u2.getD 0 0), .int 0])), ((u2.getD 0 0), aI ε 6000 (fun _ => 0)), (q3, .inr (4, [.ref (u4.getD 0 0), .int 0])), ((u4.getD 0 0), aI ε 12000 (fun _ => 0)), (q5, .inr (2, [.ref (u6.getD 0 0), .int 0, .int 0, .int 0, .int 0])), ((u6.getD 0 0), .inr (3, [.ref (u6.getD 1 0), .ref (u6.getD 3 0), .ref (u6.getD 4 0), .ref (u6.getD 5 0), .int 0, .int 0])), ((u6.getD 1 0), .inr (4, [.ref (u6.getD 2 0), .int 0])), ((u6.getD 2 0), aI ε 6000 (fun _ => 0)), ((u6.getD 3 0), aI ε 60 (fun _ => 0)), ((u6.getD 4 0), aI ε 60 (fun _ => 0)), ((u6.getD 5 0), aI ε 60 (fun _ => 0)), (q7, .inr (0, [.ref (u8.getD 0 0), .ref (u8.getD 1 0), .int 0, .int 0, .int 13])), ((u8.getD 0 0), aI ε 192 (fun _ => 0)), ((u8.getD 1 0), .inr (4, [.ref (u8.getD 2 0), .int 0])), ((u8.getD 2 0), aI ε 12 (fun _ => 0)), (q9, .inr (6, [.ref (u10.getD 0 0), .int 0, .int 0, .int 1, .int 0, .int 0])), ((u10.getD 0 0), .inr (4, [.ref (u10.getD 1 0), .int 0])), ((u10.getD 1 0), aI ε 30 (fun _ => 0)), (q11, .inr (5, [.ref (u12.getD 0 0), .ref (u12.getD 1 0), .ref (u12.getD 2 0), .ref (u12.getD 3 0), .ref (u12.getD 4 0), .ref (u12.getD 5 0), .int 0, .int 0, .int 0])), ((u12.getD 0 0), aI ε 60 (fun _ => 0)), ((u12.getD 1 0), aI ε 60 (fun _ => 0)), ((u12.getD 2 0), aI ε 60 (fun _ => 0)), ((u12.getD 3 0), aI ε 60 (fun _ => 0)), ((u12.getD 4 0), aZ ε 60 (fun _ => 0)), ((u12.getD 5 0), .inr (1, [.ref (u12.getD 6 0), .ref (u12.getD 7 0), .ref (u12.getD 8 0), .ref (u12.getD 9 0), .ref (u12.getD 10 0), .ref (u12.getD 11 0), .ref (u12.getD 12 0), .int 0, .int 0])), ((u12.getD 6 0), aI ε 720 (fun _ => 0)), ((u12.getD 7 0), aI ε 60 (fun _ => 0)), ((u12.getD 8 0), aI ε 60 (fun _ => 0)), ((u12.getD 9 0), aI ε 60 (fun _ => 0)), ((u12.getD 10 0), aI ε 60 (fun _ => 0)), ((u12.getD 11 0), aI ε 60 (fun _ => 0)), ((u12.getD 12 0), aI ε 16 (fun _ => 0))]) rfl ?_
  refine gl_aload_n C dX8_init_76 rfl 0 rfl ?_
  refine gl_new C [.null, .null, .null, .null, .int 0, .int 0] F_X3 (tb_in (i := 278) rfl rfl) (tb_in (i := 116) rfl rfl) (tb_in (i := 71) rfl rfl) (fun j hj => by rcases (show j = 0 ∨ j = 1 ∨ j = 2 ∨ j = 3 ∨ j = 4 ∨ j = 5 by omega) with rfl | rfl | rfl | rfl | rfl | rfl <;> rfl) (by rw [hR]; exact ⟨Nat.le_of_ble_eq_true rfl, Nat.le_of_ble_eq_true rfl⟩) dX8_init_77 (fun q13 => ?_)
  refine gl_w (ws' := [(h0, .inr (7, [.ref q1, .ref q3, .ref q5, .ref q7, .ref q9, .ref q11, .null, .int 0])), (q1, .inr (4, [.ref (u2.getD 0 0), .int 0])), ((u2.getD 0 0), aI ε 6000 (fun _ => 0)), (q3, .inr (4, [.ref (u4.getD 0 0), .int 0])), ((u4.getD 0 0), aI ε 12000 (fun _ => 0)), (q5, .inr (2, [.ref (u6.getD 0 0), .int 0, .int 0, .int 0, .int 0])), ((u6.getD 0 0), .inr (3, [.ref (u6.getD 1 0), .ref (u6.getD 3 0), .ref (u6.getD 4 0), .ref (u6.getD 5 0), .int 0, .int 0])), ((u6.getD 1 0), .inr (4, [.ref (u6.getD 2 0), .int 0])), ((u6.getD 2 0), aI ε 6000 (fun _ => 0)), ((u6.getD 3 0), aI ε 60 (fun _ => 0)), ((u6.getD 4 0), aI ε 60 (fun _ => 0)), ((u6.getD 5 0), aI ε 60 (fun _ => 0)), (q7, .inr (0, [.ref (u8.getD 0 0), .ref (u8.getD 1 0), .int 0, .int 0, .int 13])), ((u8.getD 0 0), aI ε 192 (fun _ => 0)), ((u8.getD 1 0), .inr (4, [.ref (u8.getD 2 0), .int 0])), ((u8.getD 2 0), aI ε 12 (fun _ => 0)), (q9, .inr (6, [.ref (u10.getD 0 0), .int 0, .int 0, .int 1, .int 0, .int 0])), ((u10.getD 0 0), .inr (4, [.ref (u10.getD 1 0), .int 0])), ((u10.getD 1 0), aI ε 30 (fun _ => 0)), (q11, .inr (5, [.ref (u12.getD 0 0), .ref (u12.getD 1 0), .ref (u12.getD 2 0), .ref (u12.getD 3 0), .ref (u12.getD 4 0), .ref (u12.getD 5 0), .int 0, .int 0, .int 0])), ((u12.getD 0 0), aI ε 60 (fun _ => 0)), ((u12.getD 1 0), aI ε 60 (fun _ => 0)), ((u12.getD 2 0), aI ε 60 (fun _ => 0)), ((u12.getD 3 0), aI ε 60 (fun _ => 0)), ((u12.getD 4 0), aZ ε 60 (fun _ => 0)), ((u12.getD 5 0), .inr (1, [.ref (u12.getD 6 0), .ref (u12.getD 7 0), .ref (u12.getD 8 0), .ref (u12.getD 9 0), .ref (u12.getD 10 0), .ref (u12.getD 11 0), .ref (u12.getD 12 0), .int 0, .int 0])), ((u12.getD 6 0), aI ε 720 (fun _ => 0)), ((u12.getD 7 0), aI ε 60 (fun _ => 0)), ((u12.getD 8 0), aI ε 60 (fun _ => 0)), ((u12.getD 9 0), aI ε 60 (fun _ => 0)), ((u12.getD 10 0), aI ε 60 (fun _ => 0)), ((u12.getD 11 0), aI ε 60 (fun _ => 0)), ((u12.getD 12 0), aI ε 16 (fun _ => 0)), (q13, .inr (3, [.null, .null, .null, .null, .int 0, .int 0]))]) rfl ?_
  refine gl_dup C dX8_init_80 rfl ?_
  refine gl_ctorN (k := 33) (n := 25806) (As := []) (rest := [.ref q13, .ref h0]) C [(h0, .inr (7, [.ref q1, .ref q3, .ref q5, .ref q7, .ref q9, .ref q11, .null, .int 0])), (q1, .inr (4, [.ref (u2.getD 0 0), .int 0])), ((u2.getD 0 0), aI ε 6000 (fun _ => 0)), (q3, .inr (4, [.ref (u4.getD 0 0), .int 0])), ((u4.getD 0 0), aI ε 12000 (fun _ => 0)), (q5, .inr (2, [.ref (u6.getD 0 0), .int 0, .int 0, .int 0, .int 0])), ((u6.getD 0 0), .inr (3, [.ref (u6.getD 1 0), .ref (u6.getD 3 0), .ref (u6.getD 4 0), .ref (u6.getD 5 0), .int 0, .int 0])), ((u6.getD 1 0), .inr (4, [.ref (u6.getD 2 0), .int 0])), ((u6.getD 2 0), aI ε 6000 (fun _ => 0)), ((u6.getD 3 0), aI ε 60 (fun _ => 0)), ((u6.getD 4 0), aI ε 60 (fun _ => 0)), ((u6.getD 5 0), aI ε 60 (fun _ => 0)), (q7, .inr (0, [.ref (u8.getD 0 0), .ref (u8.getD 1 0), .int 0, .int 0, .int 13])), ((u8.getD 0 0), aI ε 192 (fun _ => 0)), ((u8.getD 1 0), .inr (4, [.ref (u8.getD 2 0), .int 0])), ((u8.getD 2 0), aI ε 12 (fun _ => 0)), (q9, .inr (6, [.ref (u10.getD 0 0), .int 0, .int 0, .int 1, .int 0, .int 0])), ((u10.getD 0 0), .inr (4, [.ref (u10.getD 1 0), .int 0])), ((u10.getD 1 0), aI ε 30 (fun _ => 0)), (q11, .inr (5, [.ref (u12.getD 0 0), .ref (u12.getD 1 0), .ref (u12.getD 2 0), .ref (u12.getD 3 0), .ref (u12.getD 4 0), .ref (u12.getD 5 0), .int 0, .int 0, .int 0])), ((u12.getD 0 0), aI ε 60 (fun _ => 0)), ((u12.getD 1 0), aI ε 60 (fun _ => 0)), ((u12.getD 2 0), aI ε 60 (fun _ => 0)), ((u12.getD 3 0), aI ε 60 (fun _ => 0)), ((u12.getD 4 0), aZ ε 60 (fun _ => 0)), ((u12.getD 5 0), .inr (1, [.ref (u12.getD 6 0), .ref (u12.getD 7 0), .ref (u12.getD 8 0), .ref (u12.getD 9 0), .ref (u12.getD 10 0), .ref (u12.getD 11 0), .ref (u12.getD 12 0), .int 0, .int 0])), ((u12.getD 6 0), aI ε 720 (fun _ => 0)), ((u12.getD 7 0), aI ε 60 (fun _ => 0)), ((u12.getD 8 0), aI ε 60 (fun _ => 0)), ((u12.getD 9 0), aI ε 60 (fun _ => 0)), ((u12.getD 10 0), aI ε 60 (fun _ => 0)), ((u12.getD 11 0), aI ε 60 (fun _ => 0)), ((u12.getD 12 0), aI ε 16 (fun _ => 0))] (c_X3_init (h0 := q13)) (List.mem_of_getElem? (i := 6) rfl) (tb_in (i := 118) rfl rfl) (tb_in (i := 71) rfl rfl) (tb_in (i := 119) rfl rfl) (by decide) rfl ⟨by decide +kernel, by decide +kernel, by decide +kernel⟩ (by decide) rfl rfl (Nat.le_of_ble_eq_true rfl) (by rw [hR]; exact ⟨Nat.le_of_ble_eq_true rfl, Nat.le_of_ble_eq_true rfl⟩) dX8_init_81 (fun u14 _ => ?_)
  refine gl_w (ws' := [(h0, .inr (7, [.ref q1, .ref q3, .ref q5, .ref q7, .ref q9, .ref q11, .null, .int 0])), (q1, .inr (4, [.ref (u2.getD 0 0), .int 0])), ((u2.getD 0 0), aI ε 6000 (fun _ => 0)), (q3, .inr (4, [.ref (u4.getD 0 0), .int 0])), ((u4.getD 0 0), aI ε 12000 (fun _ => 0)), (q5, .inr (2, [.ref (u6.getD 0 0), .int 0, .int 0, .int 0, .int 0])), ((u6.getD 0 0), .inr (3, [.ref (u6.getD 1 0), .ref (u6.getD 3 0), .ref (u6.getD 4 0), .ref (u6.getD 5 0), .int 0, .int 0])), ((u6.getD 1 0), .inr (4, [.ref (u6.getD 2 0), .int 0])), ((u6.getD 2 0), aI ε 6000 (fun _ => 0)), ((u6.getD 3 0), aI ε 60 (fun _ => 0)), ((u6.getD 4 0), aI ε 60 (fun _ => 0)), ((u6.getD 5 0), aI ε 60 (fun _ => 0)), (q7, .inr (0, [.ref (u8.getD 0 0), .ref (u8.getD 1 0), .int 0, .int 0, .int 13])), ((u8.getD 0 0), aI ε 192 (fun _ => 0)), ((u8.getD 1 0), .inr (4, [.ref (u8.getD 2 0), .int 0])), ((u8.getD 2 0), aI ε 12 (fun _ => 0)), (q9, .inr (6, [.ref (u10.getD 0 0), .int 0, .int 0, .int 1, .int 0, .int 0])), ((u10.getD 0 0), .inr (4, [.ref (u10.getD 1 0), .int 0])), ((u10.getD 1 0), aI ε 30 (fun _ => 0)), (q11, .inr (5, [.ref (u12.getD 0 0), .ref (u12.getD 1 0), .ref (u12.getD 2 0), .ref (u12.getD 3 0), .ref (u12.getD 4 0), .ref (u12.getD 5 0), .int 0, .int 0, .int 0])), ((u12.getD 0 0), aI ε 60 (fun _ => 0)), ((u12.getD 1 0), aI ε 60 (fun _ => 0)), ((u12.getD 2 0), aI ε 60 (fun _ => 0)), ((u12.getD 3 0), aI ε 60 (fun _ => 0)), ((u12.getD 4 0), aZ ε 60 (fun _ => 0)), ((u12.getD 5 0), .inr (1, [.ref (u12.getD 6 0), .ref (u12.getD 7 0), .ref (u12.getD 8 0), .ref (u12.getD 9 0), .ref (u12.getD 10 0), .ref (u12.getD 11 0), .ref (u12.getD 12 0), .int 0, .int 0])), ((u12.getD 6 0), aI ε 720 (fun _ => 0)), ((u12.getD 7 0), aI ε 60 (fun _ => 0)), ((u12.getD 8 0), aI ε 60 (fun _ => 0)), ((u12.getD 9 0), aI ε 60 (fun _ => 0)), ((u12.getD 10 0), aI ε 60 (fun _ => 0)), ((u12.getD 11 0), aI ε 60 (fun _ => 0)), ((u12.getD 12 0), aI ε 16 (fun _ => 0)), (q13, .inr (3, [.ref (u14.getD 0 0), .ref (u14.getD 2 0), .ref (u14.getD 3 0), .ref (u14.getD 4 0), .int 0, .int 0])), ((u14.getD 0 0), .inr (4, [.ref (u14.getD 1 0), .int 0])), ((u14.getD 1 0), aI ε 6000 (fun _ => 0)), ((u14.getD 2 0), aI ε 60 (fun _ => 0)), ((u14.getD 3 0), aI ε 60 (fun _ => 0)), ((u14.getD 4 0), aI ε 60 (fun _ => 0))]) rfl ?_
  refine gl_put C 0 6 F_X8 (by decide) fl_X8_52 rfl rfl rfl rfl rfl (Nat.le_of_ble_eq_true rfl) dX8_init_84 ?_
  refine gl_w (ws' := [(h0, .inr (7, [.ref q1, .ref q3, .ref q5, .ref q7, .ref q9, .ref q11, .ref q13, .int 0])), (q1, .inr (4, [.ref (u2.getD 0 0), .int 0])), ((u2.getD 0 0), aI ε 6000 (fun _ => 0)), (q3, .inr (4, [.ref (u4.getD 0 0), .int 0])), ((u4.getD 0 0), aI ε 12000 (fun _ => 0)), (q5, .inr (2, [.ref (u6.getD 0 0), .int 0, .int 0, .int 0, .int 0])), ((u6.getD 0 0), .inr (3, [.ref (u6.getD 1 0), .ref (u6.getD 3 0), .ref (u6.getD 4 0), .ref (u6.getD 5 0), .int 0, .int 0])), ((u6.getD 1 0), .inr (4, [.ref (u6.getD 2 0), .int 0])), ((u6.getD 2 0), aI ε 6000 (fun _ => 0)), ((u6.getD 3 0), aI ε 60 (fun _ => 0)), ((u6.getD 4 0), aI ε 60 (fun _ => 0)), ((u6.getD 5 0), aI ε 60 (fun _ => 0)), (q7, .inr (0, [.ref (u8.getD 0 0), .ref (u8.getD 1 0), .int 0, .int 0, .int 13])), ((u8.getD 0 0), aI ε 192 (fun _ => 0)), ((u8.getD 1 0), .inr (4, [.ref (u8.getD 2 0), .int 0])), ((u8.getD 2 0), aI ε 12 (fun _ => 0)), (q9, .inr (6, [.ref (u10.getD 0 0), .int 0, .int 0, .int 1, .int 0, .int 0])), ((u10.getD 0 0), .inr (4, [.ref (u10.getD 1 0), .int 0])), ((u10.getD 1 0), aI ε 30 (fun _ => 0)), (q11, .inr (5, [.ref (u12.getD 0 0), .ref (u12.getD 1 0), .ref (u12.getD 2 0), .ref (u12.getD 3 0), .ref (u12.getD 4 0), .ref (u12.getD 5 0), .int 0, .int 0, .int 0])), ((u12.getD 0 0), aI ε 60 (fun _ => 0)), ((u12.getD 1 0), aI ε 60 (fun _ => 0)), ((u12.getD 2 0), aI ε 60 (fun _ => 0)), ((u12.getD 3 0), aI ε 60 (fun _ => 0)), ((u12.getD 4 0), aZ ε 60 (fun _ => 0)), ((u12.getD 5 0), .inr (1, [.ref (u12.getD 6 0), .ref (u12.getD 7 0), .ref (u12.getD 8 0), .ref (u12.getD 9 0), .ref (u12.getD 10 0), .ref (u12.getD 11 0), .ref (u12.getD 12 0), .int 0, .int 0])), ((u12.getD 6 0), aI ε 720 (fun _ => 0)), ((u12.getD 7 0), aI ε 60 (fun _ => 0)), ((u12.getD 8 0), aI ε 60 (fun _ => 0)), ((u12.getD 9 0), aI ε 60 (fun _ => 0)), ((u12.getD 10 0), aI ε 60 (fun _ => 0)), ((u12.getD 11 0), aI ε 60 (fun _ => 0)), ((u12.getD 12 0), aI ε 16 (fun _ => 0)), (q13, .inr (3, [.ref (u14.getD 0 0), .ref (u14.getD 2 0), .ref (u14.getD 3 0), .ref (u14.getD 4 0), .int 0, .int 0])), ((u14.getD 0 0), .inr (4, [.ref (u14.getD 1 0), .int 0])), ((u14.getD 1 0), aI ε 6000 (fun _ => 0)), ((u14.getD 2 0), aI ε 60 (fun _ => 0)), ((u14.getD 3 0), aI ε 60 (fun _ => 0)), ((u14.getD 4 0), aI ε 60 (fun _ => 0))]) rfl ?_
  refine gl_aload_n C dX8_init_87 rfl 0 rfl ?_
  refine gl_iconst (v := -1) C dX8_init_88 (by decide) ?_
  refine gl_put C 0 7 F_X8 (by decide) fl_X8_56 rfl rfl rfl rfl rfl (Nat.le_of_ble_eq_true rfl) dX8_init_89 ?_
  refine gl_w (ws' := [(h0, .inr (7, [.ref q1, .ref q3, .ref q5, .ref q7, .ref q9, .ref q11, .ref q13, .int (-1)])), (q1, .inr (4, [.ref (u2.getD 0 0), .int 0])), ((u2.getD 0 0), aI ε 6000 (fun _ => 0)), (q3, .inr (4, [.ref (u4.getD 0 0), .int 0])), ((u4.getD 0 0), aI ε 12000 (fun _ => 0)), (q5, .inr (2, [.ref (u6.getD 0 0), .int 0, .int 0, .int 0, .int 0])), ((u6.getD 0 0), .inr (3, [.ref (u6.getD 1 0), .ref (u6.getD 3 0), .ref (u6.getD 4 0), .ref (u6.getD 5 0), .int 0, .int 0])), ((u6.getD 1 0), .inr (4, [.ref (u6.getD 2 0), .int 0])), ((u6.getD 2 0), aI ε 6000 (fun _ => 0)), ((u6.getD 3 0), aI ε 60 (fun _ => 0)), ((u6.getD 4 0), aI ε 60 (fun _ => 0)), ((u6.getD 5 0), aI ε 60 (fun _ => 0)), (q7, .inr (0, [.ref (u8.getD 0 0), .ref (u8.getD 1 0), .int 0, .int 0, .int 13])), ((u8.getD 0 0), aI ε 192 (fun _ => 0)), ((u8.getD 1 0), .inr (4, [.ref (u8.getD 2 0), .int 0])), ((u8.getD 2 0), aI ε 12 (fun _ => 0)), (q9, .inr (6, [.ref (u10.getD 0 0), .int 0, .int 0, .int 1, .int 0, .int 0])), ((u10.getD 0 0), .inr (4, [.ref (u10.getD 1 0), .int 0])), ((u10.getD 1 0), aI ε 30 (fun _ => 0)), (q11, .inr (5, [.ref (u12.getD 0 0), .ref (u12.getD 1 0), .ref (u12.getD 2 0), .ref (u12.getD 3 0), .ref (u12.getD 4 0), .ref (u12.getD 5 0), .int 0, .int 0, .int 0])), ((u12.getD 0 0), aI ε 60 (fun _ => 0)), ((u12.getD 1 0), aI ε 60 (fun _ => 0)), ((u12.getD 2 0), aI ε 60 (fun _ => 0)), ((u12.getD 3 0), aI ε 60 (fun _ => 0)), ((u12.getD 4 0), aZ ε 60 (fun _ => 0)), ((u12.getD 5 0), .inr (1, [.ref (u12.getD 6 0), .ref (u12.getD 7 0), .ref (u12.getD 8 0), .ref (u12.getD 9 0), .ref (u12.getD 10 0), .ref (u12.getD 11 0), .ref (u12.getD 12 0), .int 0, .int 0])), ((u12.getD 6 0), aI ε 720 (fun _ => 0)), ((u12.getD 7 0), aI ε 60 (fun _ => 0)), ((u12.getD 8 0), aI ε 60 (fun _ => 0)), ((u12.getD 9 0), aI ε 60 (fun _ => 0)), ((u12.getD 10 0), aI ε 60 (fun _ => 0)), ((u12.getD 11 0), aI ε 60 (fun _ => 0)), ((u12.getD 12 0), aI ε 16 (fun _ => 0)), (q13, .inr (3, [.ref (u14.getD 0 0), .ref (u14.getD 2 0), .ref (u14.getD 3 0), .ref (u14.getD 4 0), .int 0, .int 0])), ((u14.getD 0 0), .inr (4, [.ref (u14.getD 1 0), .int 0])), ((u14.getD 1 0), aI ε 6000 (fun _ => 0)), ((u14.getD 2 0), aI ε 60 (fun _ => 0)), ((u14.getD 3 0), aI ε 60 (fun _ => 0)), ((u14.getD 4 0), aI ε 60 (fun _ => 0))]) rfl ?_
  exact K 92 _ [q1, (u2.getD 0 0), q3, (u4.getD 0 0), q5, (u6.getD 0 0), (u6.getD 1 0), (u6.getD 2 0), (u6.getD 3 0), (u6.getD 4 0), (u6.getD 5 0), q7, (u8.getD 0 0), (u8.getD 1 0), (u8.getD 2 0), q9, (u10.getD 0 0), (u10.getD 1 0), q11, (u12.getD 0 0), (u12.getD 1 0), (u12.getD 2 0), (u12.getD 3 0), (u12.getD 4 0), (u12.getD 5 0), (u12.getD 6 0), (u12.getD 7 0), (u12.getD 8 0), (u12.getD 9 0), (u12.getD 10 0), (u12.getD 11 0), (u12.getD 12 0), q13, (u14.getD 0 0), (u14.getD 1 0), (u14.getD 2 0), (u14.getD 3 0), (u14.getD 4 0)] dX8_init_92 rfl
set_option maxRecDepth 20000 in
set_option maxHeartbeats 2000000 in
theorem c_X9_init {l : Launch} {h0 : Nat} : RC l ε yX9_init cX9_init 1 1 15 64362 [.ref h0] [(h0, .inr (8, [.null, .int 0, .int 0, .int 0, .null, .null, .null, .null, .null, .int 0, .int 0, .null, .int 0, .int 0, .null, .int 0, .int 0, .int 0, .int 0, .int 0, .int 0, .int 0, .null, .null, .null, .null, .null, .null, .null, .int 0, .int 0, .int 0, .int 0, .int 0]))] (fun qs => [(h0, .inr (8, [.ref (qs.getD 0 0), .int 0, .int (-1), .int 0, .ref (qs.getD 1 0), .ref (qs.getD 2 0), .ref (qs.getD 3 0), .ref (qs.getD 4 0), .ref (qs.getD 5 0), .int 0, .int 0, .ref (qs.getD 6 0), .int 0, .int 0, .ref (qs.getD 7 0), .int 0, .int 0, .int 0, .int 1, .int 0, .int 0, .int 0, .ref (qs.getD 8 0), .ref (qs.getD 9 0), .ref (qs.getD 10 0), .ref (qs.getD 11 0), .ref (qs.getD 12 0), .ref (qs.getD 13 0), .ref (qs.getD 14 0), .int 0, .int 0, .int 0, .int 0, .int 0])), ((qs.getD 0 0), aI ε 6000 (fun _ => 0)), ((qs.getD 1 0), aI ε 120 (fun _ => 0)), ((qs.getD 2 0), aI ε 4800 (fun _ => 0)), ((qs.getD 3 0), aI ε 120 (fun _ => 0)), ((qs.getD 4 0), aI ε 14400 (fun _ => 0)), ((qs.getD 5 0), aI ε 14400 (fun _ => 0)), ((qs.getD 6 0), aI ε 192 (fun _ => 0)), ((qs.getD 7 0), aI ε 30 (fun _ => 0)), ((qs.getD 8 0), aI ε 60 (fun _ => 0)), ((qs.getD 9 0), aI ε 60 (fun _ => 0)), ((qs.getD 10 0), aI ε 60 (fun _ => 0)), ((qs.getD 11 0), aZ ε 60 (fun _ => 0)), ((qs.getD 12 0), aI ε 60 (fun _ => 0)), ((qs.getD 13 0), aI ε 12000 (fun _ => 0)), ((qs.getD 14 0), aI ε 12000 (fun _ => 0))]) 15 := by
  refine RC.of (by decide) rfl (Nat.le_of_ble_eq_true rfl) (fun κ hkl hR C hki K => ?_)
  refine gl_aload_n C dX9_init_0 rfl 0 rfl ?_
  refine gl_obj C (tb_in (i := 966) rfl rfl) (by decide) dX9_init_1 ?_
  refine gl_aload_n C dX9_init_4 rfl 0 rfl ?_
  refine gl_sipush (v := 6000) C dX9_init_5 (by decide) ?_
  refine gl_newa_int (N := 6000) C (by decide) (by decide) (by rw [hR]; exact ⟨Nat.le_of_ble_eq_true rfl, Nat.le_of_ble_eq_true rfl⟩) dX9_init_8 (fun q1 => ?_)
  refine gl_w (ws' := [(h0, .inr (8, [.null, .int 0, .int 0, .int 0, .null, .null, .null, .null, .null, .int 0, .int 0, .null, .int 0, .int 0, .null, .int 0, .int 0, .int 0, .int 0, .int 0, .int 0, .int 0, .null, .null, .null, .null, .null, .null, .null, .int 0, .int 0, .int 0, .int 0, .int 0])), (q1, aI ε 6000 (fun _ => 0))]) rfl ?_
  refine gl_putF C hki 0 0 F_X9 (by decide) fl_X9_7 rfl rfl rfl rfl rfl rfl (Nat.le_of_ble_eq_true rfl) dX9_init_10 ?_
  refine gl_w (ws' := [(h0, .inr (8, [.ref q1, .int 0, .int 0, .int 0, .null, .null, .null, .null, .null, .int 0, .int 0, .null, .int 0, .int 0, .null, .int 0, .int 0, .int 0, .int 0, .int 0, .int 0, .int 0, .null, .null, .null, .null, .null, .null, .null, .int 0, .int 0, .int 0, .int 0, .int 0])), (q1, aI ε 6000 (fun _ => 0))]) rfl ?_
  refine gl_aload_n C dX9_init_13 rfl 0 rfl ?_
  refine gl_iconst (v := -1) C dX9_init_14 (by decide) ?_
  refine gl_put C 0 2 F_X9 (by decide) fl_X9_13 rfl rfl rfl rfl rfl (Nat.le_of_ble_eq_true rfl) dX9_init_15 ?_
  refine gl_w (ws' := [(h0, .inr (8, [.ref q1, .int 0, .int (-1), .int 0, .null, .null, .null, .null, .null, .int 0, .int 0, .null, .int 0, .int 0, .null, .int 0, .int 0, .int 0, .int 0, .int 0, .int 0, .int 0, .null, .null, .null, .null, .null, .null, .null, .int 0, .int 0, .int 0, .int 0, .int 0])), (q1, aI ε 6000 (fun _ => 0))]) rfl ?_
  refine gl_aload_n C dX9_init_18 rfl 0 rfl ?_
  refine gl_bipush (v := 120) C dX9_init_19 (by decide) ?_
  refine gl_newa_int (N := 120) C (by decide) (by decide) (by rw [hR]; exact ⟨Nat.le_of_ble_eq_true rfl, Nat.le_of_ble_eq_true rfl⟩) dX9_init_21 (fun q2 => ?_)
  refine gl_w (ws' := [(h0, .inr (8, [.ref q1, .int 0, .int (-1), .int 0, .null, .null, .null, .null, .null, .int 0, .int 0, .null, .int 0, .int 0, .null, .int 0, .int 0, .int 0, .int 0, .int 0, .int 0, .int 0, .null, .null, .null, .null, .null, .null, .null, .int 0, .int 0, .int 0, .int 0, .int 0])), (q1, aI ε 6000 (fun _ => 0)), (q2, aI ε 120 (fun _ => 0))]) rfl ?_
  refine gl_putF C hki 0 4 F_X9 (by decide) fl_X9_17 rfl rfl rfl rfl rfl rfl (Nat.le_of_ble_eq_true rfl) dX9_init_23 ?_
  refine gl_w (ws' := [(h0, .inr (8, [.ref q1, .int 0, .int (-1), .int 0, .ref q2, .null, .null, .null, .null, .int 0, .int 0, .null, .int 0, .int 0, .null, .int 0, .int 0, .int 0, .int 0, .int 0, .int 0, .int 0, .null, .null, .null, .null, .null, .null, .null, .int 0, .int 0, .int 0, .int 0, .int 0])), (q1, aI ε 6000 (fun _ => 0)), (q2, aI ε 120 (fun _ => 0))]) rfl ?_
  refine gl_aload_n C dX9_init_26 rfl 0 rfl ?_
  refine gl_sipush (v := 4800) C dX9_init_27 (by decide) ?_
  refine gl_newa_int (N := 4800) C (by decide) (by decide) (by rw [hR]; exact ⟨Nat.le_of_ble_eq_true rfl, Nat.le_of_ble_eq_true rfl⟩) dX9_init_30 (fun q3 => ?_)
  refine gl_w (ws' := [(h0, .inr (8, [.ref q1, .int 0, .int (-1), .int 0, .ref q2, .null, .null, .null, .null, .int 0, .int 0, .null, .int 0, .int 0, .null, .int 0, .int 0, .int 0, .int 0, .int 0, .int 0, .int 0, .null, .null, .null, .null, .null, .null, .null, .int 0, .int 0, .int 0, .int 0, .int 0])), (q1, aI ε 6000 (fun _ => 0)), (q2, aI ε 120 (fun _ => 0)), (q3, aI ε 4800 (fun _ => 0))]) rfl ?_
  refine gl_putF C hki 0 5 F_X9 (by decide) fl_X9_20 rfl rfl rfl rfl rfl rfl (Nat.le_of_ble_eq_true rfl) dX9_init_32 ?_
  refine gl_w (ws' := [(h0, .inr (8, [.ref q1, .int 0, .int (-1), .int 0, .ref q2, .ref q3, .null, .null, .null, .int 0, .int 0, .null, .int 0, .int 0, .null, .int 0, .int 0, .int 0, .int 0, .int 0, .int 0, .int 0, .null, .null, .null, .null, .null, .null, .null, .int 0, .int 0, .int 0, .int 0, .int 0])), (q1, aI ε 6000 (fun _ => 0)), (q2, aI ε 120 (fun _ => 0)), (q3, aI ε 4800 (fun _ => 0))]) rfl ?_
  refine gl_aload_n C dX9_init_35 rfl 0 rfl ?_
  refine gl_bipush (v := 120) C dX9_init_36 (by decide) ?_
  refine gl_newa_int (N := 120) C (by decide) (by decide) (by rw [hR]; exact ⟨Nat.le_of_ble_eq_true rfl, Nat.le_of_ble_eq_true rfl⟩) dX9_init_38 (fun q4 => ?_)
  refine gl_w (ws' := [(h0, .inr (8, [.ref q1, .int 0, .int (-1), .int 0, .ref q2, .ref q3, .null, .null, .null, .int 0, .int 0, .null, .int 0, .int 0, .null, .int 0, .int 0, .int 0, .int 0, .int 0, .int 0, .int 0, .null, .null, .null, .null, .null, .null, .null, .int 0, .int 0, .int 0, .int 0, .int 0])), (q1, aI ε 6000 (fun _ => 0)), (q2, aI ε 120 (fun _ => 0)), (q3, aI ε 4800 (fun _ => 0)), (q4, aI ε 120 (fun _ => 0))]) rfl ?_
  refine gl_putF C hki 0 6 F_X9 (by decide) fl_X9_23 rfl rfl rfl rfl rfl rfl (Nat.le_of_ble_eq_true rfl) dX9_init_40 ?_
  refine gl_w (ws' := [(h0, .inr (8, [.ref q1, .int 0, .int (-1), .int 0, .ref q2, .ref q3, .ref q4, .null, .null, .int 0, .int 0, .null, .int 0, .int 0, .null, .int 0, .int 0, .int 0, .int 0, .int 0, .int 0, .int 0, .null, .null, .null, .null, .null, .null, .null, .int 0, .int 0, .int 0, .int 0, .int 0])), (q1, aI ε 6000 (fun _ => 0)), (q2, aI ε 120 (fun _ => 0)), (q3, aI ε 4800 (fun _ => 0)), (q4, aI ε 120 (fun _ => 0))]) rfl ?_
  refine gl_aload_n C dX9_init_43 rfl 0 rfl ?_
  refine gl_sipush (v := 14400) C dX9_init_44 (by decide) ?_
  refine gl_newa_int (N := 14400) C (by decide) (by decide) (by rw [hR]; exact ⟨Nat.le_of_ble_eq_true rfl, Nat.le_of_ble_eq_true rfl⟩) dX9_init_47 (fun q5 => ?_)
  refine gl_w (ws' := [(h0, .inr (8, [.ref q1, .int 0, .int (-1), .int 0, .ref q2, .ref q3, .ref q4, .null, .null, .int 0, .int 0, .null, .int 0, .int 0, .null, .int 0, .int 0, .int 0, .int 0, .int 0, .int 0, .int 0, .null, .null, .null, .null, .null, .null, .null, .int 0, .int 0, .int 0, .int 0, .int 0])), (q1, aI ε 6000 (fun _ => 0)), (q2, aI ε 120 (fun _ => 0)), (q3, aI ε 4800 (fun _ => 0)), (q4, aI ε 120 (fun _ => 0)), (q5, aI ε 14400 (fun _ => 0))]) rfl ?_
  refine gl_putF C hki 0 7 F_X9 (by decide) fl_X9_26 rfl rfl rfl rfl rfl rfl (Nat.le_of_ble_eq_true rfl) dX9_init_49 ?_
  refine gl_w (ws' := [(h0, .inr (8, [.ref q1, .int 0, .int (-1), .int 0, .ref q2, .ref q3, .ref q4, .ref q5, .null, .int 0, .int 0, .null, .int 0, .int 0, .null, .int 0, .int 0, .int 0, .int 0, .int 0, .int 0, .int 0, .null, .null, .null, .null, .null, .null, .null, .int 0, .int 0, .int 0, .int 0, .int 0])), (q1, aI ε 6000 (fun _ => 0)), (q2, aI ε 120 (fun _ => 0)), (q3, aI ε 4800 (fun _ => 0)), (q4, aI ε 120 (fun _ => 0)), (q5, aI ε 14400 (fun _ => 0))]) rfl ?_
  refine gl_aload_n C dX9_init_52 rfl 0 rfl ?_
  refine gl_sipush (v := 14400) C dX9_init_53 (by decide) ?_
  refine gl_newa_int (N := 14400) C (by decide) (by decide) (by rw [hR]; exact ⟨Nat.le_of_ble_eq_true rfl, Nat.le_of_ble_eq_true rfl⟩) dX9_init_56 (fun q6 => ?_)
  refine gl_w (ws' := [(h0, .inr (8, [.ref q1, .int 0, .int (-1), .int 0, .ref q2, .ref q3, .ref q4, .ref q5, .null, .int 0, .int 0, .null, .int 0, .int 0, .null, .int 0, .int 0, .int 0, .int 0, .int 0, .int 0, .int 0, .null, .null, .null, .null, .null, .null, .null, .int 0, .int 0, .int 0, .int 0, .int 0])), (q1, aI ε 6000 (fun _ => 0)), (q2, aI ε 120 (fun _ => 0)), (q3, aI ε 4800 (fun _ => 0)), (q4, aI ε 120 (fun _ => 0)), (q5, aI ε 14400 (fun _ => 0)), (q6, aI ε 14400 (fun _ => 0))]) rfl ?_
  refine gl_putF C hki 0 8 F_X9 (by decide) fl_X9_29 rfl rfl rfl rfl rfl rfl (Nat.le_of_ble_eq_true rfl) dX9_init_58 ?_
  refine gl_w (ws' := [(h0, .inr (8, [.ref q1, .int 0, .int (-1), .int 0, .ref q2, .ref q3, .ref q4, .ref q5, .ref q6, .int 0, .int 0, .null, .int 0, .int 0, .null, .int 0, .int 0, .int 0, .int 0, .int 0, .int 0, .int 0, .null, .null, .null, .null, .null, .null, .null, .int 0, .int 0, .int 0, .int 0, .int 0])), (q1, aI ε 6000 (fun _ => 0)), (q2, aI ε 120 (fun _ => 0)), (q3, aI ε 4800 (fun _ => 0)), (q4, aI ε 120 (fun _ => 0)), (q5, aI ε 14400 (fun _ => 0)), (q6, aI ε 14400 (fun _ => 0))]) rfl ?_
  refine gl_aload_n C dX9_init_61 rfl 0 rfl ?_
  refine gl_sipush (v := 192) C dX9_init_62 (by decide) ?_
  refine gl_newa_int (N := 192) C (by decide) (by decide) (by rw [hR]; exact ⟨Nat.le_of_ble_eq_true rfl, Nat.le_of_ble_eq_true rfl⟩) dX9_init_65 (fun q7 => ?_)
  refine gl_w (ws' := [(h0, .inr (8, [.ref q1, .int 0, .int (-1), .int 0, .ref q2, .ref q3, .ref q4, .ref q5, .ref q6, .int 0, .int 0, .null, .int 0, .int 0, .null, .int 0, .int 0, .int 0, .int 0, .int 0, .int 0, .int 0, .null, .null, .null, .null, .null, .null, .null, .int 0, .int 0, .int 0, .int 0, .int 0])), (q1, aI ε 6000 (fun _ => 0)), (q2, aI ε 120 (fun _ => 0)), (q3, aI ε 4800 (fun _ => 0)), (q4, aI ε 120 (fun _ => 0)), (q5, aI ε 14400 (fun _ => 0)), (q6, aI ε 14400 (fun _ => 0)), (q7, aI ε 192 (fun _ => 0))]) rfl ?_
  refine gl_putF C hki 0 11 F_X9 (by decide) fl_X9_32 rfl rfl rfl rfl rfl rfl (Nat.le_of_ble_eq_true rfl) dX9_init_67 ?_
  refine gl_w (ws' := [(h0, .inr (8, [.ref q1, .int 0, .int (-1), .int 0, .ref q2, .ref q3, .ref q4, .ref q5, .ref q6, .int 0, .int 0, .ref q7, .int 0, .int 0, .null, .int 0, .int 0, .int 0, .int 0, .int 0, .int 0, .int 0, .null, .null, .null, .null, .null, .null, .null, .int 0, .int 0, .int 0, .int 0, .int 0])), (q1, aI ε 6000 (fun _ => 0)), (q2, aI ε 120 (fun _ => 0)), (q3, aI ε 4800 (fun _ => 0)), (q4, aI ε 120 (fun _ => 0)), (q5, aI ε 14400 (fun _ => 0)), (q6, aI ε 14400 (fun _ => 0)), (q7, aI ε 192 (fun _ => 0))]) rfl ?_
  refine gl_aload_n C dX9_init_70 rfl 0 rfl ?_
  refine gl_bipush (v := 30) C dX9_init_71 (by decide) ?_
  refine gl_newa_int (N := 30) C (by decide) (by decide) (by rw [hR]; exact ⟨Nat.le_of_ble_eq_true rfl, Nat.le_of_ble_eq_true rfl⟩) dX9_init_73 (fun q8 => ?_)
  refine gl_w (ws' := [(h0, .inr (8, [.ref q1, .int 0, .int (-1), .int 0, .ref q2, .ref q3, .ref q4, .ref q5, .ref q6, .int 0, .int 0, .ref q7, .int 0, .int 0, .null, .int 0, .int 0, .int 0, .int 0, .int 0, .int 0, .int 0, .null, .null, .null, .null, .null, .null, .null, .int 0, .int 0, .int 0, .int 0, .int 0])), (q1, aI ε 6000 (fun _ => 0)), (q2, aI ε 120 (fun _ => 0)), (q3, aI ε 4800 (fun _ => 0)), (q4, aI ε 120 (fun _ => 0)), (q5, aI ε 14400 (fun _ => 0)), (q6, aI ε 14400 (fun _ => 0)), (q7, aI ε 192 (fun _ => 0)), (q8, aI ε 30 (fun _ => 0))]) rfl ?_
  refine gl_putF C hki 0 14 F_X9 (by decide) fl_X9_35 rfl rfl rfl rfl rfl rfl (Nat.le_of_ble_eq_true rfl) dX9_init_75 ?_
  refine gl_w (ws' := [(h0, .inr (8, [.ref q1, .int 0, .int (-1), .int 0, .ref q2, .ref q3, .ref q4, .ref q5, .ref q6, .int 0, .int 0, .ref q7, .int 0, .int 0, .ref q8, .int 0, .int 0, .int 0, .int 0, .int 0, .int 0, .int 0, .null, .null, .null, .null, .null, .null, .null, .int 0, .int 0, .int 0, .int 0, .int 0])), (q1, aI ε 6000 (fun _ => 0)), (q2, aI ε 120 (fun _ => 0)), (q3, aI ε 4800 (fun _ => 0)), (q4, aI ε 120 (fun _ => 0)), (q5, aI ε 14400 (fun _ => 0)), (q6, aI ε 14400 (fun _ => 0)), (q7, aI ε 192 (fun _ => 0)), (q8, aI ε 30 (fun _ => 0))]) rfl ?_
  refine gl_aload_n C dX9_init_78 rfl 0 rfl ?_
  refine gl_iconst (v := 1) C dX9_init_79 (by decide) ?_
  refine gl_put C 0 18 F_X9 (by decide) fl_X9_38 rfl rfl rfl rfl rfl (Nat.le_of_ble_eq_true rfl) dX9_init_80 ?_
  refine gl_w (ws' := [(h0, .inr (8, [.ref q1, .int 0, .int (-1), .int 0, .ref q2, .ref q3, .ref q4, .ref q5, .ref q6, .int 0, .int 0, .ref q7, .int 0, .int 0, .ref q8, .int 0, .int 0, .int 0, .int 1, .int 0, .int 0, .int 0, .null, .null, .null, .null, .null, .null, .null, .int 0, .int 0, .int 0, .int 0, .int 0])), (q1, aI ε 6000 (fun _ => 0)), (q2, aI ε 120 (fun _ => 0)), (q3, aI ε 4800 (fun _ => 0)), (q4, aI ε 120 (fun _ => 0)), (q5, aI ε 14400 (fun _ => 0)), (q6, aI ε 14400 (fun _ => 0)), (q7, aI ε 192 (fun _ => 0)), (q8, aI ε 30 (fun _ => 0))]) rfl ?_
  refine gl_aload_n C dX9_init_83 rfl 0 rfl ?_
  refine gl_bipush (v := 60) C dX9_init_84 (by decide) ?_
  refine gl_newa_int (N := 60) C (by decide) (by decide) (by rw [hR]; exact ⟨Nat.le_of_ble_eq_true rfl, Nat.le_of_ble_eq_true rfl⟩) dX9_init_86 (fun q9 => ?_)
  refine gl_w (ws' := [(h0, .inr (8, [.ref q1, .int 0, .int (-1), .int 0, .ref q2, .ref q3, .ref q4, .ref q5, .ref q6, .int 0, .int 0, .ref q7, .int 0, .int 0, .ref q8, .int 0, .int 0, .int 0, .int 1, .int 0, .int 0, .int 0, .null, .null, .null, .null, .null, .null, .null, .int 0, .int 0, .int 0, .int 0, .int 0])), (q1, aI ε 6000 (fun _ => 0)), (q2, aI ε 120 (fun _ => 0)), (q3, aI ε 4800 (fun _ => 0)), (q4, aI ε 120 (fun _ => 0)), (q5, aI ε 14400 (fun _ => 0)), (q6, aI ε 14400 (fun _ => 0)), (q7, aI ε 192 (fun _ => 0)), (q8, aI ε 30 (fun _ => 0)), (q9, aI ε 60 (fun _ => 0))]) rfl ?_
  refine gl_putF C hki 0 22 F_X9 (by decide) fl_X9_41 rfl rfl rfl rfl rfl rfl (Nat.le_of_ble_eq_true rfl) dX9_init_88 ?_
  refine gl_w (ws' := [(h0, .inr (8, [.ref q1, .int 0, .int (-1), .int 0, .ref q2, .ref q3, .ref q4, .ref q5, .ref q6, .int 0, .int 0, .ref q7, .int 0, .int 0, .ref q8, .int 0, .int 0, .int 0, .int 1, .int 0, .int 0, .int 0, .ref q9, .null, .null, .null, .null, .null, .null, .int 0, .int 0, .int 0, .int 0, .int 0])), (q1, aI ε 6000 (fun _ => 0)), (q2, aI ε 120 (fun _ => 0)), (q3, aI ε 4800 (fun _ => 0)), (q4, aI ε 120 (fun _ => 0)), (q5, aI ε 14400 (fun _ => 0)), (q6, aI ε 14400 (fun _ => 0)), (q7, aI ε 192 (fun _ => 0)), (q8, aI ε 30 (fun _ => 0)), (q9, aI ε 60 (fun _ => 0))]) rfl ?_
  refine gl_aload_n C dX9_init_91 rfl 0 rfl ?_
  refine gl_bipush (v := 60) C dX9_init_92 (by decide) ?_
  refine gl_newa_int (N := 60) C (by decide) (by decide) (by rw [hR]; exact ⟨Nat.le_of_ble_eq_true rfl, Nat.le_of_ble_eq_true rfl⟩) dX9_init_94 (fun q10 => ?_)
  refine gl_w (ws' := [(h0, .inr (8, [.ref q1, .int 0, .int (-1), .int 0, .ref q2, .ref q3, .ref q4, .ref q5, .ref q6, .int 0, .int 0, .ref q7, .int 0, .int 0, .ref q8, .int 0, .int 0, .int 0, .int 1, .int 0, .int 0, .int 0, .ref q9, .null, .null, .null, .null, .null, .null, .int 0, .int 0, .int 0, .int 0, .int 0])), (q1, aI ε 6000 (fun _ => 0)), (q2, aI ε 120 (fun _ => 0)), (q3, aI ε 4800 (fun _ => 0)), (q4, aI ε 120 (fun _ => 0)), (q5, aI ε 14400 (fun _ => 0)), (q6, aI ε 14400 (fun _ => 0)), (q7, aI ε 192 (fun _ => 0)), (q8, aI ε 30 (fun _ => 0)), (q9, aI ε 60 (fun _ => 0)), (q10, aI ε 60 (fun _ => 0))]) rfl ?_
  refine gl_putF C hki 0 23 F_X9 (by decide) fl_X9_44 rfl rfl rfl rfl rfl rfl (Nat.le_of_ble_eq_true rfl) dX9_init_96 ?_
  refine gl_w (ws' := [(h0, .inr (8, [.ref q1, .int 0, .int (-1), .int 0, .ref q2, .ref q3, .ref q4, .ref q5, .ref q6, .int 0, .int 0, .ref q7, .int 0, .int 0, .ref q8, .int 0, .int 0, .int 0, .int 1, .int 0, .int 0, .int 0, .ref q9, .ref q10, .null, .null, .null, .null, .null, .int 0, .int 0, .int 0, .int 0, .int 0])), (q1, aI ε 6000 (fun _ => 0)), (q2, aI ε 120 (fun _ => 0)), (q3, aI ε 4800 (fun _ => 0)), (q4, aI ε 120 (fun _ => 0)), (q5, aI ε 14400 (fun _ => 0)), (q6, aI ε 14400 (fun _ => 0)), (q7, aI ε 192 (fun _ => 0)), (q8, aI ε 30 (fun _ => 0)), (q9, aI ε 60 (fun _ => 0)), (q10, aI ε 60 (fun _ => 0))]) rfl ?_
  refine gl_aload_n C dX9_init_99 rfl 0 rfl ?_
  refine gl_bipush (v := 60) C dX9_init_100 (by decide) ?_
  refine gl_newa_int (N := 60) C (by decide) (by decide) (by rw [hR]; exact ⟨Nat.le_of_ble_eq_true rfl, Nat.le_of_ble_eq_true rfl⟩) dX9_init_102 (fun q11 => ?_)
  refine gl_w (ws' := [(h0, .inr (8, [.ref q1, .int 0, .int (-1), .int 0, .ref q2, .ref q3, .ref q4, .ref q5, .ref q6, .int 0, .int 0, .ref q7, .int 0, .int 0, .ref q8, .int 0, .int 0, .int 0, .int 1, .int 0, .int 0, .int 0, .ref q9, .ref q10, .null, .null, .null, .null, .null, .int 0, .int 0, .int 0, .int 0, .int 0])), (q1, aI ε 6000 (fun _ => 0)), (q2, aI ε 120 (fun _ => 0)), (q3, aI ε 4800 (fun _ => 0)), (q4, aI ε 120 (fun _ => 0)), (q5, aI ε 14400 (fun _ => 0)), (q6, aI ε 14400 (fun _ => 0)), (q7, aI ε 192 (fun _ => 0)), (q8, aI ε 30 (fun _ => 0)), (q9, aI ε 60 (fun _ => 0)), (q10, aI ε 60 (fun _ => 0)), (q11, aI ε 60 (fun _ => 0))]) rfl ?_
  refine gl_putF C hki 0 24 F_X9 (by decide) fl_X9_47 rfl rfl rfl rfl rfl rfl (Nat.le_of_ble_eq_true rfl) dX9_init_104 ?_
  refine gl_w (ws' := [(h0, .inr (8, [.ref q1, .int 0, .int (-1), .int 0, .ref q2, .ref q3, .ref q4, .ref q5, .ref q6, .int 0, .int 0, .ref q7, .int 0, .int 0, .ref q8, .int 0, .int 0, .int 0, .int 1, .int 0, .int 0, .int 0, .ref q9, .ref q10, .ref q11, .null, .null, .null, .null, .int 0, .int 0, .int 0, .int 0, .int 0])), (q1, aI ε 6000 (fun _ => 0)), (q2, aI ε 120 (fun _ => 0)), (q3, aI ε 4800 (fun _ => 0)), (q4, aI ε 120 (fun _ => 0)), (q5, aI ε 14400 (fun _ => 0)), (q6, aI ε 14400 (fun _ => 0)), (q7, aI ε 192 (fun _ => 0)), (q8, aI ε 30 (fun _ => 0)), (q9, aI ε 60 (fun _ => 0)), (q10, aI ε 60 (fun _ => 0)), (q11, aI ε 60 (fun _ => 0))]) rfl ?_
  refine gl_aload_n C dX9_init_107 rfl 0 rfl ?_
  refine gl_bipush (v := 60) C dX9_init_108 (by decide) ?_
  refine gl_newa_boolean (N := 60) C (by decide) (by decide) (by rw [hR]; exact ⟨Nat.le_of_ble_eq_true rfl, Nat.le_of_ble_eq_true rfl⟩) dX9_init_110 (fun q12 => ?_)
  refine gl_w (ws' := [(h0, .inr (8, [.ref q1, .int 0, .int (-1), .int 0, .ref q2, .ref q3, .ref q4, .ref q5, .ref q6, .int 0, .int 0, .ref q7, .int 0, .int 0, .ref q8, .int 0, .int 0, .int 0, .int 1, .int 0, .int 0, .int 0, .ref q9, .ref q10, .ref q11, .null, .null, .null, .null, .int 0, .int 0, .int 0, .int 0, .int 0])), (q1, aI ε 6000 (fun _ => 0)), (q2, aI ε 120 (fun _ => 0)), (q3, aI ε 4800 (fun _ => 0)), (q4, aI ε 120 (fun _ => 0)), (q5, aI ε 14400 (fun _ => 0)), (q6, aI ε 14400 (fun _ => 0)), (q7, aI ε 192 (fun _ => 0)), (q8, aI ε 30 (fun _ => 0)), (q9, aI ε 60 (fun _ => 0)), (q10, aI ε 60 (fun _ => 0)), (q11, aI ε 60 (fun _ => 0)), (q12, aZ ε 60 (fun _ => 0))]) rfl ?_
  refine gl_putF C hki 0 25 F_X9 (by decide) fl_X9_50 rfl rfl rfl rfl rfl rfl (Nat.le_of_ble_eq_true rfl) dX9_init_112 ?_
  refine gl_w (ws' := [(h0, .inr (8, [.ref q1, .int 0, .int (-1), .int 0, .ref q2, .ref q3, .ref q4, .ref q5, .ref q6, .int 0, .int 0, .ref q7, .int 0, .int 0, .ref q8, .int 0, .int 0, .int 0, .int 1, .int 0, .int 0, .int 0, .ref q9, .ref q10, .ref q11, .ref q12, .null, .null, .null, .int 0, .int 0, .int 0, .int 0, .int 0])), (q1, aI ε 6000 (fun _ => 0)), (q2, aI ε 120 (fun _ => 0)), (q3, aI ε 4800 (fun _ => 0)), (q4, aI ε 120 (fun _ => 0)), (q5, aI ε 14400 (fun _ => 0)), (q6, aI ε 14400 (fun _ => 0)), (q7, aI ε 192 (fun _ => 0)), (q8, aI ε 30 (fun _ => 0)), (q9, aI ε 60 (fun _ => 0)), (q10, aI ε 60 (fun _ => 0)), (q11, aI ε 60 (fun _ => 0)), (q12, aZ ε 60 (fun _ => 0))]) rfl ?_
  refine gl_aload_n C dX9_init_115 rfl 0 rfl ?_
  refine gl_bipush (v := 60) C dX9_init_116 (by decide) ?_
  refine gl_newa_int (N := 60) C (by decide) (by decide) (by rw [hR]; exact ⟨Nat.le_of_ble_eq_true rfl, Nat.le_of_ble_eq_true rfl⟩) dX9_init_118 (fun q13 => ?_)
  refine gl_w (ws' := [(h0, .inr (8, [.ref q1, .int 0, .int (-1), .int 0, .ref q2, .ref q3, .ref q4, .ref q5, .ref q6, .int 0, .int 0, .ref q7, .int 0, .int 0, .ref q8, .int 0, .int 0, .int 0, .int 1, .int 0, .int 0, .int 0, .ref q9, .ref q10, .ref q11, .ref q12, .null, .null, .null, .int 0, .int 0, .int 0, .int 0, .int 0])), (q1, aI ε 6000 (fun _ => 0)), (q2, aI ε 120 (fun _ => 0)), (q3, aI ε 4800 (fun _ => 0)), (q4, aI ε 120 (fun _ => 0)), (q5, aI ε 14400 (fun _ => 0)), (q6, aI ε 14400 (fun _ => 0)), (q7, aI ε 192 (fun _ => 0)), (q8, aI ε 30 (fun _ => 0)), (q9, aI ε 60 (fun _ => 0)), (q10, aI ε 60 (fun _ => 0)), (q11, aI ε 60 (fun _ => 0)), (q12, aZ ε 60 (fun _ => 0)), (q13, aI ε 60 (fun _ => 0))]) rfl ?_
  refine gl_putF C hki 0 26 F_X9 (by decide) fl_X9_54 rfl rfl rfl rfl rfl rfl (Nat.le_of_ble_eq_true rfl) dX9_init_120 ?_
  refine gl_w (ws' := [(h0, .inr (8, [.ref q1, .int 0, .int (-1), .int 0, .ref q2, .ref q3, .ref q4, .ref q5, .ref q6, .int 0, .int 0, .ref q7, .int 0, .int 0, .ref q8, .int 0, .int 0, .int 0, .int 1, .int 0, .int 0, .int 0, .ref q9, .ref q10, .ref q11, .ref q12, .ref q13, .null, .null, .int 0, .int 0, .int 0, .int 0, .int 0])), (q1, aI ε 6000 (fun _ => 0)), (q2, aI ε 120 (fun _ => 0)), (q3, aI ε 4800 (fun _ => 0)), (q4, aI ε 120 (fun _ => 0)), (q5, aI ε 14400 (fun _ => 0)), (q6, aI ε 14400 (fun _ => 0)), (q7, aI ε 192 (fun _ => 0)), (q8, aI ε 30 (fun _ => 0)), (q9, aI ε 60 (fun _ => 0)), (q10, aI ε 60 (fun _ => 0)), (q11, aI ε 60 (fun _ => 0)), (q12, aZ ε 60 (fun _ => 0)), (q13, aI ε 60 (fun _ => 0))]) rfl ?_
  refine gl_aload_n C dX9_init_123 rfl 0 rfl ?_
  refine gl_sipush (v := 12000) C dX9_init_124 (by decide) ?_
  refine gl_newa_int (N := 12000) C (by decide) (by decide) (by rw [hR]; exact ⟨Nat.le_of_ble_eq_true rfl, Nat.le_of_ble_eq_true rfl⟩) dX9_init_127 (fun q14 => ?_)
  refine gl_w (ws' := [(h0, .inr (8, [.ref q1, .int 0, .int (-1), .int 0, .ref q2, .ref q3, .ref q4, .ref q5, .ref q6, .int 0, .int 0, .ref q7, .int 0, .int 0, .ref q8, .int 0, .int 0, .int 0, .int 1, .int 0, .int 0, .int 0, .ref q9, .ref q10, .ref q11, .ref q12, .ref q13, .null, .null, .int 0, .int 0, .int 0, .int 0, .int 0])), (q1, aI ε 6000 (fun _ => 0)), (q2, aI ε 120 (fun _ => 0)), (q3, aI ε 4800 (fun _ => 0)), (q4, aI ε 120 (fun _ => 0)), (q5, aI ε 14400 (fun _ => 0)), (q6, aI ε 14400 (fun _ => 0)), (q7, aI ε 192 (fun _ => 0)), (q8, aI ε 30 (fun _ => 0)), (q9, aI ε 60 (fun _ => 0)), (q10, aI ε 60 (fun _ => 0)), (q11, aI ε 60 (fun _ => 0)), (q12, aZ ε 60 (fun _ => 0)), (q13, aI ε 60 (fun _ => 0)), (q14, aI ε 12000 (fun _ => 0))]) rfl ?_
  refine gl_putF C hki 0 27 F_X9 (by decide) fl_X9_57 rfl rfl rfl rfl rfl rfl (Nat.le_of_ble_eq_true rfl) dX9_init_129 ?_
  refine gl_w (ws' := [(h0, .inr (8, [.ref q1, .int 0, .int (-1), .int 0, .ref q2, .ref q3, .ref q4, .ref q5, .ref q6, .int 0, .int 0, .ref q7, .int 0, .int 0, .ref q8, .int 0, .int 0, .int 0, .int 1, .int 0, .int 0, .int 0, .ref q9, .ref q10, .ref q11, .ref q12, .ref q13, .ref q14, .null, .int 0, .int 0, .int 0, .int 0, .int 0])), (q1, aI ε 6000 (fun _ => 0)), (q2, aI ε 120 (fun _ => 0)), (q3, aI ε 4800 (fun _ => 0)), (q4, aI ε 120 (fun _ => 0)), (q5, aI ε 14400 (fun _ => 0)), (q6, aI ε 14400 (fun _ => 0)), (q7, aI ε 192 (fun _ => 0)), (q8, aI ε 30 (fun _ => 0)), (q9, aI ε 60 (fun _ => 0)), (q10, aI ε 60 (fun _ => 0)), (q11, aI ε 60 (fun _ => 0)), (q12, aZ ε 60 (fun _ => 0)), (q13, aI ε 60 (fun _ => 0)), (q14, aI ε 12000 (fun _ => 0))]) rfl ?_
  refine gl_aload_n C dX9_init_132 rfl 0 rfl ?_
  refine gl_sipush (v := 12000) C dX9_init_133 (by decide) ?_
  refine gl_newa_int (N := 12000) C (by decide) (by decide) (by rw [hR]; exact ⟨Nat.le_of_ble_eq_true rfl, Nat.le_of_ble_eq_true rfl⟩) dX9_init_136 (fun q15 => ?_)
  refine gl_w (ws' := [(h0, .inr (8, [.ref q1, .int 0, .int (-1), .int 0, .ref q2, .ref q3, .ref q4, .ref q5, .ref q6, .int 0, .int 0, .ref q7, .int 0, .int 0, .ref q8, .int 0, .int 0, .int 0, .int 1, .int 0, .int 0, .int 0, .ref q9, .ref q10, .ref q11, .ref q12, .ref q13, .ref q14, .null, .int 0, .int 0, .int 0, .int 0, .int 0])), (q1, aI ε 6000 (fun _ => 0)), (q2, aI ε 120 (fun _ => 0)), (q3, aI ε 4800 (fun _ => 0)), (q4, aI ε 120 (fun _ => 0)), (q5, aI ε 14400 (fun _ => 0)), (q6, aI ε 14400 (fun _ => 0)), (q7, aI ε 192 (fun _ => 0)), (q8, aI ε 30 (fun _ => 0)), (q9, aI ε 60 (fun _ => 0)), (q10, aI ε 60 (fun _ => 0)), (q11, aI ε 60 (fun _ => 0)), (q12, aZ ε 60 (fun _ => 0)), (q13, aI ε 60 (fun _ => 0)), (q14, aI ε 12000 (fun _ => 0)), (q15, aI ε 12000 (fun _ => 0))]) rfl ?_
  refine gl_putF C hki 0 28 F_X9 (by decide) fl_X9_60 rfl rfl rfl rfl rfl rfl (Nat.le_of_ble_eq_true rfl) dX9_init_138 ?_
  refine gl_w (ws' := [(h0, .inr (8, [.ref q1, .int 0, .int (-1), .int 0, .ref q2, .ref q3, .ref q4, .ref q5, .ref q6, .int 0, .int 0, .ref q7, .int 0, .int 0, .ref q8, .int 0, .int 0, .int 0, .int 1, .int 0, .int 0, .int 0, .ref q9, .ref q10, .ref q11, .ref q12, .ref q13, .ref q14, .ref q15, .int 0, .int 0, .int 0, .int 0, .int 0])), (q1, aI ε 6000 (fun _ => 0)), (q2, aI ε 120 (fun _ => 0)), (q3, aI ε 4800 (fun _ => 0)), (q4, aI ε 120 (fun _ => 0)), (q5, aI ε 14400 (fun _ => 0)), (q6, aI ε 14400 (fun _ => 0)), (q7, aI ε 192 (fun _ => 0)), (q8, aI ε 30 (fun _ => 0)), (q9, aI ε 60 (fun _ => 0)), (q10, aI ε 60 (fun _ => 0)), (q11, aI ε 60 (fun _ => 0)), (q12, aZ ε 60 (fun _ => 0)), (q13, aI ε 60 (fun _ => 0)), (q14, aI ε 12000 (fun _ => 0)), (q15, aI ε 12000 (fun _ => 0))]) rfl ?_
  refine gl_aload_n C dX9_init_141 rfl 0 rfl ?_
  refine gl_iconst (v := 0) C dX9_init_142 (by decide) ?_
  refine gl_put C 0 9 F_X9 (by decide) fl_X9_63 rfl rfl rfl rfl rfl (Nat.le_of_ble_eq_true rfl) dX9_init_143 ?_
  refine gl_w (ws' := [(h0, .inr (8, [.ref q1, .int 0, .int (-1), .int 0, .ref q2, .ref q3, .ref q4, .ref q5, .ref q6, .int 0, .int 0, .ref q7, .int 0, .int 0, .ref q8, .int 0, .int 0, .int 0, .int 1, .int 0, .int 0, .int 0, .ref q9, .ref q10, .ref q11, .ref q12, .ref q13, .ref q14, .ref q15, .int 0, .int 0, .int 0, .int 0, .int 0])), (q1, aI ε 6000 (fun _ => 0)), (q2, aI ε 120 (fun _ => 0)), (q3, aI ε 4800 (fun _ => 0)), (q4, aI ε 120 (fun _ => 0)), (q5, aI ε 14400 (fun _ => 0)), (q6, aI ε 14400 (fun _ => 0)), (q7, aI ε 192 (fun _ => 0)), (q8, aI ε 30 (fun _ => 0)), (q9, aI ε 60 (fun _ => 0)), (q10, aI ε 60 (fun _ => 0)), (q11, aI ε 60 (fun _ => 0)), (q12, aZ ε 60 (fun _ => 0)), (q13, aI ε 60 (fun _ => 0)), (q14, aI ε 12000 (fun _ => 0)), (q15, aI ε 12000 (fun _ => 0))]) rfl ?_
  exact K 146 _ [q1, q2, q3, q4, q5, q6, q7, q8, q9, q10, q11, q12, q13, q14, q15] dX9_init_146 rfl
end CT
