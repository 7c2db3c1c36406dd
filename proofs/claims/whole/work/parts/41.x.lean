section XR
def NGC : List (String × String) := [("java/lang/IllegalArgumentException", "java/lang/IllegalArgumentException"), ("java/lang/IndexOutOfBoundsException", "java/lang/IndexOutOfBoundsException"), ("java/lang/IllegalStateException", "java/lang/IllegalStateException")]
def NGD : List MethodName := [⟨"java/lang/RuntimeException", "<init>", "()V"⟩, ⟨"java/lang/RuntimeException", "<init>", "(Ljava/lang/String;)V"⟩, ⟨"java/lang/Exception", "<init>", "()V"⟩, ⟨"java/lang/Exception", "<init>", "(Ljava/lang/String;)V"⟩, ⟨"java/lang/Throwable", "<init>", "()V"⟩, ⟨"java/lang/Throwable", "<init>", "(Ljava/lang/String;)V"⟩]
def STX : List (Nat × String) := [(66, "n is not 1 .. 8, or the tape would be too long"), (81, "the form is not 0 or 1"), (127, "what is not 0 .. 3"), (130, "u is not 0 .. 12, or the way is not 0 or 1"), (177, "there is no such read, or what is not 0 .. 6"), (213, "there is no such octet, letter or quality"), (218, "there is no such bin, or what is not 0 .. 2"), (222, "nothing is sorted"), (231, "there is no such group"), (241, "there is no such bin"), (254, "there is no such octet")]
def NCC : List (String × String) := [("java/lang/IndexOutOfBoundsException", "java/lang/IllegalArgumentException"), ("java/lang/IllegalStateException", "java/lang/IllegalArgumentException"), ("java/lang/IllegalStateException", "java/lang/IndexOutOfBoundsException")]
def exN (k : Nat) : String := match k with | 1 => "java/lang/IllegalArgumentException" | 2 => "java/lang/IndexOutOfBoundsException" | _ => "java/lang/IllegalStateException"
/-- what a throw needs beside the good words: the tables' other words, the messages, two statics of Throwable -/
def Xok (A : Nat → Prop) (U : State) : Prop := (∀ q ∈ NGC, va_Nw (.castable q.1 q.2) U) ∧ (∀ x ∈ NGD, va_Nw (.declares x) U) ∧ (∀ q ∈ STX, ∃ sa : Nat, vk_R RX8 q.1 q.2 sa U) ∧ vx_Zq Bundle.tN "UNASSIGNED_STACK" Bundle.steD A U U.heap ∧ vx_Zq Bundle.tN "SUPPRESSED_SENTINEL" Bundle.listD A U U.heap ∧ ∀ q ∈ NCC, va_Nc q.1 q.2 U
theorem Xok.go {A B : Nat → Prop} {s U : State} {H : Heap} {locs : List Loc} (h : Xok A s) (hW : s.WarmedH U.vm) (hU : U.heap = H) (hS : va_S A s.heap H locs) (hAB : ∀ q, B q → A q) : Xok B U := by
  obtain ⟨h1, h2, h3, h4, h5, h6⟩ := h
  refine ⟨fun q hq => va_Nw.warmC hW (h1 q hq), fun q hq => va_Nw.warmD hW (h2 q hq), fun q hq => (h3 q hq).elim fun sa h9 => ⟨sa, h9.warm hW⟩, ?_, ?_, fun q hq => (h6 q hq).moved hW.alike⟩
  · rw [hU]
    exact ((h4.kept (fun a ha hn => hS.2.1 a ha hn)).moved hW.alike).narrow hAB
  · rw [hU]
    exact ((h5.kept (fun a ha hn => hS.2.1 a ha hn)).moved hW.alike).narrow hAB
theorem Xok.calling {A : Nat → Prop} {U : State} {g : JFrame} {mk : MethodId} {a : Array Value} (h : Xok A U) : Xok A (U.calling g mk a) := by
  obtain ⟨h1, h2, h3, h4, h5, h6⟩ := h
  exact ⟨fun q hq => va_Nw.same rfl (u := U) rfl (h1 q hq), fun q hq => va_Nw.same rfl (u := U) rfl (h2 q hq), fun q hq => (h3 q hq).elim fun sa h9 => ⟨sa, vk_R.same (u := U) rfl h9⟩, vx_Zq.moved (u := U) (U := U.calling g mk a) (Vm.Alike.refl U.vm) h4, vx_Zq.moved (u := U) (U := U.calling g mk a) (Vm.Alike.refl U.vm) h5, fun q hq => va_Nc.moved (u := U) (U := U.calling g mk a) (Vm.Alike.refl U.vm) (h6 q hq)⟩
def Pgx (ε : Et) (av : List Value) (h : Hp) (sz : Nat) : Array Value → State → Prop := va_Pc av (fun U => (U.heap.size = sz ∧ va_P ε.1 vwCl (pl ε h) U.heap ∧ va_K ε.1 vwCl (tyE ε) U ∧ Nst U ∧ va_D (fun _ => True) (pl ε h)) ∧ Xok (va_A (pl ε h) sz) U)
theorem fblindx {ε : Et} {av : List Value} {h : Hp} {sz : Nat} : FrameBlind (Pgx ε av h sz) := fun a U g mk q => by
  obtain ⟨q0, ⟨q1, qP, qK, qN, qD⟩, qX⟩ := q
  exact ⟨q0, ⟨q1, qP, va_K.moved (u := U) (U := U.calling g mk a) (Vm.Alike.refl U.vm) qK, fun z hz => va_Nw.same rfl (u := U) (U := U.calling g mk a) rfl (qN z hz), qD⟩, qX.calling⟩
def XCx (ε : Et) (z : Rx) (A : Nat → Prop) : String → State → State → Prop := fun E s t => z.1 ≠ 0 ∧ E = exN z.1 ∧ va_P ε.1 vwCl (pl ε (WX ε z.2.2)) t.heap ∧ va_D A (pl ε (WX ε z.2.2)) ∧ va_F A s t
def PX (ε : Et) (z : Rx) : Option Value → Hp → Prop := fun v X => z.1 = 0 ∧ v = some (.int z.2.1) ∧ X = WX ε z.2.2
/-- a contract of a method that returns or throws, as z says -/
def RXM (l : Launch) (ε : Et) (y : MethodName) (cc : ByteArray) (nL d : Nat) (av : List Value) (h : Hp) (z : Rx) : Prop :=
  ∀ sz : Nat, vx_Met l y (.code y cc nL (some .int) :: TB) (rmD d 1 6) (Pgx ε av h sz) (Qg ε (PX ε z) (va_A (pl ε h) sz)) (XCx ε z (va_A (pl ε h) sz)) 1 6 (va_A (pl ε h) sz)
set_option maxRecDepth 20000 in
theorem xk_1 : Cond.classLink RX8 64 "java/lang/IllegalArgumentException" ∈ TB := tb_in (i := 397) rfl rfl
set_option maxRecDepth 20000 in
theorem xi_1 : Cond.initialized "java/lang/IllegalArgumentException" ∈ TB := tb_in (i := 80) rfl rfl
theorem xg_1 : ∀ w ∈ (vx_atS RX8 68 "java/lang/IllegalArgumentException" ["java/lang/RuntimeException", "java/lang/Exception"]).filter goodWord, w ∈ lw_tbl := by decide +kernel
theorem xn_1 : ∀ w ∈ (vx_atS RX8 68 "java/lang/IllegalArgumentException" ["java/lang/RuntimeException", "java/lang/Exception"]).filter (fun w => !goodWord w), w ∈ NGC.map (fun q => Cond.castable q.1 q.2) ++ NGD.map (fun x => Cond.declares x) := by decide +kernel
theorem xo_1 : ∀ w ∈ Cond.classLink RX8 64 "java/lang/IllegalArgumentException" :: Cond.initialized "java/lang/IllegalArgumentException" :: vx_atS RX8 68 "java/lang/IllegalArgumentException" ["java/lang/RuntimeException", "java/lang/Exception"], vx_ot w = true := by decide +kernel
theorem xa_1 {args : Array Value} {s : State} {A : Nat → Prop} (hts : ∀ w ∈ TB, w.before args s = true) (hX : Xok A s) : ∀ w ∈ vx_atS RX8 68 "java/lang/IllegalArgumentException" ["java/lang/RuntimeException", "java/lang/Exception"], w.before args s = true := by
  refine vx_hat (fun w hw => hts w (List.mem_filter.mpr ⟨xg_1 w hw, (List.mem_filter.mp hw).2⟩)) xn_1 ?_
  intro w hw
  rcases List.mem_append.mp hw with h | h
  · obtain ⟨q, hq, rfl⟩ := List.mem_map.mp h
    exact va_Nw.use rfl (hX.1 q hq)
  · obtain ⟨q, hq, rfl⟩ := List.mem_map.mp h
    exact va_Nw.use rfl (hX.2.1 q hq)
set_option maxRecDepth 20000 in
theorem xk_2 : Cond.classLink RX8 125 "java/lang/IndexOutOfBoundsException" ∈ TB := tb_in (i := 607) rfl rfl
set_option maxRecDepth 20000 in
theorem xi_2 : Cond.initialized "java/lang/IndexOutOfBoundsException" ∈ TB := tb_in (i := 81) rfl rfl
theorem xg_2 : ∀ w ∈ (vx_atS RX8 129 "java/lang/IndexOutOfBoundsException" ["java/lang/RuntimeException", "java/lang/Exception"]).filter goodWord, w ∈ lw_tbl := by decide +kernel
theorem xn_2 : ∀ w ∈ (vx_atS RX8 129 "java/lang/IndexOutOfBoundsException" ["java/lang/RuntimeException", "java/lang/Exception"]).filter (fun w => !goodWord w), w ∈ NGC.map (fun q => Cond.castable q.1 q.2) ++ NGD.map (fun x => Cond.declares x) := by decide +kernel
theorem xo_2 : ∀ w ∈ Cond.classLink RX8 125 "java/lang/IndexOutOfBoundsException" :: Cond.initialized "java/lang/IndexOutOfBoundsException" :: vx_atS RX8 129 "java/lang/IndexOutOfBoundsException" ["java/lang/RuntimeException", "java/lang/Exception"], vx_ot w = true := by decide +kernel
theorem xa_2 {args : Array Value} {s : State} {A : Nat → Prop} (hts : ∀ w ∈ TB, w.before args s = true) (hX : Xok A s) : ∀ w ∈ vx_atS RX8 129 "java/lang/IndexOutOfBoundsException" ["java/lang/RuntimeException", "java/lang/Exception"], w.before args s = true := by
  refine vx_hat (fun w hw => hts w (List.mem_filter.mpr ⟨xg_2 w hw, (List.mem_filter.mp hw).2⟩)) xn_2 ?_
  intro w hw
  rcases List.mem_append.mp hw with h | h
  · obtain ⟨q, hq, rfl⟩ := List.mem_map.mp h
    exact va_Nw.use rfl (hX.1 q hq)
  · obtain ⟨q, hq, rfl⟩ := List.mem_map.mp h
    exact va_Nw.use rfl (hX.2.1 q hq)
set_option maxRecDepth 20000 in
theorem xk_3 : Cond.classLink RX8 220 "java/lang/IllegalStateException" ∈ TB := tb_in (i := 843) rfl rfl
set_option maxRecDepth 20000 in
theorem xi_3 : Cond.initialized "java/lang/IllegalStateException" ∈ TB := tb_in (i := 82) rfl rfl
theorem xg_3 : ∀ w ∈ (vx_atS RX8 224 "java/lang/IllegalStateException" ["java/lang/RuntimeException", "java/lang/Exception"]).filter goodWord, w ∈ lw_tbl := by decide +kernel
theorem xn_3 : ∀ w ∈ (vx_atS RX8 224 "java/lang/IllegalStateException" ["java/lang/RuntimeException", "java/lang/Exception"]).filter (fun w => !goodWord w), w ∈ NGC.map (fun q => Cond.castable q.1 q.2) ++ NGD.map (fun x => Cond.declares x) := by decide +kernel
theorem xo_3 : ∀ w ∈ Cond.classLink RX8 220 "java/lang/IllegalStateException" :: Cond.initialized "java/lang/IllegalStateException" :: vx_atS RX8 224 "java/lang/IllegalStateException" ["java/lang/RuntimeException", "java/lang/Exception"], vx_ot w = true := by decide +kernel
theorem xa_3 {args : Array Value} {s : State} {A : Nat → Prop} (hts : ∀ w ∈ TB, w.before args s = true) (hX : Xok A s) : ∀ w ∈ vx_atS RX8 224 "java/lang/IllegalStateException" ["java/lang/RuntimeException", "java/lang/Exception"], w.before args s = true := by
  refine vx_hat (fun w hw => hts w (List.mem_filter.mpr ⟨xg_3 w hw, (List.mem_filter.mp hw).2⟩)) xn_3 ?_
  intro w hw
  rcases List.mem_append.mp hw with h | h
  · obtain ⟨q, hq, rfl⟩ := List.mem_map.mp h
    exact va_Nw.use rfl (hX.1 q hq)
  · obtain ⟨q, hq, rfl⟩ := List.mem_map.mp h
    exact va_Nw.use rfl (hX.2.1 q hq)
/-- the words of throw k, with its pool entries -/
def Xat (k ik ic : Nat) : Prop := k ≠ 0 ∧ Bundle.fit (exN k) = true ∧ Cond.classLink RX8 ik (exN k) ∈ TB ∧ Cond.initialized (exN k) ∈ TB ∧ (∀ w ∈ Cond.classLink RX8 ik (exN k) :: Cond.initialized (exN k) :: vx_atS RX8 ic (exN k) ["java/lang/RuntimeException", "java/lang/Exception"], vx_ot w = true) ∧ ∀ (args : Array Value) (s : State) (A : Nat → Prop), (∀ w ∈ TB, w.before args s = true) → Xok A s → ∀ w ∈ vx_atS RX8 ic (exN k) ["java/lang/RuntimeException", "java/lang/Exception"], w.before args s = true
theorem xat_1 : Xat 1 64 68 := ⟨by decide, by decide +kernel, xk_1, xi_1, xo_1, fun _ _ _ h1 h2 => xa_1 h1 h2⟩
theorem xat_2 : Xat 2 125 129 := ⟨by decide, by decide +kernel, xk_2, xi_2, xo_2, fun _ _ _ h1 h2 => xa_2 h1 h2⟩
theorem xat_3 : Xat 3 220 224 := ⟨by decide, by decide +kernel, xk_3, xi_3, xo_3, fun _ _ _ h1 h2 => xa_3 h1 h2⟩
theorem xf : ∀ n ∈ (["java/lang/RuntimeException", "java/lang/Exception"] : List String), Bundle.fit n = true := by decide +kernel
theorem RXM.of {ε : Et} {cc : ByteArray} {nL d : Nat} {l : Launch} {y : MethodName} {av : List Value} {h : Hp} {z : Rx} (hl : l.stackTraces = false) (hy : plainName y.cls = true) (hyc : y.cls = RX8) (hd7 : 7 ≤ d) (hav : (lg_sl av).length ≤ nL)
    (body : ∀ κ : Kt, Cx ε κ cc nL y.cls d → (∀ (pc : Nat) (lv : List (Nat × Value)) (r : Int32) (σ : St), decode cc pc = .ok (.ireturn, 1) → some (0, r, σ) = some z → G ε κ 0 0 pc lv [.int r] (WX ε σ)) →
      (∀ (k ik ic is pc : Nat) (tx : String), Xat k ik ic → (is, tx) ∈ STX → decode cc pc = .ok (.new ik, 3) → decode cc (pc + 3) = .ok (.dup, 1) → decode cc (pc + 4) = .ok (.ldc is, 2) → decode cc (pc + 6) = .ok (.invokespecial ic, 3) → decode cc (pc + 9) = .ok (.athrow, 1) → ∀ (lv : List (Nat × Value)) (σ : St), some (k, (0 : Int32), σ) = some z → G ε κ 0 0 pc lv [] (WX ε σ)) →
      G ε κ 0 0 0 (lv_args 0 av) [] h) : RXM l ε y cc nL d av h z := by
  intro sz
  refine vx_ofW (cc := cc) (maxL := nL) (ret := some .int) hy rfl ?_
  intro p e s m args below meth c s₁ B hml hnt hv
  obtain ⟨rfl, ⟨hsz, hP, hK, hN, hD0⟩, hX⟩ := hv
  subst hsz
  have hts := atoms_spec (ws := .code y cc nL (some .int) :: TB) B.pre
  have htb : ∀ w ∈ TB, w.before av.toArray s = true := fun w hw => hts w (List.mem_cons_of_mem _ hw)
  have hD := hD0.self (sz := s.heap.size)
  have hA : ∀ q : Nat, s.heap.size ≤ q → va_A (pl ε h) s.heap.size q := fun q h => Or.inr h
  have hlv := lv_entry av (n := nL) hav
  have hown : s.vm.findClass y.cls = some m.cls := findClass_of_methodNamed B.named
  rw [lg_entry_eq]
  have hr := B.returns
  have hlk : meth.locks = false := B.notSynchronized
  refine body (p, l, e, _, s, m, av.toArray, below, meth, c, _, _) ⟨B.exec, B.bytes, hml, hown, htb, hK, hN, hlk, hA, Nat.le_refl _, Nat.le_refl _⟩ ?_ ?_ s.heap [] _ ⟨hP, hD, va_S.rf⟩ (by rw [hml]; exact hlv)
  · intro pc lv r σ hd hz H locs ls hw hl9
    refine W.widen (k := 1) (n := 6) (by omega) (by omega) (vx_ret ?_)
    cases hz
    exact W.iret B.exec B.bytes hr (fun t ht hW => ⟨⟨some (.int r), WX ε σ, rfl, ⟨rfl, rfl, rfl⟩, by rw [ht]; exact hw.1, hw.2.1⟩, hw.2.2.F ht⟩) hw.2.2.2.2 hd
  · intro k ik ic is pc tx hat hstr d0 d3 d4 d6 d9 lv σ hz H locs ls hw hl9
    obtain ⟨x0, x1, x2, x3, x4, x5⟩ := hat
    obtain ⟨sa, hsa⟩ := hX.2.2.1 _ hstr
    cases hz
    refine vx_throwS (own := RX8) (cls := exN k) (names := ["java/lang/RuntimeException", "java/lang/Exception"]) (text := tx) (sa := sa) (A := va_A (pl ε h) s.heap.size) B.exec B.bytes hl (by rw [← hyc]; exact hown) x1 xf (htb _ x2) (htb _ x3) hsa (x5 _ _ _ htb hX) x4 hX.2.2.2.1 hX.2.2.2.2.1 hw.2.2 hl9.1 d0 d3 d4 d6 d9 (fun x hx => absurd hx (fun h => hnt x h)) ?_ ?_ ?_ ?_ hlk ?_ hw.2.2.2.2 (Nat.le_refl _) (Nat.le_refl _)
    · show 2 + 3 < d
      omega
    · show 0 + (13 * (2 + 1) + 43) ≤ 30 * d
      omega
    · exact Nat.le_refl _
    · exact Nat.le_refl _
    · intro t hvm hsz hsame
      refine ⟨x0, rfl, ?_, hw.2.1, ?_⟩
      · exact hw.1.kept (fun i x hx => hsame x.1 (hw.1 i x hx).lt)
      · exact ⟨Nat.le_trans hw.2.2.1 hsz, fun q h1 h2 => by rw [hsame q (Nat.lt_of_lt_of_le h1 hw.2.2.1)]; exact hw.2.2.2.1 q h1 h2⟩
end XR
