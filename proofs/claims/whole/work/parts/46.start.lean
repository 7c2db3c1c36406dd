section ST
/-- the first state -/
def sc0 : Nat → Nat → Int32 := fun p j => match p, j with
  | 0, 7 => -1
  | 12, 4 => 13
  | 16, 3 => 1
  | 39, 2 => -1
  | 39, 18 => 1
  | _, _ => 0
def σ0 : St := (sc0, fun _ _ => 0, true, false, fun _ => 0)
theorem before_tb {args : Array Value} {s : State} (hts : ∀ w ∈ lw_tbl, w.before args s = true) : ∀ w ∈ TB, w.before args s = true := fun w hw => hts w (List.mem_filter.mp hw).1
set_option maxRecDepth 20000 in
theorem nst0 {args : Array Value} {s : State} (hts : ∀ w ∈ lw_tbl, w.before args s = true) : Nst s := by
  intro q hq
  simp only [NS, List.mem_cons, List.not_mem_nil, or_false] at hq
  rcases hq with rfl | rfl | rfl | rfl | rfl | rfl | rfl | rfl | rfl | rfl
  · exact va_Nw.of rfl (hts _ (List.mem_of_getElem? (i := 111) (by decide +kernel)))
  · exact va_Nw.of rfl (hts _ (List.mem_of_getElem? (i := 117) (by decide +kernel)))
  · exact va_Nw.of rfl (hts _ (List.mem_of_getElem? (i := 160) (by decide +kernel)))
  · exact va_Nw.of rfl (hts _ (List.mem_of_getElem? (i := 184) (by decide +kernel)))
  · exact va_Nw.of rfl (hts _ (List.mem_of_getElem? (i := 211) (by decide +kernel)))
  · exact va_Nw.of rfl (hts _ (List.mem_of_getElem? (i := 217) (by decide +kernel)))
  · exact va_Nw.of rfl (hts _ (List.mem_of_getElem? (i := 279) (by decide +kernel)))
  · exact va_Nw.of rfl (hts _ (List.mem_of_getElem? (i := 325) (by decide +kernel)))
  · exact va_Nw.of rfl (hts _ (List.mem_of_getElem? (i := 525) (by decide +kernel)))
  · exact va_Nw.of rfl (hts _ (List.mem_of_getElem? (i := 545) (by decide +kernel)))
set_option maxRecDepth 20000 in
theorem str0 {args : Array Value} {s : State} (hts : ∀ w ∈ lw_tbl, w.before args s = true) {cur : Nat} (hc : s.vm.findClass "ReadBins" = some cur) : ∀ q ∈ STX, ∃ sa : Nat, vk_R RX8 q.1 q.2 sa s := by
  intro q hq
  simp only [STX, List.mem_cons, List.not_mem_nil, or_false] at hq
  rcases hq with rfl | rfl | rfl | rfl | rfl | rfl | rfl | rfl | rfl | rfl | rfl
  · have h1 := hts (Cond.stringRef "ReadBins" 66 "n is not 1 .. 8, or the tape would be too long") (List.mem_of_getElem? (i := 438) (by decide +kernel))
    obtain ⟨-, -, -, a, -, -, -, -, -, h2⟩ := Cond.stringRef_spec hc h1
    exact ⟨a, vk_R.of h1 h2⟩
  · have h1 := hts (Cond.stringRef "ReadBins" 81 "the form is not 0 or 1") (List.mem_of_getElem? (i := 476) (by decide +kernel))
    obtain ⟨-, -, -, a, -, -, -, -, -, h2⟩ := Cond.stringRef_spec hc h1
    exact ⟨a, vk_R.of h1 h2⟩
  · have h1 := hts (Cond.stringRef "ReadBins" 127 "what is not 0 .. 3") (List.mem_of_getElem? (i := 616) (by decide +kernel))
    obtain ⟨-, -, -, a, -, -, -, -, -, h2⟩ := Cond.stringRef_spec hc h1
    exact ⟨a, vk_R.of h1 h2⟩
  · have h1 := hts (Cond.stringRef "ReadBins" 130 "u is not 0 .. 12, or the way is not 0 or 1") (List.mem_of_getElem? (i := 630) (by decide +kernel))
    obtain ⟨-, -, -, a, -, -, -, -, -, h2⟩ := Cond.stringRef_spec hc h1
    exact ⟨a, vk_R.of h1 h2⟩
  · have h1 := hts (Cond.stringRef "ReadBins" 177 "there is no such read, or what is not 0 .. 6") (List.mem_of_getElem? (i := 788) (by decide +kernel))
    obtain ⟨-, -, -, a, -, -, -, -, -, h2⟩ := Cond.stringRef_spec hc h1
    exact ⟨a, vk_R.of h1 h2⟩
  · have h1 := hts (Cond.stringRef "ReadBins" 213 "there is no such octet, letter or quality") (List.mem_of_getElem? (i := 825) (by decide +kernel))
    obtain ⟨-, -, -, a, -, -, -, -, -, h2⟩ := Cond.stringRef_spec hc h1
    exact ⟨a, vk_R.of h1 h2⟩
  · have h1 := hts (Cond.stringRef "ReadBins" 218 "there is no such bin, or what is not 0 .. 2") (List.mem_of_getElem? (i := 842) (by decide +kernel))
    obtain ⟨-, -, -, a, -, -, -, -, -, h2⟩ := Cond.stringRef_spec hc h1
    exact ⟨a, vk_R.of h1 h2⟩
  · have h1 := hts (Cond.stringRef "ReadBins" 222 "nothing is sorted") (List.mem_of_getElem? (i := 852) (by decide +kernel))
    obtain ⟨-, -, -, a, -, -, -, -, -, h2⟩ := Cond.stringRef_spec hc h1
    exact ⟨a, vk_R.of h1 h2⟩
  · have h1 := hts (Cond.stringRef "ReadBins" 231 "there is no such group") (List.mem_of_getElem? (i := 875) (by decide +kernel))
    obtain ⟨-, -, -, a, -, -, -, -, -, h2⟩ := Cond.stringRef_spec hc h1
    exact ⟨a, vk_R.of h1 h2⟩
  · have h1 := hts (Cond.stringRef "ReadBins" 241 "there is no such bin") (List.mem_of_getElem? (i := 904) (by decide +kernel))
    obtain ⟨-, -, -, a, -, -, -, -, -, h2⟩ := Cond.stringRef_spec hc h1
    exact ⟨a, vk_R.of h1 h2⟩
  · have h1 := hts (Cond.stringRef "ReadBins" 254 "there is no such octet") (List.mem_of_getElem? (i := 960) (by decide +kernel))
    obtain ⟨-, -, -, a, -, -, -, -, -, h2⟩ := Cond.stringRef_spec hc h1
    exact ⟨a, vk_R.of h1 h2⟩
set_option maxRecDepth 20000 in
theorem ngc0 {args : Array Value} {s : State} (hts : ∀ w ∈ lw_tbl, w.before args s = true) : ∀ q ∈ NGC, va_Nw (.castable q.1 q.2) s := by
  intro q hq
  simp only [NGC, List.mem_cons, List.not_mem_nil, or_false] at hq
  rcases hq with rfl | rfl | rfl
  · exact va_Nw.of rfl (hts _ (List.mem_of_getElem? (i := 399) (by decide +kernel)))
  · exact va_Nw.of rfl (hts _ (List.mem_of_getElem? (i := 609) (by decide +kernel)))
  · exact va_Nw.of rfl (hts _ (List.mem_of_getElem? (i := 845) (by decide +kernel)))
set_option maxRecDepth 20000 in
theorem ngd0 {args : Array Value} {s : State} (hts : ∀ w ∈ lw_tbl, w.before args s = true) : ∀ x ∈ NGD, va_Nw (.declares x) s := by
  intro q hq
  simp only [NGD, List.mem_cons, List.not_mem_nil, or_false] at hq
  rcases hq with rfl | rfl | rfl | rfl | rfl | rfl
  · exact va_Nw.of rfl (hts _ (List.mem_of_getElem? (i := 400) (by decide +kernel)))
  · exact va_Nw.of rfl (hts _ (List.mem_of_getElem? (i := 401) (by decide +kernel)))
  · exact va_Nw.of rfl (hts _ (List.mem_of_getElem? (i := 402) (by decide +kernel)))
  · exact va_Nw.of rfl (hts _ (List.mem_of_getElem? (i := 403) (by decide +kernel)))
  · exact va_Nw.of rfl (hts _ (List.mem_of_getElem? (i := 404) (by decide +kernel)))
  · exact va_Nw.of rfl (hts _ (List.mem_of_getElem? (i := 405) (by decide +kernel)))
theorem ncc0 {args : Array Value} {s : State} (hg : (Jvm.Cond.and given_1 narrow_1).before args s = true) : ∀ q ∈ NCC, va_Nc q.1 q.2 s := by
  have hs := flat_of_before _ hg
  intro q hq
  simp only [NCC, List.mem_cons, List.not_mem_nil, or_false] at hq
  rcases hq with rfl | rfl | rfl
  · exact va_Nc.of (hs (Cond.not (.castable "java/lang/IndexOutOfBoundsException" "java/lang/IllegalArgumentException")) (by decide +kernel))
  · exact va_Nc.of (hs (Cond.not (.castable "java/lang/IllegalStateException" "java/lang/IllegalArgumentException")) (by decide +kernel))
  · exact va_Nc.of (hs (Cond.not (.castable "java/lang/IllegalStateException" "java/lang/IndexOutOfBoundsException")) (by decide +kernel))
set_option maxRecDepth 20000 in
theorem xok0 {args : Array Value} {s : State} (hts : ∀ w ∈ lw_tbl, w.before args s = true) (hg : (Jvm.Cond.and given_1 narrow_1).before args s = true) {cur : Nat} (hc : s.vm.findClass "ReadBins" = some cur) : Xok (fun q : Nat => s.heap.size ≤ q) s := by
  have hs := flat_of_before _ hg
  refine ⟨ngc0 hts, ngd0 hts, str0 hts hc, ?_, ?_, ncc0 hg⟩
  · exact vx_Zqof (hts _ (List.mem_of_getElem? (i := 424) (by decide +kernel))) (hts _ (List.mem_of_getElem? (i := 77) (by decide +kernel))) (hs (Cond.isRef (.static Bundle.tN "UNASSIGNED_STACK" Bundle.steD)) (by decide +kernel)) (fun a ha => Nat.not_le.mpr ha)
  · exact vx_Zqof (hts _ (List.mem_of_getElem? (i := 426) (by decide +kernel))) (hts _ (List.mem_of_getElem? (i := 77) (by decide +kernel))) (hs (Cond.isRef (.static Bundle.tN "SUPPRESSED_SENTINEL" Bundle.listD)) (by decide +kernel)) (fun a ha => Nat.not_le.mpr ha)
theorem arr0 {args : Array Value} {s : State} {ty : FieldType} (h : (Cond.arrayClass ty).before args s = true) (hty : ty = .int ∨ ty = .boolean ∨ ty = .long) : ∃ cA : ClassId, ArrOfT s cA ty ∧ va_RA s cA ty := by
  obtain ⟨c, k, comp, h1, h2, h3⟩ := Cond.arrayClass_spec h
  exact ⟨c, fun n z => ⟨fun k h => (by cases h), k, h2, comp, h3⟩, by rcases hty with rfl | rfl | rfl <;> exact h1⟩
set_option maxRecDepth 20000 in
theorem ka0 {args : Array Value} {s : State} (hts : ∀ w ∈ lw_tbl, w.before args s = true) : ∃ (D : va_G) (cI cZ cJ : ClassId), va_K D vwCl (tyE (D, cI, cZ, cJ, [])) s := by
  obtain ⟨cI, a1, a2⟩ := arr0 (before_tb hts _ ac_int) (Or.inl rfl)
  obtain ⟨cZ, b1, b2⟩ := arr0 (before_tb hts _ ac_boolean) (Or.inr (Or.inl rfl))
  obtain ⟨cJ, c1, c2⟩ := arr0 (before_tb hts _ ac_long) (Or.inr (Or.inr rfl))
  obtain ⟨dX0, iX0, hX0⟩ := u_known (C := RX0) (T := TX0) (N := 5) (n := 5) hts in_X0 (hts (.instantiable RX0 5) (List.mem_of_getElem? (i := 159) (by decide +kernel)))
  obtain ⟨dX1, iX1, hX1⟩ := u_known (C := RX1) (T := TX1) (N := 9) (n := 9) hts in_X1 (hts (.instantiable RX1 9) (List.mem_of_getElem? (i := 216) (by decide +kernel)))
  obtain ⟨dX2, iX2, hX2⟩ := u_known (C := RX2) (T := TX2) (N := 5) (n := 5) hts in_X2 (hts (.instantiable RX2 5) (List.mem_of_getElem? (i := 110) (by decide +kernel)))
  obtain ⟨dX3, iX3, hX3⟩ := u_known (C := RX3) (T := TX3) (N := 6) (n := 6) hts in_X3 (hts (.instantiable RX3 6) (List.mem_of_getElem? (i := 116) (by decide +kernel)))
  obtain ⟨dX4, iX4, hX4⟩ := u_known (C := RX4) (T := TX4) (N := 2) (n := 2) hts in_X4 (hts (.instantiable RX4 2) (List.mem_of_getElem? (i := 93) (by decide +kernel)))
  obtain ⟨dX5, iX5, hX5⟩ := u_known (C := RX5) (T := TX5) (N := 9) (n := 9) hts in_X5 (hts (.instantiable RX5 9) (List.mem_of_getElem? (i := 210) (by decide +kernel)))
  obtain ⟨dX6, iX6, hX6⟩ := u_known (C := RX6) (T := TX6) (N := 6) (n := 6) hts in_X6 (hts (.instantiable RX6 6) (List.mem_of_getElem? (i := 183) (by decide +kernel)))
  obtain ⟨dX8, iX8, hX8⟩ := u_known (C := RX8) (T := TX8) (N := 8) (n := 8) hts in_X8 (hts (.instantiable RX8 8) (List.mem_of_getElem? (i := 85) (by decide +kernel)))
  obtain ⟨dX9, iX9, hX9⟩ := u_known (C := RX9) (T := TX9) (N := 34) (n := 34) hts in_X9 (hts (.instantiable RX9 34) (List.mem_of_getElem? (i := 962) (by decide +kernel)))
  refine ⟨(fun k => if k = 0 then dX0 else if k = 1 then dX1 else if k = 2 then dX2 else if k = 3 then dX3 else if k = 4 then dX4 else if k = 5 then dX5 else if k = 6 then dX6 else if k = 7 then dX8 else dX9, fun k => if k = 0 then iX0 else if k = 1 then iX1 else if k = 2 then iX2 else if k = 3 then iX3 else if k = 4 then iX4 else if k = 5 then iX5 else if k = 6 then iX6 else if k = 7 then iX8 else iX9), cI, cZ, cJ, ?_, ?_⟩
  · intro k q hq
    match k, hq with
    | 0, hq => cases hq; exact hX0
    | 1, hq => cases hq; exact hX1
    | 2, hq => cases hq; exact hX2
    | 3, hq => cases hq; exact hX3
    | 4, hq => cases hq; exact hX4
    | 5, hq => cases hq; exact hX5
    | 6, hq => cases hq; exact hX6
    | 7, hq => cases hq; exact hX8
    | 8, hq => cases hq; exact hX9
    | k + 9, hq => simp [vwCl] at hq
  · intro k q hk
    match k, hk with
    | 0, hk => cases hk; exact ⟨a1, a2⟩
    | 1, hk => cases hk; exact ⟨b1, b2⟩
    | 2, hk => cases hk; exact ⟨c1, c2⟩
    | k + 3, hk => simp [tyE] at hk
theorem gl_G {ε0 ε : Et} {κ : Kt} {k n pc : Nat} {lv : List (Nat × Value)} {st : List Value} {ws : va_W} {h : Hp} (e0 : ε.1 = ε0.1) (e : ws = pl ε h) (kk : G ε κ k n pc lv st h) : GL ε0 κ k n pc lv st ws := by
  obtain ⟨p, l, e9, R, s, m, args, below, meth, c, A, Q⟩ := κ
  intro H locs ls hP hD hS hl
  subst e
  rw [← e0] at hP
  exact kk H locs ls ⟨hP, hD, hS⟩ hl
theorem gl_astore_n {ε : Et} {κ : Kt} {cc : ByteArray} {nL d : Nat} {own : String} {k n pc : Nat} {lv : List (Nat × Value)} {st : List Value} {ws : va_W} (C : Cx ε κ cc nL own d) {k0 : Fin 4} {i x : Nat} (lv' : List (Nat × Value)) (hd : decode cc pc = .ok (.astore_n k0, 1)) (hi : (k0 : Nat) = i) (hn : i < nL) (hq : (i, Value.ref x) :: lv.filter (fun q => !(q.1 == i) && !(q.1 + 1 == i && q.2.category == 2)) = lv') (kk : GL ε κ k n (pc + 1) lv' st ws) : GL ε κ k n pc lv (.ref x :: st) ws := by
  obtain ⟨p, l, e0, R, s, m, args, below, meth, c, A, Q⟩ := κ
  obtain ⟨hx, hb, hml, hown, hts, hK, hN, hlk, hA, hfr, hlo⟩ := C
  intro H locs ls hP hD hS hl
  exact lv_astore_n hx hb hd hi hl (by rw [hml]; exact hn) hq (fun ls hl => kk H locs ls hP hD hS hl)
set_option maxRecDepth 20000 in
set_option maxHeartbeats 4000000 in
/-- the law from its entry, where its loop comes to 1 from the first state -/
theorem law_start {p : Program} {e : Env} {s : State} {m : MethodId} {below : List Frame} {meth : Method} {c : Code} (l : Launch) (hfl : l.stackTraces = false) {b L : Nat} {xs : Nat → Int32} {Q : State → Prop} {z : Rs} (hx : p.tables.exec = Jvm.exec) (hb : c.code = code) (hml : c.maxLocals = 7) (hown : s.vm.findClass RL = some m.cls) (hts : ∀ w ∈ lw_tbl, w.before #[Value.ref b] s = true) (hX : va_X b L xs s s.heap) (hbl : b < s.heap.size) (hlk : meth.locks = false) (hg : (Jvm.Cond.and given_1 narrow_1).before #[Value.ref b] s = true) (hz : l_L_law_23 xs L 513 0 σ0 = some z)
    (hK9 : ∀ (pc k n : Nat) (H : Heap) (locs : List Loc) (ls : Array Slot) (r : Int32), k ≤ 601024 → n ≤ 7293034 → (∀ q ∈ locs, s.heap.size ≤ q.base) → decode code pc = .ok (.ireturn, 1) → r = z.1 → W p l e room_1 s m #[Value.ref b] below meth c H locs k n Q (F0 m pc ls [.int r])) :
    W p l e room_1 s m #[Value.ref b] below meth c s.heap [] 0 0 Q (entryFrame m ([Value.ref b] : List Value).toArray 7) := by
  obtain ⟨D, cI, cZ, cJ, hK⟩ := ka0 hts
  have htb := before_tb hts
  obtain ⟨cur, hcur⟩ : ∃ cur, s.vm.findClass "ReadBins" = some cur := ⟨_, (hK.1 7 _ rfl).2.1⟩
  generalize hε : ((D, cI, cZ, cJ, []) : Et) = ε0 at hK
  have e1 : D = ε0.1 := by rw [← hε]
  rw [e1] at hK
  generalize hκ : ((p, l, e, room_1, s, m, #[Value.ref b], below, meth, c, (fun q : Nat => s.heap.size ≤ q), Q) : Kt) = κ
  have hl2 : κ.2.1 = l := by rw [← hκ]
  have hR : κ.2.2.2.1 = room_1 := by rw [← hκ]
  have C : Cx ε0 κ cL_law 7 RL 10 := by
    rw [← hκ]
    exact ⟨hx, hb, hml, hown, htb, hK, nst0 hts, hlk, fun _ h => h, Nat.le_of_ble_eq_true rfl, Nat.le_of_ble_eq_true rfl⟩
  have X : Xk κ := by
    rw [← hκ]
    exact xok0 hts hg hcur
  have S : Sk κ b L xs := by
    rw [← hκ]
    exact ⟨hX, hbl, Nat.not_le.mpr hbl⟩
  have main : GL ε0 κ 0 0 0 [(0, .ref b)] [] [] := by
    refine gl_new C [.null, .null, .null, .null, .null, .null, .null, .int 0] F_X8 (tb_in (i := 84) rfl rfl) (tb_in (i := 85) rfl rfl) (tb_in (i := 67) rfl rfl) (fun j hj => by rcases (show j = 0 ∨ j = 1 ∨ j = 2 ∨ j = 3 ∨ j = 4 ∨ j = 5 ∨ j = 6 ∨ j = 7 by omega) with rfl | rfl | rfl | rfl | rfl | rfl | rfl | rfl <;> rfl) (by rw [hR]; exact ⟨Nat.le_of_ble_eq_true rfl, Nat.le_of_ble_eq_true rfl⟩) dL_law_0 (fun q1 => ?_)
    refine gl_dup C dL_law_3 rfl ?_
    refine gl_ctor (k := 1) (n := 8) (As := []) (rest := [.ref q1]) C [] (c_X8_init (h0 := q1)) (tb_in (i := 86) rfl rfl) (tb_in (i := 87) rfl rfl) (tb_in (i := 67) rfl rfl) (tb_in (i := 88) rfl rfl) (by decide) rfl ⟨by decide +kernel, by decide +kernel, by decide +kernel⟩ (by decide) rfl rfl (Nat.le_of_ble_eq_true rfl) (by rw [hR]; exact ⟨Nat.le_of_ble_eq_true rfl, Nat.le_of_ble_eq_true rfl⟩) dL_law_4 (fun u1 _ => ?_)
    refine gl_w (ws' := [(q1, .inr (7, [.ref (u1.getD 0 0), .ref (u1.getD 2 0), .ref (u1.getD 4 0), .ref (u1.getD 11 0), .ref (u1.getD 15 0), .ref (u1.getD 18 0), .ref (u1.getD 32 0), .int (-1)])), ((u1.getD 0 0), .inr (4, [.ref (u1.getD 1 0), .int 0])), ((u1.getD 1 0), aI ε0 6000 (fun _ => 0)), ((u1.getD 2 0), .inr (4, [.ref (u1.getD 3 0), .int 0])), ((u1.getD 3 0), aI ε0 12000 (fun _ => 0)), ((u1.getD 4 0), .inr (2, [.ref (u1.getD 5 0), .int 0, .int 0, .int 0, .int 0])), ((u1.getD 5 0), .inr (3, [.ref (u1.getD 6 0), .ref (u1.getD 8 0), .ref (u1.getD 9 0), .ref (u1.getD 10 0), .int 0, .int 0])), ((u1.getD 6 0), .inr (4, [.ref (u1.getD 7 0), .int 0])), ((u1.getD 7 0), aI ε0 6000 (fun _ => 0)), ((u1.getD 8 0), aI ε0 60 (fun _ => 0)), ((u1.getD 9 0), aI ε0 60 (fun _ => 0)), ((u1.getD 10 0), aI ε0 60 (fun _ => 0)), ((u1.getD 11 0), .inr (0, [.ref (u1.getD 12 0), .ref (u1.getD 13 0), .int 0, .int 0, .int 13])), ((u1.getD 12 0), aI ε0 192 (fun _ => 0)), ((u1.getD 13 0), .inr (4, [.ref (u1.getD 14 0), .int 0])), ((u1.getD 14 0), aI ε0 12 (fun _ => 0)), ((u1.getD 15 0), .inr (6, [.ref (u1.getD 16 0), .int 0, .int 0, .int 1, .int 0, .int 0])), ((u1.getD 16 0), .inr (4, [.ref (u1.getD 17 0), .int 0])), ((u1.getD 17 0), aI ε0 30 (fun _ => 0)), ((u1.getD 18 0), .inr (5, [.ref (u1.getD 19 0), .ref (u1.getD 20 0), .ref (u1.getD 21 0), .ref (u1.getD 22 0), .ref (u1.getD 23 0), .ref (u1.getD 24 0), .int 0, .int 0, .int 0])), ((u1.getD 19 0), aI ε0 60 (fun _ => 0)), ((u1.getD 20 0), aI ε0 60 (fun _ => 0)), ((u1.getD 21 0), aI ε0 60 (fun _ => 0)), ((u1.getD 22 0), aI ε0 60 (fun _ => 0)), ((u1.getD 23 0), aZ ε0 60 (fun _ => 0)), ((u1.getD 24 0), .inr (1, [.ref (u1.getD 25 0), .ref (u1.getD 26 0), .ref (u1.getD 27 0), .ref (u1.getD 28 0), .ref (u1.getD 29 0), .ref (u1.getD 30 0), .ref (u1.getD 31 0), .int 0, .int 0])), ((u1.getD 25 0), aI ε0 720 (fun _ => 0)), ((u1.getD 26 0), aI ε0 60 (fun _ => 0)), ((u1.getD 27 0), aI ε0 60 (fun _ => 0)), ((u1.getD 28 0), aI ε0 60 (fun _ => 0)), ((u1.getD 29 0), aI ε0 60 (fun _ => 0)), ((u1.getD 30 0), aI ε0 60 (fun _ => 0)), ((u1.getD 31 0), aI ε0 16 (fun _ => 0)), ((u1.getD 32 0), .inr (3, [.ref (u1.getD 33 0), .ref (u1.getD 35 0), .ref (u1.getD 36 0), .ref (u1.getD 37 0), .int 0, .int 0])), ((u1.getD 33 0), .inr (4, [.ref (u1.getD 34 0), .int 0])), ((u1.getD 34 0), aI ε0 6000 (fun _ => 0)), ((u1.getD 35 0), aI ε0 60 (fun _ => 0)), ((u1.getD 36 0), aI ε0 60 (fun _ => 0)), ((u1.getD 37 0), aI ε0 60 (fun _ => 0))]) rfl ?_
    refine gl_astore_n C [(1, .ref q1), (0, .ref b)] dL_law_7 rfl (by decide) rfl ?_
    refine gl_new C [.null, .int 0, .int 0, .int 0, .null, .null, .null, .null, .null, .int 0, .int 0, .null, .int 0, .int 0, .null, .int 0, .int 0, .int 0, .int 0, .int 0, .int 0, .int 0, .null, .null, .null, .null, .null, .null, .null, .int 0, .int 0, .int 0, .int 0, .int 0] F_X9 (tb_in (i := 961) rfl rfl) (tb_in (i := 962) rfl rfl) (tb_in (i := 76) rfl rfl) (fun j hj => by rcases (show j = 0 ∨ j = 1 ∨ j = 2 ∨ j = 3 ∨ j = 4 ∨ j = 5 ∨ j = 6 ∨ j = 7 ∨ j = 8 ∨ j = 9 ∨ j = 10 ∨ j = 11 ∨ j = 12 ∨ j = 13 ∨ j = 14 ∨ j = 15 ∨ j = 16 ∨ j = 17 ∨ j = 18 ∨ j = 19 ∨ j = 20 ∨ j = 21 ∨ j = 22 ∨ j = 23 ∨ j = 24 ∨ j = 25 ∨ j = 26 ∨ j = 27 ∨ j = 28 ∨ j = 29 ∨ j = 30 ∨ j = 31 ∨ j = 32 ∨ j = 33 by omega) with rfl | rfl | rfl | rfl | rfl | rfl | rfl | rfl | rfl | rfl | rfl | rfl | rfl | rfl | rfl | rfl | rfl | rfl | rfl | rfl | rfl | rfl | rfl | rfl | rfl | rfl | rfl | rfl | rfl | rfl | rfl | rfl | rfl | rfl <;> rfl) (by rw [hR]; exact ⟨Nat.le_of_ble_eq_true rfl, Nat.le_of_ble_eq_true rfl⟩) dL_law_8 (fun q2 => ?_)
    refine gl_dup C dL_law_11 rfl ?_
    refine gl_ctor (k := 40) (n := 32030) (As := []) (rest := [.ref q2]) C [(q1, .inr (7, [.ref (u1.getD 0 0), .ref (u1.getD 2 0), .ref (u1.getD 4 0), .ref (u1.getD 11 0), .ref (u1.getD 15 0), .ref (u1.getD 18 0), .ref (u1.getD 32 0), .int (-1)])), ((u1.getD 0 0), .inr (4, [.ref (u1.getD 1 0), .int 0])), ((u1.getD 1 0), aI ε0 6000 (fun _ => 0)), ((u1.getD 2 0), .inr (4, [.ref (u1.getD 3 0), .int 0])), ((u1.getD 3 0), aI ε0 12000 (fun _ => 0)), ((u1.getD 4 0), .inr (2, [.ref (u1.getD 5 0), .int 0, .int 0, .int 0, .int 0])), ((u1.getD 5 0), .inr (3, [.ref (u1.getD 6 0), .ref (u1.getD 8 0), .ref (u1.getD 9 0), .ref (u1.getD 10 0), .int 0, .int 0])), ((u1.getD 6 0), .inr (4, [.ref (u1.getD 7 0), .int 0])), ((u1.getD 7 0), aI ε0 6000 (fun _ => 0)), ((u1.getD 8 0), aI ε0 60 (fun _ => 0)), ((u1.getD 9 0), aI ε0 60 (fun _ => 0)), ((u1.getD 10 0), aI ε0 60 (fun _ => 0)), ((u1.getD 11 0), .inr (0, [.ref (u1.getD 12 0), .ref (u1.getD 13 0), .int 0, .int 0, .int 13])), ((u1.getD 12 0), aI ε0 192 (fun _ => 0)), ((u1.getD 13 0), .inr (4, [.ref (u1.getD 14 0), .int 0])), ((u1.getD 14 0), aI ε0 12 (fun _ => 0)), ((u1.getD 15 0), .inr (6, [.ref (u1.getD 16 0), .int 0, .int 0, .int 1, .int 0, .int 0])), ((u1.getD 16 0), .inr (4, [.ref (u1.getD 17 0), .int 0])), ((u1.getD 17 0), aI ε0 30 (fun _ => 0)), ((u1.getD 18 0), .inr (5, [.ref (u1.getD 19 0), .ref (u1.getD 20 0), .ref (u1.getD 21 0), .ref (u1.getD 22 0), .ref (u1.getD 23 0), .ref (u1.getD 24 0), .int 0, .int 0, .int 0])), ((u1.getD 19 0), aI ε0 60 (fun _ => 0)), ((u1.getD 20 0), aI ε0 60 (fun _ => 0)), ((u1.getD 21 0), aI ε0 60 (fun _ => 0)), ((u1.getD 22 0), aI ε0 60 (fun _ => 0)), ((u1.getD 23 0), aZ ε0 60 (fun _ => 0)), ((u1.getD 24 0), .inr (1, [.ref (u1.getD 25 0), .ref (u1.getD 26 0), .ref (u1.getD 27 0), .ref (u1.getD 28 0), .ref (u1.getD 29 0), .ref (u1.getD 30 0), .ref (u1.getD 31 0), .int 0, .int 0])), ((u1.getD 25 0), aI ε0 720 (fun _ => 0)), ((u1.getD 26 0), aI ε0 60 (fun _ => 0)), ((u1.getD 27 0), aI ε0 60 (fun _ => 0)), ((u1.getD 28 0), aI ε0 60 (fun _ => 0)), ((u1.getD 29 0), aI ε0 60 (fun _ => 0)), ((u1.getD 30 0), aI ε0 60 (fun _ => 0)), ((u1.getD 31 0), aI ε0 16 (fun _ => 0)), ((u1.getD 32 0), .inr (3, [.ref (u1.getD 33 0), .ref (u1.getD 35 0), .ref (u1.getD 36 0), .ref (u1.getD 37 0), .int 0, .int 0])), ((u1.getD 33 0), .inr (4, [.ref (u1.getD 34 0), .int 0])), ((u1.getD 34 0), aI ε0 6000 (fun _ => 0)), ((u1.getD 35 0), aI ε0 60 (fun _ => 0)), ((u1.getD 36 0), aI ε0 60 (fun _ => 0)), ((u1.getD 37 0), aI ε0 60 (fun _ => 0))] (c_X9_init (h0 := q2)) (tb_in (i := 963) rfl rfl) (tb_in (i := 964) rfl rfl) (tb_in (i := 76) rfl rfl) (tb_in (i := 965) rfl rfl) (by decide) rfl ⟨by decide +kernel, by decide +kernel, by decide +kernel⟩ (by decide) rfl rfl (Nat.le_of_ble_eq_true rfl) (by rw [hR]; exact ⟨Nat.le_of_ble_eq_true rfl, Nat.le_of_ble_eq_true rfl⟩) dL_law_12 (fun u2 _ => ?_)
    refine gl_w (ws' := [(q1, .inr (7, [.ref (u1.getD 0 0), .ref (u1.getD 2 0), .ref (u1.getD 4 0), .ref (u1.getD 11 0), .ref (u1.getD 15 0), .ref (u1.getD 18 0), .ref (u1.getD 32 0), .int (-1)])), ((u1.getD 0 0), .inr (4, [.ref (u1.getD 1 0), .int 0])), ((u1.getD 1 0), aI ε0 6000 (fun _ => 0)), ((u1.getD 2 0), .inr (4, [.ref (u1.getD 3 0), .int 0])), ((u1.getD 3 0), aI ε0 12000 (fun _ => 0)), ((u1.getD 4 0), .inr (2, [.ref (u1.getD 5 0), .int 0, .int 0, .int 0, .int 0])), ((u1.getD 5 0), .inr (3, [.ref (u1.getD 6 0), .ref (u1.getD 8 0), .ref (u1.getD 9 0), .ref (u1.getD 10 0), .int 0, .int 0])), ((u1.getD 6 0), .inr (4, [.ref (u1.getD 7 0), .int 0])), ((u1.getD 7 0), aI ε0 6000 (fun _ => 0)), ((u1.getD 8 0), aI ε0 60 (fun _ => 0)), ((u1.getD 9 0), aI ε0 60 (fun _ => 0)), ((u1.getD 10 0), aI ε0 60 (fun _ => 0)), ((u1.getD 11 0), .inr (0, [.ref (u1.getD 12 0), .ref (u1.getD 13 0), .int 0, .int 0, .int 13])), ((u1.getD 12 0), aI ε0 192 (fun _ => 0)), ((u1.getD 13 0), .inr (4, [.ref (u1.getD 14 0), .int 0])), ((u1.getD 14 0), aI ε0 12 (fun _ => 0)), ((u1.getD 15 0), .inr (6, [.ref (u1.getD 16 0), .int 0, .int 0, .int 1, .int 0, .int 0])), ((u1.getD 16 0), .inr (4, [.ref (u1.getD 17 0), .int 0])), ((u1.getD 17 0), aI ε0 30 (fun _ => 0)), ((u1.getD 18 0), .inr (5, [.ref (u1.getD 19 0), .ref (u1.getD 20 0), .ref (u1.getD 21 0), .ref (u1.getD 22 0), .ref (u1.getD 23 0), .ref (u1.getD 24 0), .int 0, .int 0, .int 0])), ((u1.getD 19 0), aI ε0 60 (fun _ => 0)), ((u1.getD 20 0), aI ε0 60 (fun _ => 0)), ((u1.getD 21 0), aI ε0 60 (fun _ => 0)), ((u1.getD 22 0), aI ε0 60 (fun _ => 0)), ((u1.getD 23 0), aZ ε0 60 (fun _ => 0)), ((u1.getD 24 0), .inr (1, [.ref (u1.getD 25 0), .ref (u1.getD 26 0), .ref (u1.getD 27 0), .ref (u1.getD 28 0), .ref (u1.getD 29 0), .ref (u1.getD 30 0), .ref (u1.getD 31 0), .int 0, .int 0])), ((u1.getD 25 0), aI ε0 720 (fun _ => 0)), ((u1.getD 26 0), aI ε0 60 (fun _ => 0)), ((u1.getD 27 0), aI ε0 60 (fun _ => 0)), ((u1.getD 28 0), aI ε0 60 (fun _ => 0)), ((u1.getD 29 0), aI ε0 60 (fun _ => 0)), ((u1.getD 30 0), aI ε0 60 (fun _ => 0)), ((u1.getD 31 0), aI ε0 16 (fun _ => 0)), ((u1.getD 32 0), .inr (3, [.ref (u1.getD 33 0), .ref (u1.getD 35 0), .ref (u1.getD 36 0), .ref (u1.getD 37 0), .int 0, .int 0])), ((u1.getD 33 0), .inr (4, [.ref (u1.getD 34 0), .int 0])), ((u1.getD 34 0), aI ε0 6000 (fun _ => 0)), ((u1.getD 35 0), aI ε0 60 (fun _ => 0)), ((u1.getD 36 0), aI ε0 60 (fun _ => 0)), ((u1.getD 37 0), aI ε0 60 (fun _ => 0)), (q2, .inr (8, [.ref (u2.getD 0 0), .int 0, .int (-1), .int 0, .ref (u2.getD 1 0), .ref (u2.getD 2 0), .ref (u2.getD 3 0), .ref (u2.getD 4 0), .ref (u2.getD 5 0), .int 0, .int 0, .ref (u2.getD 6 0), .int 0, .int 0, .ref (u2.getD 7 0), .int 0, .int 0, .int 0, .int 1, .int 0, .int 0, .int 0, .ref (u2.getD 8 0), .ref (u2.getD 9 0), .ref (u2.getD 10 0), .ref (u2.getD 11 0), .ref (u2.getD 12 0), .ref (u2.getD 13 0), .ref (u2.getD 14 0), .int 0, .int 0, .int 0, .int 0, .int 0])), ((u2.getD 0 0), aI ε0 6000 (fun _ => 0)), ((u2.getD 1 0), aI ε0 120 (fun _ => 0)), ((u2.getD 2 0), aI ε0 4800 (fun _ => 0)), ((u2.getD 3 0), aI ε0 120 (fun _ => 0)), ((u2.getD 4 0), aI ε0 14400 (fun _ => 0)), ((u2.getD 5 0), aI ε0 14400 (fun _ => 0)), ((u2.getD 6 0), aI ε0 192 (fun _ => 0)), ((u2.getD 7 0), aI ε0 30 (fun _ => 0)), ((u2.getD 8 0), aI ε0 60 (fun _ => 0)), ((u2.getD 9 0), aI ε0 60 (fun _ => 0)), ((u2.getD 10 0), aI ε0 60 (fun _ => 0)), ((u2.getD 11 0), aZ ε0 60 (fun _ => 0)), ((u2.getD 12 0), aI ε0 60 (fun _ => 0)), ((u2.getD 13 0), aI ε0 12000 (fun _ => 0)), ((u2.getD 14 0), aI ε0 12000 (fun _ => 0))]) rfl ?_
    refine gl_astore_n C [(2, .ref q2), (1, .ref q1), (0, .ref b)] dL_law_15 rfl (by decide) rfl ?_
    refine gl_iconst (v := 1) C dL_law_16 (by decide) ?_
    refine gl_newa_long (k := 55) (n := 96392) (N := 1) C (by decide) (by decide) (by rw [hR]; exact ⟨Nat.le_of_ble_eq_true rfl, Nat.le_of_ble_eq_true rfl⟩) dL_law_17 (fun q3 => ?_)
    refine gl_w (ws' := [(q1, .inr (7, [.ref (u1.getD 0 0), .ref (u1.getD 2 0), .ref (u1.getD 4 0), .ref (u1.getD 11 0), .ref (u1.getD 15 0), .ref (u1.getD 18 0), .ref (u1.getD 32 0), .int (-1)])), ((u1.getD 0 0), .inr (4, [.ref (u1.getD 1 0), .int 0])), ((u1.getD 1 0), aI ε0 6000 (fun _ => 0)), ((u1.getD 2 0), .inr (4, [.ref (u1.getD 3 0), .int 0])), ((u1.getD 3 0), aI ε0 12000 (fun _ => 0)), ((u1.getD 4 0), .inr (2, [.ref (u1.getD 5 0), .int 0, .int 0, .int 0, .int 0])), ((u1.getD 5 0), .inr (3, [.ref (u1.getD 6 0), .ref (u1.getD 8 0), .ref (u1.getD 9 0), .ref (u1.getD 10 0), .int 0, .int 0])), ((u1.getD 6 0), .inr (4, [.ref (u1.getD 7 0), .int 0])), ((u1.getD 7 0), aI ε0 6000 (fun _ => 0)), ((u1.getD 8 0), aI ε0 60 (fun _ => 0)), ((u1.getD 9 0), aI ε0 60 (fun _ => 0)), ((u1.getD 10 0), aI ε0 60 (fun _ => 0)), ((u1.getD 11 0), .inr (0, [.ref (u1.getD 12 0), .ref (u1.getD 13 0), .int 0, .int 0, .int 13])), ((u1.getD 12 0), aI ε0 192 (fun _ => 0)), ((u1.getD 13 0), .inr (4, [.ref (u1.getD 14 0), .int 0])), ((u1.getD 14 0), aI ε0 12 (fun _ => 0)), ((u1.getD 15 0), .inr (6, [.ref (u1.getD 16 0), .int 0, .int 0, .int 1, .int 0, .int 0])), ((u1.getD 16 0), .inr (4, [.ref (u1.getD 17 0), .int 0])), ((u1.getD 17 0), aI ε0 30 (fun _ => 0)), ((u1.getD 18 0), .inr (5, [.ref (u1.getD 19 0), .ref (u1.getD 20 0), .ref (u1.getD 21 0), .ref (u1.getD 22 0), .ref (u1.getD 23 0), .ref (u1.getD 24 0), .int 0, .int 0, .int 0])), ((u1.getD 19 0), aI ε0 60 (fun _ => 0)), ((u1.getD 20 0), aI ε0 60 (fun _ => 0)), ((u1.getD 21 0), aI ε0 60 (fun _ => 0)), ((u1.getD 22 0), aI ε0 60 (fun _ => 0)), ((u1.getD 23 0), aZ ε0 60 (fun _ => 0)), ((u1.getD 24 0), .inr (1, [.ref (u1.getD 25 0), .ref (u1.getD 26 0), .ref (u1.getD 27 0), .ref (u1.getD 28 0), .ref (u1.getD 29 0), .ref (u1.getD 30 0), .ref (u1.getD 31 0), .int 0, .int 0])), ((u1.getD 25 0), aI ε0 720 (fun _ => 0)), ((u1.getD 26 0), aI ε0 60 (fun _ => 0)), ((u1.getD 27 0), aI ε0 60 (fun _ => 0)), ((u1.getD 28 0), aI ε0 60 (fun _ => 0)), ((u1.getD 29 0), aI ε0 60 (fun _ => 0)), ((u1.getD 30 0), aI ε0 60 (fun _ => 0)), ((u1.getD 31 0), aI ε0 16 (fun _ => 0)), ((u1.getD 32 0), .inr (3, [.ref (u1.getD 33 0), .ref (u1.getD 35 0), .ref (u1.getD 36 0), .ref (u1.getD 37 0), .int 0, .int 0])), ((u1.getD 33 0), .inr (4, [.ref (u1.getD 34 0), .int 0])), ((u1.getD 34 0), aI ε0 6000 (fun _ => 0)), ((u1.getD 35 0), aI ε0 60 (fun _ => 0)), ((u1.getD 36 0), aI ε0 60 (fun _ => 0)), ((u1.getD 37 0), aI ε0 60 (fun _ => 0)), (q2, .inr (8, [.ref (u2.getD 0 0), .int 0, .int (-1), .int 0, .ref (u2.getD 1 0), .ref (u2.getD 2 0), .ref (u2.getD 3 0), .ref (u2.getD 4 0), .ref (u2.getD 5 0), .int 0, .int 0, .ref (u2.getD 6 0), .int 0, .int 0, .ref (u2.getD 7 0), .int 0, .int 0, .int 0, .int 1, .int 0, .int 0, .int 0, .ref (u2.getD 8 0), .ref (u2.getD 9 0), .ref (u2.getD 10 0), .ref (u2.getD 11 0), .ref (u2.getD 12 0), .ref (u2.getD 13 0), .ref (u2.getD 14 0), .int 0, .int 0, .int 0, .int 0, .int 0])), ((u2.getD 0 0), aI ε0 6000 (fun _ => 0)), ((u2.getD 1 0), aI ε0 120 (fun _ => 0)), ((u2.getD 2 0), aI ε0 4800 (fun _ => 0)), ((u2.getD 3 0), aI ε0 120 (fun _ => 0)), ((u2.getD 4 0), aI ε0 14400 (fun _ => 0)), ((u2.getD 5 0), aI ε0 14400 (fun _ => 0)), ((u2.getD 6 0), aI ε0 192 (fun _ => 0)), ((u2.getD 7 0), aI ε0 30 (fun _ => 0)), ((u2.getD 8 0), aI ε0 60 (fun _ => 0)), ((u2.getD 9 0), aI ε0 60 (fun _ => 0)), ((u2.getD 10 0), aI ε0 60 (fun _ => 0)), ((u2.getD 11 0), aZ ε0 60 (fun _ => 0)), ((u2.getD 12 0), aI ε0 60 (fun _ => 0)), ((u2.getD 13 0), aI ε0 12000 (fun _ => 0)), ((u2.getD 14 0), aI ε0 12000 (fun _ => 0)), (q3, aJ ε0 1 (fun _ => 0))]) rfl ?_
    refine gl_astore_n C [(3, .ref q3), (2, .ref q2), (1, .ref q1), (0, .ref b)] dL_law_19 rfl (by decide) rfl ?_
    obtain ⟨ε, hε1⟩ : ∃ ε : Et, ε = (ε0.1, ε0.2.1, ε0.2.2.1, ε0.2.2.2.1, [q1, (u1.getD 0 0), (u1.getD 1 0), (u1.getD 2 0), (u1.getD 3 0), (u1.getD 4 0), (u1.getD 5 0), (u1.getD 6 0), (u1.getD 7 0), (u1.getD 8 0), (u1.getD 9 0), (u1.getD 10 0), (u1.getD 11 0), (u1.getD 12 0), (u1.getD 13 0), (u1.getD 14 0), (u1.getD 15 0), (u1.getD 16 0), (u1.getD 17 0), (u1.getD 18 0), (u1.getD 19 0), (u1.getD 20 0), (u1.getD 21 0), (u1.getD 22 0), (u1.getD 23 0), (u1.getD 24 0), (u1.getD 25 0), (u1.getD 26 0), (u1.getD 27 0), (u1.getD 28 0), (u1.getD 29 0), (u1.getD 30 0), (u1.getD 31 0), (u1.getD 32 0), (u1.getD 33 0), (u1.getD 34 0), (u1.getD 35 0), (u1.getD 36 0), (u1.getD 37 0), q2, (u2.getD 0 0), (u2.getD 1 0), (u2.getD 2 0), (u2.getD 3 0), (u2.getD 4 0), (u2.getD 5 0), (u2.getD 6 0), (u2.getD 7 0), (u2.getD 8 0), (u2.getD 9 0), (u2.getD 10 0), (u2.getD 11 0), (u2.getD 12 0), (u2.getD 13 0), (u2.getD 14 0), q3]) := ⟨_, rfl⟩
    have C1 : Cx ε κ cL_law 7 RL 10 := by rw [hε1]; exact C
    refine gl_G (ε := ε) (h := WX ε σ0) (by rw [hε1]) (by rw [hε1]; rfl) ?_
    have a0 : q1 = ad ε 0 := by rw [hε1]; rfl
    have a39 : q2 = ad ε 39 := by rw [hε1]; rfl
    have a55 : q3 = ad ε 55 := by rw [hε1]; rfl
    rw [a0, a39, a55]
    refine g_iconst (v := 0) C1 dL_law_20 (by decide) ?_
    refine g_istore C1 [(4, .int 0), (3, .ref (ad ε 55)), (2, .ref (ad ε 39)), (1, .ref (ad ε 0)), (0, .ref b)] dL_law_21 (by decide) rfl ?_
    refine g_pick (lv' := [(0, .ref b), (1, .ref (ad ε 0)), (2, .ref (ad ε 39)), (3, .ref (ad ε 55)), (4, .int 0)]) ?_ [4, 3, 2, 1, 0] rfl
    refine tl_L_law_23 (z := z) (by rw [hl2]; exact hfl) xs L C1 X S ?_ 513 56 96393 0 σ0 (by rw [BB, hR]; exact ⟨Nat.le_of_ble_eq_true rfl, Nat.le_of_ble_eq_true rfl⟩) hz
    intro pc k n lv r σ hbb hd hr
    rw [BB, hR] at hbb
    cases hr
    subst hκ
    intro H locs ls hw hl
    exact hK9 pc k n H locs ls r hbb.1 hbb.2 (fun q hq => hw.2.2.2.2 q hq) hd rfl
  subst hκ
  have hlv := lv_entry ([.ref b]) (n := 7) (Nat.le_of_ble_eq_true rfl)
  rw [lg_entry_eq]
  exact main s.heap [] _ (fun k q h => by simp at h) ⟨fun i j p q h => by simp at h, fun k q h => by simp at h⟩ va_S.rf (by rw [hml]; exact hlv)
end ST
