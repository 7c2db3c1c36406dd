section LW
/-- room is left for m more throws -/
def BB (κ : Kt) (k n m : Nat) : Prop := k + m ≤ κ.2.2.2.1.cells ∧ n + 6 * m ≤ κ.2.2.2.1.slots
theorem bb0 {κ : Kt} {k n m : Nat} (h : BB κ k n m) : k + 0 ≤ κ.2.2.2.1.cells ∧ n + 0 ≤ κ.2.2.2.1.slots := ⟨by have := h.1; omega, by have := h.2; omega⟩
theorem bbw {κ : Kt} {k n m : Nat} (h : BB κ k n (m + 1)) : BB κ k n m := ⟨by have := h.1; omega, by have := h.2; omega⟩
theorem bb1 {κ : Kt} {k n m : Nat} (h : BB κ k n (m + 1)) : BB κ (k + 1) (n + 6) m := ⟨by have := h.1; omega, by have := h.2; omega⟩
theorem bbr {κ : Kt} {k n m : Nat} (h : BB κ k n (m + 1)) : k + 1 ≤ κ.2.2.2.1.cells ∧ n + 6 ≤ κ.2.2.2.1.slots := ⟨by have := h.1; omega, by have := h.2; omega⟩
/-- the script -/
def Sk (κ : Kt) (b L : Nat) (xs : Nat → Int32) : Prop := match κ with
  | (_, _, _, _, s, _, _, _, _, _, A, _) => va_X b L xs s s.heap ∧ b < s.heap.size ∧ ¬ A b
variable {ε : Et} {κ : Kt} {cc : ByteArray} {nL d : Nat} {own : String} {k n pc : Nat} {lv : List (Nat × Value)} {st : List Value} {σ : St}
theorem q_slen (C : Cx ε κ cc nL own d) {b L : Nat} {xs : Nat → Int32} (S : Sk κ b L xs) (hd : decode cc pc = .ok (.arraylength, 1)) (kk : G ε κ k n (pc + 1) lv (.int (nI L) :: st) (WX ε σ)) : G ε κ k n pc lv (.ref b :: st) (WX ε σ) := by
  obtain ⟨p, l, e0, R, s, m, args, below, meth, c, A, Q⟩ := κ
  obtain ⟨hx, hb, hml, hown, hts, hK, hN, hlk, hA, hfr, hlo⟩ := C
  intro H locs ls hw hl
  exact va_slen hx hb S.1 S.2.1 S.2.2 hw.2.2 hd (kk H locs ls hw hl)
theorem q_sld (C : Cx ε κ cc nL own d) {b L : Nat} {xs : Nat → Int32} {i : Int32} (S : Sk κ b L xs) (hi : inb i L = true) (hd : decode cc pc = .ok (.iaload, 1)) (kk : G ε κ k n (pc + 1) lv (.int (xs i.toNatClampNeg) :: st) (WX ε σ)) : G ε κ k n pc lv (.int i :: .ref b :: st) (WX ε σ) := by
  obtain ⟨p, l, e0, R, s, m, args, below, meth, c, A, Q⟩ := κ
  obtain ⟨hx, hb, hml, hown, hts, hK, hN, hlk, hA, hfr, hlo⟩ := C
  intro H locs ls hw hl
  exact va_sld hx hb S.1 S.2.1 S.2.2 hw.2.2 (inb_in hi) hd (kk H locs ls hw hl)
theorem q_lld (C : Cx ε κ cc nL own d) (hd : decode cc pc = .ok (.laload, 1)) (kk : G ε κ k n (pc + 1) lv (.long (σ.2.2.2.2 0) :: st) (WX ε σ)) : G ε κ k n pc lv (.int 0 :: .ref (ad ε 55) :: st) (WX ε σ) := g_lld C (lt_N (by decide)) wx_55 (show vp_in (nI 0) 1 from vp_in_nI (by decide) (by decide)) hd kk
theorem q_ck (C : Cx ε κ cc nL own d) {y : MethodName} {bytes : ByteArray} {maxL d' b ci index np : Nat} {ret : Option FieldType} {rest st0 : List Value} {fs : List Value} {T : u_T} {N : Nat} {r1 : Int32} {σ1 : St} (As : List Value)
    (hM : RM κ.2.1 ε y bytes maxL ret d' 0 0 (.ref (ad ε b) :: As) (WX ε σ) (PI ε (r1, σ1))) (hw9 : Wv own index y bytes maxL ret np) (hdp : d' < d) (hb9 : b < NP) (he : WX ε σ b = .inr (ci, fs)) (hci : vwCl[ci]? = some (y.cls, T, N)) (hn : As.length = np) (hst : st0 = As.reverse ++ .ref (ad ε b) :: rest) (hcat : (rest.map fun v => v.category).sum ≤ 8) (hroom : k + 0 ≤ κ.2.2.2.1.cells ∧ n + 0 ≤ κ.2.2.2.1.slots) (hd : decode cc pc = .ok (.invokevirtual index, 3))
    (kk : G ε κ k n (pc + 3) lv (.int r1 :: rest) (WX ε σ1)) : G ε κ k n pc lv st0 (WX ε σ) := g_call C hM hw9 hdp hb9 he hci hn hst hcat hroom hd (fun v h1 hp => by obtain ⟨rfl, rfl⟩ := hp; exact kk)
def Ww (own : String) (index : Nat) (y : MethodName) (bytes : ByteArray) (maxL : Nat) (hh : List (Nat × Nat × Nat × Nat)) (np : Nat) : Prop := Cond.methodLink own index y ∈ TB ∧ Cond.static y ∈ TB ∧ Cond.initialized y.cls ∈ TB ∧ Cond.codeWith y bytes maxL (some .int) hh ∈ TB ∧ maxL ≤ 11 ∧ (y.cls ≠ "java/lang/invoke/MethodHandle" ∧ y.cls ≠ "java/lang/invoke/VarHandle" ∧ (parseMethodDescriptor y.desc).map (fun d => d.parameters.length) = some np)
/-- the call of a wrapper -/
theorem q_cw (C : Cx ε κ cc nL own d) (hX : Xk κ) {y : MethodName} {bytes : ByteArray} {maxL d' index np : Nat} {hh : List (Nat × Nat × Nat × Nat)} {rest st0 : List Value} {r1 : Int32} {σ1 : St} (As : List Value)
    (hM : RW κ.2.1 ε y bytes maxL hh d' As (WX ε σ) (r1, σ1)) (hw9 : Ww own index y bytes maxL hh np) (hdp : d' < d) (hn : As.length = np) (hst : st0 = As.reverse ++ rest) (hcat : (rest.map fun v => v.category).sum ≤ 8) (hroom : k + 1 ≤ κ.2.2.2.1.cells ∧ n + 6 ≤ κ.2.2.2.1.slots) (hd : decode cc pc = .ok (.invokestatic index, 3))
    (kk : G ε κ (k + 1) (n + 6) (pc + 3) lv (.int r1 :: rest) (WX ε σ1)) : G ε κ k n pc lv st0 (WX ε σ) := by
  obtain ⟨p, l, e0, R, s, m, args, below, meth, c, A, Q⟩ := κ
  obtain ⟨hx, hb, hml, hown, hts, hK, hN, hlk, hA, hfr, hlo⟩ := C
  intro H locs ls hw hl
  obtain ⟨w1, w2, w4, w5, w6, w7⟩ := hw9
  have hf : ∀ q, va_A (pl ε (WX ε σ)) H.size q → A q := fun q hq => hq.elim (fun ⟨i, e9, h9⟩ => hw.2.1.2 i _ h9) (fun h9 => hA q (Nat.le_trans hw.2.2.1 h9))
  have hG : GoodIn TB (va_wsS own index y (.codeWith y bytes maxL (some .int) hh :: TB)) := by
    intro w hw9
    rcases List.mem_append.mp hw9 with h | h
    · simp only [List.mem_cons, List.not_mem_nil, or_false] at h
      rcases h with rfl | rfl | rfl
      · exact tb_good _ w1
      · exact tb_good _ w2
      · exact tb_good _ w4
    · rcases List.mem_cons.mp h with rfl | h
      · exact tb_good _ w5
      · exact tb_good _ h
  refine g_after hA hw hl (vx_runSW (Ts := TB) (As := As) (rest := rest) ⟨hx, hb, hml, hown, hts⟩ (hM H.size) (vx_cwSW np hts hG rfl rfl rfl w7 ⟨Nat.le_trans hdp hfr, ?_⟩) ⟨fblindx, fun U hU hW => ⟨rfl, ⟨by rw [hU], by rw [hU]; exact hw.1, va_K.moved hW.alike hK, fun z hz => va_Nw.warmM hW (hN z hz), hw.2.1.weaken (fun _ _ _ _ => trivial)⟩, Xok.go hX hW hU hw.2.2 hf⟩⟩ rfl hn (hl.1.trans hml) hst (lv_room hcat) hd hroom) (fun v h1 hp => by obtain ⟨rfl, rfl⟩ := hp; exact kk)
  show 8 + (maxL + 11) + 30 * d' ≤ R.locals
  omega
/-- the compare of longs -/
def lcm (x y : Int64) : Int32 := lg_cmp x y
theorem g_lcmp (C : Cx ε κ cc nL own d) {h : Hp} {x y : Int64} (hd : decode cc pc = .ok (.lcmp, 1)) (kk : G ε κ k n (pc + 1) lv (.int (lcm x y) :: st) h) : G ε κ k n pc lv (.long y :: .long x :: st) h := by
  obtain ⟨p, l, e0, R, s, m, args, below, meth, c, A, Q⟩ := κ
  obtain ⟨hx, hb, hml, hown, hts, hK, hN, hlk, hA, hfr, hlo⟩ := C
  intro H locs ls hw hl
  exact W.lcmp hx hb hd (kk H locs ls hw hl)
set_option maxRecDepth 20000 in
theorem c54 : Jvm.Cond.constantLong RL 54 4294967295 ∈ TB := tb_in (i := 1250) rfl rfl
theorem bbz {κ : Kt} {k n m : Nat} (h : BB κ k n m) : BB κ k n 0 := ⟨by have := h.1; omega, by have := h.2; omega⟩
set_option maxRecDepth 20000 in
theorem ww_56 : Ww RL 56 yL_feed cL_feed 6 [(0, 11, 14, 13)] 4 := ⟨tb_in (i := 385) rfl rfl, tb_in (i := 386) rfl rfl, tb_in (i := 66) rfl rfl, tb_in (i := 387) rfl rfl, by decide, by decide +kernel, by decide +kernel, by decide +kernel⟩
set_option maxRecDepth 20000 in
theorem ww_66 : Ww RL 66 yL_read cL_read 4 [(0, 9, 12, 13)] 3 := ⟨tb_in (i := 466) rfl rfl, tb_in (i := 467) rfl rfl, tb_in (i := 66) rfl rfl, tb_in (i := 468) rfl rfl, by decide, by decide +kernel, by decide +kernel, by decide +kernel⟩
set_option maxRecDepth 20000 in
theorem ww_87 : Ww RL 87 yL_told cL_told 4 [(0, 9, 12, 22)] 3 := ⟨tb_in (i := 587) rfl rfl, tb_in (i := 588) rfl rfl, tb_in (i := 66) rfl rfl, tb_in (i := 589) rfl rfl, by decide, by decide +kernel, by decide +kernel, by decide +kernel⟩
set_option maxRecDepth 20000 in
theorem ww_90 : Ww RL 90 yL_sort cL_sort 5 [(0, 10, 13, 13)] 4 := ⟨tb_in (i := 623) rfl rfl, tb_in (i := 624) rfl rfl, tb_in (i := 66) rfl rfl, tb_in (i := 625) rfl rfl, by decide, by decide +kernel, by decide +kernel, by decide +kernel⟩
set_option maxRecDepth 20000 in
theorem ww_94 : Ww RL 94 yL_about cL_about 5 [(0, 10, 13, 22)] 4 := ⟨tb_in (i := 780) rfl rfl, tb_in (i := 781) rfl rfl, tb_in (i := 66) rfl rfl, tb_in (i := 782) rfl rfl, by decide, by decide +kernel, by decide +kernel, by decide +kernel⟩
set_option maxRecDepth 20000 in
theorem ww_97 : Ww RL 97 yL_letter cL_letter 6 [(0, 12, 15, 22)] 5 := ⟨tb_in (i := 815) rfl rfl, tb_in (i := 816) rfl rfl, tb_in (i := 66) rfl rfl, tb_in (i := 817) rfl rfl, by decide, by decide +kernel, by decide +kernel, by decide +kernel⟩
set_option maxRecDepth 20000 in
theorem ww_101 : Ww RL 101 yL_bin cL_bin 5 [(0, 10, 13, 22), (0, 10, 17, 38)] 4 := ⟨tb_in (i := 826) rfl rfl, tb_in (i := 827) rfl rfl, tb_in (i := 66) rfl rfl, tb_in (i := 828) rfl rfl, by decide, by decide +kernel, by decide +kernel, by decide +kernel⟩
set_option maxRecDepth 20000 in
theorem ww_104 : Ww RL 104 yL_group cL_group 6 [(0, 12, 15, 22), (0, 12, 19, 38)] 5 := ⟨tb_in (i := 868) rfl rfl, tb_in (i := 869) rfl rfl, tb_in (i := 66) rfl rfl, tb_in (i := 870) rfl rfl, by decide, by decide +kernel, by decide +kernel, by decide +kernel⟩
set_option maxRecDepth 20000 in
theorem ww_107 : Ww RL 107 yL_write cL_write 6 [(0, 12, 15, 13), (0, 12, 19, 22), (0, 12, 23, 38)] 5 := ⟨tb_in (i := 897) rfl rfl, tb_in (i := 898) rfl rfl, tb_in (i := 66) rfl rfl, tb_in (i := 899) rfl rfl, by decide, by decide +kernel, by decide +kernel, by decide +kernel⟩
set_option maxRecDepth 20000 in
theorem ww_111 : Ww RL 111 yL_out cL_out 4 [(0, 9, 12, 22)] 3 := ⟨tb_in (i := 952) rfl rfl, tb_in (i := 953) rfl rfl, tb_in (i := 66) rfl rfl, tb_in (i := 954) rfl rfl, by decide, by decide +kernel, by decide +kernel, by decide +kernel⟩
def b_L_law_941 (xs : Nat → Int32) (L : Nat) (k23 : Int32 → St → Option Rs) (x4 : Int32) (σ : St) : Option Rs := nx (x4 + (4 : Int32)) (fun y1 => k23 y1 σ)
set_option maxRecDepth 20000 in
set_option maxHeartbeats 2000000 in
theorem t_L_law_941 {ε : Et} {κ : Kt} {b m : Nat} {z : Rs} (hl : κ.2.1.stackTraces = false) (xs : Nat → Int32) (L : Nat) (C : Cx ε κ cL_law 7 RL 10) (X : Xk κ) (S : Sk κ b L xs) (K : ∀ (pc k n : Nat) (lv : List (Nat × Value)) (r : Int32) (σ : St), BB κ k n 0 → decode cL_law pc = .ok (.ireturn, 1) → some (r, σ) = some z → G ε κ k n pc lv [.int r] (WX ε σ)) (k23 : Int32 → St → Option Rs) (g23 : ∀ (k n : Nat) (x4 : Int32) (σ : St), BB κ k n m → k23 x4 σ = some z → G ε κ k n 23 [(0, .ref b), (1, .ref (ad ε 0)), (2, .ref (ad ε 39)), (3, .ref (ad ε 55)), (4, .int x4)] [] (WX ε σ)) (k n : Nat) (hb : BB κ k n (m)) (x4 : Int32) (σ : St) (ok : b_L_law_941 xs L k23 x4 σ = some z) : G ε κ k n 941 [(0, .ref b), (1, .ref (ad ε 0)), (2, .ref (ad ε 39)), (3, .ref (ad ε 55)), (4, .int x4)] [] (WX ε σ) := by
  unfold b_L_law_941 at ok
  obtain ⟨y1, e2⟩ : ∃ y : Int32, y = (x4 + (4 : Int32)) := ⟨_, rfl⟩
  replace ok := nx_ok ok y1 e2
  refine g_iinc (v := y1) C [(4, .int y1), (0, .ref b), (1, .ref (ad ε 0)), (2, .ref (ad ε 39)), (3, .ref (ad ε 55))] dL_law_941 4 rfl (by rw [e2]; rfl) (by decide) rfl ?_
  refine g_goto (tgt := 23) C dL_law_944 (by decide) ?_
  refine g_pick (lv' := [(0, .ref b), (1, .ref (ad ε 0)), (2, .ref (ad ε 39)), (3, .ref (ad ε 55)), (4, .int y1)]) ?_ [1, 2, 3, 4, 0] rfl
  exact g23 _ _ _ _ hb ok
def b_L_law_209 (xs : Nat → Int32) (L : Nat) (k23 : Int32 → St → Option Rs) (x4 : Int32) (σ : St) : Option Rs := b_L_law_941 xs L k23 x4 σ
set_option maxRecDepth 20000 in
set_option maxHeartbeats 2000000 in
theorem t_L_law_209 {ε : Et} {κ : Kt} {b m : Nat} {z : Rs} (hl : κ.2.1.stackTraces = false) (xs : Nat → Int32) (L : Nat) (C : Cx ε κ cL_law 7 RL 10) (X : Xk κ) (S : Sk κ b L xs) (K : ∀ (pc k n : Nat) (lv : List (Nat × Value)) (r : Int32) (σ : St), BB κ k n 0 → decode cL_law pc = .ok (.ireturn, 1) → some (r, σ) = some z → G ε κ k n pc lv [.int r] (WX ε σ)) (k23 : Int32 → St → Option Rs) (g23 : ∀ (k n : Nat) (x4 : Int32) (σ : St), BB κ k n m → k23 x4 σ = some z → G ε κ k n 23 [(0, .ref b), (1, .ref (ad ε 0)), (2, .ref (ad ε 39)), (3, .ref (ad ε 55)), (4, .int x4)] [] (WX ε σ)) (k n : Nat) (hb : BB κ k n (m)) (x4 : Int32) (σ : St) (ok : b_L_law_209 xs L k23 x4 σ = some z) : G ε κ k n 209 [(0, .ref b), (1, .ref (ad ε 0)), (2, .ref (ad ε 39)), (3, .ref (ad ε 55)), (4, .int x4)] [] (WX ε σ) := by
  unfold b_L_law_209 at ok
  refine g_goto (tgt := 941) C dL_law_209 (by decide) ?_
  exact t_L_law_941 hl xs L C X S K k23 g23 _ _ hb _ _ ok
def b_L_law_265 (xs : Nat → Int32) (L : Nat) (k23 : Int32 → St → Option Rs) (x4 : Int32) (σ : St) : Option Rs := b_L_law_941 xs L k23 x4 σ
set_option maxRecDepth 20000 in
set_option maxHeartbeats 2000000 in
theorem t_L_law_265 {ε : Et} {κ : Kt} {b m : Nat} {z : Rs} (hl : κ.2.1.stackTraces = false) (xs : Nat → Int32) (L : Nat) (C : Cx ε κ cL_law 7 RL 10) (X : Xk κ) (S : Sk κ b L xs) (K : ∀ (pc k n : Nat) (lv : List (Nat × Value)) (r : Int32) (σ : St), BB κ k n 0 → decode cL_law pc = .ok (.ireturn, 1) → some (r, σ) = some z → G ε κ k n pc lv [.int r] (WX ε σ)) (k23 : Int32 → St → Option Rs) (g23 : ∀ (k n : Nat) (x4 : Int32) (σ : St), BB κ k n m → k23 x4 σ = some z → G ε κ k n 23 [(0, .ref b), (1, .ref (ad ε 0)), (2, .ref (ad ε 39)), (3, .ref (ad ε 55)), (4, .int x4)] [] (WX ε σ)) (k n : Nat) (hb : BB κ k n (m)) (x4 : Int32) (σ : St) (ok : b_L_law_265 xs L k23 x4 σ = some z) : G ε κ k n 265 [(0, .ref b), (1, .ref (ad ε 0)), (2, .ref (ad ε 39)), (3, .ref (ad ε 55)), (4, .int x4)] [] (WX ε σ) := by
  unfold b_L_law_265 at ok
  refine g_goto (tgt := 941) C dL_law_265 (by decide) ?_
  exact t_L_law_941 hl xs L C X S K k23 g23 _ _ hb _ _ ok
def b_L_law_409 (xs : Nat → Int32) (L : Nat) (k23 : Int32 → St → Option Rs) (x4 : Int32) (σ : St) : Option Rs := b_L_law_941 xs L k23 x4 σ
set_option maxRecDepth 20000 in
set_option maxHeartbeats 2000000 in
theorem t_L_law_409 {ε : Et} {κ : Kt} {b m : Nat} {z : Rs} (hl : κ.2.1.stackTraces = false) (xs : Nat → Int32) (L : Nat) (C : Cx ε κ cL_law 7 RL 10) (X : Xk κ) (S : Sk κ b L xs) (K : ∀ (pc k n : Nat) (lv : List (Nat × Value)) (r : Int32) (σ : St), BB κ k n 0 → decode cL_law pc = .ok (.ireturn, 1) → some (r, σ) = some z → G ε κ k n pc lv [.int r] (WX ε σ)) (k23 : Int32 → St → Option Rs) (g23 : ∀ (k n : Nat) (x4 : Int32) (σ : St), BB κ k n m → k23 x4 σ = some z → G ε κ k n 23 [(0, .ref b), (1, .ref (ad ε 0)), (2, .ref (ad ε 39)), (3, .ref (ad ε 55)), (4, .int x4)] [] (WX ε σ)) (k n : Nat) (hb : BB κ k n (m)) (x4 : Int32) (σ : St) (ok : b_L_law_409 xs L k23 x4 σ = some z) : G ε κ k n 409 [(0, .ref b), (1, .ref (ad ε 0)), (2, .ref (ad ε 39)), (3, .ref (ad ε 55)), (4, .int x4)] [] (WX ε σ) := by
  unfold b_L_law_409 at ok
  refine g_goto (tgt := 941) C dL_law_409 (by decide) ?_
  exact t_L_law_941 hl xs L C X S K k23 g23 _ _ hb _ _ ok
def b_L_law_477 (xs : Nat → Int32) (L : Nat) (k23 : Int32 → St → Option Rs) (x4 : Int32) (σ : St) : Option Rs := b_L_law_941 xs L k23 x4 σ
set_option maxRecDepth 20000 in
set_option maxHeartbeats 2000000 in
theorem t_L_law_477 {ε : Et} {κ : Kt} {b m : Nat} {z : Rs} (hl : κ.2.1.stackTraces = false) (xs : Nat → Int32) (L : Nat) (C : Cx ε κ cL_law 7 RL 10) (X : Xk κ) (S : Sk κ b L xs) (K : ∀ (pc k n : Nat) (lv : List (Nat × Value)) (r : Int32) (σ : St), BB κ k n 0 → decode cL_law pc = .ok (.ireturn, 1) → some (r, σ) = some z → G ε κ k n pc lv [.int r] (WX ε σ)) (k23 : Int32 → St → Option Rs) (g23 : ∀ (k n : Nat) (x4 : Int32) (σ : St), BB κ k n m → k23 x4 σ = some z → G ε κ k n 23 [(0, .ref b), (1, .ref (ad ε 0)), (2, .ref (ad ε 39)), (3, .ref (ad ε 55)), (4, .int x4)] [] (WX ε σ)) (k n : Nat) (hb : BB κ k n (m)) (x4 : Int32) (σ : St) (ok : b_L_law_477 xs L k23 x4 σ = some z) : G ε κ k n 477 [(0, .ref b), (1, .ref (ad ε 0)), (2, .ref (ad ε 39)), (3, .ref (ad ε 55)), (4, .int x4)] [] (WX ε σ) := by
  unfold b_L_law_477 at ok
  refine g_goto (tgt := 941) C dL_law_477 (by decide) ?_
  exact t_L_law_941 hl xs L C X S K k23 g23 _ _ hb _ _ ok
def b_L_law_545 (xs : Nat → Int32) (L : Nat) (k23 : Int32 → St → Option Rs) (x4 : Int32) (σ : St) : Option Rs := b_L_law_941 xs L k23 x4 σ
set_option maxRecDepth 20000 in
set_option maxHeartbeats 2000000 in
theorem t_L_law_545 {ε : Et} {κ : Kt} {b m : Nat} {z : Rs} (hl : κ.2.1.stackTraces = false) (xs : Nat → Int32) (L : Nat) (C : Cx ε κ cL_law 7 RL 10) (X : Xk κ) (S : Sk κ b L xs) (K : ∀ (pc k n : Nat) (lv : List (Nat × Value)) (r : Int32) (σ : St), BB κ k n 0 → decode cL_law pc = .ok (.ireturn, 1) → some (r, σ) = some z → G ε κ k n pc lv [.int r] (WX ε σ)) (k23 : Int32 → St → Option Rs) (g23 : ∀ (k n : Nat) (x4 : Int32) (σ : St), BB κ k n m → k23 x4 σ = some z → G ε κ k n 23 [(0, .ref b), (1, .ref (ad ε 0)), (2, .ref (ad ε 39)), (3, .ref (ad ε 55)), (4, .int x4)] [] (WX ε σ)) (k n : Nat) (hb : BB κ k n (m)) (x4 : Int32) (σ : St) (ok : b_L_law_545 xs L k23 x4 σ = some z) : G ε κ k n 545 [(0, .ref b), (1, .ref (ad ε 0)), (2, .ref (ad ε 39)), (3, .ref (ad ε 55)), (4, .int x4)] [] (WX ε σ) := by
  unfold b_L_law_545 at ok
  refine g_goto (tgt := 941) C dL_law_545 (by decide) ?_
  exact t_L_law_941 hl xs L C X S K k23 g23 _ _ hb _ _ ok
def b_L_law_625 (xs : Nat → Int32) (L : Nat) (k23 : Int32 → St → Option Rs) (x4 : Int32) (σ : St) : Option Rs := b_L_law_941 xs L k23 x4 σ
set_option maxRecDepth 20000 in
set_option maxHeartbeats 2000000 in
theorem t_L_law_625 {ε : Et} {κ : Kt} {b m : Nat} {z : Rs} (hl : κ.2.1.stackTraces = false) (xs : Nat → Int32) (L : Nat) (C : Cx ε κ cL_law 7 RL 10) (X : Xk κ) (S : Sk κ b L xs) (K : ∀ (pc k n : Nat) (lv : List (Nat × Value)) (r : Int32) (σ : St), BB κ k n 0 → decode cL_law pc = .ok (.ireturn, 1) → some (r, σ) = some z → G ε κ k n pc lv [.int r] (WX ε σ)) (k23 : Int32 → St → Option Rs) (g23 : ∀ (k n : Nat) (x4 : Int32) (σ : St), BB κ k n m → k23 x4 σ = some z → G ε κ k n 23 [(0, .ref b), (1, .ref (ad ε 0)), (2, .ref (ad ε 39)), (3, .ref (ad ε 55)), (4, .int x4)] [] (WX ε σ)) (k n : Nat) (hb : BB κ k n (m)) (x4 : Int32) (σ : St) (ok : b_L_law_625 xs L k23 x4 σ = some z) : G ε κ k n 625 [(0, .ref b), (1, .ref (ad ε 0)), (2, .ref (ad ε 39)), (3, .ref (ad ε 55)), (4, .int x4)] [] (WX ε σ) := by
  unfold b_L_law_625 at ok
  refine g_goto (tgt := 941) C dL_law_625 (by decide) ?_
  exact t_L_law_941 hl xs L C X S K k23 g23 _ _ hb _ _ ok
def b_L_law_693 (xs : Nat → Int32) (L : Nat) (k23 : Int32 → St → Option Rs) (x4 : Int32) (σ : St) : Option Rs := b_L_law_941 xs L k23 x4 σ
set_option maxRecDepth 20000 in
set_option maxHeartbeats 2000000 in
theorem t_L_law_693 {ε : Et} {κ : Kt} {b m : Nat} {z : Rs} (hl : κ.2.1.stackTraces = false) (xs : Nat → Int32) (L : Nat) (C : Cx ε κ cL_law 7 RL 10) (X : Xk κ) (S : Sk κ b L xs) (K : ∀ (pc k n : Nat) (lv : List (Nat × Value)) (r : Int32) (σ : St), BB κ k n 0 → decode cL_law pc = .ok (.ireturn, 1) → some (r, σ) = some z → G ε κ k n pc lv [.int r] (WX ε σ)) (k23 : Int32 → St → Option Rs) (g23 : ∀ (k n : Nat) (x4 : Int32) (σ : St), BB κ k n m → k23 x4 σ = some z → G ε κ k n 23 [(0, .ref b), (1, .ref (ad ε 0)), (2, .ref (ad ε 39)), (3, .ref (ad ε 55)), (4, .int x4)] [] (WX ε σ)) (k n : Nat) (hb : BB κ k n (m)) (x4 : Int32) (σ : St) (ok : b_L_law_693 xs L k23 x4 σ = some z) : G ε κ k n 693 [(0, .ref b), (1, .ref (ad ε 0)), (2, .ref (ad ε 39)), (3, .ref (ad ε 55)), (4, .int x4)] [] (WX ε σ) := by
  unfold b_L_law_693 at ok
  refine g_goto (tgt := 941) C dL_law_693 (by decide) ?_
  exact t_L_law_941 hl xs L C X S K k23 g23 _ _ hb _ _ ok
def b_L_law_773 (xs : Nat → Int32) (L : Nat) (k23 : Int32 → St → Option Rs) (x4 : Int32) (σ : St) : Option Rs := b_L_law_941 xs L k23 x4 σ
set_option maxRecDepth 20000 in
set_option maxHeartbeats 2000000 in
theorem t_L_law_773 {ε : Et} {κ : Kt} {b m : Nat} {z : Rs} (hl : κ.2.1.stackTraces = false) (xs : Nat → Int32) (L : Nat) (C : Cx ε κ cL_law 7 RL 10) (X : Xk κ) (S : Sk κ b L xs) (K : ∀ (pc k n : Nat) (lv : List (Nat × Value)) (r : Int32) (σ : St), BB κ k n 0 → decode cL_law pc = .ok (.ireturn, 1) → some (r, σ) = some z → G ε κ k n pc lv [.int r] (WX ε σ)) (k23 : Int32 → St → Option Rs) (g23 : ∀ (k n : Nat) (x4 : Int32) (σ : St), BB κ k n m → k23 x4 σ = some z → G ε κ k n 23 [(0, .ref b), (1, .ref (ad ε 0)), (2, .ref (ad ε 39)), (3, .ref (ad ε 55)), (4, .int x4)] [] (WX ε σ)) (k n : Nat) (hb : BB κ k n (m)) (x4 : Int32) (σ : St) (ok : b_L_law_773 xs L k23 x4 σ = some z) : G ε κ k n 773 [(0, .ref b), (1, .ref (ad ε 0)), (2, .ref (ad ε 39)), (3, .ref (ad ε 55)), (4, .int x4)] [] (WX ε σ) := by
  unfold b_L_law_773 at ok
  refine g_goto (tgt := 941) C dL_law_773 (by decide) ?_
  exact t_L_law_941 hl xs L C X S K k23 g23 _ _ hb _ _ ok
def b_L_law_869 (xs : Nat → Int32) (L : Nat) (k23 : Int32 → St → Option Rs) (x4 : Int32) (σ : St) : Option Rs := b_L_law_941 xs L k23 x4 σ
set_option maxRecDepth 20000 in
set_option maxHeartbeats 2000000 in
theorem t_L_law_869 {ε : Et} {κ : Kt} {b m : Nat} {z : Rs} (hl : κ.2.1.stackTraces = false) (xs : Nat → Int32) (L : Nat) (C : Cx ε κ cL_law 7 RL 10) (X : Xk κ) (S : Sk κ b L xs) (K : ∀ (pc k n : Nat) (lv : List (Nat × Value)) (r : Int32) (σ : St), BB κ k n 0 → decode cL_law pc = .ok (.ireturn, 1) → some (r, σ) = some z → G ε κ k n pc lv [.int r] (WX ε σ)) (k23 : Int32 → St → Option Rs) (g23 : ∀ (k n : Nat) (x4 : Int32) (σ : St), BB κ k n m → k23 x4 σ = some z → G ε κ k n 23 [(0, .ref b), (1, .ref (ad ε 0)), (2, .ref (ad ε 39)), (3, .ref (ad ε 55)), (4, .int x4)] [] (WX ε σ)) (k n : Nat) (hb : BB κ k n (m)) (x4 : Int32) (σ : St) (ok : b_L_law_869 xs L k23 x4 σ = some z) : G ε κ k n 869 [(0, .ref b), (1, .ref (ad ε 0)), (2, .ref (ad ε 39)), (3, .ref (ad ε 55)), (4, .int x4)] [] (WX ε σ) := by
  unfold b_L_law_869 at ok
  refine g_goto (tgt := 941) C dL_law_869 (by decide) ?_
  exact t_L_law_941 hl xs L C X S K k23 g23 _ _ hb _ _ ok
def b_L_law_836 (xs : Nat → Int32) (L : Nat) (k23 : Int32 → St → Option Rs) (x4 : Int32) (x5 : Int32) (t0 : Int32) (t1 : Int32) (t2 : Int32) (σ : St) : Option Rs := bd (f_X9_write t2 t1 t0 σ) (fun r1 s2 => bd (f_X9_thrown s2) (fun r4 s5 => (if r4 = x5 then (if x5 = 0 then (if (lcm (s5.2.2.2.2 0) r1.toInt64) = 0 then b_L_law_869 xs L k23 x4 s5 else some ((0 : Int32), s5)) else b_L_law_869 xs L k23 x4 s5) else some ((0 : Int32), s5))))
set_option maxRecDepth 20000 in
set_option maxHeartbeats 2000000 in
theorem t_L_law_836 {ε : Et} {κ : Kt} {b m : Nat} {z : Rs} (hl : κ.2.1.stackTraces = false) (xs : Nat → Int32) (L : Nat) (C : Cx ε κ cL_law 7 RL 10) (X : Xk κ) (S : Sk κ b L xs) (K : ∀ (pc k n : Nat) (lv : List (Nat × Value)) (r : Int32) (σ : St), BB κ k n 0 → decode cL_law pc = .ok (.ireturn, 1) → some (r, σ) = some z → G ε κ k n pc lv [.int r] (WX ε σ)) (k23 : Int32 → St → Option Rs) (g23 : ∀ (k n : Nat) (x4 : Int32) (σ : St), BB κ k n m → k23 x4 σ = some z → G ε κ k n 23 [(0, .ref b), (1, .ref (ad ε 0)), (2, .ref (ad ε 39)), (3, .ref (ad ε 55)), (4, .int x4)] [] (WX ε σ)) (k n : Nat) (hb : BB κ k n (m)) (x4 : Int32) (x5 : Int32) (t0 : Int32) (t1 : Int32) (t2 : Int32) (σ : St) (ok : b_L_law_836 xs L k23 x4 x5 t0 t1 t2 σ = some z) : G ε κ k n 836 [(0, .ref b), (1, .ref (ad ε 0)), (2, .ref (ad ε 39)), (3, .ref (ad ε 55)), (4, .int x4), (5, .int x5)] [.int t0, .int t1, .int t2, .ref (ad ε 39)] (WX ε σ) := by
  unfold b_L_law_836 at ok
  obtain ⟨r1, s2, e3, ok⟩ := bd_ok ok
  refine q_ck C [.int t2, .int t1, .int t0] (c_X9_write e3) wv_L_110 (by decide) (lt_N (by decide)) wx_X9 rfl rfl rfl (Nat.le_of_ble_eq_true rfl) (bb0 hb) dL_law_836 ?_
  refine g_istore C [(6, .int r1), (0, .ref b), (1, .ref (ad ε 0)), (2, .ref (ad ε 39)), (3, .ref (ad ε 55)), (4, .int x4), (5, .int x5)] dL_law_839 (by decide) rfl ?_
  refine g_aload_n C dL_law_841 rfl 3 rfl ?_
  obtain ⟨r4, s5, e6, ok⟩ := bd_ok ok
  refine q_ck C [] (c_X9_thrown e6) wv_L_62 (by decide) (lt_N (by decide)) wx_X9 rfl rfl rfl (Nat.le_of_ble_eq_true rfl) (bb0 hb) dL_law_842 ?_
  refine g_iload C dL_law_845 6 rfl ?_
  refine g_icmp_eq (tgt := 852) C dL_law_847 (by decide) (fun c7 => ?_) (fun c7 => ?_)
  · replace ok := ok_t c7 ok
    refine g_iload C dL_law_852 6 rfl ?_
    refine g_if_ne (tgt := 869) C dL_law_854 (by decide) (fun c8 => ?_) (fun c8 => ?_)
    · replace ok := ok_f c8 ok
      refine g_pick (lv' := [(0, .ref b), (1, .ref (ad ε 0)), (2, .ref (ad ε 39)), (3, .ref (ad ε 55)), (4, .int x4)]) ?_ [1, 2, 3, 4, 5] rfl
      exact t_L_law_869 hl xs L C X S K k23 g23 _ _ hb _ _ ok
    · replace ok := ok_t c8 ok
      refine g_aload_n C dL_law_857 rfl 4 rfl ?_
      refine g_iconst (v := 0) C dL_law_858 (by decide) ?_
      refine q_lld C dL_law_859 ?_
      refine g_iload C dL_law_860 0 rfl ?_
      refine g_i2l C dL_law_862 rfl ?_
      refine g_lcmp C dL_law_863 ?_
      refine g_if_eq (tgt := 869) C dL_law_864 (by decide) (fun c9 => ?_) (fun c9 => ?_)
      · replace ok := ok_t c9 ok
        refine g_pick (lv' := [(0, .ref b), (1, .ref (ad ε 0)), (2, .ref (ad ε 39)), (3, .ref (ad ε 55)), (4, .int x4)]) ?_ [1, 2, 3, 4, 5] rfl
        exact t_L_law_869 hl xs L C X S K k23 g23 _ _ hb _ _ ok
      · replace ok := ok_f c9 ok
        refine g_iconst (v := 0) C dL_law_867 (by decide) ?_
        exact K 868 _ _ _ _ _ (bbz hb) dL_law_868 ok
  · replace ok := ok_f c7 ok
    refine g_iconst (v := 0) C dL_law_850 (by decide) ?_
    exact K 851 _ _ _ _ _ (bbz hb) dL_law_851 ok
def b_L_law_803 (xs : Nat → Int32) (L : Nat) (k23 : Int32 → St → Option Rs) (x4 : Int32) (t0 : Int32) (t1 : Int32) (t2 : Int32) (σ : St) : Option Rs := bd (wr [1, 2, 3] (f_X8_write t2 t1 t0 σ)) (fun r1 s2 => gd (inb (x4 + (1 : Int32)) L) (gd (inb (x4 + (2 : Int32)) L) (gd (inb (x4 + (3 : Int32)) L) ((if (xs (x4 + (3 : Int32)).toNatClampNeg) = 0 then b_L_law_836 xs L k23 x4 r1 (0 : Int32) (xs (x4 + (2 : Int32)).toNatClampNeg) (xs (x4 + (1 : Int32)).toNatClampNeg) s2 else b_L_law_836 xs L k23 x4 r1 (1 : Int32) (xs (x4 + (2 : Int32)).toNatClampNeg) (xs (x4 + (1 : Int32)).toNatClampNeg) s2)))))
set_option maxRecDepth 20000 in
set_option maxHeartbeats 2000000 in
theorem t_L_law_803 {ε : Et} {κ : Kt} {b m : Nat} {z : Rs} (hl : κ.2.1.stackTraces = false) (xs : Nat → Int32) (L : Nat) (C : Cx ε κ cL_law 7 RL 10) (X : Xk κ) (S : Sk κ b L xs) (K : ∀ (pc k n : Nat) (lv : List (Nat × Value)) (r : Int32) (σ : St), BB κ k n 0 → decode cL_law pc = .ok (.ireturn, 1) → some (r, σ) = some z → G ε κ k n pc lv [.int r] (WX ε σ)) (k23 : Int32 → St → Option Rs) (g23 : ∀ (k n : Nat) (x4 : Int32) (σ : St), BB κ k n m → k23 x4 σ = some z → G ε κ k n 23 [(0, .ref b), (1, .ref (ad ε 0)), (2, .ref (ad ε 39)), (3, .ref (ad ε 55)), (4, .int x4)] [] (WX ε σ)) (k n : Nat) (hb : BB κ k n (m + 1)) (x4 : Int32) (t0 : Int32) (t1 : Int32) (t2 : Int32) (σ : St) (ok : b_L_law_803 xs L k23 x4 t0 t1 t2 σ = some z) : G ε κ k n 803 [(0, .ref b), (1, .ref (ad ε 0)), (2, .ref (ad ε 39)), (3, .ref (ad ε 55)), (4, .int x4)] [.int t0, .int t1, .int t2, .ref (ad ε 0)] (WX ε σ) := by
  unfold b_L_law_803 at ok
  refine g_aload_n C dL_law_803 rfl 3 rfl ?_
  obtain ⟨r1, s2, e3, ok⟩ := bd_ok ok
  refine q_cw C X [.ref (ad ε 0), .int t2, .int t1, .int t0, .ref (ad ε 55)] (c_L_write hl e3) ww_107 (by decide) rfl rfl (Nat.le_of_ble_eq_true rfl) (bbr hb) dL_law_804 ?_
  refine g_istore C [(5, .int r1), (0, .ref b), (1, .ref (ad ε 0)), (2, .ref (ad ε 39)), (3, .ref (ad ε 55)), (4, .int x4)] dL_law_807 (by decide) rfl ?_
  refine g_aload_n C dL_law_809 rfl 3 rfl ?_
  refine g_aload_n C dL_law_810 rfl 1 rfl ?_
  refine g_iload C dL_law_811 5 rfl ?_
  refine g_iconst (v := 1) C dL_law_813 (by decide) ?_
  refine g_iadd C dL_law_814 ?_
  obtain ⟨h4, ok⟩ := gd_ok ok
  refine q_sld C S h4 dL_law_815 ?_
  refine g_aload_n C dL_law_816 rfl 1 rfl ?_
  refine g_iload C dL_law_817 5 rfl ?_
  refine g_iconst (v := 2) C dL_law_819 (by decide) ?_
  refine g_iadd C dL_law_820 ?_
  obtain ⟨h5, ok⟩ := gd_ok ok
  refine q_sld C S h5 dL_law_821 ?_
  refine g_aload_n C dL_law_822 rfl 1 rfl ?_
  refine g_iload C dL_law_823 5 rfl ?_
  refine g_iconst (v := 3) C dL_law_825 (by decide) ?_
  refine g_iadd C dL_law_826 ?_
  obtain ⟨h6, ok⟩ := gd_ok ok
  refine q_sld C S h6 dL_law_827 ?_
  refine g_if_eq (tgt := 835) C dL_law_828 (by decide) (fun c7 => ?_) (fun c7 => ?_)
  · replace ok := ok_t c7 ok
    refine g_iconst (v := 0) C dL_law_835 (by decide) ?_
    refine g_pick (lv' := [(0, .ref b), (1, .ref (ad ε 0)), (2, .ref (ad ε 39)), (3, .ref (ad ε 55)), (4, .int x4), (5, .int r1)]) ?_ [1, 2, 3, 4, 5, 0] rfl
    exact t_L_law_836 hl xs L C X S K k23 g23 _ _ (bb1 hb) _ _ _ _ _ _ ok
  · replace ok := ok_f c7 ok
    refine g_iconst (v := 1) C dL_law_831 (by decide) ?_
    refine g_goto (tgt := 836) C dL_law_832 (by decide) ?_
    refine g_pick (lv' := [(0, .ref b), (1, .ref (ad ε 0)), (2, .ref (ad ε 39)), (3, .ref (ad ε 55)), (4, .int x4), (5, .int r1)]) ?_ [1, 2, 3, 4, 5, 0] rfl
    exact t_L_law_836 hl xs L C X S K k23 g23 _ _ (bb1 hb) _ _ _ _ _ _ ok
def b_L_law_925 (xs : Nat → Int32) (L : Nat) (k23 : Int32 → St → Option Rs) (x4 : Int32) (σ : St) : Option Rs := b_L_law_941 xs L k23 x4 σ
set_option maxRecDepth 20000 in
set_option maxHeartbeats 2000000 in
theorem t_L_law_925 {ε : Et} {κ : Kt} {b m : Nat} {z : Rs} (hl : κ.2.1.stackTraces = false) (xs : Nat → Int32) (L : Nat) (C : Cx ε κ cL_law 7 RL 10) (X : Xk κ) (S : Sk κ b L xs) (K : ∀ (pc k n : Nat) (lv : List (Nat × Value)) (r : Int32) (σ : St), BB κ k n 0 → decode cL_law pc = .ok (.ireturn, 1) → some (r, σ) = some z → G ε κ k n pc lv [.int r] (WX ε σ)) (k23 : Int32 → St → Option Rs) (g23 : ∀ (k n : Nat) (x4 : Int32) (σ : St), BB κ k n m → k23 x4 σ = some z → G ε κ k n 23 [(0, .ref b), (1, .ref (ad ε 0)), (2, .ref (ad ε 39)), (3, .ref (ad ε 55)), (4, .int x4)] [] (WX ε σ)) (k n : Nat) (hb : BB κ k n (m)) (x4 : Int32) (σ : St) (ok : b_L_law_925 xs L k23 x4 σ = some z) : G ε κ k n 925 [(0, .ref b), (1, .ref (ad ε 0)), (2, .ref (ad ε 39)), (3, .ref (ad ε 55)), (4, .int x4)] [] (WX ε σ) := by
  unfold b_L_law_925 at ok
  refine g_goto (tgt := 941) C dL_law_925 (by decide) ?_
  exact t_L_law_941 hl xs L C X S K k23 g23 _ _ hb _ _ ok
def b_L_law_23 (xs : Nat → Int32) (L : Nat) (k23 : Int32 → St → Option Rs) (x4 : Int32) (σ : St) : Option Rs := (if ((nI L) - (4 : Int32)) < x4 then some ((1 : Int32), σ) else gd (inb x4 L) (nx ((xs x4.toNatClampNeg) &&& (15 : Int32)) (fun y3 => (if y3 = (0 : Int32) then gd (inb (x4 + (1 : Int32)) L) (gd (inb (x4 + (2 : Int32)) L) (gd (inb (x4 + (3 : Int32)) L) (bd (wr [1] (f_X8_feed (xs (x4 + (1 : Int32)).toNatClampNeg) (((xs (x4 + (2 : Int32)).toNatClampNeg).toInt64 <<< ((32 : Int32).toInt64 &&& 63)) ||| ((xs (x4 + (3 : Int32)).toNatClampNeg).toInt64 &&& (4294967295 : Int64))) σ)) (fun r9 s10 => gd (inb (x4 + (1 : Int32)) L) (gd (inb (x4 + (2 : Int32)) L) (gd (inb (x4 + (3 : Int32)) L) (bd (f_X9_feed (xs (x4 + (1 : Int32)).toNatClampNeg) (((xs (x4 + (2 : Int32)).toNatClampNeg).toInt64 <<< ((32 : Int32).toInt64 &&& 63)) ||| ((xs (x4 + (3 : Int32)).toNatClampNeg).toInt64 &&& (4294967295 : Int64))) s10) (fun r15 s16 => bd (f_X9_thrown s16) (fun r18 s19 => (if r18 = r9 then (if r9 = 0 then (if (lcm (s19.2.2.2.2 0) r15.toInt64) = 0 then b_L_law_209 xs L k23 x4 s19 else some ((0 : Int32), s19)) else b_L_law_209 xs L k23 x4 s19) else some ((0 : Int32), s19))))))))))) else (if y3 = (1 : Int32) then gd (inb (x4 + (1 : Int32)) L) (bd (wr [1] (f_X8_read (xs (x4 + (1 : Int32)).toNatClampNeg) σ)) (fun r26 s27 => gd (inb (x4 + (1 : Int32)) L) (bd (f_X9_read (xs (x4 + (1 : Int32)).toNatClampNeg) s27) (fun r30 s31 => bd (f_X9_thrown s31) (fun r33 s34 => (if r33 = r26 then (if r26 = 0 then (if (lcm (s34.2.2.2.2 0) r30.toInt64) = 0 then b_L_law_265 xs L k23 x4 s34 else some ((0 : Int32), s34)) else b_L_law_265 xs L k23 x4 s34) else some ((0 : Int32), s34))))))) else (if y3 = (2 : Int32) then bd (f_X8_place σ) (fun r40 s41 => bd (f_X9_place s41) (fun r43 s44 => (if r40 = r43 then b_L_law_941 xs L k23 x4 s44 else some ((0 : Int32), s44)))) else (if y3 = (3 : Int32) then bd (f_X8_barcode σ) (fun r48 s49 => bd (f_X9_barcode s49) (fun r51 s52 => (if r48 = r51 then b_L_law_941 xs L k23 x4 s52 else some ((0 : Int32), s52)))) else (if y3 = (4 : Int32) then bd (f_X8_adapter σ) (fun r56 s57 => bd (f_X9_adapter s57) (fun r59 s60 => (if r56 = r59 then b_L_law_941 xs L k23 x4 s60 else some ((0 : Int32), s60)))) else (if y3 = (5 : Int32) then gd (inb (x4 + (1 : Int32)) L) (gd (inb (x4 + (2 : Int32)) L) (gd (inb (x4 + (3 : Int32)) L) (bd (f_X8_limits (xs (x4 + (1 : Int32)).toNatClampNeg) (xs (x4 + (2 : Int32)).toNatClampNeg) (xs (x4 + (3 : Int32)).toNatClampNeg) σ) (fun r67 s68 => gd (inb (x4 + (1 : Int32)) L) (gd (inb (x4 + (2 : Int32)) L) (gd (inb (x4 + (3 : Int32)) L) (bd (f_X9_limits (xs (x4 + (1 : Int32)).toNatClampNeg) (xs (x4 + (2 : Int32)).toNatClampNeg) (xs (x4 + (3 : Int32)).toNatClampNeg) s68) (fun r73 s74 => (if r67 = r73 then b_L_law_941 xs L k23 x4 s74 else some ((0 : Int32), s74)))))))))) else (if y3 = (6 : Int32) then gd (inb (x4 + (1 : Int32)) L) (bd (wr [2] (f_X8_told (xs (x4 + (1 : Int32)).toNatClampNeg) σ)) (fun r79 s80 => gd (inb (x4 + (1 : Int32)) L) (bd (f_X9_told (xs (x4 + (1 : Int32)).toNatClampNeg) s80) (fun r83 s84 => bd (f_X9_thrown s84) (fun r86 s87 => (if r86 = r79 then (if r79 = 0 then (if (lcm (s87.2.2.2.2 0) r83.toInt64) = 0 then b_L_law_409 xs L k23 x4 s87 else some ((0 : Int32), s87)) else b_L_law_409 xs L k23 x4 s87) else some ((0 : Int32), s87))))))) else (if y3 = (7 : Int32) then gd (inb (x4 + (1 : Int32)) L) (gd (inb (x4 + (2 : Int32)) L) (bd (wr [1] (f_X8_sort (xs (x4 + (1 : Int32)).toNatClampNeg) (xs (x4 + (2 : Int32)).toNatClampNeg) σ)) (fun r95 s96 => gd (inb (x4 + (1 : Int32)) L) (gd (inb (x4 + (2 : Int32)) L) (bd (f_X9_sort (xs (x4 + (1 : Int32)).toNatClampNeg) (xs (x4 + (2 : Int32)).toNatClampNeg) s96) (fun r100 s101 => bd (f_X9_thrown s101) (fun r103 s104 => (if r103 = r95 then (if r95 = 0 then (if (lcm (s104.2.2.2.2 0) r100.toInt64) = 0 then b_L_law_477 xs L k23 x4 s104 else some ((0 : Int32), s104)) else b_L_law_477 xs L k23 x4 s104) else some ((0 : Int32), s104))))))))) else (if y3 = (8 : Int32) then gd (inb (x4 + (1 : Int32)) L) (gd (inb (x4 + (2 : Int32)) L) (bd (wr [2] (f_X8_about (xs (x4 + (1 : Int32)).toNatClampNeg) (xs (x4 + (2 : Int32)).toNatClampNeg) σ)) (fun r112 s113 => gd (inb (x4 + (1 : Int32)) L) (gd (inb (x4 + (2 : Int32)) L) (bd (f_X9_about (xs (x4 + (1 : Int32)).toNatClampNeg) (xs (x4 + (2 : Int32)).toNatClampNeg) s113) (fun r117 s118 => bd (f_X9_thrown s118) (fun r120 s121 => (if r120 = r112 then (if r112 = 0 then (if (lcm (s121.2.2.2.2 0) r117.toInt64) = 0 then b_L_law_545 xs L k23 x4 s121 else some ((0 : Int32), s121)) else b_L_law_545 xs L k23 x4 s121) else some ((0 : Int32), s121))))))))) else (if y3 = (9 : Int32) then gd (inb (x4 + (1 : Int32)) L) (gd (inb (x4 + (2 : Int32)) L) (gd (inb (x4 + (3 : Int32)) L) (bd (wr [2] (f_X8_letter (xs (x4 + (1 : Int32)).toNatClampNeg) (xs (x4 + (2 : Int32)).toNatClampNeg) (xs (x4 + (3 : Int32)).toNatClampNeg) σ)) (fun r130 s131 => gd (inb (x4 + (1 : Int32)) L) (gd (inb (x4 + (2 : Int32)) L) (gd (inb (x4 + (3 : Int32)) L) (bd (f_X9_letter (xs (x4 + (1 : Int32)).toNatClampNeg) (xs (x4 + (2 : Int32)).toNatClampNeg) (xs (x4 + (3 : Int32)).toNatClampNeg) s131) (fun r136 s137 => bd (f_X9_thrown s137) (fun r139 s140 => (if r139 = r130 then (if r130 = 0 then (if (lcm (s140.2.2.2.2 0) r136.toInt64) = 0 then b_L_law_625 xs L k23 x4 s140 else some ((0 : Int32), s140)) else b_L_law_625 xs L k23 x4 s140) else some ((0 : Int32), s140))))))))))) else (if y3 = (10 : Int32) then gd (inb (x4 + (1 : Int32)) L) (gd (inb (x4 + (2 : Int32)) L) (bd (wr [2, 3] (f_X8_bin (xs (x4 + (1 : Int32)).toNatClampNeg) (xs (x4 + (2 : Int32)).toNatClampNeg) σ)) (fun r148 s149 => gd (inb (x4 + (1 : Int32)) L) (gd (inb (x4 + (2 : Int32)) L) (bd (f_X9_bin (xs (x4 + (1 : Int32)).toNatClampNeg) (xs (x4 + (2 : Int32)).toNatClampNeg) s149) (fun r153 s154 => bd (f_X9_thrown s154) (fun r156 s157 => (if r156 = r148 then (if r148 = 0 then (if (lcm (s157.2.2.2.2 0) r153.toInt64) = 0 then b_L_law_693 xs L k23 x4 s157 else some ((0 : Int32), s157)) else b_L_law_693 xs L k23 x4 s157) else some ((0 : Int32), s157))))))))) else (if y3 = (11 : Int32) then gd (inb (x4 + (1 : Int32)) L) (gd (inb (x4 + (2 : Int32)) L) (gd (inb (x4 + (3 : Int32)) L) (bd (wr [2, 3] (f_X8_group (xs (x4 + (1 : Int32)).toNatClampNeg) (xs (x4 + (2 : Int32)).toNatClampNeg) (xs (x4 + (3 : Int32)).toNatClampNeg) σ)) (fun r166 s167 => gd (inb (x4 + (1 : Int32)) L) (gd (inb (x4 + (2 : Int32)) L) (gd (inb (x4 + (3 : Int32)) L) (bd (f_X9_group (xs (x4 + (1 : Int32)).toNatClampNeg) (xs (x4 + (2 : Int32)).toNatClampNeg) (xs (x4 + (3 : Int32)).toNatClampNeg) s167) (fun r172 s173 => bd (f_X9_thrown s173) (fun r175 s176 => (if r175 = r166 then (if r166 = 0 then (if (lcm (s176.2.2.2.2 0) r172.toInt64) = 0 then b_L_law_773 xs L k23 x4 s176 else some ((0 : Int32), s176)) else b_L_law_773 xs L k23 x4 s176) else some ((0 : Int32), s176))))))))))) else (if y3 = (12 : Int32) then gd (inb (x4 + (1 : Int32)) L) (gd (inb (x4 + (2 : Int32)) L) (gd (inb (x4 + (3 : Int32)) L) ((if (xs (x4 + (3 : Int32)).toNatClampNeg) = 0 then b_L_law_803 xs L k23 x4 (0 : Int32) (xs (x4 + (2 : Int32)).toNatClampNeg) (xs (x4 + (1 : Int32)).toNatClampNeg) σ else b_L_law_803 xs L k23 x4 (1 : Int32) (xs (x4 + (2 : Int32)).toNatClampNeg) (xs (x4 + (1 : Int32)).toNatClampNeg) σ)))) else (if y3 = (13 : Int32) then gd (inb (x4 + (1 : Int32)) L) (bd (wr [2] (f_X8_out (xs (x4 + (1 : Int32)).toNatClampNeg) σ)) (fun r188 s189 => gd (inb (x4 + (1 : Int32)) L) (bd (f_X9_out (xs (x4 + (1 : Int32)).toNatClampNeg) s189) (fun r192 s193 => bd (f_X9_thrown s193) (fun r195 s196 => (if r195 = r188 then (if r188 = 0 then (if (lcm (s196.2.2.2.2 0) r192.toInt64) = 0 then b_L_law_925 xs L k23 x4 s196 else some ((0 : Int32), s196)) else b_L_law_925 xs L k23 x4 s196) else some ((0 : Int32), s196))))))) else (if y3 = (14 : Int32) then bd (f_X8_again σ) (fun r202 s203 => bd (f_X9_again s203) (fun r205 s206 => (if r202 = r205 then b_L_law_941 xs L k23 x4 s206 else some ((0 : Int32), s206)))) else b_L_law_941 xs L k23 x4 σ))))))))))))))))))
set_option maxRecDepth 20000 in
set_option maxHeartbeats 2000000 in
theorem t_L_law_23 {ε : Et} {κ : Kt} {b m : Nat} {z : Rs} (hl : κ.2.1.stackTraces = false) (xs : Nat → Int32) (L : Nat) (C : Cx ε κ cL_law 7 RL 10) (X : Xk κ) (S : Sk κ b L xs) (K : ∀ (pc k n : Nat) (lv : List (Nat × Value)) (r : Int32) (σ : St), BB κ k n 0 → decode cL_law pc = .ok (.ireturn, 1) → some (r, σ) = some z → G ε κ k n pc lv [.int r] (WX ε σ)) (k23 : Int32 → St → Option Rs) (g23 : ∀ (k n : Nat) (x4 : Int32) (σ : St), BB κ k n m → k23 x4 σ = some z → G ε κ k n 23 [(0, .ref b), (1, .ref (ad ε 0)), (2, .ref (ad ε 39)), (3, .ref (ad ε 55)), (4, .int x4)] [] (WX ε σ)) (k n : Nat) (hb : BB κ k n (m + 1)) (x4 : Int32) (σ : St) (ok : b_L_law_23 xs L k23 x4 σ = some z) : G ε κ k n 23 [(0, .ref b), (1, .ref (ad ε 0)), (2, .ref (ad ε 39)), (3, .ref (ad ε 55)), (4, .int x4)] [] (WX ε σ) := by
  unfold b_L_law_23 at ok
  refine g_iload C dL_law_23 4 rfl ?_
  refine g_aload_n C dL_law_25 rfl 0 rfl ?_
  refine q_slen C S dL_law_26 ?_
  refine g_iconst (v := 4) C dL_law_27 (by decide) ?_
  refine g_isub C dL_law_28 ?_
  refine g_icmp_gt (tgt := 947) C dL_law_29 (by decide) (fun c1 => ?_) (fun c1 => ?_)
  · replace ok := ok_t c1 ok
    refine g_iconst (v := 1) C dL_law_947 (by decide) ?_
    exact K 948 _ _ _ _ _ (bbz hb) dL_law_948 ok
  · replace ok := ok_f c1 ok
    refine g_aload_n C dL_law_32 rfl 0 rfl ?_
    refine g_iload C dL_law_33 4 rfl ?_
    obtain ⟨h2, ok⟩ := gd_ok ok
    refine q_sld C S h2 dL_law_35 ?_
    refine g_bipush (v := 15) C dL_law_36 (by decide) ?_
    refine g_iand C dL_law_38 ?_
    refine q_nm (fun y3 e4 => ?_)
    replace ok := nx_ok ok y3 e4
    by_cases c5 : y3 = (0 : Int32)
    · replace ok := ok_t c5 ok
      refine g_tabIn (tgt := 112) C dL_law_39 (by rw [c5]; decide) (by rw [c5]; decide) (by rw [c5]; rfl) (by decide) ?_
      refine g_aload_n C dL_law_112 rfl 1 rfl ?_
      refine g_aload_n C dL_law_113 rfl 0 rfl ?_
      refine g_iload C dL_law_114 4 rfl ?_
      refine g_iconst (v := 1) C dL_law_116 (by decide) ?_
      refine g_iadd C dL_law_117 ?_
      obtain ⟨h6, ok⟩ := gd_ok ok
      refine q_sld C S h6 dL_law_118 ?_
      refine g_aload_n C dL_law_119 rfl 0 rfl ?_
      refine g_iload C dL_law_120 4 rfl ?_
      refine g_iconst (v := 2) C dL_law_122 (by decide) ?_
      refine g_iadd C dL_law_123 ?_
      obtain ⟨h7, ok⟩ := gd_ok ok
      refine q_sld C S h7 dL_law_124 ?_
      refine g_i2l C dL_law_125 rfl ?_
      refine g_bipush (v := 32) C dL_law_126 (by decide) ?_
      refine g_lshl C dL_law_128 rfl ?_
      refine g_aload_n C dL_law_129 rfl 0 rfl ?_
      refine g_iload C dL_law_130 4 rfl ?_
      refine g_iconst (v := 3) C dL_law_132 (by decide) ?_
      refine g_iadd C dL_law_133 ?_
      obtain ⟨h8, ok⟩ := gd_ok ok
      refine q_sld C S h8 dL_law_134 ?_
      refine g_i2l C dL_law_135 rfl ?_
      refine g_ldc2 (v := 4294967295) C dL_law_136 c54 ?_
      refine g_land C dL_law_139 ?_
      refine g_lor C dL_law_140 ?_
      refine g_aload_n C dL_law_141 rfl 3 rfl ?_
      obtain ⟨r9, s10, e11, ok⟩ := bd_ok ok
      refine q_cw C X [.ref (ad ε 0), .int (xs (x4 + (1 : Int32)).toNatClampNeg), .long (((xs (x4 + (2 : Int32)).toNatClampNeg).toInt64 <<< ((32 : Int32).toInt64 &&& 63)) ||| ((xs (x4 + (3 : Int32)).toNatClampNeg).toInt64 &&& (4294967295 : Int64))), .ref (ad ε 55)] (c_L_feed hl e11) ww_56 (by decide) rfl rfl (Nat.le_of_ble_eq_true rfl) (bbr hb) dL_law_142 ?_
      refine g_istore C [(5, .int r9), (0, .ref b), (1, .ref (ad ε 0)), (2, .ref (ad ε 39)), (3, .ref (ad ε 55)), (4, .int x4)] dL_law_145 (by decide) rfl ?_
      refine g_aload_n C dL_law_147 rfl 3 rfl ?_
      refine g_aload_n C dL_law_148 rfl 1 rfl ?_
      refine g_iload C dL_law_149 5 rfl ?_
      refine g_iconst (v := 1) C dL_law_151 (by decide) ?_
      refine g_iadd C dL_law_152 ?_
      obtain ⟨h12, ok⟩ := gd_ok ok
      refine q_sld C S h12 dL_law_153 ?_
      refine g_aload_n C dL_law_154 rfl 1 rfl ?_
      refine g_iload C dL_law_155 5 rfl ?_
      refine g_iconst (v := 2) C dL_law_157 (by decide) ?_
      refine g_iadd C dL_law_158 ?_
      obtain ⟨h13, ok⟩ := gd_ok ok
      refine q_sld C S h13 dL_law_159 ?_
      refine g_i2l C dL_law_160 rfl ?_
      refine g_bipush (v := 32) C dL_law_161 (by decide) ?_
      refine g_lshl C dL_law_163 rfl ?_
      refine g_aload_n C dL_law_164 rfl 1 rfl ?_
      refine g_iload C dL_law_165 5 rfl ?_
      refine g_iconst (v := 3) C dL_law_167 (by decide) ?_
      refine g_iadd C dL_law_168 ?_
      obtain ⟨h14, ok⟩ := gd_ok ok
      refine q_sld C S h14 dL_law_169 ?_
      refine g_i2l C dL_law_170 rfl ?_
      refine g_ldc2 (v := 4294967295) C dL_law_171 c54 ?_
      refine g_land C dL_law_174 ?_
      refine g_lor C dL_law_175 ?_
      obtain ⟨r15, s16, e17, ok⟩ := bd_ok ok
      refine q_ck C [.int (xs (x4 + (1 : Int32)).toNatClampNeg), .long (((xs (x4 + (2 : Int32)).toNatClampNeg).toInt64 <<< ((32 : Int32).toInt64 &&& 63)) ||| ((xs (x4 + (3 : Int32)).toNatClampNeg).toInt64 &&& (4294967295 : Int64)))] (c_X9_feed e17) wv_L_61 (by decide) (lt_N (by decide)) wx_X9 rfl rfl rfl (Nat.le_of_ble_eq_true rfl) (bb0 (bb1 hb)) dL_law_176 ?_
      refine g_istore C [(6, .int r15), (5, .int r9), (0, .ref b), (1, .ref (ad ε 0)), (2, .ref (ad ε 39)), (3, .ref (ad ε 55)), (4, .int x4)] dL_law_179 (by decide) rfl ?_
      refine g_aload_n C dL_law_181 rfl 4 rfl ?_
      obtain ⟨r18, s19, e20, ok⟩ := bd_ok ok
      refine q_ck C [] (c_X9_thrown e20) wv_L_62 (by decide) (lt_N (by decide)) wx_X9 rfl rfl rfl (Nat.le_of_ble_eq_true rfl) (bb0 (bb1 hb)) dL_law_182 ?_
      refine g_iload C dL_law_185 1 rfl ?_
      refine g_icmp_eq (tgt := 192) C dL_law_187 (by decide) (fun c21 => ?_) (fun c21 => ?_)
      · replace ok := ok_t c21 ok
        refine g_iload C dL_law_192 1 rfl ?_
        refine g_if_ne (tgt := 209) C dL_law_194 (by decide) (fun c22 => ?_) (fun c22 => ?_)
        · replace ok := ok_f c22 ok
          refine g_pick (lv' := [(0, .ref b), (1, .ref (ad ε 0)), (2, .ref (ad ε 39)), (3, .ref (ad ε 55)), (4, .int x4)]) ?_ [2, 3, 4, 5, 6] rfl
          exact t_L_law_209 hl xs L C X S K k23 g23 _ _ (bb1 hb) _ _ ok
        · replace ok := ok_t c22 ok
          refine g_aload_n C dL_law_197 rfl 5 rfl ?_
          refine g_iconst (v := 0) C dL_law_198 (by decide) ?_
          refine q_lld C dL_law_199 ?_
          refine g_iload C dL_law_200 0 rfl ?_
          refine g_i2l C dL_law_202 rfl ?_
          refine g_lcmp C dL_law_203 ?_
          refine g_if_eq (tgt := 209) C dL_law_204 (by decide) (fun c23 => ?_) (fun c23 => ?_)
          · replace ok := ok_t c23 ok
            refine g_pick (lv' := [(0, .ref b), (1, .ref (ad ε 0)), (2, .ref (ad ε 39)), (3, .ref (ad ε 55)), (4, .int x4)]) ?_ [2, 3, 4, 5, 6] rfl
            exact t_L_law_209 hl xs L C X S K k23 g23 _ _ (bb1 hb) _ _ ok
          · replace ok := ok_f c23 ok
            refine g_iconst (v := 0) C dL_law_207 (by decide) ?_
            exact K 208 _ _ _ _ _ (bbz (bb1 hb)) dL_law_208 ok
      · replace ok := ok_f c21 ok
        refine g_iconst (v := 0) C dL_law_190 (by decide) ?_
        exact K 191 _ _ _ _ _ (bbz (bb1 hb)) dL_law_191 ok
    · replace ok := ok_f c5 ok
      by_cases c24 : y3 = (1 : Int32)
      · replace ok := ok_t c24 ok
        refine g_tabIn (tgt := 212) C dL_law_39 (by rw [c24]; decide) (by rw [c24]; decide) (by rw [c24]; rfl) (by decide) ?_
        refine g_aload_n C dL_law_212 rfl 1 rfl ?_
        refine g_aload_n C dL_law_213 rfl 0 rfl ?_
        refine g_iload C dL_law_214 4 rfl ?_
        refine g_iconst (v := 1) C dL_law_216 (by decide) ?_
        refine g_iadd C dL_law_217 ?_
        obtain ⟨h25, ok⟩ := gd_ok ok
        refine q_sld C S h25 dL_law_218 ?_
        refine g_aload_n C dL_law_219 rfl 3 rfl ?_
        obtain ⟨r26, s27, e28, ok⟩ := bd_ok ok
        refine q_cw C X [.ref (ad ε 0), .int (xs (x4 + (1 : Int32)).toNatClampNeg), .ref (ad ε 55)] (c_L_read hl e28) ww_66 (by decide) rfl rfl (Nat.le_of_ble_eq_true rfl) (bbr hb) dL_law_220 ?_
        refine g_istore C [(5, .int r26), (0, .ref b), (1, .ref (ad ε 0)), (2, .ref (ad ε 39)), (3, .ref (ad ε 55)), (4, .int x4)] dL_law_223 (by decide) rfl ?_
        refine g_aload_n C dL_law_225 rfl 3 rfl ?_
        refine g_aload_n C dL_law_226 rfl 1 rfl ?_
        refine g_iload C dL_law_227 5 rfl ?_
        refine g_iconst (v := 1) C dL_law_229 (by decide) ?_
        refine g_iadd C dL_law_230 ?_
        obtain ⟨h29, ok⟩ := gd_ok ok
        refine q_sld C S h29 dL_law_231 ?_
        obtain ⟨r30, s31, e32, ok⟩ := bd_ok ok
        refine q_ck C [.int (xs (x4 + (1 : Int32)).toNatClampNeg)] (c_X9_read e32) wv_L_69 (by decide) (lt_N (by decide)) wx_X9 rfl rfl rfl (Nat.le_of_ble_eq_true rfl) (bb0 (bb1 hb)) dL_law_232 ?_
        refine g_istore C [(6, .int r30), (5, .int r26), (0, .ref b), (1, .ref (ad ε 0)), (2, .ref (ad ε 39)), (3, .ref (ad ε 55)), (4, .int x4)] dL_law_235 (by decide) rfl ?_
        refine g_aload_n C dL_law_237 rfl 4 rfl ?_
        obtain ⟨r33, s34, e35, ok⟩ := bd_ok ok
        refine q_ck C [] (c_X9_thrown e35) wv_L_62 (by decide) (lt_N (by decide)) wx_X9 rfl rfl rfl (Nat.le_of_ble_eq_true rfl) (bb0 (bb1 hb)) dL_law_238 ?_
        refine g_iload C dL_law_241 1 rfl ?_
        refine g_icmp_eq (tgt := 248) C dL_law_243 (by decide) (fun c36 => ?_) (fun c36 => ?_)
        · replace ok := ok_t c36 ok
          refine g_iload C dL_law_248 1 rfl ?_
          refine g_if_ne (tgt := 265) C dL_law_250 (by decide) (fun c37 => ?_) (fun c37 => ?_)
          · replace ok := ok_f c37 ok
            refine g_pick (lv' := [(0, .ref b), (1, .ref (ad ε 0)), (2, .ref (ad ε 39)), (3, .ref (ad ε 55)), (4, .int x4)]) ?_ [2, 3, 4, 5, 6] rfl
            exact t_L_law_265 hl xs L C X S K k23 g23 _ _ (bb1 hb) _ _ ok
          · replace ok := ok_t c37 ok
            refine g_aload_n C dL_law_253 rfl 5 rfl ?_
            refine g_iconst (v := 0) C dL_law_254 (by decide) ?_
            refine q_lld C dL_law_255 ?_
            refine g_iload C dL_law_256 0 rfl ?_
            refine g_i2l C dL_law_258 rfl ?_
            refine g_lcmp C dL_law_259 ?_
            refine g_if_eq (tgt := 265) C dL_law_260 (by decide) (fun c38 => ?_) (fun c38 => ?_)
            · replace ok := ok_t c38 ok
              refine g_pick (lv' := [(0, .ref b), (1, .ref (ad ε 0)), (2, .ref (ad ε 39)), (3, .ref (ad ε 55)), (4, .int x4)]) ?_ [2, 3, 4, 5, 6] rfl
              exact t_L_law_265 hl xs L C X S K k23 g23 _ _ (bb1 hb) _ _ ok
            · replace ok := ok_f c38 ok
              refine g_iconst (v := 0) C dL_law_263 (by decide) ?_
              exact K 264 _ _ _ _ _ (bbz (bb1 hb)) dL_law_264 ok
        · replace ok := ok_f c36 ok
          refine g_iconst (v := 0) C dL_law_246 (by decide) ?_
          exact K 247 _ _ _ _ _ (bbz (bb1 hb)) dL_law_247 ok
      · replace ok := ok_f c24 ok
        by_cases c39 : y3 = (2 : Int32)
        · replace ok := ok_t c39 ok
          refine g_tabIn (tgt := 268) C dL_law_39 (by rw [c39]; decide) (by rw [c39]; decide) (by rw [c39]; rfl) (by decide) ?_
          refine g_aload_n C dL_law_268 rfl 1 rfl ?_
          obtain ⟨r40, s41, e42, ok⟩ := bd_ok ok
          refine q_ck C [] (c_X8_place e42) wv_L_70 (by decide) (lt_N (by decide)) wx_X8 rfl rfl rfl (Nat.le_of_ble_eq_true rfl) (bb0 hb) dL_law_269 ?_
          refine g_aload_n C dL_law_272 rfl 2 rfl ?_
          obtain ⟨r43, s44, e45, ok⟩ := bd_ok ok
          refine q_ck C [] (c_X9_place e45) wv_L_73 (by decide) (lt_N (by decide)) wx_X9 rfl rfl rfl (Nat.le_of_ble_eq_true rfl) (bb0 hb) dL_law_273 ?_
          refine g_icmp_eq (tgt := 941) C dL_law_276 (by decide) (fun c46 => ?_) (fun c46 => ?_)
          · replace ok := ok_t c46 ok
            exact t_L_law_941 hl xs L C X S K k23 g23 _ _ (bbw hb) _ _ ok
          · replace ok := ok_f c46 ok
            refine g_iconst (v := 0) C dL_law_279 (by decide) ?_
            exact K 280 _ _ _ _ _ (bbz hb) dL_law_280 ok
        · replace ok := ok_f c39 ok
          by_cases c47 : y3 = (3 : Int32)
          · replace ok := ok_t c47 ok
            refine g_tabIn (tgt := 281) C dL_law_39 (by rw [c47]; decide) (by rw [c47]; decide) (by rw [c47]; rfl) (by decide) ?_
            refine g_aload_n C dL_law_281 rfl 1 rfl ?_
            obtain ⟨r48, s49, e50, ok⟩ := bd_ok ok
            refine q_ck C [] (c_X8_barcode e50) wv_L_74 (by decide) (lt_N (by decide)) wx_X8 rfl rfl rfl (Nat.le_of_ble_eq_true rfl) (bb0 hb) dL_law_282 ?_
            refine g_aload_n C dL_law_285 rfl 2 rfl ?_
            obtain ⟨r51, s52, e53, ok⟩ := bd_ok ok
            refine q_ck C [] (c_X9_barcode e53) wv_L_77 (by decide) (lt_N (by decide)) wx_X9 rfl rfl rfl (Nat.le_of_ble_eq_true rfl) (bb0 hb) dL_law_286 ?_
            refine g_icmp_eq (tgt := 941) C dL_law_289 (by decide) (fun c54 => ?_) (fun c54 => ?_)
            · replace ok := ok_t c54 ok
              exact t_L_law_941 hl xs L C X S K k23 g23 _ _ (bbw hb) _ _ ok
            · replace ok := ok_f c54 ok
              refine g_iconst (v := 0) C dL_law_292 (by decide) ?_
              exact K 293 _ _ _ _ _ (bbz hb) dL_law_293 ok
          · replace ok := ok_f c47 ok
            by_cases c55 : y3 = (4 : Int32)
            · replace ok := ok_t c55 ok
              refine g_tabIn (tgt := 294) C dL_law_39 (by rw [c55]; decide) (by rw [c55]; decide) (by rw [c55]; rfl) (by decide) ?_
              refine g_aload_n C dL_law_294 rfl 1 rfl ?_
              obtain ⟨r56, s57, e58, ok⟩ := bd_ok ok
              refine q_ck C [] (c_X8_adapter e58) wv_L_78 (by decide) (lt_N (by decide)) wx_X8 rfl rfl rfl (Nat.le_of_ble_eq_true rfl) (bb0 hb) dL_law_295 ?_
              refine g_aload_n C dL_law_298 rfl 2 rfl ?_
              obtain ⟨r59, s60, e61, ok⟩ := bd_ok ok
              refine q_ck C [] (c_X9_adapter e61) wv_L_81 (by decide) (lt_N (by decide)) wx_X9 rfl rfl rfl (Nat.le_of_ble_eq_true rfl) (bb0 hb) dL_law_299 ?_
              refine g_icmp_eq (tgt := 941) C dL_law_302 (by decide) (fun c62 => ?_) (fun c62 => ?_)
              · replace ok := ok_t c62 ok
                exact t_L_law_941 hl xs L C X S K k23 g23 _ _ (bbw hb) _ _ ok
              · replace ok := ok_f c62 ok
                refine g_iconst (v := 0) C dL_law_305 (by decide) ?_
                exact K 306 _ _ _ _ _ (bbz hb) dL_law_306 ok
            · replace ok := ok_f c55 ok
              by_cases c63 : y3 = (5 : Int32)
              · replace ok := ok_t c63 ok
                refine g_tabIn (tgt := 307) C dL_law_39 (by rw [c63]; decide) (by rw [c63]; decide) (by rw [c63]; rfl) (by decide) ?_
                refine g_aload_n C dL_law_307 rfl 1 rfl ?_
                refine g_aload_n C dL_law_308 rfl 0 rfl ?_
                refine g_iload C dL_law_309 4 rfl ?_
                refine g_iconst (v := 1) C dL_law_311 (by decide) ?_
                refine g_iadd C dL_law_312 ?_
                obtain ⟨h64, ok⟩ := gd_ok ok
                refine q_sld C S h64 dL_law_313 ?_
                refine g_aload_n C dL_law_314 rfl 0 rfl ?_
                refine g_iload C dL_law_315 4 rfl ?_
                refine g_iconst (v := 2) C dL_law_317 (by decide) ?_
                refine g_iadd C dL_law_318 ?_
                obtain ⟨h65, ok⟩ := gd_ok ok
                refine q_sld C S h65 dL_law_319 ?_
                refine g_aload_n C dL_law_320 rfl 0 rfl ?_
                refine g_iload C dL_law_321 4 rfl ?_
                refine g_iconst (v := 3) C dL_law_323 (by decide) ?_
                refine g_iadd C dL_law_324 ?_
                obtain ⟨h66, ok⟩ := gd_ok ok
                refine q_sld C S h66 dL_law_325 ?_
                obtain ⟨r67, s68, e69, ok⟩ := bd_ok ok
                refine q_ck C [.int (xs (x4 + (1 : Int32)).toNatClampNeg), .int (xs (x4 + (2 : Int32)).toNatClampNeg), .int (xs (x4 + (3 : Int32)).toNatClampNeg)] (c_X8_limits e69) wv_L_82 (by decide) (lt_N (by decide)) wx_X8 rfl rfl rfl (Nat.le_of_ble_eq_true rfl) (bb0 hb) dL_law_326 ?_
                refine g_aload_n C dL_law_329 rfl 2 rfl ?_
                refine g_aload_n C dL_law_330 rfl 0 rfl ?_
                refine g_iload C dL_law_331 4 rfl ?_
                refine g_iconst (v := 1) C dL_law_333 (by decide) ?_
                refine g_iadd C dL_law_334 ?_
                obtain ⟨h70, ok⟩ := gd_ok ok
                refine q_sld C S h70 dL_law_335 ?_
                refine g_aload_n C dL_law_336 rfl 0 rfl ?_
                refine g_iload C dL_law_337 4 rfl ?_
                refine g_iconst (v := 2) C dL_law_339 (by decide) ?_
                refine g_iadd C dL_law_340 ?_
                obtain ⟨h71, ok⟩ := gd_ok ok
                refine q_sld C S h71 dL_law_341 ?_
                refine g_aload_n C dL_law_342 rfl 0 rfl ?_
                refine g_iload C dL_law_343 4 rfl ?_
                refine g_iconst (v := 3) C dL_law_345 (by decide) ?_
                refine g_iadd C dL_law_346 ?_
                obtain ⟨h72, ok⟩ := gd_ok ok
                refine q_sld C S h72 dL_law_347 ?_
                obtain ⟨r73, s74, e75, ok⟩ := bd_ok ok
                refine q_ck C [.int (xs (x4 + (1 : Int32)).toNatClampNeg), .int (xs (x4 + (2 : Int32)).toNatClampNeg), .int (xs (x4 + (3 : Int32)).toNatClampNeg)] (c_X9_limits e75) wv_L_86 (by decide) (lt_N (by decide)) wx_X9 rfl rfl rfl (Nat.le_of_ble_eq_true rfl) (bb0 hb) dL_law_348 ?_
                refine g_icmp_eq (tgt := 941) C dL_law_351 (by decide) (fun c76 => ?_) (fun c76 => ?_)
                · replace ok := ok_t c76 ok
                  exact t_L_law_941 hl xs L C X S K k23 g23 _ _ (bbw hb) _ _ ok
                · replace ok := ok_f c76 ok
                  refine g_iconst (v := 0) C dL_law_354 (by decide) ?_
                  exact K 355 _ _ _ _ _ (bbz hb) dL_law_355 ok
              · replace ok := ok_f c63 ok
                by_cases c77 : y3 = (6 : Int32)
                · replace ok := ok_t c77 ok
                  refine g_tabIn (tgt := 356) C dL_law_39 (by rw [c77]; decide) (by rw [c77]; decide) (by rw [c77]; rfl) (by decide) ?_
                  refine g_aload_n C dL_law_356 rfl 1 rfl ?_
                  refine g_aload_n C dL_law_357 rfl 0 rfl ?_
                  refine g_iload C dL_law_358 4 rfl ?_
                  refine g_iconst (v := 1) C dL_law_360 (by decide) ?_
                  refine g_iadd C dL_law_361 ?_
                  obtain ⟨h78, ok⟩ := gd_ok ok
                  refine q_sld C S h78 dL_law_362 ?_
                  refine g_aload_n C dL_law_363 rfl 3 rfl ?_
                  obtain ⟨r79, s80, e81, ok⟩ := bd_ok ok
                  refine q_cw C X [.ref (ad ε 0), .int (xs (x4 + (1 : Int32)).toNatClampNeg), .ref (ad ε 55)] (c_L_told hl e81) ww_87 (by decide) rfl rfl (Nat.le_of_ble_eq_true rfl) (bbr hb) dL_law_364 ?_
                  refine g_istore C [(5, .int r79), (0, .ref b), (1, .ref (ad ε 0)), (2, .ref (ad ε 39)), (3, .ref (ad ε 55)), (4, .int x4)] dL_law_367 (by decide) rfl ?_
                  refine g_aload_n C dL_law_369 rfl 3 rfl ?_
                  refine g_aload_n C dL_law_370 rfl 1 rfl ?_
                  refine g_iload C dL_law_371 5 rfl ?_
                  refine g_iconst (v := 1) C dL_law_373 (by decide) ?_
                  refine g_iadd C dL_law_374 ?_
                  obtain ⟨h82, ok⟩ := gd_ok ok
                  refine q_sld C S h82 dL_law_375 ?_
                  obtain ⟨r83, s84, e85, ok⟩ := bd_ok ok
                  refine q_ck C [.int (xs (x4 + (1 : Int32)).toNatClampNeg)] (c_X9_told e85) wv_L_89 (by decide) (lt_N (by decide)) wx_X9 rfl rfl rfl (Nat.le_of_ble_eq_true rfl) (bb0 (bb1 hb)) dL_law_376 ?_
                  refine g_istore C [(6, .int r83), (5, .int r79), (0, .ref b), (1, .ref (ad ε 0)), (2, .ref (ad ε 39)), (3, .ref (ad ε 55)), (4, .int x4)] dL_law_379 (by decide) rfl ?_
                  refine g_aload_n C dL_law_381 rfl 4 rfl ?_
                  obtain ⟨r86, s87, e88, ok⟩ := bd_ok ok
                  refine q_ck C [] (c_X9_thrown e88) wv_L_62 (by decide) (lt_N (by decide)) wx_X9 rfl rfl rfl (Nat.le_of_ble_eq_true rfl) (bb0 (bb1 hb)) dL_law_382 ?_
                  refine g_iload C dL_law_385 1 rfl ?_
                  refine g_icmp_eq (tgt := 392) C dL_law_387 (by decide) (fun c89 => ?_) (fun c89 => ?_)
                  · replace ok := ok_t c89 ok
                    refine g_iload C dL_law_392 1 rfl ?_
                    refine g_if_ne (tgt := 409) C dL_law_394 (by decide) (fun c90 => ?_) (fun c90 => ?_)
                    · replace ok := ok_f c90 ok
                      refine g_pick (lv' := [(0, .ref b), (1, .ref (ad ε 0)), (2, .ref (ad ε 39)), (3, .ref (ad ε 55)), (4, .int x4)]) ?_ [2, 3, 4, 5, 6] rfl
                      exact t_L_law_409 hl xs L C X S K k23 g23 _ _ (bb1 hb) _ _ ok
                    · replace ok := ok_t c90 ok
                      refine g_aload_n C dL_law_397 rfl 5 rfl ?_
                      refine g_iconst (v := 0) C dL_law_398 (by decide) ?_
                      refine q_lld C dL_law_399 ?_
                      refine g_iload C dL_law_400 0 rfl ?_
                      refine g_i2l C dL_law_402 rfl ?_
                      refine g_lcmp C dL_law_403 ?_
                      refine g_if_eq (tgt := 409) C dL_law_404 (by decide) (fun c91 => ?_) (fun c91 => ?_)
                      · replace ok := ok_t c91 ok
                        refine g_pick (lv' := [(0, .ref b), (1, .ref (ad ε 0)), (2, .ref (ad ε 39)), (3, .ref (ad ε 55)), (4, .int x4)]) ?_ [2, 3, 4, 5, 6] rfl
                        exact t_L_law_409 hl xs L C X S K k23 g23 _ _ (bb1 hb) _ _ ok
                      · replace ok := ok_f c91 ok
                        refine g_iconst (v := 0) C dL_law_407 (by decide) ?_
                        exact K 408 _ _ _ _ _ (bbz (bb1 hb)) dL_law_408 ok
                  · replace ok := ok_f c89 ok
                    refine g_iconst (v := 0) C dL_law_390 (by decide) ?_
                    exact K 391 _ _ _ _ _ (bbz (bb1 hb)) dL_law_391 ok
                · replace ok := ok_f c77 ok
                  by_cases c92 : y3 = (7 : Int32)
                  · replace ok := ok_t c92 ok
                    refine g_tabIn (tgt := 412) C dL_law_39 (by rw [c92]; decide) (by rw [c92]; decide) (by rw [c92]; rfl) (by decide) ?_
                    refine g_aload_n C dL_law_412 rfl 1 rfl ?_
                    refine g_aload_n C dL_law_413 rfl 0 rfl ?_
                    refine g_iload C dL_law_414 4 rfl ?_
                    refine g_iconst (v := 1) C dL_law_416 (by decide) ?_
                    refine g_iadd C dL_law_417 ?_
                    obtain ⟨h93, ok⟩ := gd_ok ok
                    refine q_sld C S h93 dL_law_418 ?_
                    refine g_aload_n C dL_law_419 rfl 0 rfl ?_
                    refine g_iload C dL_law_420 4 rfl ?_
                    refine g_iconst (v := 2) C dL_law_422 (by decide) ?_
                    refine g_iadd C dL_law_423 ?_
                    obtain ⟨h94, ok⟩ := gd_ok ok
                    refine q_sld C S h94 dL_law_424 ?_
                    refine g_aload_n C dL_law_425 rfl 3 rfl ?_
                    obtain ⟨r95, s96, e97, ok⟩ := bd_ok ok
                    refine q_cw C X [.ref (ad ε 0), .int (xs (x4 + (1 : Int32)).toNatClampNeg), .int (xs (x4 + (2 : Int32)).toNatClampNeg), .ref (ad ε 55)] (c_L_sort hl e97) ww_90 (by decide) rfl rfl (Nat.le_of_ble_eq_true rfl) (bbr hb) dL_law_426 ?_
                    refine g_istore C [(5, .int r95), (0, .ref b), (1, .ref (ad ε 0)), (2, .ref (ad ε 39)), (3, .ref (ad ε 55)), (4, .int x4)] dL_law_429 (by decide) rfl ?_
                    refine g_aload_n C dL_law_431 rfl 3 rfl ?_
                    refine g_aload_n C dL_law_432 rfl 1 rfl ?_
                    refine g_iload C dL_law_433 5 rfl ?_
                    refine g_iconst (v := 1) C dL_law_435 (by decide) ?_
                    refine g_iadd C dL_law_436 ?_
                    obtain ⟨h98, ok⟩ := gd_ok ok
                    refine q_sld C S h98 dL_law_437 ?_
                    refine g_aload_n C dL_law_438 rfl 1 rfl ?_
                    refine g_iload C dL_law_439 5 rfl ?_
                    refine g_iconst (v := 2) C dL_law_441 (by decide) ?_
                    refine g_iadd C dL_law_442 ?_
                    obtain ⟨h99, ok⟩ := gd_ok ok
                    refine q_sld C S h99 dL_law_443 ?_
                    obtain ⟨r100, s101, e102, ok⟩ := bd_ok ok
                    refine q_ck C [.int (xs (x4 + (1 : Int32)).toNatClampNeg), .int (xs (x4 + (2 : Int32)).toNatClampNeg)] (c_X9_sort e102) wv_L_93 (by decide) (lt_N (by decide)) wx_X9 rfl rfl rfl (Nat.le_of_ble_eq_true rfl) (bb0 (bb1 hb)) dL_law_444 ?_
                    refine g_istore C [(6, .int r100), (5, .int r95), (0, .ref b), (1, .ref (ad ε 0)), (2, .ref (ad ε 39)), (3, .ref (ad ε 55)), (4, .int x4)] dL_law_447 (by decide) rfl ?_
                    refine g_aload_n C dL_law_449 rfl 4 rfl ?_
                    obtain ⟨r103, s104, e105, ok⟩ := bd_ok ok
                    refine q_ck C [] (c_X9_thrown e105) wv_L_62 (by decide) (lt_N (by decide)) wx_X9 rfl rfl rfl (Nat.le_of_ble_eq_true rfl) (bb0 (bb1 hb)) dL_law_450 ?_
                    refine g_iload C dL_law_453 1 rfl ?_
                    refine g_icmp_eq (tgt := 460) C dL_law_455 (by decide) (fun c106 => ?_) (fun c106 => ?_)
                    · replace ok := ok_t c106 ok
                      refine g_iload C dL_law_460 1 rfl ?_
                      refine g_if_ne (tgt := 477) C dL_law_462 (by decide) (fun c107 => ?_) (fun c107 => ?_)
                      · replace ok := ok_f c107 ok
                        refine g_pick (lv' := [(0, .ref b), (1, .ref (ad ε 0)), (2, .ref (ad ε 39)), (3, .ref (ad ε 55)), (4, .int x4)]) ?_ [2, 3, 4, 5, 6] rfl
                        exact t_L_law_477 hl xs L C X S K k23 g23 _ _ (bb1 hb) _ _ ok
                      · replace ok := ok_t c107 ok
                        refine g_aload_n C dL_law_465 rfl 5 rfl ?_
                        refine g_iconst (v := 0) C dL_law_466 (by decide) ?_
                        refine q_lld C dL_law_467 ?_
                        refine g_iload C dL_law_468 0 rfl ?_
                        refine g_i2l C dL_law_470 rfl ?_
                        refine g_lcmp C dL_law_471 ?_
                        refine g_if_eq (tgt := 477) C dL_law_472 (by decide) (fun c108 => ?_) (fun c108 => ?_)
                        · replace ok := ok_t c108 ok
                          refine g_pick (lv' := [(0, .ref b), (1, .ref (ad ε 0)), (2, .ref (ad ε 39)), (3, .ref (ad ε 55)), (4, .int x4)]) ?_ [2, 3, 4, 5, 6] rfl
                          exact t_L_law_477 hl xs L C X S K k23 g23 _ _ (bb1 hb) _ _ ok
                        · replace ok := ok_f c108 ok
                          refine g_iconst (v := 0) C dL_law_475 (by decide) ?_
                          exact K 476 _ _ _ _ _ (bbz (bb1 hb)) dL_law_476 ok
                    · replace ok := ok_f c106 ok
                      refine g_iconst (v := 0) C dL_law_458 (by decide) ?_
                      exact K 459 _ _ _ _ _ (bbz (bb1 hb)) dL_law_459 ok
                  · replace ok := ok_f c92 ok
                    by_cases c109 : y3 = (8 : Int32)
                    · replace ok := ok_t c109 ok
                      refine g_tabIn (tgt := 480) C dL_law_39 (by rw [c109]; decide) (by rw [c109]; decide) (by rw [c109]; rfl) (by decide) ?_
                      refine g_aload_n C dL_law_480 rfl 1 rfl ?_
                      refine g_aload_n C dL_law_481 rfl 0 rfl ?_
                      refine g_iload C dL_law_482 4 rfl ?_
                      refine g_iconst (v := 1) C dL_law_484 (by decide) ?_
                      refine g_iadd C dL_law_485 ?_
                      obtain ⟨h110, ok⟩ := gd_ok ok
                      refine q_sld C S h110 dL_law_486 ?_
                      refine g_aload_n C dL_law_487 rfl 0 rfl ?_
                      refine g_iload C dL_law_488 4 rfl ?_
                      refine g_iconst (v := 2) C dL_law_490 (by decide) ?_
                      refine g_iadd C dL_law_491 ?_
                      obtain ⟨h111, ok⟩ := gd_ok ok
                      refine q_sld C S h111 dL_law_492 ?_
                      refine g_aload_n C dL_law_493 rfl 3 rfl ?_
                      obtain ⟨r112, s113, e114, ok⟩ := bd_ok ok
                      refine q_cw C X [.ref (ad ε 0), .int (xs (x4 + (1 : Int32)).toNatClampNeg), .int (xs (x4 + (2 : Int32)).toNatClampNeg), .ref (ad ε 55)] (c_L_about hl e114) ww_94 (by decide) rfl rfl (Nat.le_of_ble_eq_true rfl) (bbr hb) dL_law_494 ?_
                      refine g_istore C [(5, .int r112), (0, .ref b), (1, .ref (ad ε 0)), (2, .ref (ad ε 39)), (3, .ref (ad ε 55)), (4, .int x4)] dL_law_497 (by decide) rfl ?_
                      refine g_aload_n C dL_law_499 rfl 3 rfl ?_
                      refine g_aload_n C dL_law_500 rfl 1 rfl ?_
                      refine g_iload C dL_law_501 5 rfl ?_
                      refine g_iconst (v := 1) C dL_law_503 (by decide) ?_
                      refine g_iadd C dL_law_504 ?_
                      obtain ⟨h115, ok⟩ := gd_ok ok
                      refine q_sld C S h115 dL_law_505 ?_
                      refine g_aload_n C dL_law_506 rfl 1 rfl ?_
                      refine g_iload C dL_law_507 5 rfl ?_
                      refine g_iconst (v := 2) C dL_law_509 (by decide) ?_
                      refine g_iadd C dL_law_510 ?_
                      obtain ⟨h116, ok⟩ := gd_ok ok
                      refine q_sld C S h116 dL_law_511 ?_
                      obtain ⟨r117, s118, e119, ok⟩ := bd_ok ok
                      refine q_ck C [.int (xs (x4 + (1 : Int32)).toNatClampNeg), .int (xs (x4 + (2 : Int32)).toNatClampNeg)] (c_X9_about e119) wv_L_96 (by decide) (lt_N (by decide)) wx_X9 rfl rfl rfl (Nat.le_of_ble_eq_true rfl) (bb0 (bb1 hb)) dL_law_512 ?_
                      refine g_istore C [(6, .int r117), (5, .int r112), (0, .ref b), (1, .ref (ad ε 0)), (2, .ref (ad ε 39)), (3, .ref (ad ε 55)), (4, .int x4)] dL_law_515 (by decide) rfl ?_
                      refine g_aload_n C dL_law_517 rfl 4 rfl ?_
                      obtain ⟨r120, s121, e122, ok⟩ := bd_ok ok
                      refine q_ck C [] (c_X9_thrown e122) wv_L_62 (by decide) (lt_N (by decide)) wx_X9 rfl rfl rfl (Nat.le_of_ble_eq_true rfl) (bb0 (bb1 hb)) dL_law_518 ?_
                      refine g_iload C dL_law_521 1 rfl ?_
                      refine g_icmp_eq (tgt := 528) C dL_law_523 (by decide) (fun c123 => ?_) (fun c123 => ?_)
                      · replace ok := ok_t c123 ok
                        refine g_iload C dL_law_528 1 rfl ?_
                        refine g_if_ne (tgt := 545) C dL_law_530 (by decide) (fun c124 => ?_) (fun c124 => ?_)
                        · replace ok := ok_f c124 ok
                          refine g_pick (lv' := [(0, .ref b), (1, .ref (ad ε 0)), (2, .ref (ad ε 39)), (3, .ref (ad ε 55)), (4, .int x4)]) ?_ [2, 3, 4, 5, 6] rfl
                          exact t_L_law_545 hl xs L C X S K k23 g23 _ _ (bb1 hb) _ _ ok
                        · replace ok := ok_t c124 ok
                          refine g_aload_n C dL_law_533 rfl 5 rfl ?_
                          refine g_iconst (v := 0) C dL_law_534 (by decide) ?_
                          refine q_lld C dL_law_535 ?_
                          refine g_iload C dL_law_536 0 rfl ?_
                          refine g_i2l C dL_law_538 rfl ?_
                          refine g_lcmp C dL_law_539 ?_
                          refine g_if_eq (tgt := 545) C dL_law_540 (by decide) (fun c125 => ?_) (fun c125 => ?_)
                          · replace ok := ok_t c125 ok
                            refine g_pick (lv' := [(0, .ref b), (1, .ref (ad ε 0)), (2, .ref (ad ε 39)), (3, .ref (ad ε 55)), (4, .int x4)]) ?_ [2, 3, 4, 5, 6] rfl
                            exact t_L_law_545 hl xs L C X S K k23 g23 _ _ (bb1 hb) _ _ ok
                          · replace ok := ok_f c125 ok
                            refine g_iconst (v := 0) C dL_law_543 (by decide) ?_
                            exact K 544 _ _ _ _ _ (bbz (bb1 hb)) dL_law_544 ok
                      · replace ok := ok_f c123 ok
                        refine g_iconst (v := 0) C dL_law_526 (by decide) ?_
                        exact K 527 _ _ _ _ _ (bbz (bb1 hb)) dL_law_527 ok
                    · replace ok := ok_f c109 ok
                      by_cases c126 : y3 = (9 : Int32)
                      · replace ok := ok_t c126 ok
                        refine g_tabIn (tgt := 548) C dL_law_39 (by rw [c126]; decide) (by rw [c126]; decide) (by rw [c126]; rfl) (by decide) ?_
                        refine g_aload_n C dL_law_548 rfl 1 rfl ?_
                        refine g_aload_n C dL_law_549 rfl 0 rfl ?_
                        refine g_iload C dL_law_550 4 rfl ?_
                        refine g_iconst (v := 1) C dL_law_552 (by decide) ?_
                        refine g_iadd C dL_law_553 ?_
                        obtain ⟨h127, ok⟩ := gd_ok ok
                        refine q_sld C S h127 dL_law_554 ?_
                        refine g_aload_n C dL_law_555 rfl 0 rfl ?_
                        refine g_iload C dL_law_556 4 rfl ?_
                        refine g_iconst (v := 2) C dL_law_558 (by decide) ?_
                        refine g_iadd C dL_law_559 ?_
                        obtain ⟨h128, ok⟩ := gd_ok ok
                        refine q_sld C S h128 dL_law_560 ?_
                        refine g_aload_n C dL_law_561 rfl 0 rfl ?_
                        refine g_iload C dL_law_562 4 rfl ?_
                        refine g_iconst (v := 3) C dL_law_564 (by decide) ?_
                        refine g_iadd C dL_law_565 ?_
                        obtain ⟨h129, ok⟩ := gd_ok ok
                        refine q_sld C S h129 dL_law_566 ?_
                        refine g_aload_n C dL_law_567 rfl 3 rfl ?_
                        obtain ⟨r130, s131, e132, ok⟩ := bd_ok ok
                        refine q_cw C X [.ref (ad ε 0), .int (xs (x4 + (1 : Int32)).toNatClampNeg), .int (xs (x4 + (2 : Int32)).toNatClampNeg), .int (xs (x4 + (3 : Int32)).toNatClampNeg), .ref (ad ε 55)] (c_L_letter hl e132) ww_97 (by decide) rfl rfl (Nat.le_of_ble_eq_true rfl) (bbr hb) dL_law_568 ?_
                        refine g_istore C [(5, .int r130), (0, .ref b), (1, .ref (ad ε 0)), (2, .ref (ad ε 39)), (3, .ref (ad ε 55)), (4, .int x4)] dL_law_571 (by decide) rfl ?_
                        refine g_aload_n C dL_law_573 rfl 3 rfl ?_
                        refine g_aload_n C dL_law_574 rfl 1 rfl ?_
                        refine g_iload C dL_law_575 5 rfl ?_
                        refine g_iconst (v := 1) C dL_law_577 (by decide) ?_
                        refine g_iadd C dL_law_578 ?_
                        obtain ⟨h133, ok⟩ := gd_ok ok
                        refine q_sld C S h133 dL_law_579 ?_
                        refine g_aload_n C dL_law_580 rfl 1 rfl ?_
                        refine g_iload C dL_law_581 5 rfl ?_
                        refine g_iconst (v := 2) C dL_law_583 (by decide) ?_
                        refine g_iadd C dL_law_584 ?_
                        obtain ⟨h134, ok⟩ := gd_ok ok
                        refine q_sld C S h134 dL_law_585 ?_
                        refine g_aload_n C dL_law_586 rfl 1 rfl ?_
                        refine g_iload C dL_law_587 5 rfl ?_
                        refine g_iconst (v := 3) C dL_law_589 (by decide) ?_
                        refine g_iadd C dL_law_590 ?_
                        obtain ⟨h135, ok⟩ := gd_ok ok
                        refine q_sld C S h135 dL_law_591 ?_
                        obtain ⟨r136, s137, e138, ok⟩ := bd_ok ok
                        refine q_ck C [.int (xs (x4 + (1 : Int32)).toNatClampNeg), .int (xs (x4 + (2 : Int32)).toNatClampNeg), .int (xs (x4 + (3 : Int32)).toNatClampNeg)] (c_X9_letter e138) wv_L_100 (by decide) (lt_N (by decide)) wx_X9 rfl rfl rfl (Nat.le_of_ble_eq_true rfl) (bb0 (bb1 hb)) dL_law_592 ?_
                        refine g_istore C [(6, .int r136), (5, .int r130), (0, .ref b), (1, .ref (ad ε 0)), (2, .ref (ad ε 39)), (3, .ref (ad ε 55)), (4, .int x4)] dL_law_595 (by decide) rfl ?_
                        refine g_aload_n C dL_law_597 rfl 4 rfl ?_
                        obtain ⟨r139, s140, e141, ok⟩ := bd_ok ok
                        refine q_ck C [] (c_X9_thrown e141) wv_L_62 (by decide) (lt_N (by decide)) wx_X9 rfl rfl rfl (Nat.le_of_ble_eq_true rfl) (bb0 (bb1 hb)) dL_law_598 ?_
                        refine g_iload C dL_law_601 1 rfl ?_
                        refine g_icmp_eq (tgt := 608) C dL_law_603 (by decide) (fun c142 => ?_) (fun c142 => ?_)
                        · replace ok := ok_t c142 ok
                          refine g_iload C dL_law_608 1 rfl ?_
                          refine g_if_ne (tgt := 625) C dL_law_610 (by decide) (fun c143 => ?_) (fun c143 => ?_)
                          · replace ok := ok_f c143 ok
                            refine g_pick (lv' := [(0, .ref b), (1, .ref (ad ε 0)), (2, .ref (ad ε 39)), (3, .ref (ad ε 55)), (4, .int x4)]) ?_ [2, 3, 4, 5, 6] rfl
                            exact t_L_law_625 hl xs L C X S K k23 g23 _ _ (bb1 hb) _ _ ok
                          · replace ok := ok_t c143 ok
                            refine g_aload_n C dL_law_613 rfl 5 rfl ?_
                            refine g_iconst (v := 0) C dL_law_614 (by decide) ?_
                            refine q_lld C dL_law_615 ?_
                            refine g_iload C dL_law_616 0 rfl ?_
                            refine g_i2l C dL_law_618 rfl ?_
                            refine g_lcmp C dL_law_619 ?_
                            refine g_if_eq (tgt := 625) C dL_law_620 (by decide) (fun c144 => ?_) (fun c144 => ?_)
                            · replace ok := ok_t c144 ok
                              refine g_pick (lv' := [(0, .ref b), (1, .ref (ad ε 0)), (2, .ref (ad ε 39)), (3, .ref (ad ε 55)), (4, .int x4)]) ?_ [2, 3, 4, 5, 6] rfl
                              exact t_L_law_625 hl xs L C X S K k23 g23 _ _ (bb1 hb) _ _ ok
                            · replace ok := ok_f c144 ok
                              refine g_iconst (v := 0) C dL_law_623 (by decide) ?_
                              exact K 624 _ _ _ _ _ (bbz (bb1 hb)) dL_law_624 ok
                        · replace ok := ok_f c142 ok
                          refine g_iconst (v := 0) C dL_law_606 (by decide) ?_
                          exact K 607 _ _ _ _ _ (bbz (bb1 hb)) dL_law_607 ok
                      · replace ok := ok_f c126 ok
                        by_cases c145 : y3 = (10 : Int32)
                        · replace ok := ok_t c145 ok
                          refine g_tabIn (tgt := 628) C dL_law_39 (by rw [c145]; decide) (by rw [c145]; decide) (by rw [c145]; rfl) (by decide) ?_
                          refine g_aload_n C dL_law_628 rfl 1 rfl ?_
                          refine g_aload_n C dL_law_629 rfl 0 rfl ?_
                          refine g_iload C dL_law_630 4 rfl ?_
                          refine g_iconst (v := 1) C dL_law_632 (by decide) ?_
                          refine g_iadd C dL_law_633 ?_
                          obtain ⟨h146, ok⟩ := gd_ok ok
                          refine q_sld C S h146 dL_law_634 ?_
                          refine g_aload_n C dL_law_635 rfl 0 rfl ?_
                          refine g_iload C dL_law_636 4 rfl ?_
                          refine g_iconst (v := 2) C dL_law_638 (by decide) ?_
                          refine g_iadd C dL_law_639 ?_
                          obtain ⟨h147, ok⟩ := gd_ok ok
                          refine q_sld C S h147 dL_law_640 ?_
                          refine g_aload_n C dL_law_641 rfl 3 rfl ?_
                          obtain ⟨r148, s149, e150, ok⟩ := bd_ok ok
                          refine q_cw C X [.ref (ad ε 0), .int (xs (x4 + (1 : Int32)).toNatClampNeg), .int (xs (x4 + (2 : Int32)).toNatClampNeg), .ref (ad ε 55)] (c_L_bin hl e150) ww_101 (by decide) rfl rfl (Nat.le_of_ble_eq_true rfl) (bbr hb) dL_law_642 ?_
                          refine g_istore C [(5, .int r148), (0, .ref b), (1, .ref (ad ε 0)), (2, .ref (ad ε 39)), (3, .ref (ad ε 55)), (4, .int x4)] dL_law_645 (by decide) rfl ?_
                          refine g_aload_n C dL_law_647 rfl 3 rfl ?_
                          refine g_aload_n C dL_law_648 rfl 1 rfl ?_
                          refine g_iload C dL_law_649 5 rfl ?_
                          refine g_iconst (v := 1) C dL_law_651 (by decide) ?_
                          refine g_iadd C dL_law_652 ?_
                          obtain ⟨h151, ok⟩ := gd_ok ok
                          refine q_sld C S h151 dL_law_653 ?_
                          refine g_aload_n C dL_law_654 rfl 1 rfl ?_
                          refine g_iload C dL_law_655 5 rfl ?_
                          refine g_iconst (v := 2) C dL_law_657 (by decide) ?_
                          refine g_iadd C dL_law_658 ?_
                          obtain ⟨h152, ok⟩ := gd_ok ok
                          refine q_sld C S h152 dL_law_659 ?_
                          obtain ⟨r153, s154, e155, ok⟩ := bd_ok ok
                          refine q_ck C [.int (xs (x4 + (1 : Int32)).toNatClampNeg), .int (xs (x4 + (2 : Int32)).toNatClampNeg)] (c_X9_bin e155) wv_L_103 (by decide) (lt_N (by decide)) wx_X9 rfl rfl rfl (Nat.le_of_ble_eq_true rfl) (bb0 (bb1 hb)) dL_law_660 ?_
                          refine g_istore C [(6, .int r153), (5, .int r148), (0, .ref b), (1, .ref (ad ε 0)), (2, .ref (ad ε 39)), (3, .ref (ad ε 55)), (4, .int x4)] dL_law_663 (by decide) rfl ?_
                          refine g_aload_n C dL_law_665 rfl 4 rfl ?_
                          obtain ⟨r156, s157, e158, ok⟩ := bd_ok ok
                          refine q_ck C [] (c_X9_thrown e158) wv_L_62 (by decide) (lt_N (by decide)) wx_X9 rfl rfl rfl (Nat.le_of_ble_eq_true rfl) (bb0 (bb1 hb)) dL_law_666 ?_
                          refine g_iload C dL_law_669 1 rfl ?_
                          refine g_icmp_eq (tgt := 676) C dL_law_671 (by decide) (fun c159 => ?_) (fun c159 => ?_)
                          · replace ok := ok_t c159 ok
                            refine g_iload C dL_law_676 1 rfl ?_
                            refine g_if_ne (tgt := 693) C dL_law_678 (by decide) (fun c160 => ?_) (fun c160 => ?_)
                            · replace ok := ok_f c160 ok
                              refine g_pick (lv' := [(0, .ref b), (1, .ref (ad ε 0)), (2, .ref (ad ε 39)), (3, .ref (ad ε 55)), (4, .int x4)]) ?_ [2, 3, 4, 5, 6] rfl
                              exact t_L_law_693 hl xs L C X S K k23 g23 _ _ (bb1 hb) _ _ ok
                            · replace ok := ok_t c160 ok
                              refine g_aload_n C dL_law_681 rfl 5 rfl ?_
                              refine g_iconst (v := 0) C dL_law_682 (by decide) ?_
                              refine q_lld C dL_law_683 ?_
                              refine g_iload C dL_law_684 0 rfl ?_
                              refine g_i2l C dL_law_686 rfl ?_
                              refine g_lcmp C dL_law_687 ?_
                              refine g_if_eq (tgt := 693) C dL_law_688 (by decide) (fun c161 => ?_) (fun c161 => ?_)
                              · replace ok := ok_t c161 ok
                                refine g_pick (lv' := [(0, .ref b), (1, .ref (ad ε 0)), (2, .ref (ad ε 39)), (3, .ref (ad ε 55)), (4, .int x4)]) ?_ [2, 3, 4, 5, 6] rfl
                                exact t_L_law_693 hl xs L C X S K k23 g23 _ _ (bb1 hb) _ _ ok
                              · replace ok := ok_f c161 ok
                                refine g_iconst (v := 0) C dL_law_691 (by decide) ?_
                                exact K 692 _ _ _ _ _ (bbz (bb1 hb)) dL_law_692 ok
                          · replace ok := ok_f c159 ok
                            refine g_iconst (v := 0) C dL_law_674 (by decide) ?_
                            exact K 675 _ _ _ _ _ (bbz (bb1 hb)) dL_law_675 ok
                        · replace ok := ok_f c145 ok
                          by_cases c162 : y3 = (11 : Int32)
                          · replace ok := ok_t c162 ok
                            refine g_tabIn (tgt := 696) C dL_law_39 (by rw [c162]; decide) (by rw [c162]; decide) (by rw [c162]; rfl) (by decide) ?_
                            refine g_aload_n C dL_law_696 rfl 1 rfl ?_
                            refine g_aload_n C dL_law_697 rfl 0 rfl ?_
                            refine g_iload C dL_law_698 4 rfl ?_
                            refine g_iconst (v := 1) C dL_law_700 (by decide) ?_
                            refine g_iadd C dL_law_701 ?_
                            obtain ⟨h163, ok⟩ := gd_ok ok
                            refine q_sld C S h163 dL_law_702 ?_
                            refine g_aload_n C dL_law_703 rfl 0 rfl ?_
                            refine g_iload C dL_law_704 4 rfl ?_
                            refine g_iconst (v := 2) C dL_law_706 (by decide) ?_
                            refine g_iadd C dL_law_707 ?_
                            obtain ⟨h164, ok⟩ := gd_ok ok
                            refine q_sld C S h164 dL_law_708 ?_
                            refine g_aload_n C dL_law_709 rfl 0 rfl ?_
                            refine g_iload C dL_law_710 4 rfl ?_
                            refine g_iconst (v := 3) C dL_law_712 (by decide) ?_
                            refine g_iadd C dL_law_713 ?_
                            obtain ⟨h165, ok⟩ := gd_ok ok
                            refine q_sld C S h165 dL_law_714 ?_
                            refine g_aload_n C dL_law_715 rfl 3 rfl ?_
                            obtain ⟨r166, s167, e168, ok⟩ := bd_ok ok
                            refine q_cw C X [.ref (ad ε 0), .int (xs (x4 + (1 : Int32)).toNatClampNeg), .int (xs (x4 + (2 : Int32)).toNatClampNeg), .int (xs (x4 + (3 : Int32)).toNatClampNeg), .ref (ad ε 55)] (c_L_group hl e168) ww_104 (by decide) rfl rfl (Nat.le_of_ble_eq_true rfl) (bbr hb) dL_law_716 ?_
                            refine g_istore C [(5, .int r166), (0, .ref b), (1, .ref (ad ε 0)), (2, .ref (ad ε 39)), (3, .ref (ad ε 55)), (4, .int x4)] dL_law_719 (by decide) rfl ?_
                            refine g_aload_n C dL_law_721 rfl 3 rfl ?_
                            refine g_aload_n C dL_law_722 rfl 1 rfl ?_
                            refine g_iload C dL_law_723 5 rfl ?_
                            refine g_iconst (v := 1) C dL_law_725 (by decide) ?_
                            refine g_iadd C dL_law_726 ?_
                            obtain ⟨h169, ok⟩ := gd_ok ok
                            refine q_sld C S h169 dL_law_727 ?_
                            refine g_aload_n C dL_law_728 rfl 1 rfl ?_
                            refine g_iload C dL_law_729 5 rfl ?_
                            refine g_iconst (v := 2) C dL_law_731 (by decide) ?_
                            refine g_iadd C dL_law_732 ?_
                            obtain ⟨h170, ok⟩ := gd_ok ok
                            refine q_sld C S h170 dL_law_733 ?_
                            refine g_aload_n C dL_law_734 rfl 1 rfl ?_
                            refine g_iload C dL_law_735 5 rfl ?_
                            refine g_iconst (v := 3) C dL_law_737 (by decide) ?_
                            refine g_iadd C dL_law_738 ?_
                            obtain ⟨h171, ok⟩ := gd_ok ok
                            refine q_sld C S h171 dL_law_739 ?_
                            obtain ⟨r172, s173, e174, ok⟩ := bd_ok ok
                            refine q_ck C [.int (xs (x4 + (1 : Int32)).toNatClampNeg), .int (xs (x4 + (2 : Int32)).toNatClampNeg), .int (xs (x4 + (3 : Int32)).toNatClampNeg)] (c_X9_group e174) wv_L_106 (by decide) (lt_N (by decide)) wx_X9 rfl rfl rfl (Nat.le_of_ble_eq_true rfl) (bb0 (bb1 hb)) dL_law_740 ?_
                            refine g_istore C [(6, .int r172), (5, .int r166), (0, .ref b), (1, .ref (ad ε 0)), (2, .ref (ad ε 39)), (3, .ref (ad ε 55)), (4, .int x4)] dL_law_743 (by decide) rfl ?_
                            refine g_aload_n C dL_law_745 rfl 4 rfl ?_
                            obtain ⟨r175, s176, e177, ok⟩ := bd_ok ok
                            refine q_ck C [] (c_X9_thrown e177) wv_L_62 (by decide) (lt_N (by decide)) wx_X9 rfl rfl rfl (Nat.le_of_ble_eq_true rfl) (bb0 (bb1 hb)) dL_law_746 ?_
                            refine g_iload C dL_law_749 1 rfl ?_
                            refine g_icmp_eq (tgt := 756) C dL_law_751 (by decide) (fun c178 => ?_) (fun c178 => ?_)
                            · replace ok := ok_t c178 ok
                              refine g_iload C dL_law_756 1 rfl ?_
                              refine g_if_ne (tgt := 773) C dL_law_758 (by decide) (fun c179 => ?_) (fun c179 => ?_)
                              · replace ok := ok_f c179 ok
                                refine g_pick (lv' := [(0, .ref b), (1, .ref (ad ε 0)), (2, .ref (ad ε 39)), (3, .ref (ad ε 55)), (4, .int x4)]) ?_ [2, 3, 4, 5, 6] rfl
                                exact t_L_law_773 hl xs L C X S K k23 g23 _ _ (bb1 hb) _ _ ok
                              · replace ok := ok_t c179 ok
                                refine g_aload_n C dL_law_761 rfl 5 rfl ?_
                                refine g_iconst (v := 0) C dL_law_762 (by decide) ?_
                                refine q_lld C dL_law_763 ?_
                                refine g_iload C dL_law_764 0 rfl ?_
                                refine g_i2l C dL_law_766 rfl ?_
                                refine g_lcmp C dL_law_767 ?_
                                refine g_if_eq (tgt := 773) C dL_law_768 (by decide) (fun c180 => ?_) (fun c180 => ?_)
                                · replace ok := ok_t c180 ok
                                  refine g_pick (lv' := [(0, .ref b), (1, .ref (ad ε 0)), (2, .ref (ad ε 39)), (3, .ref (ad ε 55)), (4, .int x4)]) ?_ [2, 3, 4, 5, 6] rfl
                                  exact t_L_law_773 hl xs L C X S K k23 g23 _ _ (bb1 hb) _ _ ok
                                · replace ok := ok_f c180 ok
                                  refine g_iconst (v := 0) C dL_law_771 (by decide) ?_
                                  exact K 772 _ _ _ _ _ (bbz (bb1 hb)) dL_law_772 ok
                            · replace ok := ok_f c178 ok
                              refine g_iconst (v := 0) C dL_law_754 (by decide) ?_
                              exact K 755 _ _ _ _ _ (bbz (bb1 hb)) dL_law_755 ok
                          · replace ok := ok_f c162 ok
                            by_cases c181 : y3 = (12 : Int32)
                            · replace ok := ok_t c181 ok
                              refine g_tabIn (tgt := 776) C dL_law_39 (by rw [c181]; decide) (by rw [c181]; decide) (by rw [c181]; rfl) (by decide) ?_
                              refine g_aload_n C dL_law_776 rfl 1 rfl ?_
                              refine g_aload_n C dL_law_777 rfl 0 rfl ?_
                              refine g_iload C dL_law_778 4 rfl ?_
                              refine g_iconst (v := 1) C dL_law_780 (by decide) ?_
                              refine g_iadd C dL_law_781 ?_
                              obtain ⟨h182, ok⟩ := gd_ok ok
                              refine q_sld C S h182 dL_law_782 ?_
                              refine g_aload_n C dL_law_783 rfl 0 rfl ?_
                              refine g_iload C dL_law_784 4 rfl ?_
                              refine g_iconst (v := 2) C dL_law_786 (by decide) ?_
                              refine g_iadd C dL_law_787 ?_
                              obtain ⟨h183, ok⟩ := gd_ok ok
                              refine q_sld C S h183 dL_law_788 ?_
                              refine g_aload_n C dL_law_789 rfl 0 rfl ?_
                              refine g_iload C dL_law_790 4 rfl ?_
                              refine g_iconst (v := 3) C dL_law_792 (by decide) ?_
                              refine g_iadd C dL_law_793 ?_
                              obtain ⟨h184, ok⟩ := gd_ok ok
                              refine q_sld C S h184 dL_law_794 ?_
                              refine g_if_eq (tgt := 802) C dL_law_795 (by decide) (fun c185 => ?_) (fun c185 => ?_)
                              · replace ok := ok_t c185 ok
                                refine g_iconst (v := 0) C dL_law_802 (by decide) ?_
                                exact t_L_law_803 hl xs L C X S K k23 g23 _ _ hb _ _ _ _ _ ok
                              · replace ok := ok_f c185 ok
                                refine g_iconst (v := 1) C dL_law_798 (by decide) ?_
                                refine g_goto (tgt := 803) C dL_law_799 (by decide) ?_
                                exact t_L_law_803 hl xs L C X S K k23 g23 _ _ hb _ _ _ _ _ ok
                            · replace ok := ok_f c181 ok
                              by_cases c186 : y3 = (13 : Int32)
                              · replace ok := ok_t c186 ok
                                refine g_tabIn (tgt := 872) C dL_law_39 (by rw [c186]; decide) (by rw [c186]; decide) (by rw [c186]; rfl) (by decide) ?_
                                refine g_aload_n C dL_law_872 rfl 1 rfl ?_
                                refine g_aload_n C dL_law_873 rfl 0 rfl ?_
                                refine g_iload C dL_law_874 4 rfl ?_
                                refine g_iconst (v := 1) C dL_law_876 (by decide) ?_
                                refine g_iadd C dL_law_877 ?_
                                obtain ⟨h187, ok⟩ := gd_ok ok
                                refine q_sld C S h187 dL_law_878 ?_
                                refine g_aload_n C dL_law_879 rfl 3 rfl ?_
                                obtain ⟨r188, s189, e190, ok⟩ := bd_ok ok
                                refine q_cw C X [.ref (ad ε 0), .int (xs (x4 + (1 : Int32)).toNatClampNeg), .ref (ad ε 55)] (c_L_out hl e190) ww_111 (by decide) rfl rfl (Nat.le_of_ble_eq_true rfl) (bbr hb) dL_law_880 ?_
                                refine g_istore C [(5, .int r188), (0, .ref b), (1, .ref (ad ε 0)), (2, .ref (ad ε 39)), (3, .ref (ad ε 55)), (4, .int x4)] dL_law_883 (by decide) rfl ?_
                                refine g_aload_n C dL_law_885 rfl 3 rfl ?_
                                refine g_aload_n C dL_law_886 rfl 1 rfl ?_
                                refine g_iload C dL_law_887 5 rfl ?_
                                refine g_iconst (v := 1) C dL_law_889 (by decide) ?_
                                refine g_iadd C dL_law_890 ?_
                                obtain ⟨h191, ok⟩ := gd_ok ok
                                refine q_sld C S h191 dL_law_891 ?_
                                obtain ⟨r192, s193, e194, ok⟩ := bd_ok ok
                                refine q_ck C [.int (xs (x4 + (1 : Int32)).toNatClampNeg)] (c_X9_out e194) wv_L_113 (by decide) (lt_N (by decide)) wx_X9 rfl rfl rfl (Nat.le_of_ble_eq_true rfl) (bb0 (bb1 hb)) dL_law_892 ?_
                                refine g_istore C [(6, .int r192), (5, .int r188), (0, .ref b), (1, .ref (ad ε 0)), (2, .ref (ad ε 39)), (3, .ref (ad ε 55)), (4, .int x4)] dL_law_895 (by decide) rfl ?_
                                refine g_aload_n C dL_law_897 rfl 4 rfl ?_
                                obtain ⟨r195, s196, e197, ok⟩ := bd_ok ok
                                refine q_ck C [] (c_X9_thrown e197) wv_L_62 (by decide) (lt_N (by decide)) wx_X9 rfl rfl rfl (Nat.le_of_ble_eq_true rfl) (bb0 (bb1 hb)) dL_law_898 ?_
                                refine g_iload C dL_law_901 1 rfl ?_
                                refine g_icmp_eq (tgt := 908) C dL_law_903 (by decide) (fun c198 => ?_) (fun c198 => ?_)
                                · replace ok := ok_t c198 ok
                                  refine g_iload C dL_law_908 1 rfl ?_
                                  refine g_if_ne (tgt := 925) C dL_law_910 (by decide) (fun c199 => ?_) (fun c199 => ?_)
                                  · replace ok := ok_f c199 ok
                                    refine g_pick (lv' := [(0, .ref b), (1, .ref (ad ε 0)), (2, .ref (ad ε 39)), (3, .ref (ad ε 55)), (4, .int x4)]) ?_ [2, 3, 4, 5, 6] rfl
                                    exact t_L_law_925 hl xs L C X S K k23 g23 _ _ (bb1 hb) _ _ ok
                                  · replace ok := ok_t c199 ok
                                    refine g_aload_n C dL_law_913 rfl 5 rfl ?_
                                    refine g_iconst (v := 0) C dL_law_914 (by decide) ?_
                                    refine q_lld C dL_law_915 ?_
                                    refine g_iload C dL_law_916 0 rfl ?_
                                    refine g_i2l C dL_law_918 rfl ?_
                                    refine g_lcmp C dL_law_919 ?_
                                    refine g_if_eq (tgt := 925) C dL_law_920 (by decide) (fun c200 => ?_) (fun c200 => ?_)
                                    · replace ok := ok_t c200 ok
                                      refine g_pick (lv' := [(0, .ref b), (1, .ref (ad ε 0)), (2, .ref (ad ε 39)), (3, .ref (ad ε 55)), (4, .int x4)]) ?_ [2, 3, 4, 5, 6] rfl
                                      exact t_L_law_925 hl xs L C X S K k23 g23 _ _ (bb1 hb) _ _ ok
                                    · replace ok := ok_f c200 ok
                                      refine g_iconst (v := 0) C dL_law_923 (by decide) ?_
                                      exact K 924 _ _ _ _ _ (bbz (bb1 hb)) dL_law_924 ok
                                · replace ok := ok_f c198 ok
                                  refine g_iconst (v := 0) C dL_law_906 (by decide) ?_
                                  exact K 907 _ _ _ _ _ (bbz (bb1 hb)) dL_law_907 ok
                              · replace ok := ok_f c186 ok
                                by_cases c201 : y3 = (14 : Int32)
                                · replace ok := ok_t c201 ok
                                  refine g_tabIn (tgt := 928) C dL_law_39 (by rw [c201]; decide) (by rw [c201]; decide) (by rw [c201]; rfl) (by decide) ?_
                                  refine g_aload_n C dL_law_928 rfl 1 rfl ?_
                                  obtain ⟨r202, s203, e204, ok⟩ := bd_ok ok
                                  refine q_ck C [] (c_X8_again e204) wv_L_114 (by decide) (lt_N (by decide)) wx_X8 rfl rfl rfl (Nat.le_of_ble_eq_true rfl) (bb0 hb) dL_law_929 ?_
                                  refine g_aload_n C dL_law_932 rfl 2 rfl ?_
                                  obtain ⟨r205, s206, e207, ok⟩ := bd_ok ok
                                  refine q_ck C [] (c_X9_again e207) wv_L_117 (by decide) (lt_N (by decide)) wx_X9 rfl rfl rfl (Nat.le_of_ble_eq_true rfl) (bb0 hb) dL_law_933 ?_
                                  refine g_icmp_eq (tgt := 941) C dL_law_936 (by decide) (fun c208 => ?_) (fun c208 => ?_)
                                  · replace ok := ok_t c208 ok
                                    exact t_L_law_941 hl xs L C X S K k23 g23 _ _ (bbw hb) _ _ ok
                                  · replace ok := ok_f c208 ok
                                    refine g_iconst (v := 0) C dL_law_939 (by decide) ?_
                                    exact K 940 _ _ _ _ _ (bbz hb) dL_law_940 ok
                                · replace ok := ok_f c201 ok
                                  refine g_tabOut (tgt := 941) C dL_law_39 (tab_out 0 14 (by decide) (fun k h1k h2k => ?_)) (by decide) ?_
                                  · rcases (show k = 0 ∨ k = 1 ∨ k = 2 ∨ k = 3 ∨ k = 4 ∨ k = 5 ∨ k = 6 ∨ k = 7 ∨ k = 8 ∨ k = 9 ∨ k = 10 ∨ k = 11 ∨ k = 12 ∨ k = 13 ∨ k = 14 by omega) with rfl | rfl | rfl | rfl | rfl | rfl | rfl | rfl | rfl | rfl | rfl | rfl | rfl | rfl | rfl
                                    · exact c5
                                    · exact c24
                                    · exact c39
                                    · exact c47
                                    · exact c55
                                    · exact c63
                                    · exact c77
                                    · exact c92
                                    · exact c109
                                    · exact c126
                                    · exact c145
                                    · exact c162
                                    · exact c181
                                    · exact c186
                                    · exact c201
                                  · exact t_L_law_941 hl xs L C X S K k23 g23 _ _ (bbw hb) _ _ ok
def l_L_law_23 (xs : Nat → Int32) (L : Nat) : Nat → Int32 → St → Option Rs
  | 0 => fun _ _ => none
  | n + 1 => fun x4 σ => b_L_law_23 xs L (l_L_law_23 xs L n) x4 σ
theorem tl_L_law_23 {ε : Et} {κ : Kt} {b : Nat} {z : Rs} (hl : κ.2.1.stackTraces = false) (xs : Nat → Int32) (L : Nat) (C : Cx ε κ cL_law 7 RL 10) (X : Xk κ) (S : Sk κ b L xs) (K : ∀ (pc k n : Nat) (lv : List (Nat × Value)) (r : Int32) (σ : St), BB κ k n 0 → decode cL_law pc = .ok (.ireturn, 1) → some (r, σ) = some z → G ε κ k n pc lv [.int r] (WX ε σ)) : ∀ (j k n : Nat) (x4 : Int32) (σ : St), BB κ k n j → l_L_law_23 xs L j x4 σ = some z → G ε κ k n 23 [(0, .ref b), (1, .ref (ad ε 0)), (2, .ref (ad ε 39)), (3, .ref (ad ε 55)), (4, .int x4)] [] (WX ε σ) := by
  intro j
  induction j with
  | zero =>
    intro k n x4 σ hb ok
    cases ok
  | succ j ih =>
    intro k n x4 σ hb ok
    exact t_L_law_23 hl xs L C X S K (l_L_law_23 xs L j) ih k n hb x4 σ ok
end LW
