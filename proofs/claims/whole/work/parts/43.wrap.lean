section WR
def Xk (κ : Kt) : Prop := match κ with
  | (_, _, _, _, s, _, _, _, _, _, A, _) => Xok A s
def Tk (κ : Kt) (hh : List (Nat × Nat × Nat × Nat)) : Prop := match κ with
  | (_, _, _, _, _, _, _, _, _, c, _, _) => c.exceptionTable.toList = tableOf hh
/-- the call of a method that may throw, where a handler of this body takes what it throws -/
theorem g_callX {ε : Et} {κ : Kt} {cc : ByteArray} {nL d : Nat} {own : String} {k n pc : Nat} {lv : List (Nat × Value)} {σ : St} (C : Cx ε κ cc nL own d) (hX : Xk κ) {hh : List (Nat × Nat × Nat × Nat)} (hT9 : Tk κ hh) {y : MethodName} {bytes : ByteArray} {maxL d' b ci index np : Nat} {As rest st0 : List Value} {fs : List Value} {T : u_T} {N : Nat} {z : Rx}
    (hM : RXM κ.2.1 ε y bytes maxL d' (.ref (ad ε b) :: As) (WX ε σ) z) (hw9 : Wv own index y bytes maxL (some .int) np) (hdp : d' < d) (hb9 : b < NP) (he : WX ε σ b = .inr (ci, fs)) (hci : vwCl[ci]? = some (y.cls, T, N)) (hn : As.length = np) (hst : st0 = As.reverse ++ .ref (ad ε b) :: rest) (hcat : (rest.map fun v => v.category).sum ≤ 8) (hroom : k + 1 ≤ κ.2.2.2.1.cells ∧ n + 6 ≤ κ.2.2.2.1.slots) (hd : decode cc pc = .ok (.invokevirtual index, 3))
    (kt : z.1 ≠ 0 → ∃ (pre : List ExceptionTableEntry) (x : ExceptionTableEntry) (suf : List ExceptionTableEntry), tableOf hh = pre ++ x :: suf ∧ (∀ w ∈ pre, covers w pc = false ∨ (w.catchType ≠ 0 ∧ ∃ nm : String, Cond.classLink own w.catchType nm ∈ TB ∧ (exN z.1, nm) ∈ NCC)) ∧ covers x pc = true ∧ x.catchType ≠ 0 ∧ Cond.classLink own x.catchType (exN z.1) ∈ TB ∧ (exN z.1, exN z.1) ∈ NGC ∧ ∀ q : Nat, G ε κ (k + 1) (n + 6) x.handlerPc lv [.ref q] (WX ε z.2.2))
    (kk : z.1 = 0 → G ε κ (k + 1) (n + 6) (pc + 3) lv (.int z.2.1 :: rest) (WX ε z.2.2)) : G ε κ k n pc lv st0 (WX ε σ) := by
  obtain ⟨p, l, e0, R, s, m, args, below, meth, c, A, Q⟩ := κ
  obtain ⟨hx, hb, hml, hown, hts, hK, hN, hlk, hA, hfr, hlo⟩ := C
  intro H locs ls hw hl
  obtain ⟨w1, w2, w3, w4, w5, w6, w7⟩ := hw9
  have hq := pl_get (ε := ε) (h := WX ε σ) hb9
  rw [he] at hq
  have hG : GoodIn TB (.code y bytes maxL (some .int) :: TB) := tb_goodc w5
  have hf : ∀ q, va_A (pl ε (WX ε σ)) H.size q → A q := fun q hq => hq.elim (fun ⟨i, e9, h9⟩ => hw.2.1.2 i _ h9) (fun h9 => hA q (Nat.le_trans hw.2.2.1 h9))
  have hS := hw.2.2
  have hr := vx_runV (p := p) (e := e0) (below := below) (meth := meth) (locs := locs) (cells := k) (slots := n) (R := R) (g := F0 m pc ls st0) (Ts := TB) (As := As) (rest := rest) (C := y.cls) (b := ad ε b) ⟨hx, hb, hml, hown, hts⟩ (hM H.size) ⟨callB_of np hts hG rfl rfl rfl (hts _ w4) (hts _ w1) w7 ⟨Nat.le_trans hdp hfr, (by show 8 + (maxL + 11) + 30 * d' ≤ R.locals; omega)⟩, hts _ w2, hts _ w3⟩ ⟨fblindx, va_recv hK hw.1 hci hq, fun U hU hW => ⟨rfl, ⟨by rw [hU], by rw [hU]; exact hw.1, va_K.moved hW.alike hK, fun z hz => va_Nw.warmM hW (hN z hz), hw.2.1.weaken (fun _ _ _ _ => trivial)⟩, Xok.go hX hW hU hS hf⟩⟩ rfl hn (hl.1.trans hml) hst (lv_room hcat) hd hroom
  intro T0 hT X
  rcases hr T0 hT X with ⟨v, st₀, t, T', L, h0, X', hL, e1, e2, ⟨⟨v', h1, hv, hp, hP1, hD1⟩, hz, hk⟩, stp⟩ | ⟨q, st₀, t, T', L, E, ce, h0, X', hL, e1, e2, hxc, hce, hcv, hcl, stp⟩
  · cases hv
    obtain ⟨hz0, rfl, rfl⟩ := hp
    rw [h0] at hz hk
    obtain ⟨t2, a1, b1⟩ := kk hz0 T'.heap (locs ++ L) ls ⟨by rw [e1]; exact hP1, hD1.weaken (fun _ _ _ h9 => hf _ h9), ⟨Nat.le_trans hS.1 (by rw [e1]; exact hz), fun q h1 h2 => by rw [e1, hk q (Nat.lt_of_lt_of_le h1 hS.1) (fun z => h2 (hf q z))]; exact hS.2.1 q h1 h2, fun q hq => by
      rcases List.mem_append.mp hq with h | h
      · exact hS.2.2 q h
      · exact hf _ (hL q h)⟩⟩ hl T' rfl X'
    exact ⟨t2, stp t2 a1, b1⟩
  · obtain ⟨hz0, hE, hP1, hD1, hz, hk⟩ := hxc
    rw [h0] at hz hk
    obtain ⟨pre, x, suf, hsp, hpa, hcx, hx0, hlk9, hcs, kg⟩ := kt hz0
    subst hE
    have hwd : Wd ε A s.heap (WX ε z.2.2) T'.heap (locs ++ L) := ⟨by rw [e1]; exact hP1, hD1.weaken (fun _ _ _ h9 => hf _ h9), ⟨Nat.le_trans hS.1 (by rw [e1]; exact hz), fun q h1 h2 => by rw [e1, hk q (Nat.lt_of_lt_of_le h1 hS.1) (fun z => h2 (hf q z))]; exact hS.2.1 q h1 h2, fun q hq => by
      rcases List.mem_append.mp hq with h | h
      · exact hS.2.2 q h
      · exact hf _ (hL q h)⟩⟩
    have hW := vx_catch (p := p) (l := l) (e := e0) (R := R) (s := s) (m := m) (args := args) (below := below) (meth := meth) (c := c) (H := T'.heap) (locs := locs ++ L) (cells := k + 1) (slots := n + 6) (Q := Q) (pc := pc) (ls := ls) (rest := rest) (E := exN z.1) (ce := ce) (q := q) (name := exN z.1) hown pre x suf (hT9.trans hsp) (fun w hw => (hpa w hw).elim Or.inl (fun ⟨h1, nm, h2, h3⟩ => Or.inr ⟨h1, nm, hts _ h2, hX.2.2.2.2.2 _ h3⟩)) hcx hx0 (hts _ hlk9) (va_Nw.use rfl (hX.1 _ hcs)) (by rw [e1]; exact hce) hcv hcl (kg q T'.heap (locs ++ L) ls hwd hl)
    obtain ⟨t2, a1, b1⟩ := hW T' rfl X'
    exact ⟨t2, stp.trans a1, b1⟩
/-- what a wrapper answers: 0, with the answer stored, or which handler took the throw -/
def wr (hs : List Nat) (o : Option Rx) : Option Rs := match o with
  | none => none
  | some z => if z.1 = 0 then some (0, sJ z.2.2 (vp_updL z.2.2.2.2.2.2 0 z.2.1.toInt64)) else if z.1 ∈ hs then some (nI (hs.idxOf z.1 + 1), z.2.2) else none
theorem wr_ok {hs : List Nat} {o : Option Rx} {w : Rs} (h : wr hs o = some w) : ∃ z, o = some z ∧ (z.1 = 0 ∧ w = (0, sJ z.2.2 (vp_updL z.2.2.2.2.2.2 0 z.2.1.toInt64)) ∨ z.1 ≠ 0 ∧ z.1 ∈ hs ∧ w = (nI (hs.idxOf z.1 + 1), z.2.2)) := by
  cases o with
  | none => cases h
  | some z =>
    refine ⟨z, rfl, ?_⟩
    simp only [wr] at h
    split at h
    · exact Or.inl ⟨‹_›, (Option.some.inj h).symm⟩
    · split at h
      · exact Or.inr ⟨‹_›, ‹_›, (Option.some.inj h).symm⟩
      · cases h
def RW (l : Launch) (ε : Et) (y : MethodName) (cc : ByteArray) (nL : Nat) (hh : List (Nat × Nat × Nat × Nat)) (d : Nat) (av : List Value) (h : Hp) (w : Rs) : Prop :=
  ∀ sz : Nat, Met l y (.codeWith y cc nL (some .int) hh :: TB) (rmD d 1 6) (Pgx ε av h sz) (Qg ε (PI ε w) (va_A (pl ε h) sz)) 1 6 (va_A (pl ε h) sz)
theorem RW.of {ε : Et} {cc : ByteArray} {nL d : Nat} {l : Launch} {y : MethodName} {hh : List (Nat × Nat × Nat × Nat)} {av : List Value} {h : Hp} {w : Rs} (hy : plainName y.cls = true) (hav : (lg_sl av).length ≤ nL)
    (body : ∀ κ : Kt, κ.2.1 = l → κ.2.2.2.1 = rmD d 1 6 → Cx ε κ cc nL y.cls d → Xk κ → Tk κ hh → (∀ (pc : Nat) (lv : List (Nat × Value)) (r : Int32) (σ : St), decode cc pc = .ok (.ireturn, 1) → some (r, σ) = some w → G ε κ 1 6 pc lv [.int r] (WX ε σ)) → G ε κ 0 0 0 (lv_args 0 av) [] h) : RW l ε y cc nL hh d av h w := by
  intro sz
  have hV : vx_Met l y (.codeWith y cc nL (some .int) hh :: TB) (rmD d 1 6) (Pgx ε av h sz) (Qg ε (PI ε w) (va_A (pl ε h) sz)) (fun _ _ _ => False) 1 6 (va_A (pl ε h) sz) := by
    refine vx_ofWH (cc := cc) (maxL := nL) (ret := some .int) (hh := hh) hy rfl ?_
    intro p e s m args below meth c s₁ B hml hv
    obtain ⟨rfl, ⟨hsz, hP, hK, hN, hD0⟩, hX⟩ := hv
    subst hsz
    have hts := atoms_spec (ws := .codeWith y cc nL (some .int) hh :: TB) B.pre
    have htb : ∀ w ∈ TB, w.before av.toArray s = true := fun w hw => hts w (List.mem_cons_of_mem _ hw)
    have hD := hD0.self (sz := s.heap.size)
    have hA : ∀ q : Nat, s.heap.size ≤ q → va_A (pl ε h) s.heap.size q := fun q h => Or.inr h
    have hlv := lv_entry av (n := nL) hav
    have hown : s.vm.findClass y.cls = some m.cls := findClass_of_methodNamed B.named
    rw [lg_entry_eq]
    have hr := B.returns
    have hlk : meth.locks = false := B.notSynchronized
    refine body (p, l, e, _, s, m, av.toArray, below, meth, c, _, _) rfl rfl ⟨B.exec, B.bytes, hml, hown, htb, hK, hN, hlk, hA, Nat.le_refl _, Nat.le_refl _⟩ hX (vx_table (x := y) B (hts _ List.mem_cons_self)) ?_ s.heap [] _ ⟨hP, hD, va_S.rf⟩ (by rw [hml]; exact hlv)
    intro pc lv r σ hd hz H locs ls hw hl9
    refine vx_ret ?_
    cases hz
    exact W.iret B.exec B.bytes hr (fun t ht hW => ⟨⟨some (.int r), WX ε σ, rfl, ⟨rfl, rfl⟩, by rw [ht]; exact hw.1, hw.2.1⟩, hw.2.2.F ht⟩) hw.2.2.2.2 hd
  intro p e ha hc hk s m args below hf happ hP hK
  obtain ⟨k, o, h1, h2, h3, hQ⟩ := hV p e ha hc hk s m args below hf happ hP hK
  refine ⟨k, o, h1, h2, h3, ?_⟩
  rcases hQ with hQ | ⟨q, -, E, ce, L, hx, -⟩
  · exact hQ
  · exact hx.elim
theorem wx_55 {ε : Et} {σ : St} : WX ε σ 55 = aJ ε 1 σ.2.2.2.2 := rfl
theorem q_lst {ε : Et} {κ : Kt} {cc : ByteArray} {nL d : Nat} {own : String} {k n pc : Nat} {lv : List (Nat × Value)} {st : List Value} {σ : St} (C : Cx ε κ cc nL own d) {x : Int64} (hd : decode cc pc = .ok (.lastore, 1)) (kk : G ε κ k n (pc + 1) lv st (WX ε (sJ σ (vp_updL σ.2.2.2.2 0 x)))) : G ε κ k n pc lv (.long x :: .int 0 :: .ref (ad ε 55) :: st) (WX ε σ) := g_lst C (lt_N (by decide)) wx_55 (show vp_in (nI 0) 1 from vp_in_nI (by decide) (by decide)) hd (fun h1 e1 => by
  have e2 : h1 = WX ε (sJ σ (vp_updL σ.2.2.2.2 0 x)) := by
    rw [e1]
    funext q
    by_cases hq : q = 55
    · subst hq
      rw [va_up_self]
      rfl
    · rw [va_up_ne _ _ hq]
      simp only [WX, sJ]
      unfold cO
      split <;> first | rfl | exact absurd rfl hq
  rw [e2]
  exact kk)
set_option maxRecDepth 20000 in
theorem lk_13 : Cond.classLink RL 13 "java/lang/IllegalArgumentException" ∈ TB := tb_in (i := 388) rfl rfl
set_option maxRecDepth 20000 in
theorem lk_22 : Cond.classLink RL 22 "java/lang/IndexOutOfBoundsException" ∈ TB := tb_in (i := 590) rfl rfl
set_option maxRecDepth 20000 in
theorem lk_38 : Cond.classLink RL 38 "java/lang/IllegalStateException" ∈ TB := tb_in (i := 829) rfl rfl
theorem ngc_1 : (exN 1, exN 1) ∈ NGC := by decide +kernel
theorem ngc_2 : (exN 2, exN 2) ∈ NGC := by decide +kernel
theorem ngc_3 : (exN 3, exN 3) ∈ NGC := by decide +kernel
theorem ncc_2_1 : (exN 2, exN 1) ∈ NCC := by decide +kernel
theorem ncc_3_1 : (exN 3, exN 1) ∈ NCC := by decide +kernel
theorem ncc_3_2 : (exN 3, exN 2) ∈ NCC := by decide +kernel
set_option maxRecDepth 10000 in
theorem c_L_feed {l : Launch} (hl : l.stackTraces = false) {ε : Et} {σ : St} {w : Rs} {x1 : Int32} {x2 : Int64} (e : wr [1] (f_X8_feed x1 x2 σ) = some w) : RW l ε yL_feed cL_feed 6 [(0, 11, 14, 13)] 8 [.ref (ad ε 0), .int x1, .long x2, .ref (ad ε 55)] (WX ε σ) w := by
  obtain ⟨z, ez, hz⟩ := wr_ok e
  refine RW.of (by decide) (Nat.le_of_ble_eq_true rfl) (fun κ hkl hkr C hX hT K => ?_)
  refine g_aload C dL_feed_0 3 rfl ?_
  refine g_iconst (v := 0) C dL_feed_2 (by decide) ?_
  refine g_aload_n C dL_feed_3 rfl 0 rfl ?_
  refine g_iload_n C dL_feed_4 rfl 1 rfl ?_
  refine g_lload_n C dL_feed_5 rfl 2 rfl ?_
  refine g_callX C hX hT (As := [.int x1, .long x2]) (z := z) (by rw [hkl]; exact c_X8_feed hl ez) wv_L_7 (by decide) (lt_N (by decide)) wx_X8 rfl rfl rfl (Nat.le_of_ble_eq_true rfl) (by rw [hkr]; exact ⟨Nat.le_refl _, Nat.le_refl _⟩) dL_feed_6 ?_ ?_
  · intro h0
    rcases hz with ⟨hz0, -⟩ | ⟨-, hm, rfl⟩
    · exact absurd hz0 h0
    · obtain ⟨zk, zr0, zs⟩ := z
      simp only [List.mem_cons, List.not_mem_nil, or_false] at hm
      rcases hm with rfl
      · refine ⟨[], ⟨0, 11, 14, 13⟩, [], rfl, (fun w hw => nomatch hw), by decide, by decide, lk_13, ngc_1, fun q => ?_⟩
        refine g_astore C [(5, .ref q), (0, .ref (ad ε 0)), (1, .int x1), (2, .long x2), (4, .ref (ad ε 55))] dL_feed_14 (by decide) rfl ?_
        refine g_iconst (v := 1) C dL_feed_16 (by decide) ?_
        exact K _ _ _ _ dL_feed_17 rfl
  · intro h0
    rcases hz with ⟨-, rfl⟩ | ⟨hz0, -⟩
    · refine g_i2l C dL_feed_9 rfl ?_
      refine q_lst C dL_feed_10 ?_
      refine g_goto (tgt := 18) C dL_feed_11 (by decide) ?_
      refine g_iconst (v := 0) C dL_feed_18 (by decide) ?_
      exact K _ _ _ _ dL_feed_19 rfl
    · exact absurd h0 hz0
set_option maxRecDepth 10000 in
theorem c_L_read {l : Launch} (hl : l.stackTraces = false) {ε : Et} {σ : St} {w : Rs} {x1 : Int32} (e : wr [1] (f_X8_read x1 σ) = some w) : RW l ε yL_read cL_read 4 [(0, 9, 12, 13)] 8 [.ref (ad ε 0), .int x1, .ref (ad ε 55)] (WX ε σ) w := by
  obtain ⟨z, ez, hz⟩ := wr_ok e
  refine RW.of (by decide) (Nat.le_of_ble_eq_true rfl) (fun κ hkl hkr C hX hT K => ?_)
  refine g_aload_n C dL_read_0 rfl 2 rfl ?_
  refine g_iconst (v := 0) C dL_read_1 (by decide) ?_
  refine g_aload_n C dL_read_2 rfl 0 rfl ?_
  refine g_iload_n C dL_read_3 rfl 1 rfl ?_
  refine g_callX C hX hT (As := [.int x1]) (z := z) (by rw [hkl]; exact c_X8_read hl ez) wv_L_15 (by decide) (lt_N (by decide)) wx_X8 rfl rfl rfl (Nat.le_of_ble_eq_true rfl) (by rw [hkr]; exact ⟨Nat.le_refl _, Nat.le_refl _⟩) dL_read_4 ?_ ?_
  · intro h0
    rcases hz with ⟨hz0, -⟩ | ⟨-, hm, rfl⟩
    · exact absurd hz0 h0
    · obtain ⟨zk, zr0, zs⟩ := z
      simp only [List.mem_cons, List.not_mem_nil, or_false] at hm
      rcases hm with rfl
      · refine ⟨[], ⟨0, 9, 12, 13⟩, [], rfl, (fun w hw => nomatch hw), by decide, by decide, lk_13, ngc_1, fun q => ?_⟩
        refine g_astore_n C [(3, .ref q), (0, .ref (ad ε 0)), (1, .int x1), (2, .ref (ad ε 55))] dL_read_12 rfl (by decide) rfl ?_
        refine g_iconst (v := 1) C dL_read_13 (by decide) ?_
        exact K _ _ _ _ dL_read_14 rfl
  · intro h0
    rcases hz with ⟨-, rfl⟩ | ⟨hz0, -⟩
    · refine g_i2l C dL_read_7 rfl ?_
      refine q_lst C dL_read_8 ?_
      refine g_goto (tgt := 15) C dL_read_9 (by decide) ?_
      refine g_iconst (v := 0) C dL_read_15 (by decide) ?_
      exact K _ _ _ _ dL_read_16 rfl
    · exact absurd h0 hz0
set_option maxRecDepth 10000 in
theorem c_L_told {l : Launch} (hl : l.stackTraces = false) {ε : Et} {σ : St} {w : Rs} {x1 : Int32} (e : wr [2] (f_X8_told x1 σ) = some w) : RW l ε yL_told cL_told 4 [(0, 9, 12, 22)] 8 [.ref (ad ε 0), .int x1, .ref (ad ε 55)] (WX ε σ) w := by
  obtain ⟨z, ez, hz⟩ := wr_ok e
  refine RW.of (by decide) (Nat.le_of_ble_eq_true rfl) (fun κ hkl hkr C hX hT K => ?_)
  refine g_aload_n C dL_told_0 rfl 2 rfl ?_
  refine g_iconst (v := 0) C dL_told_1 (by decide) ?_
  refine g_aload_n C dL_told_2 rfl 0 rfl ?_
  refine g_iload_n C dL_told_3 rfl 1 rfl ?_
  refine g_callX C hX hT (As := [.int x1]) (z := z) (by rw [hkl]; exact c_X8_told hl ez) wv_L_19 (by decide) (lt_N (by decide)) wx_X8 rfl rfl rfl (Nat.le_of_ble_eq_true rfl) (by rw [hkr]; exact ⟨Nat.le_refl _, Nat.le_refl _⟩) dL_told_4 ?_ ?_
  · intro h0
    rcases hz with ⟨hz0, -⟩ | ⟨-, hm, rfl⟩
    · exact absurd hz0 h0
    · obtain ⟨zk, zr0, zs⟩ := z
      simp only [List.mem_cons, List.not_mem_nil, or_false] at hm
      rcases hm with rfl
      · refine ⟨[], ⟨0, 9, 12, 22⟩, [], rfl, (fun w hw => nomatch hw), by decide, by decide, lk_22, ngc_2, fun q => ?_⟩
        refine g_astore_n C [(3, .ref q), (0, .ref (ad ε 0)), (1, .int x1), (2, .ref (ad ε 55))] dL_told_12 rfl (by decide) rfl ?_
        refine g_iconst (v := 1) C dL_told_13 (by decide) ?_
        exact K _ _ _ _ dL_told_14 rfl
  · intro h0
    rcases hz with ⟨-, rfl⟩ | ⟨hz0, -⟩
    · refine g_i2l C dL_told_7 rfl ?_
      refine q_lst C dL_told_8 ?_
      refine g_goto (tgt := 15) C dL_told_9 (by decide) ?_
      refine g_iconst (v := 0) C dL_told_15 (by decide) ?_
      exact K _ _ _ _ dL_told_16 rfl
    · exact absurd h0 hz0
set_option maxRecDepth 10000 in
theorem c_L_sort {l : Launch} (hl : l.stackTraces = false) {ε : Et} {σ : St} {w : Rs} {x1 : Int32} {x2 : Int32} (e : wr [1] (f_X8_sort x1 x2 σ) = some w) : RW l ε yL_sort cL_sort 5 [(0, 10, 13, 13)] 8 [.ref (ad ε 0), .int x1, .int x2, .ref (ad ε 55)] (WX ε σ) w := by
  obtain ⟨z, ez, hz⟩ := wr_ok e
  refine RW.of (by decide) (Nat.le_of_ble_eq_true rfl) (fun κ hkl hkr C hX hT K => ?_)
  refine g_aload_n C dL_sort_0 rfl 3 rfl ?_
  refine g_iconst (v := 0) C dL_sort_1 (by decide) ?_
  refine g_aload_n C dL_sort_2 rfl 0 rfl ?_
  refine g_iload_n C dL_sort_3 rfl 1 rfl ?_
  refine g_iload_n C dL_sort_4 rfl 2 rfl ?_
  refine g_callX C hX hT (As := [.int x1, .int x2]) (z := z) (by rw [hkl]; exact c_X8_sort hl ez) wv_L_24 (by decide) (lt_N (by decide)) wx_X8 rfl rfl rfl (Nat.le_of_ble_eq_true rfl) (by rw [hkr]; exact ⟨Nat.le_refl _, Nat.le_refl _⟩) dL_sort_5 ?_ ?_
  · intro h0
    rcases hz with ⟨hz0, -⟩ | ⟨-, hm, rfl⟩
    · exact absurd hz0 h0
    · obtain ⟨zk, zr0, zs⟩ := z
      simp only [List.mem_cons, List.not_mem_nil, or_false] at hm
      rcases hm with rfl
      · refine ⟨[], ⟨0, 10, 13, 13⟩, [], rfl, (fun w hw => nomatch hw), by decide, by decide, lk_13, ngc_1, fun q => ?_⟩
        refine g_astore C [(4, .ref q), (0, .ref (ad ε 0)), (1, .int x1), (2, .int x2), (3, .ref (ad ε 55))] dL_sort_13 (by decide) rfl ?_
        refine g_iconst (v := 1) C dL_sort_15 (by decide) ?_
        exact K _ _ _ _ dL_sort_16 rfl
  · intro h0
    rcases hz with ⟨-, rfl⟩ | ⟨hz0, -⟩
    · refine g_i2l C dL_sort_8 rfl ?_
      refine q_lst C dL_sort_9 ?_
      refine g_goto (tgt := 17) C dL_sort_10 (by decide) ?_
      refine g_iconst (v := 0) C dL_sort_17 (by decide) ?_
      exact K _ _ _ _ dL_sort_18 rfl
    · exact absurd h0 hz0
set_option maxRecDepth 10000 in
theorem c_L_about {l : Launch} (hl : l.stackTraces = false) {ε : Et} {σ : St} {w : Rs} {x1 : Int32} {x2 : Int32} (e : wr [2] (f_X8_about x1 x2 σ) = some w) : RW l ε yL_about cL_about 5 [(0, 10, 13, 22)] 8 [.ref (ad ε 0), .int x1, .int x2, .ref (ad ε 55)] (WX ε σ) w := by
  obtain ⟨z, ez, hz⟩ := wr_ok e
  refine RW.of (by decide) (Nat.le_of_ble_eq_true rfl) (fun κ hkl hkr C hX hT K => ?_)
  refine g_aload_n C dL_about_0 rfl 3 rfl ?_
  refine g_iconst (v := 0) C dL_about_1 (by decide) ?_
  refine g_aload_n C dL_about_2 rfl 0 rfl ?_
  refine g_iload_n C dL_about_3 rfl 1 rfl ?_
  refine g_iload_n C dL_about_4 rfl 2 rfl ?_
  refine g_callX C hX hT (As := [.int x1, .int x2]) (z := z) (by rw [hkl]; exact c_X8_about hl ez) wv_L_28 (by decide) (lt_N (by decide)) wx_X8 rfl rfl rfl (Nat.le_of_ble_eq_true rfl) (by rw [hkr]; exact ⟨Nat.le_refl _, Nat.le_refl _⟩) dL_about_5 ?_ ?_
  · intro h0
    rcases hz with ⟨hz0, -⟩ | ⟨-, hm, rfl⟩
    · exact absurd hz0 h0
    · obtain ⟨zk, zr0, zs⟩ := z
      simp only [List.mem_cons, List.not_mem_nil, or_false] at hm
      rcases hm with rfl
      · refine ⟨[], ⟨0, 10, 13, 22⟩, [], rfl, (fun w hw => nomatch hw), by decide, by decide, lk_22, ngc_2, fun q => ?_⟩
        refine g_astore C [(4, .ref q), (0, .ref (ad ε 0)), (1, .int x1), (2, .int x2), (3, .ref (ad ε 55))] dL_about_13 (by decide) rfl ?_
        refine g_iconst (v := 1) C dL_about_15 (by decide) ?_
        exact K _ _ _ _ dL_about_16 rfl
  · intro h0
    rcases hz with ⟨-, rfl⟩ | ⟨hz0, -⟩
    · refine g_i2l C dL_about_8 rfl ?_
      refine q_lst C dL_about_9 ?_
      refine g_goto (tgt := 17) C dL_about_10 (by decide) ?_
      refine g_iconst (v := 0) C dL_about_17 (by decide) ?_
      exact K _ _ _ _ dL_about_18 rfl
    · exact absurd h0 hz0
set_option maxRecDepth 10000 in
theorem c_L_letter {l : Launch} (hl : l.stackTraces = false) {ε : Et} {σ : St} {w : Rs} {x1 : Int32} {x2 : Int32} {x3 : Int32} (e : wr [2] (f_X8_letter x1 x2 x3 σ) = some w) : RW l ε yL_letter cL_letter 6 [(0, 12, 15, 22)] 8 [.ref (ad ε 0), .int x1, .int x2, .int x3, .ref (ad ε 55)] (WX ε σ) w := by
  obtain ⟨z, ez, hz⟩ := wr_ok e
  refine RW.of (by decide) (Nat.le_of_ble_eq_true rfl) (fun κ hkl hkr C hX hT K => ?_)
  refine g_aload C dL_letter_0 4 rfl ?_
  refine g_iconst (v := 0) C dL_letter_2 (by decide) ?_
  refine g_aload_n C dL_letter_3 rfl 0 rfl ?_
  refine g_iload_n C dL_letter_4 rfl 1 rfl ?_
  refine g_iload_n C dL_letter_5 rfl 2 rfl ?_
  refine g_iload_n C dL_letter_6 rfl 3 rfl ?_
  refine g_callX C hX hT (As := [.int x1, .int x2, .int x3]) (z := z) (by rw [hkl]; exact c_X8_letter hl ez) wv_L_31 (by decide) (lt_N (by decide)) wx_X8 rfl rfl rfl (Nat.le_of_ble_eq_true rfl) (by rw [hkr]; exact ⟨Nat.le_refl _, Nat.le_refl _⟩) dL_letter_7 ?_ ?_
  · intro h0
    rcases hz with ⟨hz0, -⟩ | ⟨-, hm, rfl⟩
    · exact absurd hz0 h0
    · obtain ⟨zk, zr0, zs⟩ := z
      simp only [List.mem_cons, List.not_mem_nil, or_false] at hm
      rcases hm with rfl
      · refine ⟨[], ⟨0, 12, 15, 22⟩, [], rfl, (fun w hw => nomatch hw), by decide, by decide, lk_22, ngc_2, fun q => ?_⟩
        refine g_astore C [(5, .ref q), (0, .ref (ad ε 0)), (1, .int x1), (2, .int x2), (3, .int x3), (4, .ref (ad ε 55))] dL_letter_15 (by decide) rfl ?_
        refine g_iconst (v := 1) C dL_letter_17 (by decide) ?_
        exact K _ _ _ _ dL_letter_18 rfl
  · intro h0
    rcases hz with ⟨-, rfl⟩ | ⟨hz0, -⟩
    · refine g_i2l C dL_letter_10 rfl ?_
      refine q_lst C dL_letter_11 ?_
      refine g_goto (tgt := 19) C dL_letter_12 (by decide) ?_
      refine g_iconst (v := 0) C dL_letter_19 (by decide) ?_
      exact K _ _ _ _ dL_letter_20 rfl
    · exact absurd h0 hz0
set_option maxRecDepth 10000 in
theorem c_L_bin {l : Launch} (hl : l.stackTraces = false) {ε : Et} {σ : St} {w : Rs} {x1 : Int32} {x2 : Int32} (e : wr [2, 3] (f_X8_bin x1 x2 σ) = some w) : RW l ε yL_bin cL_bin 5 [(0, 10, 13, 22), (0, 10, 17, 38)] 8 [.ref (ad ε 0), .int x1, .int x2, .ref (ad ε 55)] (WX ε σ) w := by
  obtain ⟨z, ez, hz⟩ := wr_ok e
  refine RW.of (by decide) (Nat.le_of_ble_eq_true rfl) (fun κ hkl hkr C hX hT K => ?_)
  refine g_aload_n C dL_bin_0 rfl 3 rfl ?_
  refine g_iconst (v := 0) C dL_bin_1 (by decide) ?_
  refine g_aload_n C dL_bin_2 rfl 0 rfl ?_
  refine g_iload_n C dL_bin_3 rfl 1 rfl ?_
  refine g_iload_n C dL_bin_4 rfl 2 rfl ?_
  refine g_callX C hX hT (As := [.int x1, .int x2]) (z := z) (by rw [hkl]; exact c_X8_bin hl ez) wv_L_35 (by decide) (lt_N (by decide)) wx_X8 rfl rfl rfl (Nat.le_of_ble_eq_true rfl) (by rw [hkr]; exact ⟨Nat.le_refl _, Nat.le_refl _⟩) dL_bin_5 ?_ ?_
  · intro h0
    rcases hz with ⟨hz0, -⟩ | ⟨-, hm, rfl⟩
    · exact absurd hz0 h0
    · obtain ⟨zk, zr0, zs⟩ := z
      simp only [List.mem_cons, List.not_mem_nil, or_false] at hm
      rcases hm with rfl | rfl
      · refine ⟨[], ⟨0, 10, 13, 22⟩, [⟨0, 10, 17, 38⟩], rfl, (fun w hw => nomatch hw), by decide, by decide, lk_22, ngc_2, fun q => ?_⟩
        refine g_astore C [(4, .ref q), (0, .ref (ad ε 0)), (1, .int x1), (2, .int x2), (3, .ref (ad ε 55))] dL_bin_13 (by decide) rfl ?_
        refine g_iconst (v := 1) C dL_bin_15 (by decide) ?_
        exact K _ _ _ _ dL_bin_16 rfl
      · refine ⟨[⟨0, 10, 13, 22⟩], ⟨0, 10, 17, 38⟩, [], rfl, (fun w hw => by
          simp only [List.mem_cons, List.not_mem_nil, or_false] at hw
          rcases hw with rfl
          · exact Or.inr ⟨by decide, "java/lang/IndexOutOfBoundsException", lk_22, ncc_3_2⟩), by decide, by decide, lk_38, ngc_3, fun q => ?_⟩
        refine g_astore C [(4, .ref q), (0, .ref (ad ε 0)), (1, .int x1), (2, .int x2), (3, .ref (ad ε 55))] dL_bin_17 (by decide) rfl ?_
        refine g_iconst (v := 2) C dL_bin_19 (by decide) ?_
        exact K _ _ _ _ dL_bin_20 rfl
  · intro h0
    rcases hz with ⟨-, rfl⟩ | ⟨hz0, -⟩
    · refine g_i2l C dL_bin_8 rfl ?_
      refine q_lst C dL_bin_9 ?_
      refine g_goto (tgt := 21) C dL_bin_10 (by decide) ?_
      refine g_iconst (v := 0) C dL_bin_21 (by decide) ?_
      exact K _ _ _ _ dL_bin_22 rfl
    · exact absurd h0 hz0
set_option maxRecDepth 10000 in
theorem c_L_group {l : Launch} (hl : l.stackTraces = false) {ε : Et} {σ : St} {w : Rs} {x1 : Int32} {x2 : Int32} {x3 : Int32} (e : wr [2, 3] (f_X8_group x1 x2 x3 σ) = some w) : RW l ε yL_group cL_group 6 [(0, 12, 15, 22), (0, 12, 19, 38)] 8 [.ref (ad ε 0), .int x1, .int x2, .int x3, .ref (ad ε 55)] (WX ε σ) w := by
  obtain ⟨z, ez, hz⟩ := wr_ok e
  refine RW.of (by decide) (Nat.le_of_ble_eq_true rfl) (fun κ hkl hkr C hX hT K => ?_)
  refine g_aload C dL_group_0 4 rfl ?_
  refine g_iconst (v := 0) C dL_group_2 (by decide) ?_
  refine g_aload_n C dL_group_3 rfl 0 rfl ?_
  refine g_iload_n C dL_group_4 rfl 1 rfl ?_
  refine g_iload_n C dL_group_5 rfl 2 rfl ?_
  refine g_iload_n C dL_group_6 rfl 3 rfl ?_
  refine g_callX C hX hT (As := [.int x1, .int x2, .int x3]) (z := z) (by rw [hkl]; exact c_X8_group hl ez) wv_L_40 (by decide) (lt_N (by decide)) wx_X8 rfl rfl rfl (Nat.le_of_ble_eq_true rfl) (by rw [hkr]; exact ⟨Nat.le_refl _, Nat.le_refl _⟩) dL_group_7 ?_ ?_
  · intro h0
    rcases hz with ⟨hz0, -⟩ | ⟨-, hm, rfl⟩
    · exact absurd hz0 h0
    · obtain ⟨zk, zr0, zs⟩ := z
      simp only [List.mem_cons, List.not_mem_nil, or_false] at hm
      rcases hm with rfl | rfl
      · refine ⟨[], ⟨0, 12, 15, 22⟩, [⟨0, 12, 19, 38⟩], rfl, (fun w hw => nomatch hw), by decide, by decide, lk_22, ngc_2, fun q => ?_⟩
        refine g_astore C [(5, .ref q), (0, .ref (ad ε 0)), (1, .int x1), (2, .int x2), (3, .int x3), (4, .ref (ad ε 55))] dL_group_15 (by decide) rfl ?_
        refine g_iconst (v := 1) C dL_group_17 (by decide) ?_
        exact K _ _ _ _ dL_group_18 rfl
      · refine ⟨[⟨0, 12, 15, 22⟩], ⟨0, 12, 19, 38⟩, [], rfl, (fun w hw => by
          simp only [List.mem_cons, List.not_mem_nil, or_false] at hw
          rcases hw with rfl
          · exact Or.inr ⟨by decide, "java/lang/IndexOutOfBoundsException", lk_22, ncc_3_2⟩), by decide, by decide, lk_38, ngc_3, fun q => ?_⟩
        refine g_astore C [(5, .ref q), (0, .ref (ad ε 0)), (1, .int x1), (2, .int x2), (3, .int x3), (4, .ref (ad ε 55))] dL_group_19 (by decide) rfl ?_
        refine g_iconst (v := 2) C dL_group_21 (by decide) ?_
        exact K _ _ _ _ dL_group_22 rfl
  · intro h0
    rcases hz with ⟨-, rfl⟩ | ⟨hz0, -⟩
    · refine g_i2l C dL_group_10 rfl ?_
      refine q_lst C dL_group_11 ?_
      refine g_goto (tgt := 23) C dL_group_12 (by decide) ?_
      refine g_iconst (v := 0) C dL_group_23 (by decide) ?_
      exact K _ _ _ _ dL_group_24 rfl
    · exact absurd h0 hz0
set_option maxRecDepth 10000 in
theorem c_L_write {l : Launch} (hl : l.stackTraces = false) {ε : Et} {σ : St} {w : Rs} {x1 : Int32} {x2 : Int32} {x3 : Int32} (e : wr [1, 2, 3] (f_X8_write x1 x2 x3 σ) = some w) : RW l ε yL_write cL_write 6 [(0, 12, 15, 13), (0, 12, 19, 22), (0, 12, 23, 38)] 8 [.ref (ad ε 0), .int x1, .int x2, .int x3, .ref (ad ε 55)] (WX ε σ) w := by
  obtain ⟨z, ez, hz⟩ := wr_ok e
  refine RW.of (by decide) (Nat.le_of_ble_eq_true rfl) (fun κ hkl hkr C hX hT K => ?_)
  refine g_aload C dL_write_0 4 rfl ?_
  refine g_iconst (v := 0) C dL_write_2 (by decide) ?_
  refine g_aload_n C dL_write_3 rfl 0 rfl ?_
  refine g_iload_n C dL_write_4 rfl 1 rfl ?_
  refine g_iload_n C dL_write_5 rfl 2 rfl ?_
  refine g_iload_n C dL_write_6 rfl 3 rfl ?_
  refine g_callX C hX hT (As := [.int x1, .int x2, .int x3]) (z := z) (by rw [hkl]; exact c_X8_write hl ez) wv_L_43 (by decide) (lt_N (by decide)) wx_X8 rfl rfl rfl (Nat.le_of_ble_eq_true rfl) (by rw [hkr]; exact ⟨Nat.le_refl _, Nat.le_refl _⟩) dL_write_7 ?_ ?_
  · intro h0
    rcases hz with ⟨hz0, -⟩ | ⟨-, hm, rfl⟩
    · exact absurd hz0 h0
    · obtain ⟨zk, zr0, zs⟩ := z
      simp only [List.mem_cons, List.not_mem_nil, or_false] at hm
      rcases hm with rfl | rfl | rfl
      · refine ⟨[], ⟨0, 12, 15, 13⟩, [⟨0, 12, 19, 22⟩, ⟨0, 12, 23, 38⟩], rfl, (fun w hw => nomatch hw), by decide, by decide, lk_13, ngc_1, fun q => ?_⟩
        refine g_astore C [(5, .ref q), (0, .ref (ad ε 0)), (1, .int x1), (2, .int x2), (3, .int x3), (4, .ref (ad ε 55))] dL_write_15 (by decide) rfl ?_
        refine g_iconst (v := 1) C dL_write_17 (by decide) ?_
        exact K _ _ _ _ dL_write_18 rfl
      · refine ⟨[⟨0, 12, 15, 13⟩], ⟨0, 12, 19, 22⟩, [⟨0, 12, 23, 38⟩], rfl, (fun w hw => by
          simp only [List.mem_cons, List.not_mem_nil, or_false] at hw
          rcases hw with rfl
          · exact Or.inr ⟨by decide, "java/lang/IllegalArgumentException", lk_13, ncc_2_1⟩), by decide, by decide, lk_22, ngc_2, fun q => ?_⟩
        refine g_astore C [(5, .ref q), (0, .ref (ad ε 0)), (1, .int x1), (2, .int x2), (3, .int x3), (4, .ref (ad ε 55))] dL_write_19 (by decide) rfl ?_
        refine g_iconst (v := 2) C dL_write_21 (by decide) ?_
        exact K _ _ _ _ dL_write_22 rfl
      · refine ⟨[⟨0, 12, 15, 13⟩, ⟨0, 12, 19, 22⟩], ⟨0, 12, 23, 38⟩, [], rfl, (fun w hw => by
          simp only [List.mem_cons, List.not_mem_nil, or_false] at hw
          rcases hw with rfl | rfl
          · exact Or.inr ⟨by decide, "java/lang/IllegalArgumentException", lk_13, ncc_3_1⟩
          · exact Or.inr ⟨by decide, "java/lang/IndexOutOfBoundsException", lk_22, ncc_3_2⟩), by decide, by decide, lk_38, ngc_3, fun q => ?_⟩
        refine g_astore C [(5, .ref q), (0, .ref (ad ε 0)), (1, .int x1), (2, .int x2), (3, .int x3), (4, .ref (ad ε 55))] dL_write_23 (by decide) rfl ?_
        refine g_iconst (v := 3) C dL_write_25 (by decide) ?_
        exact K _ _ _ _ dL_write_26 rfl
  · intro h0
    rcases hz with ⟨-, rfl⟩ | ⟨hz0, -⟩
    · refine g_i2l C dL_write_10 rfl ?_
      refine q_lst C dL_write_11 ?_
      refine g_goto (tgt := 27) C dL_write_12 (by decide) ?_
      refine g_iconst (v := 0) C dL_write_27 (by decide) ?_
      exact K _ _ _ _ dL_write_28 rfl
    · exact absurd h0 hz0
set_option maxRecDepth 10000 in
theorem c_L_out {l : Launch} (hl : l.stackTraces = false) {ε : Et} {σ : St} {w : Rs} {x1 : Int32} (e : wr [2] (f_X8_out x1 σ) = some w) : RW l ε yL_out cL_out 4 [(0, 9, 12, 22)] 8 [.ref (ad ε 0), .int x1, .ref (ad ε 55)] (WX ε σ) w := by
  obtain ⟨z, ez, hz⟩ := wr_ok e
  refine RW.of (by decide) (Nat.le_of_ble_eq_true rfl) (fun κ hkl hkr C hX hT K => ?_)
  refine g_aload_n C dL_out_0 rfl 2 rfl ?_
  refine g_iconst (v := 0) C dL_out_1 (by decide) ?_
  refine g_aload_n C dL_out_2 rfl 0 rfl ?_
  refine g_iload_n C dL_out_3 rfl 1 rfl ?_
  refine g_callX C hX hT (As := [.int x1]) (z := z) (by rw [hkl]; exact c_X8_out hl ez) wv_L_47 (by decide) (lt_N (by decide)) wx_X8 rfl rfl rfl (Nat.le_of_ble_eq_true rfl) (by rw [hkr]; exact ⟨Nat.le_refl _, Nat.le_refl _⟩) dL_out_4 ?_ ?_
  · intro h0
    rcases hz with ⟨hz0, -⟩ | ⟨-, hm, rfl⟩
    · exact absurd hz0 h0
    · obtain ⟨zk, zr0, zs⟩ := z
      simp only [List.mem_cons, List.not_mem_nil, or_false] at hm
      rcases hm with rfl
      · refine ⟨[], ⟨0, 9, 12, 22⟩, [], rfl, (fun w hw => nomatch hw), by decide, by decide, lk_22, ngc_2, fun q => ?_⟩
        refine g_astore_n C [(3, .ref q), (0, .ref (ad ε 0)), (1, .int x1), (2, .ref (ad ε 55))] dL_out_12 rfl (by decide) rfl ?_
        refine g_iconst (v := 1) C dL_out_13 (by decide) ?_
        exact K _ _ _ _ dL_out_14 rfl
  · intro h0
    rcases hz with ⟨-, rfl⟩ | ⟨hz0, -⟩
    · refine g_i2l C dL_out_7 rfl ?_
      refine q_lst C dL_out_8 ?_
      refine g_goto (tgt := 15) C dL_out_9 (by decide) ?_
      refine g_iconst (v := 0) C dL_out_15 (by decide) ?_
      exact K _ _ _ _ dL_out_16 rfl
    · exact absurd h0 hz0
end WR
