def f_X9_thrown (σ : St) : Option Rs := some ((σ.1 39 3), σ)
set_option maxRecDepth 10000 in
set_option maxHeartbeats 1000000 in
theorem tf_X9_thrown {ε : Et} {κ : Kt} {z : Rs} (C : Cx ε κ cX9_thrown 1 RX9 0) (K : Ret ε κ cX9_thrown (some .int) 0 0 (PI ε z)) (σ : St) (ok : f_X9_thrown σ = some z) : G ε κ 0 0 0 [(0, .ref (ad ε 39))] [] (WX ε σ) := by
  unfold f_X9_thrown at ok
  refine g_aload_n C dX9_thrown_0 rfl 0 rfl ?_
  refine q_X9_66 C dX9_thrown_1 ?_
  exact K.2 .int _ _ _ _ rfl dX9_thrown_4 rfl (pi_ok ok)
theorem c_X9_thrown {l : Launch} {ε : Et} {σ : St} {z : Rs} (e : f_X9_thrown σ = some z) : RM l ε yX9_thrown cX9_thrown 1 (some .int) 0 0 0 [.ref (ad ε 39)] (WX ε σ) (PI ε z) := RM.of (by decide) (Nat.le_of_ble_eq_true rfl) (fun κ C K => tf_X9_thrown C K σ e)
def b_X9_feed_44 (k44 : Int32 → Int64 → Int32 → St → Option Rs) (x1 : Int32) (x2 : Int64) (x4 : Int32) (σ : St) : Option Rs := (if x1 ≤ x4 then nx (sS σ 39 1 ((σ.1 39 1) + x1)) (fun s2 => some ((s2.1 39 1), s2)) else gd (inb ((σ.1 39 1) + x4) (ln 40)) (nx (sA σ 40 ((σ.1 39 1) + x4) ((x2 >>> (((8 : Int32) * x4).toInt64 &&& 63)) &&& (255 : Int64)).toInt32) (fun s5 => nx (x4 + (1 : Int32)) (fun y7 => k44 x1 x2 y7 s5))))
set_option maxRecDepth 10000 in
set_option maxHeartbeats 1000000 in
theorem t_X9_feed_44 {ε : Et} {κ : Kt} {z : Rs} (C : Cx ε κ cX9_feed 5 RX9 0) (K : Ret ε κ cX9_feed (some .int) 0 0 (PI ε z)) (k44 : Int32 → Int64 → Int32 → St → Option Rs) (g44 : ∀ (x1 : Int32) (x2 : Int64) (x4 : Int32) (σ : St), k44 x1 x2 x4 σ = some z → G ε κ 0 0 44 [(0, .ref (ad ε 39)), (1, .int x1), (2, .long x2), (4, .int x4)] [] (WX ε σ)) (x1 : Int32) (x2 : Int64) (x4 : Int32) (σ : St) (ok : b_X9_feed_44 k44 x1 x2 x4 σ = some z) : G ε κ 0 0 44 [(0, .ref (ad ε 39)), (1, .int x1), (2, .long x2), (4, .int x4)] [] (WX ε σ) := by
  unfold b_X9_feed_44 at ok
  refine g_iload C dX9_feed_44 3 rfl ?_
  refine g_iload_n C dX9_feed_46 rfl 1 rfl ?_
  refine g_icmp_ge (tgt := 80) C dX9_feed_47 (by decide) (fun c1 => ?_) (fun c1 => ?_)
  · replace ok := ok_t c1 ok
    refine g_aload_n C dX9_feed_80 rfl 0 rfl ?_
    refine g_dup C dX9_feed_81 rfl ?_
    refine q_X9_69 C dX9_feed_82 ?_
    refine g_iload_n C dX9_feed_85 rfl 1 rfl ?_
    refine g_iadd C dX9_feed_86 ?_
    refine p_X9_69 C dX9_feed_87 (fun s2 e3 => ?_)
    replace ok := nx_ok ok s2 e3
    refine g_aload_n C dX9_feed_90 rfl 0 rfl ?_
    refine q_X9_69 C dX9_feed_91 ?_
    exact K.2 .int _ _ _ _ rfl dX9_feed_94 rfl (pi_ok ok)
  · replace ok := ok_f c1 ok
    refine g_aload_n C dX9_feed_50 rfl 0 rfl ?_
    refine q_X9_7 C dX9_feed_51 ?_
    refine g_aload_n C dX9_feed_54 rfl 0 rfl ?_
    refine q_X9_69 C dX9_feed_55 ?_
    refine g_iload C dX9_feed_58 3 rfl ?_
    refine g_iadd C dX9_feed_60 ?_
    refine g_lload_n C dX9_feed_61 rfl 2 rfl ?_
    refine g_bipush (v := 8) C dX9_feed_62 (by decide) ?_
    refine g_iload C dX9_feed_64 3 rfl ?_
    refine g_imul C dX9_feed_66 ?_
    refine g_lshr C dX9_feed_67 rfl ?_
    refine g_ldc2 (v := 255) C dX9_feed_68 (tb_in (i := 1078) rfl rfl) ?_
    refine g_land C dX9_feed_71 ?_
    refine g_l2i C dX9_feed_72 rfl ?_
    obtain ⟨h4, ok⟩ := gd_ok ok
    refine q_ast C ai_40 h4 dX9_feed_73 (fun s5 e6 => ?_)
    replace ok := nx_ok ok s5 e6
    obtain ⟨y7, e8⟩ : ∃ y : Int32, y = (x4 + (1 : Int32)) := ⟨_, rfl⟩
    replace ok := nx_ok ok y7 e8
    refine g_iinc (v := y7) C [(4, .int y7), (0, .ref (ad ε 39)), (1, .int x1), (2, .long x2)] dX9_feed_74 3 rfl (by rw [e8]; rfl) (by decide) rfl ?_
    refine g_goto (tgt := 44) C dX9_feed_77 (by decide) ?_
    refine g_pick (lv' := [(0, .ref (ad ε 39)), (1, .int x1), (2, .long x2), (4, .int y7)]) ?_ [1, 2, 3, 0] rfl
    exact g44 _ _ _ _ ok
def l_X9_feed_44 : Nat → Int32 → Int64 → Int32 → St → Option Rs
  | 0 => fun _ _ _ _ => none
  | n + 1 => fun x1 x2 x4 σ => b_X9_feed_44 (l_X9_feed_44 n) x1 x2 x4 σ
theorem tl_X9_feed_44 {ε : Et} {κ : Kt} {z : Rs} (C : Cx ε κ cX9_feed 5 RX9 0) (K : Ret ε κ cX9_feed (some .int) 0 0 (PI ε z)) : ∀ (n : Nat) (x1 : Int32) (x2 : Int64) (x4 : Int32) (σ : St), l_X9_feed_44 n x1 x2 x4 σ = some z → G ε κ 0 0 44 [(0, .ref (ad ε 39)), (1, .int x1), (2, .long x2), (4, .int x4)] [] (WX ε σ) := by
  intro n
  induction n with
  | zero =>
    intro x1 x2 x4 σ ok
    cases ok
  | succ n ih =>
    intro x1 x2 x4 σ ok
    exact t_X9_feed_44 C K (l_X9_feed_44 n) ih x1 x2 x4 σ ok
def b_X9_feed_29 (x1 : Int32) (x2 : Int64) (t0 : Int32) (σ : St) : Option Rs := nx (sS σ 39 3 t0) (fun s1 => (if (s1.1 39 3) ≤ 0 then l_X9_feed_44 FU x1 x2 (0 : Int32) s1 else some ((0 : Int32), s1)))
set_option maxRecDepth 10000 in
set_option maxHeartbeats 1000000 in
theorem t_X9_feed_29 {ε : Et} {κ : Kt} {z : Rs} (C : Cx ε κ cX9_feed 5 RX9 0) (K : Ret ε κ cX9_feed (some .int) 0 0 (PI ε z)) (x1 : Int32) (x2 : Int64) (t0 : Int32) (σ : St) (ok : b_X9_feed_29 x1 x2 t0 σ = some z) : G ε κ 0 0 29 [(0, .ref (ad ε 39)), (1, .int x1), (2, .long x2)] [.int t0, .ref (ad ε 39)] (WX ε σ) := by
  unfold b_X9_feed_29 at ok
  refine p_X9_66 C dX9_feed_29 (fun s1 e2 => ?_)
  replace ok := nx_ok ok s1 e2
  refine g_aload_n C dX9_feed_32 rfl 0 rfl ?_
  refine q_X9_66 C dX9_feed_33 ?_
  refine g_if_le (tgt := 41) C dX9_feed_36 (by decide) (fun c3 => ?_) (fun c3 => ?_)
  · replace ok := ok_t c3 ok
    refine g_iconst (v := 0) C dX9_feed_41 (by decide) ?_
    refine g_istore C [(4, .int (0 : Int32)), (0, .ref (ad ε 39)), (1, .int x1), (2, .long x2)] dX9_feed_42 (by decide) rfl ?_
    refine g_pick (lv' := [(0, .ref (ad ε 39)), (1, .int x1), (2, .long x2), (4, .int (0 : Int32))]) ?_ [1, 2, 3, 0] rfl
    exact tl_X9_feed_44 C K FU _ _ _ _ ok
  · replace ok := ok_f c3 ok
    refine g_iconst (v := 0) C dX9_feed_39 (by decide) ?_
    exact K.2 .int _ _ _ _ rfl dX9_feed_40 rfl (pi_ok ok)
def b_X9_feed_24 (x1 : Int32) (x2 : Int64) (σ : St) : Option Rs := b_X9_feed_29 x1 x2 (1 : Int32) σ
set_option maxRecDepth 10000 in
set_option maxHeartbeats 1000000 in
theorem t_X9_feed_24 {ε : Et} {κ : Kt} {z : Rs} (C : Cx ε κ cX9_feed 5 RX9 0) (K : Ret ε κ cX9_feed (some .int) 0 0 (PI ε z)) (x1 : Int32) (x2 : Int64) (σ : St) (ok : b_X9_feed_24 x1 x2 σ = some z) : G ε κ 0 0 24 [(0, .ref (ad ε 39)), (1, .int x1), (2, .long x2)] [.ref (ad ε 39)] (WX ε σ) := by
  unfold b_X9_feed_24 at ok
  refine g_iconst (v := 1) C dX9_feed_24 (by decide) ?_
  refine g_goto (tgt := 29) C dX9_feed_25 (by decide) ?_
  exact t_X9_feed_29 C K _ _ _ _ ok
def f_X9_feed (x1 : Int32) (x2 : Int64) (σ : St) : Option Rs := (if x1 < (1 : Int32) then b_X9_feed_24 x1 x2 σ else (if (8 : Int32) < x1 then b_X9_feed_24 x1 x2 σ else (if ((σ.1 39 1) + x1) ≤ (6000 : Int32) then b_X9_feed_29 x1 x2 (0 : Int32) σ else b_X9_feed_24 x1 x2 σ)))
set_option maxRecDepth 10000 in
set_option maxHeartbeats 1000000 in
theorem tf_X9_feed {ε : Et} {κ : Kt} {z : Rs} (C : Cx ε κ cX9_feed 5 RX9 0) (K : Ret ε κ cX9_feed (some .int) 0 0 (PI ε z)) (x1 : Int32) (x2 : Int64) (σ : St) (ok : f_X9_feed x1 x2 σ = some z) : G ε κ 0 0 0 [(0, .ref (ad ε 39)), (1, .int x1), (2, .long x2)] [] (WX ε σ) := by
  unfold f_X9_feed at ok
  refine g_aload_n C dX9_feed_0 rfl 0 rfl ?_
  refine g_iload_n C dX9_feed_1 rfl 1 rfl ?_
  refine g_iconst (v := 1) C dX9_feed_2 (by decide) ?_
  refine g_icmp_lt (tgt := 24) C dX9_feed_3 (by decide) (fun c1 => ?_) (fun c1 => ?_)
  · replace ok := ok_t c1 ok
    exact t_X9_feed_24 C K _ _ _ ok
  · replace ok := ok_f c1 ok
    refine g_iload_n C dX9_feed_6 rfl 1 rfl ?_
    refine g_bipush (v := 8) C dX9_feed_7 (by decide) ?_
    refine g_icmp_gt (tgt := 24) C dX9_feed_9 (by decide) (fun c2 => ?_) (fun c2 => ?_)
    · replace ok := ok_t c2 ok
      exact t_X9_feed_24 C K _ _ _ ok
    · replace ok := ok_f c2 ok
      refine g_aload_n C dX9_feed_12 rfl 0 rfl ?_
      refine q_X9_69 C dX9_feed_13 ?_
      refine g_iload_n C dX9_feed_16 rfl 1 rfl ?_
      refine g_iadd C dX9_feed_17 ?_
      refine g_sipush (v := 6000) C dX9_feed_18 (by decide) ?_
      refine g_icmp_le (tgt := 28) C dX9_feed_21 (by decide) (fun c3 => ?_) (fun c3 => ?_)
      · replace ok := ok_t c3 ok
        refine g_iconst (v := 0) C dX9_feed_28 (by decide) ?_
        exact t_X9_feed_29 C K _ _ _ _ ok
      · replace ok := ok_f c3 ok
        exact t_X9_feed_24 C K _ _ _ ok
theorem c_X9_feed {l : Launch} {ε : Et} {σ : St} {z : Rs} {x1 : Int32} {x2 : Int64} (e : f_X9_feed x1 x2 σ = some z) : RM l ε yX9_feed cX9_feed 5 (some .int) 0 0 0 [.ref (ad ε 39), .int x1, .long x2] (WX ε σ) (PI ε z) := RM.of (by decide) (Nat.le_of_ble_eq_true rfl) (fun κ C K => tf_X9_feed C K x1 x2 σ e)
def f_X9_faulty (x1 : Int32) (σ : St) : Option Rs := nx (sS σ 39 32 x1) (fun s1 => nx (sS s1 39 2 (s1.1 39 31)) (fun s3 => gz (0 : Int32) (some ((0 : Int32), s3))))
set_option maxRecDepth 10000 in
set_option maxHeartbeats 1000000 in
theorem tf_X9_faulty {ε : Et} {κ : Kt} {z : Rs} (C : Cx ε κ cX9_faulty 2 RX9 0) (K : Ret ε κ cX9_faulty (some .boolean) 0 0 (PI ε z)) (x1 : Int32) (σ : St) (ok : f_X9_faulty x1 σ = some z) : G ε κ 0 0 0 [(0, .ref (ad ε 39)), (1, .int x1)] [] (WX ε σ) := by
  unfold f_X9_faulty at ok
  refine g_aload_n C dX9_faulty_0 rfl 0 rfl ?_
  refine g_iload_n C dX9_faulty_1 rfl 1 rfl ?_
  refine p_X9_74 C dX9_faulty_2 (fun s1 e2 => ?_)
  replace ok := nx_ok ok s1 e2
  refine g_aload_n C dX9_faulty_5 rfl 0 rfl ?_
  refine g_aload_n C dX9_faulty_6 rfl 0 rfl ?_
  refine q_X9_77 C dX9_faulty_7 ?_
  refine p_X9_13 C dX9_faulty_10 (fun s3 e4 => ?_)
  replace ok := nx_ok ok s3 e4
  refine g_iconst (v := 0) C dX9_faulty_13 (by decide) ?_
  obtain ⟨z5, ok⟩ := gz_ok ok
  exact K.2 .boolean _ _ _ _ rfl dX9_faulty_14 (nar_b z5) (pi_ok ok)
theorem c_X9_faulty {l : Launch} {ε : Et} {σ : St} {z : Rs} {x1 : Int32} (e : f_X9_faulty x1 σ = some z) : RM l ε yX9_faulty cX9_faulty 2 (some .boolean) 0 0 0 [.ref (ad ε 39), .int x1] (WX ε σ) (PI ε z) := RM.of (by decide) (Nat.le_of_ble_eq_true rfl) (fun κ C K => tf_X9_faulty C K x1 σ e)
def b_X9_look_24 (t0 : Int32) (σ : St) : Option Rs := some (t0, σ)
set_option maxRecDepth 10000 in
set_option maxHeartbeats 1000000 in
theorem t_X9_look_24 {ε : Et} {κ : Kt} {z : Rs} (C : Cx ε κ cX9_look 1 RX9 0) (K : Ret ε κ cX9_look (some .int) 0 0 (PI ε z)) (t0 : Int32) (σ : St) (ok : b_X9_look_24 t0 σ = some z) : G ε κ 0 0 24 [] [.int t0] (WX ε σ) := by
  unfold b_X9_look_24 at ok
  exact K.2 .int _ _ _ _ rfl dX9_look_24 rfl (pi_ok ok)
def f_X9_look (σ : St) : Option Rs := (if (σ.1 39 1) ≤ (σ.1 39 31) then b_X9_look_24 (-1 : Int32) σ else gd (inb (σ.1 39 31) (ln 40)) (b_X9_look_24 (σ.2.1 40 (σ.1 39 31).toNatClampNeg) σ))
set_option maxRecDepth 10000 in
set_option maxHeartbeats 1000000 in
theorem tf_X9_look {ε : Et} {κ : Kt} {z : Rs} (C : Cx ε κ cX9_look 1 RX9 0) (K : Ret ε κ cX9_look (some .int) 0 0 (PI ε z)) (σ : St) (ok : f_X9_look σ = some z) : G ε κ 0 0 0 [(0, .ref (ad ε 39))] [] (WX ε σ) := by
  unfold f_X9_look at ok
  refine g_aload_n C dX9_look_0 rfl 0 rfl ?_
  refine q_X9_77 C dX9_look_1 ?_
  refine g_aload_n C dX9_look_4 rfl 0 rfl ?_
  refine q_X9_69 C dX9_look_5 ?_
  refine g_icmp_ge (tgt := 23) C dX9_look_8 (by decide) (fun c1 => ?_) (fun c1 => ?_)
  · replace ok := ok_t c1 ok
    refine g_iconst (v := -1) C dX9_look_23 (by decide) ?_
    refine g_pick (lv' := []) ?_ [] rfl
    exact t_X9_look_24 C K _ _ ok
  · replace ok := ok_f c1 ok
    refine g_aload_n C dX9_look_11 rfl 0 rfl ?_
    refine q_X9_7 C dX9_look_12 ?_
    refine g_aload_n C dX9_look_15 rfl 0 rfl ?_
    refine q_X9_77 C dX9_look_16 ?_
    obtain ⟨h2, ok⟩ := gd_ok ok
    refine q_ald C ai_40 h2 dX9_look_19 ?_
    refine g_goto (tgt := 24) C dX9_look_20 (by decide) ?_
    refine g_pick (lv' := []) ?_ [] rfl
    exact t_X9_look_24 C K _ _ ok
theorem c_X9_look {l : Launch} {ε : Et} {σ : St} {z : Rs} (e : f_X9_look σ = some z) : RM l ε yX9_look cX9_look 1 (some .int) 0 0 0 [.ref (ad ε 39)] (WX ε σ) (PI ε z) := RM.of (by decide) (Nat.le_of_ble_eq_true rfl) (fun κ C K => tf_X9_look C K σ e)
def b_X9_letterOf_35 (t0 : Int32) (σ : St) : Option Rs := some (t0, σ)
set_option maxRecDepth 10000 in
set_option maxHeartbeats 1000000 in
theorem t_X9_letterOf_35 {ε : Et} {κ : Kt} {z : Rs} (C : Cx ε κ cX9_letterOf 1 RX9 0) (K : Ret ε κ cX9_letterOf (some .int) 0 0 (PI ε z)) (t0 : Int32) (σ : St) (ok : b_X9_letterOf_35 t0 σ = some z) : G ε κ 0 0 35 [] [.int t0] (WX ε σ) := by
  unfold b_X9_letterOf_35 at ok
  exact K.2 .int _ _ _ _ rfl dX9_letterOf_35 rfl (pi_ok ok)
def b_X9_letterOf_30 (x0 : Int32) (σ : St) : Option Rs := b_X9_letterOf_35 x0 σ
set_option maxRecDepth 10000 in
set_option maxHeartbeats 1000000 in
theorem t_X9_letterOf_30 {ε : Et} {κ : Kt} {z : Rs} (C : Cx ε κ cX9_letterOf 1 RX9 0) (K : Ret ε κ cX9_letterOf (some .int) 0 0 (PI ε z)) (x0 : Int32) (σ : St) (ok : b_X9_letterOf_30 x0 σ = some z) : G ε κ 0 0 30 [(0, .int x0)] [] (WX ε σ) := by
  unfold b_X9_letterOf_30 at ok
  refine g_iload_n C dX9_letterOf_30 rfl 0 rfl ?_
  refine g_goto (tgt := 35) C dX9_letterOf_31 (by decide) ?_
  refine g_pick (lv' := []) ?_ [] rfl
  exact t_X9_letterOf_35 C K _ _ ok
def f_X9_letterOf (x0 : Int32) (σ : St) : Option Rs := (if x0 = (65 : Int32) then b_X9_letterOf_30 x0 σ else (if x0 = (67 : Int32) then b_X9_letterOf_30 x0 σ else (if x0 = (71 : Int32) then b_X9_letterOf_30 x0 σ else (if x0 = (78 : Int32) then b_X9_letterOf_30 x0 σ else (if x0 = (84 : Int32) then b_X9_letterOf_30 x0 σ else b_X9_letterOf_35 (-1 : Int32) σ)))))
set_option maxRecDepth 10000 in
set_option maxHeartbeats 1000000 in
theorem tf_X9_letterOf {ε : Et} {κ : Kt} {z : Rs} (C : Cx ε κ cX9_letterOf 1 RX9 0) (K : Ret ε κ cX9_letterOf (some .int) 0 0 (PI ε z)) (x0 : Int32) (σ : St) (ok : f_X9_letterOf x0 σ = some z) : G ε κ 0 0 0 [(0, .int x0)] [] (WX ε σ) := by
  unfold f_X9_letterOf at ok
  refine g_iload_n C dX9_letterOf_0 rfl 0 rfl ?_
  refine g_bipush (v := 65) C dX9_letterOf_1 (by decide) ?_
  refine g_icmp_eq (tgt := 30) C dX9_letterOf_3 (by decide) (fun c1 => ?_) (fun c1 => ?_)
  · replace ok := ok_t c1 ok
    exact t_X9_letterOf_30 C K _ _ ok
  · replace ok := ok_f c1 ok
    refine g_iload_n C dX9_letterOf_6 rfl 0 rfl ?_
    refine g_bipush (v := 67) C dX9_letterOf_7 (by decide) ?_
    refine g_icmp_eq (tgt := 30) C dX9_letterOf_9 (by decide) (fun c2 => ?_) (fun c2 => ?_)
    · replace ok := ok_t c2 ok
      exact t_X9_letterOf_30 C K _ _ ok
    · replace ok := ok_f c2 ok
      refine g_iload_n C dX9_letterOf_12 rfl 0 rfl ?_
      refine g_bipush (v := 71) C dX9_letterOf_13 (by decide) ?_
      refine g_icmp_eq (tgt := 30) C dX9_letterOf_15 (by decide) (fun c3 => ?_) (fun c3 => ?_)
      · replace ok := ok_t c3 ok
        exact t_X9_letterOf_30 C K _ _ ok
      · replace ok := ok_f c3 ok
        refine g_iload_n C dX9_letterOf_18 rfl 0 rfl ?_
        refine g_bipush (v := 78) C dX9_letterOf_19 (by decide) ?_
        refine g_icmp_eq (tgt := 30) C dX9_letterOf_21 (by decide) (fun c4 => ?_) (fun c4 => ?_)
        · replace ok := ok_t c4 ok
          exact t_X9_letterOf_30 C K _ _ ok
        · replace ok := ok_f c4 ok
          refine g_iload_n C dX9_letterOf_24 rfl 0 rfl ?_
          refine g_bipush (v := 84) C dX9_letterOf_25 (by decide) ?_
          refine g_icmp_ne (tgt := 34) C dX9_letterOf_27 (by decide) (fun c5 => ?_) (fun c5 => ?_)
          · replace ok := ok_f c5 ok
            refine g_iconst (v := -1) C dX9_letterOf_34 (by decide) ?_
            refine g_pick (lv' := []) ?_ [] rfl
            exact t_X9_letterOf_35 C K _ _ ok
          · replace ok := ok_t c5 ok
            exact t_X9_letterOf_30 C K _ _ ok
theorem c_X9_letterOf {l : Launch} {ε : Et} {σ : St} {z : Rs} {x0 : Int32} (e : f_X9_letterOf x0 σ = some z) : RM l ε yX9_letterOf cX9_letterOf 1 (some .int) 0 0 0 [.int x0] (WX ε σ) (PI ε z) := RM.of (by decide) (Nat.le_of_ble_eq_true rfl) (fun κ C K => tf_X9_letterOf C K x0 σ e)
def f_X9_must (x1 : Int32) (σ : St) : Option Rs := (if (σ.1 39 31) = (σ.1 39 1) then bd (f_X9_faulty (1 : Int32) σ) (fun r13 s14 => gz r13 (some (r13, s14))) else bd (f_X9_look σ) (fun r2 s3 => (if r2 = x1 then nx (sS s3 39 31 ((s3.1 39 31) + (1 : Int32))) (fun s6 => gz (1 : Int32) (some ((1 : Int32), s6))) else bd (f_X9_faulty (2 : Int32) s3) (fun r9 s10 => gz r9 (some (r9, s10))))))
set_option maxRecDepth 10000 in
set_option maxHeartbeats 1000000 in
theorem tf_X9_must {ε : Et} {κ : Kt} {z : Rs} (C : Cx ε κ cX9_must 2 RX9 1) (K : Ret ε κ cX9_must (some .boolean) 0 0 (PI ε z)) (x1 : Int32) (σ : St) (ok : f_X9_must x1 σ = some z) : G ε κ 0 0 0 [(0, .ref (ad ε 39)), (1, .int x1)] [] (WX ε σ) := by
  unfold f_X9_must at ok
  refine g_aload_n C dX9_must_0 rfl 0 rfl ?_
  refine q_X9_77 C dX9_must_1 ?_
  refine g_aload_n C dX9_must_4 rfl 0 rfl ?_
  refine q_X9_69 C dX9_must_5 ?_
  refine g_icmp_ne (tgt := 17) C dX9_must_8 (by decide) (fun c1 => ?_) (fun c1 => ?_)
  · replace ok := ok_f c1 ok
    refine g_aload_n C dX9_must_17 rfl 0 rfl ?_
    obtain ⟨r2, s3, e4, ok⟩ := bd_ok ok
    refine q_cI C [] (c_X9_look e4) wv_X9_84 (by decide) (lt_N (by decide)) wx_X9 rfl rfl rfl (Nat.le_of_ble_eq_true rfl) dX9_must_18 ?_
    refine g_iload_n C dX9_must_21 rfl 1 rfl ?_
    refine g_icmp_eq (tgt := 31) C dX9_must_22 (by decide) (fun c5 => ?_) (fun c5 => ?_)
    · replace ok := ok_t c5 ok
      refine g_aload_n C dX9_must_31 rfl 0 rfl ?_
      refine g_dup C dX9_must_32 rfl ?_
      refine q_X9_77 C dX9_must_33 ?_
      refine g_iconst (v := 1) C dX9_must_36 (by decide) ?_
      refine g_iadd C dX9_must_37 ?_
      refine p_X9_77 C dX9_must_38 (fun s6 e7 => ?_)
      replace ok := nx_ok ok s6 e7
      refine g_iconst (v := 1) C dX9_must_41 (by decide) ?_
      obtain ⟨z8, ok⟩ := gz_ok ok
      exact K.2 .boolean _ _ _ _ rfl dX9_must_42 (nar_b z8) (pi_ok ok)
    · replace ok := ok_f c5 ok
      refine g_aload_n C dX9_must_25 rfl 0 rfl ?_
      refine g_iconst (v := 2) C dX9_must_26 (by decide) ?_
      obtain ⟨r9, s10, e11, ok⟩ := bd_ok ok
      refine q_cI C [.int (2 : Int32)] (c_X9_faulty e11) wv_X9_80 (by decide) (lt_N (by decide)) wx_X9 rfl rfl rfl (Nat.le_of_ble_eq_true rfl) dX9_must_27 ?_
      obtain ⟨z12, ok⟩ := gz_ok ok
      exact K.2 .boolean _ _ _ _ rfl dX9_must_30 (nar_b z12) (pi_ok ok)
  · replace ok := ok_t c1 ok
    refine g_aload_n C dX9_must_11 rfl 0 rfl ?_
    refine g_iconst (v := 1) C dX9_must_12 (by decide) ?_
    obtain ⟨r13, s14, e15, ok⟩ := bd_ok ok
    refine q_cI C [.int (1 : Int32)] (c_X9_faulty e15) wv_X9_80 (by decide) (lt_N (by decide)) wx_X9 rfl rfl rfl (Nat.le_of_ble_eq_true rfl) dX9_must_13 ?_
    obtain ⟨z16, ok⟩ := gz_ok ok
    exact K.2 .boolean _ _ _ _ rfl dX9_must_16 (nar_b z16) (pi_ok ok)
theorem c_X9_must {l : Launch} {ε : Et} {σ : St} {z : Rs} {x1 : Int32} (e : f_X9_must x1 σ = some z) : RM l ε yX9_must cX9_must 2 (some .boolean) 1 0 0 [.ref (ad ε 39), .int x1] (WX ε σ) (PI ε z) := RM.of (by decide) (Nat.le_of_ble_eq_true rfl) (fun κ C K => tf_X9_must C K x1 σ e)
def b_X9_nameLine_145 (σ : St) : Option Rs := bd (f_X9_must (10 : Int32) σ) (fun r1 s2 => gz r1 (some (r1, s2)))
set_option maxRecDepth 10000 in
set_option maxHeartbeats 1000000 in
theorem t_X9_nameLine_145 {ε : Et} {κ : Kt} {z : Rs} (C : Cx ε κ cX9_nameLine 4 RX9 2) (K : Ret ε κ cX9_nameLine (some .boolean) 0 0 (PI ε z)) (σ : St) (ok : b_X9_nameLine_145 σ = some z) : G ε κ 0 0 145 [(0, .ref (ad ε 39))] [] (WX ε σ) := by
  unfold b_X9_nameLine_145 at ok
  refine g_aload_n C dX9_nameLine_145 rfl 0 rfl ?_
  refine g_bipush (v := 10) C dX9_nameLine_146 (by decide) ?_
  obtain ⟨r1, s2, e3, ok⟩ := bd_ok ok
  refine q_cI C [.int (10 : Int32)] (c_X9_must e3) wv_X9_91 (by decide) (lt_N (by decide)) wx_X9 rfl rfl rfl (Nat.le_of_ble_eq_true rfl) dX9_nameLine_148 ?_
  obtain ⟨z4, ok⟩ := gz_ok ok
  exact K.2 .boolean _ _ _ _ rfl dX9_nameLine_151 (nar_b z4) (pi_ok ok)
def b_X9_nameLine_119 (x2 : Int32) (x3 : Int32) (σ : St) : Option Rs := gd (inb x2 (ln 41)) (nx (sA σ 41 x2 x3) (fun s2 => (if x3 = 0 then bd (f_X9_look s2) (fun r5 s6 => (if r5 = (10 : Int32) then bd (f_X9_faulty (2 : Int32) s6) (fun r9 s10 => gz r9 (some (r9, s10))) else b_X9_nameLine_145 s6)) else b_X9_nameLine_145 s2)))
set_option maxRecDepth 10000 in
set_option maxHeartbeats 1000000 in
theorem t_X9_nameLine_119 {ε : Et} {κ : Kt} {z : Rs} (C : Cx ε κ cX9_nameLine 4 RX9 2) (K : Ret ε κ cX9_nameLine (some .boolean) 0 0 (PI ε z)) (x2 : Int32) (x3 : Int32) (σ : St) (ok : b_X9_nameLine_119 x2 x3 σ = some z) : G ε κ 0 0 119 [(0, .ref (ad ε 39)), (2, .int x2), (3, .int x3)] [] (WX ε σ) := by
  unfold b_X9_nameLine_119 at ok
  refine g_aload_n C dX9_nameLine_119 rfl 0 rfl ?_
  refine q_X9_17 C dX9_nameLine_120 ?_
  refine g_iload_n C dX9_nameLine_123 rfl 1 rfl ?_
  refine g_iload_n C dX9_nameLine_124 rfl 2 rfl ?_
  obtain ⟨h1, ok⟩ := gd_ok ok
  refine q_ast C ai_41 h1 dX9_nameLine_125 (fun s2 e3 => ?_)
  replace ok := nx_ok ok s2 e3
  refine g_iload_n C dX9_nameLine_126 rfl 2 rfl ?_
  refine g_if_ne (tgt := 145) C dX9_nameLine_127 (by decide) (fun c4 => ?_) (fun c4 => ?_)
  · replace ok := ok_f c4 ok
    refine g_pick (lv' := [(0, .ref (ad ε 39))]) ?_ [0] rfl
    exact t_X9_nameLine_145 C K _ ok
  · replace ok := ok_t c4 ok
    refine g_aload_n C dX9_nameLine_130 rfl 0 rfl ?_
    obtain ⟨r5, s6, e7, ok⟩ := bd_ok ok
    refine q_cI C [] (c_X9_look e7) wv_X9_84 (by decide) (lt_N (by decide)) wx_X9 rfl rfl rfl (Nat.le_of_ble_eq_true rfl) dX9_nameLine_131 ?_
    refine g_bipush (v := 10) C dX9_nameLine_134 (by decide) ?_
    refine g_icmp_ne (tgt := 145) C dX9_nameLine_136 (by decide) (fun c8 => ?_) (fun c8 => ?_)
    · replace ok := ok_f c8 ok
      refine g_pick (lv' := [(0, .ref (ad ε 39))]) ?_ [0] rfl
      exact t_X9_nameLine_145 C K _ ok
    · replace ok := ok_t c8 ok
      refine g_aload_n C dX9_nameLine_139 rfl 0 rfl ?_
      refine g_iconst (v := 2) C dX9_nameLine_140 (by decide) ?_
      obtain ⟨r9, s10, e11, ok⟩ := bd_ok ok
      refine q_cI C [.int (2 : Int32)] (c_X9_faulty e11) wv_X9_80 (by decide) (lt_N (by decide)) wx_X9 rfl rfl rfl (Nat.le_of_ble_eq_true rfl) dX9_nameLine_141 ?_
      obtain ⟨z12, ok⟩ := gz_ok ok
      exact K.2 .boolean _ _ _ _ rfl dX9_nameLine_144 (nar_b z12) (pi_ok ok)
def b_X9_nameLine_58 (k58 : Int32 → Int32 → St → Option Rs) (x2 : Int32) (x3 : Int32) (σ : St) : Option Rs := bd (f_X9_look σ) (fun r1 s2 => (if r1 < (33 : Int32) then b_X9_nameLine_119 x2 x3 s2 else bd (f_X9_look s2) (fun r5 s6 => (if (126 : Int32) < r5 then b_X9_nameLine_119 x2 x3 s6 else (if x3 = (40 : Int32) then bd (f_X9_faulty (3 : Int32) s6) (fun r20 s21 => gz r20 (some (r20, s21))) else bd (f_X9_look s6) (fun r10 s11 => gd (inb (((40 : Int32) * x2) + x3) (ln 42)) (nx (sA s11 42 (((40 : Int32) * x2) + x3) r10) (fun s14 => nx (x3 + (1 : Int32)) (fun y16 => nx (sS s14 39 31 ((s14.1 39 31) + (1 : Int32))) (fun s18 => k58 x2 y16 s18))))))))))
set_option maxRecDepth 10000 in
set_option maxHeartbeats 1000000 in
theorem t_X9_nameLine_58 {ε : Et} {κ : Kt} {z : Rs} (C : Cx ε κ cX9_nameLine 4 RX9 2) (K : Ret ε κ cX9_nameLine (some .boolean) 0 0 (PI ε z)) (k58 : Int32 → Int32 → St → Option Rs) (g58 : ∀ (x2 : Int32) (x3 : Int32) (σ : St), k58 x2 x3 σ = some z → G ε κ 0 0 58 [(0, .ref (ad ε 39)), (2, .int x2), (3, .int x3)] [] (WX ε σ)) (x2 : Int32) (x3 : Int32) (σ : St) (ok : b_X9_nameLine_58 k58 x2 x3 σ = some z) : G ε κ 0 0 58 [(0, .ref (ad ε 39)), (2, .int x2), (3, .int x3)] [] (WX ε σ) := by
  unfold b_X9_nameLine_58 at ok
  refine g_aload_n C dX9_nameLine_58 rfl 0 rfl ?_
  obtain ⟨r1, s2, e3, ok⟩ := bd_ok ok
  refine q_cI C [] (c_X9_look e3) wv_X9_84 (by decide) (lt_N (by decide)) wx_X9 rfl rfl rfl (Nat.le_of_ble_eq_true rfl) dX9_nameLine_59 ?_
  refine g_bipush (v := 33) C dX9_nameLine_62 (by decide) ?_
  refine g_icmp_lt (tgt := 119) C dX9_nameLine_64 (by decide) (fun c4 => ?_) (fun c4 => ?_)
  · replace ok := ok_t c4 ok
    exact t_X9_nameLine_119 C K _ _ _ ok
  · replace ok := ok_f c4 ok
    refine g_aload_n C dX9_nameLine_67 rfl 0 rfl ?_
    obtain ⟨r5, s6, e7, ok⟩ := bd_ok ok
    refine q_cI C [] (c_X9_look e7) wv_X9_84 (by decide) (lt_N (by decide)) wx_X9 rfl rfl rfl (Nat.le_of_ble_eq_true rfl) dX9_nameLine_68 ?_
    refine g_bipush (v := 126) C dX9_nameLine_71 (by decide) ?_
    refine g_icmp_gt (tgt := 119) C dX9_nameLine_73 (by decide) (fun c8 => ?_) (fun c8 => ?_)
    · replace ok := ok_t c8 ok
      exact t_X9_nameLine_119 C K _ _ _ ok
    · replace ok := ok_f c8 ok
      refine g_iload_n C dX9_nameLine_76 rfl 2 rfl ?_
      refine g_bipush (v := 40) C dX9_nameLine_77 (by decide) ?_
      refine g_icmp_ne (tgt := 88) C dX9_nameLine_79 (by decide) (fun c9 => ?_) (fun c9 => ?_)
      · replace ok := ok_f c9 ok
        refine g_aload_n C dX9_nameLine_88 rfl 0 rfl ?_
        refine q_X9_20 C dX9_nameLine_89 ?_
        refine g_bipush (v := 40) C dX9_nameLine_92 (by decide) ?_
        refine g_iload_n C dX9_nameLine_94 rfl 1 rfl ?_
        refine g_imul C dX9_nameLine_95 ?_
        refine g_iload_n C dX9_nameLine_96 rfl 2 rfl ?_
        refine g_iadd C dX9_nameLine_97 ?_
        refine g_aload_n C dX9_nameLine_98 rfl 0 rfl ?_
        obtain ⟨r10, s11, e12, ok⟩ := bd_ok ok
        refine q_cI C [] (c_X9_look e12) wv_X9_84 (by decide) (lt_N (by decide)) wx_X9 rfl rfl rfl (Nat.le_of_ble_eq_true rfl) dX9_nameLine_99 ?_
        obtain ⟨h13, ok⟩ := gd_ok ok
        refine q_ast C ai_42 h13 dX9_nameLine_102 (fun s14 e15 => ?_)
        replace ok := nx_ok ok s14 e15
        obtain ⟨y16, e17⟩ : ∃ y : Int32, y = (x3 + (1 : Int32)) := ⟨_, rfl⟩
        replace ok := nx_ok ok y16 e17
        refine g_iinc (v := y16) C [(3, .int y16), (0, .ref (ad ε 39)), (2, .int x2)] dX9_nameLine_103 2 rfl (by rw [e17]; rfl) (by decide) rfl ?_
        refine g_aload_n C dX9_nameLine_106 rfl 1 rfl ?_
        refine g_dup C dX9_nameLine_107 rfl ?_
        refine q_X9_77 C dX9_nameLine_108 ?_
        refine g_iconst (v := 1) C dX9_nameLine_111 (by decide) ?_
        refine g_iadd C dX9_nameLine_112 ?_
        refine p_X9_77 C dX9_nameLine_113 (fun s18 e19 => ?_)
        replace ok := nx_ok ok s18 e19
        refine g_goto (tgt := 58) C dX9_nameLine_116 (by decide) ?_
        refine g_pick (lv' := [(0, .ref (ad ε 39)), (2, .int x2), (3, .int y16)]) ?_ [1, 2, 0] rfl
        exact g58 _ _ _ ok
      · replace ok := ok_t c9 ok
        refine g_aload_n C dX9_nameLine_82 rfl 0 rfl ?_
        refine g_iconst (v := 3) C dX9_nameLine_83 (by decide) ?_
        obtain ⟨r20, s21, e22, ok⟩ := bd_ok ok
        refine q_cI C [.int (3 : Int32)] (c_X9_faulty e22) wv_X9_80 (by decide) (lt_N (by decide)) wx_X9 rfl rfl rfl (Nat.le_of_ble_eq_true rfl) dX9_nameLine_84 ?_
        obtain ⟨z23, ok⟩ := gz_ok ok
        exact K.2 .boolean _ _ _ _ rfl dX9_nameLine_87 (nar_b z23) (pi_ok ok)
def l_X9_nameLine_58 : Nat → Int32 → Int32 → St → Option Rs
  | 0 => fun _ _ _ => none
  | n + 1 => fun x2 x3 σ => b_X9_nameLine_58 (l_X9_nameLine_58 n) x2 x3 σ
theorem tl_X9_nameLine_58 {ε : Et} {κ : Kt} {z : Rs} (C : Cx ε κ cX9_nameLine 4 RX9 2) (K : Ret ε κ cX9_nameLine (some .boolean) 0 0 (PI ε z)) : ∀ (n : Nat) (x2 : Int32) (x3 : Int32) (σ : St), l_X9_nameLine_58 n x2 x3 σ = some z → G ε κ 0 0 58 [(0, .ref (ad ε 39)), (2, .int x2), (3, .int x3)] [] (WX ε σ) := by
  intro n
  induction n with
  | zero =>
    intro x2 x3 σ ok
    cases ok
  | succ n ih =>
    intro x2 x3 σ ok
    exact t_X9_nameLine_58 C K (l_X9_nameLine_58 n) ih x2 x3 σ ok
def f_X9_nameLine (x1 : Int32) (x2 : Int32) (σ : St) : Option Rs := (if (σ.1 39 31) = (σ.1 39 1) then bd (f_X9_faulty (1 : Int32) σ) (fun r17 s18 => gz r17 (some (r17, s18))) else bd (f_X9_look σ) (fun r2 s3 => (if r2 = x1 then (if (s3.1 39 10) = (60 : Int32) then bd (f_X9_faulty (4 : Int32) s3) (fun r9 s10 => gz r9 (some (r9, s10))) else nx (sS s3 39 31 ((s3.1 39 31) + (1 : Int32))) (fun s7 => l_X9_nameLine_58 FU x2 (0 : Int32) s7)) else bd (f_X9_faulty (2 : Int32) s3) (fun r13 s14 => gz r13 (some (r13, s14))))))
set_option maxRecDepth 10000 in
set_option maxHeartbeats 1000000 in
theorem tf_X9_nameLine {ε : Et} {κ : Kt} {z : Rs} (C : Cx ε κ cX9_nameLine 4 RX9 2) (K : Ret ε κ cX9_nameLine (some .boolean) 0 0 (PI ε z)) (x1 : Int32) (x2 : Int32) (σ : St) (ok : f_X9_nameLine x1 x2 σ = some z) : G ε κ 0 0 0 [(0, .ref (ad ε 39)), (1, .int x1), (2, .int x2)] [] (WX ε σ) := by
  unfold f_X9_nameLine at ok
  refine g_aload_n C dX9_nameLine_0 rfl 0 rfl ?_
  refine q_X9_77 C dX9_nameLine_1 ?_
  refine g_aload_n C dX9_nameLine_4 rfl 0 rfl ?_
  refine q_X9_69 C dX9_nameLine_5 ?_
  refine g_icmp_ne (tgt := 17) C dX9_nameLine_8 (by decide) (fun c1 => ?_) (fun c1 => ?_)
  · replace ok := ok_f c1 ok
    refine g_aload_n C dX9_nameLine_17 rfl 0 rfl ?_
    obtain ⟨r2, s3, e4, ok⟩ := bd_ok ok
    refine q_cI C [] (c_X9_look e4) wv_X9_84 (by decide) (lt_N (by decide)) wx_X9 rfl rfl rfl (Nat.le_of_ble_eq_true rfl) dX9_nameLine_18 ?_
    refine g_iload_n C dX9_nameLine_21 rfl 1 rfl ?_
    refine g_icmp_eq (tgt := 31) C dX9_nameLine_22 (by decide) (fun c5 => ?_) (fun c5 => ?_)
    · replace ok := ok_t c5 ok
      refine g_aload_n C dX9_nameLine_31 rfl 0 rfl ?_
      refine q_X9_88 C dX9_nameLine_32 ?_
      refine g_bipush (v := 60) C dX9_nameLine_35 (by decide) ?_
      refine g_icmp_ne (tgt := 46) C dX9_nameLine_37 (by decide) (fun c6 => ?_) (fun c6 => ?_)
      · replace ok := ok_f c6 ok
        refine g_aload_n C dX9_nameLine_46 rfl 0 rfl ?_
        refine g_dup C dX9_nameLine_47 rfl ?_
        refine q_X9_77 C dX9_nameLine_48 ?_
        refine g_iconst (v := 1) C dX9_nameLine_51 (by decide) ?_
        refine g_iadd C dX9_nameLine_52 ?_
        refine p_X9_77 C dX9_nameLine_53 (fun s7 e8 => ?_)
        replace ok := nx_ok ok s7 e8
        refine g_iconst (v := 0) C dX9_nameLine_56 (by decide) ?_
        refine g_istore_n C [(3, .int (0 : Int32)), (0, .ref (ad ε 39)), (1, .int x1), (2, .int x2)] dX9_nameLine_57 rfl (by decide) rfl ?_
        refine g_pick (lv' := [(0, .ref (ad ε 39)), (2, .int x2), (3, .int (0 : Int32))]) ?_ [1, 3, 0] rfl
        exact tl_X9_nameLine_58 C K FU _ _ _ ok
      · replace ok := ok_t c6 ok
        refine g_aload_n C dX9_nameLine_40 rfl 0 rfl ?_
        refine g_iconst (v := 4) C dX9_nameLine_41 (by decide) ?_
        obtain ⟨r9, s10, e11, ok⟩ := bd_ok ok
        refine q_cI C [.int (4 : Int32)] (c_X9_faulty e11) wv_X9_80 (by decide) (lt_N (by decide)) wx_X9 rfl rfl rfl (Nat.le_of_ble_eq_true rfl) dX9_nameLine_42 ?_
        obtain ⟨z12, ok⟩ := gz_ok ok
        exact K.2 .boolean _ _ _ _ rfl dX9_nameLine_45 (nar_b z12) (pi_ok ok)
    · replace ok := ok_f c5 ok
      refine g_aload_n C dX9_nameLine_25 rfl 0 rfl ?_
      refine g_iconst (v := 2) C dX9_nameLine_26 (by decide) ?_
      obtain ⟨r13, s14, e15, ok⟩ := bd_ok ok
      refine q_cI C [.int (2 : Int32)] (c_X9_faulty e15) wv_X9_80 (by decide) (lt_N (by decide)) wx_X9 rfl rfl rfl (Nat.le_of_ble_eq_true rfl) dX9_nameLine_27 ?_
      obtain ⟨z16, ok⟩ := gz_ok ok
      exact K.2 .boolean _ _ _ _ rfl dX9_nameLine_30 (nar_b z16) (pi_ok ok)
  · replace ok := ok_t c1 ok
    refine g_aload_n C dX9_nameLine_11 rfl 0 rfl ?_
    refine g_iconst (v := 1) C dX9_nameLine_12 (by decide) ?_
    obtain ⟨r17, s18, e19, ok⟩ := bd_ok ok
    refine q_cI C [.int (1 : Int32)] (c_X9_faulty e19) wv_X9_80 (by decide) (lt_N (by decide)) wx_X9 rfl rfl rfl (Nat.le_of_ble_eq_true rfl) dX9_nameLine_13 ?_
    obtain ⟨z20, ok⟩ := gz_ok ok
    exact K.2 .boolean _ _ _ _ rfl dX9_nameLine_16 (nar_b z20) (pi_ok ok)
theorem c_X9_nameLine {l : Launch} {ε : Et} {σ : St} {z : Rs} {x1 : Int32} {x2 : Int32} (e : f_X9_nameLine x1 x2 σ = some z) : RM l ε yX9_nameLine cX9_nameLine 4 (some .boolean) 2 0 0 [.ref (ad ε 39), .int x1, .int x2] (WX ε σ) (PI ε z) := RM.of (by decide) (Nat.le_of_ble_eq_true rfl) (fun κ C K => tf_X9_nameLine C K x1 x2 σ e)
def b_X9_letterLine_114 (σ : St) : Option Rs := bd (f_X9_must (10 : Int32) σ) (fun r1 s2 => gz r1 (some (r1, s2)))
set_option maxRecDepth 10000 in
set_option maxHeartbeats 1000000 in
theorem t_X9_letterLine_114 {ε : Et} {κ : Kt} {z : Rs} (C : Cx ε κ cX9_letterLine 3 RX9 2) (K : Ret ε κ cX9_letterLine (some .boolean) 0 0 (PI ε z)) (σ : St) (ok : b_X9_letterLine_114 σ = some z) : G ε κ 0 0 114 [(0, .ref (ad ε 39))] [] (WX ε σ) := by
  unfold b_X9_letterLine_114 at ok
  refine g_aload_n C dX9_letterLine_114 rfl 0 rfl ?_
  refine g_bipush (v := 10) C dX9_letterLine_115 (by decide) ?_
  obtain ⟨r1, s2, e3, ok⟩ := bd_ok ok
  refine q_cI C [.int (10 : Int32)] (c_X9_must e3) wv_X9_91 (by decide) (lt_N (by decide)) wx_X9 rfl rfl rfl (Nat.le_of_ble_eq_true rfl) dX9_letterLine_117 ?_
  obtain ⟨z4, ok⟩ := gz_ok ok
  exact K.2 .boolean _ _ _ _ rfl dX9_letterLine_120 (nar_b z4) (pi_ok ok)
def b_X9_letterLine_2 (k2 : Int32 → Int32 → St → Option Rs) (x1 : Int32) (x2 : Int32) (σ : St) : Option Rs := bd (f_X9_look σ) (fun r1 s2 => bd (f_X9_letterOf r1 s2) (fun r4 s5 => (if r4 ≤ 0 then (if x2 = 0 then (if (s5.1 39 1) ≤ (s5.1 39 31) then b_X9_letterLine_114 s5 else bd (f_X9_faulty (2 : Int32) s5) (fun r10 s11 => gz r10 (some (r10, s11)))) else b_X9_letterLine_114 s5) else gd (inb x1 (ln 43)) ((if (s5.2.1 43 x1.toNatClampNeg) = (120 : Int32) then bd (f_X9_faulty (3 : Int32) s5) (fun r35 s36 => gz r35 (some (r35, s36))) else gd (inb x1 (ln 43)) (bd (f_X9_look s5) (fun r17 s18 => gd (inb (((120 : Int32) * x1) + (s5.2.1 43 x1.toNatClampNeg)) (ln 44)) (nx (sA s18 44 (((120 : Int32) * x1) + (s5.2.1 43 x1.toNatClampNeg)) r17) (fun s21 => gd (inb x1 (ln 43)) (gd (inb (((120 : Int32) * x1) + (s21.2.1 43 x1.toNatClampNeg)) (ln 45)) (nx (sA s21 45 (((120 : Int32) * x1) + (s21.2.1 43 x1.toNatClampNeg)) (40 : Int32)) (fun s25 => gd (inb x1 (ln 43)) (gd (inb x1 (ln 43)) (nx (sA s25 43 x1 ((s25.2.1 43 x1.toNatClampNeg) + (1 : Int32))) (fun s29 => nx (x2 + (1 : Int32)) (fun y31 => nx (sS s29 39 31 ((s29.1 39 31) + (1 : Int32))) (fun s33 => k2 x1 y31 s33)))))))))))))))))
set_option maxRecDepth 10000 in
set_option maxHeartbeats 1000000 in
theorem t_X9_letterLine_2 {ε : Et} {κ : Kt} {z : Rs} (C : Cx ε κ cX9_letterLine 3 RX9 2) (K : Ret ε κ cX9_letterLine (some .boolean) 0 0 (PI ε z)) (k2 : Int32 → Int32 → St → Option Rs) (g2 : ∀ (x1 : Int32) (x2 : Int32) (σ : St), k2 x1 x2 σ = some z → G ε κ 0 0 2 [(0, .ref (ad ε 39)), (1, .int x1), (2, .int x2)] [] (WX ε σ)) (x1 : Int32) (x2 : Int32) (σ : St) (ok : b_X9_letterLine_2 k2 x1 x2 σ = some z) : G ε κ 0 0 2 [(0, .ref (ad ε 39)), (1, .int x1), (2, .int x2)] [] (WX ε σ) := by
  unfold b_X9_letterLine_2 at ok
  refine g_aload_n C dX9_letterLine_2 rfl 0 rfl ?_
  obtain ⟨r1, s2, e3, ok⟩ := bd_ok ok
  refine q_cI C [] (c_X9_look e3) wv_X9_84 (by decide) (lt_N (by decide)) wx_X9 rfl rfl rfl (Nat.le_of_ble_eq_true rfl) dX9_letterLine_3 ?_
  obtain ⟨r4, s5, e6, ok⟩ := bd_ok ok
  refine q_sI C [.int r1] (c_X9_letterOf e6) wv_X9_94 (by decide) rfl rfl (Nat.le_of_ble_eq_true rfl) dX9_letterLine_6 ?_
  refine g_if_le (tgt := 93) C dX9_letterLine_9 (by decide) (fun c7 => ?_) (fun c7 => ?_)
  · replace ok := ok_t c7 ok
    refine g_iload_n C dX9_letterLine_93 rfl 2 rfl ?_
    refine g_if_ne (tgt := 114) C dX9_letterLine_94 (by decide) (fun c8 => ?_) (fun c8 => ?_)
    · replace ok := ok_f c8 ok
      refine g_pick (lv' := [(0, .ref (ad ε 39))]) ?_ [0] rfl
      exact t_X9_letterLine_114 C K _ ok
    · replace ok := ok_t c8 ok
      refine g_aload_n C dX9_letterLine_97 rfl 0 rfl ?_
      refine q_X9_77 C dX9_letterLine_98 ?_
      refine g_aload_n C dX9_letterLine_101 rfl 0 rfl ?_
      refine q_X9_69 C dX9_letterLine_102 ?_
      refine g_icmp_ge (tgt := 114) C dX9_letterLine_105 (by decide) (fun c9 => ?_) (fun c9 => ?_)
      · replace ok := ok_t c9 ok
        refine g_pick (lv' := [(0, .ref (ad ε 39))]) ?_ [0] rfl
        exact t_X9_letterLine_114 C K _ ok
      · replace ok := ok_f c9 ok
        refine g_aload_n C dX9_letterLine_108 rfl 0 rfl ?_
        refine g_iconst (v := 2) C dX9_letterLine_109 (by decide) ?_
        obtain ⟨r10, s11, e12, ok⟩ := bd_ok ok
        refine q_cI C [.int (2 : Int32)] (c_X9_faulty e12) wv_X9_80 (by decide) (lt_N (by decide)) wx_X9 rfl rfl rfl (Nat.le_of_ble_eq_true rfl) dX9_letterLine_110 ?_
        obtain ⟨z13, ok⟩ := gz_ok ok
        exact K.2 .boolean _ _ _ _ rfl dX9_letterLine_113 (nar_b z13) (pi_ok ok)
  · replace ok := ok_f c7 ok
    refine g_aload_n C dX9_letterLine_12 rfl 0 rfl ?_
    refine q_X9_23 C dX9_letterLine_13 ?_
    refine g_iload_n C dX9_letterLine_16 rfl 1 rfl ?_
    obtain ⟨h14, ok⟩ := gd_ok ok
    refine q_ald C ai_43 h14 dX9_letterLine_17 ?_
    refine g_bipush (v := 120) C dX9_letterLine_18 (by decide) ?_
    refine g_icmp_ne (tgt := 29) C dX9_letterLine_20 (by decide) (fun c15 => ?_) (fun c15 => ?_)
    · replace ok := ok_f c15 ok
      refine g_aload_n C dX9_letterLine_29 rfl 0 rfl ?_
      refine q_X9_26 C dX9_letterLine_30 ?_
      refine g_bipush (v := 120) C dX9_letterLine_33 (by decide) ?_
      refine g_iload_n C dX9_letterLine_35 rfl 1 rfl ?_
      refine g_imul C dX9_letterLine_36 ?_
      refine g_aload_n C dX9_letterLine_37 rfl 0 rfl ?_
      refine q_X9_23 C dX9_letterLine_38 ?_
      refine g_iload_n C dX9_letterLine_41 rfl 1 rfl ?_
      obtain ⟨h16, ok⟩ := gd_ok ok
      refine q_ald C ai_43 h16 dX9_letterLine_42 ?_
      refine g_iadd C dX9_letterLine_43 ?_
      refine g_aload_n C dX9_letterLine_44 rfl 0 rfl ?_
      obtain ⟨r17, s18, e19, ok⟩ := bd_ok ok
      refine q_cI C [] (c_X9_look e19) wv_X9_84 (by decide) (lt_N (by decide)) wx_X9 rfl rfl rfl (Nat.le_of_ble_eq_true rfl) dX9_letterLine_45 ?_
      obtain ⟨h20, ok⟩ := gd_ok ok
      refine q_ast C ai_44 h20 dX9_letterLine_48 (fun s21 e22 => ?_)
      replace ok := nx_ok ok s21 e22
      refine g_aload_n C dX9_letterLine_49 rfl 0 rfl ?_
      refine q_X9_29 C dX9_letterLine_50 ?_
      refine g_bipush (v := 120) C dX9_letterLine_53 (by decide) ?_
      refine g_iload_n C dX9_letterLine_55 rfl 1 rfl ?_
      refine g_imul C dX9_letterLine_56 ?_
      refine g_aload_n C dX9_letterLine_57 rfl 0 rfl ?_
      refine q_X9_23 C dX9_letterLine_58 ?_
      refine g_iload_n C dX9_letterLine_61 rfl 1 rfl ?_
      obtain ⟨h23, ok⟩ := gd_ok ok
      refine q_ald C ai_43 h23 dX9_letterLine_62 ?_
      refine g_iadd C dX9_letterLine_63 ?_
      refine g_bipush (v := 40) C dX9_letterLine_64 (by decide) ?_
      obtain ⟨h24, ok⟩ := gd_ok ok
      refine q_ast C ai_45 h24 dX9_letterLine_66 (fun s25 e26 => ?_)
      replace ok := nx_ok ok s25 e26
      refine g_aload_n C dX9_letterLine_67 rfl 0 rfl ?_
      refine q_X9_23 C dX9_letterLine_68 ?_
      refine g_iload_n C dX9_letterLine_71 rfl 1 rfl ?_
      refine g_dup2 C dX9_letterLine_72 rfl rfl ?_
      obtain ⟨h27, ok⟩ := gd_ok ok
      refine q_ald C ai_43 h27 dX9_letterLine_73 ?_
      refine g_iconst (v := 1) C dX9_letterLine_74 (by decide) ?_
      refine g_iadd C dX9_letterLine_75 ?_
      obtain ⟨h28, ok⟩ := gd_ok ok
      refine q_ast C ai_43 h28 dX9_letterLine_76 (fun s29 e30 => ?_)
      replace ok := nx_ok ok s29 e30
      obtain ⟨y31, e32⟩ : ∃ y : Int32, y = (x2 + (1 : Int32)) := ⟨_, rfl⟩
      replace ok := nx_ok ok y31 e32
      refine g_iinc (v := y31) C [(2, .int y31), (0, .ref (ad ε 39)), (1, .int x1)] dX9_letterLine_77 2 rfl (by rw [e32]; rfl) (by decide) rfl ?_
      refine g_aload_n C dX9_letterLine_80 rfl 1 rfl ?_
      refine g_dup C dX9_letterLine_81 rfl ?_
      refine q_X9_77 C dX9_letterLine_82 ?_
      refine g_iconst (v := 1) C dX9_letterLine_85 (by decide) ?_
      refine g_iadd C dX9_letterLine_86 ?_
      refine p_X9_77 C dX9_letterLine_87 (fun s33 e34 => ?_)
      replace ok := nx_ok ok s33 e34
      refine g_goto (tgt := 2) C dX9_letterLine_90 (by decide) ?_
      refine g_pick (lv' := [(0, .ref (ad ε 39)), (1, .int x1), (2, .int y31)]) ?_ [1, 2, 0] rfl
      exact g2 _ _ _ ok
    · replace ok := ok_t c15 ok
      refine g_aload_n C dX9_letterLine_23 rfl 0 rfl ?_
      refine g_iconst (v := 3) C dX9_letterLine_24 (by decide) ?_
      obtain ⟨r35, s36, e37, ok⟩ := bd_ok ok
      refine q_cI C [.int (3 : Int32)] (c_X9_faulty e37) wv_X9_80 (by decide) (lt_N (by decide)) wx_X9 rfl rfl rfl (Nat.le_of_ble_eq_true rfl) dX9_letterLine_25 ?_
      obtain ⟨z38, ok⟩ := gz_ok ok
      exact K.2 .boolean _ _ _ _ rfl dX9_letterLine_28 (nar_b z38) (pi_ok ok)
def l_X9_letterLine_2 : Nat → Int32 → Int32 → St → Option Rs
  | 0 => fun _ _ _ => none
  | n + 1 => fun x1 x2 σ => b_X9_letterLine_2 (l_X9_letterLine_2 n) x1 x2 σ
theorem tl_X9_letterLine_2 {ε : Et} {κ : Kt} {z : Rs} (C : Cx ε κ cX9_letterLine 3 RX9 2) (K : Ret ε κ cX9_letterLine (some .boolean) 0 0 (PI ε z)) : ∀ (n : Nat) (x1 : Int32) (x2 : Int32) (σ : St), l_X9_letterLine_2 n x1 x2 σ = some z → G ε κ 0 0 2 [(0, .ref (ad ε 39)), (1, .int x1), (2, .int x2)] [] (WX ε σ) := by
  intro n
  induction n with
  | zero =>
    intro x1 x2 σ ok
    cases ok
  | succ n ih =>
    intro x1 x2 σ ok
    exact t_X9_letterLine_2 C K (l_X9_letterLine_2 n) ih x1 x2 σ ok
def f_X9_letterLine (x1 : Int32) (σ : St) : Option Rs := l_X9_letterLine_2 FU x1 (0 : Int32) σ
set_option maxRecDepth 10000 in
set_option maxHeartbeats 1000000 in
theorem tf_X9_letterLine {ε : Et} {κ : Kt} {z : Rs} (C : Cx ε κ cX9_letterLine 3 RX9 2) (K : Ret ε κ cX9_letterLine (some .boolean) 0 0 (PI ε z)) (x1 : Int32) (σ : St) (ok : f_X9_letterLine x1 σ = some z) : G ε κ 0 0 0 [(0, .ref (ad ε 39)), (1, .int x1)] [] (WX ε σ) := by
  unfold f_X9_letterLine at ok
  refine g_iconst (v := 0) C dX9_letterLine_0 (by decide) ?_
  refine g_istore_n C [(2, .int (0 : Int32)), (0, .ref (ad ε 39)), (1, .int x1)] dX9_letterLine_1 rfl (by decide) rfl ?_
  refine g_pick (lv' := [(0, .ref (ad ε 39)), (1, .int x1), (2, .int (0 : Int32))]) ?_ [1, 2, 0] rfl
  exact tl_X9_letterLine_2 C K FU _ _ _ ok
theorem c_X9_letterLine {l : Launch} {ε : Et} {σ : St} {z : Rs} {x1 : Int32} (e : f_X9_letterLine x1 σ = some z) : RM l ε yX9_letterLine cX9_letterLine 3 (some .boolean) 2 0 0 [.ref (ad ε 39), .int x1] (WX ε σ) (PI ε z) := RM.of (by decide) (Nat.le_of_ble_eq_true rfl) (fun κ C K => tf_X9_letterLine C K x1 σ e)
def b_X9_plusLine_34 (k34 : Int32 → Int32 → St → Option Rs) (x1 : Int32) (x2 : Int32) (σ : St) : Option Rs := gd (inb x1 (ln 41)) ((if (σ.2.1 41 x1.toNatClampNeg) ≤ x2 then bd (f_X9_must (10 : Int32) σ) (fun r3 s4 => gz r3 (some (r3, s4))) else gd (inb (((40 : Int32) * x1) + x2) (ln 42)) (bd (f_X9_must (σ.2.1 42 (((40 : Int32) * x1) + x2).toNatClampNeg) σ) (fun r8 s9 => (if r8 = 0 then gz (0 : Int32) (some ((0 : Int32), s9)) else nx (x2 + (1 : Int32)) (fun y12 => k34 x1 y12 s9))))))
set_option maxRecDepth 10000 in
set_option maxHeartbeats 1000000 in
theorem t_X9_plusLine_34 {ε : Et} {κ : Kt} {z : Rs} (C : Cx ε κ cX9_plusLine 3 RX9 2) (K : Ret ε κ cX9_plusLine (some .boolean) 0 0 (PI ε z)) (k34 : Int32 → Int32 → St → Option Rs) (g34 : ∀ (x1 : Int32) (x2 : Int32) (σ : St), k34 x1 x2 σ = some z → G ε κ 0 0 34 [(0, .ref (ad ε 39)), (1, .int x1), (2, .int x2)] [] (WX ε σ)) (x1 : Int32) (x2 : Int32) (σ : St) (ok : b_X9_plusLine_34 k34 x1 x2 σ = some z) : G ε κ 0 0 34 [(0, .ref (ad ε 39)), (1, .int x1), (2, .int x2)] [] (WX ε σ) := by
  unfold b_X9_plusLine_34 at ok
  refine g_iload_n C dX9_plusLine_34 rfl 2 rfl ?_
  refine g_aload_n C dX9_plusLine_35 rfl 0 rfl ?_
  refine q_X9_17 C dX9_plusLine_36 ?_
  refine g_iload_n C dX9_plusLine_39 rfl 1 rfl ?_
  obtain ⟨h1, ok⟩ := gd_ok ok
  refine q_ald C ai_41 h1 dX9_plusLine_40 ?_
  refine g_icmp_ge (tgt := 70) C dX9_plusLine_41 (by decide) (fun c2 => ?_) (fun c2 => ?_)
  · replace ok := ok_t c2 ok
    refine g_aload_n C dX9_plusLine_70 rfl 0 rfl ?_
    refine g_bipush (v := 10) C dX9_plusLine_71 (by decide) ?_
    obtain ⟨r3, s4, e5, ok⟩ := bd_ok ok
    refine q_cI C [.int (10 : Int32)] (c_X9_must e5) wv_X9_91 (by decide) (lt_N (by decide)) wx_X9 rfl rfl rfl (Nat.le_of_ble_eq_true rfl) dX9_plusLine_73 ?_
    obtain ⟨z6, ok⟩ := gz_ok ok
    exact K.2 .boolean _ _ _ _ rfl dX9_plusLine_76 (nar_b z6) (pi_ok ok)
  · replace ok := ok_f c2 ok
    refine g_aload_n C dX9_plusLine_44 rfl 0 rfl ?_
    refine g_aload_n C dX9_plusLine_45 rfl 0 rfl ?_
    refine q_X9_20 C dX9_plusLine_46 ?_
    refine g_bipush (v := 40) C dX9_plusLine_49 (by decide) ?_
    refine g_iload_n C dX9_plusLine_51 rfl 1 rfl ?_
    refine g_imul C dX9_plusLine_52 ?_
    refine g_iload_n C dX9_plusLine_53 rfl 2 rfl ?_
    refine g_iadd C dX9_plusLine_54 ?_
    obtain ⟨h7, ok⟩ := gd_ok ok
    refine q_ald C ai_42 h7 dX9_plusLine_55 ?_
    obtain ⟨r8, s9, e10, ok⟩ := bd_ok ok
    refine q_cI C [.int (σ.2.1 42 (((40 : Int32) * x1) + x2).toNatClampNeg)] (c_X9_must e10) wv_X9_91 (by decide) (lt_N (by decide)) wx_X9 rfl rfl rfl (Nat.le_of_ble_eq_true rfl) dX9_plusLine_56 ?_
    refine g_if_ne (tgt := 64) C dX9_plusLine_59 (by decide) (fun c11 => ?_) (fun c11 => ?_)
    · replace ok := ok_f c11 ok
      obtain ⟨y12, e13⟩ : ∃ y : Int32, y = (x2 + (1 : Int32)) := ⟨_, rfl⟩
      replace ok := nx_ok ok y12 e13
      refine g_iinc (v := y12) C [(2, .int y12), (0, .ref (ad ε 39)), (1, .int x1)] dX9_plusLine_64 2 rfl (by rw [e13]; rfl) (by decide) rfl ?_
      refine g_goto (tgt := 34) C dX9_plusLine_67 (by decide) ?_
      refine g_pick (lv' := [(0, .ref (ad ε 39)), (1, .int x1), (2, .int y12)]) ?_ [1, 2, 0] rfl
      exact g34 _ _ _ ok
    · replace ok := ok_t c11 ok
      refine g_iconst (v := 0) C dX9_plusLine_62 (by decide) ?_
      obtain ⟨z14, ok⟩ := gz_ok ok
      exact K.2 .boolean _ _ _ _ rfl dX9_plusLine_63 (nar_b z14) (pi_ok ok)
def l_X9_plusLine_34 : Nat → Int32 → Int32 → St → Option Rs
  | 0 => fun _ _ _ => none
  | n + 1 => fun x1 x2 σ => b_X9_plusLine_34 (l_X9_plusLine_34 n) x1 x2 σ
theorem tl_X9_plusLine_34 {ε : Et} {κ : Kt} {z : Rs} (C : Cx ε κ cX9_plusLine 3 RX9 2) (K : Ret ε κ cX9_plusLine (some .boolean) 0 0 (PI ε z)) : ∀ (n : Nat) (x1 : Int32) (x2 : Int32) (σ : St), l_X9_plusLine_34 n x1 x2 σ = some z → G ε κ 0 0 34 [(0, .ref (ad ε 39)), (1, .int x1), (2, .int x2)] [] (WX ε σ) := by
  intro n
  induction n with
  | zero =>
    intro x1 x2 σ ok
    cases ok
  | succ n ih =>
    intro x1 x2 σ ok
    exact t_X9_plusLine_34 C K (l_X9_plusLine_34 n) ih x1 x2 σ ok
def f_X9_plusLine (x1 : Int32) (σ : St) : Option Rs := bd (f_X9_must (43 : Int32) σ) (fun r1 s2 => (if r1 = 0 then gz (0 : Int32) (some ((0 : Int32), s2)) else bd (f_X9_look s2) (fun r5 s6 => (if r5 = (10 : Int32) then nx (sS s6 39 31 ((s6.1 39 31) + (1 : Int32))) (fun s9 => gz (1 : Int32) (some ((1 : Int32), s9))) else l_X9_plusLine_34 FU x1 (0 : Int32) s6))))
set_option maxRecDepth 10000 in
set_option maxHeartbeats 1000000 in
theorem tf_X9_plusLine {ε : Et} {κ : Kt} {z : Rs} (C : Cx ε κ cX9_plusLine 3 RX9 2) (K : Ret ε κ cX9_plusLine (some .boolean) 0 0 (PI ε z)) (x1 : Int32) (σ : St) (ok : f_X9_plusLine x1 σ = some z) : G ε κ 0 0 0 [(0, .ref (ad ε 39)), (1, .int x1)] [] (WX ε σ) := by
  unfold f_X9_plusLine at ok
  refine g_aload_n C dX9_plusLine_0 rfl 0 rfl ?_
  refine g_bipush (v := 43) C dX9_plusLine_1 (by decide) ?_
  obtain ⟨r1, s2, e3, ok⟩ := bd_ok ok
  refine q_cI C [.int (43 : Int32)] (c_X9_must e3) wv_X9_91 (by decide) (lt_N (by decide)) wx_X9 rfl rfl rfl (Nat.le_of_ble_eq_true rfl) dX9_plusLine_3 ?_
  refine g_if_ne (tgt := 11) C dX9_plusLine_6 (by decide) (fun c4 => ?_) (fun c4 => ?_)
  · replace ok := ok_f c4 ok
    refine g_aload_n C dX9_plusLine_11 rfl 0 rfl ?_
    obtain ⟨r5, s6, e7, ok⟩ := bd_ok ok
    refine q_cI C [] (c_X9_look e7) wv_X9_84 (by decide) (lt_N (by decide)) wx_X9 rfl rfl rfl (Nat.le_of_ble_eq_true rfl) dX9_plusLine_12 ?_
    refine g_bipush (v := 10) C dX9_plusLine_15 (by decide) ?_
    refine g_icmp_ne (tgt := 32) C dX9_plusLine_17 (by decide) (fun c8 => ?_) (fun c8 => ?_)
    · replace ok := ok_f c8 ok
      refine g_iconst (v := 0) C dX9_plusLine_32 (by decide) ?_
      refine g_istore_n C [(2, .int (0 : Int32)), (0, .ref (ad ε 39)), (1, .int x1)] dX9_plusLine_33 rfl (by decide) rfl ?_
      refine g_pick (lv' := [(0, .ref (ad ε 39)), (1, .int x1), (2, .int (0 : Int32))]) ?_ [1, 2, 0] rfl
      exact tl_X9_plusLine_34 C K FU _ _ _ ok
    · replace ok := ok_t c8 ok
      refine g_aload_n C dX9_plusLine_20 rfl 0 rfl ?_
      refine g_dup C dX9_plusLine_21 rfl ?_
      refine q_X9_77 C dX9_plusLine_22 ?_
      refine g_iconst (v := 1) C dX9_plusLine_25 (by decide) ?_
      refine g_iadd C dX9_plusLine_26 ?_
      refine p_X9_77 C dX9_plusLine_27 (fun s9 e10 => ?_)
      replace ok := nx_ok ok s9 e10
      refine g_iconst (v := 1) C dX9_plusLine_30 (by decide) ?_
      obtain ⟨z11, ok⟩ := gz_ok ok
      exact K.2 .boolean _ _ _ _ rfl dX9_plusLine_31 (nar_b z11) (pi_ok ok)
  · replace ok := ok_t c4 ok
    refine g_iconst (v := 0) C dX9_plusLine_9 (by decide) ?_
    obtain ⟨z12, ok⟩ := gz_ok ok
    exact K.2 .boolean _ _ _ _ rfl dX9_plusLine_10 (nar_b z12) (pi_ok ok)
theorem c_X9_plusLine {l : Launch} {ε : Et} {σ : St} {z : Rs} {x1 : Int32} (e : f_X9_plusLine x1 σ = some z) : RM l ε yX9_plusLine cX9_plusLine 3 (some .boolean) 2 0 0 [.ref (ad ε 39), .int x1] (WX ε σ) (PI ε z) := RM.of (by decide) (Nat.le_of_ble_eq_true rfl) (fun κ C K => tf_X9_plusLine C K x1 σ e)
def b_X9_qualityLine_47 (σ : St) : Option Rs := bd (f_X9_faulty (2 : Int32) σ) (fun r1 s2 => gz r1 (some (r1, s2)))
set_option maxRecDepth 10000 in
set_option maxHeartbeats 1000000 in
theorem t_X9_qualityLine_47 {ε : Et} {κ : Kt} {z : Rs} (C : Cx ε κ cX9_qualityLine 3 RX9 2) (K : Ret ε κ cX9_qualityLine (some .boolean) 0 0 (PI ε z)) (σ : St) (ok : b_X9_qualityLine_47 σ = some z) : G ε κ 0 0 47 [(0, .ref (ad ε 39))] [] (WX ε σ) := by
  unfold b_X9_qualityLine_47 at ok
  refine g_aload_n C dX9_qualityLine_47 rfl 0 rfl ?_
  refine g_iconst (v := 2) C dX9_qualityLine_48 (by decide) ?_
  obtain ⟨r1, s2, e3, ok⟩ := bd_ok ok
  refine q_cI C [.int (2 : Int32)] (c_X9_faulty e3) wv_X9_80 (by decide) (lt_N (by decide)) wx_X9 rfl rfl rfl (Nat.le_of_ble_eq_true rfl) dX9_qualityLine_49 ?_
  obtain ⟨z4, ok⟩ := gz_ok ok
  exact K.2 .boolean _ _ _ _ rfl dX9_qualityLine_52 (nar_b z4) (pi_ok ok)
def b_X9_qualityLine_2 (k2 : Int32 → Int32 → St → Option Rs) (x1 : Int32) (x2 : Int32) (σ : St) : Option Rs := gd (inb x1 (ln 43)) ((if (σ.2.1 43 x1.toNatClampNeg) ≤ x2 then bd (f_X9_must (10 : Int32) σ) (fun r3 s4 => gz r3 (some (r3, s4))) else (if (σ.1 39 31) = (σ.1 39 1) then bd (f_X9_faulty (1 : Int32) σ) (fun r26 s27 => gz r26 (some (r26, s27))) else bd (f_X9_look σ) (fun r8 s9 => (if r8 < (33 : Int32) then b_X9_qualityLine_47 s9 else bd (f_X9_look s9) (fun r12 s13 => (if r12 ≤ (126 : Int32) then bd (f_X9_look s13) (fun r16 s17 => gd (inb (((120 : Int32) * x1) + x2) (ln 45)) (nx (sA s17 45 (((120 : Int32) * x1) + x2) (r16 - (33 : Int32))) (fun s20 => nx (sS s20 39 31 ((s20.1 39 31) + (1 : Int32))) (fun s22 => nx (x2 + (1 : Int32)) (fun y24 => k2 x1 y24 s22))))) else b_X9_qualityLine_47 s13)))))))
set_option maxRecDepth 10000 in
set_option maxHeartbeats 1000000 in
theorem t_X9_qualityLine_2 {ε : Et} {κ : Kt} {z : Rs} (C : Cx ε κ cX9_qualityLine 3 RX9 2) (K : Ret ε κ cX9_qualityLine (some .boolean) 0 0 (PI ε z)) (k2 : Int32 → Int32 → St → Option Rs) (g2 : ∀ (x1 : Int32) (x2 : Int32) (σ : St), k2 x1 x2 σ = some z → G ε κ 0 0 2 [(0, .ref (ad ε 39)), (1, .int x1), (2, .int x2)] [] (WX ε σ)) (x1 : Int32) (x2 : Int32) (σ : St) (ok : b_X9_qualityLine_2 k2 x1 x2 σ = some z) : G ε κ 0 0 2 [(0, .ref (ad ε 39)), (1, .int x1), (2, .int x2)] [] (WX ε σ) := by
  unfold b_X9_qualityLine_2 at ok
  refine g_iload_n C dX9_qualityLine_2 rfl 2 rfl ?_
  refine g_aload_n C dX9_qualityLine_3 rfl 0 rfl ?_
  refine q_X9_23 C dX9_qualityLine_4 ?_
  refine g_iload_n C dX9_qualityLine_7 rfl 1 rfl ?_
  obtain ⟨h1, ok⟩ := gd_ok ok
  refine q_ald C ai_43 h1 dX9_qualityLine_8 ?_
  refine g_icmp_ge (tgt := 87) C dX9_qualityLine_9 (by decide) (fun c2 => ?_) (fun c2 => ?_)
  · replace ok := ok_t c2 ok
    refine g_aload_n C dX9_qualityLine_87 rfl 0 rfl ?_
    refine g_bipush (v := 10) C dX9_qualityLine_88 (by decide) ?_
    obtain ⟨r3, s4, e5, ok⟩ := bd_ok ok
    refine q_cI C [.int (10 : Int32)] (c_X9_must e5) wv_X9_91 (by decide) (lt_N (by decide)) wx_X9 rfl rfl rfl (Nat.le_of_ble_eq_true rfl) dX9_qualityLine_90 ?_
    obtain ⟨z6, ok⟩ := gz_ok ok
    exact K.2 .boolean _ _ _ _ rfl dX9_qualityLine_93 (nar_b z6) (pi_ok ok)
  · replace ok := ok_f c2 ok
    refine g_aload_n C dX9_qualityLine_12 rfl 0 rfl ?_
    refine q_X9_77 C dX9_qualityLine_13 ?_
    refine g_aload_n C dX9_qualityLine_16 rfl 0 rfl ?_
    refine q_X9_69 C dX9_qualityLine_17 ?_
    refine g_icmp_ne (tgt := 29) C dX9_qualityLine_20 (by decide) (fun c7 => ?_) (fun c7 => ?_)
    · replace ok := ok_f c7 ok
      refine g_aload_n C dX9_qualityLine_29 rfl 0 rfl ?_
      obtain ⟨r8, s9, e10, ok⟩ := bd_ok ok
      refine q_cI C [] (c_X9_look e10) wv_X9_84 (by decide) (lt_N (by decide)) wx_X9 rfl rfl rfl (Nat.le_of_ble_eq_true rfl) dX9_qualityLine_30 ?_
      refine g_bipush (v := 33) C dX9_qualityLine_33 (by decide) ?_
      refine g_icmp_lt (tgt := 47) C dX9_qualityLine_35 (by decide) (fun c11 => ?_) (fun c11 => ?_)
      · replace ok := ok_t c11 ok
        refine g_pick (lv' := [(0, .ref (ad ε 39))]) ?_ [0] rfl
        exact t_X9_qualityLine_47 C K _ ok
      · replace ok := ok_f c11 ok
        refine g_aload_n C dX9_qualityLine_38 rfl 0 rfl ?_
        obtain ⟨r12, s13, e14, ok⟩ := bd_ok ok
        refine q_cI C [] (c_X9_look e14) wv_X9_84 (by decide) (lt_N (by decide)) wx_X9 rfl rfl rfl (Nat.le_of_ble_eq_true rfl) dX9_qualityLine_39 ?_
        refine g_bipush (v := 126) C dX9_qualityLine_42 (by decide) ?_
        refine g_icmp_le (tgt := 53) C dX9_qualityLine_44 (by decide) (fun c15 => ?_) (fun c15 => ?_)
        · replace ok := ok_t c15 ok
          refine g_aload_n C dX9_qualityLine_53 rfl 0 rfl ?_
          refine q_X9_29 C dX9_qualityLine_54 ?_
          refine g_bipush (v := 120) C dX9_qualityLine_57 (by decide) ?_
          refine g_iload_n C dX9_qualityLine_59 rfl 1 rfl ?_
          refine g_imul C dX9_qualityLine_60 ?_
          refine g_iload_n C dX9_qualityLine_61 rfl 2 rfl ?_
          refine g_iadd C dX9_qualityLine_62 ?_
          refine g_aload_n C dX9_qualityLine_63 rfl 0 rfl ?_
          obtain ⟨r16, s17, e18, ok⟩ := bd_ok ok
          refine q_cI C [] (c_X9_look e18) wv_X9_84 (by decide) (lt_N (by decide)) wx_X9 rfl rfl rfl (Nat.le_of_ble_eq_true rfl) dX9_qualityLine_64 ?_
          refine g_bipush (v := 33) C dX9_qualityLine_67 (by decide) ?_
          refine g_isub C dX9_qualityLine_69 ?_
          obtain ⟨h19, ok⟩ := gd_ok ok
          refine q_ast C ai_45 h19 dX9_qualityLine_70 (fun s20 e21 => ?_)
          replace ok := nx_ok ok s20 e21
          refine g_aload_n C dX9_qualityLine_71 rfl 0 rfl ?_
          refine g_dup C dX9_qualityLine_72 rfl ?_
          refine q_X9_77 C dX9_qualityLine_73 ?_
          refine g_iconst (v := 1) C dX9_qualityLine_76 (by decide) ?_
          refine g_iadd C dX9_qualityLine_77 ?_
          refine p_X9_77 C dX9_qualityLine_78 (fun s22 e23 => ?_)
          replace ok := nx_ok ok s22 e23
          obtain ⟨y24, e25⟩ : ∃ y : Int32, y = (x2 + (1 : Int32)) := ⟨_, rfl⟩
          replace ok := nx_ok ok y24 e25
          refine g_iinc (v := y24) C [(2, .int y24), (0, .ref (ad ε 39)), (1, .int x1)] dX9_qualityLine_81 2 rfl (by rw [e25]; rfl) (by decide) rfl ?_
          refine g_goto (tgt := 2) C dX9_qualityLine_84 (by decide) ?_
          refine g_pick (lv' := [(0, .ref (ad ε 39)), (1, .int x1), (2, .int y24)]) ?_ [1, 2, 0] rfl
          exact g2 _ _ _ ok
        · replace ok := ok_f c15 ok
          refine g_pick (lv' := [(0, .ref (ad ε 39))]) ?_ [0] rfl
          exact t_X9_qualityLine_47 C K _ ok
    · replace ok := ok_t c7 ok
      refine g_aload_n C dX9_qualityLine_23 rfl 0 rfl ?_
      refine g_iconst (v := 1) C dX9_qualityLine_24 (by decide) ?_
      obtain ⟨r26, s27, e28, ok⟩ := bd_ok ok
      refine q_cI C [.int (1 : Int32)] (c_X9_faulty e28) wv_X9_80 (by decide) (lt_N (by decide)) wx_X9 rfl rfl rfl (Nat.le_of_ble_eq_true rfl) dX9_qualityLine_25 ?_
      obtain ⟨z29, ok⟩ := gz_ok ok
      exact K.2 .boolean _ _ _ _ rfl dX9_qualityLine_28 (nar_b z29) (pi_ok ok)
def l_X9_qualityLine_2 : Nat → Int32 → Int32 → St → Option Rs
  | 0 => fun _ _ _ => none
  | n + 1 => fun x1 x2 σ => b_X9_qualityLine_2 (l_X9_qualityLine_2 n) x1 x2 σ
theorem tl_X9_qualityLine_2 {ε : Et} {κ : Kt} {z : Rs} (C : Cx ε κ cX9_qualityLine 3 RX9 2) (K : Ret ε κ cX9_qualityLine (some .boolean) 0 0 (PI ε z)) : ∀ (n : Nat) (x1 : Int32) (x2 : Int32) (σ : St), l_X9_qualityLine_2 n x1 x2 σ = some z → G ε κ 0 0 2 [(0, .ref (ad ε 39)), (1, .int x1), (2, .int x2)] [] (WX ε σ) := by
  intro n
  induction n with
  | zero =>
    intro x1 x2 σ ok
    cases ok
  | succ n ih =>
    intro x1 x2 σ ok
    exact t_X9_qualityLine_2 C K (l_X9_qualityLine_2 n) ih x1 x2 σ ok
def f_X9_qualityLine (x1 : Int32) (σ : St) : Option Rs := l_X9_qualityLine_2 FU x1 (0 : Int32) σ
set_option maxRecDepth 10000 in
set_option maxHeartbeats 1000000 in
theorem tf_X9_qualityLine {ε : Et} {κ : Kt} {z : Rs} (C : Cx ε κ cX9_qualityLine 3 RX9 2) (K : Ret ε κ cX9_qualityLine (some .boolean) 0 0 (PI ε z)) (x1 : Int32) (σ : St) (ok : f_X9_qualityLine x1 σ = some z) : G ε κ 0 0 0 [(0, .ref (ad ε 39)), (1, .int x1)] [] (WX ε σ) := by
  unfold f_X9_qualityLine at ok
  refine g_iconst (v := 0) C dX9_qualityLine_0 (by decide) ?_
  refine g_istore_n C [(2, .int (0 : Int32)), (0, .ref (ad ε 39)), (1, .int x1)] dX9_qualityLine_1 rfl (by decide) rfl ?_
  refine g_pick (lv' := [(0, .ref (ad ε 39)), (1, .int x1), (2, .int (0 : Int32))]) ?_ [1, 2, 0] rfl
  exact tl_X9_qualityLine_2 C K FU _ _ _ ok
theorem c_X9_qualityLine {l : Launch} {ε : Et} {σ : St} {z : Rs} {x1 : Int32} (e : f_X9_qualityLine x1 σ = some z) : RM l ε yX9_qualityLine cX9_qualityLine 3 (some .boolean) 2 0 0 [.ref (ad ε 39), .int x1] (WX ε σ) (PI ε z) := RM.of (by decide) (Nat.le_of_ble_eq_true rfl) (fun κ C K => tf_X9_qualityLine C K x1 σ e)
def b_X9_readOne_66 (σ : St) : Option Rs := gz (0 : Int32) (some ((0 : Int32), σ))
set_option maxRecDepth 10000 in
set_option maxHeartbeats 1000000 in
theorem t_X9_readOne_66 {ε : Et} {κ : Kt} {z : Rs} (C : Cx ε κ cX9_readOne 4 RX9 3) (K : Ret ε κ cX9_readOne (some .boolean) 0 0 (PI ε z)) (σ : St) (ok : b_X9_readOne_66 σ = some z) : G ε κ 0 0 66 [] [] (WX ε σ) := by
  unfold b_X9_readOne_66 at ok
  refine g_iconst (v := 0) C dX9_readOne_66 (by decide) ?_
  obtain ⟨z1, ok⟩ := gz_ok ok
  exact K.2 .boolean _ _ _ _ rfl dX9_readOne_67 (nar_b z1) (pi_ok ok)
def b_X9_readOne_124 (σ : St) : Option Rs := gz (1 : Int32) (some ((1 : Int32), σ))
set_option maxRecDepth 10000 in
set_option maxHeartbeats 1000000 in
theorem t_X9_readOne_124 {ε : Et} {κ : Kt} {z : Rs} (C : Cx ε κ cX9_readOne 4 RX9 3) (K : Ret ε κ cX9_readOne (some .boolean) 0 0 (PI ε z)) (σ : St) (ok : b_X9_readOne_124 σ = some z) : G ε κ 0 0 124 [] [] (WX ε σ) := by
  unfold b_X9_readOne_124 at ok
  refine g_iconst (v := 1) C dX9_readOne_124 (by decide) ?_
  obtain ⟨z1, ok⟩ := gz_ok ok
  exact K.2 .boolean _ _ _ _ rfl dX9_readOne_125 (nar_b z1) (pi_ok ok)
def b_X9_readOne_94 (k94 : Int32 → St → Option Rs) (x2 : Int32) (σ : St) : Option Rs := (if (σ.1 39 1) ≤ (σ.1 39 31) then b_X9_readOne_124 σ else bd (f_X9_look σ) (fun r2 s3 => (if r2 = (62 : Int32) then b_X9_readOne_124 s3 else bd (f_X9_letterLine x2 s3) (fun r6 s7 => (if r6 = 0 then gz (0 : Int32) (some ((0 : Int32), s7)) else k94 x2 s7)))))
set_option maxRecDepth 10000 in
set_option maxHeartbeats 1000000 in
theorem t_X9_readOne_94 {ε : Et} {κ : Kt} {z : Rs} (C : Cx ε κ cX9_readOne 4 RX9 3) (K : Ret ε κ cX9_readOne (some .boolean) 0 0 (PI ε z)) (k94 : Int32 → St → Option Rs) (g94 : ∀ (x2 : Int32) (σ : St), k94 x2 σ = some z → G ε κ 0 0 94 [(0, .ref (ad ε 39)), (2, .int x2)] [] (WX ε σ)) (x2 : Int32) (σ : St) (ok : b_X9_readOne_94 k94 x2 σ = some z) : G ε κ 0 0 94 [(0, .ref (ad ε 39)), (2, .int x2)] [] (WX ε σ) := by
  unfold b_X9_readOne_94 at ok
  refine g_aload_n C dX9_readOne_94 rfl 0 rfl ?_
  refine q_X9_77 C dX9_readOne_95 ?_
  refine g_aload_n C dX9_readOne_98 rfl 0 rfl ?_
  refine q_X9_69 C dX9_readOne_99 ?_
  refine g_icmp_ge (tgt := 124) C dX9_readOne_102 (by decide) (fun c1 => ?_) (fun c1 => ?_)
  · replace ok := ok_t c1 ok
    refine g_pick (lv' := []) ?_ [] rfl
    exact t_X9_readOne_124 C K _ ok
  · replace ok := ok_f c1 ok
    refine g_aload_n C dX9_readOne_105 rfl 0 rfl ?_
    obtain ⟨r2, s3, e4, ok⟩ := bd_ok ok
    refine q_cI C [] (c_X9_look e4) wv_X9_84 (by decide) (lt_N (by decide)) wx_X9 rfl rfl rfl (Nat.le_of_ble_eq_true rfl) dX9_readOne_106 ?_
    refine g_bipush (v := 62) C dX9_readOne_109 (by decide) ?_
    refine g_icmp_eq (tgt := 124) C dX9_readOne_111 (by decide) (fun c5 => ?_) (fun c5 => ?_)
    · replace ok := ok_t c5 ok
      refine g_pick (lv' := []) ?_ [] rfl
      exact t_X9_readOne_124 C K _ ok
    · replace ok := ok_f c5 ok
      refine g_aload_n C dX9_readOne_114 rfl 0 rfl ?_
      refine g_iload_n C dX9_readOne_115 rfl 1 rfl ?_
      obtain ⟨r6, s7, e8, ok⟩ := bd_ok ok
      refine q_cI C [.int x2] (c_X9_letterLine e8) wv_X9_102 (by decide) (lt_N (by decide)) wx_X9 rfl rfl rfl (Nat.le_of_ble_eq_true rfl) dX9_readOne_116 ?_
      refine g_if_ne (tgt := 94) C dX9_readOne_119 (by decide) (fun c9 => ?_) (fun c9 => ?_)
      · replace ok := ok_f c9 ok
        exact g94 _ _ ok
      · replace ok := ok_t c9 ok
        refine g_iconst (v := 0) C dX9_readOne_122 (by decide) ?_
        obtain ⟨z10, ok⟩ := gz_ok ok
        exact K.2 .boolean _ _ _ _ rfl dX9_readOne_123 (nar_b z10) (pi_ok ok)
def l_X9_readOne_94 : Nat → Int32 → St → Option Rs
  | 0 => fun _ _ => none
  | n + 1 => fun x2 σ => b_X9_readOne_94 (l_X9_readOne_94 n) x2 σ
theorem tl_X9_readOne_94 {ε : Et} {κ : Kt} {z : Rs} (C : Cx ε κ cX9_readOne 4 RX9 3) (K : Ret ε κ cX9_readOne (some .boolean) 0 0 (PI ε z)) : ∀ (n : Nat) (x2 : Int32) (σ : St), l_X9_readOne_94 n x2 σ = some z → G ε κ 0 0 94 [(0, .ref (ad ε 39)), (2, .int x2)] [] (WX ε σ) := by
  intro n
  induction n with
  | zero =>
    intro x2 σ ok
    cases ok
  | succ n ih =>
    intro x2 σ ok
    exact t_X9_readOne_94 C K (l_X9_readOne_94 n) ih x2 σ ok
def b_X9_readOne_93 (t0 : Int32) (σ : St) : Option Rs := gz t0 (some (t0, σ))
set_option maxRecDepth 10000 in
set_option maxHeartbeats 1000000 in
theorem t_X9_readOne_93 {ε : Et} {κ : Kt} {z : Rs} (C : Cx ε κ cX9_readOne 4 RX9 3) (K : Ret ε κ cX9_readOne (some .boolean) 0 0 (PI ε z)) (t0 : Int32) (σ : St) (ok : b_X9_readOne_93 t0 σ = some z) : G ε κ 0 0 93 [] [.int t0] (WX ε σ) := by
  unfold b_X9_readOne_93 at ok
  obtain ⟨z1, ok⟩ := gz_ok ok
  exact K.2 .boolean _ _ _ _ rfl dX9_readOne_93 (nar_b z1) (pi_ok ok)
def b_X9_readOne_92 (σ : St) : Option Rs := b_X9_readOne_93 (0 : Int32) σ
set_option maxRecDepth 10000 in
set_option maxHeartbeats 1000000 in
theorem t_X9_readOne_92 {ε : Et} {κ : Kt} {z : Rs} (C : Cx ε κ cX9_readOne 4 RX9 3) (K : Ret ε κ cX9_readOne (some .boolean) 0 0 (PI ε z)) (σ : St) (ok : b_X9_readOne_92 σ = some z) : G ε κ 0 0 92 [] [] (WX ε σ) := by
  unfold b_X9_readOne_92 at ok
  refine g_iconst (v := 0) C dX9_readOne_92 (by decide) ?_
  exact t_X9_readOne_93 C K _ _ ok
def b_X9_readOne_49 (x1 : Int32) (x2 : Int32) (x3 : Int32) (σ : St) : Option Rs := bd (f_X9_nameLine x3 x2 σ) (fun r1 s2 => (if r1 = 0 then b_X9_readOne_66 s2 else bd (f_X9_letterLine x2 s2) (fun r5 s6 => (if r5 = 0 then b_X9_readOne_66 s6 else (if x1 = 0 then bd (f_X9_plusLine x2 s6) (fun r10 s11 => (if r10 = 0 then b_X9_readOne_92 s11 else bd (f_X9_qualityLine x2 s11) (fun r14 s15 => (if r14 = 0 then b_X9_readOne_92 s15 else b_X9_readOne_93 (1 : Int32) s15)))) else l_X9_readOne_94 FU x2 s6)))))
set_option maxRecDepth 10000 in
set_option maxHeartbeats 1000000 in
theorem t_X9_readOne_49 {ε : Et} {κ : Kt} {z : Rs} (C : Cx ε κ cX9_readOne 4 RX9 3) (K : Ret ε κ cX9_readOne (some .boolean) 0 0 (PI ε z)) (x1 : Int32) (x2 : Int32) (x3 : Int32) (σ : St) (ok : b_X9_readOne_49 x1 x2 x3 σ = some z) : G ε κ 0 0 49 [(0, .ref (ad ε 39)), (1, .int x1), (2, .int x2), (3, .int x3)] [] (WX ε σ) := by
  unfold b_X9_readOne_49 at ok
  refine g_aload_n C dX9_readOne_49 rfl 0 rfl ?_
  refine g_iload_n C dX9_readOne_50 rfl 3 rfl ?_
  refine g_iload_n C dX9_readOne_51 rfl 2 rfl ?_
  obtain ⟨r1, s2, e3, ok⟩ := bd_ok ok
  refine q_cI C [.int x3, .int x2] (c_X9_nameLine e3) wv_X9_98 (by decide) (lt_N (by decide)) wx_X9 rfl rfl rfl (Nat.le_of_ble_eq_true rfl) dX9_readOne_52 ?_
  refine g_if_eq (tgt := 66) C dX9_readOne_55 (by decide) (fun c4 => ?_) (fun c4 => ?_)
  · replace ok := ok_t c4 ok
    refine g_pick (lv' := []) ?_ [] rfl
    exact t_X9_readOne_66 C K _ ok
  · replace ok := ok_f c4 ok
    refine g_aload_n C dX9_readOne_58 rfl 0 rfl ?_
    refine g_iload_n C dX9_readOne_59 rfl 2 rfl ?_
    obtain ⟨r5, s6, e7, ok⟩ := bd_ok ok
    refine q_cI C [.int x2] (c_X9_letterLine e7) wv_X9_102 (by decide) (lt_N (by decide)) wx_X9 rfl rfl rfl (Nat.le_of_ble_eq_true rfl) dX9_readOne_60 ?_
    refine g_if_ne (tgt := 68) C dX9_readOne_63 (by decide) (fun c8 => ?_) (fun c8 => ?_)
    · replace ok := ok_f c8 ok
      refine g_iload_n C dX9_readOne_68 rfl 1 rfl ?_
      refine g_if_ne (tgt := 94) C dX9_readOne_69 (by decide) (fun c9 => ?_) (fun c9 => ?_)
      · replace ok := ok_f c9 ok
        refine g_pick (lv' := [(0, .ref (ad ε 39)), (2, .int x2)]) ?_ [0, 2] rfl
        exact tl_X9_readOne_94 C K FU _ _ ok
      · replace ok := ok_t c9 ok
        refine g_aload_n C dX9_readOne_72 rfl 0 rfl ?_
        refine g_iload_n C dX9_readOne_73 rfl 2 rfl ?_
        obtain ⟨r10, s11, e12, ok⟩ := bd_ok ok
        refine q_cI C [.int x2] (c_X9_plusLine e12) wv_X9_105 (by decide) (lt_N (by decide)) wx_X9 rfl rfl rfl (Nat.le_of_ble_eq_true rfl) dX9_readOne_74 ?_
        refine g_if_eq (tgt := 92) C dX9_readOne_77 (by decide) (fun c13 => ?_) (fun c13 => ?_)
        · replace ok := ok_t c13 ok
          refine g_pick (lv' := []) ?_ [] rfl
          exact t_X9_readOne_92 C K _ ok
        · replace ok := ok_f c13 ok
          refine g_aload_n C dX9_readOne_80 rfl 0 rfl ?_
          refine g_iload_n C dX9_readOne_81 rfl 2 rfl ?_
          obtain ⟨r14, s15, e16, ok⟩ := bd_ok ok
          refine q_cI C [.int x2] (c_X9_qualityLine e16) wv_X9_108 (by decide) (lt_N (by decide)) wx_X9 rfl rfl rfl (Nat.le_of_ble_eq_true rfl) dX9_readOne_82 ?_
          refine g_if_eq (tgt := 92) C dX9_readOne_85 (by decide) (fun c17 => ?_) (fun c17 => ?_)
          · replace ok := ok_t c17 ok
            refine g_pick (lv' := []) ?_ [] rfl
            exact t_X9_readOne_92 C K _ ok
          · replace ok := ok_f c17 ok
            refine g_iconst (v := 1) C dX9_readOne_88 (by decide) ?_
            refine g_goto (tgt := 93) C dX9_readOne_89 (by decide) ?_
            refine g_pick (lv' := []) ?_ [] rfl
            exact t_X9_readOne_93 C K _ _ ok
    · replace ok := ok_t c8 ok
      refine g_pick (lv' := []) ?_ [] rfl
      exact t_X9_readOne_66 C K _ ok
def b_X9_readOne_32 (x1 : Int32) (x2 : Int32) (t0 : Int32) (σ : St) : Option Rs := (if (60 : Int32) ≤ (σ.1 39 10) then b_X9_readOne_49 x1 x2 t0 σ else gd (inb x2 (ln 43)) (nx (sA σ 43 x2 (0 : Int32)) (fun s3 => b_X9_readOne_49 x1 x2 t0 s3)))
set_option maxRecDepth 10000 in
set_option maxHeartbeats 1000000 in
theorem t_X9_readOne_32 {ε : Et} {κ : Kt} {z : Rs} (C : Cx ε κ cX9_readOne 4 RX9 3) (K : Ret ε κ cX9_readOne (some .boolean) 0 0 (PI ε z)) (x1 : Int32) (x2 : Int32) (t0 : Int32) (σ : St) (ok : b_X9_readOne_32 x1 x2 t0 σ = some z) : G ε κ 0 0 32 [(0, .ref (ad ε 39)), (1, .int x1), (2, .int x2)] [.int t0] (WX ε σ) := by
  unfold b_X9_readOne_32 at ok
  refine g_istore_n C [(3, .int t0), (0, .ref (ad ε 39)), (1, .int x1), (2, .int x2)] dX9_readOne_32 rfl (by decide) rfl ?_
  refine g_aload_n C dX9_readOne_33 rfl 1 rfl ?_
  refine q_X9_88 C dX9_readOne_34 ?_
  refine g_bipush (v := 60) C dX9_readOne_37 (by decide) ?_
  refine g_icmp_ge (tgt := 49) C dX9_readOne_39 (by decide) (fun c1 => ?_) (fun c1 => ?_)
  · replace ok := ok_t c1 ok
    refine g_pick (lv' := [(0, .ref (ad ε 39)), (1, .int x1), (2, .int x2), (3, .int t0)]) ?_ [1, 2, 3, 0] rfl
    exact t_X9_readOne_49 C K _ _ _ _ ok
  · replace ok := ok_f c1 ok
    refine g_aload_n C dX9_readOne_42 rfl 1 rfl ?_
    refine q_X9_23 C dX9_readOne_43 ?_
    refine g_iload_n C dX9_readOne_46 rfl 3 rfl ?_
    refine g_iconst (v := 0) C dX9_readOne_47 (by decide) ?_
    obtain ⟨h2, ok⟩ := gd_ok ok
    refine q_ast C ai_43 h2 dX9_readOne_48 (fun s3 e4 => ?_)
    replace ok := nx_ok ok s3 e4
    refine g_pick (lv' := [(0, .ref (ad ε 39)), (1, .int x1), (2, .int x2), (3, .int t0)]) ?_ [1, 2, 3, 0] rfl
    exact t_X9_readOne_49 C K _ _ _ _ ok
def b_X9_readOne_19 (x1 : Int32) (t0 : Int32) (t1 : Int32) (σ : St) : Option Rs := nx (t1 + t0) (fun y1 => (if x1 = 0 then b_X9_readOne_32 x1 y1 (64 : Int32) σ else b_X9_readOne_32 x1 y1 (62 : Int32) σ))
set_option maxRecDepth 10000 in
set_option maxHeartbeats 1000000 in
theorem t_X9_readOne_19 {ε : Et} {κ : Kt} {z : Rs} (C : Cx ε κ cX9_readOne 4 RX9 3) (K : Ret ε κ cX9_readOne (some .boolean) 0 0 (PI ε z)) (x1 : Int32) (t0 : Int32) (t1 : Int32) (σ : St) (ok : b_X9_readOne_19 x1 t0 t1 σ = some z) : G ε κ 0 0 19 [(0, .ref (ad ε 39)), (1, .int x1)] [.int t0, .int t1] (WX ε σ) := by
  unfold b_X9_readOne_19 at ok
  refine g_iadd C dX9_readOne_19 ?_
  refine q_nm (fun y1 e2 => ?_)
  replace ok := nx_ok ok y1 e2
  refine g_istore_n C [(2, .int y1), (0, .ref (ad ε 39)), (1, .int x1)] dX9_readOne_20 rfl (by decide) rfl ?_
  refine g_iload_n C dX9_readOne_21 rfl 2 rfl ?_
  refine g_if_ne (tgt := 30) C dX9_readOne_22 (by decide) (fun c3 => ?_) (fun c3 => ?_)
  · replace ok := ok_f c3 ok
    refine g_bipush (v := 62) C dX9_readOne_30 (by decide) ?_
    refine g_pick (lv' := [(0, .ref (ad ε 39)), (1, .int x1), (2, .int y1)]) ?_ [1, 2, 0] rfl
    exact t_X9_readOne_32 C K _ _ _ _ ok
  · replace ok := ok_t c3 ok
    refine g_bipush (v := 64) C dX9_readOne_25 (by decide) ?_
    refine g_goto (tgt := 32) C dX9_readOne_27 (by decide) ?_
    refine g_pick (lv' := [(0, .ref (ad ε 39)), (1, .int x1), (2, .int y1)]) ?_ [1, 2, 0] rfl
    exact t_X9_readOne_32 C K _ _ _ _ ok
def f_X9_readOne (x1 : Int32) (σ : St) : Option Rs := (if (60 : Int32) ≤ (σ.1 39 10) then b_X9_readOne_19 x1 (0 : Int32) (60 : Int32) σ else b_X9_readOne_19 x1 (σ.1 39 10) (60 : Int32) σ)
set_option maxRecDepth 10000 in
set_option maxHeartbeats 1000000 in
theorem tf_X9_readOne {ε : Et} {κ : Kt} {z : Rs} (C : Cx ε κ cX9_readOne 4 RX9 3) (K : Ret ε κ cX9_readOne (some .boolean) 0 0 (PI ε z)) (x1 : Int32) (σ : St) (ok : f_X9_readOne x1 σ = some z) : G ε κ 0 0 0 [(0, .ref (ad ε 39)), (1, .int x1)] [] (WX ε σ) := by
  unfold f_X9_readOne at ok
  refine g_bipush (v := 60) C dX9_readOne_0 (by decide) ?_
  refine g_aload_n C dX9_readOne_2 rfl 0 rfl ?_
  refine q_X9_88 C dX9_readOne_3 ?_
  refine g_bipush (v := 60) C dX9_readOne_6 (by decide) ?_
  refine g_icmp_ge (tgt := 18) C dX9_readOne_8 (by decide) (fun c1 => ?_) (fun c1 => ?_)
  · replace ok := ok_t c1 ok
    refine g_iconst (v := 0) C dX9_readOne_18 (by decide) ?_
    exact t_X9_readOne_19 C K _ _ _ _ ok
  · replace ok := ok_f c1 ok
    refine g_aload_n C dX9_readOne_11 rfl 0 rfl ?_
    refine q_X9_88 C dX9_readOne_12 ?_
    refine g_goto (tgt := 19) C dX9_readOne_15 (by decide) ?_
    exact t_X9_readOne_19 C K _ _ _ _ ok
theorem c_X9_readOne {l : Launch} {ε : Et} {σ : St} {z : Rs} {x1 : Int32} (e : f_X9_readOne x1 σ = some z) : RM l ε yX9_readOne cX9_readOne 4 (some .boolean) 3 0 0 [.ref (ad ε 39), .int x1] (WX ε σ) (PI ε z) := RM.of (by decide) (Nat.le_of_ble_eq_true rfl) (fun κ C K => tf_X9_readOne C K x1 σ e)
def b_X9_read_199 (k115 : Int32 → St → Option Rs) (k199 : Int32 → Int32 → Int32 → St → Option Rs) (x3 : Int32) (x4 : Int32) (x5 : Int32) (σ : St) : Option Rs := (if (120 : Int32) ≤ x5 then nx (x3 + (1 : Int32)) (fun y2 => k115 y2 σ) else gd (inb (((120 : Int32) * x4) + x5) (ln 44)) (gd (inb (((120 : Int32) * x3) + x5) (ln 44)) (nx (sA σ 44 (((120 : Int32) * x3) + x5) (σ.2.1 44 (((120 : Int32) * x4) + x5).toNatClampNeg)) (fun s6 => gd (inb (((120 : Int32) * x4) + x5) (ln 45)) (gd (inb (((120 : Int32) * x3) + x5) (ln 45)) (nx (sA s6 45 (((120 : Int32) * x3) + x5) (s6.2.1 45 (((120 : Int32) * x4) + x5).toNatClampNeg)) (fun s10 => nx (x5 + (1 : Int32)) (fun y12 => k199 x3 x4 y12 s10))))))))
set_option maxRecDepth 10000 in
set_option maxHeartbeats 1000000 in
theorem t_X9_read_199 {ε : Et} {κ : Kt} {z : Rs} (C : Cx ε κ cX9_read 6 RX9 4) (K : Ret ε κ cX9_read (some .int) 0 0 (PI ε z)) (k115 : Int32 → St → Option Rs) (k199 : Int32 → Int32 → Int32 → St → Option Rs) (g115 : ∀ (x3 : Int32) (σ : St), k115 x3 σ = some z → G ε κ 0 0 115 [(0, .ref (ad ε 39)), (3, .int x3)] [] (WX ε σ)) (g199 : ∀ (x3 : Int32) (x4 : Int32) (x5 : Int32) (σ : St), k199 x3 x4 x5 σ = some z → G ε κ 0 0 199 [(0, .ref (ad ε 39)), (3, .int x3), (4, .int x4), (5, .int x5)] [] (WX ε σ)) (x3 : Int32) (x4 : Int32) (x5 : Int32) (σ : St) (ok : b_X9_read_199 k115 k199 x3 x4 x5 σ = some z) : G ε κ 0 0 199 [(0, .ref (ad ε 39)), (3, .int x3), (4, .int x4), (5, .int x5)] [] (WX ε σ) := by
  unfold b_X9_read_199 at ok
  refine g_iload C dX9_read_199 3 rfl ?_
  refine g_bipush (v := 120) C dX9_read_201 (by decide) ?_
  refine g_icmp_ge (tgt := 262) C dX9_read_203 (by decide) (fun c1 => ?_) (fun c1 => ?_)
  · replace ok := ok_t c1 ok
    obtain ⟨y2, e3⟩ : ∃ y : Int32, y = (x3 + (1 : Int32)) := ⟨_, rfl⟩
    replace ok := nx_ok ok y2 e3
    refine g_iinc (v := y2) C [(3, .int y2), (0, .ref (ad ε 39)), (4, .int x4), (5, .int x5)] dX9_read_262 1 rfl (by rw [e3]; rfl) (by decide) rfl ?_
    refine g_goto (tgt := 115) C dX9_read_265 (by decide) ?_
    refine g_pick (lv' := [(0, .ref (ad ε 39)), (3, .int y2)]) ?_ [1, 0] rfl
    exact g115 _ _ ok
  · replace ok := ok_f c1 ok
    refine g_aload_n C dX9_read_206 rfl 0 rfl ?_
    refine q_X9_26 C dX9_read_207 ?_
    refine g_bipush (v := 120) C dX9_read_210 (by decide) ?_
    refine g_iload_n C dX9_read_212 rfl 1 rfl ?_
    refine g_imul C dX9_read_213 ?_
    refine g_iload C dX9_read_214 3 rfl ?_
    refine g_iadd C dX9_read_216 ?_
    refine g_aload_n C dX9_read_217 rfl 0 rfl ?_
    refine q_X9_26 C dX9_read_218 ?_
    refine g_bipush (v := 120) C dX9_read_221 (by decide) ?_
    refine g_iload C dX9_read_223 2 rfl ?_
    refine g_imul C dX9_read_225 ?_
    refine g_iload C dX9_read_226 3 rfl ?_
    refine g_iadd C dX9_read_228 ?_
    obtain ⟨h4, ok⟩ := gd_ok ok
    refine q_ald C ai_44 h4 dX9_read_229 ?_
    obtain ⟨h5, ok⟩ := gd_ok ok
    refine q_ast C ai_44 h5 dX9_read_230 (fun s6 e7 => ?_)
    replace ok := nx_ok ok s6 e7
    refine g_aload_n C dX9_read_231 rfl 0 rfl ?_
    refine q_X9_29 C dX9_read_232 ?_
    refine g_bipush (v := 120) C dX9_read_235 (by decide) ?_
    refine g_iload_n C dX9_read_237 rfl 1 rfl ?_
    refine g_imul C dX9_read_238 ?_
    refine g_iload C dX9_read_239 3 rfl ?_
    refine g_iadd C dX9_read_241 ?_
    refine g_aload_n C dX9_read_242 rfl 0 rfl ?_
    refine q_X9_29 C dX9_read_243 ?_
    refine g_bipush (v := 120) C dX9_read_246 (by decide) ?_
    refine g_iload C dX9_read_248 2 rfl ?_
    refine g_imul C dX9_read_250 ?_
    refine g_iload C dX9_read_251 3 rfl ?_
    refine g_iadd C dX9_read_253 ?_
    obtain ⟨h8, ok⟩ := gd_ok ok
    refine q_ald C ai_45 h8 dX9_read_254 ?_
    obtain ⟨h9, ok⟩ := gd_ok ok
    refine q_ast C ai_45 h9 dX9_read_255 (fun s10 e11 => ?_)
    replace ok := nx_ok ok s10 e11
    obtain ⟨y12, e13⟩ : ∃ y : Int32, y = (x5 + (1 : Int32)) := ⟨_, rfl⟩
    replace ok := nx_ok ok y12 e13
    refine g_iinc (v := y12) C [(5, .int y12), (0, .ref (ad ε 39)), (3, .int x3), (4, .int x4)] dX9_read_256 3 rfl (by rw [e13]; rfl) (by decide) rfl ?_
    refine g_goto (tgt := 199) C dX9_read_259 (by decide) ?_
    refine g_pick (lv' := [(0, .ref (ad ε 39)), (3, .int x3), (4, .int x4), (5, .int y12)]) ?_ [1, 2, 3, 0] rfl
    exact g199 _ _ _ _ ok
def l_X9_read_199 (k115 : Int32 → St → Option Rs) : Nat → Int32 → Int32 → Int32 → St → Option Rs
  | 0 => fun _ _ _ _ => none
  | n + 1 => fun x3 x4 x5 σ => b_X9_read_199 k115 (l_X9_read_199 k115 n) x3 x4 x5 σ
theorem tl_X9_read_199 {ε : Et} {κ : Kt} {z : Rs} (C : Cx ε κ cX9_read 6 RX9 4) (K : Ret ε κ cX9_read (some .int) 0 0 (PI ε z)) (k115 : Int32 → St → Option Rs) (g115 : ∀ (x3 : Int32) (σ : St), k115 x3 σ = some z → G ε κ 0 0 115 [(0, .ref (ad ε 39)), (3, .int x3)] [] (WX ε σ)) : ∀ (n : Nat) (x3 : Int32) (x4 : Int32) (x5 : Int32) (σ : St), l_X9_read_199 k115 n x3 x4 x5 σ = some z → G ε κ 0 0 199 [(0, .ref (ad ε 39)), (3, .int x3), (4, .int x4), (5, .int x5)] [] (WX ε σ) := by
  intro n
  induction n with
  | zero =>
    intro x3 x4 x5 σ ok
    cases ok
  | succ n ih =>
    intro x3 x4 x5 σ ok
    exact t_X9_read_199 C K k115 (l_X9_read_199 k115 n) g115 ih x3 x4 x5 σ ok
def b_X9_read_158 (k115 : Int32 → St → Option Rs) (k158 : Int32 → Int32 → Int32 → St → Option Rs) (x3 : Int32) (x4 : Int32) (x5 : Int32) (σ : St) : Option Rs := (if (40 : Int32) ≤ x5 then l_X9_read_199 k115 FU x3 x4 (0 : Int32) σ else gd (inb (((40 : Int32) * x4) + x5) (ln 42)) (gd (inb (((40 : Int32) * x3) + x5) (ln 42)) (nx (sA σ 42 (((40 : Int32) * x3) + x5) (σ.2.1 42 (((40 : Int32) * x4) + x5).toNatClampNeg)) (fun s4 => nx (x5 + (1 : Int32)) (fun y6 => k158 x3 x4 y6 s4)))))
set_option maxRecDepth 10000 in
set_option maxHeartbeats 1000000 in
theorem t_X9_read_158 {ε : Et} {κ : Kt} {z : Rs} (C : Cx ε κ cX9_read 6 RX9 4) (K : Ret ε κ cX9_read (some .int) 0 0 (PI ε z)) (k115 : Int32 → St → Option Rs) (k158 : Int32 → Int32 → Int32 → St → Option Rs) (g115 : ∀ (x3 : Int32) (σ : St), k115 x3 σ = some z → G ε κ 0 0 115 [(0, .ref (ad ε 39)), (3, .int x3)] [] (WX ε σ)) (g158 : ∀ (x3 : Int32) (x4 : Int32) (x5 : Int32) (σ : St), k158 x3 x4 x5 σ = some z → G ε κ 0 0 158 [(0, .ref (ad ε 39)), (3, .int x3), (4, .int x4), (5, .int x5)] [] (WX ε σ)) (x3 : Int32) (x4 : Int32) (x5 : Int32) (σ : St) (ok : b_X9_read_158 k115 k158 x3 x4 x5 σ = some z) : G ε κ 0 0 158 [(0, .ref (ad ε 39)), (3, .int x3), (4, .int x4), (5, .int x5)] [] (WX ε σ) := by
  unfold b_X9_read_158 at ok
  refine g_iload C dX9_read_158 3 rfl ?_
  refine g_bipush (v := 40) C dX9_read_160 (by decide) ?_
  refine g_icmp_ge (tgt := 196) C dX9_read_162 (by decide) (fun c1 => ?_) (fun c1 => ?_)
  · replace ok := ok_t c1 ok
    refine g_iconst (v := 0) C dX9_read_196 (by decide) ?_
    refine g_istore C [(5, .int (0 : Int32)), (0, .ref (ad ε 39)), (3, .int x3), (4, .int x4)] dX9_read_197 (by decide) rfl ?_
    refine g_pick (lv' := [(0, .ref (ad ε 39)), (3, .int x3), (4, .int x4), (5, .int (0 : Int32))]) ?_ [1, 2, 3, 0] rfl
    exact tl_X9_read_199 C K k115 g115 FU _ _ _ _ ok
  · replace ok := ok_f c1 ok
    refine g_aload_n C dX9_read_165 rfl 0 rfl ?_
    refine q_X9_20 C dX9_read_166 ?_
    refine g_bipush (v := 40) C dX9_read_169 (by decide) ?_
    refine g_iload_n C dX9_read_171 rfl 1 rfl ?_
    refine g_imul C dX9_read_172 ?_
    refine g_iload C dX9_read_173 3 rfl ?_
    refine g_iadd C dX9_read_175 ?_
    refine g_aload_n C dX9_read_176 rfl 0 rfl ?_
    refine q_X9_20 C dX9_read_177 ?_
    refine g_bipush (v := 40) C dX9_read_180 (by decide) ?_
    refine g_iload C dX9_read_182 2 rfl ?_
    refine g_imul C dX9_read_184 ?_
    refine g_iload C dX9_read_185 3 rfl ?_
    refine g_iadd C dX9_read_187 ?_
    obtain ⟨h2, ok⟩ := gd_ok ok
    refine q_ald C ai_42 h2 dX9_read_188 ?_
    obtain ⟨h3, ok⟩ := gd_ok ok
    refine q_ast C ai_42 h3 dX9_read_189 (fun s4 e5 => ?_)
    replace ok := nx_ok ok s4 e5
    obtain ⟨y6, e7⟩ : ∃ y : Int32, y = (x5 + (1 : Int32)) := ⟨_, rfl⟩
    replace ok := nx_ok ok y6 e7
    refine g_iinc (v := y6) C [(5, .int y6), (0, .ref (ad ε 39)), (3, .int x3), (4, .int x4)] dX9_read_190 3 rfl (by rw [e7]; rfl) (by decide) rfl ?_
    refine g_goto (tgt := 158) C dX9_read_193 (by decide) ?_
    refine g_pick (lv' := [(0, .ref (ad ε 39)), (3, .int x3), (4, .int x4), (5, .int y6)]) ?_ [1, 2, 3, 0] rfl
    exact g158 _ _ _ _ ok
def l_X9_read_158 (k115 : Int32 → St → Option Rs) : Nat → Int32 → Int32 → Int32 → St → Option Rs
  | 0 => fun _ _ _ _ => none
  | n + 1 => fun x3 x4 x5 σ => b_X9_read_158 k115 (l_X9_read_158 k115 n) x3 x4 x5 σ
theorem tl_X9_read_158 {ε : Et} {κ : Kt} {z : Rs} (C : Cx ε κ cX9_read 6 RX9 4) (K : Ret ε κ cX9_read (some .int) 0 0 (PI ε z)) (k115 : Int32 → St → Option Rs) (g115 : ∀ (x3 : Int32) (σ : St), k115 x3 σ = some z → G ε κ 0 0 115 [(0, .ref (ad ε 39)), (3, .int x3)] [] (WX ε σ)) : ∀ (n : Nat) (x3 : Int32) (x4 : Int32) (x5 : Int32) (σ : St), l_X9_read_158 k115 n x3 x4 x5 σ = some z → G ε κ 0 0 158 [(0, .ref (ad ε 39)), (3, .int x3), (4, .int x4), (5, .int x5)] [] (WX ε σ) := by
  intro n
  induction n with
  | zero =>
    intro x3 x4 x5 σ ok
    cases ok
  | succ n ih =>
    intro x3 x4 x5 σ ok
    exact t_X9_read_158 C K k115 (l_X9_read_158 k115 n) g115 ih x3 x4 x5 σ ok
def b_X9_read_115 (k115 : Int32 → St → Option Rs) (x3 : Int32) (σ : St) : Option Rs := (if (σ.1 39 9) ≤ x3 then some ((σ.1 39 9), σ) else nx ((60 : Int32) + x3) (fun y2 => gd (inb y2 (ln 41)) (gd (inb x3 (ln 41)) (nx (sA σ 41 x3 (σ.2.1 41 y2.toNatClampNeg)) (fun s6 => gd (inb y2 (ln 43)) (gd (inb x3 (ln 43)) (nx (sA s6 43 x3 (s6.2.1 43 y2.toNatClampNeg)) (fun s10 => l_X9_read_158 k115 FU x3 y2 (0 : Int32) s10))))))))
set_option maxRecDepth 10000 in
set_option maxHeartbeats 1000000 in
theorem t_X9_read_115 {ε : Et} {κ : Kt} {z : Rs} (C : Cx ε κ cX9_read 6 RX9 4) (K : Ret ε κ cX9_read (some .int) 0 0 (PI ε z)) (k115 : Int32 → St → Option Rs) (g115 : ∀ (x3 : Int32) (σ : St), k115 x3 σ = some z → G ε κ 0 0 115 [(0, .ref (ad ε 39)), (3, .int x3)] [] (WX ε σ)) (x3 : Int32) (σ : St) (ok : b_X9_read_115 k115 x3 σ = some z) : G ε κ 0 0 115 [(0, .ref (ad ε 39)), (3, .int x3)] [] (WX ε σ) := by
  unfold b_X9_read_115 at ok
  refine g_iload_n C dX9_read_115 rfl 1 rfl ?_
  refine g_aload_n C dX9_read_116 rfl 0 rfl ?_
  refine q_X9_63 C dX9_read_117 ?_
  refine g_icmp_ge (tgt := 268) C dX9_read_120 (by decide) (fun c1 => ?_) (fun c1 => ?_)
  · replace ok := ok_t c1 ok
    refine g_aload_n C dX9_read_268 rfl 0 rfl ?_
    refine q_X9_63 C dX9_read_269 ?_
    exact K.2 .int _ _ _ _ rfl dX9_read_272 rfl (pi_ok ok)
  · replace ok := ok_f c1 ok
    refine g_bipush (v := 60) C dX9_read_123 (by decide) ?_
    refine g_iload_n C dX9_read_125 rfl 1 rfl ?_
    refine g_iadd C dX9_read_126 ?_
    refine q_nm (fun y2 e3 => ?_)
    replace ok := nx_ok ok y2 e3
    refine g_istore C [(4, .int y2), (0, .ref (ad ε 39)), (3, .int x3)] dX9_read_127 (by decide) rfl ?_
    refine g_aload_n C dX9_read_129 rfl 1 rfl ?_
    refine q_X9_17 C dX9_read_130 ?_
    refine g_iload_n C dX9_read_133 rfl 2 rfl ?_
    refine g_aload_n C dX9_read_134 rfl 1 rfl ?_
    refine q_X9_17 C dX9_read_135 ?_
    refine g_iload C dX9_read_138 0 rfl ?_
    obtain ⟨h4, ok⟩ := gd_ok ok
    refine q_ald C ai_41 h4 dX9_read_140 ?_
    obtain ⟨h5, ok⟩ := gd_ok ok
    refine q_ast C ai_41 h5 dX9_read_141 (fun s6 e7 => ?_)
    replace ok := nx_ok ok s6 e7
    refine g_aload_n C dX9_read_142 rfl 1 rfl ?_
    refine q_X9_23 C dX9_read_143 ?_
    refine g_iload_n C dX9_read_146 rfl 2 rfl ?_
    refine g_aload_n C dX9_read_147 rfl 1 rfl ?_
    refine q_X9_23 C dX9_read_148 ?_
    refine g_iload C dX9_read_151 0 rfl ?_
    obtain ⟨h8, ok⟩ := gd_ok ok
    refine q_ald C ai_43 h8 dX9_read_153 ?_
    obtain ⟨h9, ok⟩ := gd_ok ok
    refine q_ast C ai_43 h9 dX9_read_154 (fun s10 e11 => ?_)
    replace ok := nx_ok ok s10 e11
    refine g_iconst (v := 0) C dX9_read_155 (by decide) ?_
    refine g_istore C [(5, .int (0 : Int32)), (4, .int y2), (0, .ref (ad ε 39)), (3, .int x3)] dX9_read_156 (by decide) rfl ?_
    refine g_pick (lv' := [(0, .ref (ad ε 39)), (3, .int x3), (4, .int y2), (5, .int (0 : Int32))]) ?_ [2, 3, 1, 0] rfl
    exact tl_X9_read_158 C K k115 g115 FU _ _ _ _ ok
def l_X9_read_115 : Nat → Int32 → St → Option Rs
  | 0 => fun _ _ => none
  | n + 1 => fun x3 σ => b_X9_read_115 (l_X9_read_115 n) x3 σ
theorem tl_X9_read_115 {ε : Et} {κ : Kt} {z : Rs} (C : Cx ε κ cX9_read 6 RX9 4) (K : Ret ε κ cX9_read (some .int) 0 0 (PI ε z)) : ∀ (n : Nat) (x3 : Int32) (σ : St), l_X9_read_115 n x3 σ = some z → G ε κ 0 0 115 [(0, .ref (ad ε 39)), (3, .int x3)] [] (WX ε σ) := by
  intro n
  induction n with
  | zero =>
    intro x3 σ ok
    cases ok
  | succ n ih =>
    intro x3 σ ok
    exact t_X9_read_115 C K (l_X9_read_115 n) ih x3 σ ok
def b_X9_read_85 (x2 : Int32) (σ : St) : Option Rs := nx (sS σ 39 1 (0 : Int32)) (fun s1 => (if x2 = 0 then some ((-(s1.1 39 32)), s1) else nx (sS s1 39 9 (s1.1 39 10)) (fun s4 => gz (0 : Int32) (nx (sS s4 39 19 (0 : Int32)) (fun s6 => l_X9_read_115 FU (0 : Int32) s6)))))
set_option maxRecDepth 10000 in
set_option maxHeartbeats 1000000 in
theorem t_X9_read_85 {ε : Et} {κ : Kt} {z : Rs} (C : Cx ε κ cX9_read 6 RX9 4) (K : Ret ε κ cX9_read (some .int) 0 0 (PI ε z)) (x2 : Int32) (σ : St) (ok : b_X9_read_85 x2 σ = some z) : G ε κ 0 0 85 [(0, .ref (ad ε 39)), (2, .int x2)] [] (WX ε σ) := by
  unfold b_X9_read_85 at ok
  refine g_aload_n C dX9_read_85 rfl 0 rfl ?_
  refine g_iconst (v := 0) C dX9_read_86 (by decide) ?_
  refine p_X9_69 C dX9_read_87 (fun s1 e2 => ?_)
  replace ok := nx_ok ok s1 e2
  refine g_iload_n C dX9_read_90 rfl 1 rfl ?_
  refine g_if_ne (tgt := 100) C dX9_read_91 (by decide) (fun c3 => ?_) (fun c3 => ?_)
  · replace ok := ok_f c3 ok
    refine g_aload_n C dX9_read_100 rfl 0 rfl ?_
    refine g_aload_n C dX9_read_101 rfl 0 rfl ?_
    refine q_X9_88 C dX9_read_102 ?_
    refine p_X9_63 C dX9_read_105 (fun s4 e5 => ?_)
    replace ok := nx_ok ok s4 e5
    refine g_aload_n C dX9_read_108 rfl 0 rfl ?_
    refine g_iconst (v := 0) C dX9_read_109 (by decide) ?_
    obtain ⟨z8, ok⟩ := gz_ok ok
    refine p_X9_114 C z8 dX9_read_110 (fun s6 e7 => ?_)
    replace ok := nx_ok ok s6 e7
    refine g_iconst (v := 0) C dX9_read_113 (by decide) ?_
    refine g_istore_n C [(3, .int (0 : Int32)), (0, .ref (ad ε 39)), (2, .int x2)] dX9_read_114 rfl (by decide) rfl ?_
    refine g_pick (lv' := [(0, .ref (ad ε 39)), (3, .int (0 : Int32))]) ?_ [1, 0] rfl
    exact tl_X9_read_115 C K FU _ _ ok
  · replace ok := ok_t c3 ok
    refine g_aload_n C dX9_read_94 rfl 0 rfl ?_
    refine q_X9_74 C dX9_read_95 ?_
    refine g_ineg C dX9_read_98 ?_
    exact K.2 .int _ _ _ _ rfl dX9_read_99 rfl (pi_ok ok)
def b_X9_read_66 (k44 : Int32 → Int32 → St → Option Rs) (x1 : Int32) (σ : St) : Option Rs := bd (f_X9_readOne x1 σ) (fun r1 s2 => nx (sS s2 39 10 ((s2.1 39 10) + (1 : Int32))) (fun s4 => k44 x1 r1 s4))
set_option maxRecDepth 10000 in
set_option maxHeartbeats 1000000 in
theorem t_X9_read_66 {ε : Et} {κ : Kt} {z : Rs} (C : Cx ε κ cX9_read 6 RX9 4) (K : Ret ε κ cX9_read (some .int) 0 0 (PI ε z)) (k44 : Int32 → Int32 → St → Option Rs) (g44 : ∀ (x1 : Int32) (x2 : Int32) (σ : St), k44 x1 x2 σ = some z → G ε κ 0 0 44 [(0, .ref (ad ε 39)), (1, .int x1), (2, .int x2)] [] (WX ε σ)) (x1 : Int32) (σ : St) (ok : b_X9_read_66 k44 x1 σ = some z) : G ε κ 0 0 66 [(0, .ref (ad ε 39)), (1, .int x1)] [] (WX ε σ) := by
  unfold b_X9_read_66 at ok
  refine g_aload_n C dX9_read_66 rfl 0 rfl ?_
  refine g_iload_n C dX9_read_67 rfl 1 rfl ?_
  obtain ⟨r1, s2, e3, ok⟩ := bd_ok ok
  refine q_cI C [.int x1] (c_X9_readOne e3) wv_X9_111 (by decide) (lt_N (by decide)) wx_X9 rfl rfl rfl (Nat.le_of_ble_eq_true rfl) dX9_read_68 ?_
  refine g_istore_n C [(2, .int r1), (0, .ref (ad ε 39)), (1, .int x1)] dX9_read_71 rfl (by decide) rfl ?_
  refine g_aload_n C dX9_read_72 rfl 1 rfl ?_
  refine g_dup C dX9_read_73 rfl ?_
  refine q_X9_88 C dX9_read_74 ?_
  refine g_iconst (v := 1) C dX9_read_77 (by decide) ?_
  refine g_iadd C dX9_read_78 ?_
  refine p_X9_88 C dX9_read_79 (fun s4 e5 => ?_)
  replace ok := nx_ok ok s4 e5
  refine g_goto (tgt := 44) C dX9_read_82 (by decide) ?_
  refine g_pick (lv' := [(0, .ref (ad ε 39)), (1, .int x1), (2, .int r1)]) ?_ [1, 2, 0] rfl
  exact g44 _ _ _ ok
def b_X9_read_44 (k44 : Int32 → Int32 → St → Option Rs) (x1 : Int32) (x2 : Int32) (σ : St) : Option Rs := (if x2 = 0 then b_X9_read_85 x2 σ else (if (σ.1 39 31) < (σ.1 39 1) then b_X9_read_66 k44 x1 σ else (if (σ.1 39 10) = 0 then b_X9_read_66 k44 x1 σ else b_X9_read_85 x2 σ)))
set_option maxRecDepth 10000 in
set_option maxHeartbeats 1000000 in
theorem t_X9_read_44 {ε : Et} {κ : Kt} {z : Rs} (C : Cx ε κ cX9_read 6 RX9 4) (K : Ret ε κ cX9_read (some .int) 0 0 (PI ε z)) (k44 : Int32 → Int32 → St → Option Rs) (g44 : ∀ (x1 : Int32) (x2 : Int32) (σ : St), k44 x1 x2 σ = some z → G ε κ 0 0 44 [(0, .ref (ad ε 39)), (1, .int x1), (2, .int x2)] [] (WX ε σ)) (x1 : Int32) (x2 : Int32) (σ : St) (ok : b_X9_read_44 k44 x1 x2 σ = some z) : G ε κ 0 0 44 [(0, .ref (ad ε 39)), (1, .int x1), (2, .int x2)] [] (WX ε σ) := by
  unfold b_X9_read_44 at ok
  refine g_iload_n C dX9_read_44 rfl 2 rfl ?_
  refine g_if_eq (tgt := 85) C dX9_read_45 (by decide) (fun c1 => ?_) (fun c1 => ?_)
  · replace ok := ok_t c1 ok
    refine g_pick (lv' := [(0, .ref (ad ε 39)), (2, .int x2)]) ?_ [0, 2] rfl
    exact t_X9_read_85 C K _ _ ok
  · replace ok := ok_f c1 ok
    refine g_aload_n C dX9_read_48 rfl 0 rfl ?_
    refine q_X9_77 C dX9_read_49 ?_
    refine g_aload_n C dX9_read_52 rfl 0 rfl ?_
    refine q_X9_69 C dX9_read_53 ?_
    refine g_icmp_lt (tgt := 66) C dX9_read_56 (by decide) (fun c2 => ?_) (fun c2 => ?_)
    · replace ok := ok_t c2 ok
      refine g_pick (lv' := [(0, .ref (ad ε 39)), (1, .int x1)]) ?_ [0, 1] rfl
      exact t_X9_read_66 C K k44 g44 _ _ ok
    · replace ok := ok_f c2 ok
      refine g_aload_n C dX9_read_59 rfl 0 rfl ?_
      refine q_X9_88 C dX9_read_60 ?_
      refine g_if_ne (tgt := 85) C dX9_read_63 (by decide) (fun c3 => ?_) (fun c3 => ?_)
      · replace ok := ok_f c3 ok
        refine g_pick (lv' := [(0, .ref (ad ε 39)), (2, .int x2)]) ?_ [0, 2] rfl
        exact t_X9_read_85 C K _ _ ok
      · replace ok := ok_t c3 ok
        refine g_pick (lv' := [(0, .ref (ad ε 39)), (1, .int x1)]) ?_ [0, 1] rfl
        exact t_X9_read_66 C K k44 g44 _ _ ok
def l_X9_read_44 : Nat → Int32 → Int32 → St → Option Rs
  | 0 => fun _ _ _ => none
  | n + 1 => fun x1 x2 σ => b_X9_read_44 (l_X9_read_44 n) x1 x2 σ
theorem tl_X9_read_44 {ε : Et} {κ : Kt} {z : Rs} (C : Cx ε κ cX9_read 6 RX9 4) (K : Ret ε κ cX9_read (some .int) 0 0 (PI ε z)) : ∀ (n : Nat) (x1 : Int32) (x2 : Int32) (σ : St), l_X9_read_44 n x1 x2 σ = some z → G ε κ 0 0 44 [(0, .ref (ad ε 39)), (1, .int x1), (2, .int x2)] [] (WX ε σ) := by
  intro n
  induction n with
  | zero =>
    intro x1 x2 σ ok
    cases ok
  | succ n ih =>
    intro x1 x2 σ ok
    exact t_X9_read_44 C K (l_X9_read_44 n) ih x1 x2 σ ok
def b_X9_read_15 (x1 : Int32) (t0 : Int32) (σ : St) : Option Rs := nx (sS σ 39 3 t0) (fun s1 => (if (s1.1 39 3) ≤ 0 then nx (sS s1 39 31 (0 : Int32)) (fun s4 => nx (sS s4 39 10 (0 : Int32)) (fun s6 => nx (sS s6 39 32 (0 : Int32)) (fun s8 => l_X9_read_44 FU x1 (1 : Int32) s8))) else some ((0 : Int32), s1)))
set_option maxRecDepth 10000 in
set_option maxHeartbeats 1000000 in
theorem t_X9_read_15 {ε : Et} {κ : Kt} {z : Rs} (C : Cx ε κ cX9_read 6 RX9 4) (K : Ret ε κ cX9_read (some .int) 0 0 (PI ε z)) (x1 : Int32) (t0 : Int32) (σ : St) (ok : b_X9_read_15 x1 t0 σ = some z) : G ε κ 0 0 15 [(0, .ref (ad ε 39)), (1, .int x1)] [.int t0, .ref (ad ε 39)] (WX ε σ) := by
  unfold b_X9_read_15 at ok
  refine p_X9_66 C dX9_read_15 (fun s1 e2 => ?_)
  replace ok := nx_ok ok s1 e2
  refine g_aload_n C dX9_read_18 rfl 0 rfl ?_
  refine q_X9_66 C dX9_read_19 ?_
  refine g_if_le (tgt := 27) C dX9_read_22 (by decide) (fun c3 => ?_) (fun c3 => ?_)
  · replace ok := ok_t c3 ok
    refine g_aload_n C dX9_read_27 rfl 0 rfl ?_
    refine g_iconst (v := 0) C dX9_read_28 (by decide) ?_
    refine p_X9_77 C dX9_read_29 (fun s4 e5 => ?_)
    replace ok := nx_ok ok s4 e5
    refine g_aload_n C dX9_read_32 rfl 0 rfl ?_
    refine g_iconst (v := 0) C dX9_read_33 (by decide) ?_
    refine p_X9_88 C dX9_read_34 (fun s6 e7 => ?_)
    replace ok := nx_ok ok s6 e7
    refine g_aload_n C dX9_read_37 rfl 0 rfl ?_
    refine g_iconst (v := 0) C dX9_read_38 (by decide) ?_
    refine p_X9_74 C dX9_read_39 (fun s8 e9 => ?_)
    replace ok := nx_ok ok s8 e9
    refine g_iconst (v := 1) C dX9_read_42 (by decide) ?_
    refine g_istore_n C [(2, .int (1 : Int32)), (0, .ref (ad ε 39)), (1, .int x1)] dX9_read_43 rfl (by decide) rfl ?_
    refine g_pick (lv' := [(0, .ref (ad ε 39)), (1, .int x1), (2, .int (1 : Int32))]) ?_ [1, 2, 0] rfl
    exact tl_X9_read_44 C K FU _ _ _ ok
  · replace ok := ok_f c3 ok
    refine g_iconst (v := 0) C dX9_read_25 (by decide) ?_
    exact K.2 .int _ _ _ _ rfl dX9_read_26 rfl (pi_ok ok)
def b_X9_read_10 (x1 : Int32) (σ : St) : Option Rs := b_X9_read_15 x1 (1 : Int32) σ
set_option maxRecDepth 10000 in
set_option maxHeartbeats 1000000 in
theorem t_X9_read_10 {ε : Et} {κ : Kt} {z : Rs} (C : Cx ε κ cX9_read 6 RX9 4) (K : Ret ε κ cX9_read (some .int) 0 0 (PI ε z)) (x1 : Int32) (σ : St) (ok : b_X9_read_10 x1 σ = some z) : G ε κ 0 0 10 [(0, .ref (ad ε 39)), (1, .int x1)] [.ref (ad ε 39)] (WX ε σ) := by
  unfold b_X9_read_10 at ok
  refine g_iconst (v := 1) C dX9_read_10 (by decide) ?_
  refine g_goto (tgt := 15) C dX9_read_11 (by decide) ?_
  exact t_X9_read_15 C K _ _ _ ok
def f_X9_read (x1 : Int32) (σ : St) : Option Rs := (if x1 < 0 then b_X9_read_10 x1 σ else (if x1 ≤ (1 : Int32) then b_X9_read_15 x1 (0 : Int32) σ else b_X9_read_10 x1 σ))
set_option maxRecDepth 10000 in
set_option maxHeartbeats 1000000 in
theorem tf_X9_read {ε : Et} {κ : Kt} {z : Rs} (C : Cx ε κ cX9_read 6 RX9 4) (K : Ret ε κ cX9_read (some .int) 0 0 (PI ε z)) (x1 : Int32) (σ : St) (ok : f_X9_read x1 σ = some z) : G ε κ 0 0 0 [(0, .ref (ad ε 39)), (1, .int x1)] [] (WX ε σ) := by
  unfold f_X9_read at ok
  refine g_aload_n C dX9_read_0 rfl 0 rfl ?_
  refine g_iload_n C dX9_read_1 rfl 1 rfl ?_
  refine g_if_lt (tgt := 10) C dX9_read_2 (by decide) (fun c1 => ?_) (fun c1 => ?_)
  · replace ok := ok_t c1 ok
    exact t_X9_read_10 C K _ _ ok
  · replace ok := ok_f c1 ok
    refine g_iload_n C dX9_read_5 rfl 1 rfl ?_
    refine g_iconst (v := 1) C dX9_read_6 (by decide) ?_
    refine g_icmp_le (tgt := 14) C dX9_read_7 (by decide) (fun c2 => ?_) (fun c2 => ?_)
    · replace ok := ok_t c2 ok
      refine g_iconst (v := 0) C dX9_read_14 (by decide) ?_
      exact t_X9_read_15 C K _ _ _ ok
    · replace ok := ok_f c2 ok
      exact t_X9_read_10 C K _ _ ok
theorem c_X9_read {l : Launch} {ε : Et} {σ : St} {z : Rs} {x1 : Int32} (e : f_X9_read x1 σ = some z) : RM l ε yX9_read cX9_read 6 (some .int) 4 0 0 [.ref (ad ε 39), .int x1] (WX ε σ) (PI ε z) := RM.of (by decide) (Nat.le_of_ble_eq_true rfl) (fun κ C K => tf_X9_read C K x1 σ e)
def f_X9_place (σ : St) : Option Rs := nx (sS σ 39 3 (0 : Int32)) (fun s1 => some ((s1.1 39 2), s1))
set_option maxRecDepth 10000 in
set_option maxHeartbeats 1000000 in
theorem tf_X9_place {ε : Et} {κ : Kt} {z : Rs} (C : Cx ε κ cX9_place 1 RX9 0) (K : Ret ε κ cX9_place (some .int) 0 0 (PI ε z)) (σ : St) (ok : f_X9_place σ = some z) : G ε κ 0 0 0 [(0, .ref (ad ε 39))] [] (WX ε σ) := by
  unfold f_X9_place at ok
  refine g_aload_n C dX9_place_0 rfl 0 rfl ?_
  refine g_iconst (v := 0) C dX9_place_1 (by decide) ?_
  refine p_X9_66 C dX9_place_2 (fun s1 e2 => ?_)
  replace ok := nx_ok ok s1 e2
  refine g_aload_n C dX9_place_5 rfl 0 rfl ?_
  refine q_X9_13 C dX9_place_6 ?_
  exact K.2 .int _ _ _ _ rfl dX9_place_9 rfl (pi_ok ok)
theorem c_X9_place {l : Launch} {ε : Et} {σ : St} {z : Rs} (e : f_X9_place σ = some z) : RM l ε yX9_place cX9_place 1 (some .int) 0 0 0 [.ref (ad ε 39)] (WX ε σ) (PI ε z) := RM.of (by decide) (Nat.le_of_ble_eq_true rfl) (fun κ C K => tf_X9_place C K σ e)
def b_X9_isCode_75 (x3 : Int32) (σ : St) : Option Rs := gz x3 (some (x3, σ))
set_option maxRecDepth 10000 in
set_option maxHeartbeats 1000000 in
theorem t_X9_isCode_75 {ε : Et} {κ : Kt} {z : Rs} (C : Cx ε κ cX9_isCode 5 RX9 1) (K : Ret ε κ cX9_isCode (some .boolean) 0 0 (PI ε z)) (x3 : Int32) (σ : St) (ok : b_X9_isCode_75 x3 σ = some z) : G ε κ 0 0 75 [(3, .int x3)] [] (WX ε σ) := by
  unfold b_X9_isCode_75 at ok
  refine g_iload_n C dX9_isCode_75 rfl 0 rfl ?_
  obtain ⟨z1, ok⟩ := gz_ok ok
  exact K.2 .boolean _ _ _ _ rfl dX9_isCode_76 (nar_b z1) (pi_ok ok)
def b_X9_isCode_68 (k25 : Int32 → Int32 → St → Option Rs) (x4 : Int32) (t0 : Int32) (σ : St) : Option Rs := nx (x4 + (1 : Int32)) (fun y1 => k25 t0 y1 σ)
set_option maxRecDepth 10000 in
set_option maxHeartbeats 1000000 in
theorem t_X9_isCode_68 {ε : Et} {κ : Kt} {z : Rs} (C : Cx ε κ cX9_isCode 5 RX9 1) (K : Ret ε κ cX9_isCode (some .boolean) 0 0 (PI ε z)) (k25 : Int32 → Int32 → St → Option Rs) (g25 : ∀ (x3 : Int32) (x4 : Int32) (σ : St), k25 x3 x4 σ = some z → G ε κ 0 0 25 [(0, .ref (ad ε 39)), (3, .int x3), (4, .int x4)] [] (WX ε σ)) (x4 : Int32) (t0 : Int32) (σ : St) (ok : b_X9_isCode_68 k25 x4 t0 σ = some z) : G ε κ 0 0 68 [(0, .ref (ad ε 39)), (4, .int x4)] [.int t0] (WX ε σ) := by
  unfold b_X9_isCode_68 at ok
  refine g_istore_n C [(3, .int t0), (0, .ref (ad ε 39)), (4, .int x4)] dX9_isCode_68 rfl (by decide) rfl ?_
  obtain ⟨y1, e2⟩ : ∃ y : Int32, y = (x4 + (1 : Int32)) := ⟨_, rfl⟩
  replace ok := nx_ok ok y1 e2
  refine g_iinc (v := y1) C [(4, .int y1), (3, .int t0), (0, .ref (ad ε 39))] dX9_isCode_69 2 rfl (by rw [e2]; rfl) (by decide) rfl ?_
  refine g_goto (tgt := 25) C dX9_isCode_72 (by decide) ?_
  refine g_pick (lv' := [(0, .ref (ad ε 39)), (3, .int t0), (4, .int y1)]) ?_ [2, 1, 0] rfl
  exact g25 _ _ _ ok
def b_X9_isCode_67 (k25 : Int32 → Int32 → St → Option Rs) (x4 : Int32) (σ : St) : Option Rs := b_X9_isCode_68 k25 x4 (0 : Int32) σ
set_option maxRecDepth 10000 in
set_option maxHeartbeats 1000000 in
theorem t_X9_isCode_67 {ε : Et} {κ : Kt} {z : Rs} (C : Cx ε κ cX9_isCode 5 RX9 1) (K : Ret ε κ cX9_isCode (some .boolean) 0 0 (PI ε z)) (k25 : Int32 → Int32 → St → Option Rs) (g25 : ∀ (x3 : Int32) (x4 : Int32) (σ : St), k25 x3 x4 σ = some z → G ε κ 0 0 25 [(0, .ref (ad ε 39)), (3, .int x3), (4, .int x4)] [] (WX ε σ)) (x4 : Int32) (σ : St) (ok : b_X9_isCode_67 k25 x4 σ = some z) : G ε κ 0 0 67 [(0, .ref (ad ε 39)), (4, .int x4)] [] (WX ε σ) := by
  unfold b_X9_isCode_67 at ok
  refine g_iconst (v := 0) C dX9_isCode_67 (by decide) ?_
  exact t_X9_isCode_68 C K k25 g25 _ _ _ ok
def b_X9_isCode_25 (k25 : Int32 → Int32 → St → Option Rs) (x3 : Int32) (x4 : Int32) (σ : St) : Option Rs := (if (σ.1 39 1) ≤ x4 then b_X9_isCode_75 x3 σ else (if x3 = 0 then b_X9_isCode_75 x3 σ else gd (inb x4 (ln 40)) (bd (f_X9_letterOf (σ.2.1 40 x4.toNatClampNeg) σ) (fun r4 s5 => (if r4 ≤ 0 then b_X9_isCode_67 k25 x4 s5 else gd (inb x4 (ln 40)) ((if (s5.2.1 40 x4.toNatClampNeg) = (78 : Int32) then b_X9_isCode_67 k25 x4 s5 else b_X9_isCode_68 k25 x4 (1 : Int32) s5)))))))
set_option maxRecDepth 10000 in
set_option maxHeartbeats 1000000 in
theorem t_X9_isCode_25 {ε : Et} {κ : Kt} {z : Rs} (C : Cx ε κ cX9_isCode 5 RX9 1) (K : Ret ε κ cX9_isCode (some .boolean) 0 0 (PI ε z)) (k25 : Int32 → Int32 → St → Option Rs) (g25 : ∀ (x3 : Int32) (x4 : Int32) (σ : St), k25 x3 x4 σ = some z → G ε κ 0 0 25 [(0, .ref (ad ε 39)), (3, .int x3), (4, .int x4)] [] (WX ε σ)) (x3 : Int32) (x4 : Int32) (σ : St) (ok : b_X9_isCode_25 k25 x3 x4 σ = some z) : G ε κ 0 0 25 [(0, .ref (ad ε 39)), (3, .int x3), (4, .int x4)] [] (WX ε σ) := by
  unfold b_X9_isCode_25 at ok
  refine g_iload C dX9_isCode_25 2 rfl ?_
  refine g_aload_n C dX9_isCode_27 rfl 0 rfl ?_
  refine q_X9_69 C dX9_isCode_28 ?_
  refine g_icmp_ge (tgt := 75) C dX9_isCode_31 (by decide) (fun c1 => ?_) (fun c1 => ?_)
  · replace ok := ok_t c1 ok
    refine g_pick (lv' := [(3, .int x3)]) ?_ [1] rfl
    exact t_X9_isCode_75 C K _ _ ok
  · replace ok := ok_f c1 ok
    refine g_iload_n C dX9_isCode_34 rfl 1 rfl ?_
    refine g_if_eq (tgt := 75) C dX9_isCode_35 (by decide) (fun c2 => ?_) (fun c2 => ?_)
    · replace ok := ok_t c2 ok
      refine g_pick (lv' := [(3, .int x3)]) ?_ [1] rfl
      exact t_X9_isCode_75 C K _ _ ok
    · replace ok := ok_f c2 ok
      refine g_aload_n C dX9_isCode_38 rfl 0 rfl ?_
      refine q_X9_7 C dX9_isCode_39 ?_
      refine g_iload C dX9_isCode_42 2 rfl ?_
      obtain ⟨h3, ok⟩ := gd_ok ok
      refine q_ald C ai_40 h3 dX9_isCode_44 ?_
      obtain ⟨r4, s5, e6, ok⟩ := bd_ok ok
      refine q_sI C [.int (σ.2.1 40 x4.toNatClampNeg)] (c_X9_letterOf e6) wv_X9_94 (by decide) rfl rfl (Nat.le_of_ble_eq_true rfl) dX9_isCode_45 ?_
      refine g_if_le (tgt := 67) C dX9_isCode_48 (by decide) (fun c7 => ?_) (fun c7 => ?_)
      · replace ok := ok_t c7 ok
        refine g_pick (lv' := [(0, .ref (ad ε 39)), (4, .int x4)]) ?_ [0, 2] rfl
        exact t_X9_isCode_67 C K k25 g25 _ _ ok
      · replace ok := ok_f c7 ok
        refine g_aload_n C dX9_isCode_51 rfl 0 rfl ?_
        refine q_X9_7 C dX9_isCode_52 ?_
        refine g_iload C dX9_isCode_55 2 rfl ?_
        obtain ⟨h8, ok⟩ := gd_ok ok
        refine q_ald C ai_40 h8 dX9_isCode_57 ?_
        refine g_bipush (v := 78) C dX9_isCode_58 (by decide) ?_
        refine g_icmp_eq (tgt := 67) C dX9_isCode_60 (by decide) (fun c9 => ?_) (fun c9 => ?_)
        · replace ok := ok_t c9 ok
          refine g_pick (lv' := [(0, .ref (ad ε 39)), (4, .int x4)]) ?_ [0, 2] rfl
          exact t_X9_isCode_67 C K k25 g25 _ _ ok
        · replace ok := ok_f c9 ok
          refine g_iconst (v := 1) C dX9_isCode_63 (by decide) ?_
          refine g_goto (tgt := 68) C dX9_isCode_64 (by decide) ?_
          refine g_pick (lv' := [(0, .ref (ad ε 39)), (4, .int x4)]) ?_ [0, 2] rfl
          exact t_X9_isCode_68 C K k25 g25 _ _ _ ok
def l_X9_isCode_25 : Nat → Int32 → Int32 → St → Option Rs
  | 0 => fun _ _ _ => none
  | n + 1 => fun x3 x4 σ => b_X9_isCode_25 (l_X9_isCode_25 n) x3 x4 σ
theorem tl_X9_isCode_25 {ε : Et} {κ : Kt} {z : Rs} (C : Cx ε κ cX9_isCode 5 RX9 1) (K : Ret ε κ cX9_isCode (some .boolean) 0 0 (PI ε z)) : ∀ (n : Nat) (x3 : Int32) (x4 : Int32) (σ : St), l_X9_isCode_25 n x3 x4 σ = some z → G ε κ 0 0 25 [(0, .ref (ad ε 39)), (3, .int x3), (4, .int x4)] [] (WX ε σ) := by
  intro n
  induction n with
  | zero =>
    intro x3 x4 σ ok
    cases ok
  | succ n ih =>
    intro x3 x4 σ ok
    exact t_X9_isCode_25 C K (l_X9_isCode_25 n) ih x3 x4 σ ok
def b_X9_isCode_21 (t0 : Int32) (σ : St) : Option Rs := l_X9_isCode_25 FU t0 (0 : Int32) σ
set_option maxRecDepth 10000 in
set_option maxHeartbeats 1000000 in
theorem t_X9_isCode_21 {ε : Et} {κ : Kt} {z : Rs} (C : Cx ε κ cX9_isCode 5 RX9 1) (K : Ret ε κ cX9_isCode (some .boolean) 0 0 (PI ε z)) (t0 : Int32) (σ : St) (ok : b_X9_isCode_21 t0 σ = some z) : G ε κ 0 0 21 [(0, .ref (ad ε 39))] [.int t0] (WX ε σ) := by
  unfold b_X9_isCode_21 at ok
  refine g_istore_n C [(3, .int t0), (0, .ref (ad ε 39))] dX9_isCode_21 rfl (by decide) rfl ?_
  refine g_iconst (v := 0) C dX9_isCode_22 (by decide) ?_
  refine g_istore C [(4, .int (0 : Int32)), (3, .int t0), (0, .ref (ad ε 39))] dX9_isCode_23 (by decide) rfl ?_
  refine g_pick (lv' := [(0, .ref (ad ε 39)), (3, .int t0), (4, .int (0 : Int32))]) ?_ [2, 1, 0] rfl
  exact tl_X9_isCode_25 C K FU _ _ _ ok
def b_X9_isCode_20 (σ : St) : Option Rs := b_X9_isCode_21 (0 : Int32) σ
set_option maxRecDepth 10000 in
set_option maxHeartbeats 1000000 in
theorem t_X9_isCode_20 {ε : Et} {κ : Kt} {z : Rs} (C : Cx ε κ cX9_isCode 5 RX9 1) (K : Ret ε κ cX9_isCode (some .boolean) 0 0 (PI ε z)) (σ : St) (ok : b_X9_isCode_20 σ = some z) : G ε κ 0 0 20 [(0, .ref (ad ε 39))] [] (WX ε σ) := by
  unfold b_X9_isCode_20 at ok
  refine g_iconst (v := 0) C dX9_isCode_20 (by decide) ?_
  exact t_X9_isCode_21 C K _ _ ok
def f_X9_isCode (x1 : Int32) (x2 : Int32) (σ : St) : Option Rs := (if (σ.1 39 1) < x1 then b_X9_isCode_20 σ else (if x2 < (σ.1 39 1) then b_X9_isCode_20 σ else b_X9_isCode_21 (1 : Int32) σ))
set_option maxRecDepth 10000 in
set_option maxHeartbeats 1000000 in
theorem tf_X9_isCode {ε : Et} {κ : Kt} {z : Rs} (C : Cx ε κ cX9_isCode 5 RX9 1) (K : Ret ε κ cX9_isCode (some .boolean) 0 0 (PI ε z)) (x1 : Int32) (x2 : Int32) (σ : St) (ok : f_X9_isCode x1 x2 σ = some z) : G ε κ 0 0 0 [(0, .ref (ad ε 39)), (1, .int x1), (2, .int x2)] [] (WX ε σ) := by
  unfold f_X9_isCode at ok
  refine g_aload_n C dX9_isCode_0 rfl 0 rfl ?_
  refine q_X9_69 C dX9_isCode_1 ?_
  refine g_iload_n C dX9_isCode_4 rfl 1 rfl ?_
  refine g_icmp_lt (tgt := 20) C dX9_isCode_5 (by decide) (fun c1 => ?_) (fun c1 => ?_)
  · replace ok := ok_t c1 ok
    refine g_pick (lv' := [(0, .ref (ad ε 39))]) ?_ [0] rfl
    exact t_X9_isCode_20 C K _ ok
  · replace ok := ok_f c1 ok
    refine g_aload_n C dX9_isCode_8 rfl 0 rfl ?_
    refine q_X9_69 C dX9_isCode_9 ?_
    refine g_iload_n C dX9_isCode_12 rfl 2 rfl ?_
    refine g_icmp_gt (tgt := 20) C dX9_isCode_13 (by decide) (fun c2 => ?_) (fun c2 => ?_)
    · replace ok := ok_t c2 ok
      refine g_pick (lv' := [(0, .ref (ad ε 39))]) ?_ [0] rfl
      exact t_X9_isCode_20 C K _ ok
    · replace ok := ok_f c2 ok
      refine g_iconst (v := 1) C dX9_isCode_16 (by decide) ?_
      refine g_goto (tgt := 21) C dX9_isCode_17 (by decide) ?_
      refine g_pick (lv' := [(0, .ref (ad ε 39))]) ?_ [0] rfl
      exact t_X9_isCode_21 C K _ _ ok
theorem c_X9_isCode {l : Launch} {ε : Et} {σ : St} {z : Rs} {x1 : Int32} {x2 : Int32} (e : f_X9_isCode x1 x2 σ = some z) : RM l ε yX9_isCode cX9_isCode 5 (some .boolean) 1 0 0 [.ref (ad ε 39), .int x1, .int x2] (WX ε σ) (PI ε z) := RM.of (by decide) (Nat.le_of_ble_eq_true rfl) (fun κ C K => tf_X9_isCode C K x1 x2 σ e)
def b_X9_hasCode_48 (k2 : Int32 → St → Option Rs) (k14 : Int32 → Int32 → Int32 → St → Option Rs) (x1 : Int32) (x3 : Int32) (t0 : Int32) (t1 : Int32) (σ : St) : Option Rs := nx (t1 &&& t0) (fun y1 => nx (x3 + (1 : Int32)) (fun y3 => k14 x1 y1 y3 σ))
set_option maxRecDepth 10000 in
set_option maxHeartbeats 1000000 in
theorem t_X9_hasCode_48 {ε : Et} {κ : Kt} {z : Rs} (C : Cx ε κ cX9_hasCode 4 RX9 0) (K : Ret ε κ cX9_hasCode (some .boolean) 0 0 (PI ε z)) (k2 : Int32 → St → Option Rs) (k14 : Int32 → Int32 → Int32 → St → Option Rs) (g2 : ∀ (x1 : Int32) (σ : St), k2 x1 σ = some z → G ε κ 0 0 2 [(0, .ref (ad ε 39)), (1, .int x1)] [] (WX ε σ)) (g14 : ∀ (x1 : Int32) (x2 : Int32) (x3 : Int32) (σ : St), k14 x1 x2 x3 σ = some z → G ε κ 0 0 14 [(0, .ref (ad ε 39)), (1, .int x1), (2, .int x2), (3, .int x3)] [] (WX ε σ)) (x1 : Int32) (x3 : Int32) (t0 : Int32) (t1 : Int32) (σ : St) (ok : b_X9_hasCode_48 k2 k14 x1 x3 t0 t1 σ = some z) : G ε κ 0 0 48 [(0, .ref (ad ε 39)), (1, .int x1), (3, .int x3)] [.int t0, .int t1] (WX ε σ) := by
  unfold b_X9_hasCode_48 at ok
  refine g_iand C dX9_hasCode_48 ?_
  refine q_nm (fun y1 e2 => ?_)
  replace ok := nx_ok ok y1 e2
  refine g_istore_n C [(2, .int y1), (0, .ref (ad ε 39)), (1, .int x1), (3, .int x3)] dX9_hasCode_49 rfl (by decide) rfl ?_
  obtain ⟨y3, e4⟩ : ∃ y : Int32, y = (x3 + (1 : Int32)) := ⟨_, rfl⟩
  replace ok := nx_ok ok y3 e4
  refine g_iinc (v := y3) C [(3, .int y3), (2, .int y1), (0, .ref (ad ε 39)), (1, .int x1)] dX9_hasCode_50 3 rfl (by rw [e4]; rfl) (by decide) rfl ?_
  refine g_goto (tgt := 14) C dX9_hasCode_53 (by decide) ?_
  refine g_pick (lv' := [(0, .ref (ad ε 39)), (1, .int x1), (2, .int y1), (3, .int y3)]) ?_ [2, 3, 1, 0] rfl
  exact g14 _ _ _ _ ok
def b_X9_hasCode_14 (k2 : Int32 → St → Option Rs) (k14 : Int32 → Int32 → Int32 → St → Option Rs) (x1 : Int32) (x2 : Int32) (x3 : Int32) (σ : St) : Option Rs := (if (σ.1 39 13) ≤ x3 then (if x2 = 0 then nx (x1 + (1 : Int32)) (fun y3 => k2 y3 σ) else gz (1 : Int32) (some ((1 : Int32), σ))) else gd (inb (((12 : Int32) * x1) + x3) (ln 46)) (gd (inb x3 (ln 40)) ((if (σ.2.1 46 (((12 : Int32) * x1) + x3).toNatClampNeg) = (σ.2.1 40 x3.toNatClampNeg) then b_X9_hasCode_48 k2 k14 x1 x3 (1 : Int32) x2 σ else b_X9_hasCode_48 k2 k14 x1 x3 (0 : Int32) x2 σ))))
set_option maxRecDepth 10000 in
set_option maxHeartbeats 1000000 in
theorem t_X9_hasCode_14 {ε : Et} {κ : Kt} {z : Rs} (C : Cx ε κ cX9_hasCode 4 RX9 0) (K : Ret ε κ cX9_hasCode (some .boolean) 0 0 (PI ε z)) (k2 : Int32 → St → Option Rs) (k14 : Int32 → Int32 → Int32 → St → Option Rs) (g2 : ∀ (x1 : Int32) (σ : St), k2 x1 σ = some z → G ε κ 0 0 2 [(0, .ref (ad ε 39)), (1, .int x1)] [] (WX ε σ)) (g14 : ∀ (x1 : Int32) (x2 : Int32) (x3 : Int32) (σ : St), k14 x1 x2 x3 σ = some z → G ε κ 0 0 14 [(0, .ref (ad ε 39)), (1, .int x1), (2, .int x2), (3, .int x3)] [] (WX ε σ)) (x1 : Int32) (x2 : Int32) (x3 : Int32) (σ : St) (ok : b_X9_hasCode_14 k2 k14 x1 x2 x3 σ = some z) : G ε κ 0 0 14 [(0, .ref (ad ε 39)), (1, .int x1), (2, .int x2), (3, .int x3)] [] (WX ε σ) := by
  unfold b_X9_hasCode_14 at ok
  refine g_iload_n C dX9_hasCode_14 rfl 3 rfl ?_
  refine g_aload_n C dX9_hasCode_15 rfl 0 rfl ?_
  refine q_X9_121 C dX9_hasCode_16 ?_
  refine g_icmp_ge (tgt := 56) C dX9_hasCode_19 (by decide) (fun c1 => ?_) (fun c1 => ?_)
  · replace ok := ok_t c1 ok
    refine g_iload_n C dX9_hasCode_56 rfl 2 rfl ?_
    refine g_if_eq (tgt := 62) C dX9_hasCode_57 (by decide) (fun c2 => ?_) (fun c2 => ?_)
    · replace ok := ok_t c2 ok
      obtain ⟨y3, e4⟩ : ∃ y : Int32, y = (x1 + (1 : Int32)) := ⟨_, rfl⟩
      replace ok := nx_ok ok y3 e4
      refine g_iinc (v := y3) C [(1, .int y3), (0, .ref (ad ε 39)), (2, .int x2), (3, .int x3)] dX9_hasCode_62 1 rfl (by rw [e4]; rfl) (by decide) rfl ?_
      refine g_goto (tgt := 2) C dX9_hasCode_65 (by decide) ?_
      refine g_pick (lv' := [(0, .ref (ad ε 39)), (1, .int y3)]) ?_ [1, 0] rfl
      exact g2 _ _ ok
    · replace ok := ok_f c2 ok
      refine g_iconst (v := 1) C dX9_hasCode_60 (by decide) ?_
      obtain ⟨z5, ok⟩ := gz_ok ok
      exact K.2 .boolean _ _ _ _ rfl dX9_hasCode_61 (nar_b z5) (pi_ok ok)
  · replace ok := ok_f c1 ok
    refine g_iload_n C dX9_hasCode_22 rfl 2 rfl ?_
    refine g_aload_n C dX9_hasCode_23 rfl 0 rfl ?_
    refine q_X9_32 C dX9_hasCode_24 ?_
    refine g_bipush (v := 12) C dX9_hasCode_27 (by decide) ?_
    refine g_iload_n C dX9_hasCode_29 rfl 1 rfl ?_
    refine g_imul C dX9_hasCode_30 ?_
    refine g_iload_n C dX9_hasCode_31 rfl 3 rfl ?_
    refine g_iadd C dX9_hasCode_32 ?_
    obtain ⟨h6, ok⟩ := gd_ok ok
    refine q_ald C ai_46 h6 dX9_hasCode_33 ?_
    refine g_aload_n C dX9_hasCode_34 rfl 0 rfl ?_
    refine q_X9_7 C dX9_hasCode_35 ?_
    refine g_iload_n C dX9_hasCode_38 rfl 3 rfl ?_
    obtain ⟨h7, ok⟩ := gd_ok ok
    refine q_ald C ai_40 h7 dX9_hasCode_39 ?_
    refine g_icmp_ne (tgt := 47) C dX9_hasCode_40 (by decide) (fun c8 => ?_) (fun c8 => ?_)
    · replace ok := ok_f c8 ok
      refine g_iconst (v := 0) C dX9_hasCode_47 (by decide) ?_
      refine g_pick (lv' := [(0, .ref (ad ε 39)), (1, .int x1), (3, .int x3)]) ?_ [0, 1, 3] rfl
      exact t_X9_hasCode_48 C K k2 k14 g2 g14 _ _ _ _ _ ok
    · replace ok := ok_t c8 ok
      refine g_iconst (v := 1) C dX9_hasCode_43 (by decide) ?_
      refine g_goto (tgt := 48) C dX9_hasCode_44 (by decide) ?_
      refine g_pick (lv' := [(0, .ref (ad ε 39)), (1, .int x1), (3, .int x3)]) ?_ [0, 1, 3] rfl
      exact t_X9_hasCode_48 C K k2 k14 g2 g14 _ _ _ _ _ ok
def l_X9_hasCode_14 (k2 : Int32 → St → Option Rs) : Nat → Int32 → Int32 → Int32 → St → Option Rs
  | 0 => fun _ _ _ _ => none
  | n + 1 => fun x1 x2 x3 σ => b_X9_hasCode_14 k2 (l_X9_hasCode_14 k2 n) x1 x2 x3 σ
theorem tl_X9_hasCode_14 {ε : Et} {κ : Kt} {z : Rs} (C : Cx ε κ cX9_hasCode 4 RX9 0) (K : Ret ε κ cX9_hasCode (some .boolean) 0 0 (PI ε z)) (k2 : Int32 → St → Option Rs) (g2 : ∀ (x1 : Int32) (σ : St), k2 x1 σ = some z → G ε κ 0 0 2 [(0, .ref (ad ε 39)), (1, .int x1)] [] (WX ε σ)) : ∀ (n : Nat) (x1 : Int32) (x2 : Int32) (x3 : Int32) (σ : St), l_X9_hasCode_14 k2 n x1 x2 x3 σ = some z → G ε κ 0 0 14 [(0, .ref (ad ε 39)), (1, .int x1), (2, .int x2), (3, .int x3)] [] (WX ε σ) := by
  intro n
  induction n with
  | zero =>
    intro x1 x2 x3 σ ok
    cases ok
  | succ n ih =>
    intro x1 x2 x3 σ ok
    exact t_X9_hasCode_14 C K k2 (l_X9_hasCode_14 k2 n) g2 ih x1 x2 x3 σ ok
def b_X9_hasCode_2 (k2 : Int32 → St → Option Rs) (x1 : Int32) (σ : St) : Option Rs := (if (σ.1 39 12) ≤ x1 then gz (0 : Int32) (some ((0 : Int32), σ)) else l_X9_hasCode_14 k2 FU x1 (1 : Int32) (0 : Int32) σ)
set_option maxRecDepth 10000 in
set_option maxHeartbeats 1000000 in
theorem t_X9_hasCode_2 {ε : Et} {κ : Kt} {z : Rs} (C : Cx ε κ cX9_hasCode 4 RX9 0) (K : Ret ε κ cX9_hasCode (some .boolean) 0 0 (PI ε z)) (k2 : Int32 → St → Option Rs) (g2 : ∀ (x1 : Int32) (σ : St), k2 x1 σ = some z → G ε κ 0 0 2 [(0, .ref (ad ε 39)), (1, .int x1)] [] (WX ε σ)) (x1 : Int32) (σ : St) (ok : b_X9_hasCode_2 k2 x1 σ = some z) : G ε κ 0 0 2 [(0, .ref (ad ε 39)), (1, .int x1)] [] (WX ε σ) := by
  unfold b_X9_hasCode_2 at ok
  refine g_iload_n C dX9_hasCode_2 rfl 1 rfl ?_
  refine g_aload_n C dX9_hasCode_3 rfl 0 rfl ?_
  refine q_X9_118 C dX9_hasCode_4 ?_
  refine g_icmp_ge (tgt := 68) C dX9_hasCode_7 (by decide) (fun c1 => ?_) (fun c1 => ?_)
  · replace ok := ok_t c1 ok
    refine g_iconst (v := 0) C dX9_hasCode_68 (by decide) ?_
    obtain ⟨z2, ok⟩ := gz_ok ok
    exact K.2 .boolean _ _ _ _ rfl dX9_hasCode_69 (nar_b z2) (pi_ok ok)
  · replace ok := ok_f c1 ok
    refine g_iconst (v := 1) C dX9_hasCode_10 (by decide) ?_
    refine g_istore_n C [(2, .int (1 : Int32)), (0, .ref (ad ε 39)), (1, .int x1)] dX9_hasCode_11 rfl (by decide) rfl ?_
    refine g_iconst (v := 0) C dX9_hasCode_12 (by decide) ?_
    refine g_istore_n C [(3, .int (0 : Int32)), (2, .int (1 : Int32)), (0, .ref (ad ε 39)), (1, .int x1)] dX9_hasCode_13 rfl (by decide) rfl ?_
    refine g_pick (lv' := [(0, .ref (ad ε 39)), (1, .int x1), (2, .int (1 : Int32)), (3, .int (0 : Int32))]) ?_ [2, 3, 1, 0] rfl
    exact tl_X9_hasCode_14 C K k2 g2 FU _ _ _ _ ok
def l_X9_hasCode_2 : Nat → Int32 → St → Option Rs
  | 0 => fun _ _ => none
  | n + 1 => fun x1 σ => b_X9_hasCode_2 (l_X9_hasCode_2 n) x1 σ
theorem tl_X9_hasCode_2 {ε : Et} {κ : Kt} {z : Rs} (C : Cx ε κ cX9_hasCode 4 RX9 0) (K : Ret ε κ cX9_hasCode (some .boolean) 0 0 (PI ε z)) : ∀ (n : Nat) (x1 : Int32) (σ : St), l_X9_hasCode_2 n x1 σ = some z → G ε κ 0 0 2 [(0, .ref (ad ε 39)), (1, .int x1)] [] (WX ε σ) := by
  intro n
  induction n with
  | zero =>
    intro x1 σ ok
    cases ok
  | succ n ih =>
    intro x1 σ ok
    exact t_X9_hasCode_2 C K (l_X9_hasCode_2 n) ih x1 σ ok
def f_X9_hasCode (σ : St) : Option Rs := l_X9_hasCode_2 FU (0 : Int32) σ
set_option maxRecDepth 10000 in
set_option maxHeartbeats 1000000 in
theorem tf_X9_hasCode {ε : Et} {κ : Kt} {z : Rs} (C : Cx ε κ cX9_hasCode 4 RX9 0) (K : Ret ε κ cX9_hasCode (some .boolean) 0 0 (PI ε z)) (σ : St) (ok : f_X9_hasCode σ = some z) : G ε κ 0 0 0 [(0, .ref (ad ε 39))] [] (WX ε σ) := by
  unfold f_X9_hasCode at ok
  refine g_iconst (v := 0) C dX9_hasCode_0 (by decide) ?_
  refine g_istore_n C [(1, .int (0 : Int32)), (0, .ref (ad ε 39))] dX9_hasCode_1 rfl (by decide) rfl ?_
  refine g_pick (lv' := [(0, .ref (ad ε 39)), (1, .int (0 : Int32))]) ?_ [1, 0] rfl
  exact tl_X9_hasCode_2 C K FU _ _ ok
theorem c_X9_hasCode {l : Launch} {ε : Et} {σ : St} {z : Rs} (e : f_X9_hasCode σ = some z) : RM l ε yX9_hasCode cX9_hasCode 4 (some .boolean) 0 0 0 [.ref (ad ε 39)] (WX ε σ) (PI ε z) := RM.of (by decide) (Nat.le_of_ble_eq_true rfl) (fun κ C K => tf_X9_hasCode C K σ e)
def b_X9_barcode_132 (t0 : Int32) (σ : St) : Option Rs := some (t0, σ)
set_option maxRecDepth 10000 in
set_option maxHeartbeats 1000000 in
theorem t_X9_barcode_132 {ε : Et} {κ : Kt} {z : Rs} (C : Cx ε κ cX9_barcode 3 RX9 2) (K : Ret ε κ cX9_barcode (some .int) 0 0 (PI ε z)) (t0 : Int32) (σ : St) (ok : b_X9_barcode_132 t0 σ = some z) : G ε κ 0 0 132 [] [.int t0] (WX ε σ) := by
  unfold b_X9_barcode_132 at ok
  exact K.2 .int _ _ _ _ rfl dX9_barcode_132 rfl (pi_ok ok)
def b_X9_barcode_113 (x1 : Int32) (σ : St) : Option Rs := nx (sS σ 39 1 (0 : Int32)) (fun s1 => (if x1 = 0 then b_X9_barcode_132 (-1 : Int32) s1 else b_X9_barcode_132 ((s1.1 39 12) - (1 : Int32)) s1))
set_option maxRecDepth 10000 in
set_option maxHeartbeats 1000000 in
theorem t_X9_barcode_113 {ε : Et} {κ : Kt} {z : Rs} (C : Cx ε κ cX9_barcode 3 RX9 2) (K : Ret ε κ cX9_barcode (some .int) 0 0 (PI ε z)) (x1 : Int32) (σ : St) (ok : b_X9_barcode_113 x1 σ = some z) : G ε κ 0 0 113 [(0, .ref (ad ε 39)), (1, .int x1)] [] (WX ε σ) := by
  unfold b_X9_barcode_113 at ok
  refine g_aload_n C dX9_barcode_113 rfl 0 rfl ?_
  refine g_iconst (v := 0) C dX9_barcode_114 (by decide) ?_
  refine p_X9_69 C dX9_barcode_115 (fun s1 e2 => ?_)
  replace ok := nx_ok ok s1 e2
  refine g_iload_n C dX9_barcode_118 rfl 1 rfl ?_
  refine g_if_eq (tgt := 131) C dX9_barcode_119 (by decide) (fun c3 => ?_) (fun c3 => ?_)
  · replace ok := ok_t c3 ok
    refine g_iconst (v := -1) C dX9_barcode_131 (by decide) ?_
    refine g_pick (lv' := []) ?_ [] rfl
    exact t_X9_barcode_132 C K _ _ ok
  · replace ok := ok_f c3 ok
    refine g_aload_n C dX9_barcode_122 rfl 0 rfl ?_
    refine q_X9_118 C dX9_barcode_123 ?_
    refine g_iconst (v := 1) C dX9_barcode_126 (by decide) ?_
    refine g_isub C dX9_barcode_127 ?_
    refine g_goto (tgt := 132) C dX9_barcode_128 (by decide) ?_
    refine g_pick (lv' := []) ?_ [] rfl
    exact t_X9_barcode_132 C K _ _ ok
def b_X9_barcode_69 (k69 : Int32 → Int32 → St → Option Rs) (x1 : Int32) (x2 : Int32) (σ : St) : Option Rs := (if (σ.1 39 1) ≤ x2 then nx (sS σ 39 12 ((σ.1 39 12) + (1 : Int32))) (fun s2 => b_X9_barcode_113 x1 s2) else gd (inb x2 (ln 40)) (gd (inb (((12 : Int32) * (σ.1 39 12)) + x2) (ln 46)) (nx (sA σ 46 (((12 : Int32) * (σ.1 39 12)) + x2) (σ.2.1 40 x2.toNatClampNeg)) (fun s6 => nx (x2 + (1 : Int32)) (fun y8 => k69 x1 y8 s6)))))
set_option maxRecDepth 10000 in
set_option maxHeartbeats 1000000 in
theorem t_X9_barcode_69 {ε : Et} {κ : Kt} {z : Rs} (C : Cx ε κ cX9_barcode 3 RX9 2) (K : Ret ε κ cX9_barcode (some .int) 0 0 (PI ε z)) (k69 : Int32 → Int32 → St → Option Rs) (g69 : ∀ (x1 : Int32) (x2 : Int32) (σ : St), k69 x1 x2 σ = some z → G ε κ 0 0 69 [(0, .ref (ad ε 39)), (1, .int x1), (2, .int x2)] [] (WX ε σ)) (x1 : Int32) (x2 : Int32) (σ : St) (ok : b_X9_barcode_69 k69 x1 x2 σ = some z) : G ε κ 0 0 69 [(0, .ref (ad ε 39)), (1, .int x1), (2, .int x2)] [] (WX ε σ) := by
  unfold b_X9_barcode_69 at ok
  refine g_iload_n C dX9_barcode_69 rfl 2 rfl ?_
  refine g_aload_n C dX9_barcode_70 rfl 0 rfl ?_
  refine q_X9_69 C dX9_barcode_71 ?_
  refine g_icmp_ge (tgt := 103) C dX9_barcode_74 (by decide) (fun c1 => ?_) (fun c1 => ?_)
  · replace ok := ok_t c1 ok
    refine g_aload_n C dX9_barcode_103 rfl 0 rfl ?_
    refine g_dup C dX9_barcode_104 rfl ?_
    refine q_X9_118 C dX9_barcode_105 ?_
    refine g_iconst (v := 1) C dX9_barcode_108 (by decide) ?_
    refine g_iadd C dX9_barcode_109 ?_
    refine p_X9_118 C dX9_barcode_110 (fun s2 e3 => ?_)
    replace ok := nx_ok ok s2 e3
    refine g_pick (lv' := [(0, .ref (ad ε 39)), (1, .int x1)]) ?_ [0, 1] rfl
    exact t_X9_barcode_113 C K _ _ ok
  · replace ok := ok_f c1 ok
    refine g_aload_n C dX9_barcode_77 rfl 0 rfl ?_
    refine q_X9_32 C dX9_barcode_78 ?_
    refine g_bipush (v := 12) C dX9_barcode_81 (by decide) ?_
    refine g_aload_n C dX9_barcode_83 rfl 0 rfl ?_
    refine q_X9_118 C dX9_barcode_84 ?_
    refine g_imul C dX9_barcode_87 ?_
    refine g_iload_n C dX9_barcode_88 rfl 2 rfl ?_
    refine g_iadd C dX9_barcode_89 ?_
    refine g_aload_n C dX9_barcode_90 rfl 0 rfl ?_
    refine q_X9_7 C dX9_barcode_91 ?_
    refine g_iload_n C dX9_barcode_94 rfl 2 rfl ?_
    obtain ⟨h4, ok⟩ := gd_ok ok
    refine q_ald C ai_40 h4 dX9_barcode_95 ?_
    obtain ⟨h5, ok⟩ := gd_ok ok
    refine q_ast C ai_46 h5 dX9_barcode_96 (fun s6 e7 => ?_)
    replace ok := nx_ok ok s6 e7
    obtain ⟨y8, e9⟩ : ∃ y : Int32, y = (x2 + (1 : Int32)) := ⟨_, rfl⟩
    replace ok := nx_ok ok y8 e9
    refine g_iinc (v := y8) C [(2, .int y8), (0, .ref (ad ε 39)), (1, .int x1)] dX9_barcode_97 2 rfl (by rw [e9]; rfl) (by decide) rfl ?_
    refine g_goto (tgt := 69) C dX9_barcode_100 (by decide) ?_
    refine g_pick (lv' := [(0, .ref (ad ε 39)), (1, .int x1), (2, .int y8)]) ?_ [1, 2, 0] rfl
    exact g69 _ _ _ ok
def l_X9_barcode_69 : Nat → Int32 → Int32 → St → Option Rs
  | 0 => fun _ _ _ => none
  | n + 1 => fun x1 x2 σ => b_X9_barcode_69 (l_X9_barcode_69 n) x1 x2 σ
theorem tl_X9_barcode_69 {ε : Et} {κ : Kt} {z : Rs} (C : Cx ε κ cX9_barcode 3 RX9 2) (K : Ret ε κ cX9_barcode (some .int) 0 0 (PI ε z)) : ∀ (n : Nat) (x1 : Int32) (x2 : Int32) (σ : St), l_X9_barcode_69 n x1 x2 σ = some z → G ε κ 0 0 69 [(0, .ref (ad ε 39)), (1, .int x1), (2, .int x2)] [] (WX ε σ) := by
  intro n
  induction n with
  | zero =>
    intro x1 x2 σ ok
    cases ok
  | succ n ih =>
    intro x1 x2 σ ok
    exact t_X9_barcode_69 C K (l_X9_barcode_69 n) ih x1 x2 σ ok
def b_X9_barcode_54 (t0 : Int32) (σ : St) : Option Rs := (if t0 = 0 then b_X9_barcode_113 t0 σ else nx (sS σ 39 13 (σ.1 39 1)) (fun s2 => l_X9_barcode_69 FU t0 (0 : Int32) s2))
set_option maxRecDepth 10000 in
set_option maxHeartbeats 1000000 in
theorem t_X9_barcode_54 {ε : Et} {κ : Kt} {z : Rs} (C : Cx ε κ cX9_barcode 3 RX9 2) (K : Ret ε κ cX9_barcode (some .int) 0 0 (PI ε z)) (t0 : Int32) (σ : St) (ok : b_X9_barcode_54 t0 σ = some z) : G ε κ 0 0 54 [(0, .ref (ad ε 39))] [.int t0] (WX ε σ) := by
  unfold b_X9_barcode_54 at ok
  refine g_istore_n C [(1, .int t0), (0, .ref (ad ε 39))] dX9_barcode_54 rfl (by decide) rfl ?_
  refine g_iload_n C dX9_barcode_55 rfl 0 rfl ?_
  refine g_if_eq (tgt := 113) C dX9_barcode_56 (by decide) (fun c1 => ?_) (fun c1 => ?_)
  · replace ok := ok_t c1 ok
    refine g_pick (lv' := [(0, .ref (ad ε 39)), (1, .int t0)]) ?_ [1, 0] rfl
    exact t_X9_barcode_113 C K _ _ ok
  · replace ok := ok_f c1 ok
    refine g_aload_n C dX9_barcode_59 rfl 1 rfl ?_
    refine g_aload_n C dX9_barcode_60 rfl 1 rfl ?_
    refine q_X9_69 C dX9_barcode_61 ?_
    refine p_X9_121 C dX9_barcode_64 (fun s2 e3 => ?_)
    replace ok := nx_ok ok s2 e3
    refine g_iconst (v := 0) C dX9_barcode_67 (by decide) ?_
    refine g_istore_n C [(2, .int (0 : Int32)), (1, .int t0), (0, .ref (ad ε 39))] dX9_barcode_68 rfl (by decide) rfl ?_
    refine g_pick (lv' := [(0, .ref (ad ε 39)), (1, .int t0), (2, .int (0 : Int32))]) ?_ [2, 1, 0] rfl
    exact tl_X9_barcode_69 C K FU _ _ _ ok
def b_X9_barcode_53 (σ : St) : Option Rs := b_X9_barcode_54 (0 : Int32) σ
set_option maxRecDepth 10000 in
set_option maxHeartbeats 1000000 in
theorem t_X9_barcode_53 {ε : Et} {κ : Kt} {z : Rs} (C : Cx ε κ cX9_barcode 3 RX9 2) (K : Ret ε κ cX9_barcode (some .int) 0 0 (PI ε z)) (σ : St) (ok : b_X9_barcode_53 σ = some z) : G ε κ 0 0 53 [(0, .ref (ad ε 39))] [] (WX ε σ) := by
  unfold b_X9_barcode_53 at ok
  refine g_iconst (v := 0) C dX9_barcode_53 (by decide) ?_
  exact t_X9_barcode_54 C K _ _ ok
def b_X9_barcode_49 (σ : St) : Option Rs := b_X9_barcode_54 (1 : Int32) σ
set_option maxRecDepth 10000 in
set_option maxHeartbeats 1000000 in
theorem t_X9_barcode_49 {ε : Et} {κ : Kt} {z : Rs} (C : Cx ε κ cX9_barcode 3 RX9 2) (K : Ret ε κ cX9_barcode (some .int) 0 0 (PI ε z)) (σ : St) (ok : b_X9_barcode_49 σ = some z) : G ε κ 0 0 49 [(0, .ref (ad ε 39))] [] (WX ε σ) := by
  unfold b_X9_barcode_49 at ok
  refine g_iconst (v := 1) C dX9_barcode_49 (by decide) ?_
  refine g_goto (tgt := 54) C dX9_barcode_50 (by decide) ?_
  exact t_X9_barcode_54 C K _ _ ok
def f_X9_barcode (σ : St) : Option Rs := nx (sS σ 39 3 (0 : Int32)) (fun s1 => bd (f_X9_isCode (1 : Int32) (12 : Int32) s1) (fun r3 s4 => (if r3 = 0 then b_X9_barcode_53 s4 else (if (16 : Int32) ≤ (s4.1 39 12) then b_X9_barcode_53 s4 else (if (s4.1 39 12) = 0 then b_X9_barcode_49 s4 else (if (s4.1 39 1) = (s4.1 39 13) then bd (f_X9_hasCode s4) (fun r10 s11 => (if r10 = 0 then b_X9_barcode_49 s11 else b_X9_barcode_53 s11)) else b_X9_barcode_53 s4))))))
set_option maxRecDepth 10000 in
set_option maxHeartbeats 1000000 in
theorem tf_X9_barcode {ε : Et} {κ : Kt} {z : Rs} (C : Cx ε κ cX9_barcode 3 RX9 2) (K : Ret ε κ cX9_barcode (some .int) 0 0 (PI ε z)) (σ : St) (ok : f_X9_barcode σ = some z) : G ε κ 0 0 0 [(0, .ref (ad ε 39))] [] (WX ε σ) := by
  unfold f_X9_barcode at ok
  refine g_aload_n C dX9_barcode_0 rfl 0 rfl ?_
  refine g_iconst (v := 0) C dX9_barcode_1 (by decide) ?_
  refine p_X9_66 C dX9_barcode_2 (fun s1 e2 => ?_)
  replace ok := nx_ok ok s1 e2
  refine g_aload_n C dX9_barcode_5 rfl 0 rfl ?_
  refine g_iconst (v := 1) C dX9_barcode_6 (by decide) ?_
  refine g_bipush (v := 12) C dX9_barcode_7 (by decide) ?_
  obtain ⟨r3, s4, e5, ok⟩ := bd_ok ok
  refine q_cI C [.int (1 : Int32), .int (12 : Int32)] (c_X9_isCode e5) wv_X9_124 (by decide) (lt_N (by decide)) wx_X9 rfl rfl rfl (Nat.le_of_ble_eq_true rfl) dX9_barcode_9 ?_
  refine g_if_eq (tgt := 53) C dX9_barcode_12 (by decide) (fun c6 => ?_) (fun c6 => ?_)
  · replace ok := ok_t c6 ok
    exact t_X9_barcode_53 C K _ ok
  · replace ok := ok_f c6 ok
    refine g_aload_n C dX9_barcode_15 rfl 0 rfl ?_
    refine q_X9_118 C dX9_barcode_16 ?_
    refine g_bipush (v := 16) C dX9_barcode_19 (by decide) ?_
    refine g_icmp_ge (tgt := 53) C dX9_barcode_21 (by decide) (fun c7 => ?_) (fun c7 => ?_)
    · replace ok := ok_t c7 ok
      exact t_X9_barcode_53 C K _ ok
    · replace ok := ok_f c7 ok
      refine g_aload_n C dX9_barcode_24 rfl 0 rfl ?_
      refine q_X9_118 C dX9_barcode_25 ?_
      refine g_if_eq (tgt := 49) C dX9_barcode_28 (by decide) (fun c8 => ?_) (fun c8 => ?_)
      · replace ok := ok_t c8 ok
        exact t_X9_barcode_49 C K _ ok
      · replace ok := ok_f c8 ok
        refine g_aload_n C dX9_barcode_31 rfl 0 rfl ?_
        refine q_X9_69 C dX9_barcode_32 ?_
        refine g_aload_n C dX9_barcode_35 rfl 0 rfl ?_
        refine q_X9_121 C dX9_barcode_36 ?_
        refine g_icmp_ne (tgt := 53) C dX9_barcode_39 (by decide) (fun c9 => ?_) (fun c9 => ?_)
        · replace ok := ok_f c9 ok
          exact t_X9_barcode_53 C K _ ok
        · replace ok := ok_t c9 ok
          refine g_aload_n C dX9_barcode_42 rfl 0 rfl ?_
          obtain ⟨r10, s11, e12, ok⟩ := bd_ok ok
          refine q_cI C [] (c_X9_hasCode e12) wv_X9_127 (by decide) (lt_N (by decide)) wx_X9 rfl rfl rfl (Nat.le_of_ble_eq_true rfl) dX9_barcode_43 ?_
          refine g_if_ne (tgt := 53) C dX9_barcode_46 (by decide) (fun c13 => ?_) (fun c13 => ?_)
          · replace ok := ok_f c13 ok
            exact t_X9_barcode_53 C K _ ok
          · replace ok := ok_t c13 ok
            exact t_X9_barcode_49 C K _ ok
theorem c_X9_barcode {l : Launch} {ε : Et} {σ : St} {z : Rs} (e : f_X9_barcode σ = some z) : RM l ε yX9_barcode cX9_barcode 3 (some .int) 2 0 0 [.ref (ad ε 39)] (WX ε σ) (PI ε z) := RM.of (by decide) (Nat.le_of_ble_eq_true rfl) (fun κ C K => tf_X9_barcode C K σ e)
def b_X9_adapter_85 (t0 : Int32) (σ : St) : Option Rs := some (t0, σ)
set_option maxRecDepth 10000 in
set_option maxHeartbeats 1000000 in
theorem t_X9_adapter_85 {ε : Et} {κ : Kt} {z : Rs} (C : Cx ε κ cX9_adapter 3 RX9 2) (K : Ret ε κ cX9_adapter (some .int) 0 0 (PI ε z)) (t0 : Int32) (σ : St) (ok : b_X9_adapter_85 t0 σ = some z) : G ε κ 0 0 85 [] [.int t0] (WX ε σ) := by
  unfold b_X9_adapter_85 at ok
  exact K.2 .int _ _ _ _ rfl dX9_adapter_85 rfl (pi_ok ok)
def b_X9_adapter_68 (x1 : Int32) (σ : St) : Option Rs := nx (sS σ 39 1 (0 : Int32)) (fun s1 => (if x1 = 0 then b_X9_adapter_85 (-1 : Int32) s1 else b_X9_adapter_85 (s1.1 39 15) s1))
set_option maxRecDepth 10000 in
set_option maxHeartbeats 1000000 in
theorem t_X9_adapter_68 {ε : Et} {κ : Kt} {z : Rs} (C : Cx ε κ cX9_adapter 3 RX9 2) (K : Ret ε κ cX9_adapter (some .int) 0 0 (PI ε z)) (x1 : Int32) (σ : St) (ok : b_X9_adapter_68 x1 σ = some z) : G ε κ 0 0 68 [(0, .ref (ad ε 39)), (1, .int x1)] [] (WX ε σ) := by
  unfold b_X9_adapter_68 at ok
  refine g_aload_n C dX9_adapter_68 rfl 0 rfl ?_
  refine g_iconst (v := 0) C dX9_adapter_69 (by decide) ?_
  refine p_X9_69 C dX9_adapter_70 (fun s1 e2 => ?_)
  replace ok := nx_ok ok s1 e2
  refine g_iload_n C dX9_adapter_73 rfl 1 rfl ?_
  refine g_if_eq (tgt := 84) C dX9_adapter_74 (by decide) (fun c3 => ?_) (fun c3 => ?_)
  · replace ok := ok_t c3 ok
    refine g_iconst (v := -1) C dX9_adapter_84 (by decide) ?_
    refine g_pick (lv' := []) ?_ [] rfl
    exact t_X9_adapter_85 C K _ _ ok
  · replace ok := ok_f c3 ok
    refine g_aload_n C dX9_adapter_77 rfl 0 rfl ?_
    refine q_X9_131 C dX9_adapter_78 ?_
    refine g_goto (tgt := 85) C dX9_adapter_81 (by decide) ?_
    refine g_pick (lv' := []) ?_ [] rfl
    exact t_X9_adapter_85 C K _ _ ok
def b_X9_adapter_42 (k42 : Int32 → Int32 → St → Option Rs) (x1 : Int32) (x2 : Int32) (σ : St) : Option Rs := (if (σ.1 39 1) ≤ x2 then b_X9_adapter_68 x1 σ else gd (inb x2 (ln 40)) (gd (inb x2 (ln 47)) (nx (sA σ 47 x2 (σ.2.1 40 x2.toNatClampNeg)) (fun s4 => nx (x2 + (1 : Int32)) (fun y6 => k42 x1 y6 s4)))))
set_option maxRecDepth 10000 in
set_option maxHeartbeats 1000000 in
theorem t_X9_adapter_42 {ε : Et} {κ : Kt} {z : Rs} (C : Cx ε κ cX9_adapter 3 RX9 2) (K : Ret ε κ cX9_adapter (some .int) 0 0 (PI ε z)) (k42 : Int32 → Int32 → St → Option Rs) (g42 : ∀ (x1 : Int32) (x2 : Int32) (σ : St), k42 x1 x2 σ = some z → G ε κ 0 0 42 [(0, .ref (ad ε 39)), (1, .int x1), (2, .int x2)] [] (WX ε σ)) (x1 : Int32) (x2 : Int32) (σ : St) (ok : b_X9_adapter_42 k42 x1 x2 σ = some z) : G ε κ 0 0 42 [(0, .ref (ad ε 39)), (1, .int x1), (2, .int x2)] [] (WX ε σ) := by
  unfold b_X9_adapter_42 at ok
  refine g_iload_n C dX9_adapter_42 rfl 2 rfl ?_
  refine g_aload_n C dX9_adapter_43 rfl 0 rfl ?_
  refine q_X9_69 C dX9_adapter_44 ?_
  refine g_icmp_ge (tgt := 68) C dX9_adapter_47 (by decide) (fun c1 => ?_) (fun c1 => ?_)
  · replace ok := ok_t c1 ok
    refine g_pick (lv' := [(0, .ref (ad ε 39)), (1, .int x1)]) ?_ [0, 1] rfl
    exact t_X9_adapter_68 C K _ _ ok
  · replace ok := ok_f c1 ok
    refine g_aload_n C dX9_adapter_50 rfl 0 rfl ?_
    refine q_X9_35 C dX9_adapter_51 ?_
    refine g_iload_n C dX9_adapter_54 rfl 2 rfl ?_
    refine g_aload_n C dX9_adapter_55 rfl 0 rfl ?_
    refine q_X9_7 C dX9_adapter_56 ?_
    refine g_iload_n C dX9_adapter_59 rfl 2 rfl ?_
    obtain ⟨h2, ok⟩ := gd_ok ok
    refine q_ald C ai_40 h2 dX9_adapter_60 ?_
    obtain ⟨h3, ok⟩ := gd_ok ok
    refine q_ast C ai_47 h3 dX9_adapter_61 (fun s4 e5 => ?_)
    replace ok := nx_ok ok s4 e5
    obtain ⟨y6, e7⟩ : ∃ y : Int32, y = (x2 + (1 : Int32)) := ⟨_, rfl⟩
    replace ok := nx_ok ok y6 e7
    refine g_iinc (v := y6) C [(2, .int y6), (0, .ref (ad ε 39)), (1, .int x1)] dX9_adapter_62 2 rfl (by rw [e7]; rfl) (by decide) rfl ?_
    refine g_goto (tgt := 42) C dX9_adapter_65 (by decide) ?_
    refine g_pick (lv' := [(0, .ref (ad ε 39)), (1, .int x1), (2, .int y6)]) ?_ [1, 2, 0] rfl
    exact g42 _ _ _ ok
def l_X9_adapter_42 : Nat → Int32 → Int32 → St → Option Rs
  | 0 => fun _ _ _ => none
  | n + 1 => fun x1 x2 σ => b_X9_adapter_42 (l_X9_adapter_42 n) x1 x2 σ
theorem tl_X9_adapter_42 {ε : Et} {κ : Kt} {z : Rs} (C : Cx ε κ cX9_adapter 3 RX9 2) (K : Ret ε κ cX9_adapter (some .int) 0 0 (PI ε z)) : ∀ (n : Nat) (x1 : Int32) (x2 : Int32) (σ : St), l_X9_adapter_42 n x1 x2 σ = some z → G ε κ 0 0 42 [(0, .ref (ad ε 39)), (1, .int x1), (2, .int x2)] [] (WX ε σ) := by
  intro n
  induction n with
  | zero =>
    intro x1 x2 σ ok
    cases ok
  | succ n ih =>
    intro x1 x2 σ ok
    exact t_X9_adapter_42 C K (l_X9_adapter_42 n) ih x1 x2 σ ok
def b_X9_adapter_27 (t0 : Int32) (σ : St) : Option Rs := (if t0 = 0 then b_X9_adapter_68 t0 σ else nx (sS σ 39 15 (σ.1 39 1)) (fun s2 => l_X9_adapter_42 FU t0 (0 : Int32) s2))
set_option maxRecDepth 10000 in
set_option maxHeartbeats 1000000 in
theorem t_X9_adapter_27 {ε : Et} {κ : Kt} {z : Rs} (C : Cx ε κ cX9_adapter 3 RX9 2) (K : Ret ε κ cX9_adapter (some .int) 0 0 (PI ε z)) (t0 : Int32) (σ : St) (ok : b_X9_adapter_27 t0 σ = some z) : G ε κ 0 0 27 [(0, .ref (ad ε 39))] [.int t0] (WX ε σ) := by
  unfold b_X9_adapter_27 at ok
  refine g_istore_n C [(1, .int t0), (0, .ref (ad ε 39))] dX9_adapter_27 rfl (by decide) rfl ?_
  refine g_iload_n C dX9_adapter_28 rfl 0 rfl ?_
  refine g_if_eq (tgt := 68) C dX9_adapter_29 (by decide) (fun c1 => ?_) (fun c1 => ?_)
  · replace ok := ok_t c1 ok
    refine g_pick (lv' := [(0, .ref (ad ε 39)), (1, .int t0)]) ?_ [1, 0] rfl
    exact t_X9_adapter_68 C K _ _ ok
  · replace ok := ok_f c1 ok
    refine g_aload_n C dX9_adapter_32 rfl 1 rfl ?_
    refine g_aload_n C dX9_adapter_33 rfl 1 rfl ?_
    refine q_X9_69 C dX9_adapter_34 ?_
    refine p_X9_131 C dX9_adapter_37 (fun s2 e3 => ?_)
    replace ok := nx_ok ok s2 e3
    refine g_iconst (v := 0) C dX9_adapter_40 (by decide) ?_
    refine g_istore_n C [(2, .int (0 : Int32)), (1, .int t0), (0, .ref (ad ε 39))] dX9_adapter_41 rfl (by decide) rfl ?_
    refine g_pick (lv' := [(0, .ref (ad ε 39)), (1, .int t0), (2, .int (0 : Int32))]) ?_ [2, 1, 0] rfl
    exact tl_X9_adapter_42 C K FU _ _ _ ok
def b_X9_adapter_22 (σ : St) : Option Rs := b_X9_adapter_27 (1 : Int32) σ
set_option maxRecDepth 10000 in
set_option maxHeartbeats 1000000 in
theorem t_X9_adapter_22 {ε : Et} {κ : Kt} {z : Rs} (C : Cx ε κ cX9_adapter 3 RX9 2) (K : Ret ε κ cX9_adapter (some .int) 0 0 (PI ε z)) (σ : St) (ok : b_X9_adapter_22 σ = some z) : G ε κ 0 0 22 [(0, .ref (ad ε 39))] [] (WX ε σ) := by
  unfold b_X9_adapter_22 at ok
  refine g_iconst (v := 1) C dX9_adapter_22 (by decide) ?_
  refine g_goto (tgt := 27) C dX9_adapter_23 (by decide) ?_
  exact t_X9_adapter_27 C K _ _ ok
def f_X9_adapter (σ : St) : Option Rs := nx (sS σ 39 3 (0 : Int32)) (fun s1 => (if (s1.1 39 1) = 0 then b_X9_adapter_22 s1 else bd (f_X9_isCode (3 : Int32) (30 : Int32) s1) (fun r4 s5 => (if r4 = 0 then b_X9_adapter_27 (0 : Int32) s5 else b_X9_adapter_22 s5))))
set_option maxRecDepth 10000 in
set_option maxHeartbeats 1000000 in
theorem tf_X9_adapter {ε : Et} {κ : Kt} {z : Rs} (C : Cx ε κ cX9_adapter 3 RX9 2) (K : Ret ε κ cX9_adapter (some .int) 0 0 (PI ε z)) (σ : St) (ok : f_X9_adapter σ = some z) : G ε κ 0 0 0 [(0, .ref (ad ε 39))] [] (WX ε σ) := by
  unfold f_X9_adapter at ok
  refine g_aload_n C dX9_adapter_0 rfl 0 rfl ?_
  refine g_iconst (v := 0) C dX9_adapter_1 (by decide) ?_
  refine p_X9_66 C dX9_adapter_2 (fun s1 e2 => ?_)
  replace ok := nx_ok ok s1 e2
  refine g_aload_n C dX9_adapter_5 rfl 0 rfl ?_
  refine q_X9_69 C dX9_adapter_6 ?_
  refine g_if_eq (tgt := 22) C dX9_adapter_9 (by decide) (fun c3 => ?_) (fun c3 => ?_)
  · replace ok := ok_t c3 ok
    exact t_X9_adapter_22 C K _ ok
  · replace ok := ok_f c3 ok
    refine g_aload_n C dX9_adapter_12 rfl 0 rfl ?_
    refine g_iconst (v := 3) C dX9_adapter_13 (by decide) ?_
    refine g_bipush (v := 30) C dX9_adapter_14 (by decide) ?_
    obtain ⟨r4, s5, e6, ok⟩ := bd_ok ok
    refine q_cI C [.int (3 : Int32), .int (30 : Int32)] (c_X9_isCode e6) wv_X9_124 (by decide) (lt_N (by decide)) wx_X9 rfl rfl rfl (Nat.le_of_ble_eq_true rfl) dX9_adapter_16 ?_
    refine g_if_eq (tgt := 26) C dX9_adapter_19 (by decide) (fun c7 => ?_) (fun c7 => ?_)
    · replace ok := ok_t c7 ok
      refine g_iconst (v := 0) C dX9_adapter_26 (by decide) ?_
      exact t_X9_adapter_27 C K _ _ ok
    · replace ok := ok_f c7 ok
      exact t_X9_adapter_22 C K _ ok
theorem c_X9_adapter {l : Launch} {ε : Et} {σ : St} {z : Rs} (e : f_X9_adapter σ = some z) : RM l ε yX9_adapter cX9_adapter 3 (some .int) 2 0 0 [.ref (ad ε 39)] (WX ε σ) (PI ε z) := RM.of (by decide) (Nat.le_of_ble_eq_true rfl) (fun κ C K => tf_X9_adapter C K σ e)
def b_X9_limits_62 (x4 : Int32) (σ : St) : Option Rs := gz x4 (some (x4, σ))
set_option maxRecDepth 10000 in
set_option maxHeartbeats 1000000 in
theorem t_X9_limits_62 {ε : Et} {κ : Kt} {z : Rs} (C : Cx ε κ cX9_limits 5 RX9 0) (K : Ret ε κ cX9_limits (some .boolean) 0 0 (PI ε z)) (x4 : Int32) (σ : St) (ok : b_X9_limits_62 x4 σ = some z) : G ε κ 0 0 62 [(4, .int x4)] [] (WX ε σ) := by
  unfold b_X9_limits_62 at ok
  refine g_iload C dX9_limits_62 0 rfl ?_
  obtain ⟨z1, ok⟩ := gz_ok ok
  exact K.2 .boolean _ _ _ _ rfl dX9_limits_64 (nar_b z1) (pi_ok ok)
def b_X9_limits_40 (x1 : Int32) (x2 : Int32) (x3 : Int32) (t0 : Int32) (σ : St) : Option Rs := (if t0 = 0 then b_X9_limits_62 t0 σ else nx (sS σ 39 16 x1) (fun s2 => nx (sS s2 39 17 x2) (fun s4 => nx (sS s4 39 18 x3) (fun s6 => b_X9_limits_62 t0 s6))))
set_option maxRecDepth 10000 in
set_option maxHeartbeats 1000000 in
theorem t_X9_limits_40 {ε : Et} {κ : Kt} {z : Rs} (C : Cx ε κ cX9_limits 5 RX9 0) (K : Ret ε κ cX9_limits (some .boolean) 0 0 (PI ε z)) (x1 : Int32) (x2 : Int32) (x3 : Int32) (t0 : Int32) (σ : St) (ok : b_X9_limits_40 x1 x2 x3 t0 σ = some z) : G ε κ 0 0 40 [(0, .ref (ad ε 39)), (1, .int x1), (2, .int x2), (3, .int x3)] [.int t0] (WX ε σ) := by
  unfold b_X9_limits_40 at ok
  refine g_istore C [(4, .int t0), (0, .ref (ad ε 39)), (1, .int x1), (2, .int x2), (3, .int x3)] dX9_limits_40 (by decide) rfl ?_
  refine g_iload C dX9_limits_42 0 rfl ?_
  refine g_if_eq (tgt := 62) C dX9_limits_44 (by decide) (fun c1 => ?_) (fun c1 => ?_)
  · replace ok := ok_t c1 ok
    refine g_pick (lv' := [(4, .int t0)]) ?_ [0] rfl
    exact t_X9_limits_62 C K _ _ ok
  · replace ok := ok_f c1 ok
    refine g_aload_n C dX9_limits_47 rfl 1 rfl ?_
    refine g_iload_n C dX9_limits_48 rfl 2 rfl ?_
    refine p_X9_134 C dX9_limits_49 (fun s2 e3 => ?_)
    replace ok := nx_ok ok s2 e3
    refine g_aload_n C dX9_limits_52 rfl 1 rfl ?_
    refine g_iload_n C dX9_limits_53 rfl 3 rfl ?_
    refine p_X9_137 C dX9_limits_54 (fun s4 e5 => ?_)
    replace ok := nx_ok ok s4 e5
    refine g_aload_n C dX9_limits_57 rfl 1 rfl ?_
    refine g_iload_n C dX9_limits_58 rfl 4 rfl ?_
    refine p_X9_38 C dX9_limits_59 (fun s6 e7 => ?_)
    replace ok := nx_ok ok s6 e7
    refine g_pick (lv' := [(4, .int t0)]) ?_ [0] rfl
    exact t_X9_limits_62 C K _ _ ok
def b_X9_limits_39 (x1 : Int32) (x2 : Int32) (x3 : Int32) (σ : St) : Option Rs := b_X9_limits_40 x1 x2 x3 (0 : Int32) σ
set_option maxRecDepth 10000 in
set_option maxHeartbeats 1000000 in
theorem t_X9_limits_39 {ε : Et} {κ : Kt} {z : Rs} (C : Cx ε κ cX9_limits 5 RX9 0) (K : Ret ε κ cX9_limits (some .boolean) 0 0 (PI ε z)) (x1 : Int32) (x2 : Int32) (x3 : Int32) (σ : St) (ok : b_X9_limits_39 x1 x2 x3 σ = some z) : G ε κ 0 0 39 [(0, .ref (ad ε 39)), (1, .int x1), (2, .int x2), (3, .int x3)] [] (WX ε σ) := by
  unfold b_X9_limits_39 at ok
  refine g_iconst (v := 0) C dX9_limits_39 (by decide) ?_
  exact t_X9_limits_40 C K _ _ _ _ _ ok
def f_X9_limits (x1 : Int32) (x2 : Int32) (x3 : Int32) (σ : St) : Option Rs := nx (sS σ 39 3 (0 : Int32)) (fun s1 => (if x1 < 0 then b_X9_limits_39 x1 x2 x3 s1 else (if (93 : Int32) < x1 then b_X9_limits_39 x1 x2 x3 s1 else (if x2 < 0 then b_X9_limits_39 x1 x2 x3 s1 else (if (93 : Int32) < x2 then b_X9_limits_39 x1 x2 x3 s1 else (if x3 < 0 then b_X9_limits_39 x1 x2 x3 s1 else (if (120 : Int32) < x3 then b_X9_limits_39 x1 x2 x3 s1 else b_X9_limits_40 x1 x2 x3 (1 : Int32) s1)))))))
set_option maxRecDepth 10000 in
set_option maxHeartbeats 1000000 in
theorem tf_X9_limits {ε : Et} {κ : Kt} {z : Rs} (C : Cx ε κ cX9_limits 5 RX9 0) (K : Ret ε κ cX9_limits (some .boolean) 0 0 (PI ε z)) (x1 : Int32) (x2 : Int32) (x3 : Int32) (σ : St) (ok : f_X9_limits x1 x2 x3 σ = some z) : G ε κ 0 0 0 [(0, .ref (ad ε 39)), (1, .int x1), (2, .int x2), (3, .int x3)] [] (WX ε σ) := by
  unfold f_X9_limits at ok
  refine g_aload_n C dX9_limits_0 rfl 0 rfl ?_
  refine g_iconst (v := 0) C dX9_limits_1 (by decide) ?_
  refine p_X9_66 C dX9_limits_2 (fun s1 e2 => ?_)
  replace ok := nx_ok ok s1 e2
  refine g_iload_n C dX9_limits_5 rfl 1 rfl ?_
  refine g_if_lt (tgt := 39) C dX9_limits_6 (by decide) (fun c3 => ?_) (fun c3 => ?_)
  · replace ok := ok_t c3 ok
    exact t_X9_limits_39 C K _ _ _ _ ok
  · replace ok := ok_f c3 ok
    refine g_iload_n C dX9_limits_9 rfl 1 rfl ?_
    refine g_bipush (v := 93) C dX9_limits_10 (by decide) ?_
    refine g_icmp_gt (tgt := 39) C dX9_limits_12 (by decide) (fun c4 => ?_) (fun c4 => ?_)
    · replace ok := ok_t c4 ok
      exact t_X9_limits_39 C K _ _ _ _ ok
    · replace ok := ok_f c4 ok
      refine g_iload_n C dX9_limits_15 rfl 2 rfl ?_
      refine g_if_lt (tgt := 39) C dX9_limits_16 (by decide) (fun c5 => ?_) (fun c5 => ?_)
      · replace ok := ok_t c5 ok
        exact t_X9_limits_39 C K _ _ _ _ ok
      · replace ok := ok_f c5 ok
        refine g_iload_n C dX9_limits_19 rfl 2 rfl ?_
        refine g_bipush (v := 93) C dX9_limits_20 (by decide) ?_
        refine g_icmp_gt (tgt := 39) C dX9_limits_22 (by decide) (fun c6 => ?_) (fun c6 => ?_)
        · replace ok := ok_t c6 ok
          exact t_X9_limits_39 C K _ _ _ _ ok
        · replace ok := ok_f c6 ok
          refine g_iload_n C dX9_limits_25 rfl 3 rfl ?_
          refine g_if_lt (tgt := 39) C dX9_limits_26 (by decide) (fun c7 => ?_) (fun c7 => ?_)
          · replace ok := ok_t c7 ok
            exact t_X9_limits_39 C K _ _ _ _ ok
          · replace ok := ok_f c7 ok
            refine g_iload_n C dX9_limits_29 rfl 3 rfl ?_
            refine g_bipush (v := 120) C dX9_limits_30 (by decide) ?_
            refine g_icmp_gt (tgt := 39) C dX9_limits_32 (by decide) (fun c8 => ?_) (fun c8 => ?_)
            · replace ok := ok_t c8 ok
              exact t_X9_limits_39 C K _ _ _ _ ok
            · replace ok := ok_f c8 ok
              refine g_iconst (v := 1) C dX9_limits_35 (by decide) ?_
              refine g_goto (tgt := 40) C dX9_limits_36 (by decide) ?_
              exact t_X9_limits_40 C K _ _ _ _ _ ok
theorem c_X9_limits {l : Launch} {ε : Et} {σ : St} {z : Rs} {x1 : Int32} {x2 : Int32} {x3 : Int32} (e : f_X9_limits x1 x2 x3 σ = some z) : RM l ε yX9_limits cX9_limits 5 (some .boolean) 0 0 0 [.ref (ad ε 39), .int x1, .int x2, .int x3] (WX ε σ) (PI ε z) := RM.of (by decide) (Nat.le_of_ble_eq_true rfl) (fun κ C K => tf_X9_limits C K x1 x2 x3 σ e)
def b_X9_spread_90 (k5 : Int32 → Int32 → St → Option Rs) (k15 : Int32 → Int32 → Int32 → St → Option Rs) (x2 : Int32) (x3 : Int32) (t0 : Int32) (σ : St) : Option Rs := nx (x3 + (1 : Int32)) (fun y1 => k15 t0 x2 y1 σ)
set_option maxRecDepth 10000 in
set_option maxHeartbeats 1000000 in
theorem t_X9_spread_90 {ε : Et} {κ : Kt} {z : Rs} (C : Cx ε κ cX9_spread 6 RX9 0) (K : Ret ε κ cX9_spread (some .int) 0 0 (PI ε z)) (k5 : Int32 → Int32 → St → Option Rs) (k15 : Int32 → Int32 → Int32 → St → Option Rs) (g5 : ∀ (x1 : Int32) (x2 : Int32) (σ : St), k5 x1 x2 σ = some z → G ε κ 0 0 5 [(0, .ref (ad ε 39)), (1, .int x1), (2, .int x2)] [] (WX ε σ)) (g15 : ∀ (x1 : Int32) (x2 : Int32) (x3 : Int32) (σ : St), k15 x1 x2 x3 σ = some z → G ε κ 0 0 15 [(0, .ref (ad ε 39)), (1, .int x1), (2, .int x2), (3, .int x3)] [] (WX ε σ)) (x2 : Int32) (x3 : Int32) (t0 : Int32) (σ : St) (ok : b_X9_spread_90 k5 k15 x2 x3 t0 σ = some z) : G ε κ 0 0 90 [(0, .ref (ad ε 39)), (2, .int x2), (3, .int x3)] [.int t0] (WX ε σ) := by
  unfold b_X9_spread_90 at ok
  refine g_istore_n C [(1, .int t0), (0, .ref (ad ε 39)), (2, .int x2), (3, .int x3)] dX9_spread_90 rfl (by decide) rfl ?_
  obtain ⟨y1, e2⟩ : ∃ y : Int32, y = (x3 + (1 : Int32)) := ⟨_, rfl⟩
  replace ok := nx_ok ok y1 e2
  refine g_iinc (v := y1) C [(3, .int y1), (1, .int t0), (0, .ref (ad ε 39)), (2, .int x2)] dX9_spread_91 3 rfl (by rw [e2]; rfl) (by decide) rfl ?_
  refine g_goto (tgt := 15) C dX9_spread_94 (by decide) ?_
  refine g_pick (lv' := [(0, .ref (ad ε 39)), (1, .int t0), (2, .int x2), (3, .int y1)]) ?_ [2, 1, 3, 0] rfl
  exact g15 _ _ _ _ ok
def b_X9_spread_69 (k5 : Int32 → Int32 → St → Option Rs) (k15 : Int32 → Int32 → Int32 → St → Option Rs) (k26 : Int32 → Int32 → Int32 → Int32 → Int32 → St → Option Rs) (x1 : Int32) (x2 : Int32) (x3 : Int32) (x5 : Int32) (t0 : Int32) (t1 : Int32) (σ : St) : Option Rs := nx (t1 + t0) (fun y1 => nx (x5 + (1 : Int32)) (fun y3 => k26 x1 x2 x3 y1 y3 σ))
set_option maxRecDepth 10000 in
set_option maxHeartbeats 1000000 in
theorem t_X9_spread_69 {ε : Et} {κ : Kt} {z : Rs} (C : Cx ε κ cX9_spread 6 RX9 0) (K : Ret ε κ cX9_spread (some .int) 0 0 (PI ε z)) (k5 : Int32 → Int32 → St → Option Rs) (k15 : Int32 → Int32 → Int32 → St → Option Rs) (k26 : Int32 → Int32 → Int32 → Int32 → Int32 → St → Option Rs) (g5 : ∀ (x1 : Int32) (x2 : Int32) (σ : St), k5 x1 x2 σ = some z → G ε κ 0 0 5 [(0, .ref (ad ε 39)), (1, .int x1), (2, .int x2)] [] (WX ε σ)) (g15 : ∀ (x1 : Int32) (x2 : Int32) (x3 : Int32) (σ : St), k15 x1 x2 x3 σ = some z → G ε κ 0 0 15 [(0, .ref (ad ε 39)), (1, .int x1), (2, .int x2), (3, .int x3)] [] (WX ε σ)) (g26 : ∀ (x1 : Int32) (x2 : Int32) (x3 : Int32) (x4 : Int32) (x5 : Int32) (σ : St), k26 x1 x2 x3 x4 x5 σ = some z → G ε κ 0 0 26 [(0, .ref (ad ε 39)), (1, .int x1), (2, .int x2), (3, .int x3), (4, .int x4), (5, .int x5)] [] (WX ε σ)) (x1 : Int32) (x2 : Int32) (x3 : Int32) (x5 : Int32) (t0 : Int32) (t1 : Int32) (σ : St) (ok : b_X9_spread_69 k5 k15 k26 x1 x2 x3 x5 t0 t1 σ = some z) : G ε κ 0 0 69 [(0, .ref (ad ε 39)), (1, .int x1), (2, .int x2), (3, .int x3), (5, .int x5)] [.int t0, .int t1] (WX ε σ) := by
  unfold b_X9_spread_69 at ok
  refine g_iadd C dX9_spread_69 ?_
  refine q_nm (fun y1 e2 => ?_)
  replace ok := nx_ok ok y1 e2
  refine g_istore C [(4, .int y1), (0, .ref (ad ε 39)), (1, .int x1), (2, .int x2), (3, .int x3), (5, .int x5)] dX9_spread_70 (by decide) rfl ?_
  obtain ⟨y3, e4⟩ : ∃ y : Int32, y = (x5 + (1 : Int32)) := ⟨_, rfl⟩
  replace ok := nx_ok ok y3 e4
  refine g_iinc (v := y3) C [(5, .int y3), (4, .int y1), (0, .ref (ad ε 39)), (1, .int x1), (2, .int x2), (3, .int x3)] dX9_spread_72 5 rfl (by rw [e4]; rfl) (by decide) rfl ?_
  refine g_goto (tgt := 26) C dX9_spread_75 (by decide) ?_
  refine g_pick (lv' := [(0, .ref (ad ε 39)), (1, .int x1), (2, .int x2), (3, .int x3), (4, .int y1), (5, .int y3)]) ?_ [2, 3, 4, 5, 1, 0] rfl
  exact g26 _ _ _ _ _ _ ok
def b_X9_spread_26 (k5 : Int32 → Int32 → St → Option Rs) (k15 : Int32 → Int32 → Int32 → St → Option Rs) (k26 : Int32 → Int32 → Int32 → Int32 → Int32 → St → Option Rs) (x1 : Int32) (x2 : Int32) (x3 : Int32) (x4 : Int32) (x5 : Int32) (σ : St) : Option Rs := (if (σ.1 39 13) ≤ x5 then (if x1 ≤ x4 then b_X9_spread_90 k5 k15 x2 x3 x1 σ else b_X9_spread_90 k5 k15 x2 x3 x4 σ) else gd (inb (((12 : Int32) * x2) + x5) (ln 46)) (gd (inb (((12 : Int32) * x3) + x5) (ln 46)) ((if (σ.2.1 46 (((12 : Int32) * x2) + x5).toNatClampNeg) = (σ.2.1 46 (((12 : Int32) * x3) + x5).toNatClampNeg) then b_X9_spread_69 k5 k15 k26 x1 x2 x3 x5 (0 : Int32) x4 σ else b_X9_spread_69 k5 k15 k26 x1 x2 x3 x5 (1 : Int32) x4 σ))))
set_option maxRecDepth 10000 in
set_option maxHeartbeats 1000000 in
theorem t_X9_spread_26 {ε : Et} {κ : Kt} {z : Rs} (C : Cx ε κ cX9_spread 6 RX9 0) (K : Ret ε κ cX9_spread (some .int) 0 0 (PI ε z)) (k5 : Int32 → Int32 → St → Option Rs) (k15 : Int32 → Int32 → Int32 → St → Option Rs) (k26 : Int32 → Int32 → Int32 → Int32 → Int32 → St → Option Rs) (g5 : ∀ (x1 : Int32) (x2 : Int32) (σ : St), k5 x1 x2 σ = some z → G ε κ 0 0 5 [(0, .ref (ad ε 39)), (1, .int x1), (2, .int x2)] [] (WX ε σ)) (g15 : ∀ (x1 : Int32) (x2 : Int32) (x3 : Int32) (σ : St), k15 x1 x2 x3 σ = some z → G ε κ 0 0 15 [(0, .ref (ad ε 39)), (1, .int x1), (2, .int x2), (3, .int x3)] [] (WX ε σ)) (g26 : ∀ (x1 : Int32) (x2 : Int32) (x3 : Int32) (x4 : Int32) (x5 : Int32) (σ : St), k26 x1 x2 x3 x4 x5 σ = some z → G ε κ 0 0 26 [(0, .ref (ad ε 39)), (1, .int x1), (2, .int x2), (3, .int x3), (4, .int x4), (5, .int x5)] [] (WX ε σ)) (x1 : Int32) (x2 : Int32) (x3 : Int32) (x4 : Int32) (x5 : Int32) (σ : St) (ok : b_X9_spread_26 k5 k15 k26 x1 x2 x3 x4 x5 σ = some z) : G ε κ 0 0 26 [(0, .ref (ad ε 39)), (1, .int x1), (2, .int x2), (3, .int x3), (4, .int x4), (5, .int x5)] [] (WX ε σ) := by
  unfold b_X9_spread_26 at ok
  refine g_iload C dX9_spread_26 5 rfl ?_
  refine g_aload_n C dX9_spread_28 rfl 0 rfl ?_
  refine q_X9_121 C dX9_spread_29 ?_
  refine g_icmp_ge (tgt := 78) C dX9_spread_32 (by decide) (fun c1 => ?_) (fun c1 => ?_)
  · replace ok := ok_t c1 ok
    refine g_iload C dX9_spread_78 4 rfl ?_
    refine g_iload_n C dX9_spread_80 rfl 1 rfl ?_
    refine g_icmp_ge (tgt := 89) C dX9_spread_81 (by decide) (fun c2 => ?_) (fun c2 => ?_)
    · replace ok := ok_t c2 ok
      refine g_iload_n C dX9_spread_89 rfl 1 rfl ?_
      refine g_pick (lv' := [(0, .ref (ad ε 39)), (2, .int x2), (3, .int x3)]) ?_ [0, 2, 3] rfl
      exact t_X9_spread_90 C K k5 k15 g5 g15 _ _ _ _ ok
    · replace ok := ok_f c2 ok
      refine g_iload C dX9_spread_84 4 rfl ?_
      refine g_goto (tgt := 90) C dX9_spread_86 (by decide) ?_
      refine g_pick (lv' := [(0, .ref (ad ε 39)), (2, .int x2), (3, .int x3)]) ?_ [0, 2, 3] rfl
      exact t_X9_spread_90 C K k5 k15 g5 g15 _ _ _ _ ok
  · replace ok := ok_f c1 ok
    refine g_iload C dX9_spread_35 4 rfl ?_
    refine g_aload_n C dX9_spread_37 rfl 0 rfl ?_
    refine q_X9_32 C dX9_spread_38 ?_
    refine g_bipush (v := 12) C dX9_spread_41 (by decide) ?_
    refine g_iload_n C dX9_spread_43 rfl 2 rfl ?_
    refine g_imul C dX9_spread_44 ?_
    refine g_iload C dX9_spread_45 5 rfl ?_
    refine g_iadd C dX9_spread_47 ?_
    obtain ⟨h3, ok⟩ := gd_ok ok
    refine q_ald C ai_46 h3 dX9_spread_48 ?_
    refine g_aload_n C dX9_spread_49 rfl 0 rfl ?_
    refine q_X9_32 C dX9_spread_50 ?_
    refine g_bipush (v := 12) C dX9_spread_53 (by decide) ?_
    refine g_iload_n C dX9_spread_55 rfl 3 rfl ?_
    refine g_imul C dX9_spread_56 ?_
    refine g_iload C dX9_spread_57 5 rfl ?_
    refine g_iadd C dX9_spread_59 ?_
    obtain ⟨h4, ok⟩ := gd_ok ok
    refine q_ald C ai_46 h4 dX9_spread_60 ?_
    refine g_icmp_eq (tgt := 68) C dX9_spread_61 (by decide) (fun c5 => ?_) (fun c5 => ?_)
    · replace ok := ok_t c5 ok
      refine g_iconst (v := 0) C dX9_spread_68 (by decide) ?_
      refine g_pick (lv' := [(0, .ref (ad ε 39)), (1, .int x1), (2, .int x2), (3, .int x3), (5, .int x5)]) ?_ [0, 1, 2, 3, 5] rfl
      exact t_X9_spread_69 C K k5 k15 k26 g5 g15 g26 _ _ _ _ _ _ _ ok
    · replace ok := ok_f c5 ok
      refine g_iconst (v := 1) C dX9_spread_64 (by decide) ?_
      refine g_goto (tgt := 69) C dX9_spread_65 (by decide) ?_
      refine g_pick (lv' := [(0, .ref (ad ε 39)), (1, .int x1), (2, .int x2), (3, .int x3), (5, .int x5)]) ?_ [0, 1, 2, 3, 5] rfl
      exact t_X9_spread_69 C K k5 k15 k26 g5 g15 g26 _ _ _ _ _ _ _ ok
def l_X9_spread_26 (k5 : Int32 → Int32 → St → Option Rs) (k15 : Int32 → Int32 → Int32 → St → Option Rs) : Nat → Int32 → Int32 → Int32 → Int32 → Int32 → St → Option Rs
  | 0 => fun _ _ _ _ _ _ => none
  | n + 1 => fun x1 x2 x3 x4 x5 σ => b_X9_spread_26 k5 k15 (l_X9_spread_26 k5 k15 n) x1 x2 x3 x4 x5 σ
theorem tl_X9_spread_26 {ε : Et} {κ : Kt} {z : Rs} (C : Cx ε κ cX9_spread 6 RX9 0) (K : Ret ε κ cX9_spread (some .int) 0 0 (PI ε z)) (k5 : Int32 → Int32 → St → Option Rs) (k15 : Int32 → Int32 → Int32 → St → Option Rs) (g5 : ∀ (x1 : Int32) (x2 : Int32) (σ : St), k5 x1 x2 σ = some z → G ε κ 0 0 5 [(0, .ref (ad ε 39)), (1, .int x1), (2, .int x2)] [] (WX ε σ)) (g15 : ∀ (x1 : Int32) (x2 : Int32) (x3 : Int32) (σ : St), k15 x1 x2 x3 σ = some z → G ε κ 0 0 15 [(0, .ref (ad ε 39)), (1, .int x1), (2, .int x2), (3, .int x3)] [] (WX ε σ)) : ∀ (n : Nat) (x1 : Int32) (x2 : Int32) (x3 : Int32) (x4 : Int32) (x5 : Int32) (σ : St), l_X9_spread_26 k5 k15 n x1 x2 x3 x4 x5 σ = some z → G ε κ 0 0 26 [(0, .ref (ad ε 39)), (1, .int x1), (2, .int x2), (3, .int x3), (4, .int x4), (5, .int x5)] [] (WX ε σ) := by
  intro n
  induction n with
  | zero =>
    intro x1 x2 x3 x4 x5 σ ok
    cases ok
  | succ n ih =>
    intro x1 x2 x3 x4 x5 σ ok
    exact t_X9_spread_26 C K k5 k15 (l_X9_spread_26 k5 k15 n) g5 g15 ih x1 x2 x3 x4 x5 σ ok
def b_X9_spread_15 (k5 : Int32 → Int32 → St → Option Rs) (k15 : Int32 → Int32 → Int32 → St → Option Rs) (x1 : Int32) (x2 : Int32) (x3 : Int32) (σ : St) : Option Rs := (if x2 ≤ x3 then nx (x2 + (1 : Int32)) (fun y2 => k5 x1 y2 σ) else l_X9_spread_26 k5 k15 FU x1 x2 x3 (0 : Int32) (0 : Int32) σ)
set_option maxRecDepth 10000 in
set_option maxHeartbeats 1000000 in
theorem t_X9_spread_15 {ε : Et} {κ : Kt} {z : Rs} (C : Cx ε κ cX9_spread 6 RX9 0) (K : Ret ε κ cX9_spread (some .int) 0 0 (PI ε z)) (k5 : Int32 → Int32 → St → Option Rs) (k15 : Int32 → Int32 → Int32 → St → Option Rs) (g5 : ∀ (x1 : Int32) (x2 : Int32) (σ : St), k5 x1 x2 σ = some z → G ε κ 0 0 5 [(0, .ref (ad ε 39)), (1, .int x1), (2, .int x2)] [] (WX ε σ)) (g15 : ∀ (x1 : Int32) (x2 : Int32) (x3 : Int32) (σ : St), k15 x1 x2 x3 σ = some z → G ε κ 0 0 15 [(0, .ref (ad ε 39)), (1, .int x1), (2, .int x2), (3, .int x3)] [] (WX ε σ)) (x1 : Int32) (x2 : Int32) (x3 : Int32) (σ : St) (ok : b_X9_spread_15 k5 k15 x1 x2 x3 σ = some z) : G ε κ 0 0 15 [(0, .ref (ad ε 39)), (1, .int x1), (2, .int x2), (3, .int x3)] [] (WX ε σ) := by
  unfold b_X9_spread_15 at ok
  refine g_iload_n C dX9_spread_15 rfl 3 rfl ?_
  refine g_iload_n C dX9_spread_16 rfl 2 rfl ?_
  refine g_icmp_ge (tgt := 97) C dX9_spread_17 (by decide) (fun c1 => ?_) (fun c1 => ?_)
  · replace ok := ok_t c1 ok
    obtain ⟨y2, e3⟩ : ∃ y : Int32, y = (x2 + (1 : Int32)) := ⟨_, rfl⟩
    replace ok := nx_ok ok y2 e3
    refine g_iinc (v := y2) C [(2, .int y2), (0, .ref (ad ε 39)), (1, .int x1), (3, .int x3)] dX9_spread_97 2 rfl (by rw [e3]; rfl) (by decide) rfl ?_
    refine g_goto (tgt := 5) C dX9_spread_100 (by decide) ?_
    refine g_pick (lv' := [(0, .ref (ad ε 39)), (1, .int x1), (2, .int y2)]) ?_ [1, 2, 0] rfl
    exact g5 _ _ _ ok
  · replace ok := ok_f c1 ok
    refine g_iconst (v := 0) C dX9_spread_20 (by decide) ?_
    refine g_istore C [(4, .int (0 : Int32)), (0, .ref (ad ε 39)), (1, .int x1), (2, .int x2), (3, .int x3)] dX9_spread_21 (by decide) rfl ?_
    refine g_iconst (v := 0) C dX9_spread_23 (by decide) ?_
    refine g_istore C [(5, .int (0 : Int32)), (4, .int (0 : Int32)), (0, .ref (ad ε 39)), (1, .int x1), (2, .int x2), (3, .int x3)] dX9_spread_24 (by decide) rfl ?_
    refine g_pick (lv' := [(0, .ref (ad ε 39)), (1, .int x1), (2, .int x2), (3, .int x3), (4, .int (0 : Int32)), (5, .int (0 : Int32))]) ?_ [2, 3, 4, 5, 1, 0] rfl
    exact tl_X9_spread_26 C K k5 k15 g5 g15 FU _ _ _ _ _ _ ok
def l_X9_spread_15 (k5 : Int32 → Int32 → St → Option Rs) : Nat → Int32 → Int32 → Int32 → St → Option Rs
  | 0 => fun _ _ _ _ => none
  | n + 1 => fun x1 x2 x3 σ => b_X9_spread_15 k5 (l_X9_spread_15 k5 n) x1 x2 x3 σ
theorem tl_X9_spread_15 {ε : Et} {κ : Kt} {z : Rs} (C : Cx ε κ cX9_spread 6 RX9 0) (K : Ret ε κ cX9_spread (some .int) 0 0 (PI ε z)) (k5 : Int32 → Int32 → St → Option Rs) (g5 : ∀ (x1 : Int32) (x2 : Int32) (σ : St), k5 x1 x2 σ = some z → G ε κ 0 0 5 [(0, .ref (ad ε 39)), (1, .int x1), (2, .int x2)] [] (WX ε σ)) : ∀ (n : Nat) (x1 : Int32) (x2 : Int32) (x3 : Int32) (σ : St), l_X9_spread_15 k5 n x1 x2 x3 σ = some z → G ε κ 0 0 15 [(0, .ref (ad ε 39)), (1, .int x1), (2, .int x2), (3, .int x3)] [] (WX ε σ) := by
  intro n
  induction n with
  | zero =>
    intro x1 x2 x3 σ ok
    cases ok
  | succ n ih =>
    intro x1 x2 x3 σ ok
    exact t_X9_spread_15 C K k5 (l_X9_spread_15 k5 n) g5 ih x1 x2 x3 σ ok
def b_X9_spread_5 (k5 : Int32 → Int32 → St → Option Rs) (x1 : Int32) (x2 : Int32) (σ : St) : Option Rs := (if (σ.1 39 12) ≤ x2 then some (x1, σ) else l_X9_spread_15 k5 FU x1 x2 (0 : Int32) σ)
set_option maxRecDepth 10000 in
set_option maxHeartbeats 1000000 in
theorem t_X9_spread_5 {ε : Et} {κ : Kt} {z : Rs} (C : Cx ε κ cX9_spread 6 RX9 0) (K : Ret ε κ cX9_spread (some .int) 0 0 (PI ε z)) (k5 : Int32 → Int32 → St → Option Rs) (g5 : ∀ (x1 : Int32) (x2 : Int32) (σ : St), k5 x1 x2 σ = some z → G ε κ 0 0 5 [(0, .ref (ad ε 39)), (1, .int x1), (2, .int x2)] [] (WX ε σ)) (x1 : Int32) (x2 : Int32) (σ : St) (ok : b_X9_spread_5 k5 x1 x2 σ = some z) : G ε κ 0 0 5 [(0, .ref (ad ε 39)), (1, .int x1), (2, .int x2)] [] (WX ε σ) := by
  unfold b_X9_spread_5 at ok
  refine g_iload_n C dX9_spread_5 rfl 2 rfl ?_
  refine g_aload_n C dX9_spread_6 rfl 0 rfl ?_
  refine q_X9_118 C dX9_spread_7 ?_
  refine g_icmp_ge (tgt := 103) C dX9_spread_10 (by decide) (fun c1 => ?_) (fun c1 => ?_)
  · replace ok := ok_t c1 ok
    refine g_iload_n C dX9_spread_103 rfl 1 rfl ?_
    exact K.2 .int _ _ _ _ rfl dX9_spread_104 rfl (pi_ok ok)
  · replace ok := ok_f c1 ok
    refine g_iconst (v := 0) C dX9_spread_13 (by decide) ?_
    refine g_istore_n C [(3, .int (0 : Int32)), (0, .ref (ad ε 39)), (1, .int x1), (2, .int x2)] dX9_spread_14 rfl (by decide) rfl ?_
    refine g_pick (lv' := [(0, .ref (ad ε 39)), (1, .int x1), (2, .int x2), (3, .int (0 : Int32))]) ?_ [1, 2, 3, 0] rfl
    exact tl_X9_spread_15 C K k5 g5 FU _ _ _ _ ok
def l_X9_spread_5 : Nat → Int32 → Int32 → St → Option Rs
  | 0 => fun _ _ _ => none
  | n + 1 => fun x1 x2 σ => b_X9_spread_5 (l_X9_spread_5 n) x1 x2 σ
theorem tl_X9_spread_5 {ε : Et} {κ : Kt} {z : Rs} (C : Cx ε κ cX9_spread 6 RX9 0) (K : Ret ε κ cX9_spread (some .int) 0 0 (PI ε z)) : ∀ (n : Nat) (x1 : Int32) (x2 : Int32) (σ : St), l_X9_spread_5 n x1 x2 σ = some z → G ε κ 0 0 5 [(0, .ref (ad ε 39)), (1, .int x1), (2, .int x2)] [] (WX ε σ) := by
  intro n
  induction n with
  | zero =>
    intro x1 x2 σ ok
    cases ok
  | succ n ih =>
    intro x1 x2 σ ok
    exact t_X9_spread_5 C K (l_X9_spread_5 n) ih x1 x2 σ ok
def f_X9_spread (σ : St) : Option Rs := l_X9_spread_5 FU (13 : Int32) (0 : Int32) σ
set_option maxRecDepth 10000 in
set_option maxHeartbeats 1000000 in
theorem tf_X9_spread {ε : Et} {κ : Kt} {z : Rs} (C : Cx ε κ cX9_spread 6 RX9 0) (K : Ret ε κ cX9_spread (some .int) 0 0 (PI ε z)) (σ : St) (ok : f_X9_spread σ = some z) : G ε κ 0 0 0 [(0, .ref (ad ε 39))] [] (WX ε σ) := by
  unfold f_X9_spread at ok
  refine g_bipush (v := 13) C dX9_spread_0 (by decide) ?_
  refine g_istore_n C [(1, .int (13 : Int32)), (0, .ref (ad ε 39))] dX9_spread_2 rfl (by decide) rfl ?_
  refine g_iconst (v := 0) C dX9_spread_3 (by decide) ?_
  refine g_istore_n C [(2, .int (0 : Int32)), (1, .int (13 : Int32)), (0, .ref (ad ε 39))] dX9_spread_4 rfl (by decide) rfl ?_
  refine g_pick (lv' := [(0, .ref (ad ε 39)), (1, .int (13 : Int32)), (2, .int (0 : Int32))]) ?_ [2, 1, 0] rfl
  exact tl_X9_spread_5 C K FU _ _ _ ok
theorem c_X9_spread {l : Launch} {ε : Et} {σ : St} {z : Rs} (e : f_X9_spread σ = some z) : RM l ε yX9_spread cX9_spread 6 (some .int) 0 0 0 [.ref (ad ε 39)] (WX ε σ) (PI ε z) := RM.of (by decide) (Nat.le_of_ble_eq_true rfl) (fun κ C K => tf_X9_spread C K σ e)
def b_X9_told_77 (t0 : Int32) (σ : St) : Option Rs := some (t0, σ)
set_option maxRecDepth 10000 in
set_option maxHeartbeats 1000000 in
theorem t_X9_told_77 {ε : Et} {κ : Kt} {z : Rs} (C : Cx ε κ cX9_told 2 RX9 1) (K : Ret ε κ cX9_told (some .int) 0 0 (PI ε z)) (t0 : Int32) (σ : St) (ok : b_X9_told_77 t0 σ = some z) : G ε κ 0 0 77 [] [.int t0] (WX ε σ) := by
  unfold b_X9_told_77 at ok
  exact K.2 .int _ _ _ _ rfl dX9_told_77 rfl (pi_ok ok)
def b_X9_told_15 (x1 : Int32) (t0 : Int32) (σ : St) : Option Rs := nx (sS σ 39 3 t0) (fun s1 => (if (s1.1 39 3) ≤ 0 then (if x1 = 0 then bd (f_X9_spread s1) (fun r8 s9 => b_X9_told_77 r8 s9) else (if x1 = (1 : Int32) then b_X9_told_77 (s1.1 39 12) s1 else (if x1 = (2 : Int32) then (if (s1.1 39 12) = 0 then b_X9_told_77 (0 : Int32) s1 else b_X9_told_77 (s1.1 39 13) s1) else b_X9_told_77 (s1.1 39 9) s1))) else some ((0 : Int32), s1)))
set_option maxRecDepth 10000 in
set_option maxHeartbeats 1000000 in
theorem t_X9_told_15 {ε : Et} {κ : Kt} {z : Rs} (C : Cx ε κ cX9_told 2 RX9 1) (K : Ret ε κ cX9_told (some .int) 0 0 (PI ε z)) (x1 : Int32) (t0 : Int32) (σ : St) (ok : b_X9_told_15 x1 t0 σ = some z) : G ε κ 0 0 15 [(0, .ref (ad ε 39)), (1, .int x1)] [.int t0, .ref (ad ε 39)] (WX ε σ) := by
  unfold b_X9_told_15 at ok
  refine p_X9_66 C dX9_told_15 (fun s1 e2 => ?_)
  replace ok := nx_ok ok s1 e2
  refine g_aload_n C dX9_told_18 rfl 0 rfl ?_
  refine q_X9_66 C dX9_told_19 ?_
  refine g_if_le (tgt := 27) C dX9_told_22 (by decide) (fun c3 => ?_) (fun c3 => ?_)
  · replace ok := ok_t c3 ok
    refine g_iload_n C dX9_told_27 rfl 1 rfl ?_
    refine g_if_ne (tgt := 38) C dX9_told_28 (by decide) (fun c4 => ?_) (fun c4 => ?_)
    · replace ok := ok_f c4 ok
      refine g_iload_n C dX9_told_38 rfl 1 rfl ?_
      refine g_iconst (v := 1) C dX9_told_39 (by decide) ?_
      refine g_icmp_ne (tgt := 50) C dX9_told_40 (by decide) (fun c5 => ?_) (fun c5 => ?_)
      · replace ok := ok_f c5 ok
        refine g_iload_n C dX9_told_50 rfl 1 rfl ?_
        refine g_iconst (v := 2) C dX9_told_51 (by decide) ?_
        refine g_icmp_ne (tgt := 73) C dX9_told_52 (by decide) (fun c6 => ?_) (fun c6 => ?_)
        · replace ok := ok_f c6 ok
          refine g_aload_n C dX9_told_73 rfl 0 rfl ?_
          refine q_X9_63 C dX9_told_74 ?_
          refine g_pick (lv' := []) ?_ [] rfl
          exact t_X9_told_77 C K _ _ ok
        · replace ok := ok_t c6 ok
          refine g_aload_n C dX9_told_55 rfl 0 rfl ?_
          refine q_X9_118 C dX9_told_56 ?_
          refine g_if_ne (tgt := 66) C dX9_told_59 (by decide) (fun c7 => ?_) (fun c7 => ?_)
          · replace ok := ok_f c7 ok
            refine g_aload_n C dX9_told_66 rfl 0 rfl ?_
            refine q_X9_121 C dX9_told_67 ?_
            refine g_goto (tgt := 77) C dX9_told_70 (by decide) ?_
            refine g_pick (lv' := []) ?_ [] rfl
            exact t_X9_told_77 C K _ _ ok
          · replace ok := ok_t c7 ok
            refine g_iconst (v := 0) C dX9_told_62 (by decide) ?_
            refine g_goto (tgt := 77) C dX9_told_63 (by decide) ?_
            refine g_pick (lv' := []) ?_ [] rfl
            exact t_X9_told_77 C K _ _ ok
      · replace ok := ok_t c5 ok
        refine g_aload_n C dX9_told_43 rfl 0 rfl ?_
        refine q_X9_118 C dX9_told_44 ?_
        refine g_goto (tgt := 77) C dX9_told_47 (by decide) ?_
        refine g_pick (lv' := []) ?_ [] rfl
        exact t_X9_told_77 C K _ _ ok
    · replace ok := ok_t c4 ok
      refine g_aload_n C dX9_told_31 rfl 0 rfl ?_
      obtain ⟨r8, s9, e10, ok⟩ := bd_ok ok
      refine q_cI C [] (c_X9_spread e10) wv_X9_140 (by decide) (lt_N (by decide)) wx_X9 rfl rfl rfl (Nat.le_of_ble_eq_true rfl) dX9_told_32 ?_
      refine g_goto (tgt := 77) C dX9_told_35 (by decide) ?_
      refine g_pick (lv' := []) ?_ [] rfl
      exact t_X9_told_77 C K _ _ ok
  · replace ok := ok_f c3 ok
    refine g_iconst (v := 0) C dX9_told_25 (by decide) ?_
    exact K.2 .int _ _ _ _ rfl dX9_told_26 rfl (pi_ok ok)
def b_X9_told_10 (x1 : Int32) (σ : St) : Option Rs := b_X9_told_15 x1 (1 : Int32) σ
set_option maxRecDepth 10000 in
set_option maxHeartbeats 1000000 in
theorem t_X9_told_10 {ε : Et} {κ : Kt} {z : Rs} (C : Cx ε κ cX9_told 2 RX9 1) (K : Ret ε κ cX9_told (some .int) 0 0 (PI ε z)) (x1 : Int32) (σ : St) (ok : b_X9_told_10 x1 σ = some z) : G ε κ 0 0 10 [(0, .ref (ad ε 39)), (1, .int x1)] [.ref (ad ε 39)] (WX ε σ) := by
  unfold b_X9_told_10 at ok
  refine g_iconst (v := 1) C dX9_told_10 (by decide) ?_
  refine g_goto (tgt := 15) C dX9_told_11 (by decide) ?_
  exact t_X9_told_15 C K _ _ _ ok
def f_X9_told (x1 : Int32) (σ : St) : Option Rs := (if x1 < 0 then b_X9_told_10 x1 σ else (if x1 ≤ (3 : Int32) then b_X9_told_15 x1 (0 : Int32) σ else b_X9_told_10 x1 σ))
set_option maxRecDepth 10000 in
set_option maxHeartbeats 1000000 in
theorem tf_X9_told {ε : Et} {κ : Kt} {z : Rs} (C : Cx ε κ cX9_told 2 RX9 1) (K : Ret ε κ cX9_told (some .int) 0 0 (PI ε z)) (x1 : Int32) (σ : St) (ok : f_X9_told x1 σ = some z) : G ε κ 0 0 0 [(0, .ref (ad ε 39)), (1, .int x1)] [] (WX ε σ) := by
  unfold f_X9_told at ok
  refine g_aload_n C dX9_told_0 rfl 0 rfl ?_
  refine g_iload_n C dX9_told_1 rfl 1 rfl ?_
  refine g_if_lt (tgt := 10) C dX9_told_2 (by decide) (fun c1 => ?_) (fun c1 => ?_)
  · replace ok := ok_t c1 ok
    exact t_X9_told_10 C K _ _ ok
  · replace ok := ok_f c1 ok
    refine g_iload_n C dX9_told_5 rfl 1 rfl ?_
    refine g_iconst (v := 3) C dX9_told_6 (by decide) ?_
    refine g_icmp_le (tgt := 14) C dX9_told_7 (by decide) (fun c2 => ?_) (fun c2 => ?_)
    · replace ok := ok_t c2 ok
      refine g_iconst (v := 0) C dX9_told_14 (by decide) ?_
      exact t_X9_told_15 C K _ _ _ ok
    · replace ok := ok_f c2 ok
      exact t_X9_told_10 C K _ _ ok
theorem c_X9_told {l : Launch} {ε : Et} {σ : St} {z : Rs} {x1 : Int32} (e : f_X9_told x1 σ = some z) : RM l ε yX9_told cX9_told 2 (some .int) 1 0 0 [.ref (ad ε 39), .int x1] (WX ε σ) (PI ε z) := RM.of (by decide) (Nat.le_of_ble_eq_true rfl) (fun κ C K => tf_X9_told C K x1 σ e)
