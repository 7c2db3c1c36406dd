def f_X5_forget (σ : St) : Option Rs := gz (0 : Int32) (nx (sS σ 19 6 (0 : Int32)) (fun s1 => some ((0 : Int32), s1)))
set_option maxRecDepth 10000 in
set_option maxHeartbeats 1000000 in
theorem tf_X5_forget {ε : Et} {κ : Kt} {z : Rs} (C : Cx ε κ cX5_forget 1 RX5 0) (K : Ret ε κ cX5_forget none 0 0 (PV ε z)) (σ : St) (ok : f_X5_forget σ = some z) : G ε κ 0 0 0 [(0, .ref (ad ε 19))] [] (WX ε σ) := by
  unfold f_X5_forget at ok
  refine g_aload_n C dX5_forget_0 rfl 0 rfl ?_
  refine g_iconst (v := 0) C dX5_forget_1 (by decide) ?_
  obtain ⟨z3, ok⟩ := gz_ok ok
  refine p_X5_35 C z3 dX5_forget_2 (fun s1 e2 => ?_)
  replace ok := nx_ok ok s1 e2
  exact K.1 rfl _ _ _ dX5_forget_5 (pv_ok ok)
theorem c_X5_forget {l : Launch} {ε : Et} {σ : St} {z : Rs} (e : f_X5_forget σ = some z) : RM l ε yX5_forget cX5_forget 1 none 0 0 0 [.ref (ad ε 19)] (WX ε σ) (PV ε z) := RM.of (by decide) (Nat.le_of_ble_eq_true rfl) (fun κ C K => tf_X5_forget C K σ e)
def f_X5_isDone (σ : St) : Option Rs := gz (σ.1 19 6) (some ((σ.1 19 6), σ))
set_option maxRecDepth 10000 in
set_option maxHeartbeats 1000000 in
theorem tf_X5_isDone {ε : Et} {κ : Kt} {z : Rs} (C : Cx ε κ cX5_isDone 1 RX5 0) (K : Ret ε κ cX5_isDone (some .boolean) 0 0 (PI ε z)) (σ : St) (ok : f_X5_isDone σ = some z) : G ε κ 0 0 0 [(0, .ref (ad ε 19))] [] (WX ε σ) := by
  unfold f_X5_isDone at ok
  refine g_aload_n C dX5_isDone_0 rfl 0 rfl ?_
  refine q_X5_35 C dX5_isDone_1 ?_
  obtain ⟨z1, ok⟩ := gz_ok ok
  exact K.2 .boolean _ _ _ _ rfl dX5_isDone_4 (nar_b z1) (pi_ok ok)
theorem c_X5_isDone {l : Launch} {ε : Et} {σ : St} {z : Rs} (e : f_X5_isDone σ = some z) : RM l ε yX5_isDone cX5_isDone 1 (some .boolean) 0 0 0 [.ref (ad ε 19)] (WX ε σ) (PI ε z) := RM.of (by decide) (Nat.le_of_ble_eq_true rfl) (fun κ C K => tf_X5_isDone C K σ e)
def f_X5_binCount (σ : St) : Option Rs := some ((σ.1 19 8), σ)
set_option maxRecDepth 10000 in
set_option maxHeartbeats 1000000 in
theorem tf_X5_binCount {ε : Et} {κ : Kt} {z : Rs} (C : Cx ε κ cX5_binCount 1 RX5 0) (K : Ret ε κ cX5_binCount (some .int) 0 0 (PI ε z)) (σ : St) (ok : f_X5_binCount σ = some z) : G ε κ 0 0 0 [(0, .ref (ad ε 19))] [] (WX ε σ) := by
  unfold f_X5_binCount at ok
  refine g_aload_n C dX5_binCount_0 rfl 0 rfl ?_
  refine q_X5_39 C dX5_binCount_1 ?_
  exact K.2 .int _ _ _ _ rfl dX5_binCount_4 rfl (pi_ok ok)
theorem c_X5_binCount {l : Launch} {ε : Et} {σ : St} {z : Rs} (e : f_X5_binCount σ = some z) : RM l ε yX5_binCount cX5_binCount 1 (some .int) 0 0 0 [.ref (ad ε 19)] (WX ε σ) (PI ε z) := RM.of (by decide) (Nat.le_of_ble_eq_true rfl) (fun κ C K => tf_X5_binCount C K σ e)
def f_X5_restart (x1 : Int32) (x2 : Int32) (x3 : Int32) (σ : St) : Option Rs := nx (sS σ 19 7 (0 : Int32)) (fun s1 => nx (sS s1 19 8 x1) (fun s3 => bd (f_X1_restart x2 x3 s3) (fun r5 s6 => some ((0 : Int32), s6))))
set_option maxRecDepth 10000 in
set_option maxHeartbeats 1000000 in
theorem tf_X5_restart {ε : Et} {κ : Kt} {z : Rs} (C : Cx ε κ cX5_restart 4 RX5 2) (K : Ret ε κ cX5_restart none 0 0 (PV ε z)) (x1 : Int32) (x2 : Int32) (x3 : Int32) (σ : St) (ok : f_X5_restart x1 x2 x3 σ = some z) : G ε κ 0 0 0 [(0, .ref (ad ε 19)), (1, .int x1), (2, .int x2), (3, .int x3)] [] (WX ε σ) := by
  unfold f_X5_restart at ok
  refine g_aload_n C dX5_restart_0 rfl 0 rfl ?_
  refine g_iconst (v := 0) C dX5_restart_1 (by decide) ?_
  refine p_X5_43 C dX5_restart_2 (fun s1 e2 => ?_)
  replace ok := nx_ok ok s1 e2
  refine g_aload_n C dX5_restart_5 rfl 0 rfl ?_
  refine g_iload_n C dX5_restart_6 rfl 1 rfl ?_
  refine p_X5_39 C dX5_restart_7 (fun s3 e4 => ?_)
  replace ok := nx_ok ok s3 e4
  refine g_aload_n C dX5_restart_10 rfl 0 rfl ?_
  refine q_X5_31 C dX5_restart_11 ?_
  refine g_iload_n C dX5_restart_14 rfl 2 rfl ?_
  refine g_iload_n C dX5_restart_15 rfl 3 rfl ?_
  obtain ⟨r5, s6, e7, ok⟩ := bd_ok ok
  refine q_cV C [.int x2, .int x3] (c_X1_restart e7) wv_X5_46 (by decide) (lt_N (by decide)) wx_X1 rfl rfl rfl (Nat.le_of_ble_eq_true rfl) dX5_restart_16 ?_
  exact K.1 rfl _ _ _ dX5_restart_19 (pv_ok ok)
theorem c_X5_restart {l : Launch} {ε : Et} {σ : St} {z : Rs} {x1 : Int32} {x2 : Int32} {x3 : Int32} (e : f_X5_restart x1 x2 x3 σ = some z) : RM l ε yX5_restart cX5_restart 4 none 2 0 0 [.ref (ad ε 19), .int x1, .int x2, .int x3] (WX ε σ) (PV ε z) := RM.of (by decide) (Nat.le_of_ble_eq_true rfl) (fun κ C K => tf_X5_restart C K x1 x2 x3 σ e)
def b_X5_sumOfQualities_10 (b1 : Bool) (k10 : Int32 → Int32 → Int32 → St → Option Rs) (x2 : Int32) (x3 : Int32) (x4 : Int32) (σ : St) : Option Rs := gd (inb x2 (ln 22)) ((if (σ.2.1 22 x2.toNatClampNeg) ≤ x4 then some (x3, σ) else bd (f_X3_quality b1 x2 x4 σ) (fun r3 s4 => nx (x3 + r3) (fun y6 => nx (x4 + (1 : Int32)) (fun y8 => k10 x2 y6 y8 s4)))))
set_option maxRecDepth 10000 in
set_option maxHeartbeats 1000000 in
theorem t_X5_sumOfQualities_10 {ε : Et} {κ : Kt} {z : Rs} (b1 : Bool) (C : Cx ε κ cX5_sumOfQualities 5 RX5 2) (K : Ret ε κ cX5_sumOfQualities (some .int) 0 0 (PI ε z)) (k10 : Int32 → Int32 → Int32 → St → Option Rs) (g10 : ∀ (x2 : Int32) (x3 : Int32) (x4 : Int32) (σ : St), k10 x2 x3 x4 σ = some z → G ε κ 0 0 10 [(0, .ref (ad ε 19)), (1, .ref (ad ε (bs b1))), (2, .int x2), (3, .int x3), (4, .int x4)] [] (WX ε σ)) (x2 : Int32) (x3 : Int32) (x4 : Int32) (σ : St) (ok : b_X5_sumOfQualities_10 b1 k10 x2 x3 x4 σ = some z) : G ε κ 0 0 10 [(0, .ref (ad ε 19)), (1, .ref (ad ε (bs b1))), (2, .int x2), (3, .int x3), (4, .int x4)] [] (WX ε σ) := by
  unfold b_X5_sumOfQualities_10 at ok
  refine g_iload C dX5_sumOfQualities_10 4 rfl ?_
  refine g_aload_n C dX5_sumOfQualities_12 rfl 0 rfl ?_
  refine q_X5_18 C dX5_sumOfQualities_13 ?_
  refine g_iload_n C dX5_sumOfQualities_16 rfl 2 rfl ?_
  obtain ⟨h1, ok⟩ := gd_ok ok
  refine q_ald C ai_22 h1 dX5_sumOfQualities_17 ?_
  refine g_icmp_ge (tgt := 37) C dX5_sumOfQualities_18 (by decide) (fun c2 => ?_) (fun c2 => ?_)
  · replace ok := ok_t c2 ok
    refine g_iload_n C dX5_sumOfQualities_37 rfl 3 rfl ?_
    exact K.2 .int _ _ _ _ rfl dX5_sumOfQualities_38 rfl (pi_ok ok)
  · replace ok := ok_f c2 ok
    refine g_iload_n C dX5_sumOfQualities_21 rfl 3 rfl ?_
    refine g_aload_n C dX5_sumOfQualities_22 rfl 1 rfl ?_
    refine g_iload_n C dX5_sumOfQualities_23 rfl 2 rfl ?_
    refine g_iload C dX5_sumOfQualities_24 4 rfl ?_
    obtain ⟨r3, s4, e5, ok⟩ := bd_ok ok
    refine q_cI C [.int x2, .int x4] (c_X3_quality e5) wv_X5_96 (by decide) (bs_lt b1) (wx_X3 b1) rfl rfl rfl (Nat.le_of_ble_eq_true rfl) dX5_sumOfQualities_26 ?_
    refine g_iadd C dX5_sumOfQualities_29 ?_
    refine q_nm (fun y6 e7 => ?_)
    replace ok := nx_ok ok y6 e7
    refine g_istore_n C [(3, .int y6), (0, .ref (ad ε 19)), (1, .ref (ad ε (bs b1))), (2, .int x2), (4, .int x4)] dX5_sumOfQualities_30 rfl (by decide) rfl ?_
    obtain ⟨y8, e9⟩ : ∃ y : Int32, y = (x4 + (1 : Int32)) := ⟨_, rfl⟩
    replace ok := nx_ok ok y8 e9
    refine g_iinc (v := y8) C [(4, .int y8), (3, .int y6), (0, .ref (ad ε 19)), (1, .ref (ad ε (bs b1))), (2, .int x2)] dX5_sumOfQualities_31 4 rfl (by rw [e9]; rfl) (by decide) rfl ?_
    refine g_goto (tgt := 10) C dX5_sumOfQualities_34 (by decide) ?_
    refine g_pick (lv' := [(0, .ref (ad ε 19)), (1, .ref (ad ε (bs b1))), (2, .int x2), (3, .int y6), (4, .int y8)]) ?_ [2, 3, 4, 1, 0] rfl
    exact g10 _ _ _ _ ok
def l_X5_sumOfQualities_10 (b1 : Bool) : Nat → Int32 → Int32 → Int32 → St → Option Rs
  | 0 => fun _ _ _ _ => none
  | n + 1 => fun x2 x3 x4 σ => b_X5_sumOfQualities_10 b1 (l_X5_sumOfQualities_10 b1 n) x2 x3 x4 σ
theorem tl_X5_sumOfQualities_10 {ε : Et} {κ : Kt} {z : Rs} (b1 : Bool) (C : Cx ε κ cX5_sumOfQualities 5 RX5 2) (K : Ret ε κ cX5_sumOfQualities (some .int) 0 0 (PI ε z)) : ∀ (n : Nat) (x2 : Int32) (x3 : Int32) (x4 : Int32) (σ : St), l_X5_sumOfQualities_10 b1 n x2 x3 x4 σ = some z → G ε κ 0 0 10 [(0, .ref (ad ε 19)), (1, .ref (ad ε (bs b1))), (2, .int x2), (3, .int x3), (4, .int x4)] [] (WX ε σ) := by
  intro n
  induction n with
  | zero =>
    intro x2 x3 x4 σ ok
    cases ok
  | succ n ih =>
    intro x2 x3 x4 σ ok
    exact t_X5_sumOfQualities_10 b1 C K (l_X5_sumOfQualities_10 b1 n) ih x2 x3 x4 σ ok
def f_X5_sumOfQualities (b1 : Bool) (x2 : Int32) (σ : St) : Option Rs := gd (inb x2 (ln 21)) (nx (σ.2.1 21 x2.toNatClampNeg) (fun y2 => l_X5_sumOfQualities_10 b1 FU x2 (0 : Int32) y2 σ))
set_option maxRecDepth 10000 in
set_option maxHeartbeats 1000000 in
theorem tf_X5_sumOfQualities {ε : Et} {κ : Kt} {z : Rs} (b1 : Bool) (C : Cx ε κ cX5_sumOfQualities 5 RX5 2) (K : Ret ε κ cX5_sumOfQualities (some .int) 0 0 (PI ε z)) (x2 : Int32) (σ : St) (ok : f_X5_sumOfQualities b1 x2 σ = some z) : G ε κ 0 0 0 [(0, .ref (ad ε 19)), (1, .ref (ad ε (bs b1))), (2, .int x2)] [] (WX ε σ) := by
  unfold f_X5_sumOfQualities at ok
  refine g_iconst (v := 0) C dX5_sumOfQualities_0 (by decide) ?_
  refine g_istore_n C [(3, .int (0 : Int32)), (0, .ref (ad ε 19)), (1, .ref (ad ε (bs b1))), (2, .int x2)] dX5_sumOfQualities_1 rfl (by decide) rfl ?_
  refine g_aload_n C dX5_sumOfQualities_2 rfl 1 rfl ?_
  refine q_X5_15 C dX5_sumOfQualities_3 ?_
  refine g_iload_n C dX5_sumOfQualities_6 rfl 3 rfl ?_
  obtain ⟨h1, ok⟩ := gd_ok ok
  refine q_ald C ai_21 h1 dX5_sumOfQualities_7 ?_
  refine q_nm (fun y2 e3 => ?_)
  replace ok := nx_ok ok y2 e3
  refine g_istore C [(4, .int y2), (3, .int (0 : Int32)), (0, .ref (ad ε 19)), (1, .ref (ad ε (bs b1))), (2, .int x2)] dX5_sumOfQualities_8 (by decide) rfl ?_
  refine g_pick (lv' := [(0, .ref (ad ε 19)), (1, .ref (ad ε (bs b1))), (2, .int x2), (3, .int (0 : Int32)), (4, .int y2)]) ?_ [2, 3, 4, 1, 0] rfl
  exact tl_X5_sumOfQualities_10 b1 C K FU _ _ _ _ ok
theorem c_X5_sumOfQualities {l : Launch} {ε : Et} {σ : St} {z : Rs} {b1 : Bool} {x2 : Int32} (e : f_X5_sumOfQualities b1 x2 σ = some z) : RM l ε yX5_sumOfQualities cX5_sumOfQualities 5 (some .int) 2 0 0 [.ref (ad ε 19), .ref (ad ε (bs b1)), .int x2] (WX ε σ) (PI ε z) := RM.of (by decide) (Nat.le_of_ble_eq_true rfl) (fun κ C K => tf_X5_sumOfQualities b1 C K x2 σ e)
def b_X5_add_18 (b1 : Bool) (σ : St) : Option Rs := some ((0 : Int32), σ)
set_option maxRecDepth 10000 in
set_option maxHeartbeats 1000000 in
theorem t_X5_add_18 {ε : Et} {κ : Kt} {z : Rs} (b1 : Bool) (C : Cx ε κ cX5_add 5 RX5 3) (K : Ret ε κ cX5_add none 0 0 (PV ε z)) (σ : St) (ok : b_X5_add_18 b1 σ = some z) : G ε κ 0 0 18 [] [] (WX ε σ) := by
  unfold b_X5_add_18 at ok
  exact K.1 rfl _ _ _ dX5_add_18 (pv_ok ok)
def f_X5_add (b1 : Bool) (x2 : Int32) (σ : St) : Option Rs := nx (σ.1 19 7) (fun y1 => (if y1 < 0 then b_X5_add_18 b1 σ else (if y1 < (60 : Int32) then gd (inb y1 (ln 20)) (nx (sA σ 20 y1 x2) (fun s6 => bd (f_X6_begin s6) (fun r8 s9 => gd (inb y1 (ln 21)) (nx (sA s9 21 y1 r8) (fun s12 => bd (f_X6_end s12) (fun r14 s15 => gd (inb y1 (ln 22)) (nx (sA s15 22 y1 r14) (fun s18 => bd (f_X6_isTooShort s18) (fun r20 s21 => gd (inb y1 (ln 24)) (gz r20 (nx (sA s21 24 y1 r20) (fun s24 => bd (f_X5_sumOfQualities b1 y1 s24) (fun r27 s28 => gd (inb y1 (ln 23)) (nx (sA s28 23 y1 r27) (fun s31 => nx (sS s31 19 7 ((s31.1 19 7) + (1 : Int32))) (fun s33 => some ((0 : Int32), s33))))))))))))))))) else b_X5_add_18 b1 σ)))
set_option maxRecDepth 10000 in
set_option maxHeartbeats 1000000 in
theorem tf_X5_add {ε : Et} {κ : Kt} {z : Rs} (b1 : Bool) (C : Cx ε κ cX5_add 5 RX5 3) (K : Ret ε κ cX5_add none 0 0 (PV ε z)) (x2 : Int32) (σ : St) (ok : f_X5_add b1 x2 σ = some z) : G ε κ 0 0 0 [(0, .ref (ad ε 19)), (1, .ref (ad ε (bs b1))), (2, .int x2), (3, .ref (ad ε 16))] [] (WX ε σ) := by
  unfold f_X5_add at ok
  refine g_aload_n C dX5_add_0 rfl 0 rfl ?_
  refine q_X5_43 C dX5_add_1 ?_
  refine q_nm (fun y1 e2 => ?_)
  replace ok := nx_ok ok y1 e2
  refine g_istore C [(4, .int y1), (0, .ref (ad ε 19)), (1, .ref (ad ε (bs b1))), (2, .int x2), (3, .ref (ad ε 16))] dX5_add_4 (by decide) rfl ?_
  refine g_iload C dX5_add_6 0 rfl ?_
  refine g_if_lt (tgt := 18) C dX5_add_8 (by decide) (fun c3 => ?_) (fun c3 => ?_)
  · replace ok := ok_t c3 ok
    refine g_pick (lv' := []) ?_ [] rfl
    exact t_X5_add_18 b1 C K _ ok
  · replace ok := ok_f c3 ok
    refine g_iload C dX5_add_11 0 rfl ?_
    refine g_bipush (v := 60) C dX5_add_13 (by decide) ?_
    refine g_icmp_lt (tgt := 19) C dX5_add_15 (by decide) (fun c4 => ?_) (fun c4 => ?_)
    · replace ok := ok_t c4 ok
      refine g_aload_n C dX5_add_19 rfl 1 rfl ?_
      refine q_X5_9 C dX5_add_20 ?_
      refine g_iload C dX5_add_23 0 rfl ?_
      refine g_iload_n C dX5_add_25 rfl 3 rfl ?_
      obtain ⟨h5, ok⟩ := gd_ok ok
      refine q_ast C ai_20 h5 dX5_add_26 (fun s6 e7 => ?_)
      replace ok := nx_ok ok s6 e7
      refine g_aload_n C dX5_add_27 rfl 1 rfl ?_
      refine q_X5_15 C dX5_add_28 ?_
      refine g_iload C dX5_add_31 0 rfl ?_
      refine g_aload_n C dX5_add_33 rfl 4 rfl ?_
      obtain ⟨r8, s9, e10, ok⟩ := bd_ok ok
      refine q_cI C [] (c_X6_begin e10) wv_X5_50 (by decide) (lt_N (by decide)) wx_X6 rfl rfl rfl (Nat.le_of_ble_eq_true rfl) dX5_add_34 ?_
      obtain ⟨h11, ok⟩ := gd_ok ok
      refine q_ast C ai_21 h11 dX5_add_37 (fun s12 e13 => ?_)
      replace ok := nx_ok ok s12 e13
      refine g_aload_n C dX5_add_38 rfl 1 rfl ?_
      refine q_X5_18 C dX5_add_39 ?_
      refine g_iload C dX5_add_42 0 rfl ?_
      refine g_aload_n C dX5_add_44 rfl 4 rfl ?_
      obtain ⟨r14, s15, e16, ok⟩ := bd_ok ok
      refine q_cI C [] (c_X6_end e16) wv_X5_56 (by decide) (lt_N (by decide)) wx_X6 rfl rfl rfl (Nat.le_of_ble_eq_true rfl) dX5_add_45 ?_
      obtain ⟨h17, ok⟩ := gd_ok ok
      refine q_ast C ai_22 h17 dX5_add_48 (fun s18 e19 => ?_)
      replace ok := nx_ok ok s18 e19
      refine g_aload_n C dX5_add_49 rfl 1 rfl ?_
      refine q_X5_24 C dX5_add_50 ?_
      refine g_iload C dX5_add_53 0 rfl ?_
      refine g_aload_n C dX5_add_55 rfl 4 rfl ?_
      obtain ⟨r20, s21, e22, ok⟩ := bd_ok ok
      refine q_cI C [] (c_X6_isTooShort e22) wv_X5_59 (by decide) (lt_N (by decide)) wx_X6 rfl rfl rfl (Nat.le_of_ble_eq_true rfl) dX5_add_56 ?_
      obtain ⟨h23, ok⟩ := gd_ok ok
      obtain ⟨z26, ok⟩ := gz_ok ok
      refine q_zst C az_24 h23 z26 dX5_add_59 (fun s24 e25 => ?_)
      replace ok := nx_ok ok s24 e25
      refine g_aload_n C dX5_add_60 rfl 1 rfl ?_
      refine q_X5_21 C dX5_add_61 ?_
      refine g_iload C dX5_add_64 0 rfl ?_
      refine g_aload_n C dX5_add_66 rfl 1 rfl ?_
      refine g_aload_n C dX5_add_67 rfl 2 rfl ?_
      refine g_iload C dX5_add_68 0 rfl ?_
      obtain ⟨r27, s28, e29, ok⟩ := bd_ok ok
      refine q_cI C [.ref (ad ε (bs b1)), .int y1] (c_X5_sumOfQualities e29) wv_X5_63 (by decide) (lt_N (by decide)) wx_X5 rfl rfl rfl (Nat.le_of_ble_eq_true rfl) dX5_add_70 ?_
      obtain ⟨h30, ok⟩ := gd_ok ok
      refine q_ast C ai_23 h30 dX5_add_73 (fun s31 e32 => ?_)
      replace ok := nx_ok ok s31 e32
      refine g_aload_n C dX5_add_74 rfl 1 rfl ?_
      refine g_dup C dX5_add_75 rfl ?_
      refine q_X5_43 C dX5_add_76 ?_
      refine g_iconst (v := 1) C dX5_add_79 (by decide) ?_
      refine g_iadd C dX5_add_80 ?_
      refine p_X5_43 C dX5_add_81 (fun s33 e34 => ?_)
      replace ok := nx_ok ok s33 e34
      exact K.1 rfl _ _ _ dX5_add_84 (pv_ok ok)
    · replace ok := ok_f c4 ok
      refine g_pick (lv' := []) ?_ [] rfl
      exact t_X5_add_18 b1 C K _ ok
theorem c_X5_add {l : Launch} {ε : Et} {σ : St} {z : Rs} {b1 : Bool} {x2 : Int32} (e : f_X5_add b1 x2 σ = some z) : RM l ε yX5_add cX5_add 5 none 3 0 0 [.ref (ad ε 19), .ref (ad ε (bs b1)), .int x2, .ref (ad ε 16)] (WX ε σ) (PV ε z) := RM.of (by decide) (Nat.le_of_ble_eq_true rfl) (fun κ C K => tf_X5_add b1 C K x2 σ e)
def b_X5_finish_2 (k2 : Int32 → St → Option Rs) (x1 : Int32) (σ : St) : Option Rs := (if (σ.1 19 8) ≤ x1 then gz (1 : Int32) (nx (sS σ 19 6 (1 : Int32)) (fun s2 => some ((0 : Int32), s2))) else bd (f_X1_formGroups x1 σ) (fun r5 s6 => nx (x1 + (1 : Int32)) (fun y8 => k2 y8 s6)))
set_option maxRecDepth 10000 in
set_option maxHeartbeats 1000000 in
theorem t_X5_finish_2 {ε : Et} {κ : Kt} {z : Rs} (C : Cx ε κ cX5_finish 2 RX5 4) (K : Ret ε κ cX5_finish none 0 0 (PV ε z)) (k2 : Int32 → St → Option Rs) (g2 : ∀ (x1 : Int32) (σ : St), k2 x1 σ = some z → G ε κ 0 0 2 [(0, .ref (ad ε 19)), (1, .int x1)] [] (WX ε σ)) (x1 : Int32) (σ : St) (ok : b_X5_finish_2 k2 x1 σ = some z) : G ε κ 0 0 2 [(0, .ref (ad ε 19)), (1, .int x1)] [] (WX ε σ) := by
  unfold b_X5_finish_2 at ok
  refine g_iload_n C dX5_finish_2 rfl 1 rfl ?_
  refine g_aload_n C dX5_finish_3 rfl 0 rfl ?_
  refine q_X5_39 C dX5_finish_4 ?_
  refine g_icmp_ge (tgt := 24) C dX5_finish_7 (by decide) (fun c1 => ?_) (fun c1 => ?_)
  · replace ok := ok_t c1 ok
    refine g_aload_n C dX5_finish_24 rfl 0 rfl ?_
    refine g_iconst (v := 1) C dX5_finish_25 (by decide) ?_
    obtain ⟨z4, ok⟩ := gz_ok ok
    refine p_X5_35 C z4 dX5_finish_26 (fun s2 e3 => ?_)
    replace ok := nx_ok ok s2 e3
    exact K.1 rfl _ _ _ dX5_finish_29 (pv_ok ok)
  · replace ok := ok_f c1 ok
    refine g_aload_n C dX5_finish_10 rfl 0 rfl ?_
    refine q_X5_31 C dX5_finish_11 ?_
    refine g_iload_n C dX5_finish_14 rfl 1 rfl ?_
    obtain ⟨r5, s6, e7, ok⟩ := bd_ok ok
    refine q_cV C [.int x1] (c_X1_formGroups e7) wv_X5_67 (by decide) (lt_N (by decide)) wx_X1 rfl rfl rfl (Nat.le_of_ble_eq_true rfl) dX5_finish_15 ?_
    obtain ⟨y8, e9⟩ : ∃ y : Int32, y = (x1 + (1 : Int32)) := ⟨_, rfl⟩
    replace ok := nx_ok ok y8 e9
    refine g_iinc (v := y8) C [(1, .int y8), (0, .ref (ad ε 19))] dX5_finish_18 1 rfl (by rw [e9]; rfl) (by decide) rfl ?_
    refine g_goto (tgt := 2) C dX5_finish_21 (by decide) ?_
    refine g_pick (lv' := [(0, .ref (ad ε 19)), (1, .int y8)]) ?_ [1, 0] rfl
    exact g2 _ _ ok
def l_X5_finish_2 : Nat → Int32 → St → Option Rs
  | 0 => fun _ _ => none
  | n + 1 => fun x1 σ => b_X5_finish_2 (l_X5_finish_2 n) x1 σ
theorem tl_X5_finish_2 {ε : Et} {κ : Kt} {z : Rs} (C : Cx ε κ cX5_finish 2 RX5 4) (K : Ret ε κ cX5_finish none 0 0 (PV ε z)) : ∀ (n : Nat) (x1 : Int32) (σ : St), l_X5_finish_2 n x1 σ = some z → G ε κ 0 0 2 [(0, .ref (ad ε 19)), (1, .int x1)] [] (WX ε σ) := by
  intro n
  induction n with
  | zero =>
    intro x1 σ ok
    cases ok
  | succ n ih =>
    intro x1 σ ok
    exact t_X5_finish_2 C K (l_X5_finish_2 n) ih x1 σ ok
def f_X5_finish (σ : St) : Option Rs := l_X5_finish_2 FU (0 : Int32) σ
set_option maxRecDepth 10000 in
set_option maxHeartbeats 1000000 in
theorem tf_X5_finish {ε : Et} {κ : Kt} {z : Rs} (C : Cx ε κ cX5_finish 2 RX5 4) (K : Ret ε κ cX5_finish none 0 0 (PV ε z)) (σ : St) (ok : f_X5_finish σ = some z) : G ε κ 0 0 0 [(0, .ref (ad ε 19))] [] (WX ε σ) := by
  unfold f_X5_finish at ok
  refine g_iconst (v := 0) C dX5_finish_0 (by decide) ?_
  refine g_istore_n C [(1, .int (0 : Int32)), (0, .ref (ad ε 19))] dX5_finish_1 rfl (by decide) rfl ?_
  refine g_pick (lv' := [(0, .ref (ad ε 19)), (1, .int (0 : Int32))]) ?_ [1, 0] rfl
  exact tl_X5_finish_2 C K FU _ _ ok
theorem c_X5_finish {l : Launch} {ε : Et} {σ : St} {z : Rs} (e : f_X5_finish σ = some z) : RM l ε yX5_finish cX5_finish 2 none 4 0 0 [.ref (ad ε 19)] (WX ε σ) (PV ε z) := RM.of (by decide) (Nat.le_of_ble_eq_true rfl) (fun κ C K => tf_X5_finish C K σ e)
def b_X5_has_23 (t0 : Int32) (σ : St) : Option Rs := gz t0 (some (t0, σ))
set_option maxRecDepth 10000 in
set_option maxHeartbeats 1000000 in
theorem t_X5_has_23 {ε : Et} {κ : Kt} {z : Rs} (C : Cx ε κ cX5_has 2 RX5 0) (K : Ret ε κ cX5_has (some .boolean) 0 0 (PI ε z)) (t0 : Int32) (σ : St) (ok : b_X5_has_23 t0 σ = some z) : G ε κ 0 0 23 [] [.int t0] (WX ε σ) := by
  unfold b_X5_has_23 at ok
  obtain ⟨z1, ok⟩ := gz_ok ok
  exact K.2 .boolean _ _ _ _ rfl dX5_has_23 (nar_b z1) (pi_ok ok)
def b_X5_has_22 (σ : St) : Option Rs := b_X5_has_23 (0 : Int32) σ
set_option maxRecDepth 10000 in
set_option maxHeartbeats 1000000 in
theorem t_X5_has_22 {ε : Et} {κ : Kt} {z : Rs} (C : Cx ε κ cX5_has 2 RX5 0) (K : Ret ε κ cX5_has (some .boolean) 0 0 (PI ε z)) (σ : St) (ok : b_X5_has_22 σ = some z) : G ε κ 0 0 22 [] [] (WX ε σ) := by
  unfold b_X5_has_22 at ok
  refine g_iconst (v := 0) C dX5_has_22 (by decide) ?_
  exact t_X5_has_23 C K _ _ ok
def f_X5_has (x1 : Int32) (σ : St) : Option Rs := (if x1 < 0 then b_X5_has_22 σ else (if (σ.1 19 7) ≤ x1 then b_X5_has_22 σ else (if (60 : Int32) ≤ x1 then b_X5_has_22 σ else b_X5_has_23 (1 : Int32) σ)))
set_option maxRecDepth 10000 in
set_option maxHeartbeats 1000000 in
theorem tf_X5_has {ε : Et} {κ : Kt} {z : Rs} (C : Cx ε κ cX5_has 2 RX5 0) (K : Ret ε κ cX5_has (some .boolean) 0 0 (PI ε z)) (x1 : Int32) (σ : St) (ok : f_X5_has x1 σ = some z) : G ε κ 0 0 0 [(0, .ref (ad ε 19)), (1, .int x1)] [] (WX ε σ) := by
  unfold f_X5_has at ok
  refine g_iload_n C dX5_has_0 rfl 1 rfl ?_
  refine g_if_lt (tgt := 22) C dX5_has_1 (by decide) (fun c1 => ?_) (fun c1 => ?_)
  · replace ok := ok_t c1 ok
    refine g_pick (lv' := []) ?_ [] rfl
    exact t_X5_has_22 C K _ ok
  · replace ok := ok_f c1 ok
    refine g_iload_n C dX5_has_4 rfl 1 rfl ?_
    refine g_aload_n C dX5_has_5 rfl 0 rfl ?_
    refine q_X5_43 C dX5_has_6 ?_
    refine g_icmp_ge (tgt := 22) C dX5_has_9 (by decide) (fun c2 => ?_) (fun c2 => ?_)
    · replace ok := ok_t c2 ok
      refine g_pick (lv' := []) ?_ [] rfl
      exact t_X5_has_22 C K _ ok
    · replace ok := ok_f c2 ok
      refine g_iload_n C dX5_has_12 rfl 1 rfl ?_
      refine g_bipush (v := 60) C dX5_has_13 (by decide) ?_
      refine g_icmp_ge (tgt := 22) C dX5_has_15 (by decide) (fun c3 => ?_) (fun c3 => ?_)
      · replace ok := ok_t c3 ok
        refine g_pick (lv' := []) ?_ [] rfl
        exact t_X5_has_22 C K _ ok
      · replace ok := ok_f c3 ok
        refine g_iconst (v := 1) C dX5_has_18 (by decide) ?_
        refine g_goto (tgt := 23) C dX5_has_19 (by decide) ?_
        refine g_pick (lv' := []) ?_ [] rfl
        exact t_X5_has_23 C K _ _ ok
theorem c_X5_has {l : Launch} {ε : Et} {σ : St} {z : Rs} {x1 : Int32} (e : f_X5_has x1 σ = some z) : RM l ε yX5_has cX5_has 2 (some .boolean) 0 0 0 [.ref (ad ε 19), .int x1] (WX ε σ) (PI ε z) := RM.of (by decide) (Nat.le_of_ble_eq_true rfl) (fun κ C K => tf_X5_has C K x1 σ e)
def b_X5_binOf_18 (t0 : Int32) (σ : St) : Option Rs := some (t0, σ)
set_option maxRecDepth 10000 in
set_option maxHeartbeats 1000000 in
theorem t_X5_binOf_18 {ε : Et} {κ : Kt} {z : Rs} (C : Cx ε κ cX5_binOf 2 RX5 1) (K : Ret ε κ cX5_binOf (some .int) 0 0 (PI ε z)) (t0 : Int32) (σ : St) (ok : b_X5_binOf_18 t0 σ = some z) : G ε κ 0 0 18 [] [.int t0] (WX ε σ) := by
  unfold b_X5_binOf_18 at ok
  exact K.2 .int _ _ _ _ rfl dX5_binOf_18 rfl (pi_ok ok)
def f_X5_binOf (x1 : Int32) (σ : St) : Option Rs := bd (f_X5_has x1 σ) (fun r1 s2 => (if r1 = 0 then b_X5_binOf_18 (-1 : Int32) s2 else gd (inb x1 (ln 20)) (b_X5_binOf_18 (s2.2.1 20 x1.toNatClampNeg) s2)))
set_option maxRecDepth 10000 in
set_option maxHeartbeats 1000000 in
theorem tf_X5_binOf {ε : Et} {κ : Kt} {z : Rs} (C : Cx ε κ cX5_binOf 2 RX5 1) (K : Ret ε κ cX5_binOf (some .int) 0 0 (PI ε z)) (x1 : Int32) (σ : St) (ok : f_X5_binOf x1 σ = some z) : G ε κ 0 0 0 [(0, .ref (ad ε 19)), (1, .int x1)] [] (WX ε σ) := by
  unfold f_X5_binOf at ok
  refine g_aload_n C dX5_binOf_0 rfl 0 rfl ?_
  refine g_iload_n C dX5_binOf_1 rfl 1 rfl ?_
  obtain ⟨r1, s2, e3, ok⟩ := bd_ok ok
  refine q_cI C [.int x1] (c_X5_has e3) wv_X5_71 (by decide) (lt_N (by decide)) wx_X5 rfl rfl rfl (Nat.le_of_ble_eq_true rfl) dX5_binOf_2 ?_
  refine g_if_eq (tgt := 17) C dX5_binOf_5 (by decide) (fun c4 => ?_) (fun c4 => ?_)
  · replace ok := ok_t c4 ok
    refine g_iconst (v := -1) C dX5_binOf_17 (by decide) ?_
    refine g_pick (lv' := []) ?_ [] rfl
    exact t_X5_binOf_18 C K _ _ ok
  · replace ok := ok_f c4 ok
    refine g_aload_n C dX5_binOf_8 rfl 0 rfl ?_
    refine q_X5_9 C dX5_binOf_9 ?_
    refine g_iload_n C dX5_binOf_12 rfl 1 rfl ?_
    obtain ⟨h5, ok⟩ := gd_ok ok
    refine q_ald C ai_20 h5 dX5_binOf_13 ?_
    refine g_goto (tgt := 18) C dX5_binOf_14 (by decide) ?_
    refine g_pick (lv' := []) ?_ [] rfl
    exact t_X5_binOf_18 C K _ _ ok
theorem c_X5_binOf {l : Launch} {ε : Et} {σ : St} {z : Rs} {x1 : Int32} (e : f_X5_binOf x1 σ = some z) : RM l ε yX5_binOf cX5_binOf 2 (some .int) 1 0 0 [.ref (ad ε 19), .int x1] (WX ε σ) (PI ε z) := RM.of (by decide) (Nat.le_of_ble_eq_true rfl) (fun κ C K => tf_X5_binOf C K x1 σ e)
def b_X5_beginOf_18 (t0 : Int32) (σ : St) : Option Rs := some (t0, σ)
set_option maxRecDepth 10000 in
set_option maxHeartbeats 1000000 in
theorem t_X5_beginOf_18 {ε : Et} {κ : Kt} {z : Rs} (C : Cx ε κ cX5_beginOf 2 RX5 1) (K : Ret ε κ cX5_beginOf (some .int) 0 0 (PI ε z)) (t0 : Int32) (σ : St) (ok : b_X5_beginOf_18 t0 σ = some z) : G ε κ 0 0 18 [] [.int t0] (WX ε σ) := by
  unfold b_X5_beginOf_18 at ok
  exact K.2 .int _ _ _ _ rfl dX5_beginOf_18 rfl (pi_ok ok)
def f_X5_beginOf (x1 : Int32) (σ : St) : Option Rs := bd (f_X5_has x1 σ) (fun r1 s2 => (if r1 = 0 then b_X5_beginOf_18 (0 : Int32) s2 else gd (inb x1 (ln 21)) (b_X5_beginOf_18 (s2.2.1 21 x1.toNatClampNeg) s2)))
set_option maxRecDepth 10000 in
set_option maxHeartbeats 1000000 in
theorem tf_X5_beginOf {ε : Et} {κ : Kt} {z : Rs} (C : Cx ε κ cX5_beginOf 2 RX5 1) (K : Ret ε κ cX5_beginOf (some .int) 0 0 (PI ε z)) (x1 : Int32) (σ : St) (ok : f_X5_beginOf x1 σ = some z) : G ε κ 0 0 0 [(0, .ref (ad ε 19)), (1, .int x1)] [] (WX ε σ) := by
  unfold f_X5_beginOf at ok
  refine g_aload_n C dX5_beginOf_0 rfl 0 rfl ?_
  refine g_iload_n C dX5_beginOf_1 rfl 1 rfl ?_
  obtain ⟨r1, s2, e3, ok⟩ := bd_ok ok
  refine q_cI C [.int x1] (c_X5_has e3) wv_X5_71 (by decide) (lt_N (by decide)) wx_X5 rfl rfl rfl (Nat.le_of_ble_eq_true rfl) dX5_beginOf_2 ?_
  refine g_if_eq (tgt := 17) C dX5_beginOf_5 (by decide) (fun c4 => ?_) (fun c4 => ?_)
  · replace ok := ok_t c4 ok
    refine g_iconst (v := 0) C dX5_beginOf_17 (by decide) ?_
    refine g_pick (lv' := []) ?_ [] rfl
    exact t_X5_beginOf_18 C K _ _ ok
  · replace ok := ok_f c4 ok
    refine g_aload_n C dX5_beginOf_8 rfl 0 rfl ?_
    refine q_X5_15 C dX5_beginOf_9 ?_
    refine g_iload_n C dX5_beginOf_12 rfl 1 rfl ?_
    obtain ⟨h5, ok⟩ := gd_ok ok
    refine q_ald C ai_21 h5 dX5_beginOf_13 ?_
    refine g_goto (tgt := 18) C dX5_beginOf_14 (by decide) ?_
    refine g_pick (lv' := []) ?_ [] rfl
    exact t_X5_beginOf_18 C K _ _ ok
theorem c_X5_beginOf {l : Launch} {ε : Et} {σ : St} {z : Rs} {x1 : Int32} (e : f_X5_beginOf x1 σ = some z) : RM l ε yX5_beginOf cX5_beginOf 2 (some .int) 1 0 0 [.ref (ad ε 19), .int x1] (WX ε σ) (PI ε z) := RM.of (by decide) (Nat.le_of_ble_eq_true rfl) (fun κ C K => tf_X5_beginOf C K x1 σ e)
def b_X5_endOf_18 (t0 : Int32) (σ : St) : Option Rs := some (t0, σ)
set_option maxRecDepth 10000 in
set_option maxHeartbeats 1000000 in
theorem t_X5_endOf_18 {ε : Et} {κ : Kt} {z : Rs} (C : Cx ε κ cX5_endOf 2 RX5 1) (K : Ret ε κ cX5_endOf (some .int) 0 0 (PI ε z)) (t0 : Int32) (σ : St) (ok : b_X5_endOf_18 t0 σ = some z) : G ε κ 0 0 18 [] [.int t0] (WX ε σ) := by
  unfold b_X5_endOf_18 at ok
  exact K.2 .int _ _ _ _ rfl dX5_endOf_18 rfl (pi_ok ok)
def f_X5_endOf (x1 : Int32) (σ : St) : Option Rs := bd (f_X5_has x1 σ) (fun r1 s2 => (if r1 = 0 then b_X5_endOf_18 (0 : Int32) s2 else gd (inb x1 (ln 22)) (b_X5_endOf_18 (s2.2.1 22 x1.toNatClampNeg) s2)))
set_option maxRecDepth 10000 in
set_option maxHeartbeats 1000000 in
theorem tf_X5_endOf {ε : Et} {κ : Kt} {z : Rs} (C : Cx ε κ cX5_endOf 2 RX5 1) (K : Ret ε κ cX5_endOf (some .int) 0 0 (PI ε z)) (x1 : Int32) (σ : St) (ok : f_X5_endOf x1 σ = some z) : G ε κ 0 0 0 [(0, .ref (ad ε 19)), (1, .int x1)] [] (WX ε σ) := by
  unfold f_X5_endOf at ok
  refine g_aload_n C dX5_endOf_0 rfl 0 rfl ?_
  refine g_iload_n C dX5_endOf_1 rfl 1 rfl ?_
  obtain ⟨r1, s2, e3, ok⟩ := bd_ok ok
  refine q_cI C [.int x1] (c_X5_has e3) wv_X5_71 (by decide) (lt_N (by decide)) wx_X5 rfl rfl rfl (Nat.le_of_ble_eq_true rfl) dX5_endOf_2 ?_
  refine g_if_eq (tgt := 17) C dX5_endOf_5 (by decide) (fun c4 => ?_) (fun c4 => ?_)
  · replace ok := ok_t c4 ok
    refine g_iconst (v := 0) C dX5_endOf_17 (by decide) ?_
    refine g_pick (lv' := []) ?_ [] rfl
    exact t_X5_endOf_18 C K _ _ ok
  · replace ok := ok_f c4 ok
    refine g_aload_n C dX5_endOf_8 rfl 0 rfl ?_
    refine q_X5_18 C dX5_endOf_9 ?_
    refine g_iload_n C dX5_endOf_12 rfl 1 rfl ?_
    obtain ⟨h5, ok⟩ := gd_ok ok
    refine q_ald C ai_22 h5 dX5_endOf_13 ?_
    refine g_goto (tgt := 18) C dX5_endOf_14 (by decide) ?_
    refine g_pick (lv' := []) ?_ [] rfl
    exact t_X5_endOf_18 C K _ _ ok
theorem c_X5_endOf {l : Launch} {ε : Et} {σ : St} {z : Rs} {x1 : Int32} (e : f_X5_endOf x1 σ = some z) : RM l ε yX5_endOf cX5_endOf 2 (some .int) 1 0 0 [.ref (ad ε 19), .int x1] (WX ε σ) (PI ε z) := RM.of (by decide) (Nat.le_of_ble_eq_true rfl) (fun κ C K => tf_X5_endOf C K x1 σ e)
def b_X5_isShort_22 (t0 : Int32) (σ : St) : Option Rs := gz t0 (some (t0, σ))
set_option maxRecDepth 10000 in
set_option maxHeartbeats 1000000 in
theorem t_X5_isShort_22 {ε : Et} {κ : Kt} {z : Rs} (C : Cx ε κ cX5_isShort 2 RX5 1) (K : Ret ε κ cX5_isShort (some .boolean) 0 0 (PI ε z)) (t0 : Int32) (σ : St) (ok : b_X5_isShort_22 t0 σ = some z) : G ε κ 0 0 22 [] [.int t0] (WX ε σ) := by
  unfold b_X5_isShort_22 at ok
  obtain ⟨z1, ok⟩ := gz_ok ok
  exact K.2 .boolean _ _ _ _ rfl dX5_isShort_22 (nar_b z1) (pi_ok ok)
def b_X5_isShort_21 (σ : St) : Option Rs := b_X5_isShort_22 (0 : Int32) σ
set_option maxRecDepth 10000 in
set_option maxHeartbeats 1000000 in
theorem t_X5_isShort_21 {ε : Et} {κ : Kt} {z : Rs} (C : Cx ε κ cX5_isShort 2 RX5 1) (K : Ret ε κ cX5_isShort (some .boolean) 0 0 (PI ε z)) (σ : St) (ok : b_X5_isShort_21 σ = some z) : G ε κ 0 0 21 [] [] (WX ε σ) := by
  unfold b_X5_isShort_21 at ok
  refine g_iconst (v := 0) C dX5_isShort_21 (by decide) ?_
  exact t_X5_isShort_22 C K _ _ ok
def f_X5_isShort (x1 : Int32) (σ : St) : Option Rs := bd (f_X5_has x1 σ) (fun r1 s2 => (if r1 = 0 then b_X5_isShort_21 s2 else gd (inb x1 (ln 24)) ((if (s2.2.1 24 x1.toNatClampNeg) = 0 then b_X5_isShort_21 s2 else b_X5_isShort_22 (1 : Int32) s2))))
set_option maxRecDepth 10000 in
set_option maxHeartbeats 1000000 in
theorem tf_X5_isShort {ε : Et} {κ : Kt} {z : Rs} (C : Cx ε κ cX5_isShort 2 RX5 1) (K : Ret ε κ cX5_isShort (some .boolean) 0 0 (PI ε z)) (x1 : Int32) (σ : St) (ok : f_X5_isShort x1 σ = some z) : G ε κ 0 0 0 [(0, .ref (ad ε 19)), (1, .int x1)] [] (WX ε σ) := by
  unfold f_X5_isShort at ok
  refine g_aload_n C dX5_isShort_0 rfl 0 rfl ?_
  refine g_iload_n C dX5_isShort_1 rfl 1 rfl ?_
  obtain ⟨r1, s2, e3, ok⟩ := bd_ok ok
  refine q_cI C [.int x1] (c_X5_has e3) wv_X5_71 (by decide) (lt_N (by decide)) wx_X5 rfl rfl rfl (Nat.le_of_ble_eq_true rfl) dX5_isShort_2 ?_
  refine g_if_eq (tgt := 21) C dX5_isShort_5 (by decide) (fun c4 => ?_) (fun c4 => ?_)
  · replace ok := ok_t c4 ok
    refine g_pick (lv' := []) ?_ [] rfl
    exact t_X5_isShort_21 C K _ ok
  · replace ok := ok_f c4 ok
    refine g_aload_n C dX5_isShort_8 rfl 0 rfl ?_
    refine q_X5_24 C dX5_isShort_9 ?_
    refine g_iload_n C dX5_isShort_12 rfl 1 rfl ?_
    obtain ⟨h5, ok⟩ := gd_ok ok
    refine q_zld C az_24 h5 dX5_isShort_13 ?_
    refine g_if_eq (tgt := 21) C dX5_isShort_14 (by decide) (fun c6 => ?_) (fun c6 => ?_)
    · replace ok := ok_t c6 ok
      refine g_pick (lv' := []) ?_ [] rfl
      exact t_X5_isShort_21 C K _ ok
    · replace ok := ok_f c6 ok
      refine g_iconst (v := 1) C dX5_isShort_17 (by decide) ?_
      refine g_goto (tgt := 22) C dX5_isShort_18 (by decide) ?_
      refine g_pick (lv' := []) ?_ [] rfl
      exact t_X5_isShort_22 C K _ _ ok
theorem c_X5_isShort {l : Launch} {ε : Et} {σ : St} {z : Rs} {x1 : Int32} (e : f_X5_isShort x1 σ = some z) : RM l ε yX5_isShort cX5_isShort 2 (some .boolean) 1 0 0 [.ref (ad ε 19), .int x1] (WX ε σ) (PI ε z) := RM.of (by decide) (Nat.le_of_ble_eq_true rfl) (fun κ C K => tf_X5_isShort C K x1 σ e)
def b_X5_readsIn_24 (k4 : Int32 → Int32 → Int32 → St → Option Rs) (x1 : Int32) (x2 : Int32) (x3 : Int32) (σ : St) : Option Rs := nx (x3 + (1 : Int32)) (fun y1 => k4 x1 x2 y1 σ)
set_option maxRecDepth 10000 in
set_option maxHeartbeats 1000000 in
theorem t_X5_readsIn_24 {ε : Et} {κ : Kt} {z : Rs} (C : Cx ε κ cX5_readsIn 4 RX5 2) (K : Ret ε κ cX5_readsIn (some .int) 0 0 (PI ε z)) (k4 : Int32 → Int32 → Int32 → St → Option Rs) (g4 : ∀ (x1 : Int32) (x2 : Int32) (x3 : Int32) (σ : St), k4 x1 x2 x3 σ = some z → G ε κ 0 0 4 [(0, .ref (ad ε 19)), (1, .int x1), (2, .int x2), (3, .int x3)] [] (WX ε σ)) (x1 : Int32) (x2 : Int32) (x3 : Int32) (σ : St) (ok : b_X5_readsIn_24 k4 x1 x2 x3 σ = some z) : G ε κ 0 0 24 [(0, .ref (ad ε 19)), (1, .int x1), (2, .int x2), (3, .int x3)] [] (WX ε σ) := by
  unfold b_X5_readsIn_24 at ok
  obtain ⟨y1, e2⟩ : ∃ y : Int32, y = (x3 + (1 : Int32)) := ⟨_, rfl⟩
  replace ok := nx_ok ok y1 e2
  refine g_iinc (v := y1) C [(3, .int y1), (0, .ref (ad ε 19)), (1, .int x1), (2, .int x2)] dX5_readsIn_24 3 rfl (by rw [e2]; rfl) (by decide) rfl ?_
  refine g_goto (tgt := 4) C dX5_readsIn_27 (by decide) ?_
  refine g_pick (lv' := [(0, .ref (ad ε 19)), (1, .int x1), (2, .int x2), (3, .int y1)]) ?_ [1, 2, 3, 0] rfl
  exact g4 _ _ _ _ ok
def b_X5_readsIn_4 (k4 : Int32 → Int32 → Int32 → St → Option Rs) (x1 : Int32) (x2 : Int32) (x3 : Int32) (σ : St) : Option Rs := (if (σ.1 19 7) ≤ x3 then some (x2, σ) else bd (f_X5_binOf x3 σ) (fun r2 s3 => (if r2 = x1 then nx (x2 + (1 : Int32)) (fun y6 => b_X5_readsIn_24 k4 x1 y6 x3 s3) else b_X5_readsIn_24 k4 x1 x2 x3 s3)))
set_option maxRecDepth 10000 in
set_option maxHeartbeats 1000000 in
theorem t_X5_readsIn_4 {ε : Et} {κ : Kt} {z : Rs} (C : Cx ε κ cX5_readsIn 4 RX5 2) (K : Ret ε κ cX5_readsIn (some .int) 0 0 (PI ε z)) (k4 : Int32 → Int32 → Int32 → St → Option Rs) (g4 : ∀ (x1 : Int32) (x2 : Int32) (x3 : Int32) (σ : St), k4 x1 x2 x3 σ = some z → G ε κ 0 0 4 [(0, .ref (ad ε 19)), (1, .int x1), (2, .int x2), (3, .int x3)] [] (WX ε σ)) (x1 : Int32) (x2 : Int32) (x3 : Int32) (σ : St) (ok : b_X5_readsIn_4 k4 x1 x2 x3 σ = some z) : G ε κ 0 0 4 [(0, .ref (ad ε 19)), (1, .int x1), (2, .int x2), (3, .int x3)] [] (WX ε σ) := by
  unfold b_X5_readsIn_4 at ok
  refine g_iload_n C dX5_readsIn_4 rfl 3 rfl ?_
  refine g_aload_n C dX5_readsIn_5 rfl 0 rfl ?_
  refine q_X5_43 C dX5_readsIn_6 ?_
  refine g_icmp_ge (tgt := 30) C dX5_readsIn_9 (by decide) (fun c1 => ?_) (fun c1 => ?_)
  · replace ok := ok_t c1 ok
    refine g_iload_n C dX5_readsIn_30 rfl 2 rfl ?_
    exact K.2 .int _ _ _ _ rfl dX5_readsIn_31 rfl (pi_ok ok)
  · replace ok := ok_f c1 ok
    refine g_aload_n C dX5_readsIn_12 rfl 0 rfl ?_
    refine g_iload_n C dX5_readsIn_13 rfl 3 rfl ?_
    obtain ⟨r2, s3, e4, ok⟩ := bd_ok ok
    refine q_cI C [.int x3] (c_X5_binOf e4) wv_X5_75 (by decide) (lt_N (by decide)) wx_X5 rfl rfl rfl (Nat.le_of_ble_eq_true rfl) dX5_readsIn_14 ?_
    refine g_iload_n C dX5_readsIn_17 rfl 1 rfl ?_
    refine g_icmp_ne (tgt := 24) C dX5_readsIn_18 (by decide) (fun c5 => ?_) (fun c5 => ?_)
    · replace ok := ok_f c5 ok
      exact t_X5_readsIn_24 C K k4 g4 _ _ _ _ ok
    · replace ok := ok_t c5 ok
      obtain ⟨y6, e7⟩ : ∃ y : Int32, y = (x2 + (1 : Int32)) := ⟨_, rfl⟩
      replace ok := nx_ok ok y6 e7
      refine g_iinc (v := y6) C [(2, .int y6), (0, .ref (ad ε 19)), (1, .int x1), (3, .int x3)] dX5_readsIn_21 2 rfl (by rw [e7]; rfl) (by decide) rfl ?_
      refine g_pick (lv' := [(0, .ref (ad ε 19)), (1, .int x1), (2, .int y6), (3, .int x3)]) ?_ [1, 2, 0, 3] rfl
      exact t_X5_readsIn_24 C K k4 g4 _ _ _ _ ok
def l_X5_readsIn_4 : Nat → Int32 → Int32 → Int32 → St → Option Rs
  | 0 => fun _ _ _ _ => none
  | n + 1 => fun x1 x2 x3 σ => b_X5_readsIn_4 (l_X5_readsIn_4 n) x1 x2 x3 σ
theorem tl_X5_readsIn_4 {ε : Et} {κ : Kt} {z : Rs} (C : Cx ε κ cX5_readsIn 4 RX5 2) (K : Ret ε κ cX5_readsIn (some .int) 0 0 (PI ε z)) : ∀ (n : Nat) (x1 : Int32) (x2 : Int32) (x3 : Int32) (σ : St), l_X5_readsIn_4 n x1 x2 x3 σ = some z → G ε κ 0 0 4 [(0, .ref (ad ε 19)), (1, .int x1), (2, .int x2), (3, .int x3)] [] (WX ε σ) := by
  intro n
  induction n with
  | zero =>
    intro x1 x2 x3 σ ok
    cases ok
  | succ n ih =>
    intro x1 x2 x3 σ ok
    exact t_X5_readsIn_4 C K (l_X5_readsIn_4 n) ih x1 x2 x3 σ ok
def f_X5_readsIn (x1 : Int32) (σ : St) : Option Rs := l_X5_readsIn_4 FU x1 (0 : Int32) (0 : Int32) σ
set_option maxRecDepth 10000 in
set_option maxHeartbeats 1000000 in
theorem tf_X5_readsIn {ε : Et} {κ : Kt} {z : Rs} (C : Cx ε κ cX5_readsIn 4 RX5 2) (K : Ret ε κ cX5_readsIn (some .int) 0 0 (PI ε z)) (x1 : Int32) (σ : St) (ok : f_X5_readsIn x1 σ = some z) : G ε κ 0 0 0 [(0, .ref (ad ε 19)), (1, .int x1)] [] (WX ε σ) := by
  unfold f_X5_readsIn at ok
  refine g_iconst (v := 0) C dX5_readsIn_0 (by decide) ?_
  refine g_istore_n C [(2, .int (0 : Int32)), (0, .ref (ad ε 19)), (1, .int x1)] dX5_readsIn_1 rfl (by decide) rfl ?_
  refine g_iconst (v := 0) C dX5_readsIn_2 (by decide) ?_
  refine g_istore_n C [(3, .int (0 : Int32)), (2, .int (0 : Int32)), (0, .ref (ad ε 19)), (1, .int x1)] dX5_readsIn_3 rfl (by decide) rfl ?_
  refine g_pick (lv' := [(0, .ref (ad ε 19)), (1, .int x1), (2, .int (0 : Int32)), (3, .int (0 : Int32))]) ?_ [2, 3, 1, 0] rfl
  exact tl_X5_readsIn_4 C K FU _ _ _ _ ok
theorem c_X5_readsIn {l : Launch} {ε : Et} {σ : St} {z : Rs} {x1 : Int32} (e : f_X5_readsIn x1 σ = some z) : RM l ε yX5_readsIn cX5_readsIn 4 (some .int) 2 0 0 [.ref (ad ε 19), .int x1] (WX ε σ) (PI ε z) := RM.of (by decide) (Nat.le_of_ble_eq_true rfl) (fun κ C K => tf_X5_readsIn C K x1 σ e)
def b_X5_shortReadsIn_32 (k4 : Int32 → Int32 → Int32 → St → Option Rs) (x1 : Int32) (x2 : Int32) (x3 : Int32) (σ : St) : Option Rs := nx (x3 + (1 : Int32)) (fun y1 => k4 x1 x2 y1 σ)
set_option maxRecDepth 10000 in
set_option maxHeartbeats 1000000 in
theorem t_X5_shortReadsIn_32 {ε : Et} {κ : Kt} {z : Rs} (C : Cx ε κ cX5_shortReadsIn 4 RX5 2) (K : Ret ε κ cX5_shortReadsIn (some .int) 0 0 (PI ε z)) (k4 : Int32 → Int32 → Int32 → St → Option Rs) (g4 : ∀ (x1 : Int32) (x2 : Int32) (x3 : Int32) (σ : St), k4 x1 x2 x3 σ = some z → G ε κ 0 0 4 [(0, .ref (ad ε 19)), (1, .int x1), (2, .int x2), (3, .int x3)] [] (WX ε σ)) (x1 : Int32) (x2 : Int32) (x3 : Int32) (σ : St) (ok : b_X5_shortReadsIn_32 k4 x1 x2 x3 σ = some z) : G ε κ 0 0 32 [(0, .ref (ad ε 19)), (1, .int x1), (2, .int x2), (3, .int x3)] [] (WX ε σ) := by
  unfold b_X5_shortReadsIn_32 at ok
  obtain ⟨y1, e2⟩ : ∃ y : Int32, y = (x3 + (1 : Int32)) := ⟨_, rfl⟩
  replace ok := nx_ok ok y1 e2
  refine g_iinc (v := y1) C [(3, .int y1), (0, .ref (ad ε 19)), (1, .int x1), (2, .int x2)] dX5_shortReadsIn_32 3 rfl (by rw [e2]; rfl) (by decide) rfl ?_
  refine g_goto (tgt := 4) C dX5_shortReadsIn_35 (by decide) ?_
  refine g_pick (lv' := [(0, .ref (ad ε 19)), (1, .int x1), (2, .int x2), (3, .int y1)]) ?_ [1, 2, 3, 0] rfl
  exact g4 _ _ _ _ ok
def b_X5_shortReadsIn_4 (k4 : Int32 → Int32 → Int32 → St → Option Rs) (x1 : Int32) (x2 : Int32) (x3 : Int32) (σ : St) : Option Rs := (if (σ.1 19 7) ≤ x3 then some (x2, σ) else bd (f_X5_binOf x3 σ) (fun r2 s3 => (if r2 = x1 then bd (f_X5_isShort x3 s3) (fun r6 s7 => (if r6 = 0 then b_X5_shortReadsIn_32 k4 x1 x2 x3 s7 else nx (x2 + (1 : Int32)) (fun y10 => b_X5_shortReadsIn_32 k4 x1 y10 x3 s7))) else b_X5_shortReadsIn_32 k4 x1 x2 x3 s3)))
set_option maxRecDepth 10000 in
set_option maxHeartbeats 1000000 in
theorem t_X5_shortReadsIn_4 {ε : Et} {κ : Kt} {z : Rs} (C : Cx ε κ cX5_shortReadsIn 4 RX5 2) (K : Ret ε κ cX5_shortReadsIn (some .int) 0 0 (PI ε z)) (k4 : Int32 → Int32 → Int32 → St → Option Rs) (g4 : ∀ (x1 : Int32) (x2 : Int32) (x3 : Int32) (σ : St), k4 x1 x2 x3 σ = some z → G ε κ 0 0 4 [(0, .ref (ad ε 19)), (1, .int x1), (2, .int x2), (3, .int x3)] [] (WX ε σ)) (x1 : Int32) (x2 : Int32) (x3 : Int32) (σ : St) (ok : b_X5_shortReadsIn_4 k4 x1 x2 x3 σ = some z) : G ε κ 0 0 4 [(0, .ref (ad ε 19)), (1, .int x1), (2, .int x2), (3, .int x3)] [] (WX ε σ) := by
  unfold b_X5_shortReadsIn_4 at ok
  refine g_iload_n C dX5_shortReadsIn_4 rfl 3 rfl ?_
  refine g_aload_n C dX5_shortReadsIn_5 rfl 0 rfl ?_
  refine q_X5_43 C dX5_shortReadsIn_6 ?_
  refine g_icmp_ge (tgt := 38) C dX5_shortReadsIn_9 (by decide) (fun c1 => ?_) (fun c1 => ?_)
  · replace ok := ok_t c1 ok
    refine g_iload_n C dX5_shortReadsIn_38 rfl 2 rfl ?_
    exact K.2 .int _ _ _ _ rfl dX5_shortReadsIn_39 rfl (pi_ok ok)
  · replace ok := ok_f c1 ok
    refine g_aload_n C dX5_shortReadsIn_12 rfl 0 rfl ?_
    refine g_iload_n C dX5_shortReadsIn_13 rfl 3 rfl ?_
    obtain ⟨r2, s3, e4, ok⟩ := bd_ok ok
    refine q_cI C [.int x3] (c_X5_binOf e4) wv_X5_75 (by decide) (lt_N (by decide)) wx_X5 rfl rfl rfl (Nat.le_of_ble_eq_true rfl) dX5_shortReadsIn_14 ?_
    refine g_iload_n C dX5_shortReadsIn_17 rfl 1 rfl ?_
    refine g_icmp_ne (tgt := 32) C dX5_shortReadsIn_18 (by decide) (fun c5 => ?_) (fun c5 => ?_)
    · replace ok := ok_f c5 ok
      exact t_X5_shortReadsIn_32 C K k4 g4 _ _ _ _ ok
    · replace ok := ok_t c5 ok
      refine g_aload_n C dX5_shortReadsIn_21 rfl 0 rfl ?_
      refine g_iload_n C dX5_shortReadsIn_22 rfl 3 rfl ?_
      obtain ⟨r6, s7, e8, ok⟩ := bd_ok ok
      refine q_cI C [.int x3] (c_X5_isShort e8) wv_X5_79 (by decide) (lt_N (by decide)) wx_X5 rfl rfl rfl (Nat.le_of_ble_eq_true rfl) dX5_shortReadsIn_23 ?_
      refine g_if_eq (tgt := 32) C dX5_shortReadsIn_26 (by decide) (fun c9 => ?_) (fun c9 => ?_)
      · replace ok := ok_t c9 ok
        exact t_X5_shortReadsIn_32 C K k4 g4 _ _ _ _ ok
      · replace ok := ok_f c9 ok
        obtain ⟨y10, e11⟩ : ∃ y : Int32, y = (x2 + (1 : Int32)) := ⟨_, rfl⟩
        replace ok := nx_ok ok y10 e11
        refine g_iinc (v := y10) C [(2, .int y10), (0, .ref (ad ε 19)), (1, .int x1), (3, .int x3)] dX5_shortReadsIn_29 2 rfl (by rw [e11]; rfl) (by decide) rfl ?_
        refine g_pick (lv' := [(0, .ref (ad ε 19)), (1, .int x1), (2, .int y10), (3, .int x3)]) ?_ [1, 2, 0, 3] rfl
        exact t_X5_shortReadsIn_32 C K k4 g4 _ _ _ _ ok
def l_X5_shortReadsIn_4 : Nat → Int32 → Int32 → Int32 → St → Option Rs
  | 0 => fun _ _ _ _ => none
  | n + 1 => fun x1 x2 x3 σ => b_X5_shortReadsIn_4 (l_X5_shortReadsIn_4 n) x1 x2 x3 σ
theorem tl_X5_shortReadsIn_4 {ε : Et} {κ : Kt} {z : Rs} (C : Cx ε κ cX5_shortReadsIn 4 RX5 2) (K : Ret ε κ cX5_shortReadsIn (some .int) 0 0 (PI ε z)) : ∀ (n : Nat) (x1 : Int32) (x2 : Int32) (x3 : Int32) (σ : St), l_X5_shortReadsIn_4 n x1 x2 x3 σ = some z → G ε κ 0 0 4 [(0, .ref (ad ε 19)), (1, .int x1), (2, .int x2), (3, .int x3)] [] (WX ε σ) := by
  intro n
  induction n with
  | zero =>
    intro x1 x2 x3 σ ok
    cases ok
  | succ n ih =>
    intro x1 x2 x3 σ ok
    exact t_X5_shortReadsIn_4 C K (l_X5_shortReadsIn_4 n) ih x1 x2 x3 σ ok
def f_X5_shortReadsIn (x1 : Int32) (σ : St) : Option Rs := l_X5_shortReadsIn_4 FU x1 (0 : Int32) (0 : Int32) σ
set_option maxRecDepth 10000 in
set_option maxHeartbeats 1000000 in
theorem tf_X5_shortReadsIn {ε : Et} {κ : Kt} {z : Rs} (C : Cx ε κ cX5_shortReadsIn 4 RX5 2) (K : Ret ε κ cX5_shortReadsIn (some .int) 0 0 (PI ε z)) (x1 : Int32) (σ : St) (ok : f_X5_shortReadsIn x1 σ = some z) : G ε κ 0 0 0 [(0, .ref (ad ε 19)), (1, .int x1)] [] (WX ε σ) := by
  unfold f_X5_shortReadsIn at ok
  refine g_iconst (v := 0) C dX5_shortReadsIn_0 (by decide) ?_
  refine g_istore_n C [(2, .int (0 : Int32)), (0, .ref (ad ε 19)), (1, .int x1)] dX5_shortReadsIn_1 rfl (by decide) rfl ?_
  refine g_iconst (v := 0) C dX5_shortReadsIn_2 (by decide) ?_
  refine g_istore_n C [(3, .int (0 : Int32)), (2, .int (0 : Int32)), (0, .ref (ad ε 19)), (1, .int x1)] dX5_shortReadsIn_3 rfl (by decide) rfl ?_
  refine g_pick (lv' := [(0, .ref (ad ε 19)), (1, .int x1), (2, .int (0 : Int32)), (3, .int (0 : Int32))]) ?_ [2, 3, 1, 0] rfl
  exact tl_X5_shortReadsIn_4 C K FU _ _ _ _ ok
theorem c_X5_shortReadsIn {l : Launch} {ε : Et} {σ : St} {z : Rs} {x1 : Int32} (e : f_X5_shortReadsIn x1 σ = some z) : RM l ε yX5_shortReadsIn cX5_shortReadsIn 4 (some .int) 2 0 0 [.ref (ad ε 19), .int x1] (WX ε σ) (PI ε z) := RM.of (by decide) (Nat.le_of_ble_eq_true rfl) (fun κ C K => tf_X5_shortReadsIn C K x1 σ e)
def b_X5_worthOf_18 (t0 : Int32) (σ : St) : Option Rs := some (t0, σ)
set_option maxRecDepth 10000 in
set_option maxHeartbeats 1000000 in
theorem t_X5_worthOf_18 {ε : Et} {κ : Kt} {z : Rs} (C : Cx ε κ cX5_worthOf 2 RX5 1) (K : Ret ε κ cX5_worthOf (some .int) 0 0 (PI ε z)) (t0 : Int32) (σ : St) (ok : b_X5_worthOf_18 t0 σ = some z) : G ε κ 0 0 18 [] [.int t0] (WX ε σ) := by
  unfold b_X5_worthOf_18 at ok
  exact K.2 .int _ _ _ _ rfl dX5_worthOf_18 rfl (pi_ok ok)
def f_X5_worthOf (x1 : Int32) (σ : St) : Option Rs := bd (f_X5_has x1 σ) (fun r1 s2 => (if r1 = 0 then b_X5_worthOf_18 (0 : Int32) s2 else gd (inb x1 (ln 23)) (b_X5_worthOf_18 (s2.2.1 23 x1.toNatClampNeg) s2)))
set_option maxRecDepth 10000 in
set_option maxHeartbeats 1000000 in
theorem tf_X5_worthOf {ε : Et} {κ : Kt} {z : Rs} (C : Cx ε κ cX5_worthOf 2 RX5 1) (K : Ret ε κ cX5_worthOf (some .int) 0 0 (PI ε z)) (x1 : Int32) (σ : St) (ok : f_X5_worthOf x1 σ = some z) : G ε κ 0 0 0 [(0, .ref (ad ε 19)), (1, .int x1)] [] (WX ε σ) := by
  unfold f_X5_worthOf at ok
  refine g_aload_n C dX5_worthOf_0 rfl 0 rfl ?_
  refine g_iload_n C dX5_worthOf_1 rfl 1 rfl ?_
  obtain ⟨r1, s2, e3, ok⟩ := bd_ok ok
  refine q_cI C [.int x1] (c_X5_has e3) wv_X5_71 (by decide) (lt_N (by decide)) wx_X5 rfl rfl rfl (Nat.le_of_ble_eq_true rfl) dX5_worthOf_2 ?_
  refine g_if_eq (tgt := 17) C dX5_worthOf_5 (by decide) (fun c4 => ?_) (fun c4 => ?_)
  · replace ok := ok_t c4 ok
    refine g_iconst (v := 0) C dX5_worthOf_17 (by decide) ?_
    refine g_pick (lv' := []) ?_ [] rfl
    exact t_X5_worthOf_18 C K _ _ ok
  · replace ok := ok_f c4 ok
    refine g_aload_n C dX5_worthOf_8 rfl 0 rfl ?_
    refine q_X5_21 C dX5_worthOf_9 ?_
    refine g_iload_n C dX5_worthOf_12 rfl 1 rfl ?_
    obtain ⟨h5, ok⟩ := gd_ok ok
    refine q_ald C ai_23 h5 dX5_worthOf_13 ?_
    refine g_goto (tgt := 18) C dX5_worthOf_14 (by decide) ?_
    refine g_pick (lv' := []) ?_ [] rfl
    exact t_X5_worthOf_18 C K _ _ ok
theorem c_X5_worthOf {l : Launch} {ε : Et} {σ : St} {z : Rs} {x1 : Int32} (e : f_X5_worthOf x1 σ = some z) : RM l ε yX5_worthOf cX5_worthOf 2 (some .int) 1 0 0 [.ref (ad ε 19), .int x1] (WX ε σ) (PI ε z) := RM.of (by decide) (Nat.le_of_ble_eq_true rfl) (fun κ C K => tf_X5_worthOf C K x1 σ e)
def b_X5_bestOf_50 (k5 : Int32 → Int32 → Int32 → Int32 → St → Option Rs) (x1 : Int32) (x2 : Int32) (x3 : Int32) (x4 : Int32) (σ : St) : Option Rs := nx (x4 + (1 : Int32)) (fun y1 => k5 x1 x2 x3 y1 σ)
set_option maxRecDepth 10000 in
set_option maxHeartbeats 1000000 in
theorem t_X5_bestOf_50 {ε : Et} {κ : Kt} {z : Rs} (C : Cx ε κ cX5_bestOf 5 RX5 2) (K : Ret ε κ cX5_bestOf (some .int) 0 0 (PI ε z)) (k5 : Int32 → Int32 → Int32 → Int32 → St → Option Rs) (g5 : ∀ (x1 : Int32) (x2 : Int32) (x3 : Int32) (x4 : Int32) (σ : St), k5 x1 x2 x3 x4 σ = some z → G ε κ 0 0 5 [(0, .ref (ad ε 19)), (1, .int x1), (2, .int x2), (3, .int x3), (4, .int x4)] [] (WX ε σ)) (x1 : Int32) (x2 : Int32) (x3 : Int32) (x4 : Int32) (σ : St) (ok : b_X5_bestOf_50 k5 x1 x2 x3 x4 σ = some z) : G ε κ 0 0 50 [(0, .ref (ad ε 19)), (1, .int x1), (2, .int x2), (3, .int x3), (4, .int x4)] [] (WX ε σ) := by
  unfold b_X5_bestOf_50 at ok
  obtain ⟨y1, e2⟩ : ∃ y : Int32, y = (x4 + (1 : Int32)) := ⟨_, rfl⟩
  replace ok := nx_ok ok y1 e2
  refine g_iinc (v := y1) C [(4, .int y1), (0, .ref (ad ε 19)), (1, .int x1), (2, .int x2), (3, .int x3)] dX5_bestOf_50 4 rfl (by rw [e2]; rfl) (by decide) rfl ?_
  refine g_goto (tgt := 5) C dX5_bestOf_53 (by decide) ?_
  refine g_pick (lv' := [(0, .ref (ad ε 19)), (1, .int x1), (2, .int x2), (3, .int x3), (4, .int y1)]) ?_ [1, 2, 3, 4, 0] rfl
  exact g5 _ _ _ _ _ ok
def b_X5_bestOf_47 (k5 : Int32 → Int32 → Int32 → Int32 → St → Option Rs) (x1 : Int32) (x2 : Int32) (x4 : Int32) (σ : St) : Option Rs := b_X5_bestOf_50 k5 x1 x2 x4 x4 σ
set_option maxRecDepth 10000 in
set_option maxHeartbeats 1000000 in
theorem t_X5_bestOf_47 {ε : Et} {κ : Kt} {z : Rs} (C : Cx ε κ cX5_bestOf 5 RX5 2) (K : Ret ε κ cX5_bestOf (some .int) 0 0 (PI ε z)) (k5 : Int32 → Int32 → Int32 → Int32 → St → Option Rs) (g5 : ∀ (x1 : Int32) (x2 : Int32) (x3 : Int32) (x4 : Int32) (σ : St), k5 x1 x2 x3 x4 σ = some z → G ε κ 0 0 5 [(0, .ref (ad ε 19)), (1, .int x1), (2, .int x2), (3, .int x3), (4, .int x4)] [] (WX ε σ)) (x1 : Int32) (x2 : Int32) (x4 : Int32) (σ : St) (ok : b_X5_bestOf_47 k5 x1 x2 x4 σ = some z) : G ε κ 0 0 47 [(0, .ref (ad ε 19)), (1, .int x1), (2, .int x2), (4, .int x4)] [] (WX ε σ) := by
  unfold b_X5_bestOf_47 at ok
  refine g_iload C dX5_bestOf_47 3 rfl ?_
  refine g_istore_n C [(3, .int x4), (0, .ref (ad ε 19)), (1, .int x1), (2, .int x2), (4, .int x4)] dX5_bestOf_49 rfl (by decide) rfl ?_
  refine g_pick (lv' := [(0, .ref (ad ε 19)), (1, .int x1), (2, .int x2), (3, .int x4), (4, .int x4)]) ?_ [1, 2, 3, 0, 4] rfl
  exact t_X5_bestOf_50 C K k5 g5 _ _ _ _ _ ok
def b_X5_bestOf_5 (k5 : Int32 → Int32 → Int32 → Int32 → St → Option Rs) (x1 : Int32) (x2 : Int32) (x3 : Int32) (x4 : Int32) (σ : St) : Option Rs := (if (σ.1 19 7) ≤ x4 then some (x3, σ) else bd (f_X1_isMember x4 x1 x2 σ) (fun r2 s3 => (if r2 = 0 then b_X5_bestOf_50 k5 x1 x2 x3 x4 s3 else (if x3 = (-1 : Int32) then b_X5_bestOf_47 k5 x1 x2 x4 s3 else bd (f_X5_worthOf x4 s3) (fun r7 s8 => bd (f_X5_worthOf x3 s8) (fun r10 s11 => (if r7 ≤ r10 then b_X5_bestOf_50 k5 x1 x2 x3 x4 s11 else b_X5_bestOf_47 k5 x1 x2 x4 s11)))))))
set_option maxRecDepth 10000 in
set_option maxHeartbeats 1000000 in
theorem t_X5_bestOf_5 {ε : Et} {κ : Kt} {z : Rs} (C : Cx ε κ cX5_bestOf 5 RX5 2) (K : Ret ε κ cX5_bestOf (some .int) 0 0 (PI ε z)) (k5 : Int32 → Int32 → Int32 → Int32 → St → Option Rs) (g5 : ∀ (x1 : Int32) (x2 : Int32) (x3 : Int32) (x4 : Int32) (σ : St), k5 x1 x2 x3 x4 σ = some z → G ε κ 0 0 5 [(0, .ref (ad ε 19)), (1, .int x1), (2, .int x2), (3, .int x3), (4, .int x4)] [] (WX ε σ)) (x1 : Int32) (x2 : Int32) (x3 : Int32) (x4 : Int32) (σ : St) (ok : b_X5_bestOf_5 k5 x1 x2 x3 x4 σ = some z) : G ε κ 0 0 5 [(0, .ref (ad ε 19)), (1, .int x1), (2, .int x2), (3, .int x3), (4, .int x4)] [] (WX ε σ) := by
  unfold b_X5_bestOf_5 at ok
  refine g_iload C dX5_bestOf_5 4 rfl ?_
  refine g_aload_n C dX5_bestOf_7 rfl 0 rfl ?_
  refine q_X5_43 C dX5_bestOf_8 ?_
  refine g_icmp_ge (tgt := 56) C dX5_bestOf_11 (by decide) (fun c1 => ?_) (fun c1 => ?_)
  · replace ok := ok_t c1 ok
    refine g_iload_n C dX5_bestOf_56 rfl 3 rfl ?_
    exact K.2 .int _ _ _ _ rfl dX5_bestOf_57 rfl (pi_ok ok)
  · replace ok := ok_f c1 ok
    refine g_aload_n C dX5_bestOf_14 rfl 0 rfl ?_
    refine q_X5_31 C dX5_bestOf_15 ?_
    refine g_iload C dX5_bestOf_18 4 rfl ?_
    refine g_iload_n C dX5_bestOf_20 rfl 1 rfl ?_
    refine g_iload_n C dX5_bestOf_21 rfl 2 rfl ?_
    obtain ⟨r2, s3, e4, ok⟩ := bd_ok ok
    refine q_cI C [.int x4, .int x1, .int x2] (c_X1_isMember e4) wv_X5_82 (by decide) (lt_N (by decide)) wx_X1 rfl rfl rfl (Nat.le_of_ble_eq_true rfl) dX5_bestOf_22 ?_
    refine g_if_eq (tgt := 50) C dX5_bestOf_25 (by decide) (fun c5 => ?_) (fun c5 => ?_)
    · replace ok := ok_t c5 ok
      exact t_X5_bestOf_50 C K k5 g5 _ _ _ _ _ ok
    · replace ok := ok_f c5 ok
      refine g_iload_n C dX5_bestOf_28 rfl 3 rfl ?_
      refine g_iconst (v := -1) C dX5_bestOf_29 (by decide) ?_
      refine g_icmp_eq (tgt := 47) C dX5_bestOf_30 (by decide) (fun c6 => ?_) (fun c6 => ?_)
      · replace ok := ok_t c6 ok
        refine g_pick (lv' := [(0, .ref (ad ε 19)), (1, .int x1), (2, .int x2), (4, .int x4)]) ?_ [0, 1, 2, 4] rfl
        exact t_X5_bestOf_47 C K k5 g5 _ _ _ _ ok
      · replace ok := ok_f c6 ok
        refine g_aload_n C dX5_bestOf_33 rfl 0 rfl ?_
        refine g_iload C dX5_bestOf_34 4 rfl ?_
        obtain ⟨r7, s8, e9, ok⟩ := bd_ok ok
        refine q_cI C [.int x4] (c_X5_worthOf e9) wv_X5_86 (by decide) (lt_N (by decide)) wx_X5 rfl rfl rfl (Nat.le_of_ble_eq_true rfl) dX5_bestOf_36 ?_
        refine g_aload_n C dX5_bestOf_39 rfl 0 rfl ?_
        refine g_iload_n C dX5_bestOf_40 rfl 3 rfl ?_
        obtain ⟨r10, s11, e12, ok⟩ := bd_ok ok
        refine q_cI C [.int x3] (c_X5_worthOf e12) wv_X5_86 (by decide) (lt_N (by decide)) wx_X5 rfl rfl rfl (Nat.le_of_ble_eq_true rfl) dX5_bestOf_41 ?_
        refine g_icmp_le (tgt := 50) C dX5_bestOf_44 (by decide) (fun c13 => ?_) (fun c13 => ?_)
        · replace ok := ok_t c13 ok
          exact t_X5_bestOf_50 C K k5 g5 _ _ _ _ _ ok
        · replace ok := ok_f c13 ok
          refine g_pick (lv' := [(0, .ref (ad ε 19)), (1, .int x1), (2, .int x2), (4, .int x4)]) ?_ [0, 1, 2, 4] rfl
          exact t_X5_bestOf_47 C K k5 g5 _ _ _ _ ok
def l_X5_bestOf_5 : Nat → Int32 → Int32 → Int32 → Int32 → St → Option Rs
  | 0 => fun _ _ _ _ _ => none
  | n + 1 => fun x1 x2 x3 x4 σ => b_X5_bestOf_5 (l_X5_bestOf_5 n) x1 x2 x3 x4 σ
theorem tl_X5_bestOf_5 {ε : Et} {κ : Kt} {z : Rs} (C : Cx ε κ cX5_bestOf 5 RX5 2) (K : Ret ε κ cX5_bestOf (some .int) 0 0 (PI ε z)) : ∀ (n : Nat) (x1 : Int32) (x2 : Int32) (x3 : Int32) (x4 : Int32) (σ : St), l_X5_bestOf_5 n x1 x2 x3 x4 σ = some z → G ε κ 0 0 5 [(0, .ref (ad ε 19)), (1, .int x1), (2, .int x2), (3, .int x3), (4, .int x4)] [] (WX ε σ) := by
  intro n
  induction n with
  | zero =>
    intro x1 x2 x3 x4 σ ok
    cases ok
  | succ n ih =>
    intro x1 x2 x3 x4 σ ok
    exact t_X5_bestOf_5 C K (l_X5_bestOf_5 n) ih x1 x2 x3 x4 σ ok
def f_X5_bestOf (x1 : Int32) (x2 : Int32) (σ : St) : Option Rs := l_X5_bestOf_5 FU x1 x2 (-1 : Int32) (0 : Int32) σ
set_option maxRecDepth 10000 in
set_option maxHeartbeats 1000000 in
theorem tf_X5_bestOf {ε : Et} {κ : Kt} {z : Rs} (C : Cx ε κ cX5_bestOf 5 RX5 2) (K : Ret ε κ cX5_bestOf (some .int) 0 0 (PI ε z)) (x1 : Int32) (x2 : Int32) (σ : St) (ok : f_X5_bestOf x1 x2 σ = some z) : G ε κ 0 0 0 [(0, .ref (ad ε 19)), (1, .int x1), (2, .int x2)] [] (WX ε σ) := by
  unfold f_X5_bestOf at ok
  refine g_iconst (v := -1) C dX5_bestOf_0 (by decide) ?_
  refine g_istore_n C [(3, .int (-1 : Int32)), (0, .ref (ad ε 19)), (1, .int x1), (2, .int x2)] dX5_bestOf_1 rfl (by decide) rfl ?_
  refine g_iconst (v := 0) C dX5_bestOf_2 (by decide) ?_
  refine g_istore C [(4, .int (0 : Int32)), (3, .int (-1 : Int32)), (0, .ref (ad ε 19)), (1, .int x1), (2, .int x2)] dX5_bestOf_3 (by decide) rfl ?_
  refine g_pick (lv' := [(0, .ref (ad ε 19)), (1, .int x1), (2, .int x2), (3, .int (-1 : Int32)), (4, .int (0 : Int32))]) ?_ [2, 3, 4, 1, 0] rfl
  exact tl_X5_bestOf_5 C K FU _ _ _ _ _ ok
theorem c_X5_bestOf {l : Launch} {ε : Et} {σ : St} {z : Rs} {x1 : Int32} {x2 : Int32} (e : f_X5_bestOf x1 x2 σ = some z) : RM l ε yX5_bestOf cX5_bestOf 5 (some .int) 2 0 0 [.ref (ad ε 19), .int x1, .int x2] (WX ε σ) (PI ε z) := RM.of (by decide) (Nat.le_of_ble_eq_true rfl) (fun κ C K => tf_X5_bestOf C K x1 x2 σ e)
def b_X5_isBest_33 (t0 : Int32) (σ : St) : Option Rs := gz t0 (some (t0, σ))
set_option maxRecDepth 10000 in
set_option maxHeartbeats 1000000 in
theorem t_X5_isBest_33 {ε : Et} {κ : Kt} {z : Rs} (C : Cx ε κ cX5_isBest 3 RX5 3) (K : Ret ε κ cX5_isBest (some .boolean) 0 0 (PI ε z)) (t0 : Int32) (σ : St) (ok : b_X5_isBest_33 t0 σ = some z) : G ε κ 0 0 33 [] [.int t0] (WX ε σ) := by
  unfold b_X5_isBest_33 at ok
  obtain ⟨z1, ok⟩ := gz_ok ok
  exact K.2 .boolean _ _ _ _ rfl dX5_isBest_33 (nar_b z1) (pi_ok ok)
def b_X5_isBest_32 (σ : St) : Option Rs := b_X5_isBest_33 (0 : Int32) σ
set_option maxRecDepth 10000 in
set_option maxHeartbeats 1000000 in
theorem t_X5_isBest_32 {ε : Et} {κ : Kt} {z : Rs} (C : Cx ε κ cX5_isBest 3 RX5 3) (K : Ret ε κ cX5_isBest (some .boolean) 0 0 (PI ε z)) (σ : St) (ok : b_X5_isBest_32 σ = some z) : G ε κ 0 0 32 [] [] (WX ε σ) := by
  unfold b_X5_isBest_32 at ok
  refine g_iconst (v := 0) C dX5_isBest_32 (by decide) ?_
  exact t_X5_isBest_33 C K _ _ ok
def f_X5_isBest (x1 : Int32) (σ : St) : Option Rs := bd (f_X1_groupOf x1 σ) (fun r1 s2 => (if r1 = (-1 : Int32) then b_X5_isBest_32 s2 else bd (f_X5_binOf x1 s2) (fun r5 s6 => bd (f_X5_bestOf r5 r1 s6) (fun r8 s9 => (if r8 = x1 then b_X5_isBest_33 (1 : Int32) s9 else b_X5_isBest_32 s9)))))
set_option maxRecDepth 10000 in
set_option maxHeartbeats 1000000 in
theorem tf_X5_isBest {ε : Et} {κ : Kt} {z : Rs} (C : Cx ε κ cX5_isBest 3 RX5 3) (K : Ret ε κ cX5_isBest (some .boolean) 0 0 (PI ε z)) (x1 : Int32) (σ : St) (ok : f_X5_isBest x1 σ = some z) : G ε κ 0 0 0 [(0, .ref (ad ε 19)), (1, .int x1)] [] (WX ε σ) := by
  unfold f_X5_isBest at ok
  refine g_aload_n C dX5_isBest_0 rfl 0 rfl ?_
  refine q_X5_31 C dX5_isBest_1 ?_
  refine g_iload_n C dX5_isBest_4 rfl 1 rfl ?_
  obtain ⟨r1, s2, e3, ok⟩ := bd_ok ok
  refine q_cI C [.int x1] (c_X1_groupOf e3) wv_X5_89 (by decide) (lt_N (by decide)) wx_X1 rfl rfl rfl (Nat.le_of_ble_eq_true rfl) dX5_isBest_5 ?_
  refine g_istore_n C [(2, .int r1), (0, .ref (ad ε 19)), (1, .int x1)] dX5_isBest_8 rfl (by decide) rfl ?_
  refine g_iload_n C dX5_isBest_9 rfl 0 rfl ?_
  refine g_iconst (v := -1) C dX5_isBest_10 (by decide) ?_
  refine g_icmp_eq (tgt := 32) C dX5_isBest_11 (by decide) (fun c4 => ?_) (fun c4 => ?_)
  · replace ok := ok_t c4 ok
    refine g_pick (lv' := []) ?_ [] rfl
    exact t_X5_isBest_32 C K _ ok
  · replace ok := ok_f c4 ok
    refine g_aload_n C dX5_isBest_14 rfl 1 rfl ?_
    refine g_aload_n C dX5_isBest_15 rfl 1 rfl ?_
    refine g_iload_n C dX5_isBest_16 rfl 2 rfl ?_
    obtain ⟨r5, s6, e7, ok⟩ := bd_ok ok
    refine q_cI C [.int x1] (c_X5_binOf e7) wv_X5_75 (by decide) (lt_N (by decide)) wx_X5 rfl rfl rfl (Nat.le_of_ble_eq_true rfl) dX5_isBest_17 ?_
    refine g_iload_n C dX5_isBest_20 rfl 0 rfl ?_
    obtain ⟨r8, s9, e10, ok⟩ := bd_ok ok
    refine q_cI C [.int r5, .int r1] (c_X5_bestOf e10) wv_X5_92 (by decide) (lt_N (by decide)) wx_X5 rfl rfl rfl (Nat.le_of_ble_eq_true rfl) dX5_isBest_21 ?_
    refine g_iload_n C dX5_isBest_24 rfl 2 rfl ?_
    refine g_icmp_ne (tgt := 32) C dX5_isBest_25 (by decide) (fun c11 => ?_) (fun c11 => ?_)
    · replace ok := ok_f c11 ok
      refine g_pick (lv' := []) ?_ [] rfl
      exact t_X5_isBest_32 C K _ ok
    · replace ok := ok_t c11 ok
      refine g_iconst (v := 1) C dX5_isBest_28 (by decide) ?_
      refine g_goto (tgt := 33) C dX5_isBest_29 (by decide) ?_
      refine g_pick (lv' := []) ?_ [] rfl
      exact t_X5_isBest_33 C K _ _ ok
theorem c_X5_isBest {l : Launch} {ε : Et} {σ : St} {z : Rs} {x1 : Int32} (e : f_X5_isBest x1 σ = some z) : RM l ε yX5_isBest cX5_isBest 3 (some .boolean) 3 0 0 [.ref (ad ε 19), .int x1] (WX ε σ) (PI ε z) := RM.of (by decide) (Nat.le_of_ble_eq_true rfl) (fun κ C K => tf_X5_isBest C K x1 σ e)
