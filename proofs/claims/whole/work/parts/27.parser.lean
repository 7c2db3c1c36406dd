def f_X2_enter (x1 : Int32) (σ : St) : Option Rs := nx (sS σ 5 2 x1) (fun s1 => nx (sS s1 5 3 (0 : Int32)) (fun s3 => some ((0 : Int32), s3)))
set_option maxRecDepth 10000 in
set_option maxHeartbeats 1000000 in
theorem tf_X2_enter {ε : Et} {κ : Kt} {z : Rs} (C : Cx ε κ cX2_enter 2 RX2 0) (K : Ret ε κ cX2_enter (some .int) 0 0 (PI ε z)) (x1 : Int32) (σ : St) (ok : f_X2_enter x1 σ = some z) : G ε κ 0 0 0 [(0, .ref (ad ε 5)), (1, .int x1)] [] (WX ε σ) := by
  unfold f_X2_enter at ok
  refine g_aload_n C dX2_enter_0 rfl 0 rfl ?_
  refine g_iload_n C dX2_enter_1 rfl 1 rfl ?_
  refine p_X2_49 C dX2_enter_2 (fun s1 e2 => ?_)
  replace ok := nx_ok ok s1 e2
  refine g_aload_n C dX2_enter_5 rfl 0 rfl ?_
  refine g_iconst (v := 0) C dX2_enter_6 (by decide) ?_
  refine p_X2_58 C dX2_enter_7 (fun s3 e4 => ?_)
  replace ok := nx_ok ok s3 e4
  refine g_iconst (v := 0) C dX2_enter_10 (by decide) ?_
  exact K.2 .int _ _ _ _ rfl dX2_enter_11 rfl (pi_ok ok)
theorem c_X2_enter {l : Launch} {ε : Et} {σ : St} {z : Rs} {x1 : Int32} (e : f_X2_enter x1 σ = some z) : RM l ε yX2_enter cX2_enter 2 (some .int) 0 0 0 [.ref (ad ε 5), .int x1] (WX ε σ) (PI ε z) := RM.of (by decide) (Nat.le_of_ble_eq_true rfl) (fun κ C K => tf_X2_enter C K x1 σ e)
def b_X2_stepMark_15 (t0 : Int32) (t1 : Int32) (σ : St) : Option Rs := (if t1 = t0 then bd (f_X3_count σ.2.2.2.1 σ) (fun r2 s3 => (if r2 < (60 : Int32) then bd (f_X3_begin s3.2.2.2.1 s3) (fun r6 s7 => bd (f_X2_enter (1 : Int32) s7) (fun r9 s10 => some (r9, s10))) else some ((4 : Int32), s3))) else some ((2 : Int32), σ))
set_option maxRecDepth 10000 in
set_option maxHeartbeats 1000000 in
theorem t_X2_stepMark_15 {ε : Et} {κ : Kt} {z : Rs} (C : Cx ε κ cX2_stepMark 2 RX2 2) (K : Ret ε κ cX2_stepMark (some .int) 0 0 (PI ε z)) (t0 : Int32) (t1 : Int32) (σ : St) (ok : b_X2_stepMark_15 t0 t1 σ = some z) : G ε κ 0 0 15 [(0, .ref (ad ε 5))] [.int t0, .int t1] (WX ε σ) := by
  unfold b_X2_stepMark_15 at ok
  refine g_icmp_eq (tgt := 20) C dX2_stepMark_15 (by decide) (fun c1 => ?_) (fun c1 => ?_)
  · replace ok := ok_t c1 ok
    refine g_aload_n C dX2_stepMark_20 rfl 0 rfl ?_
    refine q_X2_12 C dX2_stepMark_21 ?_
    obtain ⟨r2, s3, e4, ok⟩ := bd_ok ok
    refine q_cI C [] (c_X3_count e4) wv_X2_52 (by decide) (bs_lt σ.2.2.2.1) (wx_X3 σ.2.2.2.1) rfl rfl rfl (Nat.le_of_ble_eq_true rfl) dX2_stepMark_24 ?_
    refine g_bipush (v := 60) C dX2_stepMark_27 (by decide) ?_
    refine g_icmp_lt (tgt := 34) C dX2_stepMark_29 (by decide) (fun c5 => ?_) (fun c5 => ?_)
    · replace ok := ok_t c5 ok
      refine g_aload_n C dX2_stepMark_34 rfl 0 rfl ?_
      refine q_X2_12 C dX2_stepMark_35 ?_
      obtain ⟨r6, s7, e8, ok⟩ := bd_ok ok
      refine q_cV C [] (c_X3_begin e8) wv_X2_82 (by decide) (bs_lt s3.2.2.2.1) (wx_X3 s3.2.2.2.1) rfl rfl rfl (Nat.le_of_ble_eq_true rfl) dX2_stepMark_38 ?_
      refine g_aload_n C dX2_stepMark_41 rfl 0 rfl ?_
      refine g_iconst (v := 1) C dX2_stepMark_42 (by decide) ?_
      obtain ⟨r9, s10, e11, ok⟩ := bd_ok ok
      refine q_cI C [.int (1 : Int32)] (c_X2_enter e11) wv_X2_26 (by decide) (lt_N (by decide)) wx_X2 rfl rfl rfl (Nat.le_of_ble_eq_true rfl) dX2_stepMark_43 ?_
      exact K.2 .int _ _ _ _ rfl dX2_stepMark_46 rfl (pi_ok ok)
    · replace ok := ok_f c5 ok
      refine g_iconst (v := 4) C dX2_stepMark_32 (by decide) ?_
      exact K.2 .int _ _ _ _ rfl dX2_stepMark_33 rfl (pi_ok ok)
  · replace ok := ok_f c1 ok
    refine g_iconst (v := 2) C dX2_stepMark_18 (by decide) ?_
    exact K.2 .int _ _ _ _ rfl dX2_stepMark_19 rfl (pi_ok ok)
def f_X2_stepMark (x1 : Int32) (σ : St) : Option Rs := (if (σ.1 5 1) = 0 then b_X2_stepMark_15 (64 : Int32) x1 σ else b_X2_stepMark_15 (62 : Int32) x1 σ)
set_option maxRecDepth 10000 in
set_option maxHeartbeats 1000000 in
theorem tf_X2_stepMark {ε : Et} {κ : Kt} {z : Rs} (C : Cx ε κ cX2_stepMark 2 RX2 2) (K : Ret ε κ cX2_stepMark (some .int) 0 0 (PI ε z)) (x1 : Int32) (σ : St) (ok : f_X2_stepMark x1 σ = some z) : G ε κ 0 0 0 [(0, .ref (ad ε 5)), (1, .int x1)] [] (WX ε σ) := by
  unfold f_X2_stepMark at ok
  refine g_iload_n C dX2_stepMark_0 rfl 1 rfl ?_
  refine g_aload_n C dX2_stepMark_1 rfl 0 rfl ?_
  refine q_X2_18 C dX2_stepMark_2 ?_
  refine g_if_ne (tgt := 13) C dX2_stepMark_5 (by decide) (fun c1 => ?_) (fun c1 => ?_)
  · replace ok := ok_f c1 ok
    refine g_bipush (v := 62) C dX2_stepMark_13 (by decide) ?_
    refine g_pick (lv' := [(0, .ref (ad ε 5))]) ?_ [0] rfl
    exact t_X2_stepMark_15 C K _ _ _ ok
  · replace ok := ok_t c1 ok
    refine g_bipush (v := 64) C dX2_stepMark_8 (by decide) ?_
    refine g_goto (tgt := 15) C dX2_stepMark_10 (by decide) ?_
    refine g_pick (lv' := [(0, .ref (ad ε 5))]) ?_ [0] rfl
    exact t_X2_stepMark_15 C K _ _ _ ok
theorem c_X2_stepMark {l : Launch} {ε : Et} {σ : St} {z : Rs} {x1 : Int32} (e : f_X2_stepMark x1 σ = some z) : RM l ε yX2_stepMark cX2_stepMark 2 (some .int) 2 0 0 [.ref (ad ε 5), .int x1] (WX ε σ) (PI ε z) := RM.of (by decide) (Nat.le_of_ble_eq_true rfl) (fun κ C K => tf_X2_stepMark C K x1 σ e)
def f_X2_last (σ : St) : Option Rs := bd (f_X3_count σ.2.2.2.1 σ) (fun r1 s2 => some ((r1 - (1 : Int32)), s2))
set_option maxRecDepth 10000 in
set_option maxHeartbeats 1000000 in
theorem tf_X2_last {ε : Et} {κ : Kt} {z : Rs} (C : Cx ε κ cX2_last 1 RX2 1) (K : Ret ε κ cX2_last (some .int) 0 0 (PI ε z)) (σ : St) (ok : f_X2_last σ = some z) : G ε κ 0 0 0 [(0, .ref (ad ε 5))] [] (WX ε σ) := by
  unfold f_X2_last at ok
  refine g_aload_n C dX2_last_0 rfl 0 rfl ?_
  refine q_X2_12 C dX2_last_1 ?_
  obtain ⟨r1, s2, e3, ok⟩ := bd_ok ok
  refine q_cI C [] (c_X3_count e3) wv_X2_52 (by decide) (bs_lt σ.2.2.2.1) (wx_X3 σ.2.2.2.1) rfl rfl rfl (Nat.le_of_ble_eq_true rfl) dX2_last_4 ?_
  refine g_iconst (v := 1) C dX2_last_7 (by decide) ?_
  refine g_isub C dX2_last_8 ?_
  exact K.2 .int _ _ _ _ rfl dX2_last_9 rfl (pi_ok ok)
theorem c_X2_last {l : Launch} {ε : Et} {σ : St} {z : Rs} (e : f_X2_last σ = some z) : RM l ε yX2_last cX2_last 1 (some .int) 1 0 0 [.ref (ad ε 5)] (WX ε σ) (PI ε z) := RM.of (by decide) (Nat.le_of_ble_eq_true rfl) (fun κ C K => tf_X2_last C K σ e)
def b_X2_stepName_28 (x1 : Int32) (x2 : Int32) (σ : St) : Option Rs := bd (f_X8_isSign x1 σ) (fun r1 s2 => (if r1 = 0 then some ((2 : Int32), s2) else (if x2 < (40 : Int32) then bd (f_X3_addToName s2.2.2.2.1 x1 s2) (fun r6 s7 => some ((0 : Int32), s7)) else some ((3 : Int32), s2))))
set_option maxRecDepth 10000 in
set_option maxHeartbeats 1000000 in
theorem t_X2_stepName_28 {ε : Et} {κ : Kt} {z : Rs} (C : Cx ε κ cX2_stepName 3 RX2 2) (K : Ret ε κ cX2_stepName (some .int) 0 0 (PI ε z)) (x1 : Int32) (x2 : Int32) (σ : St) (ok : b_X2_stepName_28 x1 x2 σ = some z) : G ε κ 0 0 28 [(0, .ref (ad ε 5)), (1, .int x1), (2, .int x2)] [] (WX ε σ) := by
  unfold b_X2_stepName_28 at ok
  refine g_iload_n C dX2_stepName_28 rfl 1 rfl ?_
  obtain ⟨r1, s2, e3, ok⟩ := bd_ok ok
  refine q_nI C [.int x1] (c_X8_isSign e3) wv_X2_88 (by decide) rfl rfl (Nat.le_of_ble_eq_true rfl) dX2_stepName_29 ?_
  refine g_if_ne (tgt := 37) C dX2_stepName_32 (by decide) (fun c4 => ?_) (fun c4 => ?_)
  · replace ok := ok_f c4 ok
    refine g_iload_n C dX2_stepName_37 rfl 2 rfl ?_
    refine g_bipush (v := 40) C dX2_stepName_38 (by decide) ?_
    refine g_icmp_lt (tgt := 45) C dX2_stepName_40 (by decide) (fun c5 => ?_) (fun c5 => ?_)
    · replace ok := ok_t c5 ok
      refine g_aload_n C dX2_stepName_45 rfl 0 rfl ?_
      refine q_X2_12 C dX2_stepName_46 ?_
      refine g_iload_n C dX2_stepName_49 rfl 1 rfl ?_
      obtain ⟨r6, s7, e8, ok⟩ := bd_ok ok
      refine q_cV C [.int x1] (c_X3_addToName e8) wv_X2_92 (by decide) (bs_lt s2.2.2.2.1) (wx_X3 s2.2.2.2.1) rfl rfl rfl (Nat.le_of_ble_eq_true rfl) dX2_stepName_50 ?_
      refine g_iconst (v := 0) C dX2_stepName_53 (by decide) ?_
      exact K.2 .int _ _ _ _ rfl dX2_stepName_54 rfl (pi_ok ok)
    · replace ok := ok_f c5 ok
      refine g_iconst (v := 3) C dX2_stepName_43 (by decide) ?_
      exact K.2 .int _ _ _ _ rfl dX2_stepName_44 rfl (pi_ok ok)
  · replace ok := ok_t c4 ok
    refine g_iconst (v := 2) C dX2_stepName_35 (by decide) ?_
    exact K.2 .int _ _ _ _ rfl dX2_stepName_36 rfl (pi_ok ok)
def f_X2_stepName (x1 : Int32) (σ : St) : Option Rs := bd (f_X2_last σ) (fun r1 s2 => bd (f_X3_nameSize σ.2.2.2.1 r1 s2) (fun r4 s5 => (if x1 = (10 : Int32) then (if r4 ≤ 0 then b_X2_stepName_28 x1 r4 s5 else bd (f_X2_enter (2 : Int32) s5) (fun r9 s10 => some (r9, s10))) else b_X2_stepName_28 x1 r4 s5)))
set_option maxRecDepth 10000 in
set_option maxHeartbeats 1000000 in
theorem tf_X2_stepName {ε : Et} {κ : Kt} {z : Rs} (C : Cx ε κ cX2_stepName 3 RX2 2) (K : Ret ε κ cX2_stepName (some .int) 0 0 (PI ε z)) (x1 : Int32) (σ : St) (ok : f_X2_stepName x1 σ = some z) : G ε κ 0 0 0 [(0, .ref (ad ε 5)), (1, .int x1)] [] (WX ε σ) := by
  unfold f_X2_stepName at ok
  refine g_aload_n C dX2_stepName_0 rfl 0 rfl ?_
  refine q_X2_12 C dX2_stepName_1 ?_
  refine g_aload_n C dX2_stepName_4 rfl 0 rfl ?_
  obtain ⟨r1, s2, e3, ok⟩ := bd_ok ok
  refine q_cI C [] (c_X2_last e3) wv_X2_61 (by decide) (lt_N (by decide)) wx_X2 rfl rfl rfl (Nat.le_of_ble_eq_true rfl) dX2_stepName_5 ?_
  obtain ⟨r4, s5, e6, ok⟩ := bd_ok ok
  refine q_cI C [.int r1] (c_X3_nameSize e6) wv_X2_85 (by decide) (bs_lt σ.2.2.2.1) (wx_X3 σ.2.2.2.1) rfl rfl rfl (Nat.le_of_ble_eq_true rfl) dX2_stepName_8 ?_
  refine g_istore_n C [(2, .int r4), (0, .ref (ad ε 5)), (1, .int x1)] dX2_stepName_11 rfl (by decide) rfl ?_
  refine g_iload_n C dX2_stepName_12 rfl 2 rfl ?_
  refine g_bipush (v := 10) C dX2_stepName_13 (by decide) ?_
  refine g_icmp_ne (tgt := 28) C dX2_stepName_15 (by decide) (fun c7 => ?_) (fun c7 => ?_)
  · replace ok := ok_f c7 ok
    refine g_pick (lv' := [(0, .ref (ad ε 5)), (1, .int x1), (2, .int r4)]) ?_ [1, 2, 0] rfl
    exact t_X2_stepName_28 C K _ _ _ ok
  · replace ok := ok_t c7 ok
    refine g_iload_n C dX2_stepName_18 rfl 0 rfl ?_
    refine g_if_le (tgt := 28) C dX2_stepName_19 (by decide) (fun c8 => ?_) (fun c8 => ?_)
    · replace ok := ok_t c8 ok
      refine g_pick (lv' := [(0, .ref (ad ε 5)), (1, .int x1), (2, .int r4)]) ?_ [1, 2, 0] rfl
      exact t_X2_stepName_28 C K _ _ _ ok
    · replace ok := ok_f c8 ok
      refine g_aload_n C dX2_stepName_22 rfl 1 rfl ?_
      refine g_iconst (v := 2) C dX2_stepName_23 (by decide) ?_
      obtain ⟨r9, s10, e11, ok⟩ := bd_ok ok
      refine q_cI C [.int (2 : Int32)] (c_X2_enter e11) wv_X2_26 (by decide) (lt_N (by decide)) wx_X2 rfl rfl rfl (Nat.le_of_ble_eq_true rfl) dX2_stepName_24 ?_
      exact K.2 .int _ _ _ _ rfl dX2_stepName_27 rfl (pi_ok ok)
theorem c_X2_stepName {l : Launch} {ε : Et} {σ : St} {z : Rs} {x1 : Int32} (e : f_X2_stepName x1 σ = some z) : RM l ε yX2_stepName cX2_stepName 3 (some .int) 2 0 0 [.ref (ad ε 5), .int x1] (WX ε σ) (PI ε z) := RM.of (by decide) (Nat.le_of_ble_eq_true rfl) (fun κ C K => tf_X2_stepName C K x1 σ e)
def b_X2_mayEndHere_26 (t0 : Int32) (σ : St) : Option Rs := gz t0 (some (t0, σ))
set_option maxRecDepth 10000 in
set_option maxHeartbeats 1000000 in
theorem t_X2_mayEndHere_26 {ε : Et} {κ : Kt} {z : Rs} (C : Cx ε κ cX2_mayEndHere 1 RX2 2) (K : Ret ε κ cX2_mayEndHere (some .boolean) 0 0 (PI ε z)) (t0 : Int32) (σ : St) (ok : b_X2_mayEndHere_26 t0 σ = some z) : G ε κ 0 0 26 [] [.int t0] (WX ε σ) := by
  unfold b_X2_mayEndHere_26 at ok
  obtain ⟨z1, ok⟩ := gz_ok ok
  exact K.2 .boolean _ _ _ _ rfl dX2_mayEndHere_26 (nar_b z1) (pi_ok ok)
def b_X2_mayEndHere_25 (σ : St) : Option Rs := b_X2_mayEndHere_26 (0 : Int32) σ
set_option maxRecDepth 10000 in
set_option maxHeartbeats 1000000 in
theorem t_X2_mayEndHere_25 {ε : Et} {κ : Kt} {z : Rs} (C : Cx ε κ cX2_mayEndHere 1 RX2 2) (K : Ret ε κ cX2_mayEndHere (some .boolean) 0 0 (PI ε z)) (σ : St) (ok : b_X2_mayEndHere_25 σ = some z) : G ε κ 0 0 25 [] [] (WX ε σ) := by
  unfold b_X2_mayEndHere_25 at ok
  refine g_iconst (v := 0) C dX2_mayEndHere_25 (by decide) ?_
  exact t_X2_mayEndHere_26 C K _ _ ok
def f_X2_mayEndHere (σ : St) : Option Rs := (if (σ.1 5 3) = 0 then bd (f_X2_last σ) (fun r2 s3 => bd (f_X3_letterCount σ.2.2.2.1 r2 s3) (fun r5 s6 => (if r5 ≤ 0 then b_X2_mayEndHere_25 s6 else b_X2_mayEndHere_26 (1 : Int32) s6))) else b_X2_mayEndHere_25 σ)
set_option maxRecDepth 10000 in
set_option maxHeartbeats 1000000 in
theorem tf_X2_mayEndHere {ε : Et} {κ : Kt} {z : Rs} (C : Cx ε κ cX2_mayEndHere 1 RX2 2) (K : Ret ε κ cX2_mayEndHere (some .boolean) 0 0 (PI ε z)) (σ : St) (ok : f_X2_mayEndHere σ = some z) : G ε κ 0 0 0 [(0, .ref (ad ε 5))] [] (WX ε σ) := by
  unfold f_X2_mayEndHere at ok
  refine g_aload_n C dX2_mayEndHere_0 rfl 0 rfl ?_
  refine q_X2_58 C dX2_mayEndHere_1 ?_
  refine g_if_ne (tgt := 25) C dX2_mayEndHere_4 (by decide) (fun c1 => ?_) (fun c1 => ?_)
  · replace ok := ok_f c1 ok
    refine g_pick (lv' := []) ?_ [] rfl
    exact t_X2_mayEndHere_25 C K _ ok
  · replace ok := ok_t c1 ok
    refine g_aload_n C dX2_mayEndHere_7 rfl 0 rfl ?_
    refine q_X2_12 C dX2_mayEndHere_8 ?_
    refine g_aload_n C dX2_mayEndHere_11 rfl 0 rfl ?_
    obtain ⟨r2, s3, e4, ok⟩ := bd_ok ok
    refine q_cI C [] (c_X2_last e4) wv_X2_61 (by decide) (lt_N (by decide)) wx_X2 rfl rfl rfl (Nat.le_of_ble_eq_true rfl) dX2_mayEndHere_12 ?_
    obtain ⟨r5, s6, e7, ok⟩ := bd_ok ok
    refine q_cI C [.int r2] (c_X3_letterCount e7) wv_X2_64 (by decide) (bs_lt σ.2.2.2.1) (wx_X3 σ.2.2.2.1) rfl rfl rfl (Nat.le_of_ble_eq_true rfl) dX2_mayEndHere_15 ?_
    refine g_if_le (tgt := 25) C dX2_mayEndHere_18 (by decide) (fun c8 => ?_) (fun c8 => ?_)
    · replace ok := ok_t c8 ok
      refine g_pick (lv' := []) ?_ [] rfl
      exact t_X2_mayEndHere_25 C K _ ok
    · replace ok := ok_f c8 ok
      refine g_iconst (v := 1) C dX2_mayEndHere_21 (by decide) ?_
      refine g_goto (tgt := 26) C dX2_mayEndHere_22 (by decide) ?_
      refine g_pick (lv' := []) ?_ [] rfl
      exact t_X2_mayEndHere_26 C K _ _ ok
theorem c_X2_mayEndHere {l : Launch} {ε : Et} {σ : St} {z : Rs} (e : f_X2_mayEndHere σ = some z) : RM l ε yX2_mayEndHere cX2_mayEndHere 1 (some .boolean) 2 0 0 [.ref (ad ε 5)] (WX ε σ) (PI ε z) := RM.of (by decide) (Nat.le_of_ble_eq_true rfl) (fun κ C K => tf_X2_mayEndHere C K σ e)
def b_X2_stepLetters_57 (x1 : Int32) (σ : St) : Option Rs := bd (f_X8_isLetter x1 σ) (fun r1 s2 => (if r1 = 0 then some ((2 : Int32), s2) else bd (f_X2_last s2) (fun r5 s6 => bd (f_X3_letterCount s2.2.2.2.1 r5 s6) (fun r8 s9 => (if r8 < (120 : Int32) then bd (f_X3_addLetter s9.2.2.2.1 x1 s9) (fun r12 s13 => nx (sS s13 5 3 ((s13.1 5 3) + (1 : Int32))) (fun s15 => some ((0 : Int32), s15))) else some ((3 : Int32), s9))))))
set_option maxRecDepth 10000 in
set_option maxHeartbeats 1000000 in
theorem t_X2_stepLetters_57 {ε : Et} {κ : Kt} {z : Rs} (C : Cx ε κ cX2_stepLetters 2 RX2 3) (K : Ret ε κ cX2_stepLetters (some .int) 0 0 (PI ε z)) (x1 : Int32) (σ : St) (ok : b_X2_stepLetters_57 x1 σ = some z) : G ε κ 0 0 57 [(0, .ref (ad ε 5)), (1, .int x1)] [] (WX ε σ) := by
  unfold b_X2_stepLetters_57 at ok
  refine g_iload_n C dX2_stepLetters_57 rfl 1 rfl ?_
  obtain ⟨r1, s2, e3, ok⟩ := bd_ok ok
  refine q_nI C [.int x1] (c_X8_isLetter e3) wv_X2_96 (by decide) rfl rfl (Nat.le_of_ble_eq_true rfl) dX2_stepLetters_58 ?_
  refine g_if_ne (tgt := 66) C dX2_stepLetters_61 (by decide) (fun c4 => ?_) (fun c4 => ?_)
  · replace ok := ok_f c4 ok
    refine g_aload_n C dX2_stepLetters_66 rfl 0 rfl ?_
    refine q_X2_12 C dX2_stepLetters_67 ?_
    refine g_aload_n C dX2_stepLetters_70 rfl 0 rfl ?_
    obtain ⟨r5, s6, e7, ok⟩ := bd_ok ok
    refine q_cI C [] (c_X2_last e7) wv_X2_61 (by decide) (lt_N (by decide)) wx_X2 rfl rfl rfl (Nat.le_of_ble_eq_true rfl) dX2_stepLetters_71 ?_
    obtain ⟨r8, s9, e10, ok⟩ := bd_ok ok
    refine q_cI C [.int r5] (c_X3_letterCount e10) wv_X2_64 (by decide) (bs_lt s2.2.2.2.1) (wx_X3 s2.2.2.2.1) rfl rfl rfl (Nat.le_of_ble_eq_true rfl) dX2_stepLetters_74 ?_
    refine g_bipush (v := 120) C dX2_stepLetters_77 (by decide) ?_
    refine g_icmp_lt (tgt := 84) C dX2_stepLetters_79 (by decide) (fun c11 => ?_) (fun c11 => ?_)
    · replace ok := ok_t c11 ok
      refine g_aload_n C dX2_stepLetters_84 rfl 0 rfl ?_
      refine q_X2_12 C dX2_stepLetters_85 ?_
      refine g_iload_n C dX2_stepLetters_88 rfl 1 rfl ?_
      obtain ⟨r12, s13, e14, ok⟩ := bd_ok ok
      refine q_cV C [.int x1] (c_X3_addLetter e14) wv_X2_99 (by decide) (bs_lt s9.2.2.2.1) (wx_X3 s9.2.2.2.1) rfl rfl rfl (Nat.le_of_ble_eq_true rfl) dX2_stepLetters_89 ?_
      refine g_aload_n C dX2_stepLetters_92 rfl 0 rfl ?_
      refine g_dup C dX2_stepLetters_93 rfl ?_
      refine q_X2_58 C dX2_stepLetters_94 ?_
      refine g_iconst (v := 1) C dX2_stepLetters_97 (by decide) ?_
      refine g_iadd C dX2_stepLetters_98 ?_
      refine p_X2_58 C dX2_stepLetters_99 (fun s15 e16 => ?_)
      replace ok := nx_ok ok s15 e16
      refine g_iconst (v := 0) C dX2_stepLetters_102 (by decide) ?_
      exact K.2 .int _ _ _ _ rfl dX2_stepLetters_103 rfl (pi_ok ok)
    · replace ok := ok_f c11 ok
      refine g_iconst (v := 3) C dX2_stepLetters_82 (by decide) ?_
      exact K.2 .int _ _ _ _ rfl dX2_stepLetters_83 rfl (pi_ok ok)
  · replace ok := ok_t c4 ok
    refine g_iconst (v := 2) C dX2_stepLetters_64 (by decide) ?_
    exact K.2 .int _ _ _ _ rfl dX2_stepLetters_65 rfl (pi_ok ok)
def b_X2_stepLetters_30 (x1 : Int32) (σ : St) : Option Rs := (if (σ.1 5 1) = (1 : Int32) then (if x1 = (62 : Int32) then bd (f_X2_mayEndHere σ) (fun r3 s4 => (if r3 = 0 then b_X2_stepLetters_57 x1 s4 else bd (f_X2_stepMark x1 s4) (fun r7 s8 => some (r7, s8)))) else b_X2_stepLetters_57 x1 σ) else b_X2_stepLetters_57 x1 σ)
set_option maxRecDepth 10000 in
set_option maxHeartbeats 1000000 in
theorem t_X2_stepLetters_30 {ε : Et} {κ : Kt} {z : Rs} (C : Cx ε κ cX2_stepLetters 2 RX2 3) (K : Ret ε κ cX2_stepLetters (some .int) 0 0 (PI ε z)) (x1 : Int32) (σ : St) (ok : b_X2_stepLetters_30 x1 σ = some z) : G ε κ 0 0 30 [(0, .ref (ad ε 5)), (1, .int x1)] [] (WX ε σ) := by
  unfold b_X2_stepLetters_30 at ok
  refine g_aload_n C dX2_stepLetters_30 rfl 0 rfl ?_
  refine q_X2_18 C dX2_stepLetters_31 ?_
  refine g_iconst (v := 1) C dX2_stepLetters_34 (by decide) ?_
  refine g_icmp_ne (tgt := 57) C dX2_stepLetters_35 (by decide) (fun c1 => ?_) (fun c1 => ?_)
  · replace ok := ok_f c1 ok
    exact t_X2_stepLetters_57 C K _ _ ok
  · replace ok := ok_t c1 ok
    refine g_iload_n C dX2_stepLetters_38 rfl 1 rfl ?_
    refine g_bipush (v := 62) C dX2_stepLetters_39 (by decide) ?_
    refine g_icmp_ne (tgt := 57) C dX2_stepLetters_41 (by decide) (fun c2 => ?_) (fun c2 => ?_)
    · replace ok := ok_f c2 ok
      exact t_X2_stepLetters_57 C K _ _ ok
    · replace ok := ok_t c2 ok
      refine g_aload_n C dX2_stepLetters_44 rfl 0 rfl ?_
      obtain ⟨r3, s4, e5, ok⟩ := bd_ok ok
      refine q_cI C [] (c_X2_mayEndHere e5) wv_X2_55 (by decide) (lt_N (by decide)) wx_X2 rfl rfl rfl (Nat.le_of_ble_eq_true rfl) dX2_stepLetters_45 ?_
      refine g_if_eq (tgt := 57) C dX2_stepLetters_48 (by decide) (fun c6 => ?_) (fun c6 => ?_)
      · replace ok := ok_t c6 ok
        exact t_X2_stepLetters_57 C K _ _ ok
      · replace ok := ok_f c6 ok
        refine g_aload_n C dX2_stepLetters_51 rfl 0 rfl ?_
        refine g_iload_n C dX2_stepLetters_52 rfl 1 rfl ?_
        obtain ⟨r7, s8, e9, ok⟩ := bd_ok ok
        refine q_cI C [.int x1] (c_X2_stepMark e9) wv_X2_67 (by decide) (lt_N (by decide)) wx_X2 rfl rfl rfl (Nat.le_of_ble_eq_true rfl) dX2_stepLetters_53 ?_
        exact K.2 .int _ _ _ _ rfl dX2_stepLetters_56 rfl (pi_ok ok)
def b_X2_stepLetters_26 (t0 : Int32) (σ : St) : Option Rs := bd (f_X2_enter t0 σ) (fun r1 s2 => some (r1, s2))
set_option maxRecDepth 10000 in
set_option maxHeartbeats 1000000 in
theorem t_X2_stepLetters_26 {ε : Et} {κ : Kt} {z : Rs} (C : Cx ε κ cX2_stepLetters 2 RX2 3) (K : Ret ε κ cX2_stepLetters (some .int) 0 0 (PI ε z)) (t0 : Int32) (σ : St) (ok : b_X2_stepLetters_26 t0 σ = some z) : G ε κ 0 0 26 [] [.int t0, .ref (ad ε 5)] (WX ε σ) := by
  unfold b_X2_stepLetters_26 at ok
  obtain ⟨r1, s2, e3, ok⟩ := bd_ok ok
  refine q_cI C [.int t0] (c_X2_enter e3) wv_X2_26 (by decide) (lt_N (by decide)) wx_X2 rfl rfl rfl (Nat.le_of_ble_eq_true rfl) dX2_stepLetters_26 ?_
  exact K.2 .int _ _ _ _ rfl dX2_stepLetters_29 rfl (pi_ok ok)
def f_X2_stepLetters (x1 : Int32) (σ : St) : Option Rs := (if x1 = (10 : Int32) then (if (σ.1 5 3) ≤ 0 then b_X2_stepLetters_30 x1 σ else (if (σ.1 5 1) = 0 then b_X2_stepLetters_26 (3 : Int32) σ else b_X2_stepLetters_26 (2 : Int32) σ)) else b_X2_stepLetters_30 x1 σ)
set_option maxRecDepth 10000 in
set_option maxHeartbeats 1000000 in
theorem tf_X2_stepLetters {ε : Et} {κ : Kt} {z : Rs} (C : Cx ε κ cX2_stepLetters 2 RX2 3) (K : Ret ε κ cX2_stepLetters (some .int) 0 0 (PI ε z)) (x1 : Int32) (σ : St) (ok : f_X2_stepLetters x1 σ = some z) : G ε κ 0 0 0 [(0, .ref (ad ε 5)), (1, .int x1)] [] (WX ε σ) := by
  unfold f_X2_stepLetters at ok
  refine g_iload_n C dX2_stepLetters_0 rfl 1 rfl ?_
  refine g_bipush (v := 10) C dX2_stepLetters_1 (by decide) ?_
  refine g_icmp_ne (tgt := 30) C dX2_stepLetters_3 (by decide) (fun c1 => ?_) (fun c1 => ?_)
  · replace ok := ok_f c1 ok
    exact t_X2_stepLetters_30 C K _ _ ok
  · replace ok := ok_t c1 ok
    refine g_aload_n C dX2_stepLetters_6 rfl 0 rfl ?_
    refine q_X2_58 C dX2_stepLetters_7 ?_
    refine g_if_le (tgt := 30) C dX2_stepLetters_10 (by decide) (fun c2 => ?_) (fun c2 => ?_)
    · replace ok := ok_t c2 ok
      exact t_X2_stepLetters_30 C K _ _ ok
    · replace ok := ok_f c2 ok
      refine g_aload_n C dX2_stepLetters_13 rfl 0 rfl ?_
      refine g_aload_n C dX2_stepLetters_14 rfl 0 rfl ?_
      refine q_X2_18 C dX2_stepLetters_15 ?_
      refine g_if_ne (tgt := 25) C dX2_stepLetters_18 (by decide) (fun c3 => ?_) (fun c3 => ?_)
      · replace ok := ok_f c3 ok
        refine g_iconst (v := 2) C dX2_stepLetters_25 (by decide) ?_
        refine g_pick (lv' := []) ?_ [] rfl
        exact t_X2_stepLetters_26 C K _ _ ok
      · replace ok := ok_t c3 ok
        refine g_iconst (v := 3) C dX2_stepLetters_21 (by decide) ?_
        refine g_goto (tgt := 26) C dX2_stepLetters_22 (by decide) ?_
        refine g_pick (lv' := []) ?_ [] rfl
        exact t_X2_stepLetters_26 C K _ _ ok
theorem c_X2_stepLetters {l : Launch} {ε : Et} {σ : St} {z : Rs} {x1 : Int32} (e : f_X2_stepLetters x1 σ = some z) : RM l ε yX2_stepLetters cX2_stepLetters 2 (some .int) 3 0 0 [.ref (ad ε 5), .int x1] (WX ε σ) (PI ε z) := RM.of (by decide) (Nat.le_of_ble_eq_true rfl) (fun κ C K => tf_X2_stepLetters C K x1 σ e)
def b_X2_stepBehindPlus_47 (x1 : Int32) (σ : St) : Option Rs := bd (f_X2_last σ) (fun r1 s2 => bd (f_X3_nameOctet σ.2.2.2.1 r1 (s2.1 5 3) s2) (fun r4 s5 => (if x1 = r4 then nx (sS s5 5 3 ((s5.1 5 3) + (1 : Int32))) (fun s8 => some ((0 : Int32), s8)) else some ((2 : Int32), s5))))
set_option maxRecDepth 10000 in
set_option maxHeartbeats 1000000 in
theorem t_X2_stepBehindPlus_47 {ε : Et} {κ : Kt} {z : Rs} (C : Cx ε κ cX2_stepBehindPlus 3 RX2 2) (K : Ret ε κ cX2_stepBehindPlus (some .int) 0 0 (PI ε z)) (x1 : Int32) (σ : St) (ok : b_X2_stepBehindPlus_47 x1 σ = some z) : G ε κ 0 0 47 [(0, .ref (ad ε 5)), (1, .int x1)] [] (WX ε σ) := by
  unfold b_X2_stepBehindPlus_47 at ok
  refine g_iload_n C dX2_stepBehindPlus_47 rfl 1 rfl ?_
  refine g_aload_n C dX2_stepBehindPlus_48 rfl 0 rfl ?_
  refine q_X2_12 C dX2_stepBehindPlus_49 ?_
  refine g_aload_n C dX2_stepBehindPlus_52 rfl 0 rfl ?_
  obtain ⟨r1, s2, e3, ok⟩ := bd_ok ok
  refine q_cI C [] (c_X2_last e3) wv_X2_61 (by decide) (lt_N (by decide)) wx_X2 rfl rfl rfl (Nat.le_of_ble_eq_true rfl) dX2_stepBehindPlus_53 ?_
  refine g_aload_n C dX2_stepBehindPlus_56 rfl 0 rfl ?_
  refine q_X2_58 C dX2_stepBehindPlus_57 ?_
  obtain ⟨r4, s5, e6, ok⟩ := bd_ok ok
  refine q_cI C [.int r1, .int (s2.1 5 3)] (c_X3_nameOctet e6) wv_X2_102 (by decide) (bs_lt σ.2.2.2.1) (wx_X3 σ.2.2.2.1) rfl rfl rfl (Nat.le_of_ble_eq_true rfl) dX2_stepBehindPlus_60 ?_
  refine g_icmp_eq (tgt := 68) C dX2_stepBehindPlus_63 (by decide) (fun c7 => ?_) (fun c7 => ?_)
  · replace ok := ok_t c7 ok
    refine g_aload_n C dX2_stepBehindPlus_68 rfl 0 rfl ?_
    refine g_dup C dX2_stepBehindPlus_69 rfl ?_
    refine q_X2_58 C dX2_stepBehindPlus_70 ?_
    refine g_iconst (v := 1) C dX2_stepBehindPlus_73 (by decide) ?_
    refine g_iadd C dX2_stepBehindPlus_74 ?_
    refine p_X2_58 C dX2_stepBehindPlus_75 (fun s8 e9 => ?_)
    replace ok := nx_ok ok s8 e9
    refine g_iconst (v := 0) C dX2_stepBehindPlus_78 (by decide) ?_
    exact K.2 .int _ _ _ _ rfl dX2_stepBehindPlus_79 rfl (pi_ok ok)
  · replace ok := ok_f c7 ok
    refine g_iconst (v := 2) C dX2_stepBehindPlus_66 (by decide) ?_
    exact K.2 .int _ _ _ _ rfl dX2_stepBehindPlus_67 rfl (pi_ok ok)
def b_X2_stepBehindPlus_30 (x1 : Int32) (t0 : Int32) (σ : St) : Option Rs := (if x1 = (10 : Int32) then (if t0 = 0 then b_X2_stepBehindPlus_47 x1 σ else bd (f_X2_enter (5 : Int32) σ) (fun r3 s4 => some (r3, s4))) else b_X2_stepBehindPlus_47 x1 σ)
set_option maxRecDepth 10000 in
set_option maxHeartbeats 1000000 in
theorem t_X2_stepBehindPlus_30 {ε : Et} {κ : Kt} {z : Rs} (C : Cx ε κ cX2_stepBehindPlus 3 RX2 2) (K : Ret ε κ cX2_stepBehindPlus (some .int) 0 0 (PI ε z)) (x1 : Int32) (t0 : Int32) (σ : St) (ok : b_X2_stepBehindPlus_30 x1 t0 σ = some z) : G ε κ 0 0 30 [(0, .ref (ad ε 5)), (1, .int x1)] [.int t0] (WX ε σ) := by
  unfold b_X2_stepBehindPlus_30 at ok
  refine g_istore_n C [(2, .int t0), (0, .ref (ad ε 5)), (1, .int x1)] dX2_stepBehindPlus_30 rfl (by decide) rfl ?_
  refine g_iload_n C dX2_stepBehindPlus_31 rfl 2 rfl ?_
  refine g_bipush (v := 10) C dX2_stepBehindPlus_32 (by decide) ?_
  refine g_icmp_ne (tgt := 47) C dX2_stepBehindPlus_34 (by decide) (fun c1 => ?_) (fun c1 => ?_)
  · replace ok := ok_f c1 ok
    refine g_pick (lv' := [(0, .ref (ad ε 5)), (1, .int x1)]) ?_ [1, 2] rfl
    exact t_X2_stepBehindPlus_47 C K _ _ ok
  · replace ok := ok_t c1 ok
    refine g_iload_n C dX2_stepBehindPlus_37 rfl 0 rfl ?_
    refine g_if_eq (tgt := 47) C dX2_stepBehindPlus_38 (by decide) (fun c2 => ?_) (fun c2 => ?_)
    · replace ok := ok_t c2 ok
      refine g_pick (lv' := [(0, .ref (ad ε 5)), (1, .int x1)]) ?_ [1, 2] rfl
      exact t_X2_stepBehindPlus_47 C K _ _ ok
    · replace ok := ok_f c2 ok
      refine g_aload_n C dX2_stepBehindPlus_41 rfl 1 rfl ?_
      refine g_iconst (v := 5) C dX2_stepBehindPlus_42 (by decide) ?_
      obtain ⟨r3, s4, e5, ok⟩ := bd_ok ok
      refine q_cI C [.int (5 : Int32)] (c_X2_enter e5) wv_X2_26 (by decide) (lt_N (by decide)) wx_X2 rfl rfl rfl (Nat.le_of_ble_eq_true rfl) dX2_stepBehindPlus_43 ?_
      exact K.2 .int _ _ _ _ rfl dX2_stepBehindPlus_46 rfl (pi_ok ok)
def b_X2_stepBehindPlus_25 (x1 : Int32) (σ : St) : Option Rs := b_X2_stepBehindPlus_30 x1 (1 : Int32) σ
set_option maxRecDepth 10000 in
set_option maxHeartbeats 1000000 in
theorem t_X2_stepBehindPlus_25 {ε : Et} {κ : Kt} {z : Rs} (C : Cx ε κ cX2_stepBehindPlus 3 RX2 2) (K : Ret ε κ cX2_stepBehindPlus (some .int) 0 0 (PI ε z)) (x1 : Int32) (σ : St) (ok : b_X2_stepBehindPlus_25 x1 σ = some z) : G ε κ 0 0 25 [(0, .ref (ad ε 5)), (1, .int x1)] [] (WX ε σ) := by
  unfold b_X2_stepBehindPlus_25 at ok
  refine g_iconst (v := 1) C dX2_stepBehindPlus_25 (by decide) ?_
  refine g_goto (tgt := 30) C dX2_stepBehindPlus_26 (by decide) ?_
  exact t_X2_stepBehindPlus_30 C K _ _ _ ok
def f_X2_stepBehindPlus (x1 : Int32) (σ : St) : Option Rs := (if (σ.1 5 3) = 0 then b_X2_stepBehindPlus_25 x1 σ else bd (f_X2_last σ) (fun r2 s3 => bd (f_X3_nameSize σ.2.2.2.1 r2 s3) (fun r5 s6 => (if (σ.1 5 3) = r5 then b_X2_stepBehindPlus_25 x1 s6 else b_X2_stepBehindPlus_30 x1 (0 : Int32) s6))))
set_option maxRecDepth 10000 in
set_option maxHeartbeats 1000000 in
theorem tf_X2_stepBehindPlus {ε : Et} {κ : Kt} {z : Rs} (C : Cx ε κ cX2_stepBehindPlus 3 RX2 2) (K : Ret ε κ cX2_stepBehindPlus (some .int) 0 0 (PI ε z)) (x1 : Int32) (σ : St) (ok : f_X2_stepBehindPlus x1 σ = some z) : G ε κ 0 0 0 [(0, .ref (ad ε 5)), (1, .int x1)] [] (WX ε σ) := by
  unfold f_X2_stepBehindPlus at ok
  refine g_aload_n C dX2_stepBehindPlus_0 rfl 0 rfl ?_
  refine q_X2_58 C dX2_stepBehindPlus_1 ?_
  refine g_if_eq (tgt := 25) C dX2_stepBehindPlus_4 (by decide) (fun c1 => ?_) (fun c1 => ?_)
  · replace ok := ok_t c1 ok
    exact t_X2_stepBehindPlus_25 C K _ _ ok
  · replace ok := ok_f c1 ok
    refine g_aload_n C dX2_stepBehindPlus_7 rfl 0 rfl ?_
    refine q_X2_58 C dX2_stepBehindPlus_8 ?_
    refine g_aload_n C dX2_stepBehindPlus_11 rfl 0 rfl ?_
    refine q_X2_12 C dX2_stepBehindPlus_12 ?_
    refine g_aload_n C dX2_stepBehindPlus_15 rfl 0 rfl ?_
    obtain ⟨r2, s3, e4, ok⟩ := bd_ok ok
    refine q_cI C [] (c_X2_last e4) wv_X2_61 (by decide) (lt_N (by decide)) wx_X2 rfl rfl rfl (Nat.le_of_ble_eq_true rfl) dX2_stepBehindPlus_16 ?_
    obtain ⟨r5, s6, e7, ok⟩ := bd_ok ok
    refine q_cI C [.int r2] (c_X3_nameSize e7) wv_X2_85 (by decide) (bs_lt σ.2.2.2.1) (wx_X3 σ.2.2.2.1) rfl rfl rfl (Nat.le_of_ble_eq_true rfl) dX2_stepBehindPlus_19 ?_
    refine g_icmp_ne (tgt := 29) C dX2_stepBehindPlus_22 (by decide) (fun c8 => ?_) (fun c8 => ?_)
    · replace ok := ok_f c8 ok
      refine g_iconst (v := 0) C dX2_stepBehindPlus_29 (by decide) ?_
      exact t_X2_stepBehindPlus_30 C K _ _ _ ok
    · replace ok := ok_t c8 ok
      exact t_X2_stepBehindPlus_25 C K _ _ ok
theorem c_X2_stepBehindPlus {l : Launch} {ε : Et} {σ : St} {z : Rs} {x1 : Int32} (e : f_X2_stepBehindPlus x1 σ = some z) : RM l ε yX2_stepBehindPlus cX2_stepBehindPlus 3 (some .int) 2 0 0 [.ref (ad ε 5), .int x1] (WX ε σ) (PI ε z) := RM.of (by decide) (Nat.le_of_ble_eq_true rfl) (fun κ C K => tf_X2_stepBehindPlus C K x1 σ e)
def b_X2_stepQualities_33 (t0 : Int32) (σ : St) : Option Rs := some (t0, σ)
set_option maxRecDepth 10000 in
set_option maxHeartbeats 1000000 in
theorem t_X2_stepQualities_33 {ε : Et} {κ : Kt} {z : Rs} (C : Cx ε κ cX2_stepQualities 2 RX2 2) (K : Ret ε κ cX2_stepQualities (some .int) 0 0 (PI ε z)) (t0 : Int32) (σ : St) (ok : b_X2_stepQualities_33 t0 σ = some z) : G ε κ 0 0 33 [] [.int t0] (WX ε σ) := by
  unfold b_X2_stepQualities_33 at ok
  exact K.2 .int _ _ _ _ rfl dX2_stepQualities_33 rfl (pi_ok ok)
def f_X2_stepQualities (x1 : Int32) (σ : St) : Option Rs := bd (f_X2_last σ) (fun r1 s2 => bd (f_X3_letterCount σ.2.2.2.1 r1 s2) (fun r4 s5 => (if (σ.1 5 3) < r4 then bd (f_X8_isSign x1 s5) (fun r8 s9 => (if r8 = 0 then some ((2 : Int32), s9) else bd (f_X3_addQuality s9.2.2.2.1 x1 s9) (fun r12 s13 => nx (sS s13 5 3 ((s13.1 5 3) + (1 : Int32))) (fun s15 => some ((0 : Int32), s15))))) else (if x1 = (10 : Int32) then bd (f_X2_enter (0 : Int32) s5) (fun r18 s19 => b_X2_stepQualities_33 r18 s19) else b_X2_stepQualities_33 (2 : Int32) s5))))
set_option maxRecDepth 10000 in
set_option maxHeartbeats 1000000 in
theorem tf_X2_stepQualities {ε : Et} {κ : Kt} {z : Rs} (C : Cx ε κ cX2_stepQualities 2 RX2 2) (K : Ret ε κ cX2_stepQualities (some .int) 0 0 (PI ε z)) (x1 : Int32) (σ : St) (ok : f_X2_stepQualities x1 σ = some z) : G ε κ 0 0 0 [(0, .ref (ad ε 5)), (1, .int x1)] [] (WX ε σ) := by
  unfold f_X2_stepQualities at ok
  refine g_aload_n C dX2_stepQualities_0 rfl 0 rfl ?_
  refine q_X2_58 C dX2_stepQualities_1 ?_
  refine g_aload_n C dX2_stepQualities_4 rfl 0 rfl ?_
  refine q_X2_12 C dX2_stepQualities_5 ?_
  refine g_aload_n C dX2_stepQualities_8 rfl 0 rfl ?_
  obtain ⟨r1, s2, e3, ok⟩ := bd_ok ok
  refine q_cI C [] (c_X2_last e3) wv_X2_61 (by decide) (lt_N (by decide)) wx_X2 rfl rfl rfl (Nat.le_of_ble_eq_true rfl) dX2_stepQualities_9 ?_
  obtain ⟨r4, s5, e6, ok⟩ := bd_ok ok
  refine q_cI C [.int r1] (c_X3_letterCount e6) wv_X2_64 (by decide) (bs_lt σ.2.2.2.1) (wx_X3 σ.2.2.2.1) rfl rfl rfl (Nat.le_of_ble_eq_true rfl) dX2_stepQualities_12 ?_
  refine g_icmp_lt (tgt := 34) C dX2_stepQualities_15 (by decide) (fun c7 => ?_) (fun c7 => ?_)
  · replace ok := ok_t c7 ok
    refine g_iload_n C dX2_stepQualities_34 rfl 1 rfl ?_
    obtain ⟨r8, s9, e10, ok⟩ := bd_ok ok
    refine q_nI C [.int x1] (c_X8_isSign e10) wv_X2_88 (by decide) rfl rfl (Nat.le_of_ble_eq_true rfl) dX2_stepQualities_35 ?_
    refine g_if_ne (tgt := 43) C dX2_stepQualities_38 (by decide) (fun c11 => ?_) (fun c11 => ?_)
    · replace ok := ok_f c11 ok
      refine g_aload_n C dX2_stepQualities_43 rfl 0 rfl ?_
      refine q_X2_12 C dX2_stepQualities_44 ?_
      refine g_iload_n C dX2_stepQualities_47 rfl 1 rfl ?_
      obtain ⟨r12, s13, e14, ok⟩ := bd_ok ok
      refine q_cV C [.int x1] (c_X3_addQuality e14) wv_X2_106 (by decide) (bs_lt s9.2.2.2.1) (wx_X3 s9.2.2.2.1) rfl rfl rfl (Nat.le_of_ble_eq_true rfl) dX2_stepQualities_48 ?_
      refine g_aload_n C dX2_stepQualities_51 rfl 0 rfl ?_
      refine g_dup C dX2_stepQualities_52 rfl ?_
      refine q_X2_58 C dX2_stepQualities_53 ?_
      refine g_iconst (v := 1) C dX2_stepQualities_56 (by decide) ?_
      refine g_iadd C dX2_stepQualities_57 ?_
      refine p_X2_58 C dX2_stepQualities_58 (fun s15 e16 => ?_)
      replace ok := nx_ok ok s15 e16
      refine g_iconst (v := 0) C dX2_stepQualities_61 (by decide) ?_
      exact K.2 .int _ _ _ _ rfl dX2_stepQualities_62 rfl (pi_ok ok)
    · replace ok := ok_t c11 ok
      refine g_iconst (v := 2) C dX2_stepQualities_41 (by decide) ?_
      exact K.2 .int _ _ _ _ rfl dX2_stepQualities_42 rfl (pi_ok ok)
  · replace ok := ok_f c7 ok
    refine g_iload_n C dX2_stepQualities_18 rfl 1 rfl ?_
    refine g_bipush (v := 10) C dX2_stepQualities_19 (by decide) ?_
    refine g_icmp_ne (tgt := 32) C dX2_stepQualities_21 (by decide) (fun c17 => ?_) (fun c17 => ?_)
    · replace ok := ok_f c17 ok
      refine g_iconst (v := 2) C dX2_stepQualities_32 (by decide) ?_
      refine g_pick (lv' := []) ?_ [] rfl
      exact t_X2_stepQualities_33 C K _ _ ok
    · replace ok := ok_t c17 ok
      refine g_aload_n C dX2_stepQualities_24 rfl 0 rfl ?_
      refine g_iconst (v := 0) C dX2_stepQualities_25 (by decide) ?_
      obtain ⟨r18, s19, e20, ok⟩ := bd_ok ok
      refine q_cI C [.int (0 : Int32)] (c_X2_enter e20) wv_X2_26 (by decide) (lt_N (by decide)) wx_X2 rfl rfl rfl (Nat.le_of_ble_eq_true rfl) dX2_stepQualities_26 ?_
      refine g_goto (tgt := 33) C dX2_stepQualities_29 (by decide) ?_
      refine g_pick (lv' := []) ?_ [] rfl
      exact t_X2_stepQualities_33 C K _ _ ok
theorem c_X2_stepQualities {l : Launch} {ε : Et} {σ : St} {z : Rs} {x1 : Int32} (e : f_X2_stepQualities x1 σ = some z) : RM l ε yX2_stepQualities cX2_stepQualities 2 (some .int) 2 0 0 [.ref (ad ε 5), .int x1] (WX ε σ) (PI ε z) := RM.of (by decide) (Nat.le_of_ble_eq_true rfl) (fun κ C K => tf_X2_stepQualities C K x1 σ e)
def b_X2_step_73 (t0 : Int32) (σ : St) : Option Rs := some (t0, σ)
set_option maxRecDepth 10000 in
set_option maxHeartbeats 1000000 in
theorem t_X2_step_73 {ε : Et} {κ : Kt} {z : Rs} (C : Cx ε κ cX2_step 2 RX2 4) (K : Ret ε κ cX2_step (some .int) 0 0 (PI ε z)) (t0 : Int32) (σ : St) (ok : b_X2_step_73 t0 σ = some z) : G ε κ 0 0 73 [] [.int t0] (WX ε σ) := by
  unfold b_X2_step_73 at ok
  exact K.2 .int _ _ _ _ rfl dX2_step_73 rfl (pi_ok ok)
def f_X2_step (x1 : Int32) (σ : St) : Option Rs := (if (σ.1 5 2) = (0 : Int32) then bd (f_X2_stepMark x1 σ) (fun r2 s3 => some (r2, s3)) else (if (σ.1 5 2) = (1 : Int32) then bd (f_X2_stepName x1 σ) (fun r6 s7 => some (r6, s7)) else (if (σ.1 5 2) = (2 : Int32) then bd (f_X2_stepLetters x1 σ) (fun r10 s11 => some (r10, s11)) else (if (σ.1 5 2) = (3 : Int32) then (if x1 = (43 : Int32) then bd (f_X2_enter (4 : Int32) σ) (fun r15 s16 => b_X2_step_73 r15 s16) else b_X2_step_73 (2 : Int32) σ) else (if (σ.1 5 2) = (4 : Int32) then bd (f_X2_stepBehindPlus x1 σ) (fun r19 s20 => some (r19, s20)) else bd (f_X2_stepQualities x1 σ) (fun r22 s23 => some (r22, s23)))))))
set_option maxRecDepth 10000 in
set_option maxHeartbeats 1000000 in
theorem tf_X2_step {ε : Et} {κ : Kt} {z : Rs} (C : Cx ε κ cX2_step 2 RX2 4) (K : Ret ε κ cX2_step (some .int) 0 0 (PI ε z)) (x1 : Int32) (σ : St) (ok : f_X2_step x1 σ = some z) : G ε κ 0 0 0 [(0, .ref (ad ε 5)), (1, .int x1)] [] (WX ε σ) := by
  unfold f_X2_step at ok
  refine g_aload_n C dX2_step_0 rfl 0 rfl ?_
  refine q_X2_49 C dX2_step_1 ?_
  by_cases c1 : (σ.1 5 2) = (0 : Int32)
  · replace ok := ok_t c1 ok
    refine g_tabIn (tgt := 40) C dX2_step_4 (by rw [c1]; decide) (by rw [c1]; decide) (by rw [c1]; rfl) (by decide) ?_
    refine g_aload_n C dX2_step_40 rfl 0 rfl ?_
    refine g_iload_n C dX2_step_41 rfl 1 rfl ?_
    obtain ⟨r2, s3, e4, ok⟩ := bd_ok ok
    refine q_cI C [.int x1] (c_X2_stepMark e4) wv_X2_67 (by decide) (lt_N (by decide)) wx_X2 rfl rfl rfl (Nat.le_of_ble_eq_true rfl) dX2_step_42 ?_
    exact K.2 .int _ _ _ _ rfl dX2_step_45 rfl (pi_ok ok)
  · replace ok := ok_f c1 ok
    by_cases c5 : (σ.1 5 2) = (1 : Int32)
    · replace ok := ok_t c5 ok
      refine g_tabIn (tgt := 46) C dX2_step_4 (by rw [c5]; decide) (by rw [c5]; decide) (by rw [c5]; rfl) (by decide) ?_
      refine g_aload_n C dX2_step_46 rfl 0 rfl ?_
      refine g_iload_n C dX2_step_47 rfl 1 rfl ?_
      obtain ⟨r6, s7, e8, ok⟩ := bd_ok ok
      refine q_cI C [.int x1] (c_X2_stepName e8) wv_X2_70 (by decide) (lt_N (by decide)) wx_X2 rfl rfl rfl (Nat.le_of_ble_eq_true rfl) dX2_step_48 ?_
      exact K.2 .int _ _ _ _ rfl dX2_step_51 rfl (pi_ok ok)
    · replace ok := ok_f c5 ok
      by_cases c9 : (σ.1 5 2) = (2 : Int32)
      · replace ok := ok_t c9 ok
        refine g_tabIn (tgt := 52) C dX2_step_4 (by rw [c9]; decide) (by rw [c9]; decide) (by rw [c9]; rfl) (by decide) ?_
        refine g_aload_n C dX2_step_52 rfl 0 rfl ?_
        refine g_iload_n C dX2_step_53 rfl 1 rfl ?_
        obtain ⟨r10, s11, e12, ok⟩ := bd_ok ok
        refine q_cI C [.int x1] (c_X2_stepLetters e12) wv_X2_73 (by decide) (lt_N (by decide)) wx_X2 rfl rfl rfl (Nat.le_of_ble_eq_true rfl) dX2_step_54 ?_
        exact K.2 .int _ _ _ _ rfl dX2_step_57 rfl (pi_ok ok)
      · replace ok := ok_f c9 ok
        by_cases c13 : (σ.1 5 2) = (3 : Int32)
        · replace ok := ok_t c13 ok
          refine g_tabIn (tgt := 58) C dX2_step_4 (by rw [c13]; decide) (by rw [c13]; decide) (by rw [c13]; rfl) (by decide) ?_
          refine g_iload_n C dX2_step_58 rfl 1 rfl ?_
          refine g_bipush (v := 43) C dX2_step_59 (by decide) ?_
          refine g_icmp_ne (tgt := 72) C dX2_step_61 (by decide) (fun c14 => ?_) (fun c14 => ?_)
          · replace ok := ok_f c14 ok
            refine g_iconst (v := 2) C dX2_step_72 (by decide) ?_
            refine g_pick (lv' := []) ?_ [] rfl
            exact t_X2_step_73 C K _ _ ok
          · replace ok := ok_t c14 ok
            refine g_aload_n C dX2_step_64 rfl 0 rfl ?_
            refine g_iconst (v := 4) C dX2_step_65 (by decide) ?_
            obtain ⟨r15, s16, e17, ok⟩ := bd_ok ok
            refine q_cI C [.int (4 : Int32)] (c_X2_enter e17) wv_X2_26 (by decide) (lt_N (by decide)) wx_X2 rfl rfl rfl (Nat.le_of_ble_eq_true rfl) dX2_step_66 ?_
            refine g_goto (tgt := 73) C dX2_step_69 (by decide) ?_
            refine g_pick (lv' := []) ?_ [] rfl
            exact t_X2_step_73 C K _ _ ok
        · replace ok := ok_f c13 ok
          by_cases c18 : (σ.1 5 2) = (4 : Int32)
          · replace ok := ok_t c18 ok
            refine g_tabIn (tgt := 74) C dX2_step_4 (by rw [c18]; decide) (by rw [c18]; decide) (by rw [c18]; rfl) (by decide) ?_
            refine g_aload_n C dX2_step_74 rfl 0 rfl ?_
            refine g_iload_n C dX2_step_75 rfl 1 rfl ?_
            obtain ⟨r19, s20, e21, ok⟩ := bd_ok ok
            refine q_cI C [.int x1] (c_X2_stepBehindPlus e21) wv_X2_76 (by decide) (lt_N (by decide)) wx_X2 rfl rfl rfl (Nat.le_of_ble_eq_true rfl) dX2_step_76 ?_
            exact K.2 .int _ _ _ _ rfl dX2_step_79 rfl (pi_ok ok)
          · replace ok := ok_f c18 ok
            refine g_tabOut (tgt := 80) C dX2_step_4 (tab_out 0 4 (by decide) (fun k h1k h2k => ?_)) (by decide) ?_
            · rcases (show k = 0 ∨ k = 1 ∨ k = 2 ∨ k = 3 ∨ k = 4 by omega) with rfl | rfl | rfl | rfl | rfl
              · exact c1
              · exact c5
              · exact c9
              · exact c13
              · exact c18
            · refine g_aload_n C dX2_step_80 rfl 0 rfl ?_
              refine g_iload_n C dX2_step_81 rfl 1 rfl ?_
              obtain ⟨r22, s23, e24, ok⟩ := bd_ok ok
              refine q_cI C [.int x1] (c_X2_stepQualities e24) wv_X2_79 (by decide) (lt_N (by decide)) wx_X2 rfl rfl rfl (Nat.le_of_ble_eq_true rfl) dX2_step_82 ?_
              exact K.2 .int _ _ _ _ rfl dX2_step_85 rfl (pi_ok ok)
theorem c_X2_step {l : Launch} {ε : Et} {σ : St} {z : Rs} {x1 : Int32} (e : f_X2_step x1 σ = some z) : RM l ε yX2_step cX2_step 2 (some .int) 4 0 0 [.ref (ad ε 5), .int x1] (WX ε σ) (PI ε z) := RM.of (by decide) (Nat.le_of_ble_eq_true rfl) (fun κ C K => tf_X2_step C K x1 σ e)
def b_X2_isWhole_50 (t0 : Int32) (σ : St) : Option Rs := gz t0 (some (t0, σ))
set_option maxRecDepth 10000 in
set_option maxHeartbeats 1000000 in
theorem t_X2_isWhole_50 {ε : Et} {κ : Kt} {z : Rs} (C : Cx ε κ cX2_isWhole 1 RX2 3) (K : Ret ε κ cX2_isWhole (some .boolean) 0 0 (PI ε z)) (t0 : Int32) (σ : St) (ok : b_X2_isWhole_50 t0 σ = some z) : G ε κ 0 0 50 [] [.int t0] (WX ε σ) := by
  unfold b_X2_isWhole_50 at ok
  obtain ⟨z1, ok⟩ := gz_ok ok
  exact K.2 .boolean _ _ _ _ rfl dX2_isWhole_50 (nar_b z1) (pi_ok ok)
def b_X2_isWhole_49 (σ : St) : Option Rs := b_X2_isWhole_50 (0 : Int32) σ
set_option maxRecDepth 10000 in
set_option maxHeartbeats 1000000 in
theorem t_X2_isWhole_49 {ε : Et} {κ : Kt} {z : Rs} (C : Cx ε κ cX2_isWhole 1 RX2 3) (K : Ret ε κ cX2_isWhole (some .boolean) 0 0 (PI ε z)) (σ : St) (ok : b_X2_isWhole_49 σ = some z) : G ε κ 0 0 49 [] [] (WX ε σ) := by
  unfold b_X2_isWhole_49 at ok
  refine g_iconst (v := 0) C dX2_isWhole_49 (by decide) ?_
  exact t_X2_isWhole_50 C K _ _ ok
def b_X2_isWhole_29 (t0 : Int32) (σ : St) : Option Rs := gz t0 (some (t0, σ))
set_option maxRecDepth 10000 in
set_option maxHeartbeats 1000000 in
theorem t_X2_isWhole_29 {ε : Et} {κ : Kt} {z : Rs} (C : Cx ε κ cX2_isWhole 1 RX2 3) (K : Ret ε κ cX2_isWhole (some .boolean) 0 0 (PI ε z)) (t0 : Int32) (σ : St) (ok : b_X2_isWhole_29 t0 σ = some z) : G ε κ 0 0 29 [] [.int t0] (WX ε σ) := by
  unfold b_X2_isWhole_29 at ok
  obtain ⟨z1, ok⟩ := gz_ok ok
  exact K.2 .boolean _ _ _ _ rfl dX2_isWhole_29 (nar_b z1) (pi_ok ok)
def b_X2_isWhole_28 (σ : St) : Option Rs := b_X2_isWhole_29 (0 : Int32) σ
set_option maxRecDepth 10000 in
set_option maxHeartbeats 1000000 in
theorem t_X2_isWhole_28 {ε : Et} {κ : Kt} {z : Rs} (C : Cx ε κ cX2_isWhole 1 RX2 3) (K : Ret ε κ cX2_isWhole (some .boolean) 0 0 (PI ε z)) (σ : St) (ok : b_X2_isWhole_28 σ = some z) : G ε κ 0 0 28 [] [] (WX ε σ) := by
  unfold b_X2_isWhole_28 at ok
  refine g_iconst (v := 0) C dX2_isWhole_28 (by decide) ?_
  exact t_X2_isWhole_29 C K _ _ ok
def f_X2_isWhole (σ : St) : Option Rs := (if (σ.1 5 1) = 0 then (if (σ.1 5 2) = 0 then bd (f_X3_count σ.2.2.2.1 σ) (fun r8 s9 => (if r8 ≤ 0 then b_X2_isWhole_28 s9 else b_X2_isWhole_29 (1 : Int32) s9)) else b_X2_isWhole_28 σ) else (if (σ.1 5 2) = (2 : Int32) then bd (f_X2_mayEndHere σ) (fun r3 s4 => (if r3 = 0 then b_X2_isWhole_49 s4 else b_X2_isWhole_50 (1 : Int32) s4)) else b_X2_isWhole_49 σ))
set_option maxRecDepth 10000 in
set_option maxHeartbeats 1000000 in
theorem tf_X2_isWhole {ε : Et} {κ : Kt} {z : Rs} (C : Cx ε κ cX2_isWhole 1 RX2 3) (K : Ret ε κ cX2_isWhole (some .boolean) 0 0 (PI ε z)) (σ : St) (ok : f_X2_isWhole σ = some z) : G ε κ 0 0 0 [(0, .ref (ad ε 5))] [] (WX ε σ) := by
  unfold f_X2_isWhole at ok
  refine g_aload_n C dX2_isWhole_0 rfl 0 rfl ?_
  refine q_X2_18 C dX2_isWhole_1 ?_
  refine g_if_ne (tgt := 30) C dX2_isWhole_4 (by decide) (fun c1 => ?_) (fun c1 => ?_)
  · replace ok := ok_f c1 ok
    refine g_aload_n C dX2_isWhole_30 rfl 0 rfl ?_
    refine q_X2_49 C dX2_isWhole_31 ?_
    refine g_iconst (v := 2) C dX2_isWhole_34 (by decide) ?_
    refine g_icmp_ne (tgt := 49) C dX2_isWhole_35 (by decide) (fun c2 => ?_) (fun c2 => ?_)
    · replace ok := ok_f c2 ok
      refine g_pick (lv' := []) ?_ [] rfl
      exact t_X2_isWhole_49 C K _ ok
    · replace ok := ok_t c2 ok
      refine g_aload_n C dX2_isWhole_38 rfl 0 rfl ?_
      obtain ⟨r3, s4, e5, ok⟩ := bd_ok ok
      refine q_cI C [] (c_X2_mayEndHere e5) wv_X2_55 (by decide) (lt_N (by decide)) wx_X2 rfl rfl rfl (Nat.le_of_ble_eq_true rfl) dX2_isWhole_39 ?_
      refine g_if_eq (tgt := 49) C dX2_isWhole_42 (by decide) (fun c6 => ?_) (fun c6 => ?_)
      · replace ok := ok_t c6 ok
        refine g_pick (lv' := []) ?_ [] rfl
        exact t_X2_isWhole_49 C K _ ok
      · replace ok := ok_f c6 ok
        refine g_iconst (v := 1) C dX2_isWhole_45 (by decide) ?_
        refine g_goto (tgt := 50) C dX2_isWhole_46 (by decide) ?_
        refine g_pick (lv' := []) ?_ [] rfl
        exact t_X2_isWhole_50 C K _ _ ok
  · replace ok := ok_t c1 ok
    refine g_aload_n C dX2_isWhole_7 rfl 0 rfl ?_
    refine q_X2_49 C dX2_isWhole_8 ?_
    refine g_if_ne (tgt := 28) C dX2_isWhole_11 (by decide) (fun c7 => ?_) (fun c7 => ?_)
    · replace ok := ok_f c7 ok
      refine g_pick (lv' := []) ?_ [] rfl
      exact t_X2_isWhole_28 C K _ ok
    · replace ok := ok_t c7 ok
      refine g_aload_n C dX2_isWhole_14 rfl 0 rfl ?_
      refine q_X2_12 C dX2_isWhole_15 ?_
      obtain ⟨r8, s9, e10, ok⟩ := bd_ok ok
      refine q_cI C [] (c_X3_count e10) wv_X2_52 (by decide) (bs_lt σ.2.2.2.1) (wx_X3 σ.2.2.2.1) rfl rfl rfl (Nat.le_of_ble_eq_true rfl) dX2_isWhole_18 ?_
      refine g_if_le (tgt := 28) C dX2_isWhole_21 (by decide) (fun c11 => ?_) (fun c11 => ?_)
      · replace ok := ok_t c11 ok
        refine g_pick (lv' := []) ?_ [] rfl
        exact t_X2_isWhole_28 C K _ ok
      · replace ok := ok_f c11 ok
        refine g_iconst (v := 1) C dX2_isWhole_24 (by decide) ?_
        refine g_goto (tgt := 29) C dX2_isWhole_25 (by decide) ?_
        refine g_pick (lv' := []) ?_ [] rfl
        exact t_X2_isWhole_29 C K _ _ ok
theorem c_X2_isWhole {l : Launch} {ε : Et} {σ : St} {z : Rs} (e : f_X2_isWhole σ = some z) : RM l ε yX2_isWhole cX2_isWhole 1 (some .boolean) 3 0 0 [.ref (ad ε 5)] (WX ε σ) (PI ε z) := RM.of (by decide) (Nat.le_of_ble_eq_true rfl) (fun κ C K => tf_X2_isWhole C K σ e)
def b_X2_parse_90 (p1 : Nat) (t0 : Int32) (σ : St) : Option Rs := some (t0, σ)
set_option maxRecDepth 10000 in
set_option maxHeartbeats 1000000 in
theorem t_X2_parse_90 {ε : Et} {κ : Kt} {z : Rs} (p1 : Nat) (h_p1 : Rw p1) (C : Cx ε κ cX2_parse 5 RX2 5) (K : Ret ε κ cX2_parse (some .int) 0 0 (PI ε z)) (t0 : Int32) (σ : St) (ok : b_X2_parse_90 p1 t0 σ = some z) : G ε κ 0 0 90 [] [.int t0] (WX ε σ) := by
  unfold b_X2_parse_90 at ok
  exact K.2 .int _ _ _ _ rfl dX2_parse_90 rfl (pi_ok ok)
def b_X2_parse_32 (p1 : Nat) (k32 : Int32 → St → Option Rs) (x3 : Int32) (σ : St) : Option Rs := bd (f_X4_size p1 σ) (fun r1 s2 => (if r1 ≤ x3 then bd (f_X4_size p1 s2) (fun r5 s6 => nx (sS s6 5 4 r5) (fun s8 => bd (f_X2_isWhole s8) (fun r10 s11 => (if r10 = 0 then b_X2_parse_90 p1 (1 : Int32) s11 else b_X2_parse_90 p1 (0 : Int32) s11)))) else bd (f_X4_at p1 x3 s2) (fun r14 s15 => bd (f_X2_step r14 s15) (fun r17 s18 => (if r17 = 0 then nx (x3 + (1 : Int32)) (fun y21 => k32 y21 s18) else nx (sS s18 5 4 x3) (fun s23 => some (r17, s23)))))))
set_option maxRecDepth 10000 in
set_option maxHeartbeats 1000000 in
theorem t_X2_parse_32 {ε : Et} {κ : Kt} {z : Rs} (p1 : Nat) (h_p1 : Rw p1) (C : Cx ε κ cX2_parse 5 RX2 5) (K : Ret ε κ cX2_parse (some .int) 0 0 (PI ε z)) (k32 : Int32 → St → Option Rs) (g32 : ∀ (x3 : Int32) (σ : St), k32 x3 σ = some z → G ε κ 0 0 32 [(0, .ref (ad ε 5)), (1, .ref (ad ε p1)), (3, .int x3)] [] (WX ε σ)) (x3 : Int32) (σ : St) (ok : b_X2_parse_32 p1 k32 x3 σ = some z) : G ε κ 0 0 32 [(0, .ref (ad ε 5)), (1, .ref (ad ε p1)), (3, .int x3)] [] (WX ε σ) := by
  unfold b_X2_parse_32 at ok
  refine g_iload_n C dX2_parse_32 rfl 2 rfl ?_
  refine g_aload_n C dX2_parse_33 rfl 1 rfl ?_
  obtain ⟨r1, s2, e3, ok⟩ := bd_ok ok
  refine q_cI C [] (c_X4_size h_p1 e3) wv_X2_30 (by decide) (rw_lt h_p1) (wx_X4 h_p1) rfl rfl rfl (Nat.le_of_ble_eq_true rfl) dX2_parse_34 ?_
  refine g_icmp_ge (tgt := 70) C dX2_parse_37 (by decide) (fun c4 => ?_) (fun c4 => ?_)
  · replace ok := ok_t c4 ok
    refine g_aload_n C dX2_parse_70 rfl 0 rfl ?_
    refine g_aload_n C dX2_parse_71 rfl 1 rfl ?_
    obtain ⟨r5, s6, e7, ok⟩ := bd_ok ok
    refine q_cI C [] (c_X4_size h_p1 e7) wv_X2_30 (by decide) (rw_lt h_p1) (wx_X4 h_p1) rfl rfl rfl (Nat.le_of_ble_eq_true rfl) dX2_parse_72 ?_
    refine p_X2_42 C dX2_parse_75 (fun s8 e9 => ?_)
    replace ok := nx_ok ok s8 e9
    refine g_aload_n C dX2_parse_78 rfl 0 rfl ?_
    obtain ⟨r10, s11, e12, ok⟩ := bd_ok ok
    refine q_cI C [] (c_X2_isWhole e12) wv_X2_45 (by decide) (lt_N (by decide)) wx_X2 rfl rfl rfl (Nat.le_of_ble_eq_true rfl) dX2_parse_79 ?_
    refine g_if_eq (tgt := 89) C dX2_parse_82 (by decide) (fun c13 => ?_) (fun c13 => ?_)
    · replace ok := ok_t c13 ok
      refine g_iconst (v := 1) C dX2_parse_89 (by decide) ?_
      refine g_pick (lv' := []) ?_ [] rfl
      exact t_X2_parse_90 p1 h_p1 C K _ _ ok
    · replace ok := ok_f c13 ok
      refine g_iconst (v := 0) C dX2_parse_85 (by decide) ?_
      refine g_goto (tgt := 90) C dX2_parse_86 (by decide) ?_
      refine g_pick (lv' := []) ?_ [] rfl
      exact t_X2_parse_90 p1 h_p1 C K _ _ ok
  · replace ok := ok_f c4 ok
    refine g_aload_n C dX2_parse_40 rfl 0 rfl ?_
    refine g_aload_n C dX2_parse_41 rfl 1 rfl ?_
    refine g_iload_n C dX2_parse_42 rfl 2 rfl ?_
    obtain ⟨r14, s15, e16, ok⟩ := bd_ok ok
    refine q_cI C [.int x3] (c_X4_at h_p1 e16) wv_X2_36 (by decide) (rw_lt h_p1) (wx_X4 h_p1) rfl rfl rfl (Nat.le_of_ble_eq_true rfl) dX2_parse_43 ?_
    obtain ⟨r17, s18, e19, ok⟩ := bd_ok ok
    refine q_cI C [.int r14] (c_X2_step e19) wv_X2_39 (by decide) (lt_N (by decide)) wx_X2 rfl rfl rfl (Nat.le_of_ble_eq_true rfl) dX2_parse_46 ?_
    refine g_istore C [(4, .int r17), (0, .ref (ad ε 5)), (1, .ref (ad ε p1)), (3, .int x3)] dX2_parse_49 (by decide) rfl ?_
    refine g_iload C dX2_parse_51 0 rfl ?_
    refine g_if_eq (tgt := 64) C dX2_parse_53 (by decide) (fun c20 => ?_) (fun c20 => ?_)
    · replace ok := ok_t c20 ok
      obtain ⟨y21, e22⟩ : ∃ y : Int32, y = (x3 + (1 : Int32)) := ⟨_, rfl⟩
      replace ok := nx_ok ok y21 e22
      refine g_iinc (v := y21) C [(3, .int y21), (4, .int r17), (0, .ref (ad ε 5)), (1, .ref (ad ε p1))] dX2_parse_64 3 rfl (by rw [e22]; rfl) (by decide) rfl ?_
      refine g_goto (tgt := 32) C dX2_parse_67 (by decide) ?_
      refine g_pick (lv' := [(0, .ref (ad ε 5)), (1, .ref (ad ε p1)), (3, .int y21)]) ?_ [2, 3, 0] rfl
      exact g32 _ _ ok
    · replace ok := ok_f c20 ok
      refine g_aload_n C dX2_parse_56 rfl 1 rfl ?_
      refine g_iload_n C dX2_parse_57 rfl 3 rfl ?_
      refine p_X2_42 C dX2_parse_58 (fun s23 e24 => ?_)
      replace ok := nx_ok ok s23 e24
      refine g_iload C dX2_parse_61 0 rfl ?_
      exact K.2 .int _ _ _ _ rfl dX2_parse_63 rfl (pi_ok ok)
def l_X2_parse_32 (p1 : Nat) : Nat → Int32 → St → Option Rs
  | 0 => fun _ _ => none
  | n + 1 => fun x3 σ => b_X2_parse_32 p1 (l_X2_parse_32 p1 n) x3 σ
theorem tl_X2_parse_32 {ε : Et} {κ : Kt} {z : Rs} (p1 : Nat) (h_p1 : Rw p1) (C : Cx ε κ cX2_parse 5 RX2 5) (K : Ret ε κ cX2_parse (some .int) 0 0 (PI ε z)) : ∀ (n : Nat) (x3 : Int32) (σ : St), l_X2_parse_32 p1 n x3 σ = some z → G ε κ 0 0 32 [(0, .ref (ad ε 5)), (1, .ref (ad ε p1)), (3, .int x3)] [] (WX ε σ) := by
  intro n
  induction n with
  | zero =>
    intro x3 σ ok
    cases ok
  | succ n ih =>
    intro x3 σ ok
    exact t_X2_parse_32 p1 h_p1 C K (l_X2_parse_32 p1 n) ih x3 σ ok
def b_X2_parse_21 (p1 : Nat) (t0 : Int32) (σ : St) : Option Rs := bd (f_X3_restart σ.2.2.2.1 t0 σ) (fun r1 s2 => bd (f_X2_enter (0 : Int32) s2) (fun r4 s5 => l_X2_parse_32 p1 FU (0 : Int32) s5))
set_option maxRecDepth 10000 in
set_option maxHeartbeats 1000000 in
theorem t_X2_parse_21 {ε : Et} {κ : Kt} {z : Rs} (p1 : Nat) (h_p1 : Rw p1) (C : Cx ε κ cX2_parse 5 RX2 5) (K : Ret ε κ cX2_parse (some .int) 0 0 (PI ε z)) (t0 : Int32) (σ : St) (ok : b_X2_parse_21 p1 t0 σ = some z) : G ε κ 0 0 21 [(0, .ref (ad ε 5)), (1, .ref (ad ε p1))] [.int t0, .ref (ad ε (bs σ.2.2.2.1))] (WX ε σ) := by
  unfold b_X2_parse_21 at ok
  obtain ⟨r1, s2, e3, ok⟩ := bd_ok ok
  refine q_cV C [.int t0] (c_X3_restart e3) wv_X2_22 (by decide) (bs_lt σ.2.2.2.1) (wx_X3 σ.2.2.2.1) rfl rfl rfl (Nat.le_of_ble_eq_true rfl) dX2_parse_21 ?_
  refine g_aload_n C dX2_parse_24 rfl 0 rfl ?_
  refine g_iconst (v := 0) C dX2_parse_25 (by decide) ?_
  obtain ⟨r4, s5, e6, ok⟩ := bd_ok ok
  refine q_cI C [.int (0 : Int32)] (c_X2_enter e6) wv_X2_26 (by decide) (lt_N (by decide)) wx_X2 rfl rfl rfl (Nat.le_of_ble_eq_true rfl) dX2_parse_26 ?_
  refine g_pop C dX2_parse_29 rfl ?_
  refine g_iconst (v := 0) C dX2_parse_30 (by decide) ?_
  refine g_istore_n C [(3, .int (0 : Int32)), (0, .ref (ad ε 5)), (1, .ref (ad ε p1))] dX2_parse_31 rfl (by decide) rfl ?_
  refine g_pick (lv' := [(0, .ref (ad ε 5)), (1, .ref (ad ε p1)), (3, .int (0 : Int32))]) ?_ [1, 2, 0] rfl
  exact tl_X2_parse_32 p1 h_p1 C K FU _ _ ok
def f_X2_parse (p1 : Nat) (x2 : Int32) (σ : St) : Option Rs := nx (sS σ 5 1 x2) (fun s1 => (if (s1.1 5 1) = 0 then b_X2_parse_21 p1 (1 : Int32) s1 else b_X2_parse_21 p1 (0 : Int32) s1))
set_option maxRecDepth 10000 in
set_option maxHeartbeats 1000000 in
theorem tf_X2_parse {ε : Et} {κ : Kt} {z : Rs} (p1 : Nat) (h_p1 : Rw p1) (C : Cx ε κ cX2_parse 5 RX2 5) (K : Ret ε κ cX2_parse (some .int) 0 0 (PI ε z)) (x2 : Int32) (σ : St) (ok : f_X2_parse p1 x2 σ = some z) : G ε κ 0 0 0 [(0, .ref (ad ε 5)), (1, .ref (ad ε p1)), (2, .int x2)] [] (WX ε σ) := by
  unfold f_X2_parse at ok
  refine g_aload_n C dX2_parse_0 rfl 0 rfl ?_
  refine g_iload_n C dX2_parse_1 rfl 2 rfl ?_
  refine p_X2_18 C dX2_parse_2 (fun s1 e2 => ?_)
  replace ok := nx_ok ok s1 e2
  refine g_aload_n C dX2_parse_5 rfl 0 rfl ?_
  refine q_X2_12 C dX2_parse_6 ?_
  refine g_aload_n C dX2_parse_9 rfl 0 rfl ?_
  refine q_X2_18 C dX2_parse_10 ?_
  refine g_if_ne (tgt := 20) C dX2_parse_13 (by decide) (fun c3 => ?_) (fun c3 => ?_)
  · replace ok := ok_f c3 ok
    refine g_iconst (v := 0) C dX2_parse_20 (by decide) ?_
    refine g_pick (lv' := [(0, .ref (ad ε 5)), (1, .ref (ad ε p1))]) ?_ [0, 1] rfl
    exact t_X2_parse_21 p1 h_p1 C K _ _ ok
  · replace ok := ok_t c3 ok
    refine g_iconst (v := 1) C dX2_parse_16 (by decide) ?_
    refine g_goto (tgt := 21) C dX2_parse_17 (by decide) ?_
    refine g_pick (lv' := [(0, .ref (ad ε 5)), (1, .ref (ad ε p1))]) ?_ [0, 1] rfl
    exact t_X2_parse_21 p1 h_p1 C K _ _ ok
theorem c_X2_parse {l : Launch} {ε : Et} {σ : St} {z : Rs} {p1 : Nat} {x2 : Int32} (h_p1 : Rw p1) (e : f_X2_parse p1 x2 σ = some z) : RM l ε yX2_parse cX2_parse 5 (some .int) 5 0 0 [.ref (ad ε 5), .ref (ad ε p1), .int x2] (WX ε σ) (PI ε z) := RM.of (by decide) (Nat.le_of_ble_eq_true rfl) (fun κ C K => tf_X2_parse p1 h_p1 C K x2 σ e)
def f_X2_faultAt (σ : St) : Option Rs := some ((σ.1 5 4), σ)
set_option maxRecDepth 10000 in
set_option maxHeartbeats 1000000 in
theorem tf_X2_faultAt {ε : Et} {κ : Kt} {z : Rs} (C : Cx ε κ cX2_faultAt 1 RX2 0) (K : Ret ε κ cX2_faultAt (some .int) 0 0 (PI ε z)) (σ : St) (ok : f_X2_faultAt σ = some z) : G ε κ 0 0 0 [(0, .ref (ad ε 5))] [] (WX ε σ) := by
  unfold f_X2_faultAt at ok
  refine g_aload_n C dX2_faultAt_0 rfl 0 rfl ?_
  refine q_X2_42 C dX2_faultAt_1 ?_
  exact K.2 .int _ _ _ _ rfl dX2_faultAt_4 rfl (pi_ok ok)
theorem c_X2_faultAt {l : Launch} {ε : Et} {σ : St} {z : Rs} (e : f_X2_faultAt σ = some z) : RM l ε yX2_faultAt cX2_faultAt 1 (some .int) 0 0 0 [.ref (ad ε 5)] (WX ε σ) (PI ε z) := RM.of (by decide) (Nat.le_of_ble_eq_true rfl) (fun κ C K => tf_X2_faultAt C K σ e)
