def b_X8_feed_22 (σ : St) : Option Rx := some (1, (0 : Int32), σ)
set_option maxRecDepth 10000 in
set_option maxHeartbeats 1000000 in
theorem t_X8_feed_22 {ε : Et} {κ : Kt} {z : Rx} (C : Cx ε κ cX8_feed 5 RX8 7) (K : ∀ (pc : Nat) (lv : List (Nat × Value)) (r : Int32) (σ : St), decode cX8_feed pc = .ok (.ireturn, 1) → some (0, r, σ) = some z → G ε κ 0 0 pc lv [.int r] (WX ε σ)) (T22 : ∀ (lv : List (Nat × Value)) (σ : St), some (1, (0 : Int32), σ) = some z → G ε κ 0 0 22 lv [] (WX ε σ)) (σ : St) (ok : b_X8_feed_22 σ = some z) : G ε κ 0 0 22 [] [] (WX ε σ) := by
  unfold b_X8_feed_22 at ok
  exact T22 _ _ ok
def b_X8_feed_35 (k35 : Int32 → Int64 → Int32 → St → Option Rx) (x1 : Int32) (x2 : Int64) (x4 : Int32) (σ : St) : Option Rx := (if x1 ≤ x4 then bd (f_X4_size 1 σ) (fun r2 s3 => some (0, r2, s3)) else bd (f_X4_add 1 ((x2.toUInt64 >>> (((8 : Int32) * x4).toInt64.toUInt64 &&& Int64.toUInt64 63)).toInt64.toInt32 &&& (255 : Int32)) σ) (fun r5 s6 => nx (x4 + (1 : Int32)) (fun y8 => k35 x1 x2 y8 s6)))
set_option maxRecDepth 10000 in
set_option maxHeartbeats 1000000 in
theorem t_X8_feed_35 {ε : Et} {κ : Kt} {z : Rx} (C : Cx ε κ cX8_feed 5 RX8 7) (K : ∀ (pc : Nat) (lv : List (Nat × Value)) (r : Int32) (σ : St), decode cX8_feed pc = .ok (.ireturn, 1) → some (0, r, σ) = some z → G ε κ 0 0 pc lv [.int r] (WX ε σ)) (T22 : ∀ (lv : List (Nat × Value)) (σ : St), some (1, (0 : Int32), σ) = some z → G ε κ 0 0 22 lv [] (WX ε σ)) (k35 : Int32 → Int64 → Int32 → St → Option Rx) (g35 : ∀ (x1 : Int32) (x2 : Int64) (x4 : Int32) (σ : St), k35 x1 x2 x4 σ = some z → G ε κ 0 0 35 [(0, .ref (ad ε 0)), (1, .int x1), (2, .long x2), (4, .int x4)] [] (WX ε σ)) (x1 : Int32) (x2 : Int64) (x4 : Int32) (σ : St) (ok : b_X8_feed_35 k35 x1 x2 x4 σ = some z) : G ε κ 0 0 35 [(0, .ref (ad ε 0)), (1, .int x1), (2, .long x2), (4, .int x4)] [] (WX ε σ) := by
  unfold b_X8_feed_35 at ok
  refine g_iload C dX8_feed_35 3 rfl ?_
  refine g_iload_n C dX8_feed_37 rfl 1 rfl ?_
  refine g_icmp_ge (tgt := 66) C dX8_feed_38 (by decide) (fun c1 => ?_) (fun c1 => ?_)
  · replace ok := ok_t c1 ok
    refine g_aload_n C dX8_feed_66 rfl 0 rfl ?_
    refine q_X8_14 C dX8_feed_67 ?_
    obtain ⟨r2, s3, e4, ok⟩ := bd_ok ok
    refine q_cI C [] (c_X4_size rw_1 e4) wv_X8_74 (by decide) (rw_lt rw_1) (wx_X4 rw_1) rfl rfl rfl (Nat.le_of_ble_eq_true rfl) dX8_feed_70 ?_
    exact K 73 _ _ _ dX8_feed_73 ok
  · replace ok := ok_f c1 ok
    refine g_aload_n C dX8_feed_41 rfl 0 rfl ?_
    refine q_X8_14 C dX8_feed_42 ?_
    refine g_lload_n C dX8_feed_45 rfl 2 rfl ?_
    refine g_bipush (v := 8) C dX8_feed_46 (by decide) ?_
    refine g_iload C dX8_feed_48 3 rfl ?_
    refine g_imul C dX8_feed_50 ?_
    refine g_lushr C dX8_feed_51 rfl ?_
    refine g_l2i C dX8_feed_52 rfl ?_
    refine g_sipush (v := 255) C dX8_feed_53 (by decide) ?_
    refine g_iand C dX8_feed_56 ?_
    obtain ⟨r5, s6, e7, ok⟩ := bd_ok ok
    refine q_cV C [.int ((x2.toUInt64 >>> (((8 : Int32) * x4).toInt64.toUInt64 &&& Int64.toUInt64 63)).toInt64.toInt32 &&& (255 : Int32))] (c_X4_add rw_1 e7) wv_X8_71 (by decide) (rw_lt rw_1) (wx_X4 rw_1) rfl rfl rfl (Nat.le_of_ble_eq_true rfl) dX8_feed_57 ?_
    obtain ⟨y8, e9⟩ : ∃ y : Int32, y = (x4 + (1 : Int32)) := ⟨_, rfl⟩
    replace ok := nx_ok ok y8 e9
    refine g_iinc (v := y8) C [(4, .int y8), (0, .ref (ad ε 0)), (1, .int x1), (2, .long x2)] dX8_feed_60 3 rfl (by rw [e9]; rfl) (by decide) rfl ?_
    refine g_goto (tgt := 35) C dX8_feed_63 (by decide) ?_
    refine g_pick (lv' := [(0, .ref (ad ε 0)), (1, .int x1), (2, .long x2), (4, .int y8)]) ?_ [1, 2, 3, 0] rfl
    exact g35 _ _ _ _ ok
def l_X8_feed_35 : Nat → Int32 → Int64 → Int32 → St → Option Rx
  | 0 => fun _ _ _ _ => none
  | n + 1 => fun x1 x2 x4 σ => b_X8_feed_35 (l_X8_feed_35 n) x1 x2 x4 σ
theorem tl_X8_feed_35 {ε : Et} {κ : Kt} {z : Rx} (C : Cx ε κ cX8_feed 5 RX8 7) (K : ∀ (pc : Nat) (lv : List (Nat × Value)) (r : Int32) (σ : St), decode cX8_feed pc = .ok (.ireturn, 1) → some (0, r, σ) = some z → G ε κ 0 0 pc lv [.int r] (WX ε σ)) (T22 : ∀ (lv : List (Nat × Value)) (σ : St), some (1, (0 : Int32), σ) = some z → G ε κ 0 0 22 lv [] (WX ε σ)) : ∀ (n : Nat) (x1 : Int32) (x2 : Int64) (x4 : Int32) (σ : St), l_X8_feed_35 n x1 x2 x4 σ = some z → G ε κ 0 0 35 [(0, .ref (ad ε 0)), (1, .int x1), (2, .long x2), (4, .int x4)] [] (WX ε σ) := by
  intro n
  induction n with
  | zero =>
    intro x1 x2 x4 σ ok
    cases ok
  | succ n ih =>
    intro x1 x2 x4 σ ok
    exact t_X8_feed_35 C K T22 (l_X8_feed_35 n) ih x1 x2 x4 σ ok
def f_X8_feed (x1 : Int32) (x2 : Int64) (σ : St) : Option Rx := (if x1 < (1 : Int32) then b_X8_feed_22 σ else (if (8 : Int32) < x1 then b_X8_feed_22 σ else bd (f_X4_room 1 σ) (fun r3 s4 => (if x1 ≤ r3 then l_X8_feed_35 FU x1 x2 (0 : Int32) s4 else b_X8_feed_22 s4))))
set_option maxRecDepth 10000 in
set_option maxHeartbeats 1000000 in
theorem tf_X8_feed {ε : Et} {κ : Kt} {z : Rx} (C : Cx ε κ cX8_feed 5 RX8 7) (K : ∀ (pc : Nat) (lv : List (Nat × Value)) (r : Int32) (σ : St), decode cX8_feed pc = .ok (.ireturn, 1) → some (0, r, σ) = some z → G ε κ 0 0 pc lv [.int r] (WX ε σ)) (T22 : ∀ (lv : List (Nat × Value)) (σ : St), some (1, (0 : Int32), σ) = some z → G ε κ 0 0 22 lv [] (WX ε σ)) (x1 : Int32) (x2 : Int64) (σ : St) (ok : f_X8_feed x1 x2 σ = some z) : G ε κ 0 0 0 [(0, .ref (ad ε 0)), (1, .int x1), (2, .long x2)] [] (WX ε σ) := by
  unfold f_X8_feed at ok
  refine g_iload_n C dX8_feed_0 rfl 1 rfl ?_
  refine g_iconst (v := 1) C dX8_feed_1 (by decide) ?_
  refine g_icmp_lt (tgt := 22) C dX8_feed_2 (by decide) (fun c1 => ?_) (fun c1 => ?_)
  · replace ok := ok_t c1 ok
    refine g_pick (lv' := []) ?_ [] rfl
    exact t_X8_feed_22 C K T22 _ ok
  · replace ok := ok_f c1 ok
    refine g_iload_n C dX8_feed_5 rfl 1 rfl ?_
    refine g_bipush (v := 8) C dX8_feed_6 (by decide) ?_
    refine g_icmp_gt (tgt := 22) C dX8_feed_8 (by decide) (fun c2 => ?_) (fun c2 => ?_)
    · replace ok := ok_t c2 ok
      refine g_pick (lv' := []) ?_ [] rfl
      exact t_X8_feed_22 C K T22 _ ok
    · replace ok := ok_f c2 ok
      refine g_iload_n C dX8_feed_11 rfl 1 rfl ?_
      refine g_aload_n C dX8_feed_12 rfl 0 rfl ?_
      refine q_X8_14 C dX8_feed_13 ?_
      obtain ⟨r3, s4, e5, ok⟩ := bd_ok ok
      refine q_cI C [] (c_X4_room rw_1 e5) wv_X8_60 (by decide) (rw_lt rw_1) (wx_X4 rw_1) rfl rfl rfl (Nat.le_of_ble_eq_true rfl) dX8_feed_16 ?_
      refine g_icmp_le (tgt := 32) C dX8_feed_19 (by decide) (fun c6 => ?_) (fun c6 => ?_)
      · replace ok := ok_t c6 ok
        refine g_iconst (v := 0) C dX8_feed_32 (by decide) ?_
        refine g_istore C [(4, .int (0 : Int32)), (0, .ref (ad ε 0)), (1, .int x1), (2, .long x2)] dX8_feed_33 (by decide) rfl ?_
        refine g_pick (lv' := [(0, .ref (ad ε 0)), (1, .int x1), (2, .long x2), (4, .int (0 : Int32))]) ?_ [1, 2, 3, 0] rfl
        exact tl_X8_feed_35 C K T22 FU _ _ _ _ ok
      · replace ok := ok_f c6 ok
        refine g_pick (lv' := []) ?_ [] rfl
        exact t_X8_feed_22 C K T22 _ ok
def f_X8_read (x1 : Int32) (σ : St) : Option Rx := bd (f_X8_isForm x1 σ) (fun r1 s2 => (if r1 = 0 then some (1, (0 : Int32), s2) else bd (f_X2_parse 1 x1 s2) (fun r5 s6 => bd (f_X4_clear 1 s6) (fun r8 s9 => (if r5 = 0 then nx (sD s9 s9.2.2.1) (fun s12 => nx (sR s12 s9.2.2.2.1) (fun s14 => bd (f_X5_forget s14) (fun r16 s17 => bd (f_X3_count s17.2.2.1 s17) (fun r19 s20 => some (0, r19, s20))))) else bd (f_X2_faultAt s9) (fun r22 s23 => nx (sS s23 0 7 r22) (fun s25 => some (0, (-r5), s25))))))))
set_option maxRecDepth 10000 in
set_option maxHeartbeats 1000000 in
theorem tf_X8_read {ε : Et} {κ : Kt} {z : Rx} (C : Cx ε κ cX8_read 3 RX8 7) (K : ∀ (pc : Nat) (lv : List (Nat × Value)) (r : Int32) (σ : St), decode cX8_read pc = .ok (.ireturn, 1) → some (0, r, σ) = some z → G ε κ 0 0 pc lv [.int r] (WX ε σ)) (T7 : ∀ (lv : List (Nat × Value)) (σ : St), some (1, (0 : Int32), σ) = some z → G ε κ 0 0 7 lv [] (WX ε σ)) (x1 : Int32) (σ : St) (ok : f_X8_read x1 σ = some z) : G ε κ 0 0 0 [(0, .ref (ad ε 0)), (1, .int x1)] [] (WX ε σ) := by
  unfold f_X8_read at ok
  refine g_iload_n C dX8_read_0 rfl 1 rfl ?_
  obtain ⟨r1, s2, e3, ok⟩ := bd_ok ok
  refine q_sI C [.int x1] (c_X8_isForm e3) wv_X8_77 (by decide) rfl rfl (Nat.le_of_ble_eq_true rfl) dX8_read_1 ?_
  refine g_if_ne (tgt := 17) C dX8_read_4 (by decide) (fun c4 => ?_) (fun c4 => ?_)
  · replace ok := ok_f c4 ok
    refine g_aload_n C dX8_read_17 rfl 0 rfl ?_
    refine q_X8_24 C dX8_read_18 ?_
    refine g_aload_n C dX8_read_21 rfl 0 rfl ?_
    refine q_X8_14 C dX8_read_22 ?_
    refine g_iload_n C dX8_read_25 rfl 1 rfl ?_
    obtain ⟨r5, s6, e7, ok⟩ := bd_ok ok
    refine q_cI C [.ref (ad ε 1), .int x1] (c_X2_parse rw_1 e7) wv_X8_83 (by decide) (lt_N (by decide)) wx_X2 rfl rfl rfl (Nat.le_of_ble_eq_true rfl) dX8_read_26 ?_
    refine g_istore_n C [(2, .int r5), (0, .ref (ad ε 0)), (1, .int x1)] dX8_read_29 rfl (by decide) rfl ?_
    refine g_aload_n C dX8_read_30 rfl 1 rfl ?_
    refine q_X8_14 C dX8_read_31 ?_
    obtain ⟨r8, s9, e10, ok⟩ := bd_ok ok
    refine q_cV C [] (c_X4_clear rw_1 e10) wv_X8_87 (by decide) (rw_lt rw_1) (wx_X4 rw_1) rfl rfl rfl (Nat.le_of_ble_eq_true rfl) dX8_read_34 ?_
    refine g_iload_n C dX8_read_37 rfl 0 rfl ?_
    refine g_if_eq (tgt := 55) C dX8_read_38 (by decide) (fun c11 => ?_) (fun c11 => ?_)
    · replace ok := ok_t c11 ok
      refine g_aload_n C dX8_read_55 rfl 1 rfl ?_
      refine g_aload_n C dX8_read_56 rfl 1 rfl ?_
      refine q_X8_24 C dX8_read_57 ?_
      refine g_aload_n C dX8_read_60 rfl 1 rfl ?_
      refine q_X8_52 C dX8_read_61 ?_
      refine q_cR C [.ref (ad ε (bs s9.2.2.1))] (c_X2_exchange s9.2.2.1) wv_X8_93 (by decide) (lt_N (by decide)) wx_X2 rfl rfl rfl (Nat.le_of_ble_eq_true rfl) dX8_read_64 ?_
      obtain ⟨s12, e13⟩ : ∃ q : St, q = sD s9 s9.2.2.1 := ⟨_, rfl⟩
      replace ok := nx_ok ok s12 e13
      rw [← e13]
      refine p_X8_52 C s9.2.2.2.1 dX8_read_67 (fun s14 e15 => ?_)
      replace ok := nx_ok ok s14 e15
      refine g_aload_n C dX8_read_70 rfl 1 rfl ?_
      refine q_X8_45 C dX8_read_71 ?_
      obtain ⟨r16, s17, e18, ok⟩ := bd_ok ok
      refine q_cV C [] (c_X5_forget e18) wv_X8_97 (by decide) (lt_N (by decide)) wx_X5 rfl rfl rfl (Nat.le_of_ble_eq_true rfl) dX8_read_74 ?_
      refine g_aload_n C dX8_read_77 rfl 1 rfl ?_
      refine q_X8_52 C dX8_read_78 ?_
      obtain ⟨r19, s20, e21, ok⟩ := bd_ok ok
      refine q_cI C [] (c_X3_count e21) wv_X8_100 (by decide) (bs_lt s17.2.2.1) (wx_X3 s17.2.2.1) rfl rfl rfl (Nat.le_of_ble_eq_true rfl) dX8_read_81 ?_
      exact K 84 _ _ _ dX8_read_84 ok
    · replace ok := ok_f c11 ok
      refine g_aload_n C dX8_read_41 rfl 1 rfl ?_
      refine g_aload_n C dX8_read_42 rfl 1 rfl ?_
      refine q_X8_24 C dX8_read_43 ?_
      obtain ⟨r22, s23, e24, ok⟩ := bd_ok ok
      refine q_cI C [] (c_X2_faultAt e24) wv_X8_90 (by decide) (lt_N (by decide)) wx_X2 rfl rfl rfl (Nat.le_of_ble_eq_true rfl) dX8_read_46 ?_
      refine p_X8_56 C dX8_read_49 (fun s25 e26 => ?_)
      replace ok := nx_ok ok s25 e26
      refine g_iload_n C dX8_read_52 rfl 0 rfl ?_
      refine g_ineg C dX8_read_53 ?_
      exact K 54 _ _ _ dX8_read_54 ok
  · replace ok := ok_t c4 ok
    exact T7 _ _ ok
def f_X8_place (σ : St) : Option Rs := some ((σ.1 0 7), σ)
set_option maxRecDepth 10000 in
set_option maxHeartbeats 1000000 in
theorem tf_X8_place {ε : Et} {κ : Kt} {z : Rs} (C : Cx ε κ cX8_place 1 RX8 0) (K : Ret ε κ cX8_place (some .int) 0 0 (PI ε z)) (σ : St) (ok : f_X8_place σ = some z) : G ε κ 0 0 0 [(0, .ref (ad ε 0))] [] (WX ε σ) := by
  unfold f_X8_place at ok
  refine g_aload_n C dX8_place_0 rfl 0 rfl ?_
  refine q_X8_56 C dX8_place_1 ?_
  exact K.2 .int _ _ _ _ rfl dX8_place_4 rfl (pi_ok ok)
theorem c_X8_place {l : Launch} {ε : Et} {σ : St} {z : Rs} (e : f_X8_place σ = some z) : RM l ε yX8_place cX8_place 1 (some .int) 0 0 0 [.ref (ad ε 0)] (WX ε σ) (PI ε z) := RM.of (by decide) (Nat.le_of_ble_eq_true rfl) (fun κ C K => tf_X8_place C K σ e)
def f_X8_barcode (σ : St) : Option Rs := bd (f_X0_take 1 σ) (fun r1 s2 => bd (f_X4_clear 1 s2) (fun r4 s5 => some (r1, s5)))
set_option maxRecDepth 10000 in
set_option maxHeartbeats 1000000 in
theorem tf_X8_barcode {ε : Et} {κ : Kt} {z : Rs} (C : Cx ε κ cX8_barcode 2 RX8 3) (K : Ret ε κ cX8_barcode (some .int) 0 0 (PI ε z)) (σ : St) (ok : f_X8_barcode σ = some z) : G ε κ 0 0 0 [(0, .ref (ad ε 0))] [] (WX ε σ) := by
  unfold f_X8_barcode at ok
  refine g_aload_n C dX8_barcode_0 rfl 0 rfl ?_
  refine q_X8_31 C dX8_barcode_1 ?_
  refine g_aload_n C dX8_barcode_4 rfl 0 rfl ?_
  refine q_X8_14 C dX8_barcode_5 ?_
  obtain ⟨r1, s2, e3, ok⟩ := bd_ok ok
  refine q_cI C [.ref (ad ε 1)] (c_X0_take rw_1 e3) wv_X8_103 (by decide) (lt_N (by decide)) wx_X0 rfl rfl rfl (Nat.le_of_ble_eq_true rfl) dX8_barcode_8 ?_
  refine g_istore_n C [(1, .int r1), (0, .ref (ad ε 0))] dX8_barcode_11 rfl (by decide) rfl ?_
  refine g_aload_n C dX8_barcode_12 rfl 1 rfl ?_
  refine q_X8_14 C dX8_barcode_13 ?_
  obtain ⟨r4, s5, e6, ok⟩ := bd_ok ok
  refine q_cV C [] (c_X4_clear rw_1 e6) wv_X8_87 (by decide) (rw_lt rw_1) (wx_X4 rw_1) rfl rfl rfl (Nat.le_of_ble_eq_true rfl) dX8_barcode_16 ?_
  refine g_iload_n C dX8_barcode_19 rfl 0 rfl ?_
  exact K.2 .int _ _ _ _ rfl dX8_barcode_20 rfl (pi_ok ok)
theorem c_X8_barcode {l : Launch} {ε : Et} {σ : St} {z : Rs} (e : f_X8_barcode σ = some z) : RM l ε yX8_barcode cX8_barcode 2 (some .int) 3 0 0 [.ref (ad ε 0)] (WX ε σ) (PI ε z) := RM.of (by decide) (Nat.le_of_ble_eq_true rfl) (fun κ C K => tf_X8_barcode C K σ e)
def f_X8_adapter (σ : St) : Option Rs := bd (f_X6_takeAdapter 1 σ) (fun r1 s2 => bd (f_X4_clear 1 s2) (fun r4 s5 => some (r1, s5)))
set_option maxRecDepth 10000 in
set_option maxHeartbeats 1000000 in
theorem tf_X8_adapter {ε : Et} {κ : Kt} {z : Rs} (C : Cx ε κ cX8_adapter 2 RX8 3) (K : Ret ε κ cX8_adapter (some .int) 0 0 (PI ε z)) (σ : St) (ok : f_X8_adapter σ = some z) : G ε κ 0 0 0 [(0, .ref (ad ε 0))] [] (WX ε σ) := by
  unfold f_X8_adapter at ok
  refine g_aload_n C dX8_adapter_0 rfl 0 rfl ?_
  refine q_X8_38 C dX8_adapter_1 ?_
  refine g_aload_n C dX8_adapter_4 rfl 0 rfl ?_
  refine q_X8_14 C dX8_adapter_5 ?_
  obtain ⟨r1, s2, e3, ok⟩ := bd_ok ok
  refine q_cI C [.ref (ad ε 1)] (c_X6_takeAdapter rw_1 e3) wv_X8_107 (by decide) (lt_N (by decide)) wx_X6 rfl rfl rfl (Nat.le_of_ble_eq_true rfl) dX8_adapter_8 ?_
  refine g_istore_n C [(1, .int r1), (0, .ref (ad ε 0))] dX8_adapter_11 rfl (by decide) rfl ?_
  refine g_aload_n C dX8_adapter_12 rfl 1 rfl ?_
  refine q_X8_14 C dX8_adapter_13 ?_
  obtain ⟨r4, s5, e6, ok⟩ := bd_ok ok
  refine q_cV C [] (c_X4_clear rw_1 e6) wv_X8_87 (by decide) (rw_lt rw_1) (wx_X4 rw_1) rfl rfl rfl (Nat.le_of_ble_eq_true rfl) dX8_adapter_16 ?_
  refine g_iload_n C dX8_adapter_19 rfl 0 rfl ?_
  exact K.2 .int _ _ _ _ rfl dX8_adapter_20 rfl (pi_ok ok)
theorem c_X8_adapter {l : Launch} {ε : Et} {σ : St} {z : Rs} (e : f_X8_adapter σ = some z) : RM l ε yX8_adapter cX8_adapter 2 (some .int) 3 0 0 [.ref (ad ε 0)] (WX ε σ) (PI ε z) := RM.of (by decide) (Nat.le_of_ble_eq_true rfl) (fun κ C K => tf_X8_adapter C K σ e)
def b_X8_limits_27 (σ : St) : Option Rs := gz (0 : Int32) (some ((0 : Int32), σ))
set_option maxRecDepth 10000 in
set_option maxHeartbeats 1000000 in
theorem t_X8_limits_27 {ε : Et} {κ : Kt} {z : Rs} (C : Cx ε κ cX8_limits 4 RX8 1) (K : Ret ε κ cX8_limits (some .boolean) 0 0 (PI ε z)) (σ : St) (ok : b_X8_limits_27 σ = some z) : G ε κ 0 0 27 [] [] (WX ε σ) := by
  unfold b_X8_limits_27 at ok
  refine g_iconst (v := 0) C dX8_limits_27 (by decide) ?_
  obtain ⟨z1, ok⟩ := gz_ok ok
  exact K.2 .boolean _ _ _ _ rfl dX8_limits_28 (nar_b z1) (pi_ok ok)
def f_X8_limits (x1 : Int32) (x2 : Int32) (x3 : Int32) (σ : St) : Option Rs := bd (f_X8_isWithin x1 (93 : Int32) σ) (fun r1 s2 => (if r1 = 0 then b_X8_limits_27 s2 else bd (f_X8_isWithin x2 (93 : Int32) s2) (fun r5 s6 => (if r5 = 0 then b_X8_limits_27 s6 else bd (f_X8_isWithin x3 (120 : Int32) s6) (fun r9 s10 => (if r9 = 0 then b_X8_limits_27 s10 else bd (f_X6_setLimits x1 x2 x3 s10) (fun r13 s14 => gz (1 : Int32) (some ((1 : Int32), s14)))))))))
set_option maxRecDepth 10000 in
set_option maxHeartbeats 1000000 in
theorem tf_X8_limits {ε : Et} {κ : Kt} {z : Rs} (C : Cx ε κ cX8_limits 4 RX8 1) (K : Ret ε κ cX8_limits (some .boolean) 0 0 (PI ε z)) (x1 : Int32) (x2 : Int32) (x3 : Int32) (σ : St) (ok : f_X8_limits x1 x2 x3 σ = some z) : G ε κ 0 0 0 [(0, .ref (ad ε 0)), (1, .int x1), (2, .int x2), (3, .int x3)] [] (WX ε σ) := by
  unfold f_X8_limits at ok
  refine g_iload_n C dX8_limits_0 rfl 1 rfl ?_
  refine g_bipush (v := 93) C dX8_limits_1 (by decide) ?_
  obtain ⟨r1, s2, e3, ok⟩ := bd_ok ok
  refine q_sI C [.int x1, .int (93 : Int32)] (c_X8_isWithin e3) wv_X8_110 (by decide) rfl rfl (Nat.le_of_ble_eq_true rfl) dX8_limits_3 ?_
  refine g_if_eq (tgt := 27) C dX8_limits_6 (by decide) (fun c4 => ?_) (fun c4 => ?_)
  · replace ok := ok_t c4 ok
    refine g_pick (lv' := []) ?_ [] rfl
    exact t_X8_limits_27 C K _ ok
  · replace ok := ok_f c4 ok
    refine g_iload_n C dX8_limits_9 rfl 2 rfl ?_
    refine g_bipush (v := 93) C dX8_limits_10 (by decide) ?_
    obtain ⟨r5, s6, e7, ok⟩ := bd_ok ok
    refine q_sI C [.int x2, .int (93 : Int32)] (c_X8_isWithin e7) wv_X8_110 (by decide) rfl rfl (Nat.le_of_ble_eq_true rfl) dX8_limits_12 ?_
    refine g_if_eq (tgt := 27) C dX8_limits_15 (by decide) (fun c8 => ?_) (fun c8 => ?_)
    · replace ok := ok_t c8 ok
      refine g_pick (lv' := []) ?_ [] rfl
      exact t_X8_limits_27 C K _ ok
    · replace ok := ok_f c8 ok
      refine g_iload_n C dX8_limits_18 rfl 3 rfl ?_
      refine g_bipush (v := 120) C dX8_limits_19 (by decide) ?_
      obtain ⟨r9, s10, e11, ok⟩ := bd_ok ok
      refine q_sI C [.int x3, .int (120 : Int32)] (c_X8_isWithin e11) wv_X8_110 (by decide) rfl rfl (Nat.le_of_ble_eq_true rfl) dX8_limits_21 ?_
      refine g_if_ne (tgt := 29) C dX8_limits_24 (by decide) (fun c12 => ?_) (fun c12 => ?_)
      · replace ok := ok_f c12 ok
        refine g_aload_n C dX8_limits_29 rfl 0 rfl ?_
        refine q_X8_38 C dX8_limits_30 ?_
        refine g_iload_n C dX8_limits_33 rfl 1 rfl ?_
        refine g_iload_n C dX8_limits_34 rfl 2 rfl ?_
        refine g_iload_n C dX8_limits_35 rfl 3 rfl ?_
        obtain ⟨r13, s14, e15, ok⟩ := bd_ok ok
        refine q_cV C [.int x1, .int x2, .int x3] (c_X6_setLimits e15) wv_X8_114 (by decide) (lt_N (by decide)) wx_X6 rfl rfl rfl (Nat.le_of_ble_eq_true rfl) dX8_limits_36 ?_
        refine g_iconst (v := 1) C dX8_limits_39 (by decide) ?_
        obtain ⟨z16, ok⟩ := gz_ok ok
        exact K.2 .boolean _ _ _ _ rfl dX8_limits_40 (nar_b z16) (pi_ok ok)
      · replace ok := ok_t c12 ok
        refine g_pick (lv' := []) ?_ [] rfl
        exact t_X8_limits_27 C K _ ok
theorem c_X8_limits {l : Launch} {ε : Et} {σ : St} {z : Rs} {x1 : Int32} {x2 : Int32} {x3 : Int32} (e : f_X8_limits x1 x2 x3 σ = some z) : RM l ε yX8_limits cX8_limits 4 (some .boolean) 1 0 0 [.ref (ad ε 0), .int x1, .int x2, .int x3] (WX ε σ) (PI ε z) := RM.of (by decide) (Nat.le_of_ble_eq_true rfl) (fun κ C K => tf_X8_limits C K x1 x2 x3 σ e)
def f_X8_told (x1 : Int32) (σ : St) : Option Rx := (if x1 = (0 : Int32) then bd (f_X0_spread σ) (fun r2 s3 => some (0, r2, s3)) else (if x1 = (1 : Int32) then bd (f_X0_count σ) (fun r6 s7 => some (0, r6, s7)) else (if x1 = (2 : Int32) then bd (f_X0_length σ) (fun r10 s11 => some (0, r10, s11)) else (if x1 = (3 : Int32) then bd (f_X3_count σ.2.2.1 σ) (fun r14 s15 => some (0, r14, s15)) else some (2, (0 : Int32), σ)))))
set_option maxRecDepth 10000 in
set_option maxHeartbeats 1000000 in
theorem tf_X8_told {ε : Et} {κ : Kt} {z : Rx} (C : Cx ε κ cX8_told 2 RX8 7) (K : ∀ (pc : Nat) (lv : List (Nat × Value)) (r : Int32) (σ : St), decode cX8_told pc = .ok (.ireturn, 1) → some (0, r, σ) = some z → G ε κ 0 0 pc lv [.int r] (WX ε σ)) (T64 : ∀ (lv : List (Nat × Value)) (σ : St), some (2, (0 : Int32), σ) = some z → G ε κ 0 0 64 lv [] (WX ε σ)) (x1 : Int32) (σ : St) (ok : f_X8_told x1 σ = some z) : G ε κ 0 0 0 [(0, .ref (ad ε 0)), (1, .int x1)] [] (WX ε σ) := by
  unfold f_X8_told at ok
  refine g_iload_n C dX8_told_0 rfl 1 rfl ?_
  by_cases c1 : x1 = (0 : Int32)
  · replace ok := ok_t c1 ok
    refine g_tabIn (tgt := 32) C dX8_told_1 (by rw [c1]; decide) (by rw [c1]; decide) (by rw [c1]; rfl) (by decide) ?_
    refine g_aload_n C dX8_told_32 rfl 0 rfl ?_
    refine q_X8_31 C dX8_told_33 ?_
    obtain ⟨r2, s3, e4, ok⟩ := bd_ok ok
    refine q_cI C [] (c_X0_spread e4) wv_X8_118 (by decide) (lt_N (by decide)) wx_X0 rfl rfl rfl (Nat.le_of_ble_eq_true rfl) dX8_told_36 ?_
    exact K 39 _ _ _ dX8_told_39 ok
  · replace ok := ok_f c1 ok
    by_cases c5 : x1 = (1 : Int32)
    · replace ok := ok_t c5 ok
      refine g_tabIn (tgt := 40) C dX8_told_1 (by rw [c5]; decide) (by rw [c5]; decide) (by rw [c5]; rfl) (by decide) ?_
      refine g_aload_n C dX8_told_40 rfl 0 rfl ?_
      refine q_X8_31 C dX8_told_41 ?_
      obtain ⟨r6, s7, e8, ok⟩ := bd_ok ok
      refine q_cI C [] (c_X0_count e8) wv_X8_121 (by decide) (lt_N (by decide)) wx_X0 rfl rfl rfl (Nat.le_of_ble_eq_true rfl) dX8_told_44 ?_
      exact K 47 _ _ _ dX8_told_47 ok
    · replace ok := ok_f c5 ok
      by_cases c9 : x1 = (2 : Int32)
      · replace ok := ok_t c9 ok
        refine g_tabIn (tgt := 48) C dX8_told_1 (by rw [c9]; decide) (by rw [c9]; decide) (by rw [c9]; rfl) (by decide) ?_
        refine g_aload_n C dX8_told_48 rfl 0 rfl ?_
        refine q_X8_31 C dX8_told_49 ?_
        obtain ⟨r10, s11, e12, ok⟩ := bd_ok ok
        refine q_cI C [] (c_X0_length e12) wv_X8_122 (by decide) (lt_N (by decide)) wx_X0 rfl rfl rfl (Nat.le_of_ble_eq_true rfl) dX8_told_52 ?_
        exact K 55 _ _ _ dX8_told_55 ok
      · replace ok := ok_f c9 ok
        by_cases c13 : x1 = (3 : Int32)
        · replace ok := ok_t c13 ok
          refine g_tabIn (tgt := 56) C dX8_told_1 (by rw [c13]; decide) (by rw [c13]; decide) (by rw [c13]; rfl) (by decide) ?_
          refine g_aload_n C dX8_told_56 rfl 0 rfl ?_
          refine q_X8_52 C dX8_told_57 ?_
          obtain ⟨r14, s15, e16, ok⟩ := bd_ok ok
          refine q_cI C [] (c_X3_count e16) wv_X8_100 (by decide) (bs_lt σ.2.2.1) (wx_X3 σ.2.2.1) rfl rfl rfl (Nat.le_of_ble_eq_true rfl) dX8_told_60 ?_
          exact K 63 _ _ _ dX8_told_63 ok
        · replace ok := ok_f c13 ok
          refine g_tabOut (tgt := 64) C dX8_told_1 (tab_out 0 3 (by decide) (fun k h1k h2k => ?_)) (by decide) ?_
          · rcases (show k = 0 ∨ k = 1 ∨ k = 2 ∨ k = 3 by omega) with rfl | rfl | rfl | rfl
            · exact c1
            · exact c5
            · exact c9
            · exact c13
          · exact T64 _ _ ok
def b_X8_sortRead_120 (σ : St) : Option Rs := some ((0 : Int32), σ)
set_option maxRecDepth 10000 in
set_option maxHeartbeats 1000000 in
theorem t_X8_sortRead_120 {ε : Et} {κ : Kt} {z : Rs} (C : Cx ε κ cX8_sortRead 5 RX8 5) (K : Ret ε κ cX8_sortRead none 0 0 (PV ε z)) (σ : St) (ok : b_X8_sortRead_120 σ = some z) : G ε κ 0 0 120 [] [] (WX ε σ) := by
  unfold b_X8_sortRead_120 at ok
  exact K.1 rfl _ _ _ dX8_sortRead_120 (pv_ok ok)
def b_X8_sortRead_60 (x1 : Int32) (x4 : Int32) (t0 : Int32) (t1 : Int32) (σ : St) : Option Rs := bd (f_X6_cut σ.2.2.1 t1 t0 σ) (fun r1 s2 => bd (f_X5_add s2.2.2.1 x4 s2) (fun r4 s5 => (if x4 = (-1 : Int32) then b_X8_sortRead_120 s5 else bd (f_X6_isTooShort s5) (fun r8 s9 => (if r8 = 0 then bd (f_X0_length s9) (fun r12 s13 => bd (f_X1_enter s9.2.2.1 x1 x4 r12 s13) (fun r15 s16 => b_X8_sortRead_120 s16)) else b_X8_sortRead_120 s9)))))
set_option maxRecDepth 10000 in
set_option maxHeartbeats 1000000 in
theorem t_X8_sortRead_60 {ε : Et} {κ : Kt} {z : Rs} (C : Cx ε κ cX8_sortRead 5 RX8 5) (K : Ret ε κ cX8_sortRead none 0 0 (PV ε z)) (x1 : Int32) (x4 : Int32) (t0 : Int32) (t1 : Int32) (σ : St) (ok : b_X8_sortRead_60 x1 x4 t0 t1 σ = some z) : G ε κ 0 0 60 [(0, .ref (ad ε 0)), (1, .int x1), (4, .int x4)] [.int t0, .int t1, .ref (ad ε (bs σ.2.2.1)), .ref (ad ε 16)] (WX ε σ) := by
  unfold b_X8_sortRead_60 at ok
  obtain ⟨r1, s2, e3, ok⟩ := bd_ok ok
  refine q_cV C [.ref (ad ε (bs σ.2.2.1)), .int t1, .int t0] (c_X6_cut e3) wv_X8_153 (by decide) (lt_N (by decide)) wx_X6 rfl rfl rfl (Nat.le_of_ble_eq_true rfl) dX8_sortRead_60 ?_
  refine g_aload_n C dX8_sortRead_63 rfl 0 rfl ?_
  refine q_X8_45 C dX8_sortRead_64 ?_
  refine g_aload_n C dX8_sortRead_67 rfl 0 rfl ?_
  refine q_X8_52 C dX8_sortRead_68 ?_
  refine g_iload C dX8_sortRead_71 2 rfl ?_
  refine g_aload_n C dX8_sortRead_73 rfl 0 rfl ?_
  refine q_X8_38 C dX8_sortRead_74 ?_
  obtain ⟨r4, s5, e6, ok⟩ := bd_ok ok
  refine q_cV C [.ref (ad ε (bs s2.2.2.1)), .int x4, .ref (ad ε 16)] (c_X5_add e6) wv_X8_157 (by decide) (lt_N (by decide)) wx_X5 rfl rfl rfl (Nat.le_of_ble_eq_true rfl) dX8_sortRead_77 ?_
  refine g_iload C dX8_sortRead_80 2 rfl ?_
  refine g_iconst (v := -1) C dX8_sortRead_82 (by decide) ?_
  refine g_icmp_eq (tgt := 120) C dX8_sortRead_83 (by decide) (fun c7 => ?_) (fun c7 => ?_)
  · replace ok := ok_t c7 ok
    refine g_pick (lv' := []) ?_ [] rfl
    exact t_X8_sortRead_120 C K _ ok
  · replace ok := ok_f c7 ok
    refine g_aload_n C dX8_sortRead_86 rfl 0 rfl ?_
    refine q_X8_38 C dX8_sortRead_87 ?_
    obtain ⟨r8, s9, e10, ok⟩ := bd_ok ok
    refine q_cI C [] (c_X6_isTooShort e10) wv_X8_160 (by decide) (lt_N (by decide)) wx_X6 rfl rfl rfl (Nat.le_of_ble_eq_true rfl) dX8_sortRead_90 ?_
    refine g_if_ne (tgt := 120) C dX8_sortRead_93 (by decide) (fun c11 => ?_) (fun c11 => ?_)
    · replace ok := ok_f c11 ok
      refine g_pick (lv' := []) ?_ [] rfl
      exact t_X8_sortRead_120 C K _ ok
    · replace ok := ok_t c11 ok
      refine g_aload_n C dX8_sortRead_96 rfl 0 rfl ?_
      refine q_X8_45 C dX8_sortRead_97 ?_
      refine q_cR C [] c_X5_grouping wv_X8_164 (by decide) (lt_N (by decide)) wx_X5 rfl rfl rfl (Nat.le_of_ble_eq_true rfl) dX8_sortRead_100 ?_
      refine g_aload_n C dX8_sortRead_103 rfl 0 rfl ?_
      refine q_X8_52 C dX8_sortRead_104 ?_
      refine g_iload_n C dX8_sortRead_107 rfl 1 rfl ?_
      refine g_iload C dX8_sortRead_108 2 rfl ?_
      refine g_aload_n C dX8_sortRead_110 rfl 0 rfl ?_
      refine q_X8_31 C dX8_sortRead_111 ?_
      obtain ⟨r12, s13, e14, ok⟩ := bd_ok ok
      refine q_cI C [] (c_X0_length e14) wv_X8_122 (by decide) (lt_N (by decide)) wx_X0 rfl rfl rfl (Nat.le_of_ble_eq_true rfl) dX8_sortRead_114 ?_
      obtain ⟨r15, s16, e17, ok⟩ := bd_ok ok
      refine q_cV C [.ref (ad ε (bs s9.2.2.1)), .int x1, .int x4, .int r12] (c_X1_enter e17) wv_X8_168 (by decide) (lt_N (by decide)) wx_X1 rfl rfl rfl (Nat.le_of_ble_eq_true rfl) dX8_sortRead_117 ?_
      refine g_pick (lv' := []) ?_ [] rfl
      exact t_X8_sortRead_120 C K _ ok
def b_X8_sortRead_38 (x1 : Int32) (x3 : Int32) (t0 : Int32) (σ : St) : Option Rs := (if t0 = (-1 : Int32) then b_X8_sortRead_60 x1 t0 (0 : Int32) x1 σ else b_X8_sortRead_60 x1 t0 x3 x1 σ)
set_option maxRecDepth 10000 in
set_option maxHeartbeats 1000000 in
theorem t_X8_sortRead_38 {ε : Et} {κ : Kt} {z : Rs} (C : Cx ε κ cX8_sortRead 5 RX8 5) (K : Ret ε κ cX8_sortRead none 0 0 (PV ε z)) (x1 : Int32) (x3 : Int32) (t0 : Int32) (σ : St) (ok : b_X8_sortRead_38 x1 x3 t0 σ = some z) : G ε κ 0 0 38 [(0, .ref (ad ε 0)), (1, .int x1), (3, .int x3)] [.int t0] (WX ε σ) := by
  unfold b_X8_sortRead_38 at ok
  refine g_istore C [(4, .int t0), (0, .ref (ad ε 0)), (1, .int x1), (3, .int x3)] dX8_sortRead_38 (by decide) rfl ?_
  refine g_aload_n C dX8_sortRead_40 rfl 1 rfl ?_
  refine q_X8_38 C dX8_sortRead_41 ?_
  refine g_aload_n C dX8_sortRead_44 rfl 1 rfl ?_
  refine q_X8_52 C dX8_sortRead_45 ?_
  refine g_iload_n C dX8_sortRead_48 rfl 2 rfl ?_
  refine g_iload C dX8_sortRead_49 0 rfl ?_
  refine g_iconst (v := -1) C dX8_sortRead_51 (by decide) ?_
  refine g_icmp_ne (tgt := 59) C dX8_sortRead_52 (by decide) (fun c1 => ?_) (fun c1 => ?_)
  · replace ok := ok_f c1 ok
    refine g_iload_n C dX8_sortRead_59 rfl 3 rfl ?_
    refine g_pick (lv' := [(0, .ref (ad ε 0)), (1, .int x1), (4, .int t0)]) ?_ [1, 2, 0] rfl
    exact t_X8_sortRead_60 C K _ _ _ _ _ ok
  · replace ok := ok_t c1 ok
    refine g_iconst (v := 0) C dX8_sortRead_55 (by decide) ?_
    refine g_goto (tgt := 60) C dX8_sortRead_56 (by decide) ?_
    refine g_pick (lv' := [(0, .ref (ad ε 0)), (1, .int x1), (4, .int t0)]) ?_ [1, 2, 0] rfl
    exact t_X8_sortRead_60 C K _ _ _ _ _ ok
def f_X8_sortRead (x1 : Int32) (x2 : Int32) (σ : St) : Option Rs := bd (f_X0_length σ) (fun r1 s2 => nx (r1 + x2) (fun y4 => bd (f_X3_letterCount s2.2.2.1 x1 s2) (fun r6 s7 => (if y4 ≤ r6 then bd (f_X0_nearTo s7.2.2.1 x1 s7) (fun r10 s11 => b_X8_sortRead_38 x1 y4 r10 s11) else b_X8_sortRead_38 x1 y4 (-1 : Int32) s7))))
set_option maxRecDepth 10000 in
set_option maxHeartbeats 1000000 in
theorem tf_X8_sortRead {ε : Et} {κ : Kt} {z : Rs} (C : Cx ε κ cX8_sortRead 5 RX8 5) (K : Ret ε κ cX8_sortRead none 0 0 (PV ε z)) (x1 : Int32) (x2 : Int32) (σ : St) (ok : f_X8_sortRead x1 x2 σ = some z) : G ε κ 0 0 0 [(0, .ref (ad ε 0)), (1, .int x1), (2, .int x2)] [] (WX ε σ) := by
  unfold f_X8_sortRead at ok
  refine g_aload_n C dX8_sortRead_0 rfl 0 rfl ?_
  refine q_X8_31 C dX8_sortRead_1 ?_
  obtain ⟨r1, s2, e3, ok⟩ := bd_ok ok
  refine q_cI C [] (c_X0_length e3) wv_X8_122 (by decide) (lt_N (by decide)) wx_X0 rfl rfl rfl (Nat.le_of_ble_eq_true rfl) dX8_sortRead_4 ?_
  refine g_iload_n C dX8_sortRead_7 rfl 2 rfl ?_
  refine g_iadd C dX8_sortRead_8 ?_
  refine q_nm (fun y4 e5 => ?_)
  replace ok := nx_ok ok y4 e5
  refine g_istore_n C [(3, .int y4), (0, .ref (ad ε 0)), (1, .int x1), (2, .int x2)] dX8_sortRead_9 rfl (by decide) rfl ?_
  refine g_aload_n C dX8_sortRead_10 rfl 1 rfl ?_
  refine q_X8_52 C dX8_sortRead_11 ?_
  refine g_iload_n C dX8_sortRead_14 rfl 2 rfl ?_
  obtain ⟨r6, s7, e8, ok⟩ := bd_ok ok
  refine q_cI C [.int x1] (c_X3_letterCount e8) wv_X8_146 (by decide) (bs_lt s2.2.2.1) (wx_X3 s2.2.2.1) rfl rfl rfl (Nat.le_of_ble_eq_true rfl) dX8_sortRead_15 ?_
  refine g_iload_n C dX8_sortRead_18 rfl 0 rfl ?_
  refine g_icmp_ge (tgt := 26) C dX8_sortRead_19 (by decide) (fun c9 => ?_) (fun c9 => ?_)
  · replace ok := ok_t c9 ok
    refine g_aload_n C dX8_sortRead_26 rfl 1 rfl ?_
    refine q_X8_31 C dX8_sortRead_27 ?_
    refine g_aload_n C dX8_sortRead_30 rfl 1 rfl ?_
    refine q_X8_52 C dX8_sortRead_31 ?_
    refine g_iload_n C dX8_sortRead_34 rfl 2 rfl ?_
    obtain ⟨r10, s11, e12, ok⟩ := bd_ok ok
    refine q_cI C [.ref (ad ε (bs s7.2.2.1)), .int x1] (c_X0_nearTo e12) wv_X8_149 (by decide) (lt_N (by decide)) wx_X0 rfl rfl rfl (Nat.le_of_ble_eq_true rfl) dX8_sortRead_35 ?_
    refine g_pick (lv' := [(0, .ref (ad ε 0)), (1, .int x1), (3, .int y4)]) ?_ [1, 2, 0] rfl
    exact t_X8_sortRead_38 C K _ _ _ _ ok
  · replace ok := ok_f c9 ok
    refine g_iconst (v := -1) C dX8_sortRead_22 (by decide) ?_
    refine g_goto (tgt := 38) C dX8_sortRead_23 (by decide) ?_
    refine g_pick (lv' := [(0, .ref (ad ε 0)), (1, .int x1), (3, .int y4)]) ?_ [1, 2, 0] rfl
    exact t_X8_sortRead_38 C K _ _ _ _ ok
theorem c_X8_sortRead {l : Launch} {ε : Et} {σ : St} {z : Rs} {x1 : Int32} {x2 : Int32} (e : f_X8_sortRead x1 x2 σ = some z) : RM l ε yX8_sortRead cX8_sortRead 5 none 5 0 0 [.ref (ad ε 0), .int x1, .int x2] (WX ε σ) (PV ε z) := RM.of (by decide) (Nat.le_of_ble_eq_true rfl) (fun κ C K => tf_X8_sortRead C K x1 x2 σ e)
def b_X8_sort_17 (σ : St) : Option Rx := some (1, (0 : Int32), σ)
set_option maxRecDepth 10000 in
set_option maxHeartbeats 1000000 in
theorem t_X8_sort_17 {ε : Et} {κ : Kt} {z : Rx} (C : Cx ε κ cX8_sort 4 RX8 7) (K : ∀ (pc : Nat) (lv : List (Nat × Value)) (r : Int32) (σ : St), decode cX8_sort pc = .ok (.ireturn, 1) → some (0, r, σ) = some z → G ε κ 0 0 pc lv [.int r] (WX ε σ)) (T17 : ∀ (lv : List (Nat × Value)) (σ : St), some (1, (0 : Int32), σ) = some z → G ε κ 0 0 17 lv [] (WX ε σ)) (σ : St) (ok : b_X8_sort_17 σ = some z) : G ε κ 0 0 17 [] [] (WX ε σ) := by
  unfold b_X8_sort_17 at ok
  exact T17 _ _ ok
def b_X8_sort_45 (k45 : Int32 → Int32 → St → Option Rx) (x1 : Int32) (x3 : Int32) (σ : St) : Option Rx := bd (f_X3_count σ.2.2.1 σ) (fun r1 s2 => (if r1 ≤ x3 then bd (f_X5_finish s2) (fun r5 s6 => bd (f_X5_readsIn (-1 : Int32) s6) (fun r8 s9 => some (0, r8, s9))) else bd (f_X8_sortRead x3 x1 s2) (fun r11 s12 => nx (x3 + (1 : Int32)) (fun y14 => k45 x1 y14 s12))))
set_option maxRecDepth 10000 in
set_option maxHeartbeats 1000000 in
theorem t_X8_sort_45 {ε : Et} {κ : Kt} {z : Rx} (C : Cx ε κ cX8_sort 4 RX8 7) (K : ∀ (pc : Nat) (lv : List (Nat × Value)) (r : Int32) (σ : St), decode cX8_sort pc = .ok (.ireturn, 1) → some (0, r, σ) = some z → G ε κ 0 0 pc lv [.int r] (WX ε σ)) (T17 : ∀ (lv : List (Nat × Value)) (σ : St), some (1, (0 : Int32), σ) = some z → G ε κ 0 0 17 lv [] (WX ε σ)) (k45 : Int32 → Int32 → St → Option Rx) (g45 : ∀ (x1 : Int32) (x3 : Int32) (σ : St), k45 x1 x3 σ = some z → G ε κ 0 0 45 [(0, .ref (ad ε 0)), (1, .int x1), (3, .int x3)] [] (WX ε σ)) (x1 : Int32) (x3 : Int32) (σ : St) (ok : b_X8_sort_45 k45 x1 x3 σ = some z) : G ε κ 0 0 45 [(0, .ref (ad ε 0)), (1, .int x1), (3, .int x3)] [] (WX ε σ) := by
  unfold b_X8_sort_45 at ok
  refine g_iload_n C dX8_sort_45 rfl 2 rfl ?_
  refine g_aload_n C dX8_sort_46 rfl 0 rfl ?_
  refine q_X8_52 C dX8_sort_47 ?_
  obtain ⟨r1, s2, e3, ok⟩ := bd_ok ok
  refine q_cI C [] (c_X3_count e3) wv_X8_100 (by decide) (bs_lt σ.2.2.1) (wx_X3 σ.2.2.1) rfl rfl rfl (Nat.le_of_ble_eq_true rfl) dX8_sort_50 ?_
  refine g_icmp_ge (tgt := 68) C dX8_sort_53 (by decide) (fun c4 => ?_) (fun c4 => ?_)
  · replace ok := ok_t c4 ok
    refine g_aload_n C dX8_sort_68 rfl 0 rfl ?_
    refine q_X8_45 C dX8_sort_69 ?_
    obtain ⟨r5, s6, e7, ok⟩ := bd_ok ok
    refine q_cV C [] (c_X5_finish e7) wv_X8_139 (by decide) (lt_N (by decide)) wx_X5 rfl rfl rfl (Nat.le_of_ble_eq_true rfl) dX8_sort_72 ?_
    refine g_aload_n C dX8_sort_75 rfl 0 rfl ?_
    refine q_X8_45 C dX8_sort_76 ?_
    refine g_iconst (v := -1) C dX8_sort_79 (by decide) ?_
    obtain ⟨r8, s9, e10, ok⟩ := bd_ok ok
    refine q_cI C [.int (-1 : Int32)] (c_X5_readsIn e10) wv_X8_142 (by decide) (lt_N (by decide)) wx_X5 rfl rfl rfl (Nat.le_of_ble_eq_true rfl) dX8_sort_80 ?_
    exact K 83 _ _ _ dX8_sort_83 ok
  · replace ok := ok_f c4 ok
    refine g_aload_n C dX8_sort_56 rfl 0 rfl ?_
    refine g_iload_n C dX8_sort_57 rfl 2 rfl ?_
    refine g_iload_n C dX8_sort_58 rfl 1 rfl ?_
    obtain ⟨r11, s12, e13, ok⟩ := bd_ok ok
    refine q_cV C [.int x3, .int x1] (c_X8_sortRead e13) wv_X8_135 (by decide) (lt_N (by decide)) wx_X8 rfl rfl rfl (Nat.le_of_ble_eq_true rfl) dX8_sort_59 ?_
    obtain ⟨y14, e15⟩ : ∃ y : Int32, y = (x3 + (1 : Int32)) := ⟨_, rfl⟩
    replace ok := nx_ok ok y14 e15
    refine g_iinc (v := y14) C [(3, .int y14), (0, .ref (ad ε 0)), (1, .int x1)] dX8_sort_62 2 rfl (by rw [e15]; rfl) (by decide) rfl ?_
    refine g_goto (tgt := 45) C dX8_sort_65 (by decide) ?_
    refine g_pick (lv' := [(0, .ref (ad ε 0)), (1, .int x1), (3, .int y14)]) ?_ [1, 2, 0] rfl
    exact g45 _ _ _ ok
def l_X8_sort_45 : Nat → Int32 → Int32 → St → Option Rx
  | 0 => fun _ _ _ => none
  | n + 1 => fun x1 x3 σ => b_X8_sort_45 (l_X8_sort_45 n) x1 x3 σ
theorem tl_X8_sort_45 {ε : Et} {κ : Kt} {z : Rx} (C : Cx ε κ cX8_sort 4 RX8 7) (K : ∀ (pc : Nat) (lv : List (Nat × Value)) (r : Int32) (σ : St), decode cX8_sort pc = .ok (.ireturn, 1) → some (0, r, σ) = some z → G ε κ 0 0 pc lv [.int r] (WX ε σ)) (T17 : ∀ (lv : List (Nat × Value)) (σ : St), some (1, (0 : Int32), σ) = some z → G ε κ 0 0 17 lv [] (WX ε σ)) : ∀ (n : Nat) (x1 : Int32) (x3 : Int32) (σ : St), l_X8_sort_45 n x1 x3 σ = some z → G ε κ 0 0 45 [(0, .ref (ad ε 0)), (1, .int x1), (3, .int x3)] [] (WX ε σ) := by
  intro n
  induction n with
  | zero =>
    intro x1 x3 σ ok
    cases ok
  | succ n ih =>
    intro x1 x3 σ ok
    exact t_X8_sort_45 C K T17 (l_X8_sort_45 n) ih x1 x3 σ ok
def f_X8_sort (x1 : Int32) (x2 : Int32) (σ : St) : Option Rx := bd (f_X8_isWithin x1 (12 : Int32) σ) (fun r1 s2 => (if r1 = 0 then b_X8_sort_17 s2 else bd (f_X8_isWithin x2 (1 : Int32) s2) (fun r5 s6 => (if r5 = 0 then b_X8_sort_17 s6 else bd (f_X0_count s6) (fun r9 s10 => bd (f_X5_restart r9 x1 x2 s10) (fun r12 s13 => l_X8_sort_45 FU x1 (0 : Int32) s13))))))
set_option maxRecDepth 10000 in
set_option maxHeartbeats 1000000 in
theorem tf_X8_sort {ε : Et} {κ : Kt} {z : Rx} (C : Cx ε κ cX8_sort 4 RX8 7) (K : ∀ (pc : Nat) (lv : List (Nat × Value)) (r : Int32) (σ : St), decode cX8_sort pc = .ok (.ireturn, 1) → some (0, r, σ) = some z → G ε κ 0 0 pc lv [.int r] (WX ε σ)) (T17 : ∀ (lv : List (Nat × Value)) (σ : St), some (1, (0 : Int32), σ) = some z → G ε κ 0 0 17 lv [] (WX ε σ)) (x1 : Int32) (x2 : Int32) (σ : St) (ok : f_X8_sort x1 x2 σ = some z) : G ε κ 0 0 0 [(0, .ref (ad ε 0)), (1, .int x1), (2, .int x2)] [] (WX ε σ) := by
  unfold f_X8_sort at ok
  refine g_iload_n C dX8_sort_0 rfl 1 rfl ?_
  refine g_bipush (v := 12) C dX8_sort_1 (by decide) ?_
  obtain ⟨r1, s2, e3, ok⟩ := bd_ok ok
  refine q_sI C [.int x1, .int (12 : Int32)] (c_X8_isWithin e3) wv_X8_110 (by decide) rfl rfl (Nat.le_of_ble_eq_true rfl) dX8_sort_3 ?_
  refine g_if_eq (tgt := 17) C dX8_sort_6 (by decide) (fun c4 => ?_) (fun c4 => ?_)
  · replace ok := ok_t c4 ok
    refine g_pick (lv' := []) ?_ [] rfl
    exact t_X8_sort_17 C K T17 _ ok
  · replace ok := ok_f c4 ok
    refine g_iload_n C dX8_sort_9 rfl 2 rfl ?_
    refine g_iconst (v := 1) C dX8_sort_10 (by decide) ?_
    obtain ⟨r5, s6, e7, ok⟩ := bd_ok ok
    refine q_sI C [.int x2, .int (1 : Int32)] (c_X8_isWithin e7) wv_X8_110 (by decide) rfl rfl (Nat.le_of_ble_eq_true rfl) dX8_sort_11 ?_
    refine g_if_ne (tgt := 27) C dX8_sort_14 (by decide) (fun c8 => ?_) (fun c8 => ?_)
    · replace ok := ok_f c8 ok
      refine g_aload_n C dX8_sort_27 rfl 0 rfl ?_
      refine q_X8_45 C dX8_sort_28 ?_
      refine g_aload_n C dX8_sort_31 rfl 0 rfl ?_
      refine q_X8_31 C dX8_sort_32 ?_
      obtain ⟨r9, s10, e11, ok⟩ := bd_ok ok
      refine q_cI C [] (c_X0_count e11) wv_X8_121 (by decide) (lt_N (by decide)) wx_X0 rfl rfl rfl (Nat.le_of_ble_eq_true rfl) dX8_sort_35 ?_
      refine g_iload_n C dX8_sort_38 rfl 1 rfl ?_
      refine g_iload_n C dX8_sort_39 rfl 2 rfl ?_
      obtain ⟨r12, s13, e14, ok⟩ := bd_ok ok
      refine q_cV C [.int r9, .int x1, .int x2] (c_X5_restart e14) wv_X8_132 (by decide) (lt_N (by decide)) wx_X5 rfl rfl rfl (Nat.le_of_ble_eq_true rfl) dX8_sort_40 ?_
      refine g_iconst (v := 0) C dX8_sort_43 (by decide) ?_
      refine g_istore_n C [(3, .int (0 : Int32)), (0, .ref (ad ε 0)), (1, .int x1), (2, .int x2)] dX8_sort_44 rfl (by decide) rfl ?_
      refine g_pick (lv' := [(0, .ref (ad ε 0)), (1, .int x1), (3, .int (0 : Int32))]) ?_ [1, 2, 0] rfl
      exact tl_X8_sort_45 C K T17 FU _ _ _ ok
    · replace ok := ok_t c8 ok
      refine g_pick (lv' := []) ?_ [] rfl
      exact t_X8_sort_17 C K T17 _ ok
def b_X8_aboutSorted_75 (t0 : Int32) (σ : St) : Option Rs := some (t0, σ)
set_option maxRecDepth 10000 in
set_option maxHeartbeats 1000000 in
theorem t_X8_aboutSorted_75 {ε : Et} {κ : Kt} {z : Rs} (C : Cx ε κ cX8_aboutSorted 3 RX8 2) (K : Ret ε κ cX8_aboutSorted (some .int) 0 0 (PI ε z)) (t0 : Int32) (σ : St) (ok : b_X8_aboutSorted_75 t0 σ = some z) : G ε κ 0 0 75 [] [.int t0] (WX ε σ) := by
  unfold b_X8_aboutSorted_75 at ok
  exact K.2 .int _ _ _ _ rfl dX8_aboutSorted_75 rfl (pi_ok ok)
def f_X8_aboutSorted (x1 : Int32) (x2 : Int32) (σ : St) : Option Rs := (if x2 = (2 : Int32) then bd (f_X5_binOf x1 σ) (fun r2 s3 => some (r2, s3)) else (if x2 = (3 : Int32) then bd (f_X5_beginOf x1 σ) (fun r6 s7 => some (r6, s7)) else (if x2 = (4 : Int32) then bd (f_X5_endOf x1 σ) (fun r10 s11 => some (r10, s11)) else (if x2 = (5 : Int32) then bd (f_X5_isShort x1 σ) (fun r14 s15 => (if r14 = 0 then b_X8_aboutSorted_75 (0 : Int32) s15 else b_X8_aboutSorted_75 (1 : Int32) s15)) else bd (f_X1_groupOf x1 σ) (fun r18 s19 => some (r18, s19))))))
set_option maxRecDepth 10000 in
set_option maxHeartbeats 1000000 in
theorem tf_X8_aboutSorted {ε : Et} {κ : Kt} {z : Rs} (C : Cx ε κ cX8_aboutSorted 3 RX8 2) (K : Ret ε κ cX8_aboutSorted (some .int) 0 0 (PI ε z)) (x1 : Int32) (x2 : Int32) (σ : St) (ok : f_X8_aboutSorted x1 x2 σ = some z) : G ε κ 0 0 0 [(0, .ref (ad ε 0)), (1, .int x1), (2, .int x2)] [] (WX ε σ) := by
  unfold f_X8_aboutSorted at ok
  refine g_iload_n C dX8_aboutSorted_0 rfl 2 rfl ?_
  by_cases c1 : x2 = (2 : Int32)
  · replace ok := ok_t c1 ok
    refine g_tabIn (tgt := 32) C dX8_aboutSorted_1 (by rw [c1]; decide) (by rw [c1]; decide) (by rw [c1]; rfl) (by decide) ?_
    refine g_aload_n C dX8_aboutSorted_32 rfl 0 rfl ?_
    refine q_X8_45 C dX8_aboutSorted_33 ?_
    refine g_iload_n C dX8_aboutSorted_36 rfl 1 rfl ?_
    obtain ⟨r2, s3, e4, ok⟩ := bd_ok ok
    refine q_cI C [.int x1] (c_X5_binOf e4) wv_X8_189 (by decide) (lt_N (by decide)) wx_X5 rfl rfl rfl (Nat.le_of_ble_eq_true rfl) dX8_aboutSorted_37 ?_
    exact K.2 .int _ _ _ _ rfl dX8_aboutSorted_40 rfl (pi_ok ok)
  · replace ok := ok_f c1 ok
    by_cases c5 : x2 = (3 : Int32)
    · replace ok := ok_t c5 ok
      refine g_tabIn (tgt := 41) C dX8_aboutSorted_1 (by rw [c5]; decide) (by rw [c5]; decide) (by rw [c5]; rfl) (by decide) ?_
      refine g_aload_n C dX8_aboutSorted_41 rfl 0 rfl ?_
      refine q_X8_45 C dX8_aboutSorted_42 ?_
      refine g_iload_n C dX8_aboutSorted_45 rfl 1 rfl ?_
      obtain ⟨r6, s7, e8, ok⟩ := bd_ok ok
      refine q_cI C [.int x1] (c_X5_beginOf e8) wv_X8_192 (by decide) (lt_N (by decide)) wx_X5 rfl rfl rfl (Nat.le_of_ble_eq_true rfl) dX8_aboutSorted_46 ?_
      exact K.2 .int _ _ _ _ rfl dX8_aboutSorted_49 rfl (pi_ok ok)
    · replace ok := ok_f c5 ok
      by_cases c9 : x2 = (4 : Int32)
      · replace ok := ok_t c9 ok
        refine g_tabIn (tgt := 50) C dX8_aboutSorted_1 (by rw [c9]; decide) (by rw [c9]; decide) (by rw [c9]; rfl) (by decide) ?_
        refine g_aload_n C dX8_aboutSorted_50 rfl 0 rfl ?_
        refine q_X8_45 C dX8_aboutSorted_51 ?_
        refine g_iload_n C dX8_aboutSorted_54 rfl 1 rfl ?_
        obtain ⟨r10, s11, e12, ok⟩ := bd_ok ok
        refine q_cI C [.int x1] (c_X5_endOf e12) wv_X8_195 (by decide) (lt_N (by decide)) wx_X5 rfl rfl rfl (Nat.le_of_ble_eq_true rfl) dX8_aboutSorted_55 ?_
        exact K.2 .int _ _ _ _ rfl dX8_aboutSorted_58 rfl (pi_ok ok)
      · replace ok := ok_f c9 ok
        by_cases c13 : x2 = (5 : Int32)
        · replace ok := ok_t c13 ok
          refine g_tabIn (tgt := 59) C dX8_aboutSorted_1 (by rw [c13]; decide) (by rw [c13]; decide) (by rw [c13]; rfl) (by decide) ?_
          refine g_aload_n C dX8_aboutSorted_59 rfl 0 rfl ?_
          refine q_X8_45 C dX8_aboutSorted_60 ?_
          refine g_iload_n C dX8_aboutSorted_63 rfl 1 rfl ?_
          obtain ⟨r14, s15, e16, ok⟩ := bd_ok ok
          refine q_cI C [.int x1] (c_X5_isShort e16) wv_X8_198 (by decide) (lt_N (by decide)) wx_X5 rfl rfl rfl (Nat.le_of_ble_eq_true rfl) dX8_aboutSorted_64 ?_
          refine g_if_eq (tgt := 74) C dX8_aboutSorted_67 (by decide) (fun c17 => ?_) (fun c17 => ?_)
          · replace ok := ok_t c17 ok
            refine g_iconst (v := 0) C dX8_aboutSorted_74 (by decide) ?_
            refine g_pick (lv' := []) ?_ [] rfl
            exact t_X8_aboutSorted_75 C K _ _ ok
          · replace ok := ok_f c17 ok
            refine g_iconst (v := 1) C dX8_aboutSorted_70 (by decide) ?_
            refine g_goto (tgt := 75) C dX8_aboutSorted_71 (by decide) ?_
            refine g_pick (lv' := []) ?_ [] rfl
            exact t_X8_aboutSorted_75 C K _ _ ok
        · replace ok := ok_f c13 ok
          refine g_tabOut (tgt := 76) C dX8_aboutSorted_1 (tab_out 2 5 (by decide) (fun k h1k h2k => ?_)) (by decide) ?_
          · rcases (show k = 2 ∨ k = 3 ∨ k = 4 ∨ k = 5 by omega) with rfl | rfl | rfl | rfl
            · exact c1
            · exact c5
            · exact c9
            · exact c13
          · refine g_aload_n C dX8_aboutSorted_76 rfl 0 rfl ?_
            refine q_X8_45 C dX8_aboutSorted_77 ?_
            refine q_cR C [] c_X5_grouping wv_X8_164 (by decide) (lt_N (by decide)) wx_X5 rfl rfl rfl (Nat.le_of_ble_eq_true rfl) dX8_aboutSorted_80 ?_
            refine g_iload_n C dX8_aboutSorted_83 rfl 1 rfl ?_
            obtain ⟨r18, s19, e20, ok⟩ := bd_ok ok
            refine q_cI C [.int x1] (c_X1_groupOf e20) wv_X8_201 (by decide) (lt_N (by decide)) wx_X1 rfl rfl rfl (Nat.le_of_ble_eq_true rfl) dX8_aboutSorted_84 ?_
            exact K.2 .int _ _ _ _ rfl dX8_aboutSorted_87 rfl (pi_ok ok)
theorem c_X8_aboutSorted {l : Launch} {ε : Et} {σ : St} {z : Rs} {x1 : Int32} {x2 : Int32} (e : f_X8_aboutSorted x1 x2 σ = some z) : RM l ε yX8_aboutSorted cX8_aboutSorted 3 (some .int) 2 0 0 [.ref (ad ε 0), .int x1, .int x2] (WX ε σ) (PI ε z) := RM.of (by decide) (Nat.le_of_ble_eq_true rfl) (fun κ C K => tf_X8_aboutSorted C K x1 x2 σ e)
def b_X8_about_20 (σ : St) : Option Rx := some (2, (0 : Int32), σ)
set_option maxRecDepth 10000 in
set_option maxHeartbeats 1000000 in
theorem t_X8_about_20 {ε : Et} {κ : Kt} {z : Rx} (C : Cx ε κ cX8_about 3 RX8 7) (K : ∀ (pc : Nat) (lv : List (Nat × Value)) (r : Int32) (σ : St), decode cX8_about pc = .ok (.ireturn, 1) → some (0, r, σ) = some z → G ε κ 0 0 pc lv [.int r] (WX ε σ)) (T20 : ∀ (lv : List (Nat × Value)) (σ : St), some (2, (0 : Int32), σ) = some z → G ε κ 0 0 20 lv [] (WX ε σ)) (σ : St) (ok : b_X8_about_20 σ = some z) : G ε κ 0 0 20 [] [] (WX ε σ) := by
  unfold b_X8_about_20 at ok
  exact T20 _ _ ok
def b_X8_about_77 (t0 : Int32) (σ : St) : Option Rx := some (0, t0, σ)
set_option maxRecDepth 10000 in
set_option maxHeartbeats 1000000 in
theorem t_X8_about_77 {ε : Et} {κ : Kt} {z : Rx} (C : Cx ε κ cX8_about 3 RX8 7) (K : ∀ (pc : Nat) (lv : List (Nat × Value)) (r : Int32) (σ : St), decode cX8_about pc = .ok (.ireturn, 1) → some (0, r, σ) = some z → G ε κ 0 0 pc lv [.int r] (WX ε σ)) (T20 : ∀ (lv : List (Nat × Value)) (σ : St), some (2, (0 : Int32), σ) = some z → G ε κ 0 0 20 lv [] (WX ε σ)) (t0 : Int32) (σ : St) (ok : b_X8_about_77 t0 σ = some z) : G ε κ 0 0 77 [] [.int t0] (WX ε σ) := by
  unfold b_X8_about_77 at ok
  exact K 77 _ _ _ dX8_about_77 ok
def f_X8_about (x1 : Int32) (x2 : Int32) (σ : St) : Option Rx := bd (f_X3_has σ.2.2.1 x1 σ) (fun r1 s2 => (if r1 = 0 then b_X8_about_20 s2 else bd (f_X8_isWithin x2 (6 : Int32) s2) (fun r5 s6 => (if r5 = 0 then b_X8_about_20 s6 else (if x2 = 0 then bd (f_X3_nameSize s6.2.2.1 x1 s6) (fun r21 s22 => some (0, r21, s22)) else (if x2 = (1 : Int32) then bd (f_X3_letterCount s6.2.2.1 x1 s6) (fun r18 s19 => some (0, r18, s19)) else bd (f_X5_isDone s6) (fun r11 s12 => (if r11 = 0 then b_X8_about_77 (-1 : Int32) s12 else bd (f_X8_aboutSorted x1 x2 s12) (fun r15 s16 => b_X8_about_77 r15 s16)))))))))
set_option maxRecDepth 10000 in
set_option maxHeartbeats 1000000 in
theorem tf_X8_about {ε : Et} {κ : Kt} {z : Rx} (C : Cx ε κ cX8_about 3 RX8 7) (K : ∀ (pc : Nat) (lv : List (Nat × Value)) (r : Int32) (σ : St), decode cX8_about pc = .ok (.ireturn, 1) → some (0, r, σ) = some z → G ε κ 0 0 pc lv [.int r] (WX ε σ)) (T20 : ∀ (lv : List (Nat × Value)) (σ : St), some (2, (0 : Int32), σ) = some z → G ε κ 0 0 20 lv [] (WX ε σ)) (x1 : Int32) (x2 : Int32) (σ : St) (ok : f_X8_about x1 x2 σ = some z) : G ε κ 0 0 0 [(0, .ref (ad ε 0)), (1, .int x1), (2, .int x2)] [] (WX ε σ) := by
  unfold f_X8_about at ok
  refine g_aload_n C dX8_about_0 rfl 0 rfl ?_
  refine q_X8_52 C dX8_about_1 ?_
  refine g_iload_n C dX8_about_4 rfl 1 rfl ?_
  obtain ⟨r1, s2, e3, ok⟩ := bd_ok ok
  refine q_cI C [.int x1] (c_X3_has e3) wv_X8_174 (by decide) (bs_lt σ.2.2.1) (wx_X3 σ.2.2.1) rfl rfl rfl (Nat.le_of_ble_eq_true rfl) dX8_about_5 ?_
  refine g_if_eq (tgt := 20) C dX8_about_8 (by decide) (fun c4 => ?_) (fun c4 => ?_)
  · replace ok := ok_t c4 ok
    refine g_pick (lv' := []) ?_ [] rfl
    exact t_X8_about_20 C K T20 _ ok
  · replace ok := ok_f c4 ok
    refine g_iload_n C dX8_about_11 rfl 2 rfl ?_
    refine g_bipush (v := 6) C dX8_about_12 (by decide) ?_
    obtain ⟨r5, s6, e7, ok⟩ := bd_ok ok
    refine q_sI C [.int x2, .int (6 : Int32)] (c_X8_isWithin e7) wv_X8_110 (by decide) rfl rfl (Nat.le_of_ble_eq_true rfl) dX8_about_14 ?_
    refine g_if_ne (tgt := 30) C dX8_about_17 (by decide) (fun c8 => ?_) (fun c8 => ?_)
    · replace ok := ok_f c8 ok
      refine g_iload_n C dX8_about_30 rfl 2 rfl ?_
      refine g_if_ne (tgt := 43) C dX8_about_31 (by decide) (fun c9 => ?_) (fun c9 => ?_)
      · replace ok := ok_f c9 ok
        refine g_iload_n C dX8_about_43 rfl 2 rfl ?_
        refine g_iconst (v := 1) C dX8_about_44 (by decide) ?_
        refine g_icmp_ne (tgt := 57) C dX8_about_45 (by decide) (fun c10 => ?_) (fun c10 => ?_)
        · replace ok := ok_f c10 ok
          refine g_aload_n C dX8_about_57 rfl 0 rfl ?_
          refine q_X8_45 C dX8_about_58 ?_
          obtain ⟨r11, s12, e13, ok⟩ := bd_ok ok
          refine q_cI C [] (c_X5_isDone e13) wv_X8_182 (by decide) (lt_N (by decide)) wx_X5 rfl rfl rfl (Nat.le_of_ble_eq_true rfl) dX8_about_61 ?_
          refine g_if_eq (tgt := 76) C dX8_about_64 (by decide) (fun c14 => ?_) (fun c14 => ?_)
          · replace ok := ok_t c14 ok
            refine g_iconst (v := -1) C dX8_about_76 (by decide) ?_
            refine g_pick (lv' := []) ?_ [] rfl
            exact t_X8_about_77 C K T20 _ _ ok
          · replace ok := ok_f c14 ok
            refine g_aload_n C dX8_about_67 rfl 0 rfl ?_
            refine g_iload_n C dX8_about_68 rfl 1 rfl ?_
            refine g_iload_n C dX8_about_69 rfl 2 rfl ?_
            obtain ⟨r15, s16, e17, ok⟩ := bd_ok ok
            refine q_cI C [.int x1, .int x2] (c_X8_aboutSorted e17) wv_X8_185 (by decide) (lt_N (by decide)) wx_X8 rfl rfl rfl (Nat.le_of_ble_eq_true rfl) dX8_about_70 ?_
            refine g_goto (tgt := 77) C dX8_about_73 (by decide) ?_
            refine g_pick (lv' := []) ?_ [] rfl
            exact t_X8_about_77 C K T20 _ _ ok
        · replace ok := ok_t c10 ok
          refine g_aload_n C dX8_about_48 rfl 0 rfl ?_
          refine q_X8_52 C dX8_about_49 ?_
          refine g_iload_n C dX8_about_52 rfl 1 rfl ?_
          obtain ⟨r18, s19, e20, ok⟩ := bd_ok ok
          refine q_cI C [.int x1] (c_X3_letterCount e20) wv_X8_146 (by decide) (bs_lt s6.2.2.1) (wx_X3 s6.2.2.1) rfl rfl rfl (Nat.le_of_ble_eq_true rfl) dX8_about_53 ?_
          exact K 56 _ _ _ dX8_about_56 ok
      · replace ok := ok_t c9 ok
        refine g_aload_n C dX8_about_34 rfl 0 rfl ?_
        refine q_X8_52 C dX8_about_35 ?_
        refine g_iload_n C dX8_about_38 rfl 1 rfl ?_
        obtain ⟨r21, s22, e23, ok⟩ := bd_ok ok
        refine q_cI C [.int x1] (c_X3_nameSize e23) wv_X8_179 (by decide) (bs_lt s6.2.2.1) (wx_X3 s6.2.2.1) rfl rfl rfl (Nat.le_of_ble_eq_true rfl) dX8_about_39 ?_
        exact K 42 _ _ _ dX8_about_42 ok
    · replace ok := ok_t c8 ok
      refine g_pick (lv' := []) ?_ [] rfl
      exact t_X8_about_20 C K T20 _ ok
def b_X8_letter_56 (x4 : Int32) (σ : St) : Option Rx := (if x4 = (-1 : Int32) then some (2, (0 : Int32), σ) else some (0, x4, σ))
set_option maxRecDepth 10000 in
set_option maxHeartbeats 1000000 in
theorem t_X8_letter_56 {ε : Et} {κ : Kt} {z : Rx} (C : Cx ε κ cX8_letter 5 RX8 7) (K : ∀ (pc : Nat) (lv : List (Nat × Value)) (r : Int32) (σ : St), decode cX8_letter pc = .ok (.ireturn, 1) → some (0, r, σ) = some z → G ε κ 0 0 pc lv [.int r] (WX ε σ)) (T62 : ∀ (lv : List (Nat × Value)) (σ : St), some (2, (0 : Int32), σ) = some z → G ε κ 0 0 62 lv [] (WX ε σ)) (x4 : Int32) (σ : St) (ok : b_X8_letter_56 x4 σ = some z) : G ε κ 0 0 56 [(4, .int x4)] [] (WX ε σ) := by
  unfold b_X8_letter_56 at ok
  refine g_iload C dX8_letter_56 0 rfl ?_
  refine g_iconst (v := -1) C dX8_letter_58 (by decide) ?_
  refine g_icmp_ne (tgt := 72) C dX8_letter_59 (by decide) (fun c1 => ?_) (fun c1 => ?_)
  · replace ok := ok_f c1 ok
    refine g_iload C dX8_letter_72 0 rfl ?_
    exact K 74 _ _ _ dX8_letter_74 ok
  · replace ok := ok_t c1 ok
    exact T62 _ _ ok
def f_X8_letter (x1 : Int32) (x2 : Int32) (x3 : Int32) (σ : St) : Option Rx := (if x2 = 0 then bd (f_X3_nameOctet σ.2.2.1 x1 x3 σ) (fun r10 s11 => b_X8_letter_56 r10 s11) else (if x2 = (1 : Int32) then bd (f_X3_letterOctet σ.2.2.1 x1 x3 σ) (fun r7 s8 => b_X8_letter_56 r7 s8) else (if x2 = (2 : Int32) then bd (f_X3_quality σ.2.2.1 x1 x3 σ) (fun r4 s5 => b_X8_letter_56 r4 s5) else b_X8_letter_56 (-1 : Int32) σ)))
set_option maxRecDepth 10000 in
set_option maxHeartbeats 1000000 in
theorem tf_X8_letter {ε : Et} {κ : Kt} {z : Rx} (C : Cx ε κ cX8_letter 5 RX8 7) (K : ∀ (pc : Nat) (lv : List (Nat × Value)) (r : Int32) (σ : St), decode cX8_letter pc = .ok (.ireturn, 1) → some (0, r, σ) = some z → G ε κ 0 0 pc lv [.int r] (WX ε σ)) (T62 : ∀ (lv : List (Nat × Value)) (σ : St), some (2, (0 : Int32), σ) = some z → G ε κ 0 0 62 lv [] (WX ε σ)) (x1 : Int32) (x2 : Int32) (x3 : Int32) (σ : St) (ok : f_X8_letter x1 x2 x3 σ = some z) : G ε κ 0 0 0 [(0, .ref (ad ε 0)), (1, .int x1), (2, .int x2), (3, .int x3)] [] (WX ε σ) := by
  unfold f_X8_letter at ok
  refine g_iconst (v := -1) C dX8_letter_0 (by decide) ?_
  refine g_istore C [(4, .int (-1 : Int32)), (0, .ref (ad ε 0)), (1, .int x1), (2, .int x2), (3, .int x3)] dX8_letter_1 (by decide) rfl ?_
  refine g_iload_n C dX8_letter_3 rfl 3 rfl ?_
  refine g_if_ne (tgt := 21) C dX8_letter_4 (by decide) (fun c1 => ?_) (fun c1 => ?_)
  · replace ok := ok_f c1 ok
    refine g_iload_n C dX8_letter_21 rfl 3 rfl ?_
    refine g_iconst (v := 1) C dX8_letter_22 (by decide) ?_
    refine g_icmp_ne (tgt := 40) C dX8_letter_23 (by decide) (fun c2 => ?_) (fun c2 => ?_)
    · replace ok := ok_f c2 ok
      refine g_iload_n C dX8_letter_40 rfl 3 rfl ?_
      refine g_iconst (v := 2) C dX8_letter_41 (by decide) ?_
      refine g_icmp_ne (tgt := 56) C dX8_letter_42 (by decide) (fun c3 => ?_) (fun c3 => ?_)
      · replace ok := ok_f c3 ok
        refine g_pick (lv' := [(4, .int (-1 : Int32))]) ?_ [0] rfl
        exact t_X8_letter_56 C K T62 _ _ ok
      · replace ok := ok_t c3 ok
        refine g_aload_n C dX8_letter_45 rfl 1 rfl ?_
        refine q_X8_52 C dX8_letter_46 ?_
        refine g_iload_n C dX8_letter_49 rfl 2 rfl ?_
        refine g_iload_n C dX8_letter_50 rfl 4 rfl ?_
        obtain ⟨r4, s5, e6, ok⟩ := bd_ok ok
        refine q_cI C [.int x1, .int x3] (c_X3_quality e6) wv_X8_210 (by decide) (bs_lt σ.2.2.1) (wx_X3 σ.2.2.1) rfl rfl rfl (Nat.le_of_ble_eq_true rfl) dX8_letter_51 ?_
        refine g_istore C [(4, .int r4), (0, .ref (ad ε 0)), (1, .int x1), (2, .int x2), (3, .int x3)] dX8_letter_54 (by decide) rfl ?_
        refine g_pick (lv' := [(4, .int r4)]) ?_ [0] rfl
        exact t_X8_letter_56 C K T62 _ _ ok
    · replace ok := ok_t c2 ok
      refine g_aload_n C dX8_letter_26 rfl 1 rfl ?_
      refine q_X8_52 C dX8_letter_27 ?_
      refine g_iload_n C dX8_letter_30 rfl 2 rfl ?_
      refine g_iload_n C dX8_letter_31 rfl 4 rfl ?_
      obtain ⟨r7, s8, e9, ok⟩ := bd_ok ok
      refine q_cI C [.int x1, .int x3] (c_X3_letterOctet e9) wv_X8_207 (by decide) (bs_lt σ.2.2.1) (wx_X3 σ.2.2.1) rfl rfl rfl (Nat.le_of_ble_eq_true rfl) dX8_letter_32 ?_
      refine g_istore C [(4, .int r7), (0, .ref (ad ε 0)), (1, .int x1), (2, .int x2), (3, .int x3)] dX8_letter_35 (by decide) rfl ?_
      refine g_goto (tgt := 56) C dX8_letter_37 (by decide) ?_
      refine g_pick (lv' := [(4, .int r7)]) ?_ [0] rfl
      exact t_X8_letter_56 C K T62 _ _ ok
  · replace ok := ok_t c1 ok
    refine g_aload_n C dX8_letter_7 rfl 1 rfl ?_
    refine q_X8_52 C dX8_letter_8 ?_
    refine g_iload_n C dX8_letter_11 rfl 2 rfl ?_
    refine g_iload_n C dX8_letter_12 rfl 4 rfl ?_
    obtain ⟨r10, s11, e12, ok⟩ := bd_ok ok
    refine q_cI C [.int x1, .int x3] (c_X3_nameOctet e12) wv_X8_204 (by decide) (bs_lt σ.2.2.1) (wx_X3 σ.2.2.1) rfl rfl rfl (Nat.le_of_ble_eq_true rfl) dX8_letter_13 ?_
    refine g_istore C [(4, .int r10), (0, .ref (ad ε 0)), (1, .int x1), (2, .int x2), (3, .int x3)] dX8_letter_16 (by decide) rfl ?_
    refine g_goto (tgt := 56) C dX8_letter_18 (by decide) ?_
    refine g_pick (lv' := [(4, .int r10)]) ?_ [0] rfl
    exact t_X8_letter_56 C K T62 _ _ ok
def b_X8_hasBin_43 (t0 : Int32) (σ : St) : Option Rs := gz t0 (some (t0, σ))
set_option maxRecDepth 10000 in
set_option maxHeartbeats 1000000 in
theorem t_X8_hasBin_43 {ε : Et} {κ : Kt} {z : Rs} (C : Cx ε κ cX8_hasBin 3 RX8 1) (K : Ret ε κ cX8_hasBin (some .boolean) 0 0 (PI ε z)) (t0 : Int32) (σ : St) (ok : b_X8_hasBin_43 t0 σ = some z) : G ε κ 0 0 43 [] [.int t0] (WX ε σ) := by
  unfold b_X8_hasBin_43 at ok
  obtain ⟨z1, ok⟩ := gz_ok ok
  exact K.2 .boolean _ _ _ _ rfl dX8_hasBin_43 (nar_b z1) (pi_ok ok)
def b_X8_hasBin_42 (σ : St) : Option Rs := b_X8_hasBin_43 (0 : Int32) σ
set_option maxRecDepth 10000 in
set_option maxHeartbeats 1000000 in
theorem t_X8_hasBin_42 {ε : Et} {κ : Kt} {z : Rs} (C : Cx ε κ cX8_hasBin 3 RX8 1) (K : Ret ε κ cX8_hasBin (some .boolean) 0 0 (PI ε z)) (σ : St) (ok : b_X8_hasBin_42 σ = some z) : G ε κ 0 0 42 [] [] (WX ε σ) := by
  unfold b_X8_hasBin_42 at ok
  refine g_iconst (v := 0) C dX8_hasBin_42 (by decide) ?_
  exact t_X8_hasBin_43 C K _ _ ok
def b_X8_hasBin_27 (x1 : Int32) (t0 : Int32) (σ : St) : Option Rs := (if x1 < (-1 : Int32) then b_X8_hasBin_42 σ else (if t0 ≤ x1 then b_X8_hasBin_42 σ else b_X8_hasBin_43 (1 : Int32) σ))
set_option maxRecDepth 10000 in
set_option maxHeartbeats 1000000 in
theorem t_X8_hasBin_27 {ε : Et} {κ : Kt} {z : Rs} (C : Cx ε κ cX8_hasBin 3 RX8 1) (K : Ret ε κ cX8_hasBin (some .boolean) 0 0 (PI ε z)) (x1 : Int32) (t0 : Int32) (σ : St) (ok : b_X8_hasBin_27 x1 t0 σ = some z) : G ε κ 0 0 27 [(1, .int x1)] [.int t0] (WX ε σ) := by
  unfold b_X8_hasBin_27 at ok
  refine g_istore_n C [(2, .int t0), (1, .int x1)] dX8_hasBin_27 rfl (by decide) rfl ?_
  refine g_iload_n C dX8_hasBin_28 rfl 1 rfl ?_
  refine g_iconst (v := -1) C dX8_hasBin_29 (by decide) ?_
  refine g_icmp_lt (tgt := 42) C dX8_hasBin_30 (by decide) (fun c1 => ?_) (fun c1 => ?_)
  · replace ok := ok_t c1 ok
    refine g_pick (lv' := []) ?_ [] rfl
    exact t_X8_hasBin_42 C K _ ok
  · replace ok := ok_f c1 ok
    refine g_iload_n C dX8_hasBin_33 rfl 1 rfl ?_
    refine g_iload_n C dX8_hasBin_34 rfl 0 rfl ?_
    refine g_icmp_ge (tgt := 42) C dX8_hasBin_35 (by decide) (fun c2 => ?_) (fun c2 => ?_)
    · replace ok := ok_t c2 ok
      refine g_pick (lv' := []) ?_ [] rfl
      exact t_X8_hasBin_42 C K _ ok
    · replace ok := ok_f c2 ok
      refine g_iconst (v := 1) C dX8_hasBin_38 (by decide) ?_
      refine g_goto (tgt := 43) C dX8_hasBin_39 (by decide) ?_
      refine g_pick (lv' := []) ?_ [] rfl
      exact t_X8_hasBin_43 C K _ _ ok
def f_X8_hasBin (x1 : Int32) (σ : St) : Option Rs := bd (f_X5_isDone σ) (fun r1 s2 => (if r1 = 0 then bd (f_X0_count s2) (fun r5 s6 => b_X8_hasBin_27 x1 r5 s6) else bd (f_X5_binCount s2) (fun r8 s9 => b_X8_hasBin_27 x1 r8 s9)))
set_option maxRecDepth 10000 in
set_option maxHeartbeats 1000000 in
theorem tf_X8_hasBin {ε : Et} {κ : Kt} {z : Rs} (C : Cx ε κ cX8_hasBin 3 RX8 1) (K : Ret ε κ cX8_hasBin (some .boolean) 0 0 (PI ε z)) (x1 : Int32) (σ : St) (ok : f_X8_hasBin x1 σ = some z) : G ε κ 0 0 0 [(0, .ref (ad ε 0)), (1, .int x1)] [] (WX ε σ) := by
  unfold f_X8_hasBin at ok
  refine g_aload_n C dX8_hasBin_0 rfl 0 rfl ?_
  refine q_X8_45 C dX8_hasBin_1 ?_
  obtain ⟨r1, s2, e3, ok⟩ := bd_ok ok
  refine q_cI C [] (c_X5_isDone e3) wv_X8_182 (by decide) (lt_N (by decide)) wx_X5 rfl rfl rfl (Nat.le_of_ble_eq_true rfl) dX8_hasBin_4 ?_
  refine g_if_eq (tgt := 20) C dX8_hasBin_7 (by decide) (fun c4 => ?_) (fun c4 => ?_)
  · replace ok := ok_t c4 ok
    refine g_aload_n C dX8_hasBin_20 rfl 0 rfl ?_
    refine q_X8_31 C dX8_hasBin_21 ?_
    obtain ⟨r5, s6, e7, ok⟩ := bd_ok ok
    refine q_cI C [] (c_X0_count e7) wv_X8_121 (by decide) (lt_N (by decide)) wx_X0 rfl rfl rfl (Nat.le_of_ble_eq_true rfl) dX8_hasBin_24 ?_
    refine g_pick (lv' := [(1, .int x1)]) ?_ [1] rfl
    exact t_X8_hasBin_27 C K _ _ _ ok
  · replace ok := ok_f c4 ok
    refine g_aload_n C dX8_hasBin_10 rfl 0 rfl ?_
    refine q_X8_45 C dX8_hasBin_11 ?_
    obtain ⟨r8, s9, e10, ok⟩ := bd_ok ok
    refine q_cI C [] (c_X5_binCount e10) wv_X8_283 (by decide) (lt_N (by decide)) wx_X5 rfl rfl rfl (Nat.le_of_ble_eq_true rfl) dX8_hasBin_14 ?_
    refine g_goto (tgt := 27) C dX8_hasBin_17 (by decide) ?_
    refine g_pick (lv' := [(1, .int x1)]) ?_ [1] rfl
    exact t_X8_hasBin_27 C K _ _ _ ok
theorem c_X8_hasBin {l : Launch} {ε : Et} {σ : St} {z : Rs} {x1 : Int32} (e : f_X8_hasBin x1 σ = some z) : RM l ε yX8_hasBin cX8_hasBin 3 (some .boolean) 1 0 0 [.ref (ad ε 0), .int x1] (WX ε σ) (PI ε z) := RM.of (by decide) (Nat.le_of_ble_eq_true rfl) (fun κ C K => tf_X8_hasBin C K x1 σ e)
def b_X8_bin_16 (σ : St) : Option Rx := some (2, (0 : Int32), σ)
set_option maxRecDepth 10000 in
set_option maxHeartbeats 1000000 in
theorem t_X8_bin_16 {ε : Et} {κ : Kt} {z : Rx} (C : Cx ε κ cX8_bin 3 RX8 7) (K : ∀ (pc : Nat) (lv : List (Nat × Value)) (r : Int32) (σ : St), decode cX8_bin pc = .ok (.ireturn, 1) → some (0, r, σ) = some z → G ε κ 0 0 pc lv [.int r] (WX ε σ)) (T16 : ∀ (lv : List (Nat × Value)) (σ : St), some (2, (0 : Int32), σ) = some z → G ε κ 0 0 16 lv [] (WX ε σ)) (T36 : ∀ (lv : List (Nat × Value)) (σ : St), some (3, (0 : Int32), σ) = some z → G ε κ 0 0 36 lv [] (WX ε σ)) (σ : St) (ok : b_X8_bin_16 σ = some z) : G ε κ 0 0 16 [] [] (WX ε σ) := by
  unfold b_X8_bin_16 at ok
  exact T16 _ _ ok
def b_X8_bin_86 (t0 : Int32) (σ : St) : Option Rx := some (0, t0, σ)
set_option maxRecDepth 10000 in
set_option maxHeartbeats 1000000 in
theorem t_X8_bin_86 {ε : Et} {κ : Kt} {z : Rx} (C : Cx ε κ cX8_bin 3 RX8 7) (K : ∀ (pc : Nat) (lv : List (Nat × Value)) (r : Int32) (σ : St), decode cX8_bin pc = .ok (.ireturn, 1) → some (0, r, σ) = some z → G ε κ 0 0 pc lv [.int r] (WX ε σ)) (T16 : ∀ (lv : List (Nat × Value)) (σ : St), some (2, (0 : Int32), σ) = some z → G ε κ 0 0 16 lv [] (WX ε σ)) (T36 : ∀ (lv : List (Nat × Value)) (σ : St), some (3, (0 : Int32), σ) = some z → G ε κ 0 0 36 lv [] (WX ε σ)) (t0 : Int32) (σ : St) (ok : b_X8_bin_86 t0 σ = some z) : G ε κ 0 0 86 [] [.int t0] (WX ε σ) := by
  unfold b_X8_bin_86 at ok
  exact K 86 _ _ _ dX8_bin_86 ok
def f_X8_bin (x1 : Int32) (x2 : Int32) (σ : St) : Option Rx := bd (f_X8_hasBin x1 σ) (fun r1 s2 => (if r1 = 0 then b_X8_bin_16 s2 else bd (f_X8_isWithin x2 (2 : Int32) s2) (fun r5 s6 => (if r5 = 0 then b_X8_bin_16 s6 else bd (f_X5_isDone s6) (fun r9 s10 => (if r9 = 0 then some (3, (0 : Int32), s10) else (if x2 = 0 then bd (f_X5_readsIn x1 s10) (fun r21 s22 => some (0, r21, s22)) else (if x2 = (1 : Int32) then bd (f_X5_shortReadsIn x1 s10) (fun r18 s19 => b_X8_bin_86 r18 s19) else bd (f_X1_groupsIn x1 s10) (fun r15 s16 => b_X8_bin_86 r15 s16)))))))))
set_option maxRecDepth 10000 in
set_option maxHeartbeats 1000000 in
theorem tf_X8_bin {ε : Et} {κ : Kt} {z : Rx} (C : Cx ε κ cX8_bin 3 RX8 7) (K : ∀ (pc : Nat) (lv : List (Nat × Value)) (r : Int32) (σ : St), decode cX8_bin pc = .ok (.ireturn, 1) → some (0, r, σ) = some z → G ε κ 0 0 pc lv [.int r] (WX ε σ)) (T16 : ∀ (lv : List (Nat × Value)) (σ : St), some (2, (0 : Int32), σ) = some z → G ε κ 0 0 16 lv [] (WX ε σ)) (T36 : ∀ (lv : List (Nat × Value)) (σ : St), some (3, (0 : Int32), σ) = some z → G ε κ 0 0 36 lv [] (WX ε σ)) (x1 : Int32) (x2 : Int32) (σ : St) (ok : f_X8_bin x1 x2 σ = some z) : G ε κ 0 0 0 [(0, .ref (ad ε 0)), (1, .int x1), (2, .int x2)] [] (WX ε σ) := by
  unfold f_X8_bin at ok
  refine g_aload_n C dX8_bin_0 rfl 0 rfl ?_
  refine g_iload_n C dX8_bin_1 rfl 1 rfl ?_
  obtain ⟨r1, s2, e3, ok⟩ := bd_ok ok
  refine q_cI C [.int x1] (c_X8_hasBin e3) wv_X8_215 (by decide) (lt_N (by decide)) wx_X8 rfl rfl rfl (Nat.le_of_ble_eq_true rfl) dX8_bin_2 ?_
  refine g_if_eq (tgt := 16) C dX8_bin_5 (by decide) (fun c4 => ?_) (fun c4 => ?_)
  · replace ok := ok_t c4 ok
    refine g_pick (lv' := []) ?_ [] rfl
    exact t_X8_bin_16 C K T16 T36 _ ok
  · replace ok := ok_f c4 ok
    refine g_iload_n C dX8_bin_8 rfl 2 rfl ?_
    refine g_iconst (v := 2) C dX8_bin_9 (by decide) ?_
    obtain ⟨r5, s6, e7, ok⟩ := bd_ok ok
    refine q_sI C [.int x2, .int (2 : Int32)] (c_X8_isWithin e7) wv_X8_110 (by decide) rfl rfl (Nat.le_of_ble_eq_true rfl) dX8_bin_10 ?_
    refine g_if_ne (tgt := 26) C dX8_bin_13 (by decide) (fun c8 => ?_) (fun c8 => ?_)
    · replace ok := ok_f c8 ok
      refine g_aload_n C dX8_bin_26 rfl 0 rfl ?_
      refine q_X8_45 C dX8_bin_27 ?_
      obtain ⟨r9, s10, e11, ok⟩ := bd_ok ok
      refine q_cI C [] (c_X5_isDone e11) wv_X8_182 (by decide) (lt_N (by decide)) wx_X5 rfl rfl rfl (Nat.le_of_ble_eq_true rfl) dX8_bin_30 ?_
      refine g_if_ne (tgt := 46) C dX8_bin_33 (by decide) (fun c12 => ?_) (fun c12 => ?_)
      · replace ok := ok_f c12 ok
        refine g_iload_n C dX8_bin_46 rfl 2 rfl ?_
        refine g_if_ne (tgt := 59) C dX8_bin_47 (by decide) (fun c13 => ?_) (fun c13 => ?_)
        · replace ok := ok_f c13 ok
          refine g_iload_n C dX8_bin_59 rfl 2 rfl ?_
          refine g_iconst (v := 1) C dX8_bin_60 (by decide) ?_
          refine g_icmp_ne (tgt := 75) C dX8_bin_61 (by decide) (fun c14 => ?_) (fun c14 => ?_)
          · replace ok := ok_f c14 ok
            refine g_aload_n C dX8_bin_75 rfl 0 rfl ?_
            refine q_X8_45 C dX8_bin_76 ?_
            refine q_cR C [] c_X5_grouping wv_X8_164 (by decide) (lt_N (by decide)) wx_X5 rfl rfl rfl (Nat.le_of_ble_eq_true rfl) dX8_bin_79 ?_
            refine g_iload_n C dX8_bin_82 rfl 1 rfl ?_
            obtain ⟨r15, s16, e17, ok⟩ := bd_ok ok
            refine q_cI C [.int x1] (c_X1_groupsIn e17) wv_X8_228 (by decide) (lt_N (by decide)) wx_X1 rfl rfl rfl (Nat.le_of_ble_eq_true rfl) dX8_bin_83 ?_
            refine g_pick (lv' := []) ?_ [] rfl
            exact t_X8_bin_86 C K T16 T36 _ _ ok
          · replace ok := ok_t c14 ok
            refine g_aload_n C dX8_bin_64 rfl 0 rfl ?_
            refine q_X8_45 C dX8_bin_65 ?_
            refine g_iload_n C dX8_bin_68 rfl 1 rfl ?_
            obtain ⟨r18, s19, e20, ok⟩ := bd_ok ok
            refine q_cI C [.int x1] (c_X5_shortReadsIn e20) wv_X8_225 (by decide) (lt_N (by decide)) wx_X5 rfl rfl rfl (Nat.le_of_ble_eq_true rfl) dX8_bin_69 ?_
            refine g_goto (tgt := 86) C dX8_bin_72 (by decide) ?_
            refine g_pick (lv' := []) ?_ [] rfl
            exact t_X8_bin_86 C K T16 T36 _ _ ok
        · replace ok := ok_t c13 ok
          refine g_aload_n C dX8_bin_50 rfl 0 rfl ?_
          refine q_X8_45 C dX8_bin_51 ?_
          refine g_iload_n C dX8_bin_54 rfl 1 rfl ?_
          obtain ⟨r21, s22, e23, ok⟩ := bd_ok ok
          refine q_cI C [.int x1] (c_X5_readsIn e23) wv_X8_142 (by decide) (lt_N (by decide)) wx_X5 rfl rfl rfl (Nat.le_of_ble_eq_true rfl) dX8_bin_55 ?_
          exact K 58 _ _ _ dX8_bin_58 ok
      · replace ok := ok_t c12 ok
        exact T36 _ _ ok
    · replace ok := ok_t c8 ok
      refine g_pick (lv' := []) ?_ [] rfl
      exact t_X8_bin_16 C K T16 T36 _ ok
def b_X8_group_16 (σ : St) : Option Rx := some (2, (0 : Int32), σ)
set_option maxRecDepth 10000 in
set_option maxHeartbeats 1000000 in
theorem t_X8_group_16 {ε : Et} {κ : Kt} {z : Rx} (C : Cx ε κ cX8_group 4 RX8 7) (K : ∀ (pc : Nat) (lv : List (Nat × Value)) (r : Int32) (σ : St), decode cX8_group pc = .ok (.ireturn, 1) → some (0, r, σ) = some z → G ε κ 0 0 pc lv [.int r] (WX ε σ)) (T16 : ∀ (lv : List (Nat × Value)) (σ : St), some (2, (0 : Int32), σ) = some z → G ε κ 0 0 16 lv [] (WX ε σ)) (T36 : ∀ (lv : List (Nat × Value)) (σ : St), some (3, (0 : Int32), σ) = some z → G ε κ 0 0 36 lv [] (WX ε σ)) (T65 : ∀ (lv : List (Nat × Value)) (σ : St), some (2, (0 : Int32), σ) = some z → G ε κ 0 0 65 lv [] (WX ε σ)) (σ : St) (ok : b_X8_group_16 σ = some z) : G ε κ 0 0 16 [] [] (WX ε σ) := by
  unfold b_X8_group_16 at ok
  exact T16 _ _ ok
def b_X8_group_65 (σ : St) : Option Rx := some (2, (0 : Int32), σ)
set_option maxRecDepth 10000 in
set_option maxHeartbeats 1000000 in
theorem t_X8_group_65 {ε : Et} {κ : Kt} {z : Rx} (C : Cx ε κ cX8_group 4 RX8 7) (K : ∀ (pc : Nat) (lv : List (Nat × Value)) (r : Int32) (σ : St), decode cX8_group pc = .ok (.ireturn, 1) → some (0, r, σ) = some z → G ε κ 0 0 pc lv [.int r] (WX ε σ)) (T16 : ∀ (lv : List (Nat × Value)) (σ : St), some (2, (0 : Int32), σ) = some z → G ε κ 0 0 16 lv [] (WX ε σ)) (T36 : ∀ (lv : List (Nat × Value)) (σ : St), some (3, (0 : Int32), σ) = some z → G ε κ 0 0 36 lv [] (WX ε σ)) (T65 : ∀ (lv : List (Nat × Value)) (σ : St), some (2, (0 : Int32), σ) = some z → G ε κ 0 0 65 lv [] (WX ε σ)) (σ : St) (ok : b_X8_group_65 σ = some z) : G ε κ 0 0 65 [] [] (WX ε σ) := by
  unfold b_X8_group_65 at ok
  exact T65 _ _ ok
def b_X8_group_121 (t0 : Int32) (σ : St) : Option Rx := some (0, t0, σ)
set_option maxRecDepth 10000 in
set_option maxHeartbeats 1000000 in
theorem t_X8_group_121 {ε : Et} {κ : Kt} {z : Rx} (C : Cx ε κ cX8_group 4 RX8 7) (K : ∀ (pc : Nat) (lv : List (Nat × Value)) (r : Int32) (σ : St), decode cX8_group pc = .ok (.ireturn, 1) → some (0, r, σ) = some z → G ε κ 0 0 pc lv [.int r] (WX ε σ)) (T16 : ∀ (lv : List (Nat × Value)) (σ : St), some (2, (0 : Int32), σ) = some z → G ε κ 0 0 16 lv [] (WX ε σ)) (T36 : ∀ (lv : List (Nat × Value)) (σ : St), some (3, (0 : Int32), σ) = some z → G ε κ 0 0 36 lv [] (WX ε σ)) (T65 : ∀ (lv : List (Nat × Value)) (σ : St), some (2, (0 : Int32), σ) = some z → G ε κ 0 0 65 lv [] (WX ε σ)) (t0 : Int32) (σ : St) (ok : b_X8_group_121 t0 σ = some z) : G ε κ 0 0 121 [] [.int t0] (WX ε σ) := by
  unfold b_X8_group_121 at ok
  exact K 121 _ _ _ dX8_group_121 ok
def f_X8_group (x1 : Int32) (x2 : Int32) (x3 : Int32) (σ : St) : Option Rx := bd (f_X8_hasBin x1 σ) (fun r1 s2 => (if r1 = 0 then b_X8_group_16 s2 else bd (f_X8_isWithin x3 (2 : Int32) s2) (fun r5 s6 => (if r5 = 0 then b_X8_group_16 s6 else bd (f_X5_isDone s6) (fun r9 s10 => (if r9 = 0 then some (3, (0 : Int32), s10) else (if x2 < 0 then b_X8_group_65 s10 else bd (f_X1_groupsIn x1 s10) (fun r14 s15 => (if x2 < r14 then (if x3 = 0 then bd (f_X1_readsIn x1 x2 s15) (fun r26 s27 => some (0, r26, s27)) else (if x3 = (1 : Int32) then bd (f_X5_bestOf x1 x2 s15) (fun r23 s24 => b_X8_group_121 r23 s24) else bd (f_X1_tagsIn x1 x2 s15) (fun r20 s21 => b_X8_group_121 r20 s21))) else b_X8_group_65 s15)))))))))
set_option maxRecDepth 10000 in
set_option maxHeartbeats 1000000 in
theorem tf_X8_group {ε : Et} {κ : Kt} {z : Rx} (C : Cx ε κ cX8_group 4 RX8 7) (K : ∀ (pc : Nat) (lv : List (Nat × Value)) (r : Int32) (σ : St), decode cX8_group pc = .ok (.ireturn, 1) → some (0, r, σ) = some z → G ε κ 0 0 pc lv [.int r] (WX ε σ)) (T16 : ∀ (lv : List (Nat × Value)) (σ : St), some (2, (0 : Int32), σ) = some z → G ε κ 0 0 16 lv [] (WX ε σ)) (T36 : ∀ (lv : List (Nat × Value)) (σ : St), some (3, (0 : Int32), σ) = some z → G ε κ 0 0 36 lv [] (WX ε σ)) (T65 : ∀ (lv : List (Nat × Value)) (σ : St), some (2, (0 : Int32), σ) = some z → G ε κ 0 0 65 lv [] (WX ε σ)) (x1 : Int32) (x2 : Int32) (x3 : Int32) (σ : St) (ok : f_X8_group x1 x2 x3 σ = some z) : G ε κ 0 0 0 [(0, .ref (ad ε 0)), (1, .int x1), (2, .int x2), (3, .int x3)] [] (WX ε σ) := by
  unfold f_X8_group at ok
  refine g_aload_n C dX8_group_0 rfl 0 rfl ?_
  refine g_iload_n C dX8_group_1 rfl 1 rfl ?_
  obtain ⟨r1, s2, e3, ok⟩ := bd_ok ok
  refine q_cI C [.int x1] (c_X8_hasBin e3) wv_X8_215 (by decide) (lt_N (by decide)) wx_X8 rfl rfl rfl (Nat.le_of_ble_eq_true rfl) dX8_group_2 ?_
  refine g_if_eq (tgt := 16) C dX8_group_5 (by decide) (fun c4 => ?_) (fun c4 => ?_)
  · replace ok := ok_t c4 ok
    refine g_pick (lv' := []) ?_ [] rfl
    exact t_X8_group_16 C K T16 T36 T65 _ ok
  · replace ok := ok_f c4 ok
    refine g_iload_n C dX8_group_8 rfl 3 rfl ?_
    refine g_iconst (v := 2) C dX8_group_9 (by decide) ?_
    obtain ⟨r5, s6, e7, ok⟩ := bd_ok ok
    refine q_sI C [.int x3, .int (2 : Int32)] (c_X8_isWithin e7) wv_X8_110 (by decide) rfl rfl (Nat.le_of_ble_eq_true rfl) dX8_group_10 ?_
    refine g_if_ne (tgt := 26) C dX8_group_13 (by decide) (fun c8 => ?_) (fun c8 => ?_)
    · replace ok := ok_f c8 ok
      refine g_aload_n C dX8_group_26 rfl 0 rfl ?_
      refine q_X8_45 C dX8_group_27 ?_
      obtain ⟨r9, s10, e11, ok⟩ := bd_ok ok
      refine q_cI C [] (c_X5_isDone e11) wv_X8_182 (by decide) (lt_N (by decide)) wx_X5 rfl rfl rfl (Nat.le_of_ble_eq_true rfl) dX8_group_30 ?_
      refine g_if_ne (tgt := 46) C dX8_group_33 (by decide) (fun c12 => ?_) (fun c12 => ?_)
      · replace ok := ok_f c12 ok
        refine g_iload_n C dX8_group_46 rfl 2 rfl ?_
        refine g_if_lt (tgt := 65) C dX8_group_47 (by decide) (fun c13 => ?_) (fun c13 => ?_)
        · replace ok := ok_t c13 ok
          refine g_pick (lv' := []) ?_ [] rfl
          exact t_X8_group_65 C K T16 T36 T65 _ ok
        · replace ok := ok_f c13 ok
          refine g_iload_n C dX8_group_50 rfl 2 rfl ?_
          refine g_aload_n C dX8_group_51 rfl 0 rfl ?_
          refine q_X8_45 C dX8_group_52 ?_
          refine q_cR C [] c_X5_grouping wv_X8_164 (by decide) (lt_N (by decide)) wx_X5 rfl rfl rfl (Nat.le_of_ble_eq_true rfl) dX8_group_55 ?_
          refine g_iload_n C dX8_group_58 rfl 1 rfl ?_
          obtain ⟨r14, s15, e16, ok⟩ := bd_ok ok
          refine q_cI C [.int x1] (c_X1_groupsIn e16) wv_X8_228 (by decide) (lt_N (by decide)) wx_X1 rfl rfl rfl (Nat.le_of_ble_eq_true rfl) dX8_group_59 ?_
          refine g_icmp_lt (tgt := 75) C dX8_group_62 (by decide) (fun c17 => ?_) (fun c17 => ?_)
          · replace ok := ok_t c17 ok
            refine g_iload_n C dX8_group_75 rfl 3 rfl ?_
            refine g_if_ne (tgt := 92) C dX8_group_76 (by decide) (fun c18 => ?_) (fun c18 => ?_)
            · replace ok := ok_f c18 ok
              refine g_iload_n C dX8_group_92 rfl 3 rfl ?_
              refine g_iconst (v := 1) C dX8_group_93 (by decide) ?_
              refine g_icmp_ne (tgt := 109) C dX8_group_94 (by decide) (fun c19 => ?_) (fun c19 => ?_)
              · replace ok := ok_f c19 ok
                refine g_aload_n C dX8_group_109 rfl 0 rfl ?_
                refine q_X8_45 C dX8_group_110 ?_
                refine q_cR C [] c_X5_grouping wv_X8_164 (by decide) (lt_N (by decide)) wx_X5 rfl rfl rfl (Nat.le_of_ble_eq_true rfl) dX8_group_113 ?_
                refine g_iload_n C dX8_group_116 rfl 1 rfl ?_
                refine g_iload_n C dX8_group_117 rfl 2 rfl ?_
                obtain ⟨r20, s21, e22, ok⟩ := bd_ok ok
                refine q_cI C [.int x1, .int x2] (c_X1_tagsIn e22) wv_X8_238 (by decide) (lt_N (by decide)) wx_X1 rfl rfl rfl (Nat.le_of_ble_eq_true rfl) dX8_group_118 ?_
                refine g_pick (lv' := []) ?_ [] rfl
                exact t_X8_group_121 C K T16 T36 T65 _ _ ok
              · replace ok := ok_t c19 ok
                refine g_aload_n C dX8_group_97 rfl 0 rfl ?_
                refine q_X8_45 C dX8_group_98 ?_
                refine g_iload_n C dX8_group_101 rfl 1 rfl ?_
                refine g_iload_n C dX8_group_102 rfl 2 rfl ?_
                obtain ⟨r23, s24, e25, ok⟩ := bd_ok ok
                refine q_cI C [.int x1, .int x2] (c_X5_bestOf e25) wv_X8_235 (by decide) (lt_N (by decide)) wx_X5 rfl rfl rfl (Nat.le_of_ble_eq_true rfl) dX8_group_103 ?_
                refine g_goto (tgt := 121) C dX8_group_106 (by decide) ?_
                refine g_pick (lv' := []) ?_ [] rfl
                exact t_X8_group_121 C K T16 T36 T65 _ _ ok
            · replace ok := ok_t c18 ok
              refine g_aload_n C dX8_group_79 rfl 0 rfl ?_
              refine q_X8_45 C dX8_group_80 ?_
              refine q_cR C [] c_X5_grouping wv_X8_164 (by decide) (lt_N (by decide)) wx_X5 rfl rfl rfl (Nat.le_of_ble_eq_true rfl) dX8_group_83 ?_
              refine g_iload_n C dX8_group_86 rfl 1 rfl ?_
              refine g_iload_n C dX8_group_87 rfl 2 rfl ?_
              obtain ⟨r26, s27, e28, ok⟩ := bd_ok ok
              refine q_cI C [.int x1, .int x2] (c_X1_readsIn e28) wv_X8_233 (by decide) (lt_N (by decide)) wx_X1 rfl rfl rfl (Nat.le_of_ble_eq_true rfl) dX8_group_88 ?_
              exact K 91 _ _ _ dX8_group_91 ok
          · replace ok := ok_f c17 ok
            refine g_pick (lv' := []) ?_ [] rfl
            exact t_X8_group_65 C K T16 T36 T65 _ ok
      · replace ok := ok_t c12 ok
        exact T36 _ _ ok
    · replace ok := ok_t c8 ok
      refine g_pick (lv' := []) ?_ [] rfl
      exact t_X8_group_16 C K T16 T36 T65 _ ok
def b_X8_firstOf_18 (t0 : Int32) (σ : St) : Option Rs := some (t0, σ)
set_option maxRecDepth 10000 in
set_option maxHeartbeats 1000000 in
theorem t_X8_firstOf_18 {ε : Et} {κ : Kt} {z : Rs} (C : Cx ε κ cX8_firstOf 3 RX8 2) (K : Ret ε κ cX8_firstOf (some .int) 0 0 (PI ε z)) (t0 : Int32) (σ : St) (ok : b_X8_firstOf_18 t0 σ = some z) : G ε κ 0 0 18 [] [.int t0] (WX ε σ) := by
  unfold b_X8_firstOf_18 at ok
  exact K.2 .int _ _ _ _ rfl dX8_firstOf_18 rfl (pi_ok ok)
def f_X8_firstOf (x1 : Int32) (x2 : Int32) (σ : St) : Option Rs := (if x2 = (-2 : Int32) then b_X8_firstOf_18 (0 : Int32) σ else bd (f_X5_beginOf x1 σ) (fun r2 s3 => b_X8_firstOf_18 r2 s3))
set_option maxRecDepth 10000 in
set_option maxHeartbeats 1000000 in
theorem tf_X8_firstOf {ε : Et} {κ : Kt} {z : Rs} (C : Cx ε κ cX8_firstOf 3 RX8 2) (K : Ret ε κ cX8_firstOf (some .int) 0 0 (PI ε z)) (x1 : Int32) (x2 : Int32) (σ : St) (ok : f_X8_firstOf x1 x2 σ = some z) : G ε κ 0 0 0 [(0, .ref (ad ε 0)), (1, .int x1), (2, .int x2)] [] (WX ε σ) := by
  unfold f_X8_firstOf at ok
  refine g_iload_n C dX8_firstOf_0 rfl 2 rfl ?_
  refine g_bipush (v := -2) C dX8_firstOf_1 (by decide) ?_
  refine g_icmp_ne (tgt := 10) C dX8_firstOf_3 (by decide) (fun c1 => ?_) (fun c1 => ?_)
  · replace ok := ok_f c1 ok
    refine g_aload_n C dX8_firstOf_10 rfl 0 rfl ?_
    refine q_X8_45 C dX8_firstOf_11 ?_
    refine g_iload_n C dX8_firstOf_14 rfl 1 rfl ?_
    obtain ⟨r2, s3, e4, ok⟩ := bd_ok ok
    refine q_cI C [.int x1] (c_X5_beginOf e4) wv_X8_192 (by decide) (lt_N (by decide)) wx_X5 rfl rfl rfl (Nat.le_of_ble_eq_true rfl) dX8_firstOf_15 ?_
    refine g_pick (lv' := []) ?_ [] rfl
    exact t_X8_firstOf_18 C K _ _ ok
  · replace ok := ok_t c1 ok
    refine g_iconst (v := 0) C dX8_firstOf_6 (by decide) ?_
    refine g_goto (tgt := 18) C dX8_firstOf_7 (by decide) ?_
    refine g_pick (lv' := []) ?_ [] rfl
    exact t_X8_firstOf_18 C K _ _ ok
theorem c_X8_firstOf {l : Launch} {ε : Et} {σ : St} {z : Rs} {x1 : Int32} {x2 : Int32} (e : f_X8_firstOf x1 x2 σ = some z) : RM l ε yX8_firstOf cX8_firstOf 3 (some .int) 2 0 0 [.ref (ad ε 0), .int x1, .int x2] (WX ε σ) (PI ε z) := RM.of (by decide) (Nat.le_of_ble_eq_true rfl) (fun κ C K => tf_X8_firstOf C K x1 x2 σ e)
def b_X8_lastOf_25 (t0 : Int32) (σ : St) : Option Rs := some (t0, σ)
set_option maxRecDepth 10000 in
set_option maxHeartbeats 1000000 in
theorem t_X8_lastOf_25 {ε : Et} {κ : Kt} {z : Rs} (C : Cx ε κ cX8_lastOf 3 RX8 2) (K : Ret ε κ cX8_lastOf (some .int) 0 0 (PI ε z)) (t0 : Int32) (σ : St) (ok : b_X8_lastOf_25 t0 σ = some z) : G ε κ 0 0 25 [] [.int t0] (WX ε σ) := by
  unfold b_X8_lastOf_25 at ok
  exact K.2 .int _ _ _ _ rfl dX8_lastOf_25 rfl (pi_ok ok)
def f_X8_lastOf (x1 : Int32) (x2 : Int32) (σ : St) : Option Rs := (if x2 = (-2 : Int32) then bd (f_X3_letterCount σ.2.2.1 x1 σ) (fun r5 s6 => b_X8_lastOf_25 r5 s6) else bd (f_X5_endOf x1 σ) (fun r2 s3 => b_X8_lastOf_25 r2 s3))
set_option maxRecDepth 10000 in
set_option maxHeartbeats 1000000 in
theorem tf_X8_lastOf {ε : Et} {κ : Kt} {z : Rs} (C : Cx ε κ cX8_lastOf 3 RX8 2) (K : Ret ε κ cX8_lastOf (some .int) 0 0 (PI ε z)) (x1 : Int32) (x2 : Int32) (σ : St) (ok : f_X8_lastOf x1 x2 σ = some z) : G ε κ 0 0 0 [(0, .ref (ad ε 0)), (1, .int x1), (2, .int x2)] [] (WX ε σ) := by
  unfold f_X8_lastOf at ok
  refine g_iload_n C dX8_lastOf_0 rfl 2 rfl ?_
  refine g_bipush (v := -2) C dX8_lastOf_1 (by decide) ?_
  refine g_icmp_ne (tgt := 17) C dX8_lastOf_3 (by decide) (fun c1 => ?_) (fun c1 => ?_)
  · replace ok := ok_f c1 ok
    refine g_aload_n C dX8_lastOf_17 rfl 0 rfl ?_
    refine q_X8_45 C dX8_lastOf_18 ?_
    refine g_iload_n C dX8_lastOf_21 rfl 1 rfl ?_
    obtain ⟨r2, s3, e4, ok⟩ := bd_ok ok
    refine q_cI C [.int x1] (c_X5_endOf e4) wv_X8_195 (by decide) (lt_N (by decide)) wx_X5 rfl rfl rfl (Nat.le_of_ble_eq_true rfl) dX8_lastOf_22 ?_
    refine g_pick (lv' := []) ?_ [] rfl
    exact t_X8_lastOf_25 C K _ _ ok
  · replace ok := ok_t c1 ok
    refine g_aload_n C dX8_lastOf_6 rfl 0 rfl ?_
    refine q_X8_52 C dX8_lastOf_7 ?_
    refine g_iload_n C dX8_lastOf_10 rfl 1 rfl ?_
    obtain ⟨r5, s6, e7, ok⟩ := bd_ok ok
    refine q_cI C [.int x1] (c_X3_letterCount e7) wv_X8_146 (by decide) (bs_lt σ.2.2.1) (wx_X3 σ.2.2.1) rfl rfl rfl (Nat.le_of_ble_eq_true rfl) dX8_lastOf_11 ?_
    refine g_goto (tgt := 25) C dX8_lastOf_14 (by decide) ?_
    refine g_pick (lv' := []) ?_ [] rfl
    exact t_X8_lastOf_25 C K _ _ ok
theorem c_X8_lastOf {l : Launch} {ε : Et} {σ : St} {z : Rs} {x1 : Int32} {x2 : Int32} (e : f_X8_lastOf x1 x2 σ = some z) : RM l ε yX8_lastOf cX8_lastOf 3 (some .int) 2 0 0 [.ref (ad ε 0), .int x1, .int x2] (WX ε σ) (PI ε z) := RM.of (by decide) (Nat.le_of_ble_eq_true rfl) (fun κ C K => tf_X8_lastOf C K x1 x2 σ e)
def b_X8_isChosen_68 (t0 : Int32) (σ : St) : Option Rs := gz t0 (some (t0, σ))
set_option maxRecDepth 10000 in
set_option maxHeartbeats 1000000 in
theorem t_X8_isChosen_68 {ε : Et} {κ : Kt} {z : Rs} (C : Cx ε κ cX8_isChosen 4 RX8 4) (K : Ret ε κ cX8_isChosen (some .boolean) 0 0 (PI ε z)) (t0 : Int32) (σ : St) (ok : b_X8_isChosen_68 t0 σ = some z) : G ε κ 0 0 68 [] [.int t0] (WX ε σ) := by
  unfold b_X8_isChosen_68 at ok
  obtain ⟨z1, ok⟩ := gz_ok ok
  exact K.2 .boolean _ _ _ _ rfl dX8_isChosen_68 (nar_b z1) (pi_ok ok)
def b_X8_isChosen_67 (σ : St) : Option Rs := b_X8_isChosen_68 (0 : Int32) σ
set_option maxRecDepth 10000 in
set_option maxHeartbeats 1000000 in
theorem t_X8_isChosen_67 {ε : Et} {κ : Kt} {z : Rs} (C : Cx ε κ cX8_isChosen 4 RX8 4) (K : Ret ε κ cX8_isChosen (some .boolean) 0 0 (PI ε z)) (σ : St) (ok : b_X8_isChosen_67 σ = some z) : G ε κ 0 0 67 [] [] (WX ε σ) := by
  unfold b_X8_isChosen_67 at ok
  refine g_iconst (v := 0) C dX8_isChosen_67 (by decide) ?_
  exact t_X8_isChosen_68 C K _ _ ok
def b_X8_isChosen_63 (σ : St) : Option Rs := b_X8_isChosen_68 (1 : Int32) σ
set_option maxRecDepth 10000 in
set_option maxHeartbeats 1000000 in
theorem t_X8_isChosen_63 {ε : Et} {κ : Kt} {z : Rs} (C : Cx ε κ cX8_isChosen 4 RX8 4) (K : Ret ε κ cX8_isChosen (some .boolean) 0 0 (PI ε z)) (σ : St) (ok : b_X8_isChosen_63 σ = some z) : G ε κ 0 0 63 [] [] (WX ε σ) := by
  unfold b_X8_isChosen_63 at ok
  refine g_iconst (v := 1) C dX8_isChosen_63 (by decide) ?_
  refine g_goto (tgt := 68) C dX8_isChosen_64 (by decide) ?_
  exact t_X8_isChosen_68 C K _ _ ok
def f_X8_isChosen (x1 : Int32) (x2 : Int32) (x3 : Int32) (σ : St) : Option Rs := bd (f_X8_firstOf x1 x2 σ) (fun r1 s2 => bd (f_X8_lastOf x1 x2 s2) (fun r4 s5 => (if r1 < r4 then (if x2 = (-2 : Int32) then gz (1 : Int32) (some ((1 : Int32), s5)) else bd (f_X5_binOf x1 s5) (fun r9 s10 => (if r9 = x2 then bd (f_X5_isShort x1 s10) (fun r13 s14 => (if r13 = 0 then (if x3 = 0 then b_X8_isChosen_63 s14 else bd (f_X5_isBest x1 s14) (fun r18 s19 => (if r18 = 0 then b_X8_isChosen_67 s19 else b_X8_isChosen_63 s19))) else b_X8_isChosen_67 s14)) else b_X8_isChosen_67 s10))) else gz (0 : Int32) (some ((0 : Int32), s5)))))
set_option maxRecDepth 10000 in
set_option maxHeartbeats 1000000 in
theorem tf_X8_isChosen {ε : Et} {κ : Kt} {z : Rs} (C : Cx ε κ cX8_isChosen 4 RX8 4) (K : Ret ε κ cX8_isChosen (some .boolean) 0 0 (PI ε z)) (x1 : Int32) (x2 : Int32) (x3 : Int32) (σ : St) (ok : f_X8_isChosen x1 x2 x3 σ = some z) : G ε κ 0 0 0 [(0, .ref (ad ε 0)), (1, .int x1), (2, .int x2), (3, .int x3)] [] (WX ε σ) := by
  unfold f_X8_isChosen at ok
  refine g_aload_n C dX8_isChosen_0 rfl 0 rfl ?_
  refine g_iload_n C dX8_isChosen_1 rfl 1 rfl ?_
  refine g_iload_n C dX8_isChosen_2 rfl 2 rfl ?_
  obtain ⟨r1, s2, e3, ok⟩ := bd_ok ok
  refine q_cI C [.int x1, .int x2] (c_X8_firstOf e3) wv_X8_267 (by decide) (lt_N (by decide)) wx_X8 rfl rfl rfl (Nat.le_of_ble_eq_true rfl) dX8_isChosen_3 ?_
  refine g_aload_n C dX8_isChosen_6 rfl 0 rfl ?_
  refine g_iload_n C dX8_isChosen_7 rfl 1 rfl ?_
  refine g_iload_n C dX8_isChosen_8 rfl 2 rfl ?_
  obtain ⟨r4, s5, e6, ok⟩ := bd_ok ok
  refine q_cI C [.int x1, .int x2] (c_X8_lastOf e6) wv_X8_264 (by decide) (lt_N (by decide)) wx_X8 rfl rfl rfl (Nat.le_of_ble_eq_true rfl) dX8_isChosen_9 ?_
  refine g_icmp_lt (tgt := 17) C dX8_isChosen_12 (by decide) (fun c7 => ?_) (fun c7 => ?_)
  · replace ok := ok_t c7 ok
    refine g_iload_n C dX8_isChosen_17 rfl 2 rfl ?_
    refine g_bipush (v := -2) C dX8_isChosen_18 (by decide) ?_
    refine g_icmp_ne (tgt := 25) C dX8_isChosen_20 (by decide) (fun c8 => ?_) (fun c8 => ?_)
    · replace ok := ok_f c8 ok
      refine g_aload_n C dX8_isChosen_25 rfl 0 rfl ?_
      refine q_X8_45 C dX8_isChosen_26 ?_
      refine g_iload_n C dX8_isChosen_29 rfl 1 rfl ?_
      obtain ⟨r9, s10, e11, ok⟩ := bd_ok ok
      refine q_cI C [.int x1] (c_X5_binOf e11) wv_X8_189 (by decide) (lt_N (by decide)) wx_X5 rfl rfl rfl (Nat.le_of_ble_eq_true rfl) dX8_isChosen_30 ?_
      refine g_iload_n C dX8_isChosen_33 rfl 2 rfl ?_
      refine g_icmp_ne (tgt := 67) C dX8_isChosen_34 (by decide) (fun c12 => ?_) (fun c12 => ?_)
      · replace ok := ok_f c12 ok
        refine g_pick (lv' := []) ?_ [] rfl
        exact t_X8_isChosen_67 C K _ ok
      · replace ok := ok_t c12 ok
        refine g_aload_n C dX8_isChosen_37 rfl 0 rfl ?_
        refine q_X8_45 C dX8_isChosen_38 ?_
        refine g_iload_n C dX8_isChosen_41 rfl 1 rfl ?_
        obtain ⟨r13, s14, e15, ok⟩ := bd_ok ok
        refine q_cI C [.int x1] (c_X5_isShort e15) wv_X8_198 (by decide) (lt_N (by decide)) wx_X5 rfl rfl rfl (Nat.le_of_ble_eq_true rfl) dX8_isChosen_42 ?_
        refine g_if_ne (tgt := 67) C dX8_isChosen_45 (by decide) (fun c16 => ?_) (fun c16 => ?_)
        · replace ok := ok_f c16 ok
          refine g_pick (lv' := []) ?_ [] rfl
          exact t_X8_isChosen_67 C K _ ok
        · replace ok := ok_t c16 ok
          refine g_iload_n C dX8_isChosen_48 rfl 3 rfl ?_
          refine g_if_eq (tgt := 63) C dX8_isChosen_49 (by decide) (fun c17 => ?_) (fun c17 => ?_)
          · replace ok := ok_t c17 ok
            refine g_pick (lv' := []) ?_ [] rfl
            exact t_X8_isChosen_63 C K _ ok
          · replace ok := ok_f c17 ok
            refine g_aload_n C dX8_isChosen_52 rfl 0 rfl ?_
            refine q_X8_45 C dX8_isChosen_53 ?_
            refine g_iload_n C dX8_isChosen_56 rfl 1 rfl ?_
            obtain ⟨r18, s19, e20, ok⟩ := bd_ok ok
            refine q_cI C [.int x1] (c_X5_isBest e20) wv_X8_280 (by decide) (lt_N (by decide)) wx_X5 rfl rfl rfl (Nat.le_of_ble_eq_true rfl) dX8_isChosen_57 ?_
            refine g_if_eq (tgt := 67) C dX8_isChosen_60 (by decide) (fun c21 => ?_) (fun c21 => ?_)
            · replace ok := ok_t c21 ok
              refine g_pick (lv' := []) ?_ [] rfl
              exact t_X8_isChosen_67 C K _ ok
            · replace ok := ok_f c21 ok
              refine g_pick (lv' := []) ?_ [] rfl
              exact t_X8_isChosen_63 C K _ ok
    · replace ok := ok_t c8 ok
      refine g_iconst (v := 1) C dX8_isChosen_23 (by decide) ?_
      obtain ⟨z22, ok⟩ := gz_ok ok
      exact K.2 .boolean _ _ _ _ rfl dX8_isChosen_24 (nar_b z22) (pi_ok ok)
  · replace ok := ok_f c7 ok
    refine g_iconst (v := 0) C dX8_isChosen_15 (by decide) ?_
    obtain ⟨z23, ok⟩ := gz_ok ok
    exact K.2 .boolean _ _ _ _ rfl dX8_isChosen_16 (nar_b z23) (pi_ok ok)
theorem c_X8_isChosen {l : Launch} {ε : Et} {σ : St} {z : Rs} {x1 : Int32} {x2 : Int32} {x3 : Int32} (e : f_X8_isChosen x1 x2 x3 σ = some z) : RM l ε yX8_isChosen cX8_isChosen 4 (some .boolean) 4 0 0 [.ref (ad ε 0), .int x1, .int x2, .int x3] (WX ε σ) (PI ε z) := RM.of (by decide) (Nat.le_of_ble_eq_true rfl) (fun κ C K => tf_X8_isChosen C K x1 x2 x3 σ e)
def b_X8_sizeOfText_62 (k6 : Int32 → Int32 → Int32 → Int32 → Int32 → St → Option Rs) (x1 : Int32) (x2 : Int32) (x3 : Int32) (x4 : Int32) (x5 : Int32) (σ : St) : Option Rs := nx (x5 + (1 : Int32)) (fun y1 => k6 x1 x2 x3 x4 y1 σ)
set_option maxRecDepth 10000 in
set_option maxHeartbeats 1000000 in
theorem t_X8_sizeOfText_62 {ε : Et} {κ : Kt} {z : Rs} (C : Cx ε κ cX8_sizeOfText 6 RX8 5) (K : Ret ε κ cX8_sizeOfText (some .int) 0 0 (PI ε z)) (k6 : Int32 → Int32 → Int32 → Int32 → Int32 → St → Option Rs) (g6 : ∀ (x1 : Int32) (x2 : Int32) (x3 : Int32) (x4 : Int32) (x5 : Int32) (σ : St), k6 x1 x2 x3 x4 x5 σ = some z → G ε κ 0 0 6 [(0, .ref (ad ε 0)), (1, .int x1), (2, .int x2), (3, .int x3), (4, .int x4), (5, .int x5)] [] (WX ε σ)) (x1 : Int32) (x2 : Int32) (x3 : Int32) (x4 : Int32) (x5 : Int32) (σ : St) (ok : b_X8_sizeOfText_62 k6 x1 x2 x3 x4 x5 σ = some z) : G ε κ 0 0 62 [(0, .ref (ad ε 0)), (1, .int x1), (2, .int x2), (3, .int x3), (4, .int x4), (5, .int x5)] [] (WX ε σ) := by
  unfold b_X8_sizeOfText_62 at ok
  obtain ⟨y1, e2⟩ : ∃ y : Int32, y = (x5 + (1 : Int32)) := ⟨_, rfl⟩
  replace ok := nx_ok ok y1 e2
  refine g_iinc (v := y1) C [(5, .int y1), (0, .ref (ad ε 0)), (1, .int x1), (2, .int x2), (3, .int x3), (4, .int x4)] dX8_sizeOfText_62 5 rfl (by rw [e2]; rfl) (by decide) rfl ?_
  refine g_goto (tgt := 6) C dX8_sizeOfText_65 (by decide) ?_
  refine g_pick (lv' := [(0, .ref (ad ε 0)), (1, .int x1), (2, .int x2), (3, .int x3), (4, .int x4), (5, .int y1)]) ?_ [1, 2, 3, 4, 5, 0] rfl
  exact g6 _ _ _ _ _ _ ok
def b_X8_sizeOfText_6 (k6 : Int32 → Int32 → Int32 → Int32 → Int32 → St → Option Rs) (x1 : Int32) (x2 : Int32) (x3 : Int32) (x4 : Int32) (x5 : Int32) (σ : St) : Option Rs := bd (f_X3_count σ.2.2.1 σ) (fun r1 s2 => (if r1 ≤ x5 then some (x4, s2) else bd (f_X8_isChosen x5 x2 x3 s2) (fun r5 s6 => (if r5 = 0 then b_X8_sizeOfText_62 k6 x1 x2 x3 x4 x5 s6 else bd (f_X3_nameSize s6.2.2.1 x5 s6) (fun r9 s10 => bd (f_X8_lastOf x5 x2 s10) (fun r12 s13 => bd (f_X8_firstOf x5 x2 s13) (fun r15 s16 => bd (f_X7_sizeOfRead r9 (r12 - r15) x1 s16) (fun r18 s19 => nx (x4 + r18) (fun y21 => b_X8_sizeOfText_62 k6 x1 x2 x3 y21 x5 s19)))))))))
set_option maxRecDepth 10000 in
set_option maxHeartbeats 1000000 in
theorem t_X8_sizeOfText_6 {ε : Et} {κ : Kt} {z : Rs} (C : Cx ε κ cX8_sizeOfText 6 RX8 5) (K : Ret ε κ cX8_sizeOfText (some .int) 0 0 (PI ε z)) (k6 : Int32 → Int32 → Int32 → Int32 → Int32 → St → Option Rs) (g6 : ∀ (x1 : Int32) (x2 : Int32) (x3 : Int32) (x4 : Int32) (x5 : Int32) (σ : St), k6 x1 x2 x3 x4 x5 σ = some z → G ε κ 0 0 6 [(0, .ref (ad ε 0)), (1, .int x1), (2, .int x2), (3, .int x3), (4, .int x4), (5, .int x5)] [] (WX ε σ)) (x1 : Int32) (x2 : Int32) (x3 : Int32) (x4 : Int32) (x5 : Int32) (σ : St) (ok : b_X8_sizeOfText_6 k6 x1 x2 x3 x4 x5 σ = some z) : G ε κ 0 0 6 [(0, .ref (ad ε 0)), (1, .int x1), (2, .int x2), (3, .int x3), (4, .int x4), (5, .int x5)] [] (WX ε σ) := by
  unfold b_X8_sizeOfText_6 at ok
  refine g_iload C dX8_sizeOfText_6 5 rfl ?_
  refine g_aload_n C dX8_sizeOfText_8 rfl 0 rfl ?_
  refine q_X8_52 C dX8_sizeOfText_9 ?_
  obtain ⟨r1, s2, e3, ok⟩ := bd_ok ok
  refine q_cI C [] (c_X3_count e3) wv_X8_100 (by decide) (bs_lt σ.2.2.1) (wx_X3 σ.2.2.1) rfl rfl rfl (Nat.le_of_ble_eq_true rfl) dX8_sizeOfText_12 ?_
  refine g_icmp_ge (tgt := 68) C dX8_sizeOfText_15 (by decide) (fun c4 => ?_) (fun c4 => ?_)
  · replace ok := ok_t c4 ok
    refine g_iload C dX8_sizeOfText_68 4 rfl ?_
    exact K.2 .int _ _ _ _ rfl dX8_sizeOfText_70 rfl (pi_ok ok)
  · replace ok := ok_f c4 ok
    refine g_aload_n C dX8_sizeOfText_18 rfl 0 rfl ?_
    refine g_iload C dX8_sizeOfText_19 5 rfl ?_
    refine g_iload_n C dX8_sizeOfText_21 rfl 2 rfl ?_
    refine g_iload_n C dX8_sizeOfText_22 rfl 3 rfl ?_
    obtain ⟨r5, s6, e7, ok⟩ := bd_ok ok
    refine q_cI C [.int x5, .int x2, .int x3] (c_X8_isChosen e7) wv_X8_260 (by decide) (lt_N (by decide)) wx_X8 rfl rfl rfl (Nat.le_of_ble_eq_true rfl) dX8_sizeOfText_23 ?_
    refine g_if_eq (tgt := 62) C dX8_sizeOfText_26 (by decide) (fun c8 => ?_) (fun c8 => ?_)
    · replace ok := ok_t c8 ok
      exact t_X8_sizeOfText_62 C K k6 g6 _ _ _ _ _ _ ok
    · replace ok := ok_f c8 ok
      refine g_iload C dX8_sizeOfText_29 4 rfl ?_
      refine g_aload_n C dX8_sizeOfText_31 rfl 0 rfl ?_
      refine q_X8_52 C dX8_sizeOfText_32 ?_
      refine g_iload C dX8_sizeOfText_35 5 rfl ?_
      obtain ⟨r9, s10, e11, ok⟩ := bd_ok ok
      refine q_cI C [.int x5] (c_X3_nameSize e11) wv_X8_179 (by decide) (bs_lt s6.2.2.1) (wx_X3 s6.2.2.1) rfl rfl rfl (Nat.le_of_ble_eq_true rfl) dX8_sizeOfText_37 ?_
      refine g_aload_n C dX8_sizeOfText_40 rfl 0 rfl ?_
      refine g_iload C dX8_sizeOfText_41 5 rfl ?_
      refine g_iload_n C dX8_sizeOfText_43 rfl 2 rfl ?_
      obtain ⟨r12, s13, e14, ok⟩ := bd_ok ok
      refine q_cI C [.int x5, .int x2] (c_X8_lastOf e14) wv_X8_264 (by decide) (lt_N (by decide)) wx_X8 rfl rfl rfl (Nat.le_of_ble_eq_true rfl) dX8_sizeOfText_44 ?_
      refine g_aload_n C dX8_sizeOfText_47 rfl 0 rfl ?_
      refine g_iload C dX8_sizeOfText_48 5 rfl ?_
      refine g_iload_n C dX8_sizeOfText_50 rfl 2 rfl ?_
      obtain ⟨r15, s16, e17, ok⟩ := bd_ok ok
      refine q_cI C [.int x5, .int x2] (c_X8_firstOf e17) wv_X8_267 (by decide) (lt_N (by decide)) wx_X8 rfl rfl rfl (Nat.le_of_ble_eq_true rfl) dX8_sizeOfText_51 ?_
      refine g_isub C dX8_sizeOfText_54 ?_
      refine g_iload_n C dX8_sizeOfText_55 rfl 1 rfl ?_
      obtain ⟨r18, s19, e20, ok⟩ := bd_ok ok
      refine q_sI C [.int r9, .int (r12 - r15), .int x1] (c_X7_sizeOfRead e20) wv_X8_270 (by decide) rfl rfl (Nat.le_of_ble_eq_true rfl) dX8_sizeOfText_56 ?_
      refine g_iadd C dX8_sizeOfText_59 ?_
      refine q_nm (fun y21 e22 => ?_)
      replace ok := nx_ok ok y21 e22
      refine g_istore C [(4, .int y21), (0, .ref (ad ε 0)), (1, .int x1), (2, .int x2), (3, .int x3), (5, .int x5)] dX8_sizeOfText_60 (by decide) rfl ?_
      refine g_pick (lv' := [(0, .ref (ad ε 0)), (1, .int x1), (2, .int x2), (3, .int x3), (4, .int y21), (5, .int x5)]) ?_ [1, 2, 3, 4, 0, 5] rfl
      exact t_X8_sizeOfText_62 C K k6 g6 _ _ _ _ _ _ ok
def l_X8_sizeOfText_6 : Nat → Int32 → Int32 → Int32 → Int32 → Int32 → St → Option Rs
  | 0 => fun _ _ _ _ _ _ => none
  | n + 1 => fun x1 x2 x3 x4 x5 σ => b_X8_sizeOfText_6 (l_X8_sizeOfText_6 n) x1 x2 x3 x4 x5 σ
theorem tl_X8_sizeOfText_6 {ε : Et} {κ : Kt} {z : Rs} (C : Cx ε κ cX8_sizeOfText 6 RX8 5) (K : Ret ε κ cX8_sizeOfText (some .int) 0 0 (PI ε z)) : ∀ (n : Nat) (x1 : Int32) (x2 : Int32) (x3 : Int32) (x4 : Int32) (x5 : Int32) (σ : St), l_X8_sizeOfText_6 n x1 x2 x3 x4 x5 σ = some z → G ε κ 0 0 6 [(0, .ref (ad ε 0)), (1, .int x1), (2, .int x2), (3, .int x3), (4, .int x4), (5, .int x5)] [] (WX ε σ) := by
  intro n
  induction n with
  | zero =>
    intro x1 x2 x3 x4 x5 σ ok
    cases ok
  | succ n ih =>
    intro x1 x2 x3 x4 x5 σ ok
    exact t_X8_sizeOfText_6 C K (l_X8_sizeOfText_6 n) ih x1 x2 x3 x4 x5 σ ok
def f_X8_sizeOfText (x1 : Int32) (x2 : Int32) (x3 : Int32) (σ : St) : Option Rs := l_X8_sizeOfText_6 FU x1 x2 x3 (0 : Int32) (0 : Int32) σ
set_option maxRecDepth 10000 in
set_option maxHeartbeats 1000000 in
theorem tf_X8_sizeOfText {ε : Et} {κ : Kt} {z : Rs} (C : Cx ε κ cX8_sizeOfText 6 RX8 5) (K : Ret ε κ cX8_sizeOfText (some .int) 0 0 (PI ε z)) (x1 : Int32) (x2 : Int32) (x3 : Int32) (σ : St) (ok : f_X8_sizeOfText x1 x2 x3 σ = some z) : G ε κ 0 0 0 [(0, .ref (ad ε 0)), (1, .int x1), (2, .int x2), (3, .int x3)] [] (WX ε σ) := by
  unfold f_X8_sizeOfText at ok
  refine g_iconst (v := 0) C dX8_sizeOfText_0 (by decide) ?_
  refine g_istore C [(4, .int (0 : Int32)), (0, .ref (ad ε 0)), (1, .int x1), (2, .int x2), (3, .int x3)] dX8_sizeOfText_1 (by decide) rfl ?_
  refine g_iconst (v := 0) C dX8_sizeOfText_3 (by decide) ?_
  refine g_istore C [(5, .int (0 : Int32)), (4, .int (0 : Int32)), (0, .ref (ad ε 0)), (1, .int x1), (2, .int x2), (3, .int x3)] dX8_sizeOfText_4 (by decide) rfl ?_
  refine g_pick (lv' := [(0, .ref (ad ε 0)), (1, .int x1), (2, .int x2), (3, .int x3), (4, .int (0 : Int32)), (5, .int (0 : Int32))]) ?_ [2, 3, 4, 5, 1, 0] rfl
  exact tl_X8_sizeOfText_6 C K FU _ _ _ _ _ _ ok
theorem c_X8_sizeOfText {l : Launch} {ε : Et} {σ : St} {z : Rs} {x1 : Int32} {x2 : Int32} {x3 : Int32} (e : f_X8_sizeOfText x1 x2 x3 σ = some z) : RM l ε yX8_sizeOfText cX8_sizeOfText 6 (some .int) 5 0 0 [.ref (ad ε 0), .int x1, .int x2, .int x3] (WX ε σ) (PI ε z) := RM.of (by decide) (Nat.le_of_ble_eq_true rfl) (fun κ C K => tf_X8_sizeOfText C K x1 x2 x3 σ e)
def b_X8_writeText_61 (k10 : Int32 → Int32 → Int32 → Int32 → St → Option Rs) (x1 : Int32) (x2 : Int32) (x3 : Int32) (x4 : Int32) (σ : St) : Option Rs := nx (x4 + (1 : Int32)) (fun y1 => k10 x1 x2 x3 y1 σ)
set_option maxRecDepth 10000 in
set_option maxHeartbeats 1000000 in
theorem t_X8_writeText_61 {ε : Et} {κ : Kt} {z : Rs} (C : Cx ε κ cX8_writeText 5 RX8 5) (K : Ret ε κ cX8_writeText none 0 0 (PV ε z)) (k10 : Int32 → Int32 → Int32 → Int32 → St → Option Rs) (g10 : ∀ (x1 : Int32) (x2 : Int32) (x3 : Int32) (x4 : Int32) (σ : St), k10 x1 x2 x3 x4 σ = some z → G ε κ 0 0 10 [(0, .ref (ad ε 0)), (1, .int x1), (2, .int x2), (3, .int x3), (4, .int x4)] [] (WX ε σ)) (x1 : Int32) (x2 : Int32) (x3 : Int32) (x4 : Int32) (σ : St) (ok : b_X8_writeText_61 k10 x1 x2 x3 x4 σ = some z) : G ε κ 0 0 61 [(0, .ref (ad ε 0)), (1, .int x1), (2, .int x2), (3, .int x3), (4, .int x4)] [] (WX ε σ) := by
  unfold b_X8_writeText_61 at ok
  obtain ⟨y1, e2⟩ : ∃ y : Int32, y = (x4 + (1 : Int32)) := ⟨_, rfl⟩
  replace ok := nx_ok ok y1 e2
  refine g_iinc (v := y1) C [(4, .int y1), (0, .ref (ad ε 0)), (1, .int x1), (2, .int x2), (3, .int x3)] dX8_writeText_61 4 rfl (by rw [e2]; rfl) (by decide) rfl ?_
  refine g_goto (tgt := 10) C dX8_writeText_64 (by decide) ?_
  refine g_pick (lv' := [(0, .ref (ad ε 0)), (1, .int x1), (2, .int x2), (3, .int x3), (4, .int y1)]) ?_ [1, 2, 3, 4, 0] rfl
  exact g10 _ _ _ _ _ ok
def b_X8_writeText_10 (k10 : Int32 → Int32 → Int32 → Int32 → St → Option Rs) (x1 : Int32) (x2 : Int32) (x3 : Int32) (x4 : Int32) (σ : St) : Option Rs := bd (f_X3_count σ.2.2.1 σ) (fun r1 s2 => (if r1 ≤ x4 then some ((0 : Int32), s2) else bd (f_X8_isChosen x4 x2 x3 s2) (fun r5 s6 => (if r5 = 0 then b_X8_writeText_61 k10 x1 x2 x3 x4 s6 else bd (f_X8_firstOf x4 x2 s6) (fun r9 s10 => bd (f_X8_lastOf x4 x2 s10) (fun r12 s13 => bd (f_X7_putRead 3 s6.2.2.1 x4 x1 r9 r12 s13) (fun r15 s16 => b_X8_writeText_61 k10 x1 x2 x3 x4 s16)))))))
set_option maxRecDepth 10000 in
set_option maxHeartbeats 1000000 in
theorem t_X8_writeText_10 {ε : Et} {κ : Kt} {z : Rs} (C : Cx ε κ cX8_writeText 5 RX8 5) (K : Ret ε κ cX8_writeText none 0 0 (PV ε z)) (k10 : Int32 → Int32 → Int32 → Int32 → St → Option Rs) (g10 : ∀ (x1 : Int32) (x2 : Int32) (x3 : Int32) (x4 : Int32) (σ : St), k10 x1 x2 x3 x4 σ = some z → G ε κ 0 0 10 [(0, .ref (ad ε 0)), (1, .int x1), (2, .int x2), (3, .int x3), (4, .int x4)] [] (WX ε σ)) (x1 : Int32) (x2 : Int32) (x3 : Int32) (x4 : Int32) (σ : St) (ok : b_X8_writeText_10 k10 x1 x2 x3 x4 σ = some z) : G ε κ 0 0 10 [(0, .ref (ad ε 0)), (1, .int x1), (2, .int x2), (3, .int x3), (4, .int x4)] [] (WX ε σ) := by
  unfold b_X8_writeText_10 at ok
  refine g_iload C dX8_writeText_10 4 rfl ?_
  refine g_aload_n C dX8_writeText_12 rfl 0 rfl ?_
  refine q_X8_52 C dX8_writeText_13 ?_
  obtain ⟨r1, s2, e3, ok⟩ := bd_ok ok
  refine q_cI C [] (c_X3_count e3) wv_X8_100 (by decide) (bs_lt σ.2.2.1) (wx_X3 σ.2.2.1) rfl rfl rfl (Nat.le_of_ble_eq_true rfl) dX8_writeText_16 ?_
  refine g_icmp_ge (tgt := 67) C dX8_writeText_19 (by decide) (fun c4 => ?_) (fun c4 => ?_)
  · replace ok := ok_t c4 ok
    exact K.1 rfl _ _ _ dX8_writeText_67 (pv_ok ok)
  · replace ok := ok_f c4 ok
    refine g_aload_n C dX8_writeText_22 rfl 0 rfl ?_
    refine g_iload C dX8_writeText_23 4 rfl ?_
    refine g_iload_n C dX8_writeText_25 rfl 2 rfl ?_
    refine g_iload_n C dX8_writeText_26 rfl 3 rfl ?_
    obtain ⟨r5, s6, e7, ok⟩ := bd_ok ok
    refine q_cI C [.int x4, .int x2, .int x3] (c_X8_isChosen e7) wv_X8_260 (by decide) (lt_N (by decide)) wx_X8 rfl rfl rfl (Nat.le_of_ble_eq_true rfl) dX8_writeText_27 ?_
    refine g_if_eq (tgt := 61) C dX8_writeText_30 (by decide) (fun c8 => ?_) (fun c8 => ?_)
    · replace ok := ok_t c8 ok
      exact t_X8_writeText_61 C K k10 g10 _ _ _ _ _ ok
    · replace ok := ok_f c8 ok
      refine g_aload_n C dX8_writeText_33 rfl 0 rfl ?_
      refine q_X8_18 C dX8_writeText_34 ?_
      refine g_aload_n C dX8_writeText_37 rfl 0 rfl ?_
      refine q_X8_52 C dX8_writeText_38 ?_
      refine g_iload C dX8_writeText_41 4 rfl ?_
      refine g_iload_n C dX8_writeText_43 rfl 1 rfl ?_
      refine g_aload_n C dX8_writeText_44 rfl 0 rfl ?_
      refine g_iload C dX8_writeText_45 4 rfl ?_
      refine g_iload_n C dX8_writeText_47 rfl 2 rfl ?_
      obtain ⟨r9, s10, e11, ok⟩ := bd_ok ok
      refine q_cI C [.int x4, .int x2] (c_X8_firstOf e11) wv_X8_267 (by decide) (lt_N (by decide)) wx_X8 rfl rfl rfl (Nat.le_of_ble_eq_true rfl) dX8_writeText_48 ?_
      refine g_aload_n C dX8_writeText_51 rfl 0 rfl ?_
      refine g_iload C dX8_writeText_52 4 rfl ?_
      refine g_iload_n C dX8_writeText_54 rfl 2 rfl ?_
      obtain ⟨r12, s13, e14, ok⟩ := bd_ok ok
      refine q_cI C [.int x4, .int x2] (c_X8_lastOf e14) wv_X8_264 (by decide) (lt_N (by decide)) wx_X8 rfl rfl rfl (Nat.le_of_ble_eq_true rfl) dX8_writeText_55 ?_
      obtain ⟨r15, s16, e17, ok⟩ := bd_ok ok
      refine q_sV C [.ref (ad ε 3), .ref (ad ε (bs s6.2.2.1)), .int x4, .int x1, .int r9, .int r12] (c_X7_putRead rw_3 e17) wv_X8_276 (by decide) rfl rfl (Nat.le_of_ble_eq_true rfl) dX8_writeText_58 ?_
      exact t_X8_writeText_61 C K k10 g10 _ _ _ _ _ ok
def l_X8_writeText_10 : Nat → Int32 → Int32 → Int32 → Int32 → St → Option Rs
  | 0 => fun _ _ _ _ _ => none
  | n + 1 => fun x1 x2 x3 x4 σ => b_X8_writeText_10 (l_X8_writeText_10 n) x1 x2 x3 x4 σ
theorem tl_X8_writeText_10 {ε : Et} {κ : Kt} {z : Rs} (C : Cx ε κ cX8_writeText 5 RX8 5) (K : Ret ε κ cX8_writeText none 0 0 (PV ε z)) : ∀ (n : Nat) (x1 : Int32) (x2 : Int32) (x3 : Int32) (x4 : Int32) (σ : St), l_X8_writeText_10 n x1 x2 x3 x4 σ = some z → G ε κ 0 0 10 [(0, .ref (ad ε 0)), (1, .int x1), (2, .int x2), (3, .int x3), (4, .int x4)] [] (WX ε σ) := by
  intro n
  induction n with
  | zero =>
    intro x1 x2 x3 x4 σ ok
    cases ok
  | succ n ih =>
    intro x1 x2 x3 x4 σ ok
    exact t_X8_writeText_10 C K (l_X8_writeText_10 n) ih x1 x2 x3 x4 σ ok
def f_X8_writeText (x1 : Int32) (x2 : Int32) (x3 : Int32) (σ : St) : Option Rs := bd (f_X4_clear 3 σ) (fun r1 s2 => l_X8_writeText_10 FU x1 x2 x3 (0 : Int32) s2)
set_option maxRecDepth 10000 in
set_option maxHeartbeats 1000000 in
theorem tf_X8_writeText {ε : Et} {κ : Kt} {z : Rs} (C : Cx ε κ cX8_writeText 5 RX8 5) (K : Ret ε κ cX8_writeText none 0 0 (PV ε z)) (x1 : Int32) (x2 : Int32) (x3 : Int32) (σ : St) (ok : f_X8_writeText x1 x2 x3 σ = some z) : G ε κ 0 0 0 [(0, .ref (ad ε 0)), (1, .int x1), (2, .int x2), (3, .int x3)] [] (WX ε σ) := by
  unfold f_X8_writeText at ok
  refine g_aload_n C dX8_writeText_0 rfl 0 rfl ?_
  refine q_X8_18 C dX8_writeText_1 ?_
  obtain ⟨r1, s2, e3, ok⟩ := bd_ok ok
  refine q_cV C [] (c_X4_clear rw_3 e3) wv_X8_87 (by decide) (rw_lt rw_3) (wx_X4 rw_3) rfl rfl rfl (Nat.le_of_ble_eq_true rfl) dX8_writeText_4 ?_
  refine g_iconst (v := 0) C dX8_writeText_7 (by decide) ?_
  refine g_istore C [(4, .int (0 : Int32)), (0, .ref (ad ε 0)), (1, .int x1), (2, .int x2), (3, .int x3)] dX8_writeText_8 (by decide) rfl ?_
  refine g_pick (lv' := [(0, .ref (ad ε 0)), (1, .int x1), (2, .int x2), (3, .int x3), (4, .int (0 : Int32))]) ?_ [1, 2, 3, 4, 0] rfl
  exact tl_X8_writeText_10 C K FU _ _ _ _ _ ok
theorem c_X8_writeText {l : Launch} {ε : Et} {σ : St} {z : Rs} {x1 : Int32} {x2 : Int32} {x3 : Int32} (e : f_X8_writeText x1 x2 x3 σ = some z) : RM l ε yX8_writeText cX8_writeText 5 none 5 0 0 [.ref (ad ε 0), .int x1, .int x2, .int x3] (WX ε σ) (PV ε z) := RM.of (by decide) (Nat.le_of_ble_eq_true rfl) (fun κ C K => tf_X8_writeText C K x1 x2 x3 σ e)
def b_X8_write_67 (x1 : Int32) (x2 : Int32) (x3 : Int32) (σ : St) : Option Rx := bd (f_X8_sizeOfText x1 x2 x3 σ) (fun r1 s2 => (if r1 ≤ (12000 : Int32) then bd (f_X8_writeText x1 x2 x3 s2) (fun r5 s6 => some (0, r1, s6)) else some (0, (-1 : Int32), s2)))
set_option maxRecDepth 10000 in
set_option maxHeartbeats 1000000 in
theorem t_X8_write_67 {ε : Et} {κ : Kt} {z : Rx} (C : Cx ε κ cX8_write 5 RX8 7) (K : ∀ (pc : Nat) (lv : List (Nat × Value)) (r : Int32) (σ : St), decode cX8_write pc = .ok (.ireturn, 1) → some (0, r, σ) = some z → G ε κ 0 0 pc lv [.int r] (WX ε σ)) (T7 : ∀ (lv : List (Nat × Value)) (σ : St), some (1, (0 : Int32), σ) = some z → G ε κ 0 0 7 lv [] (WX ε σ)) (T31 : ∀ (lv : List (Nat × Value)) (σ : St), some (2, (0 : Int32), σ) = some z → G ε κ 0 0 31 lv [] (WX ε σ)) (T57 : ∀ (lv : List (Nat × Value)) (σ : St), some (3, (0 : Int32), σ) = some z → G ε κ 0 0 57 lv [] (WX ε σ)) (x1 : Int32) (x2 : Int32) (x3 : Int32) (σ : St) (ok : b_X8_write_67 x1 x2 x3 σ = some z) : G ε κ 0 0 67 [(0, .ref (ad ε 0)), (1, .int x1), (2, .int x2), (3, .int x3)] [] (WX ε σ) := by
  unfold b_X8_write_67 at ok
  refine g_aload_n C dX8_write_67 rfl 0 rfl ?_
  refine g_iload_n C dX8_write_68 rfl 1 rfl ?_
  refine g_iload_n C dX8_write_69 rfl 2 rfl ?_
  refine g_iload_n C dX8_write_70 rfl 3 rfl ?_
  obtain ⟨r1, s2, e3, ok⟩ := bd_ok ok
  refine q_cI C [.int x1, .int x2, .int x3] (c_X8_sizeOfText e3) wv_X8_243 (by decide) (lt_N (by decide)) wx_X8 rfl rfl rfl (Nat.le_of_ble_eq_true rfl) dX8_write_71 ?_
  refine g_istore C [(4, .int r1), (0, .ref (ad ε 0)), (1, .int x1), (2, .int x2), (3, .int x3)] dX8_write_74 (by decide) rfl ?_
  refine g_iload C dX8_write_76 0 rfl ?_
  refine g_sipush (v := 12000) C dX8_write_78 (by decide) ?_
  refine g_icmp_le (tgt := 86) C dX8_write_81 (by decide) (fun c4 => ?_) (fun c4 => ?_)
  · replace ok := ok_t c4 ok
    refine g_aload_n C dX8_write_86 rfl 1 rfl ?_
    refine g_iload_n C dX8_write_87 rfl 2 rfl ?_
    refine g_iload_n C dX8_write_88 rfl 3 rfl ?_
    refine g_iload_n C dX8_write_89 rfl 4 rfl ?_
    obtain ⟨r5, s6, e7, ok⟩ := bd_ok ok
    refine q_cV C [.int x1, .int x2, .int x3] (c_X8_writeText e7) wv_X8_247 (by decide) (lt_N (by decide)) wx_X8 rfl rfl rfl (Nat.le_of_ble_eq_true rfl) dX8_write_90 ?_
    refine g_iload C dX8_write_93 0 rfl ?_
    exact K 95 _ _ _ dX8_write_95 ok
  · replace ok := ok_f c4 ok
    refine g_iconst (v := -1) C dX8_write_84 (by decide) ?_
    exact K 85 _ _ _ dX8_write_85 ok
def b_X8_write_41 (x1 : Int32) (x2 : Int32) (x3 : Int32) (σ : St) : Option Rx := (if x2 = (-2 : Int32) then b_X8_write_67 x1 x2 x3 σ else bd (f_X5_isDone σ) (fun r2 s3 => (if r2 = 0 then some (3, (0 : Int32), s3) else b_X8_write_67 x1 x2 x3 s3)))
set_option maxRecDepth 10000 in
set_option maxHeartbeats 1000000 in
theorem t_X8_write_41 {ε : Et} {κ : Kt} {z : Rx} (C : Cx ε κ cX8_write 5 RX8 7) (K : ∀ (pc : Nat) (lv : List (Nat × Value)) (r : Int32) (σ : St), decode cX8_write pc = .ok (.ireturn, 1) → some (0, r, σ) = some z → G ε κ 0 0 pc lv [.int r] (WX ε σ)) (T7 : ∀ (lv : List (Nat × Value)) (σ : St), some (1, (0 : Int32), σ) = some z → G ε κ 0 0 7 lv [] (WX ε σ)) (T31 : ∀ (lv : List (Nat × Value)) (σ : St), some (2, (0 : Int32), σ) = some z → G ε κ 0 0 31 lv [] (WX ε σ)) (T57 : ∀ (lv : List (Nat × Value)) (σ : St), some (3, (0 : Int32), σ) = some z → G ε κ 0 0 57 lv [] (WX ε σ)) (x1 : Int32) (x2 : Int32) (x3 : Int32) (σ : St) (ok : b_X8_write_41 x1 x2 x3 σ = some z) : G ε κ 0 0 41 [(0, .ref (ad ε 0)), (1, .int x1), (2, .int x2), (3, .int x3)] [] (WX ε σ) := by
  unfold b_X8_write_41 at ok
  refine g_iload_n C dX8_write_41 rfl 2 rfl ?_
  refine g_bipush (v := -2) C dX8_write_42 (by decide) ?_
  refine g_icmp_eq (tgt := 67) C dX8_write_44 (by decide) (fun c1 => ?_) (fun c1 => ?_)
  · replace ok := ok_t c1 ok
    exact t_X8_write_67 C K T7 T31 T57 _ _ _ _ ok
  · replace ok := ok_f c1 ok
    refine g_aload_n C dX8_write_47 rfl 0 rfl ?_
    refine q_X8_45 C dX8_write_48 ?_
    obtain ⟨r2, s3, e4, ok⟩ := bd_ok ok
    refine q_cI C [] (c_X5_isDone e4) wv_X8_182 (by decide) (lt_N (by decide)) wx_X5 rfl rfl rfl (Nat.le_of_ble_eq_true rfl) dX8_write_51 ?_
    refine g_if_ne (tgt := 67) C dX8_write_54 (by decide) (fun c5 => ?_) (fun c5 => ?_)
    · replace ok := ok_f c5 ok
      exact t_X8_write_67 C K T7 T31 T57 _ _ _ _ ok
    · replace ok := ok_t c5 ok
      exact T57 _ _ ok
def f_X8_write (x1 : Int32) (x2 : Int32) (x3 : Int32) (σ : St) : Option Rx := bd (f_X8_isForm x1 σ) (fun r1 s2 => (if r1 = 0 then some (1, (0 : Int32), s2) else (if x2 = (-2 : Int32) then b_X8_write_41 x1 x2 x3 s2 else bd (f_X8_hasBin x2 s2) (fun r6 s7 => (if r6 = 0 then some (2, (0 : Int32), s7) else b_X8_write_41 x1 x2 x3 s7)))))
set_option maxRecDepth 10000 in
set_option maxHeartbeats 1000000 in
theorem tf_X8_write {ε : Et} {κ : Kt} {z : Rx} (C : Cx ε κ cX8_write 5 RX8 7) (K : ∀ (pc : Nat) (lv : List (Nat × Value)) (r : Int32) (σ : St), decode cX8_write pc = .ok (.ireturn, 1) → some (0, r, σ) = some z → G ε κ 0 0 pc lv [.int r] (WX ε σ)) (T7 : ∀ (lv : List (Nat × Value)) (σ : St), some (1, (0 : Int32), σ) = some z → G ε κ 0 0 7 lv [] (WX ε σ)) (T31 : ∀ (lv : List (Nat × Value)) (σ : St), some (2, (0 : Int32), σ) = some z → G ε κ 0 0 31 lv [] (WX ε σ)) (T57 : ∀ (lv : List (Nat × Value)) (σ : St), some (3, (0 : Int32), σ) = some z → G ε κ 0 0 57 lv [] (WX ε σ)) (x1 : Int32) (x2 : Int32) (x3 : Int32) (σ : St) (ok : f_X8_write x1 x2 x3 σ = some z) : G ε κ 0 0 0 [(0, .ref (ad ε 0)), (1, .int x1), (2, .int x2), (3, .int x3)] [] (WX ε σ) := by
  unfold f_X8_write at ok
  refine g_iload_n C dX8_write_0 rfl 1 rfl ?_
  obtain ⟨r1, s2, e3, ok⟩ := bd_ok ok
  refine q_sI C [.int x1] (c_X8_isForm e3) wv_X8_77 (by decide) rfl rfl (Nat.le_of_ble_eq_true rfl) dX8_write_1 ?_
  refine g_if_ne (tgt := 17) C dX8_write_4 (by decide) (fun c4 => ?_) (fun c4 => ?_)
  · replace ok := ok_f c4 ok
    refine g_iload_n C dX8_write_17 rfl 2 rfl ?_
    refine g_bipush (v := -2) C dX8_write_18 (by decide) ?_
    refine g_icmp_eq (tgt := 41) C dX8_write_20 (by decide) (fun c5 => ?_) (fun c5 => ?_)
    · replace ok := ok_t c5 ok
      exact t_X8_write_41 C K T7 T31 T57 _ _ _ _ ok
    · replace ok := ok_f c5 ok
      refine g_aload_n C dX8_write_23 rfl 0 rfl ?_
      refine g_iload_n C dX8_write_24 rfl 2 rfl ?_
      obtain ⟨r6, s7, e8, ok⟩ := bd_ok ok
      refine q_cI C [.int x2] (c_X8_hasBin e8) wv_X8_215 (by decide) (lt_N (by decide)) wx_X8 rfl rfl rfl (Nat.le_of_ble_eq_true rfl) dX8_write_25 ?_
      refine g_if_ne (tgt := 41) C dX8_write_28 (by decide) (fun c9 => ?_) (fun c9 => ?_)
      · replace ok := ok_f c9 ok
        exact t_X8_write_41 C K T7 T31 T57 _ _ _ _ ok
      · replace ok := ok_t c9 ok
        exact T31 _ _ ok
  · replace ok := ok_t c4 ok
    exact T7 _ _ ok
def f_X8_out (x1 : Int32) (σ : St) : Option Rx := bd (f_X4_at 3 x1 σ) (fun r1 s2 => (if r1 = (-1 : Int32) then some (2, (0 : Int32), s2) else some (0, r1, s2)))
set_option maxRecDepth 10000 in
set_option maxHeartbeats 1000000 in
theorem tf_X8_out {ε : Et} {κ : Kt} {z : Rx} (C : Cx ε κ cX8_out 3 RX8 7) (K : ∀ (pc : Nat) (lv : List (Nat × Value)) (r : Int32) (σ : St), decode cX8_out pc = .ok (.ireturn, 1) → some (0, r, σ) = some z → G ε κ 0 0 pc lv [.int r] (WX ε σ)) (T14 : ∀ (lv : List (Nat × Value)) (σ : St), some (2, (0 : Int32), σ) = some z → G ε κ 0 0 14 lv [] (WX ε σ)) (x1 : Int32) (σ : St) (ok : f_X8_out x1 σ = some z) : G ε κ 0 0 0 [(0, .ref (ad ε 0)), (1, .int x1)] [] (WX ε σ) := by
  unfold f_X8_out at ok
  refine g_aload_n C dX8_out_0 rfl 0 rfl ?_
  refine q_X8_18 C dX8_out_1 ?_
  refine g_iload_n C dX8_out_4 rfl 1 rfl ?_
  obtain ⟨r1, s2, e3, ok⟩ := bd_ok ok
  refine q_cI C [.int x1] (c_X4_at rw_3 e3) wv_X8_251 (by decide) (rw_lt rw_3) (wx_X4 rw_3) rfl rfl rfl (Nat.le_of_ble_eq_true rfl) dX8_out_5 ?_
  refine g_istore_n C [(2, .int r1), (0, .ref (ad ε 0)), (1, .int x1)] dX8_out_8 rfl (by decide) rfl ?_
  refine g_iload_n C dX8_out_9 rfl 0 rfl ?_
  refine g_iconst (v := -1) C dX8_out_10 (by decide) ?_
  refine g_icmp_ne (tgt := 24) C dX8_out_11 (by decide) (fun c4 => ?_) (fun c4 => ?_)
  · replace ok := ok_f c4 ok
    refine g_iload_n C dX8_out_24 rfl 0 rfl ?_
    exact K 25 _ _ _ dX8_out_25 ok
  · replace ok := ok_t c4 ok
    exact T14 _ _ ok
def f_X8_again (σ : St) : Option Rs := bd (f_X4_size 3 σ) (fun r1 s2 => (if r1 ≤ (6000 : Int32) then bd (f_X4_copy 1 3 s2) (fun r5 s6 => bd (f_X4_size 1 s6) (fun r8 s9 => some (r8, s9))) else some ((-1 : Int32), s2)))
set_option maxRecDepth 10000 in
set_option maxHeartbeats 1000000 in
theorem tf_X8_again {ε : Et} {κ : Kt} {z : Rs} (C : Cx ε κ cX8_again 1 RX8 2) (K : Ret ε κ cX8_again (some .int) 0 0 (PI ε z)) (σ : St) (ok : f_X8_again σ = some z) : G ε κ 0 0 0 [(0, .ref (ad ε 0))] [] (WX ε σ) := by
  unfold f_X8_again at ok
  refine g_aload_n C dX8_again_0 rfl 0 rfl ?_
  refine q_X8_18 C dX8_again_1 ?_
  obtain ⟨r1, s2, e3, ok⟩ := bd_ok ok
  refine q_cI C [] (c_X4_size rw_3 e3) wv_X8_74 (by decide) (rw_lt rw_3) (wx_X4 rw_3) rfl rfl rfl (Nat.le_of_ble_eq_true rfl) dX8_again_4 ?_
  refine g_sipush (v := 6000) C dX8_again_7 (by decide) ?_
  refine g_icmp_le (tgt := 15) C dX8_again_10 (by decide) (fun c4 => ?_) (fun c4 => ?_)
  · replace ok := ok_t c4 ok
    refine g_aload_n C dX8_again_15 rfl 0 rfl ?_
    refine q_X8_14 C dX8_again_16 ?_
    refine g_aload_n C dX8_again_19 rfl 0 rfl ?_
    refine q_X8_18 C dX8_again_20 ?_
    obtain ⟨r5, s6, e7, ok⟩ := bd_ok ok
    refine q_cV C [.ref (ad ε 3)] (c_X4_copy rw_1 rw_3 e7) wv_X8_256 (by decide) (rw_lt rw_1) (wx_X4 rw_1) rfl rfl rfl (Nat.le_of_ble_eq_true rfl) dX8_again_23 ?_
    refine g_aload_n C dX8_again_26 rfl 0 rfl ?_
    refine q_X8_14 C dX8_again_27 ?_
    obtain ⟨r8, s9, e10, ok⟩ := bd_ok ok
    refine q_cI C [] (c_X4_size rw_1 e10) wv_X8_74 (by decide) (rw_lt rw_1) (wx_X4 rw_1) rfl rfl rfl (Nat.le_of_ble_eq_true rfl) dX8_again_30 ?_
    exact K.2 .int _ _ _ _ rfl dX8_again_33 rfl (pi_ok ok)
  · replace ok := ok_f c4 ok
    refine g_iconst (v := -1) C dX8_again_13 (by decide) ?_
    exact K.2 .int _ _ _ _ rfl dX8_again_14 rfl (pi_ok ok)
theorem c_X8_again {l : Launch} {ε : Et} {σ : St} {z : Rs} (e : f_X8_again σ = some z) : RM l ε yX8_again cX8_again 1 (some .int) 2 0 0 [.ref (ad ε 0)] (WX ε σ) (PI ε z) := RM.of (by decide) (Nat.le_of_ble_eq_true rfl) (fun κ C K => tf_X8_again C K σ e)
