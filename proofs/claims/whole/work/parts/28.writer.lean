def f_X7_sizeOfRead (x0 : Int32) (x1 : Int32) (x2 : Int32) (σ : St) : Option Rs := (if x2 = 0 then some (((x0 + ((2 : Int32) * x1)) + (6 : Int32)), σ) else nx (((x1 + (60 : Int32)) - (1 : Int32)) / (60 : Int32)) (fun y2 => some ((((x0 + x1) + y2) + (2 : Int32)), σ)))
set_option maxRecDepth 10000 in
set_option maxHeartbeats 1000000 in
theorem tf_X7_sizeOfRead {ε : Et} {κ : Kt} {z : Rs} (C : Cx ε κ cX7_sizeOfRead 4 RX7 0) (K : Ret ε κ cX7_sizeOfRead (some .int) 0 0 (PI ε z)) (x0 : Int32) (x1 : Int32) (x2 : Int32) (σ : St) (ok : f_X7_sizeOfRead x0 x1 x2 σ = some z) : G ε κ 0 0 0 [(0, .int x0), (1, .int x1), (2, .int x2)] [] (WX ε σ) := by
  unfold f_X7_sizeOfRead at ok
  refine g_iload_n C dX7_sizeOfRead_0 rfl 2 rfl ?_
  refine g_if_ne (tgt := 13) C dX7_sizeOfRead_1 (by decide) (fun c1 => ?_) (fun c1 => ?_)
  · replace ok := ok_f c1 ok
    refine g_iload_n C dX7_sizeOfRead_13 rfl 1 rfl ?_
    refine g_bipush (v := 60) C dX7_sizeOfRead_14 (by decide) ?_
    refine g_iadd C dX7_sizeOfRead_16 ?_
    refine g_iconst (v := 1) C dX7_sizeOfRead_17 (by decide) ?_
    refine g_isub C dX7_sizeOfRead_18 ?_
    refine g_bipush (v := 60) C dX7_sizeOfRead_19 (by decide) ?_
    refine g_idiv C dX7_sizeOfRead_21 (by decide) ?_
    refine q_nm (fun y2 e3 => ?_)
    replace ok := nx_ok ok y2 e3
    refine g_istore_n C [(3, .int y2), (0, .int x0), (1, .int x1), (2, .int x2)] dX7_sizeOfRead_22 rfl (by decide) rfl ?_
    refine g_iload_n C dX7_sizeOfRead_23 rfl 1 rfl ?_
    refine g_iload_n C dX7_sizeOfRead_24 rfl 2 rfl ?_
    refine g_iadd C dX7_sizeOfRead_25 ?_
    refine g_iload_n C dX7_sizeOfRead_26 rfl 0 rfl ?_
    refine g_iadd C dX7_sizeOfRead_27 ?_
    refine g_iconst (v := 2) C dX7_sizeOfRead_28 (by decide) ?_
    refine g_iadd C dX7_sizeOfRead_29 ?_
    exact K.2 .int _ _ _ _ rfl dX7_sizeOfRead_30 rfl (pi_ok ok)
  · replace ok := ok_t c1 ok
    refine g_iload_n C dX7_sizeOfRead_4 rfl 0 rfl ?_
    refine g_iconst (v := 2) C dX7_sizeOfRead_5 (by decide) ?_
    refine g_iload_n C dX7_sizeOfRead_6 rfl 1 rfl ?_
    refine g_imul C dX7_sizeOfRead_7 ?_
    refine g_iadd C dX7_sizeOfRead_8 ?_
    refine g_bipush (v := 6) C dX7_sizeOfRead_9 (by decide) ?_
    refine g_iadd C dX7_sizeOfRead_11 ?_
    exact K.2 .int _ _ _ _ rfl dX7_sizeOfRead_12 rfl (pi_ok ok)
theorem c_X7_sizeOfRead {l : Launch} {ε : Et} {σ : St} {z : Rs} {x0 : Int32} {x1 : Int32} {x2 : Int32} (e : f_X7_sizeOfRead x0 x1 x2 σ = some z) : RM l ε yX7_sizeOfRead cX7_sizeOfRead 4 (some .int) 0 0 0 [.int x0, .int x1, .int x2] (WX ε σ) (PI ε z) := RM.of (by decide) (Nat.le_of_ble_eq_true rfl) (fun κ C K => tf_X7_sizeOfRead C K x0 x1 x2 σ e)
def b_X7_putName_2 (p1 : Nat) (b2 : Bool) (k2 : Int32 → Int32 → St → Option Rs) (x2 : Int32) (x3 : Int32) (σ : St) : Option Rs := bd (f_X3_nameSize b2 x2 σ) (fun r1 s2 => (if r1 ≤ x3 then bd (f_X4_add p1 (10 : Int32) s2) (fun r5 s6 => some ((0 : Int32), s6)) else bd (f_X3_nameOctet b2 x2 x3 s2) (fun r8 s9 => bd (f_X4_add p1 r8 s9) (fun r11 s12 => nx (x3 + (1 : Int32)) (fun y14 => k2 x2 y14 s12)))))
set_option maxRecDepth 10000 in
set_option maxHeartbeats 1000000 in
theorem t_X7_putName_2 {ε : Et} {κ : Kt} {z : Rs} (p1 : Nat) (b2 : Bool) (h_p1 : Rw p1) (C : Cx ε κ cX7_putName 4 RX7 2) (K : Ret ε κ cX7_putName none 0 0 (PV ε z)) (k2 : Int32 → Int32 → St → Option Rs) (g2 : ∀ (x2 : Int32) (x3 : Int32) (σ : St), k2 x2 x3 σ = some z → G ε κ 0 0 2 [(0, .ref (ad ε p1)), (1, .ref (ad ε (bs b2))), (2, .int x2), (3, .int x3)] [] (WX ε σ)) (x2 : Int32) (x3 : Int32) (σ : St) (ok : b_X7_putName_2 p1 b2 k2 x2 x3 σ = some z) : G ε κ 0 0 2 [(0, .ref (ad ε p1)), (1, .ref (ad ε (bs b2))), (2, .int x2), (3, .int x3)] [] (WX ε σ) := by
  unfold b_X7_putName_2 at ok
  refine g_iload_n C dX7_putName_2 rfl 3 rfl ?_
  refine g_aload_n C dX7_putName_3 rfl 1 rfl ?_
  refine g_iload_n C dX7_putName_4 rfl 2 rfl ?_
  obtain ⟨r1, s2, e3, ok⟩ := bd_ok ok
  refine q_cI C [.int x2] (c_X3_nameSize e3) wv_X7_34 (by decide) (bs_lt b2) (wx_X3 b2) rfl rfl rfl (Nat.le_of_ble_eq_true rfl) dX7_putName_5 ?_
  refine g_icmp_ge (tgt := 27) C dX7_putName_8 (by decide) (fun c4 => ?_) (fun c4 => ?_)
  · replace ok := ok_t c4 ok
    refine g_aload_n C dX7_putName_27 rfl 0 rfl ?_
    refine g_bipush (v := 10) C dX7_putName_28 (by decide) ?_
    obtain ⟨r5, s6, e7, ok⟩ := bd_ok ok
    refine q_cV C [.int (10 : Int32)] (c_X4_add h_p1 e7) wv_X7_9 (by decide) (rw_lt h_p1) (wx_X4 h_p1) rfl rfl rfl (Nat.le_of_ble_eq_true rfl) dX7_putName_30 ?_
    exact K.1 rfl _ _ _ dX7_putName_33 (pv_ok ok)
  · replace ok := ok_f c4 ok
    refine g_aload_n C dX7_putName_11 rfl 0 rfl ?_
    refine g_aload_n C dX7_putName_12 rfl 1 rfl ?_
    refine g_iload_n C dX7_putName_13 rfl 2 rfl ?_
    refine g_iload_n C dX7_putName_14 rfl 3 rfl ?_
    obtain ⟨r8, s9, e10, ok⟩ := bd_ok ok
    refine q_cI C [.int x2, .int x3] (c_X3_nameOctet e10) wv_X7_40 (by decide) (bs_lt b2) (wx_X3 b2) rfl rfl rfl (Nat.le_of_ble_eq_true rfl) dX7_putName_15 ?_
    obtain ⟨r11, s12, e13, ok⟩ := bd_ok ok
    refine q_cV C [.int r8] (c_X4_add h_p1 e13) wv_X7_9 (by decide) (rw_lt h_p1) (wx_X4 h_p1) rfl rfl rfl (Nat.le_of_ble_eq_true rfl) dX7_putName_18 ?_
    obtain ⟨y14, e15⟩ : ∃ y : Int32, y = (x3 + (1 : Int32)) := ⟨_, rfl⟩
    replace ok := nx_ok ok y14 e15
    refine g_iinc (v := y14) C [(3, .int y14), (0, .ref (ad ε p1)), (1, .ref (ad ε (bs b2))), (2, .int x2)] dX7_putName_21 3 rfl (by rw [e15]; rfl) (by decide) rfl ?_
    refine g_goto (tgt := 2) C dX7_putName_24 (by decide) ?_
    refine g_pick (lv' := [(0, .ref (ad ε p1)), (1, .ref (ad ε (bs b2))), (2, .int x2), (3, .int y14)]) ?_ [1, 2, 3, 0] rfl
    exact g2 _ _ _ ok
def l_X7_putName_2 (p1 : Nat) (b2 : Bool) : Nat → Int32 → Int32 → St → Option Rs
  | 0 => fun _ _ _ => none
  | n + 1 => fun x2 x3 σ => b_X7_putName_2 p1 b2 (l_X7_putName_2 p1 b2 n) x2 x3 σ
theorem tl_X7_putName_2 {ε : Et} {κ : Kt} {z : Rs} (p1 : Nat) (b2 : Bool) (h_p1 : Rw p1) (C : Cx ε κ cX7_putName 4 RX7 2) (K : Ret ε κ cX7_putName none 0 0 (PV ε z)) : ∀ (n : Nat) (x2 : Int32) (x3 : Int32) (σ : St), l_X7_putName_2 p1 b2 n x2 x3 σ = some z → G ε κ 0 0 2 [(0, .ref (ad ε p1)), (1, .ref (ad ε (bs b2))), (2, .int x2), (3, .int x3)] [] (WX ε σ) := by
  intro n
  induction n with
  | zero =>
    intro x2 x3 σ ok
    cases ok
  | succ n ih =>
    intro x2 x3 σ ok
    exact t_X7_putName_2 p1 b2 h_p1 C K (l_X7_putName_2 p1 b2 n) ih x2 x3 σ ok
def f_X7_putName (p1 : Nat) (b2 : Bool) (x2 : Int32) (σ : St) : Option Rs := l_X7_putName_2 p1 b2 FU x2 (0 : Int32) σ
set_option maxRecDepth 10000 in
set_option maxHeartbeats 1000000 in
theorem tf_X7_putName {ε : Et} {κ : Kt} {z : Rs} (p1 : Nat) (b2 : Bool) (h_p1 : Rw p1) (C : Cx ε κ cX7_putName 4 RX7 2) (K : Ret ε κ cX7_putName none 0 0 (PV ε z)) (x2 : Int32) (σ : St) (ok : f_X7_putName p1 b2 x2 σ = some z) : G ε κ 0 0 0 [(0, .ref (ad ε p1)), (1, .ref (ad ε (bs b2))), (2, .int x2)] [] (WX ε σ) := by
  unfold f_X7_putName at ok
  refine g_iconst (v := 0) C dX7_putName_0 (by decide) ?_
  refine g_istore_n C [(3, .int (0 : Int32)), (0, .ref (ad ε p1)), (1, .ref (ad ε (bs b2))), (2, .int x2)] dX7_putName_1 rfl (by decide) rfl ?_
  refine g_pick (lv' := [(0, .ref (ad ε p1)), (1, .ref (ad ε (bs b2))), (2, .int x2), (3, .int (0 : Int32))]) ?_ [1, 2, 3, 0] rfl
  exact tl_X7_putName_2 p1 b2 h_p1 C K FU _ _ _ ok
theorem c_X7_putName {l : Launch} {ε : Et} {σ : St} {z : Rs} {p1 : Nat} {b2 : Bool} {x2 : Int32} (h_p1 : Rw p1) (e : f_X7_putName p1 b2 x2 σ = some z) : RM l ε yX7_putName cX7_putName 4 none 2 0 0 [.ref (ad ε p1), .ref (ad ε (bs b2)), .int x2] (WX ε σ) (PV ε z) := RM.of (by decide) (Nat.le_of_ble_eq_true rfl) (fun κ C K => tf_X7_putName p1 b2 h_p1 C K x2 σ e)
def b_X7_putLetters_3 (p1 : Nat) (b2 : Bool) (k3 : Int32 → Int32 → Int32 → St → Option Rs) (x2 : Int32) (x4 : Int32) (x5 : Int32) (σ : St) : Option Rs := (if x4 ≤ x5 then bd (f_X4_add p1 (10 : Int32) σ) (fun r2 s3 => some ((0 : Int32), s3)) else bd (f_X3_letterOctet b2 x2 x5 σ) (fun r5 s6 => bd (f_X4_add p1 r5 s6) (fun r8 s9 => nx (x5 + (1 : Int32)) (fun y11 => k3 x2 x4 y11 s9))))
set_option maxRecDepth 10000 in
set_option maxHeartbeats 1000000 in
theorem t_X7_putLetters_3 {ε : Et} {κ : Kt} {z : Rs} (p1 : Nat) (b2 : Bool) (h_p1 : Rw p1) (C : Cx ε κ cX7_putLetters 6 RX7 2) (K : Ret ε κ cX7_putLetters none 0 0 (PV ε z)) (k3 : Int32 → Int32 → Int32 → St → Option Rs) (g3 : ∀ (x2 : Int32) (x4 : Int32) (x5 : Int32) (σ : St), k3 x2 x4 x5 σ = some z → G ε κ 0 0 3 [(0, .ref (ad ε p1)), (1, .ref (ad ε (bs b2))), (2, .int x2), (4, .int x4), (5, .int x5)] [] (WX ε σ)) (x2 : Int32) (x4 : Int32) (x5 : Int32) (σ : St) (ok : b_X7_putLetters_3 p1 b2 k3 x2 x4 x5 σ = some z) : G ε κ 0 0 3 [(0, .ref (ad ε p1)), (1, .ref (ad ε (bs b2))), (2, .int x2), (4, .int x4), (5, .int x5)] [] (WX ε σ) := by
  unfold b_X7_putLetters_3 at ok
  refine g_iload C dX7_putLetters_3 4 rfl ?_
  refine g_iload C dX7_putLetters_5 3 rfl ?_
  refine g_icmp_ge (tgt := 27) C dX7_putLetters_7 (by decide) (fun c1 => ?_) (fun c1 => ?_)
  · replace ok := ok_t c1 ok
    refine g_aload_n C dX7_putLetters_27 rfl 0 rfl ?_
    refine g_bipush (v := 10) C dX7_putLetters_28 (by decide) ?_
    obtain ⟨r2, s3, e4, ok⟩ := bd_ok ok
    refine q_cV C [.int (10 : Int32)] (c_X4_add h_p1 e4) wv_X7_9 (by decide) (rw_lt h_p1) (wx_X4 h_p1) rfl rfl rfl (Nat.le_of_ble_eq_true rfl) dX7_putLetters_30 ?_
    exact K.1 rfl _ _ _ dX7_putLetters_33 (pv_ok ok)
  · replace ok := ok_f c1 ok
    refine g_aload_n C dX7_putLetters_10 rfl 0 rfl ?_
    refine g_aload_n C dX7_putLetters_11 rfl 1 rfl ?_
    refine g_iload_n C dX7_putLetters_12 rfl 2 rfl ?_
    refine g_iload C dX7_putLetters_13 4 rfl ?_
    obtain ⟨r5, s6, e7, ok⟩ := bd_ok ok
    refine q_cI C [.int x2, .int x5] (c_X3_letterOctet e7) wv_X7_43 (by decide) (bs_lt b2) (wx_X3 b2) rfl rfl rfl (Nat.le_of_ble_eq_true rfl) dX7_putLetters_15 ?_
    obtain ⟨r8, s9, e10, ok⟩ := bd_ok ok
    refine q_cV C [.int r5] (c_X4_add h_p1 e10) wv_X7_9 (by decide) (rw_lt h_p1) (wx_X4 h_p1) rfl rfl rfl (Nat.le_of_ble_eq_true rfl) dX7_putLetters_18 ?_
    obtain ⟨y11, e12⟩ : ∃ y : Int32, y = (x5 + (1 : Int32)) := ⟨_, rfl⟩
    replace ok := nx_ok ok y11 e12
    refine g_iinc (v := y11) C [(5, .int y11), (0, .ref (ad ε p1)), (1, .ref (ad ε (bs b2))), (2, .int x2), (4, .int x4)] dX7_putLetters_21 4 rfl (by rw [e12]; rfl) (by decide) rfl ?_
    refine g_goto (tgt := 3) C dX7_putLetters_24 (by decide) ?_
    refine g_pick (lv' := [(0, .ref (ad ε p1)), (1, .ref (ad ε (bs b2))), (2, .int x2), (4, .int x4), (5, .int y11)]) ?_ [1, 2, 3, 4, 0] rfl
    exact g3 _ _ _ _ ok
def l_X7_putLetters_3 (p1 : Nat) (b2 : Bool) : Nat → Int32 → Int32 → Int32 → St → Option Rs
  | 0 => fun _ _ _ _ => none
  | n + 1 => fun x2 x4 x5 σ => b_X7_putLetters_3 p1 b2 (l_X7_putLetters_3 p1 b2 n) x2 x4 x5 σ
theorem tl_X7_putLetters_3 {ε : Et} {κ : Kt} {z : Rs} (p1 : Nat) (b2 : Bool) (h_p1 : Rw p1) (C : Cx ε κ cX7_putLetters 6 RX7 2) (K : Ret ε κ cX7_putLetters none 0 0 (PV ε z)) : ∀ (n : Nat) (x2 : Int32) (x4 : Int32) (x5 : Int32) (σ : St), l_X7_putLetters_3 p1 b2 n x2 x4 x5 σ = some z → G ε κ 0 0 3 [(0, .ref (ad ε p1)), (1, .ref (ad ε (bs b2))), (2, .int x2), (4, .int x4), (5, .int x5)] [] (WX ε σ) := by
  intro n
  induction n with
  | zero =>
    intro x2 x4 x5 σ ok
    cases ok
  | succ n ih =>
    intro x2 x4 x5 σ ok
    exact t_X7_putLetters_3 p1 b2 h_p1 C K (l_X7_putLetters_3 p1 b2 n) ih x2 x4 x5 σ ok
def f_X7_putLetters (p1 : Nat) (b2 : Bool) (x2 : Int32) (x3 : Int32) (x4 : Int32) (σ : St) : Option Rs := l_X7_putLetters_3 p1 b2 FU x2 x4 x3 σ
set_option maxRecDepth 10000 in
set_option maxHeartbeats 1000000 in
theorem tf_X7_putLetters {ε : Et} {κ : Kt} {z : Rs} (p1 : Nat) (b2 : Bool) (h_p1 : Rw p1) (C : Cx ε κ cX7_putLetters 6 RX7 2) (K : Ret ε κ cX7_putLetters none 0 0 (PV ε z)) (x2 : Int32) (x3 : Int32) (x4 : Int32) (σ : St) (ok : f_X7_putLetters p1 b2 x2 x3 x4 σ = some z) : G ε κ 0 0 0 [(0, .ref (ad ε p1)), (1, .ref (ad ε (bs b2))), (2, .int x2), (3, .int x3), (4, .int x4)] [] (WX ε σ) := by
  unfold f_X7_putLetters at ok
  refine g_iload_n C dX7_putLetters_0 rfl 3 rfl ?_
  refine g_istore C [(5, .int x3), (0, .ref (ad ε p1)), (1, .ref (ad ε (bs b2))), (2, .int x2), (3, .int x3), (4, .int x4)] dX7_putLetters_1 (by decide) rfl ?_
  refine g_pick (lv' := [(0, .ref (ad ε p1)), (1, .ref (ad ε (bs b2))), (2, .int x2), (4, .int x4), (5, .int x3)]) ?_ [1, 2, 3, 5, 0] rfl
  exact tl_X7_putLetters_3 p1 b2 h_p1 C K FU _ _ _ _ ok
theorem c_X7_putLetters {l : Launch} {ε : Et} {σ : St} {z : Rs} {p1 : Nat} {b2 : Bool} {x2 : Int32} {x3 : Int32} {x4 : Int32} (h_p1 : Rw p1) (e : f_X7_putLetters p1 b2 x2 x3 x4 σ = some z) : RM l ε yX7_putLetters cX7_putLetters 6 none 2 0 0 [.ref (ad ε p1), .ref (ad ε (bs b2)), .int x2, .int x3, .int x4] (WX ε σ) (PV ε z) := RM.of (by decide) (Nat.le_of_ble_eq_true rfl) (fun κ C K => tf_X7_putLetters p1 b2 h_p1 C K x2 x3 x4 σ e)
def b_X7_putQualities_3 (p1 : Nat) (b2 : Bool) (k3 : Int32 → Int32 → Int32 → St → Option Rs) (x2 : Int32) (x4 : Int32) (x5 : Int32) (σ : St) : Option Rs := (if x4 ≤ x5 then bd (f_X4_add p1 (10 : Int32) σ) (fun r2 s3 => some ((0 : Int32), s3)) else bd (f_X3_quality b2 x2 x5 σ) (fun r5 s6 => bd (f_X4_add p1 ((33 : Int32) + r5) s6) (fun r8 s9 => nx (x5 + (1 : Int32)) (fun y11 => k3 x2 x4 y11 s9))))
set_option maxRecDepth 10000 in
set_option maxHeartbeats 1000000 in
theorem t_X7_putQualities_3 {ε : Et} {κ : Kt} {z : Rs} (p1 : Nat) (b2 : Bool) (h_p1 : Rw p1) (C : Cx ε κ cX7_putQualities 6 RX7 2) (K : Ret ε κ cX7_putQualities none 0 0 (PV ε z)) (k3 : Int32 → Int32 → Int32 → St → Option Rs) (g3 : ∀ (x2 : Int32) (x4 : Int32) (x5 : Int32) (σ : St), k3 x2 x4 x5 σ = some z → G ε κ 0 0 3 [(0, .ref (ad ε p1)), (1, .ref (ad ε (bs b2))), (2, .int x2), (4, .int x4), (5, .int x5)] [] (WX ε σ)) (x2 : Int32) (x4 : Int32) (x5 : Int32) (σ : St) (ok : b_X7_putQualities_3 p1 b2 k3 x2 x4 x5 σ = some z) : G ε κ 0 0 3 [(0, .ref (ad ε p1)), (1, .ref (ad ε (bs b2))), (2, .int x2), (4, .int x4), (5, .int x5)] [] (WX ε σ) := by
  unfold b_X7_putQualities_3 at ok
  refine g_iload C dX7_putQualities_3 4 rfl ?_
  refine g_iload C dX7_putQualities_5 3 rfl ?_
  refine g_icmp_ge (tgt := 30) C dX7_putQualities_7 (by decide) (fun c1 => ?_) (fun c1 => ?_)
  · replace ok := ok_t c1 ok
    refine g_aload_n C dX7_putQualities_30 rfl 0 rfl ?_
    refine g_bipush (v := 10) C dX7_putQualities_31 (by decide) ?_
    obtain ⟨r2, s3, e4, ok⟩ := bd_ok ok
    refine q_cV C [.int (10 : Int32)] (c_X4_add h_p1 e4) wv_X7_9 (by decide) (rw_lt h_p1) (wx_X4 h_p1) rfl rfl rfl (Nat.le_of_ble_eq_true rfl) dX7_putQualities_33 ?_
    exact K.1 rfl _ _ _ dX7_putQualities_36 (pv_ok ok)
  · replace ok := ok_f c1 ok
    refine g_aload_n C dX7_putQualities_10 rfl 0 rfl ?_
    refine g_bipush (v := 33) C dX7_putQualities_11 (by decide) ?_
    refine g_aload_n C dX7_putQualities_13 rfl 1 rfl ?_
    refine g_iload_n C dX7_putQualities_14 rfl 2 rfl ?_
    refine g_iload C dX7_putQualities_15 4 rfl ?_
    obtain ⟨r5, s6, e7, ok⟩ := bd_ok ok
    refine q_cI C [.int x2, .int x5] (c_X3_quality e7) wv_X7_46 (by decide) (bs_lt b2) (wx_X3 b2) rfl rfl rfl (Nat.le_of_ble_eq_true rfl) dX7_putQualities_17 ?_
    refine g_iadd C dX7_putQualities_20 ?_
    obtain ⟨r8, s9, e10, ok⟩ := bd_ok ok
    refine q_cV C [.int ((33 : Int32) + r5)] (c_X4_add h_p1 e10) wv_X7_9 (by decide) (rw_lt h_p1) (wx_X4 h_p1) rfl rfl rfl (Nat.le_of_ble_eq_true rfl) dX7_putQualities_21 ?_
    obtain ⟨y11, e12⟩ : ∃ y : Int32, y = (x5 + (1 : Int32)) := ⟨_, rfl⟩
    replace ok := nx_ok ok y11 e12
    refine g_iinc (v := y11) C [(5, .int y11), (0, .ref (ad ε p1)), (1, .ref (ad ε (bs b2))), (2, .int x2), (4, .int x4)] dX7_putQualities_24 4 rfl (by rw [e12]; rfl) (by decide) rfl ?_
    refine g_goto (tgt := 3) C dX7_putQualities_27 (by decide) ?_
    refine g_pick (lv' := [(0, .ref (ad ε p1)), (1, .ref (ad ε (bs b2))), (2, .int x2), (4, .int x4), (5, .int y11)]) ?_ [1, 2, 3, 4, 0] rfl
    exact g3 _ _ _ _ ok
def l_X7_putQualities_3 (p1 : Nat) (b2 : Bool) : Nat → Int32 → Int32 → Int32 → St → Option Rs
  | 0 => fun _ _ _ _ => none
  | n + 1 => fun x2 x4 x5 σ => b_X7_putQualities_3 p1 b2 (l_X7_putQualities_3 p1 b2 n) x2 x4 x5 σ
theorem tl_X7_putQualities_3 {ε : Et} {κ : Kt} {z : Rs} (p1 : Nat) (b2 : Bool) (h_p1 : Rw p1) (C : Cx ε κ cX7_putQualities 6 RX7 2) (K : Ret ε κ cX7_putQualities none 0 0 (PV ε z)) : ∀ (n : Nat) (x2 : Int32) (x4 : Int32) (x5 : Int32) (σ : St), l_X7_putQualities_3 p1 b2 n x2 x4 x5 σ = some z → G ε κ 0 0 3 [(0, .ref (ad ε p1)), (1, .ref (ad ε (bs b2))), (2, .int x2), (4, .int x4), (5, .int x5)] [] (WX ε σ) := by
  intro n
  induction n with
  | zero =>
    intro x2 x4 x5 σ ok
    cases ok
  | succ n ih =>
    intro x2 x4 x5 σ ok
    exact t_X7_putQualities_3 p1 b2 h_p1 C K (l_X7_putQualities_3 p1 b2 n) ih x2 x4 x5 σ ok
def f_X7_putQualities (p1 : Nat) (b2 : Bool) (x2 : Int32) (x3 : Int32) (x4 : Int32) (σ : St) : Option Rs := l_X7_putQualities_3 p1 b2 FU x2 x4 x3 σ
set_option maxRecDepth 10000 in
set_option maxHeartbeats 1000000 in
theorem tf_X7_putQualities {ε : Et} {κ : Kt} {z : Rs} (p1 : Nat) (b2 : Bool) (h_p1 : Rw p1) (C : Cx ε κ cX7_putQualities 6 RX7 2) (K : Ret ε κ cX7_putQualities none 0 0 (PV ε z)) (x2 : Int32) (x3 : Int32) (x4 : Int32) (σ : St) (ok : f_X7_putQualities p1 b2 x2 x3 x4 σ = some z) : G ε κ 0 0 0 [(0, .ref (ad ε p1)), (1, .ref (ad ε (bs b2))), (2, .int x2), (3, .int x3), (4, .int x4)] [] (WX ε σ) := by
  unfold f_X7_putQualities at ok
  refine g_iload_n C dX7_putQualities_0 rfl 3 rfl ?_
  refine g_istore C [(5, .int x3), (0, .ref (ad ε p1)), (1, .ref (ad ε (bs b2))), (2, .int x2), (3, .int x3), (4, .int x4)] dX7_putQualities_1 (by decide) rfl ?_
  refine g_pick (lv' := [(0, .ref (ad ε p1)), (1, .ref (ad ε (bs b2))), (2, .int x2), (4, .int x4), (5, .int x3)]) ?_ [1, 2, 3, 5, 0] rfl
  exact tl_X7_putQualities_3 p1 b2 h_p1 C K FU _ _ _ _ ok
theorem c_X7_putQualities {l : Launch} {ε : Et} {σ : St} {z : Rs} {p1 : Nat} {b2 : Bool} {x2 : Int32} {x3 : Int32} {x4 : Int32} (h_p1 : Rw p1) (e : f_X7_putQualities p1 b2 x2 x3 x4 σ = some z) : RM l ε yX7_putQualities cX7_putQualities 6 none 2 0 0 [.ref (ad ε p1), .ref (ad ε (bs b2)), .int x2, .int x3, .int x4] (WX ε σ) (PV ε z) := RM.of (by decide) (Nat.le_of_ble_eq_true rfl) (fun κ C K => tf_X7_putQualities p1 b2 h_p1 C K x2 x3 x4 σ e)
def b_X7_putRead_95 (p1 : Nat) (b2 : Bool) (σ : St) : Option Rs := some ((0 : Int32), σ)
set_option maxRecDepth 10000 in
set_option maxHeartbeats 1000000 in
theorem t_X7_putRead_95 {ε : Et} {κ : Kt} {z : Rs} (p1 : Nat) (b2 : Bool) (h_p1 : Rw p1) (C : Cx ε κ cX7_putRead 7 RX7 3) (K : Ret ε κ cX7_putRead none 0 0 (PV ε z)) (σ : St) (ok : b_X7_putRead_95 p1 b2 σ = some z) : G ε κ 0 0 95 [] [] (WX ε σ) := by
  unfold b_X7_putRead_95 at ok
  exact K.1 rfl _ _ _ dX7_putRead_95 (pv_ok ok)
def b_X7_putRead_64 (p1 : Nat) (b2 : Bool) (k64 : Int32 → Int32 → Int32 → St → Option Rs) (x2 : Int32) (x5 : Int32) (x6 : Int32) (σ : St) : Option Rs := (if x5 ≤ x6 then b_X7_putRead_95 p1 b2 σ else bd (f_X7_putLetters p1 b2 x2 x6 (if x5 < (x6 + (60 : Int32)) then x5 else (x6 + (60 : Int32))) σ) (fun r2 s3 => nx (x6 + (60 : Int32)) (fun y5 => k64 x2 x5 y5 s3)))
set_option maxRecDepth 10000 in
set_option maxHeartbeats 1000000 in
theorem t_X7_putRead_64 {ε : Et} {κ : Kt} {z : Rs} (p1 : Nat) (b2 : Bool) (h_p1 : Rw p1) (C : Cx ε κ cX7_putRead 7 RX7 3) (K : Ret ε κ cX7_putRead none 0 0 (PV ε z)) (k64 : Int32 → Int32 → Int32 → St → Option Rs) (g64 : ∀ (x2 : Int32) (x5 : Int32) (x6 : Int32) (σ : St), k64 x2 x5 x6 σ = some z → G ε κ 0 0 64 [(0, .ref (ad ε p1)), (1, .ref (ad ε (bs b2))), (2, .int x2), (5, .int x5), (6, .int x6)] [] (WX ε σ)) (x2 : Int32) (x5 : Int32) (x6 : Int32) (σ : St) (ok : b_X7_putRead_64 p1 b2 k64 x2 x5 x6 σ = some z) : G ε κ 0 0 64 [(0, .ref (ad ε p1)), (1, .ref (ad ε (bs b2))), (2, .int x2), (5, .int x5), (6, .int x6)] [] (WX ε σ) := by
  unfold b_X7_putRead_64 at ok
  refine g_iload C dX7_putRead_64 4 rfl ?_
  refine g_iload C dX7_putRead_66 3 rfl ?_
  refine g_icmp_ge (tgt := 95) C dX7_putRead_68 (by decide) (fun c1 => ?_) (fun c1 => ?_)
  · replace ok := ok_t c1 ok
    refine g_pick (lv' := []) ?_ [] rfl
    exact t_X7_putRead_95 p1 b2 h_p1 C K _ ok
  · replace ok := ok_f c1 ok
    refine g_aload_n C dX7_putRead_71 rfl 0 rfl ?_
    refine g_aload_n C dX7_putRead_72 rfl 1 rfl ?_
    refine g_iload_n C dX7_putRead_73 rfl 2 rfl ?_
    refine g_iload C dX7_putRead_74 4 rfl ?_
    refine g_iload C dX7_putRead_76 4 rfl ?_
    refine g_bipush (v := 60) C dX7_putRead_78 (by decide) ?_
    refine g_iadd C dX7_putRead_80 ?_
    refine g_iload C dX7_putRead_81 3 rfl ?_
    refine g_min C (by decide) wm_X7_28 wms_min wmi wmc_min (Nat.le_of_ble_eq_true rfl) ⟨rfl, rfl⟩ dX7_putRead_83 ?_
    obtain ⟨r2, s3, e4, ok⟩ := bd_ok ok
    refine q_sV C [.ref (ad ε p1), .ref (ad ε (bs b2)), .int x2, .int x6, .int (if x5 < (x6 + (60 : Int32)) then x5 else (x6 + (60 : Int32)))] (c_X7_putLetters h_p1 e4) wv_X7_21 (by decide) rfl rfl (Nat.le_of_ble_eq_true rfl) dX7_putRead_86 ?_
    obtain ⟨y5, e6⟩ : ∃ y : Int32, y = (x6 + (60 : Int32)) := ⟨_, rfl⟩
    replace ok := nx_ok ok y5 e6
    refine g_iinc (v := y5) C [(6, .int y5), (0, .ref (ad ε p1)), (1, .ref (ad ε (bs b2))), (2, .int x2), (5, .int x5)] dX7_putRead_89 4 rfl (by rw [e6]; rfl) (by decide) rfl ?_
    refine g_goto (tgt := 64) C dX7_putRead_92 (by decide) ?_
    refine g_pick (lv' := [(0, .ref (ad ε p1)), (1, .ref (ad ε (bs b2))), (2, .int x2), (5, .int x5), (6, .int y5)]) ?_ [1, 2, 3, 4, 0] rfl
    exact g64 _ _ _ _ ok
def l_X7_putRead_64 (p1 : Nat) (b2 : Bool) : Nat → Int32 → Int32 → Int32 → St → Option Rs
  | 0 => fun _ _ _ _ => none
  | n + 1 => fun x2 x5 x6 σ => b_X7_putRead_64 p1 b2 (l_X7_putRead_64 p1 b2 n) x2 x5 x6 σ
theorem tl_X7_putRead_64 {ε : Et} {κ : Kt} {z : Rs} (p1 : Nat) (b2 : Bool) (h_p1 : Rw p1) (C : Cx ε κ cX7_putRead 7 RX7 3) (K : Ret ε κ cX7_putRead none 0 0 (PV ε z)) : ∀ (n : Nat) (x2 : Int32) (x5 : Int32) (x6 : Int32) (σ : St), l_X7_putRead_64 p1 b2 n x2 x5 x6 σ = some z → G ε κ 0 0 64 [(0, .ref (ad ε p1)), (1, .ref (ad ε (bs b2))), (2, .int x2), (5, .int x5), (6, .int x6)] [] (WX ε σ) := by
  intro n
  induction n with
  | zero =>
    intro x2 x5 x6 σ ok
    cases ok
  | succ n ih =>
    intro x2 x5 x6 σ ok
    exact t_X7_putRead_64 p1 b2 h_p1 C K (l_X7_putRead_64 p1 b2 n) ih x2 x5 x6 σ ok
def b_X7_putRead_12 (p1 : Nat) (b2 : Bool) (x2 : Int32) (x3 : Int32) (x4 : Int32) (x5 : Int32) (t0 : Int32) (σ : St) : Option Rs := bd (f_X4_add p1 t0 σ) (fun r1 s2 => bd (f_X7_putName p1 b2 x2 s2) (fun r4 s5 => (if x3 = 0 then bd (f_X7_putLetters p1 b2 x2 x4 x5 s5) (fun r8 s9 => bd (f_X4_add p1 (43 : Int32) s9) (fun r11 s12 => bd (f_X4_add p1 (10 : Int32) s12) (fun r14 s15 => bd (f_X7_putQualities p1 b2 x2 x4 x5 s15) (fun r17 s18 => b_X7_putRead_95 p1 b2 s18)))) else l_X7_putRead_64 p1 b2 FU x2 x5 x4 s5)))
set_option maxRecDepth 10000 in
set_option maxHeartbeats 1000000 in
theorem t_X7_putRead_12 {ε : Et} {κ : Kt} {z : Rs} (p1 : Nat) (b2 : Bool) (h_p1 : Rw p1) (C : Cx ε κ cX7_putRead 7 RX7 3) (K : Ret ε κ cX7_putRead none 0 0 (PV ε z)) (x2 : Int32) (x3 : Int32) (x4 : Int32) (x5 : Int32) (t0 : Int32) (σ : St) (ok : b_X7_putRead_12 p1 b2 x2 x3 x4 x5 t0 σ = some z) : G ε κ 0 0 12 [(0, .ref (ad ε p1)), (1, .ref (ad ε (bs b2))), (2, .int x2), (3, .int x3), (4, .int x4), (5, .int x5)] [.int t0, .ref (ad ε p1)] (WX ε σ) := by
  unfold b_X7_putRead_12 at ok
  obtain ⟨r1, s2, e3, ok⟩ := bd_ok ok
  refine q_cV C [.int t0] (c_X4_add h_p1 e3) wv_X7_9 (by decide) (rw_lt h_p1) (wx_X4 h_p1) rfl rfl rfl (Nat.le_of_ble_eq_true rfl) dX7_putRead_12 ?_
  refine g_aload_n C dX7_putRead_15 rfl 0 rfl ?_
  refine g_aload_n C dX7_putRead_16 rfl 1 rfl ?_
  refine g_iload_n C dX7_putRead_17 rfl 2 rfl ?_
  obtain ⟨r4, s5, e6, ok⟩ := bd_ok ok
  refine q_sV C [.ref (ad ε p1), .ref (ad ε (bs b2)), .int x2] (c_X7_putName h_p1 e6) wv_X7_15 (by decide) rfl rfl (Nat.le_of_ble_eq_true rfl) dX7_putRead_18 ?_
  refine g_iload_n C dX7_putRead_21 rfl 3 rfl ?_
  refine g_if_ne (tgt := 60) C dX7_putRead_22 (by decide) (fun c7 => ?_) (fun c7 => ?_)
  · replace ok := ok_f c7 ok
    refine g_iload C dX7_putRead_60 4 rfl ?_
    refine g_istore C [(6, .int x4), (0, .ref (ad ε p1)), (1, .ref (ad ε (bs b2))), (2, .int x2), (3, .int x3), (4, .int x4), (5, .int x5)] dX7_putRead_62 (by decide) rfl ?_
    refine g_pick (lv' := [(0, .ref (ad ε p1)), (1, .ref (ad ε (bs b2))), (2, .int x2), (5, .int x5), (6, .int x4)]) ?_ [1, 2, 3, 6, 0] rfl
    exact tl_X7_putRead_64 p1 b2 h_p1 C K FU _ _ _ _ ok
  · replace ok := ok_t c7 ok
    refine g_aload_n C dX7_putRead_25 rfl 0 rfl ?_
    refine g_aload_n C dX7_putRead_26 rfl 1 rfl ?_
    refine g_iload_n C dX7_putRead_27 rfl 2 rfl ?_
    refine g_iload C dX7_putRead_28 4 rfl ?_
    refine g_iload C dX7_putRead_30 5 rfl ?_
    obtain ⟨r8, s9, e10, ok⟩ := bd_ok ok
    refine q_sV C [.ref (ad ε p1), .ref (ad ε (bs b2)), .int x2, .int x4, .int x5] (c_X7_putLetters h_p1 e10) wv_X7_21 (by decide) rfl rfl (Nat.le_of_ble_eq_true rfl) dX7_putRead_32 ?_
    refine g_aload_n C dX7_putRead_35 rfl 0 rfl ?_
    refine g_bipush (v := 43) C dX7_putRead_36 (by decide) ?_
    obtain ⟨r11, s12, e13, ok⟩ := bd_ok ok
    refine q_cV C [.int (43 : Int32)] (c_X4_add h_p1 e13) wv_X7_9 (by decide) (rw_lt h_p1) (wx_X4 h_p1) rfl rfl rfl (Nat.le_of_ble_eq_true rfl) dX7_putRead_38 ?_
    refine g_aload_n C dX7_putRead_41 rfl 0 rfl ?_
    refine g_bipush (v := 10) C dX7_putRead_42 (by decide) ?_
    obtain ⟨r14, s15, e16, ok⟩ := bd_ok ok
    refine q_cV C [.int (10 : Int32)] (c_X4_add h_p1 e16) wv_X7_9 (by decide) (rw_lt h_p1) (wx_X4 h_p1) rfl rfl rfl (Nat.le_of_ble_eq_true rfl) dX7_putRead_44 ?_
    refine g_aload_n C dX7_putRead_47 rfl 0 rfl ?_
    refine g_aload_n C dX7_putRead_48 rfl 1 rfl ?_
    refine g_iload_n C dX7_putRead_49 rfl 2 rfl ?_
    refine g_iload C dX7_putRead_50 4 rfl ?_
    refine g_iload C dX7_putRead_52 5 rfl ?_
    obtain ⟨r17, s18, e19, ok⟩ := bd_ok ok
    refine q_sV C [.ref (ad ε p1), .ref (ad ε (bs b2)), .int x2, .int x4, .int x5] (c_X7_putQualities h_p1 e19) wv_X7_25 (by decide) rfl rfl (Nat.le_of_ble_eq_true rfl) dX7_putRead_54 ?_
    refine g_goto (tgt := 95) C dX7_putRead_57 (by decide) ?_
    refine g_pick (lv' := []) ?_ [] rfl
    exact t_X7_putRead_95 p1 b2 h_p1 C K _ ok
def f_X7_putRead (p1 : Nat) (b2 : Bool) (x2 : Int32) (x3 : Int32) (x4 : Int32) (x5 : Int32) (σ : St) : Option Rs := (if x3 = 0 then b_X7_putRead_12 p1 b2 x2 x3 x4 x5 (64 : Int32) σ else b_X7_putRead_12 p1 b2 x2 x3 x4 x5 (62 : Int32) σ)
set_option maxRecDepth 10000 in
set_option maxHeartbeats 1000000 in
theorem tf_X7_putRead {ε : Et} {κ : Kt} {z : Rs} (p1 : Nat) (b2 : Bool) (h_p1 : Rw p1) (C : Cx ε κ cX7_putRead 7 RX7 3) (K : Ret ε κ cX7_putRead none 0 0 (PV ε z)) (x2 : Int32) (x3 : Int32) (x4 : Int32) (x5 : Int32) (σ : St) (ok : f_X7_putRead p1 b2 x2 x3 x4 x5 σ = some z) : G ε κ 0 0 0 [(0, .ref (ad ε p1)), (1, .ref (ad ε (bs b2))), (2, .int x2), (3, .int x3), (4, .int x4), (5, .int x5)] [] (WX ε σ) := by
  unfold f_X7_putRead at ok
  refine g_aload_n C dX7_putRead_0 rfl 0 rfl ?_
  refine g_iload_n C dX7_putRead_1 rfl 3 rfl ?_
  refine g_if_ne (tgt := 10) C dX7_putRead_2 (by decide) (fun c1 => ?_) (fun c1 => ?_)
  · replace ok := ok_f c1 ok
    refine g_bipush (v := 62) C dX7_putRead_10 (by decide) ?_
    exact t_X7_putRead_12 p1 b2 h_p1 C K _ _ _ _ _ _ ok
  · replace ok := ok_t c1 ok
    refine g_bipush (v := 64) C dX7_putRead_5 (by decide) ?_
    refine g_goto (tgt := 12) C dX7_putRead_7 (by decide) ?_
    exact t_X7_putRead_12 p1 b2 h_p1 C K _ _ _ _ _ _ ok
theorem c_X7_putRead {l : Launch} {ε : Et} {σ : St} {z : Rs} {p1 : Nat} {b2 : Bool} {x2 : Int32} {x3 : Int32} {x4 : Int32} {x5 : Int32} (h_p1 : Rw p1) (e : f_X7_putRead p1 b2 x2 x3 x4 x5 σ = some z) : RM l ε yX7_putRead cX7_putRead 7 none 3 0 0 [.ref (ad ε p1), .ref (ad ε (bs b2)), .int x2, .int x3, .int x4, .int x5] (WX ε σ) (PV ε z) := RM.of (by decide) (Nat.le_of_ble_eq_true rfl) (fun κ C K => tf_X7_putRead p1 b2 h_p1 C K x2 x3 x4 x5 σ e)
