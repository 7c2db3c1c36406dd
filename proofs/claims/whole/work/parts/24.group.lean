def b_X1_restart_68 (k68 : Int32 → St → Option Rs) (x3 : Int32) (σ : St) : Option Rs := (if (16 : Int32) ≤ x3 then some ((0 : Int32), σ) else gd (inb x3 (ln 32)) (nx (sA σ 32 x3 (0 : Int32)) (fun s3 => nx (x3 + (1 : Int32)) (fun y5 => k68 y5 s3))))
set_option maxRecDepth 10000 in
set_option maxHeartbeats 1000000 in
theorem t_X1_restart_68 {ε : Et} {κ : Kt} {z : Rs} (C : Cx ε κ cX1_restart 4 RX1 1) (K : Ret ε κ cX1_restart none 0 0 (PV ε z)) (k68 : Int32 → St → Option Rs) (g68 : ∀ (x3 : Int32) (σ : St), k68 x3 σ = some z → G ε κ 0 0 68 [(0, .ref (ad ε 25)), (3, .int x3)] [] (WX ε σ)) (x3 : Int32) (σ : St) (ok : b_X1_restart_68 k68 x3 σ = some z) : G ε κ 0 0 68 [(0, .ref (ad ε 25)), (3, .int x3)] [] (WX ε σ) := by
  unfold b_X1_restart_68 at ok
  refine g_iload_n C dX1_restart_68 rfl 1 rfl ?_
  refine g_bipush (v := 16) C dX1_restart_69 (by decide) ?_
  refine g_icmp_ge (tgt := 87) C dX1_restart_71 (by decide) (fun c1 => ?_) (fun c1 => ?_)
  · replace ok := ok_t c1 ok
    exact K.1 rfl _ _ _ dX1_restart_87 (pv_ok ok)
  · replace ok := ok_f c1 ok
    refine g_aload_n C dX1_restart_74 rfl 0 rfl ?_
    refine q_X1_30 C dX1_restart_75 ?_
    refine g_iload_n C dX1_restart_78 rfl 1 rfl ?_
    refine g_iconst (v := 0) C dX1_restart_79 (by decide) ?_
    obtain ⟨h2, ok⟩ := gd_ok ok
    refine q_ast C ai_32 h2 dX1_restart_80 (fun s3 e4 => ?_)
    replace ok := nx_ok ok s3 e4
    obtain ⟨y5, e6⟩ : ∃ y : Int32, y = (x3 + (1 : Int32)) := ⟨_, rfl⟩
    replace ok := nx_ok ok y5 e6
    refine g_iinc (v := y5) C [(3, .int y5), (0, .ref (ad ε 25))] dX1_restart_81 1 rfl (by rw [e6]; rfl) (by decide) rfl ?_
    refine g_goto (tgt := 68) C dX1_restart_84 (by decide) ?_
    refine g_pick (lv' := [(0, .ref (ad ε 25)), (3, .int y5)]) ?_ [1, 0] rfl
    exact g68 _ _ ok
def l_X1_restart_68 : Nat → Int32 → St → Option Rs
  | 0 => fun _ _ => none
  | n + 1 => fun x3 σ => b_X1_restart_68 (l_X1_restart_68 n) x3 σ
theorem tl_X1_restart_68 {ε : Et} {κ : Kt} {z : Rs} (C : Cx ε κ cX1_restart 4 RX1 1) (K : Ret ε κ cX1_restart none 0 0 (PV ε z)) : ∀ (n : Nat) (x3 : Int32) (σ : St), l_X1_restart_68 n x3 σ = some z → G ε κ 0 0 68 [(0, .ref (ad ε 25)), (3, .int x3)] [] (WX ε σ) := by
  intro n
  induction n with
  | zero =>
    intro x3 σ ok
    cases ok
  | succ n ih =>
    intro x3 σ ok
    exact t_X1_restart_68 C K (l_X1_restart_68 n) ih x3 σ ok
def b_X1_restart_26 (k26 : Int32 → St → Option Rs) (x3 : Int32) (σ : St) : Option Rs := (if (60 : Int32) ≤ x3 then l_X1_restart_68 FU (0 : Int32) σ else gd (inb x3 (ln 27)) (nx (sA σ 27 x3 (-1 : Int32)) (fun s3 => gd (inb x3 (ln 28)) (nx (sA s3 28 x3 (-1 : Int32)) (fun s6 => gd (inb x3 (ln 29)) (nx (sA s6 29 x3 (0 : Int32)) (fun s9 => gd (inb x3 (ln 30)) (nx (sA s9 30 x3 (-1 : Int32)) (fun s12 => nx (x3 + (1 : Int32)) (fun y14 => k26 y14 s12))))))))))
set_option maxRecDepth 10000 in
set_option maxHeartbeats 1000000 in
theorem t_X1_restart_26 {ε : Et} {κ : Kt} {z : Rs} (C : Cx ε κ cX1_restart 4 RX1 1) (K : Ret ε κ cX1_restart none 0 0 (PV ε z)) (k26 : Int32 → St → Option Rs) (g26 : ∀ (x3 : Int32) (σ : St), k26 x3 σ = some z → G ε κ 0 0 26 [(0, .ref (ad ε 25)), (3, .int x3)] [] (WX ε σ)) (x3 : Int32) (σ : St) (ok : b_X1_restart_26 k26 x3 σ = some z) : G ε κ 0 0 26 [(0, .ref (ad ε 25)), (3, .int x3)] [] (WX ε σ) := by
  unfold b_X1_restart_26 at ok
  refine g_iload_n C dX1_restart_26 rfl 1 rfl ?_
  refine g_bipush (v := 60) C dX1_restart_27 (by decide) ?_
  refine g_icmp_ge (tgt := 66) C dX1_restart_29 (by decide) (fun c1 => ?_) (fun c1 => ?_)
  · replace ok := ok_t c1 ok
    refine g_iconst (v := 0) C dX1_restart_66 (by decide) ?_
    refine g_istore_n C [(3, .int (0 : Int32)), (0, .ref (ad ε 25))] dX1_restart_67 rfl (by decide) rfl ?_
    refine g_pick (lv' := [(0, .ref (ad ε 25)), (3, .int (0 : Int32))]) ?_ [1, 0] rfl
    exact tl_X1_restart_68 C K FU _ _ ok
  · replace ok := ok_f c1 ok
    refine g_aload_n C dX1_restart_32 rfl 0 rfl ?_
    refine q_X1_15 C dX1_restart_33 ?_
    refine g_iload_n C dX1_restart_36 rfl 1 rfl ?_
    refine g_iconst (v := -1) C dX1_restart_37 (by decide) ?_
    obtain ⟨h2, ok⟩ := gd_ok ok
    refine q_ast C ai_27 h2 dX1_restart_38 (fun s3 e4 => ?_)
    replace ok := nx_ok ok s3 e4
    refine g_aload_n C dX1_restart_39 rfl 0 rfl ?_
    refine q_X1_18 C dX1_restart_40 ?_
    refine g_iload_n C dX1_restart_43 rfl 1 rfl ?_
    refine g_iconst (v := -1) C dX1_restart_44 (by decide) ?_
    obtain ⟨h5, ok⟩ := gd_ok ok
    refine q_ast C ai_28 h5 dX1_restart_45 (fun s6 e7 => ?_)
    replace ok := nx_ok ok s6 e7
    refine g_aload_n C dX1_restart_46 rfl 0 rfl ?_
    refine q_X1_21 C dX1_restart_47 ?_
    refine g_iload_n C dX1_restart_50 rfl 1 rfl ?_
    refine g_iconst (v := 0) C dX1_restart_51 (by decide) ?_
    obtain ⟨h8, ok⟩ := gd_ok ok
    refine q_ast C ai_29 h8 dX1_restart_52 (fun s9 e10 => ?_)
    replace ok := nx_ok ok s9 e10
    refine g_aload_n C dX1_restart_53 rfl 0 rfl ?_
    refine q_X1_24 C dX1_restart_54 ?_
    refine g_iload_n C dX1_restart_57 rfl 1 rfl ?_
    refine g_iconst (v := -1) C dX1_restart_58 (by decide) ?_
    obtain ⟨h11, ok⟩ := gd_ok ok
    refine q_ast C ai_30 h11 dX1_restart_59 (fun s12 e13 => ?_)
    replace ok := nx_ok ok s12 e13
    obtain ⟨y14, e15⟩ : ∃ y : Int32, y = (x3 + (1 : Int32)) := ⟨_, rfl⟩
    replace ok := nx_ok ok y14 e15
    refine g_iinc (v := y14) C [(3, .int y14), (0, .ref (ad ε 25))] dX1_restart_60 1 rfl (by rw [e15]; rfl) (by decide) rfl ?_
    refine g_goto (tgt := 26) C dX1_restart_63 (by decide) ?_
    refine g_pick (lv' := [(0, .ref (ad ε 25)), (3, .int y14)]) ?_ [1, 0] rfl
    exact g26 _ _ ok
def l_X1_restart_26 : Nat → Int32 → St → Option Rs
  | 0 => fun _ _ => none
  | n + 1 => fun x3 σ => b_X1_restart_26 (l_X1_restart_26 n) x3 σ
theorem tl_X1_restart_26 {ε : Et} {κ : Kt} {z : Rs} (C : Cx ε κ cX1_restart 4 RX1 1) (K : Ret ε κ cX1_restart none 0 0 (PV ε z)) : ∀ (n : Nat) (x3 : Int32) (σ : St), l_X1_restart_26 n x3 σ = some z → G ε κ 0 0 26 [(0, .ref (ad ε 25)), (3, .int x3)] [] (WX ε σ) := by
  intro n
  induction n with
  | zero =>
    intro x3 σ ok
    cases ok
  | succ n ih =>
    intro x3 σ ok
    exact t_X1_restart_26 C K (l_X1_restart_26 n) ih x3 σ ok
def b_X1_restart_21 (t0 : Int32) (σ : St) : Option Rs := gz t0 (nx (sS σ 25 8 t0) (fun s1 => l_X1_restart_26 FU (0 : Int32) s1))
set_option maxRecDepth 10000 in
set_option maxHeartbeats 1000000 in
theorem t_X1_restart_21 {ε : Et} {κ : Kt} {z : Rs} (C : Cx ε κ cX1_restart 4 RX1 1) (K : Ret ε κ cX1_restart none 0 0 (PV ε z)) (t0 : Int32) (σ : St) (ok : b_X1_restart_21 t0 σ = some z) : G ε κ 0 0 21 [(0, .ref (ad ε 25))] [.int t0, .ref (ad ε 25)] (WX ε σ) := by
  unfold b_X1_restart_21 at ok
  obtain ⟨z3, ok⟩ := gz_ok ok
  refine p_X1_43 C z3 dX1_restart_21 (fun s1 e2 => ?_)
  replace ok := nx_ok ok s1 e2
  refine g_iconst (v := 0) C dX1_restart_24 (by decide) ?_
  refine g_istore_n C [(3, .int (0 : Int32)), (0, .ref (ad ε 25))] dX1_restart_25 rfl (by decide) rfl ?_
  refine g_pick (lv' := [(0, .ref (ad ε 25)), (3, .int (0 : Int32))]) ?_ [1, 0] rfl
  exact tl_X1_restart_26 C K FU _ _ ok
def f_X1_restart (x1 : Int32) (x2 : Int32) (σ : St) : Option Rs := nx (sS σ 25 7 (if (12 : Int32) < x1 then (12 : Int32) else x1)) (fun s1 => (if x2 = (1 : Int32) then b_X1_restart_21 (1 : Int32) s1 else b_X1_restart_21 (0 : Int32) s1))
set_option maxRecDepth 10000 in
set_option maxHeartbeats 1000000 in
theorem tf_X1_restart {ε : Et} {κ : Kt} {z : Rs} (C : Cx ε κ cX1_restart 4 RX1 1) (K : Ret ε κ cX1_restart none 0 0 (PV ε z)) (x1 : Int32) (x2 : Int32) (σ : St) (ok : f_X1_restart x1 x2 σ = some z) : G ε κ 0 0 0 [(0, .ref (ad ε 25)), (1, .int x1), (2, .int x2)] [] (WX ε σ) := by
  unfold f_X1_restart at ok
  refine g_aload_n C dX1_restart_0 rfl 0 rfl ?_
  refine g_iload_n C dX1_restart_1 rfl 1 rfl ?_
  refine g_bipush (v := 12) C dX1_restart_2 (by decide) ?_
  refine g_min C (by decide) wm_X1_33 wms_min wmi wmc_min (Nat.le_of_ble_eq_true rfl) ⟨rfl, rfl⟩ dX1_restart_4 ?_
  refine p_X1_39 C dX1_restart_7 (fun s1 e2 => ?_)
  replace ok := nx_ok ok s1 e2
  refine g_aload_n C dX1_restart_10 rfl 0 rfl ?_
  refine g_iload_n C dX1_restart_11 rfl 2 rfl ?_
  refine g_iconst (v := 1) C dX1_restart_12 (by decide) ?_
  refine g_icmp_ne (tgt := 20) C dX1_restart_13 (by decide) (fun c3 => ?_) (fun c3 => ?_)
  · replace ok := ok_f c3 ok
    refine g_iconst (v := 0) C dX1_restart_20 (by decide) ?_
    refine g_pick (lv' := [(0, .ref (ad ε 25))]) ?_ [0] rfl
    exact t_X1_restart_21 C K _ _ ok
  · replace ok := ok_t c3 ok
    refine g_iconst (v := 1) C dX1_restart_16 (by decide) ?_
    refine g_goto (tgt := 21) C dX1_restart_17 (by decide) ?_
    refine g_pick (lv' := [(0, .ref (ad ε 25))]) ?_ [0] rfl
    exact t_X1_restart_21 C K _ _ ok
theorem c_X1_restart {l : Launch} {ε : Et} {σ : St} {z : Rs} {x1 : Int32} {x2 : Int32} (e : f_X1_restart x1 x2 σ = some z) : RM l ε yX1_restart cX1_restart 4 none 1 0 0 [.ref (ad ε 25), .int x1, .int x2] (WX ε σ) (PV ε z) := RM.of (by decide) (Nat.le_of_ble_eq_true rfl) (fun κ C K => tf_X1_restart C K x1 x2 σ e)
def b_X1_isRead_15 (t0 : Int32) (σ : St) : Option Rs := gz t0 (some (t0, σ))
set_option maxRecDepth 10000 in
set_option maxHeartbeats 1000000 in
theorem t_X1_isRead_15 {ε : Et} {κ : Kt} {z : Rs} (C : Cx ε κ cX1_isRead 1 RX1 0) (K : Ret ε κ cX1_isRead (some .boolean) 0 0 (PI ε z)) (t0 : Int32) (σ : St) (ok : b_X1_isRead_15 t0 σ = some z) : G ε κ 0 0 15 [] [.int t0] (WX ε σ) := by
  unfold b_X1_isRead_15 at ok
  obtain ⟨z1, ok⟩ := gz_ok ok
  exact K.2 .boolean _ _ _ _ rfl dX1_isRead_15 (nar_b z1) (pi_ok ok)
def b_X1_isRead_14 (σ : St) : Option Rs := b_X1_isRead_15 (0 : Int32) σ
set_option maxRecDepth 10000 in
set_option maxHeartbeats 1000000 in
theorem t_X1_isRead_14 {ε : Et} {κ : Kt} {z : Rs} (C : Cx ε κ cX1_isRead 1 RX1 0) (K : Ret ε κ cX1_isRead (some .boolean) 0 0 (PI ε z)) (σ : St) (ok : b_X1_isRead_14 σ = some z) : G ε κ 0 0 14 [] [] (WX ε σ) := by
  unfold b_X1_isRead_14 at ok
  refine g_iconst (v := 0) C dX1_isRead_14 (by decide) ?_
  exact t_X1_isRead_15 C K _ _ ok
def f_X1_isRead (x0 : Int32) (σ : St) : Option Rs := (if x0 < 0 then b_X1_isRead_14 σ else (if (60 : Int32) ≤ x0 then b_X1_isRead_14 σ else b_X1_isRead_15 (1 : Int32) σ))
set_option maxRecDepth 10000 in
set_option maxHeartbeats 1000000 in
theorem tf_X1_isRead {ε : Et} {κ : Kt} {z : Rs} (C : Cx ε κ cX1_isRead 1 RX1 0) (K : Ret ε κ cX1_isRead (some .boolean) 0 0 (PI ε z)) (x0 : Int32) (σ : St) (ok : f_X1_isRead x0 σ = some z) : G ε κ 0 0 0 [(0, .int x0)] [] (WX ε σ) := by
  unfold f_X1_isRead at ok
  refine g_iload_n C dX1_isRead_0 rfl 0 rfl ?_
  refine g_if_lt (tgt := 14) C dX1_isRead_1 (by decide) (fun c1 => ?_) (fun c1 => ?_)
  · replace ok := ok_t c1 ok
    refine g_pick (lv' := []) ?_ [] rfl
    exact t_X1_isRead_14 C K _ ok
  · replace ok := ok_f c1 ok
    refine g_iload_n C dX1_isRead_4 rfl 0 rfl ?_
    refine g_bipush (v := 60) C dX1_isRead_5 (by decide) ?_
    refine g_icmp_ge (tgt := 14) C dX1_isRead_7 (by decide) (fun c2 => ?_) (fun c2 => ?_)
    · replace ok := ok_t c2 ok
      refine g_pick (lv' := []) ?_ [] rfl
      exact t_X1_isRead_14 C K _ ok
    · replace ok := ok_f c2 ok
      refine g_iconst (v := 1) C dX1_isRead_10 (by decide) ?_
      refine g_goto (tgt := 15) C dX1_isRead_11 (by decide) ?_
      refine g_pick (lv' := []) ?_ [] rfl
      exact t_X1_isRead_15 C K _ _ ok
theorem c_X1_isRead {l : Launch} {ε : Et} {σ : St} {z : Rs} {x0 : Int32} (e : f_X1_isRead x0 σ = some z) : RM l ε yX1_isRead cX1_isRead 1 (some .boolean) 0 0 0 [.int x0] (WX ε σ) (PI ε z) := RM.of (by decide) (Nat.le_of_ble_eq_true rfl) (fun κ C K => tf_X1_isRead C K x0 σ e)
def b_X1_distance_44 (k5 : Int32 → Int32 → Int32 → Int32 → St → Option Rs) (x1 : Int32) (x2 : Int32) (x3 : Int32) (x4 : Int32) (σ : St) : Option Rs := nx (x4 + (1 : Int32)) (fun y1 => k5 x1 x2 x3 y1 σ)
set_option maxRecDepth 10000 in
set_option maxHeartbeats 1000000 in
theorem t_X1_distance_44 {ε : Et} {κ : Kt} {z : Rs} (C : Cx ε κ cX1_distance 5 RX1 0) (K : Ret ε κ cX1_distance (some .int) 0 0 (PI ε z)) (k5 : Int32 → Int32 → Int32 → Int32 → St → Option Rs) (g5 : ∀ (x1 : Int32) (x2 : Int32) (x3 : Int32) (x4 : Int32) (σ : St), k5 x1 x2 x3 x4 σ = some z → G ε κ 0 0 5 [(0, .ref (ad ε 25)), (1, .int x1), (2, .int x2), (3, .int x3), (4, .int x4)] [] (WX ε σ)) (x1 : Int32) (x2 : Int32) (x3 : Int32) (x4 : Int32) (σ : St) (ok : b_X1_distance_44 k5 x1 x2 x3 x4 σ = some z) : G ε κ 0 0 44 [(0, .ref (ad ε 25)), (1, .int x1), (2, .int x2), (3, .int x3), (4, .int x4)] [] (WX ε σ) := by
  unfold b_X1_distance_44 at ok
  obtain ⟨y1, e2⟩ : ∃ y : Int32, y = (x4 + (1 : Int32)) := ⟨_, rfl⟩
  replace ok := nx_ok ok y1 e2
  refine g_iinc (v := y1) C [(4, .int y1), (0, .ref (ad ε 25)), (1, .int x1), (2, .int x2), (3, .int x3)] dX1_distance_44 4 rfl (by rw [e2]; rfl) (by decide) rfl ?_
  refine g_goto (tgt := 5) C dX1_distance_47 (by decide) ?_
  refine g_pick (lv' := [(0, .ref (ad ε 25)), (1, .int x1), (2, .int x2), (3, .int x3), (4, .int y1)]) ?_ [1, 2, 3, 4, 0] rfl
  exact g5 _ _ _ _ _ ok
def b_X1_distance_5 (k5 : Int32 → Int32 → Int32 → Int32 → St → Option Rs) (x1 : Int32) (x2 : Int32) (x3 : Int32) (x4 : Int32) (σ : St) : Option Rs := (if (σ.1 25 7) ≤ x4 then some (x3, σ) else gd (inb ((x1 * (12 : Int32)) + x4) (ln 26)) (gd (inb ((x2 * (12 : Int32)) + x4) (ln 26)) ((if (σ.2.1 26 ((x1 * (12 : Int32)) + x4).toNatClampNeg) = (σ.2.1 26 ((x2 * (12 : Int32)) + x4).toNatClampNeg) then b_X1_distance_44 k5 x1 x2 x3 x4 σ else nx (x3 + (1 : Int32)) (fun y5 => b_X1_distance_44 k5 x1 x2 y5 x4 σ)))))
set_option maxRecDepth 10000 in
set_option maxHeartbeats 1000000 in
theorem t_X1_distance_5 {ε : Et} {κ : Kt} {z : Rs} (C : Cx ε κ cX1_distance 5 RX1 0) (K : Ret ε κ cX1_distance (some .int) 0 0 (PI ε z)) (k5 : Int32 → Int32 → Int32 → Int32 → St → Option Rs) (g5 : ∀ (x1 : Int32) (x2 : Int32) (x3 : Int32) (x4 : Int32) (σ : St), k5 x1 x2 x3 x4 σ = some z → G ε κ 0 0 5 [(0, .ref (ad ε 25)), (1, .int x1), (2, .int x2), (3, .int x3), (4, .int x4)] [] (WX ε σ)) (x1 : Int32) (x2 : Int32) (x3 : Int32) (x4 : Int32) (σ : St) (ok : b_X1_distance_5 k5 x1 x2 x3 x4 σ = some z) : G ε κ 0 0 5 [(0, .ref (ad ε 25)), (1, .int x1), (2, .int x2), (3, .int x3), (4, .int x4)] [] (WX ε σ) := by
  unfold b_X1_distance_5 at ok
  refine g_iload C dX1_distance_5 4 rfl ?_
  refine g_aload_n C dX1_distance_7 rfl 0 rfl ?_
  refine q_X1_39 C dX1_distance_8 ?_
  refine g_icmp_ge (tgt := 50) C dX1_distance_11 (by decide) (fun c1 => ?_) (fun c1 => ?_)
  · replace ok := ok_t c1 ok
    refine g_iload_n C dX1_distance_50 rfl 3 rfl ?_
    exact K.2 .int _ _ _ _ rfl dX1_distance_51 rfl (pi_ok ok)
  · replace ok := ok_f c1 ok
    refine g_aload_n C dX1_distance_14 rfl 0 rfl ?_
    refine q_X1_9 C dX1_distance_15 ?_
    refine g_iload_n C dX1_distance_18 rfl 1 rfl ?_
    refine g_bipush (v := 12) C dX1_distance_19 (by decide) ?_
    refine g_imul C dX1_distance_21 ?_
    refine g_iload C dX1_distance_22 4 rfl ?_
    refine g_iadd C dX1_distance_24 ?_
    obtain ⟨h2, ok⟩ := gd_ok ok
    refine q_ald C ai_26 h2 dX1_distance_25 ?_
    refine g_aload_n C dX1_distance_26 rfl 0 rfl ?_
    refine q_X1_9 C dX1_distance_27 ?_
    refine g_iload_n C dX1_distance_30 rfl 2 rfl ?_
    refine g_bipush (v := 12) C dX1_distance_31 (by decide) ?_
    refine g_imul C dX1_distance_33 ?_
    refine g_iload C dX1_distance_34 4 rfl ?_
    refine g_iadd C dX1_distance_36 ?_
    obtain ⟨h3, ok⟩ := gd_ok ok
    refine q_ald C ai_26 h3 dX1_distance_37 ?_
    refine g_icmp_eq (tgt := 44) C dX1_distance_38 (by decide) (fun c4 => ?_) (fun c4 => ?_)
    · replace ok := ok_t c4 ok
      exact t_X1_distance_44 C K k5 g5 _ _ _ _ _ ok
    · replace ok := ok_f c4 ok
      obtain ⟨y5, e6⟩ : ∃ y : Int32, y = (x3 + (1 : Int32)) := ⟨_, rfl⟩
      replace ok := nx_ok ok y5 e6
      refine g_iinc (v := y5) C [(3, .int y5), (0, .ref (ad ε 25)), (1, .int x1), (2, .int x2), (4, .int x4)] dX1_distance_41 3 rfl (by rw [e6]; rfl) (by decide) rfl ?_
      refine g_pick (lv' := [(0, .ref (ad ε 25)), (1, .int x1), (2, .int x2), (3, .int y5), (4, .int x4)]) ?_ [1, 2, 3, 0, 4] rfl
      exact t_X1_distance_44 C K k5 g5 _ _ _ _ _ ok
def l_X1_distance_5 : Nat → Int32 → Int32 → Int32 → Int32 → St → Option Rs
  | 0 => fun _ _ _ _ _ => none
  | n + 1 => fun x1 x2 x3 x4 σ => b_X1_distance_5 (l_X1_distance_5 n) x1 x2 x3 x4 σ
theorem tl_X1_distance_5 {ε : Et} {κ : Kt} {z : Rs} (C : Cx ε κ cX1_distance 5 RX1 0) (K : Ret ε κ cX1_distance (some .int) 0 0 (PI ε z)) : ∀ (n : Nat) (x1 : Int32) (x2 : Int32) (x3 : Int32) (x4 : Int32) (σ : St), l_X1_distance_5 n x1 x2 x3 x4 σ = some z → G ε κ 0 0 5 [(0, .ref (ad ε 25)), (1, .int x1), (2, .int x2), (3, .int x3), (4, .int x4)] [] (WX ε σ) := by
  intro n
  induction n with
  | zero =>
    intro x1 x2 x3 x4 σ ok
    cases ok
  | succ n ih =>
    intro x1 x2 x3 x4 σ ok
    exact t_X1_distance_5 C K (l_X1_distance_5 n) ih x1 x2 x3 x4 σ ok
def f_X1_distance (x1 : Int32) (x2 : Int32) (σ : St) : Option Rs := l_X1_distance_5 FU x1 x2 (0 : Int32) (0 : Int32) σ
set_option maxRecDepth 10000 in
set_option maxHeartbeats 1000000 in
theorem tf_X1_distance {ε : Et} {κ : Kt} {z : Rs} (C : Cx ε κ cX1_distance 5 RX1 0) (K : Ret ε κ cX1_distance (some .int) 0 0 (PI ε z)) (x1 : Int32) (x2 : Int32) (σ : St) (ok : f_X1_distance x1 x2 σ = some z) : G ε κ 0 0 0 [(0, .ref (ad ε 25)), (1, .int x1), (2, .int x2)] [] (WX ε σ) := by
  unfold f_X1_distance at ok
  refine g_iconst (v := 0) C dX1_distance_0 (by decide) ?_
  refine g_istore_n C [(3, .int (0 : Int32)), (0, .ref (ad ε 25)), (1, .int x1), (2, .int x2)] dX1_distance_1 rfl (by decide) rfl ?_
  refine g_iconst (v := 0) C dX1_distance_2 (by decide) ?_
  refine g_istore C [(4, .int (0 : Int32)), (3, .int (0 : Int32)), (0, .ref (ad ε 25)), (1, .int x1), (2, .int x2)] dX1_distance_3 (by decide) rfl ?_
  refine g_pick (lv' := [(0, .ref (ad ε 25)), (1, .int x1), (2, .int x2), (3, .int (0 : Int32)), (4, .int (0 : Int32))]) ?_ [2, 3, 4, 1, 0] rfl
  exact tl_X1_distance_5 C K FU _ _ _ _ _ ok
theorem c_X1_distance {l : Launch} {ε : Et} {σ : St} {z : Rs} {x1 : Int32} {x2 : Int32} (e : f_X1_distance x1 x2 σ = some z) : RM l ε yX1_distance cX1_distance 5 (some .int) 0 0 0 [.ref (ad ε 25), .int x1, .int x2] (WX ε σ) (PI ε z) := RM.of (by decide) (Nat.le_of_ble_eq_true rfl) (fun κ C K => tf_X1_distance C K x1 x2 σ e)
def b_X1_firstAlike_33 (k2 : Int32 → Int32 → St → Option Rs) (x1 : Int32) (x2 : Int32) (σ : St) : Option Rs := nx (x2 + (1 : Int32)) (fun y1 => k2 x1 y1 σ)
set_option maxRecDepth 10000 in
set_option maxHeartbeats 1000000 in
theorem t_X1_firstAlike_33 {ε : Et} {κ : Kt} {z : Rs} (C : Cx ε κ cX1_firstAlike 3 RX1 1) (K : Ret ε κ cX1_firstAlike (some .int) 0 0 (PI ε z)) (k2 : Int32 → Int32 → St → Option Rs) (g2 : ∀ (x1 : Int32) (x2 : Int32) (σ : St), k2 x1 x2 σ = some z → G ε κ 0 0 2 [(0, .ref (ad ε 25)), (1, .int x1), (2, .int x2)] [] (WX ε σ)) (x1 : Int32) (x2 : Int32) (σ : St) (ok : b_X1_firstAlike_33 k2 x1 x2 σ = some z) : G ε κ 0 0 33 [(0, .ref (ad ε 25)), (1, .int x1), (2, .int x2)] [] (WX ε σ) := by
  unfold b_X1_firstAlike_33 at ok
  obtain ⟨y1, e2⟩ : ∃ y : Int32, y = (x2 + (1 : Int32)) := ⟨_, rfl⟩
  replace ok := nx_ok ok y1 e2
  refine g_iinc (v := y1) C [(2, .int y1), (0, .ref (ad ε 25)), (1, .int x1)] dX1_firstAlike_33 2 rfl (by rw [e2]; rfl) (by decide) rfl ?_
  refine g_goto (tgt := 2) C dX1_firstAlike_36 (by decide) ?_
  refine g_pick (lv' := [(0, .ref (ad ε 25)), (1, .int x1), (2, .int y1)]) ?_ [1, 2, 0] rfl
  exact g2 _ _ _ ok
def b_X1_firstAlike_2 (k2 : Int32 → Int32 → St → Option Rs) (x1 : Int32) (x2 : Int32) (σ : St) : Option Rs := (if x1 ≤ x2 then some (x1, σ) else gd (inb x2 (ln 27)) (gd (inb x1 (ln 27)) ((if (σ.2.1 27 x2.toNatClampNeg) = (σ.2.1 27 x1.toNatClampNeg) then bd (f_X1_distance x2 x1 σ) (fun r5 s6 => (if r5 = 0 then some (x2, s6) else b_X1_firstAlike_33 k2 x1 x2 s6)) else b_X1_firstAlike_33 k2 x1 x2 σ))))
set_option maxRecDepth 10000 in
set_option maxHeartbeats 1000000 in
theorem t_X1_firstAlike_2 {ε : Et} {κ : Kt} {z : Rs} (C : Cx ε κ cX1_firstAlike 3 RX1 1) (K : Ret ε κ cX1_firstAlike (some .int) 0 0 (PI ε z)) (k2 : Int32 → Int32 → St → Option Rs) (g2 : ∀ (x1 : Int32) (x2 : Int32) (σ : St), k2 x1 x2 σ = some z → G ε κ 0 0 2 [(0, .ref (ad ε 25)), (1, .int x1), (2, .int x2)] [] (WX ε σ)) (x1 : Int32) (x2 : Int32) (σ : St) (ok : b_X1_firstAlike_2 k2 x1 x2 σ = some z) : G ε κ 0 0 2 [(0, .ref (ad ε 25)), (1, .int x1), (2, .int x2)] [] (WX ε σ) := by
  unfold b_X1_firstAlike_2 at ok
  refine g_iload_n C dX1_firstAlike_2 rfl 2 rfl ?_
  refine g_iload_n C dX1_firstAlike_3 rfl 1 rfl ?_
  refine g_icmp_ge (tgt := 39) C dX1_firstAlike_4 (by decide) (fun c1 => ?_) (fun c1 => ?_)
  · replace ok := ok_t c1 ok
    refine g_iload_n C dX1_firstAlike_39 rfl 1 rfl ?_
    exact K.2 .int _ _ _ _ rfl dX1_firstAlike_40 rfl (pi_ok ok)
  · replace ok := ok_f c1 ok
    refine g_aload_n C dX1_firstAlike_7 rfl 0 rfl ?_
    refine q_X1_15 C dX1_firstAlike_8 ?_
    refine g_iload_n C dX1_firstAlike_11 rfl 2 rfl ?_
    obtain ⟨h2, ok⟩ := gd_ok ok
    refine q_ald C ai_27 h2 dX1_firstAlike_12 ?_
    refine g_aload_n C dX1_firstAlike_13 rfl 0 rfl ?_
    refine q_X1_15 C dX1_firstAlike_14 ?_
    refine g_iload_n C dX1_firstAlike_17 rfl 1 rfl ?_
    obtain ⟨h3, ok⟩ := gd_ok ok
    refine q_ald C ai_27 h3 dX1_firstAlike_18 ?_
    refine g_icmp_ne (tgt := 33) C dX1_firstAlike_19 (by decide) (fun c4 => ?_) (fun c4 => ?_)
    · replace ok := ok_f c4 ok
      exact t_X1_firstAlike_33 C K k2 g2 _ _ _ ok
    · replace ok := ok_t c4 ok
      refine g_aload_n C dX1_firstAlike_22 rfl 0 rfl ?_
      refine g_iload_n C dX1_firstAlike_23 rfl 2 rfl ?_
      refine g_iload_n C dX1_firstAlike_24 rfl 1 rfl ?_
      obtain ⟨r5, s6, e7, ok⟩ := bd_ok ok
      refine q_cI C [.int x2, .int x1] (c_X1_distance e7) wv_X1_77 (by decide) (lt_N (by decide)) wx_X1 rfl rfl rfl (Nat.le_of_ble_eq_true rfl) dX1_firstAlike_25 ?_
      refine g_if_ne (tgt := 33) C dX1_firstAlike_28 (by decide) (fun c8 => ?_) (fun c8 => ?_)
      · replace ok := ok_f c8 ok
        exact t_X1_firstAlike_33 C K k2 g2 _ _ _ ok
      · replace ok := ok_t c8 ok
        refine g_iload_n C dX1_firstAlike_31 rfl 2 rfl ?_
        exact K.2 .int _ _ _ _ rfl dX1_firstAlike_32 rfl (pi_ok ok)
def l_X1_firstAlike_2 : Nat → Int32 → Int32 → St → Option Rs
  | 0 => fun _ _ _ => none
  | n + 1 => fun x1 x2 σ => b_X1_firstAlike_2 (l_X1_firstAlike_2 n) x1 x2 σ
theorem tl_X1_firstAlike_2 {ε : Et} {κ : Kt} {z : Rs} (C : Cx ε κ cX1_firstAlike 3 RX1 1) (K : Ret ε κ cX1_firstAlike (some .int) 0 0 (PI ε z)) : ∀ (n : Nat) (x1 : Int32) (x2 : Int32) (σ : St), l_X1_firstAlike_2 n x1 x2 σ = some z → G ε κ 0 0 2 [(0, .ref (ad ε 25)), (1, .int x1), (2, .int x2)] [] (WX ε σ) := by
  intro n
  induction n with
  | zero =>
    intro x1 x2 σ ok
    cases ok
  | succ n ih =>
    intro x1 x2 σ ok
    exact t_X1_firstAlike_2 C K (l_X1_firstAlike_2 n) ih x1 x2 σ ok
def f_X1_firstAlike (x1 : Int32) (σ : St) : Option Rs := l_X1_firstAlike_2 FU x1 (0 : Int32) σ
set_option maxRecDepth 10000 in
set_option maxHeartbeats 1000000 in
theorem tf_X1_firstAlike {ε : Et} {κ : Kt} {z : Rs} (C : Cx ε κ cX1_firstAlike 3 RX1 1) (K : Ret ε κ cX1_firstAlike (some .int) 0 0 (PI ε z)) (x1 : Int32) (σ : St) (ok : f_X1_firstAlike x1 σ = some z) : G ε κ 0 0 0 [(0, .ref (ad ε 25)), (1, .int x1)] [] (WX ε σ) := by
  unfold f_X1_firstAlike at ok
  refine g_iconst (v := 0) C dX1_firstAlike_0 (by decide) ?_
  refine g_istore_n C [(2, .int (0 : Int32)), (0, .ref (ad ε 25)), (1, .int x1)] dX1_firstAlike_1 rfl (by decide) rfl ?_
  refine g_pick (lv' := [(0, .ref (ad ε 25)), (1, .int x1), (2, .int (0 : Int32))]) ?_ [1, 2, 0] rfl
  exact tl_X1_firstAlike_2 C K FU _ _ _ ok
theorem c_X1_firstAlike {l : Launch} {ε : Et} {σ : St} {z : Rs} {x1 : Int32} (e : f_X1_firstAlike x1 σ = some z) : RM l ε yX1_firstAlike cX1_firstAlike 3 (some .int) 1 0 0 [.ref (ad ε 25), .int x1] (WX ε σ) (PI ε z) := RM.of (by decide) (Nat.le_of_ble_eq_true rfl) (fun κ C K => tf_X1_firstAlike C K x1 σ e)
def b_X1_enter_11 (b1 : Bool) (k11 : Int32 → Int32 → Int32 → Int32 → St → Option Rs) (x2 : Int32) (x3 : Int32) (x4 : Int32) (x5 : Int32) (σ : St) : Option Rs := (if (σ.1 25 7) ≤ x5 then gd (inb x2 (ln 27)) (nx (sA σ 27 x2 x3) (fun s3 => bd (f_X1_firstAlike x2 s3) (fun r5 s6 => gd (inb x2 (ln 28)) (nx (sA s6 28 x2 r5) (fun s9 => gd (inb r5 (ln 29)) (gd (inb r5 (ln 29)) (nx (sA s9 29 r5 ((s9.2.1 29 r5.toNatClampNeg) + (1 : Int32))) (fun s13 => some ((0 : Int32), s13))))))))) else bd (f_X3_letterOctet b1 x2 (x4 + x5) σ) (fun r15 s16 => gd (inb ((x2 * (12 : Int32)) + x5) (ln 26)) (nx (sA s16 26 ((x2 * (12 : Int32)) + x5) r15) (fun s19 => nx (x5 + (1 : Int32)) (fun y21 => k11 x2 x3 x4 y21 s19)))))
set_option maxRecDepth 10000 in
set_option maxHeartbeats 1000000 in
theorem t_X1_enter_11 {ε : Et} {κ : Kt} {z : Rs} (b1 : Bool) (C : Cx ε κ cX1_enter 6 RX1 2) (K : Ret ε κ cX1_enter none 0 0 (PV ε z)) (k11 : Int32 → Int32 → Int32 → Int32 → St → Option Rs) (g11 : ∀ (x2 : Int32) (x3 : Int32) (x4 : Int32) (x5 : Int32) (σ : St), k11 x2 x3 x4 x5 σ = some z → G ε κ 0 0 11 [(0, .ref (ad ε 25)), (1, .ref (ad ε (bs b1))), (2, .int x2), (3, .int x3), (4, .int x4), (5, .int x5)] [] (WX ε σ)) (x2 : Int32) (x3 : Int32) (x4 : Int32) (x5 : Int32) (σ : St) (ok : b_X1_enter_11 b1 k11 x2 x3 x4 x5 σ = some z) : G ε κ 0 0 11 [(0, .ref (ad ε 25)), (1, .ref (ad ε (bs b1))), (2, .int x2), (3, .int x3), (4, .int x4), (5, .int x5)] [] (WX ε σ) := by
  unfold b_X1_enter_11 at ok
  refine g_iload C dX1_enter_11 5 rfl ?_
  refine g_aload_n C dX1_enter_13 rfl 0 rfl ?_
  refine q_X1_39 C dX1_enter_14 ?_
  refine g_icmp_ge (tgt := 48) C dX1_enter_17 (by decide) (fun c1 => ?_) (fun c1 => ?_)
  · replace ok := ok_t c1 ok
    refine g_aload_n C dX1_enter_48 rfl 0 rfl ?_
    refine q_X1_15 C dX1_enter_49 ?_
    refine g_iload_n C dX1_enter_52 rfl 2 rfl ?_
    refine g_iload_n C dX1_enter_53 rfl 3 rfl ?_
    obtain ⟨h2, ok⟩ := gd_ok ok
    refine q_ast C ai_27 h2 dX1_enter_54 (fun s3 e4 => ?_)
    replace ok := nx_ok ok s3 e4
    refine g_aload_n C dX1_enter_55 rfl 0 rfl ?_
    refine g_iload_n C dX1_enter_56 rfl 2 rfl ?_
    obtain ⟨r5, s6, e7, ok⟩ := bd_ok ok
    refine q_cI C [.int x2] (c_X1_firstAlike e7) wv_X1_56 (by decide) (lt_N (by decide)) wx_X1 rfl rfl rfl (Nat.le_of_ble_eq_true rfl) dX1_enter_57 ?_
    refine g_istore C [(5, .int r5), (0, .ref (ad ε 25)), (1, .ref (ad ε (bs b1))), (2, .int x2), (3, .int x3), (4, .int x4)] dX1_enter_60 (by decide) rfl ?_
    refine g_aload_n C dX1_enter_62 rfl 1 rfl ?_
    refine q_X1_18 C dX1_enter_63 ?_
    refine g_iload_n C dX1_enter_66 rfl 3 rfl ?_
    refine g_iload C dX1_enter_67 0 rfl ?_
    obtain ⟨h8, ok⟩ := gd_ok ok
    refine q_ast C ai_28 h8 dX1_enter_69 (fun s9 e10 => ?_)
    replace ok := nx_ok ok s9 e10
    refine g_aload_n C dX1_enter_70 rfl 1 rfl ?_
    refine q_X1_21 C dX1_enter_71 ?_
    refine g_iload C dX1_enter_74 0 rfl ?_
    refine g_dup2 C dX1_enter_76 rfl rfl ?_
    obtain ⟨h11, ok⟩ := gd_ok ok
    refine q_ald C ai_29 h11 dX1_enter_77 ?_
    refine g_iconst (v := 1) C dX1_enter_78 (by decide) ?_
    refine g_iadd C dX1_enter_79 ?_
    obtain ⟨h12, ok⟩ := gd_ok ok
    refine q_ast C ai_29 h12 dX1_enter_80 (fun s13 e14 => ?_)
    replace ok := nx_ok ok s13 e14
    exact K.1 rfl _ _ _ dX1_enter_81 (pv_ok ok)
  · replace ok := ok_f c1 ok
    refine g_aload_n C dX1_enter_20 rfl 0 rfl ?_
    refine q_X1_9 C dX1_enter_21 ?_
    refine g_iload_n C dX1_enter_24 rfl 2 rfl ?_
    refine g_bipush (v := 12) C dX1_enter_25 (by decide) ?_
    refine g_imul C dX1_enter_27 ?_
    refine g_iload C dX1_enter_28 5 rfl ?_
    refine g_iadd C dX1_enter_30 ?_
    refine g_aload_n C dX1_enter_31 rfl 1 rfl ?_
    refine g_iload_n C dX1_enter_32 rfl 2 rfl ?_
    refine g_iload C dX1_enter_33 4 rfl ?_
    refine g_iload C dX1_enter_35 5 rfl ?_
    refine g_iadd C dX1_enter_37 ?_
    obtain ⟨r15, s16, e17, ok⟩ := bd_ok ok
    refine q_cI C [.int x2, .int (x4 + x5)] (c_X3_letterOctet e17) wv_X1_51 (by decide) (bs_lt b1) (wx_X3 b1) rfl rfl rfl (Nat.le_of_ble_eq_true rfl) dX1_enter_38 ?_
    obtain ⟨h18, ok⟩ := gd_ok ok
    refine q_ast C ai_26 h18 dX1_enter_41 (fun s19 e20 => ?_)
    replace ok := nx_ok ok s19 e20
    obtain ⟨y21, e22⟩ : ∃ y : Int32, y = (x5 + (1 : Int32)) := ⟨_, rfl⟩
    replace ok := nx_ok ok y21 e22
    refine g_iinc (v := y21) C [(5, .int y21), (0, .ref (ad ε 25)), (1, .ref (ad ε (bs b1))), (2, .int x2), (3, .int x3), (4, .int x4)] dX1_enter_42 5 rfl (by rw [e22]; rfl) (by decide) rfl ?_
    refine g_goto (tgt := 11) C dX1_enter_45 (by decide) ?_
    refine g_pick (lv' := [(0, .ref (ad ε 25)), (1, .ref (ad ε (bs b1))), (2, .int x2), (3, .int x3), (4, .int x4), (5, .int y21)]) ?_ [1, 2, 3, 4, 5, 0] rfl
    exact g11 _ _ _ _ _ ok
def l_X1_enter_11 (b1 : Bool) : Nat → Int32 → Int32 → Int32 → Int32 → St → Option Rs
  | 0 => fun _ _ _ _ _ => none
  | n + 1 => fun x2 x3 x4 x5 σ => b_X1_enter_11 b1 (l_X1_enter_11 b1 n) x2 x3 x4 x5 σ
theorem tl_X1_enter_11 {ε : Et} {κ : Kt} {z : Rs} (b1 : Bool) (C : Cx ε κ cX1_enter 6 RX1 2) (K : Ret ε κ cX1_enter none 0 0 (PV ε z)) : ∀ (n : Nat) (x2 : Int32) (x3 : Int32) (x4 : Int32) (x5 : Int32) (σ : St), l_X1_enter_11 b1 n x2 x3 x4 x5 σ = some z → G ε κ 0 0 11 [(0, .ref (ad ε 25)), (1, .ref (ad ε (bs b1))), (2, .int x2), (3, .int x3), (4, .int x4), (5, .int x5)] [] (WX ε σ) := by
  intro n
  induction n with
  | zero =>
    intro x2 x3 x4 x5 σ ok
    cases ok
  | succ n ih =>
    intro x2 x3 x4 x5 σ ok
    exact t_X1_enter_11 b1 C K (l_X1_enter_11 b1 n) ih x2 x3 x4 x5 σ ok
def f_X1_enter (b1 : Bool) (x2 : Int32) (x3 : Int32) (x4 : Int32) (σ : St) : Option Rs := bd (f_X1_isRead x2 σ) (fun r1 s2 => (if r1 = 0 then some ((0 : Int32), s2) else l_X1_enter_11 b1 FU x2 x3 x4 (0 : Int32) s2))
set_option maxRecDepth 10000 in
set_option maxHeartbeats 1000000 in
theorem tf_X1_enter {ε : Et} {κ : Kt} {z : Rs} (b1 : Bool) (C : Cx ε κ cX1_enter 6 RX1 2) (K : Ret ε κ cX1_enter none 0 0 (PV ε z)) (x2 : Int32) (x3 : Int32) (x4 : Int32) (σ : St) (ok : f_X1_enter b1 x2 x3 x4 σ = some z) : G ε κ 0 0 0 [(0, .ref (ad ε 25)), (1, .ref (ad ε (bs b1))), (2, .int x2), (3, .int x3), (4, .int x4)] [] (WX ε σ) := by
  unfold f_X1_enter at ok
  refine g_iload_n C dX1_enter_0 rfl 2 rfl ?_
  obtain ⟨r1, s2, e3, ok⟩ := bd_ok ok
  refine q_sI C [.int x2] (c_X1_isRead e3) wv_X1_47 (by decide) rfl rfl (Nat.le_of_ble_eq_true rfl) dX1_enter_1 ?_
  refine g_if_ne (tgt := 8) C dX1_enter_4 (by decide) (fun c4 => ?_) (fun c4 => ?_)
  · replace ok := ok_f c4 ok
    refine g_iconst (v := 0) C dX1_enter_8 (by decide) ?_
    refine g_istore C [(5, .int (0 : Int32)), (0, .ref (ad ε 25)), (1, .ref (ad ε (bs b1))), (2, .int x2), (3, .int x3), (4, .int x4)] dX1_enter_9 (by decide) rfl ?_
    refine g_pick (lv' := [(0, .ref (ad ε 25)), (1, .ref (ad ε (bs b1))), (2, .int x2), (3, .int x3), (4, .int x4), (5, .int (0 : Int32))]) ?_ [1, 2, 3, 4, 5, 0] rfl
    exact tl_X1_enter_11 b1 C K FU _ _ _ _ _ ok
  · replace ok := ok_t c4 ok
    exact K.1 rfl _ _ _ dX1_enter_7 (pv_ok ok)
theorem c_X1_enter {l : Launch} {ε : Et} {σ : St} {z : Rs} {b1 : Bool} {x2 : Int32} {x3 : Int32} {x4 : Int32} (e : f_X1_enter b1 x2 x3 x4 σ = some z) : RM l ε yX1_enter cX1_enter 6 none 2 0 0 [.ref (ad ε 25), .ref (ad ε (bs b1)), .int x2, .int x3, .int x4] (WX ε σ) (PV ε z) := RM.of (by decide) (Nat.le_of_ble_eq_true rfl) (fun κ C K => tf_X1_enter b1 C K x2 x3 x4 σ e)
def b_X1_isBin_15 (t0 : Int32) (σ : St) : Option Rs := gz t0 (some (t0, σ))
set_option maxRecDepth 10000 in
set_option maxHeartbeats 1000000 in
theorem t_X1_isBin_15 {ε : Et} {κ : Kt} {z : Rs} (C : Cx ε κ cX1_isBin 1 RX1 0) (K : Ret ε κ cX1_isBin (some .boolean) 0 0 (PI ε z)) (t0 : Int32) (σ : St) (ok : b_X1_isBin_15 t0 σ = some z) : G ε κ 0 0 15 [] [.int t0] (WX ε σ) := by
  unfold b_X1_isBin_15 at ok
  obtain ⟨z1, ok⟩ := gz_ok ok
  exact K.2 .boolean _ _ _ _ rfl dX1_isBin_15 (nar_b z1) (pi_ok ok)
def b_X1_isBin_14 (σ : St) : Option Rs := b_X1_isBin_15 (0 : Int32) σ
set_option maxRecDepth 10000 in
set_option maxHeartbeats 1000000 in
theorem t_X1_isBin_14 {ε : Et} {κ : Kt} {z : Rs} (C : Cx ε κ cX1_isBin 1 RX1 0) (K : Ret ε κ cX1_isBin (some .boolean) 0 0 (PI ε z)) (σ : St) (ok : b_X1_isBin_14 σ = some z) : G ε κ 0 0 14 [] [] (WX ε σ) := by
  unfold b_X1_isBin_14 at ok
  refine g_iconst (v := 0) C dX1_isBin_14 (by decide) ?_
  exact t_X1_isBin_15 C K _ _ ok
def f_X1_isBin (x0 : Int32) (σ : St) : Option Rs := (if x0 < 0 then b_X1_isBin_14 σ else (if (16 : Int32) ≤ x0 then b_X1_isBin_14 σ else b_X1_isBin_15 (1 : Int32) σ))
set_option maxRecDepth 10000 in
set_option maxHeartbeats 1000000 in
theorem tf_X1_isBin {ε : Et} {κ : Kt} {z : Rs} (C : Cx ε κ cX1_isBin 1 RX1 0) (K : Ret ε κ cX1_isBin (some .boolean) 0 0 (PI ε z)) (x0 : Int32) (σ : St) (ok : f_X1_isBin x0 σ = some z) : G ε κ 0 0 0 [(0, .int x0)] [] (WX ε σ) := by
  unfold f_X1_isBin at ok
  refine g_iload_n C dX1_isBin_0 rfl 0 rfl ?_
  refine g_if_lt (tgt := 14) C dX1_isBin_1 (by decide) (fun c1 => ?_) (fun c1 => ?_)
  · replace ok := ok_t c1 ok
    refine g_pick (lv' := []) ?_ [] rfl
    exact t_X1_isBin_14 C K _ ok
  · replace ok := ok_f c1 ok
    refine g_iload_n C dX1_isBin_4 rfl 0 rfl ?_
    refine g_bipush (v := 16) C dX1_isBin_5 (by decide) ?_
    refine g_icmp_ge (tgt := 14) C dX1_isBin_7 (by decide) (fun c2 => ?_) (fun c2 => ?_)
    · replace ok := ok_t c2 ok
      refine g_pick (lv' := []) ?_ [] rfl
      exact t_X1_isBin_14 C K _ ok
    · replace ok := ok_f c2 ok
      refine g_iconst (v := 1) C dX1_isBin_10 (by decide) ?_
      refine g_goto (tgt := 15) C dX1_isBin_11 (by decide) ?_
      refine g_pick (lv' := []) ?_ [] rfl
      exact t_X1_isBin_15 C K _ _ ok
theorem c_X1_isBin {l : Launch} {ε : Et} {σ : St} {z : Rs} {x0 : Int32} (e : f_X1_isBin x0 σ = some z) : RM l ε yX1_isBin cX1_isBin 1 (some .boolean) 0 0 0 [.int x0] (WX ε σ) (PI ε z) := RM.of (by decide) (Nat.le_of_ble_eq_true rfl) (fun κ C K => tf_X1_isBin C K x0 σ e)
def b_X1_isOpen_35 (t0 : Int32) (σ : St) : Option Rs := gz t0 (some (t0, σ))
set_option maxRecDepth 10000 in
set_option maxHeartbeats 1000000 in
theorem t_X1_isOpen_35 {ε : Et} {κ : Kt} {z : Rs} (C : Cx ε κ cX1_isOpen 3 RX1 0) (K : Ret ε κ cX1_isOpen (some .boolean) 0 0 (PI ε z)) (t0 : Int32) (σ : St) (ok : b_X1_isOpen_35 t0 σ = some z) : G ε κ 0 0 35 [] [.int t0] (WX ε σ) := by
  unfold b_X1_isOpen_35 at ok
  obtain ⟨z1, ok⟩ := gz_ok ok
  exact K.2 .boolean _ _ _ _ rfl dX1_isOpen_35 (nar_b z1) (pi_ok ok)
def b_X1_isOpen_34 (σ : St) : Option Rs := b_X1_isOpen_35 (0 : Int32) σ
set_option maxRecDepth 10000 in
set_option maxHeartbeats 1000000 in
theorem t_X1_isOpen_34 {ε : Et} {κ : Kt} {z : Rs} (C : Cx ε κ cX1_isOpen 3 RX1 0) (K : Ret ε κ cX1_isOpen (some .boolean) 0 0 (PI ε z)) (σ : St) (ok : b_X1_isOpen_34 σ = some z) : G ε κ 0 0 34 [] [] (WX ε σ) := by
  unfold b_X1_isOpen_34 at ok
  refine g_iconst (v := 0) C dX1_isOpen_34 (by decide) ?_
  exact t_X1_isOpen_35 C K _ _ ok
def f_X1_isOpen (x1 : Int32) (x2 : Int32) (σ : St) : Option Rs := gd (inb x1 (ln 27)) ((if (σ.2.1 27 x1.toNatClampNeg) = x2 then gd (inb x1 (ln 28)) ((if (σ.2.1 28 x1.toNatClampNeg) = x1 then gd (inb x1 (ln 30)) ((if (σ.2.1 30 x1.toNatClampNeg) = (-1 : Int32) then b_X1_isOpen_35 (1 : Int32) σ else b_X1_isOpen_34 σ)) else b_X1_isOpen_34 σ)) else b_X1_isOpen_34 σ))
set_option maxRecDepth 10000 in
set_option maxHeartbeats 1000000 in
theorem tf_X1_isOpen {ε : Et} {κ : Kt} {z : Rs} (C : Cx ε κ cX1_isOpen 3 RX1 0) (K : Ret ε κ cX1_isOpen (some .boolean) 0 0 (PI ε z)) (x1 : Int32) (x2 : Int32) (σ : St) (ok : f_X1_isOpen x1 x2 σ = some z) : G ε κ 0 0 0 [(0, .ref (ad ε 25)), (1, .int x1), (2, .int x2)] [] (WX ε σ) := by
  unfold f_X1_isOpen at ok
  refine g_aload_n C dX1_isOpen_0 rfl 0 rfl ?_
  refine q_X1_15 C dX1_isOpen_1 ?_
  refine g_iload_n C dX1_isOpen_4 rfl 1 rfl ?_
  obtain ⟨h1, ok⟩ := gd_ok ok
  refine q_ald C ai_27 h1 dX1_isOpen_5 ?_
  refine g_iload_n C dX1_isOpen_6 rfl 2 rfl ?_
  refine g_icmp_ne (tgt := 34) C dX1_isOpen_7 (by decide) (fun c2 => ?_) (fun c2 => ?_)
  · replace ok := ok_f c2 ok
    refine g_pick (lv' := []) ?_ [] rfl
    exact t_X1_isOpen_34 C K _ ok
  · replace ok := ok_t c2 ok
    refine g_aload_n C dX1_isOpen_10 rfl 0 rfl ?_
    refine q_X1_18 C dX1_isOpen_11 ?_
    refine g_iload_n C dX1_isOpen_14 rfl 1 rfl ?_
    obtain ⟨h3, ok⟩ := gd_ok ok
    refine q_ald C ai_28 h3 dX1_isOpen_15 ?_
    refine g_iload_n C dX1_isOpen_16 rfl 1 rfl ?_
    refine g_icmp_ne (tgt := 34) C dX1_isOpen_17 (by decide) (fun c4 => ?_) (fun c4 => ?_)
    · replace ok := ok_f c4 ok
      refine g_pick (lv' := []) ?_ [] rfl
      exact t_X1_isOpen_34 C K _ ok
    · replace ok := ok_t c4 ok
      refine g_aload_n C dX1_isOpen_20 rfl 0 rfl ?_
      refine q_X1_24 C dX1_isOpen_21 ?_
      refine g_iload_n C dX1_isOpen_24 rfl 1 rfl ?_
      obtain ⟨h5, ok⟩ := gd_ok ok
      refine q_ald C ai_30 h5 dX1_isOpen_25 ?_
      refine g_iconst (v := -1) C dX1_isOpen_26 (by decide) ?_
      refine g_icmp_ne (tgt := 34) C dX1_isOpen_27 (by decide) (fun c6 => ?_) (fun c6 => ?_)
      · replace ok := ok_f c6 ok
        refine g_pick (lv' := []) ?_ [] rfl
        exact t_X1_isOpen_34 C K _ ok
      · replace ok := ok_t c6 ok
        refine g_iconst (v := 1) C dX1_isOpen_30 (by decide) ?_
        refine g_goto (tgt := 35) C dX1_isOpen_31 (by decide) ?_
        refine g_pick (lv' := []) ?_ [] rfl
        exact t_X1_isOpen_35 C K _ _ ok
theorem c_X1_isOpen {l : Launch} {ε : Et} {σ : St} {z : Rs} {x1 : Int32} {x2 : Int32} (e : f_X1_isOpen x1 x2 σ = some z) : RM l ε yX1_isOpen cX1_isOpen 3 (some .boolean) 0 0 0 [.ref (ad ε 25), .int x1, .int x2] (WX ε σ) (PI ε z) := RM.of (by decide) (Nat.le_of_ble_eq_true rfl) (fun κ C K => tf_X1_isOpen C K x1 x2 σ e)
def b_X1_comesBefore_86 (t0 : Int32) (σ : St) : Option Rs := gz t0 (some (t0, σ))
set_option maxRecDepth 10000 in
set_option maxHeartbeats 1000000 in
theorem t_X1_comesBefore_86 {ε : Et} {κ : Kt} {z : Rs} (C : Cx ε κ cX1_comesBefore 5 RX1 0) (K : Ret ε κ cX1_comesBefore (some .boolean) 0 0 (PI ε z)) (t0 : Int32) (σ : St) (ok : b_X1_comesBefore_86 t0 σ = some z) : G ε κ 0 0 86 [] [.int t0] (WX ε σ) := by
  unfold b_X1_comesBefore_86 at ok
  obtain ⟨z1, ok⟩ := gz_ok ok
  exact K.2 .boolean _ _ _ _ rfl dX1_comesBefore_86 (nar_b z1) (pi_ok ok)
def b_X1_comesBefore_38 (k38 : Int32 → Int32 → Int32 → St → Option Rs) (x1 : Int32) (x2 : Int32) (x3 : Int32) (σ : St) : Option Rs := (if (σ.1 25 7) ≤ x3 then gz (0 : Int32) (some ((0 : Int32), σ)) else gd (inb ((x1 * (12 : Int32)) + x3) (ln 26)) (gd (inb ((x2 * (12 : Int32)) + x3) (ln 26)) (nx ((σ.2.1 26 ((x1 * (12 : Int32)) + x3).toNatClampNeg) - (σ.2.1 26 ((x2 * (12 : Int32)) + x3).toNatClampNeg)) (fun y5 => (if y5 = 0 then nx (x3 + (1 : Int32)) (fun y8 => k38 x1 x2 y8 σ) else (if 0 ≤ y5 then b_X1_comesBefore_86 (0 : Int32) σ else b_X1_comesBefore_86 (1 : Int32) σ))))))
set_option maxRecDepth 10000 in
set_option maxHeartbeats 1000000 in
theorem t_X1_comesBefore_38 {ε : Et} {κ : Kt} {z : Rs} (C : Cx ε κ cX1_comesBefore 5 RX1 0) (K : Ret ε κ cX1_comesBefore (some .boolean) 0 0 (PI ε z)) (k38 : Int32 → Int32 → Int32 → St → Option Rs) (g38 : ∀ (x1 : Int32) (x2 : Int32) (x3 : Int32) (σ : St), k38 x1 x2 x3 σ = some z → G ε κ 0 0 38 [(0, .ref (ad ε 25)), (1, .int x1), (2, .int x2), (3, .int x3)] [] (WX ε σ)) (x1 : Int32) (x2 : Int32) (x3 : Int32) (σ : St) (ok : b_X1_comesBefore_38 k38 x1 x2 x3 σ = some z) : G ε κ 0 0 38 [(0, .ref (ad ε 25)), (1, .int x1), (2, .int x2), (3, .int x3)] [] (WX ε σ) := by
  unfold b_X1_comesBefore_38 at ok
  refine g_iload_n C dX1_comesBefore_38 rfl 3 rfl ?_
  refine g_aload_n C dX1_comesBefore_39 rfl 0 rfl ?_
  refine q_X1_39 C dX1_comesBefore_40 ?_
  refine g_icmp_ge (tgt := 93) C dX1_comesBefore_43 (by decide) (fun c1 => ?_) (fun c1 => ?_)
  · replace ok := ok_t c1 ok
    refine g_iconst (v := 0) C dX1_comesBefore_93 (by decide) ?_
    obtain ⟨z2, ok⟩ := gz_ok ok
    exact K.2 .boolean _ _ _ _ rfl dX1_comesBefore_94 (nar_b z2) (pi_ok ok)
  · replace ok := ok_f c1 ok
    refine g_aload_n C dX1_comesBefore_46 rfl 0 rfl ?_
    refine q_X1_9 C dX1_comesBefore_47 ?_
    refine g_iload_n C dX1_comesBefore_50 rfl 1 rfl ?_
    refine g_bipush (v := 12) C dX1_comesBefore_51 (by decide) ?_
    refine g_imul C dX1_comesBefore_53 ?_
    refine g_iload_n C dX1_comesBefore_54 rfl 3 rfl ?_
    refine g_iadd C dX1_comesBefore_55 ?_
    obtain ⟨h3, ok⟩ := gd_ok ok
    refine q_ald C ai_26 h3 dX1_comesBefore_56 ?_
    refine g_aload_n C dX1_comesBefore_57 rfl 0 rfl ?_
    refine q_X1_9 C dX1_comesBefore_58 ?_
    refine g_iload_n C dX1_comesBefore_61 rfl 2 rfl ?_
    refine g_bipush (v := 12) C dX1_comesBefore_62 (by decide) ?_
    refine g_imul C dX1_comesBefore_64 ?_
    refine g_iload_n C dX1_comesBefore_65 rfl 3 rfl ?_
    refine g_iadd C dX1_comesBefore_66 ?_
    obtain ⟨h4, ok⟩ := gd_ok ok
    refine q_ald C ai_26 h4 dX1_comesBefore_67 ?_
    refine g_isub C dX1_comesBefore_68 ?_
    refine q_nm (fun y5 e6 => ?_)
    replace ok := nx_ok ok y5 e6
    refine g_istore C [(4, .int y5), (0, .ref (ad ε 25)), (1, .int x1), (2, .int x2), (3, .int x3)] dX1_comesBefore_69 (by decide) rfl ?_
    refine g_iload C dX1_comesBefore_71 0 rfl ?_
    refine g_if_eq (tgt := 87) C dX1_comesBefore_73 (by decide) (fun c7 => ?_) (fun c7 => ?_)
    · replace ok := ok_t c7 ok
      obtain ⟨y8, e9⟩ : ∃ y : Int32, y = (x3 + (1 : Int32)) := ⟨_, rfl⟩
      replace ok := nx_ok ok y8 e9
      refine g_iinc (v := y8) C [(3, .int y8), (4, .int y5), (0, .ref (ad ε 25)), (1, .int x1), (2, .int x2)] dX1_comesBefore_87 4 rfl (by rw [e9]; rfl) (by decide) rfl ?_
      refine g_goto (tgt := 38) C dX1_comesBefore_90 (by decide) ?_
      refine g_pick (lv' := [(0, .ref (ad ε 25)), (1, .int x1), (2, .int x2), (3, .int y8)]) ?_ [2, 3, 4, 0] rfl
      exact g38 _ _ _ _ ok
    · replace ok := ok_f c7 ok
      refine g_iload C dX1_comesBefore_76 0 rfl ?_
      refine g_if_ge (tgt := 85) C dX1_comesBefore_78 (by decide) (fun c10 => ?_) (fun c10 => ?_)
      · replace ok := ok_t c10 ok
        refine g_iconst (v := 0) C dX1_comesBefore_85 (by decide) ?_
        refine g_pick (lv' := []) ?_ [] rfl
        exact t_X1_comesBefore_86 C K _ _ ok
      · replace ok := ok_f c10 ok
        refine g_iconst (v := 1) C dX1_comesBefore_81 (by decide) ?_
        refine g_goto (tgt := 86) C dX1_comesBefore_82 (by decide) ?_
        refine g_pick (lv' := []) ?_ [] rfl
        exact t_X1_comesBefore_86 C K _ _ ok
def l_X1_comesBefore_38 : Nat → Int32 → Int32 → Int32 → St → Option Rs
  | 0 => fun _ _ _ _ => none
  | n + 1 => fun x1 x2 x3 σ => b_X1_comesBefore_38 (l_X1_comesBefore_38 n) x1 x2 x3 σ
theorem tl_X1_comesBefore_38 {ε : Et} {κ : Kt} {z : Rs} (C : Cx ε κ cX1_comesBefore 5 RX1 0) (K : Ret ε κ cX1_comesBefore (some .boolean) 0 0 (PI ε z)) : ∀ (n : Nat) (x1 : Int32) (x2 : Int32) (x3 : Int32) (σ : St), l_X1_comesBefore_38 n x1 x2 x3 σ = some z → G ε κ 0 0 38 [(0, .ref (ad ε 25)), (1, .int x1), (2, .int x2), (3, .int x3)] [] (WX ε σ) := by
  intro n
  induction n with
  | zero =>
    intro x1 x2 x3 σ ok
    cases ok
  | succ n ih =>
    intro x1 x2 x3 σ ok
    exact t_X1_comesBefore_38 C K (l_X1_comesBefore_38 n) ih x1 x2 x3 σ ok
def b_X1_comesBefore_35 (t0 : Int32) (σ : St) : Option Rs := gz t0 (some (t0, σ))
set_option maxRecDepth 10000 in
set_option maxHeartbeats 1000000 in
theorem t_X1_comesBefore_35 {ε : Et} {κ : Kt} {z : Rs} (C : Cx ε κ cX1_comesBefore 5 RX1 0) (K : Ret ε κ cX1_comesBefore (some .boolean) 0 0 (PI ε z)) (t0 : Int32) (σ : St) (ok : b_X1_comesBefore_35 t0 σ = some z) : G ε κ 0 0 35 [] [.int t0] (WX ε σ) := by
  unfold b_X1_comesBefore_35 at ok
  obtain ⟨z1, ok⟩ := gz_ok ok
  exact K.2 .boolean _ _ _ _ rfl dX1_comesBefore_35 (nar_b z1) (pi_ok ok)
def f_X1_comesBefore (x1 : Int32) (x2 : Int32) (σ : St) : Option Rs := gd (inb x1 (ln 29)) (gd (inb x2 (ln 29)) ((if (σ.2.1 29 x1.toNatClampNeg) = (σ.2.1 29 x2.toNatClampNeg) then l_X1_comesBefore_38 FU x1 x2 (0 : Int32) σ else gd (inb x1 (ln 29)) (gd (inb x2 (ln 29)) ((if (σ.2.1 29 x1.toNatClampNeg) ≤ (σ.2.1 29 x2.toNatClampNeg) then b_X1_comesBefore_35 (0 : Int32) σ else b_X1_comesBefore_35 (1 : Int32) σ))))))
set_option maxRecDepth 10000 in
set_option maxHeartbeats 1000000 in
theorem tf_X1_comesBefore {ε : Et} {κ : Kt} {z : Rs} (C : Cx ε κ cX1_comesBefore 5 RX1 0) (K : Ret ε κ cX1_comesBefore (some .boolean) 0 0 (PI ε z)) (x1 : Int32) (x2 : Int32) (σ : St) (ok : f_X1_comesBefore x1 x2 σ = some z) : G ε κ 0 0 0 [(0, .ref (ad ε 25)), (1, .int x1), (2, .int x2)] [] (WX ε σ) := by
  unfold f_X1_comesBefore at ok
  refine g_aload_n C dX1_comesBefore_0 rfl 0 rfl ?_
  refine q_X1_21 C dX1_comesBefore_1 ?_
  refine g_iload_n C dX1_comesBefore_4 rfl 1 rfl ?_
  obtain ⟨h1, ok⟩ := gd_ok ok
  refine q_ald C ai_29 h1 dX1_comesBefore_5 ?_
  refine g_aload_n C dX1_comesBefore_6 rfl 0 rfl ?_
  refine q_X1_21 C dX1_comesBefore_7 ?_
  refine g_iload_n C dX1_comesBefore_10 rfl 2 rfl ?_
  obtain ⟨h2, ok⟩ := gd_ok ok
  refine q_ald C ai_29 h2 dX1_comesBefore_11 ?_
  refine g_icmp_eq (tgt := 36) C dX1_comesBefore_12 (by decide) (fun c3 => ?_) (fun c3 => ?_)
  · replace ok := ok_t c3 ok
    refine g_iconst (v := 0) C dX1_comesBefore_36 (by decide) ?_
    refine g_istore_n C [(3, .int (0 : Int32)), (0, .ref (ad ε 25)), (1, .int x1), (2, .int x2)] dX1_comesBefore_37 rfl (by decide) rfl ?_
    refine g_pick (lv' := [(0, .ref (ad ε 25)), (1, .int x1), (2, .int x2), (3, .int (0 : Int32))]) ?_ [1, 2, 3, 0] rfl
    exact tl_X1_comesBefore_38 C K FU _ _ _ _ ok
  · replace ok := ok_f c3 ok
    refine g_aload_n C dX1_comesBefore_15 rfl 0 rfl ?_
    refine q_X1_21 C dX1_comesBefore_16 ?_
    refine g_iload_n C dX1_comesBefore_19 rfl 1 rfl ?_
    obtain ⟨h4, ok⟩ := gd_ok ok
    refine q_ald C ai_29 h4 dX1_comesBefore_20 ?_
    refine g_aload_n C dX1_comesBefore_21 rfl 0 rfl ?_
    refine q_X1_21 C dX1_comesBefore_22 ?_
    refine g_iload_n C dX1_comesBefore_25 rfl 2 rfl ?_
    obtain ⟨h5, ok⟩ := gd_ok ok
    refine q_ald C ai_29 h5 dX1_comesBefore_26 ?_
    refine g_icmp_le (tgt := 34) C dX1_comesBefore_27 (by decide) (fun c6 => ?_) (fun c6 => ?_)
    · replace ok := ok_t c6 ok
      refine g_iconst (v := 0) C dX1_comesBefore_34 (by decide) ?_
      refine g_pick (lv' := []) ?_ [] rfl
      exact t_X1_comesBefore_35 C K _ _ ok
    · replace ok := ok_f c6 ok
      refine g_iconst (v := 1) C dX1_comesBefore_30 (by decide) ?_
      refine g_goto (tgt := 35) C dX1_comesBefore_31 (by decide) ?_
      refine g_pick (lv' := []) ?_ [] rfl
      exact t_X1_comesBefore_35 C K _ _ ok
theorem c_X1_comesBefore {l : Launch} {ε : Et} {σ : St} {z : Rs} {x1 : Int32} {x2 : Int32} (e : f_X1_comesBefore x1 x2 σ = some z) : RM l ε yX1_comesBefore cX1_comesBefore 5 (some .boolean) 0 0 0 [.ref (ad ε 25), .int x1, .int x2] (WX ε σ) (PI ε z) := RM.of (by decide) (Nat.le_of_ble_eq_true rfl) (fun κ C K => tf_X1_comesBefore C K x1 x2 σ e)
def b_X1_greatestOpen_35 (k4 : Int32 → Int32 → Int32 → St → Option Rs) (x1 : Int32) (x2 : Int32) (x3 : Int32) (σ : St) : Option Rs := nx (x3 + (1 : Int32)) (fun y1 => k4 x1 x2 y1 σ)
set_option maxRecDepth 10000 in
set_option maxHeartbeats 1000000 in
theorem t_X1_greatestOpen_35 {ε : Et} {κ : Kt} {z : Rs} (C : Cx ε κ cX1_greatestOpen 4 RX1 1) (K : Ret ε κ cX1_greatestOpen (some .int) 0 0 (PI ε z)) (k4 : Int32 → Int32 → Int32 → St → Option Rs) (g4 : ∀ (x1 : Int32) (x2 : Int32) (x3 : Int32) (σ : St), k4 x1 x2 x3 σ = some z → G ε κ 0 0 4 [(0, .ref (ad ε 25)), (1, .int x1), (2, .int x2), (3, .int x3)] [] (WX ε σ)) (x1 : Int32) (x2 : Int32) (x3 : Int32) (σ : St) (ok : b_X1_greatestOpen_35 k4 x1 x2 x3 σ = some z) : G ε κ 0 0 35 [(0, .ref (ad ε 25)), (1, .int x1), (2, .int x2), (3, .int x3)] [] (WX ε σ) := by
  unfold b_X1_greatestOpen_35 at ok
  obtain ⟨y1, e2⟩ : ∃ y : Int32, y = (x3 + (1 : Int32)) := ⟨_, rfl⟩
  replace ok := nx_ok ok y1 e2
  refine g_iinc (v := y1) C [(3, .int y1), (0, .ref (ad ε 25)), (1, .int x1), (2, .int x2)] dX1_greatestOpen_35 3 rfl (by rw [e2]; rfl) (by decide) rfl ?_
  refine g_goto (tgt := 4) C dX1_greatestOpen_38 (by decide) ?_
  refine g_pick (lv' := [(0, .ref (ad ε 25)), (1, .int x1), (2, .int x2), (3, .int y1)]) ?_ [1, 2, 3, 0] rfl
  exact g4 _ _ _ _ ok
def b_X1_greatestOpen_33 (k4 : Int32 → Int32 → Int32 → St → Option Rs) (x1 : Int32) (x3 : Int32) (σ : St) : Option Rs := b_X1_greatestOpen_35 k4 x1 x3 x3 σ
set_option maxRecDepth 10000 in
set_option maxHeartbeats 1000000 in
theorem t_X1_greatestOpen_33 {ε : Et} {κ : Kt} {z : Rs} (C : Cx ε κ cX1_greatestOpen 4 RX1 1) (K : Ret ε κ cX1_greatestOpen (some .int) 0 0 (PI ε z)) (k4 : Int32 → Int32 → Int32 → St → Option Rs) (g4 : ∀ (x1 : Int32) (x2 : Int32) (x3 : Int32) (σ : St), k4 x1 x2 x3 σ = some z → G ε κ 0 0 4 [(0, .ref (ad ε 25)), (1, .int x1), (2, .int x2), (3, .int x3)] [] (WX ε σ)) (x1 : Int32) (x3 : Int32) (σ : St) (ok : b_X1_greatestOpen_33 k4 x1 x3 σ = some z) : G ε κ 0 0 33 [(0, .ref (ad ε 25)), (1, .int x1), (3, .int x3)] [] (WX ε σ) := by
  unfold b_X1_greatestOpen_33 at ok
  refine g_iload_n C dX1_greatestOpen_33 rfl 2 rfl ?_
  refine g_istore_n C [(2, .int x3), (0, .ref (ad ε 25)), (1, .int x1), (3, .int x3)] dX1_greatestOpen_34 rfl (by decide) rfl ?_
  refine g_pick (lv' := [(0, .ref (ad ε 25)), (1, .int x1), (2, .int x3), (3, .int x3)]) ?_ [1, 2, 0, 3] rfl
  exact t_X1_greatestOpen_35 C K k4 g4 _ _ _ _ ok
def b_X1_greatestOpen_4 (k4 : Int32 → Int32 → Int32 → St → Option Rs) (x1 : Int32) (x2 : Int32) (x3 : Int32) (σ : St) : Option Rs := (if (60 : Int32) ≤ x3 then some (x2, σ) else bd (f_X1_isOpen x3 x1 σ) (fun r2 s3 => (if r2 = 0 then b_X1_greatestOpen_35 k4 x1 x2 x3 s3 else (if x2 = (-1 : Int32) then b_X1_greatestOpen_33 k4 x1 x3 s3 else bd (f_X1_comesBefore x3 x2 s3) (fun r7 s8 => (if r7 = 0 then b_X1_greatestOpen_35 k4 x1 x2 x3 s8 else b_X1_greatestOpen_33 k4 x1 x3 s8))))))
set_option maxRecDepth 10000 in
set_option maxHeartbeats 1000000 in
theorem t_X1_greatestOpen_4 {ε : Et} {κ : Kt} {z : Rs} (C : Cx ε κ cX1_greatestOpen 4 RX1 1) (K : Ret ε κ cX1_greatestOpen (some .int) 0 0 (PI ε z)) (k4 : Int32 → Int32 → Int32 → St → Option Rs) (g4 : ∀ (x1 : Int32) (x2 : Int32) (x3 : Int32) (σ : St), k4 x1 x2 x3 σ = some z → G ε κ 0 0 4 [(0, .ref (ad ε 25)), (1, .int x1), (2, .int x2), (3, .int x3)] [] (WX ε σ)) (x1 : Int32) (x2 : Int32) (x3 : Int32) (σ : St) (ok : b_X1_greatestOpen_4 k4 x1 x2 x3 σ = some z) : G ε κ 0 0 4 [(0, .ref (ad ε 25)), (1, .int x1), (2, .int x2), (3, .int x3)] [] (WX ε σ) := by
  unfold b_X1_greatestOpen_4 at ok
  refine g_iload_n C dX1_greatestOpen_4 rfl 3 rfl ?_
  refine g_bipush (v := 60) C dX1_greatestOpen_5 (by decide) ?_
  refine g_icmp_ge (tgt := 41) C dX1_greatestOpen_7 (by decide) (fun c1 => ?_) (fun c1 => ?_)
  · replace ok := ok_t c1 ok
    refine g_iload_n C dX1_greatestOpen_41 rfl 2 rfl ?_
    exact K.2 .int _ _ _ _ rfl dX1_greatestOpen_42 rfl (pi_ok ok)
  · replace ok := ok_f c1 ok
    refine g_aload_n C dX1_greatestOpen_10 rfl 0 rfl ?_
    refine g_iload_n C dX1_greatestOpen_11 rfl 3 rfl ?_
    refine g_iload_n C dX1_greatestOpen_12 rfl 1 rfl ?_
    obtain ⟨r2, s3, e4, ok⟩ := bd_ok ok
    refine q_cI C [.int x3, .int x1] (c_X1_isOpen e4) wv_X1_80 (by decide) (lt_N (by decide)) wx_X1 rfl rfl rfl (Nat.le_of_ble_eq_true rfl) dX1_greatestOpen_13 ?_
    refine g_if_eq (tgt := 35) C dX1_greatestOpen_16 (by decide) (fun c5 => ?_) (fun c5 => ?_)
    · replace ok := ok_t c5 ok
      exact t_X1_greatestOpen_35 C K k4 g4 _ _ _ _ ok
    · replace ok := ok_f c5 ok
      refine g_iload_n C dX1_greatestOpen_19 rfl 2 rfl ?_
      refine g_iconst (v := -1) C dX1_greatestOpen_20 (by decide) ?_
      refine g_icmp_eq (tgt := 33) C dX1_greatestOpen_21 (by decide) (fun c6 => ?_) (fun c6 => ?_)
      · replace ok := ok_t c6 ok
        refine g_pick (lv' := [(0, .ref (ad ε 25)), (1, .int x1), (3, .int x3)]) ?_ [0, 1, 3] rfl
        exact t_X1_greatestOpen_33 C K k4 g4 _ _ _ ok
      · replace ok := ok_f c6 ok
        refine g_aload_n C dX1_greatestOpen_24 rfl 0 rfl ?_
        refine g_iload_n C dX1_greatestOpen_25 rfl 3 rfl ?_
        refine g_iload_n C dX1_greatestOpen_26 rfl 2 rfl ?_
        obtain ⟨r7, s8, e9, ok⟩ := bd_ok ok
        refine q_cI C [.int x3, .int x2] (c_X1_comesBefore e9) wv_X1_84 (by decide) (lt_N (by decide)) wx_X1 rfl rfl rfl (Nat.le_of_ble_eq_true rfl) dX1_greatestOpen_27 ?_
        refine g_if_eq (tgt := 35) C dX1_greatestOpen_30 (by decide) (fun c10 => ?_) (fun c10 => ?_)
        · replace ok := ok_t c10 ok
          exact t_X1_greatestOpen_35 C K k4 g4 _ _ _ _ ok
        · replace ok := ok_f c10 ok
          refine g_pick (lv' := [(0, .ref (ad ε 25)), (1, .int x1), (3, .int x3)]) ?_ [0, 1, 3] rfl
          exact t_X1_greatestOpen_33 C K k4 g4 _ _ _ ok
def l_X1_greatestOpen_4 : Nat → Int32 → Int32 → Int32 → St → Option Rs
  | 0 => fun _ _ _ _ => none
  | n + 1 => fun x1 x2 x3 σ => b_X1_greatestOpen_4 (l_X1_greatestOpen_4 n) x1 x2 x3 σ
theorem tl_X1_greatestOpen_4 {ε : Et} {κ : Kt} {z : Rs} (C : Cx ε κ cX1_greatestOpen 4 RX1 1) (K : Ret ε κ cX1_greatestOpen (some .int) 0 0 (PI ε z)) : ∀ (n : Nat) (x1 : Int32) (x2 : Int32) (x3 : Int32) (σ : St), l_X1_greatestOpen_4 n x1 x2 x3 σ = some z → G ε κ 0 0 4 [(0, .ref (ad ε 25)), (1, .int x1), (2, .int x2), (3, .int x3)] [] (WX ε σ) := by
  intro n
  induction n with
  | zero =>
    intro x1 x2 x3 σ ok
    cases ok
  | succ n ih =>
    intro x1 x2 x3 σ ok
    exact t_X1_greatestOpen_4 C K (l_X1_greatestOpen_4 n) ih x1 x2 x3 σ ok
def f_X1_greatestOpen (x1 : Int32) (σ : St) : Option Rs := l_X1_greatestOpen_4 FU x1 (-1 : Int32) (0 : Int32) σ
set_option maxRecDepth 10000 in
set_option maxHeartbeats 1000000 in
theorem tf_X1_greatestOpen {ε : Et} {κ : Kt} {z : Rs} (C : Cx ε κ cX1_greatestOpen 4 RX1 1) (K : Ret ε κ cX1_greatestOpen (some .int) 0 0 (PI ε z)) (x1 : Int32) (σ : St) (ok : f_X1_greatestOpen x1 σ = some z) : G ε κ 0 0 0 [(0, .ref (ad ε 25)), (1, .int x1)] [] (WX ε σ) := by
  unfold f_X1_greatestOpen at ok
  refine g_iconst (v := -1) C dX1_greatestOpen_0 (by decide) ?_
  refine g_istore_n C [(2, .int (-1 : Int32)), (0, .ref (ad ε 25)), (1, .int x1)] dX1_greatestOpen_1 rfl (by decide) rfl ?_
  refine g_iconst (v := 0) C dX1_greatestOpen_2 (by decide) ?_
  refine g_istore_n C [(3, .int (0 : Int32)), (2, .int (-1 : Int32)), (0, .ref (ad ε 25)), (1, .int x1)] dX1_greatestOpen_3 rfl (by decide) rfl ?_
  refine g_pick (lv' := [(0, .ref (ad ε 25)), (1, .int x1), (2, .int (-1 : Int32)), (3, .int (0 : Int32))]) ?_ [2, 3, 1, 0] rfl
  exact tl_X1_greatestOpen_4 C K FU _ _ _ _ ok
theorem c_X1_greatestOpen {l : Launch} {ε : Et} {σ : St} {z : Rs} {x1 : Int32} (e : f_X1_greatestOpen x1 σ = some z) : RM l ε yX1_greatestOpen cX1_greatestOpen 4 (some .int) 1 0 0 [.ref (ad ε 25), .int x1] (WX ε σ) (PI ε z) := RM.of (by decide) (Nat.le_of_ble_eq_true rfl) (fun κ C K => tf_X1_greatestOpen C K x1 σ e)
def b_X1_firstOpen_2 (k2 : Int32 → Int32 → St → Option Rs) (x1 : Int32) (x2 : Int32) (σ : St) : Option Rs := (if (60 : Int32) ≤ x2 then some ((-1 : Int32), σ) else bd (f_X1_isOpen x2 x1 σ) (fun r2 s3 => (if r2 = 0 then nx (x2 + (1 : Int32)) (fun y6 => k2 x1 y6 s3) else some (x2, s3))))
set_option maxRecDepth 10000 in
set_option maxHeartbeats 1000000 in
theorem t_X1_firstOpen_2 {ε : Et} {κ : Kt} {z : Rs} (C : Cx ε κ cX1_firstOpen 3 RX1 1) (K : Ret ε κ cX1_firstOpen (some .int) 0 0 (PI ε z)) (k2 : Int32 → Int32 → St → Option Rs) (g2 : ∀ (x1 : Int32) (x2 : Int32) (σ : St), k2 x1 x2 σ = some z → G ε κ 0 0 2 [(0, .ref (ad ε 25)), (1, .int x1), (2, .int x2)] [] (WX ε σ)) (x1 : Int32) (x2 : Int32) (σ : St) (ok : b_X1_firstOpen_2 k2 x1 x2 σ = some z) : G ε κ 0 0 2 [(0, .ref (ad ε 25)), (1, .int x1), (2, .int x2)] [] (WX ε σ) := by
  unfold b_X1_firstOpen_2 at ok
  refine g_iload_n C dX1_firstOpen_2 rfl 2 rfl ?_
  refine g_bipush (v := 60) C dX1_firstOpen_3 (by decide) ?_
  refine g_icmp_ge (tgt := 25) C dX1_firstOpen_5 (by decide) (fun c1 => ?_) (fun c1 => ?_)
  · replace ok := ok_t c1 ok
    refine g_iconst (v := -1) C dX1_firstOpen_25 (by decide) ?_
    exact K.2 .int _ _ _ _ rfl dX1_firstOpen_26 rfl (pi_ok ok)
  · replace ok := ok_f c1 ok
    refine g_aload_n C dX1_firstOpen_8 rfl 0 rfl ?_
    refine g_iload_n C dX1_firstOpen_9 rfl 2 rfl ?_
    refine g_iload_n C dX1_firstOpen_10 rfl 1 rfl ?_
    obtain ⟨r2, s3, e4, ok⟩ := bd_ok ok
    refine q_cI C [.int x2, .int x1] (c_X1_isOpen e4) wv_X1_80 (by decide) (lt_N (by decide)) wx_X1 rfl rfl rfl (Nat.le_of_ble_eq_true rfl) dX1_firstOpen_11 ?_
    refine g_if_eq (tgt := 19) C dX1_firstOpen_14 (by decide) (fun c5 => ?_) (fun c5 => ?_)
    · replace ok := ok_t c5 ok
      obtain ⟨y6, e7⟩ : ∃ y : Int32, y = (x2 + (1 : Int32)) := ⟨_, rfl⟩
      replace ok := nx_ok ok y6 e7
      refine g_iinc (v := y6) C [(2, .int y6), (0, .ref (ad ε 25)), (1, .int x1)] dX1_firstOpen_19 2 rfl (by rw [e7]; rfl) (by decide) rfl ?_
      refine g_goto (tgt := 2) C dX1_firstOpen_22 (by decide) ?_
      refine g_pick (lv' := [(0, .ref (ad ε 25)), (1, .int x1), (2, .int y6)]) ?_ [1, 2, 0] rfl
      exact g2 _ _ _ ok
    · replace ok := ok_f c5 ok
      refine g_iload_n C dX1_firstOpen_17 rfl 2 rfl ?_
      exact K.2 .int _ _ _ _ rfl dX1_firstOpen_18 rfl (pi_ok ok)
def l_X1_firstOpen_2 : Nat → Int32 → Int32 → St → Option Rs
  | 0 => fun _ _ _ => none
  | n + 1 => fun x1 x2 σ => b_X1_firstOpen_2 (l_X1_firstOpen_2 n) x1 x2 σ
theorem tl_X1_firstOpen_2 {ε : Et} {κ : Kt} {z : Rs} (C : Cx ε κ cX1_firstOpen 3 RX1 1) (K : Ret ε κ cX1_firstOpen (some .int) 0 0 (PI ε z)) : ∀ (n : Nat) (x1 : Int32) (x2 : Int32) (σ : St), l_X1_firstOpen_2 n x1 x2 σ = some z → G ε κ 0 0 2 [(0, .ref (ad ε 25)), (1, .int x1), (2, .int x2)] [] (WX ε σ) := by
  intro n
  induction n with
  | zero =>
    intro x1 x2 σ ok
    cases ok
  | succ n ih =>
    intro x1 x2 σ ok
    exact t_X1_firstOpen_2 C K (l_X1_firstOpen_2 n) ih x1 x2 σ ok
def f_X1_firstOpen (x1 : Int32) (σ : St) : Option Rs := l_X1_firstOpen_2 FU x1 (0 : Int32) σ
set_option maxRecDepth 10000 in
set_option maxHeartbeats 1000000 in
theorem tf_X1_firstOpen {ε : Et} {κ : Kt} {z : Rs} (C : Cx ε κ cX1_firstOpen 3 RX1 1) (K : Ret ε κ cX1_firstOpen (some .int) 0 0 (PI ε z)) (x1 : Int32) (σ : St) (ok : f_X1_firstOpen x1 σ = some z) : G ε κ 0 0 0 [(0, .ref (ad ε 25)), (1, .int x1)] [] (WX ε σ) := by
  unfold f_X1_firstOpen at ok
  refine g_iconst (v := 0) C dX1_firstOpen_0 (by decide) ?_
  refine g_istore_n C [(2, .int (0 : Int32)), (0, .ref (ad ε 25)), (1, .int x1)] dX1_firstOpen_1 rfl (by decide) rfl ?_
  refine g_pick (lv' := [(0, .ref (ad ε 25)), (1, .int x1), (2, .int (0 : Int32))]) ?_ [1, 2, 0] rfl
  exact tl_X1_firstOpen_2 C K FU _ _ _ ok
theorem c_X1_firstOpen {l : Launch} {ε : Et} {σ : St} {z : Rs} {x1 : Int32} (e : f_X1_firstOpen x1 σ = some z) : RM l ε yX1_firstOpen cX1_firstOpen 3 (some .int) 1 0 0 [.ref (ad ε 25), .int x1] (WX ε σ) (PI ε z) := RM.of (by decide) (Nat.le_of_ble_eq_true rfl) (fun κ C K => tf_X1_firstOpen C K x1 σ e)
def b_X1_draws_41 (t0 : Int32) (σ : St) : Option Rs := gz t0 (some (t0, σ))
set_option maxRecDepth 10000 in
set_option maxHeartbeats 1000000 in
theorem t_X1_draws_41 {ε : Et} {κ : Kt} {z : Rs} (C : Cx ε κ cX1_draws 3 RX1 1) (K : Ret ε κ cX1_draws (some .boolean) 0 0 (PI ε z)) (t0 : Int32) (σ : St) (ok : b_X1_draws_41 t0 σ = some z) : G ε κ 0 0 41 [] [.int t0] (WX ε σ) := by
  unfold b_X1_draws_41 at ok
  obtain ⟨z1, ok⟩ := gz_ok ok
  exact K.2 .boolean _ _ _ _ rfl dX1_draws_41 (nar_b z1) (pi_ok ok)
def b_X1_draws_40 (σ : St) : Option Rs := b_X1_draws_41 (0 : Int32) σ
set_option maxRecDepth 10000 in
set_option maxHeartbeats 1000000 in
theorem t_X1_draws_40 {ε : Et} {κ : Kt} {z : Rs} (C : Cx ε κ cX1_draws 3 RX1 1) (K : Ret ε κ cX1_draws (some .boolean) 0 0 (PI ε z)) (σ : St) (ok : b_X1_draws_40 σ = some z) : G ε κ 0 0 40 [] [] (WX ε σ) := by
  unfold b_X1_draws_40 at ok
  refine g_iconst (v := 0) C dX1_draws_40 (by decide) ?_
  exact t_X1_draws_41 C K _ _ ok
def b_X1_draws_36 (σ : St) : Option Rs := b_X1_draws_41 (1 : Int32) σ
set_option maxRecDepth 10000 in
set_option maxHeartbeats 1000000 in
theorem t_X1_draws_36 {ε : Et} {κ : Kt} {z : Rs} (C : Cx ε κ cX1_draws 3 RX1 1) (K : Ret ε κ cX1_draws (some .boolean) 0 0 (PI ε z)) (σ : St) (ok : b_X1_draws_36 σ = some z) : G ε κ 0 0 36 [] [] (WX ε σ) := by
  unfold b_X1_draws_36 at ok
  refine g_iconst (v := 1) C dX1_draws_36 (by decide) ?_
  refine g_goto (tgt := 41) C dX1_draws_37 (by decide) ?_
  exact t_X1_draws_41 C K _ _ ok
def f_X1_draws (x1 : Int32) (x2 : Int32) (σ : St) : Option Rs := bd (f_X1_distance x1 x2 σ) (fun r1 s2 => (if r1 = (1 : Int32) then (if (s2.1 25 8) = 0 then b_X1_draws_36 s2 else gd (inb x2 (ln 29)) (gd (inb x1 (ln 29)) ((if (s2.2.1 29 x1.toNatClampNeg) < (((2 : Int32) * (s2.2.1 29 x2.toNatClampNeg)) - (1 : Int32)) then b_X1_draws_40 s2 else b_X1_draws_36 s2)))) else b_X1_draws_40 s2))
set_option maxRecDepth 10000 in
set_option maxHeartbeats 1000000 in
theorem tf_X1_draws {ε : Et} {κ : Kt} {z : Rs} (C : Cx ε κ cX1_draws 3 RX1 1) (K : Ret ε κ cX1_draws (some .boolean) 0 0 (PI ε z)) (x1 : Int32) (x2 : Int32) (σ : St) (ok : f_X1_draws x1 x2 σ = some z) : G ε κ 0 0 0 [(0, .ref (ad ε 25)), (1, .int x1), (2, .int x2)] [] (WX ε σ) := by
  unfold f_X1_draws at ok
  refine g_aload_n C dX1_draws_0 rfl 0 rfl ?_
  refine g_iload_n C dX1_draws_1 rfl 1 rfl ?_
  refine g_iload_n C dX1_draws_2 rfl 2 rfl ?_
  obtain ⟨r1, s2, e3, ok⟩ := bd_ok ok
  refine q_cI C [.int x1, .int x2] (c_X1_distance e3) wv_X1_77 (by decide) (lt_N (by decide)) wx_X1 rfl rfl rfl (Nat.le_of_ble_eq_true rfl) dX1_draws_3 ?_
  refine g_iconst (v := 1) C dX1_draws_6 (by decide) ?_
  refine g_icmp_ne (tgt := 40) C dX1_draws_7 (by decide) (fun c4 => ?_) (fun c4 => ?_)
  · replace ok := ok_f c4 ok
    refine g_pick (lv' := []) ?_ [] rfl
    exact t_X1_draws_40 C K _ ok
  · replace ok := ok_t c4 ok
    refine g_aload_n C dX1_draws_10 rfl 0 rfl ?_
    refine q_X1_43 C dX1_draws_11 ?_
    refine g_if_eq (tgt := 36) C dX1_draws_14 (by decide) (fun c5 => ?_) (fun c5 => ?_)
    · replace ok := ok_t c5 ok
      refine g_pick (lv' := []) ?_ [] rfl
      exact t_X1_draws_36 C K _ ok
    · replace ok := ok_f c5 ok
      refine g_iconst (v := 2) C dX1_draws_17 (by decide) ?_
      refine g_aload_n C dX1_draws_18 rfl 0 rfl ?_
      refine q_X1_21 C dX1_draws_19 ?_
      refine g_iload_n C dX1_draws_22 rfl 2 rfl ?_
      obtain ⟨h6, ok⟩ := gd_ok ok
      refine q_ald C ai_29 h6 dX1_draws_23 ?_
      refine g_imul C dX1_draws_24 ?_
      refine g_iconst (v := 1) C dX1_draws_25 (by decide) ?_
      refine g_isub C dX1_draws_26 ?_
      refine g_aload_n C dX1_draws_27 rfl 0 rfl ?_
      refine q_X1_21 C dX1_draws_28 ?_
      refine g_iload_n C dX1_draws_31 rfl 1 rfl ?_
      obtain ⟨h7, ok⟩ := gd_ok ok
      refine q_ald C ai_29 h7 dX1_draws_32 ?_
      refine g_icmp_gt (tgt := 40) C dX1_draws_33 (by decide) (fun c8 => ?_) (fun c8 => ?_)
      · replace ok := ok_t c8 ok
        refine g_pick (lv' := []) ?_ [] rfl
        exact t_X1_draws_40 C K _ ok
      · replace ok := ok_f c8 ok
        refine g_pick (lv' := []) ?_ [] rfl
        exact t_X1_draws_36 C K _ ok
theorem c_X1_draws {l : Launch} {ε : Et} {σ : St} {z : Rs} {x1 : Int32} {x2 : Int32} (e : f_X1_draws x1 x2 σ = some z) : RM l ε yX1_draws cX1_draws 3 (some .boolean) 1 0 0 [.ref (ad ε 25), .int x1, .int x2] (WX ε σ) (PI ε z) := RM.of (by decide) (Nat.le_of_ble_eq_true rfl) (fun κ C K => tf_X1_draws C K x1 x2 σ e)
def b_X1_growGroup_109 (σ : St) : Option Rs := some ((0 : Int32), σ)
set_option maxRecDepth 10000 in
set_option maxHeartbeats 1000000 in
theorem t_X1_growGroup_109 {ε : Et} {κ : Kt} {z : Rs} (C : Cx ε κ cX1_growGroup 7 RX1 2) (K : Ret ε κ cX1_growGroup none 0 0 (PV ε z)) (σ : St) (ok : b_X1_growGroup_109 σ = some z) : G ε κ 0 0 109 [] [] (WX ε σ) := by
  unfold b_X1_growGroup_109 at ok
  exact K.1 rfl _ _ _ dX1_growGroup_109 (pv_ok ok)
def b_X1_growGroup_97 (k20 : Int32 → Int32 → Int32 → Int32 → St → Option Rs) (k37 : Int32 → Int32 → Int32 → Int32 → Int32 → St → Option Rs) (x1 : Int32) (x3 : Int32) (x4 : Int32) (x5 : Int32) (x6 : Int32) (σ : St) : Option Rs := nx (x6 + (1 : Int32)) (fun y1 => k37 x1 x3 x4 x5 y1 σ)
set_option maxRecDepth 10000 in
set_option maxHeartbeats 1000000 in
theorem t_X1_growGroup_97 {ε : Et} {κ : Kt} {z : Rs} (C : Cx ε κ cX1_growGroup 7 RX1 2) (K : Ret ε κ cX1_growGroup none 0 0 (PV ε z)) (k20 : Int32 → Int32 → Int32 → Int32 → St → Option Rs) (k37 : Int32 → Int32 → Int32 → Int32 → Int32 → St → Option Rs) (g20 : ∀ (x1 : Int32) (x3 : Int32) (x4 : Int32) (x5 : Int32) (σ : St), k20 x1 x3 x4 x5 σ = some z → G ε κ 0 0 20 [(0, .ref (ad ε 25)), (1, .int x1), (3, .int x3), (4, .int x4), (5, .int x5)] [] (WX ε σ)) (g37 : ∀ (x1 : Int32) (x3 : Int32) (x4 : Int32) (x5 : Int32) (x6 : Int32) (σ : St), k37 x1 x3 x4 x5 x6 σ = some z → G ε κ 0 0 37 [(0, .ref (ad ε 25)), (1, .int x1), (3, .int x3), (4, .int x4), (5, .int x5), (6, .int x6)] [] (WX ε σ)) (x1 : Int32) (x3 : Int32) (x4 : Int32) (x5 : Int32) (x6 : Int32) (σ : St) (ok : b_X1_growGroup_97 k20 k37 x1 x3 x4 x5 x6 σ = some z) : G ε κ 0 0 97 [(0, .ref (ad ε 25)), (1, .int x1), (3, .int x3), (4, .int x4), (5, .int x5), (6, .int x6)] [] (WX ε σ) := by
  unfold b_X1_growGroup_97 at ok
  obtain ⟨y1, e2⟩ : ∃ y : Int32, y = (x6 + (1 : Int32)) := ⟨_, rfl⟩
  replace ok := nx_ok ok y1 e2
  refine g_iinc (v := y1) C [(6, .int y1), (0, .ref (ad ε 25)), (1, .int x1), (3, .int x3), (4, .int x4), (5, .int x5)] dX1_growGroup_97 5 rfl (by rw [e2]; rfl) (by decide) rfl ?_
  refine g_goto (tgt := 37) C dX1_growGroup_100 (by decide) ?_
  refine g_pick (lv' := [(0, .ref (ad ε 25)), (1, .int x1), (3, .int x3), (4, .int x4), (5, .int x5), (6, .int y1)]) ?_ [1, 2, 3, 4, 5, 0] rfl
  exact g37 _ _ _ _ _ _ ok
def b_X1_growGroup_37 (k20 : Int32 → Int32 → Int32 → Int32 → St → Option Rs) (k37 : Int32 → Int32 → Int32 → Int32 → Int32 → St → Option Rs) (x1 : Int32) (x3 : Int32) (x4 : Int32) (x5 : Int32) (x6 : Int32) (σ : St) : Option Rs := (if (60 : Int32) ≤ x6 then nx (x5 + (1 : Int32)) (fun y2 => k20 x1 x3 x4 y2 σ) else bd (f_X1_isOpen x6 x1 σ) (fun r4 s5 => (if r4 = 0 then b_X1_growGroup_97 k20 k37 x1 x3 x4 x5 x6 s5 else gd (inb x5 (ln 31)) (bd (f_X1_draws (s5.2.1 31 x5.toNatClampNeg) x6 s5) (fun r9 s10 => (if r9 = 0 then b_X1_growGroup_97 k20 k37 x1 x3 x4 x5 x6 s10 else (if (60 : Int32) ≤ x4 then b_X1_growGroup_97 k20 k37 x1 x3 x4 x5 x6 s10 else gd (inb x6 (ln 30)) (nx (sA s10 30 x6 x3) (fun s15 => gd (inb x4 (ln 31)) (nx (sA s15 31 x4 x6) (fun s18 => nx (x4 + (1 : Int32)) (fun y20 => b_X1_growGroup_97 k20 k37 x1 x3 y20 x5 x6 s18))))))))))))
set_option maxRecDepth 10000 in
set_option maxHeartbeats 1000000 in
theorem t_X1_growGroup_37 {ε : Et} {κ : Kt} {z : Rs} (C : Cx ε κ cX1_growGroup 7 RX1 2) (K : Ret ε κ cX1_growGroup none 0 0 (PV ε z)) (k20 : Int32 → Int32 → Int32 → Int32 → St → Option Rs) (k37 : Int32 → Int32 → Int32 → Int32 → Int32 → St → Option Rs) (g20 : ∀ (x1 : Int32) (x3 : Int32) (x4 : Int32) (x5 : Int32) (σ : St), k20 x1 x3 x4 x5 σ = some z → G ε κ 0 0 20 [(0, .ref (ad ε 25)), (1, .int x1), (3, .int x3), (4, .int x4), (5, .int x5)] [] (WX ε σ)) (g37 : ∀ (x1 : Int32) (x3 : Int32) (x4 : Int32) (x5 : Int32) (x6 : Int32) (σ : St), k37 x1 x3 x4 x5 x6 σ = some z → G ε κ 0 0 37 [(0, .ref (ad ε 25)), (1, .int x1), (3, .int x3), (4, .int x4), (5, .int x5), (6, .int x6)] [] (WX ε σ)) (x1 : Int32) (x3 : Int32) (x4 : Int32) (x5 : Int32) (x6 : Int32) (σ : St) (ok : b_X1_growGroup_37 k20 k37 x1 x3 x4 x5 x6 σ = some z) : G ε κ 0 0 37 [(0, .ref (ad ε 25)), (1, .int x1), (3, .int x3), (4, .int x4), (5, .int x5), (6, .int x6)] [] (WX ε σ) := by
  unfold b_X1_growGroup_37 at ok
  refine g_iload C dX1_growGroup_37 5 rfl ?_
  refine g_bipush (v := 60) C dX1_growGroup_39 (by decide) ?_
  refine g_icmp_ge (tgt := 103) C dX1_growGroup_41 (by decide) (fun c1 => ?_) (fun c1 => ?_)
  · replace ok := ok_t c1 ok
    obtain ⟨y2, e3⟩ : ∃ y : Int32, y = (x5 + (1 : Int32)) := ⟨_, rfl⟩
    replace ok := nx_ok ok y2 e3
    refine g_iinc (v := y2) C [(5, .int y2), (0, .ref (ad ε 25)), (1, .int x1), (3, .int x3), (4, .int x4), (6, .int x6)] dX1_growGroup_103 4 rfl (by rw [e3]; rfl) (by decide) rfl ?_
    refine g_goto (tgt := 20) C dX1_growGroup_106 (by decide) ?_
    refine g_pick (lv' := [(0, .ref (ad ε 25)), (1, .int x1), (3, .int x3), (4, .int x4), (5, .int y2)]) ?_ [1, 2, 3, 4, 0] rfl
    exact g20 _ _ _ _ _ ok
  · replace ok := ok_f c1 ok
    refine g_aload_n C dX1_growGroup_44 rfl 0 rfl ?_
    refine g_iload C dX1_growGroup_45 5 rfl ?_
    refine g_iload_n C dX1_growGroup_47 rfl 1 rfl ?_
    obtain ⟨r4, s5, e6, ok⟩ := bd_ok ok
    refine q_cI C [.int x6, .int x1] (c_X1_isOpen e6) wv_X1_80 (by decide) (lt_N (by decide)) wx_X1 rfl rfl rfl (Nat.le_of_ble_eq_true rfl) dX1_growGroup_48 ?_
    refine g_if_eq (tgt := 97) C dX1_growGroup_51 (by decide) (fun c7 => ?_) (fun c7 => ?_)
    · replace ok := ok_t c7 ok
      exact t_X1_growGroup_97 C K k20 k37 g20 g37 _ _ _ _ _ _ ok
    · replace ok := ok_f c7 ok
      refine g_aload_n C dX1_growGroup_54 rfl 0 rfl ?_
      refine g_aload_n C dX1_growGroup_55 rfl 0 rfl ?_
      refine q_X1_27 C dX1_growGroup_56 ?_
      refine g_iload C dX1_growGroup_59 4 rfl ?_
      obtain ⟨h8, ok⟩ := gd_ok ok
      refine q_ald C ai_31 h8 dX1_growGroup_61 ?_
      refine g_iload C dX1_growGroup_62 5 rfl ?_
      obtain ⟨r9, s10, e11, ok⟩ := bd_ok ok
      refine q_cI C [.int (s5.2.1 31 x5.toNatClampNeg), .int x6] (c_X1_draws e11) wv_X1_87 (by decide) (lt_N (by decide)) wx_X1 rfl rfl rfl (Nat.le_of_ble_eq_true rfl) dX1_growGroup_64 ?_
      refine g_if_eq (tgt := 97) C dX1_growGroup_67 (by decide) (fun c12 => ?_) (fun c12 => ?_)
      · replace ok := ok_t c12 ok
        exact t_X1_growGroup_97 C K k20 k37 g20 g37 _ _ _ _ _ _ ok
      · replace ok := ok_f c12 ok
        refine g_iload C dX1_growGroup_70 3 rfl ?_
        refine g_bipush (v := 60) C dX1_growGroup_72 (by decide) ?_
        refine g_icmp_ge (tgt := 97) C dX1_growGroup_74 (by decide) (fun c13 => ?_) (fun c13 => ?_)
        · replace ok := ok_t c13 ok
          exact t_X1_growGroup_97 C K k20 k37 g20 g37 _ _ _ _ _ _ ok
        · replace ok := ok_f c13 ok
          refine g_aload_n C dX1_growGroup_77 rfl 0 rfl ?_
          refine q_X1_24 C dX1_growGroup_78 ?_
          refine g_iload C dX1_growGroup_81 5 rfl ?_
          refine g_iload_n C dX1_growGroup_83 rfl 2 rfl ?_
          obtain ⟨h14, ok⟩ := gd_ok ok
          refine q_ast C ai_30 h14 dX1_growGroup_84 (fun s15 e16 => ?_)
          replace ok := nx_ok ok s15 e16
          refine g_aload_n C dX1_growGroup_85 rfl 0 rfl ?_
          refine q_X1_27 C dX1_growGroup_86 ?_
          refine g_iload C dX1_growGroup_89 3 rfl ?_
          refine g_iload C dX1_growGroup_91 5 rfl ?_
          obtain ⟨h17, ok⟩ := gd_ok ok
          refine q_ast C ai_31 h17 dX1_growGroup_93 (fun s18 e19 => ?_)
          replace ok := nx_ok ok s18 e19
          obtain ⟨y20, e21⟩ : ∃ y : Int32, y = (x4 + (1 : Int32)) := ⟨_, rfl⟩
          replace ok := nx_ok ok y20 e21
          refine g_iinc (v := y20) C [(4, .int y20), (0, .ref (ad ε 25)), (1, .int x1), (3, .int x3), (5, .int x5), (6, .int x6)] dX1_growGroup_94 3 rfl (by rw [e21]; rfl) (by decide) rfl ?_
          refine g_pick (lv' := [(0, .ref (ad ε 25)), (1, .int x1), (3, .int x3), (4, .int y20), (5, .int x5), (6, .int x6)]) ?_ [1, 2, 3, 0, 4, 5] rfl
          exact t_X1_growGroup_97 C K k20 k37 g20 g37 _ _ _ _ _ _ ok
def l_X1_growGroup_37 (k20 : Int32 → Int32 → Int32 → Int32 → St → Option Rs) : Nat → Int32 → Int32 → Int32 → Int32 → Int32 → St → Option Rs
  | 0 => fun _ _ _ _ _ _ => none
  | n + 1 => fun x1 x3 x4 x5 x6 σ => b_X1_growGroup_37 k20 (l_X1_growGroup_37 k20 n) x1 x3 x4 x5 x6 σ
theorem tl_X1_growGroup_37 {ε : Et} {κ : Kt} {z : Rs} (C : Cx ε κ cX1_growGroup 7 RX1 2) (K : Ret ε κ cX1_growGroup none 0 0 (PV ε z)) (k20 : Int32 → Int32 → Int32 → Int32 → St → Option Rs) (g20 : ∀ (x1 : Int32) (x3 : Int32) (x4 : Int32) (x5 : Int32) (σ : St), k20 x1 x3 x4 x5 σ = some z → G ε κ 0 0 20 [(0, .ref (ad ε 25)), (1, .int x1), (3, .int x3), (4, .int x4), (5, .int x5)] [] (WX ε σ)) : ∀ (n : Nat) (x1 : Int32) (x3 : Int32) (x4 : Int32) (x5 : Int32) (x6 : Int32) (σ : St), l_X1_growGroup_37 k20 n x1 x3 x4 x5 x6 σ = some z → G ε κ 0 0 37 [(0, .ref (ad ε 25)), (1, .int x1), (3, .int x3), (4, .int x4), (5, .int x5), (6, .int x6)] [] (WX ε σ) := by
  intro n
  induction n with
  | zero =>
    intro x1 x3 x4 x5 x6 σ ok
    cases ok
  | succ n ih =>
    intro x1 x3 x4 x5 x6 σ ok
    exact t_X1_growGroup_37 C K k20 (l_X1_growGroup_37 k20 n) g20 ih x1 x3 x4 x5 x6 σ ok
def b_X1_growGroup_20 (k20 : Int32 → Int32 → Int32 → Int32 → St → Option Rs) (x1 : Int32) (x3 : Int32) (x4 : Int32) (x5 : Int32) (σ : St) : Option Rs := (if x4 ≤ x5 then b_X1_growGroup_109 σ else (if (60 : Int32) ≤ x5 then b_X1_growGroup_109 σ else l_X1_growGroup_37 k20 FU x1 x3 x4 x5 (0 : Int32) σ))
set_option maxRecDepth 10000 in
set_option maxHeartbeats 1000000 in
theorem t_X1_growGroup_20 {ε : Et} {κ : Kt} {z : Rs} (C : Cx ε κ cX1_growGroup 7 RX1 2) (K : Ret ε κ cX1_growGroup none 0 0 (PV ε z)) (k20 : Int32 → Int32 → Int32 → Int32 → St → Option Rs) (g20 : ∀ (x1 : Int32) (x3 : Int32) (x4 : Int32) (x5 : Int32) (σ : St), k20 x1 x3 x4 x5 σ = some z → G ε κ 0 0 20 [(0, .ref (ad ε 25)), (1, .int x1), (3, .int x3), (4, .int x4), (5, .int x5)] [] (WX ε σ)) (x1 : Int32) (x3 : Int32) (x4 : Int32) (x5 : Int32) (σ : St) (ok : b_X1_growGroup_20 k20 x1 x3 x4 x5 σ = some z) : G ε κ 0 0 20 [(0, .ref (ad ε 25)), (1, .int x1), (3, .int x3), (4, .int x4), (5, .int x5)] [] (WX ε σ) := by
  unfold b_X1_growGroup_20 at ok
  refine g_iload C dX1_growGroup_20 4 rfl ?_
  refine g_iload C dX1_growGroup_22 3 rfl ?_
  refine g_icmp_ge (tgt := 109) C dX1_growGroup_24 (by decide) (fun c1 => ?_) (fun c1 => ?_)
  · replace ok := ok_t c1 ok
    refine g_pick (lv' := []) ?_ [] rfl
    exact t_X1_growGroup_109 C K _ ok
  · replace ok := ok_f c1 ok
    refine g_iload C dX1_growGroup_27 4 rfl ?_
    refine g_bipush (v := 60) C dX1_growGroup_29 (by decide) ?_
    refine g_icmp_ge (tgt := 109) C dX1_growGroup_31 (by decide) (fun c2 => ?_) (fun c2 => ?_)
    · replace ok := ok_t c2 ok
      refine g_pick (lv' := []) ?_ [] rfl
      exact t_X1_growGroup_109 C K _ ok
    · replace ok := ok_f c2 ok
      refine g_iconst (v := 0) C dX1_growGroup_34 (by decide) ?_
      refine g_istore C [(6, .int (0 : Int32)), (0, .ref (ad ε 25)), (1, .int x1), (3, .int x3), (4, .int x4), (5, .int x5)] dX1_growGroup_35 (by decide) rfl ?_
      refine g_pick (lv' := [(0, .ref (ad ε 25)), (1, .int x1), (3, .int x3), (4, .int x4), (5, .int x5), (6, .int (0 : Int32))]) ?_ [1, 2, 3, 4, 5, 0] rfl
      exact tl_X1_growGroup_37 C K k20 g20 FU _ _ _ _ _ _ ok
def l_X1_growGroup_20 : Nat → Int32 → Int32 → Int32 → Int32 → St → Option Rs
  | 0 => fun _ _ _ _ _ => none
  | n + 1 => fun x1 x3 x4 x5 σ => b_X1_growGroup_20 (l_X1_growGroup_20 n) x1 x3 x4 x5 σ
theorem tl_X1_growGroup_20 {ε : Et} {κ : Kt} {z : Rs} (C : Cx ε κ cX1_growGroup 7 RX1 2) (K : Ret ε κ cX1_growGroup none 0 0 (PV ε z)) : ∀ (n : Nat) (x1 : Int32) (x3 : Int32) (x4 : Int32) (x5 : Int32) (σ : St), l_X1_growGroup_20 n x1 x3 x4 x5 σ = some z → G ε κ 0 0 20 [(0, .ref (ad ε 25)), (1, .int x1), (3, .int x3), (4, .int x4), (5, .int x5)] [] (WX ε σ) := by
  intro n
  induction n with
  | zero =>
    intro x1 x3 x4 x5 σ ok
    cases ok
  | succ n ih =>
    intro x1 x3 x4 x5 σ ok
    exact t_X1_growGroup_20 C K (l_X1_growGroup_20 n) ih x1 x3 x4 x5 σ ok
def f_X1_growGroup (x1 : Int32) (x2 : Int32) (x3 : Int32) (σ : St) : Option Rs := gd (inb x2 (ln 30)) (nx (sA σ 30 x2 x3) (fun s2 => gd (inb (0 : Int32) (ln 31)) (nx (sA s2 31 (0 : Int32) x2) (fun s5 => l_X1_growGroup_20 FU x1 x3 (1 : Int32) (0 : Int32) s5))))
set_option maxRecDepth 10000 in
set_option maxHeartbeats 1000000 in
theorem tf_X1_growGroup {ε : Et} {κ : Kt} {z : Rs} (C : Cx ε κ cX1_growGroup 7 RX1 2) (K : Ret ε κ cX1_growGroup none 0 0 (PV ε z)) (x1 : Int32) (x2 : Int32) (x3 : Int32) (σ : St) (ok : f_X1_growGroup x1 x2 x3 σ = some z) : G ε κ 0 0 0 [(0, .ref (ad ε 25)), (1, .int x1), (2, .int x2), (3, .int x3)] [] (WX ε σ) := by
  unfold f_X1_growGroup at ok
  refine g_aload_n C dX1_growGroup_0 rfl 0 rfl ?_
  refine q_X1_24 C dX1_growGroup_1 ?_
  refine g_iload_n C dX1_growGroup_4 rfl 2 rfl ?_
  refine g_iload_n C dX1_growGroup_5 rfl 3 rfl ?_
  obtain ⟨h1, ok⟩ := gd_ok ok
  refine q_ast C ai_30 h1 dX1_growGroup_6 (fun s2 e3 => ?_)
  replace ok := nx_ok ok s2 e3
  refine g_aload_n C dX1_growGroup_7 rfl 0 rfl ?_
  refine q_X1_27 C dX1_growGroup_8 ?_
  refine g_iconst (v := 0) C dX1_growGroup_11 (by decide) ?_
  refine g_iload_n C dX1_growGroup_12 rfl 2 rfl ?_
  obtain ⟨h4, ok⟩ := gd_ok ok
  refine q_ast C ai_31 h4 dX1_growGroup_13 (fun s5 e6 => ?_)
  replace ok := nx_ok ok s5 e6
  refine g_iconst (v := 1) C dX1_growGroup_14 (by decide) ?_
  refine g_istore C [(4, .int (1 : Int32)), (0, .ref (ad ε 25)), (1, .int x1), (2, .int x2), (3, .int x3)] dX1_growGroup_15 (by decide) rfl ?_
  refine g_iconst (v := 0) C dX1_growGroup_17 (by decide) ?_
  refine g_istore C [(5, .int (0 : Int32)), (4, .int (1 : Int32)), (0, .ref (ad ε 25)), (1, .int x1), (2, .int x2), (3, .int x3)] dX1_growGroup_18 (by decide) rfl ?_
  refine g_pick (lv' := [(0, .ref (ad ε 25)), (1, .int x1), (3, .int x3), (4, .int (1 : Int32)), (5, .int (0 : Int32))]) ?_ [2, 3, 5, 1, 0] rfl
  exact tl_X1_growGroup_20 C K FU _ _ _ _ _ ok
theorem c_X1_growGroup {l : Launch} {ε : Et} {σ : St} {z : Rs} {x1 : Int32} {x2 : Int32} {x3 : Int32} (e : f_X1_growGroup x1 x2 x3 σ = some z) : RM l ε yX1_growGroup cX1_growGroup 7 none 2 0 0 [.ref (ad ε 25), .int x1, .int x2, .int x3] (WX ε σ) (PV ε z) := RM.of (by decide) (Nat.le_of_ble_eq_true rfl) (fun κ C K => tf_X1_growGroup C K x1 x2 x3 σ e)
def b_X1_formGroups_120 (k75 : Int32 → Int32 → St → Option Rs) (x1 : Int32) (x2 : Int32) (σ : St) : Option Rs := nx (x2 + (1 : Int32)) (fun y1 => k75 x1 y1 σ)
set_option maxRecDepth 10000 in
set_option maxHeartbeats 1000000 in
theorem t_X1_formGroups_120 {ε : Et} {κ : Kt} {z : Rs} (C : Cx ε κ cX1_formGroups 4 RX1 3) (K : Ret ε κ cX1_formGroups none 0 0 (PV ε z)) (k75 : Int32 → Int32 → St → Option Rs) (g75 : ∀ (x1 : Int32) (x2 : Int32) (σ : St), k75 x1 x2 σ = some z → G ε κ 0 0 75 [(0, .ref (ad ε 25)), (1, .int x1), (2, .int x2)] [] (WX ε σ)) (x1 : Int32) (x2 : Int32) (σ : St) (ok : b_X1_formGroups_120 k75 x1 x2 σ = some z) : G ε κ 0 0 120 [(0, .ref (ad ε 25)), (1, .int x1), (2, .int x2)] [] (WX ε σ) := by
  unfold b_X1_formGroups_120 at ok
  obtain ⟨y1, e2⟩ : ∃ y : Int32, y = (x2 + (1 : Int32)) := ⟨_, rfl⟩
  replace ok := nx_ok ok y1 e2
  refine g_iinc (v := y1) C [(2, .int y1), (0, .ref (ad ε 25)), (1, .int x1)] dX1_formGroups_120 2 rfl (by rw [e2]; rfl) (by decide) rfl ?_
  refine g_goto (tgt := 75) C dX1_formGroups_123 (by decide) ?_
  refine g_pick (lv' := [(0, .ref (ad ε 25)), (1, .int x1), (2, .int y1)]) ?_ [1, 2, 0] rfl
  exact g75 _ _ _ ok
def b_X1_formGroups_75 (k75 : Int32 → Int32 → St → Option Rs) (x1 : Int32) (x2 : Int32) (σ : St) : Option Rs := (if (60 : Int32) ≤ x2 then some ((0 : Int32), σ) else gd (inb x2 (ln 27)) ((if (σ.2.1 27 x2.toNatClampNeg) = x1 then gd (inb x2 (ln 28)) (bd (f_X1_isRead (σ.2.1 28 x2.toNatClampNeg) σ) (fun r5 s6 => (if r5 = 0 then b_X1_formGroups_120 k75 x1 x2 s6 else gd (inb x2 (ln 28)) (gd (inb (s6.2.1 28 x2.toNatClampNeg) (ln 30)) (gd (inb x2 (ln 30)) (nx (sA s6 30 x2 (s6.2.1 30 (s6.2.1 28 x2.toNatClampNeg).toNatClampNeg)) (fun s12 => b_X1_formGroups_120 k75 x1 x2 s12))))))) else b_X1_formGroups_120 k75 x1 x2 σ)))
set_option maxRecDepth 10000 in
set_option maxHeartbeats 1000000 in
theorem t_X1_formGroups_75 {ε : Et} {κ : Kt} {z : Rs} (C : Cx ε κ cX1_formGroups 4 RX1 3) (K : Ret ε κ cX1_formGroups none 0 0 (PV ε z)) (k75 : Int32 → Int32 → St → Option Rs) (g75 : ∀ (x1 : Int32) (x2 : Int32) (σ : St), k75 x1 x2 σ = some z → G ε κ 0 0 75 [(0, .ref (ad ε 25)), (1, .int x1), (2, .int x2)] [] (WX ε σ)) (x1 : Int32) (x2 : Int32) (σ : St) (ok : b_X1_formGroups_75 k75 x1 x2 σ = some z) : G ε κ 0 0 75 [(0, .ref (ad ε 25)), (1, .int x1), (2, .int x2)] [] (WX ε σ) := by
  unfold b_X1_formGroups_75 at ok
  refine g_iload_n C dX1_formGroups_75 rfl 2 rfl ?_
  refine g_bipush (v := 60) C dX1_formGroups_76 (by decide) ?_
  refine g_icmp_ge (tgt := 126) C dX1_formGroups_78 (by decide) (fun c1 => ?_) (fun c1 => ?_)
  · replace ok := ok_t c1 ok
    exact K.1 rfl _ _ _ dX1_formGroups_126 (pv_ok ok)
  · replace ok := ok_f c1 ok
    refine g_aload_n C dX1_formGroups_81 rfl 0 rfl ?_
    refine q_X1_15 C dX1_formGroups_82 ?_
    refine g_iload_n C dX1_formGroups_85 rfl 2 rfl ?_
    obtain ⟨h2, ok⟩ := gd_ok ok
    refine q_ald C ai_27 h2 dX1_formGroups_86 ?_
    refine g_iload_n C dX1_formGroups_87 rfl 1 rfl ?_
    refine g_icmp_ne (tgt := 120) C dX1_formGroups_88 (by decide) (fun c3 => ?_) (fun c3 => ?_)
    · replace ok := ok_f c3 ok
      exact t_X1_formGroups_120 C K k75 g75 _ _ _ ok
    · replace ok := ok_t c3 ok
      refine g_aload_n C dX1_formGroups_91 rfl 0 rfl ?_
      refine q_X1_18 C dX1_formGroups_92 ?_
      refine g_iload_n C dX1_formGroups_95 rfl 2 rfl ?_
      obtain ⟨h4, ok⟩ := gd_ok ok
      refine q_ald C ai_28 h4 dX1_formGroups_96 ?_
      obtain ⟨r5, s6, e7, ok⟩ := bd_ok ok
      refine q_sI C [.int (σ.2.1 28 x2.toNatClampNeg)] (c_X1_isRead e7) wv_X1_47 (by decide) rfl rfl (Nat.le_of_ble_eq_true rfl) dX1_formGroups_97 ?_
      refine g_if_eq (tgt := 120) C dX1_formGroups_100 (by decide) (fun c8 => ?_) (fun c8 => ?_)
      · replace ok := ok_t c8 ok
        exact t_X1_formGroups_120 C K k75 g75 _ _ _ ok
      · replace ok := ok_f c8 ok
        refine g_aload_n C dX1_formGroups_103 rfl 0 rfl ?_
        refine q_X1_24 C dX1_formGroups_104 ?_
        refine g_iload_n C dX1_formGroups_107 rfl 2 rfl ?_
        refine g_aload_n C dX1_formGroups_108 rfl 0 rfl ?_
        refine q_X1_24 C dX1_formGroups_109 ?_
        refine g_aload_n C dX1_formGroups_112 rfl 0 rfl ?_
        refine q_X1_18 C dX1_formGroups_113 ?_
        refine g_iload_n C dX1_formGroups_116 rfl 2 rfl ?_
        obtain ⟨h9, ok⟩ := gd_ok ok
        refine q_ald C ai_28 h9 dX1_formGroups_117 ?_
        obtain ⟨h10, ok⟩ := gd_ok ok
        refine q_ald C ai_30 h10 dX1_formGroups_118 ?_
        obtain ⟨h11, ok⟩ := gd_ok ok
        refine q_ast C ai_30 h11 dX1_formGroups_119 (fun s12 e13 => ?_)
        replace ok := nx_ok ok s12 e13
        exact t_X1_formGroups_120 C K k75 g75 _ _ _ ok
def l_X1_formGroups_75 : Nat → Int32 → Int32 → St → Option Rs
  | 0 => fun _ _ _ => none
  | n + 1 => fun x1 x2 σ => b_X1_formGroups_75 (l_X1_formGroups_75 n) x1 x2 σ
theorem tl_X1_formGroups_75 {ε : Et} {κ : Kt} {z : Rs} (C : Cx ε κ cX1_formGroups 4 RX1 3) (K : Ret ε κ cX1_formGroups none 0 0 (PV ε z)) : ∀ (n : Nat) (x1 : Int32) (x2 : Int32) (σ : St), l_X1_formGroups_75 n x1 x2 σ = some z → G ε κ 0 0 75 [(0, .ref (ad ε 25)), (1, .int x1), (2, .int x2)] [] (WX ε σ) := by
  intro n
  induction n with
  | zero =>
    intro x1 x2 σ ok
    cases ok
  | succ n ih =>
    intro x1 x2 σ ok
    exact t_X1_formGroups_75 C K (l_X1_formGroups_75 n) ih x1 x2 σ ok
def b_X1_formGroups_73 (x1 : Int32) (σ : St) : Option Rs := l_X1_formGroups_75 FU x1 (0 : Int32) σ
set_option maxRecDepth 10000 in
set_option maxHeartbeats 1000000 in
theorem t_X1_formGroups_73 {ε : Et} {κ : Kt} {z : Rs} (C : Cx ε κ cX1_formGroups 4 RX1 3) (K : Ret ε κ cX1_formGroups none 0 0 (PV ε z)) (x1 : Int32) (σ : St) (ok : b_X1_formGroups_73 x1 σ = some z) : G ε κ 0 0 73 [(0, .ref (ad ε 25)), (1, .int x1)] [] (WX ε σ) := by
  unfold b_X1_formGroups_73 at ok
  refine g_iconst (v := 0) C dX1_formGroups_73 (by decide) ?_
  refine g_istore_n C [(2, .int (0 : Int32)), (0, .ref (ad ε 25)), (1, .int x1)] dX1_formGroups_74 rfl (by decide) rfl ?_
  refine g_pick (lv' := [(0, .ref (ad ε 25)), (1, .int x1), (2, .int (0 : Int32))]) ?_ [1, 2, 0] rfl
  exact tl_X1_formGroups_75 C K FU _ _ _ ok
def b_X1_formGroups_36 (k10 : Int32 → Int32 → St → Option Rs) (x1 : Int32) (x2 : Int32) (t0 : Int32) (σ : St) : Option Rs := (if t0 = (-1 : Int32) then b_X1_formGroups_73 x1 σ else gd (inb x1 (ln 32)) (bd (f_X1_growGroup x1 t0 (σ.2.1 32 x1.toNatClampNeg) σ) (fun r3 s4 => gd (inb x1 (ln 32)) (gd (inb x1 (ln 32)) (nx (sA s4 32 x1 ((s4.2.1 32 x1.toNatClampNeg) + (1 : Int32))) (fun s8 => nx (x2 + (1 : Int32)) (fun y10 => k10 x1 y10 s8)))))))
set_option maxRecDepth 10000 in
set_option maxHeartbeats 1000000 in
theorem t_X1_formGroups_36 {ε : Et} {κ : Kt} {z : Rs} (C : Cx ε κ cX1_formGroups 4 RX1 3) (K : Ret ε κ cX1_formGroups none 0 0 (PV ε z)) (k10 : Int32 → Int32 → St → Option Rs) (g10 : ∀ (x1 : Int32) (x2 : Int32) (σ : St), k10 x1 x2 σ = some z → G ε κ 0 0 10 [(0, .ref (ad ε 25)), (1, .int x1), (2, .int x2)] [] (WX ε σ)) (x1 : Int32) (x2 : Int32) (t0 : Int32) (σ : St) (ok : b_X1_formGroups_36 k10 x1 x2 t0 σ = some z) : G ε κ 0 0 36 [(0, .ref (ad ε 25)), (1, .int x1), (2, .int x2)] [.int t0] (WX ε σ) := by
  unfold b_X1_formGroups_36 at ok
  refine g_istore_n C [(3, .int t0), (0, .ref (ad ε 25)), (1, .int x1), (2, .int x2)] dX1_formGroups_36 rfl (by decide) rfl ?_
  refine g_iload_n C dX1_formGroups_37 rfl 0 rfl ?_
  refine g_iconst (v := -1) C dX1_formGroups_38 (by decide) ?_
  refine g_icmp_ne (tgt := 45) C dX1_formGroups_39 (by decide) (fun c1 => ?_) (fun c1 => ?_)
  · replace ok := ok_f c1 ok
    refine g_aload_n C dX1_formGroups_45 rfl 1 rfl ?_
    refine g_iload_n C dX1_formGroups_46 rfl 2 rfl ?_
    refine g_iload_n C dX1_formGroups_47 rfl 0 rfl ?_
    refine g_aload_n C dX1_formGroups_48 rfl 1 rfl ?_
    refine q_X1_30 C dX1_formGroups_49 ?_
    refine g_iload_n C dX1_formGroups_52 rfl 2 rfl ?_
    obtain ⟨h2, ok⟩ := gd_ok ok
    refine q_ald C ai_32 h2 dX1_formGroups_53 ?_
    obtain ⟨r3, s4, e5, ok⟩ := bd_ok ok
    refine q_cV C [.int x1, .int t0, .int (σ.2.1 32 x1.toNatClampNeg)] (c_X1_growGroup e5) wv_X1_69 (by decide) (lt_N (by decide)) wx_X1 rfl rfl rfl (Nat.le_of_ble_eq_true rfl) dX1_formGroups_54 ?_
    refine g_aload_n C dX1_formGroups_57 rfl 1 rfl ?_
    refine q_X1_30 C dX1_formGroups_58 ?_
    refine g_iload_n C dX1_formGroups_61 rfl 2 rfl ?_
    refine g_dup2 C dX1_formGroups_62 rfl rfl ?_
    obtain ⟨h6, ok⟩ := gd_ok ok
    refine q_ald C ai_32 h6 dX1_formGroups_63 ?_
    refine g_iconst (v := 1) C dX1_formGroups_64 (by decide) ?_
    refine g_iadd C dX1_formGroups_65 ?_
    obtain ⟨h7, ok⟩ := gd_ok ok
    refine q_ast C ai_32 h7 dX1_formGroups_66 (fun s8 e9 => ?_)
    replace ok := nx_ok ok s8 e9
    obtain ⟨y10, e11⟩ : ∃ y : Int32, y = (x2 + (1 : Int32)) := ⟨_, rfl⟩
    replace ok := nx_ok ok y10 e11
    refine g_iinc (v := y10) C [(2, .int y10), (3, .int t0), (0, .ref (ad ε 25)), (1, .int x1)] dX1_formGroups_67 3 rfl (by rw [e11]; rfl) (by decide) rfl ?_
    refine g_goto (tgt := 10) C dX1_formGroups_70 (by decide) ?_
    refine g_pick (lv' := [(0, .ref (ad ε 25)), (1, .int x1), (2, .int y10)]) ?_ [2, 3, 0] rfl
    exact g10 _ _ _ ok
  · replace ok := ok_t c1 ok
    refine g_goto (tgt := 73) C dX1_formGroups_42 (by decide) ?_
    refine g_pick (lv' := [(0, .ref (ad ε 25)), (1, .int x1)]) ?_ [1, 2] rfl
    exact t_X1_formGroups_73 C K _ _ ok
def b_X1_formGroups_10 (k10 : Int32 → Int32 → St → Option Rs) (x1 : Int32) (x2 : Int32) (σ : St) : Option Rs := (if (60 : Int32) ≤ x2 then b_X1_formGroups_73 x1 σ else (if (σ.1 25 8) = 0 then bd (f_X1_firstOpen x1 σ) (fun r3 s4 => b_X1_formGroups_36 k10 x1 x2 r3 s4) else bd (f_X1_greatestOpen x1 σ) (fun r6 s7 => b_X1_formGroups_36 k10 x1 x2 r6 s7)))
set_option maxRecDepth 10000 in
set_option maxHeartbeats 1000000 in
theorem t_X1_formGroups_10 {ε : Et} {κ : Kt} {z : Rs} (C : Cx ε κ cX1_formGroups 4 RX1 3) (K : Ret ε κ cX1_formGroups none 0 0 (PV ε z)) (k10 : Int32 → Int32 → St → Option Rs) (g10 : ∀ (x1 : Int32) (x2 : Int32) (σ : St), k10 x1 x2 σ = some z → G ε κ 0 0 10 [(0, .ref (ad ε 25)), (1, .int x1), (2, .int x2)] [] (WX ε σ)) (x1 : Int32) (x2 : Int32) (σ : St) (ok : b_X1_formGroups_10 k10 x1 x2 σ = some z) : G ε κ 0 0 10 [(0, .ref (ad ε 25)), (1, .int x1), (2, .int x2)] [] (WX ε σ) := by
  unfold b_X1_formGroups_10 at ok
  refine g_iload_n C dX1_formGroups_10 rfl 2 rfl ?_
  refine g_bipush (v := 60) C dX1_formGroups_11 (by decide) ?_
  refine g_icmp_ge (tgt := 73) C dX1_formGroups_13 (by decide) (fun c1 => ?_) (fun c1 => ?_)
  · replace ok := ok_t c1 ok
    refine g_pick (lv' := [(0, .ref (ad ε 25)), (1, .int x1)]) ?_ [0, 1] rfl
    exact t_X1_formGroups_73 C K _ _ ok
  · replace ok := ok_f c1 ok
    refine g_aload_n C dX1_formGroups_16 rfl 0 rfl ?_
    refine q_X1_43 C dX1_formGroups_17 ?_
    refine g_if_eq (tgt := 31) C dX1_formGroups_20 (by decide) (fun c2 => ?_) (fun c2 => ?_)
    · replace ok := ok_t c2 ok
      refine g_aload_n C dX1_formGroups_31 rfl 0 rfl ?_
      refine g_iload_n C dX1_formGroups_32 rfl 1 rfl ?_
      obtain ⟨r3, s4, e5, ok⟩ := bd_ok ok
      refine q_cI C [.int x1] (c_X1_firstOpen e5) wv_X1_66 (by decide) (lt_N (by decide)) wx_X1 rfl rfl rfl (Nat.le_of_ble_eq_true rfl) dX1_formGroups_33 ?_
      exact t_X1_formGroups_36 C K k10 g10 _ _ _ _ ok
    · replace ok := ok_f c2 ok
      refine g_aload_n C dX1_formGroups_23 rfl 0 rfl ?_
      refine g_iload_n C dX1_formGroups_24 rfl 1 rfl ?_
      obtain ⟨r6, s7, e8, ok⟩ := bd_ok ok
      refine q_cI C [.int x1] (c_X1_greatestOpen e8) wv_X1_63 (by decide) (lt_N (by decide)) wx_X1 rfl rfl rfl (Nat.le_of_ble_eq_true rfl) dX1_formGroups_25 ?_
      refine g_goto (tgt := 36) C dX1_formGroups_28 (by decide) ?_
      exact t_X1_formGroups_36 C K k10 g10 _ _ _ _ ok
def l_X1_formGroups_10 : Nat → Int32 → Int32 → St → Option Rs
  | 0 => fun _ _ _ => none
  | n + 1 => fun x1 x2 σ => b_X1_formGroups_10 (l_X1_formGroups_10 n) x1 x2 σ
theorem tl_X1_formGroups_10 {ε : Et} {κ : Kt} {z : Rs} (C : Cx ε κ cX1_formGroups 4 RX1 3) (K : Ret ε κ cX1_formGroups none 0 0 (PV ε z)) : ∀ (n : Nat) (x1 : Int32) (x2 : Int32) (σ : St), l_X1_formGroups_10 n x1 x2 σ = some z → G ε κ 0 0 10 [(0, .ref (ad ε 25)), (1, .int x1), (2, .int x2)] [] (WX ε σ) := by
  intro n
  induction n with
  | zero =>
    intro x1 x2 σ ok
    cases ok
  | succ n ih =>
    intro x1 x2 σ ok
    exact t_X1_formGroups_10 C K (l_X1_formGroups_10 n) ih x1 x2 σ ok
def f_X1_formGroups (x1 : Int32) (σ : St) : Option Rs := bd (f_X1_isBin x1 σ) (fun r1 s2 => (if r1 = 0 then some ((0 : Int32), s2) else l_X1_formGroups_10 FU x1 (0 : Int32) s2))
set_option maxRecDepth 10000 in
set_option maxHeartbeats 1000000 in
theorem tf_X1_formGroups {ε : Et} {κ : Kt} {z : Rs} (C : Cx ε κ cX1_formGroups 4 RX1 3) (K : Ret ε κ cX1_formGroups none 0 0 (PV ε z)) (x1 : Int32) (σ : St) (ok : f_X1_formGroups x1 σ = some z) : G ε κ 0 0 0 [(0, .ref (ad ε 25)), (1, .int x1)] [] (WX ε σ) := by
  unfold f_X1_formGroups at ok
  refine g_iload_n C dX1_formGroups_0 rfl 1 rfl ?_
  obtain ⟨r1, s2, e3, ok⟩ := bd_ok ok
  refine q_sI C [.int x1] (c_X1_isBin e3) wv_X1_60 (by decide) rfl rfl (Nat.le_of_ble_eq_true rfl) dX1_formGroups_1 ?_
  refine g_if_ne (tgt := 8) C dX1_formGroups_4 (by decide) (fun c4 => ?_) (fun c4 => ?_)
  · replace ok := ok_f c4 ok
    refine g_iconst (v := 0) C dX1_formGroups_8 (by decide) ?_
    refine g_istore_n C [(2, .int (0 : Int32)), (0, .ref (ad ε 25)), (1, .int x1)] dX1_formGroups_9 rfl (by decide) rfl ?_
    refine g_pick (lv' := [(0, .ref (ad ε 25)), (1, .int x1), (2, .int (0 : Int32))]) ?_ [1, 2, 0] rfl
    exact tl_X1_formGroups_10 C K FU _ _ _ ok
  · replace ok := ok_t c4 ok
    exact K.1 rfl _ _ _ dX1_formGroups_7 (pv_ok ok)
theorem c_X1_formGroups {l : Launch} {ε : Et} {σ : St} {z : Rs} {x1 : Int32} (e : f_X1_formGroups x1 σ = some z) : RM l ε yX1_formGroups cX1_formGroups 4 none 3 0 0 [.ref (ad ε 25), .int x1] (WX ε σ) (PV ε z) := RM.of (by decide) (Nat.le_of_ble_eq_true rfl) (fun κ C K => tf_X1_formGroups C K x1 σ e)
def b_X1_groupOf_17 (t0 : Int32) (σ : St) : Option Rs := some (t0, σ)
set_option maxRecDepth 10000 in
set_option maxHeartbeats 1000000 in
theorem t_X1_groupOf_17 {ε : Et} {κ : Kt} {z : Rs} (C : Cx ε κ cX1_groupOf 2 RX1 1) (K : Ret ε κ cX1_groupOf (some .int) 0 0 (PI ε z)) (t0 : Int32) (σ : St) (ok : b_X1_groupOf_17 t0 σ = some z) : G ε κ 0 0 17 [] [.int t0] (WX ε σ) := by
  unfold b_X1_groupOf_17 at ok
  exact K.2 .int _ _ _ _ rfl dX1_groupOf_17 rfl (pi_ok ok)
def f_X1_groupOf (x1 : Int32) (σ : St) : Option Rs := bd (f_X1_isRead x1 σ) (fun r1 s2 => (if r1 = 0 then b_X1_groupOf_17 (-1 : Int32) s2 else gd (inb x1 (ln 30)) (b_X1_groupOf_17 (s2.2.1 30 x1.toNatClampNeg) s2)))
set_option maxRecDepth 10000 in
set_option maxHeartbeats 1000000 in
theorem tf_X1_groupOf {ε : Et} {κ : Kt} {z : Rs} (C : Cx ε κ cX1_groupOf 2 RX1 1) (K : Ret ε κ cX1_groupOf (some .int) 0 0 (PI ε z)) (x1 : Int32) (σ : St) (ok : f_X1_groupOf x1 σ = some z) : G ε κ 0 0 0 [(0, .ref (ad ε 25)), (1, .int x1)] [] (WX ε σ) := by
  unfold f_X1_groupOf at ok
  refine g_iload_n C dX1_groupOf_0 rfl 1 rfl ?_
  obtain ⟨r1, s2, e3, ok⟩ := bd_ok ok
  refine q_sI C [.int x1] (c_X1_isRead e3) wv_X1_47 (by decide) rfl rfl (Nat.le_of_ble_eq_true rfl) dX1_groupOf_1 ?_
  refine g_if_eq (tgt := 16) C dX1_groupOf_4 (by decide) (fun c4 => ?_) (fun c4 => ?_)
  · replace ok := ok_t c4 ok
    refine g_iconst (v := -1) C dX1_groupOf_16 (by decide) ?_
    refine g_pick (lv' := []) ?_ [] rfl
    exact t_X1_groupOf_17 C K _ _ ok
  · replace ok := ok_f c4 ok
    refine g_aload_n C dX1_groupOf_7 rfl 0 rfl ?_
    refine q_X1_24 C dX1_groupOf_8 ?_
    refine g_iload_n C dX1_groupOf_11 rfl 1 rfl ?_
    obtain ⟨h5, ok⟩ := gd_ok ok
    refine q_ald C ai_30 h5 dX1_groupOf_12 ?_
    refine g_goto (tgt := 17) C dX1_groupOf_13 (by decide) ?_
    refine g_pick (lv' := []) ?_ [] rfl
    exact t_X1_groupOf_17 C K _ _ ok
theorem c_X1_groupOf {l : Launch} {ε : Et} {σ : St} {z : Rs} {x1 : Int32} (e : f_X1_groupOf x1 σ = some z) : RM l ε yX1_groupOf cX1_groupOf 2 (some .int) 1 0 0 [.ref (ad ε 25), .int x1] (WX ε σ) (PI ε z) := RM.of (by decide) (Nat.le_of_ble_eq_true rfl) (fun κ C K => tf_X1_groupOf C K x1 σ e)
def b_X1_groupsIn_17 (t0 : Int32) (σ : St) : Option Rs := some (t0, σ)
set_option maxRecDepth 10000 in
set_option maxHeartbeats 1000000 in
theorem t_X1_groupsIn_17 {ε : Et} {κ : Kt} {z : Rs} (C : Cx ε κ cX1_groupsIn 2 RX1 1) (K : Ret ε κ cX1_groupsIn (some .int) 0 0 (PI ε z)) (t0 : Int32) (σ : St) (ok : b_X1_groupsIn_17 t0 σ = some z) : G ε κ 0 0 17 [] [.int t0] (WX ε σ) := by
  unfold b_X1_groupsIn_17 at ok
  exact K.2 .int _ _ _ _ rfl dX1_groupsIn_17 rfl (pi_ok ok)
def f_X1_groupsIn (x1 : Int32) (σ : St) : Option Rs := bd (f_X1_isBin x1 σ) (fun r1 s2 => (if r1 = 0 then b_X1_groupsIn_17 (0 : Int32) s2 else gd (inb x1 (ln 32)) (b_X1_groupsIn_17 (s2.2.1 32 x1.toNatClampNeg) s2)))
set_option maxRecDepth 10000 in
set_option maxHeartbeats 1000000 in
theorem tf_X1_groupsIn {ε : Et} {κ : Kt} {z : Rs} (C : Cx ε κ cX1_groupsIn 2 RX1 1) (K : Ret ε κ cX1_groupsIn (some .int) 0 0 (PI ε z)) (x1 : Int32) (σ : St) (ok : f_X1_groupsIn x1 σ = some z) : G ε κ 0 0 0 [(0, .ref (ad ε 25)), (1, .int x1)] [] (WX ε σ) := by
  unfold f_X1_groupsIn at ok
  refine g_iload_n C dX1_groupsIn_0 rfl 1 rfl ?_
  obtain ⟨r1, s2, e3, ok⟩ := bd_ok ok
  refine q_sI C [.int x1] (c_X1_isBin e3) wv_X1_60 (by decide) rfl rfl (Nat.le_of_ble_eq_true rfl) dX1_groupsIn_1 ?_
  refine g_if_eq (tgt := 16) C dX1_groupsIn_4 (by decide) (fun c4 => ?_) (fun c4 => ?_)
  · replace ok := ok_t c4 ok
    refine g_iconst (v := 0) C dX1_groupsIn_16 (by decide) ?_
    refine g_pick (lv' := []) ?_ [] rfl
    exact t_X1_groupsIn_17 C K _ _ ok
  · replace ok := ok_f c4 ok
    refine g_aload_n C dX1_groupsIn_7 rfl 0 rfl ?_
    refine q_X1_30 C dX1_groupsIn_8 ?_
    refine g_iload_n C dX1_groupsIn_11 rfl 1 rfl ?_
    obtain ⟨h5, ok⟩ := gd_ok ok
    refine q_ald C ai_32 h5 dX1_groupsIn_12 ?_
    refine g_goto (tgt := 17) C dX1_groupsIn_13 (by decide) ?_
    refine g_pick (lv' := []) ?_ [] rfl
    exact t_X1_groupsIn_17 C K _ _ ok
theorem c_X1_groupsIn {l : Launch} {ε : Et} {σ : St} {z : Rs} {x1 : Int32} (e : f_X1_groupsIn x1 σ = some z) : RM l ε yX1_groupsIn cX1_groupsIn 2 (some .int) 1 0 0 [.ref (ad ε 25), .int x1] (WX ε σ) (PI ε z) := RM.of (by decide) (Nat.le_of_ble_eq_true rfl) (fun κ C K => tf_X1_groupsIn C K x1 σ e)
def b_X1_isMember_32 (t0 : Int32) (σ : St) : Option Rs := gz t0 (some (t0, σ))
set_option maxRecDepth 10000 in
set_option maxHeartbeats 1000000 in
theorem t_X1_isMember_32 {ε : Et} {κ : Kt} {z : Rs} (C : Cx ε κ cX1_isMember 4 RX1 1) (K : Ret ε κ cX1_isMember (some .boolean) 0 0 (PI ε z)) (t0 : Int32) (σ : St) (ok : b_X1_isMember_32 t0 σ = some z) : G ε κ 0 0 32 [] [.int t0] (WX ε σ) := by
  unfold b_X1_isMember_32 at ok
  obtain ⟨z1, ok⟩ := gz_ok ok
  exact K.2 .boolean _ _ _ _ rfl dX1_isMember_32 (nar_b z1) (pi_ok ok)
def b_X1_isMember_31 (σ : St) : Option Rs := b_X1_isMember_32 (0 : Int32) σ
set_option maxRecDepth 10000 in
set_option maxHeartbeats 1000000 in
theorem t_X1_isMember_31 {ε : Et} {κ : Kt} {z : Rs} (C : Cx ε κ cX1_isMember 4 RX1 1) (K : Ret ε κ cX1_isMember (some .boolean) 0 0 (PI ε z)) (σ : St) (ok : b_X1_isMember_31 σ = some z) : G ε κ 0 0 31 [] [] (WX ε σ) := by
  unfold b_X1_isMember_31 at ok
  refine g_iconst (v := 0) C dX1_isMember_31 (by decide) ?_
  exact t_X1_isMember_32 C K _ _ ok
def f_X1_isMember (x1 : Int32) (x2 : Int32) (x3 : Int32) (σ : St) : Option Rs := bd (f_X1_isRead x1 σ) (fun r1 s2 => (if r1 = 0 then b_X1_isMember_31 s2 else gd (inb x1 (ln 27)) ((if (s2.2.1 27 x1.toNatClampNeg) = x2 then gd (inb x1 (ln 30)) ((if (s2.2.1 30 x1.toNatClampNeg) = x3 then b_X1_isMember_32 (1 : Int32) s2 else b_X1_isMember_31 s2)) else b_X1_isMember_31 s2))))
set_option maxRecDepth 10000 in
set_option maxHeartbeats 1000000 in
theorem tf_X1_isMember {ε : Et} {κ : Kt} {z : Rs} (C : Cx ε κ cX1_isMember 4 RX1 1) (K : Ret ε κ cX1_isMember (some .boolean) 0 0 (PI ε z)) (x1 : Int32) (x2 : Int32) (x3 : Int32) (σ : St) (ok : f_X1_isMember x1 x2 x3 σ = some z) : G ε κ 0 0 0 [(0, .ref (ad ε 25)), (1, .int x1), (2, .int x2), (3, .int x3)] [] (WX ε σ) := by
  unfold f_X1_isMember at ok
  refine g_iload_n C dX1_isMember_0 rfl 1 rfl ?_
  obtain ⟨r1, s2, e3, ok⟩ := bd_ok ok
  refine q_sI C [.int x1] (c_X1_isRead e3) wv_X1_47 (by decide) rfl rfl (Nat.le_of_ble_eq_true rfl) dX1_isMember_1 ?_
  refine g_if_eq (tgt := 31) C dX1_isMember_4 (by decide) (fun c4 => ?_) (fun c4 => ?_)
  · replace ok := ok_t c4 ok
    refine g_pick (lv' := []) ?_ [] rfl
    exact t_X1_isMember_31 C K _ ok
  · replace ok := ok_f c4 ok
    refine g_aload_n C dX1_isMember_7 rfl 0 rfl ?_
    refine q_X1_15 C dX1_isMember_8 ?_
    refine g_iload_n C dX1_isMember_11 rfl 1 rfl ?_
    obtain ⟨h5, ok⟩ := gd_ok ok
    refine q_ald C ai_27 h5 dX1_isMember_12 ?_
    refine g_iload_n C dX1_isMember_13 rfl 2 rfl ?_
    refine g_icmp_ne (tgt := 31) C dX1_isMember_14 (by decide) (fun c6 => ?_) (fun c6 => ?_)
    · replace ok := ok_f c6 ok
      refine g_pick (lv' := []) ?_ [] rfl
      exact t_X1_isMember_31 C K _ ok
    · replace ok := ok_t c6 ok
      refine g_aload_n C dX1_isMember_17 rfl 0 rfl ?_
      refine q_X1_24 C dX1_isMember_18 ?_
      refine g_iload_n C dX1_isMember_21 rfl 1 rfl ?_
      obtain ⟨h7, ok⟩ := gd_ok ok
      refine q_ald C ai_30 h7 dX1_isMember_22 ?_
      refine g_iload_n C dX1_isMember_23 rfl 3 rfl ?_
      refine g_icmp_ne (tgt := 31) C dX1_isMember_24 (by decide) (fun c8 => ?_) (fun c8 => ?_)
      · replace ok := ok_f c8 ok
        refine g_pick (lv' := []) ?_ [] rfl
        exact t_X1_isMember_31 C K _ ok
      · replace ok := ok_t c8 ok
        refine g_iconst (v := 1) C dX1_isMember_27 (by decide) ?_
        refine g_goto (tgt := 32) C dX1_isMember_28 (by decide) ?_
        refine g_pick (lv' := []) ?_ [] rfl
        exact t_X1_isMember_32 C K _ _ ok
theorem c_X1_isMember {l : Launch} {ε : Et} {σ : St} {z : Rs} {x1 : Int32} {x2 : Int32} {x3 : Int32} (e : f_X1_isMember x1 x2 x3 σ = some z) : RM l ε yX1_isMember cX1_isMember 4 (some .boolean) 1 0 0 [.ref (ad ε 25), .int x1, .int x2, .int x3] (WX ε σ) (PI ε z) := RM.of (by decide) (Nat.le_of_ble_eq_true rfl) (fun κ C K => tf_X1_isMember C K x1 x2 x3 σ e)
def b_X1_readsIn_26 (k5 : Int32 → Int32 → Int32 → Int32 → St → Option Rs) (x1 : Int32) (x2 : Int32) (x3 : Int32) (x4 : Int32) (σ : St) : Option Rs := nx (x4 + (1 : Int32)) (fun y1 => k5 x1 x2 x3 y1 σ)
set_option maxRecDepth 10000 in
set_option maxHeartbeats 1000000 in
theorem t_X1_readsIn_26 {ε : Et} {κ : Kt} {z : Rs} (C : Cx ε κ cX1_readsIn 5 RX1 2) (K : Ret ε κ cX1_readsIn (some .int) 0 0 (PI ε z)) (k5 : Int32 → Int32 → Int32 → Int32 → St → Option Rs) (g5 : ∀ (x1 : Int32) (x2 : Int32) (x3 : Int32) (x4 : Int32) (σ : St), k5 x1 x2 x3 x4 σ = some z → G ε κ 0 0 5 [(0, .ref (ad ε 25)), (1, .int x1), (2, .int x2), (3, .int x3), (4, .int x4)] [] (WX ε σ)) (x1 : Int32) (x2 : Int32) (x3 : Int32) (x4 : Int32) (σ : St) (ok : b_X1_readsIn_26 k5 x1 x2 x3 x4 σ = some z) : G ε κ 0 0 26 [(0, .ref (ad ε 25)), (1, .int x1), (2, .int x2), (3, .int x3), (4, .int x4)] [] (WX ε σ) := by
  unfold b_X1_readsIn_26 at ok
  obtain ⟨y1, e2⟩ : ∃ y : Int32, y = (x4 + (1 : Int32)) := ⟨_, rfl⟩
  replace ok := nx_ok ok y1 e2
  refine g_iinc (v := y1) C [(4, .int y1), (0, .ref (ad ε 25)), (1, .int x1), (2, .int x2), (3, .int x3)] dX1_readsIn_26 4 rfl (by rw [e2]; rfl) (by decide) rfl ?_
  refine g_goto (tgt := 5) C dX1_readsIn_29 (by decide) ?_
  refine g_pick (lv' := [(0, .ref (ad ε 25)), (1, .int x1), (2, .int x2), (3, .int x3), (4, .int y1)]) ?_ [1, 2, 3, 4, 0] rfl
  exact g5 _ _ _ _ _ ok
def b_X1_readsIn_5 (k5 : Int32 → Int32 → Int32 → Int32 → St → Option Rs) (x1 : Int32) (x2 : Int32) (x3 : Int32) (x4 : Int32) (σ : St) : Option Rs := (if (60 : Int32) ≤ x4 then some (x3, σ) else bd (f_X1_isMember x4 x1 x2 σ) (fun r2 s3 => (if r2 = 0 then b_X1_readsIn_26 k5 x1 x2 x3 x4 s3 else nx (x3 + (1 : Int32)) (fun y6 => b_X1_readsIn_26 k5 x1 x2 y6 x4 s3))))
set_option maxRecDepth 10000 in
set_option maxHeartbeats 1000000 in
theorem t_X1_readsIn_5 {ε : Et} {κ : Kt} {z : Rs} (C : Cx ε κ cX1_readsIn 5 RX1 2) (K : Ret ε κ cX1_readsIn (some .int) 0 0 (PI ε z)) (k5 : Int32 → Int32 → Int32 → Int32 → St → Option Rs) (g5 : ∀ (x1 : Int32) (x2 : Int32) (x3 : Int32) (x4 : Int32) (σ : St), k5 x1 x2 x3 x4 σ = some z → G ε κ 0 0 5 [(0, .ref (ad ε 25)), (1, .int x1), (2, .int x2), (3, .int x3), (4, .int x4)] [] (WX ε σ)) (x1 : Int32) (x2 : Int32) (x3 : Int32) (x4 : Int32) (σ : St) (ok : b_X1_readsIn_5 k5 x1 x2 x3 x4 σ = some z) : G ε κ 0 0 5 [(0, .ref (ad ε 25)), (1, .int x1), (2, .int x2), (3, .int x3), (4, .int x4)] [] (WX ε σ) := by
  unfold b_X1_readsIn_5 at ok
  refine g_iload C dX1_readsIn_5 4 rfl ?_
  refine g_bipush (v := 60) C dX1_readsIn_7 (by decide) ?_
  refine g_icmp_ge (tgt := 32) C dX1_readsIn_9 (by decide) (fun c1 => ?_) (fun c1 => ?_)
  · replace ok := ok_t c1 ok
    refine g_iload_n C dX1_readsIn_32 rfl 3 rfl ?_
    exact K.2 .int _ _ _ _ rfl dX1_readsIn_33 rfl (pi_ok ok)
  · replace ok := ok_f c1 ok
    refine g_aload_n C dX1_readsIn_12 rfl 0 rfl ?_
    refine g_iload C dX1_readsIn_13 4 rfl ?_
    refine g_iload_n C dX1_readsIn_15 rfl 1 rfl ?_
    refine g_iload_n C dX1_readsIn_16 rfl 2 rfl ?_
    obtain ⟨r2, s3, e4, ok⟩ := bd_ok ok
    refine q_cI C [.int x4, .int x1, .int x2] (c_X1_isMember e4) wv_X1_73 (by decide) (lt_N (by decide)) wx_X1 rfl rfl rfl (Nat.le_of_ble_eq_true rfl) dX1_readsIn_17 ?_
    refine g_if_eq (tgt := 26) C dX1_readsIn_20 (by decide) (fun c5 => ?_) (fun c5 => ?_)
    · replace ok := ok_t c5 ok
      exact t_X1_readsIn_26 C K k5 g5 _ _ _ _ _ ok
    · replace ok := ok_f c5 ok
      obtain ⟨y6, e7⟩ : ∃ y : Int32, y = (x3 + (1 : Int32)) := ⟨_, rfl⟩
      replace ok := nx_ok ok y6 e7
      refine g_iinc (v := y6) C [(3, .int y6), (0, .ref (ad ε 25)), (1, .int x1), (2, .int x2), (4, .int x4)] dX1_readsIn_23 3 rfl (by rw [e7]; rfl) (by decide) rfl ?_
      refine g_pick (lv' := [(0, .ref (ad ε 25)), (1, .int x1), (2, .int x2), (3, .int y6), (4, .int x4)]) ?_ [1, 2, 3, 0, 4] rfl
      exact t_X1_readsIn_26 C K k5 g5 _ _ _ _ _ ok
def l_X1_readsIn_5 : Nat → Int32 → Int32 → Int32 → Int32 → St → Option Rs
  | 0 => fun _ _ _ _ _ => none
  | n + 1 => fun x1 x2 x3 x4 σ => b_X1_readsIn_5 (l_X1_readsIn_5 n) x1 x2 x3 x4 σ
theorem tl_X1_readsIn_5 {ε : Et} {κ : Kt} {z : Rs} (C : Cx ε κ cX1_readsIn 5 RX1 2) (K : Ret ε κ cX1_readsIn (some .int) 0 0 (PI ε z)) : ∀ (n : Nat) (x1 : Int32) (x2 : Int32) (x3 : Int32) (x4 : Int32) (σ : St), l_X1_readsIn_5 n x1 x2 x3 x4 σ = some z → G ε κ 0 0 5 [(0, .ref (ad ε 25)), (1, .int x1), (2, .int x2), (3, .int x3), (4, .int x4)] [] (WX ε σ) := by
  intro n
  induction n with
  | zero =>
    intro x1 x2 x3 x4 σ ok
    cases ok
  | succ n ih =>
    intro x1 x2 x3 x4 σ ok
    exact t_X1_readsIn_5 C K (l_X1_readsIn_5 n) ih x1 x2 x3 x4 σ ok
def f_X1_readsIn (x1 : Int32) (x2 : Int32) (σ : St) : Option Rs := l_X1_readsIn_5 FU x1 x2 (0 : Int32) (0 : Int32) σ
set_option maxRecDepth 10000 in
set_option maxHeartbeats 1000000 in
theorem tf_X1_readsIn {ε : Et} {κ : Kt} {z : Rs} (C : Cx ε κ cX1_readsIn 5 RX1 2) (K : Ret ε κ cX1_readsIn (some .int) 0 0 (PI ε z)) (x1 : Int32) (x2 : Int32) (σ : St) (ok : f_X1_readsIn x1 x2 σ = some z) : G ε κ 0 0 0 [(0, .ref (ad ε 25)), (1, .int x1), (2, .int x2)] [] (WX ε σ) := by
  unfold f_X1_readsIn at ok
  refine g_iconst (v := 0) C dX1_readsIn_0 (by decide) ?_
  refine g_istore_n C [(3, .int (0 : Int32)), (0, .ref (ad ε 25)), (1, .int x1), (2, .int x2)] dX1_readsIn_1 rfl (by decide) rfl ?_
  refine g_iconst (v := 0) C dX1_readsIn_2 (by decide) ?_
  refine g_istore C [(4, .int (0 : Int32)), (3, .int (0 : Int32)), (0, .ref (ad ε 25)), (1, .int x1), (2, .int x2)] dX1_readsIn_3 (by decide) rfl ?_
  refine g_pick (lv' := [(0, .ref (ad ε 25)), (1, .int x1), (2, .int x2), (3, .int (0 : Int32)), (4, .int (0 : Int32))]) ?_ [2, 3, 4, 1, 0] rfl
  exact tl_X1_readsIn_5 C K FU _ _ _ _ _ ok
theorem c_X1_readsIn {l : Launch} {ε : Et} {σ : St} {z : Rs} {x1 : Int32} {x2 : Int32} (e : f_X1_readsIn x1 x2 σ = some z) : RM l ε yX1_readsIn cX1_readsIn 5 (some .int) 2 0 0 [.ref (ad ε 25), .int x1, .int x2] (WX ε σ) (PI ε z) := RM.of (by decide) (Nat.le_of_ble_eq_true rfl) (fun κ C K => tf_X1_readsIn C K x1 x2 σ e)
def b_X1_tagsIn_38 (k5 : Int32 → Int32 → Int32 → Int32 → St → Option Rs) (x1 : Int32) (x2 : Int32) (x3 : Int32) (x4 : Int32) (σ : St) : Option Rs := nx (x4 + (1 : Int32)) (fun y1 => k5 x1 x2 x3 y1 σ)
set_option maxRecDepth 10000 in
set_option maxHeartbeats 1000000 in
theorem t_X1_tagsIn_38 {ε : Et} {κ : Kt} {z : Rs} (C : Cx ε κ cX1_tagsIn 5 RX1 2) (K : Ret ε κ cX1_tagsIn (some .int) 0 0 (PI ε z)) (k5 : Int32 → Int32 → Int32 → Int32 → St → Option Rs) (g5 : ∀ (x1 : Int32) (x2 : Int32) (x3 : Int32) (x4 : Int32) (σ : St), k5 x1 x2 x3 x4 σ = some z → G ε κ 0 0 5 [(0, .ref (ad ε 25)), (1, .int x1), (2, .int x2), (3, .int x3), (4, .int x4)] [] (WX ε σ)) (x1 : Int32) (x2 : Int32) (x3 : Int32) (x4 : Int32) (σ : St) (ok : b_X1_tagsIn_38 k5 x1 x2 x3 x4 σ = some z) : G ε κ 0 0 38 [(0, .ref (ad ε 25)), (1, .int x1), (2, .int x2), (3, .int x3), (4, .int x4)] [] (WX ε σ) := by
  unfold b_X1_tagsIn_38 at ok
  obtain ⟨y1, e2⟩ : ∃ y : Int32, y = (x4 + (1 : Int32)) := ⟨_, rfl⟩
  replace ok := nx_ok ok y1 e2
  refine g_iinc (v := y1) C [(4, .int y1), (0, .ref (ad ε 25)), (1, .int x1), (2, .int x2), (3, .int x3)] dX1_tagsIn_38 4 rfl (by rw [e2]; rfl) (by decide) rfl ?_
  refine g_goto (tgt := 5) C dX1_tagsIn_41 (by decide) ?_
  refine g_pick (lv' := [(0, .ref (ad ε 25)), (1, .int x1), (2, .int x2), (3, .int x3), (4, .int y1)]) ?_ [1, 2, 3, 4, 0] rfl
  exact g5 _ _ _ _ _ ok
def b_X1_tagsIn_5 (k5 : Int32 → Int32 → Int32 → Int32 → St → Option Rs) (x1 : Int32) (x2 : Int32) (x3 : Int32) (x4 : Int32) (σ : St) : Option Rs := (if (60 : Int32) ≤ x4 then some (x3, σ) else bd (f_X1_isMember x4 x1 x2 σ) (fun r2 s3 => (if r2 = 0 then b_X1_tagsIn_38 k5 x1 x2 x3 x4 s3 else gd (inb x4 (ln 28)) ((if (s3.2.1 28 x4.toNatClampNeg) = x4 then nx (x3 + (1 : Int32)) (fun y8 => b_X1_tagsIn_38 k5 x1 x2 y8 x4 s3) else b_X1_tagsIn_38 k5 x1 x2 x3 x4 s3)))))
set_option maxRecDepth 10000 in
set_option maxHeartbeats 1000000 in
theorem t_X1_tagsIn_5 {ε : Et} {κ : Kt} {z : Rs} (C : Cx ε κ cX1_tagsIn 5 RX1 2) (K : Ret ε κ cX1_tagsIn (some .int) 0 0 (PI ε z)) (k5 : Int32 → Int32 → Int32 → Int32 → St → Option Rs) (g5 : ∀ (x1 : Int32) (x2 : Int32) (x3 : Int32) (x4 : Int32) (σ : St), k5 x1 x2 x3 x4 σ = some z → G ε κ 0 0 5 [(0, .ref (ad ε 25)), (1, .int x1), (2, .int x2), (3, .int x3), (4, .int x4)] [] (WX ε σ)) (x1 : Int32) (x2 : Int32) (x3 : Int32) (x4 : Int32) (σ : St) (ok : b_X1_tagsIn_5 k5 x1 x2 x3 x4 σ = some z) : G ε κ 0 0 5 [(0, .ref (ad ε 25)), (1, .int x1), (2, .int x2), (3, .int x3), (4, .int x4)] [] (WX ε σ) := by
  unfold b_X1_tagsIn_5 at ok
  refine g_iload C dX1_tagsIn_5 4 rfl ?_
  refine g_bipush (v := 60) C dX1_tagsIn_7 (by decide) ?_
  refine g_icmp_ge (tgt := 44) C dX1_tagsIn_9 (by decide) (fun c1 => ?_) (fun c1 => ?_)
  · replace ok := ok_t c1 ok
    refine g_iload_n C dX1_tagsIn_44 rfl 3 rfl ?_
    exact K.2 .int _ _ _ _ rfl dX1_tagsIn_45 rfl (pi_ok ok)
  · replace ok := ok_f c1 ok
    refine g_aload_n C dX1_tagsIn_12 rfl 0 rfl ?_
    refine g_iload C dX1_tagsIn_13 4 rfl ?_
    refine g_iload_n C dX1_tagsIn_15 rfl 1 rfl ?_
    refine g_iload_n C dX1_tagsIn_16 rfl 2 rfl ?_
    obtain ⟨r2, s3, e4, ok⟩ := bd_ok ok
    refine q_cI C [.int x4, .int x1, .int x2] (c_X1_isMember e4) wv_X1_73 (by decide) (lt_N (by decide)) wx_X1 rfl rfl rfl (Nat.le_of_ble_eq_true rfl) dX1_tagsIn_17 ?_
    refine g_if_eq (tgt := 38) C dX1_tagsIn_20 (by decide) (fun c5 => ?_) (fun c5 => ?_)
    · replace ok := ok_t c5 ok
      exact t_X1_tagsIn_38 C K k5 g5 _ _ _ _ _ ok
    · replace ok := ok_f c5 ok
      refine g_aload_n C dX1_tagsIn_23 rfl 0 rfl ?_
      refine q_X1_18 C dX1_tagsIn_24 ?_
      refine g_iload C dX1_tagsIn_27 4 rfl ?_
      obtain ⟨h6, ok⟩ := gd_ok ok
      refine q_ald C ai_28 h6 dX1_tagsIn_29 ?_
      refine g_iload C dX1_tagsIn_30 4 rfl ?_
      refine g_icmp_ne (tgt := 38) C dX1_tagsIn_32 (by decide) (fun c7 => ?_) (fun c7 => ?_)
      · replace ok := ok_f c7 ok
        exact t_X1_tagsIn_38 C K k5 g5 _ _ _ _ _ ok
      · replace ok := ok_t c7 ok
        obtain ⟨y8, e9⟩ : ∃ y : Int32, y = (x3 + (1 : Int32)) := ⟨_, rfl⟩
        replace ok := nx_ok ok y8 e9
        refine g_iinc (v := y8) C [(3, .int y8), (0, .ref (ad ε 25)), (1, .int x1), (2, .int x2), (4, .int x4)] dX1_tagsIn_35 3 rfl (by rw [e9]; rfl) (by decide) rfl ?_
        refine g_pick (lv' := [(0, .ref (ad ε 25)), (1, .int x1), (2, .int x2), (3, .int y8), (4, .int x4)]) ?_ [1, 2, 3, 0, 4] rfl
        exact t_X1_tagsIn_38 C K k5 g5 _ _ _ _ _ ok
def l_X1_tagsIn_5 : Nat → Int32 → Int32 → Int32 → Int32 → St → Option Rs
  | 0 => fun _ _ _ _ _ => none
  | n + 1 => fun x1 x2 x3 x4 σ => b_X1_tagsIn_5 (l_X1_tagsIn_5 n) x1 x2 x3 x4 σ
theorem tl_X1_tagsIn_5 {ε : Et} {κ : Kt} {z : Rs} (C : Cx ε κ cX1_tagsIn 5 RX1 2) (K : Ret ε κ cX1_tagsIn (some .int) 0 0 (PI ε z)) : ∀ (n : Nat) (x1 : Int32) (x2 : Int32) (x3 : Int32) (x4 : Int32) (σ : St), l_X1_tagsIn_5 n x1 x2 x3 x4 σ = some z → G ε κ 0 0 5 [(0, .ref (ad ε 25)), (1, .int x1), (2, .int x2), (3, .int x3), (4, .int x4)] [] (WX ε σ) := by
  intro n
  induction n with
  | zero =>
    intro x1 x2 x3 x4 σ ok
    cases ok
  | succ n ih =>
    intro x1 x2 x3 x4 σ ok
    exact t_X1_tagsIn_5 C K (l_X1_tagsIn_5 n) ih x1 x2 x3 x4 σ ok
def f_X1_tagsIn (x1 : Int32) (x2 : Int32) (σ : St) : Option Rs := l_X1_tagsIn_5 FU x1 x2 (0 : Int32) (0 : Int32) σ
set_option maxRecDepth 10000 in
set_option maxHeartbeats 1000000 in
theorem tf_X1_tagsIn {ε : Et} {κ : Kt} {z : Rs} (C : Cx ε κ cX1_tagsIn 5 RX1 2) (K : Ret ε κ cX1_tagsIn (some .int) 0 0 (PI ε z)) (x1 : Int32) (x2 : Int32) (σ : St) (ok : f_X1_tagsIn x1 x2 σ = some z) : G ε κ 0 0 0 [(0, .ref (ad ε 25)), (1, .int x1), (2, .int x2)] [] (WX ε σ) := by
  unfold f_X1_tagsIn at ok
  refine g_iconst (v := 0) C dX1_tagsIn_0 (by decide) ?_
  refine g_istore_n C [(3, .int (0 : Int32)), (0, .ref (ad ε 25)), (1, .int x1), (2, .int x2)] dX1_tagsIn_1 rfl (by decide) rfl ?_
  refine g_iconst (v := 0) C dX1_tagsIn_2 (by decide) ?_
  refine g_istore C [(4, .int (0 : Int32)), (3, .int (0 : Int32)), (0, .ref (ad ε 25)), (1, .int x1), (2, .int x2)] dX1_tagsIn_3 (by decide) rfl ?_
  refine g_pick (lv' := [(0, .ref (ad ε 25)), (1, .int x1), (2, .int x2), (3, .int (0 : Int32)), (4, .int (0 : Int32))]) ?_ [2, 3, 4, 1, 0] rfl
  exact tl_X1_tagsIn_5 C K FU _ _ _ _ _ ok
theorem c_X1_tagsIn {l : Launch} {ε : Et} {σ : St} {z : Rs} {x1 : Int32} {x2 : Int32} (e : f_X1_tagsIn x1 x2 σ = some z) : RM l ε yX1_tagsIn cX1_tagsIn 5 (some .int) 2 0 0 [.ref (ad ε 25), .int x1, .int x2] (WX ε σ) (PI ε z) := RM.of (by decide) (Nat.le_of_ble_eq_true rfl) (fun κ C K => tf_X1_tagsIn C K x1 x2 σ e)
