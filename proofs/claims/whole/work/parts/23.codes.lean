def f_X0_count (σ : St) : Option Rs := some ((σ.1 12 2), σ)
set_option maxRecDepth 10000 in
set_option maxHeartbeats 1000000 in
theorem tf_X0_count {ε : Et} {κ : Kt} {z : Rs} (C : Cx ε κ cX0_count 1 RX0 0) (K : Ret ε κ cX0_count (some .int) 0 0 (PI ε z)) (σ : St) (ok : f_X0_count σ = some z) : G ε κ 0 0 0 [(0, .ref (ad ε 12))] [] (WX ε σ) := by
  unfold f_X0_count at ok
  refine g_aload_n C dX0_count_0 rfl 0 rfl ?_
  refine q_X0_28 C dX0_count_1 ?_
  exact K.2 .int _ _ _ _ rfl dX0_count_4 rfl (pi_ok ok)
theorem c_X0_count {l : Launch} {ε : Et} {σ : St} {z : Rs} (e : f_X0_count σ = some z) : RM l ε yX0_count cX0_count 1 (some .int) 0 0 0 [.ref (ad ε 12)] (WX ε σ) (PI ε z) := RM.of (by decide) (Nat.le_of_ble_eq_true rfl) (fun κ C K => tf_X0_count C K σ e)
def f_X0_length (σ : St) : Option Rs := some ((σ.1 12 3), σ)
set_option maxRecDepth 10000 in
set_option maxHeartbeats 1000000 in
theorem tf_X0_length {ε : Et} {κ : Kt} {z : Rs} (C : Cx ε κ cX0_length 1 RX0 0) (K : Ret ε κ cX0_length (some .int) 0 0 (PI ε z)) (σ : St) (ok : f_X0_length σ = some z) : G ε κ 0 0 0 [(0, .ref (ad ε 12))] [] (WX ε σ) := by
  unfold f_X0_length at ok
  refine g_aload_n C dX0_length_0 rfl 0 rfl ?_
  refine q_X0_31 C dX0_length_1 ?_
  exact K.2 .int _ _ _ _ rfl dX0_length_4 rfl (pi_ok ok)
theorem c_X0_length {l : Launch} {ε : Et} {σ : St} {z : Rs} (e : f_X0_length σ = some z) : RM l ε yX0_length cX0_length 1 (some .int) 0 0 0 [.ref (ad ε 12)] (WX ε σ) (PI ε z) := RM.of (by decide) (Nat.le_of_ble_eq_true rfl) (fun κ C K => tf_X0_length C K σ e)
def f_X0_spread (σ : St) : Option Rs := some ((σ.1 12 4), σ)
set_option maxRecDepth 10000 in
set_option maxHeartbeats 1000000 in
theorem tf_X0_spread {ε : Et} {κ : Kt} {z : Rs} (C : Cx ε κ cX0_spread 1 RX0 0) (K : Ret ε κ cX0_spread (some .int) 0 0 (PI ε z)) (σ : St) (ok : f_X0_spread σ = some z) : G ε κ 0 0 0 [(0, .ref (ad ε 12))] [] (WX ε σ) := by
  unfold f_X0_spread at ok
  refine g_aload_n C dX0_spread_0 rfl 0 rfl ?_
  refine q_X0_24 C dX0_spread_1 ?_
  exact K.2 .int _ _ _ _ rfl dX0_spread_4 rfl (pi_ok ok)
theorem c_X0_spread {l : Launch} {ε : Et} {σ : St} {z : Rs} (e : f_X0_spread σ = some z) : RM l ε yX0_spread cX0_spread 1 (some .int) 0 0 0 [.ref (ad ε 12)] (WX ε σ) (PI ε z) := RM.of (by decide) (Nat.le_of_ble_eq_true rfl) (fun κ C K => tf_X0_spread C K σ e)
def b_X0_distance_57 (p1 : Nat) (k5 : Int32 → Int32 → Int32 → St → Option Rs) (x1 : Int32) (x3 : Int32) (x4 : Int32) (σ : St) : Option Rs := nx (x4 + (1 : Int32)) (fun y1 => k5 x1 x3 y1 σ)
set_option maxRecDepth 10000 in
set_option maxHeartbeats 1000000 in
theorem t_X0_distance_57 {ε : Et} {κ : Kt} {z : Rs} (p1 : Nat) (h_p1 : Rw p1) (C : Cx ε κ cX0_distance 6 RX0 1) (K : Ret ε κ cX0_distance (some .int) 0 0 (PI ε z)) (k5 : Int32 → Int32 → Int32 → St → Option Rs) (g5 : ∀ (x1 : Int32) (x3 : Int32) (x4 : Int32) (σ : St), k5 x1 x3 x4 σ = some z → G ε κ 0 0 5 [(0, .ref (ad ε 12)), (1, .int x1), (2, .ref (ad ε p1)), (3, .int x3), (4, .int x4)] [] (WX ε σ)) (x1 : Int32) (x3 : Int32) (x4 : Int32) (σ : St) (ok : b_X0_distance_57 p1 k5 x1 x3 x4 σ = some z) : G ε κ 0 0 57 [(0, .ref (ad ε 12)), (1, .int x1), (2, .ref (ad ε p1)), (3, .int x3), (4, .int x4)] [] (WX ε σ) := by
  unfold b_X0_distance_57 at ok
  obtain ⟨y1, e2⟩ : ∃ y : Int32, y = (x4 + (1 : Int32)) := ⟨_, rfl⟩
  replace ok := nx_ok ok y1 e2
  refine g_iinc (v := y1) C [(4, .int y1), (0, .ref (ad ε 12)), (1, .int x1), (2, .ref (ad ε p1)), (3, .int x3)] dX0_distance_57 4 rfl (by rw [e2]; rfl) (by decide) rfl ?_
  refine g_goto (tgt := 5) C dX0_distance_60 (by decide) ?_
  refine g_pick (lv' := [(0, .ref (ad ε 12)), (1, .int x1), (2, .ref (ad ε p1)), (3, .int x3), (4, .int y1)]) ?_ [1, 2, 3, 4, 0] rfl
  exact g5 _ _ _ _ ok
def b_X0_distance_5 (p1 : Nat) (k5 : Int32 → Int32 → Int32 → St → Option Rs) (x1 : Int32) (x3 : Int32) (x4 : Int32) (σ : St) : Option Rs := (if (σ.1 12 3) ≤ x4 then some (x3, σ) else nx ((x1 * (12 : Int32)) + x4) (fun y2 => (if y2 < 0 then b_X0_distance_57 p1 k5 x1 x3 x4 σ else (if (nI (ln 13)) ≤ y2 then b_X0_distance_57 p1 k5 x1 x3 x4 σ else gd (inb y2 (ln 13)) (bd (f_X4_at p1 x4 σ) (fun r7 s8 => (if (σ.2.1 13 y2.toNatClampNeg) = r7 then b_X0_distance_57 p1 k5 x1 x3 x4 s8 else nx (x3 + (1 : Int32)) (fun y11 => b_X0_distance_57 p1 k5 x1 y11 x4 s8))))))))
set_option maxRecDepth 10000 in
set_option maxHeartbeats 1000000 in
theorem t_X0_distance_5 {ε : Et} {κ : Kt} {z : Rs} (p1 : Nat) (h_p1 : Rw p1) (C : Cx ε κ cX0_distance 6 RX0 1) (K : Ret ε κ cX0_distance (some .int) 0 0 (PI ε z)) (k5 : Int32 → Int32 → Int32 → St → Option Rs) (g5 : ∀ (x1 : Int32) (x3 : Int32) (x4 : Int32) (σ : St), k5 x1 x3 x4 σ = some z → G ε κ 0 0 5 [(0, .ref (ad ε 12)), (1, .int x1), (2, .ref (ad ε p1)), (3, .int x3), (4, .int x4)] [] (WX ε σ)) (x1 : Int32) (x3 : Int32) (x4 : Int32) (σ : St) (ok : b_X0_distance_5 p1 k5 x1 x3 x4 σ = some z) : G ε κ 0 0 5 [(0, .ref (ad ε 12)), (1, .int x1), (2, .ref (ad ε p1)), (3, .int x3), (4, .int x4)] [] (WX ε σ) := by
  unfold b_X0_distance_5 at ok
  refine g_iload C dX0_distance_5 4 rfl ?_
  refine g_aload_n C dX0_distance_7 rfl 0 rfl ?_
  refine q_X0_31 C dX0_distance_8 ?_
  refine g_icmp_ge (tgt := 63) C dX0_distance_11 (by decide) (fun c1 => ?_) (fun c1 => ?_)
  · replace ok := ok_t c1 ok
    refine g_iload_n C dX0_distance_63 rfl 3 rfl ?_
    exact K.2 .int _ _ _ _ rfl dX0_distance_64 rfl (pi_ok ok)
  · replace ok := ok_f c1 ok
    refine g_iload_n C dX0_distance_14 rfl 1 rfl ?_
    refine g_bipush (v := 12) C dX0_distance_15 (by decide) ?_
    refine g_imul C dX0_distance_17 ?_
    refine g_iload C dX0_distance_18 4 rfl ?_
    refine g_iadd C dX0_distance_20 ?_
    refine q_nm (fun y2 e3 => ?_)
    replace ok := nx_ok ok y2 e3
    refine g_istore C [(5, .int y2), (0, .ref (ad ε 12)), (1, .int x1), (2, .ref (ad ε p1)), (3, .int x3), (4, .int x4)] dX0_distance_21 (by decide) rfl ?_
    refine g_iload C dX0_distance_23 0 rfl ?_
    refine g_if_lt (tgt := 57) C dX0_distance_25 (by decide) (fun c4 => ?_) (fun c4 => ?_)
    · replace ok := ok_t c4 ok
      refine g_pick (lv' := [(0, .ref (ad ε 12)), (1, .int x1), (2, .ref (ad ε p1)), (3, .int x3), (4, .int x4)]) ?_ [1, 2, 3, 4, 5] rfl
      exact t_X0_distance_57 p1 h_p1 C K k5 g5 _ _ _ _ ok
    · replace ok := ok_f c4 ok
      refine g_iload C dX0_distance_28 0 rfl ?_
      refine g_aload_n C dX0_distance_30 rfl 1 rfl ?_
      refine q_X0_9 C dX0_distance_31 ?_
      refine q_len C ai_13 dX0_distance_34 ?_
      refine g_icmp_ge (tgt := 57) C dX0_distance_35 (by decide) (fun c5 => ?_) (fun c5 => ?_)
      · replace ok := ok_t c5 ok
        refine g_pick (lv' := [(0, .ref (ad ε 12)), (1, .int x1), (2, .ref (ad ε p1)), (3, .int x3), (4, .int x4)]) ?_ [1, 2, 3, 4, 5] rfl
        exact t_X0_distance_57 p1 h_p1 C K k5 g5 _ _ _ _ ok
      · replace ok := ok_f c5 ok
        refine g_aload_n C dX0_distance_38 rfl 1 rfl ?_
        refine q_X0_9 C dX0_distance_39 ?_
        refine g_iload C dX0_distance_42 0 rfl ?_
        obtain ⟨h6, ok⟩ := gd_ok ok
        refine q_ald C ai_13 h6 dX0_distance_44 ?_
        refine g_aload_n C dX0_distance_45 rfl 3 rfl ?_
        refine g_iload C dX0_distance_46 5 rfl ?_
        obtain ⟨r7, s8, e9, ok⟩ := bd_ok ok
        refine q_cI C [.int x4] (c_X4_at h_p1 e9) wv_X0_67 (by decide) (rw_lt h_p1) (wx_X4 h_p1) rfl rfl rfl (Nat.le_of_ble_eq_true rfl) dX0_distance_48 ?_
        refine g_icmp_eq (tgt := 57) C dX0_distance_51 (by decide) (fun c10 => ?_) (fun c10 => ?_)
        · replace ok := ok_t c10 ok
          refine g_pick (lv' := [(0, .ref (ad ε 12)), (1, .int x1), (2, .ref (ad ε p1)), (3, .int x3), (4, .int x4)]) ?_ [1, 2, 3, 4, 5] rfl
          exact t_X0_distance_57 p1 h_p1 C K k5 g5 _ _ _ _ ok
        · replace ok := ok_f c10 ok
          obtain ⟨y11, e12⟩ : ∃ y : Int32, y = (x3 + (1 : Int32)) := ⟨_, rfl⟩
          replace ok := nx_ok ok y11 e12
          refine g_iinc (v := y11) C [(3, .int y11), (5, .int y2), (0, .ref (ad ε 12)), (1, .int x1), (2, .ref (ad ε p1)), (4, .int x4)] dX0_distance_54 4 rfl (by rw [e12]; rfl) (by decide) rfl ?_
          refine g_pick (lv' := [(0, .ref (ad ε 12)), (1, .int x1), (2, .ref (ad ε p1)), (3, .int y11), (4, .int x4)]) ?_ [2, 3, 4, 0, 5] rfl
          exact t_X0_distance_57 p1 h_p1 C K k5 g5 _ _ _ _ ok
def l_X0_distance_5 (p1 : Nat) : Nat → Int32 → Int32 → Int32 → St → Option Rs
  | 0 => fun _ _ _ _ => none
  | n + 1 => fun x1 x3 x4 σ => b_X0_distance_5 p1 (l_X0_distance_5 p1 n) x1 x3 x4 σ
theorem tl_X0_distance_5 {ε : Et} {κ : Kt} {z : Rs} (p1 : Nat) (h_p1 : Rw p1) (C : Cx ε κ cX0_distance 6 RX0 1) (K : Ret ε κ cX0_distance (some .int) 0 0 (PI ε z)) : ∀ (n : Nat) (x1 : Int32) (x3 : Int32) (x4 : Int32) (σ : St), l_X0_distance_5 p1 n x1 x3 x4 σ = some z → G ε κ 0 0 5 [(0, .ref (ad ε 12)), (1, .int x1), (2, .ref (ad ε p1)), (3, .int x3), (4, .int x4)] [] (WX ε σ) := by
  intro n
  induction n with
  | zero =>
    intro x1 x3 x4 σ ok
    cases ok
  | succ n ih =>
    intro x1 x3 x4 σ ok
    exact t_X0_distance_5 p1 h_p1 C K (l_X0_distance_5 p1 n) ih x1 x3 x4 σ ok
def f_X0_distance (x1 : Int32) (p1 : Nat) (σ : St) : Option Rs := l_X0_distance_5 p1 FU x1 (0 : Int32) (0 : Int32) σ
set_option maxRecDepth 10000 in
set_option maxHeartbeats 1000000 in
theorem tf_X0_distance {ε : Et} {κ : Kt} {z : Rs} (p1 : Nat) (h_p1 : Rw p1) (C : Cx ε κ cX0_distance 6 RX0 1) (K : Ret ε κ cX0_distance (some .int) 0 0 (PI ε z)) (x1 : Int32) (σ : St) (ok : f_X0_distance x1 p1 σ = some z) : G ε κ 0 0 0 [(0, .ref (ad ε 12)), (1, .int x1), (2, .ref (ad ε p1))] [] (WX ε σ) := by
  unfold f_X0_distance at ok
  refine g_iconst (v := 0) C dX0_distance_0 (by decide) ?_
  refine g_istore_n C [(3, .int (0 : Int32)), (0, .ref (ad ε 12)), (1, .int x1), (2, .ref (ad ε p1))] dX0_distance_1 rfl (by decide) rfl ?_
  refine g_iconst (v := 0) C dX0_distance_2 (by decide) ?_
  refine g_istore C [(4, .int (0 : Int32)), (3, .int (0 : Int32)), (0, .ref (ad ε 12)), (1, .int x1), (2, .ref (ad ε p1))] dX0_distance_3 (by decide) rfl ?_
  refine g_pick (lv' := [(0, .ref (ad ε 12)), (1, .int x1), (2, .ref (ad ε p1)), (3, .int (0 : Int32)), (4, .int (0 : Int32))]) ?_ [2, 3, 4, 1, 0] rfl
  exact tl_X0_distance_5 p1 h_p1 C K FU _ _ _ _ ok
theorem c_X0_distance {l : Launch} {ε : Et} {σ : St} {z : Rs} {x1 : Int32} {p1 : Nat} (h_p1 : Rw p1) (e : f_X0_distance x1 p1 σ = some z) : RM l ε yX0_distance cX0_distance 6 (some .int) 1 0 0 [.ref (ad ε 12), .int x1, .ref (ad ε p1)] (WX ε σ) (PI ε z) := RM.of (by decide) (Nat.le_of_ble_eq_true rfl) (fun κ C K => tf_X0_distance p1 h_p1 C K x1 σ e)
def b_X0_keep_44 (p1 : Nat) (k2 : Int32 → St → Option Rs) (x2 : Int32) (σ : St) : Option Rs := nx (x2 + (1 : Int32)) (fun y1 => k2 y1 σ)
set_option maxRecDepth 10000 in
set_option maxHeartbeats 1000000 in
theorem t_X0_keep_44 {ε : Et} {κ : Kt} {z : Rs} (p1 : Nat) (h_p1 : Rw p1) (C : Cx ε κ cX0_keep 4 RX0 1) (K : Ret ε κ cX0_keep none 0 0 (PV ε z)) (k2 : Int32 → St → Option Rs) (g2 : ∀ (x2 : Int32) (σ : St), k2 x2 σ = some z → G ε κ 0 0 2 [(0, .ref (ad ε 12)), (1, .ref (ad ε p1)), (2, .int x2)] [] (WX ε σ)) (x2 : Int32) (σ : St) (ok : b_X0_keep_44 p1 k2 x2 σ = some z) : G ε κ 0 0 44 [(0, .ref (ad ε 12)), (1, .ref (ad ε p1)), (2, .int x2)] [] (WX ε σ) := by
  unfold b_X0_keep_44 at ok
  obtain ⟨y1, e2⟩ : ∃ y : Int32, y = (x2 + (1 : Int32)) := ⟨_, rfl⟩
  replace ok := nx_ok ok y1 e2
  refine g_iinc (v := y1) C [(2, .int y1), (0, .ref (ad ε 12)), (1, .ref (ad ε p1))] dX0_keep_44 2 rfl (by rw [e2]; rfl) (by decide) rfl ?_
  refine g_goto (tgt := 2) C dX0_keep_47 (by decide) ?_
  refine g_pick (lv' := [(0, .ref (ad ε 12)), (1, .ref (ad ε p1)), (2, .int y1)]) ?_ [1, 2, 0] rfl
  exact g2 _ _ ok
def b_X0_keep_2 (p1 : Nat) (k2 : Int32 → St → Option Rs) (x2 : Int32) (σ : St) : Option Rs := (if (σ.1 12 3) ≤ x2 then nx (sS σ 12 2 ((σ.1 12 2) + (1 : Int32))) (fun s2 => some ((0 : Int32), s2)) else nx (((σ.1 12 2) * (12 : Int32)) + x2) (fun y4 => (if y4 < 0 then b_X0_keep_44 p1 k2 x2 σ else (if (nI (ln 13)) ≤ y4 then b_X0_keep_44 p1 k2 x2 σ else bd (f_X4_at p1 x2 σ) (fun r8 s9 => gd (inb y4 (ln 13)) (nx (sA s9 13 y4 r8) (fun s12 => b_X0_keep_44 p1 k2 x2 s12)))))))
set_option maxRecDepth 10000 in
set_option maxHeartbeats 1000000 in
theorem t_X0_keep_2 {ε : Et} {κ : Kt} {z : Rs} (p1 : Nat) (h_p1 : Rw p1) (C : Cx ε κ cX0_keep 4 RX0 1) (K : Ret ε κ cX0_keep none 0 0 (PV ε z)) (k2 : Int32 → St → Option Rs) (g2 : ∀ (x2 : Int32) (σ : St), k2 x2 σ = some z → G ε κ 0 0 2 [(0, .ref (ad ε 12)), (1, .ref (ad ε p1)), (2, .int x2)] [] (WX ε σ)) (x2 : Int32) (σ : St) (ok : b_X0_keep_2 p1 k2 x2 σ = some z) : G ε κ 0 0 2 [(0, .ref (ad ε 12)), (1, .ref (ad ε p1)), (2, .int x2)] [] (WX ε σ) := by
  unfold b_X0_keep_2 at ok
  refine g_iload_n C dX0_keep_2 rfl 2 rfl ?_
  refine g_aload_n C dX0_keep_3 rfl 0 rfl ?_
  refine q_X0_31 C dX0_keep_4 ?_
  refine g_icmp_ge (tgt := 50) C dX0_keep_7 (by decide) (fun c1 => ?_) (fun c1 => ?_)
  · replace ok := ok_t c1 ok
    refine g_aload_n C dX0_keep_50 rfl 0 rfl ?_
    refine g_dup C dX0_keep_51 rfl ?_
    refine q_X0_28 C dX0_keep_52 ?_
    refine g_iconst (v := 1) C dX0_keep_55 (by decide) ?_
    refine g_iadd C dX0_keep_56 ?_
    refine p_X0_28 C dX0_keep_57 (fun s2 e3 => ?_)
    replace ok := nx_ok ok s2 e3
    exact K.1 rfl _ _ _ dX0_keep_60 (pv_ok ok)
  · replace ok := ok_f c1 ok
    refine g_aload_n C dX0_keep_10 rfl 0 rfl ?_
    refine q_X0_28 C dX0_keep_11 ?_
    refine g_bipush (v := 12) C dX0_keep_14 (by decide) ?_
    refine g_imul C dX0_keep_16 ?_
    refine g_iload_n C dX0_keep_17 rfl 2 rfl ?_
    refine g_iadd C dX0_keep_18 ?_
    refine q_nm (fun y4 e5 => ?_)
    replace ok := nx_ok ok y4 e5
    refine g_istore_n C [(3, .int y4), (0, .ref (ad ε 12)), (1, .ref (ad ε p1)), (2, .int x2)] dX0_keep_19 rfl (by decide) rfl ?_
    refine g_iload_n C dX0_keep_20 rfl 0 rfl ?_
    refine g_if_lt (tgt := 44) C dX0_keep_21 (by decide) (fun c6 => ?_) (fun c6 => ?_)
    · replace ok := ok_t c6 ok
      refine g_pick (lv' := [(0, .ref (ad ε 12)), (1, .ref (ad ε p1)), (2, .int x2)]) ?_ [1, 2, 3] rfl
      exact t_X0_keep_44 p1 h_p1 C K k2 g2 _ _ ok
    · replace ok := ok_f c6 ok
      refine g_iload_n C dX0_keep_24 rfl 0 rfl ?_
      refine g_aload_n C dX0_keep_25 rfl 1 rfl ?_
      refine q_X0_9 C dX0_keep_26 ?_
      refine q_len C ai_13 dX0_keep_29 ?_
      refine g_icmp_ge (tgt := 44) C dX0_keep_30 (by decide) (fun c7 => ?_) (fun c7 => ?_)
      · replace ok := ok_t c7 ok
        refine g_pick (lv' := [(0, .ref (ad ε 12)), (1, .ref (ad ε p1)), (2, .int x2)]) ?_ [1, 2, 3] rfl
        exact t_X0_keep_44 p1 h_p1 C K k2 g2 _ _ ok
      · replace ok := ok_f c7 ok
        refine g_aload_n C dX0_keep_33 rfl 1 rfl ?_
        refine q_X0_9 C dX0_keep_34 ?_
        refine g_iload_n C dX0_keep_37 rfl 0 rfl ?_
        refine g_aload_n C dX0_keep_38 rfl 2 rfl ?_
        refine g_iload_n C dX0_keep_39 rfl 3 rfl ?_
        obtain ⟨r8, s9, e10, ok⟩ := bd_ok ok
        refine q_cI C [.int x2] (c_X4_at h_p1 e10) wv_X0_67 (by decide) (rw_lt h_p1) (wx_X4 h_p1) rfl rfl rfl (Nat.le_of_ble_eq_true rfl) dX0_keep_40 ?_
        obtain ⟨h11, ok⟩ := gd_ok ok
        refine q_ast C ai_13 h11 dX0_keep_43 (fun s12 e13 => ?_)
        replace ok := nx_ok ok s12 e13
        refine g_pick (lv' := [(0, .ref (ad ε 12)), (1, .ref (ad ε p1)), (2, .int x2)]) ?_ [1, 2, 3] rfl
        exact t_X0_keep_44 p1 h_p1 C K k2 g2 _ _ ok
def l_X0_keep_2 (p1 : Nat) : Nat → Int32 → St → Option Rs
  | 0 => fun _ _ => none
  | n + 1 => fun x2 σ => b_X0_keep_2 p1 (l_X0_keep_2 p1 n) x2 σ
theorem tl_X0_keep_2 {ε : Et} {κ : Kt} {z : Rs} (p1 : Nat) (h_p1 : Rw p1) (C : Cx ε κ cX0_keep 4 RX0 1) (K : Ret ε κ cX0_keep none 0 0 (PV ε z)) : ∀ (n : Nat) (x2 : Int32) (σ : St), l_X0_keep_2 p1 n x2 σ = some z → G ε κ 0 0 2 [(0, .ref (ad ε 12)), (1, .ref (ad ε p1)), (2, .int x2)] [] (WX ε σ) := by
  intro n
  induction n with
  | zero =>
    intro x2 σ ok
    cases ok
  | succ n ih =>
    intro x2 σ ok
    exact t_X0_keep_2 p1 h_p1 C K (l_X0_keep_2 p1 n) ih x2 σ ok
def f_X0_keep (p1 : Nat) (σ : St) : Option Rs := l_X0_keep_2 p1 FU (0 : Int32) σ
set_option maxRecDepth 10000 in
set_option maxHeartbeats 1000000 in
theorem tf_X0_keep {ε : Et} {κ : Kt} {z : Rs} (p1 : Nat) (h_p1 : Rw p1) (C : Cx ε κ cX0_keep 4 RX0 1) (K : Ret ε κ cX0_keep none 0 0 (PV ε z)) (σ : St) (ok : f_X0_keep p1 σ = some z) : G ε κ 0 0 0 [(0, .ref (ad ε 12)), (1, .ref (ad ε p1))] [] (WX ε σ) := by
  unfold f_X0_keep at ok
  refine g_iconst (v := 0) C dX0_keep_0 (by decide) ?_
  refine g_istore_n C [(2, .int (0 : Int32)), (0, .ref (ad ε 12)), (1, .ref (ad ε p1))] dX0_keep_1 rfl (by decide) rfl ?_
  refine g_pick (lv' := [(0, .ref (ad ε 12)), (1, .ref (ad ε p1)), (2, .int (0 : Int32))]) ?_ [1, 2, 0] rfl
  exact tl_X0_keep_2 p1 h_p1 C K FU _ _ ok
theorem c_X0_keep {l : Launch} {ε : Et} {σ : St} {z : Rs} {p1 : Nat} (h_p1 : Rw p1) (e : f_X0_keep p1 σ = some z) : RM l ε yX0_keep cX0_keep 4 none 1 0 0 [.ref (ad ε 12), .ref (ad ε p1)] (WX ε σ) (PV ε z) := RM.of (by decide) (Nat.le_of_ble_eq_true rfl) (fun κ C K => tf_X0_keep p1 h_p1 C K σ e)
def b_X0_take_19 (p1 : Nat) (σ : St) : Option Rs := some ((-1 : Int32), σ)
set_option maxRecDepth 10000 in
set_option maxHeartbeats 1000000 in
theorem t_X0_take_19 {ε : Et} {κ : Kt} {z : Rs} (p1 : Nat) (h_p1 : Rw p1) (C : Cx ε κ cX0_take 4 RX0 2) (K : Ret ε κ cX0_take (some .int) 0 0 (PI ε z)) (σ : St) (ok : b_X0_take_19 p1 σ = some z) : G ε κ 0 0 19 [] [] (WX ε σ) := by
  unfold b_X0_take_19 at ok
  refine g_iconst (v := -1) C dX0_take_19 (by decide) ?_
  exact K.2 .int _ _ _ _ rfl dX0_take_20 rfl (pi_ok ok)
def b_X0_take_46 (p1 : Nat) (k46 : Int32 → Int32 → St → Option Rs) (x2 : Int32) (x3 : Int32) (σ : St) : Option Rs := (if (σ.1 12 2) ≤ x3 then (if x2 = 0 then some ((-1 : Int32), σ) else bd (f_X4_size p1 σ) (fun r3 s4 => nx (sS s4 12 3 r3) (fun s6 => nx (sS s6 12 4 (if x2 < (s6.1 12 4) then x2 else (s6.1 12 4))) (fun s8 => bd (f_X0_keep p1 s8) (fun r10 s11 => some (((s11.1 12 2) - (1 : Int32)), s11)))))) else bd (f_X0_distance x3 p1 σ) (fun r13 s14 => nx (if r13 < x2 then r13 else x2) (fun y16 => nx (x3 + (1 : Int32)) (fun y18 => k46 y16 y18 s14))))
set_option maxRecDepth 10000 in
set_option maxHeartbeats 1000000 in
theorem t_X0_take_46 {ε : Et} {κ : Kt} {z : Rs} (p1 : Nat) (h_p1 : Rw p1) (C : Cx ε κ cX0_take 4 RX0 2) (K : Ret ε κ cX0_take (some .int) 0 0 (PI ε z)) (k46 : Int32 → Int32 → St → Option Rs) (g46 : ∀ (x2 : Int32) (x3 : Int32) (σ : St), k46 x2 x3 σ = some z → G ε κ 0 0 46 [(0, .ref (ad ε 12)), (1, .ref (ad ε p1)), (2, .int x2), (3, .int x3)] [] (WX ε σ)) (x2 : Int32) (x3 : Int32) (σ : St) (ok : b_X0_take_46 p1 k46 x2 x3 σ = some z) : G ε κ 0 0 46 [(0, .ref (ad ε 12)), (1, .ref (ad ε p1)), (2, .int x2), (3, .int x3)] [] (WX ε σ) := by
  unfold b_X0_take_46 at ok
  refine g_iload_n C dX0_take_46 rfl 3 rfl ?_
  refine g_aload_n C dX0_take_47 rfl 0 rfl ?_
  refine q_X0_28 C dX0_take_48 ?_
  refine g_icmp_ge (tgt := 71) C dX0_take_51 (by decide) (fun c1 => ?_) (fun c1 => ?_)
  · replace ok := ok_t c1 ok
    refine g_iload_n C dX0_take_71 rfl 2 rfl ?_
    refine g_if_ne (tgt := 77) C dX0_take_72 (by decide) (fun c2 => ?_) (fun c2 => ?_)
    · replace ok := ok_f c2 ok
      refine g_aload_n C dX0_take_77 rfl 0 rfl ?_
      refine g_aload_n C dX0_take_78 rfl 1 rfl ?_
      obtain ⟨r3, s4, e5, ok⟩ := bd_ok ok
      refine q_cI C [] (c_X4_size h_p1 e5) wv_X0_38 (by decide) (rw_lt h_p1) (wx_X4 h_p1) rfl rfl rfl (Nat.le_of_ble_eq_true rfl) dX0_take_79 ?_
      refine p_X0_31 C dX0_take_82 (fun s6 e7 => ?_)
      replace ok := nx_ok ok s6 e7
      refine g_aload_n C dX0_take_85 rfl 0 rfl ?_
      refine g_aload_n C dX0_take_86 rfl 0 rfl ?_
      refine q_X0_24 C dX0_take_87 ?_
      refine g_iload_n C dX0_take_90 rfl 2 rfl ?_
      refine g_min C (by decide) wm_X0_46 wms_min wmi wmc_min (Nat.le_of_ble_eq_true rfl) ⟨rfl, rfl⟩ dX0_take_91 ?_
      refine p_X0_24 C dX0_take_94 (fun s8 e9 => ?_)
      replace ok := nx_ok ok s8 e9
      refine g_aload_n C dX0_take_97 rfl 0 rfl ?_
      refine g_aload_n C dX0_take_98 rfl 1 rfl ?_
      obtain ⟨r10, s11, e12, ok⟩ := bd_ok ok
      refine q_cV C [.ref (ad ε p1)] (c_X0_keep h_p1 e12) wv_X0_52 (by decide) (lt_N (by decide)) wx_X0 rfl rfl rfl (Nat.le_of_ble_eq_true rfl) dX0_take_99 ?_
      refine g_aload_n C dX0_take_102 rfl 0 rfl ?_
      refine q_X0_28 C dX0_take_103 ?_
      refine g_iconst (v := 1) C dX0_take_106 (by decide) ?_
      refine g_isub C dX0_take_107 ?_
      exact K.2 .int _ _ _ _ rfl dX0_take_108 rfl (pi_ok ok)
    · replace ok := ok_t c2 ok
      refine g_iconst (v := -1) C dX0_take_75 (by decide) ?_
      exact K.2 .int _ _ _ _ rfl dX0_take_76 rfl (pi_ok ok)
  · replace ok := ok_f c1 ok
    refine g_iload_n C dX0_take_54 rfl 2 rfl ?_
    refine g_aload_n C dX0_take_55 rfl 0 rfl ?_
    refine g_iload_n C dX0_take_56 rfl 3 rfl ?_
    refine g_aload_n C dX0_take_57 rfl 1 rfl ?_
    obtain ⟨r13, s14, e15, ok⟩ := bd_ok ok
    refine q_cI C [.int x3, .ref (ad ε p1)] (c_X0_distance h_p1 e15) wv_X0_42 (by decide) (lt_N (by decide)) wx_X0 rfl rfl rfl (Nat.le_of_ble_eq_true rfl) dX0_take_58 ?_
    refine g_min C (by decide) wm_X0_46 wms_min wmi wmc_min (Nat.le_of_ble_eq_true rfl) ⟨rfl, rfl⟩ dX0_take_61 ?_
    refine q_nm (fun y16 e17 => ?_)
    replace ok := nx_ok ok y16 e17
    refine g_istore_n C [(2, .int y16), (0, .ref (ad ε 12)), (1, .ref (ad ε p1)), (3, .int x3)] dX0_take_64 rfl (by decide) rfl ?_
    obtain ⟨y18, e19⟩ : ∃ y : Int32, y = (x3 + (1 : Int32)) := ⟨_, rfl⟩
    replace ok := nx_ok ok y18 e19
    refine g_iinc (v := y18) C [(3, .int y18), (2, .int y16), (0, .ref (ad ε 12)), (1, .ref (ad ε p1))] dX0_take_65 3 rfl (by rw [e19]; rfl) (by decide) rfl ?_
    refine g_goto (tgt := 46) C dX0_take_68 (by decide) ?_
    refine g_pick (lv' := [(0, .ref (ad ε 12)), (1, .ref (ad ε p1)), (2, .int y16), (3, .int y18)]) ?_ [2, 3, 1, 0] rfl
    exact g46 _ _ _ ok
def l_X0_take_46 (p1 : Nat) : Nat → Int32 → Int32 → St → Option Rs
  | 0 => fun _ _ _ => none
  | n + 1 => fun x2 x3 σ => b_X0_take_46 p1 (l_X0_take_46 p1 n) x2 x3 σ
theorem tl_X0_take_46 {ε : Et} {κ : Kt} {z : Rs} (p1 : Nat) (h_p1 : Rw p1) (C : Cx ε κ cX0_take 4 RX0 2) (K : Ret ε κ cX0_take (some .int) 0 0 (PI ε z)) : ∀ (n : Nat) (x2 : Int32) (x3 : Int32) (σ : St), l_X0_take_46 p1 n x2 x3 σ = some z → G ε κ 0 0 46 [(0, .ref (ad ε 12)), (1, .ref (ad ε p1)), (2, .int x2), (3, .int x3)] [] (WX ε σ) := by
  intro n
  induction n with
  | zero =>
    intro x2 x3 σ ok
    cases ok
  | succ n ih =>
    intro x2 x3 σ ok
    exact t_X0_take_46 p1 h_p1 C K (l_X0_take_46 p1 n) ih x2 x3 σ ok
def b_X0_take_41 (p1 : Nat) (σ : St) : Option Rs := l_X0_take_46 p1 FU (13 : Int32) (0 : Int32) σ
set_option maxRecDepth 10000 in
set_option maxHeartbeats 1000000 in
theorem t_X0_take_41 {ε : Et} {κ : Kt} {z : Rs} (p1 : Nat) (h_p1 : Rw p1) (C : Cx ε κ cX0_take 4 RX0 2) (K : Ret ε κ cX0_take (some .int) 0 0 (PI ε z)) (σ : St) (ok : b_X0_take_41 p1 σ = some z) : G ε κ 0 0 41 [(0, .ref (ad ε 12)), (1, .ref (ad ε p1))] [] (WX ε σ) := by
  unfold b_X0_take_41 at ok
  refine g_bipush (v := 13) C dX0_take_41 (by decide) ?_
  refine g_istore_n C [(2, .int (13 : Int32)), (0, .ref (ad ε 12)), (1, .ref (ad ε p1))] dX0_take_43 rfl (by decide) rfl ?_
  refine g_iconst (v := 0) C dX0_take_44 (by decide) ?_
  refine g_istore_n C [(3, .int (0 : Int32)), (2, .int (13 : Int32)), (0, .ref (ad ε 12)), (1, .ref (ad ε p1))] dX0_take_45 rfl (by decide) rfl ?_
  refine g_pick (lv' := [(0, .ref (ad ε 12)), (1, .ref (ad ε p1)), (2, .int (13 : Int32)), (3, .int (0 : Int32))]) ?_ [2, 3, 1, 0] rfl
  exact tl_X0_take_46 p1 h_p1 C K FU _ _ _ ok
def f_X0_take (p1 : Nat) (σ : St) : Option Rs := (if (16 : Int32) ≤ (σ.1 12 2) then b_X0_take_19 p1 σ else bd (f_X4_isOfBases p1 (1 : Int32) (12 : Int32) σ) (fun r2 s3 => (if r2 = 0 then b_X0_take_19 p1 s3 else (if (s3.1 12 2) ≤ 0 then b_X0_take_41 p1 s3 else bd (f_X4_size p1 s3) (fun r7 s8 => (if r7 = (s8.1 12 3) then b_X0_take_41 p1 s8 else some ((-1 : Int32), s8)))))))
set_option maxRecDepth 10000 in
set_option maxHeartbeats 1000000 in
theorem tf_X0_take {ε : Et} {κ : Kt} {z : Rs} (p1 : Nat) (h_p1 : Rw p1) (C : Cx ε κ cX0_take 4 RX0 2) (K : Ret ε κ cX0_take (some .int) 0 0 (PI ε z)) (σ : St) (ok : f_X0_take p1 σ = some z) : G ε κ 0 0 0 [(0, .ref (ad ε 12)), (1, .ref (ad ε p1))] [] (WX ε σ) := by
  unfold f_X0_take at ok
  refine g_aload_n C dX0_take_0 rfl 0 rfl ?_
  refine q_X0_28 C dX0_take_1 ?_
  refine g_bipush (v := 16) C dX0_take_4 (by decide) ?_
  refine g_icmp_ge (tgt := 19) C dX0_take_6 (by decide) (fun c1 => ?_) (fun c1 => ?_)
  · replace ok := ok_t c1 ok
    refine g_pick (lv' := []) ?_ [] rfl
    exact t_X0_take_19 p1 h_p1 C K _ ok
  · replace ok := ok_f c1 ok
    refine g_aload_n C dX0_take_9 rfl 1 rfl ?_
    refine g_iconst (v := 1) C dX0_take_10 (by decide) ?_
    refine g_bipush (v := 12) C dX0_take_11 (by decide) ?_
    obtain ⟨r2, s3, e4, ok⟩ := bd_ok ok
    refine q_cI C [.int (1 : Int32), .int (12 : Int32)] (c_X4_isOfBases h_p1 e4) wv_X0_34 (by decide) (rw_lt h_p1) (wx_X4 h_p1) rfl rfl rfl (Nat.le_of_ble_eq_true rfl) dX0_take_13 ?_
    refine g_if_ne (tgt := 21) C dX0_take_16 (by decide) (fun c5 => ?_) (fun c5 => ?_)
    · replace ok := ok_f c5 ok
      refine g_aload_n C dX0_take_21 rfl 0 rfl ?_
      refine q_X0_28 C dX0_take_22 ?_
      refine g_if_le (tgt := 41) C dX0_take_25 (by decide) (fun c6 => ?_) (fun c6 => ?_)
      · replace ok := ok_t c6 ok
        exact t_X0_take_41 p1 h_p1 C K _ ok
      · replace ok := ok_f c6 ok
        refine g_aload_n C dX0_take_28 rfl 1 rfl ?_
        obtain ⟨r7, s8, e9, ok⟩ := bd_ok ok
        refine q_cI C [] (c_X4_size h_p1 e9) wv_X0_38 (by decide) (rw_lt h_p1) (wx_X4 h_p1) rfl rfl rfl (Nat.le_of_ble_eq_true rfl) dX0_take_29 ?_
        refine g_aload_n C dX0_take_32 rfl 0 rfl ?_
        refine q_X0_31 C dX0_take_33 ?_
        refine g_icmp_eq (tgt := 41) C dX0_take_36 (by decide) (fun c10 => ?_) (fun c10 => ?_)
        · replace ok := ok_t c10 ok
          exact t_X0_take_41 p1 h_p1 C K _ ok
        · replace ok := ok_f c10 ok
          refine g_iconst (v := -1) C dX0_take_39 (by decide) ?_
          exact K.2 .int _ _ _ _ rfl dX0_take_40 rfl (pi_ok ok)
    · replace ok := ok_t c5 ok
      refine g_pick (lv' := []) ?_ [] rfl
      exact t_X0_take_19 p1 h_p1 C K _ ok
theorem c_X0_take {l : Launch} {ε : Et} {σ : St} {z : Rs} {p1 : Nat} (h_p1 : Rw p1) (e : f_X0_take p1 σ = some z) : RM l ε yX0_take cX0_take 4 (some .int) 2 0 0 [.ref (ad ε 12), .ref (ad ε p1)] (WX ε σ) (PI ε z) := RM.of (by decide) (Nat.le_of_ble_eq_true rfl) (fun κ C K => tf_X0_take p1 h_p1 C K σ e)
def b_X0_nearTo_48 (b1 : Bool) (k48 : Int32 → Int32 → St → Option Rs) (x3 : Int32) (x4 : Int32) (σ : St) : Option Rs := (if (σ.1 12 2) ≤ x4 then some ((-1 : Int32), σ) else bd (f_X0_distance x4 14 σ) (fun r2 s3 => (if x3 < r2 then nx (x4 + (1 : Int32)) (fun y6 => k48 x3 y6 s3) else some (x4, s3))))
set_option maxRecDepth 10000 in
set_option maxHeartbeats 1000000 in
theorem t_X0_nearTo_48 {ε : Et} {κ : Kt} {z : Rs} (b1 : Bool) (C : Cx ε κ cX0_nearTo 5 RX0 2) (K : Ret ε κ cX0_nearTo (some .int) 0 0 (PI ε z)) (k48 : Int32 → Int32 → St → Option Rs) (g48 : ∀ (x3 : Int32) (x4 : Int32) (σ : St), k48 x3 x4 σ = some z → G ε κ 0 0 48 [(0, .ref (ad ε 12)), (3, .int x3), (4, .int x4)] [] (WX ε σ)) (x3 : Int32) (x4 : Int32) (σ : St) (ok : b_X0_nearTo_48 b1 k48 x3 x4 σ = some z) : G ε κ 0 0 48 [(0, .ref (ad ε 12)), (3, .int x3), (4, .int x4)] [] (WX ε σ) := by
  unfold b_X0_nearTo_48 at ok
  refine g_iload C dX0_nearTo_48 2 rfl ?_
  refine g_aload_n C dX0_nearTo_50 rfl 0 rfl ?_
  refine q_X0_28 C dX0_nearTo_51 ?_
  refine g_icmp_ge (tgt := 80) C dX0_nearTo_54 (by decide) (fun c1 => ?_) (fun c1 => ?_)
  · replace ok := ok_t c1 ok
    refine g_iconst (v := -1) C dX0_nearTo_80 (by decide) ?_
    exact K.2 .int _ _ _ _ rfl dX0_nearTo_81 rfl (pi_ok ok)
  · replace ok := ok_f c1 ok
    refine g_aload_n C dX0_nearTo_57 rfl 0 rfl ?_
    refine g_iload C dX0_nearTo_58 2 rfl ?_
    refine g_aload_n C dX0_nearTo_60 rfl 0 rfl ?_
    refine q_X0_20 C dX0_nearTo_61 ?_
    obtain ⟨r2, s3, e4, ok⟩ := bd_ok ok
    refine q_cI C [.int x4, .ref (ad ε 14)] (c_X0_distance rw_14 e4) wv_X0_42 (by decide) (lt_N (by decide)) wx_X0 rfl rfl rfl (Nat.le_of_ble_eq_true rfl) dX0_nearTo_64 ?_
    refine g_iload_n C dX0_nearTo_67 rfl 1 rfl ?_
    refine g_icmp_gt (tgt := 74) C dX0_nearTo_68 (by decide) (fun c5 => ?_) (fun c5 => ?_)
    · replace ok := ok_t c5 ok
      obtain ⟨y6, e7⟩ : ∃ y : Int32, y = (x4 + (1 : Int32)) := ⟨_, rfl⟩
      replace ok := nx_ok ok y6 e7
      refine g_iinc (v := y6) C [(4, .int y6), (0, .ref (ad ε 12)), (3, .int x3)] dX0_nearTo_74 2 rfl (by rw [e7]; rfl) (by decide) rfl ?_
      refine g_goto (tgt := 48) C dX0_nearTo_77 (by decide) ?_
      refine g_pick (lv' := [(0, .ref (ad ε 12)), (3, .int x3), (4, .int y6)]) ?_ [1, 2, 0] rfl
      exact g48 _ _ _ ok
    · replace ok := ok_f c5 ok
      refine g_iload C dX0_nearTo_71 2 rfl ?_
      exact K.2 .int _ _ _ _ rfl dX0_nearTo_73 rfl (pi_ok ok)
def l_X0_nearTo_48 (b1 : Bool) : Nat → Int32 → Int32 → St → Option Rs
  | 0 => fun _ _ _ => none
  | n + 1 => fun x3 x4 σ => b_X0_nearTo_48 b1 (l_X0_nearTo_48 b1 n) x3 x4 σ
theorem tl_X0_nearTo_48 {ε : Et} {κ : Kt} {z : Rs} (b1 : Bool) (C : Cx ε κ cX0_nearTo 5 RX0 2) (K : Ret ε κ cX0_nearTo (some .int) 0 0 (PI ε z)) : ∀ (n : Nat) (x3 : Int32) (x4 : Int32) (σ : St), l_X0_nearTo_48 b1 n x3 x4 σ = some z → G ε κ 0 0 48 [(0, .ref (ad ε 12)), (3, .int x3), (4, .int x4)] [] (WX ε σ) := by
  intro n
  induction n with
  | zero =>
    intro x3 x4 σ ok
    cases ok
  | succ n ih =>
    intro x3 x4 σ ok
    exact t_X0_nearTo_48 b1 C K (l_X0_nearTo_48 b1 n) ih x3 x4 σ ok
def b_X0_nearTo_9 (b1 : Bool) (k9 : Int32 → Int32 → St → Option Rs) (x2 : Int32) (x3 : Int32) (σ : St) : Option Rs := (if (σ.1 12 3) ≤ x3 then nx (((σ.1 12 4) - (1 : Int32)) / (2 : Int32)) (fun y2 => l_X0_nearTo_48 b1 FU y2 (0 : Int32) σ) else bd (f_X3_letterOctet b1 x2 x3 σ) (fun r4 s5 => bd (f_X4_add 14 r4 s5) (fun r7 s8 => nx (x3 + (1 : Int32)) (fun y10 => k9 x2 y10 s8))))
set_option maxRecDepth 10000 in
set_option maxHeartbeats 1000000 in
theorem t_X0_nearTo_9 {ε : Et} {κ : Kt} {z : Rs} (b1 : Bool) (C : Cx ε κ cX0_nearTo 5 RX0 2) (K : Ret ε κ cX0_nearTo (some .int) 0 0 (PI ε z)) (k9 : Int32 → Int32 → St → Option Rs) (g9 : ∀ (x2 : Int32) (x3 : Int32) (σ : St), k9 x2 x3 σ = some z → G ε κ 0 0 9 [(0, .ref (ad ε 12)), (1, .ref (ad ε (bs b1))), (2, .int x2), (3, .int x3)] [] (WX ε σ)) (x2 : Int32) (x3 : Int32) (σ : St) (ok : b_X0_nearTo_9 b1 k9 x2 x3 σ = some z) : G ε κ 0 0 9 [(0, .ref (ad ε 12)), (1, .ref (ad ε (bs b1))), (2, .int x2), (3, .int x3)] [] (WX ε σ) := by
  unfold b_X0_nearTo_9 at ok
  refine g_iload_n C dX0_nearTo_9 rfl 3 rfl ?_
  refine g_aload_n C dX0_nearTo_10 rfl 0 rfl ?_
  refine q_X0_31 C dX0_nearTo_11 ?_
  refine g_icmp_ge (tgt := 36) C dX0_nearTo_14 (by decide) (fun c1 => ?_) (fun c1 => ?_)
  · replace ok := ok_t c1 ok
    refine g_aload_n C dX0_nearTo_36 rfl 0 rfl ?_
    refine q_X0_24 C dX0_nearTo_37 ?_
    refine g_iconst (v := 1) C dX0_nearTo_40 (by decide) ?_
    refine g_isub C dX0_nearTo_41 ?_
    refine g_iconst (v := 2) C dX0_nearTo_42 (by decide) ?_
    refine g_idiv C dX0_nearTo_43 (by decide) ?_
    refine q_nm (fun y2 e3 => ?_)
    replace ok := nx_ok ok y2 e3
    refine g_istore_n C [(3, .int y2), (0, .ref (ad ε 12)), (1, .ref (ad ε (bs b1))), (2, .int x2)] dX0_nearTo_44 rfl (by decide) rfl ?_
    refine g_iconst (v := 0) C dX0_nearTo_45 (by decide) ?_
    refine g_istore C [(4, .int (0 : Int32)), (3, .int y2), (0, .ref (ad ε 12)), (1, .ref (ad ε (bs b1))), (2, .int x2)] dX0_nearTo_46 (by decide) rfl ?_
    refine g_pick (lv' := [(0, .ref (ad ε 12)), (3, .int y2), (4, .int (0 : Int32))]) ?_ [2, 1, 0] rfl
    exact tl_X0_nearTo_48 b1 C K FU _ _ _ ok
  · replace ok := ok_f c1 ok
    refine g_aload_n C dX0_nearTo_17 rfl 0 rfl ?_
    refine q_X0_20 C dX0_nearTo_18 ?_
    refine g_aload_n C dX0_nearTo_21 rfl 1 rfl ?_
    refine g_iload_n C dX0_nearTo_22 rfl 2 rfl ?_
    refine g_iload_n C dX0_nearTo_23 rfl 3 rfl ?_
    obtain ⟨r4, s5, e6, ok⟩ := bd_ok ok
    refine q_cI C [.int x2, .int x3] (c_X3_letterOctet e6) wv_X0_59 (by decide) (bs_lt b1) (wx_X3 b1) rfl rfl rfl (Nat.le_of_ble_eq_true rfl) dX0_nearTo_24 ?_
    obtain ⟨r7, s8, e9, ok⟩ := bd_ok ok
    refine q_cV C [.int r4] (c_X4_add rw_14 e9) wv_X0_64 (by decide) (rw_lt rw_14) (wx_X4 rw_14) rfl rfl rfl (Nat.le_of_ble_eq_true rfl) dX0_nearTo_27 ?_
    obtain ⟨y10, e11⟩ : ∃ y : Int32, y = (x3 + (1 : Int32)) := ⟨_, rfl⟩
    replace ok := nx_ok ok y10 e11
    refine g_iinc (v := y10) C [(3, .int y10), (0, .ref (ad ε 12)), (1, .ref (ad ε (bs b1))), (2, .int x2)] dX0_nearTo_30 3 rfl (by rw [e11]; rfl) (by decide) rfl ?_
    refine g_goto (tgt := 9) C dX0_nearTo_33 (by decide) ?_
    refine g_pick (lv' := [(0, .ref (ad ε 12)), (1, .ref (ad ε (bs b1))), (2, .int x2), (3, .int y10)]) ?_ [1, 2, 3, 0] rfl
    exact g9 _ _ _ ok
def l_X0_nearTo_9 (b1 : Bool) : Nat → Int32 → Int32 → St → Option Rs
  | 0 => fun _ _ _ => none
  | n + 1 => fun x2 x3 σ => b_X0_nearTo_9 b1 (l_X0_nearTo_9 b1 n) x2 x3 σ
theorem tl_X0_nearTo_9 {ε : Et} {κ : Kt} {z : Rs} (b1 : Bool) (C : Cx ε κ cX0_nearTo 5 RX0 2) (K : Ret ε κ cX0_nearTo (some .int) 0 0 (PI ε z)) : ∀ (n : Nat) (x2 : Int32) (x3 : Int32) (σ : St), l_X0_nearTo_9 b1 n x2 x3 σ = some z → G ε κ 0 0 9 [(0, .ref (ad ε 12)), (1, .ref (ad ε (bs b1))), (2, .int x2), (3, .int x3)] [] (WX ε σ) := by
  intro n
  induction n with
  | zero =>
    intro x2 x3 σ ok
    cases ok
  | succ n ih =>
    intro x2 x3 σ ok
    exact t_X0_nearTo_9 b1 C K (l_X0_nearTo_9 b1 n) ih x2 x3 σ ok
def f_X0_nearTo (b1 : Bool) (x2 : Int32) (σ : St) : Option Rs := bd (f_X4_clear 14 σ) (fun r1 s2 => l_X0_nearTo_9 b1 FU x2 (0 : Int32) s2)
set_option maxRecDepth 10000 in
set_option maxHeartbeats 1000000 in
theorem tf_X0_nearTo {ε : Et} {κ : Kt} {z : Rs} (b1 : Bool) (C : Cx ε κ cX0_nearTo 5 RX0 2) (K : Ret ε κ cX0_nearTo (some .int) 0 0 (PI ε z)) (x2 : Int32) (σ : St) (ok : f_X0_nearTo b1 x2 σ = some z) : G ε κ 0 0 0 [(0, .ref (ad ε 12)), (1, .ref (ad ε (bs b1))), (2, .int x2)] [] (WX ε σ) := by
  unfold f_X0_nearTo at ok
  refine g_aload_n C dX0_nearTo_0 rfl 0 rfl ?_
  refine q_X0_20 C dX0_nearTo_1 ?_
  obtain ⟨r1, s2, e3, ok⟩ := bd_ok ok
  refine q_cV C [] (c_X4_clear rw_14 e3) wv_X0_56 (by decide) (rw_lt rw_14) (wx_X4 rw_14) rfl rfl rfl (Nat.le_of_ble_eq_true rfl) dX0_nearTo_4 ?_
  refine g_iconst (v := 0) C dX0_nearTo_7 (by decide) ?_
  refine g_istore_n C [(3, .int (0 : Int32)), (0, .ref (ad ε 12)), (1, .ref (ad ε (bs b1))), (2, .int x2)] dX0_nearTo_8 rfl (by decide) rfl ?_
  refine g_pick (lv' := [(0, .ref (ad ε 12)), (1, .ref (ad ε (bs b1))), (2, .int x2), (3, .int (0 : Int32))]) ?_ [1, 2, 3, 0] rfl
  exact tl_X0_nearTo_9 b1 C K FU _ _ _ ok
theorem c_X0_nearTo {l : Launch} {ε : Et} {σ : St} {z : Rs} {b1 : Bool} {x2 : Int32} (e : f_X0_nearTo b1 x2 σ = some z) : RM l ε yX0_nearTo cX0_nearTo 5 (some .int) 2 0 0 [.ref (ad ε 12), .ref (ad ε (bs b1)), .int x2] (WX ε σ) (PI ε z) := RM.of (by decide) (Nat.le_of_ble_eq_true rfl) (fun κ C K => tf_X0_nearTo b1 C K x2 σ e)
