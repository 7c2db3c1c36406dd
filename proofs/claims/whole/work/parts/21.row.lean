def b_X4_at_31 (p0 : Nat) (t0 : Int32) (σ : St) : Option Rs := some (t0, σ)
set_option maxRecDepth 10000 in
set_option maxHeartbeats 1000000 in
theorem t_X4_at_31 {ε : Et} {κ : Kt} {z : Rs} (p0 : Nat) (h_p0 : Rw p0) (C : Cx ε κ cX4_at 2 RX4 0) (K : Ret ε κ cX4_at (some .int) 0 0 (PI ε z)) (t0 : Int32) (σ : St) (ok : b_X4_at_31 p0 t0 σ = some z) : G ε κ 0 0 31 [] [.int t0] (WX ε σ) := by
  unfold b_X4_at_31 at ok
  exact K.2 .int _ _ _ _ rfl dX4_at_31 rfl (pi_ok ok)
def b_X4_at_30 (p0 : Nat) (σ : St) : Option Rs := b_X4_at_31 p0 (-1 : Int32) σ
set_option maxRecDepth 10000 in
set_option maxHeartbeats 1000000 in
theorem t_X4_at_30 {ε : Et} {κ : Kt} {z : Rs} (p0 : Nat) (h_p0 : Rw p0) (C : Cx ε κ cX4_at 2 RX4 0) (K : Ret ε κ cX4_at (some .int) 0 0 (PI ε z)) (σ : St) (ok : b_X4_at_30 p0 σ = some z) : G ε κ 0 0 30 [] [] (WX ε σ) := by
  unfold b_X4_at_30 at ok
  refine g_iconst (v := -1) C dX4_at_30 (by decide) ?_
  exact t_X4_at_31 p0 h_p0 C K _ _ ok
def f_X4_at (p0 : Nat) (x1 : Int32) (σ : St) : Option Rs := (if x1 < 0 then b_X4_at_30 p0 σ else (if (σ.1 p0 1) ≤ x1 then b_X4_at_30 p0 σ else (if (nI (ln (p0 + 1))) ≤ x1 then b_X4_at_30 p0 σ else gd (inb x1 (ln (p0 + 1))) (b_X4_at_31 p0 (σ.2.1 (p0 + 1) x1.toNatClampNeg) σ))))
set_option maxRecDepth 10000 in
set_option maxHeartbeats 1000000 in
theorem tf_X4_at {ε : Et} {κ : Kt} {z : Rs} (p0 : Nat) (h_p0 : Rw p0) (C : Cx ε κ cX4_at 2 RX4 0) (K : Ret ε κ cX4_at (some .int) 0 0 (PI ε z)) (x1 : Int32) (σ : St) (ok : f_X4_at p0 x1 σ = some z) : G ε κ 0 0 0 [(0, .ref (ad ε p0)), (1, .int x1)] [] (WX ε σ) := by
  unfold f_X4_at at ok
  refine g_iload_n C dX4_at_0 rfl 1 rfl ?_
  refine g_if_lt (tgt := 30) C dX4_at_1 (by decide) (fun c1 => ?_) (fun c1 => ?_)
  · replace ok := ok_t c1 ok
    refine g_pick (lv' := []) ?_ [] rfl
    exact t_X4_at_30 p0 h_p0 C K _ ok
  · replace ok := ok_f c1 ok
    refine g_iload_n C dX4_at_4 rfl 1 rfl ?_
    refine g_aload_n C dX4_at_5 rfl 0 rfl ?_
    refine q_X4_21 C h_p0 dX4_at_6 ?_
    refine g_icmp_ge (tgt := 30) C dX4_at_9 (by decide) (fun c2 => ?_) (fun c2 => ?_)
    · replace ok := ok_t c2 ok
      refine g_pick (lv' := []) ?_ [] rfl
      exact t_X4_at_30 p0 h_p0 C K _ ok
    · replace ok := ok_f c2 ok
      refine g_iload_n C dX4_at_12 rfl 1 rfl ?_
      refine g_aload_n C dX4_at_13 rfl 0 rfl ?_
      refine q_X4_15 C h_p0 dX4_at_14 ?_
      refine q_len C (ai_rw h_p0) dX4_at_17 ?_
      refine g_icmp_ge (tgt := 30) C dX4_at_18 (by decide) (fun c3 => ?_) (fun c3 => ?_)
      · replace ok := ok_t c3 ok
        refine g_pick (lv' := []) ?_ [] rfl
        exact t_X4_at_30 p0 h_p0 C K _ ok
      · replace ok := ok_f c3 ok
        refine g_aload_n C dX4_at_21 rfl 0 rfl ?_
        refine q_X4_15 C h_p0 dX4_at_22 ?_
        refine g_iload_n C dX4_at_25 rfl 1 rfl ?_
        obtain ⟨h4, ok⟩ := gd_ok ok
        refine q_ald C (ai_rw h_p0) h4 dX4_at_26 ?_
        refine g_goto (tgt := 31) C dX4_at_27 (by decide) ?_
        refine g_pick (lv' := []) ?_ [] rfl
        exact t_X4_at_31 p0 h_p0 C K _ _ ok
theorem c_X4_at {l : Launch} {ε : Et} {σ : St} {z : Rs} {p0 : Nat} {x1 : Int32} (h_p0 : Rw p0) (e : f_X4_at p0 x1 σ = some z) : RM l ε yX4_at cX4_at 2 (some .int) 0 0 0 [.ref (ad ε p0), .int x1] (WX ε σ) (PI ε z) := RM.of (by decide) (Nat.le_of_ble_eq_true rfl) (fun κ C K => tf_X4_at p0 h_p0 C K x1 σ e)
def b_X4_isOfBases_16 (p0 : Nat) (σ : St) : Option Rs := gz (0 : Int32) (some ((0 : Int32), σ))
set_option maxRecDepth 10000 in
set_option maxHeartbeats 1000000 in
theorem t_X4_isOfBases_16 {ε : Et} {κ : Kt} {z : Rs} (p0 : Nat) (h_p0 : Rw p0) (C : Cx ε κ cX4_isOfBases 4 RX4 1) (K : Ret ε κ cX4_isOfBases (some .boolean) 0 0 (PI ε z)) (σ : St) (ok : b_X4_isOfBases_16 p0 σ = some z) : G ε κ 0 0 16 [] [] (WX ε σ) := by
  unfold b_X4_isOfBases_16 at ok
  refine g_iconst (v := 0) C dX4_isOfBases_16 (by decide) ?_
  obtain ⟨z1, ok⟩ := gz_ok ok
  exact K.2 .boolean _ _ _ _ rfl dX4_isOfBases_17 (nar_b z1) (pi_ok ok)
def b_X4_isOfBases_20 (p0 : Nat) (k20 : Int32 → St → Option Rs) (x3 : Int32) (σ : St) : Option Rs := (if (σ.1 p0 1) ≤ x3 then gz (1 : Int32) (some ((1 : Int32), σ)) else bd (f_X4_at p0 x3 σ) (fun r3 s4 => bd (f_X8_isBase r3 s4) (fun r6 s7 => (if r6 = 0 then gz (0 : Int32) (some ((0 : Int32), s7)) else nx (x3 + (1 : Int32)) (fun y10 => k20 y10 s7)))))
set_option maxRecDepth 10000 in
set_option maxHeartbeats 1000000 in
theorem t_X4_isOfBases_20 {ε : Et} {κ : Kt} {z : Rs} (p0 : Nat) (h_p0 : Rw p0) (C : Cx ε κ cX4_isOfBases 4 RX4 1) (K : Ret ε κ cX4_isOfBases (some .boolean) 0 0 (PI ε z)) (k20 : Int32 → St → Option Rs) (g20 : ∀ (x3 : Int32) (σ : St), k20 x3 σ = some z → G ε κ 0 0 20 [(0, .ref (ad ε p0)), (3, .int x3)] [] (WX ε σ)) (x3 : Int32) (σ : St) (ok : b_X4_isOfBases_20 p0 k20 x3 σ = some z) : G ε κ 0 0 20 [(0, .ref (ad ε p0)), (3, .int x3)] [] (WX ε σ) := by
  unfold b_X4_isOfBases_20 at ok
  refine g_iload_n C dX4_isOfBases_20 rfl 1 rfl ?_
  refine g_aload_n C dX4_isOfBases_21 rfl 0 rfl ?_
  refine q_X4_21 C h_p0 dX4_isOfBases_22 ?_
  refine g_icmp_ge (tgt := 47) C dX4_isOfBases_25 (by decide) (fun c1 => ?_) (fun c1 => ?_)
  · replace ok := ok_t c1 ok
    refine g_iconst (v := 1) C dX4_isOfBases_47 (by decide) ?_
    obtain ⟨z2, ok⟩ := gz_ok ok
    exact K.2 .boolean _ _ _ _ rfl dX4_isOfBases_48 (nar_b z2) (pi_ok ok)
  · replace ok := ok_f c1 ok
    refine g_aload_n C dX4_isOfBases_28 rfl 0 rfl ?_
    refine g_iload_n C dX4_isOfBases_29 rfl 1 rfl ?_
    obtain ⟨r3, s4, e5, ok⟩ := bd_ok ok
    refine q_cI C [.int x3] (c_X4_at h_p0 e5) wv_X4_31 (by decide) (rw_lt h_p0) (wx_X4 h_p0) rfl rfl rfl (Nat.le_of_ble_eq_true rfl) dX4_isOfBases_30 ?_
    obtain ⟨r6, s7, e8, ok⟩ := bd_ok ok
    refine q_nI C [.int r3] (c_X8_isBase e8) wv_X4_39 (by decide) rfl rfl (Nat.le_of_ble_eq_true rfl) dX4_isOfBases_33 ?_
    refine g_if_ne (tgt := 41) C dX4_isOfBases_36 (by decide) (fun c9 => ?_) (fun c9 => ?_)
    · replace ok := ok_f c9 ok
      obtain ⟨y10, e11⟩ : ∃ y : Int32, y = (x3 + (1 : Int32)) := ⟨_, rfl⟩
      replace ok := nx_ok ok y10 e11
      refine g_iinc (v := y10) C [(3, .int y10), (0, .ref (ad ε p0))] dX4_isOfBases_41 1 rfl (by rw [e11]; rfl) (by decide) rfl ?_
      refine g_goto (tgt := 20) C dX4_isOfBases_44 (by decide) ?_
      refine g_pick (lv' := [(0, .ref (ad ε p0)), (3, .int y10)]) ?_ [1, 0] rfl
      exact g20 _ _ ok
    · replace ok := ok_t c9 ok
      refine g_iconst (v := 0) C dX4_isOfBases_39 (by decide) ?_
      obtain ⟨z12, ok⟩ := gz_ok ok
      exact K.2 .boolean _ _ _ _ rfl dX4_isOfBases_40 (nar_b z12) (pi_ok ok)
def l_X4_isOfBases_20 (p0 : Nat) : Nat → Int32 → St → Option Rs
  | 0 => fun _ _ => none
  | n + 1 => fun x3 σ => b_X4_isOfBases_20 p0 (l_X4_isOfBases_20 p0 n) x3 σ
theorem tl_X4_isOfBases_20 {ε : Et} {κ : Kt} {z : Rs} (p0 : Nat) (h_p0 : Rw p0) (C : Cx ε κ cX4_isOfBases 4 RX4 1) (K : Ret ε κ cX4_isOfBases (some .boolean) 0 0 (PI ε z)) : ∀ (n : Nat) (x3 : Int32) (σ : St), l_X4_isOfBases_20 p0 n x3 σ = some z → G ε κ 0 0 20 [(0, .ref (ad ε p0)), (3, .int x3)] [] (WX ε σ) := by
  intro n
  induction n with
  | zero =>
    intro x3 σ ok
    cases ok
  | succ n ih =>
    intro x3 σ ok
    exact t_X4_isOfBases_20 p0 h_p0 C K (l_X4_isOfBases_20 p0 n) ih x3 σ ok
def f_X4_isOfBases (p0 : Nat) (x1 : Int32) (x2 : Int32) (σ : St) : Option Rs := (if (σ.1 p0 1) < x1 then b_X4_isOfBases_16 p0 σ else (if (σ.1 p0 1) ≤ x2 then l_X4_isOfBases_20 p0 FU (0 : Int32) σ else b_X4_isOfBases_16 p0 σ))
set_option maxRecDepth 10000 in
set_option maxHeartbeats 1000000 in
theorem tf_X4_isOfBases {ε : Et} {κ : Kt} {z : Rs} (p0 : Nat) (h_p0 : Rw p0) (C : Cx ε κ cX4_isOfBases 4 RX4 1) (K : Ret ε κ cX4_isOfBases (some .boolean) 0 0 (PI ε z)) (x1 : Int32) (x2 : Int32) (σ : St) (ok : f_X4_isOfBases p0 x1 x2 σ = some z) : G ε κ 0 0 0 [(0, .ref (ad ε p0)), (1, .int x1), (2, .int x2)] [] (WX ε σ) := by
  unfold f_X4_isOfBases at ok
  refine g_aload_n C dX4_isOfBases_0 rfl 0 rfl ?_
  refine q_X4_21 C h_p0 dX4_isOfBases_1 ?_
  refine g_iload_n C dX4_isOfBases_4 rfl 1 rfl ?_
  refine g_icmp_lt (tgt := 16) C dX4_isOfBases_5 (by decide) (fun c1 => ?_) (fun c1 => ?_)
  · replace ok := ok_t c1 ok
    refine g_pick (lv' := []) ?_ [] rfl
    exact t_X4_isOfBases_16 p0 h_p0 C K _ ok
  · replace ok := ok_f c1 ok
    refine g_aload_n C dX4_isOfBases_8 rfl 0 rfl ?_
    refine q_X4_21 C h_p0 dX4_isOfBases_9 ?_
    refine g_iload_n C dX4_isOfBases_12 rfl 2 rfl ?_
    refine g_icmp_le (tgt := 18) C dX4_isOfBases_13 (by decide) (fun c2 => ?_) (fun c2 => ?_)
    · replace ok := ok_t c2 ok
      refine g_iconst (v := 0) C dX4_isOfBases_18 (by decide) ?_
      refine g_istore_n C [(3, .int (0 : Int32)), (0, .ref (ad ε p0)), (1, .int x1), (2, .int x2)] dX4_isOfBases_19 rfl (by decide) rfl ?_
      refine g_pick (lv' := [(0, .ref (ad ε p0)), (3, .int (0 : Int32))]) ?_ [1, 0] rfl
      exact tl_X4_isOfBases_20 p0 h_p0 C K FU _ _ ok
    · replace ok := ok_f c2 ok
      refine g_pick (lv' := []) ?_ [] rfl
      exact t_X4_isOfBases_16 p0 h_p0 C K _ ok
theorem c_X4_isOfBases {l : Launch} {ε : Et} {σ : St} {z : Rs} {p0 : Nat} {x1 : Int32} {x2 : Int32} (h_p0 : Rw p0) (e : f_X4_isOfBases p0 x1 x2 σ = some z) : RM l ε yX4_isOfBases cX4_isOfBases 4 (some .boolean) 1 0 0 [.ref (ad ε p0), .int x1, .int x2] (WX ε σ) (PI ε z) := RM.of (by decide) (Nat.le_of_ble_eq_true rfl) (fun κ C K => tf_X4_isOfBases p0 h_p0 C K x1 x2 σ e)
def f_X4_size (p0 : Nat) (σ : St) : Option Rs := some ((σ.1 p0 1), σ)
set_option maxRecDepth 10000 in
set_option maxHeartbeats 1000000 in
theorem tf_X4_size {ε : Et} {κ : Kt} {z : Rs} (p0 : Nat) (h_p0 : Rw p0) (C : Cx ε κ cX4_size 1 RX4 0) (K : Ret ε κ cX4_size (some .int) 0 0 (PI ε z)) (σ : St) (ok : f_X4_size p0 σ = some z) : G ε κ 0 0 0 [(0, .ref (ad ε p0))] [] (WX ε σ) := by
  unfold f_X4_size at ok
  refine g_aload_n C dX4_size_0 rfl 0 rfl ?_
  refine q_X4_21 C h_p0 dX4_size_1 ?_
  exact K.2 .int _ _ _ _ rfl dX4_size_4 rfl (pi_ok ok)
theorem c_X4_size {l : Launch} {ε : Et} {σ : St} {z : Rs} {p0 : Nat} (h_p0 : Rw p0) (e : f_X4_size p0 σ = some z) : RM l ε yX4_size cX4_size 1 (some .int) 0 0 0 [.ref (ad ε p0)] (WX ε σ) (PI ε z) := RM.of (by decide) (Nat.le_of_ble_eq_true rfl) (fun κ C K => tf_X4_size p0 h_p0 C K σ e)
def f_X4_clear (p0 : Nat) (σ : St) : Option Rs := nx (sS σ p0 1 (0 : Int32)) (fun s1 => some ((0 : Int32), s1))
set_option maxRecDepth 10000 in
set_option maxHeartbeats 1000000 in
theorem tf_X4_clear {ε : Et} {κ : Kt} {z : Rs} (p0 : Nat) (h_p0 : Rw p0) (C : Cx ε κ cX4_clear 1 RX4 0) (K : Ret ε κ cX4_clear none 0 0 (PV ε z)) (σ : St) (ok : f_X4_clear p0 σ = some z) : G ε κ 0 0 0 [(0, .ref (ad ε p0))] [] (WX ε σ) := by
  unfold f_X4_clear at ok
  refine g_aload_n C dX4_clear_0 rfl 0 rfl ?_
  refine g_iconst (v := 0) C dX4_clear_1 (by decide) ?_
  refine p_X4_21 C h_p0 dX4_clear_2 (fun s1 e2 => ?_)
  replace ok := nx_ok ok s1 e2
  exact K.1 rfl _ _ _ dX4_clear_5 (pv_ok ok)
theorem c_X4_clear {l : Launch} {ε : Et} {σ : St} {z : Rs} {p0 : Nat} (h_p0 : Rw p0) (e : f_X4_clear p0 σ = some z) : RM l ε yX4_clear cX4_clear 1 none 0 0 0 [.ref (ad ε p0)] (WX ε σ) (PV ε z) := RM.of (by decide) (Nat.le_of_ble_eq_true rfl) (fun κ C K => tf_X4_clear p0 h_p0 C K σ e)
def b_X4_add_39 (p0 : Nat) (σ : St) : Option Rs := some ((0 : Int32), σ)
set_option maxRecDepth 10000 in
set_option maxHeartbeats 1000000 in
theorem t_X4_add_39 {ε : Et} {κ : Kt} {z : Rs} (p0 : Nat) (h_p0 : Rw p0) (C : Cx ε κ cX4_add 2 RX4 0) (K : Ret ε κ cX4_add none 0 0 (PV ε z)) (σ : St) (ok : b_X4_add_39 p0 σ = some z) : G ε κ 0 0 39 [] [] (WX ε σ) := by
  unfold b_X4_add_39 at ok
  exact K.1 rfl _ _ _ dX4_add_39 (pv_ok ok)
def f_X4_add (p0 : Nat) (x1 : Int32) (σ : St) : Option Rs := (if (σ.1 p0 1) < 0 then b_X4_add_39 p0 σ else (if (nI (ln (p0 + 1))) ≤ (σ.1 p0 1) then b_X4_add_39 p0 σ else gd (inb (σ.1 p0 1) (ln (p0 + 1))) (nx (sA σ (p0 + 1) (σ.1 p0 1) x1) (fun s4 => nx (sS s4 p0 1 ((s4.1 p0 1) + (1 : Int32))) (fun s6 => b_X4_add_39 p0 s6)))))
set_option maxRecDepth 10000 in
set_option maxHeartbeats 1000000 in
theorem tf_X4_add {ε : Et} {κ : Kt} {z : Rs} (p0 : Nat) (h_p0 : Rw p0) (C : Cx ε κ cX4_add 2 RX4 0) (K : Ret ε κ cX4_add none 0 0 (PV ε z)) (x1 : Int32) (σ : St) (ok : f_X4_add p0 x1 σ = some z) : G ε κ 0 0 0 [(0, .ref (ad ε p0)), (1, .int x1)] [] (WX ε σ) := by
  unfold f_X4_add at ok
  refine g_aload_n C dX4_add_0 rfl 0 rfl ?_
  refine q_X4_21 C h_p0 dX4_add_1 ?_
  refine g_if_lt (tgt := 39) C dX4_add_4 (by decide) (fun c1 => ?_) (fun c1 => ?_)
  · replace ok := ok_t c1 ok
    refine g_pick (lv' := []) ?_ [] rfl
    exact t_X4_add_39 p0 h_p0 C K _ ok
  · replace ok := ok_f c1 ok
    refine g_aload_n C dX4_add_7 rfl 0 rfl ?_
    refine q_X4_21 C h_p0 dX4_add_8 ?_
    refine g_aload_n C dX4_add_11 rfl 0 rfl ?_
    refine q_X4_15 C h_p0 dX4_add_12 ?_
    refine q_len C (ai_rw h_p0) dX4_add_15 ?_
    refine g_icmp_ge (tgt := 39) C dX4_add_16 (by decide) (fun c2 => ?_) (fun c2 => ?_)
    · replace ok := ok_t c2 ok
      refine g_pick (lv' := []) ?_ [] rfl
      exact t_X4_add_39 p0 h_p0 C K _ ok
    · replace ok := ok_f c2 ok
      refine g_aload_n C dX4_add_19 rfl 0 rfl ?_
      refine q_X4_15 C h_p0 dX4_add_20 ?_
      refine g_aload_n C dX4_add_23 rfl 0 rfl ?_
      refine q_X4_21 C h_p0 dX4_add_24 ?_
      refine g_iload_n C dX4_add_27 rfl 1 rfl ?_
      obtain ⟨h3, ok⟩ := gd_ok ok
      refine q_ast C (ai_rw h_p0) h3 dX4_add_28 (fun s4 e5 => ?_)
      replace ok := nx_ok ok s4 e5
      refine g_aload_n C dX4_add_29 rfl 0 rfl ?_
      refine g_dup C dX4_add_30 rfl ?_
      refine q_X4_21 C h_p0 dX4_add_31 ?_
      refine g_iconst (v := 1) C dX4_add_34 (by decide) ?_
      refine g_iadd C dX4_add_35 ?_
      refine p_X4_21 C h_p0 dX4_add_36 (fun s6 e7 => ?_)
      replace ok := nx_ok ok s6 e7
      refine g_pick (lv' := []) ?_ [] rfl
      exact t_X4_add_39 p0 h_p0 C K _ ok
theorem c_X4_add {l : Launch} {ε : Et} {σ : St} {z : Rs} {p0 : Nat} {x1 : Int32} (h_p0 : Rw p0) (e : f_X4_add p0 x1 σ = some z) : RM l ε yX4_add cX4_add 2 none 0 0 0 [.ref (ad ε p0), .int x1] (WX ε σ) (PV ε z) := RM.of (by decide) (Nat.le_of_ble_eq_true rfl) (fun κ C K => tf_X4_add p0 h_p0 C K x1 σ e)
def f_X4_room (p0 : Nat) (σ : St) : Option Rs := some (((nI (ln (p0 + 1))) - (σ.1 p0 1)), σ)
set_option maxRecDepth 10000 in
set_option maxHeartbeats 1000000 in
theorem tf_X4_room {ε : Et} {κ : Kt} {z : Rs} (p0 : Nat) (h_p0 : Rw p0) (C : Cx ε κ cX4_room 1 RX4 0) (K : Ret ε κ cX4_room (some .int) 0 0 (PI ε z)) (σ : St) (ok : f_X4_room p0 σ = some z) : G ε κ 0 0 0 [(0, .ref (ad ε p0))] [] (WX ε σ) := by
  unfold f_X4_room at ok
  refine g_aload_n C dX4_room_0 rfl 0 rfl ?_
  refine q_X4_15 C h_p0 dX4_room_1 ?_
  refine q_len C (ai_rw h_p0) dX4_room_4 ?_
  refine g_aload_n C dX4_room_5 rfl 0 rfl ?_
  refine q_X4_21 C h_p0 dX4_room_6 ?_
  refine g_isub C dX4_room_9 ?_
  exact K.2 .int _ _ _ _ rfl dX4_room_10 rfl (pi_ok ok)
theorem c_X4_room {l : Launch} {ε : Et} {σ : St} {z : Rs} {p0 : Nat} (h_p0 : Rw p0) (e : f_X4_room p0 σ = some z) : RM l ε yX4_room cX4_room 1 (some .int) 0 0 0 [.ref (ad ε p0)] (WX ε σ) (PI ε z) := RM.of (by decide) (Nat.le_of_ble_eq_true rfl) (fun κ C K => tf_X4_room p0 h_p0 C K σ e)
def b_X4_copy_6 (p0 : Nat) (p1 : Nat) (k6 : Int32 → St → Option Rs) (x2 : Int32) (σ : St) : Option Rs := bd (f_X4_size p1 σ) (fun r1 s2 => (if r1 ≤ x2 then some ((0 : Int32), s2) else bd (f_X4_at p1 x2 s2) (fun r5 s6 => bd (f_X4_add p0 r5 s6) (fun r8 s9 => nx (x2 + (1 : Int32)) (fun y11 => k6 y11 s9)))))
set_option maxRecDepth 10000 in
set_option maxHeartbeats 1000000 in
theorem t_X4_copy_6 {ε : Et} {κ : Kt} {z : Rs} (p0 : Nat) (p1 : Nat) (h_p0 : Rw p0) (h_p1 : Rw p1) (C : Cx ε κ cX4_copy 3 RX4 1) (K : Ret ε κ cX4_copy none 0 0 (PV ε z)) (k6 : Int32 → St → Option Rs) (g6 : ∀ (x2 : Int32) (σ : St), k6 x2 σ = some z → G ε κ 0 0 6 [(0, .ref (ad ε p0)), (1, .ref (ad ε p1)), (2, .int x2)] [] (WX ε σ)) (x2 : Int32) (σ : St) (ok : b_X4_copy_6 p0 p1 k6 x2 σ = some z) : G ε κ 0 0 6 [(0, .ref (ad ε p0)), (1, .ref (ad ε p1)), (2, .int x2)] [] (WX ε σ) := by
  unfold b_X4_copy_6 at ok
  refine g_iload_n C dX4_copy_6 rfl 2 rfl ?_
  refine g_aload_n C dX4_copy_7 rfl 1 rfl ?_
  obtain ⟨r1, s2, e3, ok⟩ := bd_ok ok
  refine q_cI C [] (c_X4_size h_p1 e3) wv_X4_28 (by decide) (rw_lt h_p1) (wx_X4 h_p1) rfl rfl rfl (Nat.le_of_ble_eq_true rfl) dX4_copy_8 ?_
  refine g_icmp_ge (tgt := 29) C dX4_copy_11 (by decide) (fun c4 => ?_) (fun c4 => ?_)
  · replace ok := ok_t c4 ok
    exact K.1 rfl _ _ _ dX4_copy_29 (pv_ok ok)
  · replace ok := ok_f c4 ok
    refine g_aload_n C dX4_copy_14 rfl 0 rfl ?_
    refine g_aload_n C dX4_copy_15 rfl 1 rfl ?_
    refine g_iload_n C dX4_copy_16 rfl 2 rfl ?_
    obtain ⟨r5, s6, e7, ok⟩ := bd_ok ok
    refine q_cI C [.int x2] (c_X4_at h_p1 e7) wv_X4_31 (by decide) (rw_lt h_p1) (wx_X4 h_p1) rfl rfl rfl (Nat.le_of_ble_eq_true rfl) dX4_copy_17 ?_
    obtain ⟨r8, s9, e10, ok⟩ := bd_ok ok
    refine q_cV C [.int r5] (c_X4_add h_p0 e10) wv_X4_35 (by decide) (rw_lt h_p0) (wx_X4 h_p0) rfl rfl rfl (Nat.le_of_ble_eq_true rfl) dX4_copy_20 ?_
    obtain ⟨y11, e12⟩ : ∃ y : Int32, y = (x2 + (1 : Int32)) := ⟨_, rfl⟩
    replace ok := nx_ok ok y11 e12
    refine g_iinc (v := y11) C [(2, .int y11), (0, .ref (ad ε p0)), (1, .ref (ad ε p1))] dX4_copy_23 2 rfl (by rw [e12]; rfl) (by decide) rfl ?_
    refine g_goto (tgt := 6) C dX4_copy_26 (by decide) ?_
    refine g_pick (lv' := [(0, .ref (ad ε p0)), (1, .ref (ad ε p1)), (2, .int y11)]) ?_ [1, 2, 0] rfl
    exact g6 _ _ ok
def l_X4_copy_6 (p0 : Nat) (p1 : Nat) : Nat → Int32 → St → Option Rs
  | 0 => fun _ _ => none
  | n + 1 => fun x2 σ => b_X4_copy_6 p0 p1 (l_X4_copy_6 p0 p1 n) x2 σ
theorem tl_X4_copy_6 {ε : Et} {κ : Kt} {z : Rs} (p0 : Nat) (p1 : Nat) (h_p0 : Rw p0) (h_p1 : Rw p1) (C : Cx ε κ cX4_copy 3 RX4 1) (K : Ret ε κ cX4_copy none 0 0 (PV ε z)) : ∀ (n : Nat) (x2 : Int32) (σ : St), l_X4_copy_6 p0 p1 n x2 σ = some z → G ε κ 0 0 6 [(0, .ref (ad ε p0)), (1, .ref (ad ε p1)), (2, .int x2)] [] (WX ε σ) := by
  intro n
  induction n with
  | zero =>
    intro x2 σ ok
    cases ok
  | succ n ih =>
    intro x2 σ ok
    exact t_X4_copy_6 p0 p1 h_p0 h_p1 C K (l_X4_copy_6 p0 p1 n) ih x2 σ ok
def f_X4_copy (p0 : Nat) (p1 : Nat) (σ : St) : Option Rs := bd (f_X4_clear p0 σ) (fun r1 s2 => l_X4_copy_6 p0 p1 FU (0 : Int32) s2)
set_option maxRecDepth 10000 in
set_option maxHeartbeats 1000000 in
theorem tf_X4_copy {ε : Et} {κ : Kt} {z : Rs} (p0 : Nat) (p1 : Nat) (h_p0 : Rw p0) (h_p1 : Rw p1) (C : Cx ε κ cX4_copy 3 RX4 1) (K : Ret ε κ cX4_copy none 0 0 (PV ε z)) (σ : St) (ok : f_X4_copy p0 p1 σ = some z) : G ε κ 0 0 0 [(0, .ref (ad ε p0)), (1, .ref (ad ε p1))] [] (WX ε σ) := by
  unfold f_X4_copy at ok
  refine g_aload_n C dX4_copy_0 rfl 0 rfl ?_
  obtain ⟨r1, s2, e3, ok⟩ := bd_ok ok
  refine q_cV C [] (c_X4_clear h_p0 e3) wv_X4_25 (by decide) (rw_lt h_p0) (wx_X4 h_p0) rfl rfl rfl (Nat.le_of_ble_eq_true rfl) dX4_copy_1 ?_
  refine g_iconst (v := 0) C dX4_copy_4 (by decide) ?_
  refine g_istore_n C [(2, .int (0 : Int32)), (0, .ref (ad ε p0)), (1, .ref (ad ε p1))] dX4_copy_5 rfl (by decide) rfl ?_
  refine g_pick (lv' := [(0, .ref (ad ε p0)), (1, .ref (ad ε p1)), (2, .int (0 : Int32))]) ?_ [1, 2, 0] rfl
  exact tl_X4_copy_6 p0 p1 h_p0 h_p1 C K FU _ _ ok
theorem c_X4_copy {l : Launch} {ε : Et} {σ : St} {z : Rs} {p0 : Nat} {p1 : Nat} (h_p0 : Rw p0) (h_p1 : Rw p1) (e : f_X4_copy p0 p1 σ = some z) : RM l ε yX4_copy cX4_copy 3 none 1 0 0 [.ref (ad ε p0), .ref (ad ε p1)] (WX ε σ) (PV ε z) := RM.of (by decide) (Nat.le_of_ble_eq_true rfl) (fun κ C K => tf_X4_copy p0 p1 h_p0 h_p1 C K σ e)
