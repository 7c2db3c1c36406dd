def f_X6_begin (σ : St) : Option Rs := some ((σ.1 16 4), σ)
set_option maxRecDepth 10000 in
set_option maxHeartbeats 1000000 in
theorem tf_X6_begin {ε : Et} {κ : Kt} {z : Rs} (C : Cx ε κ cX6_begin 1 RX6 0) (K : Ret ε κ cX6_begin (some .int) 0 0 (PI ε z)) (σ : St) (ok : f_X6_begin σ = some z) : G ε κ 0 0 0 [(0, .ref (ad ε 16))] [] (WX ε σ) := by
  unfold f_X6_begin at ok
  refine g_aload_n C dX6_begin_0 rfl 0 rfl ?_
  refine q_X6_42 C dX6_begin_1 ?_
  exact K.2 .int _ _ _ _ rfl dX6_begin_4 rfl (pi_ok ok)
theorem c_X6_begin {l : Launch} {ε : Et} {σ : St} {z : Rs} (e : f_X6_begin σ = some z) : RM l ε yX6_begin cX6_begin 1 (some .int) 0 0 0 [.ref (ad ε 16)] (WX ε σ) (PI ε z) := RM.of (by decide) (Nat.le_of_ble_eq_true rfl) (fun κ C K => tf_X6_begin C K σ e)
def f_X6_end (σ : St) : Option Rs := some ((σ.1 16 5), σ)
set_option maxRecDepth 10000 in
set_option maxHeartbeats 1000000 in
theorem tf_X6_end {ε : Et} {κ : Kt} {z : Rs} (C : Cx ε κ cX6_end 1 RX6 0) (K : Ret ε κ cX6_end (some .int) 0 0 (PI ε z)) (σ : St) (ok : f_X6_end σ = some z) : G ε κ 0 0 0 [(0, .ref (ad ε 16))] [] (WX ε σ) := by
  unfold f_X6_end at ok
  refine g_aload_n C dX6_end_0 rfl 0 rfl ?_
  refine q_X6_45 C dX6_end_1 ?_
  exact K.2 .int _ _ _ _ rfl dX6_end_4 rfl (pi_ok ok)
theorem c_X6_end {l : Launch} {ε : Et} {σ : St} {z : Rs} (e : f_X6_end σ = some z) : RM l ε yX6_end cX6_end 1 (some .int) 0 0 0 [.ref (ad ε 16)] (WX ε σ) (PI ε z) := RM.of (by decide) (Nat.le_of_ble_eq_true rfl) (fun κ C K => tf_X6_end C K σ e)
def b_X6_isTooShort_21 (t0 : Int32) (σ : St) : Option Rs := gz t0 (some (t0, σ))
set_option maxRecDepth 10000 in
set_option maxHeartbeats 1000000 in
theorem t_X6_isTooShort_21 {ε : Et} {κ : Kt} {z : Rs} (C : Cx ε κ cX6_isTooShort 1 RX6 0) (K : Ret ε κ cX6_isTooShort (some .boolean) 0 0 (PI ε z)) (t0 : Int32) (σ : St) (ok : b_X6_isTooShort_21 t0 σ = some z) : G ε κ 0 0 21 [] [.int t0] (WX ε σ) := by
  unfold b_X6_isTooShort_21 at ok
  obtain ⟨z1, ok⟩ := gz_ok ok
  exact K.2 .boolean _ _ _ _ rfl dX6_isTooShort_21 (nar_b z1) (pi_ok ok)
def f_X6_isTooShort (σ : St) : Option Rs := (if (σ.1 16 3) ≤ ((σ.1 16 5) - (σ.1 16 4)) then b_X6_isTooShort_21 (0 : Int32) σ else b_X6_isTooShort_21 (1 : Int32) σ)
set_option maxRecDepth 10000 in
set_option maxHeartbeats 1000000 in
theorem tf_X6_isTooShort {ε : Et} {κ : Kt} {z : Rs} (C : Cx ε κ cX6_isTooShort 1 RX6 0) (K : Ret ε κ cX6_isTooShort (some .boolean) 0 0 (PI ε z)) (σ : St) (ok : f_X6_isTooShort σ = some z) : G ε κ 0 0 0 [(0, .ref (ad ε 16))] [] (WX ε σ) := by
  unfold f_X6_isTooShort at ok
  refine g_aload_n C dX6_isTooShort_0 rfl 0 rfl ?_
  refine q_X6_45 C dX6_isTooShort_1 ?_
  refine g_aload_n C dX6_isTooShort_4 rfl 0 rfl ?_
  refine q_X6_42 C dX6_isTooShort_5 ?_
  refine g_isub C dX6_isTooShort_8 ?_
  refine g_aload_n C dX6_isTooShort_9 rfl 0 rfl ?_
  refine q_X6_20 C dX6_isTooShort_10 ?_
  refine g_icmp_ge (tgt := 20) C dX6_isTooShort_13 (by decide) (fun c1 => ?_) (fun c1 => ?_)
  · replace ok := ok_t c1 ok
    refine g_iconst (v := 0) C dX6_isTooShort_20 (by decide) ?_
    refine g_pick (lv' := []) ?_ [] rfl
    exact t_X6_isTooShort_21 C K _ _ ok
  · replace ok := ok_f c1 ok
    refine g_iconst (v := 1) C dX6_isTooShort_16 (by decide) ?_
    refine g_goto (tgt := 21) C dX6_isTooShort_17 (by decide) ?_
    refine g_pick (lv' := []) ?_ [] rfl
    exact t_X6_isTooShort_21 C K _ _ ok
theorem c_X6_isTooShort {l : Launch} {ε : Et} {σ : St} {z : Rs} (e : f_X6_isTooShort σ = some z) : RM l ε yX6_isTooShort cX6_isTooShort 1 (some .boolean) 0 0 0 [.ref (ad ε 16)] (WX ε σ) (PI ε z) := RM.of (by decide) (Nat.le_of_ble_eq_true rfl) (fun κ C K => tf_X6_isTooShort C K σ e)
def b_X6_takeAdapter_19 (p1 : Nat) (σ : St) : Option Rs := bd (f_X4_copy 17 p1 σ) (fun r1 s2 => bd (f_X4_size 17 s2) (fun r4 s5 => some (r4, s5)))
set_option maxRecDepth 10000 in
set_option maxHeartbeats 1000000 in
theorem t_X6_takeAdapter_19 {ε : Et} {κ : Kt} {z : Rs} (p1 : Nat) (h_p1 : Rw p1) (C : Cx ε κ cX6_takeAdapter 2 RX6 2) (K : Ret ε κ cX6_takeAdapter (some .int) 0 0 (PI ε z)) (σ : St) (ok : b_X6_takeAdapter_19 p1 σ = some z) : G ε κ 0 0 19 [(0, .ref (ad ε 16)), (1, .ref (ad ε p1))] [] (WX ε σ) := by
  unfold b_X6_takeAdapter_19 at ok
  refine g_aload_n C dX6_takeAdapter_19 rfl 0 rfl ?_
  refine q_X6_14 C dX6_takeAdapter_20 ?_
  refine g_aload_n C dX6_takeAdapter_23 rfl 1 rfl ?_
  obtain ⟨r1, s2, e3, ok⟩ := bd_ok ok
  refine q_cV C [.ref (ad ε p1)] (c_X4_copy rw_17 h_p1 e3) wv_X6_32 (by decide) (rw_lt rw_17) (wx_X4 rw_17) rfl rfl rfl (Nat.le_of_ble_eq_true rfl) dX6_takeAdapter_24 ?_
  refine g_aload_n C dX6_takeAdapter_27 rfl 0 rfl ?_
  refine q_X6_14 C dX6_takeAdapter_28 ?_
  obtain ⟨r4, s5, e6, ok⟩ := bd_ok ok
  refine q_cI C [] (c_X4_size rw_17 e6) wv_X6_24 (by decide) (rw_lt rw_17) (wx_X4 rw_17) rfl rfl rfl (Nat.le_of_ble_eq_true rfl) dX6_takeAdapter_31 ?_
  exact K.2 .int _ _ _ _ rfl dX6_takeAdapter_34 rfl (pi_ok ok)
def f_X6_takeAdapter (p1 : Nat) (σ : St) : Option Rs := bd (f_X4_size p1 σ) (fun r1 s2 => (if r1 = 0 then b_X6_takeAdapter_19 p1 s2 else bd (f_X4_isOfBases p1 (3 : Int32) (30 : Int32) s2) (fun r5 s6 => (if r5 = 0 then some ((-1 : Int32), s6) else b_X6_takeAdapter_19 p1 s6))))
set_option maxRecDepth 10000 in
set_option maxHeartbeats 1000000 in
theorem tf_X6_takeAdapter {ε : Et} {κ : Kt} {z : Rs} (p1 : Nat) (h_p1 : Rw p1) (C : Cx ε κ cX6_takeAdapter 2 RX6 2) (K : Ret ε κ cX6_takeAdapter (some .int) 0 0 (PI ε z)) (σ : St) (ok : f_X6_takeAdapter p1 σ = some z) : G ε κ 0 0 0 [(0, .ref (ad ε 16)), (1, .ref (ad ε p1))] [] (WX ε σ) := by
  unfold f_X6_takeAdapter at ok
  refine g_aload_n C dX6_takeAdapter_0 rfl 1 rfl ?_
  obtain ⟨r1, s2, e3, ok⟩ := bd_ok ok
  refine q_cI C [] (c_X4_size h_p1 e3) wv_X6_24 (by decide) (rw_lt h_p1) (wx_X4 h_p1) rfl rfl rfl (Nat.le_of_ble_eq_true rfl) dX6_takeAdapter_1 ?_
  refine g_if_eq (tgt := 19) C dX6_takeAdapter_4 (by decide) (fun c4 => ?_) (fun c4 => ?_)
  · replace ok := ok_t c4 ok
    exact t_X6_takeAdapter_19 p1 h_p1 C K _ ok
  · replace ok := ok_f c4 ok
    refine g_aload_n C dX6_takeAdapter_7 rfl 1 rfl ?_
    refine g_iconst (v := 3) C dX6_takeAdapter_8 (by decide) ?_
    refine g_bipush (v := 30) C dX6_takeAdapter_9 (by decide) ?_
    obtain ⟨r5, s6, e7, ok⟩ := bd_ok ok
    refine q_cI C [.int (3 : Int32), .int (30 : Int32)] (c_X4_isOfBases h_p1 e7) wv_X6_28 (by decide) (rw_lt h_p1) (wx_X4 h_p1) rfl rfl rfl (Nat.le_of_ble_eq_true rfl) dX6_takeAdapter_11 ?_
    refine g_if_ne (tgt := 19) C dX6_takeAdapter_14 (by decide) (fun c8 => ?_) (fun c8 => ?_)
    · replace ok := ok_f c8 ok
      exact t_X6_takeAdapter_19 p1 h_p1 C K _ ok
    · replace ok := ok_t c8 ok
      refine g_iconst (v := -1) C dX6_takeAdapter_17 (by decide) ?_
      exact K.2 .int _ _ _ _ rfl dX6_takeAdapter_18 rfl (pi_ok ok)
theorem c_X6_takeAdapter {l : Launch} {ε : Et} {σ : St} {z : Rs} {p1 : Nat} (h_p1 : Rw p1) (e : f_X6_takeAdapter p1 σ = some z) : RM l ε yX6_takeAdapter cX6_takeAdapter 2 (some .int) 2 0 0 [.ref (ad ε 16), .ref (ad ε p1)] (WX ε σ) (PI ε z) := RM.of (by decide) (Nat.le_of_ble_eq_true rfl) (fun κ C K => tf_X6_takeAdapter p1 h_p1 C K σ e)
def f_X6_setLimits (x1 : Int32) (x2 : Int32) (x3 : Int32) (σ : St) : Option Rs := nx (sS σ 16 1 x1) (fun s1 => nx (sS s1 16 2 x2) (fun s3 => nx (sS s3 16 3 x3) (fun s5 => some ((0 : Int32), s5))))
set_option maxRecDepth 10000 in
set_option maxHeartbeats 1000000 in
theorem tf_X6_setLimits {ε : Et} {κ : Kt} {z : Rs} (C : Cx ε κ cX6_setLimits 4 RX6 0) (K : Ret ε κ cX6_setLimits none 0 0 (PV ε z)) (x1 : Int32) (x2 : Int32) (x3 : Int32) (σ : St) (ok : f_X6_setLimits x1 x2 x3 σ = some z) : G ε κ 0 0 0 [(0, .ref (ad ε 16)), (1, .int x1), (2, .int x2), (3, .int x3)] [] (WX ε σ) := by
  unfold f_X6_setLimits at ok
  refine g_aload_n C dX6_setLimits_0 rfl 0 rfl ?_
  refine g_iload_n C dX6_setLimits_1 rfl 1 rfl ?_
  refine p_X6_36 C dX6_setLimits_2 (fun s1 e2 => ?_)
  replace ok := nx_ok ok s1 e2
  refine g_aload_n C dX6_setLimits_5 rfl 0 rfl ?_
  refine g_iload_n C dX6_setLimits_6 rfl 2 rfl ?_
  refine p_X6_39 C dX6_setLimits_7 (fun s3 e4 => ?_)
  replace ok := nx_ok ok s3 e4
  refine g_aload_n C dX6_setLimits_10 rfl 0 rfl ?_
  refine g_iload_n C dX6_setLimits_11 rfl 3 rfl ?_
  refine p_X6_20 C dX6_setLimits_12 (fun s5 e6 => ?_)
  replace ok := nx_ok ok s5 e6
  exact K.1 rfl _ _ _ dX6_setLimits_15 (pv_ok ok)
theorem c_X6_setLimits {l : Launch} {ε : Et} {σ : St} {z : Rs} {x1 : Int32} {x2 : Int32} {x3 : Int32} (e : f_X6_setLimits x1 x2 x3 σ = some z) : RM l ε yX6_setLimits cX6_setLimits 4 none 0 0 0 [.ref (ad ε 16), .int x1, .int x2, .int x3] (WX ε σ) (PV ε z) := RM.of (by decide) (Nat.le_of_ble_eq_true rfl) (fun κ C K => tf_X6_setLimits C K x1 x2 x3 σ e)
def b_X6_adapterBegins_86 (b1 : Bool) (t0 : Int32) (σ : St) : Option Rs := gz t0 (some (t0, σ))
set_option maxRecDepth 10000 in
set_option maxHeartbeats 1000000 in
theorem t_X6_adapterBegins_86 {ε : Et} {κ : Kt} {z : Rs} (b1 : Bool) (C : Cx ε κ cX6_adapterBegins 8 RX6 2) (K : Ret ε κ cX6_adapterBegins (some .boolean) 0 0 (PI ε z)) (t0 : Int32) (σ : St) (ok : b_X6_adapterBegins_86 b1 t0 σ = some z) : G ε κ 0 0 86 [] [.int t0] (WX ε σ) := by
  unfold b_X6_adapterBegins_86 at ok
  obtain ⟨z1, ok⟩ := gz_ok ok
  exact K.2 .boolean _ _ _ _ rfl dX6_adapterBegins_86 (nar_b z1) (pi_ok ok)
def b_X6_adapterBegins_74 (b1 : Bool) (x5 : Int32) (x6 : Int32) (σ : St) : Option Rs := (if x5 < x6 then b_X6_adapterBegins_86 b1 (0 : Int32) σ else b_X6_adapterBegins_86 b1 (1 : Int32) σ)
set_option maxRecDepth 10000 in
set_option maxHeartbeats 1000000 in
theorem t_X6_adapterBegins_74 {ε : Et} {κ : Kt} {z : Rs} (b1 : Bool) (C : Cx ε κ cX6_adapterBegins 8 RX6 2) (K : Ret ε κ cX6_adapterBegins (some .boolean) 0 0 (PI ε z)) (x5 : Int32) (x6 : Int32) (σ : St) (ok : b_X6_adapterBegins_74 b1 x5 x6 σ = some z) : G ε κ 0 0 74 [(5, .int x5), (6, .int x6)] [] (WX ε σ) := by
  unfold b_X6_adapterBegins_74 at ok
  refine g_iload C dX6_adapterBegins_74 1 rfl ?_
  refine g_iload C dX6_adapterBegins_76 0 rfl ?_
  refine g_icmp_gt (tgt := 85) C dX6_adapterBegins_78 (by decide) (fun c1 => ?_) (fun c1 => ?_)
  · replace ok := ok_t c1 ok
    refine g_iconst (v := 0) C dX6_adapterBegins_85 (by decide) ?_
    refine g_pick (lv' := []) ?_ [] rfl
    exact t_X6_adapterBegins_86 b1 C K _ _ ok
  · replace ok := ok_f c1 ok
    refine g_iconst (v := 1) C dX6_adapterBegins_81 (by decide) ?_
    refine g_goto (tgt := 86) C dX6_adapterBegins_82 (by decide) ?_
    refine g_pick (lv' := []) ?_ [] rfl
    exact t_X6_adapterBegins_86 b1 C K _ _ ok
def b_X6_adapterBegins_68 (b1 : Bool) (k30 : Int32 → Int32 → Int32 → Int32 → Int32 → Int32 → St → Option Rs) (x2 : Int32) (x3 : Int32) (x4 : Int32) (x5 : Int32) (x6 : Int32) (x7 : Int32) (σ : St) : Option Rs := nx (x7 + (1 : Int32)) (fun y1 => k30 x2 x3 x4 x5 x6 y1 σ)
set_option maxRecDepth 10000 in
set_option maxHeartbeats 1000000 in
theorem t_X6_adapterBegins_68 {ε : Et} {κ : Kt} {z : Rs} (b1 : Bool) (C : Cx ε κ cX6_adapterBegins 8 RX6 2) (K : Ret ε κ cX6_adapterBegins (some .boolean) 0 0 (PI ε z)) (k30 : Int32 → Int32 → Int32 → Int32 → Int32 → Int32 → St → Option Rs) (g30 : ∀ (x2 : Int32) (x3 : Int32) (x4 : Int32) (x5 : Int32) (x6 : Int32) (x7 : Int32) (σ : St), k30 x2 x3 x4 x5 x6 x7 σ = some z → G ε κ 0 0 30 [(0, .ref (ad ε 16)), (1, .ref (ad ε (bs b1))), (2, .int x2), (3, .int x3), (4, .int x4), (5, .int x5), (6, .int x6), (7, .int x7)] [] (WX ε σ)) (x2 : Int32) (x3 : Int32) (x4 : Int32) (x5 : Int32) (x6 : Int32) (x7 : Int32) (σ : St) (ok : b_X6_adapterBegins_68 b1 k30 x2 x3 x4 x5 x6 x7 σ = some z) : G ε κ 0 0 68 [(0, .ref (ad ε 16)), (1, .ref (ad ε (bs b1))), (2, .int x2), (3, .int x3), (4, .int x4), (5, .int x5), (6, .int x6), (7, .int x7)] [] (WX ε σ) := by
  unfold b_X6_adapterBegins_68 at ok
  obtain ⟨y1, e2⟩ : ∃ y : Int32, y = (x7 + (1 : Int32)) := ⟨_, rfl⟩
  replace ok := nx_ok ok y1 e2
  refine g_iinc (v := y1) C [(7, .int y1), (0, .ref (ad ε 16)), (1, .ref (ad ε (bs b1))), (2, .int x2), (3, .int x3), (4, .int x4), (5, .int x5), (6, .int x6)] dX6_adapterBegins_68 7 rfl (by rw [e2]; rfl) (by decide) rfl ?_
  refine g_goto (tgt := 30) C dX6_adapterBegins_71 (by decide) ?_
  refine g_pick (lv' := [(0, .ref (ad ε 16)), (1, .ref (ad ε (bs b1))), (2, .int x2), (3, .int x3), (4, .int x4), (5, .int x5), (6, .int x6), (7, .int y1)]) ?_ [1, 2, 3, 4, 5, 6, 7, 0] rfl
  exact g30 _ _ _ _ _ _ _ ok
def b_X6_adapterBegins_30 (b1 : Bool) (k30 : Int32 → Int32 → Int32 → Int32 → Int32 → Int32 → St → Option Rs) (x2 : Int32) (x3 : Int32) (x4 : Int32) (x5 : Int32) (x6 : Int32) (x7 : Int32) (σ : St) : Option Rs := (if x4 ≤ x7 then b_X6_adapterBegins_74 b1 x5 x6 σ else (if x5 < x6 then b_X6_adapterBegins_74 b1 x5 x6 σ else bd (f_X4_at 17 x7 σ) (fun r3 s4 => bd (f_X3_letterOctet b1 x2 (x3 + x7) s4) (fun r6 s7 => (if r3 = r6 then b_X6_adapterBegins_68 b1 k30 x2 x3 x4 x5 x6 x7 s7 else nx (x6 + (1 : Int32)) (fun y10 => b_X6_adapterBegins_68 b1 k30 x2 x3 x4 x5 y10 x7 s7))))))
set_option maxRecDepth 10000 in
set_option maxHeartbeats 1000000 in
theorem t_X6_adapterBegins_30 {ε : Et} {κ : Kt} {z : Rs} (b1 : Bool) (C : Cx ε κ cX6_adapterBegins 8 RX6 2) (K : Ret ε κ cX6_adapterBegins (some .boolean) 0 0 (PI ε z)) (k30 : Int32 → Int32 → Int32 → Int32 → Int32 → Int32 → St → Option Rs) (g30 : ∀ (x2 : Int32) (x3 : Int32) (x4 : Int32) (x5 : Int32) (x6 : Int32) (x7 : Int32) (σ : St), k30 x2 x3 x4 x5 x6 x7 σ = some z → G ε κ 0 0 30 [(0, .ref (ad ε 16)), (1, .ref (ad ε (bs b1))), (2, .int x2), (3, .int x3), (4, .int x4), (5, .int x5), (6, .int x6), (7, .int x7)] [] (WX ε σ)) (x2 : Int32) (x3 : Int32) (x4 : Int32) (x5 : Int32) (x6 : Int32) (x7 : Int32) (σ : St) (ok : b_X6_adapterBegins_30 b1 k30 x2 x3 x4 x5 x6 x7 σ = some z) : G ε κ 0 0 30 [(0, .ref (ad ε 16)), (1, .ref (ad ε (bs b1))), (2, .int x2), (3, .int x3), (4, .int x4), (5, .int x5), (6, .int x6), (7, .int x7)] [] (WX ε σ) := by
  unfold b_X6_adapterBegins_30 at ok
  refine g_iload C dX6_adapterBegins_30 7 rfl ?_
  refine g_iload C dX6_adapterBegins_32 4 rfl ?_
  refine g_icmp_ge (tgt := 74) C dX6_adapterBegins_34 (by decide) (fun c1 => ?_) (fun c1 => ?_)
  · replace ok := ok_t c1 ok
    refine g_pick (lv' := [(5, .int x5), (6, .int x6)]) ?_ [5, 6] rfl
    exact t_X6_adapterBegins_74 b1 C K _ _ _ ok
  · replace ok := ok_f c1 ok
    refine g_iload C dX6_adapterBegins_37 6 rfl ?_
    refine g_iload C dX6_adapterBegins_39 5 rfl ?_
    refine g_icmp_gt (tgt := 74) C dX6_adapterBegins_41 (by decide) (fun c2 => ?_) (fun c2 => ?_)
    · replace ok := ok_t c2 ok
      refine g_pick (lv' := [(5, .int x5), (6, .int x6)]) ?_ [5, 6] rfl
      exact t_X6_adapterBegins_74 b1 C K _ _ _ ok
    · replace ok := ok_f c2 ok
      refine g_aload_n C dX6_adapterBegins_44 rfl 0 rfl ?_
      refine q_X6_14 C dX6_adapterBegins_45 ?_
      refine g_iload C dX6_adapterBegins_48 7 rfl ?_
      obtain ⟨r3, s4, e5, ok⟩ := bd_ok ok
      refine q_cI C [.int x7] (c_X4_at rw_17 e5) wv_X6_77 (by decide) (rw_lt rw_17) (wx_X4 rw_17) rfl rfl rfl (Nat.le_of_ble_eq_true rfl) dX6_adapterBegins_50 ?_
      refine g_aload_n C dX6_adapterBegins_53 rfl 1 rfl ?_
      refine g_iload_n C dX6_adapterBegins_54 rfl 2 rfl ?_
      refine g_iload_n C dX6_adapterBegins_55 rfl 3 rfl ?_
      refine g_iload C dX6_adapterBegins_56 7 rfl ?_
      refine g_iadd C dX6_adapterBegins_58 ?_
      obtain ⟨r6, s7, e8, ok⟩ := bd_ok ok
      refine q_cI C [.int x2, .int (x3 + x7)] (c_X3_letterOctet e8) wv_X6_80 (by decide) (bs_lt b1) (wx_X3 b1) rfl rfl rfl (Nat.le_of_ble_eq_true rfl) dX6_adapterBegins_59 ?_
      refine g_icmp_eq (tgt := 68) C dX6_adapterBegins_62 (by decide) (fun c9 => ?_) (fun c9 => ?_)
      · replace ok := ok_t c9 ok
        exact t_X6_adapterBegins_68 b1 C K k30 g30 _ _ _ _ _ _ _ ok
      · replace ok := ok_f c9 ok
        obtain ⟨y10, e11⟩ : ∃ y : Int32, y = (x6 + (1 : Int32)) := ⟨_, rfl⟩
        replace ok := nx_ok ok y10 e11
        refine g_iinc (v := y10) C [(6, .int y10), (0, .ref (ad ε 16)), (1, .ref (ad ε (bs b1))), (2, .int x2), (3, .int x3), (4, .int x4), (5, .int x5), (7, .int x7)] dX6_adapterBegins_65 6 rfl (by rw [e11]; rfl) (by decide) rfl ?_
        refine g_pick (lv' := [(0, .ref (ad ε 16)), (1, .ref (ad ε (bs b1))), (2, .int x2), (3, .int x3), (4, .int x4), (5, .int x5), (6, .int y10), (7, .int x7)]) ?_ [1, 2, 3, 4, 5, 6, 0, 7] rfl
        exact t_X6_adapterBegins_68 b1 C K k30 g30 _ _ _ _ _ _ _ ok
def l_X6_adapterBegins_30 (b1 : Bool) : Nat → Int32 → Int32 → Int32 → Int32 → Int32 → Int32 → St → Option Rs
  | 0 => fun _ _ _ _ _ _ _ => none
  | n + 1 => fun x2 x3 x4 x5 x6 x7 σ => b_X6_adapterBegins_30 b1 (l_X6_adapterBegins_30 b1 n) x2 x3 x4 x5 x6 x7 σ
theorem tl_X6_adapterBegins_30 {ε : Et} {κ : Kt} {z : Rs} (b1 : Bool) (C : Cx ε κ cX6_adapterBegins 8 RX6 2) (K : Ret ε κ cX6_adapterBegins (some .boolean) 0 0 (PI ε z)) : ∀ (n : Nat) (x2 : Int32) (x3 : Int32) (x4 : Int32) (x5 : Int32) (x6 : Int32) (x7 : Int32) (σ : St), l_X6_adapterBegins_30 b1 n x2 x3 x4 x5 x6 x7 σ = some z → G ε κ 0 0 30 [(0, .ref (ad ε 16)), (1, .ref (ad ε (bs b1))), (2, .int x2), (3, .int x3), (4, .int x4), (5, .int x5), (6, .int x6), (7, .int x7)] [] (WX ε σ) := by
  intro n
  induction n with
  | zero =>
    intro x2 x3 x4 x5 x6 x7 σ ok
    cases ok
  | succ n ih =>
    intro x2 x3 x4 x5 x6 x7 σ ok
    exact t_X6_adapterBegins_30 b1 C K (l_X6_adapterBegins_30 b1 n) ih x2 x3 x4 x5 x6 x7 σ ok
def f_X6_adapterBegins (b1 : Bool) (x2 : Int32) (x3 : Int32) (σ : St) : Option Rs := bd (f_X4_size 17 σ) (fun r1 s2 => nx (if ((s2.1 16 5) - x3) < r1 then ((s2.1 16 5) - x3) else r1) (fun y4 => nx (y4 / (5 : Int32)) (fun y6 => l_X6_adapterBegins_30 b1 FU x2 x3 y4 y6 (0 : Int32) (0 : Int32) s2)))
set_option maxRecDepth 10000 in
set_option maxHeartbeats 1000000 in
theorem tf_X6_adapterBegins {ε : Et} {κ : Kt} {z : Rs} (b1 : Bool) (C : Cx ε κ cX6_adapterBegins 8 RX6 2) (K : Ret ε κ cX6_adapterBegins (some .boolean) 0 0 (PI ε z)) (x2 : Int32) (x3 : Int32) (σ : St) (ok : f_X6_adapterBegins b1 x2 x3 σ = some z) : G ε κ 0 0 0 [(0, .ref (ad ε 16)), (1, .ref (ad ε (bs b1))), (2, .int x2), (3, .int x3)] [] (WX ε σ) := by
  unfold f_X6_adapterBegins at ok
  refine g_aload_n C dX6_adapterBegins_0 rfl 0 rfl ?_
  refine q_X6_14 C dX6_adapterBegins_1 ?_
  obtain ⟨r1, s2, e3, ok⟩ := bd_ok ok
  refine q_cI C [] (c_X4_size rw_17 e3) wv_X6_24 (by decide) (rw_lt rw_17) (wx_X4 rw_17) rfl rfl rfl (Nat.le_of_ble_eq_true rfl) dX6_adapterBegins_4 ?_
  refine g_aload_n C dX6_adapterBegins_7 rfl 0 rfl ?_
  refine q_X6_45 C dX6_adapterBegins_8 ?_
  refine g_iload_n C dX6_adapterBegins_11 rfl 3 rfl ?_
  refine g_isub C dX6_adapterBegins_12 ?_
  refine g_min C (by decide) wm_X6_71 wms_min wmi wmc_min (Nat.le_of_ble_eq_true rfl) ⟨rfl, rfl⟩ dX6_adapterBegins_13 ?_
  refine q_nm (fun y4 e5 => ?_)
  replace ok := nx_ok ok y4 e5
  refine g_istore C [(4, .int y4), (0, .ref (ad ε 16)), (1, .ref (ad ε (bs b1))), (2, .int x2), (3, .int x3)] dX6_adapterBegins_16 (by decide) rfl ?_
  refine g_iload C dX6_adapterBegins_18 0 rfl ?_
  refine g_iconst (v := 5) C dX6_adapterBegins_20 (by decide) ?_
  refine g_idiv C dX6_adapterBegins_21 (by decide) ?_
  refine q_nm (fun y6 e7 => ?_)
  replace ok := nx_ok ok y6 e7
  refine g_istore C [(5, .int y6), (4, .int y4), (0, .ref (ad ε 16)), (1, .ref (ad ε (bs b1))), (2, .int x2), (3, .int x3)] dX6_adapterBegins_22 (by decide) rfl ?_
  refine g_iconst (v := 0) C dX6_adapterBegins_24 (by decide) ?_
  refine g_istore C [(6, .int (0 : Int32)), (5, .int y6), (4, .int y4), (0, .ref (ad ε 16)), (1, .ref (ad ε (bs b1))), (2, .int x2), (3, .int x3)] dX6_adapterBegins_25 (by decide) rfl ?_
  refine g_iconst (v := 0) C dX6_adapterBegins_27 (by decide) ?_
  refine g_istore C [(7, .int (0 : Int32)), (6, .int (0 : Int32)), (5, .int y6), (4, .int y4), (0, .ref (ad ε 16)), (1, .ref (ad ε (bs b1))), (2, .int x2), (3, .int x3)] dX6_adapterBegins_28 (by decide) rfl ?_
  refine g_pick (lv' := [(0, .ref (ad ε 16)), (1, .ref (ad ε (bs b1))), (2, .int x2), (3, .int x3), (4, .int y4), (5, .int y6), (6, .int (0 : Int32)), (7, .int (0 : Int32))]) ?_ [4, 5, 6, 7, 3, 2, 1, 0] rfl
  exact tl_X6_adapterBegins_30 b1 C K FU _ _ _ _ _ _ _ ok
theorem c_X6_adapterBegins {l : Launch} {ε : Et} {σ : St} {z : Rs} {b1 : Bool} {x2 : Int32} {x3 : Int32} (e : f_X6_adapterBegins b1 x2 x3 σ = some z) : RM l ε yX6_adapterBegins cX6_adapterBegins 8 (some .boolean) 2 0 0 [.ref (ad ε 16), .ref (ad ε (bs b1)), .int x2, .int x3] (WX ε σ) (PI ε z) := RM.of (by decide) (Nat.le_of_ble_eq_true rfl) (fun κ C K => tf_X6_adapterBegins b1 C K x2 x3 σ e)
def b_X6_cutAdapter_16 (b1 : Bool) (k16 : Int32 → Int32 → St → Option Rs) (x2 : Int32) (x3 : Int32) (σ : St) : Option Rs := (if ((σ.1 16 5) - (3 : Int32)) < x3 then some ((0 : Int32), σ) else bd (f_X6_adapterBegins b1 x2 x3 σ) (fun r2 s3 => (if r2 = 0 then nx (x3 + (1 : Int32)) (fun y6 => k16 x2 y6 s3) else nx (sS s3 16 5 x3) (fun s8 => some ((0 : Int32), s8)))))
set_option maxRecDepth 10000 in
set_option maxHeartbeats 1000000 in
theorem t_X6_cutAdapter_16 {ε : Et} {κ : Kt} {z : Rs} (b1 : Bool) (C : Cx ε κ cX6_cutAdapter 4 RX6 3) (K : Ret ε κ cX6_cutAdapter none 0 0 (PV ε z)) (k16 : Int32 → Int32 → St → Option Rs) (g16 : ∀ (x2 : Int32) (x3 : Int32) (σ : St), k16 x2 x3 σ = some z → G ε κ 0 0 16 [(0, .ref (ad ε 16)), (1, .ref (ad ε (bs b1))), (2, .int x2), (3, .int x3)] [] (WX ε σ)) (x2 : Int32) (x3 : Int32) (σ : St) (ok : b_X6_cutAdapter_16 b1 k16 x2 x3 σ = some z) : G ε κ 0 0 16 [(0, .ref (ad ε 16)), (1, .ref (ad ε (bs b1))), (2, .int x2), (3, .int x3)] [] (WX ε σ) := by
  unfold b_X6_cutAdapter_16 at ok
  refine g_iload_n C dX6_cutAdapter_16 rfl 3 rfl ?_
  refine g_aload_n C dX6_cutAdapter_17 rfl 0 rfl ?_
  refine q_X6_45 C dX6_cutAdapter_18 ?_
  refine g_iconst (v := 3) C dX6_cutAdapter_21 (by decide) ?_
  refine g_isub C dX6_cutAdapter_22 ?_
  refine g_icmp_gt (tgt := 48) C dX6_cutAdapter_23 (by decide) (fun c1 => ?_) (fun c1 => ?_)
  · replace ok := ok_t c1 ok
    exact K.1 rfl _ _ _ dX6_cutAdapter_48 (pv_ok ok)
  · replace ok := ok_f c1 ok
    refine g_aload_n C dX6_cutAdapter_26 rfl 0 rfl ?_
    refine g_aload_n C dX6_cutAdapter_27 rfl 1 rfl ?_
    refine g_iload_n C dX6_cutAdapter_28 rfl 2 rfl ?_
    refine g_iload_n C dX6_cutAdapter_29 rfl 3 rfl ?_
    obtain ⟨r2, s3, e4, ok⟩ := bd_ok ok
    refine q_cI C [.ref (ad ε (bs b1)), .int x2, .int x3] (c_X6_adapterBegins e4) wv_X6_67 (by decide) (lt_N (by decide)) wx_X6 rfl rfl rfl (Nat.le_of_ble_eq_true rfl) dX6_cutAdapter_30 ?_
    refine g_if_eq (tgt := 42) C dX6_cutAdapter_33 (by decide) (fun c5 => ?_) (fun c5 => ?_)
    · replace ok := ok_t c5 ok
      obtain ⟨y6, e7⟩ : ∃ y : Int32, y = (x3 + (1 : Int32)) := ⟨_, rfl⟩
      replace ok := nx_ok ok y6 e7
      refine g_iinc (v := y6) C [(3, .int y6), (0, .ref (ad ε 16)), (1, .ref (ad ε (bs b1))), (2, .int x2)] dX6_cutAdapter_42 3 rfl (by rw [e7]; rfl) (by decide) rfl ?_
      refine g_goto (tgt := 16) C dX6_cutAdapter_45 (by decide) ?_
      refine g_pick (lv' := [(0, .ref (ad ε 16)), (1, .ref (ad ε (bs b1))), (2, .int x2), (3, .int y6)]) ?_ [1, 2, 3, 0] rfl
      exact g16 _ _ _ ok
    · replace ok := ok_f c5 ok
      refine g_aload_n C dX6_cutAdapter_36 rfl 0 rfl ?_
      refine g_iload_n C dX6_cutAdapter_37 rfl 3 rfl ?_
      refine p_X6_45 C dX6_cutAdapter_38 (fun s8 e9 => ?_)
      replace ok := nx_ok ok s8 e9
      exact K.1 rfl _ _ _ dX6_cutAdapter_41 (pv_ok ok)
def l_X6_cutAdapter_16 (b1 : Bool) : Nat → Int32 → Int32 → St → Option Rs
  | 0 => fun _ _ _ => none
  | n + 1 => fun x2 x3 σ => b_X6_cutAdapter_16 b1 (l_X6_cutAdapter_16 b1 n) x2 x3 σ
theorem tl_X6_cutAdapter_16 {ε : Et} {κ : Kt} {z : Rs} (b1 : Bool) (C : Cx ε κ cX6_cutAdapter 4 RX6 3) (K : Ret ε κ cX6_cutAdapter none 0 0 (PV ε z)) : ∀ (n : Nat) (x2 : Int32) (x3 : Int32) (σ : St), l_X6_cutAdapter_16 b1 n x2 x3 σ = some z → G ε κ 0 0 16 [(0, .ref (ad ε 16)), (1, .ref (ad ε (bs b1))), (2, .int x2), (3, .int x3)] [] (WX ε σ) := by
  intro n
  induction n with
  | zero =>
    intro x2 x3 σ ok
    cases ok
  | succ n ih =>
    intro x2 x3 σ ok
    exact t_X6_cutAdapter_16 b1 C K (l_X6_cutAdapter_16 b1 n) ih x2 x3 σ ok
def f_X6_cutAdapter (b1 : Bool) (x2 : Int32) (σ : St) : Option Rs := bd (f_X4_size 17 σ) (fun r1 s2 => (if r1 = 0 then some ((0 : Int32), s2) else nx (s2.1 16 4) (fun y5 => l_X6_cutAdapter_16 b1 FU x2 y5 s2)))
set_option maxRecDepth 10000 in
set_option maxHeartbeats 1000000 in
theorem tf_X6_cutAdapter {ε : Et} {κ : Kt} {z : Rs} (b1 : Bool) (C : Cx ε κ cX6_cutAdapter 4 RX6 3) (K : Ret ε κ cX6_cutAdapter none 0 0 (PV ε z)) (x2 : Int32) (σ : St) (ok : f_X6_cutAdapter b1 x2 σ = some z) : G ε κ 0 0 0 [(0, .ref (ad ε 16)), (1, .ref (ad ε (bs b1))), (2, .int x2)] [] (WX ε σ) := by
  unfold f_X6_cutAdapter at ok
  refine g_aload_n C dX6_cutAdapter_0 rfl 0 rfl ?_
  refine q_X6_14 C dX6_cutAdapter_1 ?_
  obtain ⟨r1, s2, e3, ok⟩ := bd_ok ok
  refine q_cI C [] (c_X4_size rw_17 e3) wv_X6_24 (by decide) (rw_lt rw_17) (wx_X4 rw_17) rfl rfl rfl (Nat.le_of_ble_eq_true rfl) dX6_cutAdapter_4 ?_
  refine g_if_ne (tgt := 11) C dX6_cutAdapter_7 (by decide) (fun c4 => ?_) (fun c4 => ?_)
  · replace ok := ok_f c4 ok
    refine g_aload_n C dX6_cutAdapter_11 rfl 0 rfl ?_
    refine q_X6_42 C dX6_cutAdapter_12 ?_
    refine q_nm (fun y5 e6 => ?_)
    replace ok := nx_ok ok y5 e6
    refine g_istore_n C [(3, .int y5), (0, .ref (ad ε 16)), (1, .ref (ad ε (bs b1))), (2, .int x2)] dX6_cutAdapter_15 rfl (by decide) rfl ?_
    refine g_pick (lv' := [(0, .ref (ad ε 16)), (1, .ref (ad ε (bs b1))), (2, .int x2), (3, .int y5)]) ?_ [1, 2, 3, 0] rfl
    exact tl_X6_cutAdapter_16 b1 C K FU _ _ _ ok
  · replace ok := ok_t c4 ok
    exact K.1 rfl _ _ _ dX6_cutAdapter_10 (pv_ok ok)
theorem c_X6_cutAdapter {l : Launch} {ε : Et} {σ : St} {z : Rs} {b1 : Bool} {x2 : Int32} (e : f_X6_cutAdapter b1 x2 σ = some z) : RM l ε yX6_cutAdapter cX6_cutAdapter 4 none 3 0 0 [.ref (ad ε 16), .ref (ad ε (bs b1)), .int x2] (WX ε σ) (PV ε z) := RM.of (by decide) (Nat.le_of_ble_eq_true rfl) (fun κ C K => tf_X6_cutAdapter b1 C K x2 σ e)
def b_X6_cutWorstEnd_66 (b1 : Bool) (x5 : Int32) (σ : St) : Option Rs := nx (sS σ 16 5 x5) (fun s1 => some ((0 : Int32), s1))
set_option maxRecDepth 10000 in
set_option maxHeartbeats 1000000 in
theorem t_X6_cutWorstEnd_66 {ε : Et} {κ : Kt} {z : Rs} (b1 : Bool) (C : Cx ε κ cX6_cutWorstEnd 7 RX6 2) (K : Ret ε κ cX6_cutWorstEnd none 0 0 (PV ε z)) (x5 : Int32) (σ : St) (ok : b_X6_cutWorstEnd_66 b1 x5 σ = some z) : G ε κ 0 0 66 [(0, .ref (ad ε 16)), (5, .int x5)] [] (WX ε σ) := by
  unfold b_X6_cutWorstEnd_66 at ok
  refine g_aload_n C dX6_cutWorstEnd_66 rfl 0 rfl ?_
  refine g_iload C dX6_cutWorstEnd_67 1 rfl ?_
  refine p_X6_45 C dX6_cutWorstEnd_69 (fun s1 e2 => ?_)
  replace ok := nx_ok ok s1 e2
  exact K.1 rfl _ _ _ dX6_cutWorstEnd_72 (pv_ok ok)
def b_X6_cutWorstEnd_60 (b1 : Bool) (k19 : Int32 → Int32 → Int32 → Int32 → Int32 → St → Option Rs) (x2 : Int32) (x3 : Int32) (x4 : Int32) (x5 : Int32) (x6 : Int32) (σ : St) : Option Rs := nx (x6 + (-1 : Int32)) (fun y1 => k19 x2 x3 x4 x5 y1 σ)
set_option maxRecDepth 10000 in
set_option maxHeartbeats 1000000 in
theorem t_X6_cutWorstEnd_60 {ε : Et} {κ : Kt} {z : Rs} (b1 : Bool) (C : Cx ε κ cX6_cutWorstEnd 7 RX6 2) (K : Ret ε κ cX6_cutWorstEnd none 0 0 (PV ε z)) (k19 : Int32 → Int32 → Int32 → Int32 → Int32 → St → Option Rs) (g19 : ∀ (x2 : Int32) (x3 : Int32) (x4 : Int32) (x5 : Int32) (x6 : Int32) (σ : St), k19 x2 x3 x4 x5 x6 σ = some z → G ε κ 0 0 19 [(0, .ref (ad ε 16)), (1, .ref (ad ε (bs b1))), (2, .int x2), (3, .int x3), (4, .int x4), (5, .int x5), (6, .int x6)] [] (WX ε σ)) (x2 : Int32) (x3 : Int32) (x4 : Int32) (x5 : Int32) (x6 : Int32) (σ : St) (ok : b_X6_cutWorstEnd_60 b1 k19 x2 x3 x4 x5 x6 σ = some z) : G ε κ 0 0 60 [(0, .ref (ad ε 16)), (1, .ref (ad ε (bs b1))), (2, .int x2), (3, .int x3), (4, .int x4), (5, .int x5), (6, .int x6)] [] (WX ε σ) := by
  unfold b_X6_cutWorstEnd_60 at ok
  obtain ⟨y1, e2⟩ : ∃ y : Int32, y = (x6 + (-1 : Int32)) := ⟨_, rfl⟩
  replace ok := nx_ok ok y1 e2
  refine g_iinc (v := y1) C [(6, .int y1), (0, .ref (ad ε 16)), (1, .ref (ad ε (bs b1))), (2, .int x2), (3, .int x3), (4, .int x4), (5, .int x5)] dX6_cutWorstEnd_60 6 rfl (by rw [e2]; rfl) (by decide) rfl ?_
  refine g_goto (tgt := 19) C dX6_cutWorstEnd_63 (by decide) ?_
  refine g_pick (lv' := [(0, .ref (ad ε 16)), (1, .ref (ad ε (bs b1))), (2, .int x2), (3, .int x3), (4, .int x4), (5, .int x5), (6, .int y1)]) ?_ [1, 2, 3, 4, 5, 6, 0] rfl
  exact g19 _ _ _ _ _ _ ok
def b_X6_cutWorstEnd_19 (b1 : Bool) (k19 : Int32 → Int32 → Int32 → Int32 → Int32 → St → Option Rs) (x2 : Int32) (x3 : Int32) (x4 : Int32) (x5 : Int32) (x6 : Int32) (σ : St) : Option Rs := (if x6 < (σ.1 16 4) then b_X6_cutWorstEnd_66 b1 x5 σ else (if x3 < 0 then b_X6_cutWorstEnd_66 b1 x5 σ else bd (f_X3_quality b1 x2 x6 σ) (fun r3 s4 => nx (x3 + ((σ.1 16 2) - r3)) (fun y6 => (if y6 ≤ x4 then b_X6_cutWorstEnd_60 b1 k19 x2 y6 x4 x5 x6 s4 else b_X6_cutWorstEnd_60 b1 k19 x2 y6 y6 x6 x6 s4)))))
set_option maxRecDepth 10000 in
set_option maxHeartbeats 1000000 in
theorem t_X6_cutWorstEnd_19 {ε : Et} {κ : Kt} {z : Rs} (b1 : Bool) (C : Cx ε κ cX6_cutWorstEnd 7 RX6 2) (K : Ret ε κ cX6_cutWorstEnd none 0 0 (PV ε z)) (k19 : Int32 → Int32 → Int32 → Int32 → Int32 → St → Option Rs) (g19 : ∀ (x2 : Int32) (x3 : Int32) (x4 : Int32) (x5 : Int32) (x6 : Int32) (σ : St), k19 x2 x3 x4 x5 x6 σ = some z → G ε κ 0 0 19 [(0, .ref (ad ε 16)), (1, .ref (ad ε (bs b1))), (2, .int x2), (3, .int x3), (4, .int x4), (5, .int x5), (6, .int x6)] [] (WX ε σ)) (x2 : Int32) (x3 : Int32) (x4 : Int32) (x5 : Int32) (x6 : Int32) (σ : St) (ok : b_X6_cutWorstEnd_19 b1 k19 x2 x3 x4 x5 x6 σ = some z) : G ε κ 0 0 19 [(0, .ref (ad ε 16)), (1, .ref (ad ε (bs b1))), (2, .int x2), (3, .int x3), (4, .int x4), (5, .int x5), (6, .int x6)] [] (WX ε σ) := by
  unfold b_X6_cutWorstEnd_19 at ok
  refine g_iload C dX6_cutWorstEnd_19 6 rfl ?_
  refine g_aload_n C dX6_cutWorstEnd_21 rfl 0 rfl ?_
  refine q_X6_42 C dX6_cutWorstEnd_22 ?_
  refine g_icmp_lt (tgt := 66) C dX6_cutWorstEnd_25 (by decide) (fun c1 => ?_) (fun c1 => ?_)
  · replace ok := ok_t c1 ok
    refine g_pick (lv' := [(0, .ref (ad ε 16)), (5, .int x5)]) ?_ [0, 5] rfl
    exact t_X6_cutWorstEnd_66 b1 C K _ _ ok
  · replace ok := ok_f c1 ok
    refine g_iload_n C dX6_cutWorstEnd_28 rfl 3 rfl ?_
    refine g_if_lt (tgt := 66) C dX6_cutWorstEnd_29 (by decide) (fun c2 => ?_) (fun c2 => ?_)
    · replace ok := ok_t c2 ok
      refine g_pick (lv' := [(0, .ref (ad ε 16)), (5, .int x5)]) ?_ [0, 5] rfl
      exact t_X6_cutWorstEnd_66 b1 C K _ _ ok
    · replace ok := ok_f c2 ok
      refine g_iload_n C dX6_cutWorstEnd_32 rfl 3 rfl ?_
      refine g_aload_n C dX6_cutWorstEnd_33 rfl 0 rfl ?_
      refine q_X6_39 C dX6_cutWorstEnd_34 ?_
      refine g_aload_n C dX6_cutWorstEnd_37 rfl 1 rfl ?_
      refine g_iload_n C dX6_cutWorstEnd_38 rfl 2 rfl ?_
      refine g_iload C dX6_cutWorstEnd_39 6 rfl ?_
      obtain ⟨r3, s4, e5, ok⟩ := bd_ok ok
      refine q_cI C [.int x2, .int x6] (c_X3_quality e5) wv_X6_83 (by decide) (bs_lt b1) (wx_X3 b1) rfl rfl rfl (Nat.le_of_ble_eq_true rfl) dX6_cutWorstEnd_41 ?_
      refine g_isub C dX6_cutWorstEnd_44 ?_
      refine g_iadd C dX6_cutWorstEnd_45 ?_
      refine q_nm (fun y6 e7 => ?_)
      replace ok := nx_ok ok y6 e7
      refine g_istore_n C [(3, .int y6), (0, .ref (ad ε 16)), (1, .ref (ad ε (bs b1))), (2, .int x2), (4, .int x4), (5, .int x5), (6, .int x6)] dX6_cutWorstEnd_46 rfl (by decide) rfl ?_
      refine g_iload_n C dX6_cutWorstEnd_47 rfl 0 rfl ?_
      refine g_iload C dX6_cutWorstEnd_48 4 rfl ?_
      refine g_icmp_le (tgt := 60) C dX6_cutWorstEnd_50 (by decide) (fun c8 => ?_) (fun c8 => ?_)
      · replace ok := ok_t c8 ok
        refine g_pick (lv' := [(0, .ref (ad ε 16)), (1, .ref (ad ε (bs b1))), (2, .int x2), (3, .int y6), (4, .int x4), (5, .int x5), (6, .int x6)]) ?_ [1, 2, 3, 0, 4, 5, 6] rfl
        exact t_X6_cutWorstEnd_60 b1 C K k19 g19 _ _ _ _ _ _ ok
      · replace ok := ok_f c8 ok
        refine g_iload_n C dX6_cutWorstEnd_53 rfl 0 rfl ?_
        refine g_istore C [(4, .int y6), (3, .int y6), (0, .ref (ad ε 16)), (1, .ref (ad ε (bs b1))), (2, .int x2), (5, .int x5), (6, .int x6)] dX6_cutWorstEnd_54 (by decide) rfl ?_
        refine g_iload C dX6_cutWorstEnd_56 6 rfl ?_
        refine g_istore C [(5, .int x6), (4, .int y6), (3, .int y6), (0, .ref (ad ε 16)), (1, .ref (ad ε (bs b1))), (2, .int x2), (6, .int x6)] dX6_cutWorstEnd_58 (by decide) rfl ?_
        refine g_pick (lv' := [(0, .ref (ad ε 16)), (1, .ref (ad ε (bs b1))), (2, .int x2), (3, .int y6), (4, .int y6), (5, .int x6), (6, .int x6)]) ?_ [3, 4, 5, 2, 1, 0, 6] rfl
        exact t_X6_cutWorstEnd_60 b1 C K k19 g19 _ _ _ _ _ _ ok
def l_X6_cutWorstEnd_19 (b1 : Bool) : Nat → Int32 → Int32 → Int32 → Int32 → Int32 → St → Option Rs
  | 0 => fun _ _ _ _ _ _ => none
  | n + 1 => fun x2 x3 x4 x5 x6 σ => b_X6_cutWorstEnd_19 b1 (l_X6_cutWorstEnd_19 b1 n) x2 x3 x4 x5 x6 σ
theorem tl_X6_cutWorstEnd_19 {ε : Et} {κ : Kt} {z : Rs} (b1 : Bool) (C : Cx ε κ cX6_cutWorstEnd 7 RX6 2) (K : Ret ε κ cX6_cutWorstEnd none 0 0 (PV ε z)) : ∀ (n : Nat) (x2 : Int32) (x3 : Int32) (x4 : Int32) (x5 : Int32) (x6 : Int32) (σ : St), l_X6_cutWorstEnd_19 b1 n x2 x3 x4 x5 x6 σ = some z → G ε κ 0 0 19 [(0, .ref (ad ε 16)), (1, .ref (ad ε (bs b1))), (2, .int x2), (3, .int x3), (4, .int x4), (5, .int x5), (6, .int x6)] [] (WX ε σ) := by
  intro n
  induction n with
  | zero =>
    intro x2 x3 x4 x5 x6 σ ok
    cases ok
  | succ n ih =>
    intro x2 x3 x4 x5 x6 σ ok
    exact t_X6_cutWorstEnd_19 b1 C K (l_X6_cutWorstEnd_19 b1 n) ih x2 x3 x4 x5 x6 σ ok
def f_X6_cutWorstEnd (b1 : Bool) (x2 : Int32) (σ : St) : Option Rs := nx (σ.1 16 5) (fun y1 => nx ((σ.1 16 5) - (1 : Int32)) (fun y3 => l_X6_cutWorstEnd_19 b1 FU x2 (0 : Int32) (0 : Int32) y1 y3 σ))
set_option maxRecDepth 10000 in
set_option maxHeartbeats 1000000 in
theorem tf_X6_cutWorstEnd {ε : Et} {κ : Kt} {z : Rs} (b1 : Bool) (C : Cx ε κ cX6_cutWorstEnd 7 RX6 2) (K : Ret ε κ cX6_cutWorstEnd none 0 0 (PV ε z)) (x2 : Int32) (σ : St) (ok : f_X6_cutWorstEnd b1 x2 σ = some z) : G ε κ 0 0 0 [(0, .ref (ad ε 16)), (1, .ref (ad ε (bs b1))), (2, .int x2)] [] (WX ε σ) := by
  unfold f_X6_cutWorstEnd at ok
  refine g_iconst (v := 0) C dX6_cutWorstEnd_0 (by decide) ?_
  refine g_istore_n C [(3, .int (0 : Int32)), (0, .ref (ad ε 16)), (1, .ref (ad ε (bs b1))), (2, .int x2)] dX6_cutWorstEnd_1 rfl (by decide) rfl ?_
  refine g_iconst (v := 0) C dX6_cutWorstEnd_2 (by decide) ?_
  refine g_istore C [(4, .int (0 : Int32)), (3, .int (0 : Int32)), (0, .ref (ad ε 16)), (1, .ref (ad ε (bs b1))), (2, .int x2)] dX6_cutWorstEnd_3 (by decide) rfl ?_
  refine g_aload_n C dX6_cutWorstEnd_5 rfl 2 rfl ?_
  refine q_X6_45 C dX6_cutWorstEnd_6 ?_
  refine q_nm (fun y1 e2 => ?_)
  replace ok := nx_ok ok y1 e2
  refine g_istore C [(5, .int y1), (4, .int (0 : Int32)), (3, .int (0 : Int32)), (0, .ref (ad ε 16)), (1, .ref (ad ε (bs b1))), (2, .int x2)] dX6_cutWorstEnd_9 (by decide) rfl ?_
  refine g_aload_n C dX6_cutWorstEnd_11 rfl 3 rfl ?_
  refine q_X6_45 C dX6_cutWorstEnd_12 ?_
  refine g_iconst (v := 1) C dX6_cutWorstEnd_15 (by decide) ?_
  refine g_isub C dX6_cutWorstEnd_16 ?_
  refine q_nm (fun y3 e4 => ?_)
  replace ok := nx_ok ok y3 e4
  refine g_istore C [(6, .int y3), (5, .int y1), (4, .int (0 : Int32)), (3, .int (0 : Int32)), (0, .ref (ad ε 16)), (1, .ref (ad ε (bs b1))), (2, .int x2)] dX6_cutWorstEnd_17 (by decide) rfl ?_
  refine g_pick (lv' := [(0, .ref (ad ε 16)), (1, .ref (ad ε (bs b1))), (2, .int x2), (3, .int (0 : Int32)), (4, .int (0 : Int32)), (5, .int y1), (6, .int y3)]) ?_ [4, 5, 6, 3, 2, 1, 0] rfl
  exact tl_X6_cutWorstEnd_19 b1 C K FU _ _ _ _ _ _ ok
theorem c_X6_cutWorstEnd {l : Launch} {ε : Et} {σ : St} {z : Rs} {b1 : Bool} {x2 : Int32} (e : f_X6_cutWorstEnd b1 x2 σ = some z) : RM l ε yX6_cutWorstEnd cX6_cutWorstEnd 7 none 2 0 0 [.ref (ad ε 16), .ref (ad ε (bs b1)), .int x2] (WX ε σ) (PV ε z) := RM.of (by decide) (Nat.le_of_ble_eq_true rfl) (fun κ C K => tf_X6_cutWorstEnd b1 C K x2 σ e)
def b_X6_cutWorstBegin_66 (b1 : Bool) (x5 : Int32) (σ : St) : Option Rs := nx (sS σ 16 4 x5) (fun s1 => some ((0 : Int32), s1))
set_option maxRecDepth 10000 in
set_option maxHeartbeats 1000000 in
theorem t_X6_cutWorstBegin_66 {ε : Et} {κ : Kt} {z : Rs} (b1 : Bool) (C : Cx ε κ cX6_cutWorstBegin 7 RX6 2) (K : Ret ε κ cX6_cutWorstBegin none 0 0 (PV ε z)) (x5 : Int32) (σ : St) (ok : b_X6_cutWorstBegin_66 b1 x5 σ = some z) : G ε κ 0 0 66 [(0, .ref (ad ε 16)), (5, .int x5)] [] (WX ε σ) := by
  unfold b_X6_cutWorstBegin_66 at ok
  refine g_aload_n C dX6_cutWorstBegin_66 rfl 0 rfl ?_
  refine g_iload C dX6_cutWorstBegin_67 1 rfl ?_
  refine p_X6_42 C dX6_cutWorstBegin_69 (fun s1 e2 => ?_)
  replace ok := nx_ok ok s1 e2
  exact K.1 rfl _ _ _ dX6_cutWorstBegin_72 (pv_ok ok)
def b_X6_cutWorstBegin_60 (b1 : Bool) (k17 : Int32 → Int32 → Int32 → Int32 → Int32 → St → Option Rs) (x2 : Int32) (x3 : Int32) (x4 : Int32) (x5 : Int32) (x6 : Int32) (σ : St) : Option Rs := nx (x6 + (1 : Int32)) (fun y1 => k17 x2 x3 x4 x5 y1 σ)
set_option maxRecDepth 10000 in
set_option maxHeartbeats 1000000 in
theorem t_X6_cutWorstBegin_60 {ε : Et} {κ : Kt} {z : Rs} (b1 : Bool) (C : Cx ε κ cX6_cutWorstBegin 7 RX6 2) (K : Ret ε κ cX6_cutWorstBegin none 0 0 (PV ε z)) (k17 : Int32 → Int32 → Int32 → Int32 → Int32 → St → Option Rs) (g17 : ∀ (x2 : Int32) (x3 : Int32) (x4 : Int32) (x5 : Int32) (x6 : Int32) (σ : St), k17 x2 x3 x4 x5 x6 σ = some z → G ε κ 0 0 17 [(0, .ref (ad ε 16)), (1, .ref (ad ε (bs b1))), (2, .int x2), (3, .int x3), (4, .int x4), (5, .int x5), (6, .int x6)] [] (WX ε σ)) (x2 : Int32) (x3 : Int32) (x4 : Int32) (x5 : Int32) (x6 : Int32) (σ : St) (ok : b_X6_cutWorstBegin_60 b1 k17 x2 x3 x4 x5 x6 σ = some z) : G ε κ 0 0 60 [(0, .ref (ad ε 16)), (1, .ref (ad ε (bs b1))), (2, .int x2), (3, .int x3), (4, .int x4), (5, .int x5), (6, .int x6)] [] (WX ε σ) := by
  unfold b_X6_cutWorstBegin_60 at ok
  obtain ⟨y1, e2⟩ : ∃ y : Int32, y = (x6 + (1 : Int32)) := ⟨_, rfl⟩
  replace ok := nx_ok ok y1 e2
  refine g_iinc (v := y1) C [(6, .int y1), (0, .ref (ad ε 16)), (1, .ref (ad ε (bs b1))), (2, .int x2), (3, .int x3), (4, .int x4), (5, .int x5)] dX6_cutWorstBegin_60 6 rfl (by rw [e2]; rfl) (by decide) rfl ?_
  refine g_goto (tgt := 17) C dX6_cutWorstBegin_63 (by decide) ?_
  refine g_pick (lv' := [(0, .ref (ad ε 16)), (1, .ref (ad ε (bs b1))), (2, .int x2), (3, .int x3), (4, .int x4), (5, .int x5), (6, .int y1)]) ?_ [1, 2, 3, 4, 5, 6, 0] rfl
  exact g17 _ _ _ _ _ _ ok
def b_X6_cutWorstBegin_17 (b1 : Bool) (k17 : Int32 → Int32 → Int32 → Int32 → Int32 → St → Option Rs) (x2 : Int32) (x3 : Int32) (x4 : Int32) (x5 : Int32) (x6 : Int32) (σ : St) : Option Rs := (if (σ.1 16 5) ≤ x6 then b_X6_cutWorstBegin_66 b1 x5 σ else (if x3 < 0 then b_X6_cutWorstBegin_66 b1 x5 σ else bd (f_X3_quality b1 x2 x6 σ) (fun r3 s4 => nx (x3 + ((σ.1 16 1) - r3)) (fun y6 => (if y6 ≤ x4 then b_X6_cutWorstBegin_60 b1 k17 x2 y6 x4 x5 x6 s4 else nx (x6 + (1 : Int32)) (fun y9 => b_X6_cutWorstBegin_60 b1 k17 x2 y6 y6 y9 x6 s4))))))
set_option maxRecDepth 10000 in
set_option maxHeartbeats 1000000 in
theorem t_X6_cutWorstBegin_17 {ε : Et} {κ : Kt} {z : Rs} (b1 : Bool) (C : Cx ε κ cX6_cutWorstBegin 7 RX6 2) (K : Ret ε κ cX6_cutWorstBegin none 0 0 (PV ε z)) (k17 : Int32 → Int32 → Int32 → Int32 → Int32 → St → Option Rs) (g17 : ∀ (x2 : Int32) (x3 : Int32) (x4 : Int32) (x5 : Int32) (x6 : Int32) (σ : St), k17 x2 x3 x4 x5 x6 σ = some z → G ε κ 0 0 17 [(0, .ref (ad ε 16)), (1, .ref (ad ε (bs b1))), (2, .int x2), (3, .int x3), (4, .int x4), (5, .int x5), (6, .int x6)] [] (WX ε σ)) (x2 : Int32) (x3 : Int32) (x4 : Int32) (x5 : Int32) (x6 : Int32) (σ : St) (ok : b_X6_cutWorstBegin_17 b1 k17 x2 x3 x4 x5 x6 σ = some z) : G ε κ 0 0 17 [(0, .ref (ad ε 16)), (1, .ref (ad ε (bs b1))), (2, .int x2), (3, .int x3), (4, .int x4), (5, .int x5), (6, .int x6)] [] (WX ε σ) := by
  unfold b_X6_cutWorstBegin_17 at ok
  refine g_iload C dX6_cutWorstBegin_17 6 rfl ?_
  refine g_aload_n C dX6_cutWorstBegin_19 rfl 0 rfl ?_
  refine q_X6_45 C dX6_cutWorstBegin_20 ?_
  refine g_icmp_ge (tgt := 66) C dX6_cutWorstBegin_23 (by decide) (fun c1 => ?_) (fun c1 => ?_)
  · replace ok := ok_t c1 ok
    refine g_pick (lv' := [(0, .ref (ad ε 16)), (5, .int x5)]) ?_ [0, 5] rfl
    exact t_X6_cutWorstBegin_66 b1 C K _ _ ok
  · replace ok := ok_f c1 ok
    refine g_iload_n C dX6_cutWorstBegin_26 rfl 3 rfl ?_
    refine g_if_lt (tgt := 66) C dX6_cutWorstBegin_27 (by decide) (fun c2 => ?_) (fun c2 => ?_)
    · replace ok := ok_t c2 ok
      refine g_pick (lv' := [(0, .ref (ad ε 16)), (5, .int x5)]) ?_ [0, 5] rfl
      exact t_X6_cutWorstBegin_66 b1 C K _ _ ok
    · replace ok := ok_f c2 ok
      refine g_iload_n C dX6_cutWorstBegin_30 rfl 3 rfl ?_
      refine g_aload_n C dX6_cutWorstBegin_31 rfl 0 rfl ?_
      refine q_X6_36 C dX6_cutWorstBegin_32 ?_
      refine g_aload_n C dX6_cutWorstBegin_35 rfl 1 rfl ?_
      refine g_iload_n C dX6_cutWorstBegin_36 rfl 2 rfl ?_
      refine g_iload C dX6_cutWorstBegin_37 6 rfl ?_
      obtain ⟨r3, s4, e5, ok⟩ := bd_ok ok
      refine q_cI C [.int x2, .int x6] (c_X3_quality e5) wv_X6_83 (by decide) (bs_lt b1) (wx_X3 b1) rfl rfl rfl (Nat.le_of_ble_eq_true rfl) dX6_cutWorstBegin_39 ?_
      refine g_isub C dX6_cutWorstBegin_42 ?_
      refine g_iadd C dX6_cutWorstBegin_43 ?_
      refine q_nm (fun y6 e7 => ?_)
      replace ok := nx_ok ok y6 e7
      refine g_istore_n C [(3, .int y6), (0, .ref (ad ε 16)), (1, .ref (ad ε (bs b1))), (2, .int x2), (4, .int x4), (5, .int x5), (6, .int x6)] dX6_cutWorstBegin_44 rfl (by decide) rfl ?_
      refine g_iload_n C dX6_cutWorstBegin_45 rfl 0 rfl ?_
      refine g_iload C dX6_cutWorstBegin_46 4 rfl ?_
      refine g_icmp_le (tgt := 60) C dX6_cutWorstBegin_48 (by decide) (fun c8 => ?_) (fun c8 => ?_)
      · replace ok := ok_t c8 ok
        refine g_pick (lv' := [(0, .ref (ad ε 16)), (1, .ref (ad ε (bs b1))), (2, .int x2), (3, .int y6), (4, .int x4), (5, .int x5), (6, .int x6)]) ?_ [1, 2, 3, 0, 4, 5, 6] rfl
        exact t_X6_cutWorstBegin_60 b1 C K k17 g17 _ _ _ _ _ _ ok
      · replace ok := ok_f c8 ok
        refine g_iload_n C dX6_cutWorstBegin_51 rfl 0 rfl ?_
        refine g_istore C [(4, .int y6), (3, .int y6), (0, .ref (ad ε 16)), (1, .ref (ad ε (bs b1))), (2, .int x2), (5, .int x5), (6, .int x6)] dX6_cutWorstBegin_52 (by decide) rfl ?_
        refine g_iload C dX6_cutWorstBegin_54 6 rfl ?_
        refine g_iconst (v := 1) C dX6_cutWorstBegin_56 (by decide) ?_
        refine g_iadd C dX6_cutWorstBegin_57 ?_
        refine q_nm (fun y9 e10 => ?_)
        replace ok := nx_ok ok y9 e10
        refine g_istore C [(5, .int y9), (4, .int y6), (3, .int y6), (0, .ref (ad ε 16)), (1, .ref (ad ε (bs b1))), (2, .int x2), (6, .int x6)] dX6_cutWorstBegin_58 (by decide) rfl ?_
        refine g_pick (lv' := [(0, .ref (ad ε 16)), (1, .ref (ad ε (bs b1))), (2, .int x2), (3, .int y6), (4, .int y6), (5, .int y9), (6, .int x6)]) ?_ [3, 4, 5, 2, 1, 0, 6] rfl
        exact t_X6_cutWorstBegin_60 b1 C K k17 g17 _ _ _ _ _ _ ok
def l_X6_cutWorstBegin_17 (b1 : Bool) : Nat → Int32 → Int32 → Int32 → Int32 → Int32 → St → Option Rs
  | 0 => fun _ _ _ _ _ _ => none
  | n + 1 => fun x2 x3 x4 x5 x6 σ => b_X6_cutWorstBegin_17 b1 (l_X6_cutWorstBegin_17 b1 n) x2 x3 x4 x5 x6 σ
theorem tl_X6_cutWorstBegin_17 {ε : Et} {κ : Kt} {z : Rs} (b1 : Bool) (C : Cx ε κ cX6_cutWorstBegin 7 RX6 2) (K : Ret ε κ cX6_cutWorstBegin none 0 0 (PV ε z)) : ∀ (n : Nat) (x2 : Int32) (x3 : Int32) (x4 : Int32) (x5 : Int32) (x6 : Int32) (σ : St), l_X6_cutWorstBegin_17 b1 n x2 x3 x4 x5 x6 σ = some z → G ε κ 0 0 17 [(0, .ref (ad ε 16)), (1, .ref (ad ε (bs b1))), (2, .int x2), (3, .int x3), (4, .int x4), (5, .int x5), (6, .int x6)] [] (WX ε σ) := by
  intro n
  induction n with
  | zero =>
    intro x2 x3 x4 x5 x6 σ ok
    cases ok
  | succ n ih =>
    intro x2 x3 x4 x5 x6 σ ok
    exact t_X6_cutWorstBegin_17 b1 C K (l_X6_cutWorstBegin_17 b1 n) ih x2 x3 x4 x5 x6 σ ok
def f_X6_cutWorstBegin (b1 : Bool) (x2 : Int32) (σ : St) : Option Rs := nx (σ.1 16 4) (fun y1 => nx (σ.1 16 4) (fun y3 => l_X6_cutWorstBegin_17 b1 FU x2 (0 : Int32) (0 : Int32) y1 y3 σ))
set_option maxRecDepth 10000 in
set_option maxHeartbeats 1000000 in
theorem tf_X6_cutWorstBegin {ε : Et} {κ : Kt} {z : Rs} (b1 : Bool) (C : Cx ε κ cX6_cutWorstBegin 7 RX6 2) (K : Ret ε κ cX6_cutWorstBegin none 0 0 (PV ε z)) (x2 : Int32) (σ : St) (ok : f_X6_cutWorstBegin b1 x2 σ = some z) : G ε κ 0 0 0 [(0, .ref (ad ε 16)), (1, .ref (ad ε (bs b1))), (2, .int x2)] [] (WX ε σ) := by
  unfold f_X6_cutWorstBegin at ok
  refine g_iconst (v := 0) C dX6_cutWorstBegin_0 (by decide) ?_
  refine g_istore_n C [(3, .int (0 : Int32)), (0, .ref (ad ε 16)), (1, .ref (ad ε (bs b1))), (2, .int x2)] dX6_cutWorstBegin_1 rfl (by decide) rfl ?_
  refine g_iconst (v := 0) C dX6_cutWorstBegin_2 (by decide) ?_
  refine g_istore C [(4, .int (0 : Int32)), (3, .int (0 : Int32)), (0, .ref (ad ε 16)), (1, .ref (ad ε (bs b1))), (2, .int x2)] dX6_cutWorstBegin_3 (by decide) rfl ?_
  refine g_aload_n C dX6_cutWorstBegin_5 rfl 2 rfl ?_
  refine q_X6_42 C dX6_cutWorstBegin_6 ?_
  refine q_nm (fun y1 e2 => ?_)
  replace ok := nx_ok ok y1 e2
  refine g_istore C [(5, .int y1), (4, .int (0 : Int32)), (3, .int (0 : Int32)), (0, .ref (ad ε 16)), (1, .ref (ad ε (bs b1))), (2, .int x2)] dX6_cutWorstBegin_9 (by decide) rfl ?_
  refine g_aload_n C dX6_cutWorstBegin_11 rfl 3 rfl ?_
  refine q_X6_42 C dX6_cutWorstBegin_12 ?_
  refine q_nm (fun y3 e4 => ?_)
  replace ok := nx_ok ok y3 e4
  refine g_istore C [(6, .int y3), (5, .int y1), (4, .int (0 : Int32)), (3, .int (0 : Int32)), (0, .ref (ad ε 16)), (1, .ref (ad ε (bs b1))), (2, .int x2)] dX6_cutWorstBegin_15 (by decide) rfl ?_
  refine g_pick (lv' := [(0, .ref (ad ε 16)), (1, .ref (ad ε (bs b1))), (2, .int x2), (3, .int (0 : Int32)), (4, .int (0 : Int32)), (5, .int y1), (6, .int y3)]) ?_ [4, 5, 6, 3, 2, 1, 0] rfl
  exact tl_X6_cutWorstBegin_17 b1 C K FU _ _ _ _ _ _ ok
theorem c_X6_cutWorstBegin {l : Launch} {ε : Et} {σ : St} {z : Rs} {b1 : Bool} {x2 : Int32} (e : f_X6_cutWorstBegin b1 x2 σ = some z) : RM l ε yX6_cutWorstBegin cX6_cutWorstBegin 7 none 2 0 0 [.ref (ad ε 16), .ref (ad ε (bs b1)), .int x2] (WX ε σ) (PV ε z) := RM.of (by decide) (Nat.le_of_ble_eq_true rfl) (fun κ C K => tf_X6_cutWorstBegin b1 C K x2 σ e)
def b_X6_cutUnknown_78 (b1 : Bool) (σ : St) : Option Rs := some ((0 : Int32), σ)
set_option maxRecDepth 10000 in
set_option maxHeartbeats 1000000 in
theorem t_X6_cutUnknown_78 {ε : Et} {κ : Kt} {z : Rs} (b1 : Bool) (C : Cx ε κ cX6_cutUnknown 3 RX6 2) (K : Ret ε κ cX6_cutUnknown none 0 0 (PV ε z)) (σ : St) (ok : b_X6_cutUnknown_78 b1 σ = some z) : G ε κ 0 0 78 [] [] (WX ε σ) := by
  unfold b_X6_cutUnknown_78 at ok
  exact K.1 rfl _ _ _ dX6_cutUnknown_78 (pv_ok ok)
def b_X6_cutUnknown_38 (b1 : Bool) (k38 : Int32 → St → Option Rs) (x2 : Int32) (σ : St) : Option Rs := (if (σ.1 16 5) ≤ (σ.1 16 4) then b_X6_cutUnknown_78 b1 σ else bd (f_X3_letterOctet b1 x2 ((σ.1 16 5) - (1 : Int32)) σ) (fun r2 s3 => (if r2 = (78 : Int32) then nx (sS s3 16 5 ((s3.1 16 5) - (1 : Int32))) (fun s6 => k38 x2 s6) else b_X6_cutUnknown_78 b1 s3)))
set_option maxRecDepth 10000 in
set_option maxHeartbeats 1000000 in
theorem t_X6_cutUnknown_38 {ε : Et} {κ : Kt} {z : Rs} (b1 : Bool) (C : Cx ε κ cX6_cutUnknown 3 RX6 2) (K : Ret ε κ cX6_cutUnknown none 0 0 (PV ε z)) (k38 : Int32 → St → Option Rs) (g38 : ∀ (x2 : Int32) (σ : St), k38 x2 σ = some z → G ε κ 0 0 38 [(0, .ref (ad ε 16)), (1, .ref (ad ε (bs b1))), (2, .int x2)] [] (WX ε σ)) (x2 : Int32) (σ : St) (ok : b_X6_cutUnknown_38 b1 k38 x2 σ = some z) : G ε κ 0 0 38 [(0, .ref (ad ε 16)), (1, .ref (ad ε (bs b1))), (2, .int x2)] [] (WX ε σ) := by
  unfold b_X6_cutUnknown_38 at ok
  refine g_aload_n C dX6_cutUnknown_38 rfl 0 rfl ?_
  refine q_X6_42 C dX6_cutUnknown_39 ?_
  refine g_aload_n C dX6_cutUnknown_42 rfl 0 rfl ?_
  refine q_X6_45 C dX6_cutUnknown_43 ?_
  refine g_icmp_ge (tgt := 78) C dX6_cutUnknown_46 (by decide) (fun c1 => ?_) (fun c1 => ?_)
  · replace ok := ok_t c1 ok
    refine g_pick (lv' := []) ?_ [] rfl
    exact t_X6_cutUnknown_78 b1 C K _ ok
  · replace ok := ok_f c1 ok
    refine g_aload_n C dX6_cutUnknown_49 rfl 1 rfl ?_
    refine g_iload_n C dX6_cutUnknown_50 rfl 2 rfl ?_
    refine g_aload_n C dX6_cutUnknown_51 rfl 0 rfl ?_
    refine q_X6_45 C dX6_cutUnknown_52 ?_
    refine g_iconst (v := 1) C dX6_cutUnknown_55 (by decide) ?_
    refine g_isub C dX6_cutUnknown_56 ?_
    obtain ⟨r2, s3, e4, ok⟩ := bd_ok ok
    refine q_cI C [.int x2, .int ((σ.1 16 5) - (1 : Int32))] (c_X3_letterOctet e4) wv_X6_80 (by decide) (bs_lt b1) (wx_X3 b1) rfl rfl rfl (Nat.le_of_ble_eq_true rfl) dX6_cutUnknown_57 ?_
    refine g_bipush (v := 78) C dX6_cutUnknown_60 (by decide) ?_
    refine g_icmp_ne (tgt := 78) C dX6_cutUnknown_62 (by decide) (fun c5 => ?_) (fun c5 => ?_)
    · replace ok := ok_f c5 ok
      refine g_pick (lv' := []) ?_ [] rfl
      exact t_X6_cutUnknown_78 b1 C K _ ok
    · replace ok := ok_t c5 ok
      refine g_aload_n C dX6_cutUnknown_65 rfl 0 rfl ?_
      refine g_dup C dX6_cutUnknown_66 rfl ?_
      refine q_X6_45 C dX6_cutUnknown_67 ?_
      refine g_iconst (v := 1) C dX6_cutUnknown_70 (by decide) ?_
      refine g_isub C dX6_cutUnknown_71 ?_
      refine p_X6_45 C dX6_cutUnknown_72 (fun s6 e7 => ?_)
      replace ok := nx_ok ok s6 e7
      refine g_goto (tgt := 38) C dX6_cutUnknown_75 (by decide) ?_
      exact g38 _ _ ok
def l_X6_cutUnknown_38 (b1 : Bool) : Nat → Int32 → St → Option Rs
  | 0 => fun _ _ => none
  | n + 1 => fun x2 σ => b_X6_cutUnknown_38 b1 (l_X6_cutUnknown_38 b1 n) x2 σ
theorem tl_X6_cutUnknown_38 {ε : Et} {κ : Kt} {z : Rs} (b1 : Bool) (C : Cx ε κ cX6_cutUnknown 3 RX6 2) (K : Ret ε κ cX6_cutUnknown none 0 0 (PV ε z)) : ∀ (n : Nat) (x2 : Int32) (σ : St), l_X6_cutUnknown_38 b1 n x2 σ = some z → G ε κ 0 0 38 [(0, .ref (ad ε 16)), (1, .ref (ad ε (bs b1))), (2, .int x2)] [] (WX ε σ) := by
  intro n
  induction n with
  | zero =>
    intro x2 σ ok
    cases ok
  | succ n ih =>
    intro x2 σ ok
    exact t_X6_cutUnknown_38 b1 C K (l_X6_cutUnknown_38 b1 n) ih x2 σ ok
def b_X6_cutUnknown_0 (b1 : Bool) (k0 : Int32 → St → Option Rs) (x2 : Int32) (σ : St) : Option Rs := (if (σ.1 16 5) ≤ (σ.1 16 4) then l_X6_cutUnknown_38 b1 FU x2 σ else bd (f_X3_letterOctet b1 x2 (σ.1 16 4) σ) (fun r2 s3 => (if r2 = (78 : Int32) then nx (sS s3 16 4 ((s3.1 16 4) + (1 : Int32))) (fun s6 => k0 x2 s6) else l_X6_cutUnknown_38 b1 FU x2 s3)))
set_option maxRecDepth 10000 in
set_option maxHeartbeats 1000000 in
theorem t_X6_cutUnknown_0 {ε : Et} {κ : Kt} {z : Rs} (b1 : Bool) (C : Cx ε κ cX6_cutUnknown 3 RX6 2) (K : Ret ε κ cX6_cutUnknown none 0 0 (PV ε z)) (k0 : Int32 → St → Option Rs) (g0 : ∀ (x2 : Int32) (σ : St), k0 x2 σ = some z → G ε κ 0 0 0 [(0, .ref (ad ε 16)), (1, .ref (ad ε (bs b1))), (2, .int x2)] [] (WX ε σ)) (x2 : Int32) (σ : St) (ok : b_X6_cutUnknown_0 b1 k0 x2 σ = some z) : G ε κ 0 0 0 [(0, .ref (ad ε 16)), (1, .ref (ad ε (bs b1))), (2, .int x2)] [] (WX ε σ) := by
  unfold b_X6_cutUnknown_0 at ok
  refine g_aload_n C dX6_cutUnknown_0 rfl 0 rfl ?_
  refine q_X6_42 C dX6_cutUnknown_1 ?_
  refine g_aload_n C dX6_cutUnknown_4 rfl 0 rfl ?_
  refine q_X6_45 C dX6_cutUnknown_5 ?_
  refine g_icmp_ge (tgt := 38) C dX6_cutUnknown_8 (by decide) (fun c1 => ?_) (fun c1 => ?_)
  · replace ok := ok_t c1 ok
    exact tl_X6_cutUnknown_38 b1 C K FU _ _ ok
  · replace ok := ok_f c1 ok
    refine g_aload_n C dX6_cutUnknown_11 rfl 1 rfl ?_
    refine g_iload_n C dX6_cutUnknown_12 rfl 2 rfl ?_
    refine g_aload_n C dX6_cutUnknown_13 rfl 0 rfl ?_
    refine q_X6_42 C dX6_cutUnknown_14 ?_
    obtain ⟨r2, s3, e4, ok⟩ := bd_ok ok
    refine q_cI C [.int x2, .int (σ.1 16 4)] (c_X3_letterOctet e4) wv_X6_80 (by decide) (bs_lt b1) (wx_X3 b1) rfl rfl rfl (Nat.le_of_ble_eq_true rfl) dX6_cutUnknown_17 ?_
    refine g_bipush (v := 78) C dX6_cutUnknown_20 (by decide) ?_
    refine g_icmp_ne (tgt := 38) C dX6_cutUnknown_22 (by decide) (fun c5 => ?_) (fun c5 => ?_)
    · replace ok := ok_f c5 ok
      exact tl_X6_cutUnknown_38 b1 C K FU _ _ ok
    · replace ok := ok_t c5 ok
      refine g_aload_n C dX6_cutUnknown_25 rfl 0 rfl ?_
      refine g_dup C dX6_cutUnknown_26 rfl ?_
      refine q_X6_42 C dX6_cutUnknown_27 ?_
      refine g_iconst (v := 1) C dX6_cutUnknown_30 (by decide) ?_
      refine g_iadd C dX6_cutUnknown_31 ?_
      refine p_X6_42 C dX6_cutUnknown_32 (fun s6 e7 => ?_)
      replace ok := nx_ok ok s6 e7
      refine g_goto (tgt := 0) C dX6_cutUnknown_35 (by decide) ?_
      exact g0 _ _ ok
def l_X6_cutUnknown_0 (b1 : Bool) : Nat → Int32 → St → Option Rs
  | 0 => fun _ _ => none
  | n + 1 => fun x2 σ => b_X6_cutUnknown_0 b1 (l_X6_cutUnknown_0 b1 n) x2 σ
theorem tl_X6_cutUnknown_0 {ε : Et} {κ : Kt} {z : Rs} (b1 : Bool) (C : Cx ε κ cX6_cutUnknown 3 RX6 2) (K : Ret ε κ cX6_cutUnknown none 0 0 (PV ε z)) : ∀ (n : Nat) (x2 : Int32) (σ : St), l_X6_cutUnknown_0 b1 n x2 σ = some z → G ε κ 0 0 0 [(0, .ref (ad ε 16)), (1, .ref (ad ε (bs b1))), (2, .int x2)] [] (WX ε σ) := by
  intro n
  induction n with
  | zero =>
    intro x2 σ ok
    cases ok
  | succ n ih =>
    intro x2 σ ok
    exact t_X6_cutUnknown_0 b1 C K (l_X6_cutUnknown_0 b1 n) ih x2 σ ok
def f_X6_cutUnknown (b1 : Bool) (x2 : Int32) (σ : St) : Option Rs := l_X6_cutUnknown_0 b1 FU x2 σ
set_option maxRecDepth 10000 in
set_option maxHeartbeats 1000000 in
theorem tf_X6_cutUnknown {ε : Et} {κ : Kt} {z : Rs} (b1 : Bool) (C : Cx ε κ cX6_cutUnknown 3 RX6 2) (K : Ret ε κ cX6_cutUnknown none 0 0 (PV ε z)) (x2 : Int32) (σ : St) (ok : f_X6_cutUnknown b1 x2 σ = some z) : G ε κ 0 0 0 [(0, .ref (ad ε 16)), (1, .ref (ad ε (bs b1))), (2, .int x2)] [] (WX ε σ) := by
  unfold f_X6_cutUnknown at ok
  exact tl_X6_cutUnknown_0 b1 C K FU _ _ ok
theorem c_X6_cutUnknown {l : Launch} {ε : Et} {σ : St} {z : Rs} {b1 : Bool} {x2 : Int32} (e : f_X6_cutUnknown b1 x2 σ = some z) : RM l ε yX6_cutUnknown cX6_cutUnknown 3 none 2 0 0 [.ref (ad ε 16), .ref (ad ε (bs b1)), .int x2] (WX ε σ) (PV ε z) := RM.of (by decide) (Nat.le_of_ble_eq_true rfl) (fun κ C K => tf_X6_cutUnknown b1 C K x2 σ e)
def f_X6_cut (b1 : Bool) (x2 : Int32) (x3 : Int32) (σ : St) : Option Rs := nx (sS σ 16 4 x3) (fun s1 => bd (f_X3_letterCount b1 x2 s1) (fun r3 s4 => nx (sS s4 16 5 r3) (fun s6 => bd (f_X6_cutAdapter b1 x2 s6) (fun r8 s9 => bd (f_X6_cutWorstEnd b1 x2 s9) (fun r11 s12 => bd (f_X6_cutWorstBegin b1 x2 s12) (fun r14 s15 => bd (f_X6_cutUnknown b1 x2 s15) (fun r17 s18 => some ((0 : Int32), s18))))))))
set_option maxRecDepth 10000 in
set_option maxHeartbeats 1000000 in
theorem tf_X6_cut {ε : Et} {κ : Kt} {z : Rs} (b1 : Bool) (C : Cx ε κ cX6_cut 4 RX6 4) (K : Ret ε κ cX6_cut none 0 0 (PV ε z)) (x2 : Int32) (x3 : Int32) (σ : St) (ok : f_X6_cut b1 x2 x3 σ = some z) : G ε κ 0 0 0 [(0, .ref (ad ε 16)), (1, .ref (ad ε (bs b1))), (2, .int x2), (3, .int x3)] [] (WX ε σ) := by
  unfold f_X6_cut at ok
  refine g_aload_n C dX6_cut_0 rfl 0 rfl ?_
  refine g_iload_n C dX6_cut_1 rfl 3 rfl ?_
  refine p_X6_42 C dX6_cut_2 (fun s1 e2 => ?_)
  replace ok := nx_ok ok s1 e2
  refine g_aload_n C dX6_cut_5 rfl 0 rfl ?_
  refine g_aload_n C dX6_cut_6 rfl 1 rfl ?_
  refine g_iload_n C dX6_cut_7 rfl 2 rfl ?_
  obtain ⟨r3, s4, e5, ok⟩ := bd_ok ok
  refine q_cI C [.int x2] (c_X3_letterCount e5) wv_X6_48 (by decide) (bs_lt b1) (wx_X3 b1) rfl rfl rfl (Nat.le_of_ble_eq_true rfl) dX6_cut_8 ?_
  refine p_X6_45 C dX6_cut_11 (fun s6 e7 => ?_)
  replace ok := nx_ok ok s6 e7
  refine g_aload_n C dX6_cut_14 rfl 0 rfl ?_
  refine g_aload_n C dX6_cut_15 rfl 1 rfl ?_
  refine g_iload_n C dX6_cut_16 rfl 2 rfl ?_
  obtain ⟨r8, s9, e10, ok⟩ := bd_ok ok
  refine q_cV C [.ref (ad ε (bs b1)), .int x2] (c_X6_cutAdapter e10) wv_X6_54 (by decide) (lt_N (by decide)) wx_X6 rfl rfl rfl (Nat.le_of_ble_eq_true rfl) dX6_cut_17 ?_
  refine g_aload_n C dX6_cut_20 rfl 0 rfl ?_
  refine g_aload_n C dX6_cut_21 rfl 1 rfl ?_
  refine g_iload_n C dX6_cut_22 rfl 2 rfl ?_
  obtain ⟨r11, s12, e13, ok⟩ := bd_ok ok
  refine q_cV C [.ref (ad ε (bs b1)), .int x2] (c_X6_cutWorstEnd e13) wv_X6_58 (by decide) (lt_N (by decide)) wx_X6 rfl rfl rfl (Nat.le_of_ble_eq_true rfl) dX6_cut_23 ?_
  refine g_aload_n C dX6_cut_26 rfl 0 rfl ?_
  refine g_aload_n C dX6_cut_27 rfl 1 rfl ?_
  refine g_iload_n C dX6_cut_28 rfl 2 rfl ?_
  obtain ⟨r14, s15, e16, ok⟩ := bd_ok ok
  refine q_cV C [.ref (ad ε (bs b1)), .int x2] (c_X6_cutWorstBegin e16) wv_X6_61 (by decide) (lt_N (by decide)) wx_X6 rfl rfl rfl (Nat.le_of_ble_eq_true rfl) dX6_cut_29 ?_
  refine g_aload_n C dX6_cut_32 rfl 0 rfl ?_
  refine g_aload_n C dX6_cut_33 rfl 1 rfl ?_
  refine g_iload_n C dX6_cut_34 rfl 2 rfl ?_
  obtain ⟨r17, s18, e19, ok⟩ := bd_ok ok
  refine q_cV C [.ref (ad ε (bs b1)), .int x2] (c_X6_cutUnknown e19) wv_X6_64 (by decide) (lt_N (by decide)) wx_X6 rfl rfl rfl (Nat.le_of_ble_eq_true rfl) dX6_cut_35 ?_
  exact K.1 rfl _ _ _ dX6_cut_38 (pv_ok ok)
theorem c_X6_cut {l : Launch} {ε : Et} {σ : St} {z : Rs} {b1 : Bool} {x2 : Int32} {x3 : Int32} (e : f_X6_cut b1 x2 x3 σ = some z) : RM l ε yX6_cut cX6_cut 4 none 4 0 0 [.ref (ad ε 16), .ref (ad ε (bs b1)), .int x2, .int x3] (WX ε σ) (PV ε z) := RM.of (by decide) (Nat.le_of_ble_eq_true rfl) (fun κ C K => tf_X6_cut b1 C K x2 x3 σ e)
