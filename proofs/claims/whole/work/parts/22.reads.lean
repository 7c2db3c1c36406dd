def b_X3_hasLetter_37 (b0 : Bool) (t0 : Int32) (σ : St) : Option Rs := gz t0 (some (t0, σ))
set_option maxRecDepth 10000 in
set_option maxHeartbeats 1000000 in
theorem t_X3_hasLetter_37 {ε : Et} {κ : Kt} {z : Rs} (b0 : Bool) (C : Cx ε κ cX3_hasLetter 3 RX3 0) (K : Ret ε κ cX3_hasLetter (some .boolean) 0 0 (PI ε z)) (t0 : Int32) (σ : St) (ok : b_X3_hasLetter_37 b0 t0 σ = some z) : G ε κ 0 0 37 [] [.int t0] (WX ε σ) := by
  unfold b_X3_hasLetter_37 at ok
  obtain ⟨z1, ok⟩ := gz_ok ok
  exact K.2 .boolean _ _ _ _ rfl dX3_hasLetter_37 (nar_b z1) (pi_ok ok)
def b_X3_hasLetter_36 (b0 : Bool) (σ : St) : Option Rs := b_X3_hasLetter_37 b0 (0 : Int32) σ
set_option maxRecDepth 10000 in
set_option maxHeartbeats 1000000 in
theorem t_X3_hasLetter_36 {ε : Et} {κ : Kt} {z : Rs} (b0 : Bool) (C : Cx ε κ cX3_hasLetter 3 RX3 0) (K : Ret ε κ cX3_hasLetter (some .boolean) 0 0 (PI ε z)) (σ : St) (ok : b_X3_hasLetter_36 b0 σ = some z) : G ε κ 0 0 36 [] [] (WX ε σ) := by
  unfold b_X3_hasLetter_36 at ok
  refine g_iconst (v := 0) C dX3_hasLetter_36 (by decide) ?_
  exact t_X3_hasLetter_37 b0 C K _ _ ok
def f_X3_hasLetter (b0 : Bool) (x1 : Int32) (x2 : Int32) (σ : St) : Option Rs := (if x1 < 0 then b_X3_hasLetter_36 b0 σ else (if (σ.1 (bs b0) 4) ≤ x1 then b_X3_hasLetter_36 b0 σ else (if (60 : Int32) ≤ x1 then b_X3_hasLetter_36 b0 σ else (if x2 < 0 then b_X3_hasLetter_36 b0 σ else gd (inb x1 (ln (bs b0 + 5))) ((if (σ.2.1 (bs b0 + 5) x1.toNatClampNeg) ≤ x2 then b_X3_hasLetter_36 b0 σ else b_X3_hasLetter_37 b0 (1 : Int32) σ))))))
set_option maxRecDepth 10000 in
set_option maxHeartbeats 1000000 in
theorem tf_X3_hasLetter {ε : Et} {κ : Kt} {z : Rs} (b0 : Bool) (C : Cx ε κ cX3_hasLetter 3 RX3 0) (K : Ret ε κ cX3_hasLetter (some .boolean) 0 0 (PI ε z)) (x1 : Int32) (x2 : Int32) (σ : St) (ok : f_X3_hasLetter b0 x1 x2 σ = some z) : G ε κ 0 0 0 [(0, .ref (ad ε (bs b0))), (1, .int x1), (2, .int x2)] [] (WX ε σ) := by
  unfold f_X3_hasLetter at ok
  refine g_iload_n C dX3_hasLetter_0 rfl 1 rfl ?_
  refine g_if_lt (tgt := 36) C dX3_hasLetter_1 (by decide) (fun c1 => ?_) (fun c1 => ?_)
  · replace ok := ok_t c1 ok
    refine g_pick (lv' := []) ?_ [] rfl
    exact t_X3_hasLetter_36 b0 C K _ ok
  · replace ok := ok_f c1 ok
    refine g_iload_n C dX3_hasLetter_4 rfl 1 rfl ?_
    refine g_aload_n C dX3_hasLetter_5 rfl 0 rfl ?_
    refine q_X3_33 C b0 dX3_hasLetter_6 ?_
    refine g_icmp_ge (tgt := 36) C dX3_hasLetter_9 (by decide) (fun c2 => ?_) (fun c2 => ?_)
    · replace ok := ok_t c2 ok
      refine g_pick (lv' := []) ?_ [] rfl
      exact t_X3_hasLetter_36 b0 C K _ ok
    · replace ok := ok_f c2 ok
      refine g_iload_n C dX3_hasLetter_12 rfl 1 rfl ?_
      refine g_bipush (v := 60) C dX3_hasLetter_13 (by decide) ?_
      refine g_icmp_ge (tgt := 36) C dX3_hasLetter_15 (by decide) (fun c3 => ?_) (fun c3 => ?_)
      · replace ok := ok_t c3 ok
        refine g_pick (lv' := []) ?_ [] rfl
        exact t_X3_hasLetter_36 b0 C K _ ok
      · replace ok := ok_f c3 ok
        refine g_iload_n C dX3_hasLetter_18 rfl 2 rfl ?_
        refine g_if_lt (tgt := 36) C dX3_hasLetter_19 (by decide) (fun c4 => ?_) (fun c4 => ?_)
        · replace ok := ok_t c4 ok
          refine g_pick (lv' := []) ?_ [] rfl
          exact t_X3_hasLetter_36 b0 C K _ ok
        · replace ok := ok_f c4 ok
          refine g_iload_n C dX3_hasLetter_22 rfl 2 rfl ?_
          refine g_aload_n C dX3_hasLetter_23 rfl 0 rfl ?_
          refine q_X3_27 C b0 dX3_hasLetter_24 ?_
          refine g_iload_n C dX3_hasLetter_27 rfl 1 rfl ?_
          obtain ⟨h5, ok⟩ := gd_ok ok
          refine q_ald C (ai_bs b0 (Or.inr (Or.inr rfl))) h5 dX3_hasLetter_28 ?_
          refine g_icmp_ge (tgt := 36) C dX3_hasLetter_29 (by decide) (fun c6 => ?_) (fun c6 => ?_)
          · replace ok := ok_t c6 ok
            refine g_pick (lv' := []) ?_ [] rfl
            exact t_X3_hasLetter_36 b0 C K _ ok
          · replace ok := ok_f c6 ok
            refine g_iconst (v := 1) C dX3_hasLetter_32 (by decide) ?_
            refine g_goto (tgt := 37) C dX3_hasLetter_33 (by decide) ?_
            refine g_pick (lv' := []) ?_ [] rfl
            exact t_X3_hasLetter_37 b0 C K _ _ ok
theorem c_X3_hasLetter {l : Launch} {ε : Et} {σ : St} {z : Rs} {b0 : Bool} {x1 : Int32} {x2 : Int32} (e : f_X3_hasLetter b0 x1 x2 σ = some z) : RM l ε yX3_hasLetter cX3_hasLetter 3 (some .boolean) 0 0 0 [.ref (ad ε (bs b0)), .int x1, .int x2] (WX ε σ) (PI ε z) := RM.of (by decide) (Nat.le_of_ble_eq_true rfl) (fun κ C K => tf_X3_hasLetter b0 C K x1 x2 σ e)
def b_X3_letterOctet_35 (b0 : Bool) (t0 : Int32) (σ : St) : Option Rs := some (t0, σ)
set_option maxRecDepth 10000 in
set_option maxHeartbeats 1000000 in
theorem t_X3_letterOctet_35 {ε : Et} {κ : Kt} {z : Rs} (b0 : Bool) (C : Cx ε κ cX3_letterOctet 3 RX3 1) (K : Ret ε κ cX3_letterOctet (some .int) 0 0 (PI ε z)) (t0 : Int32) (σ : St) (ok : b_X3_letterOctet_35 b0 t0 σ = some z) : G ε κ 0 0 35 [] [.int t0] (WX ε σ) := by
  unfold b_X3_letterOctet_35 at ok
  exact K.2 .int _ _ _ _ rfl dX3_letterOctet_35 rfl (pi_ok ok)
def f_X3_letterOctet (b0 : Bool) (x1 : Int32) (x2 : Int32) (σ : St) : Option Rs := bd (f_X3_hasLetter b0 x1 x2 σ) (fun r1 s2 => (if r1 = 0 then b_X3_letterOctet_35 b0 (-1 : Int32) s2 else gd (inb x1 (ln (bs b0 + 3))) (gd (inb x1 (ln (bs b0 + 4))) (bd (f_X4_at (bs b0 + 1) (((s2.2.1 (bs b0 + 3) x1.toNatClampNeg) + (s2.2.1 (bs b0 + 4) x1.toNatClampNeg)) + x2) s2) (fun r7 s8 => b_X3_letterOctet_35 b0 r7 s8)))))
set_option maxRecDepth 10000 in
set_option maxHeartbeats 1000000 in
theorem tf_X3_letterOctet {ε : Et} {κ : Kt} {z : Rs} (b0 : Bool) (C : Cx ε κ cX3_letterOctet 3 RX3 1) (K : Ret ε κ cX3_letterOctet (some .int) 0 0 (PI ε z)) (x1 : Int32) (x2 : Int32) (σ : St) (ok : f_X3_letterOctet b0 x1 x2 σ = some z) : G ε κ 0 0 0 [(0, .ref (ad ε (bs b0))), (1, .int x1), (2, .int x2)] [] (WX ε σ) := by
  unfold f_X3_letterOctet at ok
  refine g_aload_n C dX3_letterOctet_0 rfl 0 rfl ?_
  refine g_iload_n C dX3_letterOctet_1 rfl 1 rfl ?_
  refine g_iload_n C dX3_letterOctet_2 rfl 2 rfl ?_
  obtain ⟨r1, s2, e3, ok⟩ := bd_ok ok
  refine q_cI C [.int x1, .int x2] (c_X3_hasLetter e3) wv_X3_56 (by decide) (bs_lt b0) (wx_X3 b0) rfl rfl rfl (Nat.le_of_ble_eq_true rfl) dX3_letterOctet_3 ?_
  refine g_if_eq (tgt := 34) C dX3_letterOctet_6 (by decide) (fun c4 => ?_) (fun c4 => ?_)
  · replace ok := ok_t c4 ok
    refine g_iconst (v := -1) C dX3_letterOctet_34 (by decide) ?_
    refine g_pick (lv' := []) ?_ [] rfl
    exact t_X3_letterOctet_35 b0 C K _ _ ok
  · replace ok := ok_f c4 ok
    refine g_aload_n C dX3_letterOctet_9 rfl 0 rfl ?_
    refine q_X3_14 C b0 dX3_letterOctet_10 ?_
    refine g_aload_n C dX3_letterOctet_13 rfl 0 rfl ?_
    refine q_X3_20 C b0 dX3_letterOctet_14 ?_
    refine g_iload_n C dX3_letterOctet_17 rfl 1 rfl ?_
    obtain ⟨h5, ok⟩ := gd_ok ok
    refine q_ald C (ai_bs b0 (Or.inl rfl)) h5 dX3_letterOctet_18 ?_
    refine g_aload_n C dX3_letterOctet_19 rfl 0 rfl ?_
    refine q_X3_24 C b0 dX3_letterOctet_20 ?_
    refine g_iload_n C dX3_letterOctet_23 rfl 1 rfl ?_
    obtain ⟨h6, ok⟩ := gd_ok ok
    refine q_ald C (ai_bs b0 (Or.inr (Or.inl rfl))) h6 dX3_letterOctet_24 ?_
    refine g_iadd C dX3_letterOctet_25 ?_
    refine g_iload_n C dX3_letterOctet_26 rfl 2 rfl ?_
    refine g_iadd C dX3_letterOctet_27 ?_
    obtain ⟨r7, s8, e9, ok⟩ := bd_ok ok
    refine q_cI C [.int (((s2.2.1 (bs b0 + 3) x1.toNatClampNeg) + (s2.2.1 (bs b0 + 4) x1.toNatClampNeg)) + x2)] (c_X4_at (rw_bs b0) e9) wv_X3_52 (by decide) (rw_lt (rw_bs b0)) (wx_X4 (rw_bs b0)) rfl rfl rfl (Nat.le_of_ble_eq_true rfl) dX3_letterOctet_28 ?_
    refine g_goto (tgt := 35) C dX3_letterOctet_31 (by decide) ?_
    refine g_pick (lv' := []) ?_ [] rfl
    exact t_X3_letterOctet_35 b0 C K _ _ ok
theorem c_X3_letterOctet {l : Launch} {ε : Et} {σ : St} {z : Rs} {b0 : Bool} {x1 : Int32} {x2 : Int32} (e : f_X3_letterOctet b0 x1 x2 σ = some z) : RM l ε yX3_letterOctet cX3_letterOctet 3 (some .int) 1 0 0 [.ref (ad ε (bs b0)), .int x1, .int x2] (WX ε σ) (PI ε z) := RM.of (by decide) (Nat.le_of_ble_eq_true rfl) (fun κ C K => tf_X3_letterOctet b0 C K x1 x2 σ e)
def f_X3_restart (b0 : Bool) (x1 : Int32) (σ : St) : Option Rs := bd (f_X4_clear (bs b0 + 1) σ) (fun r1 s2 => nx (sS s2 (bs b0) 4 (0 : Int32)) (fun s4 => gz x1 (nx (sS s4 (bs b0) 5 x1) (fun s6 => some ((0 : Int32), s6)))))
set_option maxRecDepth 10000 in
set_option maxHeartbeats 1000000 in
theorem tf_X3_restart {ε : Et} {κ : Kt} {z : Rs} (b0 : Bool) (C : Cx ε κ cX3_restart 2 RX3 1) (K : Ret ε κ cX3_restart none 0 0 (PV ε z)) (x1 : Int32) (σ : St) (ok : f_X3_restart b0 x1 σ = some z) : G ε κ 0 0 0 [(0, .ref (ad ε (bs b0))), (1, .int x1)] [] (WX ε σ) := by
  unfold f_X3_restart at ok
  refine g_aload_n C dX3_restart_0 rfl 0 rfl ?_
  refine q_X3_14 C b0 dX3_restart_1 ?_
  obtain ⟨r1, s2, e3, ok⟩ := bd_ok ok
  refine q_cV C [] (c_X4_clear (rw_bs b0) e3) wv_X3_30 (by decide) (rw_lt (rw_bs b0)) (wx_X4 (rw_bs b0)) rfl rfl rfl (Nat.le_of_ble_eq_true rfl) dX3_restart_4 ?_
  refine g_aload_n C dX3_restart_7 rfl 0 rfl ?_
  refine g_iconst (v := 0) C dX3_restart_8 (by decide) ?_
  refine p_X3_33 C b0 dX3_restart_9 (fun s4 e5 => ?_)
  replace ok := nx_ok ok s4 e5
  refine g_aload_n C dX3_restart_12 rfl 0 rfl ?_
  refine g_iload_n C dX3_restart_13 rfl 1 rfl ?_
  obtain ⟨z8, ok⟩ := gz_ok ok
  refine p_X3_37 C b0 z8 dX3_restart_14 (fun s6 e7 => ?_)
  replace ok := nx_ok ok s6 e7
  exact K.1 rfl _ _ _ dX3_restart_17 (pv_ok ok)
theorem c_X3_restart {l : Launch} {ε : Et} {σ : St} {z : Rs} {b0 : Bool} {x1 : Int32} (e : f_X3_restart b0 x1 σ = some z) : RM l ε yX3_restart cX3_restart 2 none 1 0 0 [.ref (ad ε (bs b0)), .int x1] (WX ε σ) (PV ε z) := RM.of (by decide) (Nat.le_of_ble_eq_true rfl) (fun κ C K => tf_X3_restart b0 C K x1 σ e)
def f_X3_count (b0 : Bool) (σ : St) : Option Rs := some ((σ.1 (bs b0) 4), σ)
set_option maxRecDepth 10000 in
set_option maxHeartbeats 1000000 in
theorem tf_X3_count {ε : Et} {κ : Kt} {z : Rs} (b0 : Bool) (C : Cx ε κ cX3_count 1 RX3 0) (K : Ret ε κ cX3_count (some .int) 0 0 (PI ε z)) (σ : St) (ok : f_X3_count b0 σ = some z) : G ε κ 0 0 0 [(0, .ref (ad ε (bs b0)))] [] (WX ε σ) := by
  unfold f_X3_count at ok
  refine g_aload_n C dX3_count_0 rfl 0 rfl ?_
  refine q_X3_33 C b0 dX3_count_1 ?_
  exact K.2 .int _ _ _ _ rfl dX3_count_4 rfl (pi_ok ok)
theorem c_X3_count {l : Launch} {ε : Et} {σ : St} {z : Rs} {b0 : Bool} (e : f_X3_count b0 σ = some z) : RM l ε yX3_count cX3_count 1 (some .int) 0 0 0 [.ref (ad ε (bs b0))] (WX ε σ) (PI ε z) := RM.of (by decide) (Nat.le_of_ble_eq_true rfl) (fun κ C K => tf_X3_count b0 C K σ e)
def b_X3_begin_62 (b0 : Bool) (σ : St) : Option Rs := some ((0 : Int32), σ)
set_option maxRecDepth 10000 in
set_option maxHeartbeats 1000000 in
theorem t_X3_begin_62 {ε : Et} {κ : Kt} {z : Rs} (b0 : Bool) (C : Cx ε κ cX3_begin 1 RX3 1) (K : Ret ε κ cX3_begin none 0 0 (PV ε z)) (σ : St) (ok : b_X3_begin_62 b0 σ = some z) : G ε κ 0 0 62 [] [] (WX ε σ) := by
  unfold b_X3_begin_62 at ok
  exact K.1 rfl _ _ _ dX3_begin_62 (pv_ok ok)
def f_X3_begin (b0 : Bool) (σ : St) : Option Rs := (if (σ.1 (bs b0) 4) < 0 then b_X3_begin_62 b0 σ else (if (60 : Int32) ≤ (σ.1 (bs b0) 4) then b_X3_begin_62 b0 σ else bd (f_X4_size (bs b0 + 1) σ) (fun r3 s4 => gd (inb (σ.1 (bs b0) 4) (ln (bs b0 + 3))) (nx (sA s4 (bs b0 + 3) (σ.1 (bs b0) 4) r3) (fun s7 => gd (inb (s7.1 (bs b0) 4) (ln (bs b0 + 4))) (nx (sA s7 (bs b0 + 4) (s7.1 (bs b0) 4) (0 : Int32)) (fun s10 => gd (inb (s10.1 (bs b0) 4) (ln (bs b0 + 5))) (nx (sA s10 (bs b0 + 5) (s10.1 (bs b0) 4) (0 : Int32)) (fun s13 => nx (sS s13 (bs b0) 4 ((s13.1 (bs b0) 4) + (1 : Int32))) (fun s15 => b_X3_begin_62 b0 s15))))))))))
set_option maxRecDepth 10000 in
set_option maxHeartbeats 1000000 in
theorem tf_X3_begin {ε : Et} {κ : Kt} {z : Rs} (b0 : Bool) (C : Cx ε κ cX3_begin 1 RX3 1) (K : Ret ε κ cX3_begin none 0 0 (PV ε z)) (σ : St) (ok : f_X3_begin b0 σ = some z) : G ε κ 0 0 0 [(0, .ref (ad ε (bs b0)))] [] (WX ε σ) := by
  unfold f_X3_begin at ok
  refine g_aload_n C dX3_begin_0 rfl 0 rfl ?_
  refine q_X3_33 C b0 dX3_begin_1 ?_
  refine g_if_lt (tgt := 62) C dX3_begin_4 (by decide) (fun c1 => ?_) (fun c1 => ?_)
  · replace ok := ok_t c1 ok
    refine g_pick (lv' := []) ?_ [] rfl
    exact t_X3_begin_62 b0 C K _ ok
  · replace ok := ok_f c1 ok
    refine g_aload_n C dX3_begin_7 rfl 0 rfl ?_
    refine q_X3_33 C b0 dX3_begin_8 ?_
    refine g_bipush (v := 60) C dX3_begin_11 (by decide) ?_
    refine g_icmp_ge (tgt := 62) C dX3_begin_13 (by decide) (fun c2 => ?_) (fun c2 => ?_)
    · replace ok := ok_t c2 ok
      refine g_pick (lv' := []) ?_ [] rfl
      exact t_X3_begin_62 b0 C K _ ok
    · replace ok := ok_f c2 ok
      refine g_aload_n C dX3_begin_16 rfl 0 rfl ?_
      refine q_X3_20 C b0 dX3_begin_17 ?_
      refine g_aload_n C dX3_begin_20 rfl 0 rfl ?_
      refine q_X3_33 C b0 dX3_begin_21 ?_
      refine g_aload_n C dX3_begin_24 rfl 0 rfl ?_
      refine q_X3_14 C b0 dX3_begin_25 ?_
      obtain ⟨r3, s4, e5, ok⟩ := bd_ok ok
      refine q_cI C [] (c_X4_size (rw_bs b0) e5) wv_X3_41 (by decide) (rw_lt (rw_bs b0)) (wx_X4 (rw_bs b0)) rfl rfl rfl (Nat.le_of_ble_eq_true rfl) dX3_begin_28 ?_
      obtain ⟨h6, ok⟩ := gd_ok ok
      refine q_ast C (ai_bs b0 (Or.inl rfl)) h6 dX3_begin_31 (fun s7 e8 => ?_)
      replace ok := nx_ok ok s7 e8
      refine g_aload_n C dX3_begin_32 rfl 0 rfl ?_
      refine q_X3_24 C b0 dX3_begin_33 ?_
      refine g_aload_n C dX3_begin_36 rfl 0 rfl ?_
      refine q_X3_33 C b0 dX3_begin_37 ?_
      refine g_iconst (v := 0) C dX3_begin_40 (by decide) ?_
      obtain ⟨h9, ok⟩ := gd_ok ok
      refine q_ast C (ai_bs b0 (Or.inr (Or.inl rfl))) h9 dX3_begin_41 (fun s10 e11 => ?_)
      replace ok := nx_ok ok s10 e11
      refine g_aload_n C dX3_begin_42 rfl 0 rfl ?_
      refine q_X3_27 C b0 dX3_begin_43 ?_
      refine g_aload_n C dX3_begin_46 rfl 0 rfl ?_
      refine q_X3_33 C b0 dX3_begin_47 ?_
      refine g_iconst (v := 0) C dX3_begin_50 (by decide) ?_
      obtain ⟨h12, ok⟩ := gd_ok ok
      refine q_ast C (ai_bs b0 (Or.inr (Or.inr rfl))) h12 dX3_begin_51 (fun s13 e14 => ?_)
      replace ok := nx_ok ok s13 e14
      refine g_aload_n C dX3_begin_52 rfl 0 rfl ?_
      refine g_dup C dX3_begin_53 rfl ?_
      refine q_X3_33 C b0 dX3_begin_54 ?_
      refine g_iconst (v := 1) C dX3_begin_57 (by decide) ?_
      refine g_iadd C dX3_begin_58 ?_
      refine p_X3_33 C b0 dX3_begin_59 (fun s15 e16 => ?_)
      replace ok := nx_ok ok s15 e16
      refine g_pick (lv' := []) ?_ [] rfl
      exact t_X3_begin_62 b0 C K _ ok
theorem c_X3_begin {l : Launch} {ε : Et} {σ : St} {z : Rs} {b0 : Bool} (e : f_X3_begin b0 σ = some z) : RM l ε yX3_begin cX3_begin 1 none 1 0 0 [.ref (ad ε (bs b0))] (WX ε σ) (PV ε z) := RM.of (by decide) (Nat.le_of_ble_eq_true rfl) (fun κ C K => tf_X3_begin b0 C K σ e)
def b_X3_has_23 (b0 : Bool) (t0 : Int32) (σ : St) : Option Rs := gz t0 (some (t0, σ))
set_option maxRecDepth 10000 in
set_option maxHeartbeats 1000000 in
theorem t_X3_has_23 {ε : Et} {κ : Kt} {z : Rs} (b0 : Bool) (C : Cx ε κ cX3_has 2 RX3 0) (K : Ret ε κ cX3_has (some .boolean) 0 0 (PI ε z)) (t0 : Int32) (σ : St) (ok : b_X3_has_23 b0 t0 σ = some z) : G ε κ 0 0 23 [] [.int t0] (WX ε σ) := by
  unfold b_X3_has_23 at ok
  obtain ⟨z1, ok⟩ := gz_ok ok
  exact K.2 .boolean _ _ _ _ rfl dX3_has_23 (nar_b z1) (pi_ok ok)
def b_X3_has_22 (b0 : Bool) (σ : St) : Option Rs := b_X3_has_23 b0 (0 : Int32) σ
set_option maxRecDepth 10000 in
set_option maxHeartbeats 1000000 in
theorem t_X3_has_22 {ε : Et} {κ : Kt} {z : Rs} (b0 : Bool) (C : Cx ε κ cX3_has 2 RX3 0) (K : Ret ε κ cX3_has (some .boolean) 0 0 (PI ε z)) (σ : St) (ok : b_X3_has_22 b0 σ = some z) : G ε κ 0 0 22 [] [] (WX ε σ) := by
  unfold b_X3_has_22 at ok
  refine g_iconst (v := 0) C dX3_has_22 (by decide) ?_
  exact t_X3_has_23 b0 C K _ _ ok
def f_X3_has (b0 : Bool) (x1 : Int32) (σ : St) : Option Rs := (if x1 < 0 then b_X3_has_22 b0 σ else (if (σ.1 (bs b0) 4) ≤ x1 then b_X3_has_22 b0 σ else (if (60 : Int32) ≤ x1 then b_X3_has_22 b0 σ else b_X3_has_23 b0 (1 : Int32) σ)))
set_option maxRecDepth 10000 in
set_option maxHeartbeats 1000000 in
theorem tf_X3_has {ε : Et} {κ : Kt} {z : Rs} (b0 : Bool) (C : Cx ε κ cX3_has 2 RX3 0) (K : Ret ε κ cX3_has (some .boolean) 0 0 (PI ε z)) (x1 : Int32) (σ : St) (ok : f_X3_has b0 x1 σ = some z) : G ε κ 0 0 0 [(0, .ref (ad ε (bs b0))), (1, .int x1)] [] (WX ε σ) := by
  unfold f_X3_has at ok
  refine g_iload_n C dX3_has_0 rfl 1 rfl ?_
  refine g_if_lt (tgt := 22) C dX3_has_1 (by decide) (fun c1 => ?_) (fun c1 => ?_)
  · replace ok := ok_t c1 ok
    refine g_pick (lv' := []) ?_ [] rfl
    exact t_X3_has_22 b0 C K _ ok
  · replace ok := ok_f c1 ok
    refine g_iload_n C dX3_has_4 rfl 1 rfl ?_
    refine g_aload_n C dX3_has_5 rfl 0 rfl ?_
    refine q_X3_33 C b0 dX3_has_6 ?_
    refine g_icmp_ge (tgt := 22) C dX3_has_9 (by decide) (fun c2 => ?_) (fun c2 => ?_)
    · replace ok := ok_t c2 ok
      refine g_pick (lv' := []) ?_ [] rfl
      exact t_X3_has_22 b0 C K _ ok
    · replace ok := ok_f c2 ok
      refine g_iload_n C dX3_has_12 rfl 1 rfl ?_
      refine g_bipush (v := 60) C dX3_has_13 (by decide) ?_
      refine g_icmp_ge (tgt := 22) C dX3_has_15 (by decide) (fun c3 => ?_) (fun c3 => ?_)
      · replace ok := ok_t c3 ok
        refine g_pick (lv' := []) ?_ [] rfl
        exact t_X3_has_22 b0 C K _ ok
      · replace ok := ok_f c3 ok
        refine g_iconst (v := 1) C dX3_has_18 (by decide) ?_
        refine g_goto (tgt := 23) C dX3_has_19 (by decide) ?_
        refine g_pick (lv' := []) ?_ [] rfl
        exact t_X3_has_23 b0 C K _ _ ok
theorem c_X3_has {l : Launch} {ε : Et} {σ : St} {z : Rs} {b0 : Bool} {x1 : Int32} (e : f_X3_has b0 x1 σ = some z) : RM l ε yX3_has cX3_has 2 (some .boolean) 0 0 0 [.ref (ad ε (bs b0)), .int x1] (WX ε σ) (PI ε z) := RM.of (by decide) (Nat.le_of_ble_eq_true rfl) (fun κ C K => tf_X3_has b0 C K x1 σ e)
def b_X3_nameSize_18 (b0 : Bool) (t0 : Int32) (σ : St) : Option Rs := some (t0, σ)
set_option maxRecDepth 10000 in
set_option maxHeartbeats 1000000 in
theorem t_X3_nameSize_18 {ε : Et} {κ : Kt} {z : Rs} (b0 : Bool) (C : Cx ε κ cX3_nameSize 2 RX3 1) (K : Ret ε κ cX3_nameSize (some .int) 0 0 (PI ε z)) (t0 : Int32) (σ : St) (ok : b_X3_nameSize_18 b0 t0 σ = some z) : G ε κ 0 0 18 [] [.int t0] (WX ε σ) := by
  unfold b_X3_nameSize_18 at ok
  exact K.2 .int _ _ _ _ rfl dX3_nameSize_18 rfl (pi_ok ok)
def f_X3_nameSize (b0 : Bool) (x1 : Int32) (σ : St) : Option Rs := bd (f_X3_has b0 x1 σ) (fun r1 s2 => (if r1 = 0 then b_X3_nameSize_18 b0 (0 : Int32) s2 else gd (inb x1 (ln (bs b0 + 4))) (b_X3_nameSize_18 b0 (s2.2.1 (bs b0 + 4) x1.toNatClampNeg) s2)))
set_option maxRecDepth 10000 in
set_option maxHeartbeats 1000000 in
theorem tf_X3_nameSize {ε : Et} {κ : Kt} {z : Rs} (b0 : Bool) (C : Cx ε κ cX3_nameSize 2 RX3 1) (K : Ret ε κ cX3_nameSize (some .int) 0 0 (PI ε z)) (x1 : Int32) (σ : St) (ok : f_X3_nameSize b0 x1 σ = some z) : G ε κ 0 0 0 [(0, .ref (ad ε (bs b0))), (1, .int x1)] [] (WX ε σ) := by
  unfold f_X3_nameSize at ok
  refine g_aload_n C dX3_nameSize_0 rfl 0 rfl ?_
  refine g_iload_n C dX3_nameSize_1 rfl 1 rfl ?_
  obtain ⟨r1, s2, e3, ok⟩ := bd_ok ok
  refine q_cI C [.int x1] (c_X3_has e3) wv_X3_45 (by decide) (bs_lt b0) (wx_X3 b0) rfl rfl rfl (Nat.le_of_ble_eq_true rfl) dX3_nameSize_2 ?_
  refine g_if_eq (tgt := 17) C dX3_nameSize_5 (by decide) (fun c4 => ?_) (fun c4 => ?_)
  · replace ok := ok_t c4 ok
    refine g_iconst (v := 0) C dX3_nameSize_17 (by decide) ?_
    refine g_pick (lv' := []) ?_ [] rfl
    exact t_X3_nameSize_18 b0 C K _ _ ok
  · replace ok := ok_f c4 ok
    refine g_aload_n C dX3_nameSize_8 rfl 0 rfl ?_
    refine q_X3_24 C b0 dX3_nameSize_9 ?_
    refine g_iload_n C dX3_nameSize_12 rfl 1 rfl ?_
    obtain ⟨h5, ok⟩ := gd_ok ok
    refine q_ald C (ai_bs b0 (Or.inr (Or.inl rfl))) h5 dX3_nameSize_13 ?_
    refine g_goto (tgt := 18) C dX3_nameSize_14 (by decide) ?_
    refine g_pick (lv' := []) ?_ [] rfl
    exact t_X3_nameSize_18 b0 C K _ _ ok
theorem c_X3_nameSize {l : Launch} {ε : Et} {σ : St} {z : Rs} {b0 : Bool} {x1 : Int32} (e : f_X3_nameSize b0 x1 σ = some z) : RM l ε yX3_nameSize cX3_nameSize 2 (some .int) 1 0 0 [.ref (ad ε (bs b0)), .int x1] (WX ε σ) (PI ε z) := RM.of (by decide) (Nat.le_of_ble_eq_true rfl) (fun κ C K => tf_X3_nameSize b0 C K x1 σ e)
def b_X3_addToName_36 (b0 : Bool) (σ : St) : Option Rs := some ((0 : Int32), σ)
set_option maxRecDepth 10000 in
set_option maxHeartbeats 1000000 in
theorem t_X3_addToName_36 {ε : Et} {κ : Kt} {z : Rs} (b0 : Bool) (C : Cx ε κ cX3_addToName 2 RX3 1) (K : Ret ε κ cX3_addToName none 0 0 (PV ε z)) (σ : St) (ok : b_X3_addToName_36 b0 σ = some z) : G ε κ 0 0 36 [] [] (WX ε σ) := by
  unfold b_X3_addToName_36 at ok
  exact K.1 rfl _ _ _ dX3_addToName_36 (pv_ok ok)
def f_X3_addToName (b0 : Bool) (x1 : Int32) (σ : St) : Option Rs := bd (f_X3_has b0 ((σ.1 (bs b0) 4) - (1 : Int32)) σ) (fun r1 s2 => (if r1 = 0 then b_X3_addToName_36 b0 s2 else bd (f_X4_add (bs b0 + 1) x1 s2) (fun r5 s6 => gd (inb ((s6.1 (bs b0) 4) - (1 : Int32)) (ln (bs b0 + 4))) (gd (inb ((s6.1 (bs b0) 4) - (1 : Int32)) (ln (bs b0 + 4))) (nx (sA s6 (bs b0 + 4) ((s6.1 (bs b0) 4) - (1 : Int32)) ((s6.2.1 (bs b0 + 4) ((s6.1 (bs b0) 4) - (1 : Int32)).toNatClampNeg) + (1 : Int32))) (fun s10 => b_X3_addToName_36 b0 s10))))))
set_option maxRecDepth 10000 in
set_option maxHeartbeats 1000000 in
theorem tf_X3_addToName {ε : Et} {κ : Kt} {z : Rs} (b0 : Bool) (C : Cx ε κ cX3_addToName 2 RX3 1) (K : Ret ε κ cX3_addToName none 0 0 (PV ε z)) (x1 : Int32) (σ : St) (ok : f_X3_addToName b0 x1 σ = some z) : G ε κ 0 0 0 [(0, .ref (ad ε (bs b0))), (1, .int x1)] [] (WX ε σ) := by
  unfold f_X3_addToName at ok
  refine g_aload_n C dX3_addToName_0 rfl 0 rfl ?_
  refine g_aload_n C dX3_addToName_1 rfl 0 rfl ?_
  refine q_X3_33 C b0 dX3_addToName_2 ?_
  refine g_iconst (v := 1) C dX3_addToName_5 (by decide) ?_
  refine g_isub C dX3_addToName_6 ?_
  obtain ⟨r1, s2, e3, ok⟩ := bd_ok ok
  refine q_cI C [.int ((σ.1 (bs b0) 4) - (1 : Int32))] (c_X3_has e3) wv_X3_45 (by decide) (bs_lt b0) (wx_X3 b0) rfl rfl rfl (Nat.le_of_ble_eq_true rfl) dX3_addToName_7 ?_
  refine g_if_eq (tgt := 36) C dX3_addToName_10 (by decide) (fun c4 => ?_) (fun c4 => ?_)
  · replace ok := ok_t c4 ok
    refine g_pick (lv' := []) ?_ [] rfl
    exact t_X3_addToName_36 b0 C K _ ok
  · replace ok := ok_f c4 ok
    refine g_aload_n C dX3_addToName_13 rfl 0 rfl ?_
    refine q_X3_14 C b0 dX3_addToName_14 ?_
    refine g_iload_n C dX3_addToName_17 rfl 1 rfl ?_
    obtain ⟨r5, s6, e7, ok⟩ := bd_ok ok
    refine q_cV C [.int x1] (c_X4_add (rw_bs b0) e7) wv_X3_49 (by decide) (rw_lt (rw_bs b0)) (wx_X4 (rw_bs b0)) rfl rfl rfl (Nat.le_of_ble_eq_true rfl) dX3_addToName_18 ?_
    refine g_aload_n C dX3_addToName_21 rfl 0 rfl ?_
    refine q_X3_24 C b0 dX3_addToName_22 ?_
    refine g_aload_n C dX3_addToName_25 rfl 0 rfl ?_
    refine q_X3_33 C b0 dX3_addToName_26 ?_
    refine g_iconst (v := 1) C dX3_addToName_29 (by decide) ?_
    refine g_isub C dX3_addToName_30 ?_
    refine g_dup2 C dX3_addToName_31 rfl rfl ?_
    obtain ⟨h8, ok⟩ := gd_ok ok
    refine q_ald C (ai_bs b0 (Or.inr (Or.inl rfl))) h8 dX3_addToName_32 ?_
    refine g_iconst (v := 1) C dX3_addToName_33 (by decide) ?_
    refine g_iadd C dX3_addToName_34 ?_
    obtain ⟨h9, ok⟩ := gd_ok ok
    refine q_ast C (ai_bs b0 (Or.inr (Or.inl rfl))) h9 dX3_addToName_35 (fun s10 e11 => ?_)
    replace ok := nx_ok ok s10 e11
    refine g_pick (lv' := []) ?_ [] rfl
    exact t_X3_addToName_36 b0 C K _ ok
theorem c_X3_addToName {l : Launch} {ε : Et} {σ : St} {z : Rs} {b0 : Bool} {x1 : Int32} (e : f_X3_addToName b0 x1 σ = some z) : RM l ε yX3_addToName cX3_addToName 2 none 1 0 0 [.ref (ad ε (bs b0)), .int x1] (WX ε σ) (PV ε z) := RM.of (by decide) (Nat.le_of_ble_eq_true rfl) (fun κ C K => tf_X3_addToName b0 C K x1 σ e)
def b_X3_letterCount_18 (b0 : Bool) (t0 : Int32) (σ : St) : Option Rs := some (t0, σ)
set_option maxRecDepth 10000 in
set_option maxHeartbeats 1000000 in
theorem t_X3_letterCount_18 {ε : Et} {κ : Kt} {z : Rs} (b0 : Bool) (C : Cx ε κ cX3_letterCount 2 RX3 1) (K : Ret ε κ cX3_letterCount (some .int) 0 0 (PI ε z)) (t0 : Int32) (σ : St) (ok : b_X3_letterCount_18 b0 t0 σ = some z) : G ε κ 0 0 18 [] [.int t0] (WX ε σ) := by
  unfold b_X3_letterCount_18 at ok
  exact K.2 .int _ _ _ _ rfl dX3_letterCount_18 rfl (pi_ok ok)
def f_X3_letterCount (b0 : Bool) (x1 : Int32) (σ : St) : Option Rs := bd (f_X3_has b0 x1 σ) (fun r1 s2 => (if r1 = 0 then b_X3_letterCount_18 b0 (0 : Int32) s2 else gd (inb x1 (ln (bs b0 + 5))) (b_X3_letterCount_18 b0 (s2.2.1 (bs b0 + 5) x1.toNatClampNeg) s2)))
set_option maxRecDepth 10000 in
set_option maxHeartbeats 1000000 in
theorem tf_X3_letterCount {ε : Et} {κ : Kt} {z : Rs} (b0 : Bool) (C : Cx ε κ cX3_letterCount 2 RX3 1) (K : Ret ε κ cX3_letterCount (some .int) 0 0 (PI ε z)) (x1 : Int32) (σ : St) (ok : f_X3_letterCount b0 x1 σ = some z) : G ε κ 0 0 0 [(0, .ref (ad ε (bs b0))), (1, .int x1)] [] (WX ε σ) := by
  unfold f_X3_letterCount at ok
  refine g_aload_n C dX3_letterCount_0 rfl 0 rfl ?_
  refine g_iload_n C dX3_letterCount_1 rfl 1 rfl ?_
  obtain ⟨r1, s2, e3, ok⟩ := bd_ok ok
  refine q_cI C [.int x1] (c_X3_has e3) wv_X3_45 (by decide) (bs_lt b0) (wx_X3 b0) rfl rfl rfl (Nat.le_of_ble_eq_true rfl) dX3_letterCount_2 ?_
  refine g_if_eq (tgt := 17) C dX3_letterCount_5 (by decide) (fun c4 => ?_) (fun c4 => ?_)
  · replace ok := ok_t c4 ok
    refine g_iconst (v := 0) C dX3_letterCount_17 (by decide) ?_
    refine g_pick (lv' := []) ?_ [] rfl
    exact t_X3_letterCount_18 b0 C K _ _ ok
  · replace ok := ok_f c4 ok
    refine g_aload_n C dX3_letterCount_8 rfl 0 rfl ?_
    refine q_X3_27 C b0 dX3_letterCount_9 ?_
    refine g_iload_n C dX3_letterCount_12 rfl 1 rfl ?_
    obtain ⟨h5, ok⟩ := gd_ok ok
    refine q_ald C (ai_bs b0 (Or.inr (Or.inr rfl))) h5 dX3_letterCount_13 ?_
    refine g_goto (tgt := 18) C dX3_letterCount_14 (by decide) ?_
    refine g_pick (lv' := []) ?_ [] rfl
    exact t_X3_letterCount_18 b0 C K _ _ ok
theorem c_X3_letterCount {l : Launch} {ε : Et} {σ : St} {z : Rs} {b0 : Bool} {x1 : Int32} (e : f_X3_letterCount b0 x1 σ = some z) : RM l ε yX3_letterCount cX3_letterCount 2 (some .int) 1 0 0 [.ref (ad ε (bs b0)), .int x1] (WX ε σ) (PI ε z) := RM.of (by decide) (Nat.le_of_ble_eq_true rfl) (fun κ C K => tf_X3_letterCount b0 C K x1 σ e)
def b_X3_addLetter_36 (b0 : Bool) (σ : St) : Option Rs := some ((0 : Int32), σ)
set_option maxRecDepth 10000 in
set_option maxHeartbeats 1000000 in
theorem t_X3_addLetter_36 {ε : Et} {κ : Kt} {z : Rs} (b0 : Bool) (C : Cx ε κ cX3_addLetter 2 RX3 1) (K : Ret ε κ cX3_addLetter none 0 0 (PV ε z)) (σ : St) (ok : b_X3_addLetter_36 b0 σ = some z) : G ε κ 0 0 36 [] [] (WX ε σ) := by
  unfold b_X3_addLetter_36 at ok
  exact K.1 rfl _ _ _ dX3_addLetter_36 (pv_ok ok)
def f_X3_addLetter (b0 : Bool) (x1 : Int32) (σ : St) : Option Rs := bd (f_X3_has b0 ((σ.1 (bs b0) 4) - (1 : Int32)) σ) (fun r1 s2 => (if r1 = 0 then b_X3_addLetter_36 b0 s2 else bd (f_X4_add (bs b0 + 1) x1 s2) (fun r5 s6 => gd (inb ((s6.1 (bs b0) 4) - (1 : Int32)) (ln (bs b0 + 5))) (gd (inb ((s6.1 (bs b0) 4) - (1 : Int32)) (ln (bs b0 + 5))) (nx (sA s6 (bs b0 + 5) ((s6.1 (bs b0) 4) - (1 : Int32)) ((s6.2.1 (bs b0 + 5) ((s6.1 (bs b0) 4) - (1 : Int32)).toNatClampNeg) + (1 : Int32))) (fun s10 => b_X3_addLetter_36 b0 s10))))))
set_option maxRecDepth 10000 in
set_option maxHeartbeats 1000000 in
theorem tf_X3_addLetter {ε : Et} {κ : Kt} {z : Rs} (b0 : Bool) (C : Cx ε κ cX3_addLetter 2 RX3 1) (K : Ret ε κ cX3_addLetter none 0 0 (PV ε z)) (x1 : Int32) (σ : St) (ok : f_X3_addLetter b0 x1 σ = some z) : G ε κ 0 0 0 [(0, .ref (ad ε (bs b0))), (1, .int x1)] [] (WX ε σ) := by
  unfold f_X3_addLetter at ok
  refine g_aload_n C dX3_addLetter_0 rfl 0 rfl ?_
  refine g_aload_n C dX3_addLetter_1 rfl 0 rfl ?_
  refine q_X3_33 C b0 dX3_addLetter_2 ?_
  refine g_iconst (v := 1) C dX3_addLetter_5 (by decide) ?_
  refine g_isub C dX3_addLetter_6 ?_
  obtain ⟨r1, s2, e3, ok⟩ := bd_ok ok
  refine q_cI C [.int ((σ.1 (bs b0) 4) - (1 : Int32))] (c_X3_has e3) wv_X3_45 (by decide) (bs_lt b0) (wx_X3 b0) rfl rfl rfl (Nat.le_of_ble_eq_true rfl) dX3_addLetter_7 ?_
  refine g_if_eq (tgt := 36) C dX3_addLetter_10 (by decide) (fun c4 => ?_) (fun c4 => ?_)
  · replace ok := ok_t c4 ok
    refine g_pick (lv' := []) ?_ [] rfl
    exact t_X3_addLetter_36 b0 C K _ ok
  · replace ok := ok_f c4 ok
    refine g_aload_n C dX3_addLetter_13 rfl 0 rfl ?_
    refine q_X3_14 C b0 dX3_addLetter_14 ?_
    refine g_iload_n C dX3_addLetter_17 rfl 1 rfl ?_
    obtain ⟨r5, s6, e7, ok⟩ := bd_ok ok
    refine q_cV C [.int x1] (c_X4_add (rw_bs b0) e7) wv_X3_49 (by decide) (rw_lt (rw_bs b0)) (wx_X4 (rw_bs b0)) rfl rfl rfl (Nat.le_of_ble_eq_true rfl) dX3_addLetter_18 ?_
    refine g_aload_n C dX3_addLetter_21 rfl 0 rfl ?_
    refine q_X3_27 C b0 dX3_addLetter_22 ?_
    refine g_aload_n C dX3_addLetter_25 rfl 0 rfl ?_
    refine q_X3_33 C b0 dX3_addLetter_26 ?_
    refine g_iconst (v := 1) C dX3_addLetter_29 (by decide) ?_
    refine g_isub C dX3_addLetter_30 ?_
    refine g_dup2 C dX3_addLetter_31 rfl rfl ?_
    obtain ⟨h8, ok⟩ := gd_ok ok
    refine q_ald C (ai_bs b0 (Or.inr (Or.inr rfl))) h8 dX3_addLetter_32 ?_
    refine g_iconst (v := 1) C dX3_addLetter_33 (by decide) ?_
    refine g_iadd C dX3_addLetter_34 ?_
    obtain ⟨h9, ok⟩ := gd_ok ok
    refine q_ast C (ai_bs b0 (Or.inr (Or.inr rfl))) h9 dX3_addLetter_35 (fun s10 e11 => ?_)
    replace ok := nx_ok ok s10 e11
    refine g_pick (lv' := []) ?_ [] rfl
    exact t_X3_addLetter_36 b0 C K _ ok
theorem c_X3_addLetter {l : Launch} {ε : Et} {σ : St} {z : Rs} {b0 : Bool} {x1 : Int32} (e : f_X3_addLetter b0 x1 σ = some z) : RM l ε yX3_addLetter cX3_addLetter 2 none 1 0 0 [.ref (ad ε (bs b0)), .int x1] (WX ε σ) (PV ε z) := RM.of (by decide) (Nat.le_of_ble_eq_true rfl) (fun κ C K => tf_X3_addLetter b0 C K x1 σ e)
def b_X3_nameOctet_41 (b0 : Bool) (t0 : Int32) (σ : St) : Option Rs := some (t0, σ)
set_option maxRecDepth 10000 in
set_option maxHeartbeats 1000000 in
theorem t_X3_nameOctet_41 {ε : Et} {κ : Kt} {z : Rs} (b0 : Bool) (C : Cx ε κ cX3_nameOctet 3 RX3 1) (K : Ret ε κ cX3_nameOctet (some .int) 0 0 (PI ε z)) (t0 : Int32) (σ : St) (ok : b_X3_nameOctet_41 b0 t0 σ = some z) : G ε κ 0 0 41 [] [.int t0] (WX ε σ) := by
  unfold b_X3_nameOctet_41 at ok
  exact K.2 .int _ _ _ _ rfl dX3_nameOctet_41 rfl (pi_ok ok)
def b_X3_nameOctet_40 (b0 : Bool) (σ : St) : Option Rs := b_X3_nameOctet_41 b0 (-1 : Int32) σ
set_option maxRecDepth 10000 in
set_option maxHeartbeats 1000000 in
theorem t_X3_nameOctet_40 {ε : Et} {κ : Kt} {z : Rs} (b0 : Bool) (C : Cx ε κ cX3_nameOctet 3 RX3 1) (K : Ret ε κ cX3_nameOctet (some .int) 0 0 (PI ε z)) (σ : St) (ok : b_X3_nameOctet_40 b0 σ = some z) : G ε κ 0 0 40 [] [] (WX ε σ) := by
  unfold b_X3_nameOctet_40 at ok
  refine g_iconst (v := -1) C dX3_nameOctet_40 (by decide) ?_
  exact t_X3_nameOctet_41 b0 C K _ _ ok
def f_X3_nameOctet (b0 : Bool) (x1 : Int32) (x2 : Int32) (σ : St) : Option Rs := bd (f_X3_has b0 x1 σ) (fun r1 s2 => (if r1 = 0 then b_X3_nameOctet_40 b0 s2 else (if x2 < 0 then b_X3_nameOctet_40 b0 s2 else gd (inb x1 (ln (bs b0 + 4))) ((if (s2.2.1 (bs b0 + 4) x1.toNatClampNeg) ≤ x2 then b_X3_nameOctet_40 b0 s2 else gd (inb x1 (ln (bs b0 + 3))) (bd (f_X4_at (bs b0 + 1) ((s2.2.1 (bs b0 + 3) x1.toNatClampNeg) + x2) s2) (fun r9 s10 => b_X3_nameOctet_41 b0 r9 s10)))))))
set_option maxRecDepth 10000 in
set_option maxHeartbeats 1000000 in
theorem tf_X3_nameOctet {ε : Et} {κ : Kt} {z : Rs} (b0 : Bool) (C : Cx ε κ cX3_nameOctet 3 RX3 1) (K : Ret ε κ cX3_nameOctet (some .int) 0 0 (PI ε z)) (x1 : Int32) (x2 : Int32) (σ : St) (ok : f_X3_nameOctet b0 x1 x2 σ = some z) : G ε κ 0 0 0 [(0, .ref (ad ε (bs b0))), (1, .int x1), (2, .int x2)] [] (WX ε σ) := by
  unfold f_X3_nameOctet at ok
  refine g_aload_n C dX3_nameOctet_0 rfl 0 rfl ?_
  refine g_iload_n C dX3_nameOctet_1 rfl 1 rfl ?_
  obtain ⟨r1, s2, e3, ok⟩ := bd_ok ok
  refine q_cI C [.int x1] (c_X3_has e3) wv_X3_45 (by decide) (bs_lt b0) (wx_X3 b0) rfl rfl rfl (Nat.le_of_ble_eq_true rfl) dX3_nameOctet_2 ?_
  refine g_if_eq (tgt := 40) C dX3_nameOctet_5 (by decide) (fun c4 => ?_) (fun c4 => ?_)
  · replace ok := ok_t c4 ok
    refine g_pick (lv' := []) ?_ [] rfl
    exact t_X3_nameOctet_40 b0 C K _ ok
  · replace ok := ok_f c4 ok
    refine g_iload_n C dX3_nameOctet_8 rfl 2 rfl ?_
    refine g_if_lt (tgt := 40) C dX3_nameOctet_9 (by decide) (fun c5 => ?_) (fun c5 => ?_)
    · replace ok := ok_t c5 ok
      refine g_pick (lv' := []) ?_ [] rfl
      exact t_X3_nameOctet_40 b0 C K _ ok
    · replace ok := ok_f c5 ok
      refine g_iload_n C dX3_nameOctet_12 rfl 2 rfl ?_
      refine g_aload_n C dX3_nameOctet_13 rfl 0 rfl ?_
      refine q_X3_24 C b0 dX3_nameOctet_14 ?_
      refine g_iload_n C dX3_nameOctet_17 rfl 1 rfl ?_
      obtain ⟨h6, ok⟩ := gd_ok ok
      refine q_ald C (ai_bs b0 (Or.inr (Or.inl rfl))) h6 dX3_nameOctet_18 ?_
      refine g_icmp_ge (tgt := 40) C dX3_nameOctet_19 (by decide) (fun c7 => ?_) (fun c7 => ?_)
      · replace ok := ok_t c7 ok
        refine g_pick (lv' := []) ?_ [] rfl
        exact t_X3_nameOctet_40 b0 C K _ ok
      · replace ok := ok_f c7 ok
        refine g_aload_n C dX3_nameOctet_22 rfl 0 rfl ?_
        refine q_X3_14 C b0 dX3_nameOctet_23 ?_
        refine g_aload_n C dX3_nameOctet_26 rfl 0 rfl ?_
        refine q_X3_20 C b0 dX3_nameOctet_27 ?_
        refine g_iload_n C dX3_nameOctet_30 rfl 1 rfl ?_
        obtain ⟨h8, ok⟩ := gd_ok ok
        refine q_ald C (ai_bs b0 (Or.inl rfl)) h8 dX3_nameOctet_31 ?_
        refine g_iload_n C dX3_nameOctet_32 rfl 2 rfl ?_
        refine g_iadd C dX3_nameOctet_33 ?_
        obtain ⟨r9, s10, e11, ok⟩ := bd_ok ok
        refine q_cI C [.int ((s2.2.1 (bs b0 + 3) x1.toNatClampNeg) + x2)] (c_X4_at (rw_bs b0) e11) wv_X3_52 (by decide) (rw_lt (rw_bs b0)) (wx_X4 (rw_bs b0)) rfl rfl rfl (Nat.le_of_ble_eq_true rfl) dX3_nameOctet_34 ?_
        refine g_goto (tgt := 41) C dX3_nameOctet_37 (by decide) ?_
        refine g_pick (lv' := []) ?_ [] rfl
        exact t_X3_nameOctet_41 b0 C K _ _ ok
theorem c_X3_nameOctet {l : Launch} {ε : Et} {σ : St} {z : Rs} {b0 : Bool} {x1 : Int32} {x2 : Int32} (e : f_X3_nameOctet b0 x1 x2 σ = some z) : RM l ε yX3_nameOctet cX3_nameOctet 3 (some .int) 1 0 0 [.ref (ad ε (bs b0)), .int x1, .int x2] (WX ε σ) (PI ε z) := RM.of (by decide) (Nat.le_of_ble_eq_true rfl) (fun κ C K => tf_X3_nameOctet b0 C K x1 x2 σ e)
def f_X3_addQuality (b0 : Bool) (x1 : Int32) (σ : St) : Option Rs := bd (f_X4_add (bs b0 + 1) x1 σ) (fun r1 s2 => some ((0 : Int32), s2))
set_option maxRecDepth 10000 in
set_option maxHeartbeats 1000000 in
theorem tf_X3_addQuality {ε : Et} {κ : Kt} {z : Rs} (b0 : Bool) (C : Cx ε κ cX3_addQuality 2 RX3 1) (K : Ret ε κ cX3_addQuality none 0 0 (PV ε z)) (x1 : Int32) (σ : St) (ok : f_X3_addQuality b0 x1 σ = some z) : G ε κ 0 0 0 [(0, .ref (ad ε (bs b0))), (1, .int x1)] [] (WX ε σ) := by
  unfold f_X3_addQuality at ok
  refine g_aload_n C dX3_addQuality_0 rfl 0 rfl ?_
  refine q_X3_14 C b0 dX3_addQuality_1 ?_
  refine g_iload_n C dX3_addQuality_4 rfl 1 rfl ?_
  obtain ⟨r1, s2, e3, ok⟩ := bd_ok ok
  refine q_cV C [.int x1] (c_X4_add (rw_bs b0) e3) wv_X3_49 (by decide) (rw_lt (rw_bs b0)) (wx_X4 (rw_bs b0)) rfl rfl rfl (Nat.le_of_ble_eq_true rfl) dX3_addQuality_5 ?_
  exact K.1 rfl _ _ _ dX3_addQuality_8 (pv_ok ok)
theorem c_X3_addQuality {l : Launch} {ε : Et} {σ : St} {z : Rs} {b0 : Bool} {x1 : Int32} (e : f_X3_addQuality b0 x1 σ = some z) : RM l ε yX3_addQuality cX3_addQuality 2 none 1 0 0 [.ref (ad ε (bs b0)), .int x1] (WX ε σ) (PV ε z) := RM.of (by decide) (Nat.le_of_ble_eq_true rfl) (fun κ C K => tf_X3_addQuality b0 C K x1 σ e)
def f_X3_quality (b0 : Bool) (x1 : Int32) (x2 : Int32) (σ : St) : Option Rs := bd (f_X3_hasLetter b0 x1 x2 σ) (fun r1 s2 => (if r1 = 0 then some ((-1 : Int32), s2) else (if (s2.1 (bs b0) 5) = 0 then some ((40 : Int32), s2) else gd (inb x1 (ln (bs b0 + 3))) (gd (inb x1 (ln (bs b0 + 4))) (gd (inb x1 (ln (bs b0 + 5))) (bd (f_X4_at (bs b0 + 1) ((((s2.2.1 (bs b0 + 3) x1.toNatClampNeg) + (s2.2.1 (bs b0 + 4) x1.toNatClampNeg)) + (s2.2.1 (bs b0 + 5) x1.toNatClampNeg)) + x2) s2) (fun r9 s10 => some ((r9 - (33 : Int32)), s10))))))))
set_option maxRecDepth 10000 in
set_option maxHeartbeats 1000000 in
theorem tf_X3_quality {ε : Et} {κ : Kt} {z : Rs} (b0 : Bool) (C : Cx ε κ cX3_quality 3 RX3 1) (K : Ret ε κ cX3_quality (some .int) 0 0 (PI ε z)) (x1 : Int32) (x2 : Int32) (σ : St) (ok : f_X3_quality b0 x1 x2 σ = some z) : G ε κ 0 0 0 [(0, .ref (ad ε (bs b0))), (1, .int x1), (2, .int x2)] [] (WX ε σ) := by
  unfold f_X3_quality at ok
  refine g_aload_n C dX3_quality_0 rfl 0 rfl ?_
  refine g_iload_n C dX3_quality_1 rfl 1 rfl ?_
  refine g_iload_n C dX3_quality_2 rfl 2 rfl ?_
  obtain ⟨r1, s2, e3, ok⟩ := bd_ok ok
  refine q_cI C [.int x1, .int x2] (c_X3_hasLetter e3) wv_X3_56 (by decide) (bs_lt b0) (wx_X3 b0) rfl rfl rfl (Nat.le_of_ble_eq_true rfl) dX3_quality_3 ?_
  refine g_if_ne (tgt := 11) C dX3_quality_6 (by decide) (fun c4 => ?_) (fun c4 => ?_)
  · replace ok := ok_f c4 ok
    refine g_aload_n C dX3_quality_11 rfl 0 rfl ?_
    refine q_X3_37 C b0 dX3_quality_12 ?_
    refine g_if_ne (tgt := 21) C dX3_quality_15 (by decide) (fun c5 => ?_) (fun c5 => ?_)
    · replace ok := ok_f c5 ok
      refine g_aload_n C dX3_quality_21 rfl 0 rfl ?_
      refine q_X3_14 C b0 dX3_quality_22 ?_
      refine g_aload_n C dX3_quality_25 rfl 0 rfl ?_
      refine q_X3_20 C b0 dX3_quality_26 ?_
      refine g_iload_n C dX3_quality_29 rfl 1 rfl ?_
      obtain ⟨h6, ok⟩ := gd_ok ok
      refine q_ald C (ai_bs b0 (Or.inl rfl)) h6 dX3_quality_30 ?_
      refine g_aload_n C dX3_quality_31 rfl 0 rfl ?_
      refine q_X3_24 C b0 dX3_quality_32 ?_
      refine g_iload_n C dX3_quality_35 rfl 1 rfl ?_
      obtain ⟨h7, ok⟩ := gd_ok ok
      refine q_ald C (ai_bs b0 (Or.inr (Or.inl rfl))) h7 dX3_quality_36 ?_
      refine g_iadd C dX3_quality_37 ?_
      refine g_aload_n C dX3_quality_38 rfl 0 rfl ?_
      refine q_X3_27 C b0 dX3_quality_39 ?_
      refine g_iload_n C dX3_quality_42 rfl 1 rfl ?_
      obtain ⟨h8, ok⟩ := gd_ok ok
      refine q_ald C (ai_bs b0 (Or.inr (Or.inr rfl))) h8 dX3_quality_43 ?_
      refine g_iadd C dX3_quality_44 ?_
      refine g_iload_n C dX3_quality_45 rfl 2 rfl ?_
      refine g_iadd C dX3_quality_46 ?_
      obtain ⟨r9, s10, e11, ok⟩ := bd_ok ok
      refine q_cI C [.int ((((s2.2.1 (bs b0 + 3) x1.toNatClampNeg) + (s2.2.1 (bs b0 + 4) x1.toNatClampNeg)) + (s2.2.1 (bs b0 + 5) x1.toNatClampNeg)) + x2)] (c_X4_at (rw_bs b0) e11) wv_X3_52 (by decide) (rw_lt (rw_bs b0)) (wx_X4 (rw_bs b0)) rfl rfl rfl (Nat.le_of_ble_eq_true rfl) dX3_quality_47 ?_
      refine g_bipush (v := 33) C dX3_quality_50 (by decide) ?_
      refine g_isub C dX3_quality_52 ?_
      exact K.2 .int _ _ _ _ rfl dX3_quality_53 rfl (pi_ok ok)
    · replace ok := ok_t c5 ok
      refine g_bipush (v := 40) C dX3_quality_18 (by decide) ?_
      exact K.2 .int _ _ _ _ rfl dX3_quality_20 rfl (pi_ok ok)
  · replace ok := ok_t c4 ok
    refine g_iconst (v := -1) C dX3_quality_9 (by decide) ?_
    exact K.2 .int _ _ _ _ rfl dX3_quality_10 rfl (pi_ok ok)
theorem c_X3_quality {l : Launch} {ε : Et} {σ : St} {z : Rs} {b0 : Bool} {x1 : Int32} {x2 : Int32} (e : f_X3_quality b0 x1 x2 σ = some z) : RM l ε yX3_quality cX3_quality 3 (some .int) 1 0 0 [.ref (ad ε (bs b0)), .int x1, .int x2] (WX ε σ) (PI ε z) := RM.of (by decide) (Nat.le_of_ble_eq_true rfl) (fun κ C K => tf_X3_quality b0 C K x1 x2 σ e)
