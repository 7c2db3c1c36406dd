def b_X9_letter_110 (t0 : Int32) (σ : St) : Option Rs := some (t0, σ)
set_option maxRecDepth 10000 in
set_option maxHeartbeats 1000000 in
theorem t_X9_letter_110 {ε : Et} {κ : Kt} {z : Rs} (C : Cx ε κ cX9_letter 4 RX9 1) (K : Ret ε κ cX9_letter (some .int) 0 0 (PI ε z)) (t0 : Int32) (σ : St) (ok : b_X9_letter_110 t0 σ = some z) : G ε κ 0 0 110 [] [.int t0] (WX ε σ) := by
  unfold b_X9_letter_110 at ok
  exact K.2 .int _ _ _ _ rfl dX9_letter_110 rfl (pi_ok ok)
def b_X9_letter_50 (x1 : Int32) (x2 : Int32) (x3 : Int32) (t0 : Int32) (σ : St) : Option Rs := nx (sS σ 39 3 t0) (fun s1 => (if (s1.1 39 3) ≤ 0 then (if x2 = 0 then gd (inb (((40 : Int32) * x1) + x3) (ln 42)) (b_X9_letter_110 (s1.2.1 42 (((40 : Int32) * x1) + x3).toNatClampNeg) s1) else (if x2 = (1 : Int32) then gd (inb (((120 : Int32) * x1) + x3) (ln 44)) (b_X9_letter_110 (s1.2.1 44 (((120 : Int32) * x1) + x3).toNatClampNeg) s1) else gd (inb (((120 : Int32) * x1) + x3) (ln 45)) (b_X9_letter_110 (s1.2.1 45 (((120 : Int32) * x1) + x3).toNatClampNeg) s1))) else some ((0 : Int32), s1)))
set_option maxRecDepth 10000 in
set_option maxHeartbeats 1000000 in
theorem t_X9_letter_50 {ε : Et} {κ : Kt} {z : Rs} (C : Cx ε κ cX9_letter 4 RX9 1) (K : Ret ε κ cX9_letter (some .int) 0 0 (PI ε z)) (x1 : Int32) (x2 : Int32) (x3 : Int32) (t0 : Int32) (σ : St) (ok : b_X9_letter_50 x1 x2 x3 t0 σ = some z) : G ε κ 0 0 50 [(0, .ref (ad ε 39)), (1, .int x1), (2, .int x2), (3, .int x3)] [.int t0, .ref (ad ε 39)] (WX ε σ) := by
  unfold b_X9_letter_50 at ok
  refine p_X9_66 C dX9_letter_50 (fun s1 e2 => ?_)
  replace ok := nx_ok ok s1 e2
  refine g_aload_n C dX9_letter_53 rfl 0 rfl ?_
  refine q_X9_66 C dX9_letter_54 ?_
  refine g_if_le (tgt := 62) C dX9_letter_57 (by decide) (fun c3 => ?_) (fun c3 => ?_)
  · replace ok := ok_t c3 ok
    refine g_iload_n C dX9_letter_62 rfl 2 rfl ?_
    refine g_if_ne (tgt := 80) C dX9_letter_63 (by decide) (fun c4 => ?_) (fun c4 => ?_)
    · replace ok := ok_f c4 ok
      refine g_iload_n C dX9_letter_80 rfl 2 rfl ?_
      refine g_iconst (v := 1) C dX9_letter_81 (by decide) ?_
      refine g_icmp_ne (tgt := 99) C dX9_letter_82 (by decide) (fun c5 => ?_) (fun c5 => ?_)
      · replace ok := ok_f c5 ok
        refine g_aload_n C dX9_letter_99 rfl 0 rfl ?_
        refine q_X9_29 C dX9_letter_100 ?_
        refine g_bipush (v := 120) C dX9_letter_103 (by decide) ?_
        refine g_iload_n C dX9_letter_105 rfl 1 rfl ?_
        refine g_imul C dX9_letter_106 ?_
        refine g_iload_n C dX9_letter_107 rfl 3 rfl ?_
        refine g_iadd C dX9_letter_108 ?_
        obtain ⟨h6, ok⟩ := gd_ok ok
        refine q_ald C ai_45 h6 dX9_letter_109 ?_
        refine g_pick (lv' := []) ?_ [] rfl
        exact t_X9_letter_110 C K _ _ ok
      · replace ok := ok_t c5 ok
        refine g_aload_n C dX9_letter_85 rfl 0 rfl ?_
        refine q_X9_26 C dX9_letter_86 ?_
        refine g_bipush (v := 120) C dX9_letter_89 (by decide) ?_
        refine g_iload_n C dX9_letter_91 rfl 1 rfl ?_
        refine g_imul C dX9_letter_92 ?_
        refine g_iload_n C dX9_letter_93 rfl 3 rfl ?_
        refine g_iadd C dX9_letter_94 ?_
        obtain ⟨h7, ok⟩ := gd_ok ok
        refine q_ald C ai_44 h7 dX9_letter_95 ?_
        refine g_goto (tgt := 110) C dX9_letter_96 (by decide) ?_
        refine g_pick (lv' := []) ?_ [] rfl
        exact t_X9_letter_110 C K _ _ ok
    · replace ok := ok_t c4 ok
      refine g_aload_n C dX9_letter_66 rfl 0 rfl ?_
      refine q_X9_20 C dX9_letter_67 ?_
      refine g_bipush (v := 40) C dX9_letter_70 (by decide) ?_
      refine g_iload_n C dX9_letter_72 rfl 1 rfl ?_
      refine g_imul C dX9_letter_73 ?_
      refine g_iload_n C dX9_letter_74 rfl 3 rfl ?_
      refine g_iadd C dX9_letter_75 ?_
      obtain ⟨h8, ok⟩ := gd_ok ok
      refine q_ald C ai_42 h8 dX9_letter_76 ?_
      refine g_goto (tgt := 110) C dX9_letter_77 (by decide) ?_
      refine g_pick (lv' := []) ?_ [] rfl
      exact t_X9_letter_110 C K _ _ ok
  · replace ok := ok_f c3 ok
    refine g_iconst (v := 0) C dX9_letter_60 (by decide) ?_
    exact K.2 .int _ _ _ _ rfl dX9_letter_61 rfl (pi_ok ok)
def b_X9_letter_45 (x1 : Int32) (x2 : Int32) (x3 : Int32) (σ : St) : Option Rs := b_X9_letter_50 x1 x2 x3 (1 : Int32) σ
set_option maxRecDepth 10000 in
set_option maxHeartbeats 1000000 in
theorem t_X9_letter_45 {ε : Et} {κ : Kt} {z : Rs} (C : Cx ε κ cX9_letter 4 RX9 1) (K : Ret ε κ cX9_letter (some .int) 0 0 (PI ε z)) (x1 : Int32) (x2 : Int32) (x3 : Int32) (σ : St) (ok : b_X9_letter_45 x1 x2 x3 σ = some z) : G ε κ 0 0 45 [(0, .ref (ad ε 39)), (1, .int x1), (2, .int x2), (3, .int x3)] [.ref (ad ε 39)] (WX ε σ) := by
  unfold b_X9_letter_45 at ok
  refine g_iconst (v := 1) C dX9_letter_45 (by decide) ?_
  refine g_goto (tgt := 50) C dX9_letter_46 (by decide) ?_
  exact t_X9_letter_50 C K _ _ _ _ _ ok
def b_X9_letter_42 (x1 : Int32) (x2 : Int32) (x3 : Int32) (t0 : Int32) (t1 : Int32) (σ : St) : Option Rs := (if t1 < t0 then b_X9_letter_50 x1 x2 x3 (0 : Int32) σ else b_X9_letter_45 x1 x2 x3 σ)
set_option maxRecDepth 10000 in
set_option maxHeartbeats 1000000 in
theorem t_X9_letter_42 {ε : Et} {κ : Kt} {z : Rs} (C : Cx ε κ cX9_letter 4 RX9 1) (K : Ret ε κ cX9_letter (some .int) 0 0 (PI ε z)) (x1 : Int32) (x2 : Int32) (x3 : Int32) (t0 : Int32) (t1 : Int32) (σ : St) (ok : b_X9_letter_42 x1 x2 x3 t0 t1 σ = some z) : G ε κ 0 0 42 [(0, .ref (ad ε 39)), (1, .int x1), (2, .int x2), (3, .int x3)] [.int t0, .int t1, .ref (ad ε 39)] (WX ε σ) := by
  unfold b_X9_letter_42 at ok
  refine g_icmp_lt (tgt := 49) C dX9_letter_42 (by decide) (fun c1 => ?_) (fun c1 => ?_)
  · replace ok := ok_t c1 ok
    refine g_iconst (v := 0) C dX9_letter_49 (by decide) ?_
    exact t_X9_letter_50 C K _ _ _ _ _ ok
  · replace ok := ok_f c1 ok
    exact t_X9_letter_45 C K _ _ _ _ ok
def f_X9_letter (x1 : Int32) (x2 : Int32) (x3 : Int32) (σ : St) : Option Rs := bd (f_X9_noRead x1 σ) (fun r1 s2 => (if r1 = 0 then (if x2 < 0 then b_X9_letter_45 x1 x2 x3 s2 else (if (2 : Int32) < x2 then b_X9_letter_45 x1 x2 x3 s2 else (if x3 < 0 then b_X9_letter_45 x1 x2 x3 s2 else (if x2 = 0 then gd (inb x1 (ln 41)) (b_X9_letter_42 x1 x2 x3 (s2.2.1 41 x1.toNatClampNeg) x3 s2) else gd (inb x1 (ln 43)) (b_X9_letter_42 x1 x2 x3 (s2.2.1 43 x1.toNatClampNeg) x3 s2))))) else b_X9_letter_45 x1 x2 x3 s2))
set_option maxRecDepth 10000 in
set_option maxHeartbeats 1000000 in
theorem tf_X9_letter {ε : Et} {κ : Kt} {z : Rs} (C : Cx ε κ cX9_letter 4 RX9 1) (K : Ret ε κ cX9_letter (some .int) 0 0 (PI ε z)) (x1 : Int32) (x2 : Int32) (x3 : Int32) (σ : St) (ok : f_X9_letter x1 x2 x3 σ = some z) : G ε κ 0 0 0 [(0, .ref (ad ε 39)), (1, .int x1), (2, .int x2), (3, .int x3)] [] (WX ε σ) := by
  unfold f_X9_letter at ok
  refine g_aload_n C dX9_letter_0 rfl 0 rfl ?_
  refine g_aload_n C dX9_letter_1 rfl 0 rfl ?_
  refine g_iload_n C dX9_letter_2 rfl 1 rfl ?_
  obtain ⟨r1, s2, e3, ok⟩ := bd_ok ok
  refine q_cI C [.int x1] (c_X9_noRead e3) wv_X9_190 (by decide) (lt_N (by decide)) wx_X9 rfl rfl rfl (Nat.le_of_ble_eq_true rfl) dX9_letter_3 ?_
  refine g_if_ne (tgt := 45) C dX9_letter_6 (by decide) (fun c4 => ?_) (fun c4 => ?_)
  · replace ok := ok_f c4 ok
    exact t_X9_letter_45 C K _ _ _ _ ok
  · replace ok := ok_t c4 ok
    refine g_iload_n C dX9_letter_9 rfl 2 rfl ?_
    refine g_if_lt (tgt := 45) C dX9_letter_10 (by decide) (fun c5 => ?_) (fun c5 => ?_)
    · replace ok := ok_t c5 ok
      exact t_X9_letter_45 C K _ _ _ _ ok
    · replace ok := ok_f c5 ok
      refine g_iload_n C dX9_letter_13 rfl 2 rfl ?_
      refine g_iconst (v := 2) C dX9_letter_14 (by decide) ?_
      refine g_icmp_gt (tgt := 45) C dX9_letter_15 (by decide) (fun c6 => ?_) (fun c6 => ?_)
      · replace ok := ok_t c6 ok
        exact t_X9_letter_45 C K _ _ _ _ ok
      · replace ok := ok_f c6 ok
        refine g_iload_n C dX9_letter_18 rfl 3 rfl ?_
        refine g_if_lt (tgt := 45) C dX9_letter_19 (by decide) (fun c7 => ?_) (fun c7 => ?_)
        · replace ok := ok_t c7 ok
          exact t_X9_letter_45 C K _ _ _ _ ok
        · replace ok := ok_f c7 ok
          refine g_iload_n C dX9_letter_22 rfl 3 rfl ?_
          refine g_iload_n C dX9_letter_23 rfl 2 rfl ?_
          refine g_if_ne (tgt := 36) C dX9_letter_24 (by decide) (fun c8 => ?_) (fun c8 => ?_)
          · replace ok := ok_f c8 ok
            refine g_aload_n C dX9_letter_36 rfl 0 rfl ?_
            refine q_X9_23 C dX9_letter_37 ?_
            refine g_iload_n C dX9_letter_40 rfl 1 rfl ?_
            obtain ⟨h9, ok⟩ := gd_ok ok
            refine q_ald C ai_43 h9 dX9_letter_41 ?_
            exact t_X9_letter_42 C K _ _ _ _ _ _ ok
          · replace ok := ok_t c8 ok
            refine g_aload_n C dX9_letter_27 rfl 0 rfl ?_
            refine q_X9_17 C dX9_letter_28 ?_
            refine g_iload_n C dX9_letter_31 rfl 1 rfl ?_
            obtain ⟨h10, ok⟩ := gd_ok ok
            refine q_ald C ai_41 h10 dX9_letter_32 ?_
            refine g_goto (tgt := 42) C dX9_letter_33 (by decide) ?_
            exact t_X9_letter_42 C K _ _ _ _ _ _ ok
theorem c_X9_letter {l : Launch} {ε : Et} {σ : St} {z : Rs} {x1 : Int32} {x2 : Int32} {x3 : Int32} (e : f_X9_letter x1 x2 x3 σ = some z) : RM l ε yX9_letter cX9_letter 4 (some .int) 1 0 0 [.ref (ad ε 39), .int x1, .int x2, .int x3] (WX ε σ) (PI ε z) := RM.of (by decide) (Nat.le_of_ble_eq_true rfl) (fun κ C K => tf_X9_letter C K x1 x2 x3 σ e)
def b_X9_noBin_32 (t0 : Int32) (σ : St) : Option Rs := gz t0 (some (t0, σ))
set_option maxRecDepth 10000 in
set_option maxHeartbeats 1000000 in
theorem t_X9_noBin_32 {ε : Et} {κ : Kt} {z : Rs} (C : Cx ε κ cX9_noBin 2 RX9 0) (K : Ret ε κ cX9_noBin (some .boolean) 0 0 (PI ε z)) (t0 : Int32) (σ : St) (ok : b_X9_noBin_32 t0 σ = some z) : G ε κ 0 0 32 [] [.int t0] (WX ε σ) := by
  unfold b_X9_noBin_32 at ok
  obtain ⟨z1, ok⟩ := gz_ok ok
  exact K.2 .boolean _ _ _ _ rfl dX9_noBin_32 (nar_b z1) (pi_ok ok)
def b_X9_noBin_27 (σ : St) : Option Rs := b_X9_noBin_32 (1 : Int32) σ
set_option maxRecDepth 10000 in
set_option maxHeartbeats 1000000 in
theorem t_X9_noBin_27 {ε : Et} {κ : Kt} {z : Rs} (C : Cx ε κ cX9_noBin 2 RX9 0) (K : Ret ε κ cX9_noBin (some .boolean) 0 0 (PI ε z)) (σ : St) (ok : b_X9_noBin_27 σ = some z) : G ε κ 0 0 27 [] [] (WX ε σ) := by
  unfold b_X9_noBin_27 at ok
  refine g_iconst (v := 1) C dX9_noBin_27 (by decide) ?_
  refine g_goto (tgt := 32) C dX9_noBin_28 (by decide) ?_
  exact t_X9_noBin_32 C K _ _ ok
def b_X9_noBin_24 (t0 : Int32) (t1 : Int32) (σ : St) : Option Rs := (if t1 < t0 then b_X9_noBin_32 (0 : Int32) σ else b_X9_noBin_27 σ)
set_option maxRecDepth 10000 in
set_option maxHeartbeats 1000000 in
theorem t_X9_noBin_24 {ε : Et} {κ : Kt} {z : Rs} (C : Cx ε κ cX9_noBin 2 RX9 0) (K : Ret ε κ cX9_noBin (some .boolean) 0 0 (PI ε z)) (t0 : Int32) (t1 : Int32) (σ : St) (ok : b_X9_noBin_24 t0 t1 σ = some z) : G ε κ 0 0 24 [] [.int t0, .int t1] (WX ε σ) := by
  unfold b_X9_noBin_24 at ok
  refine g_icmp_lt (tgt := 31) C dX9_noBin_24 (by decide) (fun c1 => ?_) (fun c1 => ?_)
  · replace ok := ok_t c1 ok
    refine g_iconst (v := 0) C dX9_noBin_31 (by decide) ?_
    exact t_X9_noBin_32 C K _ _ ok
  · replace ok := ok_f c1 ok
    exact t_X9_noBin_27 C K _ ok
def f_X9_noBin (x1 : Int32) (σ : St) : Option Rs := (if x1 < (-1 : Int32) then b_X9_noBin_27 σ else (if (σ.1 39 19) = 0 then b_X9_noBin_24 (σ.1 39 12) x1 σ else b_X9_noBin_24 (σ.1 39 20) x1 σ))
set_option maxRecDepth 10000 in
set_option maxHeartbeats 1000000 in
theorem tf_X9_noBin {ε : Et} {κ : Kt} {z : Rs} (C : Cx ε κ cX9_noBin 2 RX9 0) (K : Ret ε κ cX9_noBin (some .boolean) 0 0 (PI ε z)) (x1 : Int32) (σ : St) (ok : f_X9_noBin x1 σ = some z) : G ε κ 0 0 0 [(0, .ref (ad ε 39)), (1, .int x1)] [] (WX ε σ) := by
  unfold f_X9_noBin at ok
  refine g_iload_n C dX9_noBin_0 rfl 1 rfl ?_
  refine g_iconst (v := -1) C dX9_noBin_1 (by decide) ?_
  refine g_icmp_lt (tgt := 27) C dX9_noBin_2 (by decide) (fun c1 => ?_) (fun c1 => ?_)
  · replace ok := ok_t c1 ok
    refine g_pick (lv' := []) ?_ [] rfl
    exact t_X9_noBin_27 C K _ ok
  · replace ok := ok_f c1 ok
    refine g_iload_n C dX9_noBin_5 rfl 1 rfl ?_
    refine g_aload_n C dX9_noBin_6 rfl 0 rfl ?_
    refine q_X9_114 C dX9_noBin_7 ?_
    refine g_if_eq (tgt := 20) C dX9_noBin_10 (by decide) (fun c2 => ?_) (fun c2 => ?_)
    · replace ok := ok_t c2 ok
      refine g_aload_n C dX9_noBin_20 rfl 0 rfl ?_
      refine q_X9_118 C dX9_noBin_21 ?_
      refine g_pick (lv' := []) ?_ [] rfl
      exact t_X9_noBin_24 C K _ _ _ ok
    · replace ok := ok_f c2 ok
      refine g_aload_n C dX9_noBin_13 rfl 0 rfl ?_
      refine q_X9_169 C dX9_noBin_14 ?_
      refine g_goto (tgt := 24) C dX9_noBin_17 (by decide) ?_
      refine g_pick (lv' := []) ?_ [] rfl
      exact t_X9_noBin_24 C K _ _ _ ok
theorem c_X9_noBin {l : Launch} {ε : Et} {σ : St} {z : Rs} {x1 : Int32} (e : f_X9_noBin x1 σ = some z) : RM l ε yX9_noBin cX9_noBin 2 (some .boolean) 0 0 0 [.ref (ad ε 39), .int x1] (WX ε σ) (PI ε z) := RM.of (by decide) (Nat.le_of_ble_eq_true rfl) (fun κ C K => tf_X9_noBin C K x1 σ e)
def b_X9_groupsOf_44 (k4 : Int32 → Int32 → Int32 → St → Option Rs) (x1 : Int32) (x3 : Int32) (t0 : Int32) (σ : St) : Option Rs := nx (x3 + (1 : Int32)) (fun y1 => k4 x1 t0 y1 σ)
set_option maxRecDepth 10000 in
set_option maxHeartbeats 1000000 in
theorem t_X9_groupsOf_44 {ε : Et} {κ : Kt} {z : Rs} (C : Cx ε κ cX9_groupsOf 4 RX9 0) (K : Ret ε κ cX9_groupsOf (some .int) 0 0 (PI ε z)) (k4 : Int32 → Int32 → Int32 → St → Option Rs) (g4 : ∀ (x1 : Int32) (x2 : Int32) (x3 : Int32) (σ : St), k4 x1 x2 x3 σ = some z → G ε κ 0 0 4 [(0, .ref (ad ε 39)), (1, .int x1), (2, .int x2), (3, .int x3)] [] (WX ε σ)) (x1 : Int32) (x3 : Int32) (t0 : Int32) (σ : St) (ok : b_X9_groupsOf_44 k4 x1 x3 t0 σ = some z) : G ε κ 0 0 44 [(0, .ref (ad ε 39)), (1, .int x1), (3, .int x3)] [.int t0] (WX ε σ) := by
  unfold b_X9_groupsOf_44 at ok
  refine g_istore_n C [(2, .int t0), (0, .ref (ad ε 39)), (1, .int x1), (3, .int x3)] dX9_groupsOf_44 rfl (by decide) rfl ?_
  obtain ⟨y1, e2⟩ : ∃ y : Int32, y = (x3 + (1 : Int32)) := ⟨_, rfl⟩
  replace ok := nx_ok ok y1 e2
  refine g_iinc (v := y1) C [(3, .int y1), (2, .int t0), (0, .ref (ad ε 39)), (1, .int x1)] dX9_groupsOf_45 3 rfl (by rw [e2]; rfl) (by decide) rfl ?_
  refine g_goto (tgt := 4) C dX9_groupsOf_48 (by decide) ?_
  refine g_pick (lv' := [(0, .ref (ad ε 39)), (1, .int x1), (2, .int t0), (3, .int y1)]) ?_ [2, 3, 1, 0] rfl
  exact g4 _ _ _ _ ok
def b_X9_groupsOf_43 (k4 : Int32 → Int32 → Int32 → St → Option Rs) (x1 : Int32) (x2 : Int32) (x3 : Int32) (σ : St) : Option Rs := b_X9_groupsOf_44 k4 x1 x3 x2 σ
set_option maxRecDepth 10000 in
set_option maxHeartbeats 1000000 in
theorem t_X9_groupsOf_43 {ε : Et} {κ : Kt} {z : Rs} (C : Cx ε κ cX9_groupsOf 4 RX9 0) (K : Ret ε κ cX9_groupsOf (some .int) 0 0 (PI ε z)) (k4 : Int32 → Int32 → Int32 → St → Option Rs) (g4 : ∀ (x1 : Int32) (x2 : Int32) (x3 : Int32) (σ : St), k4 x1 x2 x3 σ = some z → G ε κ 0 0 4 [(0, .ref (ad ε 39)), (1, .int x1), (2, .int x2), (3, .int x3)] [] (WX ε σ)) (x1 : Int32) (x2 : Int32) (x3 : Int32) (σ : St) (ok : b_X9_groupsOf_43 k4 x1 x2 x3 σ = some z) : G ε κ 0 0 43 [(0, .ref (ad ε 39)), (1, .int x1), (2, .int x2), (3, .int x3)] [] (WX ε σ) := by
  unfold b_X9_groupsOf_43 at ok
  refine g_iload_n C dX9_groupsOf_43 rfl 2 rfl ?_
  refine g_pick (lv' := [(0, .ref (ad ε 39)), (1, .int x1), (3, .int x3)]) ?_ [0, 1, 3] rfl
  exact t_X9_groupsOf_44 C K k4 g4 _ _ _ _ ok
def b_X9_groupsOf_4 (k4 : Int32 → Int32 → Int32 → St → Option Rs) (x1 : Int32) (x2 : Int32) (x3 : Int32) (σ : St) : Option Rs := (if (σ.1 39 9) ≤ x3 then some (x2, σ) else gd (inb x3 (ln 48)) ((if (σ.2.1 48 x3.toNatClampNeg) = x1 then gd (inb x3 (ln 52)) ((if (σ.2.1 52 x3.toNatClampNeg) < x2 then b_X9_groupsOf_43 k4 x1 x2 x3 σ else gd (inb x3 (ln 52)) (b_X9_groupsOf_44 k4 x1 x3 ((σ.2.1 52 x3.toNatClampNeg) + (1 : Int32)) σ))) else b_X9_groupsOf_43 k4 x1 x2 x3 σ)))
set_option maxRecDepth 10000 in
set_option maxHeartbeats 1000000 in
theorem t_X9_groupsOf_4 {ε : Et} {κ : Kt} {z : Rs} (C : Cx ε κ cX9_groupsOf 4 RX9 0) (K : Ret ε κ cX9_groupsOf (some .int) 0 0 (PI ε z)) (k4 : Int32 → Int32 → Int32 → St → Option Rs) (g4 : ∀ (x1 : Int32) (x2 : Int32) (x3 : Int32) (σ : St), k4 x1 x2 x3 σ = some z → G ε κ 0 0 4 [(0, .ref (ad ε 39)), (1, .int x1), (2, .int x2), (3, .int x3)] [] (WX ε σ)) (x1 : Int32) (x2 : Int32) (x3 : Int32) (σ : St) (ok : b_X9_groupsOf_4 k4 x1 x2 x3 σ = some z) : G ε κ 0 0 4 [(0, .ref (ad ε 39)), (1, .int x1), (2, .int x2), (3, .int x3)] [] (WX ε σ) := by
  unfold b_X9_groupsOf_4 at ok
  refine g_iload_n C dX9_groupsOf_4 rfl 3 rfl ?_
  refine g_aload_n C dX9_groupsOf_5 rfl 0 rfl ?_
  refine q_X9_63 C dX9_groupsOf_6 ?_
  refine g_icmp_ge (tgt := 51) C dX9_groupsOf_9 (by decide) (fun c1 => ?_) (fun c1 => ?_)
  · replace ok := ok_t c1 ok
    refine g_iload_n C dX9_groupsOf_51 rfl 2 rfl ?_
    exact K.2 .int _ _ _ _ rfl dX9_groupsOf_52 rfl (pi_ok ok)
  · replace ok := ok_f c1 ok
    refine g_aload_n C dX9_groupsOf_12 rfl 0 rfl ?_
    refine q_X9_41 C dX9_groupsOf_13 ?_
    refine g_iload_n C dX9_groupsOf_16 rfl 3 rfl ?_
    obtain ⟨h2, ok⟩ := gd_ok ok
    refine q_ald C ai_48 h2 dX9_groupsOf_17 ?_
    refine g_iload_n C dX9_groupsOf_18 rfl 1 rfl ?_
    refine g_icmp_ne (tgt := 43) C dX9_groupsOf_19 (by decide) (fun c3 => ?_) (fun c3 => ?_)
    · replace ok := ok_f c3 ok
      exact t_X9_groupsOf_43 C K k4 g4 _ _ _ _ ok
    · replace ok := ok_t c3 ok
      refine g_aload_n C dX9_groupsOf_22 rfl 0 rfl ?_
      refine q_X9_54 C dX9_groupsOf_23 ?_
      refine g_iload_n C dX9_groupsOf_26 rfl 3 rfl ?_
      obtain ⟨h4, ok⟩ := gd_ok ok
      refine q_ald C ai_52 h4 dX9_groupsOf_27 ?_
      refine g_iload_n C dX9_groupsOf_28 rfl 2 rfl ?_
      refine g_icmp_lt (tgt := 43) C dX9_groupsOf_29 (by decide) (fun c5 => ?_) (fun c5 => ?_)
      · replace ok := ok_t c5 ok
        exact t_X9_groupsOf_43 C K k4 g4 _ _ _ _ ok
      · replace ok := ok_f c5 ok
        refine g_aload_n C dX9_groupsOf_32 rfl 0 rfl ?_
        refine q_X9_54 C dX9_groupsOf_33 ?_
        refine g_iload_n C dX9_groupsOf_36 rfl 3 rfl ?_
        obtain ⟨h6, ok⟩ := gd_ok ok
        refine q_ald C ai_52 h6 dX9_groupsOf_37 ?_
        refine g_iconst (v := 1) C dX9_groupsOf_38 (by decide) ?_
        refine g_iadd C dX9_groupsOf_39 ?_
        refine g_goto (tgt := 44) C dX9_groupsOf_40 (by decide) ?_
        refine g_pick (lv' := [(0, .ref (ad ε 39)), (1, .int x1), (3, .int x3)]) ?_ [0, 1, 3] rfl
        exact t_X9_groupsOf_44 C K k4 g4 _ _ _ _ ok
def l_X9_groupsOf_4 : Nat → Int32 → Int32 → Int32 → St → Option Rs
  | 0 => fun _ _ _ _ => none
  | n + 1 => fun x1 x2 x3 σ => b_X9_groupsOf_4 (l_X9_groupsOf_4 n) x1 x2 x3 σ
theorem tl_X9_groupsOf_4 {ε : Et} {κ : Kt} {z : Rs} (C : Cx ε κ cX9_groupsOf 4 RX9 0) (K : Ret ε κ cX9_groupsOf (some .int) 0 0 (PI ε z)) : ∀ (n : Nat) (x1 : Int32) (x2 : Int32) (x3 : Int32) (σ : St), l_X9_groupsOf_4 n x1 x2 x3 σ = some z → G ε κ 0 0 4 [(0, .ref (ad ε 39)), (1, .int x1), (2, .int x2), (3, .int x3)] [] (WX ε σ) := by
  intro n
  induction n with
  | zero =>
    intro x1 x2 x3 σ ok
    cases ok
  | succ n ih =>
    intro x1 x2 x3 σ ok
    exact t_X9_groupsOf_4 C K (l_X9_groupsOf_4 n) ih x1 x2 x3 σ ok
def f_X9_groupsOf (x1 : Int32) (σ : St) : Option Rs := l_X9_groupsOf_4 FU x1 (0 : Int32) (0 : Int32) σ
set_option maxRecDepth 10000 in
set_option maxHeartbeats 1000000 in
theorem tf_X9_groupsOf {ε : Et} {κ : Kt} {z : Rs} (C : Cx ε κ cX9_groupsOf 4 RX9 0) (K : Ret ε κ cX9_groupsOf (some .int) 0 0 (PI ε z)) (x1 : Int32) (σ : St) (ok : f_X9_groupsOf x1 σ = some z) : G ε κ 0 0 0 [(0, .ref (ad ε 39)), (1, .int x1)] [] (WX ε σ) := by
  unfold f_X9_groupsOf at ok
  refine g_iconst (v := 0) C dX9_groupsOf_0 (by decide) ?_
  refine g_istore_n C [(2, .int (0 : Int32)), (0, .ref (ad ε 39)), (1, .int x1)] dX9_groupsOf_1 rfl (by decide) rfl ?_
  refine g_iconst (v := 0) C dX9_groupsOf_2 (by decide) ?_
  refine g_istore_n C [(3, .int (0 : Int32)), (2, .int (0 : Int32)), (0, .ref (ad ε 39)), (1, .int x1)] dX9_groupsOf_3 rfl (by decide) rfl ?_
  refine g_pick (lv' := [(0, .ref (ad ε 39)), (1, .int x1), (2, .int (0 : Int32)), (3, .int (0 : Int32))]) ?_ [2, 3, 1, 0] rfl
  exact tl_X9_groupsOf_4 C K FU _ _ _ _ ok
theorem c_X9_groupsOf {l : Launch} {ε : Et} {σ : St} {z : Rs} {x1 : Int32} (e : f_X9_groupsOf x1 σ = some z) : RM l ε yX9_groupsOf cX9_groupsOf 4 (some .int) 0 0 0 [.ref (ad ε 39), .int x1] (WX ε σ) (PI ε z) := RM.of (by decide) (Nat.le_of_ble_eq_true rfl) (fun κ C K => tf_X9_groupsOf C K x1 σ e)
def b_X9_bin_142 (t0 : Int32) (σ : St) : Option Rs := some (t0, σ)
set_option maxRecDepth 10000 in
set_option maxHeartbeats 1000000 in
theorem t_X9_bin_142 {ε : Et} {κ : Kt} {z : Rs} (C : Cx ε κ cX9_bin 6 RX9 1) (K : Ret ε κ cX9_bin (some .int) 0 0 (PI ε z)) (t0 : Int32) (σ : St) (ok : b_X9_bin_142 t0 σ = some z) : G ε κ 0 0 142 [] [.int t0] (WX ε σ) := by
  unfold b_X9_bin_142 at ok
  exact K.2 .int _ _ _ _ rfl dX9_bin_142 rfl (pi_ok ok)
def b_X9_bin_110 (k54 : Int32 → Int32 → Int32 → Int32 → Int32 → St → Option Rs) (x1 : Int32) (x2 : Int32) (x3 : Int32) (x5 : Int32) (t0 : Int32) (t1 : Int32) (σ : St) : Option Rs := nx (t1 + t0) (fun y1 => nx (x5 + (1 : Int32)) (fun y3 => k54 x1 x2 x3 y1 y3 σ))
set_option maxRecDepth 10000 in
set_option maxHeartbeats 1000000 in
theorem t_X9_bin_110 {ε : Et} {κ : Kt} {z : Rs} (C : Cx ε κ cX9_bin 6 RX9 1) (K : Ret ε κ cX9_bin (some .int) 0 0 (PI ε z)) (k54 : Int32 → Int32 → Int32 → Int32 → Int32 → St → Option Rs) (g54 : ∀ (x1 : Int32) (x2 : Int32) (x3 : Int32) (x4 : Int32) (x5 : Int32) (σ : St), k54 x1 x2 x3 x4 x5 σ = some z → G ε κ 0 0 54 [(0, .ref (ad ε 39)), (1, .int x1), (2, .int x2), (3, .int x3), (4, .int x4), (5, .int x5)] [] (WX ε σ)) (x1 : Int32) (x2 : Int32) (x3 : Int32) (x5 : Int32) (t0 : Int32) (t1 : Int32) (σ : St) (ok : b_X9_bin_110 k54 x1 x2 x3 x5 t0 t1 σ = some z) : G ε κ 0 0 110 [(0, .ref (ad ε 39)), (1, .int x1), (2, .int x2), (3, .int x3), (5, .int x5)] [.int t0, .int t1] (WX ε σ) := by
  unfold b_X9_bin_110 at ok
  refine g_iadd C dX9_bin_110 ?_
  refine q_nm (fun y1 e2 => ?_)
  replace ok := nx_ok ok y1 e2
  refine g_istore C [(4, .int y1), (0, .ref (ad ε 39)), (1, .int x1), (2, .int x2), (3, .int x3), (5, .int x5)] dX9_bin_111 (by decide) rfl ?_
  obtain ⟨y3, e4⟩ : ∃ y : Int32, y = (x5 + (1 : Int32)) := ⟨_, rfl⟩
  replace ok := nx_ok ok y3 e4
  refine g_iinc (v := y3) C [(5, .int y3), (4, .int y1), (0, .ref (ad ε 39)), (1, .int x1), (2, .int x2), (3, .int x3)] dX9_bin_113 5 rfl (by rw [e4]; rfl) (by decide) rfl ?_
  refine g_goto (tgt := 54) C dX9_bin_116 (by decide) ?_
  refine g_pick (lv' := [(0, .ref (ad ε 39)), (1, .int x1), (2, .int x2), (3, .int x3), (4, .int y1), (5, .int y3)]) ?_ [2, 3, 4, 5, 1, 0] rfl
  exact g54 _ _ _ _ _ _ ok
def b_X9_bin_109 (k54 : Int32 → Int32 → Int32 → Int32 → Int32 → St → Option Rs) (x1 : Int32) (x2 : Int32) (x3 : Int32) (x5 : Int32) (t0 : Int32) (σ : St) : Option Rs := b_X9_bin_110 k54 x1 x2 x3 x5 (0 : Int32) t0 σ
set_option maxRecDepth 10000 in
set_option maxHeartbeats 1000000 in
theorem t_X9_bin_109 {ε : Et} {κ : Kt} {z : Rs} (C : Cx ε κ cX9_bin 6 RX9 1) (K : Ret ε κ cX9_bin (some .int) 0 0 (PI ε z)) (k54 : Int32 → Int32 → Int32 → Int32 → Int32 → St → Option Rs) (g54 : ∀ (x1 : Int32) (x2 : Int32) (x3 : Int32) (x4 : Int32) (x5 : Int32) (σ : St), k54 x1 x2 x3 x4 x5 σ = some z → G ε κ 0 0 54 [(0, .ref (ad ε 39)), (1, .int x1), (2, .int x2), (3, .int x3), (4, .int x4), (5, .int x5)] [] (WX ε σ)) (x1 : Int32) (x2 : Int32) (x3 : Int32) (x5 : Int32) (t0 : Int32) (σ : St) (ok : b_X9_bin_109 k54 x1 x2 x3 x5 t0 σ = some z) : G ε κ 0 0 109 [(0, .ref (ad ε 39)), (1, .int x1), (2, .int x2), (3, .int x3), (5, .int x5)] [.int t0] (WX ε σ) := by
  unfold b_X9_bin_109 at ok
  refine g_iconst (v := 0) C dX9_bin_109 (by decide) ?_
  exact t_X9_bin_110 C K k54 g54 _ _ _ _ _ _ _ ok
def b_X9_bin_80 (k54 : Int32 → Int32 → Int32 → Int32 → Int32 → St → Option Rs) (x1 : Int32) (x2 : Int32) (x4 : Int32) (x5 : Int32) (t0 : Int32) (t1 : Int32) (σ : St) : Option Rs := nx (t1 + t0) (fun y1 => gd (inb x5 (ln 48)) ((if (σ.2.1 48 x5.toNatClampNeg) = x1 then gd (inb x5 (ln 51)) ((if (σ.2.1 51 x5.toNatClampNeg) = 0 then b_X9_bin_109 k54 x1 x2 y1 x5 x4 σ else b_X9_bin_110 k54 x1 x2 y1 x5 (1 : Int32) x4 σ)) else b_X9_bin_109 k54 x1 x2 y1 x5 x4 σ)))
set_option maxRecDepth 10000 in
set_option maxHeartbeats 1000000 in
theorem t_X9_bin_80 {ε : Et} {κ : Kt} {z : Rs} (C : Cx ε κ cX9_bin 6 RX9 1) (K : Ret ε κ cX9_bin (some .int) 0 0 (PI ε z)) (k54 : Int32 → Int32 → Int32 → Int32 → Int32 → St → Option Rs) (g54 : ∀ (x1 : Int32) (x2 : Int32) (x3 : Int32) (x4 : Int32) (x5 : Int32) (σ : St), k54 x1 x2 x3 x4 x5 σ = some z → G ε κ 0 0 54 [(0, .ref (ad ε 39)), (1, .int x1), (2, .int x2), (3, .int x3), (4, .int x4), (5, .int x5)] [] (WX ε σ)) (x1 : Int32) (x2 : Int32) (x4 : Int32) (x5 : Int32) (t0 : Int32) (t1 : Int32) (σ : St) (ok : b_X9_bin_80 k54 x1 x2 x4 x5 t0 t1 σ = some z) : G ε κ 0 0 80 [(0, .ref (ad ε 39)), (1, .int x1), (2, .int x2), (4, .int x4), (5, .int x5)] [.int t0, .int t1] (WX ε σ) := by
  unfold b_X9_bin_80 at ok
  refine g_iadd C dX9_bin_80 ?_
  refine q_nm (fun y1 e2 => ?_)
  replace ok := nx_ok ok y1 e2
  refine g_istore_n C [(3, .int y1), (0, .ref (ad ε 39)), (1, .int x1), (2, .int x2), (4, .int x4), (5, .int x5)] dX9_bin_81 rfl (by decide) rfl ?_
  refine g_iload C dX9_bin_82 4 rfl ?_
  refine g_aload_n C dX9_bin_84 rfl 1 rfl ?_
  refine q_X9_41 C dX9_bin_85 ?_
  refine g_iload C dX9_bin_88 5 rfl ?_
  obtain ⟨h3, ok⟩ := gd_ok ok
  refine q_ald C ai_48 h3 dX9_bin_90 ?_
  refine g_iload_n C dX9_bin_91 rfl 2 rfl ?_
  refine g_icmp_ne (tgt := 109) C dX9_bin_92 (by decide) (fun c4 => ?_) (fun c4 => ?_)
  · replace ok := ok_f c4 ok
    refine g_pick (lv' := [(0, .ref (ad ε 39)), (1, .int x1), (2, .int x2), (3, .int y1), (5, .int x5)]) ?_ [1, 2, 3, 0, 5] rfl
    exact t_X9_bin_109 C K k54 g54 _ _ _ _ _ _ ok
  · replace ok := ok_t c4 ok
    refine g_aload_n C dX9_bin_95 rfl 1 rfl ?_
    refine q_X9_50 C dX9_bin_96 ?_
    refine g_iload C dX9_bin_99 5 rfl ?_
    obtain ⟨h5, ok⟩ := gd_ok ok
    refine q_zld C az_51 h5 dX9_bin_101 ?_
    refine g_if_eq (tgt := 109) C dX9_bin_102 (by decide) (fun c6 => ?_) (fun c6 => ?_)
    · replace ok := ok_t c6 ok
      refine g_pick (lv' := [(0, .ref (ad ε 39)), (1, .int x1), (2, .int x2), (3, .int y1), (5, .int x5)]) ?_ [1, 2, 3, 0, 5] rfl
      exact t_X9_bin_109 C K k54 g54 _ _ _ _ _ _ ok
    · replace ok := ok_f c6 ok
      refine g_iconst (v := 1) C dX9_bin_105 (by decide) ?_
      refine g_goto (tgt := 110) C dX9_bin_106 (by decide) ?_
      refine g_pick (lv' := [(0, .ref (ad ε 39)), (1, .int x1), (2, .int x2), (3, .int y1), (5, .int x5)]) ?_ [1, 2, 3, 0, 5] rfl
      exact t_X9_bin_110 C K k54 g54 _ _ _ _ _ _ _ ok
def b_X9_bin_54 (k54 : Int32 → Int32 → Int32 → Int32 → Int32 → St → Option Rs) (x1 : Int32) (x2 : Int32) (x3 : Int32) (x4 : Int32) (x5 : Int32) (σ : St) : Option Rs := (if (σ.1 39 9) ≤ x5 then (if x2 = 0 then b_X9_bin_142 x3 σ else (if x2 = (1 : Int32) then b_X9_bin_142 x4 σ else bd (f_X9_groupsOf x1 σ) (fun r4 s5 => b_X9_bin_142 r4 s5))) else gd (inb x5 (ln 48)) ((if (σ.2.1 48 x5.toNatClampNeg) = x1 then b_X9_bin_80 k54 x1 x2 x4 x5 (1 : Int32) x3 σ else b_X9_bin_80 k54 x1 x2 x4 x5 (0 : Int32) x3 σ)))
set_option maxRecDepth 10000 in
set_option maxHeartbeats 1000000 in
theorem t_X9_bin_54 {ε : Et} {κ : Kt} {z : Rs} (C : Cx ε κ cX9_bin 6 RX9 1) (K : Ret ε κ cX9_bin (some .int) 0 0 (PI ε z)) (k54 : Int32 → Int32 → Int32 → Int32 → Int32 → St → Option Rs) (g54 : ∀ (x1 : Int32) (x2 : Int32) (x3 : Int32) (x4 : Int32) (x5 : Int32) (σ : St), k54 x1 x2 x3 x4 x5 σ = some z → G ε κ 0 0 54 [(0, .ref (ad ε 39)), (1, .int x1), (2, .int x2), (3, .int x3), (4, .int x4), (5, .int x5)] [] (WX ε σ)) (x1 : Int32) (x2 : Int32) (x3 : Int32) (x4 : Int32) (x5 : Int32) (σ : St) (ok : b_X9_bin_54 k54 x1 x2 x3 x4 x5 σ = some z) : G ε κ 0 0 54 [(0, .ref (ad ε 39)), (1, .int x1), (2, .int x2), (3, .int x3), (4, .int x4), (5, .int x5)] [] (WX ε σ) := by
  unfold b_X9_bin_54 at ok
  refine g_iload C dX9_bin_54 5 rfl ?_
  refine g_aload_n C dX9_bin_56 rfl 0 rfl ?_
  refine q_X9_63 C dX9_bin_57 ?_
  refine g_icmp_ge (tgt := 119) C dX9_bin_60 (by decide) (fun c1 => ?_) (fun c1 => ?_)
  · replace ok := ok_t c1 ok
    refine g_iload_n C dX9_bin_119 rfl 2 rfl ?_
    refine g_if_ne (tgt := 127) C dX9_bin_120 (by decide) (fun c2 => ?_) (fun c2 => ?_)
    · replace ok := ok_f c2 ok
      refine g_iload_n C dX9_bin_127 rfl 2 rfl ?_
      refine g_iconst (v := 1) C dX9_bin_128 (by decide) ?_
      refine g_icmp_ne (tgt := 137) C dX9_bin_129 (by decide) (fun c3 => ?_) (fun c3 => ?_)
      · replace ok := ok_f c3 ok
        refine g_aload_n C dX9_bin_137 rfl 0 rfl ?_
        refine g_iload_n C dX9_bin_138 rfl 1 rfl ?_
        obtain ⟨r4, s5, e6, ok⟩ := bd_ok ok
        refine q_cI C [.int x1] (c_X9_groupsOf e6) wv_X9_196 (by decide) (lt_N (by decide)) wx_X9 rfl rfl rfl (Nat.le_of_ble_eq_true rfl) dX9_bin_139 ?_
        refine g_pick (lv' := []) ?_ [] rfl
        exact t_X9_bin_142 C K _ _ ok
      · replace ok := ok_t c3 ok
        refine g_iload C dX9_bin_132 4 rfl ?_
        refine g_goto (tgt := 142) C dX9_bin_134 (by decide) ?_
        refine g_pick (lv' := []) ?_ [] rfl
        exact t_X9_bin_142 C K _ _ ok
    · replace ok := ok_t c2 ok
      refine g_iload_n C dX9_bin_123 rfl 3 rfl ?_
      refine g_goto (tgt := 142) C dX9_bin_124 (by decide) ?_
      refine g_pick (lv' := []) ?_ [] rfl
      exact t_X9_bin_142 C K _ _ ok
  · replace ok := ok_f c1 ok
    refine g_iload_n C dX9_bin_63 rfl 3 rfl ?_
    refine g_aload_n C dX9_bin_64 rfl 0 rfl ?_
    refine q_X9_41 C dX9_bin_65 ?_
    refine g_iload C dX9_bin_68 5 rfl ?_
    obtain ⟨h7, ok⟩ := gd_ok ok
    refine q_ald C ai_48 h7 dX9_bin_70 ?_
    refine g_iload_n C dX9_bin_71 rfl 1 rfl ?_
    refine g_icmp_ne (tgt := 79) C dX9_bin_72 (by decide) (fun c8 => ?_) (fun c8 => ?_)
    · replace ok := ok_f c8 ok
      refine g_iconst (v := 0) C dX9_bin_79 (by decide) ?_
      refine g_pick (lv' := [(0, .ref (ad ε 39)), (1, .int x1), (2, .int x2), (4, .int x4), (5, .int x5)]) ?_ [0, 1, 2, 4, 5] rfl
      exact t_X9_bin_80 C K k54 g54 _ _ _ _ _ _ _ ok
    · replace ok := ok_t c8 ok
      refine g_iconst (v := 1) C dX9_bin_75 (by decide) ?_
      refine g_goto (tgt := 80) C dX9_bin_76 (by decide) ?_
      refine g_pick (lv' := [(0, .ref (ad ε 39)), (1, .int x1), (2, .int x2), (4, .int x4), (5, .int x5)]) ?_ [0, 1, 2, 4, 5] rfl
      exact t_X9_bin_80 C K k54 g54 _ _ _ _ _ _ _ ok
def l_X9_bin_54 : Nat → Int32 → Int32 → Int32 → Int32 → Int32 → St → Option Rs
  | 0 => fun _ _ _ _ _ _ => none
  | n + 1 => fun x1 x2 x3 x4 x5 σ => b_X9_bin_54 (l_X9_bin_54 n) x1 x2 x3 x4 x5 σ
theorem tl_X9_bin_54 {ε : Et} {κ : Kt} {z : Rs} (C : Cx ε κ cX9_bin 6 RX9 1) (K : Ret ε κ cX9_bin (some .int) 0 0 (PI ε z)) : ∀ (n : Nat) (x1 : Int32) (x2 : Int32) (x3 : Int32) (x4 : Int32) (x5 : Int32) (σ : St), l_X9_bin_54 n x1 x2 x3 x4 x5 σ = some z → G ε κ 0 0 54 [(0, .ref (ad ε 39)), (1, .int x1), (2, .int x2), (3, .int x3), (4, .int x4), (5, .int x5)] [] (WX ε σ) := by
  intro n
  induction n with
  | zero =>
    intro x1 x2 x3 x4 x5 σ ok
    cases ok
  | succ n ih =>
    intro x1 x2 x3 x4 x5 σ ok
    exact t_X9_bin_54 C K (l_X9_bin_54 n) ih x1 x2 x3 x4 x5 σ ok
def b_X9_bin_34 (x1 : Int32) (x2 : Int32) (t0 : Int32) (σ : St) : Option Rs := nx (sS σ 39 3 t0) (fun s1 => (if (s1.1 39 3) ≤ 0 then l_X9_bin_54 FU x1 x2 (0 : Int32) (0 : Int32) (0 : Int32) s1 else some ((0 : Int32), s1)))
set_option maxRecDepth 10000 in
set_option maxHeartbeats 1000000 in
theorem t_X9_bin_34 {ε : Et} {κ : Kt} {z : Rs} (C : Cx ε κ cX9_bin 6 RX9 1) (K : Ret ε κ cX9_bin (some .int) 0 0 (PI ε z)) (x1 : Int32) (x2 : Int32) (t0 : Int32) (σ : St) (ok : b_X9_bin_34 x1 x2 t0 σ = some z) : G ε κ 0 0 34 [(0, .ref (ad ε 39)), (1, .int x1), (2, .int x2)] [.int t0, .ref (ad ε 39)] (WX ε σ) := by
  unfold b_X9_bin_34 at ok
  refine p_X9_66 C dX9_bin_34 (fun s1 e2 => ?_)
  replace ok := nx_ok ok s1 e2
  refine g_aload_n C dX9_bin_37 rfl 0 rfl ?_
  refine q_X9_66 C dX9_bin_38 ?_
  refine g_if_le (tgt := 46) C dX9_bin_41 (by decide) (fun c3 => ?_) (fun c3 => ?_)
  · replace ok := ok_t c3 ok
    refine g_iconst (v := 0) C dX9_bin_46 (by decide) ?_
    refine g_istore_n C [(3, .int (0 : Int32)), (0, .ref (ad ε 39)), (1, .int x1), (2, .int x2)] dX9_bin_47 rfl (by decide) rfl ?_
    refine g_iconst (v := 0) C dX9_bin_48 (by decide) ?_
    refine g_istore C [(4, .int (0 : Int32)), (3, .int (0 : Int32)), (0, .ref (ad ε 39)), (1, .int x1), (2, .int x2)] dX9_bin_49 (by decide) rfl ?_
    refine g_iconst (v := 0) C dX9_bin_51 (by decide) ?_
    refine g_istore C [(5, .int (0 : Int32)), (4, .int (0 : Int32)), (3, .int (0 : Int32)), (0, .ref (ad ε 39)), (1, .int x1), (2, .int x2)] dX9_bin_52 (by decide) rfl ?_
    refine g_pick (lv' := [(0, .ref (ad ε 39)), (1, .int x1), (2, .int x2), (3, .int (0 : Int32)), (4, .int (0 : Int32)), (5, .int (0 : Int32))]) ?_ [3, 4, 5, 2, 1, 0] rfl
    exact tl_X9_bin_54 C K FU _ _ _ _ _ _ ok
  · replace ok := ok_f c3 ok
    refine g_iconst (v := 0) C dX9_bin_44 (by decide) ?_
    exact K.2 .int _ _ _ _ rfl dX9_bin_45 rfl (pi_ok ok)
def b_X9_bin_18 (x1 : Int32) (x2 : Int32) (σ : St) : Option Rs := b_X9_bin_34 x1 x2 (1 : Int32) σ
set_option maxRecDepth 10000 in
set_option maxHeartbeats 1000000 in
theorem t_X9_bin_18 {ε : Et} {κ : Kt} {z : Rs} (C : Cx ε κ cX9_bin 6 RX9 1) (K : Ret ε κ cX9_bin (some .int) 0 0 (PI ε z)) (x1 : Int32) (x2 : Int32) (σ : St) (ok : b_X9_bin_18 x1 x2 σ = some z) : G ε κ 0 0 18 [(0, .ref (ad ε 39)), (1, .int x1), (2, .int x2)] [.ref (ad ε 39)] (WX ε σ) := by
  unfold b_X9_bin_18 at ok
  refine g_iconst (v := 1) C dX9_bin_18 (by decide) ?_
  refine g_goto (tgt := 34) C dX9_bin_19 (by decide) ?_
  exact t_X9_bin_34 C K _ _ _ _ ok
def f_X9_bin (x1 : Int32) (x2 : Int32) (σ : St) : Option Rs := bd (f_X9_noBin x1 σ) (fun r1 s2 => (if r1 = 0 then (if x2 < 0 then b_X9_bin_18 x1 x2 s2 else (if x2 ≤ (2 : Int32) then (if (s2.1 39 19) = 0 then b_X9_bin_34 x1 x2 (2 : Int32) s2 else b_X9_bin_34 x1 x2 (0 : Int32) s2) else b_X9_bin_18 x1 x2 s2)) else b_X9_bin_18 x1 x2 s2))
set_option maxRecDepth 10000 in
set_option maxHeartbeats 1000000 in
theorem tf_X9_bin {ε : Et} {κ : Kt} {z : Rs} (C : Cx ε κ cX9_bin 6 RX9 1) (K : Ret ε κ cX9_bin (some .int) 0 0 (PI ε z)) (x1 : Int32) (x2 : Int32) (σ : St) (ok : f_X9_bin x1 x2 σ = some z) : G ε κ 0 0 0 [(0, .ref (ad ε 39)), (1, .int x1), (2, .int x2)] [] (WX ε σ) := by
  unfold f_X9_bin at ok
  refine g_aload_n C dX9_bin_0 rfl 0 rfl ?_
  refine g_aload_n C dX9_bin_1 rfl 0 rfl ?_
  refine g_iload_n C dX9_bin_2 rfl 1 rfl ?_
  obtain ⟨r1, s2, e3, ok⟩ := bd_ok ok
  refine q_cI C [.int x1] (c_X9_noBin e3) wv_X9_193 (by decide) (lt_N (by decide)) wx_X9 rfl rfl rfl (Nat.le_of_ble_eq_true rfl) dX9_bin_3 ?_
  refine g_if_ne (tgt := 18) C dX9_bin_6 (by decide) (fun c4 => ?_) (fun c4 => ?_)
  · replace ok := ok_f c4 ok
    exact t_X9_bin_18 C K _ _ _ ok
  · replace ok := ok_t c4 ok
    refine g_iload_n C dX9_bin_9 rfl 2 rfl ?_
    refine g_if_lt (tgt := 18) C dX9_bin_10 (by decide) (fun c5 => ?_) (fun c5 => ?_)
    · replace ok := ok_t c5 ok
      exact t_X9_bin_18 C K _ _ _ ok
    · replace ok := ok_f c5 ok
      refine g_iload_n C dX9_bin_13 rfl 2 rfl ?_
      refine g_iconst (v := 2) C dX9_bin_14 (by decide) ?_
      refine g_icmp_le (tgt := 22) C dX9_bin_15 (by decide) (fun c6 => ?_) (fun c6 => ?_)
      · replace ok := ok_t c6 ok
        refine g_aload_n C dX9_bin_22 rfl 0 rfl ?_
        refine q_X9_114 C dX9_bin_23 ?_
        refine g_if_ne (tgt := 33) C dX9_bin_26 (by decide) (fun c7 => ?_) (fun c7 => ?_)
        · replace ok := ok_f c7 ok
          refine g_iconst (v := 0) C dX9_bin_33 (by decide) ?_
          exact t_X9_bin_34 C K _ _ _ _ ok
        · replace ok := ok_t c7 ok
          refine g_iconst (v := 2) C dX9_bin_29 (by decide) ?_
          refine g_goto (tgt := 34) C dX9_bin_30 (by decide) ?_
          exact t_X9_bin_34 C K _ _ _ _ ok
      · replace ok := ok_f c6 ok
        exact t_X9_bin_18 C K _ _ _ ok
theorem c_X9_bin {l : Launch} {ε : Et} {σ : St} {z : Rs} {x1 : Int32} {x2 : Int32} (e : f_X9_bin x1 x2 σ = some z) : RM l ε yX9_bin cX9_bin 6 (some .int) 1 0 0 [.ref (ad ε 39), .int x1, .int x2] (WX ε σ) (PI ε z) := RM.of (by decide) (Nat.le_of_ble_eq_true rfl) (fun κ C K => tf_X9_bin C K x1 x2 σ e)
def b_X9_bestOf_117 (k8 : Int32 → Int32 → Int32 → Int32 → Int32 → St → Option Rs) (x1 : Int32) (x2 : Int32) (x3 : Int32) (x4 : Int32) (x5 : Int32) (σ : St) : Option Rs := nx (x5 + (1 : Int32)) (fun y1 => k8 x1 x2 x3 x4 y1 σ)
set_option maxRecDepth 10000 in
set_option maxHeartbeats 1000000 in
theorem t_X9_bestOf_117 {ε : Et} {κ : Kt} {z : Rs} (C : Cx ε κ cX9_bestOf 8 RX9 0) (K : Ret ε κ cX9_bestOf (some .int) 0 0 (PI ε z)) (k8 : Int32 → Int32 → Int32 → Int32 → Int32 → St → Option Rs) (g8 : ∀ (x1 : Int32) (x2 : Int32) (x3 : Int32) (x4 : Int32) (x5 : Int32) (σ : St), k8 x1 x2 x3 x4 x5 σ = some z → G ε κ 0 0 8 [(0, .ref (ad ε 39)), (1, .int x1), (2, .int x2), (3, .int x3), (4, .int x4), (5, .int x5)] [] (WX ε σ)) (x1 : Int32) (x2 : Int32) (x3 : Int32) (x4 : Int32) (x5 : Int32) (σ : St) (ok : b_X9_bestOf_117 k8 x1 x2 x3 x4 x5 σ = some z) : G ε κ 0 0 117 [(0, .ref (ad ε 39)), (1, .int x1), (2, .int x2), (3, .int x3), (4, .int x4), (5, .int x5)] [] (WX ε σ) := by
  unfold b_X9_bestOf_117 at ok
  obtain ⟨y1, e2⟩ : ∃ y : Int32, y = (x5 + (1 : Int32)) := ⟨_, rfl⟩
  replace ok := nx_ok ok y1 e2
  refine g_iinc (v := y1) C [(5, .int y1), (0, .ref (ad ε 39)), (1, .int x1), (2, .int x2), (3, .int x3), (4, .int x4)] dX9_bestOf_117 5 rfl (by rw [e2]; rfl) (by decide) rfl ?_
  refine g_goto (tgt := 8) C dX9_bestOf_120 (by decide) ?_
  refine g_pick (lv' := [(0, .ref (ad ε 39)), (1, .int x1), (2, .int x2), (3, .int x3), (4, .int x4), (5, .int y1)]) ?_ [1, 2, 3, 4, 5, 0] rfl
  exact g8 _ _ _ _ _ _ ok
def b_X9_bestOf_115 (k8 : Int32 → Int32 → Int32 → Int32 → Int32 → St → Option Rs) (x1 : Int32) (x2 : Int32) (x3 : Int32) (x5 : Int32) (t0 : Int32) (σ : St) : Option Rs := b_X9_bestOf_117 k8 x1 x2 x3 t0 x5 σ
set_option maxRecDepth 10000 in
set_option maxHeartbeats 1000000 in
theorem t_X9_bestOf_115 {ε : Et} {κ : Kt} {z : Rs} (C : Cx ε κ cX9_bestOf 8 RX9 0) (K : Ret ε κ cX9_bestOf (some .int) 0 0 (PI ε z)) (k8 : Int32 → Int32 → Int32 → Int32 → Int32 → St → Option Rs) (g8 : ∀ (x1 : Int32) (x2 : Int32) (x3 : Int32) (x4 : Int32) (x5 : Int32) (σ : St), k8 x1 x2 x3 x4 x5 σ = some z → G ε κ 0 0 8 [(0, .ref (ad ε 39)), (1, .int x1), (2, .int x2), (3, .int x3), (4, .int x4), (5, .int x5)] [] (WX ε σ)) (x1 : Int32) (x2 : Int32) (x3 : Int32) (x5 : Int32) (t0 : Int32) (σ : St) (ok : b_X9_bestOf_115 k8 x1 x2 x3 x5 t0 σ = some z) : G ε κ 0 0 115 [(0, .ref (ad ε 39)), (1, .int x1), (2, .int x2), (3, .int x3), (5, .int x5)] [.int t0] (WX ε σ) := by
  unfold b_X9_bestOf_115 at ok
  refine g_istore C [(4, .int t0), (0, .ref (ad ε 39)), (1, .int x1), (2, .int x2), (3, .int x3), (5, .int x5)] dX9_bestOf_115 (by decide) rfl ?_
  refine g_pick (lv' := [(0, .ref (ad ε 39)), (1, .int x1), (2, .int x2), (3, .int x3), (4, .int t0), (5, .int x5)]) ?_ [1, 2, 3, 4, 0, 5] rfl
  exact t_X9_bestOf_117 C K k8 g8 _ _ _ _ _ _ ok
def b_X9_bestOf_100 (k8 : Int32 → Int32 → Int32 → Int32 → Int32 → St → Option Rs) (x1 : Int32) (x2 : Int32) (x4 : Int32) (x5 : Int32) (x6 : Int32) (t0 : Int32) (σ : St) : Option Rs := (if x6 ≤ x4 then b_X9_bestOf_115 k8 x1 x2 t0 x5 x4 σ else b_X9_bestOf_115 k8 x1 x2 t0 x5 x6 σ)
set_option maxRecDepth 10000 in
set_option maxHeartbeats 1000000 in
theorem t_X9_bestOf_100 {ε : Et} {κ : Kt} {z : Rs} (C : Cx ε κ cX9_bestOf 8 RX9 0) (K : Ret ε κ cX9_bestOf (some .int) 0 0 (PI ε z)) (k8 : Int32 → Int32 → Int32 → Int32 → Int32 → St → Option Rs) (g8 : ∀ (x1 : Int32) (x2 : Int32) (x3 : Int32) (x4 : Int32) (x5 : Int32) (σ : St), k8 x1 x2 x3 x4 x5 σ = some z → G ε κ 0 0 8 [(0, .ref (ad ε 39)), (1, .int x1), (2, .int x2), (3, .int x3), (4, .int x4), (5, .int x5)] [] (WX ε σ)) (x1 : Int32) (x2 : Int32) (x4 : Int32) (x5 : Int32) (x6 : Int32) (t0 : Int32) (σ : St) (ok : b_X9_bestOf_100 k8 x1 x2 x4 x5 x6 t0 σ = some z) : G ε κ 0 0 100 [(0, .ref (ad ε 39)), (1, .int x1), (2, .int x2), (4, .int x4), (5, .int x5), (6, .int x6)] [.int t0] (WX ε σ) := by
  unfold b_X9_bestOf_100 at ok
  refine g_istore_n C [(3, .int t0), (0, .ref (ad ε 39)), (1, .int x1), (2, .int x2), (4, .int x4), (5, .int x5), (6, .int x6)] dX9_bestOf_100 rfl (by decide) rfl ?_
  refine g_iload C dX9_bestOf_101 6 rfl ?_
  refine g_iload C dX9_bestOf_103 4 rfl ?_
  refine g_icmp_le (tgt := 113) C dX9_bestOf_105 (by decide) (fun c1 => ?_) (fun c1 => ?_)
  · replace ok := ok_t c1 ok
    refine g_iload C dX9_bestOf_113 4 rfl ?_
    refine g_pick (lv' := [(0, .ref (ad ε 39)), (1, .int x1), (2, .int x2), (3, .int t0), (5, .int x5)]) ?_ [1, 2, 3, 0, 5] rfl
    exact t_X9_bestOf_115 C K k8 g8 _ _ _ _ _ _ ok
  · replace ok := ok_f c1 ok
    refine g_iload C dX9_bestOf_108 6 rfl ?_
    refine g_goto (tgt := 115) C dX9_bestOf_110 (by decide) ?_
    refine g_pick (lv' := [(0, .ref (ad ε 39)), (1, .int x1), (2, .int x2), (3, .int t0), (5, .int x5)]) ?_ [1, 2, 3, 0, 5] rfl
    exact t_X9_bestOf_115 C K k8 g8 _ _ _ _ _ _ ok
def b_X9_bestOf_51 (k8 : Int32 → Int32 → Int32 → Int32 → Int32 → St → Option Rs) (k51 : Int32 → Int32 → Int32 → Int32 → Int32 → Int32 → Int32 → St → Option Rs) (x1 : Int32) (x2 : Int32) (x3 : Int32) (x4 : Int32) (x5 : Int32) (x6 : Int32) (x7 : Int32) (σ : St) : Option Rs := gd (inb x5 (ln 50)) ((if (σ.2.1 50 x5.toNatClampNeg) ≤ x7 then (if x6 ≤ x4 then b_X9_bestOf_100 k8 x1 x2 x4 x5 x6 x3 σ else b_X9_bestOf_100 k8 x1 x2 x4 x5 x6 x5 σ) else gd (inb (((120 : Int32) * x5) + x7) (ln 45)) (nx (x6 + (σ.2.1 45 (((120 : Int32) * x5) + x7).toNatClampNeg)) (fun y5 => nx (x7 + (1 : Int32)) (fun y7 => k51 x1 x2 x3 x4 x5 y5 y7 σ)))))
set_option maxRecDepth 10000 in
set_option maxHeartbeats 1000000 in
theorem t_X9_bestOf_51 {ε : Et} {κ : Kt} {z : Rs} (C : Cx ε κ cX9_bestOf 8 RX9 0) (K : Ret ε κ cX9_bestOf (some .int) 0 0 (PI ε z)) (k8 : Int32 → Int32 → Int32 → Int32 → Int32 → St → Option Rs) (k51 : Int32 → Int32 → Int32 → Int32 → Int32 → Int32 → Int32 → St → Option Rs) (g8 : ∀ (x1 : Int32) (x2 : Int32) (x3 : Int32) (x4 : Int32) (x5 : Int32) (σ : St), k8 x1 x2 x3 x4 x5 σ = some z → G ε κ 0 0 8 [(0, .ref (ad ε 39)), (1, .int x1), (2, .int x2), (3, .int x3), (4, .int x4), (5, .int x5)] [] (WX ε σ)) (g51 : ∀ (x1 : Int32) (x2 : Int32) (x3 : Int32) (x4 : Int32) (x5 : Int32) (x6 : Int32) (x7 : Int32) (σ : St), k51 x1 x2 x3 x4 x5 x6 x7 σ = some z → G ε κ 0 0 51 [(0, .ref (ad ε 39)), (1, .int x1), (2, .int x2), (3, .int x3), (4, .int x4), (5, .int x5), (6, .int x6), (7, .int x7)] [] (WX ε σ)) (x1 : Int32) (x2 : Int32) (x3 : Int32) (x4 : Int32) (x5 : Int32) (x6 : Int32) (x7 : Int32) (σ : St) (ok : b_X9_bestOf_51 k8 k51 x1 x2 x3 x4 x5 x6 x7 σ = some z) : G ε κ 0 0 51 [(0, .ref (ad ε 39)), (1, .int x1), (2, .int x2), (3, .int x3), (4, .int x4), (5, .int x5), (6, .int x6), (7, .int x7)] [] (WX ε σ) := by
  unfold b_X9_bestOf_51 at ok
  refine g_iload C dX9_bestOf_51 7 rfl ?_
  refine g_aload_n C dX9_bestOf_53 rfl 0 rfl ?_
  refine q_X9_47 C dX9_bestOf_54 ?_
  refine g_iload C dX9_bestOf_57 5 rfl ?_
  obtain ⟨h1, ok⟩ := gd_ok ok
  refine q_ald C ai_50 h1 dX9_bestOf_59 ?_
  refine g_icmp_ge (tgt := 87) C dX9_bestOf_60 (by decide) (fun c2 => ?_) (fun c2 => ?_)
  · replace ok := ok_t c2 ok
    refine g_iload C dX9_bestOf_87 6 rfl ?_
    refine g_iload C dX9_bestOf_89 4 rfl ?_
    refine g_icmp_le (tgt := 99) C dX9_bestOf_91 (by decide) (fun c3 => ?_) (fun c3 => ?_)
    · replace ok := ok_t c3 ok
      refine g_iload_n C dX9_bestOf_99 rfl 3 rfl ?_
      refine g_pick (lv' := [(0, .ref (ad ε 39)), (1, .int x1), (2, .int x2), (4, .int x4), (5, .int x5), (6, .int x6)]) ?_ [0, 1, 2, 4, 5, 6] rfl
      exact t_X9_bestOf_100 C K k8 g8 _ _ _ _ _ _ _ ok
    · replace ok := ok_f c3 ok
      refine g_iload C dX9_bestOf_94 5 rfl ?_
      refine g_goto (tgt := 100) C dX9_bestOf_96 (by decide) ?_
      refine g_pick (lv' := [(0, .ref (ad ε 39)), (1, .int x1), (2, .int x2), (4, .int x4), (5, .int x5), (6, .int x6)]) ?_ [0, 1, 2, 4, 5, 6] rfl
      exact t_X9_bestOf_100 C K k8 g8 _ _ _ _ _ _ _ ok
  · replace ok := ok_f c2 ok
    refine g_iload C dX9_bestOf_63 6 rfl ?_
    refine g_aload_n C dX9_bestOf_65 rfl 0 rfl ?_
    refine q_X9_29 C dX9_bestOf_66 ?_
    refine g_bipush (v := 120) C dX9_bestOf_69 (by decide) ?_
    refine g_iload C dX9_bestOf_71 5 rfl ?_
    refine g_imul C dX9_bestOf_73 ?_
    refine g_iload C dX9_bestOf_74 7 rfl ?_
    refine g_iadd C dX9_bestOf_76 ?_
    obtain ⟨h4, ok⟩ := gd_ok ok
    refine q_ald C ai_45 h4 dX9_bestOf_77 ?_
    refine g_iadd C dX9_bestOf_78 ?_
    refine q_nm (fun y5 e6 => ?_)
    replace ok := nx_ok ok y5 e6
    refine g_istore C [(6, .int y5), (0, .ref (ad ε 39)), (1, .int x1), (2, .int x2), (3, .int x3), (4, .int x4), (5, .int x5), (7, .int x7)] dX9_bestOf_79 (by decide) rfl ?_
    obtain ⟨y7, e8⟩ : ∃ y : Int32, y = (x7 + (1 : Int32)) := ⟨_, rfl⟩
    replace ok := nx_ok ok y7 e8
    refine g_iinc (v := y7) C [(7, .int y7), (6, .int y5), (0, .ref (ad ε 39)), (1, .int x1), (2, .int x2), (3, .int x3), (4, .int x4), (5, .int x5)] dX9_bestOf_81 7 rfl (by rw [e8]; rfl) (by decide) rfl ?_
    refine g_goto (tgt := 51) C dX9_bestOf_84 (by decide) ?_
    refine g_pick (lv' := [(0, .ref (ad ε 39)), (1, .int x1), (2, .int x2), (3, .int x3), (4, .int x4), (5, .int x5), (6, .int y5), (7, .int y7)]) ?_ [2, 3, 4, 5, 6, 7, 1, 0] rfl
    exact g51 _ _ _ _ _ _ _ _ ok
def l_X9_bestOf_51 (k8 : Int32 → Int32 → Int32 → Int32 → Int32 → St → Option Rs) : Nat → Int32 → Int32 → Int32 → Int32 → Int32 → Int32 → Int32 → St → Option Rs
  | 0 => fun _ _ _ _ _ _ _ _ => none
  | n + 1 => fun x1 x2 x3 x4 x5 x6 x7 σ => b_X9_bestOf_51 k8 (l_X9_bestOf_51 k8 n) x1 x2 x3 x4 x5 x6 x7 σ
theorem tl_X9_bestOf_51 {ε : Et} {κ : Kt} {z : Rs} (C : Cx ε κ cX9_bestOf 8 RX9 0) (K : Ret ε κ cX9_bestOf (some .int) 0 0 (PI ε z)) (k8 : Int32 → Int32 → Int32 → Int32 → Int32 → St → Option Rs) (g8 : ∀ (x1 : Int32) (x2 : Int32) (x3 : Int32) (x4 : Int32) (x5 : Int32) (σ : St), k8 x1 x2 x3 x4 x5 σ = some z → G ε κ 0 0 8 [(0, .ref (ad ε 39)), (1, .int x1), (2, .int x2), (3, .int x3), (4, .int x4), (5, .int x5)] [] (WX ε σ)) : ∀ (n : Nat) (x1 : Int32) (x2 : Int32) (x3 : Int32) (x4 : Int32) (x5 : Int32) (x6 : Int32) (x7 : Int32) (σ : St), l_X9_bestOf_51 k8 n x1 x2 x3 x4 x5 x6 x7 σ = some z → G ε κ 0 0 51 [(0, .ref (ad ε 39)), (1, .int x1), (2, .int x2), (3, .int x3), (4, .int x4), (5, .int x5), (6, .int x6), (7, .int x7)] [] (WX ε σ) := by
  intro n
  induction n with
  | zero =>
    intro x1 x2 x3 x4 x5 x6 x7 σ ok
    cases ok
  | succ n ih =>
    intro x1 x2 x3 x4 x5 x6 x7 σ ok
    exact t_X9_bestOf_51 C K k8 (l_X9_bestOf_51 k8 n) g8 ih x1 x2 x3 x4 x5 x6 x7 σ ok
def b_X9_bestOf_8 (k8 : Int32 → Int32 → Int32 → Int32 → Int32 → St → Option Rs) (x1 : Int32) (x2 : Int32) (x3 : Int32) (x4 : Int32) (x5 : Int32) (σ : St) : Option Rs := (if (σ.1 39 9) ≤ x5 then some (x3, σ) else gd (inb x5 (ln 48)) ((if (σ.2.1 48 x5.toNatClampNeg) = x1 then gd (inb x5 (ln 52)) ((if (σ.2.1 52 x5.toNatClampNeg) = x2 then gd (inb x5 (ln 49)) (nx (σ.2.1 49 x5.toNatClampNeg) (fun y7 => l_X9_bestOf_51 k8 FU x1 x2 x3 x4 x5 (0 : Int32) y7 σ)) else b_X9_bestOf_117 k8 x1 x2 x3 x4 x5 σ)) else b_X9_bestOf_117 k8 x1 x2 x3 x4 x5 σ)))
set_option maxRecDepth 10000 in
set_option maxHeartbeats 1000000 in
theorem t_X9_bestOf_8 {ε : Et} {κ : Kt} {z : Rs} (C : Cx ε κ cX9_bestOf 8 RX9 0) (K : Ret ε κ cX9_bestOf (some .int) 0 0 (PI ε z)) (k8 : Int32 → Int32 → Int32 → Int32 → Int32 → St → Option Rs) (g8 : ∀ (x1 : Int32) (x2 : Int32) (x3 : Int32) (x4 : Int32) (x5 : Int32) (σ : St), k8 x1 x2 x3 x4 x5 σ = some z → G ε κ 0 0 8 [(0, .ref (ad ε 39)), (1, .int x1), (2, .int x2), (3, .int x3), (4, .int x4), (5, .int x5)] [] (WX ε σ)) (x1 : Int32) (x2 : Int32) (x3 : Int32) (x4 : Int32) (x5 : Int32) (σ : St) (ok : b_X9_bestOf_8 k8 x1 x2 x3 x4 x5 σ = some z) : G ε κ 0 0 8 [(0, .ref (ad ε 39)), (1, .int x1), (2, .int x2), (3, .int x3), (4, .int x4), (5, .int x5)] [] (WX ε σ) := by
  unfold b_X9_bestOf_8 at ok
  refine g_iload C dX9_bestOf_8 5 rfl ?_
  refine g_aload_n C dX9_bestOf_10 rfl 0 rfl ?_
  refine q_X9_63 C dX9_bestOf_11 ?_
  refine g_icmp_ge (tgt := 123) C dX9_bestOf_14 (by decide) (fun c1 => ?_) (fun c1 => ?_)
  · replace ok := ok_t c1 ok
    refine g_iload_n C dX9_bestOf_123 rfl 3 rfl ?_
    exact K.2 .int _ _ _ _ rfl dX9_bestOf_124 rfl (pi_ok ok)
  · replace ok := ok_f c1 ok
    refine g_aload_n C dX9_bestOf_17 rfl 0 rfl ?_
    refine q_X9_41 C dX9_bestOf_18 ?_
    refine g_iload C dX9_bestOf_21 5 rfl ?_
    obtain ⟨h2, ok⟩ := gd_ok ok
    refine q_ald C ai_48 h2 dX9_bestOf_23 ?_
    refine g_iload_n C dX9_bestOf_24 rfl 1 rfl ?_
    refine g_icmp_ne (tgt := 117) C dX9_bestOf_25 (by decide) (fun c3 => ?_) (fun c3 => ?_)
    · replace ok := ok_f c3 ok
      exact t_X9_bestOf_117 C K k8 g8 _ _ _ _ _ _ ok
    · replace ok := ok_t c3 ok
      refine g_aload_n C dX9_bestOf_28 rfl 0 rfl ?_
      refine q_X9_54 C dX9_bestOf_29 ?_
      refine g_iload C dX9_bestOf_32 5 rfl ?_
      obtain ⟨h4, ok⟩ := gd_ok ok
      refine q_ald C ai_52 h4 dX9_bestOf_34 ?_
      refine g_iload_n C dX9_bestOf_35 rfl 2 rfl ?_
      refine g_icmp_ne (tgt := 117) C dX9_bestOf_36 (by decide) (fun c5 => ?_) (fun c5 => ?_)
      · replace ok := ok_f c5 ok
        exact t_X9_bestOf_117 C K k8 g8 _ _ _ _ _ _ ok
      · replace ok := ok_t c5 ok
        refine g_iconst (v := 0) C dX9_bestOf_39 (by decide) ?_
        refine g_istore C [(6, .int (0 : Int32)), (0, .ref (ad ε 39)), (1, .int x1), (2, .int x2), (3, .int x3), (4, .int x4), (5, .int x5)] dX9_bestOf_40 (by decide) rfl ?_
        refine g_aload_n C dX9_bestOf_42 rfl 1 rfl ?_
        refine q_X9_44 C dX9_bestOf_43 ?_
        refine g_iload C dX9_bestOf_46 6 rfl ?_
        obtain ⟨h6, ok⟩ := gd_ok ok
        refine q_ald C ai_49 h6 dX9_bestOf_48 ?_
        refine q_nm (fun y7 e8 => ?_)
        replace ok := nx_ok ok y7 e8
        refine g_istore C [(7, .int y7), (6, .int (0 : Int32)), (0, .ref (ad ε 39)), (1, .int x1), (2, .int x2), (3, .int x3), (4, .int x4), (5, .int x5)] dX9_bestOf_49 (by decide) rfl ?_
        refine g_pick (lv' := [(0, .ref (ad ε 39)), (1, .int x1), (2, .int x2), (3, .int x3), (4, .int x4), (5, .int x5), (6, .int (0 : Int32)), (7, .int y7)]) ?_ [2, 3, 4, 5, 6, 7, 1, 0] rfl
        exact tl_X9_bestOf_51 C K k8 g8 FU _ _ _ _ _ _ _ _ ok
def l_X9_bestOf_8 : Nat → Int32 → Int32 → Int32 → Int32 → Int32 → St → Option Rs
  | 0 => fun _ _ _ _ _ _ => none
  | n + 1 => fun x1 x2 x3 x4 x5 σ => b_X9_bestOf_8 (l_X9_bestOf_8 n) x1 x2 x3 x4 x5 σ
theorem tl_X9_bestOf_8 {ε : Et} {κ : Kt} {z : Rs} (C : Cx ε κ cX9_bestOf 8 RX9 0) (K : Ret ε κ cX9_bestOf (some .int) 0 0 (PI ε z)) : ∀ (n : Nat) (x1 : Int32) (x2 : Int32) (x3 : Int32) (x4 : Int32) (x5 : Int32) (σ : St), l_X9_bestOf_8 n x1 x2 x3 x4 x5 σ = some z → G ε κ 0 0 8 [(0, .ref (ad ε 39)), (1, .int x1), (2, .int x2), (3, .int x3), (4, .int x4), (5, .int x5)] [] (WX ε σ) := by
  intro n
  induction n with
  | zero =>
    intro x1 x2 x3 x4 x5 σ ok
    cases ok
  | succ n ih =>
    intro x1 x2 x3 x4 x5 σ ok
    exact t_X9_bestOf_8 C K (l_X9_bestOf_8 n) ih x1 x2 x3 x4 x5 σ ok
def f_X9_bestOf (x1 : Int32) (x2 : Int32) (σ : St) : Option Rs := l_X9_bestOf_8 FU x1 x2 (-1 : Int32) (-1 : Int32) (0 : Int32) σ
set_option maxRecDepth 10000 in
set_option maxHeartbeats 1000000 in
theorem tf_X9_bestOf {ε : Et} {κ : Kt} {z : Rs} (C : Cx ε κ cX9_bestOf 8 RX9 0) (K : Ret ε κ cX9_bestOf (some .int) 0 0 (PI ε z)) (x1 : Int32) (x2 : Int32) (σ : St) (ok : f_X9_bestOf x1 x2 σ = some z) : G ε κ 0 0 0 [(0, .ref (ad ε 39)), (1, .int x1), (2, .int x2)] [] (WX ε σ) := by
  unfold f_X9_bestOf at ok
  refine g_iconst (v := -1) C dX9_bestOf_0 (by decide) ?_
  refine g_istore_n C [(3, .int (-1 : Int32)), (0, .ref (ad ε 39)), (1, .int x1), (2, .int x2)] dX9_bestOf_1 rfl (by decide) rfl ?_
  refine g_iconst (v := -1) C dX9_bestOf_2 (by decide) ?_
  refine g_istore C [(4, .int (-1 : Int32)), (3, .int (-1 : Int32)), (0, .ref (ad ε 39)), (1, .int x1), (2, .int x2)] dX9_bestOf_3 (by decide) rfl ?_
  refine g_iconst (v := 0) C dX9_bestOf_5 (by decide) ?_
  refine g_istore C [(5, .int (0 : Int32)), (4, .int (-1 : Int32)), (3, .int (-1 : Int32)), (0, .ref (ad ε 39)), (1, .int x1), (2, .int x2)] dX9_bestOf_6 (by decide) rfl ?_
  refine g_pick (lv' := [(0, .ref (ad ε 39)), (1, .int x1), (2, .int x2), (3, .int (-1 : Int32)), (4, .int (-1 : Int32)), (5, .int (0 : Int32))]) ?_ [3, 4, 5, 2, 1, 0] rfl
  exact tl_X9_bestOf_8 C K FU _ _ _ _ _ _ ok
theorem c_X9_bestOf {l : Launch} {ε : Et} {σ : St} {z : Rs} {x1 : Int32} {x2 : Int32} (e : f_X9_bestOf x1 x2 σ = some z) : RM l ε yX9_bestOf cX9_bestOf 8 (some .int) 0 0 0 [.ref (ad ε 39), .int x1, .int x2] (WX ε σ) (PI ε z) := RM.of (by decide) (Nat.le_of_ble_eq_true rfl) (fun κ C K => tf_X9_bestOf C K x1 x2 σ e)
def b_X9_group_195 (k81 : Int32 → Int32 → Int32 → Int32 → Int32 → St → Option Rs) (x1 : Int32) (x2 : Int32) (x3 : Int32) (x5 : Int32) (t0 : Int32) (t1 : Int32) (σ : St) : Option Rs := nx (t1 + t0) (fun y1 => nx (x5 + (1 : Int32)) (fun y3 => k81 x1 x2 x3 y1 y3 σ))
set_option maxRecDepth 10000 in
set_option maxHeartbeats 1000000 in
theorem t_X9_group_195 {ε : Et} {κ : Kt} {z : Rs} (C : Cx ε κ cX9_group 8 RX9 2) (K : Ret ε κ cX9_group (some .int) 0 0 (PI ε z)) (k81 : Int32 → Int32 → Int32 → Int32 → Int32 → St → Option Rs) (g81 : ∀ (x1 : Int32) (x2 : Int32) (x3 : Int32) (x4 : Int32) (x5 : Int32) (σ : St), k81 x1 x2 x3 x4 x5 σ = some z → G ε κ 0 0 81 [(0, .ref (ad ε 39)), (1, .int x1), (2, .int x2), (3, .int x3), (4, .int x4), (5, .int x5)] [] (WX ε σ)) (x1 : Int32) (x2 : Int32) (x3 : Int32) (x5 : Int32) (t0 : Int32) (t1 : Int32) (σ : St) (ok : b_X9_group_195 k81 x1 x2 x3 x5 t0 t1 σ = some z) : G ε κ 0 0 195 [(0, .ref (ad ε 39)), (1, .int x1), (2, .int x2), (3, .int x3), (5, .int x5)] [.int t0, .int t1] (WX ε σ) := by
  unfold b_X9_group_195 at ok
  refine g_iadd C dX9_group_195 ?_
  refine q_nm (fun y1 e2 => ?_)
  replace ok := nx_ok ok y1 e2
  refine g_istore C [(4, .int y1), (0, .ref (ad ε 39)), (1, .int x1), (2, .int x2), (3, .int x3), (5, .int x5)] dX9_group_196 (by decide) rfl ?_
  obtain ⟨y3, e4⟩ : ∃ y : Int32, y = (x5 + (1 : Int32)) := ⟨_, rfl⟩
  replace ok := nx_ok ok y3 e4
  refine g_iinc (v := y3) C [(5, .int y3), (4, .int y1), (0, .ref (ad ε 39)), (1, .int x1), (2, .int x2), (3, .int x3)] dX9_group_198 5 rfl (by rw [e4]; rfl) (by decide) rfl ?_
  refine g_goto (tgt := 81) C dX9_group_201 (by decide) ?_
  refine g_pick (lv' := [(0, .ref (ad ε 39)), (1, .int x1), (2, .int x2), (3, .int x3), (4, .int y1), (5, .int y3)]) ?_ [2, 3, 4, 5, 1, 0] rfl
  exact g81 _ _ _ _ _ _ ok
def b_X9_group_183 (k81 : Int32 → Int32 → Int32 → Int32 → Int32 → St → Option Rs) (x1 : Int32) (x2 : Int32) (x3 : Int32) (x4 : Int32) (x5 : Int32) (x6 : Int32) (σ : St) : Option Rs := (if x6 = 0 then b_X9_group_195 k81 x1 x2 x3 x5 (0 : Int32) x4 σ else b_X9_group_195 k81 x1 x2 x3 x5 (1 : Int32) x4 σ)
set_option maxRecDepth 10000 in
set_option maxHeartbeats 1000000 in
theorem t_X9_group_183 {ε : Et} {κ : Kt} {z : Rs} (C : Cx ε κ cX9_group 8 RX9 2) (K : Ret ε κ cX9_group (some .int) 0 0 (PI ε z)) (k81 : Int32 → Int32 → Int32 → Int32 → Int32 → St → Option Rs) (g81 : ∀ (x1 : Int32) (x2 : Int32) (x3 : Int32) (x4 : Int32) (x5 : Int32) (σ : St), k81 x1 x2 x3 x4 x5 σ = some z → G ε κ 0 0 81 [(0, .ref (ad ε 39)), (1, .int x1), (2, .int x2), (3, .int x3), (4, .int x4), (5, .int x5)] [] (WX ε σ)) (x1 : Int32) (x2 : Int32) (x3 : Int32) (x4 : Int32) (x5 : Int32) (x6 : Int32) (σ : St) (ok : b_X9_group_183 k81 x1 x2 x3 x4 x5 x6 σ = some z) : G ε κ 0 0 183 [(0, .ref (ad ε 39)), (1, .int x1), (2, .int x2), (3, .int x3), (4, .int x4), (5, .int x5), (6, .int x6)] [] (WX ε σ) := by
  unfold b_X9_group_183 at ok
  refine g_iload C dX9_group_183 4 rfl ?_
  refine g_iload C dX9_group_185 6 rfl ?_
  refine g_if_eq (tgt := 194) C dX9_group_187 (by decide) (fun c1 => ?_) (fun c1 => ?_)
  · replace ok := ok_t c1 ok
    refine g_iconst (v := 0) C dX9_group_194 (by decide) ?_
    refine g_pick (lv' := [(0, .ref (ad ε 39)), (1, .int x1), (2, .int x2), (3, .int x3), (5, .int x5)]) ?_ [0, 1, 2, 3, 5] rfl
    exact t_X9_group_195 C K k81 g81 _ _ _ _ _ _ _ ok
  · replace ok := ok_f c1 ok
    refine g_iconst (v := 1) C dX9_group_190 (by decide) ?_
    refine g_goto (tgt := 195) C dX9_group_191 (by decide) ?_
    refine g_pick (lv' := [(0, .ref (ad ε 39)), (1, .int x1), (2, .int x2), (3, .int x3), (5, .int x5)]) ?_ [0, 1, 2, 3, 5] rfl
    exact t_X9_group_195 C K k81 g81 _ _ _ _ _ _ _ ok
def b_X9_group_174 (k81 : Int32 → Int32 → Int32 → Int32 → Int32 → St → Option Rs) (k122 : Int32 → Int32 → Int32 → Int32 → Int32 → Int32 → Int32 → St → Option Rs) (x1 : Int32) (x2 : Int32) (x3 : Int32) (x4 : Int32) (x5 : Int32) (x7 : Int32) (t0 : Int32) (t1 : Int32) (σ : St) : Option Rs := nx (t1 &&& t0) (fun y1 => nx (x7 + (1 : Int32)) (fun y3 => k122 x1 x2 x3 x4 x5 y1 y3 σ))
set_option maxRecDepth 10000 in
set_option maxHeartbeats 1000000 in
theorem t_X9_group_174 {ε : Et} {κ : Kt} {z : Rs} (C : Cx ε κ cX9_group 8 RX9 2) (K : Ret ε κ cX9_group (some .int) 0 0 (PI ε z)) (k81 : Int32 → Int32 → Int32 → Int32 → Int32 → St → Option Rs) (k122 : Int32 → Int32 → Int32 → Int32 → Int32 → Int32 → Int32 → St → Option Rs) (g81 : ∀ (x1 : Int32) (x2 : Int32) (x3 : Int32) (x4 : Int32) (x5 : Int32) (σ : St), k81 x1 x2 x3 x4 x5 σ = some z → G ε κ 0 0 81 [(0, .ref (ad ε 39)), (1, .int x1), (2, .int x2), (3, .int x3), (4, .int x4), (5, .int x5)] [] (WX ε σ)) (g122 : ∀ (x1 : Int32) (x2 : Int32) (x3 : Int32) (x4 : Int32) (x5 : Int32) (x6 : Int32) (x7 : Int32) (σ : St), k122 x1 x2 x3 x4 x5 x6 x7 σ = some z → G ε κ 0 0 122 [(0, .ref (ad ε 39)), (1, .int x1), (2, .int x2), (3, .int x3), (4, .int x4), (5, .int x5), (6, .int x6), (7, .int x7)] [] (WX ε σ)) (x1 : Int32) (x2 : Int32) (x3 : Int32) (x4 : Int32) (x5 : Int32) (x7 : Int32) (t0 : Int32) (t1 : Int32) (σ : St) (ok : b_X9_group_174 k81 k122 x1 x2 x3 x4 x5 x7 t0 t1 σ = some z) : G ε κ 0 0 174 [(0, .ref (ad ε 39)), (1, .int x1), (2, .int x2), (3, .int x3), (4, .int x4), (5, .int x5), (7, .int x7)] [.int t0, .int t1] (WX ε σ) := by
  unfold b_X9_group_174 at ok
  refine g_iand C dX9_group_174 ?_
  refine q_nm (fun y1 e2 => ?_)
  replace ok := nx_ok ok y1 e2
  refine g_istore C [(6, .int y1), (0, .ref (ad ε 39)), (1, .int x1), (2, .int x2), (3, .int x3), (4, .int x4), (5, .int x5), (7, .int x7)] dX9_group_175 (by decide) rfl ?_
  obtain ⟨y3, e4⟩ : ∃ y : Int32, y = (x7 + (1 : Int32)) := ⟨_, rfl⟩
  replace ok := nx_ok ok y3 e4
  refine g_iinc (v := y3) C [(7, .int y3), (6, .int y1), (0, .ref (ad ε 39)), (1, .int x1), (2, .int x2), (3, .int x3), (4, .int x4), (5, .int x5)] dX9_group_177 7 rfl (by rw [e4]; rfl) (by decide) rfl ?_
  refine g_goto (tgt := 122) C dX9_group_180 (by decide) ?_
  refine g_pick (lv' := [(0, .ref (ad ε 39)), (1, .int x1), (2, .int x2), (3, .int x3), (4, .int x4), (5, .int x5), (6, .int y1), (7, .int y3)]) ?_ [2, 3, 4, 5, 6, 7, 1, 0] rfl
  exact g122 _ _ _ _ _ _ _ _ ok
def b_X9_group_169 (k81 : Int32 → Int32 → Int32 → Int32 → Int32 → St → Option Rs) (k122 : Int32 → Int32 → Int32 → Int32 → Int32 → Int32 → Int32 → St → Option Rs) (x1 : Int32) (x2 : Int32) (x3 : Int32) (x4 : Int32) (x5 : Int32) (x7 : Int32) (t0 : Int32) (σ : St) : Option Rs := b_X9_group_174 k81 k122 x1 x2 x3 x4 x5 x7 (1 : Int32) t0 σ
set_option maxRecDepth 10000 in
set_option maxHeartbeats 1000000 in
theorem t_X9_group_169 {ε : Et} {κ : Kt} {z : Rs} (C : Cx ε κ cX9_group 8 RX9 2) (K : Ret ε κ cX9_group (some .int) 0 0 (PI ε z)) (k81 : Int32 → Int32 → Int32 → Int32 → Int32 → St → Option Rs) (k122 : Int32 → Int32 → Int32 → Int32 → Int32 → Int32 → Int32 → St → Option Rs) (g81 : ∀ (x1 : Int32) (x2 : Int32) (x3 : Int32) (x4 : Int32) (x5 : Int32) (σ : St), k81 x1 x2 x3 x4 x5 σ = some z → G ε κ 0 0 81 [(0, .ref (ad ε 39)), (1, .int x1), (2, .int x2), (3, .int x3), (4, .int x4), (5, .int x5)] [] (WX ε σ)) (g122 : ∀ (x1 : Int32) (x2 : Int32) (x3 : Int32) (x4 : Int32) (x5 : Int32) (x6 : Int32) (x7 : Int32) (σ : St), k122 x1 x2 x3 x4 x5 x6 x7 σ = some z → G ε κ 0 0 122 [(0, .ref (ad ε 39)), (1, .int x1), (2, .int x2), (3, .int x3), (4, .int x4), (5, .int x5), (6, .int x6), (7, .int x7)] [] (WX ε σ)) (x1 : Int32) (x2 : Int32) (x3 : Int32) (x4 : Int32) (x5 : Int32) (x7 : Int32) (t0 : Int32) (σ : St) (ok : b_X9_group_169 k81 k122 x1 x2 x3 x4 x5 x7 t0 σ = some z) : G ε κ 0 0 169 [(0, .ref (ad ε 39)), (1, .int x1), (2, .int x2), (3, .int x3), (4, .int x4), (5, .int x5), (7, .int x7)] [.int t0] (WX ε σ) := by
  unfold b_X9_group_169 at ok
  refine g_iconst (v := 1) C dX9_group_169 (by decide) ?_
  refine g_goto (tgt := 174) C dX9_group_170 (by decide) ?_
  exact t_X9_group_174 C K k81 k122 g81 g122 _ _ _ _ _ _ _ _ _ ok
def b_X9_group_122 (k81 : Int32 → Int32 → Int32 → Int32 → Int32 → St → Option Rs) (k122 : Int32 → Int32 → Int32 → Int32 → Int32 → Int32 → Int32 → St → Option Rs) (x1 : Int32) (x2 : Int32) (x3 : Int32) (x4 : Int32) (x5 : Int32) (x6 : Int32) (x7 : Int32) (σ : St) : Option Rs := (if x5 ≤ x7 then b_X9_group_183 k81 x1 x2 x3 x4 x5 x6 σ else (if x3 = (2 : Int32) then gd (inb x7 (ln 48)) ((if (σ.2.1 48 x7.toNatClampNeg) = x1 then gd (inb x7 (ln 52)) ((if (σ.2.1 52 x7.toNatClampNeg) = x2 then bd (f_X9_distance x5 x7 σ) (fun r7 s8 => (if r7 = 0 then b_X9_group_174 k81 k122 x1 x2 x3 x4 x5 x7 (0 : Int32) x6 s8 else b_X9_group_169 k81 k122 x1 x2 x3 x4 x5 x7 x6 s8)) else b_X9_group_169 k81 k122 x1 x2 x3 x4 x5 x7 x6 σ)) else b_X9_group_169 k81 k122 x1 x2 x3 x4 x5 x7 x6 σ)) else b_X9_group_183 k81 x1 x2 x3 x4 x5 x6 σ))
set_option maxRecDepth 10000 in
set_option maxHeartbeats 1000000 in
theorem t_X9_group_122 {ε : Et} {κ : Kt} {z : Rs} (C : Cx ε κ cX9_group 8 RX9 2) (K : Ret ε κ cX9_group (some .int) 0 0 (PI ε z)) (k81 : Int32 → Int32 → Int32 → Int32 → Int32 → St → Option Rs) (k122 : Int32 → Int32 → Int32 → Int32 → Int32 → Int32 → Int32 → St → Option Rs) (g81 : ∀ (x1 : Int32) (x2 : Int32) (x3 : Int32) (x4 : Int32) (x5 : Int32) (σ : St), k81 x1 x2 x3 x4 x5 σ = some z → G ε κ 0 0 81 [(0, .ref (ad ε 39)), (1, .int x1), (2, .int x2), (3, .int x3), (4, .int x4), (5, .int x5)] [] (WX ε σ)) (g122 : ∀ (x1 : Int32) (x2 : Int32) (x3 : Int32) (x4 : Int32) (x5 : Int32) (x6 : Int32) (x7 : Int32) (σ : St), k122 x1 x2 x3 x4 x5 x6 x7 σ = some z → G ε κ 0 0 122 [(0, .ref (ad ε 39)), (1, .int x1), (2, .int x2), (3, .int x3), (4, .int x4), (5, .int x5), (6, .int x6), (7, .int x7)] [] (WX ε σ)) (x1 : Int32) (x2 : Int32) (x3 : Int32) (x4 : Int32) (x5 : Int32) (x6 : Int32) (x7 : Int32) (σ : St) (ok : b_X9_group_122 k81 k122 x1 x2 x3 x4 x5 x6 x7 σ = some z) : G ε κ 0 0 122 [(0, .ref (ad ε 39)), (1, .int x1), (2, .int x2), (3, .int x3), (4, .int x4), (5, .int x5), (6, .int x6), (7, .int x7)] [] (WX ε σ) := by
  unfold b_X9_group_122 at ok
  refine g_iload C dX9_group_122 7 rfl ?_
  refine g_iload C dX9_group_124 5 rfl ?_
  refine g_icmp_ge (tgt := 183) C dX9_group_126 (by decide) (fun c1 => ?_) (fun c1 => ?_)
  · replace ok := ok_t c1 ok
    refine g_pick (lv' := [(0, .ref (ad ε 39)), (1, .int x1), (2, .int x2), (3, .int x3), (4, .int x4), (5, .int x5), (6, .int x6)]) ?_ [0, 1, 2, 3, 4, 5, 6] rfl
    exact t_X9_group_183 C K k81 g81 _ _ _ _ _ _ _ ok
  · replace ok := ok_f c1 ok
    refine g_iload_n C dX9_group_129 rfl 3 rfl ?_
    refine g_iconst (v := 2) C dX9_group_130 (by decide) ?_
    refine g_icmp_ne (tgt := 183) C dX9_group_131 (by decide) (fun c2 => ?_) (fun c2 => ?_)
    · replace ok := ok_f c2 ok
      refine g_pick (lv' := [(0, .ref (ad ε 39)), (1, .int x1), (2, .int x2), (3, .int x3), (4, .int x4), (5, .int x5), (6, .int x6)]) ?_ [0, 1, 2, 3, 4, 5, 6] rfl
      exact t_X9_group_183 C K k81 g81 _ _ _ _ _ _ _ ok
    · replace ok := ok_t c2 ok
      refine g_iload C dX9_group_134 6 rfl ?_
      refine g_aload_n C dX9_group_136 rfl 0 rfl ?_
      refine q_X9_41 C dX9_group_137 ?_
      refine g_iload C dX9_group_140 7 rfl ?_
      obtain ⟨h3, ok⟩ := gd_ok ok
      refine q_ald C ai_48 h3 dX9_group_142 ?_
      refine g_iload_n C dX9_group_143 rfl 1 rfl ?_
      refine g_icmp_ne (tgt := 169) C dX9_group_144 (by decide) (fun c4 => ?_) (fun c4 => ?_)
      · replace ok := ok_f c4 ok
        refine g_pick (lv' := [(0, .ref (ad ε 39)), (1, .int x1), (2, .int x2), (3, .int x3), (4, .int x4), (5, .int x5), (7, .int x7)]) ?_ [0, 1, 2, 3, 4, 5, 7] rfl
        exact t_X9_group_169 C K k81 k122 g81 g122 _ _ _ _ _ _ _ _ ok
      · replace ok := ok_t c4 ok
        refine g_aload_n C dX9_group_147 rfl 0 rfl ?_
        refine q_X9_54 C dX9_group_148 ?_
        refine g_iload C dX9_group_151 7 rfl ?_
        obtain ⟨h5, ok⟩ := gd_ok ok
        refine q_ald C ai_52 h5 dX9_group_153 ?_
        refine g_iload_n C dX9_group_154 rfl 2 rfl ?_
        refine g_icmp_ne (tgt := 169) C dX9_group_155 (by decide) (fun c6 => ?_) (fun c6 => ?_)
        · replace ok := ok_f c6 ok
          refine g_pick (lv' := [(0, .ref (ad ε 39)), (1, .int x1), (2, .int x2), (3, .int x3), (4, .int x4), (5, .int x5), (7, .int x7)]) ?_ [0, 1, 2, 3, 4, 5, 7] rfl
          exact t_X9_group_169 C K k81 k122 g81 g122 _ _ _ _ _ _ _ _ ok
        · replace ok := ok_t c6 ok
          refine g_aload_n C dX9_group_158 rfl 0 rfl ?_
          refine g_iload C dX9_group_159 5 rfl ?_
          refine g_iload C dX9_group_161 7 rfl ?_
          obtain ⟨r7, s8, e9, ok⟩ := bd_ok ok
          refine q_cI C [.int x5, .int x7] (c_X9_distance e9) wv_X9_156 (by decide) (lt_N (by decide)) wx_X9 rfl rfl rfl (Nat.le_of_ble_eq_true rfl) dX9_group_163 ?_
          refine g_if_eq (tgt := 173) C dX9_group_166 (by decide) (fun c10 => ?_) (fun c10 => ?_)
          · replace ok := ok_t c10 ok
            refine g_iconst (v := 0) C dX9_group_173 (by decide) ?_
            refine g_pick (lv' := [(0, .ref (ad ε 39)), (1, .int x1), (2, .int x2), (3, .int x3), (4, .int x4), (5, .int x5), (7, .int x7)]) ?_ [0, 1, 2, 3, 4, 5, 7] rfl
            exact t_X9_group_174 C K k81 k122 g81 g122 _ _ _ _ _ _ _ _ _ ok
          · replace ok := ok_f c10 ok
            refine g_pick (lv' := [(0, .ref (ad ε 39)), (1, .int x1), (2, .int x2), (3, .int x3), (4, .int x4), (5, .int x5), (7, .int x7)]) ?_ [0, 1, 2, 3, 4, 5, 7] rfl
            exact t_X9_group_169 C K k81 k122 g81 g122 _ _ _ _ _ _ _ _ ok
def l_X9_group_122 (k81 : Int32 → Int32 → Int32 → Int32 → Int32 → St → Option Rs) : Nat → Int32 → Int32 → Int32 → Int32 → Int32 → Int32 → Int32 → St → Option Rs
  | 0 => fun _ _ _ _ _ _ _ _ => none
  | n + 1 => fun x1 x2 x3 x4 x5 x6 x7 σ => b_X9_group_122 k81 (l_X9_group_122 k81 n) x1 x2 x3 x4 x5 x6 x7 σ
theorem tl_X9_group_122 {ε : Et} {κ : Kt} {z : Rs} (C : Cx ε κ cX9_group 8 RX9 2) (K : Ret ε κ cX9_group (some .int) 0 0 (PI ε z)) (k81 : Int32 → Int32 → Int32 → Int32 → Int32 → St → Option Rs) (g81 : ∀ (x1 : Int32) (x2 : Int32) (x3 : Int32) (x4 : Int32) (x5 : Int32) (σ : St), k81 x1 x2 x3 x4 x5 σ = some z → G ε κ 0 0 81 [(0, .ref (ad ε 39)), (1, .int x1), (2, .int x2), (3, .int x3), (4, .int x4), (5, .int x5)] [] (WX ε σ)) : ∀ (n : Nat) (x1 : Int32) (x2 : Int32) (x3 : Int32) (x4 : Int32) (x5 : Int32) (x6 : Int32) (x7 : Int32) (σ : St), l_X9_group_122 k81 n x1 x2 x3 x4 x5 x6 x7 σ = some z → G ε κ 0 0 122 [(0, .ref (ad ε 39)), (1, .int x1), (2, .int x2), (3, .int x3), (4, .int x4), (5, .int x5), (6, .int x6), (7, .int x7)] [] (WX ε σ) := by
  intro n
  induction n with
  | zero =>
    intro x1 x2 x3 x4 x5 x6 x7 σ ok
    cases ok
  | succ n ih =>
    intro x1 x2 x3 x4 x5 x6 x7 σ ok
    exact t_X9_group_122 C K k81 (l_X9_group_122 k81 n) g81 ih x1 x2 x3 x4 x5 x6 x7 σ ok
def b_X9_group_117 (k81 : Int32 → Int32 → Int32 → Int32 → Int32 → St → Option Rs) (x1 : Int32) (x2 : Int32) (x3 : Int32) (x4 : Int32) (x5 : Int32) (t0 : Int32) (σ : St) : Option Rs := l_X9_group_122 k81 FU x1 x2 x3 x4 x5 t0 (0 : Int32) σ
set_option maxRecDepth 10000 in
set_option maxHeartbeats 1000000 in
theorem t_X9_group_117 {ε : Et} {κ : Kt} {z : Rs} (C : Cx ε κ cX9_group 8 RX9 2) (K : Ret ε κ cX9_group (some .int) 0 0 (PI ε z)) (k81 : Int32 → Int32 → Int32 → Int32 → Int32 → St → Option Rs) (g81 : ∀ (x1 : Int32) (x2 : Int32) (x3 : Int32) (x4 : Int32) (x5 : Int32) (σ : St), k81 x1 x2 x3 x4 x5 σ = some z → G ε κ 0 0 81 [(0, .ref (ad ε 39)), (1, .int x1), (2, .int x2), (3, .int x3), (4, .int x4), (5, .int x5)] [] (WX ε σ)) (x1 : Int32) (x2 : Int32) (x3 : Int32) (x4 : Int32) (x5 : Int32) (t0 : Int32) (σ : St) (ok : b_X9_group_117 k81 x1 x2 x3 x4 x5 t0 σ = some z) : G ε κ 0 0 117 [(0, .ref (ad ε 39)), (1, .int x1), (2, .int x2), (3, .int x3), (4, .int x4), (5, .int x5)] [.int t0] (WX ε σ) := by
  unfold b_X9_group_117 at ok
  refine g_istore C [(6, .int t0), (0, .ref (ad ε 39)), (1, .int x1), (2, .int x2), (3, .int x3), (4, .int x4), (5, .int x5)] dX9_group_117 (by decide) rfl ?_
  refine g_iconst (v := 0) C dX9_group_119 (by decide) ?_
  refine g_istore C [(7, .int (0 : Int32)), (6, .int t0), (0, .ref (ad ε 39)), (1, .int x1), (2, .int x2), (3, .int x3), (4, .int x4), (5, .int x5)] dX9_group_120 (by decide) rfl ?_
  refine g_pick (lv' := [(0, .ref (ad ε 39)), (1, .int x1), (2, .int x2), (3, .int x3), (4, .int x4), (5, .int x5), (6, .int t0), (7, .int (0 : Int32))]) ?_ [2, 3, 4, 5, 6, 7, 1, 0] rfl
  exact tl_X9_group_122 C K k81 g81 FU _ _ _ _ _ _ _ _ ok
def b_X9_group_116 (k81 : Int32 → Int32 → Int32 → Int32 → Int32 → St → Option Rs) (x1 : Int32) (x2 : Int32) (x3 : Int32) (x4 : Int32) (x5 : Int32) (σ : St) : Option Rs := b_X9_group_117 k81 x1 x2 x3 x4 x5 (0 : Int32) σ
set_option maxRecDepth 10000 in
set_option maxHeartbeats 1000000 in
theorem t_X9_group_116 {ε : Et} {κ : Kt} {z : Rs} (C : Cx ε κ cX9_group 8 RX9 2) (K : Ret ε κ cX9_group (some .int) 0 0 (PI ε z)) (k81 : Int32 → Int32 → Int32 → Int32 → Int32 → St → Option Rs) (g81 : ∀ (x1 : Int32) (x2 : Int32) (x3 : Int32) (x4 : Int32) (x5 : Int32) (σ : St), k81 x1 x2 x3 x4 x5 σ = some z → G ε κ 0 0 81 [(0, .ref (ad ε 39)), (1, .int x1), (2, .int x2), (3, .int x3), (4, .int x4), (5, .int x5)] [] (WX ε σ)) (x1 : Int32) (x2 : Int32) (x3 : Int32) (x4 : Int32) (x5 : Int32) (σ : St) (ok : b_X9_group_116 k81 x1 x2 x3 x4 x5 σ = some z) : G ε κ 0 0 116 [(0, .ref (ad ε 39)), (1, .int x1), (2, .int x2), (3, .int x3), (4, .int x4), (5, .int x5)] [] (WX ε σ) := by
  unfold b_X9_group_116 at ok
  refine g_iconst (v := 0) C dX9_group_116 (by decide) ?_
  exact t_X9_group_117 C K k81 g81 _ _ _ _ _ _ _ ok
def b_X9_group_81 (k81 : Int32 → Int32 → Int32 → Int32 → Int32 → St → Option Rs) (x1 : Int32) (x2 : Int32) (x3 : Int32) (x4 : Int32) (x5 : Int32) (σ : St) : Option Rs := (if (σ.1 39 9) ≤ x5 then some (x4, σ) else gd (inb x5 (ln 48)) ((if (σ.2.1 48 x5.toNatClampNeg) = x1 then gd (inb x5 (ln 52)) ((if (σ.2.1 52 x5.toNatClampNeg) = x2 then b_X9_group_117 k81 x1 x2 x3 x4 x5 (1 : Int32) σ else b_X9_group_116 k81 x1 x2 x3 x4 x5 σ)) else b_X9_group_116 k81 x1 x2 x3 x4 x5 σ)))
set_option maxRecDepth 10000 in
set_option maxHeartbeats 1000000 in
theorem t_X9_group_81 {ε : Et} {κ : Kt} {z : Rs} (C : Cx ε κ cX9_group 8 RX9 2) (K : Ret ε κ cX9_group (some .int) 0 0 (PI ε z)) (k81 : Int32 → Int32 → Int32 → Int32 → Int32 → St → Option Rs) (g81 : ∀ (x1 : Int32) (x2 : Int32) (x3 : Int32) (x4 : Int32) (x5 : Int32) (σ : St), k81 x1 x2 x3 x4 x5 σ = some z → G ε κ 0 0 81 [(0, .ref (ad ε 39)), (1, .int x1), (2, .int x2), (3, .int x3), (4, .int x4), (5, .int x5)] [] (WX ε σ)) (x1 : Int32) (x2 : Int32) (x3 : Int32) (x4 : Int32) (x5 : Int32) (σ : St) (ok : b_X9_group_81 k81 x1 x2 x3 x4 x5 σ = some z) : G ε κ 0 0 81 [(0, .ref (ad ε 39)), (1, .int x1), (2, .int x2), (3, .int x3), (4, .int x4), (5, .int x5)] [] (WX ε σ) := by
  unfold b_X9_group_81 at ok
  refine g_iload C dX9_group_81 5 rfl ?_
  refine g_aload_n C dX9_group_83 rfl 0 rfl ?_
  refine q_X9_63 C dX9_group_84 ?_
  refine g_icmp_ge (tgt := 204) C dX9_group_87 (by decide) (fun c1 => ?_) (fun c1 => ?_)
  · replace ok := ok_t c1 ok
    refine g_iload C dX9_group_204 4 rfl ?_
    exact K.2 .int _ _ _ _ rfl dX9_group_206 rfl (pi_ok ok)
  · replace ok := ok_f c1 ok
    refine g_aload_n C dX9_group_90 rfl 0 rfl ?_
    refine q_X9_41 C dX9_group_91 ?_
    refine g_iload C dX9_group_94 5 rfl ?_
    obtain ⟨h2, ok⟩ := gd_ok ok
    refine q_ald C ai_48 h2 dX9_group_96 ?_
    refine g_iload_n C dX9_group_97 rfl 1 rfl ?_
    refine g_icmp_ne (tgt := 116) C dX9_group_98 (by decide) (fun c3 => ?_) (fun c3 => ?_)
    · replace ok := ok_f c3 ok
      exact t_X9_group_116 C K k81 g81 _ _ _ _ _ _ ok
    · replace ok := ok_t c3 ok
      refine g_aload_n C dX9_group_101 rfl 0 rfl ?_
      refine q_X9_54 C dX9_group_102 ?_
      refine g_iload C dX9_group_105 5 rfl ?_
      obtain ⟨h4, ok⟩ := gd_ok ok
      refine q_ald C ai_52 h4 dX9_group_107 ?_
      refine g_iload_n C dX9_group_108 rfl 2 rfl ?_
      refine g_icmp_ne (tgt := 116) C dX9_group_109 (by decide) (fun c5 => ?_) (fun c5 => ?_)
      · replace ok := ok_f c5 ok
        exact t_X9_group_116 C K k81 g81 _ _ _ _ _ _ ok
      · replace ok := ok_t c5 ok
        refine g_iconst (v := 1) C dX9_group_112 (by decide) ?_
        refine g_goto (tgt := 117) C dX9_group_113 (by decide) ?_
        exact t_X9_group_117 C K k81 g81 _ _ _ _ _ _ _ ok
def l_X9_group_81 : Nat → Int32 → Int32 → Int32 → Int32 → Int32 → St → Option Rs
  | 0 => fun _ _ _ _ _ _ => none
  | n + 1 => fun x1 x2 x3 x4 x5 σ => b_X9_group_81 (l_X9_group_81 n) x1 x2 x3 x4 x5 σ
theorem tl_X9_group_81 {ε : Et} {κ : Kt} {z : Rs} (C : Cx ε κ cX9_group 8 RX9 2) (K : Ret ε κ cX9_group (some .int) 0 0 (PI ε z)) : ∀ (n : Nat) (x1 : Int32) (x2 : Int32) (x3 : Int32) (x4 : Int32) (x5 : Int32) (σ : St), l_X9_group_81 n x1 x2 x3 x4 x5 σ = some z → G ε κ 0 0 81 [(0, .ref (ad ε 39)), (1, .int x1), (2, .int x2), (3, .int x3), (4, .int x4), (5, .int x5)] [] (WX ε σ) := by
  intro n
  induction n with
  | zero =>
    intro x1 x2 x3 x4 x5 σ ok
    cases ok
  | succ n ih =>
    intro x1 x2 x3 x4 x5 σ ok
    exact t_X9_group_81 C K (l_X9_group_81 n) ih x1 x2 x3 x4 x5 σ ok
def b_X9_group_51 (x1 : Int32) (x2 : Int32) (x3 : Int32) (t0 : Int32) (σ : St) : Option Rs := nx (sS σ 39 3 t0) (fun s1 => (if (s1.1 39 3) ≤ 0 then (if x3 = (1 : Int32) then bd (f_X9_bestOf x1 x2 s1) (fun r5 s6 => some (r5, s6)) else l_X9_group_81 FU x1 x2 x3 (0 : Int32) (0 : Int32) s1) else some ((0 : Int32), s1)))
set_option maxRecDepth 10000 in
set_option maxHeartbeats 1000000 in
theorem t_X9_group_51 {ε : Et} {κ : Kt} {z : Rs} (C : Cx ε κ cX9_group 8 RX9 2) (K : Ret ε κ cX9_group (some .int) 0 0 (PI ε z)) (x1 : Int32) (x2 : Int32) (x3 : Int32) (t0 : Int32) (σ : St) (ok : b_X9_group_51 x1 x2 x3 t0 σ = some z) : G ε κ 0 0 51 [(0, .ref (ad ε 39)), (1, .int x1), (2, .int x2), (3, .int x3)] [.int t0, .ref (ad ε 39)] (WX ε σ) := by
  unfold b_X9_group_51 at ok
  refine p_X9_66 C dX9_group_51 (fun s1 e2 => ?_)
  replace ok := nx_ok ok s1 e2
  refine g_aload_n C dX9_group_54 rfl 0 rfl ?_
  refine q_X9_66 C dX9_group_55 ?_
  refine g_if_le (tgt := 63) C dX9_group_58 (by decide) (fun c3 => ?_) (fun c3 => ?_)
  · replace ok := ok_t c3 ok
    refine g_iload_n C dX9_group_63 rfl 3 rfl ?_
    refine g_iconst (v := 1) C dX9_group_64 (by decide) ?_
    refine g_icmp_ne (tgt := 75) C dX9_group_65 (by decide) (fun c4 => ?_) (fun c4 => ?_)
    · replace ok := ok_f c4 ok
      refine g_iconst (v := 0) C dX9_group_75 (by decide) ?_
      refine g_istore C [(4, .int (0 : Int32)), (0, .ref (ad ε 39)), (1, .int x1), (2, .int x2), (3, .int x3)] dX9_group_76 (by decide) rfl ?_
      refine g_iconst (v := 0) C dX9_group_78 (by decide) ?_
      refine g_istore C [(5, .int (0 : Int32)), (4, .int (0 : Int32)), (0, .ref (ad ε 39)), (1, .int x1), (2, .int x2), (3, .int x3)] dX9_group_79 (by decide) rfl ?_
      refine g_pick (lv' := [(0, .ref (ad ε 39)), (1, .int x1), (2, .int x2), (3, .int x3), (4, .int (0 : Int32)), (5, .int (0 : Int32))]) ?_ [2, 3, 4, 5, 1, 0] rfl
      exact tl_X9_group_81 C K FU _ _ _ _ _ _ ok
    · replace ok := ok_t c4 ok
      refine g_aload_n C dX9_group_68 rfl 0 rfl ?_
      refine g_iload_n C dX9_group_69 rfl 1 rfl ?_
      refine g_iload_n C dX9_group_70 rfl 2 rfl ?_
      obtain ⟨r5, s6, e7, ok⟩ := bd_ok ok
      refine q_cI C [.int x1, .int x2] (c_X9_bestOf e7) wv_X9_199 (by decide) (lt_N (by decide)) wx_X9 rfl rfl rfl (Nat.le_of_ble_eq_true rfl) dX9_group_71 ?_
      exact K.2 .int _ _ _ _ rfl dX9_group_74 rfl (pi_ok ok)
  · replace ok := ok_f c3 ok
    refine g_iconst (v := 0) C dX9_group_61 (by decide) ?_
    exact K.2 .int _ _ _ _ rfl dX9_group_62 rfl (pi_ok ok)
def b_X9_group_18 (x1 : Int32) (x2 : Int32) (x3 : Int32) (σ : St) : Option Rs := b_X9_group_51 x1 x2 x3 (1 : Int32) σ
set_option maxRecDepth 10000 in
set_option maxHeartbeats 1000000 in
theorem t_X9_group_18 {ε : Et} {κ : Kt} {z : Rs} (C : Cx ε κ cX9_group 8 RX9 2) (K : Ret ε κ cX9_group (some .int) 0 0 (PI ε z)) (x1 : Int32) (x2 : Int32) (x3 : Int32) (σ : St) (ok : b_X9_group_18 x1 x2 x3 σ = some z) : G ε κ 0 0 18 [(0, .ref (ad ε 39)), (1, .int x1), (2, .int x2), (3, .int x3)] [.ref (ad ε 39)] (WX ε σ) := by
  unfold b_X9_group_18 at ok
  refine g_iconst (v := 1) C dX9_group_18 (by decide) ?_
  refine g_goto (tgt := 51) C dX9_group_19 (by decide) ?_
  exact t_X9_group_51 C K _ _ _ _ _ ok
def b_X9_group_46 (x1 : Int32) (x2 : Int32) (x3 : Int32) (σ : St) : Option Rs := b_X9_group_51 x1 x2 x3 (1 : Int32) σ
set_option maxRecDepth 10000 in
set_option maxHeartbeats 1000000 in
theorem t_X9_group_46 {ε : Et} {κ : Kt} {z : Rs} (C : Cx ε κ cX9_group 8 RX9 2) (K : Ret ε κ cX9_group (some .int) 0 0 (PI ε z)) (x1 : Int32) (x2 : Int32) (x3 : Int32) (σ : St) (ok : b_X9_group_46 x1 x2 x3 σ = some z) : G ε κ 0 0 46 [(0, .ref (ad ε 39)), (1, .int x1), (2, .int x2), (3, .int x3)] [.ref (ad ε 39)] (WX ε σ) := by
  unfold b_X9_group_46 at ok
  refine g_iconst (v := 1) C dX9_group_46 (by decide) ?_
  refine g_goto (tgt := 51) C dX9_group_47 (by decide) ?_
  exact t_X9_group_51 C K _ _ _ _ _ ok
def f_X9_group (x1 : Int32) (x2 : Int32) (x3 : Int32) (σ : St) : Option Rs := bd (f_X9_noBin x1 σ) (fun r1 s2 => (if r1 = 0 then (if x3 < 0 then b_X9_group_18 x1 x2 x3 s2 else (if x3 ≤ (2 : Int32) then (if (s2.1 39 19) = 0 then b_X9_group_51 x1 x2 x3 (2 : Int32) s2 else (if x2 < 0 then b_X9_group_46 x1 x2 x3 s2 else bd (f_X9_groupsOf x1 s2) (fun r9 s10 => (if x2 < r9 then b_X9_group_51 x1 x2 x3 (0 : Int32) s10 else b_X9_group_46 x1 x2 x3 s10)))) else b_X9_group_18 x1 x2 x3 s2)) else b_X9_group_18 x1 x2 x3 s2))
set_option maxRecDepth 10000 in
set_option maxHeartbeats 1000000 in
theorem tf_X9_group {ε : Et} {κ : Kt} {z : Rs} (C : Cx ε κ cX9_group 8 RX9 2) (K : Ret ε κ cX9_group (some .int) 0 0 (PI ε z)) (x1 : Int32) (x2 : Int32) (x3 : Int32) (σ : St) (ok : f_X9_group x1 x2 x3 σ = some z) : G ε κ 0 0 0 [(0, .ref (ad ε 39)), (1, .int x1), (2, .int x2), (3, .int x3)] [] (WX ε σ) := by
  unfold f_X9_group at ok
  refine g_aload_n C dX9_group_0 rfl 0 rfl ?_
  refine g_aload_n C dX9_group_1 rfl 0 rfl ?_
  refine g_iload_n C dX9_group_2 rfl 1 rfl ?_
  obtain ⟨r1, s2, e3, ok⟩ := bd_ok ok
  refine q_cI C [.int x1] (c_X9_noBin e3) wv_X9_193 (by decide) (lt_N (by decide)) wx_X9 rfl rfl rfl (Nat.le_of_ble_eq_true rfl) dX9_group_3 ?_
  refine g_if_ne (tgt := 18) C dX9_group_6 (by decide) (fun c4 => ?_) (fun c4 => ?_)
  · replace ok := ok_f c4 ok
    exact t_X9_group_18 C K _ _ _ _ ok
  · replace ok := ok_t c4 ok
    refine g_iload_n C dX9_group_9 rfl 3 rfl ?_
    refine g_if_lt (tgt := 18) C dX9_group_10 (by decide) (fun c5 => ?_) (fun c5 => ?_)
    · replace ok := ok_t c5 ok
      exact t_X9_group_18 C K _ _ _ _ ok
    · replace ok := ok_f c5 ok
      refine g_iload_n C dX9_group_13 rfl 3 rfl ?_
      refine g_iconst (v := 2) C dX9_group_14 (by decide) ?_
      refine g_icmp_le (tgt := 22) C dX9_group_15 (by decide) (fun c6 => ?_) (fun c6 => ?_)
      · replace ok := ok_t c6 ok
        refine g_aload_n C dX9_group_22 rfl 0 rfl ?_
        refine q_X9_114 C dX9_group_23 ?_
        refine g_if_ne (tgt := 33) C dX9_group_26 (by decide) (fun c7 => ?_) (fun c7 => ?_)
        · replace ok := ok_f c7 ok
          refine g_iload_n C dX9_group_33 rfl 2 rfl ?_
          refine g_if_lt (tgt := 46) C dX9_group_34 (by decide) (fun c8 => ?_) (fun c8 => ?_)
          · replace ok := ok_t c8 ok
            exact t_X9_group_46 C K _ _ _ _ ok
          · replace ok := ok_f c8 ok
            refine g_iload_n C dX9_group_37 rfl 2 rfl ?_
            refine g_aload_n C dX9_group_38 rfl 0 rfl ?_
            refine g_iload_n C dX9_group_39 rfl 1 rfl ?_
            obtain ⟨r9, s10, e11, ok⟩ := bd_ok ok
            refine q_cI C [.int x1] (c_X9_groupsOf e11) wv_X9_196 (by decide) (lt_N (by decide)) wx_X9 rfl rfl rfl (Nat.le_of_ble_eq_true rfl) dX9_group_40 ?_
            refine g_icmp_lt (tgt := 50) C dX9_group_43 (by decide) (fun c12 => ?_) (fun c12 => ?_)
            · replace ok := ok_t c12 ok
              refine g_iconst (v := 0) C dX9_group_50 (by decide) ?_
              exact t_X9_group_51 C K _ _ _ _ _ ok
            · replace ok := ok_f c12 ok
              exact t_X9_group_46 C K _ _ _ _ ok
        · replace ok := ok_t c7 ok
          refine g_iconst (v := 2) C dX9_group_29 (by decide) ?_
          refine g_goto (tgt := 51) C dX9_group_30 (by decide) ?_
          exact t_X9_group_51 C K _ _ _ _ _ ok
      · replace ok := ok_f c6 ok
        exact t_X9_group_18 C K _ _ _ _ ok
theorem c_X9_group {l : Launch} {ε : Et} {σ : St} {z : Rs} {x1 : Int32} {x2 : Int32} {x3 : Int32} (e : f_X9_group x1 x2 x3 σ = some z) : RM l ε yX9_group cX9_group 8 (some .int) 2 0 0 [.ref (ad ε 39), .int x1, .int x2, .int x3] (WX ε σ) (PI ε z) := RM.of (by decide) (Nat.le_of_ble_eq_true rfl) (fun κ C K => tf_X9_group C K x1 x2 x3 σ e)
def b_X9_put_20 (σ : St) : Option Rs := nx (sS σ 39 30 ((σ.1 39 30) + (1 : Int32))) (fun s1 => some ((0 : Int32), s1))
set_option maxRecDepth 10000 in
set_option maxHeartbeats 1000000 in
theorem t_X9_put_20 {ε : Et} {κ : Kt} {z : Rs} (C : Cx ε κ cX9_put 2 RX9 0) (K : Ret ε κ cX9_put none 0 0 (PV ε z)) (σ : St) (ok : b_X9_put_20 σ = some z) : G ε κ 0 0 20 [(0, .ref (ad ε 39))] [] (WX ε σ) := by
  unfold b_X9_put_20 at ok
  refine g_aload_n C dX9_put_20 rfl 0 rfl ?_
  refine g_dup C dX9_put_21 rfl ?_
  refine q_X9_202 C dX9_put_22 ?_
  refine g_iconst (v := 1) C dX9_put_25 (by decide) ?_
  refine g_iadd C dX9_put_26 ?_
  refine p_X9_202 C dX9_put_27 (fun s1 e2 => ?_)
  replace ok := nx_ok ok s1 e2
  exact K.1 rfl _ _ _ dX9_put_30 (pv_ok ok)
def f_X9_put (x1 : Int32) (σ : St) : Option Rs := (if (12000 : Int32) ≤ (σ.1 39 30) then b_X9_put_20 σ else gd (inb (σ.1 39 30) (ln 54)) (nx (sA σ 54 (σ.1 39 30) x1) (fun s3 => b_X9_put_20 s3)))
set_option maxRecDepth 10000 in
set_option maxHeartbeats 1000000 in
theorem tf_X9_put {ε : Et} {κ : Kt} {z : Rs} (C : Cx ε κ cX9_put 2 RX9 0) (K : Ret ε κ cX9_put none 0 0 (PV ε z)) (x1 : Int32) (σ : St) (ok : f_X9_put x1 σ = some z) : G ε κ 0 0 0 [(0, .ref (ad ε 39)), (1, .int x1)] [] (WX ε σ) := by
  unfold f_X9_put at ok
  refine g_aload_n C dX9_put_0 rfl 0 rfl ?_
  refine q_X9_202 C dX9_put_1 ?_
  refine g_sipush (v := 12000) C dX9_put_4 (by decide) ?_
  refine g_icmp_ge (tgt := 20) C dX9_put_7 (by decide) (fun c1 => ?_) (fun c1 => ?_)
  · replace ok := ok_t c1 ok
    refine g_pick (lv' := [(0, .ref (ad ε 39))]) ?_ [0] rfl
    exact t_X9_put_20 C K _ ok
  · replace ok := ok_f c1 ok
    refine g_aload_n C dX9_put_10 rfl 0 rfl ?_
    refine q_X9_60 C dX9_put_11 ?_
    refine g_aload_n C dX9_put_14 rfl 0 rfl ?_
    refine q_X9_202 C dX9_put_15 ?_
    refine g_iload_n C dX9_put_18 rfl 1 rfl ?_
    obtain ⟨h2, ok⟩ := gd_ok ok
    refine q_ast C ai_54 h2 dX9_put_19 (fun s3 e4 => ?_)
    replace ok := nx_ok ok s3 e4
    refine g_pick (lv' := [(0, .ref (ad ε 39))]) ?_ [0] rfl
    exact t_X9_put_20 C K _ ok
theorem c_X9_put {l : Launch} {ε : Et} {σ : St} {z : Rs} {x1 : Int32} (e : f_X9_put x1 σ = some z) : RM l ε yX9_put cX9_put 2 none 0 0 0 [.ref (ad ε 39), .int x1] (WX ε σ) (PV ε z) := RM.of (by decide) (Nat.le_of_ble_eq_true rfl) (fun κ C K => tf_X9_put C K x1 σ e)
def b_X9_putRead_184 (σ : St) : Option Rs := some ((0 : Int32), σ)
set_option maxRecDepth 10000 in
set_option maxHeartbeats 1000000 in
theorem t_X9_putRead_184 {ε : Et} {κ : Kt} {z : Rs} (C : Cx ε κ cX9_putRead 6 RX9 1) (K : Ret ε κ cX9_putRead none 0 0 (PV ε z)) (σ : St) (ok : b_X9_putRead_184 σ = some z) : G ε κ 0 0 184 [] [] (WX ε σ) := by
  unfold b_X9_putRead_184 at ok
  exact K.1 rfl _ _ _ dX9_putRead_184 (pv_ok ok)
def b_X9_putRead_146 (k146 : Int32 → Int32 → Int32 → St → Option Rs) (x2 : Int32) (x4 : Int32) (x5 : Int32) (σ : St) : Option Rs := (if x4 ≤ x5 then bd (f_X9_put (10 : Int32) σ) (fun r2 s3 => b_X9_putRead_184 s3) else gd (inb (((120 : Int32) * x2) + x5) (ln 45)) (bd (f_X9_put ((33 : Int32) + (σ.2.1 45 (((120 : Int32) * x2) + x5).toNatClampNeg)) σ) (fun r6 s7 => nx (x5 + (1 : Int32)) (fun y9 => k146 x2 x4 y9 s7))))
set_option maxRecDepth 10000 in
set_option maxHeartbeats 1000000 in
theorem t_X9_putRead_146 {ε : Et} {κ : Kt} {z : Rs} (C : Cx ε κ cX9_putRead 6 RX9 1) (K : Ret ε κ cX9_putRead none 0 0 (PV ε z)) (k146 : Int32 → Int32 → Int32 → St → Option Rs) (g146 : ∀ (x2 : Int32) (x4 : Int32) (x5 : Int32) (σ : St), k146 x2 x4 x5 σ = some z → G ε κ 0 0 146 [(0, .ref (ad ε 39)), (2, .int x2), (4, .int x4), (5, .int x5)] [] (WX ε σ)) (x2 : Int32) (x4 : Int32) (x5 : Int32) (σ : St) (ok : b_X9_putRead_146 k146 x2 x4 x5 σ = some z) : G ε κ 0 0 146 [(0, .ref (ad ε 39)), (2, .int x2), (4, .int x4), (5, .int x5)] [] (WX ε σ) := by
  unfold b_X9_putRead_146 at ok
  refine g_iload C dX9_putRead_146 3 rfl ?_
  refine g_iload C dX9_putRead_148 2 rfl ?_
  refine g_icmp_ge (tgt := 178) C dX9_putRead_150 (by decide) (fun c1 => ?_) (fun c1 => ?_)
  · replace ok := ok_t c1 ok
    refine g_aload_n C dX9_putRead_178 rfl 0 rfl ?_
    refine g_bipush (v := 10) C dX9_putRead_179 (by decide) ?_
    obtain ⟨r2, s3, e4, ok⟩ := bd_ok ok
    refine q_cV C [.int (10 : Int32)] (c_X9_put e4) wv_X9_205 (by decide) (lt_N (by decide)) wx_X9 rfl rfl rfl (Nat.le_of_ble_eq_true rfl) dX9_putRead_181 ?_
    refine g_pick (lv' := []) ?_ [] rfl
    exact t_X9_putRead_184 C K _ ok
  · replace ok := ok_f c1 ok
    refine g_aload_n C dX9_putRead_153 rfl 0 rfl ?_
    refine g_bipush (v := 33) C dX9_putRead_154 (by decide) ?_
    refine g_aload_n C dX9_putRead_156 rfl 0 rfl ?_
    refine q_X9_29 C dX9_putRead_157 ?_
    refine g_bipush (v := 120) C dX9_putRead_160 (by decide) ?_
    refine g_iload_n C dX9_putRead_162 rfl 1 rfl ?_
    refine g_imul C dX9_putRead_163 ?_
    refine g_iload C dX9_putRead_164 3 rfl ?_
    refine g_iadd C dX9_putRead_166 ?_
    obtain ⟨h5, ok⟩ := gd_ok ok
    refine q_ald C ai_45 h5 dX9_putRead_167 ?_
    refine g_iadd C dX9_putRead_168 ?_
    obtain ⟨r6, s7, e8, ok⟩ := bd_ok ok
    refine q_cV C [.int ((33 : Int32) + (σ.2.1 45 (((120 : Int32) * x2) + x5).toNatClampNeg))] (c_X9_put e8) wv_X9_205 (by decide) (lt_N (by decide)) wx_X9 rfl rfl rfl (Nat.le_of_ble_eq_true rfl) dX9_putRead_169 ?_
    obtain ⟨y9, e10⟩ : ∃ y : Int32, y = (x5 + (1 : Int32)) := ⟨_, rfl⟩
    replace ok := nx_ok ok y9 e10
    refine g_iinc (v := y9) C [(5, .int y9), (0, .ref (ad ε 39)), (2, .int x2), (4, .int x4)] dX9_putRead_172 3 rfl (by rw [e10]; rfl) (by decide) rfl ?_
    refine g_goto (tgt := 146) C dX9_putRead_175 (by decide) ?_
    refine g_pick (lv' := [(0, .ref (ad ε 39)), (2, .int x2), (4, .int x4), (5, .int y9)]) ?_ [1, 2, 3, 0] rfl
    exact g146 _ _ _ _ ok
def l_X9_putRead_146 : Nat → Int32 → Int32 → Int32 → St → Option Rs
  | 0 => fun _ _ _ _ => none
  | n + 1 => fun x2 x4 x5 σ => b_X9_putRead_146 (l_X9_putRead_146 n) x2 x4 x5 σ
theorem tl_X9_putRead_146 {ε : Et} {κ : Kt} {z : Rs} (C : Cx ε κ cX9_putRead 6 RX9 1) (K : Ret ε κ cX9_putRead none 0 0 (PV ε z)) : ∀ (n : Nat) (x2 : Int32) (x4 : Int32) (x5 : Int32) (σ : St), l_X9_putRead_146 n x2 x4 x5 σ = some z → G ε κ 0 0 146 [(0, .ref (ad ε 39)), (2, .int x2), (4, .int x4), (5, .int x5)] [] (WX ε σ) := by
  intro n
  induction n with
  | zero =>
    intro x2 x4 x5 σ ok
    cases ok
  | succ n ih =>
    intro x2 x4 x5 σ ok
    exact t_X9_putRead_146 C K (l_X9_putRead_146 n) ih x2 x4 x5 σ ok
def b_X9_putRead_115 (k60 : Int32 → Int32 → Int32 → Int32 → Int32 → St → Option Rs) (x1 : Int32) (x2 : Int32) (x3 : Int32) (x4 : Int32) (x5 : Int32) (σ : St) : Option Rs := nx (x5 + (1 : Int32)) (fun y1 => k60 x1 x2 x3 x4 y1 σ)
set_option maxRecDepth 10000 in
set_option maxHeartbeats 1000000 in
theorem t_X9_putRead_115 {ε : Et} {κ : Kt} {z : Rs} (C : Cx ε κ cX9_putRead 6 RX9 1) (K : Ret ε κ cX9_putRead none 0 0 (PV ε z)) (k60 : Int32 → Int32 → Int32 → Int32 → Int32 → St → Option Rs) (g60 : ∀ (x1 : Int32) (x2 : Int32) (x3 : Int32) (x4 : Int32) (x5 : Int32) (σ : St), k60 x1 x2 x3 x4 x5 σ = some z → G ε κ 0 0 60 [(0, .ref (ad ε 39)), (1, .int x1), (2, .int x2), (3, .int x3), (4, .int x4), (5, .int x5)] [] (WX ε σ)) (x1 : Int32) (x2 : Int32) (x3 : Int32) (x4 : Int32) (x5 : Int32) (σ : St) (ok : b_X9_putRead_115 k60 x1 x2 x3 x4 x5 σ = some z) : G ε κ 0 0 115 [(0, .ref (ad ε 39)), (1, .int x1), (2, .int x2), (3, .int x3), (4, .int x4), (5, .int x5)] [] (WX ε σ) := by
  unfold b_X9_putRead_115 at ok
  obtain ⟨y1, e2⟩ : ∃ y : Int32, y = (x5 + (1 : Int32)) := ⟨_, rfl⟩
  replace ok := nx_ok ok y1 e2
  refine g_iinc (v := y1) C [(5, .int y1), (0, .ref (ad ε 39)), (1, .int x1), (2, .int x2), (3, .int x3), (4, .int x4)] dX9_putRead_115 5 rfl (by rw [e2]; rfl) (by decide) rfl ?_
  refine g_goto (tgt := 60) C dX9_putRead_118 (by decide) ?_
  refine g_pick (lv' := [(0, .ref (ad ε 39)), (1, .int x1), (2, .int x2), (3, .int x3), (4, .int x4), (5, .int y1)]) ?_ [1, 2, 3, 4, 5, 0] rfl
  exact g60 _ _ _ _ _ _ ok
def b_X9_putRead_60 (k60 : Int32 → Int32 → Int32 → Int32 → Int32 → St → Option Rs) (x1 : Int32) (x2 : Int32) (x3 : Int32) (x4 : Int32) (x5 : Int32) (σ : St) : Option Rs := (if x4 ≤ x5 then bd (f_X9_put (10 : Int32) σ) (fun r2 s3 => (if x1 = 0 then bd (f_X9_put (43 : Int32) s3) (fun r6 s7 => bd (f_X9_put (10 : Int32) s7) (fun r9 s10 => l_X9_putRead_146 FU x2 x4 x3 s10)) else b_X9_putRead_184 s3)) else gd (inb (((120 : Int32) * x2) + x5) (ln 44)) (bd (f_X9_put (σ.2.1 44 (((120 : Int32) * x2) + x5).toNatClampNeg) σ) (fun r13 s14 => (if x1 = (1 : Int32) then (if ((x5 - x3) - (x5 - x3) / (60 : Int32) * (60 : Int32)) = (59 : Int32) then (if x4 ≤ (x5 + (1 : Int32)) then b_X9_putRead_115 k60 x1 x2 x3 x4 x5 s14 else bd (f_X9_put (10 : Int32) s14) (fun r19 s20 => b_X9_putRead_115 k60 x1 x2 x3 x4 x5 s20)) else b_X9_putRead_115 k60 x1 x2 x3 x4 x5 s14) else b_X9_putRead_115 k60 x1 x2 x3 x4 x5 s14))))
set_option maxRecDepth 10000 in
set_option maxHeartbeats 1000000 in
theorem t_X9_putRead_60 {ε : Et} {κ : Kt} {z : Rs} (C : Cx ε κ cX9_putRead 6 RX9 1) (K : Ret ε κ cX9_putRead none 0 0 (PV ε z)) (k60 : Int32 → Int32 → Int32 → Int32 → Int32 → St → Option Rs) (g60 : ∀ (x1 : Int32) (x2 : Int32) (x3 : Int32) (x4 : Int32) (x5 : Int32) (σ : St), k60 x1 x2 x3 x4 x5 σ = some z → G ε κ 0 0 60 [(0, .ref (ad ε 39)), (1, .int x1), (2, .int x2), (3, .int x3), (4, .int x4), (5, .int x5)] [] (WX ε σ)) (x1 : Int32) (x2 : Int32) (x3 : Int32) (x4 : Int32) (x5 : Int32) (σ : St) (ok : b_X9_putRead_60 k60 x1 x2 x3 x4 x5 σ = some z) : G ε κ 0 0 60 [(0, .ref (ad ε 39)), (1, .int x1), (2, .int x2), (3, .int x3), (4, .int x4), (5, .int x5)] [] (WX ε σ) := by
  unfold b_X9_putRead_60 at ok
  refine g_iload C dX9_putRead_60 5 rfl ?_
  refine g_iload C dX9_putRead_62 4 rfl ?_
  refine g_icmp_ge (tgt := 121) C dX9_putRead_64 (by decide) (fun c1 => ?_) (fun c1 => ?_)
  · replace ok := ok_t c1 ok
    refine g_aload_n C dX9_putRead_121 rfl 0 rfl ?_
    refine g_bipush (v := 10) C dX9_putRead_122 (by decide) ?_
    obtain ⟨r2, s3, e4, ok⟩ := bd_ok ok
    refine q_cV C [.int (10 : Int32)] (c_X9_put e4) wv_X9_205 (by decide) (lt_N (by decide)) wx_X9 rfl rfl rfl (Nat.le_of_ble_eq_true rfl) dX9_putRead_124 ?_
    refine g_iload_n C dX9_putRead_127 rfl 1 rfl ?_
    refine g_if_ne (tgt := 184) C dX9_putRead_128 (by decide) (fun c5 => ?_) (fun c5 => ?_)
    · replace ok := ok_f c5 ok
      refine g_pick (lv' := []) ?_ [] rfl
      exact t_X9_putRead_184 C K _ ok
    · replace ok := ok_t c5 ok
      refine g_aload_n C dX9_putRead_131 rfl 0 rfl ?_
      refine g_bipush (v := 43) C dX9_putRead_132 (by decide) ?_
      obtain ⟨r6, s7, e8, ok⟩ := bd_ok ok
      refine q_cV C [.int (43 : Int32)] (c_X9_put e8) wv_X9_205 (by decide) (lt_N (by decide)) wx_X9 rfl rfl rfl (Nat.le_of_ble_eq_true rfl) dX9_putRead_134 ?_
      refine g_aload_n C dX9_putRead_137 rfl 0 rfl ?_
      refine g_bipush (v := 10) C dX9_putRead_138 (by decide) ?_
      obtain ⟨r9, s10, e11, ok⟩ := bd_ok ok
      refine q_cV C [.int (10 : Int32)] (c_X9_put e11) wv_X9_205 (by decide) (lt_N (by decide)) wx_X9 rfl rfl rfl (Nat.le_of_ble_eq_true rfl) dX9_putRead_140 ?_
      refine g_iload_n C dX9_putRead_143 rfl 3 rfl ?_
      refine g_istore C [(5, .int x3), (0, .ref (ad ε 39)), (1, .int x1), (2, .int x2), (3, .int x3), (4, .int x4)] dX9_putRead_144 (by decide) rfl ?_
      refine g_pick (lv' := [(0, .ref (ad ε 39)), (2, .int x2), (4, .int x4), (5, .int x3)]) ?_ [1, 3, 5, 0] rfl
      exact tl_X9_putRead_146 C K FU _ _ _ _ ok
  · replace ok := ok_f c1 ok
    refine g_aload_n C dX9_putRead_67 rfl 0 rfl ?_
    refine g_aload_n C dX9_putRead_68 rfl 0 rfl ?_
    refine q_X9_26 C dX9_putRead_69 ?_
    refine g_bipush (v := 120) C dX9_putRead_72 (by decide) ?_
    refine g_iload_n C dX9_putRead_74 rfl 2 rfl ?_
    refine g_imul C dX9_putRead_75 ?_
    refine g_iload C dX9_putRead_76 5 rfl ?_
    refine g_iadd C dX9_putRead_78 ?_
    obtain ⟨h12, ok⟩ := gd_ok ok
    refine q_ald C ai_44 h12 dX9_putRead_79 ?_
    obtain ⟨r13, s14, e15, ok⟩ := bd_ok ok
    refine q_cV C [.int (σ.2.1 44 (((120 : Int32) * x2) + x5).toNatClampNeg)] (c_X9_put e15) wv_X9_205 (by decide) (lt_N (by decide)) wx_X9 rfl rfl rfl (Nat.le_of_ble_eq_true rfl) dX9_putRead_80 ?_
    refine g_iload_n C dX9_putRead_83 rfl 1 rfl ?_
    refine g_iconst (v := 1) C dX9_putRead_84 (by decide) ?_
    refine g_icmp_ne (tgt := 115) C dX9_putRead_85 (by decide) (fun c16 => ?_) (fun c16 => ?_)
    · replace ok := ok_f c16 ok
      exact t_X9_putRead_115 C K k60 g60 _ _ _ _ _ _ ok
    · replace ok := ok_t c16 ok
      refine g_iload C dX9_putRead_88 5 rfl ?_
      refine g_iload_n C dX9_putRead_90 rfl 3 rfl ?_
      refine g_isub C dX9_putRead_91 ?_
      refine g_bipush (v := 60) C dX9_putRead_92 (by decide) ?_
      refine g_irem C dX9_putRead_94 (by decide) ?_
      refine g_bipush (v := 59) C dX9_putRead_95 (by decide) ?_
      refine g_icmp_ne (tgt := 115) C dX9_putRead_97 (by decide) (fun c17 => ?_) (fun c17 => ?_)
      · replace ok := ok_f c17 ok
        exact t_X9_putRead_115 C K k60 g60 _ _ _ _ _ _ ok
      · replace ok := ok_t c17 ok
        refine g_iload C dX9_putRead_100 5 rfl ?_
        refine g_iconst (v := 1) C dX9_putRead_102 (by decide) ?_
        refine g_iadd C dX9_putRead_103 ?_
        refine g_iload C dX9_putRead_104 4 rfl ?_
        refine g_icmp_ge (tgt := 115) C dX9_putRead_106 (by decide) (fun c18 => ?_) (fun c18 => ?_)
        · replace ok := ok_t c18 ok
          exact t_X9_putRead_115 C K k60 g60 _ _ _ _ _ _ ok
        · replace ok := ok_f c18 ok
          refine g_aload_n C dX9_putRead_109 rfl 0 rfl ?_
          refine g_bipush (v := 10) C dX9_putRead_110 (by decide) ?_
          obtain ⟨r19, s20, e21, ok⟩ := bd_ok ok
          refine q_cV C [.int (10 : Int32)] (c_X9_put e21) wv_X9_205 (by decide) (lt_N (by decide)) wx_X9 rfl rfl rfl (Nat.le_of_ble_eq_true rfl) dX9_putRead_112 ?_
          exact t_X9_putRead_115 C K k60 g60 _ _ _ _ _ _ ok
def l_X9_putRead_60 : Nat → Int32 → Int32 → Int32 → Int32 → Int32 → St → Option Rs
  | 0 => fun _ _ _ _ _ _ => none
  | n + 1 => fun x1 x2 x3 x4 x5 σ => b_X9_putRead_60 (l_X9_putRead_60 n) x1 x2 x3 x4 x5 σ
theorem tl_X9_putRead_60 {ε : Et} {κ : Kt} {z : Rs} (C : Cx ε κ cX9_putRead 6 RX9 1) (K : Ret ε κ cX9_putRead none 0 0 (PV ε z)) : ∀ (n : Nat) (x1 : Int32) (x2 : Int32) (x3 : Int32) (x4 : Int32) (x5 : Int32) (σ : St), l_X9_putRead_60 n x1 x2 x3 x4 x5 σ = some z → G ε κ 0 0 60 [(0, .ref (ad ε 39)), (1, .int x1), (2, .int x2), (3, .int x3), (4, .int x4), (5, .int x5)] [] (WX ε σ) := by
  intro n
  induction n with
  | zero =>
    intro x1 x2 x3 x4 x5 σ ok
    cases ok
  | succ n ih =>
    intro x1 x2 x3 x4 x5 σ ok
    exact t_X9_putRead_60 C K (l_X9_putRead_60 n) ih x1 x2 x3 x4 x5 σ ok
def b_X9_putRead_18 (k18 : Int32 → Int32 → Int32 → Int32 → Int32 → St → Option Rs) (x1 : Int32) (x2 : Int32) (x3 : Int32) (x4 : Int32) (x5 : Int32) (σ : St) : Option Rs := gd (inb x2 (ln 41)) ((if (σ.2.1 41 x2.toNatClampNeg) ≤ x5 then bd (f_X9_put (10 : Int32) σ) (fun r3 s4 => l_X9_putRead_60 FU x1 x2 x3 x4 x3 s4) else gd (inb (((40 : Int32) * x2) + x5) (ln 42)) (bd (f_X9_put (σ.2.1 42 (((40 : Int32) * x2) + x5).toNatClampNeg) σ) (fun r7 s8 => nx (x5 + (1 : Int32)) (fun y10 => k18 x1 x2 x3 x4 y10 s8)))))
set_option maxRecDepth 10000 in
set_option maxHeartbeats 1000000 in
theorem t_X9_putRead_18 {ε : Et} {κ : Kt} {z : Rs} (C : Cx ε κ cX9_putRead 6 RX9 1) (K : Ret ε κ cX9_putRead none 0 0 (PV ε z)) (k18 : Int32 → Int32 → Int32 → Int32 → Int32 → St → Option Rs) (g18 : ∀ (x1 : Int32) (x2 : Int32) (x3 : Int32) (x4 : Int32) (x5 : Int32) (σ : St), k18 x1 x2 x3 x4 x5 σ = some z → G ε κ 0 0 18 [(0, .ref (ad ε 39)), (1, .int x1), (2, .int x2), (3, .int x3), (4, .int x4), (5, .int x5)] [] (WX ε σ)) (x1 : Int32) (x2 : Int32) (x3 : Int32) (x4 : Int32) (x5 : Int32) (σ : St) (ok : b_X9_putRead_18 k18 x1 x2 x3 x4 x5 σ = some z) : G ε κ 0 0 18 [(0, .ref (ad ε 39)), (1, .int x1), (2, .int x2), (3, .int x3), (4, .int x4), (5, .int x5)] [] (WX ε σ) := by
  unfold b_X9_putRead_18 at ok
  refine g_iload C dX9_putRead_18 5 rfl ?_
  refine g_aload_n C dX9_putRead_20 rfl 0 rfl ?_
  refine q_X9_17 C dX9_putRead_21 ?_
  refine g_iload_n C dX9_putRead_24 rfl 2 rfl ?_
  obtain ⟨h1, ok⟩ := gd_ok ok
  refine q_ald C ai_41 h1 dX9_putRead_25 ?_
  refine g_icmp_ge (tgt := 51) C dX9_putRead_26 (by decide) (fun c2 => ?_) (fun c2 => ?_)
  · replace ok := ok_t c2 ok
    refine g_aload_n C dX9_putRead_51 rfl 0 rfl ?_
    refine g_bipush (v := 10) C dX9_putRead_52 (by decide) ?_
    obtain ⟨r3, s4, e5, ok⟩ := bd_ok ok
    refine q_cV C [.int (10 : Int32)] (c_X9_put e5) wv_X9_205 (by decide) (lt_N (by decide)) wx_X9 rfl rfl rfl (Nat.le_of_ble_eq_true rfl) dX9_putRead_54 ?_
    refine g_iload_n C dX9_putRead_57 rfl 3 rfl ?_
    refine g_istore C [(5, .int x3), (0, .ref (ad ε 39)), (1, .int x1), (2, .int x2), (3, .int x3), (4, .int x4)] dX9_putRead_58 (by decide) rfl ?_
    refine g_pick (lv' := [(0, .ref (ad ε 39)), (1, .int x1), (2, .int x2), (3, .int x3), (4, .int x4), (5, .int x3)]) ?_ [1, 2, 3, 4, 5, 0] rfl
    exact tl_X9_putRead_60 C K FU _ _ _ _ _ _ ok
  · replace ok := ok_f c2 ok
    refine g_aload_n C dX9_putRead_29 rfl 0 rfl ?_
    refine g_aload_n C dX9_putRead_30 rfl 0 rfl ?_
    refine q_X9_20 C dX9_putRead_31 ?_
    refine g_bipush (v := 40) C dX9_putRead_34 (by decide) ?_
    refine g_iload_n C dX9_putRead_36 rfl 2 rfl ?_
    refine g_imul C dX9_putRead_37 ?_
    refine g_iload C dX9_putRead_38 5 rfl ?_
    refine g_iadd C dX9_putRead_40 ?_
    obtain ⟨h6, ok⟩ := gd_ok ok
    refine q_ald C ai_42 h6 dX9_putRead_41 ?_
    obtain ⟨r7, s8, e9, ok⟩ := bd_ok ok
    refine q_cV C [.int (σ.2.1 42 (((40 : Int32) * x2) + x5).toNatClampNeg)] (c_X9_put e9) wv_X9_205 (by decide) (lt_N (by decide)) wx_X9 rfl rfl rfl (Nat.le_of_ble_eq_true rfl) dX9_putRead_42 ?_
    obtain ⟨y10, e11⟩ : ∃ y : Int32, y = (x5 + (1 : Int32)) := ⟨_, rfl⟩
    replace ok := nx_ok ok y10 e11
    refine g_iinc (v := y10) C [(5, .int y10), (0, .ref (ad ε 39)), (1, .int x1), (2, .int x2), (3, .int x3), (4, .int x4)] dX9_putRead_45 5 rfl (by rw [e11]; rfl) (by decide) rfl ?_
    refine g_goto (tgt := 18) C dX9_putRead_48 (by decide) ?_
    refine g_pick (lv' := [(0, .ref (ad ε 39)), (1, .int x1), (2, .int x2), (3, .int x3), (4, .int x4), (5, .int y10)]) ?_ [1, 2, 3, 4, 5, 0] rfl
    exact g18 _ _ _ _ _ _ ok
def l_X9_putRead_18 : Nat → Int32 → Int32 → Int32 → Int32 → Int32 → St → Option Rs
  | 0 => fun _ _ _ _ _ _ => none
  | n + 1 => fun x1 x2 x3 x4 x5 σ => b_X9_putRead_18 (l_X9_putRead_18 n) x1 x2 x3 x4 x5 σ
theorem tl_X9_putRead_18 {ε : Et} {κ : Kt} {z : Rs} (C : Cx ε κ cX9_putRead 6 RX9 1) (K : Ret ε κ cX9_putRead none 0 0 (PV ε z)) : ∀ (n : Nat) (x1 : Int32) (x2 : Int32) (x3 : Int32) (x4 : Int32) (x5 : Int32) (σ : St), l_X9_putRead_18 n x1 x2 x3 x4 x5 σ = some z → G ε κ 0 0 18 [(0, .ref (ad ε 39)), (1, .int x1), (2, .int x2), (3, .int x3), (4, .int x4), (5, .int x5)] [] (WX ε σ) := by
  intro n
  induction n with
  | zero =>
    intro x1 x2 x3 x4 x5 σ ok
    cases ok
  | succ n ih =>
    intro x1 x2 x3 x4 x5 σ ok
    exact t_X9_putRead_18 C K (l_X9_putRead_18 n) ih x1 x2 x3 x4 x5 σ ok
def b_X9_putRead_12 (x1 : Int32) (x2 : Int32) (x3 : Int32) (x4 : Int32) (t0 : Int32) (σ : St) : Option Rs := bd (f_X9_put t0 σ) (fun r1 s2 => l_X9_putRead_18 FU x1 x2 x3 x4 (0 : Int32) s2)
set_option maxRecDepth 10000 in
set_option maxHeartbeats 1000000 in
theorem t_X9_putRead_12 {ε : Et} {κ : Kt} {z : Rs} (C : Cx ε κ cX9_putRead 6 RX9 1) (K : Ret ε κ cX9_putRead none 0 0 (PV ε z)) (x1 : Int32) (x2 : Int32) (x3 : Int32) (x4 : Int32) (t0 : Int32) (σ : St) (ok : b_X9_putRead_12 x1 x2 x3 x4 t0 σ = some z) : G ε κ 0 0 12 [(0, .ref (ad ε 39)), (1, .int x1), (2, .int x2), (3, .int x3), (4, .int x4)] [.int t0, .ref (ad ε 39)] (WX ε σ) := by
  unfold b_X9_putRead_12 at ok
  obtain ⟨r1, s2, e3, ok⟩ := bd_ok ok
  refine q_cV C [.int t0] (c_X9_put e3) wv_X9_205 (by decide) (lt_N (by decide)) wx_X9 rfl rfl rfl (Nat.le_of_ble_eq_true rfl) dX9_putRead_12 ?_
  refine g_iconst (v := 0) C dX9_putRead_15 (by decide) ?_
  refine g_istore C [(5, .int (0 : Int32)), (0, .ref (ad ε 39)), (1, .int x1), (2, .int x2), (3, .int x3), (4, .int x4)] dX9_putRead_16 (by decide) rfl ?_
  refine g_pick (lv' := [(0, .ref (ad ε 39)), (1, .int x1), (2, .int x2), (3, .int x3), (4, .int x4), (5, .int (0 : Int32))]) ?_ [1, 2, 3, 4, 5, 0] rfl
  exact tl_X9_putRead_18 C K FU _ _ _ _ _ _ ok
def f_X9_putRead (x1 : Int32) (x2 : Int32) (x3 : Int32) (x4 : Int32) (σ : St) : Option Rs := (if x1 = 0 then b_X9_putRead_12 x1 x2 x3 x4 (64 : Int32) σ else b_X9_putRead_12 x1 x2 x3 x4 (62 : Int32) σ)
set_option maxRecDepth 10000 in
set_option maxHeartbeats 1000000 in
theorem tf_X9_putRead {ε : Et} {κ : Kt} {z : Rs} (C : Cx ε κ cX9_putRead 6 RX9 1) (K : Ret ε κ cX9_putRead none 0 0 (PV ε z)) (x1 : Int32) (x2 : Int32) (x3 : Int32) (x4 : Int32) (σ : St) (ok : f_X9_putRead x1 x2 x3 x4 σ = some z) : G ε κ 0 0 0 [(0, .ref (ad ε 39)), (1, .int x1), (2, .int x2), (3, .int x3), (4, .int x4)] [] (WX ε σ) := by
  unfold f_X9_putRead at ok
  refine g_aload_n C dX9_putRead_0 rfl 0 rfl ?_
  refine g_iload_n C dX9_putRead_1 rfl 1 rfl ?_
  refine g_if_ne (tgt := 10) C dX9_putRead_2 (by decide) (fun c1 => ?_) (fun c1 => ?_)
  · replace ok := ok_f c1 ok
    refine g_bipush (v := 62) C dX9_putRead_10 (by decide) ?_
    exact t_X9_putRead_12 C K _ _ _ _ _ _ ok
  · replace ok := ok_t c1 ok
    refine g_bipush (v := 64) C dX9_putRead_5 (by decide) ?_
    refine g_goto (tgt := 12) C dX9_putRead_7 (by decide) ?_
    exact t_X9_putRead_12 C K _ _ _ _ _ _ ok
theorem c_X9_putRead {l : Launch} {ε : Et} {σ : St} {z : Rs} {x1 : Int32} {x2 : Int32} {x3 : Int32} {x4 : Int32} (e : f_X9_putRead x1 x2 x3 x4 σ = some z) : RM l ε yX9_putRead cX9_putRead 6 none 1 0 0 [.ref (ad ε 39), .int x1, .int x2, .int x3, .int x4] (WX ε σ) (PV ε z) := RM.of (by decide) (Nat.le_of_ble_eq_true rfl) (fun κ C K => tf_X9_putRead C K x1 x2 x3 x4 σ e)
def b_X9_write_215 (k215 : Int32 → St → Option Rs) (x4 : Int32) (σ : St) : Option Rs := (if (σ.1 39 30) ≤ x4 then nx (sS σ 39 29 (σ.1 39 30)) (fun s2 => some ((s2.1 39 29), s2)) else gd (inb x4 (ln 54)) (gd (inb x4 (ln 53)) (nx (sA σ 53 x4 (σ.2.1 54 x4.toNatClampNeg)) (fun s6 => nx (x4 + (1 : Int32)) (fun y8 => k215 y8 s6)))))
set_option maxRecDepth 10000 in
set_option maxHeartbeats 1000000 in
theorem t_X9_write_215 {ε : Et} {κ : Kt} {z : Rs} (C : Cx ε κ cX9_write 6 RX9 2) (K : Ret ε κ cX9_write (some .int) 0 0 (PI ε z)) (k215 : Int32 → St → Option Rs) (g215 : ∀ (x4 : Int32) (σ : St), k215 x4 σ = some z → G ε κ 0 0 215 [(0, .ref (ad ε 39)), (4, .int x4)] [] (WX ε σ)) (x4 : Int32) (σ : St) (ok : b_X9_write_215 k215 x4 σ = some z) : G ε κ 0 0 215 [(0, .ref (ad ε 39)), (4, .int x4)] [] (WX ε σ) := by
  unfold b_X9_write_215 at ok
  refine g_iload C dX9_write_215 1 rfl ?_
  refine g_aload_n C dX9_write_217 rfl 0 rfl ?_
  refine q_X9_202 C dX9_write_218 ?_
  refine g_icmp_ge (tgt := 244) C dX9_write_221 (by decide) (fun c1 => ?_) (fun c1 => ?_)
  · replace ok := ok_t c1 ok
    refine g_aload_n C dX9_write_244 rfl 0 rfl ?_
    refine g_aload_n C dX9_write_245 rfl 0 rfl ?_
    refine q_X9_202 C dX9_write_246 ?_
    refine p_X9_212 C dX9_write_249 (fun s2 e3 => ?_)
    replace ok := nx_ok ok s2 e3
    refine g_aload_n C dX9_write_252 rfl 0 rfl ?_
    refine q_X9_212 C dX9_write_253 ?_
    exact K.2 .int _ _ _ _ rfl dX9_write_256 rfl (pi_ok ok)
  · replace ok := ok_f c1 ok
    refine g_aload_n C dX9_write_224 rfl 0 rfl ?_
    refine q_X9_57 C dX9_write_225 ?_
    refine g_iload C dX9_write_228 1 rfl ?_
    refine g_aload_n C dX9_write_230 rfl 0 rfl ?_
    refine q_X9_60 C dX9_write_231 ?_
    refine g_iload C dX9_write_234 1 rfl ?_
    obtain ⟨h4, ok⟩ := gd_ok ok
    refine q_ald C ai_54 h4 dX9_write_236 ?_
    obtain ⟨h5, ok⟩ := gd_ok ok
    refine q_ast C ai_53 h5 dX9_write_237 (fun s6 e7 => ?_)
    replace ok := nx_ok ok s6 e7
    obtain ⟨y8, e9⟩ : ∃ y : Int32, y = (x4 + (1 : Int32)) := ⟨_, rfl⟩
    replace ok := nx_ok ok y8 e9
    refine g_iinc (v := y8) C [(4, .int y8), (0, .ref (ad ε 39))] dX9_write_238 1 rfl (by rw [e9]; rfl) (by decide) rfl ?_
    refine g_goto (tgt := 215) C dX9_write_241 (by decide) ?_
    refine g_pick (lv' := [(0, .ref (ad ε 39)), (4, .int y8)]) ?_ [1, 0] rfl
    exact g215 _ _ ok
def l_X9_write_215 : Nat → Int32 → St → Option Rs
  | 0 => fun _ _ => none
  | n + 1 => fun x4 σ => b_X9_write_215 (l_X9_write_215 n) x4 σ
theorem tl_X9_write_215 {ε : Et} {κ : Kt} {z : Rs} (C : Cx ε κ cX9_write 6 RX9 2) (K : Ret ε κ cX9_write (some .int) 0 0 (PI ε z)) : ∀ (n : Nat) (x4 : Int32) (σ : St), l_X9_write_215 n x4 σ = some z → G ε κ 0 0 215 [(0, .ref (ad ε 39)), (4, .int x4)] [] (WX ε σ) := by
  intro n
  induction n with
  | zero =>
    intro x4 σ ok
    cases ok
  | succ n ih =>
    intro x4 σ ok
    exact t_X9_write_215 C K (l_X9_write_215 n) ih x4 σ ok
def b_X9_write_194 (k70 : Int32 → Int32 → Int32 → Int32 → St → Option Rs) (x1 : Int32) (x2 : Int32) (x3 : Int32) (x4 : Int32) (σ : St) : Option Rs := nx (x4 + (1 : Int32)) (fun y1 => k70 x1 x2 x3 y1 σ)
set_option maxRecDepth 10000 in
set_option maxHeartbeats 1000000 in
theorem t_X9_write_194 {ε : Et} {κ : Kt} {z : Rs} (C : Cx ε κ cX9_write 6 RX9 2) (K : Ret ε κ cX9_write (some .int) 0 0 (PI ε z)) (k70 : Int32 → Int32 → Int32 → Int32 → St → Option Rs) (g70 : ∀ (x1 : Int32) (x2 : Int32) (x3 : Int32) (x4 : Int32) (σ : St), k70 x1 x2 x3 x4 σ = some z → G ε κ 0 0 70 [(0, .ref (ad ε 39)), (1, .int x1), (2, .int x2), (3, .int x3), (4, .int x4)] [] (WX ε σ)) (x1 : Int32) (x2 : Int32) (x3 : Int32) (x4 : Int32) (σ : St) (ok : b_X9_write_194 k70 x1 x2 x3 x4 σ = some z) : G ε κ 0 0 194 [(0, .ref (ad ε 39)), (1, .int x1), (2, .int x2), (3, .int x3), (4, .int x4)] [] (WX ε σ) := by
  unfold b_X9_write_194 at ok
  obtain ⟨y1, e2⟩ : ∃ y : Int32, y = (x4 + (1 : Int32)) := ⟨_, rfl⟩
  replace ok := nx_ok ok y1 e2
  refine g_iinc (v := y1) C [(4, .int y1), (0, .ref (ad ε 39)), (1, .int x1), (2, .int x2), (3, .int x3)] dX9_write_194 4 rfl (by rw [e2]; rfl) (by decide) rfl ?_
  refine g_goto (tgt := 70) C dX9_write_197 (by decide) ?_
  refine g_pick (lv' := [(0, .ref (ad ε 39)), (1, .int x1), (2, .int x2), (3, .int x3), (4, .int y1)]) ?_ [1, 2, 3, 4, 0] rfl
  exact g70 _ _ _ _ _ ok
def b_X9_write_173 (k70 : Int32 → Int32 → Int32 → Int32 → St → Option Rs) (x1 : Int32) (x2 : Int32) (x3 : Int32) (x4 : Int32) (σ : St) : Option Rs := gd (inb x4 (ln 49)) (gd (inb x4 (ln 50)) (bd (f_X9_putRead x1 x4 (σ.2.1 49 x4.toNatClampNeg) (σ.2.1 50 x4.toNatClampNeg) σ) (fun r3 s4 => b_X9_write_194 k70 x1 x2 x3 x4 s4)))
set_option maxRecDepth 10000 in
set_option maxHeartbeats 1000000 in
theorem t_X9_write_173 {ε : Et} {κ : Kt} {z : Rs} (C : Cx ε κ cX9_write 6 RX9 2) (K : Ret ε κ cX9_write (some .int) 0 0 (PI ε z)) (k70 : Int32 → Int32 → Int32 → Int32 → St → Option Rs) (g70 : ∀ (x1 : Int32) (x2 : Int32) (x3 : Int32) (x4 : Int32) (σ : St), k70 x1 x2 x3 x4 σ = some z → G ε κ 0 0 70 [(0, .ref (ad ε 39)), (1, .int x1), (2, .int x2), (3, .int x3), (4, .int x4)] [] (WX ε σ)) (x1 : Int32) (x2 : Int32) (x3 : Int32) (x4 : Int32) (σ : St) (ok : b_X9_write_173 k70 x1 x2 x3 x4 σ = some z) : G ε κ 0 0 173 [(0, .ref (ad ε 39)), (1, .int x1), (2, .int x2), (3, .int x3), (4, .int x4)] [] (WX ε σ) := by
  unfold b_X9_write_173 at ok
  refine g_aload_n C dX9_write_173 rfl 0 rfl ?_
  refine g_iload_n C dX9_write_174 rfl 1 rfl ?_
  refine g_iload C dX9_write_175 4 rfl ?_
  refine g_aload_n C dX9_write_177 rfl 0 rfl ?_
  refine q_X9_44 C dX9_write_178 ?_
  refine g_iload C dX9_write_181 4 rfl ?_
  obtain ⟨h1, ok⟩ := gd_ok ok
  refine q_ald C ai_49 h1 dX9_write_183 ?_
  refine g_aload_n C dX9_write_184 rfl 0 rfl ?_
  refine q_X9_47 C dX9_write_185 ?_
  refine g_iload C dX9_write_188 4 rfl ?_
  obtain ⟨h2, ok⟩ := gd_ok ok
  refine q_ald C ai_50 h2 dX9_write_190 ?_
  obtain ⟨r3, s4, e5, ok⟩ := bd_ok ok
  refine q_cV C [.int x1, .int x4, .int (σ.2.1 49 x4.toNatClampNeg), .int (σ.2.1 50 x4.toNatClampNeg)] (c_X9_putRead e5) wv_X9_208 (by decide) (lt_N (by decide)) wx_X9 rfl rfl rfl (Nat.le_of_ble_eq_true rfl) dX9_write_191 ?_
  exact t_X9_write_194 C K k70 g70 _ _ _ _ _ ok
def b_X9_write_135 (k70 : Int32 → Int32 → Int32 → Int32 → St → Option Rs) (x1 : Int32) (x2 : Int32) (x3 : Int32) (x4 : Int32) (t0 : Int32) (σ : St) : Option Rs := (if t0 = 0 then b_X9_write_194 k70 x1 x2 x3 x4 σ else (if x3 = 0 then b_X9_write_173 k70 x1 x2 x3 x4 σ else gd (inb x4 (ln 52)) ((if (σ.2.1 52 x4.toNatClampNeg) < 0 then b_X9_write_194 k70 x1 x2 x3 x4 σ else gd (inb x4 (ln 52)) (bd (f_X9_bestOf x2 (σ.2.1 52 x4.toNatClampNeg) σ) (fun r6 s7 => (if r6 = x4 then b_X9_write_173 k70 x1 x2 x3 x4 s7 else b_X9_write_194 k70 x1 x2 x3 x4 s7)))))))
set_option maxRecDepth 10000 in
set_option maxHeartbeats 1000000 in
theorem t_X9_write_135 {ε : Et} {κ : Kt} {z : Rs} (C : Cx ε κ cX9_write 6 RX9 2) (K : Ret ε κ cX9_write (some .int) 0 0 (PI ε z)) (k70 : Int32 → Int32 → Int32 → Int32 → St → Option Rs) (g70 : ∀ (x1 : Int32) (x2 : Int32) (x3 : Int32) (x4 : Int32) (σ : St), k70 x1 x2 x3 x4 σ = some z → G ε κ 0 0 70 [(0, .ref (ad ε 39)), (1, .int x1), (2, .int x2), (3, .int x3), (4, .int x4)] [] (WX ε σ)) (x1 : Int32) (x2 : Int32) (x3 : Int32) (x4 : Int32) (t0 : Int32) (σ : St) (ok : b_X9_write_135 k70 x1 x2 x3 x4 t0 σ = some z) : G ε κ 0 0 135 [(0, .ref (ad ε 39)), (1, .int x1), (2, .int x2), (3, .int x3), (4, .int x4)] [.int t0] (WX ε σ) := by
  unfold b_X9_write_135 at ok
  refine g_istore C [(5, .int t0), (0, .ref (ad ε 39)), (1, .int x1), (2, .int x2), (3, .int x3), (4, .int x4)] dX9_write_135 (by decide) rfl ?_
  refine g_iload C dX9_write_137 0 rfl ?_
  refine g_if_eq (tgt := 194) C dX9_write_139 (by decide) (fun c1 => ?_) (fun c1 => ?_)
  · replace ok := ok_t c1 ok
    refine g_pick (lv' := [(0, .ref (ad ε 39)), (1, .int x1), (2, .int x2), (3, .int x3), (4, .int x4)]) ?_ [1, 2, 3, 4, 5] rfl
    exact t_X9_write_194 C K k70 g70 _ _ _ _ _ ok
  · replace ok := ok_f c1 ok
    refine g_iload_n C dX9_write_142 rfl 4 rfl ?_
    refine g_if_eq (tgt := 173) C dX9_write_143 (by decide) (fun c2 => ?_) (fun c2 => ?_)
    · replace ok := ok_t c2 ok
      refine g_pick (lv' := [(0, .ref (ad ε 39)), (1, .int x1), (2, .int x2), (3, .int x3), (4, .int x4)]) ?_ [1, 2, 3, 4, 5] rfl
      exact t_X9_write_173 C K k70 g70 _ _ _ _ _ ok
    · replace ok := ok_f c2 ok
      refine g_aload_n C dX9_write_146 rfl 1 rfl ?_
      refine q_X9_54 C dX9_write_147 ?_
      refine g_iload C dX9_write_150 5 rfl ?_
      obtain ⟨h3, ok⟩ := gd_ok ok
      refine q_ald C ai_52 h3 dX9_write_152 ?_
      refine g_if_lt (tgt := 194) C dX9_write_153 (by decide) (fun c4 => ?_) (fun c4 => ?_)
      · replace ok := ok_t c4 ok
        refine g_pick (lv' := [(0, .ref (ad ε 39)), (1, .int x1), (2, .int x2), (3, .int x3), (4, .int x4)]) ?_ [1, 2, 3, 4, 5] rfl
        exact t_X9_write_194 C K k70 g70 _ _ _ _ _ ok
      · replace ok := ok_f c4 ok
        refine g_aload_n C dX9_write_156 rfl 1 rfl ?_
        refine g_iload_n C dX9_write_157 rfl 3 rfl ?_
        refine g_aload_n C dX9_write_158 rfl 1 rfl ?_
        refine q_X9_54 C dX9_write_159 ?_
        refine g_iload C dX9_write_162 5 rfl ?_
        obtain ⟨h5, ok⟩ := gd_ok ok
        refine q_ald C ai_52 h5 dX9_write_164 ?_
        obtain ⟨r6, s7, e8, ok⟩ := bd_ok ok
        refine q_cI C [.int x2, .int (σ.2.1 52 x4.toNatClampNeg)] (c_X9_bestOf e8) wv_X9_199 (by decide) (lt_N (by decide)) wx_X9 rfl rfl rfl (Nat.le_of_ble_eq_true rfl) dX9_write_165 ?_
        refine g_iload C dX9_write_168 5 rfl ?_
        refine g_icmp_ne (tgt := 194) C dX9_write_170 (by decide) (fun c9 => ?_) (fun c9 => ?_)
        · replace ok := ok_f c9 ok
          refine g_pick (lv' := [(0, .ref (ad ε 39)), (1, .int x1), (2, .int x2), (3, .int x3), (4, .int x4)]) ?_ [1, 2, 3, 4, 5] rfl
          exact t_X9_write_194 C K k70 g70 _ _ _ _ _ ok
        · replace ok := ok_t c9 ok
          refine g_pick (lv' := [(0, .ref (ad ε 39)), (1, .int x1), (2, .int x2), (3, .int x3), (4, .int x4)]) ?_ [1, 2, 3, 4, 5] rfl
          exact t_X9_write_173 C K k70 g70 _ _ _ _ _ ok
def b_X9_write_134 (k70 : Int32 → Int32 → Int32 → Int32 → St → Option Rs) (x1 : Int32) (x2 : Int32) (x3 : Int32) (x4 : Int32) (σ : St) : Option Rs := b_X9_write_135 k70 x1 x2 x3 x4 (0 : Int32) σ
set_option maxRecDepth 10000 in
set_option maxHeartbeats 1000000 in
theorem t_X9_write_134 {ε : Et} {κ : Kt} {z : Rs} (C : Cx ε κ cX9_write 6 RX9 2) (K : Ret ε κ cX9_write (some .int) 0 0 (PI ε z)) (k70 : Int32 → Int32 → Int32 → Int32 → St → Option Rs) (g70 : ∀ (x1 : Int32) (x2 : Int32) (x3 : Int32) (x4 : Int32) (σ : St), k70 x1 x2 x3 x4 σ = some z → G ε κ 0 0 70 [(0, .ref (ad ε 39)), (1, .int x1), (2, .int x2), (3, .int x3), (4, .int x4)] [] (WX ε σ)) (x1 : Int32) (x2 : Int32) (x3 : Int32) (x4 : Int32) (σ : St) (ok : b_X9_write_134 k70 x1 x2 x3 x4 σ = some z) : G ε κ 0 0 134 [(0, .ref (ad ε 39)), (1, .int x1), (2, .int x2), (3, .int x3), (4, .int x4)] [] (WX ε σ) := by
  unfold b_X9_write_134 at ok
  refine g_iconst (v := 0) C dX9_write_134 (by decide) ?_
  exact t_X9_write_135 C K k70 g70 _ _ _ _ _ _ ok
def b_X9_write_70 (k70 : Int32 → Int32 → Int32 → Int32 → St → Option Rs) (x1 : Int32) (x2 : Int32) (x3 : Int32) (x4 : Int32) (σ : St) : Option Rs := (if (σ.1 39 9) ≤ x4 then (if (σ.1 39 30) ≤ (12000 : Int32) then l_X9_write_215 FU (0 : Int32) σ else some ((-1 : Int32), σ)) else (if x2 = (-2 : Int32) then gd (inb x4 (ln 43)) (bd (f_X9_putRead x1 x4 (0 : Int32) (σ.2.1 43 x4.toNatClampNeg) σ) (fun r12 s13 => b_X9_write_194 k70 x1 x2 x3 x4 s13)) else bd (f_X9_counts x4 x2 σ) (fun r4 s5 => (if r4 = 0 then b_X9_write_134 k70 x1 x2 x3 x4 s5 else gd (inb x4 (ln 49)) (gd (inb x4 (ln 50)) ((if (s5.2.1 50 x4.toNatClampNeg) ≤ (s5.2.1 49 x4.toNatClampNeg) then b_X9_write_134 k70 x1 x2 x3 x4 s5 else b_X9_write_135 k70 x1 x2 x3 x4 (1 : Int32) s5)))))))
set_option maxRecDepth 10000 in
set_option maxHeartbeats 1000000 in
theorem t_X9_write_70 {ε : Et} {κ : Kt} {z : Rs} (C : Cx ε κ cX9_write 6 RX9 2) (K : Ret ε κ cX9_write (some .int) 0 0 (PI ε z)) (k70 : Int32 → Int32 → Int32 → Int32 → St → Option Rs) (g70 : ∀ (x1 : Int32) (x2 : Int32) (x3 : Int32) (x4 : Int32) (σ : St), k70 x1 x2 x3 x4 σ = some z → G ε κ 0 0 70 [(0, .ref (ad ε 39)), (1, .int x1), (2, .int x2), (3, .int x3), (4, .int x4)] [] (WX ε σ)) (x1 : Int32) (x2 : Int32) (x3 : Int32) (x4 : Int32) (σ : St) (ok : b_X9_write_70 k70 x1 x2 x3 x4 σ = some z) : G ε κ 0 0 70 [(0, .ref (ad ε 39)), (1, .int x1), (2, .int x2), (3, .int x3), (4, .int x4)] [] (WX ε σ) := by
  unfold b_X9_write_70 at ok
  refine g_iload C dX9_write_70 4 rfl ?_
  refine g_aload_n C dX9_write_72 rfl 0 rfl ?_
  refine q_X9_63 C dX9_write_73 ?_
  refine g_icmp_ge (tgt := 200) C dX9_write_76 (by decide) (fun c1 => ?_) (fun c1 => ?_)
  · replace ok := ok_t c1 ok
    refine g_aload_n C dX9_write_200 rfl 0 rfl ?_
    refine q_X9_202 C dX9_write_201 ?_
    refine g_sipush (v := 12000) C dX9_write_204 (by decide) ?_
    refine g_icmp_le (tgt := 212) C dX9_write_207 (by decide) (fun c2 => ?_) (fun c2 => ?_)
    · replace ok := ok_t c2 ok
      refine g_iconst (v := 0) C dX9_write_212 (by decide) ?_
      refine g_istore C [(4, .int (0 : Int32)), (0, .ref (ad ε 39)), (1, .int x1), (2, .int x2), (3, .int x3)] dX9_write_213 (by decide) rfl ?_
      refine g_pick (lv' := [(0, .ref (ad ε 39)), (4, .int (0 : Int32))]) ?_ [1, 0] rfl
      exact tl_X9_write_215 C K FU _ _ ok
    · replace ok := ok_f c2 ok
      refine g_iconst (v := -1) C dX9_write_210 (by decide) ?_
      exact K.2 .int _ _ _ _ rfl dX9_write_211 rfl (pi_ok ok)
  · replace ok := ok_f c1 ok
    refine g_iload_n C dX9_write_79 rfl 2 rfl ?_
    refine g_bipush (v := -2) C dX9_write_80 (by decide) ?_
    refine g_icmp_ne (tgt := 103) C dX9_write_82 (by decide) (fun c3 => ?_) (fun c3 => ?_)
    · replace ok := ok_f c3 ok
      refine g_aload_n C dX9_write_103 rfl 0 rfl ?_
      refine g_iload C dX9_write_104 4 rfl ?_
      refine g_iload_n C dX9_write_106 rfl 2 rfl ?_
      obtain ⟨r4, s5, e6, ok⟩ := bd_ok ok
      refine q_cI C [.int x4, .int x2] (c_X9_counts e6) wv_X9_153 (by decide) (lt_N (by decide)) wx_X9 rfl rfl rfl (Nat.le_of_ble_eq_true rfl) dX9_write_107 ?_
      refine g_if_eq (tgt := 134) C dX9_write_110 (by decide) (fun c7 => ?_) (fun c7 => ?_)
      · replace ok := ok_t c7 ok
        exact t_X9_write_134 C K k70 g70 _ _ _ _ _ ok
      · replace ok := ok_f c7 ok
        refine g_aload_n C dX9_write_113 rfl 0 rfl ?_
        refine q_X9_44 C dX9_write_114 ?_
        refine g_iload C dX9_write_117 4 rfl ?_
        obtain ⟨h8, ok⟩ := gd_ok ok
        refine q_ald C ai_49 h8 dX9_write_119 ?_
        refine g_aload_n C dX9_write_120 rfl 0 rfl ?_
        refine q_X9_47 C dX9_write_121 ?_
        refine g_iload C dX9_write_124 4 rfl ?_
        obtain ⟨h9, ok⟩ := gd_ok ok
        refine q_ald C ai_50 h9 dX9_write_126 ?_
        refine g_icmp_ge (tgt := 134) C dX9_write_127 (by decide) (fun c10 => ?_) (fun c10 => ?_)
        · replace ok := ok_t c10 ok
          exact t_X9_write_134 C K k70 g70 _ _ _ _ _ ok
        · replace ok := ok_f c10 ok
          refine g_iconst (v := 1) C dX9_write_130 (by decide) ?_
          refine g_goto (tgt := 135) C dX9_write_131 (by decide) ?_
          exact t_X9_write_135 C K k70 g70 _ _ _ _ _ _ ok
    · replace ok := ok_t c3 ok
      refine g_aload_n C dX9_write_85 rfl 0 rfl ?_
      refine g_iload_n C dX9_write_86 rfl 1 rfl ?_
      refine g_iload C dX9_write_87 4 rfl ?_
      refine g_iconst (v := 0) C dX9_write_89 (by decide) ?_
      refine g_aload_n C dX9_write_90 rfl 0 rfl ?_
      refine q_X9_23 C dX9_write_91 ?_
      refine g_iload C dX9_write_94 4 rfl ?_
      obtain ⟨h11, ok⟩ := gd_ok ok
      refine q_ald C ai_43 h11 dX9_write_96 ?_
      obtain ⟨r12, s13, e14, ok⟩ := bd_ok ok
      refine q_cV C [.int x1, .int x4, .int (0 : Int32), .int (σ.2.1 43 x4.toNatClampNeg)] (c_X9_putRead e14) wv_X9_208 (by decide) (lt_N (by decide)) wx_X9 rfl rfl rfl (Nat.le_of_ble_eq_true rfl) dX9_write_97 ?_
      refine g_goto (tgt := 194) C dX9_write_100 (by decide) ?_
      exact t_X9_write_194 C K k70 g70 _ _ _ _ _ ok
def l_X9_write_70 : Nat → Int32 → Int32 → Int32 → Int32 → St → Option Rs
  | 0 => fun _ _ _ _ _ => none
  | n + 1 => fun x1 x2 x3 x4 σ => b_X9_write_70 (l_X9_write_70 n) x1 x2 x3 x4 σ
theorem tl_X9_write_70 {ε : Et} {κ : Kt} {z : Rs} (C : Cx ε κ cX9_write 6 RX9 2) (K : Ret ε κ cX9_write (some .int) 0 0 (PI ε z)) : ∀ (n : Nat) (x1 : Int32) (x2 : Int32) (x3 : Int32) (x4 : Int32) (σ : St), l_X9_write_70 n x1 x2 x3 x4 σ = some z → G ε κ 0 0 70 [(0, .ref (ad ε 39)), (1, .int x1), (2, .int x2), (3, .int x3), (4, .int x4)] [] (WX ε σ) := by
  intro n
  induction n with
  | zero =>
    intro x1 x2 x3 x4 σ ok
    cases ok
  | succ n ih =>
    intro x1 x2 x3 x4 σ ok
    exact t_X9_write_70 C K (l_X9_write_70 n) ih x1 x2 x3 x4 σ ok
def b_X9_write_50 (x1 : Int32) (x2 : Int32) (x3 : Int32) (t0 : Int32) (σ : St) : Option Rs := nx (sS σ 39 3 t0) (fun s1 => (if (s1.1 39 3) ≤ 0 then nx (sS s1 39 30 (0 : Int32)) (fun s4 => l_X9_write_70 FU x1 x2 x3 (0 : Int32) s4) else some ((0 : Int32), s1)))
set_option maxRecDepth 10000 in
set_option maxHeartbeats 1000000 in
theorem t_X9_write_50 {ε : Et} {κ : Kt} {z : Rs} (C : Cx ε κ cX9_write 6 RX9 2) (K : Ret ε κ cX9_write (some .int) 0 0 (PI ε z)) (x1 : Int32) (x2 : Int32) (x3 : Int32) (t0 : Int32) (σ : St) (ok : b_X9_write_50 x1 x2 x3 t0 σ = some z) : G ε κ 0 0 50 [(0, .ref (ad ε 39)), (1, .int x1), (2, .int x2), (3, .int x3)] [.int t0, .ref (ad ε 39)] (WX ε σ) := by
  unfold b_X9_write_50 at ok
  refine p_X9_66 C dX9_write_50 (fun s1 e2 => ?_)
  replace ok := nx_ok ok s1 e2
  refine g_aload_n C dX9_write_53 rfl 0 rfl ?_
  refine q_X9_66 C dX9_write_54 ?_
  refine g_if_le (tgt := 62) C dX9_write_57 (by decide) (fun c3 => ?_) (fun c3 => ?_)
  · replace ok := ok_t c3 ok
    refine g_aload_n C dX9_write_62 rfl 0 rfl ?_
    refine g_iconst (v := 0) C dX9_write_63 (by decide) ?_
    refine p_X9_202 C dX9_write_64 (fun s4 e5 => ?_)
    replace ok := nx_ok ok s4 e5
    refine g_iconst (v := 0) C dX9_write_67 (by decide) ?_
    refine g_istore C [(4, .int (0 : Int32)), (0, .ref (ad ε 39)), (1, .int x1), (2, .int x2), (3, .int x3)] dX9_write_68 (by decide) rfl ?_
    refine g_pick (lv' := [(0, .ref (ad ε 39)), (1, .int x1), (2, .int x2), (3, .int x3), (4, .int (0 : Int32))]) ?_ [1, 2, 3, 4, 0] rfl
    exact tl_X9_write_70 C K FU _ _ _ _ _ ok
  · replace ok := ok_f c3 ok
    refine g_iconst (v := 0) C dX9_write_60 (by decide) ?_
    exact K.2 .int _ _ _ _ rfl dX9_write_61 rfl (pi_ok ok)
def b_X9_write_10 (x1 : Int32) (x2 : Int32) (x3 : Int32) (σ : St) : Option Rs := b_X9_write_50 x1 x2 x3 (1 : Int32) σ
set_option maxRecDepth 10000 in
set_option maxHeartbeats 1000000 in
theorem t_X9_write_10 {ε : Et} {κ : Kt} {z : Rs} (C : Cx ε κ cX9_write 6 RX9 2) (K : Ret ε κ cX9_write (some .int) 0 0 (PI ε z)) (x1 : Int32) (x2 : Int32) (x3 : Int32) (σ : St) (ok : b_X9_write_10 x1 x2 x3 σ = some z) : G ε κ 0 0 10 [(0, .ref (ad ε 39)), (1, .int x1), (2, .int x2), (3, .int x3)] [.ref (ad ε 39)] (WX ε σ) := by
  unfold b_X9_write_10 at ok
  refine g_iconst (v := 1) C dX9_write_10 (by decide) ?_
  refine g_goto (tgt := 50) C dX9_write_11 (by decide) ?_
  exact t_X9_write_50 C K _ _ _ _ _ ok
def b_X9_write_49 (x1 : Int32) (x2 : Int32) (x3 : Int32) (σ : St) : Option Rs := b_X9_write_50 x1 x2 x3 (0 : Int32) σ
set_option maxRecDepth 10000 in
set_option maxHeartbeats 1000000 in
theorem t_X9_write_49 {ε : Et} {κ : Kt} {z : Rs} (C : Cx ε κ cX9_write 6 RX9 2) (K : Ret ε κ cX9_write (some .int) 0 0 (PI ε z)) (x1 : Int32) (x2 : Int32) (x3 : Int32) (σ : St) (ok : b_X9_write_49 x1 x2 x3 σ = some z) : G ε κ 0 0 49 [(0, .ref (ad ε 39)), (1, .int x1), (2, .int x2), (3, .int x3)] [.ref (ad ε 39)] (WX ε σ) := by
  unfold b_X9_write_49 at ok
  refine g_iconst (v := 0) C dX9_write_49 (by decide) ?_
  exact t_X9_write_50 C K _ _ _ _ _ ok
def b_X9_write_32 (x1 : Int32) (x2 : Int32) (x3 : Int32) (σ : St) : Option Rs := (if x2 = (-2 : Int32) then b_X9_write_49 x1 x2 x3 σ else (if (σ.1 39 19) = 0 then b_X9_write_50 x1 x2 x3 (3 : Int32) σ else b_X9_write_49 x1 x2 x3 σ))
set_option maxRecDepth 10000 in
set_option maxHeartbeats 1000000 in
theorem t_X9_write_32 {ε : Et} {κ : Kt} {z : Rs} (C : Cx ε κ cX9_write 6 RX9 2) (K : Ret ε κ cX9_write (some .int) 0 0 (PI ε z)) (x1 : Int32) (x2 : Int32) (x3 : Int32) (σ : St) (ok : b_X9_write_32 x1 x2 x3 σ = some z) : G ε κ 0 0 32 [(0, .ref (ad ε 39)), (1, .int x1), (2, .int x2), (3, .int x3)] [.ref (ad ε 39)] (WX ε σ) := by
  unfold b_X9_write_32 at ok
  refine g_iload_n C dX9_write_32 rfl 2 rfl ?_
  refine g_bipush (v := -2) C dX9_write_33 (by decide) ?_
  refine g_icmp_eq (tgt := 49) C dX9_write_35 (by decide) (fun c1 => ?_) (fun c1 => ?_)
  · replace ok := ok_t c1 ok
    exact t_X9_write_49 C K _ _ _ _ ok
  · replace ok := ok_f c1 ok
    refine g_aload_n C dX9_write_38 rfl 0 rfl ?_
    refine q_X9_114 C dX9_write_39 ?_
    refine g_if_ne (tgt := 49) C dX9_write_42 (by decide) (fun c2 => ?_) (fun c2 => ?_)
    · replace ok := ok_f c2 ok
      exact t_X9_write_49 C K _ _ _ _ ok
    · replace ok := ok_t c2 ok
      refine g_iconst (v := 3) C dX9_write_45 (by decide) ?_
      refine g_goto (tgt := 50) C dX9_write_46 (by decide) ?_
      exact t_X9_write_50 C K _ _ _ _ _ ok
def f_X9_write (x1 : Int32) (x2 : Int32) (x3 : Int32) (σ : St) : Option Rs := (if x1 < 0 then b_X9_write_10 x1 x2 x3 σ else (if x1 ≤ (1 : Int32) then (if x2 = (-2 : Int32) then b_X9_write_32 x1 x2 x3 σ else bd (f_X9_noBin x2 σ) (fun r4 s5 => (if r4 = 0 then b_X9_write_32 x1 x2 x3 s5 else b_X9_write_50 x1 x2 x3 (2 : Int32) s5))) else b_X9_write_10 x1 x2 x3 σ))
set_option maxRecDepth 10000 in
set_option maxHeartbeats 1000000 in
theorem tf_X9_write {ε : Et} {κ : Kt} {z : Rs} (C : Cx ε κ cX9_write 6 RX9 2) (K : Ret ε κ cX9_write (some .int) 0 0 (PI ε z)) (x1 : Int32) (x2 : Int32) (x3 : Int32) (σ : St) (ok : f_X9_write x1 x2 x3 σ = some z) : G ε κ 0 0 0 [(0, .ref (ad ε 39)), (1, .int x1), (2, .int x2), (3, .int x3)] [] (WX ε σ) := by
  unfold f_X9_write at ok
  refine g_aload_n C dX9_write_0 rfl 0 rfl ?_
  refine g_iload_n C dX9_write_1 rfl 1 rfl ?_
  refine g_if_lt (tgt := 10) C dX9_write_2 (by decide) (fun c1 => ?_) (fun c1 => ?_)
  · replace ok := ok_t c1 ok
    exact t_X9_write_10 C K _ _ _ _ ok
  · replace ok := ok_f c1 ok
    refine g_iload_n C dX9_write_5 rfl 1 rfl ?_
    refine g_iconst (v := 1) C dX9_write_6 (by decide) ?_
    refine g_icmp_le (tgt := 14) C dX9_write_7 (by decide) (fun c2 => ?_) (fun c2 => ?_)
    · replace ok := ok_t c2 ok
      refine g_iload_n C dX9_write_14 rfl 2 rfl ?_
      refine g_bipush (v := -2) C dX9_write_15 (by decide) ?_
      refine g_icmp_eq (tgt := 32) C dX9_write_17 (by decide) (fun c3 => ?_) (fun c3 => ?_)
      · replace ok := ok_t c3 ok
        exact t_X9_write_32 C K _ _ _ _ ok
      · replace ok := ok_f c3 ok
        refine g_aload_n C dX9_write_20 rfl 0 rfl ?_
        refine g_iload_n C dX9_write_21 rfl 2 rfl ?_
        obtain ⟨r4, s5, e6, ok⟩ := bd_ok ok
        refine q_cI C [.int x2] (c_X9_noBin e6) wv_X9_193 (by decide) (lt_N (by decide)) wx_X9 rfl rfl rfl (Nat.le_of_ble_eq_true rfl) dX9_write_22 ?_
        refine g_if_eq (tgt := 32) C dX9_write_25 (by decide) (fun c7 => ?_) (fun c7 => ?_)
        · replace ok := ok_t c7 ok
          exact t_X9_write_32 C K _ _ _ _ ok
        · replace ok := ok_f c7 ok
          refine g_iconst (v := 2) C dX9_write_28 (by decide) ?_
          refine g_goto (tgt := 50) C dX9_write_29 (by decide) ?_
          exact t_X9_write_50 C K _ _ _ _ _ ok
    · replace ok := ok_f c2 ok
      exact t_X9_write_10 C K _ _ _ _ ok
theorem c_X9_write {l : Launch} {ε : Et} {σ : St} {z : Rs} {x1 : Int32} {x2 : Int32} {x3 : Int32} (e : f_X9_write x1 x2 x3 σ = some z) : RM l ε yX9_write cX9_write 6 (some .int) 2 0 0 [.ref (ad ε 39), .int x1, .int x2, .int x3] (WX ε σ) (PI ε z) := RM.of (by decide) (Nat.le_of_ble_eq_true rfl) (fun κ C K => tf_X9_write C K x1 x2 x3 σ e)
def b_X9_out_38 (t0 : Int32) (σ : St) : Option Rs := some (t0, σ)
set_option maxRecDepth 10000 in
set_option maxHeartbeats 1000000 in
theorem t_X9_out_38 {ε : Et} {κ : Kt} {z : Rs} (C : Cx ε κ cX9_out 2 RX9 0) (K : Ret ε κ cX9_out (some .int) 0 0 (PI ε z)) (t0 : Int32) (σ : St) (ok : b_X9_out_38 t0 σ = some z) : G ε κ 0 0 38 [] [.int t0] (WX ε σ) := by
  unfold b_X9_out_38 at ok
  exact K.2 .int _ _ _ _ rfl dX9_out_38 rfl (pi_ok ok)
def b_X9_out_18 (x1 : Int32) (t0 : Int32) (σ : St) : Option Rs := nx (sS σ 39 3 t0) (fun s1 => (if (s1.1 39 3) ≤ 0 then gd (inb x1 (ln 53)) (b_X9_out_38 (s1.2.1 53 x1.toNatClampNeg) s1) else b_X9_out_38 (0 : Int32) s1))
set_option maxRecDepth 10000 in
set_option maxHeartbeats 1000000 in
theorem t_X9_out_18 {ε : Et} {κ : Kt} {z : Rs} (C : Cx ε κ cX9_out 2 RX9 0) (K : Ret ε κ cX9_out (some .int) 0 0 (PI ε z)) (x1 : Int32) (t0 : Int32) (σ : St) (ok : b_X9_out_18 x1 t0 σ = some z) : G ε κ 0 0 18 [(0, .ref (ad ε 39)), (1, .int x1)] [.int t0, .ref (ad ε 39)] (WX ε σ) := by
  unfold b_X9_out_18 at ok
  refine p_X9_66 C dX9_out_18 (fun s1 e2 => ?_)
  replace ok := nx_ok ok s1 e2
  refine g_aload_n C dX9_out_21 rfl 0 rfl ?_
  refine q_X9_66 C dX9_out_22 ?_
  refine g_if_le (tgt := 32) C dX9_out_25 (by decide) (fun c3 => ?_) (fun c3 => ?_)
  · replace ok := ok_t c3 ok
    refine g_aload_n C dX9_out_32 rfl 0 rfl ?_
    refine q_X9_57 C dX9_out_33 ?_
    refine g_iload_n C dX9_out_36 rfl 1 rfl ?_
    obtain ⟨h4, ok⟩ := gd_ok ok
    refine q_ald C ai_53 h4 dX9_out_37 ?_
    refine g_pick (lv' := []) ?_ [] rfl
    exact t_X9_out_38 C K _ _ ok
  · replace ok := ok_f c3 ok
    refine g_iconst (v := 0) C dX9_out_28 (by decide) ?_
    refine g_goto (tgt := 38) C dX9_out_29 (by decide) ?_
    refine g_pick (lv' := []) ?_ [] rfl
    exact t_X9_out_38 C K _ _ ok
def b_X9_out_13 (x1 : Int32) (σ : St) : Option Rs := b_X9_out_18 x1 (1 : Int32) σ
set_option maxRecDepth 10000 in
set_option maxHeartbeats 1000000 in
theorem t_X9_out_13 {ε : Et} {κ : Kt} {z : Rs} (C : Cx ε κ cX9_out 2 RX9 0) (K : Ret ε κ cX9_out (some .int) 0 0 (PI ε z)) (x1 : Int32) (σ : St) (ok : b_X9_out_13 x1 σ = some z) : G ε κ 0 0 13 [(0, .ref (ad ε 39)), (1, .int x1)] [.ref (ad ε 39)] (WX ε σ) := by
  unfold b_X9_out_13 at ok
  refine g_iconst (v := 1) C dX9_out_13 (by decide) ?_
  refine g_goto (tgt := 18) C dX9_out_14 (by decide) ?_
  exact t_X9_out_18 C K _ _ _ ok
def f_X9_out (x1 : Int32) (σ : St) : Option Rs := (if x1 < 0 then b_X9_out_13 x1 σ else (if x1 < (σ.1 39 29) then b_X9_out_18 x1 (0 : Int32) σ else b_X9_out_13 x1 σ))
set_option maxRecDepth 10000 in
set_option maxHeartbeats 1000000 in
theorem tf_X9_out {ε : Et} {κ : Kt} {z : Rs} (C : Cx ε κ cX9_out 2 RX9 0) (K : Ret ε κ cX9_out (some .int) 0 0 (PI ε z)) (x1 : Int32) (σ : St) (ok : f_X9_out x1 σ = some z) : G ε κ 0 0 0 [(0, .ref (ad ε 39)), (1, .int x1)] [] (WX ε σ) := by
  unfold f_X9_out at ok
  refine g_aload_n C dX9_out_0 rfl 0 rfl ?_
  refine g_iload_n C dX9_out_1 rfl 1 rfl ?_
  refine g_if_lt (tgt := 13) C dX9_out_2 (by decide) (fun c1 => ?_) (fun c1 => ?_)
  · replace ok := ok_t c1 ok
    exact t_X9_out_13 C K _ _ ok
  · replace ok := ok_f c1 ok
    refine g_iload_n C dX9_out_5 rfl 1 rfl ?_
    refine g_aload_n C dX9_out_6 rfl 0 rfl ?_
    refine q_X9_212 C dX9_out_7 ?_
    refine g_icmp_lt (tgt := 17) C dX9_out_10 (by decide) (fun c2 => ?_) (fun c2 => ?_)
    · replace ok := ok_t c2 ok
      refine g_iconst (v := 0) C dX9_out_17 (by decide) ?_
      exact t_X9_out_18 C K _ _ _ ok
    · replace ok := ok_f c2 ok
      exact t_X9_out_13 C K _ _ ok
theorem c_X9_out {l : Launch} {ε : Et} {σ : St} {z : Rs} {x1 : Int32} (e : f_X9_out x1 σ = some z) : RM l ε yX9_out cX9_out 2 (some .int) 0 0 0 [.ref (ad ε 39), .int x1] (WX ε σ) (PI ε z) := RM.of (by decide) (Nat.le_of_ble_eq_true rfl) (fun κ C K => tf_X9_out C K x1 σ e)
def b_X9_again_19 (k19 : Int32 → St → Option Rs) (x1 : Int32) (σ : St) : Option Rs := (if (σ.1 39 29) ≤ x1 then nx (sS σ 39 1 (σ.1 39 29)) (fun s2 => some ((s2.1 39 1), s2)) else gd (inb x1 (ln 53)) (gd (inb x1 (ln 40)) (nx (sA σ 40 x1 (σ.2.1 53 x1.toNatClampNeg)) (fun s6 => nx (x1 + (1 : Int32)) (fun y8 => k19 y8 s6)))))
set_option maxRecDepth 10000 in
set_option maxHeartbeats 1000000 in
theorem t_X9_again_19 {ε : Et} {κ : Kt} {z : Rs} (C : Cx ε κ cX9_again 2 RX9 0) (K : Ret ε κ cX9_again (some .int) 0 0 (PI ε z)) (k19 : Int32 → St → Option Rs) (g19 : ∀ (x1 : Int32) (σ : St), k19 x1 σ = some z → G ε κ 0 0 19 [(0, .ref (ad ε 39)), (1, .int x1)] [] (WX ε σ)) (x1 : Int32) (σ : St) (ok : b_X9_again_19 k19 x1 σ = some z) : G ε κ 0 0 19 [(0, .ref (ad ε 39)), (1, .int x1)] [] (WX ε σ) := by
  unfold b_X9_again_19 at ok
  refine g_iload_n C dX9_again_19 rfl 1 rfl ?_
  refine g_aload_n C dX9_again_20 rfl 0 rfl ?_
  refine q_X9_212 C dX9_again_21 ?_
  refine g_icmp_ge (tgt := 45) C dX9_again_24 (by decide) (fun c1 => ?_) (fun c1 => ?_)
  · replace ok := ok_t c1 ok
    refine g_aload_n C dX9_again_45 rfl 0 rfl ?_
    refine g_aload_n C dX9_again_46 rfl 0 rfl ?_
    refine q_X9_212 C dX9_again_47 ?_
    refine p_X9_69 C dX9_again_50 (fun s2 e3 => ?_)
    replace ok := nx_ok ok s2 e3
    refine g_aload_n C dX9_again_53 rfl 0 rfl ?_
    refine q_X9_69 C dX9_again_54 ?_
    exact K.2 .int _ _ _ _ rfl dX9_again_57 rfl (pi_ok ok)
  · replace ok := ok_f c1 ok
    refine g_aload_n C dX9_again_27 rfl 0 rfl ?_
    refine q_X9_7 C dX9_again_28 ?_
    refine g_iload_n C dX9_again_31 rfl 1 rfl ?_
    refine g_aload_n C dX9_again_32 rfl 0 rfl ?_
    refine q_X9_57 C dX9_again_33 ?_
    refine g_iload_n C dX9_again_36 rfl 1 rfl ?_
    obtain ⟨h4, ok⟩ := gd_ok ok
    refine q_ald C ai_53 h4 dX9_again_37 ?_
    obtain ⟨h5, ok⟩ := gd_ok ok
    refine q_ast C ai_40 h5 dX9_again_38 (fun s6 e7 => ?_)
    replace ok := nx_ok ok s6 e7
    obtain ⟨y8, e9⟩ : ∃ y : Int32, y = (x1 + (1 : Int32)) := ⟨_, rfl⟩
    replace ok := nx_ok ok y8 e9
    refine g_iinc (v := y8) C [(1, .int y8), (0, .ref (ad ε 39))] dX9_again_39 1 rfl (by rw [e9]; rfl) (by decide) rfl ?_
    refine g_goto (tgt := 19) C dX9_again_42 (by decide) ?_
    refine g_pick (lv' := [(0, .ref (ad ε 39)), (1, .int y8)]) ?_ [1, 0] rfl
    exact g19 _ _ ok
def l_X9_again_19 : Nat → Int32 → St → Option Rs
  | 0 => fun _ _ => none
  | n + 1 => fun x1 σ => b_X9_again_19 (l_X9_again_19 n) x1 σ
theorem tl_X9_again_19 {ε : Et} {κ : Kt} {z : Rs} (C : Cx ε κ cX9_again 2 RX9 0) (K : Ret ε κ cX9_again (some .int) 0 0 (PI ε z)) : ∀ (n : Nat) (x1 : Int32) (σ : St), l_X9_again_19 n x1 σ = some z → G ε κ 0 0 19 [(0, .ref (ad ε 39)), (1, .int x1)] [] (WX ε σ) := by
  intro n
  induction n with
  | zero =>
    intro x1 σ ok
    cases ok
  | succ n ih =>
    intro x1 σ ok
    exact t_X9_again_19 C K (l_X9_again_19 n) ih x1 σ ok
def f_X9_again (σ : St) : Option Rs := nx (sS σ 39 3 (0 : Int32)) (fun s1 => (if (s1.1 39 29) ≤ (6000 : Int32) then l_X9_again_19 FU (0 : Int32) s1 else some ((-1 : Int32), s1)))
set_option maxRecDepth 10000 in
set_option maxHeartbeats 1000000 in
theorem tf_X9_again {ε : Et} {κ : Kt} {z : Rs} (C : Cx ε κ cX9_again 2 RX9 0) (K : Ret ε κ cX9_again (some .int) 0 0 (PI ε z)) (σ : St) (ok : f_X9_again σ = some z) : G ε κ 0 0 0 [(0, .ref (ad ε 39))] [] (WX ε σ) := by
  unfold f_X9_again at ok
  refine g_aload_n C dX9_again_0 rfl 0 rfl ?_
  refine g_iconst (v := 0) C dX9_again_1 (by decide) ?_
  refine p_X9_66 C dX9_again_2 (fun s1 e2 => ?_)
  replace ok := nx_ok ok s1 e2
  refine g_aload_n C dX9_again_5 rfl 0 rfl ?_
  refine q_X9_212 C dX9_again_6 ?_
  refine g_sipush (v := 6000) C dX9_again_9 (by decide) ?_
  refine g_icmp_le (tgt := 17) C dX9_again_12 (by decide) (fun c3 => ?_) (fun c3 => ?_)
  · replace ok := ok_t c3 ok
    refine g_iconst (v := 0) C dX9_again_17 (by decide) ?_
    refine g_istore_n C [(1, .int (0 : Int32)), (0, .ref (ad ε 39))] dX9_again_18 rfl (by decide) rfl ?_
    refine g_pick (lv' := [(0, .ref (ad ε 39)), (1, .int (0 : Int32))]) ?_ [1, 0] rfl
    exact tl_X9_again_19 C K FU _ _ ok
  · replace ok := ok_f c3 ok
    refine g_iconst (v := -1) C dX9_again_15 (by decide) ?_
    exact K.2 .int _ _ _ _ rfl dX9_again_16 rfl (pi_ok ok)
theorem c_X9_again {l : Launch} {ε : Et} {σ : St} {z : Rs} (e : f_X9_again σ = some z) : RM l ε yX9_again cX9_again 2 (some .int) 0 0 0 [.ref (ad ε 39)] (WX ε σ) (PI ε z) := RM.of (by decide) (Nat.le_of_ble_eq_true rfl) (fun κ C K => tf_X9_again C K σ e)
