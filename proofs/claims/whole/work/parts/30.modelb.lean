def b_X9_binOf_104 (k23 : Int32 → Int32 → Int32 → Int32 → St → Option Rs) (x1 : Int32) (x3 : Int32) (x5 : Int32) (t0 : Int32) (σ : St) : Option Rs := nx (x5 + (1 : Int32)) (fun y1 => k23 x1 x3 t0 y1 σ)
set_option maxRecDepth 10000 in
set_option maxHeartbeats 1000000 in
theorem t_X9_binOf_104 {ε : Et} {κ : Kt} {z : Rs} (C : Cx ε κ cX9_binOf 8 RX9 0) (K : Ret ε κ cX9_binOf (some .int) 0 0 (PI ε z)) (k23 : Int32 → Int32 → Int32 → Int32 → St → Option Rs) (g23 : ∀ (x1 : Int32) (x3 : Int32) (x4 : Int32) (x5 : Int32) (σ : St), k23 x1 x3 x4 x5 σ = some z → G ε κ 0 0 23 [(0, .ref (ad ε 39)), (1, .int x1), (3, .int x3), (4, .int x4), (5, .int x5)] [] (WX ε σ)) (x1 : Int32) (x3 : Int32) (x5 : Int32) (t0 : Int32) (σ : St) (ok : b_X9_binOf_104 k23 x1 x3 x5 t0 σ = some z) : G ε κ 0 0 104 [(0, .ref (ad ε 39)), (1, .int x1), (3, .int x3), (5, .int x5)] [.int t0] (WX ε σ) := by
  unfold b_X9_binOf_104 at ok
  refine g_istore C [(4, .int t0), (0, .ref (ad ε 39)), (1, .int x1), (3, .int x3), (5, .int x5)] dX9_binOf_104 (by decide) rfl ?_
  obtain ⟨y1, e2⟩ : ∃ y : Int32, y = (x5 + (1 : Int32)) := ⟨_, rfl⟩
  replace ok := nx_ok ok y1 e2
  refine g_iinc (v := y1) C [(5, .int y1), (4, .int t0), (0, .ref (ad ε 39)), (1, .int x1), (3, .int x3)] dX9_binOf_106 4 rfl (by rw [e2]; rfl) (by decide) rfl ?_
  refine g_goto (tgt := 23) C dX9_binOf_109 (by decide) ?_
  refine g_pick (lv' := [(0, .ref (ad ε 39)), (1, .int x1), (3, .int x3), (4, .int t0), (5, .int y1)]) ?_ [2, 3, 4, 1, 0] rfl
  exact g23 _ _ _ _ _ ok
def b_X9_binOf_82 (k23 : Int32 → Int32 → Int32 → Int32 → St → Option Rs) (k38 : Int32 → Int32 → Int32 → Int32 → Int32 → Int32 → St → Option Rs) (x1 : Int32) (x3 : Int32) (x4 : Int32) (x5 : Int32) (x7 : Int32) (t0 : Int32) (t1 : Int32) (σ : St) : Option Rs := nx (t1 + t0) (fun y1 => nx (x7 + (1 : Int32)) (fun y3 => k38 x1 x3 x4 x5 y1 y3 σ))
set_option maxRecDepth 10000 in
set_option maxHeartbeats 1000000 in
theorem t_X9_binOf_82 {ε : Et} {κ : Kt} {z : Rs} (C : Cx ε κ cX9_binOf 8 RX9 0) (K : Ret ε κ cX9_binOf (some .int) 0 0 (PI ε z)) (k23 : Int32 → Int32 → Int32 → Int32 → St → Option Rs) (k38 : Int32 → Int32 → Int32 → Int32 → Int32 → Int32 → St → Option Rs) (g23 : ∀ (x1 : Int32) (x3 : Int32) (x4 : Int32) (x5 : Int32) (σ : St), k23 x1 x3 x4 x5 σ = some z → G ε κ 0 0 23 [(0, .ref (ad ε 39)), (1, .int x1), (3, .int x3), (4, .int x4), (5, .int x5)] [] (WX ε σ)) (g38 : ∀ (x1 : Int32) (x3 : Int32) (x4 : Int32) (x5 : Int32) (x6 : Int32) (x7 : Int32) (σ : St), k38 x1 x3 x4 x5 x6 x7 σ = some z → G ε κ 0 0 38 [(0, .ref (ad ε 39)), (1, .int x1), (3, .int x3), (4, .int x4), (5, .int x5), (6, .int x6), (7, .int x7)] [] (WX ε σ)) (x1 : Int32) (x3 : Int32) (x4 : Int32) (x5 : Int32) (x7 : Int32) (t0 : Int32) (t1 : Int32) (σ : St) (ok : b_X9_binOf_82 k23 k38 x1 x3 x4 x5 x7 t0 t1 σ = some z) : G ε κ 0 0 82 [(0, .ref (ad ε 39)), (1, .int x1), (3, .int x3), (4, .int x4), (5, .int x5), (7, .int x7)] [.int t0, .int t1] (WX ε σ) := by
  unfold b_X9_binOf_82 at ok
  refine g_iadd C dX9_binOf_82 ?_
  refine q_nm (fun y1 e2 => ?_)
  replace ok := nx_ok ok y1 e2
  refine g_istore C [(6, .int y1), (0, .ref (ad ε 39)), (1, .int x1), (3, .int x3), (4, .int x4), (5, .int x5), (7, .int x7)] dX9_binOf_83 (by decide) rfl ?_
  obtain ⟨y3, e4⟩ : ∃ y : Int32, y = (x7 + (1 : Int32)) := ⟨_, rfl⟩
  replace ok := nx_ok ok y3 e4
  refine g_iinc (v := y3) C [(7, .int y3), (6, .int y1), (0, .ref (ad ε 39)), (1, .int x1), (3, .int x3), (4, .int x4), (5, .int x5)] dX9_binOf_85 6 rfl (by rw [e4]; rfl) (by decide) rfl ?_
  refine g_goto (tgt := 38) C dX9_binOf_88 (by decide) ?_
  refine g_pick (lv' := [(0, .ref (ad ε 39)), (1, .int x1), (3, .int x3), (4, .int x4), (5, .int x5), (6, .int y1), (7, .int y3)]) ?_ [2, 3, 4, 5, 6, 1, 0] rfl
  exact g38 _ _ _ _ _ _ _ ok
def b_X9_binOf_38 (k23 : Int32 → Int32 → Int32 → Int32 → St → Option Rs) (k38 : Int32 → Int32 → Int32 → Int32 → Int32 → Int32 → St → Option Rs) (x1 : Int32) (x3 : Int32) (x4 : Int32) (x5 : Int32) (x6 : Int32) (x7 : Int32) (σ : St) : Option Rs := (if (σ.1 39 13) ≤ x7 then (if x3 < x6 then b_X9_binOf_104 k23 x1 x3 x5 x4 σ else b_X9_binOf_104 k23 x1 x3 x5 x5 σ) else gd (inb (((12 : Int32) * x5) + x7) (ln 46)) (gd (inb (((120 : Int32) * x1) + x7) (ln 44)) ((if (σ.2.1 46 (((12 : Int32) * x5) + x7).toNatClampNeg) = (σ.2.1 44 (((120 : Int32) * x1) + x7).toNatClampNeg) then b_X9_binOf_82 k23 k38 x1 x3 x4 x5 x7 (0 : Int32) x6 σ else b_X9_binOf_82 k23 k38 x1 x3 x4 x5 x7 (1 : Int32) x6 σ))))
set_option maxRecDepth 10000 in
set_option maxHeartbeats 1000000 in
theorem t_X9_binOf_38 {ε : Et} {κ : Kt} {z : Rs} (C : Cx ε κ cX9_binOf 8 RX9 0) (K : Ret ε κ cX9_binOf (some .int) 0 0 (PI ε z)) (k23 : Int32 → Int32 → Int32 → Int32 → St → Option Rs) (k38 : Int32 → Int32 → Int32 → Int32 → Int32 → Int32 → St → Option Rs) (g23 : ∀ (x1 : Int32) (x3 : Int32) (x4 : Int32) (x5 : Int32) (σ : St), k23 x1 x3 x4 x5 σ = some z → G ε κ 0 0 23 [(0, .ref (ad ε 39)), (1, .int x1), (3, .int x3), (4, .int x4), (5, .int x5)] [] (WX ε σ)) (g38 : ∀ (x1 : Int32) (x3 : Int32) (x4 : Int32) (x5 : Int32) (x6 : Int32) (x7 : Int32) (σ : St), k38 x1 x3 x4 x5 x6 x7 σ = some z → G ε κ 0 0 38 [(0, .ref (ad ε 39)), (1, .int x1), (3, .int x3), (4, .int x4), (5, .int x5), (6, .int x6), (7, .int x7)] [] (WX ε σ)) (x1 : Int32) (x3 : Int32) (x4 : Int32) (x5 : Int32) (x6 : Int32) (x7 : Int32) (σ : St) (ok : b_X9_binOf_38 k23 k38 x1 x3 x4 x5 x6 x7 σ = some z) : G ε κ 0 0 38 [(0, .ref (ad ε 39)), (1, .int x1), (3, .int x3), (4, .int x4), (5, .int x5), (6, .int x6), (7, .int x7)] [] (WX ε σ) := by
  unfold b_X9_binOf_38 at ok
  refine g_iload C dX9_binOf_38 6 rfl ?_
  refine g_aload_n C dX9_binOf_40 rfl 0 rfl ?_
  refine q_X9_121 C dX9_binOf_41 ?_
  refine g_icmp_ge (tgt := 91) C dX9_binOf_44 (by decide) (fun c1 => ?_) (fun c1 => ?_)
  · replace ok := ok_t c1 ok
    refine g_iload C dX9_binOf_91 5 rfl ?_
    refine g_iload_n C dX9_binOf_93 rfl 2 rfl ?_
    refine g_icmp_gt (tgt := 102) C dX9_binOf_94 (by decide) (fun c2 => ?_) (fun c2 => ?_)
    · replace ok := ok_t c2 ok
      refine g_iload C dX9_binOf_102 3 rfl ?_
      refine g_pick (lv' := [(0, .ref (ad ε 39)), (1, .int x1), (3, .int x3), (5, .int x5)]) ?_ [0, 1, 2, 4] rfl
      exact t_X9_binOf_104 C K k23 g23 _ _ _ _ _ ok
    · replace ok := ok_f c2 ok
      refine g_iload C dX9_binOf_97 4 rfl ?_
      refine g_goto (tgt := 104) C dX9_binOf_99 (by decide) ?_
      refine g_pick (lv' := [(0, .ref (ad ε 39)), (1, .int x1), (3, .int x3), (5, .int x5)]) ?_ [0, 1, 2, 4] rfl
      exact t_X9_binOf_104 C K k23 g23 _ _ _ _ _ ok
  · replace ok := ok_f c1 ok
    refine g_iload C dX9_binOf_47 5 rfl ?_
    refine g_aload_n C dX9_binOf_49 rfl 0 rfl ?_
    refine q_X9_32 C dX9_binOf_50 ?_
    refine g_bipush (v := 12) C dX9_binOf_53 (by decide) ?_
    refine g_iload C dX9_binOf_55 4 rfl ?_
    refine g_imul C dX9_binOf_57 ?_
    refine g_iload C dX9_binOf_58 6 rfl ?_
    refine g_iadd C dX9_binOf_60 ?_
    obtain ⟨h3, ok⟩ := gd_ok ok
    refine q_ald C ai_46 h3 dX9_binOf_61 ?_
    refine g_aload_n C dX9_binOf_62 rfl 0 rfl ?_
    refine q_X9_26 C dX9_binOf_63 ?_
    refine g_bipush (v := 120) C dX9_binOf_66 (by decide) ?_
    refine g_iload_n C dX9_binOf_68 rfl 1 rfl ?_
    refine g_imul C dX9_binOf_69 ?_
    refine g_iload C dX9_binOf_70 6 rfl ?_
    refine g_iadd C dX9_binOf_72 ?_
    obtain ⟨h4, ok⟩ := gd_ok ok
    refine q_ald C ai_44 h4 dX9_binOf_73 ?_
    refine g_icmp_eq (tgt := 81) C dX9_binOf_74 (by decide) (fun c5 => ?_) (fun c5 => ?_)
    · replace ok := ok_t c5 ok
      refine g_iconst (v := 0) C dX9_binOf_81 (by decide) ?_
      refine g_pick (lv' := [(0, .ref (ad ε 39)), (1, .int x1), (3, .int x3), (4, .int x4), (5, .int x5), (7, .int x7)]) ?_ [0, 1, 2, 3, 4, 6] rfl
      exact t_X9_binOf_82 C K k23 k38 g23 g38 _ _ _ _ _ _ _ _ ok
    · replace ok := ok_f c5 ok
      refine g_iconst (v := 1) C dX9_binOf_77 (by decide) ?_
      refine g_goto (tgt := 82) C dX9_binOf_78 (by decide) ?_
      refine g_pick (lv' := [(0, .ref (ad ε 39)), (1, .int x1), (3, .int x3), (4, .int x4), (5, .int x5), (7, .int x7)]) ?_ [0, 1, 2, 3, 4, 6] rfl
      exact t_X9_binOf_82 C K k23 k38 g23 g38 _ _ _ _ _ _ _ _ ok
def l_X9_binOf_38 (k23 : Int32 → Int32 → Int32 → Int32 → St → Option Rs) : Nat → Int32 → Int32 → Int32 → Int32 → Int32 → Int32 → St → Option Rs
  | 0 => fun _ _ _ _ _ _ _ => none
  | n + 1 => fun x1 x3 x4 x5 x6 x7 σ => b_X9_binOf_38 k23 (l_X9_binOf_38 k23 n) x1 x3 x4 x5 x6 x7 σ
theorem tl_X9_binOf_38 {ε : Et} {κ : Kt} {z : Rs} (C : Cx ε κ cX9_binOf 8 RX9 0) (K : Ret ε κ cX9_binOf (some .int) 0 0 (PI ε z)) (k23 : Int32 → Int32 → Int32 → Int32 → St → Option Rs) (g23 : ∀ (x1 : Int32) (x3 : Int32) (x4 : Int32) (x5 : Int32) (σ : St), k23 x1 x3 x4 x5 σ = some z → G ε κ 0 0 23 [(0, .ref (ad ε 39)), (1, .int x1), (3, .int x3), (4, .int x4), (5, .int x5)] [] (WX ε σ)) : ∀ (n : Nat) (x1 : Int32) (x3 : Int32) (x4 : Int32) (x5 : Int32) (x6 : Int32) (x7 : Int32) (σ : St), l_X9_binOf_38 k23 n x1 x3 x4 x5 x6 x7 σ = some z → G ε κ 0 0 38 [(0, .ref (ad ε 39)), (1, .int x1), (3, .int x3), (4, .int x4), (5, .int x5), (6, .int x6), (7, .int x7)] [] (WX ε σ) := by
  intro n
  induction n with
  | zero =>
    intro x1 x3 x4 x5 x6 x7 σ ok
    cases ok
  | succ n ih =>
    intro x1 x3 x4 x5 x6 x7 σ ok
    exact t_X9_binOf_38 C K k23 (l_X9_binOf_38 k23 n) g23 ih x1 x3 x4 x5 x6 x7 σ ok
def b_X9_binOf_23 (k23 : Int32 → Int32 → Int32 → Int32 → St → Option Rs) (x1 : Int32) (x3 : Int32) (x4 : Int32) (x5 : Int32) (σ : St) : Option Rs := (if (σ.1 39 12) ≤ x5 then some (x4, σ) else l_X9_binOf_38 k23 FU x1 x3 x4 x5 (0 : Int32) (0 : Int32) σ)
set_option maxRecDepth 10000 in
set_option maxHeartbeats 1000000 in
theorem t_X9_binOf_23 {ε : Et} {κ : Kt} {z : Rs} (C : Cx ε κ cX9_binOf 8 RX9 0) (K : Ret ε κ cX9_binOf (some .int) 0 0 (PI ε z)) (k23 : Int32 → Int32 → Int32 → Int32 → St → Option Rs) (g23 : ∀ (x1 : Int32) (x3 : Int32) (x4 : Int32) (x5 : Int32) (σ : St), k23 x1 x3 x4 x5 σ = some z → G ε κ 0 0 23 [(0, .ref (ad ε 39)), (1, .int x1), (3, .int x3), (4, .int x4), (5, .int x5)] [] (WX ε σ)) (x1 : Int32) (x3 : Int32) (x4 : Int32) (x5 : Int32) (σ : St) (ok : b_X9_binOf_23 k23 x1 x3 x4 x5 σ = some z) : G ε κ 0 0 23 [(0, .ref (ad ε 39)), (1, .int x1), (3, .int x3), (4, .int x4), (5, .int x5)] [] (WX ε σ) := by
  unfold b_X9_binOf_23 at ok
  refine g_iload C dX9_binOf_23 4 rfl ?_
  refine g_aload_n C dX9_binOf_25 rfl 0 rfl ?_
  refine q_X9_118 C dX9_binOf_26 ?_
  refine g_icmp_ge (tgt := 112) C dX9_binOf_29 (by decide) (fun c1 => ?_) (fun c1 => ?_)
  · replace ok := ok_t c1 ok
    refine g_iload C dX9_binOf_112 3 rfl ?_
    exact K.2 .int _ _ _ _ rfl dX9_binOf_114 rfl (pi_ok ok)
  · replace ok := ok_f c1 ok
    refine g_iconst (v := 0) C dX9_binOf_32 (by decide) ?_
    refine g_istore C [(6, .int (0 : Int32)), (0, .ref (ad ε 39)), (1, .int x1), (3, .int x3), (4, .int x4), (5, .int x5)] dX9_binOf_33 (by decide) rfl ?_
    refine g_iconst (v := 0) C dX9_binOf_35 (by decide) ?_
    refine g_istore C [(7, .int (0 : Int32)), (6, .int (0 : Int32)), (0, .ref (ad ε 39)), (1, .int x1), (3, .int x3), (4, .int x4), (5, .int x5)] dX9_binOf_36 (by decide) rfl ?_
    refine g_pick (lv' := [(0, .ref (ad ε 39)), (1, .int x1), (3, .int x3), (4, .int x4), (5, .int x5), (6, .int (0 : Int32)), (7, .int (0 : Int32))]) ?_ [2, 3, 4, 5, 6, 1, 0] rfl
    exact tl_X9_binOf_38 C K k23 g23 FU _ _ _ _ _ _ _ ok
def l_X9_binOf_23 : Nat → Int32 → Int32 → Int32 → Int32 → St → Option Rs
  | 0 => fun _ _ _ _ _ => none
  | n + 1 => fun x1 x3 x4 x5 σ => b_X9_binOf_23 (l_X9_binOf_23 n) x1 x3 x4 x5 σ
theorem tl_X9_binOf_23 {ε : Et} {κ : Kt} {z : Rs} (C : Cx ε κ cX9_binOf 8 RX9 0) (K : Ret ε κ cX9_binOf (some .int) 0 0 (PI ε z)) : ∀ (n : Nat) (x1 : Int32) (x3 : Int32) (x4 : Int32) (x5 : Int32) (σ : St), l_X9_binOf_23 n x1 x3 x4 x5 σ = some z → G ε κ 0 0 23 [(0, .ref (ad ε 39)), (1, .int x1), (3, .int x3), (4, .int x4), (5, .int x5)] [] (WX ε σ) := by
  intro n
  induction n with
  | zero =>
    intro x1 x3 x4 x5 σ ok
    cases ok
  | succ n ih =>
    intro x1 x3 x4 x5 σ ok
    exact t_X9_binOf_23 C K (l_X9_binOf_23 n) ih x1 x3 x4 x5 σ ok
def f_X9_binOf (x1 : Int32) (x2 : Int32) (x3 : Int32) (σ : St) : Option Rs := gd (inb x1 (ln 43)) ((if ((σ.1 39 13) + x2) ≤ (σ.2.1 43 x1.toNatClampNeg) then l_X9_binOf_23 FU x1 x3 (-1 : Int32) (0 : Int32) σ else some ((-1 : Int32), σ)))
set_option maxRecDepth 10000 in
set_option maxHeartbeats 1000000 in
theorem tf_X9_binOf {ε : Et} {κ : Kt} {z : Rs} (C : Cx ε κ cX9_binOf 8 RX9 0) (K : Ret ε κ cX9_binOf (some .int) 0 0 (PI ε z)) (x1 : Int32) (x2 : Int32) (x3 : Int32) (σ : St) (ok : f_X9_binOf x1 x2 x3 σ = some z) : G ε κ 0 0 0 [(0, .ref (ad ε 39)), (1, .int x1), (2, .int x2), (3, .int x3)] [] (WX ε σ) := by
  unfold f_X9_binOf at ok
  refine g_iconst (v := -1) C dX9_binOf_0 (by decide) ?_
  refine g_istore C [(4, .int (-1 : Int32)), (0, .ref (ad ε 39)), (1, .int x1), (2, .int x2), (3, .int x3)] dX9_binOf_1 (by decide) rfl ?_
  refine g_aload_n C dX9_binOf_3 rfl 1 rfl ?_
  refine q_X9_23 C dX9_binOf_4 ?_
  refine g_iload_n C dX9_binOf_7 rfl 2 rfl ?_
  obtain ⟨h1, ok⟩ := gd_ok ok
  refine q_ald C ai_43 h1 dX9_binOf_8 ?_
  refine g_aload_n C dX9_binOf_9 rfl 1 rfl ?_
  refine q_X9_121 C dX9_binOf_10 ?_
  refine g_iload_n C dX9_binOf_13 rfl 3 rfl ?_
  refine g_iadd C dX9_binOf_14 ?_
  refine g_icmp_ge (tgt := 20) C dX9_binOf_15 (by decide) (fun c2 => ?_) (fun c2 => ?_)
  · replace ok := ok_t c2 ok
    refine g_iconst (v := 0) C dX9_binOf_20 (by decide) ?_
    refine g_istore C [(5, .int (0 : Int32)), (4, .int (-1 : Int32)), (0, .ref (ad ε 39)), (1, .int x1), (2, .int x2), (3, .int x3)] dX9_binOf_21 (by decide) rfl ?_
    refine g_pick (lv' := [(0, .ref (ad ε 39)), (1, .int x1), (3, .int x3), (4, .int (-1 : Int32)), (5, .int (0 : Int32))]) ?_ [2, 3, 5, 1, 0] rfl
    exact tl_X9_binOf_23 C K FU _ _ _ _ _ ok
  · replace ok := ok_f c2 ok
    refine g_iconst (v := -1) C dX9_binOf_18 (by decide) ?_
    exact K.2 .int _ _ _ _ rfl dX9_binOf_19 rfl (pi_ok ok)
theorem c_X9_binOf {l : Launch} {ε : Et} {σ : St} {z : Rs} {x1 : Int32} {x2 : Int32} {x3 : Int32} (e : f_X9_binOf x1 x2 x3 σ = some z) : RM l ε yX9_binOf cX9_binOf 8 (some .int) 0 0 0 [.ref (ad ε 39), .int x1, .int x2, .int x3] (WX ε σ) (PI ε z) := RM.of (by decide) (Nat.le_of_ble_eq_true rfl) (fun κ C K => tf_X9_binOf C K x1 x2 x3 σ e)
def b_X9_cutAdapter_133 (σ : St) : Option Rs := some ((0 : Int32), σ)
set_option maxRecDepth 10000 in
set_option maxHeartbeats 1000000 in
theorem t_X9_cutAdapter_133 {ε : Et} {κ : Kt} {z : Rs} (C : Cx ε κ cX9_cutAdapter 6 RX9 0) (K : Ret ε κ cX9_cutAdapter none 0 0 (PV ε z)) (σ : St) (ok : b_X9_cutAdapter_133 σ = some z) : G ε κ 0 0 133 [] [] (WX ε σ) := by
  unfold b_X9_cutAdapter_133 at ok
  exact K.1 rfl _ _ _ dX9_cutAdapter_133 (pv_ok ok)
def b_X9_cutAdapter_127 (k7 : Int32 → Int32 → St → Option Rs) (x1 : Int32) (x2 : Int32) (σ : St) : Option Rs := nx (x2 + (1 : Int32)) (fun y1 => k7 x1 y1 σ)
set_option maxRecDepth 10000 in
set_option maxHeartbeats 1000000 in
theorem t_X9_cutAdapter_127 {ε : Et} {κ : Kt} {z : Rs} (C : Cx ε κ cX9_cutAdapter 6 RX9 0) (K : Ret ε κ cX9_cutAdapter none 0 0 (PV ε z)) (k7 : Int32 → Int32 → St → Option Rs) (g7 : ∀ (x1 : Int32) (x2 : Int32) (σ : St), k7 x1 x2 σ = some z → G ε κ 0 0 7 [(0, .ref (ad ε 39)), (1, .int x1), (2, .int x2)] [] (WX ε σ)) (x1 : Int32) (x2 : Int32) (σ : St) (ok : b_X9_cutAdapter_127 k7 x1 x2 σ = some z) : G ε κ 0 0 127 [(0, .ref (ad ε 39)), (1, .int x1), (2, .int x2)] [] (WX ε σ) := by
  unfold b_X9_cutAdapter_127 at ok
  obtain ⟨y1, e2⟩ : ∃ y : Int32, y = (x2 + (1 : Int32)) := ⟨_, rfl⟩
  replace ok := nx_ok ok y1 e2
  refine g_iinc (v := y1) C [(2, .int y1), (0, .ref (ad ε 39)), (1, .int x1)] dX9_cutAdapter_127 2 rfl (by rw [e2]; rfl) (by decide) rfl ?_
  refine g_goto (tgt := 7) C dX9_cutAdapter_130 (by decide) ?_
  refine g_pick (lv' := [(0, .ref (ad ε 39)), (1, .int x1), (2, .int y1)]) ?_ [1, 2, 0] rfl
  exact g7 _ _ _ ok
def b_X9_cutAdapter_98 (k7 : Int32 → Int32 → St → Option Rs) (k61 : Int32 → Int32 → Int32 → Int32 → Int32 → St → Option Rs) (x1 : Int32) (x2 : Int32) (x3 : Int32) (x5 : Int32) (t0 : Int32) (t1 : Int32) (σ : St) : Option Rs := nx (t1 + t0) (fun y1 => nx (x5 + (1 : Int32)) (fun y3 => k61 x1 x2 x3 y1 y3 σ))
set_option maxRecDepth 10000 in
set_option maxHeartbeats 1000000 in
theorem t_X9_cutAdapter_98 {ε : Et} {κ : Kt} {z : Rs} (C : Cx ε κ cX9_cutAdapter 6 RX9 0) (K : Ret ε κ cX9_cutAdapter none 0 0 (PV ε z)) (k7 : Int32 → Int32 → St → Option Rs) (k61 : Int32 → Int32 → Int32 → Int32 → Int32 → St → Option Rs) (g7 : ∀ (x1 : Int32) (x2 : Int32) (σ : St), k7 x1 x2 σ = some z → G ε κ 0 0 7 [(0, .ref (ad ε 39)), (1, .int x1), (2, .int x2)] [] (WX ε σ)) (g61 : ∀ (x1 : Int32) (x2 : Int32) (x3 : Int32) (x4 : Int32) (x5 : Int32) (σ : St), k61 x1 x2 x3 x4 x5 σ = some z → G ε κ 0 0 61 [(0, .ref (ad ε 39)), (1, .int x1), (2, .int x2), (3, .int x3), (4, .int x4), (5, .int x5)] [] (WX ε σ)) (x1 : Int32) (x2 : Int32) (x3 : Int32) (x5 : Int32) (t0 : Int32) (t1 : Int32) (σ : St) (ok : b_X9_cutAdapter_98 k7 k61 x1 x2 x3 x5 t0 t1 σ = some z) : G ε κ 0 0 98 [(0, .ref (ad ε 39)), (1, .int x1), (2, .int x2), (3, .int x3), (5, .int x5)] [.int t0, .int t1] (WX ε σ) := by
  unfold b_X9_cutAdapter_98 at ok
  refine g_iadd C dX9_cutAdapter_98 ?_
  refine q_nm (fun y1 e2 => ?_)
  replace ok := nx_ok ok y1 e2
  refine g_istore C [(4, .int y1), (0, .ref (ad ε 39)), (1, .int x1), (2, .int x2), (3, .int x3), (5, .int x5)] dX9_cutAdapter_99 (by decide) rfl ?_
  obtain ⟨y3, e4⟩ : ∃ y : Int32, y = (x5 + (1 : Int32)) := ⟨_, rfl⟩
  replace ok := nx_ok ok y3 e4
  refine g_iinc (v := y3) C [(5, .int y3), (4, .int y1), (0, .ref (ad ε 39)), (1, .int x1), (2, .int x2), (3, .int x3)] dX9_cutAdapter_101 5 rfl (by rw [e4]; rfl) (by decide) rfl ?_
  refine g_goto (tgt := 61) C dX9_cutAdapter_104 (by decide) ?_
  refine g_pick (lv' := [(0, .ref (ad ε 39)), (1, .int x1), (2, .int x2), (3, .int x3), (4, .int y1), (5, .int y3)]) ?_ [2, 3, 4, 5, 1, 0] rfl
  exact g61 _ _ _ _ _ _ ok
def b_X9_cutAdapter_61 (k7 : Int32 → Int32 → St → Option Rs) (k61 : Int32 → Int32 → Int32 → Int32 → Int32 → St → Option Rs) (x1 : Int32) (x2 : Int32) (x3 : Int32) (x4 : Int32) (x5 : Int32) (σ : St) : Option Rs := (if x3 ≤ x5 then (if x3 < (3 : Int32) then b_X9_cutAdapter_127 k7 x1 x2 σ else (if (x3 / (5 : Int32)) < x4 then b_X9_cutAdapter_127 k7 x1 x2 σ else gd (inb x1 (ln 50)) (nx (sA σ 50 x1 x2) (fun s5 => b_X9_cutAdapter_127 k7 x1 x2 s5)))) else gd (inb ((((120 : Int32) * x1) + x2) + x5) (ln 44)) (gd (inb x5 (ln 47)) ((if (σ.2.1 44 ((((120 : Int32) * x1) + x2) + x5).toNatClampNeg) = (σ.2.1 47 x5.toNatClampNeg) then b_X9_cutAdapter_98 k7 k61 x1 x2 x3 x5 (0 : Int32) x4 σ else b_X9_cutAdapter_98 k7 k61 x1 x2 x3 x5 (1 : Int32) x4 σ))))
set_option maxRecDepth 10000 in
set_option maxHeartbeats 1000000 in
theorem t_X9_cutAdapter_61 {ε : Et} {κ : Kt} {z : Rs} (C : Cx ε κ cX9_cutAdapter 6 RX9 0) (K : Ret ε κ cX9_cutAdapter none 0 0 (PV ε z)) (k7 : Int32 → Int32 → St → Option Rs) (k61 : Int32 → Int32 → Int32 → Int32 → Int32 → St → Option Rs) (g7 : ∀ (x1 : Int32) (x2 : Int32) (σ : St), k7 x1 x2 σ = some z → G ε κ 0 0 7 [(0, .ref (ad ε 39)), (1, .int x1), (2, .int x2)] [] (WX ε σ)) (g61 : ∀ (x1 : Int32) (x2 : Int32) (x3 : Int32) (x4 : Int32) (x5 : Int32) (σ : St), k61 x1 x2 x3 x4 x5 σ = some z → G ε κ 0 0 61 [(0, .ref (ad ε 39)), (1, .int x1), (2, .int x2), (3, .int x3), (4, .int x4), (5, .int x5)] [] (WX ε σ)) (x1 : Int32) (x2 : Int32) (x3 : Int32) (x4 : Int32) (x5 : Int32) (σ : St) (ok : b_X9_cutAdapter_61 k7 k61 x1 x2 x3 x4 x5 σ = some z) : G ε κ 0 0 61 [(0, .ref (ad ε 39)), (1, .int x1), (2, .int x2), (3, .int x3), (4, .int x4), (5, .int x5)] [] (WX ε σ) := by
  unfold b_X9_cutAdapter_61 at ok
  refine g_iload C dX9_cutAdapter_61 5 rfl ?_
  refine g_iload_n C dX9_cutAdapter_63 rfl 3 rfl ?_
  refine g_icmp_ge (tgt := 107) C dX9_cutAdapter_64 (by decide) (fun c1 => ?_) (fun c1 => ?_)
  · replace ok := ok_t c1 ok
    refine g_iload_n C dX9_cutAdapter_107 rfl 3 rfl ?_
    refine g_iconst (v := 3) C dX9_cutAdapter_108 (by decide) ?_
    refine g_icmp_lt (tgt := 127) C dX9_cutAdapter_109 (by decide) (fun c2 => ?_) (fun c2 => ?_)
    · replace ok := ok_t c2 ok
      refine g_pick (lv' := [(0, .ref (ad ε 39)), (1, .int x1), (2, .int x2)]) ?_ [0, 1, 2] rfl
      exact t_X9_cutAdapter_127 C K k7 g7 _ _ _ ok
    · replace ok := ok_f c2 ok
      refine g_iload C dX9_cutAdapter_112 4 rfl ?_
      refine g_iload_n C dX9_cutAdapter_114 rfl 3 rfl ?_
      refine g_iconst (v := 5) C dX9_cutAdapter_115 (by decide) ?_
      refine g_idiv C dX9_cutAdapter_116 (by decide) ?_
      refine g_icmp_gt (tgt := 127) C dX9_cutAdapter_117 (by decide) (fun c3 => ?_) (fun c3 => ?_)
      · replace ok := ok_t c3 ok
        refine g_pick (lv' := [(0, .ref (ad ε 39)), (1, .int x1), (2, .int x2)]) ?_ [0, 1, 2] rfl
        exact t_X9_cutAdapter_127 C K k7 g7 _ _ _ ok
      · replace ok := ok_f c3 ok
        refine g_aload_n C dX9_cutAdapter_120 rfl 0 rfl ?_
        refine q_X9_47 C dX9_cutAdapter_121 ?_
        refine g_iload_n C dX9_cutAdapter_124 rfl 1 rfl ?_
        refine g_iload_n C dX9_cutAdapter_125 rfl 2 rfl ?_
        obtain ⟨h4, ok⟩ := gd_ok ok
        refine q_ast C ai_50 h4 dX9_cutAdapter_126 (fun s5 e6 => ?_)
        replace ok := nx_ok ok s5 e6
        refine g_pick (lv' := [(0, .ref (ad ε 39)), (1, .int x1), (2, .int x2)]) ?_ [0, 1, 2] rfl
        exact t_X9_cutAdapter_127 C K k7 g7 _ _ _ ok
  · replace ok := ok_f c1 ok
    refine g_iload C dX9_cutAdapter_67 4 rfl ?_
    refine g_aload_n C dX9_cutAdapter_69 rfl 0 rfl ?_
    refine q_X9_26 C dX9_cutAdapter_70 ?_
    refine g_bipush (v := 120) C dX9_cutAdapter_73 (by decide) ?_
    refine g_iload_n C dX9_cutAdapter_75 rfl 1 rfl ?_
    refine g_imul C dX9_cutAdapter_76 ?_
    refine g_iload_n C dX9_cutAdapter_77 rfl 2 rfl ?_
    refine g_iadd C dX9_cutAdapter_78 ?_
    refine g_iload C dX9_cutAdapter_79 5 rfl ?_
    refine g_iadd C dX9_cutAdapter_81 ?_
    obtain ⟨h7, ok⟩ := gd_ok ok
    refine q_ald C ai_44 h7 dX9_cutAdapter_82 ?_
    refine g_aload_n C dX9_cutAdapter_83 rfl 0 rfl ?_
    refine q_X9_35 C dX9_cutAdapter_84 ?_
    refine g_iload C dX9_cutAdapter_87 5 rfl ?_
    obtain ⟨h8, ok⟩ := gd_ok ok
    refine q_ald C ai_47 h8 dX9_cutAdapter_89 ?_
    refine g_icmp_eq (tgt := 97) C dX9_cutAdapter_90 (by decide) (fun c9 => ?_) (fun c9 => ?_)
    · replace ok := ok_t c9 ok
      refine g_iconst (v := 0) C dX9_cutAdapter_97 (by decide) ?_
      refine g_pick (lv' := [(0, .ref (ad ε 39)), (1, .int x1), (2, .int x2), (3, .int x3), (5, .int x5)]) ?_ [0, 1, 2, 3, 5] rfl
      exact t_X9_cutAdapter_98 C K k7 k61 g7 g61 _ _ _ _ _ _ _ ok
    · replace ok := ok_f c9 ok
      refine g_iconst (v := 1) C dX9_cutAdapter_93 (by decide) ?_
      refine g_goto (tgt := 98) C dX9_cutAdapter_94 (by decide) ?_
      refine g_pick (lv' := [(0, .ref (ad ε 39)), (1, .int x1), (2, .int x2), (3, .int x3), (5, .int x5)]) ?_ [0, 1, 2, 3, 5] rfl
      exact t_X9_cutAdapter_98 C K k7 k61 g7 g61 _ _ _ _ _ _ _ ok
def l_X9_cutAdapter_61 (k7 : Int32 → Int32 → St → Option Rs) : Nat → Int32 → Int32 → Int32 → Int32 → Int32 → St → Option Rs
  | 0 => fun _ _ _ _ _ _ => none
  | n + 1 => fun x1 x2 x3 x4 x5 σ => b_X9_cutAdapter_61 k7 (l_X9_cutAdapter_61 k7 n) x1 x2 x3 x4 x5 σ
theorem tl_X9_cutAdapter_61 {ε : Et} {κ : Kt} {z : Rs} (C : Cx ε κ cX9_cutAdapter 6 RX9 0) (K : Ret ε κ cX9_cutAdapter none 0 0 (PV ε z)) (k7 : Int32 → Int32 → St → Option Rs) (g7 : ∀ (x1 : Int32) (x2 : Int32) (σ : St), k7 x1 x2 σ = some z → G ε κ 0 0 7 [(0, .ref (ad ε 39)), (1, .int x1), (2, .int x2)] [] (WX ε σ)) : ∀ (n : Nat) (x1 : Int32) (x2 : Int32) (x3 : Int32) (x4 : Int32) (x5 : Int32) (σ : St), l_X9_cutAdapter_61 k7 n x1 x2 x3 x4 x5 σ = some z → G ε κ 0 0 61 [(0, .ref (ad ε 39)), (1, .int x1), (2, .int x2), (3, .int x3), (4, .int x4), (5, .int x5)] [] (WX ε σ) := by
  intro n
  induction n with
  | zero =>
    intro x1 x2 x3 x4 x5 σ ok
    cases ok
  | succ n ih =>
    intro x1 x2 x3 x4 x5 σ ok
    exact t_X9_cutAdapter_61 C K k7 (l_X9_cutAdapter_61 k7 n) g7 ih x1 x2 x3 x4 x5 σ ok
def b_X9_cutAdapter_54 (k7 : Int32 → Int32 → St → Option Rs) (x1 : Int32) (x2 : Int32) (t0 : Int32) (σ : St) : Option Rs := l_X9_cutAdapter_61 k7 FU x1 x2 t0 (0 : Int32) (0 : Int32) σ
set_option maxRecDepth 10000 in
set_option maxHeartbeats 1000000 in
theorem t_X9_cutAdapter_54 {ε : Et} {κ : Kt} {z : Rs} (C : Cx ε κ cX9_cutAdapter 6 RX9 0) (K : Ret ε κ cX9_cutAdapter none 0 0 (PV ε z)) (k7 : Int32 → Int32 → St → Option Rs) (g7 : ∀ (x1 : Int32) (x2 : Int32) (σ : St), k7 x1 x2 σ = some z → G ε κ 0 0 7 [(0, .ref (ad ε 39)), (1, .int x1), (2, .int x2)] [] (WX ε σ)) (x1 : Int32) (x2 : Int32) (t0 : Int32) (σ : St) (ok : b_X9_cutAdapter_54 k7 x1 x2 t0 σ = some z) : G ε κ 0 0 54 [(0, .ref (ad ε 39)), (1, .int x1), (2, .int x2)] [.int t0] (WX ε σ) := by
  unfold b_X9_cutAdapter_54 at ok
  refine g_istore_n C [(3, .int t0), (0, .ref (ad ε 39)), (1, .int x1), (2, .int x2)] dX9_cutAdapter_54 rfl (by decide) rfl ?_
  refine g_iconst (v := 0) C dX9_cutAdapter_55 (by decide) ?_
  refine g_istore C [(4, .int (0 : Int32)), (3, .int t0), (0, .ref (ad ε 39)), (1, .int x1), (2, .int x2)] dX9_cutAdapter_56 (by decide) rfl ?_
  refine g_iconst (v := 0) C dX9_cutAdapter_58 (by decide) ?_
  refine g_istore C [(5, .int (0 : Int32)), (4, .int (0 : Int32)), (3, .int t0), (0, .ref (ad ε 39)), (1, .int x1), (2, .int x2)] dX9_cutAdapter_59 (by decide) rfl ?_
  refine g_pick (lv' := [(0, .ref (ad ε 39)), (1, .int x1), (2, .int x2), (3, .int t0), (4, .int (0 : Int32)), (5, .int (0 : Int32))]) ?_ [3, 4, 5, 2, 1, 0] rfl
  exact tl_X9_cutAdapter_61 C K k7 g7 FU _ _ _ _ _ _ ok
def b_X9_cutAdapter_7 (k7 : Int32 → Int32 → St → Option Rs) (x1 : Int32) (x2 : Int32) (σ : St) : Option Rs := gd (inb x1 (ln 50)) ((if (σ.2.1 50 x1.toNatClampNeg) ≤ x2 then b_X9_cutAdapter_133 σ else (if (σ.1 39 15) ≤ 0 then b_X9_cutAdapter_133 σ else gd (inb x1 (ln 50)) ((if (σ.1 39 15) ≤ ((σ.2.1 50 x1.toNatClampNeg) - x2) then b_X9_cutAdapter_54 k7 x1 x2 (σ.1 39 15) σ else gd (inb x1 (ln 50)) (b_X9_cutAdapter_54 k7 x1 x2 ((σ.2.1 50 x1.toNatClampNeg) - x2) σ))))))
set_option maxRecDepth 10000 in
set_option maxHeartbeats 1000000 in
theorem t_X9_cutAdapter_7 {ε : Et} {κ : Kt} {z : Rs} (C : Cx ε κ cX9_cutAdapter 6 RX9 0) (K : Ret ε κ cX9_cutAdapter none 0 0 (PV ε z)) (k7 : Int32 → Int32 → St → Option Rs) (g7 : ∀ (x1 : Int32) (x2 : Int32) (σ : St), k7 x1 x2 σ = some z → G ε κ 0 0 7 [(0, .ref (ad ε 39)), (1, .int x1), (2, .int x2)] [] (WX ε σ)) (x1 : Int32) (x2 : Int32) (σ : St) (ok : b_X9_cutAdapter_7 k7 x1 x2 σ = some z) : G ε κ 0 0 7 [(0, .ref (ad ε 39)), (1, .int x1), (2, .int x2)] [] (WX ε σ) := by
  unfold b_X9_cutAdapter_7 at ok
  refine g_iload_n C dX9_cutAdapter_7 rfl 2 rfl ?_
  refine g_aload_n C dX9_cutAdapter_8 rfl 0 rfl ?_
  refine q_X9_47 C dX9_cutAdapter_9 ?_
  refine g_iload_n C dX9_cutAdapter_12 rfl 1 rfl ?_
  obtain ⟨h1, ok⟩ := gd_ok ok
  refine q_ald C ai_50 h1 dX9_cutAdapter_13 ?_
  refine g_icmp_ge (tgt := 133) C dX9_cutAdapter_14 (by decide) (fun c2 => ?_) (fun c2 => ?_)
  · replace ok := ok_t c2 ok
    refine g_pick (lv' := []) ?_ [] rfl
    exact t_X9_cutAdapter_133 C K _ ok
  · replace ok := ok_f c2 ok
    refine g_aload_n C dX9_cutAdapter_17 rfl 0 rfl ?_
    refine q_X9_131 C dX9_cutAdapter_18 ?_
    refine g_if_le (tgt := 133) C dX9_cutAdapter_21 (by decide) (fun c3 => ?_) (fun c3 => ?_)
    · replace ok := ok_t c3 ok
      refine g_pick (lv' := []) ?_ [] rfl
      exact t_X9_cutAdapter_133 C K _ ok
    · replace ok := ok_f c3 ok
      refine g_aload_n C dX9_cutAdapter_24 rfl 0 rfl ?_
      refine q_X9_47 C dX9_cutAdapter_25 ?_
      refine g_iload_n C dX9_cutAdapter_28 rfl 1 rfl ?_
      obtain ⟨h4, ok⟩ := gd_ok ok
      refine q_ald C ai_50 h4 dX9_cutAdapter_29 ?_
      refine g_iload_n C dX9_cutAdapter_30 rfl 2 rfl ?_
      refine g_isub C dX9_cutAdapter_31 ?_
      refine g_aload_n C dX9_cutAdapter_32 rfl 0 rfl ?_
      refine q_X9_131 C dX9_cutAdapter_33 ?_
      refine g_icmp_ge (tgt := 50) C dX9_cutAdapter_36 (by decide) (fun c5 => ?_) (fun c5 => ?_)
      · replace ok := ok_t c5 ok
        refine g_aload_n C dX9_cutAdapter_50 rfl 0 rfl ?_
        refine q_X9_131 C dX9_cutAdapter_51 ?_
        exact t_X9_cutAdapter_54 C K k7 g7 _ _ _ _ ok
      · replace ok := ok_f c5 ok
        refine g_aload_n C dX9_cutAdapter_39 rfl 0 rfl ?_
        refine q_X9_47 C dX9_cutAdapter_40 ?_
        refine g_iload_n C dX9_cutAdapter_43 rfl 1 rfl ?_
        obtain ⟨h6, ok⟩ := gd_ok ok
        refine q_ald C ai_50 h6 dX9_cutAdapter_44 ?_
        refine g_iload_n C dX9_cutAdapter_45 rfl 2 rfl ?_
        refine g_isub C dX9_cutAdapter_46 ?_
        refine g_goto (tgt := 54) C dX9_cutAdapter_47 (by decide) ?_
        exact t_X9_cutAdapter_54 C K k7 g7 _ _ _ _ ok
def l_X9_cutAdapter_7 : Nat → Int32 → Int32 → St → Option Rs
  | 0 => fun _ _ _ => none
  | n + 1 => fun x1 x2 σ => b_X9_cutAdapter_7 (l_X9_cutAdapter_7 n) x1 x2 σ
theorem tl_X9_cutAdapter_7 {ε : Et} {κ : Kt} {z : Rs} (C : Cx ε κ cX9_cutAdapter 6 RX9 0) (K : Ret ε κ cX9_cutAdapter none 0 0 (PV ε z)) : ∀ (n : Nat) (x1 : Int32) (x2 : Int32) (σ : St), l_X9_cutAdapter_7 n x1 x2 σ = some z → G ε κ 0 0 7 [(0, .ref (ad ε 39)), (1, .int x1), (2, .int x2)] [] (WX ε σ) := by
  intro n
  induction n with
  | zero =>
    intro x1 x2 σ ok
    cases ok
  | succ n ih =>
    intro x1 x2 σ ok
    exact t_X9_cutAdapter_7 C K (l_X9_cutAdapter_7 n) ih x1 x2 σ ok
def f_X9_cutAdapter (x1 : Int32) (σ : St) : Option Rs := gd (inb x1 (ln 49)) (nx (σ.2.1 49 x1.toNatClampNeg) (fun y2 => l_X9_cutAdapter_7 FU x1 y2 σ))
set_option maxRecDepth 10000 in
set_option maxHeartbeats 1000000 in
theorem tf_X9_cutAdapter {ε : Et} {κ : Kt} {z : Rs} (C : Cx ε κ cX9_cutAdapter 6 RX9 0) (K : Ret ε κ cX9_cutAdapter none 0 0 (PV ε z)) (x1 : Int32) (σ : St) (ok : f_X9_cutAdapter x1 σ = some z) : G ε κ 0 0 0 [(0, .ref (ad ε 39)), (1, .int x1)] [] (WX ε σ) := by
  unfold f_X9_cutAdapter at ok
  refine g_aload_n C dX9_cutAdapter_0 rfl 0 rfl ?_
  refine q_X9_44 C dX9_cutAdapter_1 ?_
  refine g_iload_n C dX9_cutAdapter_4 rfl 1 rfl ?_
  obtain ⟨h1, ok⟩ := gd_ok ok
  refine q_ald C ai_49 h1 dX9_cutAdapter_5 ?_
  refine q_nm (fun y2 e3 => ?_)
  replace ok := nx_ok ok y2 e3
  refine g_istore_n C [(2, .int y2), (0, .ref (ad ε 39)), (1, .int x1)] dX9_cutAdapter_6 rfl (by decide) rfl ?_
  refine g_pick (lv' := [(0, .ref (ad ε 39)), (1, .int x1), (2, .int y2)]) ?_ [1, 2, 0] rfl
  exact tl_X9_cutAdapter_7 C K FU _ _ _ ok
theorem c_X9_cutAdapter {l : Launch} {ε : Et} {σ : St} {z : Rs} {x1 : Int32} (e : f_X9_cutAdapter x1 σ = some z) : RM l ε yX9_cutAdapter cX9_cutAdapter 6 none 0 0 0 [.ref (ad ε 39), .int x1] (WX ε σ) (PV ε z) := RM.of (by decide) (Nat.le_of_ble_eq_true rfl) (fun κ C K => tf_X9_cutAdapter C K x1 σ e)
def b_X9_cutQualities_198 (x1 : Int32) (x5 : Int32) (σ : St) : Option Rs := gd (inb x1 (ln 49)) (nx (sA σ 49 x1 x5) (fun s2 => some ((0 : Int32), s2)))
set_option maxRecDepth 10000 in
set_option maxHeartbeats 1000000 in
theorem t_X9_cutQualities_198 {ε : Et} {κ : Kt} {z : Rs} (C : Cx ε κ cX9_cutQualities 7 RX9 0) (K : Ret ε κ cX9_cutQualities none 0 0 (PV ε z)) (x1 : Int32) (x5 : Int32) (σ : St) (ok : b_X9_cutQualities_198 x1 x5 σ = some z) : G ε κ 0 0 198 [(0, .ref (ad ε 39)), (1, .int x1), (5, .int x5)] [] (WX ε σ) := by
  unfold b_X9_cutQualities_198 at ok
  refine g_aload_n C dX9_cutQualities_198 rfl 0 rfl ?_
  refine q_X9_44 C dX9_cutQualities_199 ?_
  refine g_iload_n C dX9_cutQualities_202 rfl 1 rfl ?_
  refine g_iload C dX9_cutQualities_203 2 rfl ?_
  obtain ⟨h1, ok⟩ := gd_ok ok
  refine q_ast C ai_49 h1 dX9_cutQualities_205 (fun s2 e3 => ?_)
  replace ok := nx_ok ok s2 e3
  exact K.1 rfl _ _ _ dX9_cutQualities_206 (pv_ok ok)
def b_X9_cutQualities_191 (k123 : Int32 → Int32 → Int32 → Int32 → Int32 → St → Option Rs) (x1 : Int32) (x2 : Int32) (x5 : Int32) (x6 : Int32) (t0 : Int32) (σ : St) : Option Rs := nx (x6 + (1 : Int32)) (fun y1 => k123 x1 x2 t0 x5 y1 σ)
set_option maxRecDepth 10000 in
set_option maxHeartbeats 1000000 in
theorem t_X9_cutQualities_191 {ε : Et} {κ : Kt} {z : Rs} (C : Cx ε κ cX9_cutQualities 7 RX9 0) (K : Ret ε κ cX9_cutQualities none 0 0 (PV ε z)) (k123 : Int32 → Int32 → Int32 → Int32 → Int32 → St → Option Rs) (g123 : ∀ (x1 : Int32) (x2 : Int32) (x3 : Int32) (x5 : Int32) (x6 : Int32) (σ : St), k123 x1 x2 x3 x5 x6 σ = some z → G ε κ 0 0 123 [(0, .ref (ad ε 39)), (1, .int x1), (2, .int x2), (3, .int x3), (5, .int x5), (6, .int x6)] [] (WX ε σ)) (x1 : Int32) (x2 : Int32) (x5 : Int32) (x6 : Int32) (t0 : Int32) (σ : St) (ok : b_X9_cutQualities_191 k123 x1 x2 x5 x6 t0 σ = some z) : G ε κ 0 0 191 [(0, .ref (ad ε 39)), (1, .int x1), (2, .int x2), (5, .int x5), (6, .int x6)] [.int t0] (WX ε σ) := by
  unfold b_X9_cutQualities_191 at ok
  refine g_istore_n C [(3, .int t0), (0, .ref (ad ε 39)), (1, .int x1), (2, .int x2), (5, .int x5), (6, .int x6)] dX9_cutQualities_191 rfl (by decide) rfl ?_
  obtain ⟨y1, e2⟩ : ∃ y : Int32, y = (x6 + (1 : Int32)) := ⟨_, rfl⟩
  replace ok := nx_ok ok y1 e2
  refine g_iinc (v := y1) C [(6, .int y1), (3, .int t0), (0, .ref (ad ε 39)), (1, .int x1), (2, .int x2), (5, .int x5)] dX9_cutQualities_192 5 rfl (by rw [e2]; rfl) (by decide) rfl ?_
  refine g_goto (tgt := 123) C dX9_cutQualities_195 (by decide) ?_
  refine g_pick (lv' := [(0, .ref (ad ε 39)), (1, .int x1), (2, .int x2), (3, .int t0), (5, .int x5), (6, .int y1)]) ?_ [2, 3, 4, 1, 5, 0] rfl
  exact g123 _ _ _ _ _ _ ok
def b_X9_cutQualities_179 (k123 : Int32 → Int32 → Int32 → Int32 → Int32 → St → Option Rs) (x1 : Int32) (x2 : Int32) (x3 : Int32) (x6 : Int32) (t0 : Int32) (σ : St) : Option Rs := (if x2 ≤ x3 then b_X9_cutQualities_191 k123 x1 x2 t0 x6 x3 σ else b_X9_cutQualities_191 k123 x1 x2 t0 x6 x2 σ)
set_option maxRecDepth 10000 in
set_option maxHeartbeats 1000000 in
theorem t_X9_cutQualities_179 {ε : Et} {κ : Kt} {z : Rs} (C : Cx ε κ cX9_cutQualities 7 RX9 0) (K : Ret ε κ cX9_cutQualities none 0 0 (PV ε z)) (k123 : Int32 → Int32 → Int32 → Int32 → Int32 → St → Option Rs) (g123 : ∀ (x1 : Int32) (x2 : Int32) (x3 : Int32) (x5 : Int32) (x6 : Int32) (σ : St), k123 x1 x2 x3 x5 x6 σ = some z → G ε κ 0 0 123 [(0, .ref (ad ε 39)), (1, .int x1), (2, .int x2), (3, .int x3), (5, .int x5), (6, .int x6)] [] (WX ε σ)) (x1 : Int32) (x2 : Int32) (x3 : Int32) (x6 : Int32) (t0 : Int32) (σ : St) (ok : b_X9_cutQualities_179 k123 x1 x2 x3 x6 t0 σ = some z) : G ε κ 0 0 179 [(0, .ref (ad ε 39)), (1, .int x1), (2, .int x2), (3, .int x3), (6, .int x6)] [.int t0] (WX ε σ) := by
  unfold b_X9_cutQualities_179 at ok
  refine g_istore C [(5, .int t0), (0, .ref (ad ε 39)), (1, .int x1), (2, .int x2), (3, .int x3), (6, .int x6)] dX9_cutQualities_179 (by decide) rfl ?_
  refine g_iload_n C dX9_cutQualities_181 rfl 3 rfl ?_
  refine g_iload_n C dX9_cutQualities_182 rfl 4 rfl ?_
  refine g_icmp_le (tgt := 190) C dX9_cutQualities_183 (by decide) (fun c1 => ?_) (fun c1 => ?_)
  · replace ok := ok_t c1 ok
    refine g_iload_n C dX9_cutQualities_190 rfl 4 rfl ?_
    refine g_pick (lv' := [(0, .ref (ad ε 39)), (1, .int x1), (2, .int x2), (5, .int t0), (6, .int x6)]) ?_ [1, 2, 3, 0, 5] rfl
    exact t_X9_cutQualities_191 C K k123 g123 _ _ _ _ _ _ ok
  · replace ok := ok_f c1 ok
    refine g_iload_n C dX9_cutQualities_186 rfl 3 rfl ?_
    refine g_goto (tgt := 191) C dX9_cutQualities_187 (by decide) ?_
    refine g_pick (lv' := [(0, .ref (ad ε 39)), (1, .int x1), (2, .int x2), (5, .int t0), (6, .int x6)]) ?_ [1, 2, 3, 0, 5] rfl
    exact t_X9_cutQualities_191 C K k123 g123 _ _ _ _ _ _ ok
def b_X9_cutQualities_123 (k123 : Int32 → Int32 → Int32 → Int32 → Int32 → St → Option Rs) (x1 : Int32) (x2 : Int32) (x3 : Int32) (x5 : Int32) (x6 : Int32) (σ : St) : Option Rs := gd (inb x1 (ln 50)) ((if (σ.2.1 50 x1.toNatClampNeg) ≤ x6 then b_X9_cutQualities_198 x1 x5 σ else (if (σ.1 39 16) ≤ 0 then b_X9_cutQualities_198 x1 x5 σ else (if x2 < 0 then b_X9_cutQualities_198 x1 x5 σ else gd (inb (((120 : Int32) * x1) + x6) (ln 45)) (nx (x2 + ((σ.1 39 16) - (σ.2.1 45 (((120 : Int32) * x1) + x6).toNatClampNeg))) (fun y6 => (if y6 ≤ x3 then b_X9_cutQualities_179 k123 x1 y6 x3 x6 x5 σ else b_X9_cutQualities_179 k123 x1 y6 x3 x6 (x6 + (1 : Int32)) σ)))))))
set_option maxRecDepth 10000 in
set_option maxHeartbeats 1000000 in
theorem t_X9_cutQualities_123 {ε : Et} {κ : Kt} {z : Rs} (C : Cx ε κ cX9_cutQualities 7 RX9 0) (K : Ret ε κ cX9_cutQualities none 0 0 (PV ε z)) (k123 : Int32 → Int32 → Int32 → Int32 → Int32 → St → Option Rs) (g123 : ∀ (x1 : Int32) (x2 : Int32) (x3 : Int32) (x5 : Int32) (x6 : Int32) (σ : St), k123 x1 x2 x3 x5 x6 σ = some z → G ε κ 0 0 123 [(0, .ref (ad ε 39)), (1, .int x1), (2, .int x2), (3, .int x3), (5, .int x5), (6, .int x6)] [] (WX ε σ)) (x1 : Int32) (x2 : Int32) (x3 : Int32) (x5 : Int32) (x6 : Int32) (σ : St) (ok : b_X9_cutQualities_123 k123 x1 x2 x3 x5 x6 σ = some z) : G ε κ 0 0 123 [(0, .ref (ad ε 39)), (1, .int x1), (2, .int x2), (3, .int x3), (5, .int x5), (6, .int x6)] [] (WX ε σ) := by
  unfold b_X9_cutQualities_123 at ok
  refine g_iload C dX9_cutQualities_123 5 rfl ?_
  refine g_aload_n C dX9_cutQualities_125 rfl 0 rfl ?_
  refine q_X9_47 C dX9_cutQualities_126 ?_
  refine g_iload_n C dX9_cutQualities_129 rfl 1 rfl ?_
  obtain ⟨h1, ok⟩ := gd_ok ok
  refine q_ald C ai_50 h1 dX9_cutQualities_130 ?_
  refine g_icmp_ge (tgt := 198) C dX9_cutQualities_131 (by decide) (fun c2 => ?_) (fun c2 => ?_)
  · replace ok := ok_t c2 ok
    refine g_pick (lv' := [(0, .ref (ad ε 39)), (1, .int x1), (5, .int x5)]) ?_ [0, 1, 4] rfl
    exact t_X9_cutQualities_198 C K _ _ _ ok
  · replace ok := ok_f c2 ok
    refine g_aload_n C dX9_cutQualities_134 rfl 0 rfl ?_
    refine q_X9_134 C dX9_cutQualities_135 ?_
    refine g_if_le (tgt := 198) C dX9_cutQualities_138 (by decide) (fun c3 => ?_) (fun c3 => ?_)
    · replace ok := ok_t c3 ok
      refine g_pick (lv' := [(0, .ref (ad ε 39)), (1, .int x1), (5, .int x5)]) ?_ [0, 1, 4] rfl
      exact t_X9_cutQualities_198 C K _ _ _ ok
    · replace ok := ok_f c3 ok
      refine g_iload_n C dX9_cutQualities_141 rfl 2 rfl ?_
      refine g_if_lt (tgt := 198) C dX9_cutQualities_142 (by decide) (fun c4 => ?_) (fun c4 => ?_)
      · replace ok := ok_t c4 ok
        refine g_pick (lv' := [(0, .ref (ad ε 39)), (1, .int x1), (5, .int x5)]) ?_ [0, 1, 4] rfl
        exact t_X9_cutQualities_198 C K _ _ _ ok
      · replace ok := ok_f c4 ok
        refine g_iload_n C dX9_cutQualities_145 rfl 2 rfl ?_
        refine g_aload_n C dX9_cutQualities_146 rfl 0 rfl ?_
        refine q_X9_134 C dX9_cutQualities_147 ?_
        refine g_aload_n C dX9_cutQualities_150 rfl 0 rfl ?_
        refine q_X9_29 C dX9_cutQualities_151 ?_
        refine g_bipush (v := 120) C dX9_cutQualities_154 (by decide) ?_
        refine g_iload_n C dX9_cutQualities_156 rfl 1 rfl ?_
        refine g_imul C dX9_cutQualities_157 ?_
        refine g_iload C dX9_cutQualities_158 5 rfl ?_
        refine g_iadd C dX9_cutQualities_160 ?_
        obtain ⟨h5, ok⟩ := gd_ok ok
        refine q_ald C ai_45 h5 dX9_cutQualities_161 ?_
        refine g_isub C dX9_cutQualities_162 ?_
        refine g_iadd C dX9_cutQualities_163 ?_
        refine q_nm (fun y6 e7 => ?_)
        replace ok := nx_ok ok y6 e7
        refine g_istore_n C [(2, .int y6), (0, .ref (ad ε 39)), (1, .int x1), (3, .int x3), (5, .int x5), (6, .int x6)] dX9_cutQualities_164 rfl (by decide) rfl ?_
        refine g_iload_n C dX9_cutQualities_165 rfl 0 rfl ?_
        refine g_iload_n C dX9_cutQualities_166 rfl 3 rfl ?_
        refine g_icmp_le (tgt := 177) C dX9_cutQualities_167 (by decide) (fun c8 => ?_) (fun c8 => ?_)
        · replace ok := ok_t c8 ok
          refine g_iload C dX9_cutQualities_177 4 rfl ?_
          refine g_pick (lv' := [(0, .ref (ad ε 39)), (1, .int x1), (2, .int y6), (3, .int x3), (6, .int x6)]) ?_ [1, 2, 0, 3, 5] rfl
          exact t_X9_cutQualities_179 C K k123 g123 _ _ _ _ _ _ ok
        · replace ok := ok_f c8 ok
          refine g_iload C dX9_cutQualities_170 5 rfl ?_
          refine g_iconst (v := 1) C dX9_cutQualities_172 (by decide) ?_
          refine g_iadd C dX9_cutQualities_173 ?_
          refine g_goto (tgt := 179) C dX9_cutQualities_174 (by decide) ?_
          refine g_pick (lv' := [(0, .ref (ad ε 39)), (1, .int x1), (2, .int y6), (3, .int x3), (6, .int x6)]) ?_ [1, 2, 0, 3, 5] rfl
          exact t_X9_cutQualities_179 C K k123 g123 _ _ _ _ _ _ ok
def l_X9_cutQualities_123 : Nat → Int32 → Int32 → Int32 → Int32 → Int32 → St → Option Rs
  | 0 => fun _ _ _ _ _ _ => none
  | n + 1 => fun x1 x2 x3 x5 x6 σ => b_X9_cutQualities_123 (l_X9_cutQualities_123 n) x1 x2 x3 x5 x6 σ
theorem tl_X9_cutQualities_123 {ε : Et} {κ : Kt} {z : Rs} (C : Cx ε κ cX9_cutQualities 7 RX9 0) (K : Ret ε κ cX9_cutQualities none 0 0 (PV ε z)) : ∀ (n : Nat) (x1 : Int32) (x2 : Int32) (x3 : Int32) (x5 : Int32) (x6 : Int32) (σ : St), l_X9_cutQualities_123 n x1 x2 x3 x5 x6 σ = some z → G ε κ 0 0 123 [(0, .ref (ad ε 39)), (1, .int x1), (2, .int x2), (3, .int x3), (5, .int x5), (6, .int x6)] [] (WX ε σ) := by
  intro n
  induction n with
  | zero =>
    intro x1 x2 x3 x5 x6 σ ok
    cases ok
  | succ n ih =>
    intro x1 x2 x3 x5 x6 σ ok
    exact t_X9_cutQualities_123 C K (l_X9_cutQualities_123 n) ih x1 x2 x3 x5 x6 σ ok
def b_X9_cutQualities_95 (x1 : Int32) (x4 : Int32) (σ : St) : Option Rs := gd (inb x1 (ln 50)) (nx (sA σ 50 x1 x4) (fun s2 => gd (inb x1 (ln 49)) (nx (s2.2.1 49 x1.toNatClampNeg) (fun y5 => gd (inb x1 (ln 49)) (nx (s2.2.1 49 x1.toNatClampNeg) (fun y8 => l_X9_cutQualities_123 FU x1 (0 : Int32) (0 : Int32) y5 y8 s2))))))
set_option maxRecDepth 10000 in
set_option maxHeartbeats 1000000 in
theorem t_X9_cutQualities_95 {ε : Et} {κ : Kt} {z : Rs} (C : Cx ε κ cX9_cutQualities 7 RX9 0) (K : Ret ε κ cX9_cutQualities none 0 0 (PV ε z)) (x1 : Int32) (x4 : Int32) (σ : St) (ok : b_X9_cutQualities_95 x1 x4 σ = some z) : G ε κ 0 0 95 [(0, .ref (ad ε 39)), (1, .int x1), (4, .int x4)] [] (WX ε σ) := by
  unfold b_X9_cutQualities_95 at ok
  refine g_aload_n C dX9_cutQualities_95 rfl 0 rfl ?_
  refine q_X9_47 C dX9_cutQualities_96 ?_
  refine g_iload_n C dX9_cutQualities_99 rfl 1 rfl ?_
  refine g_iload C dX9_cutQualities_100 2 rfl ?_
  obtain ⟨h1, ok⟩ := gd_ok ok
  refine q_ast C ai_50 h1 dX9_cutQualities_102 (fun s2 e3 => ?_)
  replace ok := nx_ok ok s2 e3
  refine g_iconst (v := 0) C dX9_cutQualities_103 (by decide) ?_
  refine g_istore_n C [(2, .int (0 : Int32)), (0, .ref (ad ε 39)), (1, .int x1), (4, .int x4)] dX9_cutQualities_104 rfl (by decide) rfl ?_
  refine g_iconst (v := 0) C dX9_cutQualities_105 (by decide) ?_
  refine g_istore_n C [(3, .int (0 : Int32)), (2, .int (0 : Int32)), (0, .ref (ad ε 39)), (1, .int x1), (4, .int x4)] dX9_cutQualities_106 rfl (by decide) rfl ?_
  refine g_aload_n C dX9_cutQualities_107 rfl 2 rfl ?_
  refine q_X9_44 C dX9_cutQualities_108 ?_
  refine g_iload_n C dX9_cutQualities_111 rfl 3 rfl ?_
  obtain ⟨h4, ok⟩ := gd_ok ok
  refine q_ald C ai_49 h4 dX9_cutQualities_112 ?_
  refine q_nm (fun y5 e6 => ?_)
  replace ok := nx_ok ok y5 e6
  refine g_istore C [(5, .int y5), (3, .int (0 : Int32)), (2, .int (0 : Int32)), (0, .ref (ad ε 39)), (1, .int x1), (4, .int x4)] dX9_cutQualities_113 (by decide) rfl ?_
  refine g_aload_n C dX9_cutQualities_115 rfl 3 rfl ?_
  refine q_X9_44 C dX9_cutQualities_116 ?_
  refine g_iload_n C dX9_cutQualities_119 rfl 4 rfl ?_
  obtain ⟨h7, ok⟩ := gd_ok ok
  refine q_ald C ai_49 h7 dX9_cutQualities_120 ?_
  refine q_nm (fun y8 e9 => ?_)
  replace ok := nx_ok ok y8 e9
  refine g_istore C [(6, .int y8), (5, .int y5), (3, .int (0 : Int32)), (2, .int (0 : Int32)), (0, .ref (ad ε 39)), (1, .int x1), (4, .int x4)] dX9_cutQualities_121 (by decide) rfl ?_
  refine g_pick (lv' := [(0, .ref (ad ε 39)), (1, .int x1), (2, .int (0 : Int32)), (3, .int (0 : Int32)), (5, .int y5), (6, .int y8)]) ?_ [4, 5, 3, 2, 1, 0] rfl
  exact tl_X9_cutQualities_123 C K FU _ _ _ _ _ _ ok
def b_X9_cutQualities_88 (k22 : Int32 → Int32 → Int32 → Int32 → Int32 → St → Option Rs) (x1 : Int32) (x2 : Int32) (x4 : Int32) (x5 : Int32) (t0 : Int32) (σ : St) : Option Rs := nx (x5 + (-1 : Int32)) (fun y1 => k22 x1 x2 t0 x4 y1 σ)
set_option maxRecDepth 10000 in
set_option maxHeartbeats 1000000 in
theorem t_X9_cutQualities_88 {ε : Et} {κ : Kt} {z : Rs} (C : Cx ε κ cX9_cutQualities 7 RX9 0) (K : Ret ε κ cX9_cutQualities none 0 0 (PV ε z)) (k22 : Int32 → Int32 → Int32 → Int32 → Int32 → St → Option Rs) (g22 : ∀ (x1 : Int32) (x2 : Int32) (x3 : Int32) (x4 : Int32) (x5 : Int32) (σ : St), k22 x1 x2 x3 x4 x5 σ = some z → G ε κ 0 0 22 [(0, .ref (ad ε 39)), (1, .int x1), (2, .int x2), (3, .int x3), (4, .int x4), (5, .int x5)] [] (WX ε σ)) (x1 : Int32) (x2 : Int32) (x4 : Int32) (x5 : Int32) (t0 : Int32) (σ : St) (ok : b_X9_cutQualities_88 k22 x1 x2 x4 x5 t0 σ = some z) : G ε κ 0 0 88 [(0, .ref (ad ε 39)), (1, .int x1), (2, .int x2), (4, .int x4), (5, .int x5)] [.int t0] (WX ε σ) := by
  unfold b_X9_cutQualities_88 at ok
  refine g_istore_n C [(3, .int t0), (0, .ref (ad ε 39)), (1, .int x1), (2, .int x2), (4, .int x4), (5, .int x5)] dX9_cutQualities_88 rfl (by decide) rfl ?_
  obtain ⟨y1, e2⟩ : ∃ y : Int32, y = (x5 + (-1 : Int32)) := ⟨_, rfl⟩
  replace ok := nx_ok ok y1 e2
  refine g_iinc (v := y1) C [(5, .int y1), (3, .int t0), (0, .ref (ad ε 39)), (1, .int x1), (2, .int x2), (4, .int x4)] dX9_cutQualities_89 5 rfl (by rw [e2]; rfl) (by decide) rfl ?_
  refine g_goto (tgt := 22) C dX9_cutQualities_92 (by decide) ?_
  refine g_pick (lv' := [(0, .ref (ad ε 39)), (1, .int x1), (2, .int x2), (3, .int t0), (4, .int x4), (5, .int y1)]) ?_ [2, 3, 4, 1, 5, 0] rfl
  exact g22 _ _ _ _ _ _ ok
def b_X9_cutQualities_76 (k22 : Int32 → Int32 → Int32 → Int32 → Int32 → St → Option Rs) (x1 : Int32) (x2 : Int32) (x3 : Int32) (x5 : Int32) (t0 : Int32) (σ : St) : Option Rs := (if x2 ≤ x3 then b_X9_cutQualities_88 k22 x1 x2 t0 x5 x3 σ else b_X9_cutQualities_88 k22 x1 x2 t0 x5 x2 σ)
set_option maxRecDepth 10000 in
set_option maxHeartbeats 1000000 in
theorem t_X9_cutQualities_76 {ε : Et} {κ : Kt} {z : Rs} (C : Cx ε κ cX9_cutQualities 7 RX9 0) (K : Ret ε κ cX9_cutQualities none 0 0 (PV ε z)) (k22 : Int32 → Int32 → Int32 → Int32 → Int32 → St → Option Rs) (g22 : ∀ (x1 : Int32) (x2 : Int32) (x3 : Int32) (x4 : Int32) (x5 : Int32) (σ : St), k22 x1 x2 x3 x4 x5 σ = some z → G ε κ 0 0 22 [(0, .ref (ad ε 39)), (1, .int x1), (2, .int x2), (3, .int x3), (4, .int x4), (5, .int x5)] [] (WX ε σ)) (x1 : Int32) (x2 : Int32) (x3 : Int32) (x5 : Int32) (t0 : Int32) (σ : St) (ok : b_X9_cutQualities_76 k22 x1 x2 x3 x5 t0 σ = some z) : G ε κ 0 0 76 [(0, .ref (ad ε 39)), (1, .int x1), (2, .int x2), (3, .int x3), (5, .int x5)] [.int t0] (WX ε σ) := by
  unfold b_X9_cutQualities_76 at ok
  refine g_istore C [(4, .int t0), (0, .ref (ad ε 39)), (1, .int x1), (2, .int x2), (3, .int x3), (5, .int x5)] dX9_cutQualities_76 (by decide) rfl ?_
  refine g_iload_n C dX9_cutQualities_78 rfl 3 rfl ?_
  refine g_iload_n C dX9_cutQualities_79 rfl 4 rfl ?_
  refine g_icmp_le (tgt := 87) C dX9_cutQualities_80 (by decide) (fun c1 => ?_) (fun c1 => ?_)
  · replace ok := ok_t c1 ok
    refine g_iload_n C dX9_cutQualities_87 rfl 4 rfl ?_
    refine g_pick (lv' := [(0, .ref (ad ε 39)), (1, .int x1), (2, .int x2), (4, .int t0), (5, .int x5)]) ?_ [1, 2, 3, 0, 5] rfl
    exact t_X9_cutQualities_88 C K k22 g22 _ _ _ _ _ _ ok
  · replace ok := ok_f c1 ok
    refine g_iload_n C dX9_cutQualities_83 rfl 3 rfl ?_
    refine g_goto (tgt := 88) C dX9_cutQualities_84 (by decide) ?_
    refine g_pick (lv' := [(0, .ref (ad ε 39)), (1, .int x1), (2, .int x2), (4, .int t0), (5, .int x5)]) ?_ [1, 2, 3, 0, 5] rfl
    exact t_X9_cutQualities_88 C K k22 g22 _ _ _ _ _ _ ok
def b_X9_cutQualities_22 (k22 : Int32 → Int32 → Int32 → Int32 → Int32 → St → Option Rs) (x1 : Int32) (x2 : Int32) (x3 : Int32) (x4 : Int32) (x5 : Int32) (σ : St) : Option Rs := gd (inb x1 (ln 49)) ((if x5 < (σ.2.1 49 x1.toNatClampNeg) then b_X9_cutQualities_95 x1 x4 σ else (if (σ.1 39 17) ≤ 0 then b_X9_cutQualities_95 x1 x4 σ else (if x2 < 0 then b_X9_cutQualities_95 x1 x4 σ else gd (inb (((120 : Int32) * x1) + x5) (ln 45)) (nx (x2 + ((σ.1 39 17) - (σ.2.1 45 (((120 : Int32) * x1) + x5).toNatClampNeg))) (fun y6 => (if y6 ≤ x3 then b_X9_cutQualities_76 k22 x1 y6 x3 x5 x4 σ else b_X9_cutQualities_76 k22 x1 y6 x3 x5 x5 σ)))))))
set_option maxRecDepth 10000 in
set_option maxHeartbeats 1000000 in
theorem t_X9_cutQualities_22 {ε : Et} {κ : Kt} {z : Rs} (C : Cx ε κ cX9_cutQualities 7 RX9 0) (K : Ret ε κ cX9_cutQualities none 0 0 (PV ε z)) (k22 : Int32 → Int32 → Int32 → Int32 → Int32 → St → Option Rs) (g22 : ∀ (x1 : Int32) (x2 : Int32) (x3 : Int32) (x4 : Int32) (x5 : Int32) (σ : St), k22 x1 x2 x3 x4 x5 σ = some z → G ε κ 0 0 22 [(0, .ref (ad ε 39)), (1, .int x1), (2, .int x2), (3, .int x3), (4, .int x4), (5, .int x5)] [] (WX ε σ)) (x1 : Int32) (x2 : Int32) (x3 : Int32) (x4 : Int32) (x5 : Int32) (σ : St) (ok : b_X9_cutQualities_22 k22 x1 x2 x3 x4 x5 σ = some z) : G ε κ 0 0 22 [(0, .ref (ad ε 39)), (1, .int x1), (2, .int x2), (3, .int x3), (4, .int x4), (5, .int x5)] [] (WX ε σ) := by
  unfold b_X9_cutQualities_22 at ok
  refine g_iload C dX9_cutQualities_22 5 rfl ?_
  refine g_aload_n C dX9_cutQualities_24 rfl 0 rfl ?_
  refine q_X9_44 C dX9_cutQualities_25 ?_
  refine g_iload_n C dX9_cutQualities_28 rfl 1 rfl ?_
  obtain ⟨h1, ok⟩ := gd_ok ok
  refine q_ald C ai_49 h1 dX9_cutQualities_29 ?_
  refine g_icmp_lt (tgt := 95) C dX9_cutQualities_30 (by decide) (fun c2 => ?_) (fun c2 => ?_)
  · replace ok := ok_t c2 ok
    refine g_pick (lv' := [(0, .ref (ad ε 39)), (1, .int x1), (4, .int x4)]) ?_ [0, 1, 4] rfl
    exact t_X9_cutQualities_95 C K _ _ _ ok
  · replace ok := ok_f c2 ok
    refine g_aload_n C dX9_cutQualities_33 rfl 0 rfl ?_
    refine q_X9_137 C dX9_cutQualities_34 ?_
    refine g_if_le (tgt := 95) C dX9_cutQualities_37 (by decide) (fun c3 => ?_) (fun c3 => ?_)
    · replace ok := ok_t c3 ok
      refine g_pick (lv' := [(0, .ref (ad ε 39)), (1, .int x1), (4, .int x4)]) ?_ [0, 1, 4] rfl
      exact t_X9_cutQualities_95 C K _ _ _ ok
    · replace ok := ok_f c3 ok
      refine g_iload_n C dX9_cutQualities_40 rfl 2 rfl ?_
      refine g_if_lt (tgt := 95) C dX9_cutQualities_41 (by decide) (fun c4 => ?_) (fun c4 => ?_)
      · replace ok := ok_t c4 ok
        refine g_pick (lv' := [(0, .ref (ad ε 39)), (1, .int x1), (4, .int x4)]) ?_ [0, 1, 4] rfl
        exact t_X9_cutQualities_95 C K _ _ _ ok
      · replace ok := ok_f c4 ok
        refine g_iload_n C dX9_cutQualities_44 rfl 2 rfl ?_
        refine g_aload_n C dX9_cutQualities_45 rfl 0 rfl ?_
        refine q_X9_137 C dX9_cutQualities_46 ?_
        refine g_aload_n C dX9_cutQualities_49 rfl 0 rfl ?_
        refine q_X9_29 C dX9_cutQualities_50 ?_
        refine g_bipush (v := 120) C dX9_cutQualities_53 (by decide) ?_
        refine g_iload_n C dX9_cutQualities_55 rfl 1 rfl ?_
        refine g_imul C dX9_cutQualities_56 ?_
        refine g_iload C dX9_cutQualities_57 5 rfl ?_
        refine g_iadd C dX9_cutQualities_59 ?_
        obtain ⟨h5, ok⟩ := gd_ok ok
        refine q_ald C ai_45 h5 dX9_cutQualities_60 ?_
        refine g_isub C dX9_cutQualities_61 ?_
        refine g_iadd C dX9_cutQualities_62 ?_
        refine q_nm (fun y6 e7 => ?_)
        replace ok := nx_ok ok y6 e7
        refine g_istore_n C [(2, .int y6), (0, .ref (ad ε 39)), (1, .int x1), (3, .int x3), (4, .int x4), (5, .int x5)] dX9_cutQualities_63 rfl (by decide) rfl ?_
        refine g_iload_n C dX9_cutQualities_64 rfl 0 rfl ?_
        refine g_iload_n C dX9_cutQualities_65 rfl 3 rfl ?_
        refine g_icmp_le (tgt := 74) C dX9_cutQualities_66 (by decide) (fun c8 => ?_) (fun c8 => ?_)
        · replace ok := ok_t c8 ok
          refine g_iload C dX9_cutQualities_74 4 rfl ?_
          refine g_pick (lv' := [(0, .ref (ad ε 39)), (1, .int x1), (2, .int y6), (3, .int x3), (5, .int x5)]) ?_ [1, 2, 0, 3, 5] rfl
          exact t_X9_cutQualities_76 C K k22 g22 _ _ _ _ _ _ ok
        · replace ok := ok_f c8 ok
          refine g_iload C dX9_cutQualities_69 5 rfl ?_
          refine g_goto (tgt := 76) C dX9_cutQualities_71 (by decide) ?_
          refine g_pick (lv' := [(0, .ref (ad ε 39)), (1, .int x1), (2, .int y6), (3, .int x3), (5, .int x5)]) ?_ [1, 2, 0, 3, 5] rfl
          exact t_X9_cutQualities_76 C K k22 g22 _ _ _ _ _ _ ok
def l_X9_cutQualities_22 : Nat → Int32 → Int32 → Int32 → Int32 → Int32 → St → Option Rs
  | 0 => fun _ _ _ _ _ _ => none
  | n + 1 => fun x1 x2 x3 x4 x5 σ => b_X9_cutQualities_22 (l_X9_cutQualities_22 n) x1 x2 x3 x4 x5 σ
theorem tl_X9_cutQualities_22 {ε : Et} {κ : Kt} {z : Rs} (C : Cx ε κ cX9_cutQualities 7 RX9 0) (K : Ret ε κ cX9_cutQualities none 0 0 (PV ε z)) : ∀ (n : Nat) (x1 : Int32) (x2 : Int32) (x3 : Int32) (x4 : Int32) (x5 : Int32) (σ : St), l_X9_cutQualities_22 n x1 x2 x3 x4 x5 σ = some z → G ε κ 0 0 22 [(0, .ref (ad ε 39)), (1, .int x1), (2, .int x2), (3, .int x3), (4, .int x4), (5, .int x5)] [] (WX ε σ) := by
  intro n
  induction n with
  | zero =>
    intro x1 x2 x3 x4 x5 σ ok
    cases ok
  | succ n ih =>
    intro x1 x2 x3 x4 x5 σ ok
    exact t_X9_cutQualities_22 C K (l_X9_cutQualities_22 n) ih x1 x2 x3 x4 x5 σ ok
def f_X9_cutQualities (x1 : Int32) (σ : St) : Option Rs := gd (inb x1 (ln 50)) (nx (σ.2.1 50 x1.toNatClampNeg) (fun y2 => gd (inb x1 (ln 50)) (nx ((σ.2.1 50 x1.toNatClampNeg) - (1 : Int32)) (fun y5 => l_X9_cutQualities_22 FU x1 (0 : Int32) (0 : Int32) y2 y5 σ))))
set_option maxRecDepth 10000 in
set_option maxHeartbeats 1000000 in
theorem tf_X9_cutQualities {ε : Et} {κ : Kt} {z : Rs} (C : Cx ε κ cX9_cutQualities 7 RX9 0) (K : Ret ε κ cX9_cutQualities none 0 0 (PV ε z)) (x1 : Int32) (σ : St) (ok : f_X9_cutQualities x1 σ = some z) : G ε κ 0 0 0 [(0, .ref (ad ε 39)), (1, .int x1)] [] (WX ε σ) := by
  unfold f_X9_cutQualities at ok
  refine g_iconst (v := 0) C dX9_cutQualities_0 (by decide) ?_
  refine g_istore_n C [(2, .int (0 : Int32)), (0, .ref (ad ε 39)), (1, .int x1)] dX9_cutQualities_1 rfl (by decide) rfl ?_
  refine g_iconst (v := 0) C dX9_cutQualities_2 (by decide) ?_
  refine g_istore_n C [(3, .int (0 : Int32)), (2, .int (0 : Int32)), (0, .ref (ad ε 39)), (1, .int x1)] dX9_cutQualities_3 rfl (by decide) rfl ?_
  refine g_aload_n C dX9_cutQualities_4 rfl 2 rfl ?_
  refine q_X9_47 C dX9_cutQualities_5 ?_
  refine g_iload_n C dX9_cutQualities_8 rfl 3 rfl ?_
  obtain ⟨h1, ok⟩ := gd_ok ok
  refine q_ald C ai_50 h1 dX9_cutQualities_9 ?_
  refine q_nm (fun y2 e3 => ?_)
  replace ok := nx_ok ok y2 e3
  refine g_istore C [(4, .int y2), (3, .int (0 : Int32)), (2, .int (0 : Int32)), (0, .ref (ad ε 39)), (1, .int x1)] dX9_cutQualities_10 (by decide) rfl ?_
  refine g_aload_n C dX9_cutQualities_12 rfl 3 rfl ?_
  refine q_X9_47 C dX9_cutQualities_13 ?_
  refine g_iload_n C dX9_cutQualities_16 rfl 4 rfl ?_
  obtain ⟨h4, ok⟩ := gd_ok ok
  refine q_ald C ai_50 h4 dX9_cutQualities_17 ?_
  refine g_iconst (v := 1) C dX9_cutQualities_18 (by decide) ?_
  refine g_isub C dX9_cutQualities_19 ?_
  refine q_nm (fun y5 e6 => ?_)
  replace ok := nx_ok ok y5 e6
  refine g_istore C [(5, .int y5), (4, .int y2), (3, .int (0 : Int32)), (2, .int (0 : Int32)), (0, .ref (ad ε 39)), (1, .int x1)] dX9_cutQualities_20 (by decide) rfl ?_
  refine g_pick (lv' := [(0, .ref (ad ε 39)), (1, .int x1), (2, .int (0 : Int32)), (3, .int (0 : Int32)), (4, .int y2), (5, .int y5)]) ?_ [4, 5, 3, 2, 1, 0] rfl
  exact tl_X9_cutQualities_22 C K FU _ _ _ _ _ _ ok
theorem c_X9_cutQualities {l : Launch} {ε : Et} {σ : St} {z : Rs} {x1 : Int32} (e : f_X9_cutQualities x1 σ = some z) : RM l ε yX9_cutQualities cX9_cutQualities 7 none 0 0 0 [.ref (ad ε 39), .int x1] (WX ε σ) (PV ε z) := RM.of (by decide) (Nat.le_of_ble_eq_true rfl) (fun κ C K => tf_X9_cutQualities C K x1 σ e)
def b_X9_cutNone_100 (σ : St) : Option Rs := some ((0 : Int32), σ)
set_option maxRecDepth 10000 in
set_option maxHeartbeats 1000000 in
theorem t_X9_cutNone_100 {ε : Et} {κ : Kt} {z : Rs} (C : Cx ε κ cX9_cutNone 2 RX9 0) (K : Ret ε κ cX9_cutNone none 0 0 (PV ε z)) (σ : St) (ok : b_X9_cutNone_100 σ = some z) : G ε κ 0 0 100 [] [] (WX ε σ) := by
  unfold b_X9_cutNone_100 at ok
  exact K.1 rfl _ _ _ dX9_cutNone_100 (pv_ok ok)
def b_X9_cutNone_49 (k49 : Int32 → St → Option Rs) (x1 : Int32) (σ : St) : Option Rs := gd (inb x1 (ln 49)) (gd (inb x1 (ln 50)) ((if (σ.2.1 50 x1.toNatClampNeg) ≤ (σ.2.1 49 x1.toNatClampNeg) then b_X9_cutNone_100 σ else gd (inb x1 (ln 50)) (gd (inb ((((120 : Int32) * x1) + (σ.2.1 50 x1.toNatClampNeg)) - (1 : Int32)) (ln 44)) ((if (σ.2.1 44 ((((120 : Int32) * x1) + (σ.2.1 50 x1.toNatClampNeg)) - (1 : Int32)).toNatClampNeg) = (78 : Int32) then gd (inb x1 (ln 50)) (gd (inb x1 (ln 50)) (nx (sA σ 50 x1 ((σ.2.1 50 x1.toNatClampNeg) - (1 : Int32))) (fun s9 => k49 x1 s9))) else b_X9_cutNone_100 σ))))))
set_option maxRecDepth 10000 in
set_option maxHeartbeats 1000000 in
theorem t_X9_cutNone_49 {ε : Et} {κ : Kt} {z : Rs} (C : Cx ε κ cX9_cutNone 2 RX9 0) (K : Ret ε κ cX9_cutNone none 0 0 (PV ε z)) (k49 : Int32 → St → Option Rs) (g49 : ∀ (x1 : Int32) (σ : St), k49 x1 σ = some z → G ε κ 0 0 49 [(0, .ref (ad ε 39)), (1, .int x1)] [] (WX ε σ)) (x1 : Int32) (σ : St) (ok : b_X9_cutNone_49 k49 x1 σ = some z) : G ε κ 0 0 49 [(0, .ref (ad ε 39)), (1, .int x1)] [] (WX ε σ) := by
  unfold b_X9_cutNone_49 at ok
  refine g_aload_n C dX9_cutNone_49 rfl 0 rfl ?_
  refine q_X9_44 C dX9_cutNone_50 ?_
  refine g_iload_n C dX9_cutNone_53 rfl 1 rfl ?_
  obtain ⟨h1, ok⟩ := gd_ok ok
  refine q_ald C ai_49 h1 dX9_cutNone_54 ?_
  refine g_aload_n C dX9_cutNone_55 rfl 0 rfl ?_
  refine q_X9_47 C dX9_cutNone_56 ?_
  refine g_iload_n C dX9_cutNone_59 rfl 1 rfl ?_
  obtain ⟨h2, ok⟩ := gd_ok ok
  refine q_ald C ai_50 h2 dX9_cutNone_60 ?_
  refine g_icmp_ge (tgt := 100) C dX9_cutNone_61 (by decide) (fun c3 => ?_) (fun c3 => ?_)
  · replace ok := ok_t c3 ok
    refine g_pick (lv' := []) ?_ [] rfl
    exact t_X9_cutNone_100 C K _ ok
  · replace ok := ok_f c3 ok
    refine g_aload_n C dX9_cutNone_64 rfl 0 rfl ?_
    refine q_X9_26 C dX9_cutNone_65 ?_
    refine g_bipush (v := 120) C dX9_cutNone_68 (by decide) ?_
    refine g_iload_n C dX9_cutNone_70 rfl 1 rfl ?_
    refine g_imul C dX9_cutNone_71 ?_
    refine g_aload_n C dX9_cutNone_72 rfl 0 rfl ?_
    refine q_X9_47 C dX9_cutNone_73 ?_
    refine g_iload_n C dX9_cutNone_76 rfl 1 rfl ?_
    obtain ⟨h4, ok⟩ := gd_ok ok
    refine q_ald C ai_50 h4 dX9_cutNone_77 ?_
    refine g_iadd C dX9_cutNone_78 ?_
    refine g_iconst (v := 1) C dX9_cutNone_79 (by decide) ?_
    refine g_isub C dX9_cutNone_80 ?_
    obtain ⟨h5, ok⟩ := gd_ok ok
    refine q_ald C ai_44 h5 dX9_cutNone_81 ?_
    refine g_bipush (v := 78) C dX9_cutNone_82 (by decide) ?_
    refine g_icmp_ne (tgt := 100) C dX9_cutNone_84 (by decide) (fun c6 => ?_) (fun c6 => ?_)
    · replace ok := ok_f c6 ok
      refine g_pick (lv' := []) ?_ [] rfl
      exact t_X9_cutNone_100 C K _ ok
    · replace ok := ok_t c6 ok
      refine g_aload_n C dX9_cutNone_87 rfl 0 rfl ?_
      refine q_X9_47 C dX9_cutNone_88 ?_
      refine g_iload_n C dX9_cutNone_91 rfl 1 rfl ?_
      refine g_dup2 C dX9_cutNone_92 rfl rfl ?_
      obtain ⟨h7, ok⟩ := gd_ok ok
      refine q_ald C ai_50 h7 dX9_cutNone_93 ?_
      refine g_iconst (v := 1) C dX9_cutNone_94 (by decide) ?_
      refine g_isub C dX9_cutNone_95 ?_
      obtain ⟨h8, ok⟩ := gd_ok ok
      refine q_ast C ai_50 h8 dX9_cutNone_96 (fun s9 e10 => ?_)
      replace ok := nx_ok ok s9 e10
      refine g_goto (tgt := 49) C dX9_cutNone_97 (by decide) ?_
      exact g49 _ _ ok
def l_X9_cutNone_49 : Nat → Int32 → St → Option Rs
  | 0 => fun _ _ => none
  | n + 1 => fun x1 σ => b_X9_cutNone_49 (l_X9_cutNone_49 n) x1 σ
theorem tl_X9_cutNone_49 {ε : Et} {κ : Kt} {z : Rs} (C : Cx ε κ cX9_cutNone 2 RX9 0) (K : Ret ε κ cX9_cutNone none 0 0 (PV ε z)) : ∀ (n : Nat) (x1 : Int32) (σ : St), l_X9_cutNone_49 n x1 σ = some z → G ε κ 0 0 49 [(0, .ref (ad ε 39)), (1, .int x1)] [] (WX ε σ) := by
  intro n
  induction n with
  | zero =>
    intro x1 σ ok
    cases ok
  | succ n ih =>
    intro x1 σ ok
    exact t_X9_cutNone_49 C K (l_X9_cutNone_49 n) ih x1 σ ok
def b_X9_cutNone_0 (k0 : Int32 → St → Option Rs) (x1 : Int32) (σ : St) : Option Rs := gd (inb x1 (ln 49)) (gd (inb x1 (ln 50)) ((if (σ.2.1 50 x1.toNatClampNeg) ≤ (σ.2.1 49 x1.toNatClampNeg) then l_X9_cutNone_49 FU x1 σ else gd (inb x1 (ln 49)) (gd (inb (((120 : Int32) * x1) + (σ.2.1 49 x1.toNatClampNeg)) (ln 44)) ((if (σ.2.1 44 (((120 : Int32) * x1) + (σ.2.1 49 x1.toNatClampNeg)).toNatClampNeg) = (78 : Int32) then gd (inb x1 (ln 49)) (gd (inb x1 (ln 49)) (nx (sA σ 49 x1 ((σ.2.1 49 x1.toNatClampNeg) + (1 : Int32))) (fun s9 => k0 x1 s9))) else l_X9_cutNone_49 FU x1 σ))))))
set_option maxRecDepth 10000 in
set_option maxHeartbeats 1000000 in
theorem t_X9_cutNone_0 {ε : Et} {κ : Kt} {z : Rs} (C : Cx ε κ cX9_cutNone 2 RX9 0) (K : Ret ε κ cX9_cutNone none 0 0 (PV ε z)) (k0 : Int32 → St → Option Rs) (g0 : ∀ (x1 : Int32) (σ : St), k0 x1 σ = some z → G ε κ 0 0 0 [(0, .ref (ad ε 39)), (1, .int x1)] [] (WX ε σ)) (x1 : Int32) (σ : St) (ok : b_X9_cutNone_0 k0 x1 σ = some z) : G ε κ 0 0 0 [(0, .ref (ad ε 39)), (1, .int x1)] [] (WX ε σ) := by
  unfold b_X9_cutNone_0 at ok
  refine g_aload_n C dX9_cutNone_0 rfl 0 rfl ?_
  refine q_X9_44 C dX9_cutNone_1 ?_
  refine g_iload_n C dX9_cutNone_4 rfl 1 rfl ?_
  obtain ⟨h1, ok⟩ := gd_ok ok
  refine q_ald C ai_49 h1 dX9_cutNone_5 ?_
  refine g_aload_n C dX9_cutNone_6 rfl 0 rfl ?_
  refine q_X9_47 C dX9_cutNone_7 ?_
  refine g_iload_n C dX9_cutNone_10 rfl 1 rfl ?_
  obtain ⟨h2, ok⟩ := gd_ok ok
  refine q_ald C ai_50 h2 dX9_cutNone_11 ?_
  refine g_icmp_ge (tgt := 49) C dX9_cutNone_12 (by decide) (fun c3 => ?_) (fun c3 => ?_)
  · replace ok := ok_t c3 ok
    exact tl_X9_cutNone_49 C K FU _ _ ok
  · replace ok := ok_f c3 ok
    refine g_aload_n C dX9_cutNone_15 rfl 0 rfl ?_
    refine q_X9_26 C dX9_cutNone_16 ?_
    refine g_bipush (v := 120) C dX9_cutNone_19 (by decide) ?_
    refine g_iload_n C dX9_cutNone_21 rfl 1 rfl ?_
    refine g_imul C dX9_cutNone_22 ?_
    refine g_aload_n C dX9_cutNone_23 rfl 0 rfl ?_
    refine q_X9_44 C dX9_cutNone_24 ?_
    refine g_iload_n C dX9_cutNone_27 rfl 1 rfl ?_
    obtain ⟨h4, ok⟩ := gd_ok ok
    refine q_ald C ai_49 h4 dX9_cutNone_28 ?_
    refine g_iadd C dX9_cutNone_29 ?_
    obtain ⟨h5, ok⟩ := gd_ok ok
    refine q_ald C ai_44 h5 dX9_cutNone_30 ?_
    refine g_bipush (v := 78) C dX9_cutNone_31 (by decide) ?_
    refine g_icmp_ne (tgt := 49) C dX9_cutNone_33 (by decide) (fun c6 => ?_) (fun c6 => ?_)
    · replace ok := ok_f c6 ok
      exact tl_X9_cutNone_49 C K FU _ _ ok
    · replace ok := ok_t c6 ok
      refine g_aload_n C dX9_cutNone_36 rfl 0 rfl ?_
      refine q_X9_44 C dX9_cutNone_37 ?_
      refine g_iload_n C dX9_cutNone_40 rfl 1 rfl ?_
      refine g_dup2 C dX9_cutNone_41 rfl rfl ?_
      obtain ⟨h7, ok⟩ := gd_ok ok
      refine q_ald C ai_49 h7 dX9_cutNone_42 ?_
      refine g_iconst (v := 1) C dX9_cutNone_43 (by decide) ?_
      refine g_iadd C dX9_cutNone_44 ?_
      obtain ⟨h8, ok⟩ := gd_ok ok
      refine q_ast C ai_49 h8 dX9_cutNone_45 (fun s9 e10 => ?_)
      replace ok := nx_ok ok s9 e10
      refine g_goto (tgt := 0) C dX9_cutNone_46 (by decide) ?_
      exact g0 _ _ ok
def l_X9_cutNone_0 : Nat → Int32 → St → Option Rs
  | 0 => fun _ _ => none
  | n + 1 => fun x1 σ => b_X9_cutNone_0 (l_X9_cutNone_0 n) x1 σ
theorem tl_X9_cutNone_0 {ε : Et} {κ : Kt} {z : Rs} (C : Cx ε κ cX9_cutNone 2 RX9 0) (K : Ret ε κ cX9_cutNone none 0 0 (PV ε z)) : ∀ (n : Nat) (x1 : Int32) (σ : St), l_X9_cutNone_0 n x1 σ = some z → G ε κ 0 0 0 [(0, .ref (ad ε 39)), (1, .int x1)] [] (WX ε σ) := by
  intro n
  induction n with
  | zero =>
    intro x1 σ ok
    cases ok
  | succ n ih =>
    intro x1 σ ok
    exact t_X9_cutNone_0 C K (l_X9_cutNone_0 n) ih x1 σ ok
def f_X9_cutNone (x1 : Int32) (σ : St) : Option Rs := l_X9_cutNone_0 FU x1 σ
set_option maxRecDepth 10000 in
set_option maxHeartbeats 1000000 in
theorem tf_X9_cutNone {ε : Et} {κ : Kt} {z : Rs} (C : Cx ε κ cX9_cutNone 2 RX9 0) (K : Ret ε κ cX9_cutNone none 0 0 (PV ε z)) (x1 : Int32) (σ : St) (ok : f_X9_cutNone x1 σ = some z) : G ε κ 0 0 0 [(0, .ref (ad ε 39)), (1, .int x1)] [] (WX ε σ) := by
  unfold f_X9_cutNone at ok
  exact tl_X9_cutNone_0 C K FU _ _ ok
theorem c_X9_cutNone {l : Launch} {ε : Et} {σ : St} {z : Rs} {x1 : Int32} (e : f_X9_cutNone x1 σ = some z) : RM l ε yX9_cutNone cX9_cutNone 2 none 0 0 0 [.ref (ad ε 39), .int x1] (WX ε σ) (PV ε z) := RM.of (by decide) (Nat.le_of_ble_eq_true rfl) (fun κ C K => tf_X9_cutNone C K x1 σ e)
def f_X9_tagAt (x1 : Int32) (x2 : Int32) (σ : St) : Option Rs := gd (inb ((((120 : Int32) * x1) + (σ.1 39 33)) + x2) (ln 44)) (some ((σ.2.1 44 ((((120 : Int32) * x1) + (σ.1 39 33)) + x2).toNatClampNeg), σ))
set_option maxRecDepth 10000 in
set_option maxHeartbeats 1000000 in
theorem tf_X9_tagAt {ε : Et} {κ : Kt} {z : Rs} (C : Cx ε κ cX9_tagAt 3 RX9 0) (K : Ret ε κ cX9_tagAt (some .int) 0 0 (PI ε z)) (x1 : Int32) (x2 : Int32) (σ : St) (ok : f_X9_tagAt x1 x2 σ = some z) : G ε κ 0 0 0 [(0, .ref (ad ε 39)), (1, .int x1), (2, .int x2)] [] (WX ε σ) := by
  unfold f_X9_tagAt at ok
  refine g_aload_n C dX9_tagAt_0 rfl 0 rfl ?_
  refine q_X9_26 C dX9_tagAt_1 ?_
  refine g_bipush (v := 120) C dX9_tagAt_4 (by decide) ?_
  refine g_iload_n C dX9_tagAt_6 rfl 1 rfl ?_
  refine g_imul C dX9_tagAt_7 ?_
  refine g_aload_n C dX9_tagAt_8 rfl 0 rfl ?_
  refine q_X9_143 C dX9_tagAt_9 ?_
  refine g_iadd C dX9_tagAt_12 ?_
  refine g_iload_n C dX9_tagAt_13 rfl 2 rfl ?_
  refine g_iadd C dX9_tagAt_14 ?_
  obtain ⟨h1, ok⟩ := gd_ok ok
  refine q_ald C ai_44 h1 dX9_tagAt_15 ?_
  exact K.2 .int _ _ _ _ rfl dX9_tagAt_16 rfl (pi_ok ok)
theorem c_X9_tagAt {l : Launch} {ε : Et} {σ : St} {z : Rs} {x1 : Int32} {x2 : Int32} (e : f_X9_tagAt x1 x2 σ = some z) : RM l ε yX9_tagAt cX9_tagAt 3 (some .int) 0 0 0 [.ref (ad ε 39), .int x1, .int x2] (WX ε σ) (PI ε z) := RM.of (by decide) (Nat.le_of_ble_eq_true rfl) (fun κ C K => tf_X9_tagAt C K x1 x2 σ e)
def b_X9_distance_37 (k5 : Int32 → Int32 → Int32 → Int32 → St → Option Rs) (x1 : Int32) (x2 : Int32) (x4 : Int32) (t0 : Int32) (t1 : Int32) (σ : St) : Option Rs := nx (t1 + t0) (fun y1 => nx (x4 + (1 : Int32)) (fun y3 => k5 x1 x2 y1 y3 σ))
set_option maxRecDepth 10000 in
set_option maxHeartbeats 1000000 in
theorem t_X9_distance_37 {ε : Et} {κ : Kt} {z : Rs} (C : Cx ε κ cX9_distance 5 RX9 1) (K : Ret ε κ cX9_distance (some .int) 0 0 (PI ε z)) (k5 : Int32 → Int32 → Int32 → Int32 → St → Option Rs) (g5 : ∀ (x1 : Int32) (x2 : Int32) (x3 : Int32) (x4 : Int32) (σ : St), k5 x1 x2 x3 x4 σ = some z → G ε κ 0 0 5 [(0, .ref (ad ε 39)), (1, .int x1), (2, .int x2), (3, .int x3), (4, .int x4)] [] (WX ε σ)) (x1 : Int32) (x2 : Int32) (x4 : Int32) (t0 : Int32) (t1 : Int32) (σ : St) (ok : b_X9_distance_37 k5 x1 x2 x4 t0 t1 σ = some z) : G ε κ 0 0 37 [(0, .ref (ad ε 39)), (1, .int x1), (2, .int x2), (4, .int x4)] [.int t0, .int t1] (WX ε σ) := by
  unfold b_X9_distance_37 at ok
  refine g_iadd C dX9_distance_37 ?_
  refine q_nm (fun y1 e2 => ?_)
  replace ok := nx_ok ok y1 e2
  refine g_istore_n C [(3, .int y1), (0, .ref (ad ε 39)), (1, .int x1), (2, .int x2), (4, .int x4)] dX9_distance_38 rfl (by decide) rfl ?_
  obtain ⟨y3, e4⟩ : ∃ y : Int32, y = (x4 + (1 : Int32)) := ⟨_, rfl⟩
  replace ok := nx_ok ok y3 e4
  refine g_iinc (v := y3) C [(4, .int y3), (3, .int y1), (0, .ref (ad ε 39)), (1, .int x1), (2, .int x2)] dX9_distance_39 4 rfl (by rw [e4]; rfl) (by decide) rfl ?_
  refine g_goto (tgt := 5) C dX9_distance_42 (by decide) ?_
  refine g_pick (lv' := [(0, .ref (ad ε 39)), (1, .int x1), (2, .int x2), (3, .int y1), (4, .int y3)]) ?_ [2, 3, 4, 1, 0] rfl
  exact g5 _ _ _ _ _ ok
def b_X9_distance_5 (k5 : Int32 → Int32 → Int32 → Int32 → St → Option Rs) (x1 : Int32) (x2 : Int32) (x3 : Int32) (x4 : Int32) (σ : St) : Option Rs := (if (σ.1 39 21) ≤ x4 then some (x3, σ) else bd (f_X9_tagAt x1 x4 σ) (fun r2 s3 => bd (f_X9_tagAt x2 x4 s3) (fun r5 s6 => (if r2 = r5 then b_X9_distance_37 k5 x1 x2 x4 (0 : Int32) x3 s6 else b_X9_distance_37 k5 x1 x2 x4 (1 : Int32) x3 s6))))
set_option maxRecDepth 10000 in
set_option maxHeartbeats 1000000 in
theorem t_X9_distance_5 {ε : Et} {κ : Kt} {z : Rs} (C : Cx ε κ cX9_distance 5 RX9 1) (K : Ret ε κ cX9_distance (some .int) 0 0 (PI ε z)) (k5 : Int32 → Int32 → Int32 → Int32 → St → Option Rs) (g5 : ∀ (x1 : Int32) (x2 : Int32) (x3 : Int32) (x4 : Int32) (σ : St), k5 x1 x2 x3 x4 σ = some z → G ε κ 0 0 5 [(0, .ref (ad ε 39)), (1, .int x1), (2, .int x2), (3, .int x3), (4, .int x4)] [] (WX ε σ)) (x1 : Int32) (x2 : Int32) (x3 : Int32) (x4 : Int32) (σ : St) (ok : b_X9_distance_5 k5 x1 x2 x3 x4 σ = some z) : G ε κ 0 0 5 [(0, .ref (ad ε 39)), (1, .int x1), (2, .int x2), (3, .int x3), (4, .int x4)] [] (WX ε σ) := by
  unfold b_X9_distance_5 at ok
  refine g_iload C dX9_distance_5 4 rfl ?_
  refine g_aload_n C dX9_distance_7 rfl 0 rfl ?_
  refine q_X9_146 C dX9_distance_8 ?_
  refine g_icmp_ge (tgt := 45) C dX9_distance_11 (by decide) (fun c1 => ?_) (fun c1 => ?_)
  · replace ok := ok_t c1 ok
    refine g_iload_n C dX9_distance_45 rfl 3 rfl ?_
    exact K.2 .int _ _ _ _ rfl dX9_distance_46 rfl (pi_ok ok)
  · replace ok := ok_f c1 ok
    refine g_iload_n C dX9_distance_14 rfl 3 rfl ?_
    refine g_aload_n C dX9_distance_15 rfl 0 rfl ?_
    refine g_iload_n C dX9_distance_16 rfl 1 rfl ?_
    refine g_iload C dX9_distance_17 4 rfl ?_
    obtain ⟨r2, s3, e4, ok⟩ := bd_ok ok
    refine q_cI C [.int x1, .int x4] (c_X9_tagAt e4) wv_X9_149 (by decide) (lt_N (by decide)) wx_X9 rfl rfl rfl (Nat.le_of_ble_eq_true rfl) dX9_distance_19 ?_
    refine g_aload_n C dX9_distance_22 rfl 0 rfl ?_
    refine g_iload_n C dX9_distance_23 rfl 2 rfl ?_
    refine g_iload C dX9_distance_24 4 rfl ?_
    obtain ⟨r5, s6, e7, ok⟩ := bd_ok ok
    refine q_cI C [.int x2, .int x4] (c_X9_tagAt e7) wv_X9_149 (by decide) (lt_N (by decide)) wx_X9 rfl rfl rfl (Nat.le_of_ble_eq_true rfl) dX9_distance_26 ?_
    refine g_icmp_eq (tgt := 36) C dX9_distance_29 (by decide) (fun c8 => ?_) (fun c8 => ?_)
    · replace ok := ok_t c8 ok
      refine g_iconst (v := 0) C dX9_distance_36 (by decide) ?_
      refine g_pick (lv' := [(0, .ref (ad ε 39)), (1, .int x1), (2, .int x2), (4, .int x4)]) ?_ [0, 1, 2, 4] rfl
      exact t_X9_distance_37 C K k5 g5 _ _ _ _ _ _ ok
    · replace ok := ok_f c8 ok
      refine g_iconst (v := 1) C dX9_distance_32 (by decide) ?_
      refine g_goto (tgt := 37) C dX9_distance_33 (by decide) ?_
      refine g_pick (lv' := [(0, .ref (ad ε 39)), (1, .int x1), (2, .int x2), (4, .int x4)]) ?_ [0, 1, 2, 4] rfl
      exact t_X9_distance_37 C K k5 g5 _ _ _ _ _ _ ok
def l_X9_distance_5 : Nat → Int32 → Int32 → Int32 → Int32 → St → Option Rs
  | 0 => fun _ _ _ _ _ => none
  | n + 1 => fun x1 x2 x3 x4 σ => b_X9_distance_5 (l_X9_distance_5 n) x1 x2 x3 x4 σ
theorem tl_X9_distance_5 {ε : Et} {κ : Kt} {z : Rs} (C : Cx ε κ cX9_distance 5 RX9 1) (K : Ret ε κ cX9_distance (some .int) 0 0 (PI ε z)) : ∀ (n : Nat) (x1 : Int32) (x2 : Int32) (x3 : Int32) (x4 : Int32) (σ : St), l_X9_distance_5 n x1 x2 x3 x4 σ = some z → G ε κ 0 0 5 [(0, .ref (ad ε 39)), (1, .int x1), (2, .int x2), (3, .int x3), (4, .int x4)] [] (WX ε σ) := by
  intro n
  induction n with
  | zero =>
    intro x1 x2 x3 x4 σ ok
    cases ok
  | succ n ih =>
    intro x1 x2 x3 x4 σ ok
    exact t_X9_distance_5 C K (l_X9_distance_5 n) ih x1 x2 x3 x4 σ ok
def f_X9_distance (x1 : Int32) (x2 : Int32) (σ : St) : Option Rs := l_X9_distance_5 FU x1 x2 (0 : Int32) (0 : Int32) σ
set_option maxRecDepth 10000 in
set_option maxHeartbeats 1000000 in
theorem tf_X9_distance {ε : Et} {κ : Kt} {z : Rs} (C : Cx ε κ cX9_distance 5 RX9 1) (K : Ret ε κ cX9_distance (some .int) 0 0 (PI ε z)) (x1 : Int32) (x2 : Int32) (σ : St) (ok : f_X9_distance x1 x2 σ = some z) : G ε κ 0 0 0 [(0, .ref (ad ε 39)), (1, .int x1), (2, .int x2)] [] (WX ε σ) := by
  unfold f_X9_distance at ok
  refine g_iconst (v := 0) C dX9_distance_0 (by decide) ?_
  refine g_istore_n C [(3, .int (0 : Int32)), (0, .ref (ad ε 39)), (1, .int x1), (2, .int x2)] dX9_distance_1 rfl (by decide) rfl ?_
  refine g_iconst (v := 0) C dX9_distance_2 (by decide) ?_
  refine g_istore C [(4, .int (0 : Int32)), (3, .int (0 : Int32)), (0, .ref (ad ε 39)), (1, .int x1), (2, .int x2)] dX9_distance_3 (by decide) rfl ?_
  refine g_pick (lv' := [(0, .ref (ad ε 39)), (1, .int x1), (2, .int x2), (3, .int (0 : Int32)), (4, .int (0 : Int32))]) ?_ [2, 3, 4, 1, 0] rfl
  exact tl_X9_distance_5 C K FU _ _ _ _ _ ok
theorem c_X9_distance {l : Launch} {ε : Et} {σ : St} {z : Rs} {x1 : Int32} {x2 : Int32} (e : f_X9_distance x1 x2 σ = some z) : RM l ε yX9_distance cX9_distance 5 (some .int) 1 0 0 [.ref (ad ε 39), .int x1, .int x2] (WX ε σ) (PI ε z) := RM.of (by decide) (Nat.le_of_ble_eq_true rfl) (fun κ C K => tf_X9_distance C K x1 x2 σ e)
def b_X9_counts_24 (t0 : Int32) (σ : St) : Option Rs := gz t0 (some (t0, σ))
set_option maxRecDepth 10000 in
set_option maxHeartbeats 1000000 in
theorem t_X9_counts_24 {ε : Et} {κ : Kt} {z : Rs} (C : Cx ε κ cX9_counts 3 RX9 0) (K : Ret ε κ cX9_counts (some .boolean) 0 0 (PI ε z)) (t0 : Int32) (σ : St) (ok : b_X9_counts_24 t0 σ = some z) : G ε κ 0 0 24 [] [.int t0] (WX ε σ) := by
  unfold b_X9_counts_24 at ok
  obtain ⟨z1, ok⟩ := gz_ok ok
  exact K.2 .boolean _ _ _ _ rfl dX9_counts_24 (nar_b z1) (pi_ok ok)
def b_X9_counts_23 (σ : St) : Option Rs := b_X9_counts_24 (0 : Int32) σ
set_option maxRecDepth 10000 in
set_option maxHeartbeats 1000000 in
theorem t_X9_counts_23 {ε : Et} {κ : Kt} {z : Rs} (C : Cx ε κ cX9_counts 3 RX9 0) (K : Ret ε κ cX9_counts (some .boolean) 0 0 (PI ε z)) (σ : St) (ok : b_X9_counts_23 σ = some z) : G ε κ 0 0 23 [] [] (WX ε σ) := by
  unfold b_X9_counts_23 at ok
  refine g_iconst (v := 0) C dX9_counts_23 (by decide) ?_
  exact t_X9_counts_24 C K _ _ ok
def f_X9_counts (x1 : Int32) (x2 : Int32) (σ : St) : Option Rs := gd (inb x1 (ln 48)) ((if (σ.2.1 48 x1.toNatClampNeg) = x2 then gd (inb x1 (ln 51)) ((if (σ.2.1 51 x1.toNatClampNeg) = 0 then b_X9_counts_24 (1 : Int32) σ else b_X9_counts_23 σ)) else b_X9_counts_23 σ))
set_option maxRecDepth 10000 in
set_option maxHeartbeats 1000000 in
theorem tf_X9_counts {ε : Et} {κ : Kt} {z : Rs} (C : Cx ε κ cX9_counts 3 RX9 0) (K : Ret ε κ cX9_counts (some .boolean) 0 0 (PI ε z)) (x1 : Int32) (x2 : Int32) (σ : St) (ok : f_X9_counts x1 x2 σ = some z) : G ε κ 0 0 0 [(0, .ref (ad ε 39)), (1, .int x1), (2, .int x2)] [] (WX ε σ) := by
  unfold f_X9_counts at ok
  refine g_aload_n C dX9_counts_0 rfl 0 rfl ?_
  refine q_X9_41 C dX9_counts_1 ?_
  refine g_iload_n C dX9_counts_4 rfl 1 rfl ?_
  obtain ⟨h1, ok⟩ := gd_ok ok
  refine q_ald C ai_48 h1 dX9_counts_5 ?_
  refine g_iload_n C dX9_counts_6 rfl 2 rfl ?_
  refine g_icmp_ne (tgt := 23) C dX9_counts_7 (by decide) (fun c2 => ?_) (fun c2 => ?_)
  · replace ok := ok_f c2 ok
    refine g_pick (lv' := []) ?_ [] rfl
    exact t_X9_counts_23 C K _ ok
  · replace ok := ok_t c2 ok
    refine g_aload_n C dX9_counts_10 rfl 0 rfl ?_
    refine q_X9_50 C dX9_counts_11 ?_
    refine g_iload_n C dX9_counts_14 rfl 1 rfl ?_
    obtain ⟨h3, ok⟩ := gd_ok ok
    refine q_zld C az_51 h3 dX9_counts_15 ?_
    refine g_if_ne (tgt := 23) C dX9_counts_16 (by decide) (fun c4 => ?_) (fun c4 => ?_)
    · replace ok := ok_f c4 ok
      refine g_pick (lv' := []) ?_ [] rfl
      exact t_X9_counts_23 C K _ ok
    · replace ok := ok_t c4 ok
      refine g_iconst (v := 1) C dX9_counts_19 (by decide) ?_
      refine g_goto (tgt := 24) C dX9_counts_20 (by decide) ?_
      refine g_pick (lv' := []) ?_ [] rfl
      exact t_X9_counts_24 C K _ _ ok
theorem c_X9_counts {l : Launch} {ε : Et} {σ : St} {z : Rs} {x1 : Int32} {x2 : Int32} (e : f_X9_counts x1 x2 σ = some z) : RM l ε yX9_counts cX9_counts 3 (some .boolean) 0 0 0 [.ref (ad ε 39), .int x1, .int x2] (WX ε σ) (PI ε z) := RM.of (by decide) (Nat.le_of_ble_eq_true rfl) (fun κ C K => tf_X9_counts C K x1 x2 σ e)
def b_X9_countOf_41 (k4 : Int32 → Int32 → Int32 → St → Option Rs) (x1 : Int32) (x3 : Int32) (t0 : Int32) (t1 : Int32) (σ : St) : Option Rs := nx (t1 + t0) (fun y1 => nx (x3 + (1 : Int32)) (fun y3 => k4 x1 y1 y3 σ))
set_option maxRecDepth 10000 in
set_option maxHeartbeats 1000000 in
theorem t_X9_countOf_41 {ε : Et} {κ : Kt} {z : Rs} (C : Cx ε κ cX9_countOf 4 RX9 2) (K : Ret ε κ cX9_countOf (some .int) 0 0 (PI ε z)) (k4 : Int32 → Int32 → Int32 → St → Option Rs) (g4 : ∀ (x1 : Int32) (x2 : Int32) (x3 : Int32) (σ : St), k4 x1 x2 x3 σ = some z → G ε κ 0 0 4 [(0, .ref (ad ε 39)), (1, .int x1), (2, .int x2), (3, .int x3)] [] (WX ε σ)) (x1 : Int32) (x3 : Int32) (t0 : Int32) (t1 : Int32) (σ : St) (ok : b_X9_countOf_41 k4 x1 x3 t0 t1 σ = some z) : G ε κ 0 0 41 [(0, .ref (ad ε 39)), (1, .int x1), (3, .int x3)] [.int t0, .int t1] (WX ε σ) := by
  unfold b_X9_countOf_41 at ok
  refine g_iadd C dX9_countOf_41 ?_
  refine q_nm (fun y1 e2 => ?_)
  replace ok := nx_ok ok y1 e2
  refine g_istore_n C [(2, .int y1), (0, .ref (ad ε 39)), (1, .int x1), (3, .int x3)] dX9_countOf_42 rfl (by decide) rfl ?_
  obtain ⟨y3, e4⟩ : ∃ y : Int32, y = (x3 + (1 : Int32)) := ⟨_, rfl⟩
  replace ok := nx_ok ok y3 e4
  refine g_iinc (v := y3) C [(3, .int y3), (2, .int y1), (0, .ref (ad ε 39)), (1, .int x1)] dX9_countOf_43 3 rfl (by rw [e4]; rfl) (by decide) rfl ?_
  refine g_goto (tgt := 4) C dX9_countOf_46 (by decide) ?_
  refine g_pick (lv' := [(0, .ref (ad ε 39)), (1, .int x1), (2, .int y1), (3, .int y3)]) ?_ [2, 3, 1, 0] rfl
  exact g4 _ _ _ _ ok
def b_X9_countOf_40 (k4 : Int32 → Int32 → Int32 → St → Option Rs) (x1 : Int32) (x3 : Int32) (t0 : Int32) (σ : St) : Option Rs := b_X9_countOf_41 k4 x1 x3 (0 : Int32) t0 σ
set_option maxRecDepth 10000 in
set_option maxHeartbeats 1000000 in
theorem t_X9_countOf_40 {ε : Et} {κ : Kt} {z : Rs} (C : Cx ε κ cX9_countOf 4 RX9 2) (K : Ret ε κ cX9_countOf (some .int) 0 0 (PI ε z)) (k4 : Int32 → Int32 → Int32 → St → Option Rs) (g4 : ∀ (x1 : Int32) (x2 : Int32) (x3 : Int32) (σ : St), k4 x1 x2 x3 σ = some z → G ε κ 0 0 4 [(0, .ref (ad ε 39)), (1, .int x1), (2, .int x2), (3, .int x3)] [] (WX ε σ)) (x1 : Int32) (x3 : Int32) (t0 : Int32) (σ : St) (ok : b_X9_countOf_40 k4 x1 x3 t0 σ = some z) : G ε κ 0 0 40 [(0, .ref (ad ε 39)), (1, .int x1), (3, .int x3)] [.int t0] (WX ε σ) := by
  unfold b_X9_countOf_40 at ok
  refine g_iconst (v := 0) C dX9_countOf_40 (by decide) ?_
  exact t_X9_countOf_41 C K k4 g4 _ _ _ _ _ ok
def b_X9_countOf_4 (k4 : Int32 → Int32 → Int32 → St → Option Rs) (x1 : Int32) (x2 : Int32) (x3 : Int32) (σ : St) : Option Rs := (if (σ.1 39 9) ≤ x3 then some (x2, σ) else gd (inb x1 (ln 48)) (bd (f_X9_counts x3 (σ.2.1 48 x1.toNatClampNeg) σ) (fun r3 s4 => (if r3 = 0 then b_X9_countOf_40 k4 x1 x3 x2 s4 else bd (f_X9_distance x1 x3 s4) (fun r7 s8 => (if r7 = 0 then b_X9_countOf_41 k4 x1 x3 (1 : Int32) x2 s8 else b_X9_countOf_40 k4 x1 x3 x2 s8))))))
set_option maxRecDepth 10000 in
set_option maxHeartbeats 1000000 in
theorem t_X9_countOf_4 {ε : Et} {κ : Kt} {z : Rs} (C : Cx ε κ cX9_countOf 4 RX9 2) (K : Ret ε κ cX9_countOf (some .int) 0 0 (PI ε z)) (k4 : Int32 → Int32 → Int32 → St → Option Rs) (g4 : ∀ (x1 : Int32) (x2 : Int32) (x3 : Int32) (σ : St), k4 x1 x2 x3 σ = some z → G ε κ 0 0 4 [(0, .ref (ad ε 39)), (1, .int x1), (2, .int x2), (3, .int x3)] [] (WX ε σ)) (x1 : Int32) (x2 : Int32) (x3 : Int32) (σ : St) (ok : b_X9_countOf_4 k4 x1 x2 x3 σ = some z) : G ε κ 0 0 4 [(0, .ref (ad ε 39)), (1, .int x1), (2, .int x2), (3, .int x3)] [] (WX ε σ) := by
  unfold b_X9_countOf_4 at ok
  refine g_iload_n C dX9_countOf_4 rfl 3 rfl ?_
  refine g_aload_n C dX9_countOf_5 rfl 0 rfl ?_
  refine q_X9_63 C dX9_countOf_6 ?_
  refine g_icmp_ge (tgt := 49) C dX9_countOf_9 (by decide) (fun c1 => ?_) (fun c1 => ?_)
  · replace ok := ok_t c1 ok
    refine g_iload_n C dX9_countOf_49 rfl 2 rfl ?_
    exact K.2 .int _ _ _ _ rfl dX9_countOf_50 rfl (pi_ok ok)
  · replace ok := ok_f c1 ok
    refine g_iload_n C dX9_countOf_12 rfl 2 rfl ?_
    refine g_aload_n C dX9_countOf_13 rfl 0 rfl ?_
    refine g_iload_n C dX9_countOf_14 rfl 3 rfl ?_
    refine g_aload_n C dX9_countOf_15 rfl 0 rfl ?_
    refine q_X9_41 C dX9_countOf_16 ?_
    refine g_iload_n C dX9_countOf_19 rfl 1 rfl ?_
    obtain ⟨h2, ok⟩ := gd_ok ok
    refine q_ald C ai_48 h2 dX9_countOf_20 ?_
    obtain ⟨r3, s4, e5, ok⟩ := bd_ok ok
    refine q_cI C [.int x3, .int (σ.2.1 48 x1.toNatClampNeg)] (c_X9_counts e5) wv_X9_153 (by decide) (lt_N (by decide)) wx_X9 rfl rfl rfl (Nat.le_of_ble_eq_true rfl) dX9_countOf_21 ?_
    refine g_if_eq (tgt := 40) C dX9_countOf_24 (by decide) (fun c6 => ?_) (fun c6 => ?_)
    · replace ok := ok_t c6 ok
      refine g_pick (lv' := [(0, .ref (ad ε 39)), (1, .int x1), (3, .int x3)]) ?_ [0, 1, 3] rfl
      exact t_X9_countOf_40 C K k4 g4 _ _ _ _ ok
    · replace ok := ok_f c6 ok
      refine g_aload_n C dX9_countOf_27 rfl 0 rfl ?_
      refine g_iload_n C dX9_countOf_28 rfl 1 rfl ?_
      refine g_iload_n C dX9_countOf_29 rfl 3 rfl ?_
      obtain ⟨r7, s8, e9, ok⟩ := bd_ok ok
      refine q_cI C [.int x1, .int x3] (c_X9_distance e9) wv_X9_156 (by decide) (lt_N (by decide)) wx_X9 rfl rfl rfl (Nat.le_of_ble_eq_true rfl) dX9_countOf_30 ?_
      refine g_if_ne (tgt := 40) C dX9_countOf_33 (by decide) (fun c10 => ?_) (fun c10 => ?_)
      · replace ok := ok_f c10 ok
        refine g_pick (lv' := [(0, .ref (ad ε 39)), (1, .int x1), (3, .int x3)]) ?_ [0, 1, 3] rfl
        exact t_X9_countOf_40 C K k4 g4 _ _ _ _ ok
      · replace ok := ok_t c10 ok
        refine g_iconst (v := 1) C dX9_countOf_36 (by decide) ?_
        refine g_goto (tgt := 41) C dX9_countOf_37 (by decide) ?_
        refine g_pick (lv' := [(0, .ref (ad ε 39)), (1, .int x1), (3, .int x3)]) ?_ [0, 1, 3] rfl
        exact t_X9_countOf_41 C K k4 g4 _ _ _ _ _ ok
def l_X9_countOf_4 : Nat → Int32 → Int32 → Int32 → St → Option Rs
  | 0 => fun _ _ _ _ => none
  | n + 1 => fun x1 x2 x3 σ => b_X9_countOf_4 (l_X9_countOf_4 n) x1 x2 x3 σ
theorem tl_X9_countOf_4 {ε : Et} {κ : Kt} {z : Rs} (C : Cx ε κ cX9_countOf 4 RX9 2) (K : Ret ε κ cX9_countOf (some .int) 0 0 (PI ε z)) : ∀ (n : Nat) (x1 : Int32) (x2 : Int32) (x3 : Int32) (σ : St), l_X9_countOf_4 n x1 x2 x3 σ = some z → G ε κ 0 0 4 [(0, .ref (ad ε 39)), (1, .int x1), (2, .int x2), (3, .int x3)] [] (WX ε σ) := by
  intro n
  induction n with
  | zero =>
    intro x1 x2 x3 σ ok
    cases ok
  | succ n ih =>
    intro x1 x2 x3 σ ok
    exact t_X9_countOf_4 C K (l_X9_countOf_4 n) ih x1 x2 x3 σ ok
def f_X9_countOf (x1 : Int32) (σ : St) : Option Rs := l_X9_countOf_4 FU x1 (0 : Int32) (0 : Int32) σ
set_option maxRecDepth 10000 in
set_option maxHeartbeats 1000000 in
theorem tf_X9_countOf {ε : Et} {κ : Kt} {z : Rs} (C : Cx ε κ cX9_countOf 4 RX9 2) (K : Ret ε κ cX9_countOf (some .int) 0 0 (PI ε z)) (x1 : Int32) (σ : St) (ok : f_X9_countOf x1 σ = some z) : G ε κ 0 0 0 [(0, .ref (ad ε 39)), (1, .int x1)] [] (WX ε σ) := by
  unfold f_X9_countOf at ok
  refine g_iconst (v := 0) C dX9_countOf_0 (by decide) ?_
  refine g_istore_n C [(2, .int (0 : Int32)), (0, .ref (ad ε 39)), (1, .int x1)] dX9_countOf_1 rfl (by decide) rfl ?_
  refine g_iconst (v := 0) C dX9_countOf_2 (by decide) ?_
  refine g_istore_n C [(3, .int (0 : Int32)), (2, .int (0 : Int32)), (0, .ref (ad ε 39)), (1, .int x1)] dX9_countOf_3 rfl (by decide) rfl ?_
  refine g_pick (lv' := [(0, .ref (ad ε 39)), (1, .int x1), (2, .int (0 : Int32)), (3, .int (0 : Int32))]) ?_ [2, 3, 1, 0] rfl
  exact tl_X9_countOf_4 C K FU _ _ _ _ ok
theorem c_X9_countOf {l : Launch} {ε : Et} {σ : St} {z : Rs} {x1 : Int32} (e : f_X9_countOf x1 σ = some z) : RM l ε yX9_countOf cX9_countOf 4 (some .int) 2 0 0 [.ref (ad ε 39), .int x1] (WX ε σ) (PI ε z) := RM.of (by decide) (Nat.le_of_ble_eq_true rfl) (fun κ C K => tf_X9_countOf C K x1 σ e)
def b_X9_spreadGroup_151 (k3 : Int32 → Int32 → Int32 → Int32 → St → Option Rs) (k14 : Int32 → Int32 → Int32 → Int32 → Int32 → St → Option Rs) (x1 : Int32) (x2 : Int32) (x3 : Int32) (x4 : Int32) (x5 : Int32) (σ : St) : Option Rs := nx (x5 + (1 : Int32)) (fun y1 => k14 x1 x2 x3 x4 y1 σ)
set_option maxRecDepth 10000 in
set_option maxHeartbeats 1000000 in
theorem t_X9_spreadGroup_151 {ε : Et} {κ : Kt} {z : Rs} (C : Cx ε κ cX9_spreadGroup 8 RX9 3) (K : Ret ε κ cX9_spreadGroup none 0 0 (PV ε z)) (k3 : Int32 → Int32 → Int32 → Int32 → St → Option Rs) (k14 : Int32 → Int32 → Int32 → Int32 → Int32 → St → Option Rs) (g3 : ∀ (x1 : Int32) (x2 : Int32) (x3 : Int32) (x4 : Int32) (σ : St), k3 x1 x2 x3 x4 σ = some z → G ε κ 0 0 3 [(0, .ref (ad ε 39)), (1, .int x1), (2, .int x2), (3, .int x3), (4, .int x4)] [] (WX ε σ)) (g14 : ∀ (x1 : Int32) (x2 : Int32) (x3 : Int32) (x4 : Int32) (x5 : Int32) (σ : St), k14 x1 x2 x3 x4 x5 σ = some z → G ε κ 0 0 14 [(0, .ref (ad ε 39)), (1, .int x1), (2, .int x2), (3, .int x3), (4, .int x4), (5, .int x5)] [] (WX ε σ)) (x1 : Int32) (x2 : Int32) (x3 : Int32) (x4 : Int32) (x5 : Int32) (σ : St) (ok : b_X9_spreadGroup_151 k3 k14 x1 x2 x3 x4 x5 σ = some z) : G ε κ 0 0 151 [(0, .ref (ad ε 39)), (1, .int x1), (2, .int x2), (3, .int x3), (4, .int x4), (5, .int x5)] [] (WX ε σ) := by
  unfold b_X9_spreadGroup_151 at ok
  obtain ⟨y1, e2⟩ : ∃ y : Int32, y = (x5 + (1 : Int32)) := ⟨_, rfl⟩
  replace ok := nx_ok ok y1 e2
  refine g_iinc (v := y1) C [(5, .int y1), (0, .ref (ad ε 39)), (1, .int x1), (2, .int x2), (3, .int x3), (4, .int x4)] dX9_spreadGroup_151 5 rfl (by rw [e2]; rfl) (by decide) rfl ?_
  refine g_goto (tgt := 14) C dX9_spreadGroup_154 (by decide) ?_
  refine g_pick (lv' := [(0, .ref (ad ε 39)), (1, .int x1), (2, .int x2), (3, .int x3), (4, .int x4), (5, .int y1)]) ?_ [1, 2, 3, 4, 5, 0] rfl
  exact g14 _ _ _ _ _ _ ok
def b_X9_spreadGroup_145 (k3 : Int32 → Int32 → Int32 → Int32 → St → Option Rs) (k14 : Int32 → Int32 → Int32 → Int32 → Int32 → St → Option Rs) (k26 : Int32 → Int32 → Int32 → Int32 → Int32 → Int32 → St → Option Rs) (x1 : Int32) (x2 : Int32) (x3 : Int32) (x4 : Int32) (x5 : Int32) (x6 : Int32) (σ : St) : Option Rs := nx (x6 + (1 : Int32)) (fun y1 => k26 x1 x2 x3 x4 x5 y1 σ)
set_option maxRecDepth 10000 in
set_option maxHeartbeats 1000000 in
theorem t_X9_spreadGroup_145 {ε : Et} {κ : Kt} {z : Rs} (C : Cx ε κ cX9_spreadGroup 8 RX9 3) (K : Ret ε κ cX9_spreadGroup none 0 0 (PV ε z)) (k3 : Int32 → Int32 → Int32 → Int32 → St → Option Rs) (k14 : Int32 → Int32 → Int32 → Int32 → Int32 → St → Option Rs) (k26 : Int32 → Int32 → Int32 → Int32 → Int32 → Int32 → St → Option Rs) (g3 : ∀ (x1 : Int32) (x2 : Int32) (x3 : Int32) (x4 : Int32) (σ : St), k3 x1 x2 x3 x4 σ = some z → G ε κ 0 0 3 [(0, .ref (ad ε 39)), (1, .int x1), (2, .int x2), (3, .int x3), (4, .int x4)] [] (WX ε σ)) (g14 : ∀ (x1 : Int32) (x2 : Int32) (x3 : Int32) (x4 : Int32) (x5 : Int32) (σ : St), k14 x1 x2 x3 x4 x5 σ = some z → G ε κ 0 0 14 [(0, .ref (ad ε 39)), (1, .int x1), (2, .int x2), (3, .int x3), (4, .int x4), (5, .int x5)] [] (WX ε σ)) (g26 : ∀ (x1 : Int32) (x2 : Int32) (x3 : Int32) (x4 : Int32) (x5 : Int32) (x6 : Int32) (σ : St), k26 x1 x2 x3 x4 x5 x6 σ = some z → G ε κ 0 0 26 [(0, .ref (ad ε 39)), (1, .int x1), (2, .int x2), (3, .int x3), (4, .int x4), (5, .int x5), (6, .int x6)] [] (WX ε σ)) (x1 : Int32) (x2 : Int32) (x3 : Int32) (x4 : Int32) (x5 : Int32) (x6 : Int32) (σ : St) (ok : b_X9_spreadGroup_145 k3 k14 k26 x1 x2 x3 x4 x5 x6 σ = some z) : G ε κ 0 0 145 [(0, .ref (ad ε 39)), (1, .int x1), (2, .int x2), (3, .int x3), (4, .int x4), (5, .int x5), (6, .int x6)] [] (WX ε σ) := by
  unfold b_X9_spreadGroup_145 at ok
  obtain ⟨y1, e2⟩ : ∃ y : Int32, y = (x6 + (1 : Int32)) := ⟨_, rfl⟩
  replace ok := nx_ok ok y1 e2
  refine g_iinc (v := y1) C [(6, .int y1), (0, .ref (ad ε 39)), (1, .int x1), (2, .int x2), (3, .int x3), (4, .int x4), (5, .int x5)] dX9_spreadGroup_145 6 rfl (by rw [e2]; rfl) (by decide) rfl ?_
  refine g_goto (tgt := 26) C dX9_spreadGroup_148 (by decide) ?_
  refine g_pick (lv' := [(0, .ref (ad ε 39)), (1, .int x1), (2, .int x2), (3, .int x3), (4, .int x4), (5, .int x5), (6, .int y1)]) ?_ [1, 2, 3, 4, 5, 6, 0] rfl
  exact g26 _ _ _ _ _ _ _ ok
def b_X9_spreadGroup_134 (k3 : Int32 → Int32 → Int32 → Int32 → St → Option Rs) (k14 : Int32 → Int32 → Int32 → Int32 → Int32 → St → Option Rs) (k26 : Int32 → Int32 → Int32 → Int32 → Int32 → Int32 → St → Option Rs) (x1 : Int32) (x2 : Int32) (x3 : Int32) (x5 : Int32) (x6 : Int32) (σ : St) : Option Rs := gd (inb x6 (ln 52)) (nx (sA σ 52 x6 x2) (fun s2 => b_X9_spreadGroup_145 k3 k14 k26 x1 x2 x3 (1 : Int32) x5 x6 s2))
set_option maxRecDepth 10000 in
set_option maxHeartbeats 1000000 in
theorem t_X9_spreadGroup_134 {ε : Et} {κ : Kt} {z : Rs} (C : Cx ε κ cX9_spreadGroup 8 RX9 3) (K : Ret ε κ cX9_spreadGroup none 0 0 (PV ε z)) (k3 : Int32 → Int32 → Int32 → Int32 → St → Option Rs) (k14 : Int32 → Int32 → Int32 → Int32 → Int32 → St → Option Rs) (k26 : Int32 → Int32 → Int32 → Int32 → Int32 → Int32 → St → Option Rs) (g3 : ∀ (x1 : Int32) (x2 : Int32) (x3 : Int32) (x4 : Int32) (σ : St), k3 x1 x2 x3 x4 σ = some z → G ε κ 0 0 3 [(0, .ref (ad ε 39)), (1, .int x1), (2, .int x2), (3, .int x3), (4, .int x4)] [] (WX ε σ)) (g14 : ∀ (x1 : Int32) (x2 : Int32) (x3 : Int32) (x4 : Int32) (x5 : Int32) (σ : St), k14 x1 x2 x3 x4 x5 σ = some z → G ε κ 0 0 14 [(0, .ref (ad ε 39)), (1, .int x1), (2, .int x2), (3, .int x3), (4, .int x4), (5, .int x5)] [] (WX ε σ)) (g26 : ∀ (x1 : Int32) (x2 : Int32) (x3 : Int32) (x4 : Int32) (x5 : Int32) (x6 : Int32) (σ : St), k26 x1 x2 x3 x4 x5 x6 σ = some z → G ε κ 0 0 26 [(0, .ref (ad ε 39)), (1, .int x1), (2, .int x2), (3, .int x3), (4, .int x4), (5, .int x5), (6, .int x6)] [] (WX ε σ)) (x1 : Int32) (x2 : Int32) (x3 : Int32) (x5 : Int32) (x6 : Int32) (σ : St) (ok : b_X9_spreadGroup_134 k3 k14 k26 x1 x2 x3 x5 x6 σ = some z) : G ε κ 0 0 134 [(0, .ref (ad ε 39)), (1, .int x1), (2, .int x2), (3, .int x3), (5, .int x5), (6, .int x6)] [] (WX ε σ) := by
  unfold b_X9_spreadGroup_134 at ok
  refine g_aload_n C dX9_spreadGroup_134 rfl 0 rfl ?_
  refine q_X9_54 C dX9_spreadGroup_135 ?_
  refine g_iload C dX9_spreadGroup_138 5 rfl ?_
  refine g_iload_n C dX9_spreadGroup_140 rfl 2 rfl ?_
  obtain ⟨h1, ok⟩ := gd_ok ok
  refine q_ast C ai_52 h1 dX9_spreadGroup_141 (fun s2 e3 => ?_)
  replace ok := nx_ok ok s2 e3
  refine g_iconst (v := 1) C dX9_spreadGroup_142 (by decide) ?_
  refine g_istore C [(4, .int (1 : Int32)), (0, .ref (ad ε 39)), (1, .int x1), (2, .int x2), (3, .int x3), (5, .int x5), (6, .int x6)] dX9_spreadGroup_143 (by decide) rfl ?_
  refine g_pick (lv' := [(0, .ref (ad ε 39)), (1, .int x1), (2, .int x2), (3, .int x3), (4, .int (1 : Int32)), (5, .int x5), (6, .int x6)]) ?_ [1, 2, 3, 4, 0, 5, 6] rfl
  exact t_X9_spreadGroup_145 C K k3 k14 k26 g3 g14 g26 _ _ _ _ _ _ _ ok
def b_X9_spreadGroup_93 (k3 : Int32 → Int32 → Int32 → Int32 → St → Option Rs) (k14 : Int32 → Int32 → Int32 → Int32 → Int32 → St → Option Rs) (k26 : Int32 → Int32 → Int32 → Int32 → Int32 → Int32 → St → Option Rs) (x1 : Int32) (x2 : Int32) (x3 : Int32) (x4 : Int32) (x5 : Int32) (x6 : Int32) (t0 : Int32) (σ : St) : Option Rs := (if t0 = 0 then b_X9_spreadGroup_145 k3 k14 k26 x1 x2 x3 x4 x5 x6 σ else (if x3 = 0 then b_X9_spreadGroup_134 k3 k14 k26 x1 x2 x3 x5 x6 σ else bd (f_X9_distance x5 x6 σ) (fun r3 s4 => (if r3 = 0 then b_X9_spreadGroup_134 k3 k14 k26 x1 x2 x3 x5 x6 s4 else bd (f_X9_countOf x6 s4) (fun r7 s8 => bd (f_X9_countOf x5 s8) (fun r10 s11 => (if r10 < (((2 : Int32) * r7) - (1 : Int32)) then b_X9_spreadGroup_145 k3 k14 k26 x1 x2 x3 x4 x5 x6 s11 else b_X9_spreadGroup_134 k3 k14 k26 x1 x2 x3 x5 x6 s11)))))))
set_option maxRecDepth 10000 in
set_option maxHeartbeats 1000000 in
theorem t_X9_spreadGroup_93 {ε : Et} {κ : Kt} {z : Rs} (C : Cx ε κ cX9_spreadGroup 8 RX9 3) (K : Ret ε κ cX9_spreadGroup none 0 0 (PV ε z)) (k3 : Int32 → Int32 → Int32 → Int32 → St → Option Rs) (k14 : Int32 → Int32 → Int32 → Int32 → Int32 → St → Option Rs) (k26 : Int32 → Int32 → Int32 → Int32 → Int32 → Int32 → St → Option Rs) (g3 : ∀ (x1 : Int32) (x2 : Int32) (x3 : Int32) (x4 : Int32) (σ : St), k3 x1 x2 x3 x4 σ = some z → G ε κ 0 0 3 [(0, .ref (ad ε 39)), (1, .int x1), (2, .int x2), (3, .int x3), (4, .int x4)] [] (WX ε σ)) (g14 : ∀ (x1 : Int32) (x2 : Int32) (x3 : Int32) (x4 : Int32) (x5 : Int32) (σ : St), k14 x1 x2 x3 x4 x5 σ = some z → G ε κ 0 0 14 [(0, .ref (ad ε 39)), (1, .int x1), (2, .int x2), (3, .int x3), (4, .int x4), (5, .int x5)] [] (WX ε σ)) (g26 : ∀ (x1 : Int32) (x2 : Int32) (x3 : Int32) (x4 : Int32) (x5 : Int32) (x6 : Int32) (σ : St), k26 x1 x2 x3 x4 x5 x6 σ = some z → G ε κ 0 0 26 [(0, .ref (ad ε 39)), (1, .int x1), (2, .int x2), (3, .int x3), (4, .int x4), (5, .int x5), (6, .int x6)] [] (WX ε σ)) (x1 : Int32) (x2 : Int32) (x3 : Int32) (x4 : Int32) (x5 : Int32) (x6 : Int32) (t0 : Int32) (σ : St) (ok : b_X9_spreadGroup_93 k3 k14 k26 x1 x2 x3 x4 x5 x6 t0 σ = some z) : G ε κ 0 0 93 [(0, .ref (ad ε 39)), (1, .int x1), (2, .int x2), (3, .int x3), (4, .int x4), (5, .int x5), (6, .int x6)] [.int t0] (WX ε σ) := by
  unfold b_X9_spreadGroup_93 at ok
  refine g_istore C [(7, .int t0), (0, .ref (ad ε 39)), (1, .int x1), (2, .int x2), (3, .int x3), (4, .int x4), (5, .int x5), (6, .int x6)] dX9_spreadGroup_93 (by decide) rfl ?_
  refine g_iload C dX9_spreadGroup_95 0 rfl ?_
  refine g_if_eq (tgt := 145) C dX9_spreadGroup_97 (by decide) (fun c1 => ?_) (fun c1 => ?_)
  · replace ok := ok_t c1 ok
    refine g_pick (lv' := [(0, .ref (ad ε 39)), (1, .int x1), (2, .int x2), (3, .int x3), (4, .int x4), (5, .int x5), (6, .int x6)]) ?_ [1, 2, 3, 4, 5, 6, 7] rfl
    exact t_X9_spreadGroup_145 C K k3 k14 k26 g3 g14 g26 _ _ _ _ _ _ _ ok
  · replace ok := ok_f c1 ok
    refine g_iload_n C dX9_spreadGroup_100 rfl 4 rfl ?_
    refine g_if_eq (tgt := 134) C dX9_spreadGroup_101 (by decide) (fun c2 => ?_) (fun c2 => ?_)
    · replace ok := ok_t c2 ok
      refine g_pick (lv' := [(0, .ref (ad ε 39)), (1, .int x1), (2, .int x2), (3, .int x3), (5, .int x5), (6, .int x6)]) ?_ [1, 2, 3, 4, 6, 7] rfl
      exact t_X9_spreadGroup_134 C K k3 k14 k26 g3 g14 g26 _ _ _ _ _ _ ok
    · replace ok := ok_f c2 ok
      refine g_aload_n C dX9_spreadGroup_104 rfl 1 rfl ?_
      refine g_iload C dX9_spreadGroup_105 6 rfl ?_
      refine g_iload C dX9_spreadGroup_107 7 rfl ?_
      obtain ⟨r3, s4, e5, ok⟩ := bd_ok ok
      refine q_cI C [.int x5, .int x6] (c_X9_distance e5) wv_X9_156 (by decide) (lt_N (by decide)) wx_X9 rfl rfl rfl (Nat.le_of_ble_eq_true rfl) dX9_spreadGroup_109 ?_
      refine g_if_eq (tgt := 134) C dX9_spreadGroup_112 (by decide) (fun c6 => ?_) (fun c6 => ?_)
      · replace ok := ok_t c6 ok
        refine g_pick (lv' := [(0, .ref (ad ε 39)), (1, .int x1), (2, .int x2), (3, .int x3), (5, .int x5), (6, .int x6)]) ?_ [1, 2, 3, 4, 6, 7] rfl
        exact t_X9_spreadGroup_134 C K k3 k14 k26 g3 g14 g26 _ _ _ _ _ _ ok
      · replace ok := ok_f c6 ok
        refine g_iconst (v := 2) C dX9_spreadGroup_115 (by decide) ?_
        refine g_aload_n C dX9_spreadGroup_116 rfl 1 rfl ?_
        refine g_iload C dX9_spreadGroup_117 7 rfl ?_
        obtain ⟨r7, s8, e9, ok⟩ := bd_ok ok
        refine q_cI C [.int x6] (c_X9_countOf e9) wv_X9_159 (by decide) (lt_N (by decide)) wx_X9 rfl rfl rfl (Nat.le_of_ble_eq_true rfl) dX9_spreadGroup_119 ?_
        refine g_imul C dX9_spreadGroup_122 ?_
        refine g_iconst (v := 1) C dX9_spreadGroup_123 (by decide) ?_
        refine g_isub C dX9_spreadGroup_124 ?_
        refine g_aload_n C dX9_spreadGroup_125 rfl 1 rfl ?_
        refine g_iload C dX9_spreadGroup_126 6 rfl ?_
        obtain ⟨r10, s11, e12, ok⟩ := bd_ok ok
        refine q_cI C [.int x5] (c_X9_countOf e12) wv_X9_159 (by decide) (lt_N (by decide)) wx_X9 rfl rfl rfl (Nat.le_of_ble_eq_true rfl) dX9_spreadGroup_128 ?_
        refine g_icmp_gt (tgt := 145) C dX9_spreadGroup_131 (by decide) (fun c13 => ?_) (fun c13 => ?_)
        · replace ok := ok_t c13 ok
          refine g_pick (lv' := [(0, .ref (ad ε 39)), (1, .int x1), (2, .int x2), (3, .int x3), (4, .int x4), (5, .int x5), (6, .int x6)]) ?_ [1, 2, 3, 4, 5, 6, 7] rfl
          exact t_X9_spreadGroup_145 C K k3 k14 k26 g3 g14 g26 _ _ _ _ _ _ _ ok
        · replace ok := ok_f c13 ok
          refine g_pick (lv' := [(0, .ref (ad ε 39)), (1, .int x1), (2, .int x2), (3, .int x3), (5, .int x5), (6, .int x6)]) ?_ [1, 2, 3, 4, 6, 7] rfl
          exact t_X9_spreadGroup_134 C K k3 k14 k26 g3 g14 g26 _ _ _ _ _ _ ok
def b_X9_spreadGroup_92 (k3 : Int32 → Int32 → Int32 → Int32 → St → Option Rs) (k14 : Int32 → Int32 → Int32 → Int32 → Int32 → St → Option Rs) (k26 : Int32 → Int32 → Int32 → Int32 → Int32 → Int32 → St → Option Rs) (x1 : Int32) (x2 : Int32) (x3 : Int32) (x4 : Int32) (x5 : Int32) (x6 : Int32) (σ : St) : Option Rs := b_X9_spreadGroup_93 k3 k14 k26 x1 x2 x3 x4 x5 x6 (0 : Int32) σ
set_option maxRecDepth 10000 in
set_option maxHeartbeats 1000000 in
theorem t_X9_spreadGroup_92 {ε : Et} {κ : Kt} {z : Rs} (C : Cx ε κ cX9_spreadGroup 8 RX9 3) (K : Ret ε κ cX9_spreadGroup none 0 0 (PV ε z)) (k3 : Int32 → Int32 → Int32 → Int32 → St → Option Rs) (k14 : Int32 → Int32 → Int32 → Int32 → Int32 → St → Option Rs) (k26 : Int32 → Int32 → Int32 → Int32 → Int32 → Int32 → St → Option Rs) (g3 : ∀ (x1 : Int32) (x2 : Int32) (x3 : Int32) (x4 : Int32) (σ : St), k3 x1 x2 x3 x4 σ = some z → G ε κ 0 0 3 [(0, .ref (ad ε 39)), (1, .int x1), (2, .int x2), (3, .int x3), (4, .int x4)] [] (WX ε σ)) (g14 : ∀ (x1 : Int32) (x2 : Int32) (x3 : Int32) (x4 : Int32) (x5 : Int32) (σ : St), k14 x1 x2 x3 x4 x5 σ = some z → G ε κ 0 0 14 [(0, .ref (ad ε 39)), (1, .int x1), (2, .int x2), (3, .int x3), (4, .int x4), (5, .int x5)] [] (WX ε σ)) (g26 : ∀ (x1 : Int32) (x2 : Int32) (x3 : Int32) (x4 : Int32) (x5 : Int32) (x6 : Int32) (σ : St), k26 x1 x2 x3 x4 x5 x6 σ = some z → G ε κ 0 0 26 [(0, .ref (ad ε 39)), (1, .int x1), (2, .int x2), (3, .int x3), (4, .int x4), (5, .int x5), (6, .int x6)] [] (WX ε σ)) (x1 : Int32) (x2 : Int32) (x3 : Int32) (x4 : Int32) (x5 : Int32) (x6 : Int32) (σ : St) (ok : b_X9_spreadGroup_92 k3 k14 k26 x1 x2 x3 x4 x5 x6 σ = some z) : G ε κ 0 0 92 [(0, .ref (ad ε 39)), (1, .int x1), (2, .int x2), (3, .int x3), (4, .int x4), (5, .int x5), (6, .int x6)] [] (WX ε σ) := by
  unfold b_X9_spreadGroup_92 at ok
  refine g_iconst (v := 0) C dX9_spreadGroup_92 (by decide) ?_
  exact t_X9_spreadGroup_93 C K k3 k14 k26 g3 g14 g26 _ _ _ _ _ _ _ _ ok
def b_X9_spreadGroup_26 (k3 : Int32 → Int32 → Int32 → Int32 → St → Option Rs) (k14 : Int32 → Int32 → Int32 → Int32 → Int32 → St → Option Rs) (k26 : Int32 → Int32 → Int32 → Int32 → Int32 → Int32 → St → Option Rs) (x1 : Int32) (x2 : Int32) (x3 : Int32) (x4 : Int32) (x5 : Int32) (x6 : Int32) (σ : St) : Option Rs := (if (σ.1 39 9) ≤ x6 then b_X9_spreadGroup_151 k3 k14 x1 x2 x3 x4 x5 σ else bd (f_X9_counts x5 x1 σ) (fun r2 s3 => (if r2 = 0 then b_X9_spreadGroup_151 k3 k14 x1 x2 x3 x4 x5 s3 else gd (inb x5 (ln 52)) ((if (s3.2.1 52 x5.toNatClampNeg) = x2 then bd (f_X9_counts x6 x1 s3) (fun r8 s9 => (if r8 = 0 then b_X9_spreadGroup_92 k3 k14 k26 x1 x2 x3 x4 x5 x6 s9 else gd (inb x6 (ln 52)) ((if 0 ≤ (s9.2.1 52 x6.toNatClampNeg) then b_X9_spreadGroup_92 k3 k14 k26 x1 x2 x3 x4 x5 x6 s9 else bd (f_X9_distance x5 x6 s9) (fun r14 s15 => (if (1 : Int32) < r14 then b_X9_spreadGroup_92 k3 k14 k26 x1 x2 x3 x4 x5 x6 s15 else b_X9_spreadGroup_93 k3 k14 k26 x1 x2 x3 x4 x5 x6 (1 : Int32) s15)))))) else b_X9_spreadGroup_151 k3 k14 x1 x2 x3 x4 x5 s3)))))
set_option maxRecDepth 10000 in
set_option maxHeartbeats 1000000 in
theorem t_X9_spreadGroup_26 {ε : Et} {κ : Kt} {z : Rs} (C : Cx ε κ cX9_spreadGroup 8 RX9 3) (K : Ret ε κ cX9_spreadGroup none 0 0 (PV ε z)) (k3 : Int32 → Int32 → Int32 → Int32 → St → Option Rs) (k14 : Int32 → Int32 → Int32 → Int32 → Int32 → St → Option Rs) (k26 : Int32 → Int32 → Int32 → Int32 → Int32 → Int32 → St → Option Rs) (g3 : ∀ (x1 : Int32) (x2 : Int32) (x3 : Int32) (x4 : Int32) (σ : St), k3 x1 x2 x3 x4 σ = some z → G ε κ 0 0 3 [(0, .ref (ad ε 39)), (1, .int x1), (2, .int x2), (3, .int x3), (4, .int x4)] [] (WX ε σ)) (g14 : ∀ (x1 : Int32) (x2 : Int32) (x3 : Int32) (x4 : Int32) (x5 : Int32) (σ : St), k14 x1 x2 x3 x4 x5 σ = some z → G ε κ 0 0 14 [(0, .ref (ad ε 39)), (1, .int x1), (2, .int x2), (3, .int x3), (4, .int x4), (5, .int x5)] [] (WX ε σ)) (g26 : ∀ (x1 : Int32) (x2 : Int32) (x3 : Int32) (x4 : Int32) (x5 : Int32) (x6 : Int32) (σ : St), k26 x1 x2 x3 x4 x5 x6 σ = some z → G ε κ 0 0 26 [(0, .ref (ad ε 39)), (1, .int x1), (2, .int x2), (3, .int x3), (4, .int x4), (5, .int x5), (6, .int x6)] [] (WX ε σ)) (x1 : Int32) (x2 : Int32) (x3 : Int32) (x4 : Int32) (x5 : Int32) (x6 : Int32) (σ : St) (ok : b_X9_spreadGroup_26 k3 k14 k26 x1 x2 x3 x4 x5 x6 σ = some z) : G ε κ 0 0 26 [(0, .ref (ad ε 39)), (1, .int x1), (2, .int x2), (3, .int x3), (4, .int x4), (5, .int x5), (6, .int x6)] [] (WX ε σ) := by
  unfold b_X9_spreadGroup_26 at ok
  refine g_iload C dX9_spreadGroup_26 6 rfl ?_
  refine g_aload_n C dX9_spreadGroup_28 rfl 0 rfl ?_
  refine q_X9_63 C dX9_spreadGroup_29 ?_
  refine g_icmp_ge (tgt := 151) C dX9_spreadGroup_32 (by decide) (fun c1 => ?_) (fun c1 => ?_)
  · replace ok := ok_t c1 ok
    refine g_pick (lv' := [(0, .ref (ad ε 39)), (1, .int x1), (2, .int x2), (3, .int x3), (4, .int x4), (5, .int x5)]) ?_ [0, 1, 2, 3, 4, 5] rfl
    exact t_X9_spreadGroup_151 C K k3 k14 g3 g14 _ _ _ _ _ _ ok
  · replace ok := ok_f c1 ok
    refine g_aload_n C dX9_spreadGroup_35 rfl 0 rfl ?_
    refine g_iload C dX9_spreadGroup_36 5 rfl ?_
    refine g_iload_n C dX9_spreadGroup_38 rfl 1 rfl ?_
    obtain ⟨r2, s3, e4, ok⟩ := bd_ok ok
    refine q_cI C [.int x5, .int x1] (c_X9_counts e4) wv_X9_153 (by decide) (lt_N (by decide)) wx_X9 rfl rfl rfl (Nat.le_of_ble_eq_true rfl) dX9_spreadGroup_39 ?_
    refine g_if_eq (tgt := 151) C dX9_spreadGroup_42 (by decide) (fun c5 => ?_) (fun c5 => ?_)
    · replace ok := ok_t c5 ok
      refine g_pick (lv' := [(0, .ref (ad ε 39)), (1, .int x1), (2, .int x2), (3, .int x3), (4, .int x4), (5, .int x5)]) ?_ [0, 1, 2, 3, 4, 5] rfl
      exact t_X9_spreadGroup_151 C K k3 k14 g3 g14 _ _ _ _ _ _ ok
    · replace ok := ok_f c5 ok
      refine g_aload_n C dX9_spreadGroup_45 rfl 0 rfl ?_
      refine q_X9_54 C dX9_spreadGroup_46 ?_
      refine g_iload C dX9_spreadGroup_49 5 rfl ?_
      obtain ⟨h6, ok⟩ := gd_ok ok
      refine q_ald C ai_52 h6 dX9_spreadGroup_51 ?_
      refine g_iload_n C dX9_spreadGroup_52 rfl 2 rfl ?_
      refine g_icmp_ne (tgt := 151) C dX9_spreadGroup_53 (by decide) (fun c7 => ?_) (fun c7 => ?_)
      · replace ok := ok_f c7 ok
        refine g_pick (lv' := [(0, .ref (ad ε 39)), (1, .int x1), (2, .int x2), (3, .int x3), (4, .int x4), (5, .int x5)]) ?_ [0, 1, 2, 3, 4, 5] rfl
        exact t_X9_spreadGroup_151 C K k3 k14 g3 g14 _ _ _ _ _ _ ok
      · replace ok := ok_t c7 ok
        refine g_aload_n C dX9_spreadGroup_56 rfl 0 rfl ?_
        refine g_iload C dX9_spreadGroup_57 6 rfl ?_
        refine g_iload_n C dX9_spreadGroup_59 rfl 1 rfl ?_
        obtain ⟨r8, s9, e10, ok⟩ := bd_ok ok
        refine q_cI C [.int x6, .int x1] (c_X9_counts e10) wv_X9_153 (by decide) (lt_N (by decide)) wx_X9 rfl rfl rfl (Nat.le_of_ble_eq_true rfl) dX9_spreadGroup_60 ?_
        refine g_if_eq (tgt := 92) C dX9_spreadGroup_63 (by decide) (fun c11 => ?_) (fun c11 => ?_)
        · replace ok := ok_t c11 ok
          exact t_X9_spreadGroup_92 C K k3 k14 k26 g3 g14 g26 _ _ _ _ _ _ _ ok
        · replace ok := ok_f c11 ok
          refine g_aload_n C dX9_spreadGroup_66 rfl 0 rfl ?_
          refine q_X9_54 C dX9_spreadGroup_67 ?_
          refine g_iload C dX9_spreadGroup_70 6 rfl ?_
          obtain ⟨h12, ok⟩ := gd_ok ok
          refine q_ald C ai_52 h12 dX9_spreadGroup_72 ?_
          refine g_if_ge (tgt := 92) C dX9_spreadGroup_73 (by decide) (fun c13 => ?_) (fun c13 => ?_)
          · replace ok := ok_t c13 ok
            exact t_X9_spreadGroup_92 C K k3 k14 k26 g3 g14 g26 _ _ _ _ _ _ _ ok
          · replace ok := ok_f c13 ok
            refine g_aload_n C dX9_spreadGroup_76 rfl 0 rfl ?_
            refine g_iload C dX9_spreadGroup_77 5 rfl ?_
            refine g_iload C dX9_spreadGroup_79 6 rfl ?_
            obtain ⟨r14, s15, e16, ok⟩ := bd_ok ok
            refine q_cI C [.int x5, .int x6] (c_X9_distance e16) wv_X9_156 (by decide) (lt_N (by decide)) wx_X9 rfl rfl rfl (Nat.le_of_ble_eq_true rfl) dX9_spreadGroup_81 ?_
            refine g_iconst (v := 1) C dX9_spreadGroup_84 (by decide) ?_
            refine g_icmp_gt (tgt := 92) C dX9_spreadGroup_85 (by decide) (fun c17 => ?_) (fun c17 => ?_)
            · replace ok := ok_t c17 ok
              exact t_X9_spreadGroup_92 C K k3 k14 k26 g3 g14 g26 _ _ _ _ _ _ _ ok
            · replace ok := ok_f c17 ok
              refine g_iconst (v := 1) C dX9_spreadGroup_88 (by decide) ?_
              refine g_goto (tgt := 93) C dX9_spreadGroup_89 (by decide) ?_
              exact t_X9_spreadGroup_93 C K k3 k14 k26 g3 g14 g26 _ _ _ _ _ _ _ _ ok
def l_X9_spreadGroup_26 (k3 : Int32 → Int32 → Int32 → Int32 → St → Option Rs) (k14 : Int32 → Int32 → Int32 → Int32 → Int32 → St → Option Rs) : Nat → Int32 → Int32 → Int32 → Int32 → Int32 → Int32 → St → Option Rs
  | 0 => fun _ _ _ _ _ _ _ => none
  | n + 1 => fun x1 x2 x3 x4 x5 x6 σ => b_X9_spreadGroup_26 k3 k14 (l_X9_spreadGroup_26 k3 k14 n) x1 x2 x3 x4 x5 x6 σ
theorem tl_X9_spreadGroup_26 {ε : Et} {κ : Kt} {z : Rs} (C : Cx ε κ cX9_spreadGroup 8 RX9 3) (K : Ret ε κ cX9_spreadGroup none 0 0 (PV ε z)) (k3 : Int32 → Int32 → Int32 → Int32 → St → Option Rs) (k14 : Int32 → Int32 → Int32 → Int32 → Int32 → St → Option Rs) (g3 : ∀ (x1 : Int32) (x2 : Int32) (x3 : Int32) (x4 : Int32) (σ : St), k3 x1 x2 x3 x4 σ = some z → G ε κ 0 0 3 [(0, .ref (ad ε 39)), (1, .int x1), (2, .int x2), (3, .int x3), (4, .int x4)] [] (WX ε σ)) (g14 : ∀ (x1 : Int32) (x2 : Int32) (x3 : Int32) (x4 : Int32) (x5 : Int32) (σ : St), k14 x1 x2 x3 x4 x5 σ = some z → G ε κ 0 0 14 [(0, .ref (ad ε 39)), (1, .int x1), (2, .int x2), (3, .int x3), (4, .int x4), (5, .int x5)] [] (WX ε σ)) : ∀ (n : Nat) (x1 : Int32) (x2 : Int32) (x3 : Int32) (x4 : Int32) (x5 : Int32) (x6 : Int32) (σ : St), l_X9_spreadGroup_26 k3 k14 n x1 x2 x3 x4 x5 x6 σ = some z → G ε κ 0 0 26 [(0, .ref (ad ε 39)), (1, .int x1), (2, .int x2), (3, .int x3), (4, .int x4), (5, .int x5), (6, .int x6)] [] (WX ε σ) := by
  intro n
  induction n with
  | zero =>
    intro x1 x2 x3 x4 x5 x6 σ ok
    cases ok
  | succ n ih =>
    intro x1 x2 x3 x4 x5 x6 σ ok
    exact t_X9_spreadGroup_26 C K k3 k14 (l_X9_spreadGroup_26 k3 k14 n) g3 g14 ih x1 x2 x3 x4 x5 x6 σ ok
def b_X9_spreadGroup_14 (k3 : Int32 → Int32 → Int32 → Int32 → St → Option Rs) (k14 : Int32 → Int32 → Int32 → Int32 → Int32 → St → Option Rs) (x1 : Int32) (x2 : Int32) (x3 : Int32) (x4 : Int32) (x5 : Int32) (σ : St) : Option Rs := (if (σ.1 39 9) ≤ x5 then k3 x1 x2 x3 x4 σ else l_X9_spreadGroup_26 k3 k14 FU x1 x2 x3 x4 x5 (0 : Int32) σ)
set_option maxRecDepth 10000 in
set_option maxHeartbeats 1000000 in
theorem t_X9_spreadGroup_14 {ε : Et} {κ : Kt} {z : Rs} (C : Cx ε κ cX9_spreadGroup 8 RX9 3) (K : Ret ε κ cX9_spreadGroup none 0 0 (PV ε z)) (k3 : Int32 → Int32 → Int32 → Int32 → St → Option Rs) (k14 : Int32 → Int32 → Int32 → Int32 → Int32 → St → Option Rs) (g3 : ∀ (x1 : Int32) (x2 : Int32) (x3 : Int32) (x4 : Int32) (σ : St), k3 x1 x2 x3 x4 σ = some z → G ε κ 0 0 3 [(0, .ref (ad ε 39)), (1, .int x1), (2, .int x2), (3, .int x3), (4, .int x4)] [] (WX ε σ)) (g14 : ∀ (x1 : Int32) (x2 : Int32) (x3 : Int32) (x4 : Int32) (x5 : Int32) (σ : St), k14 x1 x2 x3 x4 x5 σ = some z → G ε κ 0 0 14 [(0, .ref (ad ε 39)), (1, .int x1), (2, .int x2), (3, .int x3), (4, .int x4), (5, .int x5)] [] (WX ε σ)) (x1 : Int32) (x2 : Int32) (x3 : Int32) (x4 : Int32) (x5 : Int32) (σ : St) (ok : b_X9_spreadGroup_14 k3 k14 x1 x2 x3 x4 x5 σ = some z) : G ε κ 0 0 14 [(0, .ref (ad ε 39)), (1, .int x1), (2, .int x2), (3, .int x3), (4, .int x4), (5, .int x5)] [] (WX ε σ) := by
  unfold b_X9_spreadGroup_14 at ok
  refine g_iload C dX9_spreadGroup_14 5 rfl ?_
  refine g_aload_n C dX9_spreadGroup_16 rfl 0 rfl ?_
  refine q_X9_63 C dX9_spreadGroup_17 ?_
  refine g_icmp_ge (tgt := 157) C dX9_spreadGroup_20 (by decide) (fun c1 => ?_) (fun c1 => ?_)
  · replace ok := ok_t c1 ok
    refine g_goto (tgt := 3) C dX9_spreadGroup_157 (by decide) ?_
    refine g_pick (lv' := [(0, .ref (ad ε 39)), (1, .int x1), (2, .int x2), (3, .int x3), (4, .int x4)]) ?_ [0, 1, 2, 3, 4] rfl
    exact g3 _ _ _ _ _ ok
  · replace ok := ok_f c1 ok
    refine g_iconst (v := 0) C dX9_spreadGroup_23 (by decide) ?_
    refine g_istore C [(6, .int (0 : Int32)), (0, .ref (ad ε 39)), (1, .int x1), (2, .int x2), (3, .int x3), (4, .int x4), (5, .int x5)] dX9_spreadGroup_24 (by decide) rfl ?_
    refine g_pick (lv' := [(0, .ref (ad ε 39)), (1, .int x1), (2, .int x2), (3, .int x3), (4, .int x4), (5, .int x5), (6, .int (0 : Int32))]) ?_ [1, 2, 3, 4, 5, 6, 0] rfl
    exact tl_X9_spreadGroup_26 C K k3 k14 g3 g14 FU _ _ _ _ _ _ _ ok
def l_X9_spreadGroup_14 (k3 : Int32 → Int32 → Int32 → Int32 → St → Option Rs) : Nat → Int32 → Int32 → Int32 → Int32 → Int32 → St → Option Rs
  | 0 => fun _ _ _ _ _ _ => none
  | n + 1 => fun x1 x2 x3 x4 x5 σ => b_X9_spreadGroup_14 k3 (l_X9_spreadGroup_14 k3 n) x1 x2 x3 x4 x5 σ
theorem tl_X9_spreadGroup_14 {ε : Et} {κ : Kt} {z : Rs} (C : Cx ε κ cX9_spreadGroup 8 RX9 3) (K : Ret ε κ cX9_spreadGroup none 0 0 (PV ε z)) (k3 : Int32 → Int32 → Int32 → Int32 → St → Option Rs) (g3 : ∀ (x1 : Int32) (x2 : Int32) (x3 : Int32) (x4 : Int32) (σ : St), k3 x1 x2 x3 x4 σ = some z → G ε κ 0 0 3 [(0, .ref (ad ε 39)), (1, .int x1), (2, .int x2), (3, .int x3), (4, .int x4)] [] (WX ε σ)) : ∀ (n : Nat) (x1 : Int32) (x2 : Int32) (x3 : Int32) (x4 : Int32) (x5 : Int32) (σ : St), l_X9_spreadGroup_14 k3 n x1 x2 x3 x4 x5 σ = some z → G ε κ 0 0 14 [(0, .ref (ad ε 39)), (1, .int x1), (2, .int x2), (3, .int x3), (4, .int x4), (5, .int x5)] [] (WX ε σ) := by
  intro n
  induction n with
  | zero =>
    intro x1 x2 x3 x4 x5 σ ok
    cases ok
  | succ n ih =>
    intro x1 x2 x3 x4 x5 σ ok
    exact t_X9_spreadGroup_14 C K k3 (l_X9_spreadGroup_14 k3 n) g3 ih x1 x2 x3 x4 x5 σ ok
def b_X9_spreadGroup_3 (k3 : Int32 → Int32 → Int32 → Int32 → St → Option Rs) (x1 : Int32) (x2 : Int32) (x3 : Int32) (x4 : Int32) (σ : St) : Option Rs := (if x4 = 0 then some ((0 : Int32), σ) else l_X9_spreadGroup_14 k3 FU x1 x2 x3 (0 : Int32) (0 : Int32) σ)
set_option maxRecDepth 10000 in
set_option maxHeartbeats 1000000 in
theorem t_X9_spreadGroup_3 {ε : Et} {κ : Kt} {z : Rs} (C : Cx ε κ cX9_spreadGroup 8 RX9 3) (K : Ret ε κ cX9_spreadGroup none 0 0 (PV ε z)) (k3 : Int32 → Int32 → Int32 → Int32 → St → Option Rs) (g3 : ∀ (x1 : Int32) (x2 : Int32) (x3 : Int32) (x4 : Int32) (σ : St), k3 x1 x2 x3 x4 σ = some z → G ε κ 0 0 3 [(0, .ref (ad ε 39)), (1, .int x1), (2, .int x2), (3, .int x3), (4, .int x4)] [] (WX ε σ)) (x1 : Int32) (x2 : Int32) (x3 : Int32) (x4 : Int32) (σ : St) (ok : b_X9_spreadGroup_3 k3 x1 x2 x3 x4 σ = some z) : G ε κ 0 0 3 [(0, .ref (ad ε 39)), (1, .int x1), (2, .int x2), (3, .int x3), (4, .int x4)] [] (WX ε σ) := by
  unfold b_X9_spreadGroup_3 at ok
  refine g_iload C dX9_spreadGroup_3 4 rfl ?_
  refine g_if_eq (tgt := 160) C dX9_spreadGroup_5 (by decide) (fun c1 => ?_) (fun c1 => ?_)
  · replace ok := ok_t c1 ok
    exact K.1 rfl _ _ _ dX9_spreadGroup_160 (pv_ok ok)
  · replace ok := ok_f c1 ok
    refine g_iconst (v := 0) C dX9_spreadGroup_8 (by decide) ?_
    refine g_istore C [(4, .int (0 : Int32)), (0, .ref (ad ε 39)), (1, .int x1), (2, .int x2), (3, .int x3)] dX9_spreadGroup_9 (by decide) rfl ?_
    refine g_iconst (v := 0) C dX9_spreadGroup_11 (by decide) ?_
    refine g_istore C [(5, .int (0 : Int32)), (4, .int (0 : Int32)), (0, .ref (ad ε 39)), (1, .int x1), (2, .int x2), (3, .int x3)] dX9_spreadGroup_12 (by decide) rfl ?_
    refine g_pick (lv' := [(0, .ref (ad ε 39)), (1, .int x1), (2, .int x2), (3, .int x3), (4, .int (0 : Int32)), (5, .int (0 : Int32))]) ?_ [2, 3, 4, 5, 1, 0] rfl
    exact tl_X9_spreadGroup_14 C K k3 g3 FU _ _ _ _ _ _ ok
def l_X9_spreadGroup_3 : Nat → Int32 → Int32 → Int32 → Int32 → St → Option Rs
  | 0 => fun _ _ _ _ _ => none
  | n + 1 => fun x1 x2 x3 x4 σ => b_X9_spreadGroup_3 (l_X9_spreadGroup_3 n) x1 x2 x3 x4 σ
theorem tl_X9_spreadGroup_3 {ε : Et} {κ : Kt} {z : Rs} (C : Cx ε κ cX9_spreadGroup 8 RX9 3) (K : Ret ε κ cX9_spreadGroup none 0 0 (PV ε z)) : ∀ (n : Nat) (x1 : Int32) (x2 : Int32) (x3 : Int32) (x4 : Int32) (σ : St), l_X9_spreadGroup_3 n x1 x2 x3 x4 σ = some z → G ε κ 0 0 3 [(0, .ref (ad ε 39)), (1, .int x1), (2, .int x2), (3, .int x3), (4, .int x4)] [] (WX ε σ) := by
  intro n
  induction n with
  | zero =>
    intro x1 x2 x3 x4 σ ok
    cases ok
  | succ n ih =>
    intro x1 x2 x3 x4 σ ok
    exact t_X9_spreadGroup_3 C K (l_X9_spreadGroup_3 n) ih x1 x2 x3 x4 σ ok
def f_X9_spreadGroup (x1 : Int32) (x2 : Int32) (x3 : Int32) (σ : St) : Option Rs := l_X9_spreadGroup_3 FU x1 x2 x3 (1 : Int32) σ
set_option maxRecDepth 10000 in
set_option maxHeartbeats 1000000 in
theorem tf_X9_spreadGroup {ε : Et} {κ : Kt} {z : Rs} (C : Cx ε κ cX9_spreadGroup 8 RX9 3) (K : Ret ε κ cX9_spreadGroup none 0 0 (PV ε z)) (x1 : Int32) (x2 : Int32) (x3 : Int32) (σ : St) (ok : f_X9_spreadGroup x1 x2 x3 σ = some z) : G ε κ 0 0 0 [(0, .ref (ad ε 39)), (1, .int x1), (2, .int x2), (3, .int x3)] [] (WX ε σ) := by
  unfold f_X9_spreadGroup at ok
  refine g_iconst (v := 1) C dX9_spreadGroup_0 (by decide) ?_
  refine g_istore C [(4, .int (1 : Int32)), (0, .ref (ad ε 39)), (1, .int x1), (2, .int x2), (3, .int x3)] dX9_spreadGroup_1 (by decide) rfl ?_
  refine g_pick (lv' := [(0, .ref (ad ε 39)), (1, .int x1), (2, .int x2), (3, .int x3), (4, .int (1 : Int32))]) ?_ [1, 2, 3, 4, 0] rfl
  exact tl_X9_spreadGroup_3 C K FU _ _ _ _ _ ok
theorem c_X9_spreadGroup {l : Launch} {ε : Et} {σ : St} {z : Rs} {x1 : Int32} {x2 : Int32} {x3 : Int32} (e : f_X9_spreadGroup x1 x2 x3 σ = some z) : RM l ε yX9_spreadGroup cX9_spreadGroup 8 none 3 0 0 [.ref (ad ε 39), .int x1, .int x2, .int x3] (WX ε σ) (PV ε z) := RM.of (by decide) (Nat.le_of_ble_eq_true rfl) (fun κ C K => tf_X9_spreadGroup C K x1 x2 x3 σ e)
def b_X9_isBefore_82 (t0 : Int32) (σ : St) : Option Rs := gz t0 (some (t0, σ))
set_option maxRecDepth 10000 in
set_option maxHeartbeats 1000000 in
theorem t_X9_isBefore_82 {ε : Et} {κ : Kt} {z : Rs} (C : Cx ε κ cX9_isBefore 6 RX9 3) (K : Ret ε κ cX9_isBefore (some .boolean) 0 0 (PI ε z)) (t0 : Int32) (σ : St) (ok : b_X9_isBefore_82 t0 σ = some z) : G ε κ 0 0 82 [] [.int t0] (WX ε σ) := by
  unfold b_X9_isBefore_82 at ok
  obtain ⟨z1, ok⟩ := gz_ok ok
  exact K.2 .boolean _ _ _ _ rfl dX9_isBefore_82 (nar_b z1) (pi_ok ok)
def b_X9_isBefore_34 (k34 : Int32 → Int32 → Int32 → St → Option Rs) (x1 : Int32) (x2 : Int32) (x5 : Int32) (σ : St) : Option Rs := (if (σ.1 39 21) ≤ x5 then gz (0 : Int32) (some ((0 : Int32), σ)) else bd (f_X9_tagAt x1 x5 σ) (fun r3 s4 => bd (f_X9_tagAt x2 x5 s4) (fun r6 s7 => (if r3 = r6 then nx (x5 + (1 : Int32)) (fun y10 => k34 x1 x2 y10 s7) else bd (f_X9_tagAt x1 x5 s7) (fun r12 s13 => bd (f_X9_tagAt x2 x5 s13) (fun r15 s16 => (if r15 ≤ r12 then b_X9_isBefore_82 (0 : Int32) s16 else b_X9_isBefore_82 (1 : Int32) s16)))))))
set_option maxRecDepth 10000 in
set_option maxHeartbeats 1000000 in
theorem t_X9_isBefore_34 {ε : Et} {κ : Kt} {z : Rs} (C : Cx ε κ cX9_isBefore 6 RX9 3) (K : Ret ε κ cX9_isBefore (some .boolean) 0 0 (PI ε z)) (k34 : Int32 → Int32 → Int32 → St → Option Rs) (g34 : ∀ (x1 : Int32) (x2 : Int32) (x5 : Int32) (σ : St), k34 x1 x2 x5 σ = some z → G ε κ 0 0 34 [(0, .ref (ad ε 39)), (1, .int x1), (2, .int x2), (5, .int x5)] [] (WX ε σ)) (x1 : Int32) (x2 : Int32) (x5 : Int32) (σ : St) (ok : b_X9_isBefore_34 k34 x1 x2 x5 σ = some z) : G ε κ 0 0 34 [(0, .ref (ad ε 39)), (1, .int x1), (2, .int x2), (5, .int x5)] [] (WX ε σ) := by
  unfold b_X9_isBefore_34 at ok
  refine g_iload C dX9_isBefore_34 3 rfl ?_
  refine g_aload_n C dX9_isBefore_36 rfl 0 rfl ?_
  refine q_X9_146 C dX9_isBefore_37 ?_
  refine g_icmp_ge (tgt := 89) C dX9_isBefore_40 (by decide) (fun c1 => ?_) (fun c1 => ?_)
  · replace ok := ok_t c1 ok
    refine g_iconst (v := 0) C dX9_isBefore_89 (by decide) ?_
    obtain ⟨z2, ok⟩ := gz_ok ok
    exact K.2 .boolean _ _ _ _ rfl dX9_isBefore_90 (nar_b z2) (pi_ok ok)
  · replace ok := ok_f c1 ok
    refine g_aload_n C dX9_isBefore_43 rfl 0 rfl ?_
    refine g_iload_n C dX9_isBefore_44 rfl 1 rfl ?_
    refine g_iload C dX9_isBefore_45 3 rfl ?_
    obtain ⟨r3, s4, e5, ok⟩ := bd_ok ok
    refine q_cI C [.int x1, .int x5] (c_X9_tagAt e5) wv_X9_149 (by decide) (lt_N (by decide)) wx_X9 rfl rfl rfl (Nat.le_of_ble_eq_true rfl) dX9_isBefore_47 ?_
    refine g_aload_n C dX9_isBefore_50 rfl 0 rfl ?_
    refine g_iload_n C dX9_isBefore_51 rfl 2 rfl ?_
    refine g_iload C dX9_isBefore_52 3 rfl ?_
    obtain ⟨r6, s7, e8, ok⟩ := bd_ok ok
    refine q_cI C [.int x2, .int x5] (c_X9_tagAt e8) wv_X9_149 (by decide) (lt_N (by decide)) wx_X9 rfl rfl rfl (Nat.le_of_ble_eq_true rfl) dX9_isBefore_54 ?_
    refine g_icmp_eq (tgt := 83) C dX9_isBefore_57 (by decide) (fun c9 => ?_) (fun c9 => ?_)
    · replace ok := ok_t c9 ok
      obtain ⟨y10, e11⟩ : ∃ y : Int32, y = (x5 + (1 : Int32)) := ⟨_, rfl⟩
      replace ok := nx_ok ok y10 e11
      refine g_iinc (v := y10) C [(5, .int y10), (0, .ref (ad ε 39)), (1, .int x1), (2, .int x2)] dX9_isBefore_83 3 rfl (by rw [e11]; rfl) (by decide) rfl ?_
      refine g_goto (tgt := 34) C dX9_isBefore_86 (by decide) ?_
      refine g_pick (lv' := [(0, .ref (ad ε 39)), (1, .int x1), (2, .int x2), (5, .int y10)]) ?_ [1, 2, 3, 0] rfl
      exact g34 _ _ _ _ ok
    · replace ok := ok_f c9 ok
      refine g_aload_n C dX9_isBefore_60 rfl 0 rfl ?_
      refine g_iload_n C dX9_isBefore_61 rfl 1 rfl ?_
      refine g_iload C dX9_isBefore_62 3 rfl ?_
      obtain ⟨r12, s13, e14, ok⟩ := bd_ok ok
      refine q_cI C [.int x1, .int x5] (c_X9_tagAt e14) wv_X9_149 (by decide) (lt_N (by decide)) wx_X9 rfl rfl rfl (Nat.le_of_ble_eq_true rfl) dX9_isBefore_64 ?_
      refine g_aload_n C dX9_isBefore_67 rfl 0 rfl ?_
      refine g_iload_n C dX9_isBefore_68 rfl 2 rfl ?_
      refine g_iload C dX9_isBefore_69 3 rfl ?_
      obtain ⟨r15, s16, e17, ok⟩ := bd_ok ok
      refine q_cI C [.int x2, .int x5] (c_X9_tagAt e17) wv_X9_149 (by decide) (lt_N (by decide)) wx_X9 rfl rfl rfl (Nat.le_of_ble_eq_true rfl) dX9_isBefore_71 ?_
      refine g_icmp_ge (tgt := 81) C dX9_isBefore_74 (by decide) (fun c18 => ?_) (fun c18 => ?_)
      · replace ok := ok_t c18 ok
        refine g_iconst (v := 0) C dX9_isBefore_81 (by decide) ?_
        refine g_pick (lv' := []) ?_ [] rfl
        exact t_X9_isBefore_82 C K _ _ ok
      · replace ok := ok_f c18 ok
        refine g_iconst (v := 1) C dX9_isBefore_77 (by decide) ?_
        refine g_goto (tgt := 82) C dX9_isBefore_78 (by decide) ?_
        refine g_pick (lv' := []) ?_ [] rfl
        exact t_X9_isBefore_82 C K _ _ ok
def l_X9_isBefore_34 : Nat → Int32 → Int32 → Int32 → St → Option Rs
  | 0 => fun _ _ _ _ => none
  | n + 1 => fun x1 x2 x5 σ => b_X9_isBefore_34 (l_X9_isBefore_34 n) x1 x2 x5 σ
theorem tl_X9_isBefore_34 {ε : Et} {κ : Kt} {z : Rs} (C : Cx ε κ cX9_isBefore 6 RX9 3) (K : Ret ε κ cX9_isBefore (some .boolean) 0 0 (PI ε z)) : ∀ (n : Nat) (x1 : Int32) (x2 : Int32) (x5 : Int32) (σ : St), l_X9_isBefore_34 n x1 x2 x5 σ = some z → G ε κ 0 0 34 [(0, .ref (ad ε 39)), (1, .int x1), (2, .int x2), (5, .int x5)] [] (WX ε σ) := by
  intro n
  induction n with
  | zero =>
    intro x1 x2 x5 σ ok
    cases ok
  | succ n ih =>
    intro x1 x2 x5 σ ok
    exact t_X9_isBefore_34 C K (l_X9_isBefore_34 n) ih x1 x2 x5 σ ok
def b_X9_isBefore_30 (t0 : Int32) (σ : St) : Option Rs := gz t0 (some (t0, σ))
set_option maxRecDepth 10000 in
set_option maxHeartbeats 1000000 in
theorem t_X9_isBefore_30 {ε : Et} {κ : Kt} {z : Rs} (C : Cx ε κ cX9_isBefore 6 RX9 3) (K : Ret ε κ cX9_isBefore (some .boolean) 0 0 (PI ε z)) (t0 : Int32) (σ : St) (ok : b_X9_isBefore_30 t0 σ = some z) : G ε κ 0 0 30 [] [.int t0] (WX ε σ) := by
  unfold b_X9_isBefore_30 at ok
  obtain ⟨z1, ok⟩ := gz_ok ok
  exact K.2 .boolean _ _ _ _ rfl dX9_isBefore_30 (nar_b z1) (pi_ok ok)
def f_X9_isBefore (x1 : Int32) (x2 : Int32) (σ : St) : Option Rs := bd (f_X9_countOf x1 σ) (fun r1 s2 => bd (f_X9_countOf x2 s2) (fun r4 s5 => (if r1 = r4 then l_X9_isBefore_34 FU x1 x2 (0 : Int32) s5 else (if r1 ≤ r4 then b_X9_isBefore_30 (0 : Int32) s5 else b_X9_isBefore_30 (1 : Int32) s5))))
set_option maxRecDepth 10000 in
set_option maxHeartbeats 1000000 in
theorem tf_X9_isBefore {ε : Et} {κ : Kt} {z : Rs} (C : Cx ε κ cX9_isBefore 6 RX9 3) (K : Ret ε κ cX9_isBefore (some .boolean) 0 0 (PI ε z)) (x1 : Int32) (x2 : Int32) (σ : St) (ok : f_X9_isBefore x1 x2 σ = some z) : G ε κ 0 0 0 [(0, .ref (ad ε 39)), (1, .int x1), (2, .int x2)] [] (WX ε σ) := by
  unfold f_X9_isBefore at ok
  refine g_aload_n C dX9_isBefore_0 rfl 0 rfl ?_
  refine g_iload_n C dX9_isBefore_1 rfl 1 rfl ?_
  obtain ⟨r1, s2, e3, ok⟩ := bd_ok ok
  refine q_cI C [.int x1] (c_X9_countOf e3) wv_X9_159 (by decide) (lt_N (by decide)) wx_X9 rfl rfl rfl (Nat.le_of_ble_eq_true rfl) dX9_isBefore_2 ?_
  refine g_istore_n C [(3, .int r1), (0, .ref (ad ε 39)), (1, .int x1), (2, .int x2)] dX9_isBefore_5 rfl (by decide) rfl ?_
  refine g_aload_n C dX9_isBefore_6 rfl 1 rfl ?_
  refine g_iload_n C dX9_isBefore_7 rfl 3 rfl ?_
  obtain ⟨r4, s5, e6, ok⟩ := bd_ok ok
  refine q_cI C [.int x2] (c_X9_countOf e6) wv_X9_159 (by decide) (lt_N (by decide)) wx_X9 rfl rfl rfl (Nat.le_of_ble_eq_true rfl) dX9_isBefore_8 ?_
  refine g_istore C [(4, .int r4), (3, .int r1), (0, .ref (ad ε 39)), (1, .int x1), (2, .int x2)] dX9_isBefore_11 (by decide) rfl ?_
  refine g_iload_n C dX9_isBefore_13 rfl 1 rfl ?_
  refine g_iload C dX9_isBefore_14 0 rfl ?_
  refine g_icmp_eq (tgt := 31) C dX9_isBefore_16 (by decide) (fun c7 => ?_) (fun c7 => ?_)
  · replace ok := ok_t c7 ok
    refine g_iconst (v := 0) C dX9_isBefore_31 (by decide) ?_
    refine g_istore C [(5, .int (0 : Int32)), (4, .int r4), (3, .int r1), (0, .ref (ad ε 39)), (1, .int x1), (2, .int x2)] dX9_isBefore_32 (by decide) rfl ?_
    refine g_pick (lv' := [(0, .ref (ad ε 39)), (1, .int x1), (2, .int x2), (5, .int (0 : Int32))]) ?_ [3, 4, 5, 0] rfl
    exact tl_X9_isBefore_34 C K FU _ _ _ _ ok
  · replace ok := ok_f c7 ok
    refine g_iload_n C dX9_isBefore_19 rfl 1 rfl ?_
    refine g_iload C dX9_isBefore_20 0 rfl ?_
    refine g_icmp_le (tgt := 29) C dX9_isBefore_22 (by decide) (fun c8 => ?_) (fun c8 => ?_)
    · replace ok := ok_t c8 ok
      refine g_iconst (v := 0) C dX9_isBefore_29 (by decide) ?_
      refine g_pick (lv' := []) ?_ [] rfl
      exact t_X9_isBefore_30 C K _ _ ok
    · replace ok := ok_f c8 ok
      refine g_iconst (v := 1) C dX9_isBefore_25 (by decide) ?_
      refine g_goto (tgt := 30) C dX9_isBefore_26 (by decide) ?_
      refine g_pick (lv' := []) ?_ [] rfl
      exact t_X9_isBefore_30 C K _ _ ok
theorem c_X9_isBefore {l : Launch} {ε : Et} {σ : St} {z : Rs} {x1 : Int32} {x2 : Int32} (e : f_X9_isBefore x1 x2 σ = some z) : RM l ε yX9_isBefore cX9_isBefore 6 (some .boolean) 3 0 0 [.ref (ad ε 39), .int x1, .int x2] (WX ε σ) (PI ε z) := RM.of (by decide) (Nat.le_of_ble_eq_true rfl) (fun κ C K => tf_X9_isBefore C K x1 x2 σ e)
def b_X9_groupAll_70 (k5 : Int32 → Int32 → Int32 → Int32 → St → Option Rs) (k16 : Int32 → Int32 → Int32 → Int32 → Int32 → St → Option Rs) (x1 : Int32) (x2 : Int32) (x3 : Int32) (x4 : Int32) (x5 : Int32) (σ : St) : Option Rs := nx (x5 + (1 : Int32)) (fun y1 => k16 x1 x2 x3 x4 y1 σ)
set_option maxRecDepth 10000 in
set_option maxHeartbeats 1000000 in
theorem t_X9_groupAll_70 {ε : Et} {κ : Kt} {z : Rs} (C : Cx ε κ cX9_groupAll 6 RX9 4) (K : Ret ε κ cX9_groupAll none 0 0 (PV ε z)) (k5 : Int32 → Int32 → Int32 → Int32 → St → Option Rs) (k16 : Int32 → Int32 → Int32 → Int32 → Int32 → St → Option Rs) (g5 : ∀ (x1 : Int32) (x2 : Int32) (x3 : Int32) (x4 : Int32) (σ : St), k5 x1 x2 x3 x4 σ = some z → G ε κ 0 0 5 [(0, .ref (ad ε 39)), (1, .int x1), (2, .int x2), (3, .int x3), (4, .int x4)] [] (WX ε σ)) (g16 : ∀ (x1 : Int32) (x2 : Int32) (x3 : Int32) (x4 : Int32) (x5 : Int32) (σ : St), k16 x1 x2 x3 x4 x5 σ = some z → G ε κ 0 0 16 [(0, .ref (ad ε 39)), (1, .int x1), (2, .int x2), (3, .int x3), (4, .int x4), (5, .int x5)] [] (WX ε σ)) (x1 : Int32) (x2 : Int32) (x3 : Int32) (x4 : Int32) (x5 : Int32) (σ : St) (ok : b_X9_groupAll_70 k5 k16 x1 x2 x3 x4 x5 σ = some z) : G ε κ 0 0 70 [(0, .ref (ad ε 39)), (1, .int x1), (2, .int x2), (3, .int x3), (4, .int x4), (5, .int x5)] [] (WX ε σ) := by
  unfold b_X9_groupAll_70 at ok
  obtain ⟨y1, e2⟩ : ∃ y : Int32, y = (x5 + (1 : Int32)) := ⟨_, rfl⟩
  replace ok := nx_ok ok y1 e2
  refine g_iinc (v := y1) C [(5, .int y1), (0, .ref (ad ε 39)), (1, .int x1), (2, .int x2), (3, .int x3), (4, .int x4)] dX9_groupAll_70 5 rfl (by rw [e2]; rfl) (by decide) rfl ?_
  refine g_goto (tgt := 16) C dX9_groupAll_73 (by decide) ?_
  refine g_pick (lv' := [(0, .ref (ad ε 39)), (1, .int x1), (2, .int x2), (3, .int x3), (4, .int x4), (5, .int y1)]) ?_ [1, 2, 3, 4, 5, 0] rfl
  exact g16 _ _ _ _ _ _ ok
def b_X9_groupAll_66 (k5 : Int32 → Int32 → Int32 → Int32 → St → Option Rs) (k16 : Int32 → Int32 → Int32 → Int32 → Int32 → St → Option Rs) (x1 : Int32) (x2 : Int32) (x3 : Int32) (x5 : Int32) (σ : St) : Option Rs := b_X9_groupAll_70 k5 k16 x1 x2 x3 x5 x5 σ
set_option maxRecDepth 10000 in
set_option maxHeartbeats 1000000 in
theorem t_X9_groupAll_66 {ε : Et} {κ : Kt} {z : Rs} (C : Cx ε κ cX9_groupAll 6 RX9 4) (K : Ret ε κ cX9_groupAll none 0 0 (PV ε z)) (k5 : Int32 → Int32 → Int32 → Int32 → St → Option Rs) (k16 : Int32 → Int32 → Int32 → Int32 → Int32 → St → Option Rs) (g5 : ∀ (x1 : Int32) (x2 : Int32) (x3 : Int32) (x4 : Int32) (σ : St), k5 x1 x2 x3 x4 σ = some z → G ε κ 0 0 5 [(0, .ref (ad ε 39)), (1, .int x1), (2, .int x2), (3, .int x3), (4, .int x4)] [] (WX ε σ)) (g16 : ∀ (x1 : Int32) (x2 : Int32) (x3 : Int32) (x4 : Int32) (x5 : Int32) (σ : St), k16 x1 x2 x3 x4 x5 σ = some z → G ε κ 0 0 16 [(0, .ref (ad ε 39)), (1, .int x1), (2, .int x2), (3, .int x3), (4, .int x4), (5, .int x5)] [] (WX ε σ)) (x1 : Int32) (x2 : Int32) (x3 : Int32) (x5 : Int32) (σ : St) (ok : b_X9_groupAll_66 k5 k16 x1 x2 x3 x5 σ = some z) : G ε κ 0 0 66 [(0, .ref (ad ε 39)), (1, .int x1), (2, .int x2), (3, .int x3), (5, .int x5)] [] (WX ε σ) := by
  unfold b_X9_groupAll_66 at ok
  refine g_iload C dX9_groupAll_66 4 rfl ?_
  refine g_istore C [(4, .int x5), (0, .ref (ad ε 39)), (1, .int x1), (2, .int x2), (3, .int x3), (5, .int x5)] dX9_groupAll_68 (by decide) rfl ?_
  refine g_pick (lv' := [(0, .ref (ad ε 39)), (1, .int x1), (2, .int x2), (3, .int x3), (4, .int x5), (5, .int x5)]) ?_ [1, 2, 3, 4, 0, 5] rfl
  exact t_X9_groupAll_70 C K k5 k16 g5 g16 _ _ _ _ _ _ ok
def b_X9_groupAll_16 (k5 : Int32 → Int32 → Int32 → Int32 → St → Option Rs) (k16 : Int32 → Int32 → Int32 → Int32 → Int32 → St → Option Rs) (x1 : Int32) (x2 : Int32) (x3 : Int32) (x4 : Int32) (x5 : Int32) (σ : St) : Option Rs := (if (σ.1 39 9) ≤ x5 then (if x4 < 0 then k5 x1 x2 x3 x4 σ else gd (inb x4 (ln 52)) (nx (sA σ 52 x4 x3) (fun s4 => bd (f_X9_spreadGroup x1 x3 x2 s4) (fun r6 s7 => nx (x3 + (1 : Int32)) (fun y9 => k5 x1 x2 y9 x4 s7))))) else bd (f_X9_counts x5 x1 σ) (fun r11 s12 => (if r11 = 0 then b_X9_groupAll_70 k5 k16 x1 x2 x3 x4 x5 s12 else gd (inb x5 (ln 52)) ((if 0 ≤ (s12.2.1 52 x5.toNatClampNeg) then b_X9_groupAll_70 k5 k16 x1 x2 x3 x4 x5 s12 else (if x4 < 0 then b_X9_groupAll_66 k5 k16 x1 x2 x3 x5 s12 else (if x2 = (1 : Int32) then bd (f_X9_isBefore x5 x4 s12) (fun r19 s20 => (if r19 = 0 then b_X9_groupAll_70 k5 k16 x1 x2 x3 x4 x5 s20 else b_X9_groupAll_66 k5 k16 x1 x2 x3 x5 s20)) else b_X9_groupAll_70 k5 k16 x1 x2 x3 x4 x5 s12)))))))
set_option maxRecDepth 10000 in
set_option maxHeartbeats 1000000 in
theorem t_X9_groupAll_16 {ε : Et} {κ : Kt} {z : Rs} (C : Cx ε κ cX9_groupAll 6 RX9 4) (K : Ret ε κ cX9_groupAll none 0 0 (PV ε z)) (k5 : Int32 → Int32 → Int32 → Int32 → St → Option Rs) (k16 : Int32 → Int32 → Int32 → Int32 → Int32 → St → Option Rs) (g5 : ∀ (x1 : Int32) (x2 : Int32) (x3 : Int32) (x4 : Int32) (σ : St), k5 x1 x2 x3 x4 σ = some z → G ε κ 0 0 5 [(0, .ref (ad ε 39)), (1, .int x1), (2, .int x2), (3, .int x3), (4, .int x4)] [] (WX ε σ)) (g16 : ∀ (x1 : Int32) (x2 : Int32) (x3 : Int32) (x4 : Int32) (x5 : Int32) (σ : St), k16 x1 x2 x3 x4 x5 σ = some z → G ε κ 0 0 16 [(0, .ref (ad ε 39)), (1, .int x1), (2, .int x2), (3, .int x3), (4, .int x4), (5, .int x5)] [] (WX ε σ)) (x1 : Int32) (x2 : Int32) (x3 : Int32) (x4 : Int32) (x5 : Int32) (σ : St) (ok : b_X9_groupAll_16 k5 k16 x1 x2 x3 x4 x5 σ = some z) : G ε κ 0 0 16 [(0, .ref (ad ε 39)), (1, .int x1), (2, .int x2), (3, .int x3), (4, .int x4), (5, .int x5)] [] (WX ε σ) := by
  unfold b_X9_groupAll_16 at ok
  refine g_iload C dX9_groupAll_16 5 rfl ?_
  refine g_aload_n C dX9_groupAll_18 rfl 0 rfl ?_
  refine q_X9_63 C dX9_groupAll_19 ?_
  refine g_icmp_ge (tgt := 76) C dX9_groupAll_22 (by decide) (fun c1 => ?_) (fun c1 => ?_)
  · replace ok := ok_t c1 ok
    refine g_iload C dX9_groupAll_76 4 rfl ?_
    refine g_if_lt (tgt := 5) C dX9_groupAll_78 (by decide) (fun c2 => ?_) (fun c2 => ?_)
    · replace ok := ok_t c2 ok
      refine g_pick (lv' := [(0, .ref (ad ε 39)), (1, .int x1), (2, .int x2), (3, .int x3), (4, .int x4)]) ?_ [0, 1, 2, 3, 4] rfl
      exact g5 _ _ _ _ _ ok
    · replace ok := ok_f c2 ok
      refine g_aload_n C dX9_groupAll_81 rfl 0 rfl ?_
      refine q_X9_54 C dX9_groupAll_82 ?_
      refine g_iload C dX9_groupAll_85 4 rfl ?_
      refine g_iload_n C dX9_groupAll_87 rfl 3 rfl ?_
      obtain ⟨h3, ok⟩ := gd_ok ok
      refine q_ast C ai_52 h3 dX9_groupAll_88 (fun s4 e5 => ?_)
      replace ok := nx_ok ok s4 e5
      refine g_aload_n C dX9_groupAll_89 rfl 0 rfl ?_
      refine g_iload_n C dX9_groupAll_90 rfl 1 rfl ?_
      refine g_iload_n C dX9_groupAll_91 rfl 3 rfl ?_
      refine g_iload_n C dX9_groupAll_92 rfl 2 rfl ?_
      obtain ⟨r6, s7, e8, ok⟩ := bd_ok ok
      refine q_cV C [.int x1, .int x3, .int x2] (c_X9_spreadGroup e8) wv_X9_165 (by decide) (lt_N (by decide)) wx_X9 rfl rfl rfl (Nat.le_of_ble_eq_true rfl) dX9_groupAll_93 ?_
      obtain ⟨y9, e10⟩ : ∃ y : Int32, y = (x3 + (1 : Int32)) := ⟨_, rfl⟩
      replace ok := nx_ok ok y9 e10
      refine g_iinc (v := y9) C [(3, .int y9), (0, .ref (ad ε 39)), (1, .int x1), (2, .int x2), (4, .int x4), (5, .int x5)] dX9_groupAll_96 3 rfl (by rw [e10]; rfl) (by decide) rfl ?_
      refine g_goto (tgt := 5) C dX9_groupAll_99 (by decide) ?_
      refine g_pick (lv' := [(0, .ref (ad ε 39)), (1, .int x1), (2, .int x2), (3, .int y9), (4, .int x4)]) ?_ [1, 2, 3, 0, 4] rfl
      exact g5 _ _ _ _ _ ok
  · replace ok := ok_f c1 ok
    refine g_aload_n C dX9_groupAll_25 rfl 0 rfl ?_
    refine g_iload C dX9_groupAll_26 5 rfl ?_
    refine g_iload_n C dX9_groupAll_28 rfl 1 rfl ?_
    obtain ⟨r11, s12, e13, ok⟩ := bd_ok ok
    refine q_cI C [.int x5, .int x1] (c_X9_counts e13) wv_X9_153 (by decide) (lt_N (by decide)) wx_X9 rfl rfl rfl (Nat.le_of_ble_eq_true rfl) dX9_groupAll_29 ?_
    refine g_if_eq (tgt := 70) C dX9_groupAll_32 (by decide) (fun c14 => ?_) (fun c14 => ?_)
    · replace ok := ok_t c14 ok
      exact t_X9_groupAll_70 C K k5 k16 g5 g16 _ _ _ _ _ _ ok
    · replace ok := ok_f c14 ok
      refine g_aload_n C dX9_groupAll_35 rfl 0 rfl ?_
      refine q_X9_54 C dX9_groupAll_36 ?_
      refine g_iload C dX9_groupAll_39 5 rfl ?_
      obtain ⟨h15, ok⟩ := gd_ok ok
      refine q_ald C ai_52 h15 dX9_groupAll_41 ?_
      refine g_if_ge (tgt := 70) C dX9_groupAll_42 (by decide) (fun c16 => ?_) (fun c16 => ?_)
      · replace ok := ok_t c16 ok
        exact t_X9_groupAll_70 C K k5 k16 g5 g16 _ _ _ _ _ _ ok
      · replace ok := ok_f c16 ok
        refine g_iload C dX9_groupAll_45 4 rfl ?_
        refine g_if_lt (tgt := 66) C dX9_groupAll_47 (by decide) (fun c17 => ?_) (fun c17 => ?_)
        · replace ok := ok_t c17 ok
          refine g_pick (lv' := [(0, .ref (ad ε 39)), (1, .int x1), (2, .int x2), (3, .int x3), (5, .int x5)]) ?_ [0, 1, 2, 3, 5] rfl
          exact t_X9_groupAll_66 C K k5 k16 g5 g16 _ _ _ _ _ ok
        · replace ok := ok_f c17 ok
          refine g_iload_n C dX9_groupAll_50 rfl 2 rfl ?_
          refine g_iconst (v := 1) C dX9_groupAll_51 (by decide) ?_
          refine g_icmp_ne (tgt := 70) C dX9_groupAll_52 (by decide) (fun c18 => ?_) (fun c18 => ?_)
          · replace ok := ok_f c18 ok
            exact t_X9_groupAll_70 C K k5 k16 g5 g16 _ _ _ _ _ _ ok
          · replace ok := ok_t c18 ok
            refine g_aload_n C dX9_groupAll_55 rfl 0 rfl ?_
            refine g_iload C dX9_groupAll_56 5 rfl ?_
            refine g_iload C dX9_groupAll_58 4 rfl ?_
            obtain ⟨r19, s20, e21, ok⟩ := bd_ok ok
            refine q_cI C [.int x5, .int x4] (c_X9_isBefore e21) wv_X9_162 (by decide) (lt_N (by decide)) wx_X9 rfl rfl rfl (Nat.le_of_ble_eq_true rfl) dX9_groupAll_60 ?_
            refine g_if_eq (tgt := 70) C dX9_groupAll_63 (by decide) (fun c22 => ?_) (fun c22 => ?_)
            · replace ok := ok_t c22 ok
              exact t_X9_groupAll_70 C K k5 k16 g5 g16 _ _ _ _ _ _ ok
            · replace ok := ok_f c22 ok
              refine g_pick (lv' := [(0, .ref (ad ε 39)), (1, .int x1), (2, .int x2), (3, .int x3), (5, .int x5)]) ?_ [0, 1, 2, 3, 5] rfl
              exact t_X9_groupAll_66 C K k5 k16 g5 g16 _ _ _ _ _ ok
def l_X9_groupAll_16 (k5 : Int32 → Int32 → Int32 → Int32 → St → Option Rs) : Nat → Int32 → Int32 → Int32 → Int32 → Int32 → St → Option Rs
  | 0 => fun _ _ _ _ _ _ => none
  | n + 1 => fun x1 x2 x3 x4 x5 σ => b_X9_groupAll_16 k5 (l_X9_groupAll_16 k5 n) x1 x2 x3 x4 x5 σ
theorem tl_X9_groupAll_16 {ε : Et} {κ : Kt} {z : Rs} (C : Cx ε κ cX9_groupAll 6 RX9 4) (K : Ret ε κ cX9_groupAll none 0 0 (PV ε z)) (k5 : Int32 → Int32 → Int32 → Int32 → St → Option Rs) (g5 : ∀ (x1 : Int32) (x2 : Int32) (x3 : Int32) (x4 : Int32) (σ : St), k5 x1 x2 x3 x4 σ = some z → G ε κ 0 0 5 [(0, .ref (ad ε 39)), (1, .int x1), (2, .int x2), (3, .int x3), (4, .int x4)] [] (WX ε σ)) : ∀ (n : Nat) (x1 : Int32) (x2 : Int32) (x3 : Int32) (x4 : Int32) (x5 : Int32) (σ : St), l_X9_groupAll_16 k5 n x1 x2 x3 x4 x5 σ = some z → G ε κ 0 0 16 [(0, .ref (ad ε 39)), (1, .int x1), (2, .int x2), (3, .int x3), (4, .int x4), (5, .int x5)] [] (WX ε σ) := by
  intro n
  induction n with
  | zero =>
    intro x1 x2 x3 x4 x5 σ ok
    cases ok
  | succ n ih =>
    intro x1 x2 x3 x4 x5 σ ok
    exact t_X9_groupAll_16 C K k5 (l_X9_groupAll_16 k5 n) g5 ih x1 x2 x3 x4 x5 σ ok
def b_X9_groupAll_5 (k5 : Int32 → Int32 → Int32 → Int32 → St → Option Rs) (x1 : Int32) (x2 : Int32) (x3 : Int32) (x4 : Int32) (σ : St) : Option Rs := (if x4 < 0 then some ((0 : Int32), σ) else l_X9_groupAll_16 k5 FU x1 x2 x3 (-1 : Int32) (0 : Int32) σ)
set_option maxRecDepth 10000 in
set_option maxHeartbeats 1000000 in
theorem t_X9_groupAll_5 {ε : Et} {κ : Kt} {z : Rs} (C : Cx ε κ cX9_groupAll 6 RX9 4) (K : Ret ε κ cX9_groupAll none 0 0 (PV ε z)) (k5 : Int32 → Int32 → Int32 → Int32 → St → Option Rs) (g5 : ∀ (x1 : Int32) (x2 : Int32) (x3 : Int32) (x4 : Int32) (σ : St), k5 x1 x2 x3 x4 σ = some z → G ε κ 0 0 5 [(0, .ref (ad ε 39)), (1, .int x1), (2, .int x2), (3, .int x3), (4, .int x4)] [] (WX ε σ)) (x1 : Int32) (x2 : Int32) (x3 : Int32) (x4 : Int32) (σ : St) (ok : b_X9_groupAll_5 k5 x1 x2 x3 x4 σ = some z) : G ε κ 0 0 5 [(0, .ref (ad ε 39)), (1, .int x1), (2, .int x2), (3, .int x3), (4, .int x4)] [] (WX ε σ) := by
  unfold b_X9_groupAll_5 at ok
  refine g_iload C dX9_groupAll_5 4 rfl ?_
  refine g_if_lt (tgt := 102) C dX9_groupAll_7 (by decide) (fun c1 => ?_) (fun c1 => ?_)
  · replace ok := ok_t c1 ok
    exact K.1 rfl _ _ _ dX9_groupAll_102 (pv_ok ok)
  · replace ok := ok_f c1 ok
    refine g_iconst (v := -1) C dX9_groupAll_10 (by decide) ?_
    refine g_istore C [(4, .int (-1 : Int32)), (0, .ref (ad ε 39)), (1, .int x1), (2, .int x2), (3, .int x3)] dX9_groupAll_11 (by decide) rfl ?_
    refine g_iconst (v := 0) C dX9_groupAll_13 (by decide) ?_
    refine g_istore C [(5, .int (0 : Int32)), (4, .int (-1 : Int32)), (0, .ref (ad ε 39)), (1, .int x1), (2, .int x2), (3, .int x3)] dX9_groupAll_14 (by decide) rfl ?_
    refine g_pick (lv' := [(0, .ref (ad ε 39)), (1, .int x1), (2, .int x2), (3, .int x3), (4, .int (-1 : Int32)), (5, .int (0 : Int32))]) ?_ [2, 3, 4, 5, 1, 0] rfl
    exact tl_X9_groupAll_16 C K k5 g5 FU _ _ _ _ _ _ ok
def l_X9_groupAll_5 : Nat → Int32 → Int32 → Int32 → Int32 → St → Option Rs
  | 0 => fun _ _ _ _ _ => none
  | n + 1 => fun x1 x2 x3 x4 σ => b_X9_groupAll_5 (l_X9_groupAll_5 n) x1 x2 x3 x4 σ
theorem tl_X9_groupAll_5 {ε : Et} {κ : Kt} {z : Rs} (C : Cx ε κ cX9_groupAll 6 RX9 4) (K : Ret ε κ cX9_groupAll none 0 0 (PV ε z)) : ∀ (n : Nat) (x1 : Int32) (x2 : Int32) (x3 : Int32) (x4 : Int32) (σ : St), l_X9_groupAll_5 n x1 x2 x3 x4 σ = some z → G ε κ 0 0 5 [(0, .ref (ad ε 39)), (1, .int x1), (2, .int x2), (3, .int x3), (4, .int x4)] [] (WX ε σ) := by
  intro n
  induction n with
  | zero =>
    intro x1 x2 x3 x4 σ ok
    cases ok
  | succ n ih =>
    intro x1 x2 x3 x4 σ ok
    exact t_X9_groupAll_5 C K (l_X9_groupAll_5 n) ih x1 x2 x3 x4 σ ok
def f_X9_groupAll (x1 : Int32) (x2 : Int32) (σ : St) : Option Rs := l_X9_groupAll_5 FU x1 x2 (0 : Int32) (0 : Int32) σ
set_option maxRecDepth 10000 in
set_option maxHeartbeats 1000000 in
theorem tf_X9_groupAll {ε : Et} {κ : Kt} {z : Rs} (C : Cx ε κ cX9_groupAll 6 RX9 4) (K : Ret ε κ cX9_groupAll none 0 0 (PV ε z)) (x1 : Int32) (x2 : Int32) (σ : St) (ok : f_X9_groupAll x1 x2 σ = some z) : G ε κ 0 0 0 [(0, .ref (ad ε 39)), (1, .int x1), (2, .int x2)] [] (WX ε σ) := by
  unfold f_X9_groupAll at ok
  refine g_iconst (v := 0) C dX9_groupAll_0 (by decide) ?_
  refine g_istore_n C [(3, .int (0 : Int32)), (0, .ref (ad ε 39)), (1, .int x1), (2, .int x2)] dX9_groupAll_1 rfl (by decide) rfl ?_
  refine g_iconst (v := 0) C dX9_groupAll_2 (by decide) ?_
  refine g_istore C [(4, .int (0 : Int32)), (3, .int (0 : Int32)), (0, .ref (ad ε 39)), (1, .int x1), (2, .int x2)] dX9_groupAll_3 (by decide) rfl ?_
  refine g_pick (lv' := [(0, .ref (ad ε 39)), (1, .int x1), (2, .int x2), (3, .int (0 : Int32)), (4, .int (0 : Int32))]) ?_ [2, 3, 4, 1, 0] rfl
  exact tl_X9_groupAll_5 C K FU _ _ _ _ _ ok
theorem c_X9_groupAll {l : Launch} {ε : Et} {σ : St} {z : Rs} {x1 : Int32} {x2 : Int32} (e : f_X9_groupAll x1 x2 σ = some z) : RM l ε yX9_groupAll cX9_groupAll 6 none 4 0 0 [.ref (ad ε 39), .int x1, .int x2] (WX ε σ) (PV ε z) := RM.of (by decide) (Nat.le_of_ble_eq_true rfl) (fun κ C K => tf_X9_groupAll C K x1 x2 σ e)
def b_X9_sort_243 (k243 : Int32 → Int32 → Int32 → St → Option Rs) (x2 : Int32) (x4 : Int32) (x5 : Int32) (σ : St) : Option Rs := (if (σ.1 39 20) ≤ x5 then some (x4, σ) else bd (f_X9_groupAll x5 x2 σ) (fun r2 s3 => nx (x5 + (1 : Int32)) (fun y5 => k243 x2 x4 y5 s3)))
set_option maxRecDepth 10000 in
set_option maxHeartbeats 1000000 in
theorem t_X9_sort_243 {ε : Et} {κ : Kt} {z : Rs} (C : Cx ε κ cX9_sort 6 RX9 5) (K : Ret ε κ cX9_sort (some .int) 0 0 (PI ε z)) (k243 : Int32 → Int32 → Int32 → St → Option Rs) (g243 : ∀ (x2 : Int32) (x4 : Int32) (x5 : Int32) (σ : St), k243 x2 x4 x5 σ = some z → G ε κ 0 0 243 [(0, .ref (ad ε 39)), (2, .int x2), (4, .int x4), (5, .int x5)] [] (WX ε σ)) (x2 : Int32) (x4 : Int32) (x5 : Int32) (σ : St) (ok : b_X9_sort_243 k243 x2 x4 x5 σ = some z) : G ε κ 0 0 243 [(0, .ref (ad ε 39)), (2, .int x2), (4, .int x4), (5, .int x5)] [] (WX ε σ) := by
  unfold b_X9_sort_243 at ok
  refine g_iload C dX9_sort_243 3 rfl ?_
  refine g_aload_n C dX9_sort_245 rfl 0 rfl ?_
  refine q_X9_169 C dX9_sort_246 ?_
  refine g_icmp_ge (tgt := 265) C dX9_sort_249 (by decide) (fun c1 => ?_) (fun c1 => ?_)
  · replace ok := ok_t c1 ok
    refine g_iload C dX9_sort_265 2 rfl ?_
    exact K.2 .int _ _ _ _ rfl dX9_sort_267 rfl (pi_ok ok)
  · replace ok := ok_f c1 ok
    refine g_aload_n C dX9_sort_252 rfl 0 rfl ?_
    refine g_iload C dX9_sort_253 3 rfl ?_
    refine g_iload_n C dX9_sort_255 rfl 1 rfl ?_
    obtain ⟨r2, s3, e4, ok⟩ := bd_ok ok
    refine q_cV C [.int x5, .int x2] (c_X9_groupAll e4) wv_X9_186 (by decide) (lt_N (by decide)) wx_X9 rfl rfl rfl (Nat.le_of_ble_eq_true rfl) dX9_sort_256 ?_
    obtain ⟨y5, e6⟩ : ∃ y : Int32, y = (x5 + (1 : Int32)) := ⟨_, rfl⟩
    replace ok := nx_ok ok y5 e6
    refine g_iinc (v := y5) C [(5, .int y5), (0, .ref (ad ε 39)), (2, .int x2), (4, .int x4)] dX9_sort_259 3 rfl (by rw [e6]; rfl) (by decide) rfl ?_
    refine g_goto (tgt := 243) C dX9_sort_262 (by decide) ?_
    refine g_pick (lv' := [(0, .ref (ad ε 39)), (2, .int x2), (4, .int x4), (5, .int y5)]) ?_ [1, 2, 3, 0] rfl
    exact g243 _ _ _ _ ok
def l_X9_sort_243 : Nat → Int32 → Int32 → Int32 → St → Option Rs
  | 0 => fun _ _ _ _ => none
  | n + 1 => fun x2 x4 x5 σ => b_X9_sort_243 (l_X9_sort_243 n) x2 x4 x5 σ
theorem tl_X9_sort_243 {ε : Et} {κ : Kt} {z : Rs} (C : Cx ε κ cX9_sort 6 RX9 5) (K : Ret ε κ cX9_sort (some .int) 0 0 (PI ε z)) : ∀ (n : Nat) (x2 : Int32) (x4 : Int32) (x5 : Int32) (σ : St), l_X9_sort_243 n x2 x4 x5 σ = some z → G ε κ 0 0 243 [(0, .ref (ad ε 39)), (2, .int x2), (4, .int x4), (5, .int x5)] [] (WX ε σ) := by
  intro n
  induction n with
  | zero =>
    intro x2 x4 x5 σ ok
    cases ok
  | succ n ih =>
    intro x2 x4 x5 σ ok
    exact t_X9_sort_243 C K (l_X9_sort_243 n) ih x2 x4 x5 σ ok
def b_X9_sort_225 (k78 : Int32 → Int32 → Int32 → Int32 → Int32 → St → Option Rs) (x1 : Int32) (x2 : Int32) (x3 : Int32) (x4 : Int32) (x5 : Int32) (t0 : Int32) (t1 : Int32) (σ : St) : Option Rs := gd (inb t1 (ln 51)) (gz t0 (nx (sA σ 51 t1 t0) (fun s2 => gd (inb x5 (ln 52)) (nx (sA s2 52 x5 (-1 : Int32)) (fun s6 => nx (x5 + (1 : Int32)) (fun y8 => k78 x1 x2 x3 x4 y8 s6))))))
set_option maxRecDepth 10000 in
set_option maxHeartbeats 1000000 in
theorem t_X9_sort_225 {ε : Et} {κ : Kt} {z : Rs} (C : Cx ε κ cX9_sort 6 RX9 5) (K : Ret ε κ cX9_sort (some .int) 0 0 (PI ε z)) (k78 : Int32 → Int32 → Int32 → Int32 → Int32 → St → Option Rs) (g78 : ∀ (x1 : Int32) (x2 : Int32) (x3 : Int32) (x4 : Int32) (x5 : Int32) (σ : St), k78 x1 x2 x3 x4 x5 σ = some z → G ε κ 0 0 78 [(0, .ref (ad ε 39)), (1, .int x1), (2, .int x2), (3, .int x3), (4, .int x4), (5, .int x5)] [] (WX ε σ)) (x1 : Int32) (x2 : Int32) (x3 : Int32) (x4 : Int32) (x5 : Int32) (t0 : Int32) (t1 : Int32) (σ : St) (ok : b_X9_sort_225 k78 x1 x2 x3 x4 x5 t0 t1 σ = some z) : G ε κ 0 0 225 [(0, .ref (ad ε 39)), (1, .int x1), (2, .int x2), (3, .int x3), (4, .int x4), (5, .int x5)] [.int t0, .int t1, .ref (ad ε 51)] (WX ε σ) := by
  unfold b_X9_sort_225 at ok
  obtain ⟨h1, ok⟩ := gd_ok ok
  obtain ⟨z4, ok⟩ := gz_ok ok
  refine q_zst C az_51 h1 z4 dX9_sort_225 (fun s2 e3 => ?_)
  replace ok := nx_ok ok s2 e3
  refine g_aload_n C dX9_sort_226 rfl 0 rfl ?_
  refine q_X9_54 C dX9_sort_227 ?_
  refine g_iload C dX9_sort_230 5 rfl ?_
  refine g_iconst (v := -1) C dX9_sort_232 (by decide) ?_
  obtain ⟨h5, ok⟩ := gd_ok ok
  refine q_ast C ai_52 h5 dX9_sort_233 (fun s6 e7 => ?_)
  replace ok := nx_ok ok s6 e7
  obtain ⟨y8, e9⟩ : ∃ y : Int32, y = (x5 + (1 : Int32)) := ⟨_, rfl⟩
  replace ok := nx_ok ok y8 e9
  refine g_iinc (v := y8) C [(5, .int y8), (0, .ref (ad ε 39)), (1, .int x1), (2, .int x2), (3, .int x3), (4, .int x4)] dX9_sort_234 5 rfl (by rw [e9]; rfl) (by decide) rfl ?_
  refine g_goto (tgt := 78) C dX9_sort_237 (by decide) ?_
  refine g_pick (lv' := [(0, .ref (ad ε 39)), (1, .int x1), (2, .int x2), (3, .int x3), (4, .int x4), (5, .int y8)]) ?_ [1, 2, 3, 4, 5, 0] rfl
  exact g78 _ _ _ _ _ _ ok
def b_X9_sort_159 (k78 : Int32 → Int32 → Int32 → Int32 → Int32 → St → Option Rs) (x1 : Int32) (x2 : Int32) (x3 : Int32) (x4 : Int32) (x5 : Int32) (t0 : Int32) (t1 : Int32) (σ : St) : Option Rs := gd (inb t1 (ln 49)) (nx (sA σ 49 t1 t0) (fun s2 => gd (inb x5 (ln 43)) (gd (inb x5 (ln 50)) (nx (sA s2 50 x5 (s2.2.1 43 x5.toNatClampNeg)) (fun s6 => bd (f_X9_cutAdapter x5 s6) (fun r8 s9 => bd (f_X9_cutQualities x5 s9) (fun r11 s12 => bd (f_X9_cutNone x5 s12) (fun r14 s15 => gd (inb x5 (ln 50)) (gd (inb x5 (ln 49)) ((if (s15.1 39 18) ≤ ((s15.2.1 50 x5.toNatClampNeg) - (s15.2.1 49 x5.toNatClampNeg)) then b_X9_sort_225 k78 x1 x2 x3 x4 x5 (0 : Int32) x5 s15 else b_X9_sort_225 k78 x1 x2 x3 x4 x5 (1 : Int32) x5 s15)))))))))))
set_option maxRecDepth 10000 in
set_option maxHeartbeats 1000000 in
theorem t_X9_sort_159 {ε : Et} {κ : Kt} {z : Rs} (C : Cx ε κ cX9_sort 6 RX9 5) (K : Ret ε κ cX9_sort (some .int) 0 0 (PI ε z)) (k78 : Int32 → Int32 → Int32 → Int32 → Int32 → St → Option Rs) (g78 : ∀ (x1 : Int32) (x2 : Int32) (x3 : Int32) (x4 : Int32) (x5 : Int32) (σ : St), k78 x1 x2 x3 x4 x5 σ = some z → G ε κ 0 0 78 [(0, .ref (ad ε 39)), (1, .int x1), (2, .int x2), (3, .int x3), (4, .int x4), (5, .int x5)] [] (WX ε σ)) (x1 : Int32) (x2 : Int32) (x3 : Int32) (x4 : Int32) (x5 : Int32) (t0 : Int32) (t1 : Int32) (σ : St) (ok : b_X9_sort_159 k78 x1 x2 x3 x4 x5 t0 t1 σ = some z) : G ε κ 0 0 159 [(0, .ref (ad ε 39)), (1, .int x1), (2, .int x2), (3, .int x3), (4, .int x4), (5, .int x5)] [.int t0, .int t1, .ref (ad ε 49)] (WX ε σ) := by
  unfold b_X9_sort_159 at ok
  obtain ⟨h1, ok⟩ := gd_ok ok
  refine q_ast C ai_49 h1 dX9_sort_159 (fun s2 e3 => ?_)
  replace ok := nx_ok ok s2 e3
  refine g_aload_n C dX9_sort_160 rfl 0 rfl ?_
  refine q_X9_47 C dX9_sort_161 ?_
  refine g_iload C dX9_sort_164 5 rfl ?_
  refine g_aload_n C dX9_sort_166 rfl 0 rfl ?_
  refine q_X9_23 C dX9_sort_167 ?_
  refine g_iload C dX9_sort_170 5 rfl ?_
  obtain ⟨h4, ok⟩ := gd_ok ok
  refine q_ald C ai_43 h4 dX9_sort_172 ?_
  obtain ⟨h5, ok⟩ := gd_ok ok
  refine q_ast C ai_50 h5 dX9_sort_173 (fun s6 e7 => ?_)
  replace ok := nx_ok ok s6 e7
  refine g_aload_n C dX9_sort_174 rfl 0 rfl ?_
  refine g_iload C dX9_sort_175 5 rfl ?_
  obtain ⟨r8, s9, e10, ok⟩ := bd_ok ok
  refine q_cV C [.int x5] (c_X9_cutAdapter e10) wv_X9_176 (by decide) (lt_N (by decide)) wx_X9 rfl rfl rfl (Nat.le_of_ble_eq_true rfl) dX9_sort_177 ?_
  refine g_aload_n C dX9_sort_180 rfl 0 rfl ?_
  refine g_iload C dX9_sort_181 5 rfl ?_
  obtain ⟨r11, s12, e13, ok⟩ := bd_ok ok
  refine q_cV C [.int x5] (c_X9_cutQualities e13) wv_X9_180 (by decide) (lt_N (by decide)) wx_X9 rfl rfl rfl (Nat.le_of_ble_eq_true rfl) dX9_sort_183 ?_
  refine g_aload_n C dX9_sort_186 rfl 0 rfl ?_
  refine g_iload C dX9_sort_187 5 rfl ?_
  obtain ⟨r14, s15, e16, ok⟩ := bd_ok ok
  refine q_cV C [.int x5] (c_X9_cutNone e16) wv_X9_183 (by decide) (lt_N (by decide)) wx_X9 rfl rfl rfl (Nat.le_of_ble_eq_true rfl) dX9_sort_189 ?_
  refine g_aload_n C dX9_sort_192 rfl 0 rfl ?_
  refine q_X9_50 C dX9_sort_193 ?_
  refine g_iload C dX9_sort_196 5 rfl ?_
  refine g_aload_n C dX9_sort_198 rfl 0 rfl ?_
  refine q_X9_47 C dX9_sort_199 ?_
  refine g_iload C dX9_sort_202 5 rfl ?_
  obtain ⟨h17, ok⟩ := gd_ok ok
  refine q_ald C ai_50 h17 dX9_sort_204 ?_
  refine g_aload_n C dX9_sort_205 rfl 0 rfl ?_
  refine q_X9_44 C dX9_sort_206 ?_
  refine g_iload C dX9_sort_209 5 rfl ?_
  obtain ⟨h18, ok⟩ := gd_ok ok
  refine q_ald C ai_49 h18 dX9_sort_211 ?_
  refine g_isub C dX9_sort_212 ?_
  refine g_aload_n C dX9_sort_213 rfl 0 rfl ?_
  refine q_X9_38 C dX9_sort_214 ?_
  refine g_icmp_ge (tgt := 224) C dX9_sort_217 (by decide) (fun c19 => ?_) (fun c19 => ?_)
  · replace ok := ok_t c19 ok
    refine g_iconst (v := 0) C dX9_sort_224 (by decide) ?_
    exact t_X9_sort_225 C K k78 g78 _ _ _ _ _ _ _ _ ok
  · replace ok := ok_f c19 ok
    refine g_iconst (v := 1) C dX9_sort_220 (by decide) ?_
    refine g_goto (tgt := 225) C dX9_sort_221 (by decide) ?_
    exact t_X9_sort_225 C K k78 g78 _ _ _ _ _ _ _ _ ok
def b_X9_sort_130 (k78 : Int32 → Int32 → Int32 → Int32 → Int32 → St → Option Rs) (x1 : Int32) (x2 : Int32) (x3 : Int32) (x5 : Int32) (t0 : Int32) (t1 : Int32) (σ : St) : Option Rs := nx (t1 + t0) (fun y1 => gd (inb x5 (ln 48)) ((if 0 ≤ (σ.2.1 48 x5.toNatClampNeg) then b_X9_sort_159 k78 x1 x2 x3 y1 x5 ((σ.1 39 13) + x1) x5 σ else b_X9_sort_159 k78 x1 x2 x3 y1 x5 (0 : Int32) x5 σ)))
set_option maxRecDepth 10000 in
set_option maxHeartbeats 1000000 in
theorem t_X9_sort_130 {ε : Et} {κ : Kt} {z : Rs} (C : Cx ε κ cX9_sort 6 RX9 5) (K : Ret ε κ cX9_sort (some .int) 0 0 (PI ε z)) (k78 : Int32 → Int32 → Int32 → Int32 → Int32 → St → Option Rs) (g78 : ∀ (x1 : Int32) (x2 : Int32) (x3 : Int32) (x4 : Int32) (x5 : Int32) (σ : St), k78 x1 x2 x3 x4 x5 σ = some z → G ε κ 0 0 78 [(0, .ref (ad ε 39)), (1, .int x1), (2, .int x2), (3, .int x3), (4, .int x4), (5, .int x5)] [] (WX ε σ)) (x1 : Int32) (x2 : Int32) (x3 : Int32) (x5 : Int32) (t0 : Int32) (t1 : Int32) (σ : St) (ok : b_X9_sort_130 k78 x1 x2 x3 x5 t0 t1 σ = some z) : G ε κ 0 0 130 [(0, .ref (ad ε 39)), (1, .int x1), (2, .int x2), (3, .int x3), (5, .int x5)] [.int t0, .int t1] (WX ε σ) := by
  unfold b_X9_sort_130 at ok
  refine g_iadd C dX9_sort_130 ?_
  refine q_nm (fun y1 e2 => ?_)
  replace ok := nx_ok ok y1 e2
  refine g_istore C [(4, .int y1), (0, .ref (ad ε 39)), (1, .int x1), (2, .int x2), (3, .int x3), (5, .int x5)] dX9_sort_131 (by decide) rfl ?_
  refine g_aload_n C dX9_sort_133 rfl 1 rfl ?_
  refine q_X9_44 C dX9_sort_134 ?_
  refine g_iload C dX9_sort_137 5 rfl ?_
  refine g_aload_n C dX9_sort_139 rfl 1 rfl ?_
  refine q_X9_41 C dX9_sort_140 ?_
  refine g_iload C dX9_sort_143 5 rfl ?_
  obtain ⟨h3, ok⟩ := gd_ok ok
  refine q_ald C ai_48 h3 dX9_sort_145 ?_
  refine g_if_ge (tgt := 153) C dX9_sort_146 (by decide) (fun c4 => ?_) (fun c4 => ?_)
  · replace ok := ok_t c4 ok
    refine g_aload_n C dX9_sort_153 rfl 1 rfl ?_
    refine q_X9_121 C dX9_sort_154 ?_
    refine g_iload_n C dX9_sort_157 rfl 2 rfl ?_
    refine g_iadd C dX9_sort_158 ?_
    refine g_pick (lv' := [(0, .ref (ad ε 39)), (1, .int x1), (2, .int x2), (3, .int x3), (4, .int y1), (5, .int x5)]) ?_ [1, 2, 3, 4, 0, 5] rfl
    exact t_X9_sort_159 C K k78 g78 _ _ _ _ _ _ _ _ ok
  · replace ok := ok_f c4 ok
    refine g_iconst (v := 0) C dX9_sort_149 (by decide) ?_
    refine g_goto (tgt := 159) C dX9_sort_150 (by decide) ?_
    refine g_pick (lv' := [(0, .ref (ad ε 39)), (1, .int x1), (2, .int x2), (3, .int x3), (4, .int y1), (5, .int x5)]) ?_ [1, 2, 3, 4, 0, 5] rfl
    exact t_X9_sort_159 C K k78 g78 _ _ _ _ _ _ _ _ ok
def b_X9_sort_112 (k78 : Int32 → Int32 → Int32 → Int32 → Int32 → St → Option Rs) (x1 : Int32) (x2 : Int32) (x3 : Int32) (x4 : Int32) (x5 : Int32) (t0 : Int32) (t1 : Int32) (σ : St) : Option Rs := gd (inb t1 (ln 48)) (nx (sA σ 48 t1 t0) (fun s2 => gd (inb x5 (ln 48)) ((if 0 ≤ (s2.2.1 48 x5.toNatClampNeg) then b_X9_sort_130 k78 x1 x2 x3 x5 (0 : Int32) x4 s2 else b_X9_sort_130 k78 x1 x2 x3 x5 (1 : Int32) x4 s2))))
set_option maxRecDepth 10000 in
set_option maxHeartbeats 1000000 in
theorem t_X9_sort_112 {ε : Et} {κ : Kt} {z : Rs} (C : Cx ε κ cX9_sort 6 RX9 5) (K : Ret ε κ cX9_sort (some .int) 0 0 (PI ε z)) (k78 : Int32 → Int32 → Int32 → Int32 → Int32 → St → Option Rs) (g78 : ∀ (x1 : Int32) (x2 : Int32) (x3 : Int32) (x4 : Int32) (x5 : Int32) (σ : St), k78 x1 x2 x3 x4 x5 σ = some z → G ε κ 0 0 78 [(0, .ref (ad ε 39)), (1, .int x1), (2, .int x2), (3, .int x3), (4, .int x4), (5, .int x5)] [] (WX ε σ)) (x1 : Int32) (x2 : Int32) (x3 : Int32) (x4 : Int32) (x5 : Int32) (t0 : Int32) (t1 : Int32) (σ : St) (ok : b_X9_sort_112 k78 x1 x2 x3 x4 x5 t0 t1 σ = some z) : G ε κ 0 0 112 [(0, .ref (ad ε 39)), (1, .int x1), (2, .int x2), (3, .int x3), (4, .int x4), (5, .int x5)] [.int t0, .int t1, .ref (ad ε 48)] (WX ε σ) := by
  unfold b_X9_sort_112 at ok
  obtain ⟨h1, ok⟩ := gd_ok ok
  refine q_ast C ai_48 h1 dX9_sort_112 (fun s2 e3 => ?_)
  replace ok := nx_ok ok s2 e3
  refine g_iload C dX9_sort_113 4 rfl ?_
  refine g_aload_n C dX9_sort_115 rfl 0 rfl ?_
  refine q_X9_41 C dX9_sort_116 ?_
  refine g_iload C dX9_sort_119 5 rfl ?_
  obtain ⟨h4, ok⟩ := gd_ok ok
  refine q_ald C ai_48 h4 dX9_sort_121 ?_
  refine g_if_ge (tgt := 129) C dX9_sort_122 (by decide) (fun c5 => ?_) (fun c5 => ?_)
  · replace ok := ok_t c5 ok
    refine g_iconst (v := 0) C dX9_sort_129 (by decide) ?_
    refine g_pick (lv' := [(0, .ref (ad ε 39)), (1, .int x1), (2, .int x2), (3, .int x3), (5, .int x5)]) ?_ [0, 1, 2, 3, 5] rfl
    exact t_X9_sort_130 C K k78 g78 _ _ _ _ _ _ _ ok
  · replace ok := ok_f c5 ok
    refine g_iconst (v := 1) C dX9_sort_125 (by decide) ?_
    refine g_goto (tgt := 130) C dX9_sort_126 (by decide) ?_
    refine g_pick (lv' := [(0, .ref (ad ε 39)), (1, .int x1), (2, .int x2), (3, .int x3), (5, .int x5)]) ?_ [0, 1, 2, 3, 5] rfl
    exact t_X9_sort_130 C K k78 g78 _ _ _ _ _ _ _ ok
def b_X9_sort_78 (k78 : Int32 → Int32 → Int32 → Int32 → Int32 → St → Option Rs) (x1 : Int32) (x2 : Int32) (x3 : Int32) (x4 : Int32) (x5 : Int32) (σ : St) : Option Rs := (if (σ.1 39 9) ≤ x5 then l_X9_sort_243 FU x2 x4 (0 : Int32) σ else (if (σ.1 39 12) = 0 then b_X9_sort_112 k78 x1 x2 x3 x4 x5 (-1 : Int32) x5 σ else bd (f_X9_binOf x5 x1 x3 σ) (fun r3 s4 => b_X9_sort_112 k78 x1 x2 x3 x4 x5 r3 x5 s4)))
set_option maxRecDepth 10000 in
set_option maxHeartbeats 1000000 in
theorem t_X9_sort_78 {ε : Et} {κ : Kt} {z : Rs} (C : Cx ε κ cX9_sort 6 RX9 5) (K : Ret ε κ cX9_sort (some .int) 0 0 (PI ε z)) (k78 : Int32 → Int32 → Int32 → Int32 → Int32 → St → Option Rs) (g78 : ∀ (x1 : Int32) (x2 : Int32) (x3 : Int32) (x4 : Int32) (x5 : Int32) (σ : St), k78 x1 x2 x3 x4 x5 σ = some z → G ε κ 0 0 78 [(0, .ref (ad ε 39)), (1, .int x1), (2, .int x2), (3, .int x3), (4, .int x4), (5, .int x5)] [] (WX ε σ)) (x1 : Int32) (x2 : Int32) (x3 : Int32) (x4 : Int32) (x5 : Int32) (σ : St) (ok : b_X9_sort_78 k78 x1 x2 x3 x4 x5 σ = some z) : G ε κ 0 0 78 [(0, .ref (ad ε 39)), (1, .int x1), (2, .int x2), (3, .int x3), (4, .int x4), (5, .int x5)] [] (WX ε σ) := by
  unfold b_X9_sort_78 at ok
  refine g_iload C dX9_sort_78 5 rfl ?_
  refine g_aload_n C dX9_sort_80 rfl 0 rfl ?_
  refine q_X9_63 C dX9_sort_81 ?_
  refine g_icmp_ge (tgt := 240) C dX9_sort_84 (by decide) (fun c1 => ?_) (fun c1 => ?_)
  · replace ok := ok_t c1 ok
    refine g_iconst (v := 0) C dX9_sort_240 (by decide) ?_
    refine g_istore C [(5, .int (0 : Int32)), (0, .ref (ad ε 39)), (1, .int x1), (2, .int x2), (3, .int x3), (4, .int x4)] dX9_sort_241 (by decide) rfl ?_
    refine g_pick (lv' := [(0, .ref (ad ε 39)), (2, .int x2), (4, .int x4), (5, .int (0 : Int32))]) ?_ [1, 3, 5, 0] rfl
    exact tl_X9_sort_243 C K FU _ _ _ _ ok
  · replace ok := ok_f c1 ok
    refine g_aload_n C dX9_sort_87 rfl 0 rfl ?_
    refine q_X9_41 C dX9_sort_88 ?_
    refine g_iload C dX9_sort_91 5 rfl ?_
    refine g_aload_n C dX9_sort_93 rfl 0 rfl ?_
    refine q_X9_118 C dX9_sort_94 ?_
    refine g_if_ne (tgt := 104) C dX9_sort_97 (by decide) (fun c2 => ?_) (fun c2 => ?_)
    · replace ok := ok_f c2 ok
      refine g_aload_n C dX9_sort_104 rfl 0 rfl ?_
      refine g_iload C dX9_sort_105 5 rfl ?_
      refine g_iload_n C dX9_sort_107 rfl 1 rfl ?_
      refine g_iload_n C dX9_sort_108 rfl 3 rfl ?_
      obtain ⟨r3, s4, e5, ok⟩ := bd_ok ok
      refine q_cI C [.int x5, .int x1, .int x3] (c_X9_binOf e5) wv_X9_172 (by decide) (lt_N (by decide)) wx_X9 rfl rfl rfl (Nat.le_of_ble_eq_true rfl) dX9_sort_109 ?_
      exact t_X9_sort_112 C K k78 g78 _ _ _ _ _ _ _ _ ok
    · replace ok := ok_t c2 ok
      refine g_iconst (v := -1) C dX9_sort_100 (by decide) ?_
      refine g_goto (tgt := 112) C dX9_sort_101 (by decide) ?_
      exact t_X9_sort_112 C K k78 g78 _ _ _ _ _ _ _ _ ok
def l_X9_sort_78 : Nat → Int32 → Int32 → Int32 → Int32 → Int32 → St → Option Rs
  | 0 => fun _ _ _ _ _ _ => none
  | n + 1 => fun x1 x2 x3 x4 x5 σ => b_X9_sort_78 (l_X9_sort_78 n) x1 x2 x3 x4 x5 σ
theorem tl_X9_sort_78 {ε : Et} {κ : Kt} {z : Rs} (C : Cx ε κ cX9_sort 6 RX9 5) (K : Ret ε κ cX9_sort (some .int) 0 0 (PI ε z)) : ∀ (n : Nat) (x1 : Int32) (x2 : Int32) (x3 : Int32) (x4 : Int32) (x5 : Int32) (σ : St), l_X9_sort_78 n x1 x2 x3 x4 x5 σ = some z → G ε κ 0 0 78 [(0, .ref (ad ε 39)), (1, .int x1), (2, .int x2), (3, .int x3), (4, .int x4), (5, .int x5)] [] (WX ε σ) := by
  intro n
  induction n with
  | zero =>
    intro x1 x2 x3 x4 x5 σ ok
    cases ok
  | succ n ih =>
    intro x1 x2 x3 x4 x5 σ ok
    exact t_X9_sort_78 C K (l_X9_sort_78 n) ih x1 x2 x3 x4 x5 σ ok
def b_X9_sort_25 (x1 : Int32) (x2 : Int32) (t0 : Int32) (σ : St) : Option Rs := nx (sS σ 39 3 t0) (fun s1 => (if (s1.1 39 3) ≤ 0 then gz (1 : Int32) (nx (sS s1 39 19 (1 : Int32)) (fun s4 => nx (sS s4 39 20 (s4.1 39 12)) (fun s7 => nx (sS s7 39 21 x1) (fun s9 => nx (sS s9 39 33 (s9.1 39 13)) (fun s11 => bd (f_X9_spread s11) (fun r13 s14 => nx ((r13 - (1 : Int32)) / (2 : Int32)) (fun y16 => l_X9_sort_78 FU x1 x2 y16 (0 : Int32) (0 : Int32) s14))))))) else some ((0 : Int32), s1)))
set_option maxRecDepth 10000 in
set_option maxHeartbeats 1000000 in
theorem t_X9_sort_25 {ε : Et} {κ : Kt} {z : Rs} (C : Cx ε κ cX9_sort 6 RX9 5) (K : Ret ε κ cX9_sort (some .int) 0 0 (PI ε z)) (x1 : Int32) (x2 : Int32) (t0 : Int32) (σ : St) (ok : b_X9_sort_25 x1 x2 t0 σ = some z) : G ε κ 0 0 25 [(0, .ref (ad ε 39)), (1, .int x1), (2, .int x2)] [.int t0, .ref (ad ε 39)] (WX ε σ) := by
  unfold b_X9_sort_25 at ok
  refine p_X9_66 C dX9_sort_25 (fun s1 e2 => ?_)
  replace ok := nx_ok ok s1 e2
  refine g_aload_n C dX9_sort_28 rfl 0 rfl ?_
  refine q_X9_66 C dX9_sort_29 ?_
  refine g_if_le (tgt := 37) C dX9_sort_32 (by decide) (fun c3 => ?_) (fun c3 => ?_)
  · replace ok := ok_t c3 ok
    refine g_aload_n C dX9_sort_37 rfl 0 rfl ?_
    refine g_iconst (v := 1) C dX9_sort_38 (by decide) ?_
    obtain ⟨z6, ok⟩ := gz_ok ok
    refine p_X9_114 C z6 dX9_sort_39 (fun s4 e5 => ?_)
    replace ok := nx_ok ok s4 e5
    refine g_aload_n C dX9_sort_42 rfl 0 rfl ?_
    refine g_aload_n C dX9_sort_43 rfl 0 rfl ?_
    refine q_X9_118 C dX9_sort_44 ?_
    refine p_X9_169 C dX9_sort_47 (fun s7 e8 => ?_)
    replace ok := nx_ok ok s7 e8
    refine g_aload_n C dX9_sort_50 rfl 0 rfl ?_
    refine g_iload_n C dX9_sort_51 rfl 1 rfl ?_
    refine p_X9_146 C dX9_sort_52 (fun s9 e10 => ?_)
    replace ok := nx_ok ok s9 e10
    refine g_aload_n C dX9_sort_55 rfl 0 rfl ?_
    refine g_aload_n C dX9_sort_56 rfl 0 rfl ?_
    refine q_X9_121 C dX9_sort_57 ?_
    refine p_X9_143 C dX9_sort_60 (fun s11 e12 => ?_)
    replace ok := nx_ok ok s11 e12
    refine g_aload_n C dX9_sort_63 rfl 0 rfl ?_
    obtain ⟨r13, s14, e15, ok⟩ := bd_ok ok
    refine q_cI C [] (c_X9_spread e15) wv_X9_140 (by decide) (lt_N (by decide)) wx_X9 rfl rfl rfl (Nat.le_of_ble_eq_true rfl) dX9_sort_64 ?_
    refine g_iconst (v := 1) C dX9_sort_67 (by decide) ?_
    refine g_isub C dX9_sort_68 ?_
    refine g_iconst (v := 2) C dX9_sort_69 (by decide) ?_
    refine g_idiv C dX9_sort_70 (by decide) ?_
    refine q_nm (fun y16 e17 => ?_)
    replace ok := nx_ok ok y16 e17
    refine g_istore_n C [(3, .int y16), (0, .ref (ad ε 39)), (1, .int x1), (2, .int x2)] dX9_sort_71 rfl (by decide) rfl ?_
    refine g_iconst (v := 0) C dX9_sort_72 (by decide) ?_
    refine g_istore C [(4, .int (0 : Int32)), (3, .int y16), (0, .ref (ad ε 39)), (1, .int x1), (2, .int x2)] dX9_sort_73 (by decide) rfl ?_
    refine g_iconst (v := 0) C dX9_sort_75 (by decide) ?_
    refine g_istore C [(5, .int (0 : Int32)), (4, .int (0 : Int32)), (3, .int y16), (0, .ref (ad ε 39)), (1, .int x1), (2, .int x2)] dX9_sort_76 (by decide) rfl ?_
    refine g_pick (lv' := [(0, .ref (ad ε 39)), (1, .int x1), (2, .int x2), (3, .int y16), (4, .int (0 : Int32)), (5, .int (0 : Int32))]) ?_ [3, 4, 5, 2, 1, 0] rfl
    exact tl_X9_sort_78 C K FU _ _ _ _ _ _ ok
  · replace ok := ok_f c3 ok
    refine g_iconst (v := 0) C dX9_sort_35 (by decide) ?_
    exact K.2 .int _ _ _ _ rfl dX9_sort_36 rfl (pi_ok ok)
def b_X9_sort_20 (x1 : Int32) (x2 : Int32) (σ : St) : Option Rs := b_X9_sort_25 x1 x2 (1 : Int32) σ
set_option maxRecDepth 10000 in
set_option maxHeartbeats 1000000 in
theorem t_X9_sort_20 {ε : Et} {κ : Kt} {z : Rs} (C : Cx ε κ cX9_sort 6 RX9 5) (K : Ret ε κ cX9_sort (some .int) 0 0 (PI ε z)) (x1 : Int32) (x2 : Int32) (σ : St) (ok : b_X9_sort_20 x1 x2 σ = some z) : G ε κ 0 0 20 [(0, .ref (ad ε 39)), (1, .int x1), (2, .int x2)] [.ref (ad ε 39)] (WX ε σ) := by
  unfold b_X9_sort_20 at ok
  refine g_iconst (v := 1) C dX9_sort_20 (by decide) ?_
  refine g_goto (tgt := 25) C dX9_sort_21 (by decide) ?_
  exact t_X9_sort_25 C K _ _ _ _ ok
def f_X9_sort (x1 : Int32) (x2 : Int32) (σ : St) : Option Rs := (if x1 < 0 then b_X9_sort_20 x1 x2 σ else (if (12 : Int32) < x1 then b_X9_sort_20 x1 x2 σ else (if x2 < 0 then b_X9_sort_20 x1 x2 σ else (if x2 ≤ (1 : Int32) then b_X9_sort_25 x1 x2 (0 : Int32) σ else b_X9_sort_20 x1 x2 σ))))
set_option maxRecDepth 10000 in
set_option maxHeartbeats 1000000 in
theorem tf_X9_sort {ε : Et} {κ : Kt} {z : Rs} (C : Cx ε κ cX9_sort 6 RX9 5) (K : Ret ε κ cX9_sort (some .int) 0 0 (PI ε z)) (x1 : Int32) (x2 : Int32) (σ : St) (ok : f_X9_sort x1 x2 σ = some z) : G ε κ 0 0 0 [(0, .ref (ad ε 39)), (1, .int x1), (2, .int x2)] [] (WX ε σ) := by
  unfold f_X9_sort at ok
  refine g_aload_n C dX9_sort_0 rfl 0 rfl ?_
  refine g_iload_n C dX9_sort_1 rfl 1 rfl ?_
  refine g_if_lt (tgt := 20) C dX9_sort_2 (by decide) (fun c1 => ?_) (fun c1 => ?_)
  · replace ok := ok_t c1 ok
    exact t_X9_sort_20 C K _ _ _ ok
  · replace ok := ok_f c1 ok
    refine g_iload_n C dX9_sort_5 rfl 1 rfl ?_
    refine g_bipush (v := 12) C dX9_sort_6 (by decide) ?_
    refine g_icmp_gt (tgt := 20) C dX9_sort_8 (by decide) (fun c2 => ?_) (fun c2 => ?_)
    · replace ok := ok_t c2 ok
      exact t_X9_sort_20 C K _ _ _ ok
    · replace ok := ok_f c2 ok
      refine g_iload_n C dX9_sort_11 rfl 2 rfl ?_
      refine g_if_lt (tgt := 20) C dX9_sort_12 (by decide) (fun c3 => ?_) (fun c3 => ?_)
      · replace ok := ok_t c3 ok
        exact t_X9_sort_20 C K _ _ _ ok
      · replace ok := ok_f c3 ok
        refine g_iload_n C dX9_sort_15 rfl 2 rfl ?_
        refine g_iconst (v := 1) C dX9_sort_16 (by decide) ?_
        refine g_icmp_le (tgt := 24) C dX9_sort_17 (by decide) (fun c4 => ?_) (fun c4 => ?_)
        · replace ok := ok_t c4 ok
          refine g_iconst (v := 0) C dX9_sort_24 (by decide) ?_
          exact t_X9_sort_25 C K _ _ _ _ ok
        · replace ok := ok_f c4 ok
          exact t_X9_sort_20 C K _ _ _ ok
theorem c_X9_sort {l : Launch} {ε : Et} {σ : St} {z : Rs} {x1 : Int32} {x2 : Int32} (e : f_X9_sort x1 x2 σ = some z) : RM l ε yX9_sort cX9_sort 6 (some .int) 5 0 0 [.ref (ad ε 39), .int x1, .int x2] (WX ε σ) (PI ε z) := RM.of (by decide) (Nat.le_of_ble_eq_true rfl) (fun κ C K => tf_X9_sort C K x1 x2 σ e)
def b_X9_noRead_17 (t0 : Int32) (σ : St) : Option Rs := gz t0 (some (t0, σ))
set_option maxRecDepth 10000 in
set_option maxHeartbeats 1000000 in
theorem t_X9_noRead_17 {ε : Et} {κ : Kt} {z : Rs} (C : Cx ε κ cX9_noRead 2 RX9 0) (K : Ret ε κ cX9_noRead (some .boolean) 0 0 (PI ε z)) (t0 : Int32) (σ : St) (ok : b_X9_noRead_17 t0 σ = some z) : G ε κ 0 0 17 [] [.int t0] (WX ε σ) := by
  unfold b_X9_noRead_17 at ok
  obtain ⟨z1, ok⟩ := gz_ok ok
  exact K.2 .boolean _ _ _ _ rfl dX9_noRead_17 (nar_b z1) (pi_ok ok)
def b_X9_noRead_12 (σ : St) : Option Rs := b_X9_noRead_17 (1 : Int32) σ
set_option maxRecDepth 10000 in
set_option maxHeartbeats 1000000 in
theorem t_X9_noRead_12 {ε : Et} {κ : Kt} {z : Rs} (C : Cx ε κ cX9_noRead 2 RX9 0) (K : Ret ε κ cX9_noRead (some .boolean) 0 0 (PI ε z)) (σ : St) (ok : b_X9_noRead_12 σ = some z) : G ε κ 0 0 12 [] [] (WX ε σ) := by
  unfold b_X9_noRead_12 at ok
  refine g_iconst (v := 1) C dX9_noRead_12 (by decide) ?_
  refine g_goto (tgt := 17) C dX9_noRead_13 (by decide) ?_
  exact t_X9_noRead_17 C K _ _ ok
def f_X9_noRead (x1 : Int32) (σ : St) : Option Rs := (if x1 < 0 then b_X9_noRead_12 σ else (if x1 < (σ.1 39 9) then b_X9_noRead_17 (0 : Int32) σ else b_X9_noRead_12 σ))
set_option maxRecDepth 10000 in
set_option maxHeartbeats 1000000 in
theorem tf_X9_noRead {ε : Et} {κ : Kt} {z : Rs} (C : Cx ε κ cX9_noRead 2 RX9 0) (K : Ret ε κ cX9_noRead (some .boolean) 0 0 (PI ε z)) (x1 : Int32) (σ : St) (ok : f_X9_noRead x1 σ = some z) : G ε κ 0 0 0 [(0, .ref (ad ε 39)), (1, .int x1)] [] (WX ε σ) := by
  unfold f_X9_noRead at ok
  refine g_iload_n C dX9_noRead_0 rfl 1 rfl ?_
  refine g_if_lt (tgt := 12) C dX9_noRead_1 (by decide) (fun c1 => ?_) (fun c1 => ?_)
  · replace ok := ok_t c1 ok
    refine g_pick (lv' := []) ?_ [] rfl
    exact t_X9_noRead_12 C K _ ok
  · replace ok := ok_f c1 ok
    refine g_iload_n C dX9_noRead_4 rfl 1 rfl ?_
    refine g_aload_n C dX9_noRead_5 rfl 0 rfl ?_
    refine q_X9_63 C dX9_noRead_6 ?_
    refine g_icmp_lt (tgt := 16) C dX9_noRead_9 (by decide) (fun c2 => ?_) (fun c2 => ?_)
    · replace ok := ok_t c2 ok
      refine g_iconst (v := 0) C dX9_noRead_16 (by decide) ?_
      refine g_pick (lv' := []) ?_ [] rfl
      exact t_X9_noRead_17 C K _ _ ok
    · replace ok := ok_f c2 ok
      refine g_pick (lv' := []) ?_ [] rfl
      exact t_X9_noRead_12 C K _ ok
theorem c_X9_noRead {l : Launch} {ε : Et} {σ : St} {z : Rs} {x1 : Int32} (e : f_X9_noRead x1 σ = some z) : RM l ε yX9_noRead cX9_noRead 2 (some .boolean) 0 0 0 [.ref (ad ε 39), .int x1] (WX ε σ) (PI ε z) := RM.of (by decide) (Nat.le_of_ble_eq_true rfl) (fun κ C K => tf_X9_noRead C K x1 σ e)
def b_X9_about_140 (t0 : Int32) (σ : St) : Option Rs := some (t0, σ)
set_option maxRecDepth 10000 in
set_option maxHeartbeats 1000000 in
theorem t_X9_about_140 {ε : Et} {κ : Kt} {z : Rs} (C : Cx ε κ cX9_about 3 RX9 1) (K : Ret ε κ cX9_about (some .int) 0 0 (PI ε z)) (t0 : Int32) (σ : St) (ok : b_X9_about_140 t0 σ = some z) : G ε κ 0 0 140 [] [.int t0] (WX ε σ) := by
  unfold b_X9_about_140 at ok
  exact K.2 .int _ _ _ _ rfl dX9_about_140 rfl (pi_ok ok)
def b_X9_about_60 (t0 : Int32) (σ : St) : Option Rs := some (t0, σ)
set_option maxRecDepth 10000 in
set_option maxHeartbeats 1000000 in
theorem t_X9_about_60 {ε : Et} {κ : Kt} {z : Rs} (C : Cx ε κ cX9_about 3 RX9 1) (K : Ret ε κ cX9_about (some .int) 0 0 (PI ε z)) (t0 : Int32) (σ : St) (ok : b_X9_about_60 t0 σ = some z) : G ε κ 0 0 60 [] [.int t0] (WX ε σ) := by
  unfold b_X9_about_60 at ok
  exact K.2 .int _ _ _ _ rfl dX9_about_60 rfl (pi_ok ok)
def b_X9_about_24 (x1 : Int32) (x2 : Int32) (t0 : Int32) (σ : St) : Option Rs := nx (sS σ 39 3 t0) (fun s1 => (if (s1.1 39 3) ≤ 0 then (if (2 : Int32) ≤ x2 then (if (s1.1 39 19) = 0 then some ((-1 : Int32), s1) else (if x2 = (2 : Int32) then gd (inb x1 (ln 48)) (b_X9_about_140 (s1.2.1 48 x1.toNatClampNeg) s1) else (if x2 = (3 : Int32) then gd (inb x1 (ln 49)) (b_X9_about_140 (s1.2.1 49 x1.toNatClampNeg) s1) else (if x2 = (4 : Int32) then gd (inb x1 (ln 50)) (b_X9_about_140 (s1.2.1 50 x1.toNatClampNeg) s1) else (if x2 = (5 : Int32) then gd (inb x1 (ln 51)) ((if (s1.2.1 51 x1.toNatClampNeg) = 0 then b_X9_about_140 (0 : Int32) s1 else b_X9_about_140 (1 : Int32) s1)) else gd (inb x1 (ln 52)) (b_X9_about_140 (s1.2.1 52 x1.toNatClampNeg) s1)))))) else (if x2 = 0 then gd (inb x1 (ln 41)) (b_X9_about_60 (s1.2.1 41 x1.toNatClampNeg) s1) else gd (inb x1 (ln 43)) (b_X9_about_60 (s1.2.1 43 x1.toNatClampNeg) s1))) else some ((0 : Int32), s1)))
set_option maxRecDepth 10000 in
set_option maxHeartbeats 1000000 in
theorem t_X9_about_24 {ε : Et} {κ : Kt} {z : Rs} (C : Cx ε κ cX9_about 3 RX9 1) (K : Ret ε κ cX9_about (some .int) 0 0 (PI ε z)) (x1 : Int32) (x2 : Int32) (t0 : Int32) (σ : St) (ok : b_X9_about_24 x1 x2 t0 σ = some z) : G ε κ 0 0 24 [(0, .ref (ad ε 39)), (1, .int x1), (2, .int x2)] [.int t0, .ref (ad ε 39)] (WX ε σ) := by
  unfold b_X9_about_24 at ok
  refine p_X9_66 C dX9_about_24 (fun s1 e2 => ?_)
  replace ok := nx_ok ok s1 e2
  refine g_aload_n C dX9_about_27 rfl 0 rfl ?_
  refine q_X9_66 C dX9_about_28 ?_
  refine g_if_le (tgt := 36) C dX9_about_31 (by decide) (fun c3 => ?_) (fun c3 => ?_)
  · replace ok := ok_t c3 ok
    refine g_iload_n C dX9_about_36 rfl 2 rfl ?_
    refine g_iconst (v := 2) C dX9_about_37 (by decide) ?_
    refine g_icmp_ge (tgt := 61) C dX9_about_38 (by decide) (fun c4 => ?_) (fun c4 => ?_)
    · replace ok := ok_t c4 ok
      refine g_aload_n C dX9_about_61 rfl 0 rfl ?_
      refine q_X9_114 C dX9_about_62 ?_
      refine g_if_ne (tgt := 70) C dX9_about_65 (by decide) (fun c5 => ?_) (fun c5 => ?_)
      · replace ok := ok_f c5 ok
        refine g_iload_n C dX9_about_70 rfl 2 rfl ?_
        refine g_iconst (v := 2) C dX9_about_71 (by decide) ?_
        refine g_icmp_ne (tgt := 84) C dX9_about_72 (by decide) (fun c6 => ?_) (fun c6 => ?_)
        · replace ok := ok_f c6 ok
          refine g_iload_n C dX9_about_84 rfl 2 rfl ?_
          refine g_iconst (v := 3) C dX9_about_85 (by decide) ?_
          refine g_icmp_ne (tgt := 98) C dX9_about_86 (by decide) (fun c7 => ?_) (fun c7 => ?_)
          · replace ok := ok_f c7 ok
            refine g_iload_n C dX9_about_98 rfl 2 rfl ?_
            refine g_iconst (v := 4) C dX9_about_99 (by decide) ?_
            refine g_icmp_ne (tgt := 112) C dX9_about_100 (by decide) (fun c8 => ?_) (fun c8 => ?_)
            · replace ok := ok_f c8 ok
              refine g_iload_n C dX9_about_112 rfl 2 rfl ?_
              refine g_iconst (v := 5) C dX9_about_113 (by decide) ?_
              refine g_icmp_ne (tgt := 134) C dX9_about_114 (by decide) (fun c9 => ?_) (fun c9 => ?_)
              · replace ok := ok_f c9 ok
                refine g_aload_n C dX9_about_134 rfl 0 rfl ?_
                refine q_X9_54 C dX9_about_135 ?_
                refine g_iload_n C dX9_about_138 rfl 1 rfl ?_
                obtain ⟨h10, ok⟩ := gd_ok ok
                refine q_ald C ai_52 h10 dX9_about_139 ?_
                refine g_pick (lv' := []) ?_ [] rfl
                exact t_X9_about_140 C K _ _ ok
              · replace ok := ok_t c9 ok
                refine g_aload_n C dX9_about_117 rfl 0 rfl ?_
                refine q_X9_50 C dX9_about_118 ?_
                refine g_iload_n C dX9_about_121 rfl 1 rfl ?_
                obtain ⟨h11, ok⟩ := gd_ok ok
                refine q_zld C az_51 h11 dX9_about_122 ?_
                refine g_if_eq (tgt := 130) C dX9_about_123 (by decide) (fun c12 => ?_) (fun c12 => ?_)
                · replace ok := ok_t c12 ok
                  refine g_iconst (v := 0) C dX9_about_130 (by decide) ?_
                  refine g_goto (tgt := 140) C dX9_about_131 (by decide) ?_
                  refine g_pick (lv' := []) ?_ [] rfl
                  exact t_X9_about_140 C K _ _ ok
                · replace ok := ok_f c12 ok
                  refine g_iconst (v := 1) C dX9_about_126 (by decide) ?_
                  refine g_goto (tgt := 140) C dX9_about_127 (by decide) ?_
                  refine g_pick (lv' := []) ?_ [] rfl
                  exact t_X9_about_140 C K _ _ ok
            · replace ok := ok_t c8 ok
              refine g_aload_n C dX9_about_103 rfl 0 rfl ?_
              refine q_X9_47 C dX9_about_104 ?_
              refine g_iload_n C dX9_about_107 rfl 1 rfl ?_
              obtain ⟨h13, ok⟩ := gd_ok ok
              refine q_ald C ai_50 h13 dX9_about_108 ?_
              refine g_goto (tgt := 140) C dX9_about_109 (by decide) ?_
              refine g_pick (lv' := []) ?_ [] rfl
              exact t_X9_about_140 C K _ _ ok
          · replace ok := ok_t c7 ok
            refine g_aload_n C dX9_about_89 rfl 0 rfl ?_
            refine q_X9_44 C dX9_about_90 ?_
            refine g_iload_n C dX9_about_93 rfl 1 rfl ?_
            obtain ⟨h14, ok⟩ := gd_ok ok
            refine q_ald C ai_49 h14 dX9_about_94 ?_
            refine g_goto (tgt := 140) C dX9_about_95 (by decide) ?_
            refine g_pick (lv' := []) ?_ [] rfl
            exact t_X9_about_140 C K _ _ ok
        · replace ok := ok_t c6 ok
          refine g_aload_n C dX9_about_75 rfl 0 rfl ?_
          refine q_X9_41 C dX9_about_76 ?_
          refine g_iload_n C dX9_about_79 rfl 1 rfl ?_
          obtain ⟨h15, ok⟩ := gd_ok ok
          refine q_ald C ai_48 h15 dX9_about_80 ?_
          refine g_goto (tgt := 140) C dX9_about_81 (by decide) ?_
          refine g_pick (lv' := []) ?_ [] rfl
          exact t_X9_about_140 C K _ _ ok
      · replace ok := ok_t c5 ok
        refine g_iconst (v := -1) C dX9_about_68 (by decide) ?_
        exact K.2 .int _ _ _ _ rfl dX9_about_69 rfl (pi_ok ok)
    · replace ok := ok_f c4 ok
      refine g_iload_n C dX9_about_41 rfl 2 rfl ?_
      refine g_if_ne (tgt := 54) C dX9_about_42 (by decide) (fun c16 => ?_) (fun c16 => ?_)
      · replace ok := ok_f c16 ok
        refine g_aload_n C dX9_about_54 rfl 0 rfl ?_
        refine q_X9_23 C dX9_about_55 ?_
        refine g_iload_n C dX9_about_58 rfl 1 rfl ?_
        obtain ⟨h17, ok⟩ := gd_ok ok
        refine q_ald C ai_43 h17 dX9_about_59 ?_
        refine g_pick (lv' := []) ?_ [] rfl
        exact t_X9_about_60 C K _ _ ok
      · replace ok := ok_t c16 ok
        refine g_aload_n C dX9_about_45 rfl 0 rfl ?_
        refine q_X9_17 C dX9_about_46 ?_
        refine g_iload_n C dX9_about_49 rfl 1 rfl ?_
        obtain ⟨h18, ok⟩ := gd_ok ok
        refine q_ald C ai_41 h18 dX9_about_50 ?_
        refine g_goto (tgt := 60) C dX9_about_51 (by decide) ?_
        refine g_pick (lv' := []) ?_ [] rfl
        exact t_X9_about_60 C K _ _ ok
  · replace ok := ok_f c3 ok
    refine g_iconst (v := 0) C dX9_about_34 (by decide) ?_
    exact K.2 .int _ _ _ _ rfl dX9_about_35 rfl (pi_ok ok)
def b_X9_about_19 (x1 : Int32) (x2 : Int32) (σ : St) : Option Rs := b_X9_about_24 x1 x2 (1 : Int32) σ
set_option maxRecDepth 10000 in
set_option maxHeartbeats 1000000 in
theorem t_X9_about_19 {ε : Et} {κ : Kt} {z : Rs} (C : Cx ε κ cX9_about 3 RX9 1) (K : Ret ε κ cX9_about (some .int) 0 0 (PI ε z)) (x1 : Int32) (x2 : Int32) (σ : St) (ok : b_X9_about_19 x1 x2 σ = some z) : G ε κ 0 0 19 [(0, .ref (ad ε 39)), (1, .int x1), (2, .int x2)] [.ref (ad ε 39)] (WX ε σ) := by
  unfold b_X9_about_19 at ok
  refine g_iconst (v := 1) C dX9_about_19 (by decide) ?_
  refine g_goto (tgt := 24) C dX9_about_20 (by decide) ?_
  exact t_X9_about_24 C K _ _ _ _ ok
def f_X9_about (x1 : Int32) (x2 : Int32) (σ : St) : Option Rs := bd (f_X9_noRead x1 σ) (fun r1 s2 => (if r1 = 0 then (if x2 < 0 then b_X9_about_19 x1 x2 s2 else (if x2 ≤ (6 : Int32) then b_X9_about_24 x1 x2 (0 : Int32) s2 else b_X9_about_19 x1 x2 s2)) else b_X9_about_19 x1 x2 s2))
set_option maxRecDepth 10000 in
set_option maxHeartbeats 1000000 in
theorem tf_X9_about {ε : Et} {κ : Kt} {z : Rs} (C : Cx ε κ cX9_about 3 RX9 1) (K : Ret ε κ cX9_about (some .int) 0 0 (PI ε z)) (x1 : Int32) (x2 : Int32) (σ : St) (ok : f_X9_about x1 x2 σ = some z) : G ε κ 0 0 0 [(0, .ref (ad ε 39)), (1, .int x1), (2, .int x2)] [] (WX ε σ) := by
  unfold f_X9_about at ok
  refine g_aload_n C dX9_about_0 rfl 0 rfl ?_
  refine g_aload_n C dX9_about_1 rfl 0 rfl ?_
  refine g_iload_n C dX9_about_2 rfl 1 rfl ?_
  obtain ⟨r1, s2, e3, ok⟩ := bd_ok ok
  refine q_cI C [.int x1] (c_X9_noRead e3) wv_X9_190 (by decide) (lt_N (by decide)) wx_X9 rfl rfl rfl (Nat.le_of_ble_eq_true rfl) dX9_about_3 ?_
  refine g_if_ne (tgt := 19) C dX9_about_6 (by decide) (fun c4 => ?_) (fun c4 => ?_)
  · replace ok := ok_f c4 ok
    exact t_X9_about_19 C K _ _ _ ok
  · replace ok := ok_t c4 ok
    refine g_iload_n C dX9_about_9 rfl 2 rfl ?_
    refine g_if_lt (tgt := 19) C dX9_about_10 (by decide) (fun c5 => ?_) (fun c5 => ?_)
    · replace ok := ok_t c5 ok
      exact t_X9_about_19 C K _ _ _ ok
    · replace ok := ok_f c5 ok
      refine g_iload_n C dX9_about_13 rfl 2 rfl ?_
      refine g_bipush (v := 6) C dX9_about_14 (by decide) ?_
      refine g_icmp_le (tgt := 23) C dX9_about_16 (by decide) (fun c6 => ?_) (fun c6 => ?_)
      · replace ok := ok_t c6 ok
        refine g_iconst (v := 0) C dX9_about_23 (by decide) ?_
        exact t_X9_about_24 C K _ _ _ _ ok
      · replace ok := ok_f c6 ok
        exact t_X9_about_19 C K _ _ _ ok
theorem c_X9_about {l : Launch} {ε : Et} {σ : St} {z : Rs} {x1 : Int32} {x2 : Int32} (e : f_X9_about x1 x2 σ = some z) : RM l ε yX9_about cX9_about 3 (some .int) 1 0 0 [.ref (ad ε 39), .int x1, .int x2] (WX ε σ) (PI ε z) := RM.of (by decide) (Nat.le_of_ble_eq_true rfl) (fun κ C K => tf_X9_about C K x1 x2 σ e)
