def b_X8_isBase_29 (t0 : Int32) (σ : St) : Option Rs := gz t0 (some (t0, σ))
set_option maxRecDepth 10000 in
set_option maxHeartbeats 1000000 in
theorem t_X8_isBase_29 {ε : Et} {κ : Kt} {z : Rs} (C : Cx ε κ cX8_isBase 1 RX8 0) (K : Ret ε κ cX8_isBase (some .boolean) 0 0 (PI ε z)) (t0 : Int32) (σ : St) (ok : b_X8_isBase_29 t0 σ = some z) : G ε κ 0 0 29 [] [.int t0] (WX ε σ) := by
  unfold b_X8_isBase_29 at ok
  obtain ⟨z1, ok⟩ := gz_ok ok
  exact K.2 .boolean _ _ _ _ rfl dX8_isBase_29 (nar_b z1) (pi_ok ok)
def b_X8_isBase_24 (σ : St) : Option Rs := b_X8_isBase_29 (1 : Int32) σ
set_option maxRecDepth 10000 in
set_option maxHeartbeats 1000000 in
theorem t_X8_isBase_24 {ε : Et} {κ : Kt} {z : Rs} (C : Cx ε κ cX8_isBase 1 RX8 0) (K : Ret ε κ cX8_isBase (some .boolean) 0 0 (PI ε z)) (σ : St) (ok : b_X8_isBase_24 σ = some z) : G ε κ 0 0 24 [] [] (WX ε σ) := by
  unfold b_X8_isBase_24 at ok
  refine g_iconst (v := 1) C dX8_isBase_24 (by decide) ?_
  refine g_goto (tgt := 29) C dX8_isBase_25 (by decide) ?_
  exact t_X8_isBase_29 C K _ _ ok
def f_X8_isBase (x0 : Int32) (σ : St) : Option Rs := (if x0 = (65 : Int32) then b_X8_isBase_24 σ else (if x0 = (67 : Int32) then b_X8_isBase_24 σ else (if x0 = (71 : Int32) then b_X8_isBase_24 σ else (if x0 = (84 : Int32) then b_X8_isBase_24 σ else b_X8_isBase_29 (0 : Int32) σ))))
set_option maxRecDepth 10000 in
set_option maxHeartbeats 1000000 in
theorem tf_X8_isBase {ε : Et} {κ : Kt} {z : Rs} (C : Cx ε κ cX8_isBase 1 RX8 0) (K : Ret ε κ cX8_isBase (some .boolean) 0 0 (PI ε z)) (x0 : Int32) (σ : St) (ok : f_X8_isBase x0 σ = some z) : G ε κ 0 0 0 [(0, .int x0)] [] (WX ε σ) := by
  unfold f_X8_isBase at ok
  refine g_iload_n C dX8_isBase_0 rfl 0 rfl ?_
  refine g_bipush (v := 65) C dX8_isBase_1 (by decide) ?_
  refine g_icmp_eq (tgt := 24) C dX8_isBase_3 (by decide) (fun c1 => ?_) (fun c1 => ?_)
  · replace ok := ok_t c1 ok
    refine g_pick (lv' := []) ?_ [] rfl
    exact t_X8_isBase_24 C K _ ok
  · replace ok := ok_f c1 ok
    refine g_iload_n C dX8_isBase_6 rfl 0 rfl ?_
    refine g_bipush (v := 67) C dX8_isBase_7 (by decide) ?_
    refine g_icmp_eq (tgt := 24) C dX8_isBase_9 (by decide) (fun c2 => ?_) (fun c2 => ?_)
    · replace ok := ok_t c2 ok
      refine g_pick (lv' := []) ?_ [] rfl
      exact t_X8_isBase_24 C K _ ok
    · replace ok := ok_f c2 ok
      refine g_iload_n C dX8_isBase_12 rfl 0 rfl ?_
      refine g_bipush (v := 71) C dX8_isBase_13 (by decide) ?_
      refine g_icmp_eq (tgt := 24) C dX8_isBase_15 (by decide) (fun c3 => ?_) (fun c3 => ?_)
      · replace ok := ok_t c3 ok
        refine g_pick (lv' := []) ?_ [] rfl
        exact t_X8_isBase_24 C K _ ok
      · replace ok := ok_f c3 ok
        refine g_iload_n C dX8_isBase_18 rfl 0 rfl ?_
        refine g_bipush (v := 84) C dX8_isBase_19 (by decide) ?_
        refine g_icmp_ne (tgt := 28) C dX8_isBase_21 (by decide) (fun c4 => ?_) (fun c4 => ?_)
        · replace ok := ok_f c4 ok
          refine g_iconst (v := 0) C dX8_isBase_28 (by decide) ?_
          refine g_pick (lv' := []) ?_ [] rfl
          exact t_X8_isBase_29 C K _ _ ok
        · replace ok := ok_t c4 ok
          refine g_pick (lv' := []) ?_ [] rfl
          exact t_X8_isBase_24 C K _ ok
theorem c_X8_isBase {l : Launch} {ε : Et} {σ : St} {z : Rs} {x0 : Int32} (e : f_X8_isBase x0 σ = some z) : RM l ε yX8_isBase cX8_isBase 1 (some .boolean) 0 0 0 [.int x0] (WX ε σ) (PI ε z) := RM.of (by decide) (Nat.le_of_ble_eq_true rfl) (fun κ C K => tf_X8_isBase C K x0 σ e)
def b_X8_isSign_17 (t0 : Int32) (σ : St) : Option Rs := gz t0 (some (t0, σ))
set_option maxRecDepth 10000 in
set_option maxHeartbeats 1000000 in
theorem t_X8_isSign_17 {ε : Et} {κ : Kt} {z : Rs} (C : Cx ε κ cX8_isSign 1 RX8 0) (K : Ret ε κ cX8_isSign (some .boolean) 0 0 (PI ε z)) (t0 : Int32) (σ : St) (ok : b_X8_isSign_17 t0 σ = some z) : G ε κ 0 0 17 [] [.int t0] (WX ε σ) := by
  unfold b_X8_isSign_17 at ok
  obtain ⟨z1, ok⟩ := gz_ok ok
  exact K.2 .boolean _ _ _ _ rfl dX8_isSign_17 (nar_b z1) (pi_ok ok)
def b_X8_isSign_16 (σ : St) : Option Rs := b_X8_isSign_17 (0 : Int32) σ
set_option maxRecDepth 10000 in
set_option maxHeartbeats 1000000 in
theorem t_X8_isSign_16 {ε : Et} {κ : Kt} {z : Rs} (C : Cx ε κ cX8_isSign 1 RX8 0) (K : Ret ε κ cX8_isSign (some .boolean) 0 0 (PI ε z)) (σ : St) (ok : b_X8_isSign_16 σ = some z) : G ε κ 0 0 16 [] [] (WX ε σ) := by
  unfold b_X8_isSign_16 at ok
  refine g_iconst (v := 0) C dX8_isSign_16 (by decide) ?_
  exact t_X8_isSign_17 C K _ _ ok
def f_X8_isSign (x0 : Int32) (σ : St) : Option Rs := (if x0 < (33 : Int32) then b_X8_isSign_16 σ else (if (126 : Int32) < x0 then b_X8_isSign_16 σ else b_X8_isSign_17 (1 : Int32) σ))
set_option maxRecDepth 10000 in
set_option maxHeartbeats 1000000 in
theorem tf_X8_isSign {ε : Et} {κ : Kt} {z : Rs} (C : Cx ε κ cX8_isSign 1 RX8 0) (K : Ret ε κ cX8_isSign (some .boolean) 0 0 (PI ε z)) (x0 : Int32) (σ : St) (ok : f_X8_isSign x0 σ = some z) : G ε κ 0 0 0 [(0, .int x0)] [] (WX ε σ) := by
  unfold f_X8_isSign at ok
  refine g_iload_n C dX8_isSign_0 rfl 0 rfl ?_
  refine g_bipush (v := 33) C dX8_isSign_1 (by decide) ?_
  refine g_icmp_lt (tgt := 16) C dX8_isSign_3 (by decide) (fun c1 => ?_) (fun c1 => ?_)
  · replace ok := ok_t c1 ok
    refine g_pick (lv' := []) ?_ [] rfl
    exact t_X8_isSign_16 C K _ ok
  · replace ok := ok_f c1 ok
    refine g_iload_n C dX8_isSign_6 rfl 0 rfl ?_
    refine g_bipush (v := 126) C dX8_isSign_7 (by decide) ?_
    refine g_icmp_gt (tgt := 16) C dX8_isSign_9 (by decide) (fun c2 => ?_) (fun c2 => ?_)
    · replace ok := ok_t c2 ok
      refine g_pick (lv' := []) ?_ [] rfl
      exact t_X8_isSign_16 C K _ ok
    · replace ok := ok_f c2 ok
      refine g_iconst (v := 1) C dX8_isSign_12 (by decide) ?_
      refine g_goto (tgt := 17) C dX8_isSign_13 (by decide) ?_
      refine g_pick (lv' := []) ?_ [] rfl
      exact t_X8_isSign_17 C K _ _ ok
theorem c_X8_isSign {l : Launch} {ε : Et} {σ : St} {z : Rs} {x0 : Int32} (e : f_X8_isSign x0 σ = some z) : RM l ε yX8_isSign cX8_isSign 1 (some .boolean) 0 0 0 [.int x0] (WX ε σ) (PI ε z) := RM.of (by decide) (Nat.le_of_ble_eq_true rfl) (fun κ C K => tf_X8_isSign C K x0 σ e)
def b_X8_isLetter_18 (t0 : Int32) (σ : St) : Option Rs := gz t0 (some (t0, σ))
set_option maxRecDepth 10000 in
set_option maxHeartbeats 1000000 in
theorem t_X8_isLetter_18 {ε : Et} {κ : Kt} {z : Rs} (C : Cx ε κ cX8_isLetter 1 RX8 1) (K : Ret ε κ cX8_isLetter (some .boolean) 0 0 (PI ε z)) (t0 : Int32) (σ : St) (ok : b_X8_isLetter_18 t0 σ = some z) : G ε κ 0 0 18 [] [.int t0] (WX ε σ) := by
  unfold b_X8_isLetter_18 at ok
  obtain ⟨z1, ok⟩ := gz_ok ok
  exact K.2 .boolean _ _ _ _ rfl dX8_isLetter_18 (nar_b z1) (pi_ok ok)
def b_X8_isLetter_13 (σ : St) : Option Rs := b_X8_isLetter_18 (1 : Int32) σ
set_option maxRecDepth 10000 in
set_option maxHeartbeats 1000000 in
theorem t_X8_isLetter_13 {ε : Et} {κ : Kt} {z : Rs} (C : Cx ε κ cX8_isLetter 1 RX8 1) (K : Ret ε κ cX8_isLetter (some .boolean) 0 0 (PI ε z)) (σ : St) (ok : b_X8_isLetter_13 σ = some z) : G ε κ 0 0 13 [] [] (WX ε σ) := by
  unfold b_X8_isLetter_13 at ok
  refine g_iconst (v := 1) C dX8_isLetter_13 (by decide) ?_
  refine g_goto (tgt := 18) C dX8_isLetter_14 (by decide) ?_
  exact t_X8_isLetter_18 C K _ _ ok
def f_X8_isLetter (x0 : Int32) (σ : St) : Option Rs := bd (f_X8_isBase x0 σ) (fun r1 s2 => (if r1 = 0 then (if x0 = (78 : Int32) then b_X8_isLetter_13 s2 else b_X8_isLetter_18 (0 : Int32) s2) else b_X8_isLetter_13 s2))
set_option maxRecDepth 10000 in
set_option maxHeartbeats 1000000 in
theorem tf_X8_isLetter {ε : Et} {κ : Kt} {z : Rs} (C : Cx ε κ cX8_isLetter 1 RX8 1) (K : Ret ε κ cX8_isLetter (some .boolean) 0 0 (PI ε z)) (x0 : Int32) (σ : St) (ok : f_X8_isLetter x0 σ = some z) : G ε κ 0 0 0 [(0, .int x0)] [] (WX ε σ) := by
  unfold f_X8_isLetter at ok
  refine g_iload_n C dX8_isLetter_0 rfl 0 rfl ?_
  obtain ⟨r1, s2, e3, ok⟩ := bd_ok ok
  refine q_sI C [.int x0] (c_X8_isBase e3) wv_X8_286 (by decide) rfl rfl (Nat.le_of_ble_eq_true rfl) dX8_isLetter_1 ?_
  refine g_if_ne (tgt := 13) C dX8_isLetter_4 (by decide) (fun c4 => ?_) (fun c4 => ?_)
  · replace ok := ok_f c4 ok
    refine g_pick (lv' := []) ?_ [] rfl
    exact t_X8_isLetter_13 C K _ ok
  · replace ok := ok_t c4 ok
    refine g_iload_n C dX8_isLetter_7 rfl 0 rfl ?_
    refine g_bipush (v := 78) C dX8_isLetter_8 (by decide) ?_
    refine g_icmp_ne (tgt := 17) C dX8_isLetter_10 (by decide) (fun c5 => ?_) (fun c5 => ?_)
    · replace ok := ok_f c5 ok
      refine g_iconst (v := 0) C dX8_isLetter_17 (by decide) ?_
      refine g_pick (lv' := []) ?_ [] rfl
      exact t_X8_isLetter_18 C K _ _ ok
    · replace ok := ok_t c5 ok
      refine g_pick (lv' := []) ?_ [] rfl
      exact t_X8_isLetter_13 C K _ ok
theorem c_X8_isLetter {l : Launch} {ε : Et} {σ : St} {z : Rs} {x0 : Int32} (e : f_X8_isLetter x0 σ = some z) : RM l ε yX8_isLetter cX8_isLetter 1 (some .boolean) 1 0 0 [.int x0] (WX ε σ) (PI ε z) := RM.of (by decide) (Nat.le_of_ble_eq_true rfl) (fun κ C K => tf_X8_isLetter C K x0 σ e)
def b_X8_isForm_14 (t0 : Int32) (σ : St) : Option Rs := gz t0 (some (t0, σ))
set_option maxRecDepth 10000 in
set_option maxHeartbeats 1000000 in
theorem t_X8_isForm_14 {ε : Et} {κ : Kt} {z : Rs} (C : Cx ε κ cX8_isForm 1 RX8 0) (K : Ret ε κ cX8_isForm (some .boolean) 0 0 (PI ε z)) (t0 : Int32) (σ : St) (ok : b_X8_isForm_14 t0 σ = some z) : G ε κ 0 0 14 [] [.int t0] (WX ε σ) := by
  unfold b_X8_isForm_14 at ok
  obtain ⟨z1, ok⟩ := gz_ok ok
  exact K.2 .boolean _ _ _ _ rfl dX8_isForm_14 (nar_b z1) (pi_ok ok)
def b_X8_isForm_9 (σ : St) : Option Rs := b_X8_isForm_14 (1 : Int32) σ
set_option maxRecDepth 10000 in
set_option maxHeartbeats 1000000 in
theorem t_X8_isForm_9 {ε : Et} {κ : Kt} {z : Rs} (C : Cx ε κ cX8_isForm 1 RX8 0) (K : Ret ε κ cX8_isForm (some .boolean) 0 0 (PI ε z)) (σ : St) (ok : b_X8_isForm_9 σ = some z) : G ε κ 0 0 9 [] [] (WX ε σ) := by
  unfold b_X8_isForm_9 at ok
  refine g_iconst (v := 1) C dX8_isForm_9 (by decide) ?_
  refine g_goto (tgt := 14) C dX8_isForm_10 (by decide) ?_
  exact t_X8_isForm_14 C K _ _ ok
def f_X8_isForm (x0 : Int32) (σ : St) : Option Rs := (if x0 = 0 then b_X8_isForm_9 σ else (if x0 = (1 : Int32) then b_X8_isForm_9 σ else b_X8_isForm_14 (0 : Int32) σ))
set_option maxRecDepth 10000 in
set_option maxHeartbeats 1000000 in
theorem tf_X8_isForm {ε : Et} {κ : Kt} {z : Rs} (C : Cx ε κ cX8_isForm 1 RX8 0) (K : Ret ε κ cX8_isForm (some .boolean) 0 0 (PI ε z)) (x0 : Int32) (σ : St) (ok : f_X8_isForm x0 σ = some z) : G ε κ 0 0 0 [(0, .int x0)] [] (WX ε σ) := by
  unfold f_X8_isForm at ok
  refine g_iload_n C dX8_isForm_0 rfl 0 rfl ?_
  refine g_if_eq (tgt := 9) C dX8_isForm_1 (by decide) (fun c1 => ?_) (fun c1 => ?_)
  · replace ok := ok_t c1 ok
    refine g_pick (lv' := []) ?_ [] rfl
    exact t_X8_isForm_9 C K _ ok
  · replace ok := ok_f c1 ok
    refine g_iload_n C dX8_isForm_4 rfl 0 rfl ?_
    refine g_iconst (v := 1) C dX8_isForm_5 (by decide) ?_
    refine g_icmp_ne (tgt := 13) C dX8_isForm_6 (by decide) (fun c2 => ?_) (fun c2 => ?_)
    · replace ok := ok_f c2 ok
      refine g_iconst (v := 0) C dX8_isForm_13 (by decide) ?_
      refine g_pick (lv' := []) ?_ [] rfl
      exact t_X8_isForm_14 C K _ _ ok
    · replace ok := ok_t c2 ok
      refine g_pick (lv' := []) ?_ [] rfl
      exact t_X8_isForm_9 C K _ ok
theorem c_X8_isForm {l : Launch} {ε : Et} {σ : St} {z : Rs} {x0 : Int32} (e : f_X8_isForm x0 σ = some z) : RM l ε yX8_isForm cX8_isForm 1 (some .boolean) 0 0 0 [.int x0] (WX ε σ) (PI ε z) := RM.of (by decide) (Nat.le_of_ble_eq_true rfl) (fun κ C K => tf_X8_isForm C K x0 σ e)
def b_X8_isWithin_14 (t0 : Int32) (σ : St) : Option Rs := gz t0 (some (t0, σ))
set_option maxRecDepth 10000 in
set_option maxHeartbeats 1000000 in
theorem t_X8_isWithin_14 {ε : Et} {κ : Kt} {z : Rs} (C : Cx ε κ cX8_isWithin 2 RX8 0) (K : Ret ε κ cX8_isWithin (some .boolean) 0 0 (PI ε z)) (t0 : Int32) (σ : St) (ok : b_X8_isWithin_14 t0 σ = some z) : G ε κ 0 0 14 [] [.int t0] (WX ε σ) := by
  unfold b_X8_isWithin_14 at ok
  obtain ⟨z1, ok⟩ := gz_ok ok
  exact K.2 .boolean _ _ _ _ rfl dX8_isWithin_14 (nar_b z1) (pi_ok ok)
def b_X8_isWithin_13 (σ : St) : Option Rs := b_X8_isWithin_14 (0 : Int32) σ
set_option maxRecDepth 10000 in
set_option maxHeartbeats 1000000 in
theorem t_X8_isWithin_13 {ε : Et} {κ : Kt} {z : Rs} (C : Cx ε κ cX8_isWithin 2 RX8 0) (K : Ret ε κ cX8_isWithin (some .boolean) 0 0 (PI ε z)) (σ : St) (ok : b_X8_isWithin_13 σ = some z) : G ε κ 0 0 13 [] [] (WX ε σ) := by
  unfold b_X8_isWithin_13 at ok
  refine g_iconst (v := 0) C dX8_isWithin_13 (by decide) ?_
  exact t_X8_isWithin_14 C K _ _ ok
def f_X8_isWithin (x0 : Int32) (x1 : Int32) (σ : St) : Option Rs := (if x0 < 0 then b_X8_isWithin_13 σ else (if x1 < x0 then b_X8_isWithin_13 σ else b_X8_isWithin_14 (1 : Int32) σ))
set_option maxRecDepth 10000 in
set_option maxHeartbeats 1000000 in
theorem tf_X8_isWithin {ε : Et} {κ : Kt} {z : Rs} (C : Cx ε κ cX8_isWithin 2 RX8 0) (K : Ret ε κ cX8_isWithin (some .boolean) 0 0 (PI ε z)) (x0 : Int32) (x1 : Int32) (σ : St) (ok : f_X8_isWithin x0 x1 σ = some z) : G ε κ 0 0 0 [(0, .int x0), (1, .int x1)] [] (WX ε σ) := by
  unfold f_X8_isWithin at ok
  refine g_iload_n C dX8_isWithin_0 rfl 0 rfl ?_
  refine g_if_lt (tgt := 13) C dX8_isWithin_1 (by decide) (fun c1 => ?_) (fun c1 => ?_)
  · replace ok := ok_t c1 ok
    refine g_pick (lv' := []) ?_ [] rfl
    exact t_X8_isWithin_13 C K _ ok
  · replace ok := ok_f c1 ok
    refine g_iload_n C dX8_isWithin_4 rfl 0 rfl ?_
    refine g_iload_n C dX8_isWithin_5 rfl 1 rfl ?_
    refine g_icmp_gt (tgt := 13) C dX8_isWithin_6 (by decide) (fun c2 => ?_) (fun c2 => ?_)
    · replace ok := ok_t c2 ok
      refine g_pick (lv' := []) ?_ [] rfl
      exact t_X8_isWithin_13 C K _ ok
    · replace ok := ok_f c2 ok
      refine g_iconst (v := 1) C dX8_isWithin_9 (by decide) ?_
      refine g_goto (tgt := 14) C dX8_isWithin_10 (by decide) ?_
      refine g_pick (lv' := []) ?_ [] rfl
      exact t_X8_isWithin_14 C K _ _ ok
theorem c_X8_isWithin {l : Launch} {ε : Et} {σ : St} {z : Rs} {x0 : Int32} {x1 : Int32} (e : f_X8_isWithin x0 x1 σ = some z) : RM l ε yX8_isWithin cX8_isWithin 2 (some .boolean) 0 0 0 [.int x0, .int x1] (WX ε σ) (PI ε z) := RM.of (by decide) (Nat.le_of_ble_eq_true rfl) (fun κ C K => tf_X8_isWithin C K x0 x1 σ e)
