section CG
/-- what holds of a bin's grouping by itself -/
def GX (X : Gx) : Prop := gN X ≤ 60 ∧ gU X ≤ 12 ∧ gV X < 16 ∧ ∀ i, It X i → ∀ k, k < gU X → isL (gT X i k) = true
/-- the class's grouping, what stays -/
def GS (X : Gx) (τ : St) : Prop := τ.1 25 7 = nI (gU X) ∧ τ.1 25 8 = bI (gw X) ∧ (∀ i, i < 60 → τ.2.1 27 i = (if i < gN X ∧ ctd (gB X) (gS X) i then gB X i else -1)) ∧ (∀ i, i < gN X → ctd (gB X) (gS X) i → (∀ j, j < gU X → τ.2.1 26 (12 * i + j) = gT X i j) ∧ τ.2.1 28 i = nI (rp X i)) ∧ (∀ i, i < 60 → τ.2.1 29 i = nI (cn X i))
/-- and what it has come to -/
def CG (X : Gx) (τ : St) (g h : Nat → Int32) : Prop := ∀ i, i < 60 → τ.2.1 30 i = (if Rp X i then g i else h i)
theorem GS.fr {X : Gx} {τ τ' : St} {ps fs qs : List Nat} (hG : GS X τ) (hf : FrG τ τ' ps fs qs) (hd : offL ps fs qs [25] [] [26, 27, 28, 29] = true) : GS X τ' := by
  obtain ⟨k1, k2, k3⟩ := hf.off hd
  unfold GS
  rw [k1 25 (by decide), k3 26 (by decide), k3 27 (by decide), k3 28 (by decide), k3 29 (by decide)]
  exact hG
variable {X : Gx} {τ : St} {g h : Nat → Int32}
theorem isOpen_e {x : Nat} (hX : GX X) (hS : GS X τ) (hC : CG X τ g h) (hx : x < 60) : f_X1_isOpen (nI x) (nI (gV X)) τ = some (bI (decide (Rp X x ∧ g x = -1)), τ) := by
  obtain ⟨x1, x2, x3, x4⟩ := hX
  obtain ⟨s1, s2, s3, s4, s5⟩ := hS
  unfold f_X1_isOpen b_X1_isOpen_34 b_X1_isOpen_35
  rw [gd_t (inb_n (show x < ln 27 by show x < 60; omega) (by decide)), gd_t (inb_n (show x < ln 28 by show x < 60; omega) (by decide)), gd_t (inb_n (show x < ln 30 by show x < 60; omega) (by decide)), nI_clamp (by omega), s3 x hx, gz_0, gz_1]
  by_cases hI : It X x
  · rw [show (if x < gN X ∧ ctd (gB X) (gS X) x then gB X x else -1) = gB X x from if_pos ⟨hI.1, hI.2.1⟩, if_pos hI.2.2, (s4 x hI.1 hI.2.1).2, hC x hx]
    have hl : rp X x ≤ x := rp_le
    by_cases hr : rp X x = x
    · rw [if_pos (show nI (rp X x) = nI x by rw [hr]), show (if Rp X x then g x else h x) = g x from if_pos ⟨hI, hr⟩]
      by_cases hg : g x = -1
      · rw [if_pos hg, decide_eq_true ⟨⟨hI, hr⟩, hg⟩]; rfl
      · rw [if_neg hg, decide_eq_false (fun h => hg h.2)]; rfl
    · rw [if_neg (fun h => hr ((nI_eq (by omega) (by omega)).mp h)), decide_eq_false (fun h => hr h.1.2)]; rfl
  · have hne : ¬ (if x < gN X ∧ ctd (gB X) (gS X) x then gB X x else -1) = nI (gV X) := by
      by_cases hc : x < gN X ∧ ctd (gB X) (gS X) x
      · rw [if_pos hc]
        exact fun h => hI ⟨hc.1, hc.2, h⟩
      · rw [if_neg hc]
        exact nI_m1 (by omega)
    rw [if_neg hne, decide_eq_false (fun h => hI h.1.1)]; rfl
theorem firstOpen_e (hX : GX X) (hS : GS X τ) (hC : CG X τ g h) (hw : gw X = false) : f_X1_firstOpen (nI (gV X)) τ = some (sdf X g 60, τ) := by
  have stay : ∀ d k, sdf X g k ≠ -1 → sdf X g (k + d) = sdf X g k := by
    intro d
    induction d with
    | zero => intro k _; rfl
    | succ d ih =>
      intro k hk
      have h1 := ih k hk
      show (if Rp X (k + d) ∧ g (k + d) = -1 then (if sdf X g (k + d) = -1 then nI (k + d) else if gw X = true ∧ bf X (k + d) (sdf X g (k + d)).toNatClampNeg = true then nI (k + d) else sdf X g (k + d)) else sdf X g (k + d)) = _
      have hno : ¬ (gw X = true ∧ bf X (k + d) (sdf X g k).toNatClampNeg = true) := fun h => by
        rw [hw] at h
        cases h.1
      rw [h1, if_neg hk, if_neg hno]
      split <;> rfl
  have key : ∀ (fu k : Nat), k ≤ 60 → 60 < fu + k → sdf X g k = -1 → l_X1_firstOpen_2 fu (nI (gV X)) (nI k) τ = some (sdf X g 60, τ) := by
    intro fu
    induction fu with
    | zero => intro k h1 h2; omega
    | succ fu ih =>
      intro k h1 h2 hk
      show b_X1_firstOpen_2 (l_X1_firstOpen_2 fu) (nI (gV X)) (nI k) τ = _
      unfold b_X1_firstOpen_2
      rw [show (60 : Int32) = nI 60 from rfl]
      by_cases e : k = 60
      · subst e
        rw [if_pos (nI_le (Nat.le_refl _) (by omega)), hk]
      · rw [if_neg (nI_ge (by omega) (by omega)), isOpen_e hX hS hC (by omega), bd_s, nx_e, nI_1]
        have hs : sdf X g (k + 1) = (if Rp X k ∧ g k = -1 then (if sdf X g k = -1 then nI k else if gw X = true ∧ bf X k (sdf X g k).toNatClampNeg = true then nI k else sdf X g k) else sdf X g k) := rfl
        by_cases ho : Rp X k ∧ g k = -1
        · rw [if_pos ho, if_pos hk] at hs
          rw [decide_eq_true ho, if_neg (by decide)]
          have := stay (60 - (k + 1)) (k + 1) (by rw [hs]; exact nI_m1' (by omega))
          rw [show k + 1 + (60 - (k + 1)) = 60 by omega, hs] at this
          rw [this]
        · rw [if_neg ho, hk] at hs
          rw [decide_eq_false ho, if_pos (by decide)]
          exact ih (k + 1) (by omega) (by omega) hs
  exact key FU 0 (by omega) (by simp only [FU]; omega) rfl
theorem let_sub {a b : Int32} (ha : isL a = true) (hb : isL b = true) : (a - b = 0 ↔ a = b) ∧ (¬ a = b → (0 ≤ a - b ↔ ¬ a < b)) := by
  simp only [isL, isB, Bool.or_eq_true, beq_iff_eq] at ha hb
  rcases ha with (((rfl | rfl) | rfl) | rfl) | rfl <;> rcases hb with (((rfl | rfl) | rfl) | rfl) | rfl <;> decide
theorem comesBefore_e {x y : Nat} (hX : GX X) (hS : GS X τ) (hx : Rp X x) (hy : Rp X y) : f_X1_comesBefore (nI x) (nI y) τ = some (bI (bf X x y), τ) := by
  obtain ⟨x1, x2, x3, x4⟩ := hX
  obtain ⟨s1, s2, s3, s4, s5⟩ := hS
  have hx60 : x < 60 := by have := hx.1.1; omega
  have hy60 : y < 60 := by have := hy.1.1; omega
  have c1 := cn_le (X := X) (r := x)
  have c2 := cn_le (X := X) (r := y)
  have key : ∀ (fu k r : Nat), k + r = gU X → r < fu → l_X1_comesBefore_38 fu (nI x) (nI y) (nI k) τ = some (bI (lx (gT X x) (gT X y) r k), τ) := by
    intro fu
    induction fu with
    | zero => intro k r h1 h2; omega
    | succ fu ih =>
      intro k r h1 h2
      show b_X1_comesBefore_38 (l_X1_comesBefore_38 fu) (nI x) (nI y) (nI k) τ = _
      unfold b_X1_comesBefore_38 b_X1_comesBefore_86
      rw [s1]
      cases r with
      | zero =>
        rw [if_pos (nI_le (by omega) (by omega)), gz_0]
        rfl
      | succ r =>
        simp only [nx_e]
        rw [if_neg (nI_ge (by omega) (by omega)), show (12 : Int32) = nI 12 from rfl, pk_mul, pk_mul, nI_add, nI_add, show x * 12 + k = 12 * x + k by omega, show y * 12 + k = 12 * y + k by omega, gd_t (inb_n (show 12 * x + k < ln 26 by show 12 * x + k < 720; omega) (by decide)), gd_t (inb_n (show 12 * y + k < ln 26 by show 12 * y + k < 720; omega) (by decide)), nI_clamp (by omega), nI_clamp (by omega), (s4 x hx.1.1 hx.1.2.1).1 k (by omega), (s4 y hy.1.1 hy.1.2.1).1 k (by omega), nI_1, gz_0, gz_1]
        have hl := let_sub (x4 x hx.1 k (by omega)) (x4 y hy.1 k (by omega))
        simp only [lx]
        by_cases e : gT X x k = gT X y k
        · rw [if_pos (hl.1.mpr e), if_pos e]
          exact ih (k + 1) r (by omega) (by omega)
        · rw [if_neg (fun h => e (hl.1.mp h)), if_neg e]
          by_cases h9 : gT X x k < gT X y k
          · rw [if_neg (fun h => (hl.2 e).mp h h9), decide_eq_true h9]; rfl
          · rw [if_pos ((hl.2 e).mpr h9), decide_eq_false h9]; rfl
  unfold f_X1_comesBefore b_X1_comesBefore_35
  rw [gd_t (inb_n (show x < ln 29 by show x < 60; omega) (by decide)), gd_t (inb_n (show y < ln 29 by show y < 60; omega) (by decide)), gd_t (inb_n (show x < ln 29 by show x < 60; omega) (by decide)), gd_t (inb_n (show y < ln 29 by show y < 60; omega) (by decide)), nI_clamp (by omega), nI_clamp (by omega), s5 x hx60, s5 y hy60, gz_0, gz_1]
  simp only [bf]
  rw [hx.2, hy.2]
  by_cases e : cn X x = cn X y
  · rw [if_pos (by rw [e]), e, decide_eq_true rfl, decide_eq_false (Nat.lt_irrefl _), Bool.true_and, Bool.false_or]
    exact key FU 0 (gU X) (by omega) (by simp only [FU]; omega)
  · rw [if_neg (fun h => e ((nI_eq (by omega) (by omega)).mp h)), decide_eq_false e, Bool.false_and, Bool.or_false]
    by_cases h9 : cn X y < cn X x
    · rw [if_neg (nI_ge h9 (by omega)), decide_eq_true h9]; rfl
    · rw [if_pos (nI_le (by omega) (by omega)), decide_eq_false h9]; rfl
theorem greatestOpen_e (hX : GX X) (hS : GS X τ) (hC : CG X τ g h) (hw : gw X = true) : f_X1_greatestOpen (nI (gV X)) τ = some (sdf X g 60, τ) := by
  have key : ∀ (fu k : Nat), k ≤ 60 → 60 < fu + k → l_X1_greatestOpen_4 fu (nI (gV X)) (sdf X g k) (nI k) τ = some (sdf X g 60, τ) := by
    intro fu
    induction fu with
    | zero => intro k h1 h2; omega
    | succ fu ih =>
      intro k h1 h2
      show b_X1_greatestOpen_4 (l_X1_greatestOpen_4 fu) (nI (gV X)) (sdf X g k) (nI k) τ = _
      unfold b_X1_greatestOpen_4 b_X1_greatestOpen_33 b_X1_greatestOpen_35
      rw [show (60 : Int32) = nI 60 from rfl]
      by_cases e : k = 60
      · subst e
        rw [if_pos (nI_le (Nat.le_refl _) (by omega))]
      · have hd := ih (k + 1) (by omega) (by omega)
        have hs : sdf X g (k + 1) = (if Rp X k ∧ g k = -1 then (if sdf X g k = -1 then nI k else if gw X = true ∧ bf X k (sdf X g k).toNatClampNeg = true then nI k else sdf X g k) else sdf X g k) := rfl
        simp only [nx_e]
        rw [if_neg (nI_ge (by omega) (by omega)), isOpen_e hX hS hC (by omega), bd_s, nI_1]
        by_cases ho : Rp X k ∧ g k = -1
        · rw [if_pos ho] at hs
          rw [decide_eq_true ho, if_neg (by decide)]
          by_cases h1 : sdf X g k = -1
          · rw [if_pos h1] at hs
            rw [hs] at hd
            rw [if_pos h1]
            exact hd
          · obtain ⟨s0, a1, a2, a3, a4⟩ := (sdf_v (X := X) (g := g) k).resolve_left h1
            rw [if_neg h1] at hs
            rw [a4, nI_clamp (by omega)] at hs
            rw [if_neg h1, a4, comesBefore_e hX hS ho.1 a2, bd_s]
            cases hb : bf X k s0
            · rw [hb, if_neg (fun h => by cases h.2)] at hs
              rw [hs] at hd
              rw [if_pos (by decide)]
              exact hd
            · rw [hb, if_pos ⟨hw, rfl⟩] at hs
              rw [hs] at hd
              rw [if_neg (by decide)]
              exact hd
        · rw [if_neg ho] at hs
          rw [hs] at hd
          rw [decide_eq_false ho, if_pos (by decide)]
          exact hd
  exact key FU 0 (by omega) (by simp only [FU]; omega)
/-- r1 draws r2 -/
abbrev dr (X : Gx) (r1 r2 : Nat) : Prop := gD X r1 r2 = 1 ∧ (gw X = false ∨ 2 * cn X r2 ≤ cn X r1 + 1)
theorem draws_e {x y : Nat} (hX : GX X) (hS : GS X τ) (hx : Rp X x) (hy : Rp X y) : f_X1_draws (nI x) (nI y) τ = some (bI (decide (dr X x y)), τ) := by
  obtain ⟨x1, x2, x3, x4⟩ := hX
  obtain ⟨s1, s2, s3, s4, s5⟩ := hS
  have hx60 : x < 60 := by have := hx.1.1; omega
  have hy60 : y < 60 := by have := hy.1.1; omega
  have c1 := cn_le (X := X) (r := x)
  have c2 := cn_le (X := X) (r := y)
  have c3 := cn_pos hy.1
  rw [hy.2] at c3
  have hd : ds (fun k => τ.2.1 26 (12 * x + k)) (fun k => τ.2.1 26 (12 * y + k)) (gU X) = gD X x y := ds_cg _ ((s4 x hx.1.1 hx.1.2.1).1) ((s4 y hy.1.1 hy.1.2.1).1)
  have hdl : gD X x y ≤ gU X := ds_le _
  unfold f_X1_draws b_X1_draws_36 b_X1_draws_40 b_X1_draws_41
  rw [xdist_e hx60 hy60 x2 s1, bd_s, hd, s2, gd_t (inb_n (show x < ln 29 by show x < 60; omega) (by decide)), gd_t (inb_n (show y < ln 29 by show y < 60; omega) (by decide)), nI_clamp (by omega), nI_clamp (by omega), s5 x hx60, s5 y hy60, gz_0, gz_1, show (2 : Int32) = nI 2 from rfl, pk_mul]
  obtain ⟨q, hq⟩ : ∃ q, 2 * cn X y = q + 1 := ⟨2 * cn X y - 1, by omega⟩
  have e2 : nI (2 * cn X y) - 1 = nI q := by rw [hq, nI_pred]
  rw [e2]
  by_cases h1 : gD X x y = 1
  · rw [if_pos (show nI (gD X x y) = (1 : Int32) by rw [h1]; rfl)]
    by_cases hw : gw X = false
    · rw [if_pos (bI_0.mpr hw), decide_eq_true ⟨h1, Or.inl hw⟩]; rfl
    · rw [if_neg (fun h => hw (bI_0.mp h))]
      by_cases h2 : cn X x < q
      · rw [if_pos (nI_lt h2 (by omega)), decide_eq_false (fun h => h.2.elim hw (fun h3 => by omega))]; rfl
      · rw [if_neg (nI_nlt (by omega) (by omega)), decide_eq_true ⟨h1, Or.inr (by omega)⟩]; rfl
  · rw [if_neg (show ¬ nI (gD X x y) = (1 : Int32) from fun h => h1 ((nI_eq (b := 1) (by omega) (by decide)).mp h)), decide_eq_false (fun h => h1 h.1)]; rfl
end CG
