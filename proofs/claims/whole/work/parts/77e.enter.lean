section EN
/-- the first of the first k that has p, or k -/
def ft (p : Nat → Bool) : Nat → Nat
  | 0 => 0
  | k + 1 => if ft p k < k then ft p k else if p k = true then k else k + 1
theorem ft_le {p : Nat → Bool} : ∀ k, ft p k ≤ k := by
  intro k
  induction k with
  | zero => exact Nat.le_refl _
  | succ k ih => simp only [ft]; split <;> (try split) <;> omega
theorem ft_no {p : Nat → Bool} : ∀ k j, j < ft p k → p j = false := by
  intro k
  induction k with
  | zero => intro j hj; exact absurd hj (Nat.not_lt_zero j)
  | succ k ih =>
    intro j hj
    have hl := ft_le (p := p) k
    simp only [ft] at hj
    split at hj
    · exact ih j hj
    · rename_i h1
      split at hj
      · exact ih j (by omega)
      · rename_i h2
        by_cases e : j = k
        · subst e
          cases h : p j
          · rfl
          · exact absurd h h2
        · exact ih j (by omega)
theorem ft_yes {p : Nat → Bool} : ∀ k, ft p k < k → p (ft p k) = true := by
  intro k
  induction k with
  | zero => intro h; omega
  | succ k ih =>
    intro h
    simp only [ft] at h ⊢
    split
    · rename_i h1
      exact ih h1
    · rename_i h1
      rw [if_neg h1] at h
      split
      · rename_i h2; exact h2
      · rename_i h2
        rw [if_neg h2] at h
        omega
theorem ft_eq {p : Nat → Bool} {k j : Nat} (h1 : ∀ q, q < j → p q = false) (h2 : j ≤ k) (h3 : j = k ∨ p j = true) : ft p k = j := by
  have hl := ft_le (p := p) k
  rcases Nat.lt_trichotomy (ft p k) j with h | h | h
  · have := ft_yes (p := p) k (by omega)
    rw [h1 _ h] at this
    cases this
  · exact h
  · have := ft_no k j h
    rcases h3 with e | e
    · omega
    · rw [this] at e; cases e
/-- j is counted, of i's bin and has i's tag -/
def alk (bn : Nat → Int32) (sh : Nat → Bool) (lt : Nat → Nat → Int32) (W u i j : Nat) : Bool := decide (ctd bn sh j) && decide (bn j = bn i) && decide (ds (fun k => lt j (W + k)) (fun k => lt i (W + k)) u = 0)
def rpf (bn : Nat → Int32) (sh : Nat → Bool) (lt : Nat → Nat → Int32) (W u i : Nat) : Nat := ft (alk bn sh lt W u i) i
/-- the class's grouping, where k reads have entered -/
def GF (τ : St) (k u W : Nat) (w : Bool) (bn : Nat → Int32) (sh : Nat → Bool) (lt : Nat → Nat → Int32) : Prop := τ.1 25 7 = nI u ∧ τ.1 25 8 = bI w ∧ (∀ i, i < 60 → τ.2.1 27 i = (if i < k ∧ ctd bn sh i then bn i else -1)) ∧ (∀ i, i < k → ctd bn sh i → (∀ j, j < u → τ.2.1 26 (12 * i + j) = lt i (W + j)) ∧ τ.2.1 28 i = nI (rpf bn sh lt W u i)) ∧ (∀ i, i < 60 → τ.2.1 29 i = nI (cnt (fun j => decide (ctd bn sh j) && decide (rpf bn sh lt W u j = i)) k)) ∧ (∀ i, i < 60 → τ.2.1 30 i = -1) ∧ (∀ q, q < 16 → τ.2.1 32 q = 0)
variable {n m k u W : Nat} {w : Bool} {bn : Nat → Int32} {sh : Nat → Bool} {st ns lc : Nat → Nat} {nm lt ql : Nat → Nat → Int32} {b : Bool}
theorem res_68 : ∀ (fu q : Nat) (τ : St), q ≤ 16 → 16 < fu + q → (∀ i, i < q → τ.2.1 32 i = 0) → ∃ τ', l_X1_restart_68 fu (nI q) τ = some (0, τ') ∧ FrG τ τ' [] [] [32] ∧ ∀ i, i < 16 → τ'.2.1 32 i = 0 := by
  intro fu
  induction fu with
  | zero => intro q τ h1 h2; omega
  | succ fu ih =>
    intro q τ h1 h2 h
    show ∃ τ', b_X1_restart_68 (l_X1_restart_68 fu) (nI q) τ = some (0, τ') ∧ _
    unfold b_X1_restart_68
    rw [show (16 : Int32) = nI 16 from rfl]
    by_cases e : q = 16
    · subst e
      rw [if_pos (nI_le (Nat.le_refl _) (by omega))]
      exact ⟨τ, rfl, FrG.rf, h⟩
    · rw [if_neg (nI_ge (by omega) (by omega)), gd_t (inb_n (show q < ln 32 by show q < 16; omega) (by decide)), nx_e, nI_1, nx_e]
      obtain ⟨τ', g1, g2, g3⟩ := ih (q + 1) (sA τ 32 (nI q) 0) (by omega) (by omega) (fun i hi => by
        rw [sA_s (by omega)]
        by_cases e : i = q
        · subst e; rw [upd_s]
        · rw [upd_n e]; exact h i (by omega))
      exact ⟨τ', g1, (FrG.sA.mono rfl).tr g2, g3⟩
theorem res_26 : ∀ (fu q : Nat) (τ : St), q ≤ 60 → 60 < fu + q → (∀ i, i < q → τ.2.1 27 i = -1 ∧ τ.2.1 28 i = -1 ∧ τ.2.1 29 i = 0 ∧ τ.2.1 30 i = -1) → ∃ τ', l_X1_restart_26 fu (nI q) τ = some (0, τ') ∧ FrG τ τ' [] [] [27, 28, 29, 30, 32] ∧ (∀ i, i < 60 → τ'.2.1 27 i = -1 ∧ τ'.2.1 28 i = -1 ∧ τ'.2.1 29 i = 0 ∧ τ'.2.1 30 i = -1) ∧ ∀ i, i < 16 → τ'.2.1 32 i = 0 := by
  intro fu
  induction fu with
  | zero => intro q τ h1 h2; omega
  | succ fu ih =>
    intro q τ h1 h2 h
    show ∃ τ', b_X1_restart_26 (l_X1_restart_26 fu) (nI q) τ = some (0, τ') ∧ _
    unfold b_X1_restart_26
    rw [show (60 : Int32) = nI 60 from rfl]
    by_cases e : q = 60
    · subst e
      rw [if_pos (nI_le (Nat.le_refl _) (by omega))]
      obtain ⟨τ', g1, g2, g3⟩ := res_68 FU 0 τ (by omega) (by simp only [FU]; omega) (fun i hi => by omega)
      refine ⟨τ', g1, g2.mono rfl, fun i hi => ?_, g3⟩
      rw [g2.2.2.1 27 (by decide), g2.2.2.1 28 (by decide), g2.2.2.1 29 (by decide), g2.2.2.1 30 (by decide)]
      exact h i hi
    · simp only [nx_e]
      rw [if_neg (nI_ge (by omega) (by omega)), gd_t (inb_n (show q < ln 27 by show q < 60; omega) (by decide)), gd_t (inb_n (show q < ln 28 by show q < 60; omega) (by decide)), gd_t (inb_n (show q < ln 29 by show q < 60; omega) (by decide)), gd_t (inb_n (show q < ln 30 by show q < 60; omega) (by decide)), nI_1]
      have f1 : FrG τ (sA (sA (sA (sA τ 27 (nI q) (-1)) 28 (nI q) (-1)) 29 (nI q) 0) 30 (nI q) (-1)) [] [] [27, 28, 29, 30, 32] := (((FrG.sA.mono rfl).tr (FrG.sA.mono rfl)).tr (FrG.sA.mono rfl)).tr (FrG.sA.mono rfl)
      obtain ⟨τ', g1, g2, g3, g4⟩ := ih (q + 1) (sA (sA (sA (sA τ 27 (nI q) (-1)) 28 (nI q) (-1)) 29 (nI q) 0) 30 (nI q) (-1)) (by omega) (by omega) (fun i hi => by
        rw [sA_s (q := 30) (by omega), sA_q (p := 27) (q := 30) (by decide), sA_q (p := 27) (q := 29) (by decide), sA_q (p := 27) (q := 28) (by decide), sA_s (q := 27) (by omega), sA_q (p := 28) (q := 30) (by decide), sA_q (p := 28) (q := 29) (by decide), sA_s (q := 28) (by omega), sA_q (p := 28) (q := 27) (by decide), sA_q (p := 29) (q := 30) (by decide), sA_s (q := 29) (by omega), sA_q (p := 29) (q := 28) (by decide), sA_q (p := 29) (q := 27) (by decide), sA_q (p := 30) (q := 29) (by decide), sA_q (p := 30) (q := 28) (by decide), sA_q (p := 30) (q := 27) (by decide)]
        by_cases e : i = q
        · subst e; rw [upd_s, upd_s, upd_s, upd_s]; exact ⟨rfl, rfl, rfl, rfl⟩
        · rw [upd_n e, upd_n e, upd_n e, upd_n e]; exact h i (by omega))
      exact ⟨τ', g1, f1.tr g2, g3, g4⟩
theorem restart_g {τ : St} (hu : u ≤ 12) : ∃ τ', f_X1_restart (nI u) (bI w) τ = some (0, τ') ∧ FrG τ τ' [25] [] [27, 28, 29, 30, 32] ∧ GF τ' 0 u W w bn sh lt := by
  have key : ∀ v : Bool, v = w → ∃ τ', b_X1_restart_21 (bI v) (sS τ 25 7 (nI u)) = some (0, τ') ∧ FrG τ τ' [25] [] [27, 28, 29, 30, 32] ∧ GF τ' 0 u W w bn sh lt := by
    intro v hv
    subst hv
    unfold b_X1_restart_21
    rw [gz_b, nx_e]
    have f1 : FrG τ (sS (sS τ 25 7 (nI u)) 25 8 (bI v)) [25] [] [27, 28, 29, 30, 32] := ((frg_oS (by decide)).mono rfl).tr ((frg_oS (by decide)).mono rfl)
    obtain ⟨τ', g1, g2, g3, g4⟩ := res_26 FU 0 (sS (sS τ 25 7 (nI u)) 25 8 (bI v)) (by omega) (by simp only [FU]; omega) (fun i hi => by omega)
    refine ⟨τ', g1, f1.tr (g2.mono rfl), by rw [g2.1 25 (by decide) (by decide), sS_j (by decide), sS_s], by rw [g2.1 25 (by decide) (by decide), sS_s], fun i hi => ?_, fun i hi => by omega, fun i hi => (g3 i hi).2.2.1, fun i hi => (g3 i hi).2.2.2, g4⟩
    rw [(g3 i hi).1, if_neg (by omega)]
  unfold f_X1_restart
  rw [nx_e, show (if (12 : Int32) < nI u then (12 : Int32) else nI u) = nI u from if_neg (show ¬ (12 : Int32) < nI u from nI_nlt (a := 12) hu (by decide))]
  cases w
  · rw [if_neg (by decide)]; exact key false rfl
  · rw [if_pos (by decide)]; exact key true rfl
/-- the class's distance of two tags -/
theorem xdist_e {τ : St} {i j : Nat} (hi : i < 60) (hj : j < 60) (hu : u ≤ 12) (h7 : τ.1 25 7 = nI u) : f_X1_distance (nI i) (nI j) τ = some (nI (ds (fun k => τ.2.1 26 (12 * i + k)) (fun k => τ.2.1 26 (12 * j + k)) u), τ) := by
  have key : ∀ (fu k : Nat), k ≤ u → u < fu + k → l_X1_distance_5 fu (nI i) (nI j) (nI (ds (fun k => τ.2.1 26 (12 * i + k)) (fun k => τ.2.1 26 (12 * j + k)) k)) (nI k) τ = some (nI (ds (fun k => τ.2.1 26 (12 * i + k)) (fun k => τ.2.1 26 (12 * j + k)) u), τ) := by
    intro fu
    induction fu with
    | zero => intro k h1 h2; omega
    | succ fu ih =>
      intro k h1 h2
      show b_X1_distance_5 (l_X1_distance_5 fu) (nI i) (nI j) (nI (ds (fun k => τ.2.1 26 (12 * i + k)) (fun k => τ.2.1 26 (12 * j + k)) k)) (nI k) τ = _
      unfold b_X1_distance_5 b_X1_distance_44
      rw [h7]
      by_cases e : k = u
      · subst e
        rw [if_pos (nI_le (Nat.le_refl _) (by omega))]
      · have hd := ih (k + 1) (by omega) (by omega)
        simp only [nx_e]
        rw [if_neg (nI_ge (by omega) (by omega)), show (12 : Int32) = nI 12 from rfl, pk_mul, pk_mul, nI_add, nI_add, show i * 12 + k = 12 * i + k by omega, show j * 12 + k = 12 * j + k by omega, gd_t (inb_n (show 12 * i + k < ln 26 by show 12 * i + k < 720; omega) (by decide)), gd_t (inb_n (show 12 * j + k < ln 26 by show 12 * j + k < 720; omega) (by decide)), nI_clamp (by omega), nI_clamp (by omega)]
        by_cases e2 : τ.2.1 26 (12 * i + k) = τ.2.1 26 (12 * j + k)
        · have hs : ds (fun k => τ.2.1 26 (12 * i + k)) (fun k => τ.2.1 26 (12 * j + k)) (k + 1) = ds (fun k => τ.2.1 26 (12 * i + k)) (fun k => τ.2.1 26 (12 * j + k)) k := by simp only [ds]; rw [if_pos e2]; rfl
          rw [hs] at hd
          rw [if_pos e2, nI_1]
          exact hd
        · have hs : ds (fun k => τ.2.1 26 (12 * i + k)) (fun k => τ.2.1 26 (12 * j + k)) (k + 1) = ds (fun k => τ.2.1 26 (12 * i + k)) (fun k => τ.2.1 26 (12 * j + k)) k + 1 := by simp only [ds]; rw [if_neg e2]
          rw [hs] at hd
          rw [if_neg e2, nI_1, nI_1]
          exact hd
  exact key FU 0 (by omega) (by simp only [FU]; omega)
theorem alike_e {τ : St} {i : Nat} (hi : i < 60) (hu : u ≤ 12) (h7 : τ.1 25 7 = nI u) (hc : ctd bn sh i) (h27 : ∀ j, j ≤ i → τ.2.1 27 j = (if ctd bn sh j then bn j else -1)) (h26 : ∀ q, q ≤ i → ctd bn sh q → ∀ j, j < u → τ.2.1 26 (12 * q + j) = lt q (W + j)) : f_X1_firstAlike (nI i) τ = some (nI (rpf bn sh lt W u i), τ) := by
  have key : ∀ (fu j : Nat), j ≤ i → i < fu + j → (∀ q, q < j → alk bn sh lt W u i q = false) → l_X1_firstAlike_2 fu (nI i) (nI j) τ = some (nI (rpf bn sh lt W u i), τ) := by
    intro fu
    induction fu with
    | zero => intro j h1 h2; omega
    | succ fu ih =>
      intro j h1 h2 hno
      show b_X1_firstAlike_2 (l_X1_firstAlike_2 fu) (nI i) (nI j) τ = _
      unfold b_X1_firstAlike_2 b_X1_firstAlike_33
      by_cases e : j = i
      · subst e
        rw [if_pos (nI_le (Nat.le_refl _) (by omega)), rpf, ft_eq hno (Nat.le_refl _) (Or.inl rfl)]
      · have hnext : alk bn sh lt W u i j = false → l_X1_firstAlike_2 fu (nI i) (nI (j + 1)) τ = some (nI (rpf bn sh lt W u i), τ) := fun h => ih (j + 1) (by omega) (by omega) (fun q hq => by
          by_cases e : q = j
          · subst e; exact h
          · exact hno q (by omega))
        simp only [nx_e]
        rw [if_neg (nI_ge (by omega) (by omega)), gd_t (inb_n (show j < ln 27 by show j < 60; omega) (by decide)), gd_t (inb_n (show i < ln 27 by show i < 60; omega) (by decide)), nI_clamp (by omega), nI_clamp (by omega), h27 j (by omega), h27 i (by omega), if_pos hc, xdist_e (by omega) hi hu h7, bd_s, nI_1]
        by_cases hcj : ctd bn sh j
        · rw [if_pos hcj]
          by_cases hb : bn j = bn i
          · have hd : ds (fun k => τ.2.1 26 (12 * j + k)) (fun k => τ.2.1 26 (12 * i + k)) u = ds (fun k => lt j (W + k)) (fun k => lt i (W + k)) u := ds_cg u (h26 j (by omega) hcj) (h26 i (by omega) hc)
            rw [if_pos hb, hd]
            by_cases e0 : ds (fun k => lt j (W + k)) (fun k => lt i (W + k)) u = 0
            · rw [if_pos (by rw [e0]; rfl), rpf, ft_eq hno h1 (Or.inr (by simp only [alk]; rw [decide_eq_true hcj, decide_eq_true hb, decide_eq_true e0]; rfl))]
            · have := ds_le (f := fun k => lt j (W + k)) (g := fun k => lt i (W + k)) u
              rw [if_neg (nI_ne0 (by omega) (by omega))]
              exact hnext (by simp only [alk]; rw [decide_eq_false e0, Bool.and_false])
          · rw [if_neg hb]
            exact hnext (by simp only [alk]; rw [decide_eq_false hb, Bool.and_false, Bool.false_and])
        · rw [if_neg hcj, if_neg (fun h => hc.1 h.symm)]
          exact hnext (by simp only [alk]; rw [decide_eq_false hcj, Bool.false_and, Bool.false_and])
  exact key FU 0 (by omega) (by simp only [FU]; omega) (fun q hq => by omega)
theorem enter_g {τ : St} {i : Nat} (hG : GF τ i u W w bn sh lt) (hR : RdC τ b n m st ns lc nm lt) (hi : i < n) (hu : u ≤ 12) (hc : ctd bn sh i) (hlc : W + u ≤ lc i) (hW : W ≤ 12) : ∃ τ', f_X1_enter b (nI i) (bn i) (nI W) τ = some (0, τ') ∧ FrG τ τ' [] [] [26, 27, 28, 29] ∧ GF τ' (i + 1) u W w bn sh lt := by
  have hn := hR.2.1
  obtain ⟨g1, g2, g3, g4, g5, g6, g7⟩ := hG
  have key : ∀ (fu j : Nat) (υ : St), j ≤ u → u < fu + j → FrG τ υ [] [] [26] → (∀ q, q < 12 * i → υ.2.1 26 q = τ.2.1 26 q) → (∀ q, q < j → υ.2.1 26 (12 * i + q) = lt i (W + q)) → ∃ τ', l_X1_enter_11 b fu (nI i) (bn i) (nI W) (nI j) υ = some (0, τ') ∧ FrG τ τ' [] [] [26, 27, 28, 29] ∧ GF τ' (i + 1) u W w bn sh lt := by
    intro fu
    induction fu with
    | zero => intro j υ h1 h2; omega
    | succ fu ih =>
      intro j υ h1 h2 hf hlo hhi
      show ∃ τ', b_X1_enter_11 b (l_X1_enter_11 b fu) (nI i) (bn i) (nI W) (nI j) υ = some (0, τ') ∧ _
      unfold b_X1_enter_11
      have h7 : υ.1 25 7 = nI u := by rw [hf.1 25 (by simp) (by decide)]; exact g1
      rw [h7]
      by_cases e : j = u
      · subst e
        rw [if_pos (nI_le (Nat.le_refl _) (by omega)), gd_t (inb_n (show i < ln 27 by show i < 60; omega) (by decide)), nx_e]
        have h26 : ∀ q, q ≤ i → ctd bn sh q → ∀ k, k < j → (sA υ 27 (nI i) (bn i)).2.1 26 (12 * q + k) = lt q (W + k) := by
          intro q hq hcq k hk
          rw [sA_q (by decide)]
          by_cases e : q = i
          · subst e; exact hhi k hk
          · rw [hlo _ (by omega)]; exact (g4 q (by omega) hcq).1 k hk
        have h27 : ∀ q, q < 60 → (sA υ 27 (nI i) (bn i)).2.1 27 q = (if q < i + 1 ∧ ctd bn sh q then bn q else -1) := by
          intro q hq
          rw [sA_s (by omega)]
          by_cases e : q = i
          · subst e; rw [upd_s, if_pos ⟨by omega, hc⟩]
          · rw [upd_n e, hf.2.2.1 27 (by decide), g3 q hq]
            by_cases h9 : q < i ∧ ctd bn sh q
            · rw [if_pos h9, if_pos ⟨by omega, h9.2⟩]
            · rw [if_neg h9, if_neg (fun h => h9 ⟨by omega, h.2⟩)]
        rw [alike_e (τ := sA υ 27 (nI i) (bn i)) (lt := lt) (W := W) (by omega) hu h7 hc (fun q hq => by
          rw [h27 q (by omega)]
          by_cases h9 : ctd bn sh q
          · rw [if_pos ⟨by omega, h9⟩, if_pos h9]
          · rw [if_neg (fun h => h9 h.2), if_neg h9]) h26, bd_s]
        have hrl : rpf bn sh lt W j i ≤ i := ft_le i
        simp only [nx_e]
        rw [gd_t (inb_n (show i < ln 28 by show i < 60; omega) (by decide)), gd_t (inb_n (show rpf bn sh lt W j i < ln 29 by show _ < 60; omega) (by decide)), gd_t (inb_n (show rpf bn sh lt W j i < ln 29 by show _ < 60; omega) (by decide)), nI_clamp (by omega)]
        have h29 : (sA (sA υ 27 (nI i) (bn i)) 28 (nI i) (nI (rpf bn sh lt W j i))).2.1 29 (rpf bn sh lt W j i) = nI (cnt (fun q => decide (ctd bn sh q) && decide (rpf bn sh lt W j q = rpf bn sh lt W j i)) i) := by
          rw [sA_q (by decide), sA_q (by decide), hf.2.2.1 29 (by decide)]
          exact g5 _ (by omega)
        rw [h29, nI_1]
        refine ⟨_, rfl, (((hf.mono rfl).tr (FrG.sA.mono rfl)).tr (FrG.sA.mono rfl)).tr (FrG.sA.mono rfl), h7, ?_, fun q hq => ?_, fun q hq hcq => ⟨fun k hk => ?_, ?_⟩, fun q hq => ?_, fun q hq => ?_, fun q hq => ?_⟩
        · show υ.1 25 8 = bI w
          rw [hf.1 25 (by simp) (by decide)]; exact g2
        · rw [sA_q (by decide), sA_q (by decide)]
          exact h27 q hq
        · rw [sA_q (by decide), sA_q (by decide)]
          exact h26 q (by omega) hcq k hk
        · rw [sA_q (by decide), sA_s (by omega)]
          by_cases e : q = i
          · subst e; rw [upd_s]
          · rw [upd_n e, sA_q (by decide), hf.2.2.1 28 (by decide)]
            exact (g4 q (by omega) hcq).2
        · rw [sA_s (by omega)]
          have hs : ∀ x, cnt (fun q => decide (ctd bn sh q) && decide (rpf bn sh lt W j q = x)) (i + 1) = cnt (fun q => decide (ctd bn sh q) && decide (rpf bn sh lt W j q = x)) i + (if (decide (ctd bn sh i) && decide (rpf bn sh lt W j i = x)) = true then 1 else 0) := fun x => rfl
          rw [hs q]
          by_cases e : q = rpf bn sh lt W j i
          · subst e
            rw [upd_s, if_pos (by rw [decide_eq_true hc, decide_eq_true rfl]; rfl)]
          · rw [upd_n e, sA_q (by decide), sA_q (by decide), hf.2.2.1 29 (by decide), g5 q hq, if_neg (by rw [decide_eq_false (fun h => e h.symm : ¬ rpf bn sh lt W j i = q), Bool.and_false]; decide)]
            rfl
        · rw [sA_q (by decide), sA_q (by decide), sA_q (by decide), hf.2.2.1 30 (by decide)]
          exact g6 q hq
        · rw [sA_q (by decide), sA_q (by decide), sA_q (by decide), hf.2.2.1 32 (by decide)]
          exact g7 q hq
      · have hRv : RdC υ b n m st ns lc nm lt := by
          unfold RdC at hR ⊢
          have hb0 : bs b ≠ 39 ∧ bs b + 1 ≠ 39 ∧ bs b + 2 ∉ [26] ∧ bs b + 3 ∉ [26] ∧ bs b + 4 ∉ [26] ∧ bs b + 5 ∉ [26] := by cases b <;> decide
          rw [hf.1 (bs b) (by simp) hb0.1, hf.1 (bs b + 1) (by simp) hb0.2.1, hf.2.2.1 _ hb0.2.2.1, hf.2.2.1 _ hb0.2.2.2.1, hf.2.2.1 _ hb0.2.2.2.2.1, hf.2.2.1 _ hb0.2.2.2.2.2]
          exact hR
        rw [if_neg (nI_ge (by omega) (by omega)), nI_add, letterOctet_in hRv hi (by omega : W + j < lc i), bd_s, show (12 : Int32) = nI 12 from rfl, pk_mul, nI_add, show i * 12 + j = 12 * i + j by omega, gd_t (inb_n (show 12 * i + j < ln 26 by show 12 * i + j < 720; omega) (by decide)), nx_e, nI_1, nx_e]
        refine ih (j + 1) (sA υ 26 (nI (12 * i + j)) (lt i (W + j))) (by omega) (by omega) (hf.tr FrG.sA) (fun q hq => ?_) (fun q hq => ?_)
        · rw [sA_s (by omega), upd_n (by omega)]; exact hlo q hq
        · rw [sA_s (by omega)]
          by_cases e : q = j
          · subst e; rw [upd_s]
          · rw [upd_n (by omega)]; exact hhi q (by omega)
  unfold f_X1_enter
  rw [isRead_in (by omega), bd_s, if_neg (by decide)]
  exact key FU 0 τ (by omega) (by simp only [FU]; omega) FrG.rf (fun _ _ => rfl) (fun q hq => by omega)
theorem GF.skip {τ : St} {i : Nat} (hG : GF τ i u W w bn sh lt) (hc : ¬ ctd bn sh i) : GF τ (i + 1) u W w bn sh lt := by
  obtain ⟨g1, g2, g3, g4, g5, g6, g7⟩ := hG
  refine ⟨g1, g2, fun q hq => ?_, fun q hq hcq => ?_, fun q hq => ?_, g6, g7⟩
  · rw [g3 q hq]
    by_cases h9 : q < i ∧ ctd bn sh q
    · rw [if_pos h9, if_pos ⟨by omega, h9.2⟩]
    · rw [if_neg h9, if_neg (fun h => by
        by_cases e : q = i
        · subst e; exact hc h.2
        · exact h9 ⟨by omega, h.2⟩)]
  · by_cases e : q = i
    · subst e; exact absurd hcq hc
    · exact g4 q (by omega) hcq
  · rw [g5 q hq]
    show _ = nI (cnt _ i + (if (decide (ctd bn sh i) && decide (rpf bn sh lt W u i = q)) = true then 1 else 0))
    rw [decide_eq_false hc, Bool.false_and]
    rfl
theorem GF.fr {τ τ' : St} {i : Nat} {ps fs qs : List Nat} (hG : GF τ i u W w bn sh lt) (hf : FrG τ τ' ps fs qs) (hd : offL ps fs qs [25] [] [26, 27, 28, 29, 30, 32] = true) : GF τ' i u W w bn sh lt := by
  obtain ⟨k1, k2, k3⟩ := hf.off hd
  unfold GF
  rw [k1 25 (by decide), k3 26 (by decide), k3 27 (by decide), k3 28 (by decide), k3 29 (by decide), k3 30 (by decide), k3 32 (by decide)]
  exact hG
end EN
