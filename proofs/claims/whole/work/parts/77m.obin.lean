section OB
variable {X : Gx}
/-- how many are open -/
def om (X : Gx) (g : Nat → Int32) : Nat := cnt (fun r => decide (Rp X r ∧ g r = -1)) 60
/-- all numbers so far are in use -/
def gUse (X : Gx) (g : Nat → Int32) (q : Nat) : Prop := ∀ p, p < q → ∃ r, Rp X r ∧ g r = nI p
theorem cnt_ml {p p' : Nat → Bool} {x : Nat} (h0 : p x = true) (h1 : p' x = false) (h2 : ∀ i, p' i = true → p i = true) : ∀ k, cnt p' k + (if x < k then 1 else 0) ≤ cnt p k := by
  intro k
  induction k with
  | zero => exact Nat.le_refl _
  | succ k ih =>
    simp only [cnt]
    by_cases e : x = k
    · subst e
      rw [h0, h1, if_neg (by decide), if_pos rfl, if_pos (by omega)]
      rw [if_neg (Nat.lt_irrefl _)] at ih
      omega
    · have hx : (if x < k + 1 then 1 else 0) = (if x < k then 1 else 0) := by
        by_cases h : x < k
        · rw [if_pos h, if_pos (by omega)]
        · rw [if_neg h, if_neg (by omega)]
      rw [hx]
      by_cases h3 : p' k = true
      · rw [if_pos h3, if_pos (h2 k h3)]; omega
      · rw [if_neg h3, Nat.add_zero]
        exact Nat.le_trans ih (Nat.le_add_right _ _)
theorem ga_a {fu : Nat} {x1 x2 x3 x4 : Int32} {τ : St} (h : 0 ≤ x4) : l_X9_groupAll_5 (fu + 1) x1 x2 x3 x4 τ = l_X9_groupAll_16 (l_X9_groupAll_5 fu) FU x1 x2 x3 (-1) 0 τ := by
  show b_X9_groupAll_5 (l_X9_groupAll_5 fu) x1 x2 x3 x4 τ = _
  unfold b_X9_groupAll_5
  rw [if_neg (Int32.not_lt.mpr h)]
theorem ga_b {fu : Nat} {x1 x2 x3 : Int32} {τ : St} : l_X9_groupAll_5 (fu + 1) x1 x2 x3 (-1) τ = some (0, τ) := by
  show b_X9_groupAll_5 (l_X9_groupAll_5 fu) x1 x2 x3 (-1) τ = _
  unfold b_X9_groupAll_5
  rw [if_pos (by decide)]
/-- the class looks for the seed -/
theorem fg_seed {K : Int32 → Int32 → St → Option Rs} {τ : St} {g h : Nat → Int32} {q : Nat} (hX : GX X) (hS : GS X τ) (hC : CG X τ g h) (hq : q < 60) : b_X1_formGroups_10 K (nI (gV X)) (nI q) τ = b_X1_formGroups_36 K (nI (gV X)) (nI q) (sdf X g 60) τ := by
  unfold b_X1_formGroups_10
  rw [if_neg (show ¬ (60 : Int32) ≤ nI q from nI_ge (b := 60) hq (by decide)), hS.2.1]
  by_cases hw : gw X = false
  · rw [if_pos (bI_0.mpr hw), firstOpen_e hX hS hC hw, bd_s]
  · rw [if_neg (fun h => hw (bI_0.mp h)), greatestOpen_e hX hS hC (by cases h : gw X; exact absurd h hw; rfl), bd_s]
theorem groups_one (hX : GX X) : ∀ (m : Nat) (g : Nat → Int32) (q : Nat), om X g ≤ m → gOk X g q → gUse X g q → q + om X g ≤ 60 → ∃ (gF : Nat → Int32) (qF : Nat), qF ≤ 60 ∧ (∀ r, Rp X r → ∃ p, p < qF ∧ gF r = nI p) ∧ gUse X gF qF ∧ (∀ (τ : St) (fu : Nat) (h : Nat → Int32), GS X τ → CG X τ g h → τ.2.1 32 (gV X) = nI q → 61 < fu + q → ∃ τ', l_X1_formGroups_10 fu (nI (gV X)) (nI q) τ = l_X1_formGroups_75 FU (nI (gV X)) 0 τ' ∧ CG X τ' gF h ∧ τ'.2.1 32 (gV X) = nI qF ∧ (∀ b, b ≠ gV X → τ'.2.1 32 b = τ.2.1 32 b) ∧ FrG τ τ' [] [] [30, 31, 32]) ∧ (∀ (τ : St) (fu : Nat) (h : Nat → Int32) (x4 : Int32), 0 ≤ x4 → MX X τ → MGr X τ g h → m + 2 ≤ fu → ∃ τ', l_X9_groupAll_5 fu (nI (gV X)) (bI (gw X)) (nI q) x4 τ = some (0, τ') ∧ MGr X τ' gF h ∧ FrG τ τ' [] [] [52]) := by
  have hn := hX.1
  have base : ∀ (m : Nat) (g : Nat → Int32) (q : Nat), sdf X g 60 = -1 → gOk X g q → gUse X g q → q + om X g ≤ 60 → ∃ (gF : Nat → Int32) (qF : Nat), qF ≤ 60 ∧ (∀ r, Rp X r → ∃ p, p < qF ∧ gF r = nI p) ∧ gUse X gF qF ∧ (∀ (τ : St) (fu : Nat) (h : Nat → Int32), GS X τ → CG X τ g h → τ.2.1 32 (gV X) = nI q → 61 < fu + q → ∃ τ', l_X1_formGroups_10 fu (nI (gV X)) (nI q) τ = l_X1_formGroups_75 FU (nI (gV X)) 0 τ' ∧ CG X τ' gF h ∧ τ'.2.1 32 (gV X) = nI qF ∧ (∀ b, b ≠ gV X → τ'.2.1 32 b = τ.2.1 32 b) ∧ FrG τ τ' [] [] [30, 31, 32]) ∧ (∀ (τ : St) (fu : Nat) (h : Nat → Int32) (x4 : Int32), 0 ≤ x4 → MX X τ → MGr X τ g h → m + 2 ≤ fu → ∃ τ', l_X9_groupAll_5 fu (nI (gV X)) (bI (gw X)) (nI q) x4 τ = some (0, τ') ∧ MGr X τ' gF h ∧ FrG τ τ' [] [] [52]) := by
    intro m g q hs hok huse hle
    refine ⟨g, q, by omega, fun r hr => ?_, huse, fun τ fu h hS hC h32 hfu => ?_, fun τ fu h x4 h4 hM hG hfu => ?_⟩
    · rcases hok r hr with h9 | h9
      · exact absurd hs (sdf_b hn 60 (Nat.le_refl _) r (by have := hr.1.1; omega) hr h9).1
      · exact h9
    · obtain ⟨fu, rfl⟩ : ∃ f, fu = f + 1 := ⟨fu - 1, by omega⟩
      refine ⟨τ, ?_, hC, h32, fun _ _ => rfl, FrG.rf⟩
      show b_X1_formGroups_10 (l_X1_formGroups_10 fu) (nI (gV X)) (nI q) τ = _
      by_cases e : q = 60
      · subst e
        unfold b_X1_formGroups_10 b_X1_formGroups_73
        rw [if_pos (show (60 : Int32) ≤ nI 60 from nI_le (a := 60) (Nat.le_refl _) (by decide))]
      · rw [fg_seed hX hS hC (by omega), hs]
        unfold b_X1_formGroups_36 b_X1_formGroups_73
        rw [if_pos rfl]
    · obtain ⟨fu, rfl⟩ : ∃ f, fu = f + 2 := ⟨fu - 2, by omega⟩
      refine ⟨τ, ?_, hG, FrG.rf⟩
      have hsd := mseed (K5 := l_X9_groupAll_5 (fu + 1)) hX hok (by omega) hM hG FU 0 (by omega) (by simp only [FU]; omega)
      rw [← sdf_60 hn, hs, if_pos (by decide), ga_b] at hsd
      rw [ga_a h4]
      exact hsd
  intro m
  induction m with
  | zero =>
    intro g q hm hok huse hle
    refine base 0 g q ?_ hok huse hle
    rcases sdf_v (X := X) (g := g) 60 with h9 | ⟨s, s1, s2, s3, s4⟩
    · exact h9
    · have := cnt_pos (p := fun r => decide (Rp X r ∧ g r = -1)) 60 s s1 (decide_eq_true ⟨s2, s3⟩)
      have : om X g ≥ 1 := this
      omega
  | succ m ih =>
    intro g q hm hok huse hle
    rcases sdf_v (X := X) (g := g) 60 with h9 | ⟨s, s1, s2, s3, s4⟩
    · exact base (m + 1) g q h9 hok huse hle
    · have hpos : 1 ≤ om X g := cnt_pos (p := fun r => decide (Rp X r ∧ g r = -1)) 60 s s1 (decide_eq_true ⟨s2, s3⟩)
      obtain ⟨g', hCh⟩ := Chr.ex X g s q
      have hgs : g' s = nI q := by
        rcases hCh s s2 with ⟨-, -, h9⟩ | ⟨h9, -⟩
        · exact h9
        · exact absurd ⟨s3, Rch.rf⟩ h9
      have hom : om X g' + 1 ≤ om X g := by
        have := cnt_ml (p := fun r => decide (Rp X r ∧ g r = -1)) (p' := fun r => decide (Rp X r ∧ g' r = -1)) (x := s) (decide_eq_true ⟨s2, s3⟩) (decide_eq_false (fun h => by rw [hgs] at h; exact nI_m1' (by omega) h.2)) (fun i hi => by
          have hi := of_decide_eq_true hi
          refine decide_eq_true ⟨hi.1, ?_⟩
          rcases hCh i hi.1 with ⟨h9, -, -⟩ | ⟨-, h9⟩
          · exact h9
          · rw [← h9]; exact hi.2) 60
        rw [if_pos s1] at this
        exact this
      have hok' : gOk X g' (q + 1) := fun r hr => by
        rcases hCh r hr with ⟨-, -, h9⟩ | ⟨-, h9⟩
        · exact Or.inr ⟨q, by omega, h9⟩
        · rcases hok r hr with h10 | ⟨p, p1, p2⟩
          · exact Or.inl (h9.trans h10)
          · exact Or.inr ⟨p, by omega, h9.trans p2⟩
      have huse' : gUse X g' (q + 1) := fun p hp => by
        by_cases e : p = q
        · subst e; exact ⟨s, s2, hgs⟩
        · obtain ⟨r, r1, r2⟩ := huse p (by omega)
          refine ⟨r, r1, ?_⟩
          rcases hCh r r1 with ⟨h9, -, -⟩ | ⟨-, h9⟩
          · rw [r2] at h9; exact absurd h9 (nI_m1' (by omega))
          · rw [h9]; exact r2
      have hgq : ∀ r, Rp X r → g r ≠ nI q := fun r hr h9 => by
        rcases hok r hr with h10 | ⟨p, p1, p2⟩
        · rw [h10] at h9; exact nI_m1' (by omega) h9.symm
        · rw [p2] at h9
          have := (nI_eq (by omega) (by omega)).mp h9
          omega
      obtain ⟨gF, qF, k1, k2, k3, k4, k5⟩ := ih g' (q + 1) (by omega) hok' huse' (by omega)
      refine ⟨gF, qF, k1, k2, k3, fun τ fu h hS hC h32 hfu => ?_, fun τ fu h x4 h4 hM hG hfu => ?_⟩
      · obtain ⟨fu, rfl⟩ : ∃ f, fu = f + 1 := ⟨fu - 1, by omega⟩
        have hv := hX.2.2.1
        obtain ⟨τ1, a1, a2, a3⟩ := growGroup_e (h := h) hX (by omega) hgq s2 s3 hCh hS hC
        have f1 : FrG τ (sA τ1 32 (nI (gV X)) (nI (q + 1))) [] [] [30, 31, 32] := (a3.mono rfl).tr (FrG.sA.mono rfl)
        have h32' : τ1.2.1 32 = τ.2.1 32 := (a3.off (show offL [] [] [30, 31] [] [] [32] = true from rfl)).2.2 32 (by decide)
        have t32 : (sA τ1 32 (nI (gV X)) (nI (q + 1))).2.1 32 = upd (τ.2.1 32) (gV X) (nI (q + 1)) := by
          rw [sA_s (by omega), h32']
        obtain ⟨τ2, b1, b2, b3, b4, b5⟩ := k4 (sA τ1 32 (nI (gV X)) (nI (q + 1))) fu h (hS.fr f1 rfl) (fun i hi => by rw [sA_q (by decide)]; exact a2 i hi) (by rw [t32, upd_s]) (by omega)
        refine ⟨τ2, ?_, b2, b3, fun b hb => by rw [b4 b hb, t32, upd_n hb], f1.tr b5⟩
        show b_X1_formGroups_10 (l_X1_formGroups_10 fu) (nI (gV X)) (nI q) τ = _
        rw [fg_seed hX hS hC (by omega), s4]
        unfold b_X1_formGroups_36
        simp only [nx_e]
        rw [if_neg (nI_m1' (by omega)), gd_t (inb_n (show gV X < ln 32 by show gV X < 16; omega) (by decide)), nI_clamp (by omega), h32, a1, bd_s, gd_t (inb_n (show gV X < ln 32 by show gV X < 16; omega) (by decide)), gd_t (inb_n (show gV X < ln 32 by show gV X < 16; omega) (by decide)), h32', h32, nI_1]
        exact b1
      · obtain ⟨fu, rfl⟩ : ∃ f, fu = f + 1 := ⟨fu - 1, by omega⟩
        obtain ⟨τ1, a1, a2, a3⟩ := mgrow_e (h := h) hX (by omega) hok s2 s3 hCh hM hG
        obtain ⟨τ2, b1, b2, b3⟩ := k5 τ1 fu h (nI s) (nI_pos' (by omega)) (hM.fr a3 rfl) a2 (by omega)
        refine ⟨τ2, ?_, b2, a3.tr b3⟩
        have hsd := mseed (K5 := l_X9_groupAll_5 fu) hX hok (by omega) hM hG FU 0 (by omega) (by simp only [FU]; omega)
        rw [← sdf_60 hn, s4, if_neg (nI_pos (by omega)), gd_t (inb_n (show s < ln 52 by show s < 60; omega) (by decide)), a1, bd_s] at hsd
        rw [ga_a h4]
        exact hsd.trans b1
theorem isRd_1 {k : Nat} {τ : St} (h : k < 60) : f_X1_isRead (nI k) τ = some (1, τ) := by
  unfold f_X1_isRead b_X1_isRead_15
  rw [if_neg (nI_pos (by omega)), if_neg (show ¬ (60 : Int32) ≤ nI k from nI_ge (b := 60) h (by decide)), gz_1]
/-- each read has its first one's group -/
theorem prop_75 {gF h : Nat → Int32} (hX : GX X) : ∀ (fu k : Nat) (τ : St), k ≤ 60 → 60 < fu + k → GS X τ → (∀ i, i < 60 → τ.2.1 30 i = (if i < k then (if It X i then gF (rp X i) else h i) else (if Rp X i then gF i else h i))) → ∃ τ', l_X1_formGroups_75 fu (nI (gV X)) (nI k) τ = some (0, τ') ∧ (∀ i, i < 60 → τ'.2.1 30 i = (if It X i then gF (rp X i) else h i)) ∧ FrG τ τ' [] [] [30] := by
  intro fu
  induction fu with
  | zero => intro k τ h1 h2; omega
  | succ fu ih =>
    intro k τ h1 h2 hS h30
    have hS0 := hS
    obtain ⟨s1, s2, s3, s4, s5⟩ := hS
    have hv := hX.2.2.1
    have hn := hX.1
    show ∃ τ', b_X1_formGroups_75 (l_X1_formGroups_75 fu) (nI (gV X)) (nI k) τ = some (0, τ') ∧ _
    unfold b_X1_formGroups_75 b_X1_formGroups_120
    simp only [nx_e]
    rw [show (60 : Int32) = nI 60 from rfl]
    by_cases e : k = 60
    · subst e
      rw [if_pos (nI_le (Nat.le_refl _) (by omega))]
      exact ⟨τ, rfl, fun i hi => by rw [h30 i hi, if_pos hi], FrG.rf⟩
    · have hk : k < 60 := by omega
      rw [if_neg (nI_ge hk (by omega)), gd_t (inb_n (show k < ln 27 by show k < 60; omega) (by decide)), nI_clamp (by omega), s3 k hk, nI_1]
      by_cases hI : It X k
      · have hl : rp X k ≤ k := rp_le
        have h28 := (s4 k hI.1 hI.2.1).2
        rw [show (if k < gN X ∧ ctd (gB X) (gS X) k then gB X k else -1) = gB X k from if_pos ⟨hI.1, hI.2.1⟩, if_pos hI.2.2, gd_t (inb_n (show k < ln 28 by show k < 60; omega) (by decide)), h28, isRd_1 (by omega), bd_s, if_neg (by decide), gd_t (inb_n (show k < ln 28 by show k < 60; omega) (by decide)), h28, gd_t (inb_n (show rp X k < ln 30 by show rp X k < 60; omega) (by decide)), gd_t (inb_n (show k < ln 30 by show k < 60; omega) (by decide)), nI_clamp (by omega)]
        have hval : τ.2.1 30 (rp X k) = gF (rp X k) := by
          rw [h30 _ (by omega)]
          by_cases hlt : rp X k < k
          · rw [if_pos hlt, if_pos (rp_it hI).1, rp_id hI]
          · rw [if_neg hlt, if_pos (rp_Rp hI)]
        rw [hval]
        have f1 : FrG τ (sA τ 30 (nI k) (gF (rp X k))) [] [] [30] := FrG.sA
        obtain ⟨τ', a1, a2, a3⟩ := ih (k + 1) (sA τ 30 (nI k) (gF (rp X k))) (by omega) (by omega) (hS0.fr f1 rfl) (fun i hi => by
          rw [sA_s (by omega)]
          by_cases e2 : i = k
          · subst e2
            rw [upd_s, if_pos (by omega), if_pos hI]
          · rw [upd_n e2, h30 i hi]
            by_cases h9 : i < k
            · rw [if_pos h9, if_pos (show i < k + 1 by omega)]
            · rw [if_neg h9, if_neg (show ¬ i < k + 1 by omega)])
        exact ⟨τ', a1, a2, f1.tr a3⟩
      · have hne : ¬ (if k < gN X ∧ ctd (gB X) (gS X) k then gB X k else -1) = nI (gV X) := by
          by_cases hc : k < gN X ∧ ctd (gB X) (gS X) k
          · rw [if_pos hc]
            exact fun h => hI ⟨hc.1, hc.2, h⟩
          · rw [if_neg hc]
            exact nI_m1 (by omega)
        rw [if_neg hne]
        exact ih (k + 1) τ (by omega) (by omega) hS0 (fun i hi => by
          rw [h30 i hi]
          by_cases e2 : i = k
          · subst e2
            rw [if_neg (Nat.lt_irrefl _), if_pos (show i < i + 1 by omega), if_neg (fun h : Rp X i => hI h.1), if_neg hI]
          · by_cases h9 : i < k
            · rw [if_pos h9, if_pos (show i < k + 1 by omega)]
            · rw [if_neg h9, if_neg (show ¬ i < k + 1 by omega)])
/-- one bin's groups, by both -/
def BO (X : Gx) (gF : Nat → Int32) (qF : Nat) : Prop := qF ≤ 60 ∧ (∀ r, Rp X r → ∃ p, p < qF ∧ gF r = nI p) ∧ gUse X gF qF ∧ (∀ τ : St, GS X τ → (∀ i, It X i → τ.2.1 30 i = -1) → τ.2.1 32 (gV X) = 0 → ∃ τ', f_X1_formGroups (nI (gV X)) τ = some (0, τ') ∧ (∀ i, i < 60 → τ'.2.1 30 i = (if It X i then gF (rp X i) else τ.2.1 30 i)) ∧ τ'.2.1 32 (gV X) = nI qF ∧ (∀ b, b ≠ gV X → τ'.2.1 32 b = τ.2.1 32 b) ∧ FrG τ τ' [] [] [30, 31, 32]) ∧ (∀ τ : St, MX X τ → (∀ i, It X i → τ.2.1 52 i = -1) → ∃ τ', f_X9_groupAll (nI (gV X)) (bI (gw X)) τ = some (0, τ') ∧ (∀ i, i < gN X → τ'.2.1 52 i = (if It X i then gF (rp X i) else τ.2.1 52 i)) ∧ FrG τ τ' [] [] [52])
theorem bin_one (hX : GX X) : ∃ (gF : Nat → Int32) (qF : Nat), BO X gF qF := by
  have hv := hX.2.2.1
  obtain ⟨gF, qF, k1, k2, k3, k4, k5⟩ := groups_one hX 60 (fun _ => -1) 0 (cnt_le 60) (fun _ _ => Or.inl rfl) (fun p hp => absurd hp (Nat.not_lt_zero p)) (by rw [Nat.zero_add]; exact cnt_le 60)
  refine ⟨gF, qF, k1, k2, k3, fun τ hS h30 h32 => ?_, fun τ hM h52 => ?_⟩
  · obtain ⟨τ1, a1, a2, a3, a4, a5⟩ := k4 τ FU (τ.2.1 30) hS (fun i hi => by
      by_cases hr : Rp X i
      · rw [if_pos hr]; exact h30 i hr.1
      · rw [if_neg hr]) h32 (by simp only [FU]; omega)
    obtain ⟨τ2, b1, b2, b3⟩ := prop_75 (gF := gF) (h := τ.2.1 30) hX FU 0 τ1 (by omega) (by simp only [FU]; omega) (hS.fr a5 rfl) (fun i hi => by rw [if_neg (Nat.not_lt_zero i)]; exact a2 i hi)
    have h32' : τ2.2.1 32 = τ1.2.1 32 := (b3.off (show offL [] [] [30] [] [] [32] = true from rfl)).2.2 32 (by decide)
    refine ⟨τ2, ?_, b2, by rw [h32']; exact a3, fun b hb => by rw [h32']; exact a4 b hb, a5.tr (b3.mono rfl)⟩
    unfold f_X1_formGroups f_X1_isBin b_X1_isBin_15
    rw [if_neg (nI_pos (by omega)), if_neg (show ¬ (16 : Int32) ≤ nI (gV X) from nI_ge (b := 16) hv (by decide)), gz_1, bd_s, if_neg (by decide)]
    exact a1.trans b1
  · obtain ⟨τ1, a1, a2, a3⟩ := k5 τ FU (τ.2.1 52) 0 (by decide) hM (fun i hi => by
      by_cases hr : It X i
      · rw [if_pos hr]; exact h52 i hr
      · rw [if_neg hr]) (by simp only [FU]; omega)
    exact ⟨τ1, a1, a2, a3⟩
end OB
