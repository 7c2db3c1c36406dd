section CV
variable {b : Bool} {n m A l1 l2 l3 : Nat} {st ns lc : Nat → Nat} {nm lt ql : Nat → Nat → Int32} {ad : Nat → Int32}
theorem addm1 {k : Nat} : nI k + (-1 : Int32) = nI k - 1 := by rw [Int32.sub_eq_add_neg]
theorem pred_lt {y a : Nat} (h : a < y) (hy : y < 2 ^ 31) : ¬ nI y - 1 < nI a := by
  obtain ⟨y, rfl⟩ : ∃ k, y = k + 1 := ⟨y - 1, by omega⟩
  rw [nI_pred]
  exact nI_nlt (by omega) (by omega)
theorem pred_ge {a : Nat} (ha : a < 2 ^ 31) : nI a - 1 < nI a := by
  cases a with
  | zero => decide
  | succ a => rw [nI_pred]; exact nI_lt (by omega) (by omega)
/-- the class, where its limit is 0: nothing is cut at the end -/
theorem we0 {i a : Nat} (hi : i < n) {τ : St} (H : CH b n m st ns lc nm lt ql A ad l1 0 l3 τ) (h4 : τ.1 16 4 = nI a) (hV : ∀ k, k < lc i → ∃ q : Nat, q ≤ 93 ∧ ql i k = nI q) (h120 : lc i ≤ 120) {z : Int32} : ∀ (y fu : Nat) (s : Int32), a ≤ y → y ≤ lc i → y < fu + a → (s = 0 ∨ s < 0) → l_X6_cutWorstEnd_19 b fu (nI i) s 0 z (nI y - 1) τ = some (0, sS τ 16 5 z) := by
  intro y
  induction y with
  | zero =>
    intro fu s h1 h2 h3 hs
    obtain ⟨fu, rfl⟩ : ∃ f, fu = f + 1 := ⟨fu - 1, by omega⟩
    have : a = 0 := by omega
    subst this
    show b_X6_cutWorstEnd_19 b (l_X6_cutWorstEnd_19 b fu) (nI i) s 0 z (nI 0 - 1) τ = _
    unfold b_X6_cutWorstEnd_19 b_X6_cutWorstEnd_66
    rw [h4, if_pos (pred_ge (by omega)), nx_e]
  | succ y ih =>
    intro fu s h1 h2 h3 hs
    obtain ⟨fu, rfl⟩ : ∃ f, fu = f + 1 := ⟨fu - 1, by omega⟩
    show b_X6_cutWorstEnd_19 b (l_X6_cutWorstEnd_19 b fu) (nI i) s 0 z (nI (y + 1) - 1) τ = _
    unfold b_X6_cutWorstEnd_19 b_X6_cutWorstEnd_66 b_X6_cutWorstEnd_60
    simp only [nx_e]
    rw [h4]
    by_cases e : y + 1 = a
    · rw [e, if_pos (pred_ge (by omega))]
    · rw [if_neg (pred_lt (by omega) (by omega)), nI_pred]
      rcases hs with rfl | hs
      · obtain ⟨q, q1, q2⟩ := hV y (by omega)
        rw [if_neg (by decide), quality_in H.1 H.2.1 hi (by omega : y < lc i), bd_s, H.2.2.2.2.1, q2, addm1]
        have hq : (0 : Int32) + (nI 0 - nI q) ≤ 0 ∧ ((0 : Int32) + (nI 0 - nI q) = 0 ∨ (0 : Int32) + (nI 0 - nI q) < 0) := by
          have : ∀ q : Fin 94, (0 : Int32) + (nI 0 - nI q.1) ≤ 0 ∧ ((0 : Int32) + (nI 0 - nI q.1) = 0 ∨ (0 : Int32) + (nI 0 - nI q.1) < 0) := by decide
          exact this ⟨q, by omega⟩
        rw [if_pos hq.1]
        exact ih fu _ (by omega) (by omega) (by omega) hq.2
      · rw [if_pos hs]
theorem wb0 {i e : Nat} (hi : i < n) {τ : St} (H : CH b n m st ns lc nm lt ql A ad 0 l2 l3 τ) (h5 : τ.1 16 5 = nI e) (hV : ∀ k, k < lc i → ∃ q : Nat, q ≤ 93 ∧ ql i k = nI q) (h120 : lc i ≤ 120) (he : e ≤ lc i) {z : Int32} : ∀ (fu x : Nat) (s : Int32), x ≤ e → e < fu + x → (s = 0 ∨ s < 0) → l_X6_cutWorstBegin_17 b fu (nI i) s 0 z (nI x) τ = some (0, sS τ 16 4 z) := by
  intro fu
  induction fu with
  | zero => intro x s h1 h2; omega
  | succ fu ih =>
    intro x s h1 h2 hs
    show b_X6_cutWorstBegin_17 b (l_X6_cutWorstBegin_17 b fu) (nI i) s 0 z (nI x) τ = _
    unfold b_X6_cutWorstBegin_17 b_X6_cutWorstBegin_66 b_X6_cutWorstBegin_60
    simp only [nx_e]
    rw [h5]
    by_cases e1 : x = e
    · rw [if_pos (nI_le (by omega) (by omega))]
    · rw [if_neg (nI_ge (by omega) (by omega))]
      rcases hs with rfl | hs
      · obtain ⟨q, q1, q2⟩ := hV x (by omega)
        rw [if_neg (by decide), quality_in H.1 H.2.1 hi (by omega : x < lc i), bd_s, H.2.2.2.1, q2, nI_1]
        have hq : (0 : Int32) + (nI 0 - nI q) ≤ 0 ∧ ((0 : Int32) + (nI 0 - nI q) = 0 ∨ (0 : Int32) + (nI 0 - nI q) < 0) := by
          have : ∀ q : Fin 94, (0 : Int32) + (nI 0 - nI q.1) ≤ 0 ∧ ((0 : Int32) + (nI 0 - nI q.1) = 0 ∨ (0 : Int32) + (nI 0 - nI q.1) < 0) := by decide
          exact this ⟨q, by omega⟩
        rw [if_pos hq.1]
        exact ih (x + 1) _ (by omega) (by omega) hq.2
      · rw [if_pos hs]
theorem step_we {i a e : Nat} (hi : i < n) (hn : n ≤ 60) (hl2 : l2 ≤ 93) (hae : a ≤ e) (he : e ≤ lc i) (h120 : lc i ≤ 120) (hV : ∀ k, k < lc i → ∃ q : Nat, q ≤ 93 ∧ ql i k = nI q) : ∃ e', a ≤ e' ∧ e' ≤ e ∧ KC (f_X6_cutWorstEnd b (nI i)) (CH b n m st ns lc nm lt ql A ad l1 l2 l3) a e a e' ∧ (∀ τ : St, MH n ns lc nm lt ql A ad l1 l2 l3 τ → τ.2.1 49 i = nI a → τ.2.1 50 i = nI e → f_X9_cutQualities (nI i) τ = b_X9_cutQualities_95 (nI i) (nI e') τ) := by
  by_cases h0 : l2 = 0
  · subst h0
    refine ⟨e, hae, Nat.le_refl _, fun τ H h4 h5 => ⟨sS τ 16 5 (nI e), ?_, by rw [sS_j (by decide)]; exact h4, sS_s, FrT.s (Or.inr rfl)⟩, fun τ H h4 h5 => ?_⟩
    · unfold f_X6_cutWorstEnd
      rw [nx_e, nx_e, h5]
      exact we0 hi H h4 hV h120 e FU 0 hae he (by simp only [FU]; omega) (Or.inl rfl)
    · unfold f_X9_cutQualities
      rw [gd_t (inb_n (show i < ln 50 by show i < 60; omega) (by decide)), nx_e, gd_t (inb_n (show i < ln 50 by show i < 60; omega) (by decide)), nx_e, nI_clamp (by omega), h5]
      show b_X9_cutQualities_22 (l_X9_cutQualities_22 19999) (nI i) 0 0 (nI e) (nI e - 1) τ = _
      unfold b_X9_cutQualities_22
      rw [gd_t (inb_n (show i < ln 49 by show i < 60; omega) (by decide)), H.2.2.2.2.1, if_pos (by decide : nI 0 ≤ 0)]
      split <;> rfl
  · have key : ∀ (y z : Nat) (s w : Int32), a ≤ y → y ≤ e → a ≤ z → z ≤ e → ∃ e', a ≤ e' ∧ e' ≤ e ∧ (∀ (τ : St) (fu : Nat), CH b n m st ns lc nm lt ql A ad l1 l2 l3 τ → τ.1 16 4 = nI a → y < fu + a → l_X6_cutWorstEnd_19 b fu (nI i) s w (nI z) (nI y - 1) τ = some (0, sS τ 16 5 (nI e'))) ∧ (∀ (τ : St) (fu : Nat), MH n ns lc nm lt ql A ad l1 l2 l3 τ → τ.2.1 49 i = nI a → y < fu + a → l_X9_cutQualities_22 fu (nI i) s w (nI z) (nI y - 1) τ = b_X9_cutQualities_95 (nI i) (nI e') τ) := by
      intro y
      induction y with
      | zero =>
        intro z s w h1 h2 h3 h4
        have : a = 0 := by omega
        subst this
        refine ⟨z, h3, h4, fun τ fu H h4 hfu => ?_, fun τ fu H h4 hfu => ?_⟩
        · obtain ⟨fu, rfl⟩ : ∃ f, fu = f + 1 := ⟨fu - 1, by omega⟩
          show b_X6_cutWorstEnd_19 b (l_X6_cutWorstEnd_19 b fu) (nI i) s w (nI z) (nI 0 - 1) τ = _
          unfold b_X6_cutWorstEnd_19 b_X6_cutWorstEnd_66
          rw [h4, if_pos (pred_ge (by omega)), nx_e]
        · obtain ⟨fu, rfl⟩ : ∃ f, fu = f + 1 := ⟨fu - 1, by omega⟩
          show b_X9_cutQualities_22 (l_X9_cutQualities_22 fu) (nI i) s w (nI z) (nI 0 - 1) τ = _
          unfold b_X9_cutQualities_22
          rw [gd_t (inb_n (show i < ln 49 by show i < 60; omega) (by decide)), nI_clamp (by omega), h4, if_pos (pred_ge (by omega))]
      | succ y ih =>
        intro z s w h1 h2 h3 h4
        by_cases ea : y + 1 = a
        · refine ⟨z, h3, h4, fun τ fu H h4 hfu => ?_, fun τ fu H h4 hfu => ?_⟩
          · obtain ⟨fu, rfl⟩ : ∃ f, fu = f + 1 := ⟨fu - 1, by omega⟩
            show b_X6_cutWorstEnd_19 b (l_X6_cutWorstEnd_19 b fu) (nI i) s w (nI z) (nI (y + 1) - 1) τ = _
            unfold b_X6_cutWorstEnd_19 b_X6_cutWorstEnd_66
            rw [h4, ea, if_pos (pred_ge (by omega)), nx_e]
          · obtain ⟨fu, rfl⟩ : ∃ f, fu = f + 1 := ⟨fu - 1, by omega⟩
            show b_X9_cutQualities_22 (l_X9_cutQualities_22 fu) (nI i) s w (nI z) (nI (y + 1) - 1) τ = _
            unfold b_X9_cutQualities_22
            rw [gd_t (inb_n (show i < ln 49 by show i < 60; omega) (by decide)), nI_clamp (by omega), h4, ea, if_pos (pred_ge (by omega))]
        · by_cases hs : s < 0
          · refine ⟨z, h3, h4, fun τ fu H h4 hfu => ?_, fun τ fu H h4 hfu => ?_⟩
            · obtain ⟨fu, rfl⟩ : ∃ f, fu = f + 1 := ⟨fu - 1, by omega⟩
              show b_X6_cutWorstEnd_19 b (l_X6_cutWorstEnd_19 b fu) (nI i) s w (nI z) (nI (y + 1) - 1) τ = _
              unfold b_X6_cutWorstEnd_19 b_X6_cutWorstEnd_66
              rw [h4, if_neg (pred_lt (by omega) (by omega)), if_pos hs, nx_e]
            · obtain ⟨fu, rfl⟩ : ∃ f, fu = f + 1 := ⟨fu - 1, by omega⟩
              show b_X9_cutQualities_22 (l_X9_cutQualities_22 fu) (nI i) s w (nI z) (nI (y + 1) - 1) τ = _
              unfold b_X9_cutQualities_22
              rw [gd_t (inb_n (show i < ln 49 by show i < 60; omega) (by decide)), nI_clamp (by omega), h4, if_neg (pred_lt (by omega) (by omega)), H.2.2.2.2.1, if_neg (nI_nle (by omega) (by omega)), if_pos hs]
          · have hstep : ∀ (z' : Nat) (w' : Int32), (s + (nI l2 - ql i y) ≤ w ∧ z' = z ∧ w' = w ∨ ¬ s + (nI l2 - ql i y) ≤ w ∧ z' = y ∧ w' = s + (nI l2 - ql i y)) → ∃ e', a ≤ e' ∧ e' ≤ e ∧ (∀ (τ : St) (fu : Nat), CH b n m st ns lc nm lt ql A ad l1 l2 l3 τ → τ.1 16 4 = nI a → y + 1 < fu + a → l_X6_cutWorstEnd_19 b fu (nI i) s w (nI z) (nI (y + 1) - 1) τ = some (0, sS τ 16 5 (nI e'))) ∧ (∀ (τ : St) (fu : Nat), MH n ns lc nm lt ql A ad l1 l2 l3 τ → τ.2.1 49 i = nI a → y + 1 < fu + a → l_X9_cutQualities_22 fu (nI i) s w (nI z) (nI (y + 1) - 1) τ = b_X9_cutQualities_95 (nI i) (nI e') τ) := by
              intro z' w' hc
              obtain ⟨e', q1, q2, q3, q4⟩ := ih z' (s + (nI l2 - ql i y)) w' (by omega) (by omega) (by omega) (by omega)
              refine ⟨e', q1, q2, fun τ fu H h4 hfu => ?_, fun τ fu H h4 hfu => ?_⟩
              · obtain ⟨fu, rfl⟩ : ∃ f, fu = f + 1 := ⟨fu - 1, by omega⟩
                show b_X6_cutWorstEnd_19 b (l_X6_cutWorstEnd_19 b fu) (nI i) s w (nI z) (nI (y + 1) - 1) τ = _
                unfold b_X6_cutWorstEnd_19 b_X6_cutWorstEnd_60
                simp only [nx_e]
                rw [h4, if_neg (pred_lt (by omega) (by omega)), if_neg hs, nI_pred, quality_in H.1 H.2.1 hi (by omega : y < lc i), bd_s, H.2.2.2.2.1, addm1]
                have q5 := q3 τ fu H h4 (by omega)
                rcases hc with ⟨c1, rfl, rfl⟩ | ⟨c1, rfl, rfl⟩
                · rw [if_pos c1]; exact q5
                · rw [if_neg c1]; exact q5
              · obtain ⟨fu, rfl⟩ : ∃ f, fu = f + 1 := ⟨fu - 1, by omega⟩
                show b_X9_cutQualities_22 (l_X9_cutQualities_22 fu) (nI i) s w (nI z) (nI (y + 1) - 1) τ = _
                unfold b_X9_cutQualities_22 b_X9_cutQualities_76 b_X9_cutQualities_88
                simp only [nx_e]
                rw [gd_t (inb_n (show i < ln 49 by show i < 60; omega) (by decide)), nI_clamp (by omega), h4, if_neg (pred_lt (by omega) (by omega)), H.2.2.2.2.1, if_neg (nI_nle (by omega) (by omega)), if_neg hs, nI_pred, show (120 : Int32) = nI 120 from rfl, pk_mul, nI_add, gd_t (inb_n (show 120 * i + y < ln 45 by show 120 * i + y < 14400; omega) (by decide)), nI_clamp (by omega), ((H.1.2 i hi).2.2.2 y (by omega)).2, addm1]
                have q5 := q4 τ fu H h4 (by omega)
                rcases hc with ⟨c1, rfl, rfl⟩ | ⟨c1, rfl, rfl⟩
                · simp only [if_pos c1]; exact q5
                · simp only [if_neg c1]; exact q5
            by_cases c1 : s + (nI l2 - ql i y) ≤ w
            · exact hstep z w (Or.inl ⟨c1, rfl, rfl⟩)
            · exact hstep y _ (Or.inr ⟨c1, rfl, rfl⟩)
    obtain ⟨e', q1, q2, q3, q4⟩ := key e e 0 0 hae (Nat.le_refl _) hae (Nat.le_refl _)
    refine ⟨e', q1, q2, fun τ H h4 h5 => ⟨sS τ 16 5 (nI e'), ?_, by rw [sS_j (by decide)]; exact h4, sS_s, FrT.s (Or.inr rfl)⟩, fun τ H h4 h5 => ?_⟩
    · unfold f_X6_cutWorstEnd
      rw [nx_e, nx_e, h5]
      exact q3 τ FU H h4 (by simp only [FU]; omega)
    · unfold f_X9_cutQualities
      rw [gd_t (inb_n (show i < ln 50 by show i < 60; omega) (by decide)), nx_e, gd_t (inb_n (show i < ln 50 by show i < 60; omega) (by decide)), nx_e, nI_clamp (by omega), h5]
      exact q4 τ FU H h4 (by simp only [FU]; omega)
theorem step_wb {i a e : Nat} (hi : i < n) (hn : n ≤ 60) (hl1 : l1 ≤ 93) (hae : a ≤ e) (he : e ≤ lc i) (h120 : lc i ≤ 120) (hV : ∀ k, k < lc i → ∃ q : Nat, q ≤ 93 ∧ ql i k = nI q) : ∃ a', a ≤ a' ∧ a' ≤ e ∧ KC (f_X6_cutWorstBegin b (nI i)) (CH b n m st ns lc nm lt ql A ad l1 l2 l3) a e a' e ∧ (∀ τ : St, MH n ns lc nm lt ql A ad l1 l2 l3 τ → τ.2.1 49 i = nI a → τ.2.1 50 i = nI e → l_X9_cutQualities_123 FU (nI i) 0 0 (nI a) (nI a) τ = some (0, sA τ 49 (nI i) (nI a'))) := by
  by_cases h0 : l1 = 0
  · subst h0
    refine ⟨a, Nat.le_refl _, hae, fun τ H h4 h5 => ⟨sS τ 16 4 (nI a), ?_, sS_s, by rw [sS_j (by decide)]; exact h5, FrT.s (Or.inl rfl)⟩, fun τ H h4 h5 => ?_⟩
    · unfold f_X6_cutWorstBegin
      rw [nx_e, nx_e, h4]
      exact wb0 hi H h5 hV h120 he FU a 0 hae (by simp only [FU]; omega) (Or.inl rfl)
    · show b_X9_cutQualities_123 (l_X9_cutQualities_123 19999) (nI i) 0 0 (nI a) (nI a) τ = _
      unfold b_X9_cutQualities_123 b_X9_cutQualities_198
      rw [gd_t (inb_n (show i < ln 50 by show i < 60; omega) (by decide)), H.2.2.2.1, if_pos (by decide : nI 0 ≤ 0), gd_t (inb_n (show i < ln 49 by show i < 60; omega) (by decide)), nx_e]
      split <;> rfl
  · have key : ∀ (d x z : Nat) (s w : Int32), e < x + d → x ≤ e → a ≤ x → a ≤ z → z ≤ e → ∃ a', a ≤ a' ∧ a' ≤ e ∧ (∀ (τ : St) (fu : Nat), CH b n m st ns lc nm lt ql A ad l1 l2 l3 τ → τ.1 16 5 = nI e → e < fu + x → l_X6_cutWorstBegin_17 b fu (nI i) s w (nI z) (nI x) τ = some (0, sS τ 16 4 (nI a'))) ∧ (∀ (τ : St) (fu : Nat), MH n ns lc nm lt ql A ad l1 l2 l3 τ → τ.2.1 50 i = nI e → e < fu + x → l_X9_cutQualities_123 fu (nI i) s w (nI z) (nI x) τ = some (0, sA τ 49 (nI i) (nI a'))) := by
      intro d
      induction d with
      | zero => intro x z s w h1 h2; omega
      | succ d ih =>
        intro x z s w h1 h2 h2' h3 h4
        by_cases ea : x = e
        · refine ⟨z, h3, h4, fun τ fu H h4 hfu => ?_, fun τ fu H h4 hfu => ?_⟩
          · obtain ⟨fu, rfl⟩ : ∃ f, fu = f + 1 := ⟨fu - 1, by omega⟩
            show b_X6_cutWorstBegin_17 b (l_X6_cutWorstBegin_17 b fu) (nI i) s w (nI z) (nI x) τ = _
            unfold b_X6_cutWorstBegin_17 b_X6_cutWorstBegin_66
            rw [h4, if_pos (nI_le (by omega) (by omega)), nx_e]
          · obtain ⟨fu, rfl⟩ : ∃ f, fu = f + 1 := ⟨fu - 1, by omega⟩
            show b_X9_cutQualities_123 (l_X9_cutQualities_123 fu) (nI i) s w (nI z) (nI x) τ = _
            unfold b_X9_cutQualities_123 b_X9_cutQualities_198
            rw [gd_t (inb_n (show i < ln 50 by show i < 60; omega) (by decide)), nI_clamp (by omega), h4, if_pos (nI_le (by omega) (by omega)), gd_t (inb_n (show i < ln 49 by show i < 60; omega) (by decide)), nx_e]
        · by_cases hs : s < 0
          · refine ⟨z, h3, h4, fun τ fu H h4 hfu => ?_, fun τ fu H h4 hfu => ?_⟩
            · obtain ⟨fu, rfl⟩ : ∃ f, fu = f + 1 := ⟨fu - 1, by omega⟩
              show b_X6_cutWorstBegin_17 b (l_X6_cutWorstBegin_17 b fu) (nI i) s w (nI z) (nI x) τ = _
              unfold b_X6_cutWorstBegin_17 b_X6_cutWorstBegin_66
              rw [h4, if_neg (nI_ge (by omega) (by omega)), if_pos hs, nx_e]
            · obtain ⟨fu, rfl⟩ : ∃ f, fu = f + 1 := ⟨fu - 1, by omega⟩
              show b_X9_cutQualities_123 (l_X9_cutQualities_123 fu) (nI i) s w (nI z) (nI x) τ = _
              unfold b_X9_cutQualities_123 b_X9_cutQualities_198
              rw [gd_t (inb_n (show i < ln 50 by show i < 60; omega) (by decide)), nI_clamp (by omega), h4, if_neg (nI_ge (by omega) (by omega)), H.2.2.2.1, if_neg (nI_nle (by omega) (by omega)), if_pos hs, gd_t (inb_n (show i < ln 49 by show i < 60; omega) (by decide)), nx_e]
          · have hstep : ∀ (z' : Nat) (w' : Int32), (s + (nI l1 - ql i x) ≤ w ∧ z' = z ∧ w' = w ∨ ¬ s + (nI l1 - ql i x) ≤ w ∧ z' = x + 1 ∧ w' = s + (nI l1 - ql i x)) → ∃ a', a ≤ a' ∧ a' ≤ e ∧ (∀ (τ : St) (fu : Nat), CH b n m st ns lc nm lt ql A ad l1 l2 l3 τ → τ.1 16 5 = nI e → e < fu + x → l_X6_cutWorstBegin_17 b fu (nI i) s w (nI z) (nI x) τ = some (0, sS τ 16 4 (nI a'))) ∧ (∀ (τ : St) (fu : Nat), MH n ns lc nm lt ql A ad l1 l2 l3 τ → τ.2.1 50 i = nI e → e < fu + x → l_X9_cutQualities_123 fu (nI i) s w (nI z) (nI x) τ = some (0, sA τ 49 (nI i) (nI a'))) := by
              intro z' w' hc
              obtain ⟨e', q1, q2, q3, q4⟩ := ih (x + 1) z' (s + (nI l1 - ql i x)) w' (by omega) (by omega) (by omega) (by omega) (by omega)
              refine ⟨e', q1, q2, fun τ fu H h4 hfu => ?_, fun τ fu H h4 hfu => ?_⟩
              · obtain ⟨fu, rfl⟩ : ∃ f, fu = f + 1 := ⟨fu - 1, by omega⟩
                show b_X6_cutWorstBegin_17 b (l_X6_cutWorstBegin_17 b fu) (nI i) s w (nI z) (nI x) τ = _
                unfold b_X6_cutWorstBegin_17 b_X6_cutWorstBegin_60
                simp only [nx_e]
                rw [h4, if_neg (nI_ge (by omega) (by omega)), if_neg hs, quality_in H.1 H.2.1 hi (by omega : x < lc i), bd_s, H.2.2.2.1, nI_1]
                have q5 := q3 τ fu H h4 (by omega)
                rcases hc with ⟨c1, rfl, rfl⟩ | ⟨c1, rfl, rfl⟩
                · rw [if_pos c1]; exact q5
                · rw [if_neg c1]; exact q5
              · obtain ⟨fu, rfl⟩ : ∃ f, fu = f + 1 := ⟨fu - 1, by omega⟩
                show b_X9_cutQualities_123 (l_X9_cutQualities_123 fu) (nI i) s w (nI z) (nI x) τ = _
                unfold b_X9_cutQualities_123 b_X9_cutQualities_179 b_X9_cutQualities_191
                simp only [nx_e]
                rw [gd_t (inb_n (show i < ln 50 by show i < 60; omega) (by decide)), nI_clamp (by omega), h4, if_neg (nI_ge (by omega) (by omega)), H.2.2.2.1, if_neg (nI_nle (by omega) (by omega)), if_neg hs, show (120 : Int32) = nI 120 from rfl, pk_mul, nI_add, gd_t (inb_n (show 120 * i + x < ln 45 by show 120 * i + x < 14400; omega) (by decide)), nI_clamp (by omega), ((H.1.2 i hi).2.2.2 x (by omega)).2, nI_1]
                have q5 := q4 τ fu H h4 (by omega)
                rcases hc with ⟨c1, rfl, rfl⟩ | ⟨c1, rfl, rfl⟩
                · simp only [if_pos c1]; exact q5
                · simp only [if_neg c1]; exact q5
            by_cases c1 : s + (nI l1 - ql i x) ≤ w
            · exact hstep z w (Or.inl ⟨c1, rfl, rfl⟩)
            · exact hstep (x + 1) _ (Or.inr ⟨c1, rfl, rfl⟩)
    obtain ⟨a', q1, q2, q3, q4⟩ := key (e + 1 - a) a a 0 0 (by omega) hae (Nat.le_refl _) (Nat.le_refl _) hae
    refine ⟨a', q1, q2, fun τ H h4 h5 => ⟨sS τ 16 4 (nI a'), ?_, sS_s, by rw [sS_j (by decide)]; exact h5, FrT.s (Or.inl rfl)⟩, fun τ H h4 h5 => ?_⟩
    · unfold f_X6_cutWorstBegin
      rw [nx_e, nx_e, h4]
      exact q3 τ FU H h5 (by simp only [FU]; omega)
    · exact q4 τ FU H h5 (by simp only [FU]; omega)
end CV
