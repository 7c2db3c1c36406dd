section MSO
def MSt (ρ τ : St) (k : Nat) (bn : Nat → Int32) (bg en : Nat → Nat) (sh : Nat → Bool) : Prop := FrG ρ τ [] [] [48, 49, 50, 51, 52] ∧ ∀ i, i < k → τ.2.1 48 i = bn i ∧ τ.2.1 49 i = nI (bg i) ∧ τ.2.1 50 i = nI (en i) ∧ τ.2.1 51 i = bI (sh i) ∧ τ.2.1 52 i = -1
variable {n m A l1 l2 l3 C W u : Nat} {st ns lc : Nat → Nat} {nm lt ql : Nat → Nat → Int32} {ad : Nat → Int32} {c : Nat → Nat → Int32} {bn : Nat → Int32} {bg en : Nat → Nat} {sh : Nat → Bool} {b : Bool}
theorem MH.frg {ρ τ : St} (h : MH n ns lc nm lt ql A ad l1 l2 l3 ρ) (hf : FrG ρ τ [] [] [48, 49, 50, 51, 52]) : MH n ns lc nm lt ql A ad l1 l2 l3 τ := by
  unfold MH MRI at h ⊢
  rw [hf.2.1 9 (by simp), hf.2.1 15 (by simp), hf.2.1 16 (by simp), hf.2.1 17 (by simp), hf.2.1 18 (by simp), hf.2.2.1 41 (by decide), hf.2.2.1 42 (by decide), hf.2.2.1 43 (by decide), hf.2.2.1 44 (by decide), hf.2.2.1 45 (by decide), hf.2.2.1 47 (by decide)]
  exact h
theorem msort_78 {ρ : St} {wy : Int32} (hM : MH n ns lc nm lt ql A ad l1 l2 l3 ρ) (hn : n ≤ 60) (hV : RdV n ns lc nm lt ql) (hu : u ≤ 12) (hl3 : l3 ≤ 120) (hC : C ≤ 16) (hW : W ≤ 12) (h12 : ρ.1 39 12 = nI C) (h13 : ρ.1 39 13 = nI W) (h46 : ∀ i, i < C → ∀ k, k < W → ρ.2.1 46 (12 * i + k) = c i k) (hsp : 0 < spr c W C) (hP : ∀ i, i < n → PRD b n m st ns lc nm lt ql A ad l1 l2 l3 C W u c bn bg en sh i) : ∀ (fu k : Nat) (τ : St), k ≤ n → n < fu + k → MSt ρ τ k bn bg en sh → ∃ τ', l_X9_sort_78 fu (nI u) wy (nI ((spr c W C - 1) / 2)) (nI (cnt (fun i => decide (bn i = -1)) k)) (nI k) τ = l_X9_sort_243 FU wy (nI (cnt (fun i => decide (bn i = -1)) n)) 0 τ' ∧ MSt ρ τ' n bn bg en sh := by
  intro fu
  induction fu with
  | zero => intro k τ h1 h2; omega
  | succ fu ih =>
    intro k τ h1 h2 hS
    have hsp13 := spr_le13 (c := c) (W := W) C
    obtain ⟨s1, s2⟩ := hS
    have hMτ := hM.frg s1
    show ∃ τ', b_X9_sort_78 (l_X9_sort_78 fu) (nI u) wy (nI ((spr c W C - 1) / 2)) (nI (cnt (fun i => decide (bn i = -1)) k)) (nI k) τ = _ ∧ _
    unfold b_X9_sort_78
    rw [hMτ.1.1]
    by_cases e : k = n
    · subst e
      rw [if_pos (nI_le (Nat.le_refl _) (by omega))]
      exact ⟨τ, rfl, s1, s2⟩
    · have hk : k < n := by omega
      have hv := hV k hk
      have h120 := hv.2.1
      obtain ⟨p1, p2, p3, p4, p5, p6⟩ := hP k hk
      have t12 : τ.1 39 12 = nI C := by rw [s1.2.1 12 (by simp)]; exact h12
      have t13 : τ.1 39 13 = nI W := by rw [s1.2.1 13 (by simp)]; exact h13
      have h43 : ∀ υ : St, FrG ρ υ [] [] [48, 49, 50, 51, 52] → υ.2.1 43 k = nI (lc k) := fun υ hf => ((hM.frg hf).1.2 k hk).2.1
      have hbin : (if nI C = 0 then b_X9_sort_112 (l_X9_sort_78 fu) (nI u) wy (nI ((spr c W C - 1) / 2)) (nI (cnt (fun i => decide (bn i = -1)) k)) (nI k) (-1) (nI k) τ else bd (f_X9_binOf (nI k) (nI u) (nI ((spr c W C - 1) / 2)) τ) (fun r3 s4 => b_X9_sort_112 (l_X9_sort_78 fu) (nI u) wy (nI ((spr c W C - 1) / 2)) (nI (cnt (fun i => decide (bn i = -1)) k)) (nI k) r3 (nI k) s4)) = b_X9_sort_112 (l_X9_sort_78 fu) (nI u) wy (nI ((spr c W C - 1) / 2)) (nI (cnt (fun i => decide (bn i = -1)) k)) (nI k) (bn k) (nI k) τ := by
        by_cases hC0 : C = 0
        · have hb : bn k = -1 := by
            rcases p1 with ⟨-, q2⟩ | ⟨-, q2⟩
            · rcases q2 with ⟨h, -⟩ | ⟨j, hj, -⟩
              · exact h
              · omega
            · exact q2
          rw [if_pos (by rw [hC0]; rfl), hb]
        · rw [if_neg (nI_ne0 (by omega) (by omega))]
          unfold f_X9_binOf
          rw [gd_t (inb_n (show k < ln 43 by show k < 120; omega) (by decide)), t13, nI_add, nI_clamp (by omega), h43 τ s1]
          rcases p1 with ⟨q1, q2⟩ | ⟨q1, q2⟩
          · rw [if_pos (nI_le q1 (by omega))]
            obtain ⟨y, y1, y2⟩ := mnear_e (τ := τ) (c := c) (r := (spr c W C - 1) / 2) hC hW (by omega) hk hn t12 t13 (by rw [s1.2.2.1 46 (by decide)]; exact h46) hMτ.1 (by omega) FU 0 (-1) (by omega) (by simp only [FU]; omega) (Or.inl ⟨rfl, fun q hq => by omega⟩)
            rw [show (0 : Int32) = nI 0 from rfl, y1, bd_s, y2.uq q2 (by omega)]
          · rw [if_neg (nI_ge (by omega) (by omega)), bd_s, q2]
      rw [if_neg (nI_ge (by omega) (by omega)), t12, hbin]
      have hpos : bn k = -1 ∨ ∃ j, j < C ∧ bn k = nI j := by
        rcases p1 with ⟨-, q2⟩ | ⟨-, q2⟩
        · rcases q2 with ⟨h, -⟩ | ⟨j, hj, h, -⟩
          · exact Or.inl h
          · exact Or.inr ⟨j, hj, h⟩
        · exact Or.inl q2
      have hsign : (0 ≤ bn k) ↔ ¬ bn k = -1 := by
        rcases hpos with h | ⟨j, hj, h⟩
        · rw [h]; decide
        · rw [h]
          exact ⟨fun _ => nI_m1' (by omega), fun _ => nI_pos' (by omega)⟩
      have hcnt : cnt (fun i => decide (bn i = -1)) (k + 1) = cnt (fun i => decide (bn i = -1)) k + (if decide (bn k = -1) = true then 1 else 0) := rfl
      have h48 : (sA τ 48 (nI k) (bn k)).2.1 48 k = bn k := by rw [sA_s (by omega), upd_s]
      -- what follows the bin
      have h159 : ∀ x4 : Int32, x4 = nI (cnt (fun i => decide (bn i = -1)) (k + 1)) → ∃ τ', b_X9_sort_159 (l_X9_sort_78 fu) (nI u) wy (nI ((spr c W C - 1) / 2)) x4 (nI k) (nI (if bn k = -1 then 0 else W + u)) (nI k) (sA τ 48 (nI k) (bn k)) = l_X9_sort_243 FU wy (nI (cnt (fun i => decide (bn i = -1)) n)) 0 τ' ∧ MSt ρ τ' n bn bg en sh := by
        intro x4 hx4
        subst hx4
        unfold b_X9_sort_159
        simp only [nx_e]
        have f0 : FrG ρ (sA (sA τ 48 (nI k) (bn k)) 49 (nI k) (nI (if bn k = -1 then 0 else W + u))) [] [] [48, 49, 50, 51, 52] := (s1.tr (FrG.sA.mono rfl)).tr (FrG.sA.mono rfl)
        rw [gd_t (inb_n (show k < ln 49 by show k < 60; omega) (by decide)), gd_t (inb_n (show k < ln 43 by show k < 120; omega) (by decide)), gd_t (inb_n (show k < ln 50 by show k < 60; omega) (by decide)), nI_clamp (by omega), h43 _ f0]
        generalize hυ : sA (sA (sA τ 48 (nI k) (bn k)) 49 (nI k) (nI (if bn k = -1 then 0 else W + u))) 50 (nI k) (nI (lc k)) = υ
        have fυ : FrG ρ υ [] [] [48, 49, 50, 51, 52] := by rw [← hυ]; exact f0.tr (FrG.sA.mono rfl)
        have υ49 : υ.2.1 49 k = nI (if bn k = -1 then 0 else W + u) := by rw [← hυ, sA_q (by decide), sA_s (by omega), upd_s]
        have υ50 : υ.2.1 50 k = nI (lc k) := by rw [← hυ, sA_s (by omega), upd_s]
        have υo : ∀ i, i ≠ k → υ.2.1 48 i = τ.2.1 48 i ∧ υ.2.1 49 i = τ.2.1 49 i ∧ υ.2.1 50 i = τ.2.1 50 i := fun i hi => by
          rw [← hυ, sA_q (p := 48) (q := 50) (by decide), sA_q (p := 48) (q := 49) (by decide), sA_s (q := 48) (by omega), upd_n hi, sA_q (p := 49) (q := 50) (by decide), sA_s (q := 49) (by omega), upd_n hi, sA_q (p := 49) (q := 48) (by decide), sA_s (q := 50) (by omega), upd_n hi, sA_q (p := 50) (q := 49) (by decide), sA_q (p := 50) (q := 48) (by decide)]
          exact ⟨rfl, rfl, rfl⟩
        have υ48 : υ.2.1 48 k = bn k := by rw [← hυ, sA_q (by decide), sA_q (by decide)]; exact h48
        have υ51 : υ.2.1 51 = τ.2.1 51 ∧ υ.2.1 52 = τ.2.1 52 := by
          rw [← hυ, sA_q (p := 51) (q := 50) (by decide), sA_q (p := 51) (q := 49) (by decide), sA_q (p := 51) (q := 48) (by decide), sA_q (p := 52) (q := 50) (by decide), sA_q (p := 52) (q := 49) (by decide), sA_q (p := 52) (q := 48) (by decide)]
          exact ⟨rfl, rfl⟩
        obtain ⟨τ1, τ2, τ3, m1, m2, m3, m4, m5, m6⟩ := p6 υ (hM.frg fυ) υ49 υ50
        have f3 : FrG ρ τ3 [] [] [48, 49, 50, 51, 52] := fυ.tr (m6.1.mono rfl)
        rw [m1, bd_s, m2, bd_s, m3, bd_s, gd_t (inb_n (show k < ln 50 by show k < 60; omega) (by decide)), gd_t (inb_n (show k < ln 49 by show k < 60; omega) (by decide)), m4, m5, show τ3.1 39 18 = nI l3 from (hM.frg f3).2.2.2.2.2, pk_sub p2]
        have h225 : ∀ v : Bool, v = sh k → ∃ τ', b_X9_sort_225 (l_X9_sort_78 fu) (nI u) wy (nI ((spr c W C - 1) / 2)) (nI (cnt (fun i => decide (bn i = -1)) (k + 1))) (nI k) (bI v) (nI k) τ3 = l_X9_sort_243 FU wy (nI (cnt (fun i => decide (bn i = -1)) n)) 0 τ' ∧ MSt ρ τ' n bn bg en sh := by
          intro v hv
          subst hv
          unfold b_X9_sort_225
          simp only [nx_e]
          rw [gd_t (inb_n (show k < ln 51 by show k < 60; omega) (by decide)), gz_b, gd_t (inb_n (show k < ln 52 by show k < 60; omega) (by decide)), nI_1]
          refine ih (k + 1) (sA (sA τ3 51 (nI k) (bI (sh k))) 52 (nI k) (-1)) (by omega) (by omega) ⟨(f3.tr (FrG.sA.mono rfl)).tr (FrG.sA.mono rfl), fun i hi => ?_⟩
          rw [sA_q (p := 48) (q := 52) (by decide), sA_q (p := 48) (q := 51) (by decide), sA_q (p := 49) (q := 52) (by decide), sA_q (p := 49) (q := 51) (by decide), sA_q (p := 50) (q := 52) (by decide), sA_q (p := 50) (q := 51) (by decide), sA_q (p := 51) (q := 52) (by decide), sA_s (q := 51) (by omega), sA_s (q := 52) (by omega), sA_q (p := 52) (q := 51) (by decide), m6.1.2.2.1 48 (by decide), m6.1.2.2.1 51 (by decide), m6.1.2.2.1 52 (by decide)]
          by_cases e : i = k
          · subst e
            rw [upd_s, upd_s, υ48, m4, m5]
            exact ⟨rfl, rfl, rfl, rfl, rfl⟩
          · rw [upd_n e, upd_n e, (m6.2 i e).1, (m6.2 i e).2, (υo i e).1, (υo i e).2.1, (υo i e).2.2, υ51.1, υ51.2]
            exact s2 i (by omega)
        by_cases hl : en k - bg k < l3
        · rw [if_neg (nI_ge hl (by omega))]
          exact h225 true (by rw [p4, decide_eq_true hl])
        · rw [if_pos (nI_le (by omega) (by omega))]
          exact h225 false (by rw [p4, decide_eq_false hl])
      unfold b_X9_sort_112 b_X9_sort_130
      simp only [nx_e]
      rw [gd_t (inb_n (show k < ln 48 by show k < 60; omega) (by decide)), gd_t (inb_n (show k < ln 48 by show k < 60; omega) (by decide)), gd_t (inb_n (show k < ln 48 by show k < 60; omega) (by decide)), gd_t (inb_n (show k < ln 48 by show k < 60; omega) (by decide)), nI_clamp (by omega), h48]
      by_cases hb : bn k = -1
      · rw [if_neg (fun h => hsign.mp h hb), if_neg (fun h => hsign.mp h hb)]
        have := h159 _ (show nI (cnt (fun i => decide (bn i = -1)) k) + 1 = nI (cnt (fun i => decide (bn i = -1)) (k + 1)) by rw [hcnt, decide_eq_true hb, if_pos rfl, nI_1])
        rw [if_pos hb] at this
        exact this
      · rw [if_pos (hsign.mpr hb), if_pos (hsign.mpr hb), show (sA τ 48 (nI k) (bn k)).1 39 13 = nI W from t13, nI_add]
        have := h159 _ (show nI (cnt (fun i => decide (bn i = -1)) k) + 0 = nI (cnt (fun i => decide (bn i = -1)) (k + 1)) by
          rw [hcnt, decide_eq_false hb, if_neg (by decide)]
          exact nI_add _ 0)
        rw [if_neg hb] at this
        exact this
end MSO
