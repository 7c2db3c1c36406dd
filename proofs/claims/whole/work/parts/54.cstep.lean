section CS
/-- what a step of the class's parser does -/
def CsE (σ : St) (fm k : Nat) (R : Nat × PS) (o : Option Rs) : Prop := ∃ σ', o = some (nI R.1, σ') ∧ FrD σ σ' σ.2.2.2.1 ∧ (R.1 = 0 → PcC σ' fm (k + 1) R.2)
def eN (σ : St) (v : Int32) : St := sS (sS σ 5 2 v) 5 3 0
theorem enter_e {σ : St} {v : Int32} : f_X2_enter v σ = some (0, eN σ v) := rfl
theorem eN_fr {σ : St} {v : Int32} : Fr σ (eN σ v) [5] [] := (Fr.sS).tr Fr.sS
theorem eN_1 {σ : St} {v : Int32} : (eN σ v).1 5 1 = σ.1 5 1 := by rw [eN, sS_j (by decide), sS_j (by decide)]
theorem eN_2 {σ : St} {v : Int32} : (eN σ v).1 5 2 = v := by rw [eN, sS_j (by decide), sS_s]
theorem eN_3 {σ : St} {v : Int32} : (eN σ v).1 5 3 = nI 0 := by rw [eN, sS_s]; rfl
theorem bs5 (b : Bool) : bs b ≠ 5 := by cases b <;> decide
theorem bs51 (b : Bool) : bs b + 1 ≠ 5 := by cases b <;> decide
theorem RdC.f5 {σ σ' : St} {b : Bool} {n m : Nat} {st ns lc : Nat → Nat} {nm lt : Nat → Nat → Int32} (h : RdC σ b n m st ns lc nm lt) (hf : Fr σ σ' [5] []) : RdC σ' b n m st ns lc nm lt :=
  h.fr hf (by simpa using bs5 b) (by simpa using bs51 b) (by simp) (by simp) (by simp) (by simp)
theorem dr_move {σ σ' : St} {fm k s n l s' l' : Nat} {ns lc : Nat → Nat} {nm lt ql : Nat → Nat → Int32} (hf : Fr σ σ' [5] []) (h : Dr σ fm k (s, n, l, ns, lc, nm, lt, ql)) (hq : 0 < n → qn fm s l (lc (n - 1)) = qn fm s' l' (lc (n - 1))) (h1 : fm = 0 → s' = 0 → s = 0 ∨ (s = 5 ∧ l = lc (n - 1))) (h2 : fm = 0 → s' = 5 → (s = 5 ∧ l' ≤ l) ∨ l' = 0) : Dr σ' fm (k + 1) (s', n, l', ns, lc, nm, lt, ql) := by
  obtain ⟨hw, m, st, hR, hmk, hm, hc1, hc2⟩ := h
  have e : σ'.2.2 = σ.2.2 := hf.2.2
  have e2 : σ'.2.1 = σ.2.1 := funext fun q => hf.2.1 q (by simp)
  have e1 : σ'.1 (bs σ.2.2.2.1) = σ.1 (bs σ.2.2.2.1) := hf.1 _ (by simpa using bs5 _)
  refine ⟨by rw [e, e1]; exact hw, m, st, by rw [e]; exact hR.f5 hf, by omega, fun hn => by rw [← hq hn]; exact hm hn, fun h0 i hi hd => ?_, fun h0 hs j hj => ?_⟩
  · rw [e, e2]
    by_cases hlt : i < n - 1
    · exact hc1 h0 i hi (Or.inl hlt)
    · rcases h1 h0 (by omega) with h9 | ⟨h9, h8⟩
      · exact hc1 h0 i hi (Or.inr h9)
      · have ei : i = n - 1 := by omega
        subst ei
        have hm' := hm (by omega)
        rw [h9] at hm'
        simp only [qn, h0, if_true] at hm'
        refine ⟨by omega, fun j hj => hc2 h0 h9 j (by omega)⟩
  · rw [e, e2]
    rcases h2 h0 hs with ⟨h9, h8⟩ | h8
    · exact hc2 h0 h9 j (by omega)
    · omega
theorem cmark {σ : St} {fm k : Nat} {x : Int32} {P : PS} (hfm : fm = 0 ∨ fm = 1) (h : PcC σ fm k P) (hs : fm = 0 → P.1 = 0) (hq : fm = 1 → P.1 ≠ 5) : CsE σ fm k (pmark fm x P) (f_X2_stepMark x σ) := by
  obtain ⟨s, n, l, ns, lc, nm, lt, ql⟩ := P
  obtain ⟨h1, h2, h3, hD⟩ := h
  have hDD := hD
  obtain ⟨hw, m, st, hR, hmk, hm, hc1, hc2⟩ := hD
  have hmk2 : f_X2_stepMark x σ = b_X2_stepMark_15 (mk fm) x σ := by
    unfold f_X2_stepMark mk
    rw [h1]
    rcases hfm with rfl | rfl
    · rfl
    · rfl
  rw [hmk2]
  unfold b_X2_stepMark_15
  simp only [pmark]
  by_cases hx : x = mk fm
  · rw [if_pos hx, if_pos hx, count_e hR.1, bd_s, show (60 : Int32) = nI 60 from rfl]
    have hn60 := hR.2.1
    by_cases hn : n < 60
    · rw [if_pos (nI_lt hn (by omega)), if_pos hn]
      obtain ⟨σ1, e1, e2, e3, e4, e5, e6⟩ := begin_e hR hn
      rw [e1, bd_s, enter_e, bd_s]
      refine ⟨eN σ1 1, rfl, e3.tr (eN_fr.mono (by simp) (by simp)), fun _ => ⟨by rw [eN_1, e4]; exact h1, by rw [eN_2]; rfl, eN_3, ?_⟩⟩
      have e7 : (eN σ1 1).2.2 = σ.2.2 := eN_fr.2.2.trans e3.2.2
      have e8 : (eN σ1 1).2.1 = σ1.2.1 := funext fun q => eN_fr.2.1 q (by simp)
      refine ⟨?_, m, va_up st n m, ?_, by omega, fun _ => ?_, fun h0 i hi hd => ?_, fun _ h => by omega⟩
      · rw [e7, eN_fr.1 _ (by simpa using bs5 _), e5]
        exact hw
      · rw [e7]
        exact e2.f5 eN_fr
      · rw [Nat.add_sub_cancel, upN_s, upN_s, upN_s]
        simp [qn]
      · have e : i ≠ n := by omega
        rw [e7, e8, e6, upN_n e, upN_n e, upN_n e]
        exact hc1 h0 i (by omega) (Or.inr (hs h0))
    · rw [if_neg (nI_nlt (by omega) (by omega)), if_neg hn]
      exact ⟨σ, rfl, Fr.rf, fun h => by simp at h⟩
  · rw [if_neg hx, if_neg hx]
    exact ⟨σ, rfl, Fr.rf, fun h => by simp at h⟩
theorem last_e {σ : St} {n : Nat} (h : σ.1 (bs σ.2.2.2.1) 4 = nI (n + 1)) : f_X2_last σ = some (nI n, σ) := by
  unfold f_X2_last
  rw [count_e h, bd_s, nI_pred]
theorem cname {σ : St} {fm k n l : Nat} {x : Int32} {ns lc : Nat → Nat} {nm lt ql : Nat → Nat → Int32} (h : PcC σ fm k (1, n + 1, l, ns, lc, nm, lt, ql)) (hv : PvI fm k (1, n + 1, l, ns, lc, nm, lt, ql)) (hk : k < 6000) : CsE σ fm k (pstep fm x (1, n + 1, l, ns, lc, nm, lt, ql)) (bd (f_X2_stepName x σ) (fun r s => some (r, s))) := by
  obtain ⟨h1, h2, h3, hD⟩ := h
  have hDD := hD
  obtain ⟨hw, m, st, hR, hmk, hm, hc1, hc2⟩ := hD
  obtain ⟨a1, a2, a3, a4, a5, a6, a7, a8, a9, a10, a11, a12, a13⟩ := hv
  have hns := (a9 n (by omega)).1
  have hlc : lc n = 0 := a6 rfl
  have hm' := hm (by omega)
  simp only [Nat.add_sub_cancel] at hm'
  have hqn : qn fm 1 l (lc n) = 0 := by simp [qn]
  unfold f_X2_stepName
  rw [last_e hR.1, bd_s, nameSize_in hR (by omega : n < n + 1), bd_s]
  simp only [pstep, Nat.add_sub_cancel, if_neg (by decide : ¬ (1 : Nat) = 0), if_true]
  have hrest : ¬ (x = 10 ∧ 0 < ns n) → CsE σ fm k (if isSg x = false then (2, (1, n + 1, l, ns, lc, nm, lt, ql)) else if ns n < 40 then (0, (1, n + 1, l, va_up ns n (ns n + 1), lc, up2 nm n (ns n) x, lt, ql)) else (3, (1, n + 1, l, ns, lc, nm, lt, ql))) (bd (b_X2_stepName_28 x (nI (ns n)) σ) (fun r s => some (r, s))) := by
    intro _
    unfold b_X2_stepName_28
    rw [isSign_e, bd_s]
    cases hg : isSg x
    · simp only [if_true]
      exact ⟨σ, rfl, Fr.rf, fun h => by simp at h⟩
    · rw [if_neg (by decide : ¬ bI true = 0), if_neg (by decide : ¬ true = false), show (40 : Int32) = nI 40 from rfl]
      by_cases h40 : ns n < 40
      · rw [if_pos (nI_lt h40 (by omega)), if_pos h40]
        obtain ⟨σ1, e1, e2, e3, e4, e5, e6⟩ := addN_e (x := x) hR (by omega) hlc (by omega)
        rw [e1, bd_s, bd_s]
        refine ⟨σ1, rfl, e3, fun _ => ⟨by rw [e4]; exact h1, by rw [e4]; exact h2, by rw [e4]; exact h3, ?_⟩⟩
        have e7 : σ1.2.2 = σ.2.2 := e3.2.2
        refine ⟨by rw [e7, e5]; exact hw, m + 1, st, by rw [e7]; exact e2, by omega, fun _ => ?_, fun h0 i hi hd => ?_, fun _ h => by omega⟩
        · rw [Nat.add_sub_cancel, upN_s]
          simp [qn]
          omega
        · have e : i ≠ n := by omega
          obtain ⟨c1, c2⟩ := hc1 h0 i hi (by omega)
          rw [upN_n e]
          refine ⟨by omega, fun j hj => ?_⟩
          rw [e7, e6, upd_n (by omega)]
          exact c2 j hj
      · rw [if_neg (nI_nlt (by omega) (by omega)), if_neg h40]
        exact ⟨σ, rfl, Fr.rf, fun h => by simp at h⟩
  by_cases hx : x = 10
  · rw [if_pos hx]
    by_cases h0 : 0 < ns n
    · rw [if_neg (nI_nle h0 (by omega)), if_pos ⟨hx, h0⟩, enter_e, bd_s, bd_s]
      exact ⟨eN σ 2, rfl, eN_fr.mono (by simp) (by simp), fun _ => ⟨by rw [eN_1]; exact h1, by rw [eN_2]; rfl, eN_3, dr_move eN_fr hDD (fun _ => by simp [qn]) (fun _ h => by omega) (fun _ h => by omega)⟩⟩
    · have e0 : ns n = 0 := by omega
      have hc : ¬ (x = 10 ∧ 0 < ns n) := by omega
      rw [if_neg hc, if_pos (show nI (ns n) ≤ 0 by rw [e0]; decide)]
      exact hrest hc
  · have hc : ¬ (x = 10 ∧ 0 < ns n) := fun h => hx h.1
    rw [if_neg hx, if_neg hc]
    exact hrest hc
theorem mayEnd_e {σ : St} {n m l : Nat} {st ns lc : Nat → Nat} {nm lt : Nat → Nat → Int32} (h3 : σ.1 5 3 = nI l) (hl : l < 2 ^ 31) (hR : RdC σ σ.2.2.2.1 (n + 1) m st ns lc nm lt) : f_X2_mayEndHere σ = some (bI (decide (l = 0 ∧ 0 < lc n)), σ) := by
  unfold f_X2_mayEndHere b_X2_mayEndHere_25 b_X2_mayEndHere_26
  simp only [gz_0, gz_1]
  rw [h3]
  have h6 := hR.2.2.2.1
  obtain ⟨b1, b2, b3, b4, b5, b6⟩ := hR.2.2.2.2 n (by omega)
  by_cases h0 : l = 0
  · subst h0
    rw [if_pos (by decide), last_e hR.1, bd_s, letterCount_in hR (by omega : n < n + 1), bd_s]
    by_cases hc : 0 < lc n
    · rw [if_neg (nI_nle hc (by omega))]
      simp [hc, bI]
    · have e0 : lc n = 0 := by omega
      rw [e0, if_pos (by decide)]
      simp [bI]
  · rw [if_neg (nI_ne0 (by omega) hl)]
    simp [h0, bI]
theorem cletters {σ : St} {fm k n l : Nat} {x : Int32} {ns lc : Nat → Nat} {nm lt ql : Nat → Nat → Int32} (hfm : fm = 0 ∨ fm = 1) (h : PcC σ fm k (2, n + 1, l, ns, lc, nm, lt, ql)) (hv : PvI fm k (2, n + 1, l, ns, lc, nm, lt, ql)) (hk : k < 6000) : CsE σ fm k (pstep fm x (2, n + 1, l, ns, lc, nm, lt, ql)) (bd (f_X2_stepLetters x σ) (fun r s => some (r, s))) := by
  have hh := h
  obtain ⟨h1, h2, h3, hD⟩ := h
  have hDD := hD
  obtain ⟨hw, m, st, hR, hmk, hm, hc1, hc2⟩ := hD
  obtain ⟨a1, a2, a3, a4, a5, a6, a7, a8, a9, a10, a11, a12, a13⟩ := hv
  have hlc := (a9 n (by omega)).2.1
  have hm' := hm (by omega)
  simp only [Nat.add_sub_cancel] at hm'
  have hqn : qn fm 2 l (lc n) = 0 := by simp [qn]
  have h3' : σ.1 5 3 = nI l := h3
  unfold f_X2_stepLetters
  rw [h3', h1]
  simp only [pstep, Nat.add_sub_cancel, if_neg (by decide : ¬ (2 : Nat) = 0), if_neg (by decide : ¬ (2 : Nat) = 1), if_true]
  have h57 : CsE σ fm k (if isL x = false then (2, (2, n + 1, l, ns, lc, nm, lt, ql)) else if lc n < 120 then (0, (2, n + 1, l + 1, ns, va_up lc n (lc n + 1), nm, up2 lt n (lc n) x, up2 ql n (lc n) 40)) else (3, (2, n + 1, l, ns, lc, nm, lt, ql))) (bd (b_X2_stepLetters_57 x σ) (fun r s => some (r, s))) := by
    unfold b_X2_stepLetters_57
    rw [isLetter_e, bd_s]
    cases hg : isL x
    · simp only [if_true]
      exact ⟨σ, rfl, Fr.rf, fun h => by simp at h⟩
    · rw [if_neg (by decide : ¬ bI true = 0), if_neg (by decide : ¬ true = false), last_e hR.1, bd_s, letterCount_in hR (by omega : n < n + 1), bd_s, show (120 : Int32) = nI 120 from rfl]
      by_cases h40 : lc n < 120
      · rw [if_pos (nI_lt h40 (by omega)), if_pos h40]
        obtain ⟨σ1, e1, e2, e3, e4, e5, e6⟩ := addL_e (x := x) hR (by omega) (by omega)
        have e9 : σ1.1 5 3 = nI l := by rw [e4]; exact h3
        rw [e1, bd_s, nx_e, e9, nI_1, bd_s]
        have f1 : Fr σ1 (sS σ1 5 3 (nI (l + 1))) [5] [] := Fr.sS
        refine ⟨sS σ1 5 3 (nI (l + 1)), rfl, e3.tr (f1.mono (by simp) (by simp)), fun _ => ⟨by rw [sS_j (by decide), e4]; exact h1, by rw [sS_j (by decide), e4]; exact h2, sS_s, ?_⟩⟩
        have e7 : (sS σ1 5 3 (nI (l + 1))).2.2 = σ.2.2 := e3.2.2
        have e8 : (sS σ1 5 3 (nI (l + 1))).2.1 = σ1.2.1 := rfl
        refine ⟨by rw [e7, f1.1 _ (by simpa using bs5 _), e5]; exact hw, m + 1, st, by rw [e7]; exact e2.f5 f1, by omega, fun _ => ?_, fun h0 i hi hd => ?_, fun _ h => by omega⟩
        · rw [Nat.add_sub_cancel, upN_s]
          simp [qn]
          omega
        · have e : i ≠ n := by omega
          obtain ⟨c1, c2⟩ := hc1 h0 i hi (by omega)
          rw [upN_n e]
          refine ⟨by omega, fun j hj => ?_⟩
          rw [e7, e8, e6, upd_n (by omega), up2_i e]
          exact c2 j hj
      · rw [if_neg (nI_nlt (by omega) (by omega)), if_neg h40]
        exact ⟨σ, rfl, Fr.rf, fun h => by simp at h⟩
  have h30 : ¬ (x = 10 ∧ 0 < l) → CsE σ fm k (if fm = 1 ∧ x = 62 ∧ l = 0 ∧ 0 < lc n then pmark fm x (2, n + 1, l, ns, lc, nm, lt, ql) else if isL x = false then (2, (2, n + 1, l, ns, lc, nm, lt, ql)) else if lc n < 120 then (0, (2, n + 1, l + 1, ns, va_up lc n (lc n + 1), nm, up2 lt n (lc n) x, up2 ql n (lc n) 40)) else (3, (2, n + 1, l, ns, lc, nm, lt, ql))) (bd (b_X2_stepLetters_30 x σ) (fun r s => some (r, s))) := by
    intro _
    unfold b_X2_stepLetters_30
    rw [h1]
    rcases hfm with rfl | rfl
    · rw [if_neg (by decide : ¬ nI 0 = 1), if_neg (fun h => by simp at h)]
      exact h57
    · rw [if_pos (by decide : nI 1 = 1)]
      by_cases hx : x = 62
      · rw [if_pos hx, mayEnd_e h3' (by omega) hR, bd_s]
        by_cases he : l = 0 ∧ 0 < lc n
        · rw [if_pos ⟨rfl, hx, he⟩]
          rw [decide_eq_true he, if_neg (by decide : ¬ bI true = 0)]
          obtain ⟨σ', e1, e2, e3⟩ := cmark (x := x) (Or.inr rfl) hh (fun h => by omega) (fun _ => by simp)
          rw [e1, bd_s, bd_s]
          exact ⟨σ', rfl, e2, e3⟩
        · rw [if_neg (fun h => he h.2.2)]
          rw [decide_eq_false he, if_pos (by decide : bI false = 0)]
          exact h57
      · rw [if_neg hx, if_neg (fun h => hx h.2.1)]
        exact h57
  by_cases hx : x = 10
  · rw [if_pos hx]
    by_cases h0 : 0 < l
    · rw [if_neg (nI_nle h0 (by omega)), if_pos ⟨hx, h0⟩]
      have hq : 0 < n + 1 → qn fm 2 l (lc (n + 1 - 1)) = qn fm (if fm = 0 then 3 else 2) 0 (lc (n + 1 - 1)) := by
        intro _
        rcases hfm with rfl | rfl <;> simp [qn]
      rcases hfm with rfl | rfl
      · rw [if_pos (by decide : nI 0 = 0)]
        unfold b_X2_stepLetters_26
        rw [enter_e, bd_s, bd_s]
        exact ⟨eN σ 3, rfl, eN_fr.mono (by simp) (by simp), fun _ => ⟨by rw [eN_1]; exact h1, by rw [eN_2]; rfl, eN_3, dr_move eN_fr hDD hq (fun _ h => by simp at h) (fun _ h => by simp at h)⟩⟩
      · rw [if_neg (by decide : ¬ nI 1 = 0)]
        unfold b_X2_stepLetters_26
        rw [enter_e, bd_s, bd_s]
        exact ⟨eN σ 2, rfl, eN_fr.mono (by simp) (by simp), fun _ => ⟨by rw [eN_1]; exact h1, by rw [eN_2]; rfl, eN_3, dr_move eN_fr hDD hq (fun h => by omega) (fun h => by omega)⟩⟩
    · have e0 : l = 0 := by omega
      have hc : ¬ (x = 10 ∧ 0 < l) := by omega
      rw [if_neg hc, if_pos (show nI l ≤ 0 by rw [e0]; decide)]
      exact h30 hc
  · have hc : ¬ (x = 10 ∧ 0 < l) := fun h => hx h.1
    rw [if_neg hx, if_neg hc]
    exact h30 hc
theorem cbehind {σ : St} {k n l : Nat} {x : Int32} {ns lc : Nat → Nat} {nm lt ql : Nat → Nat → Int32} (h : PcC σ 0 k (4, n + 1, l, ns, lc, nm, lt, ql)) (hv : PvI 0 k (4, n + 1, l, ns, lc, nm, lt, ql)) (hk : k < 6000) (hx0 : 0 ≤ x) : CsE σ 0 k (pstep 0 x (4, n + 1, l, ns, lc, nm, lt, ql)) (bd (f_X2_stepBehindPlus x σ) (fun r s => some (r, s))) := by
  obtain ⟨h1, h2, h3, hD⟩ := h
  have hDD := hD
  obtain ⟨hw, m, st, hR, hmk, hm, hc1, hc2⟩ := hD
  obtain ⟨a1, a2, a3, a4, a5, a6, a7, a8, a9, a10, a11, a12, a13⟩ := hv
  have hns := (a9 n (by omega)).1
  have h3' : σ.1 5 3 = nI l := h3
  have h47 : ¬ (x = 10 ∧ (l = 0 ∨ l = ns n)) → CsE σ 0 k (if l < ns n ∧ x = nm n l then (0, (4, n + 1, l + 1, ns, lc, nm, lt, ql)) else (2, (4, n + 1, l, ns, lc, nm, lt, ql))) (bd (b_X2_stepBehindPlus_47 x σ) (fun r s => some (r, s))) := by
    intro _
    unfold b_X2_stepBehindPlus_47
    rw [last_e hR.1, bd_s, h3']
    by_cases hl : l < ns n
    · rw [nameOctet_in hR (by omega : n < n + 1) hl, bd_s]
      by_cases hx : x = nm n l
      · rw [if_pos hx, if_pos ⟨hl, hx⟩, nx_e, h3', nI_1, bd_s]
        have f1 : Fr σ (sS σ 5 3 (nI (l + 1))) [5] [] := Fr.sS
        exact ⟨_, rfl, f1.mono (by simp) (by simp), fun _ => ⟨by rw [sS_j (by decide)]; exact h1, by rw [sS_j (by decide)]; exact h2, sS_s, dr_move f1 hDD (fun _ => by simp [qn]) (fun _ h => by omega) (fun _ h => by omega)⟩⟩
      · rw [if_neg hx, if_neg (fun h => hx h.2)]
        exact ⟨σ, rfl, Fr.rf, fun h => by simp at h⟩
    · rw [nameOctet_outk hR (by omega : n < n + 1) (Or.inr (nI_le (by omega) (by omega))), bd_s, if_neg (show ¬ x = -1 from fun h => by rw [h] at hx0; exact absurd hx0 (by decide)), if_neg (show ¬ (l < ns n ∧ x = nm n l) from fun h => hl h.1)]
      exact ⟨σ, rfl, Fr.rf, fun h => by simp at h⟩
  simp only [pstep, Nat.add_sub_cancel, if_neg (by decide : ¬ (4 : Nat) = 0), if_neg (by decide : ¬ (4 : Nat) = 1), if_neg (by decide : ¬ (4 : Nat) = 2), if_neg (by decide : ¬ (4 : Nat) = 3), if_true]
  have h30 : ∀ t : Bool, (t = true ↔ (l = 0 ∨ l = ns n)) → CsE σ 0 k (if x = 10 ∧ (l = 0 ∨ l = ns n) then (0, (5, n + 1, 0, ns, lc, nm, lt, ql)) else if l < ns n ∧ x = nm n l then (0, (4, n + 1, l + 1, ns, lc, nm, lt, ql)) else (2, (4, n + 1, l, ns, lc, nm, lt, ql))) (bd (b_X2_stepBehindPlus_30 x (bI t) σ) (fun r s => some (r, s))) := by
    intro t ht
    unfold b_X2_stepBehindPlus_30
    by_cases hx : x = 10
    · rw [if_pos hx]
      cases t
      · have hc : ¬ (x = 10 ∧ (l = 0 ∨ l = ns n)) := fun h => by have := ht.mpr h.2; cases this
        rw [if_neg hc, if_pos (by decide : bI false = 0)]
        exact h47 hc
      · have hc := ht.mp rfl
        rw [if_pos ⟨hx, hc⟩, if_neg (by decide : ¬ bI true = 0), enter_e, bd_s, bd_s]
        exact ⟨eN σ 5, rfl, eN_fr.mono (by simp) (by simp), fun _ => ⟨by rw [eN_1]; exact h1, by rw [eN_2]; rfl, eN_3, dr_move eN_fr hDD (fun _ => by simp [qn]) (fun _ h => by omega) (fun _ _ => Or.inr rfl)⟩⟩
    · have hc : ¬ (x = 10 ∧ (l = 0 ∨ l = ns n)) := fun h => hx h.1
      rw [if_neg hx, if_neg hc]
      exact h47 hc
  unfold f_X2_stepBehindPlus b_X2_stepBehindPlus_25
  rw [h3']
  by_cases h0 : l = 0
  · rw [if_pos (show nI l = 0 by rw [h0]; rfl)]
    exact h30 true (by simp [h0])
  · rw [if_neg (nI_ne0 (by omega) (by omega)), last_e hR.1, bd_s, nameSize_in hR (by omega : n < n + 1), bd_s]
    by_cases he : l = ns n
    · rw [if_pos (show nI l = nI (ns n) by rw [he])]
      exact h30 true (by simp [he])
    · rw [if_neg (show ¬ nI l = nI (ns n) from fun h => he ((nI_eq (by omega) (by omega)).mp h))]
      exact h30 false (by simp [h0, he])
theorem cqual {σ : St} {k n l : Nat} {x : Int32} {ns lc : Nat → Nat} {nm lt ql : Nat → Nat → Int32} (h : PcC σ 0 k (5, n + 1, l, ns, lc, nm, lt, ql)) (hv : PvI 0 k (5, n + 1, l, ns, lc, nm, lt, ql)) (hk : k < 6000) : CsE σ 0 k (pstep 0 x (5, n + 1, l, ns, lc, nm, lt, ql)) (bd (f_X2_stepQualities x σ) (fun r s => some (r, s))) := by
  obtain ⟨h1, h2, h3, hD⟩ := h
  have hDD := hD
  obtain ⟨hw, m, st, hR, hmk, hm, hc1, hc2⟩ := hD
  obtain ⟨a1, a2, a3, a4, a5, a6, a7, a8, a9, a10, a11, a12, a13⟩ := hv
  have hlc := (a9 n (by omega)).2.1
  have h3' : σ.1 5 3 = nI l := h3
  have hm' := hm (by omega)
  have a7' := a7 rfl
  simp only [Nat.add_sub_cancel] at hm' a7'
  have hqn : qn 0 5 l (lc n) = l := by simp [qn]
  unfold f_X2_stepQualities b_X2_stepQualities_33
  rw [last_e hR.1, bd_s, letterCount_in hR (by omega : n < n + 1), bd_s, h3']
  simp only [pstep, Nat.add_sub_cancel, if_neg (by decide : ¬ (5 : Nat) = 0), if_neg (by decide : ¬ (5 : Nat) = 1), if_neg (by decide : ¬ (5 : Nat) = 2), if_neg (by decide : ¬ (5 : Nat) = 3), if_neg (by decide : ¬ (5 : Nat) = 4)]
  by_cases hl : l < lc n
  · rw [if_pos (nI_lt hl (by omega)), if_pos hl, isSign_e, bd_s]
    cases hg : isSg x
    · rw [if_pos (by decide : bI false = 0), if_pos rfl]
      exact ⟨σ, rfl, Fr.rf, fun h => by simp at h⟩
    · rw [if_neg (by decide : ¬ bI true = 0), if_neg (by decide : ¬ true = false)]
      obtain ⟨σ1, e1, e2, e3, e4, e5, e6⟩ := addQ_e (x := x) hR (by omega)
      have e9 : σ1.1 5 3 = nI l := by rw [e4]; exact h3
      rw [e1, bd_s, nx_e, e9, nI_1, bd_s]
      have f1 : Fr σ1 (sS σ1 5 3 (nI (l + 1))) [5] [] := Fr.sS
      refine ⟨sS σ1 5 3 (nI (l + 1)), rfl, e3.tr (f1.mono (by simp) (by simp)), fun _ => ⟨by rw [sS_j (by decide), e4]; exact h1, by rw [sS_j (by decide), e4]; exact h2, sS_s, ?_⟩⟩
      have e7 : (sS σ1 5 3 (nI (l + 1))).2.2 = σ.2.2 := e3.2.2
      have e8 : (sS σ1 5 3 (nI (l + 1))).2.1 = σ1.2.1 := rfl
      refine ⟨by rw [e7, f1.1 _ (by simpa using bs5 _), e5]; exact hw, m + 1, st, by rw [e7]; exact e2.f5 f1, by omega, fun _ => ?_, fun h0 i hi hd => ?_, fun _ _ j hj => ?_⟩
      · rw [Nat.add_sub_cancel]
        simp [qn]
        omega
      · have e : i ≠ n := by omega
        obtain ⟨c1, c2⟩ := hc1 h0 i hi (by omega)
        refine ⟨by omega, fun j hj => ?_⟩
        rw [e7, e8, e6, upd_n (by omega), up2_i e]
        exact c2 j hj
      · rw [Nat.add_sub_cancel, e7, e8, e6]
        by_cases e : j = l
        · subst e
          rw [show st n + ns n + lc n + j = m by omega, upd_s, up2_s, Int32.sub_add_cancel]
        · rw [upd_n (by omega), up2_k e]
          exact hc2 rfl rfl j (by omega)
  · rw [if_neg (nI_nlt (by omega) (by omega)), if_neg hl]
    by_cases hx : x = 10
    · rw [if_pos hx, if_pos hx, enter_e, bd_s, bd_s]
      exact ⟨eN σ 0, rfl, eN_fr.mono (by simp) (by simp), fun _ => ⟨by rw [eN_1]; exact h1, by rw [eN_2]; rfl, eN_3, dr_move eN_fr hDD (fun _ => by simp [qn]; omega) (fun _ _ => Or.inr ⟨rfl, by simp; omega⟩) (fun _ h => by omega)⟩⟩
    · rw [if_neg hx, if_neg hx, bd_s]
      exact ⟨σ, rfl, Fr.rf, fun h => by simp at h⟩
theorem cstep {σ : St} {fm k : Nat} {x : Int32} {P : PS} (hfm : fm = 0 ∨ fm = 1) (h : PcC σ fm k P) (hv : PvI fm k P) (hk : k < 6000) (hx0 : 0 ≤ x) : CsE σ fm k (pstep fm x P) (f_X2_step x σ) := by
  obtain ⟨s, n, l, ns, lc, nm, lt, ql⟩ := P
  have hh := h
  have hvv := hv
  obtain ⟨h1, h2, h3, hD⟩ := h
  obtain ⟨a1, a2, a3, a4, a5, a6, a7, a8, a9, a10, a11, a12, a13⟩ := hv
  have h2' : σ.1 5 2 = nI s := h2
  unfold f_X2_step b_X2_step_73
  rw [h2']
  by_cases s0 : s = 0
  · subst s0
    rw [if_pos (by decide : nI 0 = 0)]
    simp only [pstep, if_true]
    obtain ⟨σ', e1, e2, e3⟩ := cmark (x := x) hfm hh (fun _ => rfl) (fun _ => by simp)
    rw [e1, bd_s]
    exact ⟨σ', rfl, e2, e3⟩
  rw [if_neg (nI_ne0 (by omega) (by omega))]
  have hn := a4 s0
  obtain ⟨n', rfl⟩ : ∃ n', n = n' + 1 := ⟨n - 1, by omega⟩
  by_cases s1 : s = 1
  · subst s1
    rw [if_pos (by decide : nI 1 = 1)]
    exact cname hh hvv hk
  rw [if_neg (show ¬ nI s = (1 : Int32) from fun h => s1 ((nI_eq (b := 1) (by omega) (by omega)).mp h))]
  by_cases s2 : s = 2
  · subst s2
    rw [if_pos (by decide : nI 2 = 2)]
    exact cletters hfm hh hvv hk
  rw [if_neg (show ¬ nI s = (2 : Int32) from fun h => s2 ((nI_eq (b := 2) (by omega) (by omega)).mp h))]
  have hf0 : fm = 0 := by
    rcases hfm with h | h
    · exact h
    · exact absurd (a5 h).1 (by omega)
  subst hf0
  by_cases s3 : s = 3
  · subst s3
    rw [if_pos (by decide : nI 3 = 3)]
    simp only [pstep, if_neg (by decide : ¬ (3 : Nat) = 0), if_neg (by decide : ¬ (3 : Nat) = 1), if_neg (by decide : ¬ (3 : Nat) = 2), if_true]
    by_cases hx : x = 43
    · rw [if_pos hx, if_pos hx, enter_e, bd_s]
      exact ⟨eN σ 4, rfl, eN_fr.mono (by simp) (by simp), fun _ => ⟨by rw [eN_1]; exact h1, by rw [eN_2]; rfl, eN_3, dr_move eN_fr hD (fun _ => by simp [qn]) (fun _ h => by omega) (fun _ h => by omega)⟩⟩
    · rw [if_neg hx, if_neg hx]
      exact ⟨σ, rfl, Fr.rf, fun h => by simp at h⟩
  rw [if_neg (show ¬ nI s = (3 : Int32) from fun h => s3 ((nI_eq (b := 3) (by omega) (by omega)).mp h))]
  by_cases s4 : s = 4
  · subst s4
    rw [if_pos (by decide : nI 4 = 4)]
    exact cbehind hh hvv hk hx0
  rw [if_neg (show ¬ nI s = (4 : Int32) from fun h => s4 ((nI_eq (b := 4) (by omega) (by omega)).mp h))]
  have s5 : s = 5 := by omega
  subst s5
  exact cqual hh hvv hk
end CS
