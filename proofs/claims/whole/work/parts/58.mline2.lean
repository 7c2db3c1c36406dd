section ML2
variable {σ : St} {N at_ hand fm : Nat} {t : Nat → Int32}
theorem letter_loop {h : Nat} {ns : Nat → Nat} {nm : Nat → Nat → Int32} (hfm : fm = 0 ∨ fm = 1) (hh : h < 60) : ∀ (fu : Nat) (σ : St) (at_ l : Nat) (lc : Nat → Nat) (lt ql : Nat → Nat → Int32), N < fu + at_ → MA σ fm N t at_ h (2, h + 1, l, ns, lc, nm, lt, ql) → MNs σ (h + 1) ns → (l = 0 → fm = 1 → (at_ < N → 0 < lc h → t at_ ≠ 62) ∧ (at_ = N → lc h = 0)) → LO σ fm t N (fun σ' => ∃ a lc' lt' ql', at_ < a ∧ MA σ' fm N t a h ((if fm = 0 then 3 else 2), h + 1, 0, ns, lc', nm, lt', ql') ∧ MNs σ' (h + 1) ns ∧ 0 < lc' h) (l_X9_letterLine_2 fu (nI (60 + h)) (nI l) σ) := by
  intro fu
  induction fu with
  | zero => intro σ at_ l lc lt ql h1 H; obtain ⟨⟨-, -, -, -, b5, -⟩, -⟩ := H; omega
  | succ fu ih =>
    intro σ at_ l lc lt ql h1 H hN hq
    obtain ⟨hS, hz, hP, hR⟩ := H
    have hSS := hS
    obtain ⟨b1, b2, b3, b4, b5, b6, b7⟩ := hS
    have hvP := psAt_v (fm := fm) (t := t) hfm at_ hz
    rw [hP] at hvP
    obtain ⟨a1, a2, a3, a4, a5, a6, a7, a8, a9, a10, a11, a12, a13⟩ := hvP
    have hlc : lc h ≤ 120 := (a9 h (by omega)).2.1
    have hl8 : l ≤ lc h := (a8 rfl).1
    have h43 : σ.2.1 43 (60 + h) = nI (lc h) := (hR h (by omega)).2.1
    show LO σ fm t N _ (b_X9_letterLine_2 (l_X9_letterLine_2 fu) (nI (60 + h)) (nI l) σ)
    unfold b_X9_letterLine_2
    have h114 : (at_ = N ∨ 0 < l) → (at_ < N → isL (t at_) = false) → LO σ fm t N (fun σ' => ∃ a lc' lt' ql', at_ < a ∧ MA σ' fm N t a h ((if fm = 0 then 3 else 2), h + 1, 0, ns, lc', nm, lt', ql') ∧ MNs σ' (h + 1) ns ∧ 0 < lc' h) (b_X9_letterLine_114 σ) := by
      intro hc hs
      unfold b_X9_letterLine_114
      have hstep : at_ < N → pstep fm (t at_) (2, h + 1, l, ns, lc, nm, lt, ql) = if t at_ = 10 then (0, ((if fm = 0 then 3 else 2), h + 1, 0, ns, lc, nm, lt, ql)) else (2, (2, h + 1, l, ns, lc, nm, lt, ql)) := by
        intro ha
        have hl0 : 0 < l := by omega
        simp only [pstep, Nat.add_sub_cancel, if_neg (by decide : ¬ (2 : Nat) = 0), if_neg (by decide : ¬ (2 : Nat) = 1), if_true]
        by_cases hx : t at_ = 10
        · rw [if_pos ⟨hx, hl0⟩, if_pos hx]
        · rw [if_neg (fun h => hx h.1), if_neg hx, if_neg (fun h => by omega), if_pos (hs ha)]
      refine (must_e hSS hz (fun e => ?_) (fun ha hx => ?_) (fun ha hx => ?_)).gz
      · subst e
        rw [hP]
        simp only [pwh, Nat.add_sub_cancel]
        rcases hfm with rfl | rfl
        · simp
        · rw [if_neg (by decide : ¬ (1 : Nat) = 0)]
          by_cases e0 : l = 0
          · have := (hq e0 rfl).2 rfl
            simp [this]
          · simp [e0]
      · rw [pf_of hP, hstep ha, if_neg hx]
      · have h9 := hstep ha
        rw [if_pos hx] at h9
        exact ⟨at_ + 1, lc, lt, ql, by omega, ⟨hSS.s31 (by omega), zz_of hP hz (by rw [h9]), by rw [ps_of hP, h9], MRd.s hR⟩, hN, by omega⟩
    by_cases ha : at_ < N
    · rw [look_in hSS ha, bd_s, letterOf_e, bd_s]
      cases hg : isL (t at_)
      · rw [if_neg (by decide : ¬ false = true), if_pos (by decide : (-1 : Int32) ≤ 0)]
        by_cases e0 : l = 0
        · rw [if_pos (show nI l = 0 by rw [e0]; rfl), b1, b3, if_neg (nI_ge ha (by omega))]
          refine (faulty_e (f := 2) b3 (by decide) (flt_at ha hz ?_ (by decide))).gz
          rw [pf_of hP]
          simp only [pstep, Nat.add_sub_cancel, if_neg (by decide : ¬ (2 : Nat) = 0), if_neg (by decide : ¬ (2 : Nat) = 1), if_true]
          rw [if_neg (by omega), if_neg (fun h9 => (hq e0 h9.1).1 ha h9.2.2.2 h9.2.1), if_pos hg]
        · rw [if_neg (nI_ne0 (by omega) (by omega))]
          exact h114 (by omega) (fun _ => hg)
      · have hn10 : ¬ t at_ = 10 := fun h => by rw [h] at hg; exact absurd hg (by decide)
        have hn62 : ¬ t at_ = 62 := fun h => by rw [h] at hg; exact absurd hg (by decide)
        have hstep : pstep fm (t at_) (2, h + 1, l, ns, lc, nm, lt, ql) = if lc h < 120 then (0, (2, h + 1, l + 1, ns, va_up lc h (lc h + 1), nm, up2 lt h (lc h) (t at_), up2 ql h (lc h) 40)) else (3, (2, h + 1, l, ns, lc, nm, lt, ql)) := by
          simp only [pstep, Nat.add_sub_cancel, if_neg (by decide : ¬ (2 : Nat) = 0), if_neg (by decide : ¬ (2 : Nat) = 1), if_true]
          rw [if_neg (fun h => hn10 h.1), if_neg (fun h => hn62 h.2.1), if_neg (by rw [hg]; decide)]
        rw [if_pos rfl, if_neg (isL_pos hg), show (120 : Int32) = nI 120 from rfl, gd_t (inb_n (show 60 + h < ln 43 by show 60 + h < 120; omega) (by decide)), nI_clamp (by omega), h43]
        by_cases h120 : lc h = 120
        · rw [if_pos (show nI (lc h) = nI 120 by rw [h120])]
          exact (faulty_e (f := 3) b3 (by decide) (flt_at ha hz (by rw [pf_of hP, hstep, if_neg (by omega)]) (by decide))).gz
        · rw [if_neg (show ¬ nI (lc h) = nI 120 from fun h => h120 ((nI_eq (by omega) (by omega)).mp h)), gd_t (inb_n (show 60 + h < ln 43 by show 60 + h < 120; omega) (by decide)), look_in hSS ha, bd_s, pk_mul, nI_add, gd_t (inb_n (show 120 * (60 + h) + lc h < ln 44 by show 120 * (60 + h) + lc h < 14400; omega) (by decide)), nx_e, gd_t (inb_n (show 60 + h < ln 43 by show 60 + h < 120; omega) (by decide)), sA_q (p := 43) (q := 44) (by decide), h43, nI_add, gd_t (inb_n (show 120 * (60 + h) + lc h < ln 45 by show 120 * (60 + h) + lc h < 14400; omega) (by decide)), nx_e, gd_t (inb_n (show 60 + h < ln 43 by show 60 + h < 120; omega) (by decide)), gd_t (inb_n (show 60 + h < ln 43 by show 60 + h < 120; omega) (by decide)), sA_q (p := 43) (q := 45) (by decide), sA_q (p := 43) (q := 44) (by decide), h43, nI_1, nx_e, nI_1, nx_e, nx_e, sA_o, sA_o, sA_o, b3, nI_1]
          rw [if_pos (by omega)] at hstep
          generalize hτ : sA (sA (sA σ 44 (nI (120 * (60 + h) + lc h)) (t at_)) 45 (nI (120 * (60 + h) + lc h)) 40) 43 (nI (60 + h)) (nI (lc h + 1)) = τ
          have f0 : FrR σ τ := by
            rw [← hτ]
            exact ((FrR.a (by omega) (by omega)).tr (FrR.a (by omega) (by omega))).tr (FrR.a (by omega) (by omega))
          have t44 : τ.2.1 44 = upd (σ.2.1 44) (120 * (60 + h) + lc h) (t at_) := by
            rw [← hτ, sA_q (by decide), sA_q (by decide), sA_s (by omega)]
          have t45 : τ.2.1 45 = upd (σ.2.1 45) (120 * (60 + h) + lc h) 40 := by
            rw [← hτ, sA_q (by decide), sA_s (by omega), sA_q (by decide)]
          have t43 : τ.2.1 43 = upd (σ.2.1 43) (60 + h) (nI (lc h + 1)) := by
            rw [← hτ, sA_s (by omega), sA_q (by decide), sA_q (by decide)]
          have t42 : τ.2.1 42 = σ.2.1 42 := by
            rw [← hτ, sA_q (by decide), sA_q (by decide), sA_q (by decide)]
          have hSτ : MS τ N t at_ h := by
            rw [← hτ]
            exact ((hSS.a (by decide)).a (by decide)).a (by decide)
          have hNτ : MNs τ (h + 1) ns := by
            rw [← hτ]
            exact ((hN.q (by decide)).q (by decide)).q (by decide)
          refine ((ih (sS τ 39 31 (nI (at_ + 1))) (at_ + 1) (l + 1) (va_up lc h (lc h + 1)) (up2 lt h (lc h) (t at_)) (up2 ql h (lc h) 40) (by omega) ⟨hSτ.s31 (by omega), zz_of hP hz (by rw [hstep]), by rw [ps_of hP, hstep], ?_⟩ hNτ (fun h => by omega)).fr (f0.tr (FrR.s (by omega)))).mono (fun _ ⟨a, q1, q2, q3, q4, q5⟩ => ⟨a, q1, q2, q3, by omega, q5⟩)
          intro i hi
          show (∀ k, k < ns i → τ.2.1 42 (40 * (60 + i) + k) = nm i k) ∧ τ.2.1 43 (60 + i) = nI (va_up lc h (lc h + 1) i) ∧ (∀ k, k < va_up lc h (lc h + 1) i → τ.2.1 44 (120 * (60 + i) + k) = up2 lt h (lc h) (t at_) i k) ∧ (∀ k, k < va_up lc h (lc h + 1) i → τ.2.1 45 (120 * (60 + i) + k) = up2 ql h (lc h) 40 i k)
          rw [t42, t43, t44, t45]
          obtain ⟨c1, c2, c3, c4⟩ := hR i hi
          by_cases e : i = h
          · subst e
            rw [upN_s, upd_s]
            refine ⟨c1, rfl, fun k hk => ?_, fun k hk => ?_⟩
            · by_cases e2 : k = lc i
              · subst e2; rw [upd_s, up2_s]
              · rw [upd_n (by omega), up2_k e2]; exact c3 k (by omega)
            · by_cases e2 : k = lc i
              · subst e2; rw [upd_s, up2_s]
              · rw [upd_n (by omega), up2_k e2]; exact c4 k (by omega)
          · have h120' := (a9 i hi).2.1
            rw [upN_n e, upd_n (by omega), up2_i e, up2_i e]
            exact ⟨c1, c2, fun k hk => by rw [upd_n (by omega)]; exact c3 k hk, fun k hk => by rw [upd_n (by omega)]; exact c4 k hk⟩
    · have e : at_ = N := by omega
      subst e
      rw [look_out hSS, bd_s, letterOf_e, bd_s, if_neg (by decide : ¬ isL (-1) = true), if_pos (by decide : (-1 : Int32) ≤ 0)]
      by_cases e0 : l = 0
      · rw [if_pos (show nI l = 0 by rw [e0]; rfl), b1, b3, if_pos (nI_le (Nat.le_refl _) (by omega))]
        exact h114 (Or.inl rfl) (fun h => by omega)
      · rw [if_neg (nI_ne0 (by omega) (by omega))]
        exact h114 (Or.inl rfl) (fun h => by omega)
theorem letterLine_e {h : Nat} {ns lc : Nat → Nat} {nm lt ql : Nat → Nat → Int32} (hfm : fm = 0 ∨ fm = 1) (hh : h < 60) (H : MA σ fm N t at_ h (2, h + 1, 0, ns, lc, nm, lt, ql)) (hN : MNs σ (h + 1) ns) (hq : fm = 1 → (at_ < N → 0 < lc h → t at_ ≠ 62) ∧ (at_ = N → lc h = 0)) : LO σ fm t N (fun σ' => ∃ a lc' lt' ql', at_ < a ∧ MA σ' fm N t a h ((if fm = 0 then 3 else 2), h + 1, 0, ns, lc', nm, lt', ql') ∧ MNs σ' (h + 1) ns ∧ 0 < lc' h) (f_X9_letterLine (nI (60 + h)) σ) := by
  have b := H.1.2.2.2.2.2.1
  exact letter_loop hfm hh FU σ at_ 0 lc lt ql (by simp only [FU]; omega) H hN (fun _ => hq)
theorem plus_loop {h : Nat} {ns lc : Nat → Nat} {nm lt ql : Nat → Nat → Int32} (hh : h < 60) : ∀ (fu : Nat) (σ : St) (at_ l : Nat), N < fu + at_ → l ≤ ns h → (l = 0 → at_ < N → t at_ ≠ 10) → 0 < ns h → MA σ 0 N t at_ h (4, h + 1, l, ns, lc, nm, lt, ql) → MNs σ (h + 1) ns → LO σ 0 t N (fun σ' => ∃ a, MA σ' 0 N t a h (5, h + 1, 0, ns, lc, nm, lt, ql) ∧ MNs σ' (h + 1) ns) (l_X9_plusLine_34 fu (nI (60 + h)) (nI l) σ) := by
  intro fu
  induction fu with
  | zero => intro σ at_ l h1 _ _ _ H; obtain ⟨⟨-, -, -, -, b5, -⟩, -⟩ := H; omega
  | succ fu ih =>
    intro σ at_ l h1 hl hl0 hns0 H hN
    obtain ⟨hS, hz, hP, hR⟩ := H
    have hSS := hS
    obtain ⟨b1, b2, b3, b4, b5, b6, b7⟩ := hS
    have hvP := psAt_v (fm := 0) (t := t) (Or.inl rfl) at_ hz
    rw [hP] at hvP
    obtain ⟨a1, a2, a3, a4, a5, a6, a7, a8, a9, a10, a11, a12, a13⟩ := hvP
    have hns : ns h ≤ 40 := (a9 h (by omega)).1
    have hend : at_ = N → pwh 0 (psAt 0 t N) = false := fun e => by
      subst e
      rw [hP]
      simp [pwh]
    show LO σ 0 t N _ (b_X9_plusLine_34 (l_X9_plusLine_34 fu) (nI (60 + h)) (nI l) σ)
    unfold b_X9_plusLine_34
    rw [gd_t (inb_n (show 60 + h < ln 41 by show 60 + h < 120; omega) (by decide)), nI_clamp (by omega), hN h (by omega)]
    by_cases e : l = ns h
    · rw [if_pos (nI_le (by omega) (by omega))]
      have hstep : pstep 0 (t at_) (4, h + 1, l, ns, lc, nm, lt, ql) = if t at_ = 10 then (0, (5, h + 1, 0, ns, lc, nm, lt, ql)) else (2, (4, h + 1, l, ns, lc, nm, lt, ql)) := by
        simp only [pstep, Nat.add_sub_cancel, if_neg (by decide : ¬ (4 : Nat) = 0), if_neg (by decide : ¬ (4 : Nat) = 1), if_neg (by decide : ¬ (4 : Nat) = 2), if_neg (by decide : ¬ (4 : Nat) = 3), if_true]
        by_cases hx : t at_ = 10
        · rw [if_pos ⟨hx, Or.inr e⟩, if_pos hx]
        · rw [if_neg (fun h => hx h.1), if_neg (fun h => by omega), if_neg hx]
      refine (must_e hSS hz hend (fun ha hx => ?_) (fun ha hx => ?_)).gz
      · rw [pf_of hP, hstep, if_neg hx]
      · rw [if_pos hx] at hstep
        exact ⟨at_ + 1, ⟨hSS.s31 (by omega), zz_of hP hz (by rw [hstep]), by rw [ps_of hP, hstep], MRd.s hR⟩, hN⟩
    · have hlt : l < ns h := by omega
      have hnm : σ.2.1 42 (40 * (60 + h) + l) = nm h l := (hR h (by omega)).1 l hlt
      rw [if_neg (nI_ge hlt (by omega)), show (40 : Int32) = nI 40 from rfl, pk_mul, nI_add, gd_t (inb_n (show 40 * (60 + h) + l < ln 42 by show 40 * (60 + h) + l < 4800; omega) (by decide)), nI_clamp (by omega), hnm]
      have hstep : at_ < N → pstep 0 (t at_) (4, h + 1, l, ns, lc, nm, lt, ql) = if t at_ = nm h l then (0, (4, h + 1, l + 1, ns, lc, nm, lt, ql)) else (2, (4, h + 1, l, ns, lc, nm, lt, ql)) := by
        intro ha
        simp only [pstep, Nat.add_sub_cancel, if_neg (by decide : ¬ (4 : Nat) = 0), if_neg (by decide : ¬ (4 : Nat) = 1), if_neg (by decide : ¬ (4 : Nat) = 2), if_neg (by decide : ¬ (4 : Nat) = 3), if_true]
        rw [if_neg (fun h9 => h9.2.elim (fun e0 => hl0 e0 ha h9.1) (fun e1 => e e1))]
        by_cases hx : t at_ = nm h l
        · rw [if_pos ⟨hlt, hx⟩, if_pos hx]
        · rw [if_neg (fun h => hx h.2), if_neg hx]
      refine LO.bd (must_e (G9 := fun σ' => σ' = sS σ 39 31 (nI (at_ + 1)) ∧ at_ < N ∧ t at_ = nm h l) hSS hz hend (fun ha hx => by rw [pf_of hP, hstep ha, if_neg hx]) (fun ha hx => ⟨rfl, ha, hx⟩)) (fun σ' _ => by rw [if_pos rfl, gz_0]) (fun σ' hf hg => ?_)
      obtain ⟨rfl, ha, hx⟩ := hg
      have h9 := hstep ha
      rw [if_pos hx] at h9
      rw [if_neg (by decide), nx_e, nI_1]
      exact ih _ (at_ + 1) (l + 1) (by omega) (by omega) (fun h => by omega) hns0 ⟨hSS.s31 (by omega), zz_of hP hz (by rw [h9]), by rw [ps_of hP, h9], MRd.s hR⟩ hN
theorem plusLine_e {h : Nat} {ns lc : Nat → Nat} {nm lt ql : Nat → Nat → Int32} (hh : h < 60) (hns0 : 0 < ns h) (H : MA σ 0 N t at_ h (3, h + 1, 0, ns, lc, nm, lt, ql)) (hN : MNs σ (h + 1) ns) : LO σ 0 t N (fun σ' => ∃ a, MA σ' 0 N t a h (5, h + 1, 0, ns, lc, nm, lt, ql) ∧ MNs σ' (h + 1) ns) (f_X9_plusLine (nI (60 + h)) σ) := by
  obtain ⟨hS, hz, hP, hR⟩ := H
  have hSS := hS
  obtain ⟨b1, b2, b3, b4, b5, b6, b7⟩ := hS
  unfold f_X9_plusLine
  have hstep : pstep 0 (t at_) (3, h + 1, 0, ns, lc, nm, lt, ql) = if t at_ = 43 then (0, (4, h + 1, 0, ns, lc, nm, lt, ql)) else (2, (3, h + 1, 0, ns, lc, nm, lt, ql)) := by
    simp only [pstep, if_neg (by decide : ¬ (3 : Nat) = 0), if_neg (by decide : ¬ (3 : Nat) = 1), if_neg (by decide : ¬ (3 : Nat) = 2), if_true]
  refine LO.bd (must_e (G9 := fun σ' => σ' = sS σ 39 31 (nI (at_ + 1)) ∧ at_ < N ∧ t at_ = 43) hSS hz (fun e => by subst e; rw [hP]; simp [pwh]) (fun ha hx => by rw [pf_of hP, hstep, if_neg hx]) (fun ha hx => ⟨rfl, ha, hx⟩)) (fun σ' _ => by rw [if_pos rfl, gz_0]) (fun σ' hf hg => ?_)
  obtain ⟨rfl, ha, hx⟩ := hg
  rw [if_pos hx] at hstep
  rw [if_neg (by decide)]
  have hS1 : MS (sS σ 39 31 (nI (at_ + 1))) N t (at_ + 1) h := hSS.s31 (by omega)
  have hz1 := zz_of hP hz (by rw [hstep])
  have hP1 : psAt 0 t (at_ + 1) = (4, h + 1, 0, ns, lc, nm, lt, ql) := by rw [ps_of hP, hstep]
  by_cases ha1 : at_ + 1 < N
  · rw [look_in hS1 ha1, bd_s]
    by_cases hx1 : t (at_ + 1) = 10
    · rw [if_pos hx1, nx_e, hS1.2.2.1, nI_1, gz_1]
      have hst : pstep 0 (t (at_ + 1)) (4, h + 1, 0, ns, lc, nm, lt, ql) = (0, (5, h + 1, 0, ns, lc, nm, lt, ql)) := by
        simp only [pstep, if_neg (by decide : ¬ (4 : Nat) = 0), if_neg (by decide : ¬ (4 : Nat) = 1), if_neg (by decide : ¬ (4 : Nat) = 2), if_neg (by decide : ¬ (4 : Nat) = 3), if_true]
        rw [if_pos ⟨hx1, Or.inl trivial⟩]
      exact ⟨_, true, rfl, FrR.s (by omega), (fun h => by cases h), fun _ => ⟨at_ + 1 + 1, ⟨hS1.s31 (by omega), zz_of hP1 hz1 (by rw [hst]), by rw [ps_of hP1, hst], MRd.s (MRd.s hR)⟩, hN⟩⟩
    · rw [if_neg hx1]
      exact plus_loop hh FU _ (at_ + 1) 0 (by simp only [FU]; omega) (by omega) (fun _ _ => hx1) hns0 ⟨hS1, hz1, hP1, MRd.s hR⟩ hN
  · have e : at_ + 1 = N := by omega
    rw [e] at hS1 hP1 hz1
    rw [e, look_out hS1, bd_s, if_neg (by decide)]
    exact plus_loop hh FU _ N 0 (by simp only [FU]; omega) (by omega) (fun _ h => by omega) hns0 ⟨hS1, hz1, hP1, MRd.s hR⟩ hN
theorem qual_loop {h : Nat} {ns lc : Nat → Nat} {nm lt : Nat → Nat → Int32} (hh : h < 60) : ∀ (fu : Nat) (σ : St) (at_ l : Nat) (ql : Nat → Nat → Int32), N < fu + at_ → MA σ 0 N t at_ h (5, h + 1, l, ns, lc, nm, lt, ql) → MNs σ (h + 1) ns → LO σ 0 t N (fun σ' => ∃ a ql', MA σ' 0 N t a h (0, h + 1, 0, ns, lc, nm, lt, ql') ∧ MNs σ' (h + 1) ns) (l_X9_qualityLine_2 fu (nI (60 + h)) (nI l) σ) := by
  intro fu
  induction fu with
  | zero => intro σ at_ l ql h1 H; obtain ⟨⟨-, -, -, -, b5, -⟩, -⟩ := H; omega
  | succ fu ih =>
    intro σ at_ l ql h1 H hN
    obtain ⟨hS, hz, hP, hR⟩ := H
    have hSS := hS
    obtain ⟨b1, b2, b3, b4, b5, b6, b7⟩ := hS
    have hvP := psAt_v (fm := 0) (t := t) (Or.inl rfl) at_ hz
    rw [hP] at hvP
    obtain ⟨a1, a2, a3, a4, a5, a6, a7, a8, a9, a10, a11, a12, a13⟩ := hvP
    have hlc : lc h ≤ 120 := (a9 h (by omega)).2.1
    have hl7 : l ≤ lc h := a7 rfl
    have h43 : σ.2.1 43 (60 + h) = nI (lc h) := (hR h (by omega)).2.1
    have hend : at_ = N → pwh 0 (psAt 0 t N) = false := fun e => by
      subst e
      rw [hP]
      simp [pwh]
    show LO σ 0 t N _ (b_X9_qualityLine_2 (l_X9_qualityLine_2 fu) (nI (60 + h)) (nI l) σ)
    unfold b_X9_qualityLine_2 b_X9_qualityLine_47
    rw [gd_t (inb_n (show 60 + h < ln 43 by show 60 + h < 120; omega) (by decide)), nI_clamp (by omega), h43]
    by_cases e : l = lc h
    · rw [if_pos (nI_le (by omega) (by omega))]
      have hstep : pstep 0 (t at_) (5, h + 1, l, ns, lc, nm, lt, ql) = if t at_ = 10 then (0, (0, h + 1, 0, ns, lc, nm, lt, ql)) else (2, (5, h + 1, l, ns, lc, nm, lt, ql)) := by
        simp only [pstep, Nat.add_sub_cancel, if_neg (by decide : ¬ (5 : Nat) = 0), if_neg (by decide : ¬ (5 : Nat) = 1), if_neg (by decide : ¬ (5 : Nat) = 2), if_neg (by decide : ¬ (5 : Nat) = 3), if_neg (by decide : ¬ (5 : Nat) = 4)]
        rw [if_neg (by omega)]
      refine (must_e hSS hz hend (fun ha hx => ?_) (fun ha hx => ?_)).gz
      · rw [pf_of hP, hstep, if_neg hx]
      · rw [if_pos hx] at hstep
        exact ⟨at_ + 1, ql, ⟨hSS.s31 (by omega), zz_of hP hz (by rw [hstep]), by rw [ps_of hP, hstep], MRd.s hR⟩, hN⟩
    · have hlt : l < lc h := by omega
      rw [if_neg (nI_ge hlt (by omega)), b3, b1]
      by_cases ea : at_ = N
      · subst ea
        rw [if_pos rfl]
        exact (faulty_e (f := 1) b3 (by decide) (flt_end hz (hend rfl))).gz
      · have ha : at_ < N := by omega
        have hstep : pstep 0 (t at_) (5, h + 1, l, ns, lc, nm, lt, ql) = if isSg (t at_) = false then (2, (5, h + 1, l, ns, lc, nm, lt, ql)) else (0, (5, h + 1, l + 1, ns, lc, nm, lt, up2 ql h l (t at_ - 33))) := by
          simp only [pstep, Nat.add_sub_cancel, if_neg (by decide : ¬ (5 : Nat) = 0), if_neg (by decide : ¬ (5 : Nat) = 1), if_neg (by decide : ¬ (5 : Nat) = 2), if_neg (by decide : ¬ (5 : Nat) = 3), if_neg (by decide : ¬ (5 : Nat) = 4)]
          rw [if_pos hlt]
        rw [if_neg (fun h => ea ((nI_eq (by omega) (by omega)).mp h)), look_in hSS ha, bd_s]
        by_cases hlo : t at_ < 33
        · have hsg : isSg (t at_) = false := by
            have : ¬ (33 ≤ t at_ ∧ t at_ ≤ 126) := fun h => absurd h.1 (Int32.not_le.mpr hlo)
            simp [isSg, this]
          rw [if_pos hlo]
          exact (faulty_e (f := 2) b3 (by decide) (flt_at ha hz (by rw [pf_of hP, hstep, if_pos hsg]) (by decide))).gz
        · rw [if_neg hlo, look_in hSS ha, bd_s]
          by_cases hhi : t at_ ≤ 126
          · have hsg : isSg (t at_) = true := by
              have : (33 ≤ t at_ ∧ t at_ ≤ 126) := ⟨Int32.not_lt.mp hlo, hhi⟩
              simp [isSg, this]
            rw [if_pos hhi, look_in hSS ha, bd_s, show (120 : Int32) = nI 120 from rfl, pk_mul, nI_add, gd_t (inb_n (show 120 * (60 + h) + l < ln 45 by show 120 * (60 + h) + l < 14400; omega) (by decide)), nx_e, sA_o, b3, nI_1, nx_e, nI_1, nx_e]
            rw [if_neg (by rw [hsg]; decide)] at hstep
            have f1 : FrR σ (sS (sA σ 45 (nI (120 * (60 + h) + l)) (t at_ - 33)) 39 31 (nI (at_ + 1))) := (FrR.a (by omega) (by omega)).tr (FrR.s (by omega))
            refine (ih (sS (sA σ 45 (nI (120 * (60 + h) + l)) (t at_ - 33)) 39 31 (nI (at_ + 1))) (at_ + 1) (l + 1) (up2 ql h l (t at_ - 33)) (by omega) ⟨(hSS.a (by decide)).s31 (by omega), zz_of hP hz (by rw [hstep]), by rw [ps_of hP, hstep], ?_⟩ (hN.q (by decide))).fr f1
            intro i hi
            rw [show (sS (sA σ 45 (nI (120 * (60 + h) + l)) (t at_ - 33)) 39 31 (nI (at_ + 1))).2.1 = (sA σ 45 (nI (120 * (60 + h) + l)) (t at_ - 33)).2.1 from rfl, sA_s (by omega), sA_q (by decide), sA_q (by decide), sA_q (by decide)]
            obtain ⟨c1, c2, c3, c4⟩ := hR i hi
            refine ⟨c1, c2, c3, fun k hk => ?_⟩
            by_cases e2 : i = h
            · subst e2
              by_cases e3 : k = l
              · subst e3; rw [upd_s, up2_s]
              · rw [upd_n (by omega), up2_k e3]; exact c4 k hk
            · have h120' := (a9 i hi).2.1
              rw [upd_n (by omega), up2_i e2]
              exact c4 k hk
          · have hsg : isSg (t at_) = false := by
              have : ¬ (33 ≤ t at_ ∧ t at_ ≤ 126) := fun h => absurd h.2 hhi
              simp [isSg, this]
            rw [if_neg hhi]
            exact (faulty_e (f := 2) b3 (by decide) (flt_at ha hz (by rw [pf_of hP, hstep, if_pos hsg]) (by decide))).gz
theorem qualityLine_e {h : Nat} {ns lc : Nat → Nat} {nm lt ql : Nat → Nat → Int32} (hh : h < 60) (H : MA σ 0 N t at_ h (5, h + 1, 0, ns, lc, nm, lt, ql)) (hN : MNs σ (h + 1) ns) : LO σ 0 t N (fun σ' => ∃ a ql', MA σ' 0 N t a h (0, h + 1, 0, ns, lc, nm, lt, ql') ∧ MNs σ' (h + 1) ns) (f_X9_qualityLine (nI (60 + h)) σ) := by
  have b := H.1.2.2.2.2.2.1
  exact qual_loop hh FU σ at_ 0 ql (by simp only [FU]; omega) H hN
end ML2
