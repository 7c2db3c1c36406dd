section ML
/-- where the model stands in the text: the steps up to there had no fault and came to P; what it holds of the reads -/
def MA (σ : St) (fm N : Nat) (t : Nat → Int32) (at_ hand : Nat) (P : PS) : Prop := MS σ N t at_ hand ∧ (∀ j, j < at_ → pf fm t j = 0) ∧ psAt fm t at_ = P ∧ match P with
  | (_, n, _, ns, lc, nm, lt, ql) => MRd σ n ns lc nm lt ql
variable {σ : St} {N at_ hand fm : Nat} {t : Nat → Int32}
theorem MRd.s {n j : Nat} {v : Int32} {ns lc : Nat → Nat} {nm lt ql : Nat → Nat → Int32} (h : MRd σ n ns lc nm lt ql) : MRd (sS σ 39 j v) n ns lc nm lt ql := h
theorem MRd.a41 {n : Nat} {i v : Int32} {ns lc : Nat → Nat} {nm lt ql : Nat → Nat → Int32} (h : MRd σ n ns lc nm lt ql) : MRd (sA σ 41 i v) n ns lc nm lt ql := by
  intro i hi
  rw [sA_q (by decide), sA_q (by decide), sA_q (by decide), sA_q (by decide)]
  exact h i hi
theorem MNs.q {n q : Nat} {i v : Int32} {ns : Nat → Nat} (h : MNs σ n ns) (hq : q ≠ 41) : MNs (sA σ q i v) n ns := fun i hi => by rw [sA_q (Ne.symm hq)]; exact h i hi
theorem pf_of {P : PS} (h : psAt fm t at_ = P) : pf fm t at_ = (pstep fm (t at_) P).1 := by rw [pf, h]
theorem ps_of {P : PS} (h : psAt fm t at_ = P) : psAt fm t (at_ + 1) = (pstep fm (t at_) P).2 := by rw [psAt, h]
theorem zz_of {P : PS} (h : psAt fm t at_ = P) (hz : ∀ j, j < at_ → pf fm t j = 0) (h0 : (pstep fm (t at_) P).1 = 0) : ∀ j, j < at_ + 1 → pf fm t j = 0 := fun j hj => by
  by_cases e : j = at_
  · subst e; rw [pf_of h]; exact h0
  · exact hz j (by omega)
/-- behind the name: its line end -/
theorem name_end {h : Nat} {ns lc : Nat → Nat} {nm lt ql : Nat → Nat → Int32} (H : MA σ fm N t at_ h (1, h + 1, 0, ns, lc, nm, lt, ql)) (hN : MNs σ h ns) (hh : h < 60) (hv : ns h ≤ 40) (hs : at_ < N → isSg (t at_) = false) : LO σ fm t N (fun σ' => ∃ a, MA σ' fm N t a h (2, h + 1, 0, ns, lc, nm, lt, ql) ∧ MNs σ' (h + 1) ns ∧ 0 < ns h) (b_X9_nameLine_119 (nI (60 + h)) (nI (ns h)) σ) := by
  obtain ⟨hS, hz, hP, hR⟩ := H
  have hSS := hS
  obtain ⟨b1, b2, b3, b4, b5, b6, b7⟩ := hS
  unfold b_X9_nameLine_119
  rw [gd_t (inb_n (show 60 + h < ln 41 by show 60 + h < 120; omega) (by decide)), nx_e]
  have f1 : FrR σ (sA σ 41 (nI (60 + h)) (nI (ns h))) := FrR.a (by omega) (by omega)
  have hS1 : MS (sA σ 41 (nI (60 + h)) (nI (ns h))) N t at_ h := hSS.a (by decide)
  have hR1 : MRd (sA σ 41 (nI (60 + h)) (nI (ns h))) (h + 1) ns lc nm lt ql := MRd.a41 hR
  have hN1 : MNs (sA σ 41 (nI (60 + h)) (nI (ns h))) (h + 1) ns := fun i hi => by
    rw [sA_s (by omega)]
    by_cases e : i = h
    · subst e; rw [upd_s]
    · rw [upd_n (by omega)]; exact hN i (by omega)
  have hend : pwh fm (1, h + 1, 0, ns, lc, nm, lt, ql) = false := by
    simp only [pwh]
    split <;> simp
  have h145 : ¬ (ns h = 0 ∧ at_ < N ∧ t at_ = 10) → LO (sA σ 41 (nI (60 + h)) (nI (ns h))) fm t N (fun σ' => ∃ a, MA σ' fm N t a h (2, h + 1, 0, ns, lc, nm, lt, ql) ∧ MNs σ' (h + 1) ns ∧ 0 < ns h) (b_X9_nameLine_145 (sA σ 41 (nI (60 + h)) (nI (ns h)))) := by
    intro hc
    unfold b_X9_nameLine_145
    have hstep : at_ < N → (pstep fm (t at_) (1, h + 1, 0, ns, lc, nm, lt, ql)) = if t at_ = 10 then (0, (2, h + 1, 0, ns, lc, nm, lt, ql)) else (2, (1, h + 1, 0, ns, lc, nm, lt, ql)) := by
      intro ha
      simp only [pstep, Nat.add_sub_cancel, if_neg (by decide : ¬ (1 : Nat) = 0), if_true]
      by_cases hx : t at_ = 10
      · rw [if_pos ⟨hx, Nat.pos_of_ne_zero (fun e => hc ⟨e, ha, hx⟩)⟩, if_pos hx]
      · rw [if_neg (fun h => hx h.1), if_neg hx, if_pos (hs ha)]
    refine (must_e hS1 hz (fun e => ?_) (fun ha hx => ?_) (fun ha hx => ?_)).gz
    · subst e; rw [hP]; exact hend
    · rw [pf_of hP, hstep ha, if_neg hx]
    · have h9 := hstep ha
      rw [if_pos hx] at h9
      refine ⟨at_ + 1, ⟨hS1.s31 (by omega), zz_of hP hz (by rw [h9]), by rw [ps_of hP, h9], hR1.s⟩, hN1, Nat.pos_of_ne_zero (fun e => hc ⟨e, ha, hx⟩)⟩
  have key : LO (sA σ 41 (nI (60 + h)) (nI (ns h))) fm t N (fun σ' => ∃ a, MA σ' fm N t a h (2, h + 1, 0, ns, lc, nm, lt, ql) ∧ MNs σ' (h + 1) ns ∧ 0 < ns h) (if nI (ns h) = 0 then bd (f_X9_look (sA σ 41 (nI (60 + h)) (nI (ns h)))) (fun r5 s6 => (if r5 = (10 : Int32) then bd (f_X9_faulty (2 : Int32) s6) (fun r9 s10 => gz r9 (some (r9, s10))) else b_X9_nameLine_145 s6)) else b_X9_nameLine_145 (sA σ 41 (nI (60 + h)) (nI (ns h)))) := by
    by_cases e0 : ns h = 0
    · rw [if_pos (show nI (ns h) = 0 by rw [e0]; rfl)]
      by_cases ha : at_ < N
      · rw [look_in hS1 ha, bd_s]
        by_cases hx : t at_ = 10
        · rw [if_pos hx]
          refine (faulty_e (f := 2) hS1.2.2.1 (by decide) (flt_at ha hz ?_ (by decide))).gz
          rw [pf_of hP]
          simp only [pstep, Nat.add_sub_cancel, if_neg (by decide : ¬ (1 : Nat) = 0), if_true]
          rw [if_neg (by omega), if_pos (hs ha)]
        · rw [if_neg hx]
          exact h145 (fun h => hx h.2.2)
      · have e : at_ = N := by omega
        subst e
        rw [look_out hS1, bd_s, if_neg (by decide)]
        exact h145 (fun h => by omega)
    · rw [if_neg (nI_ne0 (by omega) (by omega))]
      exact h145 (fun h => e0 h.1)
  exact key.fr f1
theorem name_loop {h : Nat} (hfm : fm = 0 ∨ fm = 1) (hh : h < 60) : ∀ (fu : Nat) (σ : St) (at_ : Nat) (ns lc : Nat → Nat) (nm lt ql : Nat → Nat → Int32), N < fu + at_ → MA σ fm N t at_ h (1, h + 1, 0, ns, lc, nm, lt, ql) → MNs σ h ns → LO σ fm t N (fun σ' => ∃ a ns' nm', MA σ' fm N t a h (2, h + 1, 0, ns', lc, nm', lt, ql) ∧ MNs σ' (h + 1) ns' ∧ 0 < ns' h) (l_X9_nameLine_58 fu (nI (60 + h)) (nI (ns h)) σ) := by
  intro fu
  induction fu with
  | zero => intro σ at_ ns lc nm lt ql h1 H; obtain ⟨⟨-, -, -, -, b5, -⟩, -⟩ := H; omega
  | succ fu ih =>
    intro σ at_ ns lc nm lt ql h1 H hN
    have HH := H
    obtain ⟨hS, hz, hP, hR⟩ := H
    have hSS := hS
    obtain ⟨b1, b2, b3, b4, b5, b6, b7⟩ := hS
    have hvP := psAt_v (fm := fm) (t := t) hfm at_ hz
    rw [hP] at hvP
    obtain ⟨a1, a2, a3, a4, a5, a6, a7, a8, a9, a10, a11, a12, a13⟩ := hvP
    have hns : ns h ≤ 40 := (a9 h (by omega)).1
    show LO σ fm t N _ (b_X9_nameLine_58 (l_X9_nameLine_58 fu) (nI (60 + h)) (nI (ns h)) σ)
    have hx119 : (at_ < N → isSg (t at_) = false) → LO σ fm t N (fun σ' => ∃ a ns' nm', MA σ' fm N t a h (2, h + 1, 0, ns', lc, nm', lt, ql) ∧ MNs σ' (h + 1) ns' ∧ 0 < ns' h) (b_X9_nameLine_119 (nI (60 + h)) (nI (ns h)) σ) := by
      intro hs
      obtain ⟨σ', g, e, f1, f2, f3⟩ := name_end HH hN hh hns hs
      exact ⟨σ', g, e, f1, f2, fun hg => by obtain ⟨a, q1, q2, q3⟩ := f3 hg; exact ⟨a, ns, nm, q1, q2, q3⟩⟩
    unfold b_X9_nameLine_58
    by_cases ha : at_ < N
    · rw [look_in hSS ha, bd_s]
      by_cases hlo : t at_ < 33
      · rw [if_pos hlo]
        exact hx119 (fun _ => by
          have : ¬ (33 ≤ t at_ ∧ t at_ ≤ 126) := fun h => absurd h.1 (Int32.not_le.mpr hlo)
          simp [isSg, this])
      · rw [if_neg hlo, look_in hSS ha, bd_s]
        by_cases hhi : 126 < t at_
        · rw [if_pos hhi]
          exact hx119 (fun _ => by
            have : ¬ (33 ≤ t at_ ∧ t at_ ≤ 126) := fun h => absurd h.2 (Int32.not_le.mpr hhi)
            simp [isSg, this])
        · have hsg : isSg (t at_) = true := by
            have : (33 ≤ t at_ ∧ t at_ ≤ 126) := ⟨Int32.not_lt.mp hlo, Int32.not_lt.mp hhi⟩
            simp [isSg, this]
          have hn10 : ¬ t at_ = 10 := fun h => hlo (by rw [h]; decide)
          have hstep : pstep fm (t at_) (1, h + 1, 0, ns, lc, nm, lt, ql) = if ns h < 40 then (0, (1, h + 1, 0, va_up ns h (ns h + 1), lc, up2 nm h (ns h) (t at_), lt, ql)) else (3, (1, h + 1, 0, ns, lc, nm, lt, ql)) := by
            simp only [pstep, Nat.add_sub_cancel, if_neg (by decide : ¬ (1 : Nat) = 0), if_true]
            rw [if_neg (fun h => hn10 h.1), if_neg (by rw [hsg]; decide)]
          rw [if_neg hhi, show (40 : Int32) = nI 40 from rfl]
          by_cases h40 : ns h = 40
          · rw [if_pos (show nI (ns h) = nI 40 by rw [h40])]
            exact (faulty_e (f := 3) b3 (by decide) (flt_at ha hz (by rw [pf_of hP, hstep, if_neg (by omega)]) (by decide))).gz
          · rw [if_neg (show ¬ nI (ns h) = nI 40 from fun h => h40 ((nI_eq (by omega) (by omega)).mp h)), look_in hSS ha, bd_s, pk_mul, nI_add, gd_t (inb_n (show 40 * (60 + h) + ns h < ln 42 by show 40 * (60 + h) + ns h < 4800; omega) (by decide)), nx_e, nI_1, nx_e, sA_o, b3, nI_1, nx_e]
            rw [if_pos (by omega)] at hstep
            have f1 : FrR σ (sS (sA σ 42 (nI (40 * (60 + h) + ns h)) (t at_)) 39 31 (nI (at_ + 1))) := (FrR.a (by omega) (by omega)).tr (FrR.s (by omega))
            have hih := ih (sS (sA σ 42 (nI (40 * (60 + h) + ns h)) (t at_)) 39 31 (nI (at_ + 1))) (at_ + 1) (va_up ns h (ns h + 1)) lc (up2 nm h (ns h) (t at_)) lt ql (by omega) ⟨(hSS.a (by decide)).s31 (by omega), zz_of hP hz (by rw [hstep]), by rw [ps_of hP, hstep], ?_⟩ ?_
            · rw [upN_s] at hih
              exact hih.fr f1
            · intro i hi
              rw [show (sS (sA σ 42 (nI (40 * (60 + h) + ns h)) (t at_)) 39 31 (nI (at_ + 1))).2.1 = (sA σ 42 (nI (40 * (60 + h) + ns h)) (t at_)).2.1 from rfl, sA_s (by omega), sA_q (by decide), sA_q (by decide), sA_q (by decide)]
              obtain ⟨c1, c2, c3, c4⟩ := hR i hi
              refine ⟨fun k hk => ?_, c2, c3, c4⟩
              by_cases e : i = h
              · subst e
                rw [upN_s] at hk
                by_cases e2 : k = ns i
                · subst e2; rw [upd_s, up2_s]
                · rw [upd_n (by omega), up2_k e2]; exact c1 k (by omega)
              · rw [upN_n e] at hk
                have h40' := (a9 i hi).1
                rw [upd_n (by omega), up2_i e]
                exact c1 k hk
            · intro i hi
              rw [show (sS (sA σ 42 (nI (40 * (60 + h) + ns h)) (t at_)) 39 31 (nI (at_ + 1))).2.1 = (sA σ 42 (nI (40 * (60 + h) + ns h)) (t at_)).2.1 from rfl, sA_q (by decide), upN_n (by omega)]
              exact hN i hi
    · have e : at_ = N := by omega
      subst e
      rw [look_out hSS, bd_s, if_pos (by decide)]
      exact hx119 (fun h => by omega)
/-- a read's first line -/
theorem nameLine_e {h : Nat} {P : PS} {ns lc : Nat → Nat} {nm lt ql : Nat → Nat → Int32} {s l : Nat} (hfm : fm = 0 ∨ fm = 1) (hPe : P = (s, h, l, ns, lc, nm, lt, ql)) (H : MA σ fm N t at_ h P) (hN : MNs σ h ns) (hh : h ≤ 60) (hm : at_ < N → pstep fm (t at_) P = pmark fm (t at_) P) (hend : at_ = N → pwh fm P = false) (h43 : h < 60 → σ.2.1 43 (60 + h) = 0) (r : Nat) (hr : h < 60 → r = h) : LO σ fm t N (fun σ' => h < 60 ∧ ∃ a ns' nm', MA σ' fm N t a h (2, h + 1, 0, ns', va_up lc h 0, nm', lt, ql) ∧ MNs σ' (h + 1) ns' ∧ 0 < ns' h) (f_X9_nameLine (mk fm) (nI (60 + r)) σ) := by
  subst hPe
  have HH := H
  obtain ⟨hS, hz, hP, hR⟩ := H
  have hSS := hS
  obtain ⟨b1, b2, b3, b4, b5, b6, b7⟩ := hS
  unfold f_X9_nameLine
  rw [b3, b1]
  by_cases e : at_ = N
  · subst e
    rw [if_pos rfl]
    exact (faulty_e (f := 1) b3 (by decide) (flt_end hz (by rw [hP]; exact hend rfl))).gz
  · have ha : at_ < N := by omega
    have hstep := hm ha
    simp only [pmark] at hstep
    rw [if_neg (fun h => e ((nI_eq (by omega) (by omega)).mp h)), look_in hSS ha, bd_s]
    by_cases hx : t at_ = mk fm
    · rw [if_pos hx] at hstep
      rw [if_pos hx, b4, show (60 : Int32) = nI 60 from rfl]
      by_cases h60 : h = 60
      · rw [if_pos (show nI h = nI 60 by rw [h60])]
        rw [if_neg (by omega)] at hstep
        exact (faulty_e (f := 4) b3 (by decide) (flt_at ha hz (by rw [pf_of hP, hstep]) (by decide))).gz
      · rw [if_neg (show ¬ nI h = nI 60 from fun h9 => h60 ((nI_eq (by omega) (by omega)).mp h9)), nx_e, b3, nI_1]
        rw [if_pos (by omega)] at hstep
        have hrr := hr (by omega)
        subst hrr
        have hlp := name_loop (fm := fm) (N := N) (t := t) (h := r) hfm (by omega) FU (sS σ 39 31 (nI (at_ + 1))) (at_ + 1) (va_up ns r 0) (va_up lc r 0) nm lt ql (by simp only [FU]; omega) ⟨hSS.s31 (by omega), zz_of hP hz (by rw [hstep]), by rw [ps_of hP, hstep], fun i hi => ?_⟩ (fun i hi => by rw [upN_n (by omega)]; exact hN i hi)
        · rw [upN_s] at hlp
          obtain ⟨σ', g, g1, g2, g3, g4⟩ := hlp
          exact ⟨σ', g, g1, (FrR.s (by omega)).tr g2, g3, fun hg => ⟨by omega, g4 hg⟩⟩
        · show (∀ k, k < va_up ns r 0 i → σ.2.1 42 (40 * (60 + i) + k) = nm i k) ∧ σ.2.1 43 (60 + i) = nI (va_up lc r 0 i) ∧ (∀ k, k < va_up lc r 0 i → σ.2.1 44 (120 * (60 + i) + k) = lt i k) ∧ (∀ k, k < va_up lc r 0 i → σ.2.1 45 (120 * (60 + i) + k) = ql i k)
          by_cases e2 : i = r
          · subst e2
            rw [upN_s, upN_s]
            exact ⟨fun k hk => by omega, h43 (by omega), fun k hk => by omega, fun k hk => by omega⟩
          · rw [upN_n e2, upN_n e2]
            exact hR i (by omega)
    · rw [if_neg hx] at hstep
      rw [if_neg hx]
      exact (faulty_e (f := 2) b3 (by decide) (flt_at ha hz (by rw [pf_of hP, hstep]) (by decide))).gz
end ML
