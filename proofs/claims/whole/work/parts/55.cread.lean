section CR
def P0 : PS := (0, 0, 0, fun _ => 0, fun _ => 0, fun _ _ => 0, fun _ _ => 0, fun _ _ => 0)
def psAt (fm : Nat) (t : Nat → Int32) : Nat → PS
  | 0 => P0
  | k + 1 => (pstep fm (t k) (psAt fm t k)).2
def pf (fm : Nat) (t : Nat → Int32) (k : Nat) : Nat := (pstep fm (t k) (psAt fm t k)).1
def pwh (fm : Nat) (P : PS) : Bool := match P with
  | (s, n, l, _, lc, _, _, _) => if fm = 0 then decide (s = 0 ∧ 0 < n) else decide (s = 2 ∧ l = 0 ∧ 0 < lc (n - 1))
/-- a text's fault (0: none) and its place -/
def PRes (fm : Nat) (t : Nat → Int32) (N f pl : Nat) : Prop := (∃ k, k < N ∧ (∀ j, j < k → pf fm t j = 0) ∧ pf fm t k = f ∧ f ≠ 0 ∧ pl = k) ∨ ((∀ j, j < N → pf fm t j = 0) ∧ pl = N ∧ f = if pwh fm (psAt fm t N) = true then 0 else 1)
theorem PRes.uq {fm N f pl f' pl' : Nat} {t : Nat → Int32} (h : PRes fm t N f pl) (h' : PRes fm t N f' pl') : f = f' ∧ pl = pl' := by
  rcases h with ⟨k, k1, k2, k3, k4, k5⟩ | ⟨k1, k2, k3⟩ <;> rcases h' with ⟨q, q1, q2, q3, q4, q5⟩ | ⟨q1, q2, q3⟩
  · have : k = q := by
      rcases Nat.lt_trichotomy k q with h | h | h
      · exact absurd (q2 k h) (by omega)
      · exact h
      · exact absurd (k2 q h) (by omega)
    subst this
    exact ⟨by omega, by omega⟩
  · exact absurd (q1 k k1) (by omega)
  · exact absurd (k1 q q1) (by omega)
  · exact ⟨by rw [k3, q3], by omega⟩
theorem PvI0 {fm : Nat} : PvI fm 0 P0 := ⟨by omega, by omega, by omega, fun h => absurd rfl h, fun _ => ⟨by omega, fun _ => rfl⟩, fun h => by omega, fun h => by omega, fun h => by omega, fun i hi => by omega, fun i hi => by omega, fun i hi => by omega, fun _ i hi => by omega, fun _ h => by omega⟩
theorem psAt_v {fm : Nat} {t : Nat → Int32} (hfm : fm = 0 ∨ fm = 1) : ∀ k, (∀ j, j < k → pf fm t j = 0) → PvI fm k (psAt fm t k) := by
  intro k
  induction k with
  | zero => intro _; exact PvI0
  | succ k ih =>
    intro h
    exact pstep_v hfm (ih (fun j hj => h j (by omega))) (h k (by omega))
theorem isWhole_e {σ : St} {fm k : Nat} {P : PS} (hfm : fm = 0 ∨ fm = 1) (h : PcC σ fm k P) (hv : PvI fm k P) (hk : k ≤ 6000) : f_X2_isWhole σ = some (bI (pwh fm P), σ) := by
  obtain ⟨s, n, l, ns, lc, nm, lt, ql⟩ := P
  obtain ⟨h1, h2, h3, hD⟩ := h
  obtain ⟨hw, m, st, hR, hmk, hm, hc1, hc2⟩ := hD
  obtain ⟨a1, a2, a3, a4, a5, a6, a7, a8, a9, a10, a11, a12, a13⟩ := hv
  have h2' : σ.1 5 2 = nI s := h2
  have h3' : σ.1 5 3 = nI l := h3
  unfold f_X2_isWhole b_X2_isWhole_28 b_X2_isWhole_29 b_X2_isWhole_49 b_X2_isWhole_50
  simp only [gz_0, gz_1, pwh]
  rw [h1, h2']
  rcases hfm with rfl | rfl
  · rw [if_pos (by decide : nI 0 = 0), if_pos rfl]
    by_cases s0 : s = 0
    · subst s0
      rw [if_pos (by decide : nI 0 = 0), count_e hR.1, bd_s]
      by_cases hn : 0 < n
      · rw [if_neg (nI_nle hn (by omega))]
        simp [hn, bI]
      · have : n = 0 := by omega
        subst this
        rw [if_pos (by decide : nI 0 ≤ 0)]
        simp [bI]
    · rw [if_neg (nI_ne0 (by omega) (by omega))]
      simp [s0, bI]
  · rw [if_neg (by decide : ¬ nI 1 = 0), if_neg (by decide : ¬ (1 : Nat) = 0)]
    by_cases s2 : s = 2
    · subst s2
      have hn := a4 (by omega)
      obtain ⟨n', rfl⟩ : ∃ n', n = n' + 1 := ⟨n - 1, by omega⟩
      rw [if_pos (by decide : nI 2 = 2), mayEnd_e h3' (by omega) hR, bd_s, Nat.add_sub_cancel]
      by_cases he : l = 0 ∧ 0 < lc n'
      · rw [decide_eq_true he, if_neg (by decide : ¬ bI true = 0), decide_eq_true ⟨rfl, he⟩]
        rfl
      · rw [decide_eq_false he, if_pos (by decide : bI false = 0), decide_eq_false (fun h => he h.2)]
        rfl
    · rw [if_neg (show ¬ nI s = (2 : Int32) from fun h => s2 ((nI_eq (b := 2) (by omega) (by omega)).mp h)), decide_eq_false (fun h => s2 h.1)]
      rfl
theorem fD_1 {σ σ' : St} {b : Bool} {N : Nat} {t : Nat → Int32} (h : FrD σ σ' b) (hr : RowH σ 1 N t) : RowH σ' 1 N t := hr.fr h (by cases b <;> decide) (by cases b <;> decide)
theorem PcC.s54 {σ : St} {fm k : Nat} {v : Int32} {P : PS} (hP : PcC σ fm k P) : PcC (sS σ 5 4 v) fm k P := by
  obtain ⟨s, n, l, ns, lc, nm, lt, ql⟩ := P
  obtain ⟨p1, p2, p3, p4⟩ := hP
  refine ⟨by rw [sS_j (by decide)]; exact p1, by rw [sS_j (by decide)]; exact p2, by rw [sS_j (by decide)]; exact p3, ?_⟩
  obtain ⟨hw, m, st, hR, hmk, hm, hc1, hc2⟩ := p4
  exact ⟨by rw [sS_p (bs5 _)]; exact hw, m, st, hR.f5 Fr.sS, hmk, hm, hc1, hc2⟩
theorem parse_loop {fm N : Nat} {t : Nat → Int32} (hfm : fm = 0 ∨ fm = 1) (hN : N ≤ 6000) (ht : ∀ k, k < N → 0 ≤ t k) : ∀ (fu j : Nat) (σ : St), j ≤ N → N < fu + j → RowH σ 1 N t → (∀ i, i < j → pf fm t i = 0) → PcC σ fm j (psAt fm t j) → ∃ (σ' : St) (f pl : Nat), l_X2_parse_32 1 fu (nI j) σ = some (nI f, σ') ∧ PRes fm t N f pl ∧ σ'.1 5 4 = nI pl ∧ FrD σ σ' σ.2.2.2.1 ∧ (f = 0 → PcC σ' fm N (psAt fm t N)) := by
  intro fu
  induction fu with
  | zero => intro j σ h1 h2; omega
  | succ fu ih =>
    intro j σ h1 h2 hr hz hP
    show ∃ (σ' : St) (f pl : Nat), b_X2_parse_32 1 (l_X2_parse_32 1 fu) (nI j) σ = some (nI f, σ') ∧ _
    unfold b_X2_parse_32 b_X2_parse_90 f_X4_size
    rw [bd_s, hr.1]
    by_cases e : j = N
    · subst e
      rw [if_pos (nI_le (Nat.le_refl _) (by omega)), bd_s, nx_e]
      have f1 : Fr σ (sS σ 5 4 (nI j)) [5] [] := Fr.sS
      have hv := psAt_v hfm j hz
      have hP' : PcC (sS σ 5 4 (nI j)) fm j (psAt fm t j) := hP.s54
      rw [isWhole_e hfm hP' hv hN, bd_s]
      cases hw : pwh fm (psAt fm t j)
      · rw [if_pos (by decide : bI false = 0)]
        exact ⟨_, 1, j, rfl, Or.inr ⟨hz, rfl, by rw [hw]; rfl⟩, sS_s, f1.mono (by simp) (by simp), fun h => by omega⟩
      · rw [if_neg (by decide : ¬ bI true = 0)]
        exact ⟨_, 0, j, rfl, Or.inr ⟨hz, rfl, by rw [hw]; rfl⟩, sS_s, f1.mono (by simp) (by simp), fun _ => hP'⟩
    · rw [if_neg (nI_ge (by omega) (by omega)), at_in (Or.inl rfl) hr (by omega : j < N), bd_s]
      obtain ⟨σ1, e1, e2, e3⟩ := cstep (x := t j) hfm hP (psAt_v hfm j hz) (by omega) (ht j (by omega))
      rw [e1, bd_s]
      by_cases h0 : (pstep fm (t j) (psAt fm t j)).1 = 0
      · rw [if_pos (show nI (pstep fm (t j) (psAt fm t j)).1 = 0 by rw [h0]; rfl), nx_e, nI_1]
        have e7 : σ1.2.2 = σ.2.2 := e2.2.2
        obtain ⟨σ', f, pl, g1, g2, g3, g4, g5⟩ := ih (j + 1) σ1 (by omega) (by omega) (fD_1 e2 hr) (fun i hi => by
          by_cases e : i = j
          · subst e; exact h0
          · exact hz i (by omega)) (e3 h0)
        rw [e7] at g4
        exact ⟨σ', f, pl, g1, g2, g3, e2.tr g4, g5⟩
      · have hle : (pstep fm (t j) (psAt fm t j)).1 ≤ 4 := by
          obtain ⟨s, n, l, ns, lc, nm, lt, ql⟩ := psAt fm t j
          simp only [pstep, pmark]
          repeat' split
          all_goals simp
        rw [if_neg (nI_ne0 (by omega) (by omega)), nx_e]
        have f1 : Fr σ1 (sS σ1 5 4 (nI j)) [5] [] := Fr.sS
        exact ⟨_, _, j, rfl, Or.inl ⟨j, by omega, hz, rfl, h0, rfl⟩, sS_s, e2.tr (f1.mono (by simp) (by simp)), fun h => absurd h h0⟩
theorem restart_e {σ : St} {b : Bool} {w : Bool} : ∃ σ', f_X3_restart b (bI w) σ = some (0, σ') ∧ Fr σ σ' [bs b, bs b + 1] [] ∧ σ'.1 (bs b) 4 = 0 ∧ σ'.1 (bs b + 1) 1 = 0 ∧ σ'.1 (bs b) 5 = bI w := by
  refine ⟨sS (sS (sS σ (bs b + 1) 1 0) (bs b) 4 0) (bs b) 5 (bI w), ?_, ?_, ?_, ?_, sS_s⟩
  · unfold f_X3_restart
    rw [clear_e, bd_s, nx_e, gz_b, nx_e]
  · exact ((Fr.sS.mono (by simp) (by simp)).tr (Fr.sS.mono (by simp) (by simp))).tr (Fr.sS.mono (by simp) (by simp))
  · rw [sS_j (by decide), sS_s]
  · rw [sS_p (by omega), sS_p (by omega), sS_s]
theorem parse_e {σ : St} {fm N : Nat} {t : Nat → Int32} (hfm : fm = 0 ∨ fm = 1) (hN : N ≤ 6000) (ht : ∀ k, k < N → 0 ≤ t k) (hr : RowH σ 1 N t) : ∃ (σ' : St) (f pl : Nat), f_X2_parse 1 (nI fm) σ = some (nI f, σ') ∧ PRes fm t N f pl ∧ σ'.1 5 4 = nI pl ∧ FrD σ σ' σ.2.2.2.1 ∧ (f = 0 → PcC σ' fm N (psAt fm t N)) := by
  have key : ∀ w : Bool, w = decide (fm = 0) → ∃ (σ' : St) (f pl : Nat), b_X2_parse_21 1 (bI w) (sS σ 5 1 (nI fm)) = some (nI f, σ') ∧ PRes fm t N f pl ∧ σ'.1 5 4 = nI pl ∧ FrD σ σ' σ.2.2.2.1 ∧ (f = 0 → PcC σ' fm N (psAt fm t N)) := by
    intro w hw
    have f0 : Fr σ (sS σ 5 1 (nI fm)) [5] [] := Fr.sS
    obtain ⟨σ1, e1, e2, e3, e4, e5⟩ := restart_e (σ := sS σ 5 1 (nI fm)) (b := σ.2.2.2.1) (w := w)
    unfold b_X2_parse_21
    rw [show (sS σ 5 1 (nI fm)).2.2.2.1 = σ.2.2.2.1 from rfl, e1, bd_s, enter_e, bd_s]
    have f2 : FrD σ (eN σ1 0) σ.2.2.2.1 := ((f0.mono (by simp) (by simp)).tr (e2.mono (by simp) (by simp))).tr (eN_fr.mono (by simp) (by simp))
    have e7 : (eN σ1 0).2.2 = σ.2.2 := f2.2.2
    obtain ⟨σ', f, pl, g1, g2, g3, g4, g5⟩ := parse_loop hfm hN ht FU 0 (eN σ1 0) (by omega) (by simp only [FU]; omega) (fD_1 f2 hr) (fun i hi => by omega) (by
      refine ⟨?_, by rw [eN_2]; rfl, eN_3, ?_⟩
      · rw [eN_1, e2.1 5 (by cases σ.2.2.2.1 <;> decide), sS_s]
      · refine ⟨?_, 0, fun _ => 0, ⟨?_, by omega, ?_, by omega, fun i hi => by omega⟩, by omega, fun h => by omega, fun _ i hi => by omega, fun _ h => by omega⟩
        · rw [e7, eN_fr.1 _ (by simpa using bs5 _), e5, hw]
          rcases hfm with rfl | rfl <;> rfl
        · rw [e7, eN_fr.1 _ (by simpa using bs5 _), e3]
          rfl
        · rw [e7, eN_fr.1 _ (by simpa using bs51 _), e4]
          rfl)
    rw [e7] at g4
    exact ⟨σ', f, pl, g1, g2, g3, f2.tr g4, g5⟩
  unfold f_X2_parse
  rw [nx_e, sS_s]
  rcases hfm with rfl | rfl
  · rw [if_pos (by decide : nI 0 = 0)]
    exact key true rfl
  · rw [if_neg (by decide : ¬ nI 1 = 0)]
    exact key false rfl
end CR
