section OC
variable {σ σ' : St}
/-- the model's isCode -/
theorem isCode_loop {N : Nat} {t : Nat → Int32} (h1 : σ.1 39 1 = nI N) (hN : N ≤ 6000) (h40 : ∀ k, k < N → σ.2.1 40 k = t k) : ∀ (fu k : Nat), k ≤ N → N < fu + k → (∀ q, q < k → isB (t q) = true) → l_X9_isCode_25 fu 1 (nI k) σ = some (bI (allB t N), σ) := by
  intro fu
  induction fu with
  | zero => intro k h1 h2; omega
  | succ fu ih =>
    intro k hk h2 hb
    show b_X9_isCode_25 (l_X9_isCode_25 fu) 1 (nI k) σ = _
    unfold b_X9_isCode_25 b_X9_isCode_75
    rw [h1]
    by_cases e : k = N
    · subst e
      rw [if_pos (nI_le (Nat.le_refl _) (by omega)), gz_1, allB_t.mpr hb]
      rfl
    · have hfalse : isB (t k) = false → l_X9_isCode_25 fu 0 (nI (k + 1)) σ = some (bI (allB t N), σ) := by
        intro hB
        have ha : allB t N = false := by
          cases h : allB t N
          · rfl
          · rw [allB_t.mp h k (by omega)] at hB; cases hB
        obtain ⟨fu', rfl⟩ : ∃ fu', fu = fu' + 1 := ⟨fu - 1, by omega⟩
        show b_X9_isCode_25 (l_X9_isCode_25 fu') 0 (nI (k + 1)) σ = _
        unfold b_X9_isCode_25 b_X9_isCode_75
        rw [if_pos rfl, gz_0, ha]
        split <;> rfl
      rw [if_neg (nI_ge (by omega) (by omega)), if_neg (by decide), gd_t (inb_n (show k < ln 40 by show k < 6000; omega) (by decide)), nI_clamp (by omega), h40 k (by omega), letterOf_e, bd_s]
      unfold b_X9_isCode_67 b_X9_isCode_68
      cases hg : isL (t k)
      · rw [if_neg (by decide : ¬ false = true), if_pos (by decide : (-1 : Int32) ≤ 0), nx_e, nI_1]
        exact hfalse (by
          cases h : isB (t k)
          · rfl
          · simp [isL, h] at hg)
      · rw [if_pos rfl, if_neg (isL_pos hg), gd_t (inb_n (show k < ln 40 by show k < 6000; omega) (by decide)), h40 k (by omega)]
        by_cases h78 : t k = 78
        · rw [if_pos h78, nx_e, nI_1]
          exact hfalse (by rw [h78]; decide)
        · rw [if_neg h78, nx_e, nI_1]
          refine ih (k + 1) (by omega) (by omega) (fun q hq => ?_)
          by_cases e : q = k
          · subst e
            simp only [isL, Bool.or_eq_true, beq_iff_eq] at hg
            exact hg.resolve_right h78
          · exact hb q (by omega)
theorem isCode_e {N lo hi : Nat} {t : Nat → Int32} (h1 : σ.1 39 1 = nI N) (hN : N ≤ 6000) (h40 : ∀ k, k < N → σ.2.1 40 k = t k) (hlo : lo < 2 ^ 31) (hhi : hi < 2 ^ 31) : f_X9_isCode (nI lo) (nI hi) σ = some (bI (decide (lo ≤ N ∧ N ≤ hi) && allB t N), σ) := by
  have h0 : b_X9_isCode_20 σ = some (0, σ) := by
    unfold b_X9_isCode_20 b_X9_isCode_21
    show b_X9_isCode_25 (l_X9_isCode_25 19999) 0 0 σ = _
    unfold b_X9_isCode_25 b_X9_isCode_75
    rw [if_pos rfl, gz_0]
    split <;> rfl
  unfold f_X9_isCode
  rw [h1]
  by_cases a1 : N < lo
  · rw [if_pos (nI_lt a1 hlo), h0]
    have : ¬ (lo ≤ N ∧ N ≤ hi) := by omega
    simp [this, bI]
  · rw [if_neg (nI_nlt (by omega) (by omega))]
    by_cases a2 : hi < N
    · rw [if_pos (nI_lt a2 (by omega)), h0]
      have : ¬ (lo ≤ N ∧ N ≤ hi) := by omega
      simp [this, bI]
    · rw [if_neg (nI_nlt (by omega) (by omega))]
      unfold b_X9_isCode_21
      have := isCode_loop (σ := σ) (t := t) h1 hN h40 FU 0 (by omega) (by simp only [FU]; omega) (fun q hq => by omega)
      rw [show (0 : Int32) = nI 0 from rfl, this]
      have : (lo ≤ N ∧ N ≤ hi) := by omega
      simp [this]
theorem madapter_loop {N : Nat} {t : Nat → Int32} (hN : N ≤ 30) (h40 : ∀ q, q < N → σ.2.1 40 q = t q) : ∀ (fu k : Nat) (τ : St), k ≤ N → N < fu + k → τ.1 39 1 = nI N → τ.1 39 15 = nI N → FrG σ τ [] [3, 15] [47] → (∀ q, q < k → τ.2.1 47 q = t q) → ∃ τ' : St, l_X9_adapter_42 fu 1 (nI k) τ = some (nI N, τ') ∧ τ'.1 39 1 = 0 ∧ τ'.1 39 15 = nI N ∧ (∀ q, q < N → τ'.2.1 47 q = t q) ∧ FrG σ τ' [] [1, 3, 15] [47] := by
  intro fu
  induction fu with
  | zero => intro k τ h1 h2; omega
  | succ fu ih =>
    intro k τ h1 h2 h39 h15 hf ho
    show ∃ (τ' : St), b_X9_adapter_42 (l_X9_adapter_42 fu) 1 (nI k) τ = some (nI N, τ') ∧ _
    unfold b_X9_adapter_42
    rw [h39]
    by_cases e : k = N
    · subst e
      unfold b_X9_adapter_68 b_X9_adapter_85
      rw [if_pos (nI_le (Nat.le_refl _) (by omega)), nx_e, if_neg (by decide), sS_j (by decide), h15]
      exact ⟨_, rfl, sS_s, by rw [sS_j (by decide)]; exact h15, ho, (hf.mono rfl).tr (FrG.sS.mono rfl)⟩
    · rw [if_neg (nI_ge (by omega) (by omega)), gd_t (inb_n (show k < ln 40 by show k < 6000; omega) (by decide)), gd_t (inb_n (show k < ln 47 by show k < 30; omega) (by decide)), nI_clamp (by omega), nx_e, nI_1, nx_e, hf.2.2.1 40 (by decide), h40 k (by omega)]
      refine ih (k + 1) (sA τ 47 (nI k) (t k)) (by omega) (by omega) h39 h15 (hf.tr (FrG.sA.mono rfl)) (fun q hq => ?_)
      rw [sA_s (by omega)]
      by_cases e : q = k
      · subst e; rw [upd_s]
      · rw [upd_n (by omega)]; exact ho q (by omega)
theorem op_adapter (hI : Inv σ) : OpS (f_X8_adapter σ) f_X9_adapter := by
  obtain ⟨⟨N, t, hT⟩, ⟨M, o, hO⟩, hP, ⟨C, W, c, hC⟩, ⟨A, a, hA⟩, ⟨l1, l2, l3, hL⟩, n, m, st, ns, lc, nm, lt, ql, hR, hS⟩ := hI
  obtain ⟨ht1, ht2, ht3, ht4⟩ := hT
  have hN : N ≤ 6000 := ht1.2.1
  have hyes : (N = 0 ∨ (decide (3 ≤ N ∧ N ≤ 30) && allB t N) = true) → f_X6_takeAdapter 1 σ = b_X6_takeAdapter_19 1 σ → (∀ τ : St, FrG σ τ [1, 17] [] [18] → f_X9_adapter τ = b_X9_adapter_22 (sS τ 39 3 0)) → OpS (f_X8_adapter σ) f_X9_adapter := by
    intro hc h1 h2
    have h30 : N ≤ 30 := by
      rcases hc with h | h
      · omega
      · simp only [Bool.and_eq_true, decide_eq_true_eq] at h; omega
    obtain ⟨σ1, e1, e2, e3⟩ := copy_e (p0 := 17) (p1 := 1) (Or.inr (Or.inr (Or.inr (Or.inr (Or.inl rfl))))) (Or.inl rfl) (by decide) ht1 h30
    have f1 : FrG σ (sS σ1 1 1 0) [1, 17] [] [18] := ((FrG.of e3 rfl).mono rfl).tr ((frg_oS (by decide)).mono rfl)
    have f2 : FrG (sS σ1 1 1 0) (sS (sS (sS σ1 1 1 0) 39 3 0) 39 15 (nI N)) [] [3, 15] [47] := (FrG.sS.mono rfl).tr (FrG.sS.mono rfl)
    have h1' : (sS (sS σ1 1 1 0) 39 3 0).1 39 1 = nI N := by rw [sS_j (by decide), f1.2.1 1 (by decide)]; exact ht2
    obtain ⟨σ2, k1, k2, k3, k4, k5⟩ := madapter_loop (σ := sS σ1 1 1 0) (t := t) h30 (fun q hq => by rw [f1.2.2.1 40 (by decide)]; exact ht3 q hq) FU 0 (sS (sS (sS σ1 1 1 0) 39 3 0) 39 15 (nI N)) (by omega) (by simp only [FU]; omega) (by rw [sS_j (by decide)]; exact h1') sS_s f2 (fun q hq => by omega)
    have f3 : FrG σ σ2 [1, 17] [1, 3, 15] [18, 47] := (f1.mono rfl).tr (k5.mono rfl)
    refine ⟨nI N, sS σ1 1 1 0, ?_, σ2, ?_, ⟨0, t, ⟨?_, by omega, fun k hk => by omega⟩, k2, fun k hk => by omega, fun k hk => by omega⟩, ⟨M, o, hO.fr f3 rfl⟩, hP.fr f3 rfl, ⟨C, W, c, hC.fr f3 rfl⟩, ⟨N, t, ?_, h30, k3, k4, by
      rcases hc with h | h
      · exact Or.inl h
      · simp only [Bool.and_eq_true, decide_eq_true_eq] at h; omega⟩, ⟨l1, l2, l3, hL.fr16 f3 rfl⟩, n, m, st, ns, lc, nm, lt, ql, hR.fr f3 rfl, hS.fr f3 rfl rfl⟩
    · unfold f_X8_adapter
      rw [h1]
      unfold b_X6_takeAdapter_19 f_X4_size
      rw [e1, bd_s, bd_s, bd_s, clear_e, bd_s, e2.1]
    · rw [h2 _ f1]
      unfold b_X9_adapter_22 b_X9_adapter_27
      rw [if_neg (by decide), nx_e, h1']
      exact k1
    · rw [k5.1 1 (by decide) (by decide), sS_s]; rfl
    · exact (RowH.frg (σ' := sS σ1 1 1 0) e2 (sS_p (by decide)) rfl).frg (k5.1 17 (by decide) (by decide)) (k5.2.2.1 18 (by decide))
  have hu : f_X6_takeAdapter 1 σ = (if nI N = 0 then b_X6_takeAdapter_19 1 σ else bd (f_X4_isOfBases 1 (nI 3) (nI 30) σ) (fun r5 s6 => (if r5 = 0 then some ((-1), s6) else b_X6_takeAdapter_19 1 s6))) := by
    unfold f_X6_takeAdapter f_X4_size
    rw [bd_s, ht1.1]
    rfl
  have hm : ∀ τ : St, FrG σ τ [1, 17] [] [18] → f_X9_adapter τ = (if nI N = 0 then b_X9_adapter_22 (sS τ 39 3 0) else (if bI (decide (3 ≤ N ∧ N ≤ 30) && allB t N) = 0 then b_X9_adapter_27 0 (sS τ 39 3 0) else b_X9_adapter_22 (sS τ 39 3 0))) := by
    intro τ hf
    have h1 : (sS τ 39 3 0).1 39 1 = nI N := by rw [sS_j (by decide), hf.2.1 1 (by decide)]; exact ht2
    unfold f_X9_adapter
    rw [nx_e, h1, show (3 : Int32) = nI 3 from rfl, show (30 : Int32) = nI 30 from rfl, isCode_e (t := t) h1 hN (fun k hk => by rw [sS_a, hf.2.2.1 40 (by decide)]; exact ht3 k hk) (by decide) (by decide), bd_s]
  by_cases h0 : N = 0
  · subst h0
    exact hyes (Or.inl rfl) (by rw [hu, if_pos (by decide)]) (fun τ hf => by rw [hm τ hf, if_pos (by decide)])
  · rw [if_neg (nI_ne0 (by omega) (by omega)), isOfBases_e (Or.inl rfl) ht1 (by decide) (by decide), bd_s] at hu
    cases hb : (decide (3 ≤ N ∧ N ≤ 30) && allB t N)
    · have f1 : FrG σ (sS σ 1 1 0) [1, 17] [] [18] := (frg_oS (by decide)).mono rfl
      have f3 : FrG σ (sS (sS (sS σ 1 1 0) 39 3 0) 39 1 0) [1] [1, 3] [] := (((frg_oS (by decide)).mono rfl).tr (FrG.sS.mono rfl)).tr (FrG.sS.mono rfl)
      refine ⟨-1, sS σ 1 1 0, ?_, sS (sS (sS σ 1 1 0) 39 3 0) 39 1 0, ?_, ⟨0, t, ⟨?_, by omega, fun k hk => by omega⟩, sS_s, fun k hk => by omega, fun k hk => by omega⟩, ⟨M, o, hO.fr f3 rfl⟩, hP.fr f3 rfl, ⟨C, W, c, hC.fr f3 rfl⟩, ⟨A, a, hA.fr f3 rfl⟩, ⟨l1, l2, l3, hL.fr16 f3 rfl⟩, n, m, st, ns, lc, nm, lt, ql, hR.fr f3 rfl, hS.fr f3 rfl rfl⟩
      · unfold f_X8_adapter
        rw [hu, hb, if_pos (by decide), bd_s, clear_e, bd_s]
      · rw [hm _ f1, if_neg (nI_ne0 (by omega) (by omega)), hb, if_pos (by decide)]
        unfold b_X9_adapter_27 b_X9_adapter_68 b_X9_adapter_85
        rw [if_pos rfl, nx_e, if_pos rfl]
      · rw [sS_p (by decide), sS_p (by decide), sS_s]; rfl
    · exact hyes (Or.inr hb) (by rw [hu, hb, if_neg (by decide)]) (fun τ hf => by rw [hm τ hf, if_neg (nI_ne0 (by omega) (by omega)), hb, if_neg (by decide)])
end OC
