section OB
variable {σ σ' : St}
theorem cdist_loop {p N W i : Nat} {t c : Nat → Int32} (hp : Rw p) (hr : RowH σ p N t) (hW : W ≤ N) (h3 : σ.1 12 3 = nI W) (hi : i < 16) (hW12 : W ≤ 12) (hc : ∀ k, k < W → σ.2.1 13 (12 * i + k) = c k) : ∀ (fu j : Nat), j ≤ W → W < fu + j → l_X0_distance_5 p fu (nI i) (nI (ds c t j)) (nI j) σ = some (nI (ds c t W), σ) := by
  intro fu
  induction fu with
  | zero => intro j h1 h2; omega
  | succ fu ih =>
    intro j h1 h2
    show b_X0_distance_5 p (l_X0_distance_5 p fu) (nI i) (nI (ds c t j)) (nI j) σ = _
    unfold b_X0_distance_5 b_X0_distance_57
    rw [h3]
    by_cases e : j = W
    · subst e
      rw [if_pos (nI_le (Nat.le_refl _) (by omega))]
    · have e1 : i * 12 + j = 12 * i + j := by omega
      have hd := ih (j + 1) (by omega) (by omega)
      simp only [ds] at hd
      rw [if_neg (nI_ge (by omega) (by omega)), show (12 : Int32) = nI 12 from rfl, pk_mul, nI_add, e1, nx_e, if_neg (nI_pos (by omega)), if_neg (nI_ge (show 12 * i + j < ln 13 by show 12 * i + j < 192; omega) (by decide)), gd_t (inb_n (show 12 * i + j < ln 13 by show 12 * i + j < 192; omega) (by decide)), at_in hp hr (by omega : j < N), bd_s, nI_clamp (by omega), hc j (by omega)]
      by_cases e2 : c j = t j
      · rw [if_pos e2] at hd ⊢
        rw [nx_e, nI_1]
        exact hd
      · rw [if_neg e2] at hd ⊢
        rw [nx_e, nx_e, nI_1, nI_1]
        exact hd
theorem cdist_e {p N W i : Nat} {t c : Nat → Int32} (hp : Rw p) (hr : RowH σ p N t) (hW : W ≤ N) (h3 : σ.1 12 3 = nI W) (hi : i < 16) (hW12 : W ≤ 12) (hc : ∀ k, k < W → σ.2.1 13 (12 * i + k) = c k) : f_X0_distance (nI i) p σ = some (nI (ds c t W), σ) := cdist_loop hp hr hW h3 hi hW12 hc FU 0 (by omega) (by simp only [FU]; omega)
theorem nI_min {a b : Nat} (ha : a < 2 ^ 31) (hb : b < 2 ^ 31) : (if nI a < nI b then nI a else nI b) = nI (min b a) := by
  by_cases h : a < b
  · rw [if_pos (nI_lt h hb), Nat.min_eq_right (by omega)]
  · rw [if_neg (nI_nlt (by omega) ha), Nat.min_eq_left (by omega)]
/-- the class keeps a code -/
theorem keep_loop {N C : Nat} {t : Nat → Int32} (hN : N ≤ 12) (hC : C < 16) : ∀ (fu j : Nat) (τ : St), j ≤ N → N < fu + j → RowH τ 1 N t → τ.1 12 3 = nI N → τ.1 12 2 = nI C → (∀ k, k < j → τ.2.1 13 (12 * C + k) = t k) → ∃ τ' : St, l_X0_keep_2 1 fu (nI j) τ = some (0, τ') ∧ τ'.1 12 2 = nI (C + 1) ∧ τ'.1 12 3 = nI N ∧ τ'.1 12 4 = τ.1 12 4 ∧ (∀ k, k < N → τ'.2.1 13 (12 * C + k) = t k) ∧ (∀ k, k < 12 * C → τ'.2.1 13 k = τ.2.1 13 k) ∧ FrG τ τ' [12] [] [13] := by
  intro fu
  induction fu with
  | zero => intro j τ h1 h2; omega
  | succ fu ih =>
    intro j τ h1 h2 hr h3 h2' hk
    show ∃ τ' : St, b_X0_keep_2 1 (l_X0_keep_2 1 fu) (nI j) τ = some (0, τ') ∧ _
    unfold b_X0_keep_2 b_X0_keep_44
    rw [h3]
    by_cases e : j = N
    · subst e
      rw [if_pos (nI_le (Nat.le_refl _) (by omega)), nx_e, h2', nI_1]
      exact ⟨_, rfl, sS_s, by rw [sS_j (by decide)]; exact h3, by rw [sS_j (by decide)], hk, fun _ _ => rfl, (frg_oS (by decide)).mono rfl⟩
    · have e1 : C * 12 + j = 12 * C + j := by omega
      rw [if_neg (nI_ge (by omega) (by omega)), h2', show (12 : Int32) = nI 12 from rfl, pk_mul, nI_add, e1, nx_e, if_neg (nI_pos (by omega)), if_neg (nI_ge (show 12 * C + j < ln 13 by show 12 * C + j < 192; omega) (by decide)), at_in (Or.inl rfl) hr (by omega : j < N), bd_s, gd_t (inb_n (show 12 * C + j < ln 13 by show 12 * C + j < 192; omega) (by decide)), nx_e, nI_1, nx_e]
      obtain ⟨τ', g1, g2, g3, g4, g5, g6, g7⟩ := ih (j + 1) (sA τ 13 (nI (12 * C + j)) (t j)) (by omega) (by omega) (hr.frg rfl (sA_q (by decide))) h3 h2' (fun k hk1 => by
        rw [sA_s (by omega)]
        by_cases e : k = j
        · subst e; rw [upd_s]
        · rw [upd_n (by omega)]; exact hk k (by omega))
      refine ⟨τ', g1, g2, g3, g4, g5, fun k hk1 => ?_, (FrG.sA.mono rfl).tr g7⟩
      rw [g6 k hk1, sA_s (by omega), upd_n (by omega)]
/-- the class takes a code -/
theorem take_loop {N C : Nat} {t : Nat → Int32} {c : Nat → Nat → Int32} (hN : N ≤ 12) (hN0 : 1 ≤ N) (hC : C < 16) (hr : RowH σ 1 N t) (h2 : σ.1 12 2 = nI C) (h3 : 0 < C → σ.1 12 3 = nI N) (hc : ∀ i, i < C → ∀ k, k < N → σ.2.1 13 (12 * i + k) = c i k) (h4 : σ.1 12 4 = nI (spr c N C)) : ∀ (fu j : Nat), j ≤ C → C < fu + j → ∃ (σ' : St), (mn c N t C = 0 ∧ l_X0_take_46 1 fu (nI (mn c N t j)) (nI j) σ = some (-1, σ)) ∨ (mn c N t C ≠ 0 ∧ l_X0_take_46 1 fu (nI (mn c N t j)) (nI j) σ = some (nI C, σ') ∧ σ'.1 12 2 = nI (C + 1) ∧ σ'.1 12 3 = nI N ∧ σ'.1 12 4 = nI (min (spr c N C) (mn c N t C)) ∧ (∀ k, k < N → σ'.2.1 13 (12 * C + k) = t k) ∧ (∀ k, k < 12 * C → σ'.2.1 13 k = σ.2.1 13 k) ∧ FrG σ σ' [12] [] [13]) := by
  intro fu
  induction fu with
  | zero => intro j h1 h2; omega
  | succ fu ih =>
    intro j h1 hfu
    have hmn : ∀ k, mn c N t k ≤ 13 := fun k => mn_le13 k
    have hsp : ∀ k, spr c N k ≤ 13 := fun k => spr_le13 k
    have hmC := hmn C
    have hmj := hmn j
    have hsC := hsp C
    have hst : ∀ o, l_X0_take_46 1 (fu + 1) (nI (mn c N t j)) (nI j) σ = o ↔ b_X0_take_46 1 (l_X0_take_46 1 fu) (nI (mn c N t j)) (nI j) σ = o := fun _ => Iff.rfl
    simp only [hst]
    unfold b_X0_take_46
    rw [h2]
    by_cases e : j = C
    · subst e
      simp only [if_pos (nI_le (Nat.le_refl j) (by omega : j < 2 ^ 31))]
      by_cases e0 : mn c N t j = 0
      · exact ⟨σ, Or.inl ⟨e0, by rw [if_pos (by rw [e0]; rfl)]⟩⟩
      · rw [if_neg (nI_ne0 (by omega) (by omega))]
        unfold f_X4_size
        rw [bd_s, hr.1, nx_e, nx_e, sS_j (by decide), h4, nI_min (by omega) (by omega)]
        have f1 : FrG σ (sS (sS σ 12 3 (nI N)) 12 4 (nI (min (spr c N j) (mn c N t j)))) [12] [] [13] := ((frg_oS (by decide)).mono rfl).tr ((frg_oS (by decide)).mono rfl)
        obtain ⟨σ', g1, g2, g3, g4, g5, g6, g7⟩ := keep_loop (t := t) hN hC FU 0 (sS (sS σ 12 3 (nI N)) 12 4 (nI (min (spr c N j) (mn c N t j)))) (by omega) (by simp only [FU]; omega) (hr.frg (f1.1 1 (by decide) (by decide)) rfl) (by rw [sS_j (by decide), sS_s]) (by rw [sS_j (by decide), sS_j (by decide)]; exact h2) (fun k hk => by omega)
        refine ⟨σ', Or.inr ⟨e0, ?_, g2, g3, by rw [g4, sS_s], g5, g6, f1.tr g7⟩⟩
        unfold f_X0_keep
        rw [show (0 : Int32) = nI 0 from rfl, g1, bd_s, g2, nI_pred]
    · simp only [if_neg (nI_ge (by omega : j < C) (by omega))]
      rw [cdist_e (W := N) (c := c j) (Or.inl rfl) hr (Nat.le_refl _) (h3 (by omega)) (by omega) hN (hc j (by omega)), bd_s, nx_e]
      have hd := ds_le (f := c j) (g := t) N
      rw [nI_min (by omega) (by omega), nx_e, nI_1]
      exact ih (j + 1) (by omega) (by omega)
/-- the model looks for a code -/
theorem has14_loop {N i : Nat} {t c : Nat → Int32} {K : Int32 → St → Option Rs} (hN : N ≤ 12) (h13 : σ.1 39 13 = nI N) (hi : i < 16) (h40 : ∀ k, k < N → σ.2.1 40 k = t k) (hc : ∀ k, k < N → σ.2.1 46 (12 * i + k) = c k) : ∀ (fu j : Nat), j ≤ N → N < fu + j → l_X9_hasCode_14 K fu (nI i) (bI (decide (ds c t j = 0))) (nI j) σ = (if ds c t N = 0 then some (1, σ) else K (nI (i + 1)) σ) := by
  intro fu
  induction fu with
  | zero => intro j h1 h2; omega
  | succ fu ih =>
    intro j h1 h2
    show b_X9_hasCode_14 K (l_X9_hasCode_14 K fu) (nI i) (bI (decide (ds c t j = 0))) (nI j) σ = _
    unfold b_X9_hasCode_14 b_X9_hasCode_48
    rw [h13]
    by_cases e : j = N
    · subst e
      rw [if_pos (nI_le (Nat.le_refl _) (by omega))]
      by_cases e0 : ds c t j = 0
      · rw [decide_eq_true e0, if_neg (by decide), if_pos e0, gz_1]
      · rw [decide_eq_false e0, if_pos (by decide), if_neg e0, nx_e, nI_1]
    · rw [if_neg (nI_ge (by omega) (by omega)), show (12 : Int32) = nI 12 from rfl, pk_mul, nI_add, gd_t (inb_n (show 12 * i + j < ln 46 by show 12 * i + j < 192; omega) (by decide)), gd_t (inb_n (show j < ln 40 by show j < 6000; omega) (by decide)), nI_clamp (by omega), nI_clamp (by omega), h40 j (by omega), hc j (by omega)]
      have hd := ih (j + 1) (by omega) (by omega)
      by_cases e2 : c j = t j
      · have hs : ds c t (j + 1) = ds c t j := by simp [ds, e2]
        rw [hs] at hd
        rw [if_pos e2]
        rw [nx_e, nx_e, nI_1]
        have : bI (decide (ds c t j = 0)) &&& 1 = bI (decide (ds c t j = 0)) := by cases decide (ds c t j = 0) <;> rfl
        rw [this]
        exact hd
      · have hs : ds c t (j + 1) = ds c t j + 1 := by simp [ds, e2]
        rw [hs, decide_eq_false (by omega : ¬ ds c t j + 1 = 0)] at hd
        rw [if_neg e2]
        rw [nx_e, nx_e, nI_1]
        have : bI (decide (ds c t j = 0)) &&& 0 = bI false := by cases decide (ds c t j = 0) <;> rfl
        rw [this]
        exact hd
theorem has_loop {N C : Nat} {t : Nat → Int32} {c : Nat → Nat → Int32} (hN : N ≤ 12) (hC : C ≤ 16) (h13 : σ.1 39 13 = nI N) (h12 : σ.1 39 12 = nI C) (h40 : ∀ k, k < N → σ.2.1 40 k = t k) (hc : ∀ i, i < C → ∀ k, k < N → σ.2.1 46 (12 * i + k) = c i k) : ∀ (fu j : Nat), j ≤ C → C < fu + j → (∀ i, i < j → ds (c i) t N ≠ 0) → l_X9_hasCode_2 fu (nI j) σ = some (bI (decide (mn c N t C = 0)), σ) := by
  intro fu
  induction fu with
  | zero => intro j h1 h2; omega
  | succ fu ih =>
    intro j h1 h2 hz
    show b_X9_hasCode_2 (l_X9_hasCode_2 fu) (nI j) σ = _
    unfold b_X9_hasCode_2
    rw [h12]
    by_cases e : j = C
    · subst e
      rw [if_pos (nI_le (Nat.le_refl _) (by omega)), gz_0]
      have : ¬ mn c N t j = 0 := fun h => by
        obtain ⟨i, hi, h0⟩ := mn_0 j h
        exact hz i hi h0
      rw [decide_eq_false this]
      rfl
    · rw [if_neg (nI_ge (by omega) (by omega))]
      have h14 := has14_loop (K := l_X9_hasCode_2 fu) (c := c j) hN h13 (by omega : j < 16) h40 (hc j (by omega)) FU 0 (by omega) (by simp only [FU]; omega)
      rw [show (1 : Int32) = bI (decide (ds (c j) t 0 = 0)) from rfl, show (0 : Int32) = nI 0 from rfl, h14]
      by_cases e0 : ds (c j) t N = 0
      · rw [if_pos e0]
        have := mn_le (c := c) (W := N) (f := t) C j (by omega)
        rw [decide_eq_true (by omega)]
        rfl
      · rw [if_neg e0]
        exact ih (j + 1) (by omega) (by omega) (fun i hi => by
          by_cases e : i = j
          · subst e; exact e0
          · exact hz i (by omega))
theorem mkeep_loop {N C : Nat} {t : Nat → Int32} (hN : N ≤ 12) (hC : C < 16) : ∀ (fu j : Nat) (τ : St), j ≤ N → N < fu + j → τ.1 39 1 = nI N → (∀ k, k < N → τ.2.1 40 k = t k) → τ.1 39 12 = nI C → (∀ k, k < j → τ.2.1 46 (12 * C + k) = t k) → ∃ τ' : St, l_X9_barcode_69 fu 1 (nI j) τ = some (nI C, τ') ∧ τ'.1 39 12 = nI (C + 1) ∧ τ'.1 39 1 = 0 ∧ (∀ k, k < N → τ'.2.1 46 (12 * C + k) = t k) ∧ (∀ k, k < 12 * C → τ'.2.1 46 k = τ.2.1 46 k) ∧ FrG τ τ' [] [1, 12] [46] := by
  intro fu
  induction fu with
  | zero => intro j τ h1 h2; omega
  | succ fu ih =>
    intro j τ h1 h2 h39 h40 h12 hk
    show ∃ τ' : St, b_X9_barcode_69 (l_X9_barcode_69 fu) 1 (nI j) τ = some (nI C, τ') ∧ _
    unfold b_X9_barcode_69 b_X9_barcode_113 b_X9_barcode_132
    rw [h39]
    by_cases e : j = N
    · subst e
      rw [if_pos (nI_le (Nat.le_refl _) (by omega)), nx_e, nx_e, if_neg (by decide), h12, nI_1, sS_j (by decide), sS_s, nI_pred]
      exact ⟨_, rfl, by rw [sS_j (by decide), sS_s], sS_s, hk, fun _ _ => rfl, (FrG.sS.mono rfl).tr (FrG.sS.mono rfl)⟩
    · rw [if_neg (nI_ge (by omega) (by omega)), h12, show (12 : Int32) = nI 12 from rfl, pk_mul, nI_add, gd_t (inb_n (show j < ln 40 by show j < 6000; omega) (by decide)), gd_t (inb_n (show 12 * C + j < ln 46 by show 12 * C + j < 192; omega) (by decide)), nI_clamp (by omega), h40 j (by omega), nx_e, nI_1, nx_e]
      obtain ⟨τ', g1, g2, g3, g5, g6, g7⟩ := ih (j + 1) (sA τ 46 (nI (12 * C + j)) (t j)) (by omega) (by omega) h39 (by rw [sA_q (by decide)]; exact h40) h12 (fun k hk1 => by
        rw [sA_s (by omega)]
        by_cases e : k = j
        · subst e; rw [upd_s]
        · rw [upd_n (by omega)]; exact hk k (by omega))
      refine ⟨τ', g1, g2, g3, g5, fun k hk1 => ?_, (FrG.sA.mono rfl).tr g7⟩
      rw [g6 k hk1, sA_s (by omega), upd_n (by omega)]
theorem op_barcode (hI : Inv σ) : OpS (f_X8_barcode σ) f_X9_barcode := by
  obtain ⟨⟨N, t, hT⟩, ⟨M, o, hO⟩, hP, ⟨C, W, c, hC⟩, ⟨A, a, hA⟩, ⟨l1, l2, l3, hL⟩, n, m, st, ns, lc, nm, lt, ql, hR, hS⟩ := hI
  obtain ⟨ht1, ht2, ht3, ht4⟩ := hT
  have hN : N ≤ 6000 := ht1.2.1
  have hC0 := hC
  obtain ⟨c1, c2, c3, c4, c5, c6, c7, c8, c9, c10⟩ := hC
  have hno : f_X0_take 1 σ = some (-1, σ) → f_X9_barcode (sS σ 1 1 0) = b_X9_barcode_53 (sS (sS σ 1 1 0) 39 3 0) → OpS (f_X8_barcode σ) f_X9_barcode := by
    intro h1 h2
    have f3 : FrG σ (sS (sS (sS σ 1 1 0) 39 3 0) 39 1 0) [1] [1, 3] [] := (((frg_oS (by decide)).mono rfl).tr (FrG.sS.mono rfl)).tr (FrG.sS.mono rfl)
    refine ⟨-1, sS σ 1 1 0, ?_, sS (sS (sS σ 1 1 0) 39 3 0) 39 1 0, ?_, ⟨0, t, ⟨?_, by omega, fun k hk => by omega⟩, sS_s, fun k hk => by omega, fun k hk => by omega⟩, ⟨M, o, hO.fr f3 rfl⟩, hP.fr f3 rfl, ⟨C, W, c, hC0.fr f3 rfl⟩, ⟨A, a, hA.fr f3 rfl⟩, ⟨l1, l2, l3, hL.fr16 f3 rfl⟩, n, m, st, ns, lc, nm, lt, ql, hR.fr f3 rfl, hS.fr f3 rfl rfl⟩
    · unfold f_X8_barcode
      rw [h1, bd_s, clear_e, bd_s]
    · rw [h2]
      unfold b_X9_barcode_53 b_X9_barcode_54 b_X9_barcode_113 b_X9_barcode_132
      rw [if_pos rfl, nx_e, if_pos rfl]
    · rw [sS_p (by decide), sS_p (by decide), sS_s]; rfl
  have hb := isOfBases_e (σ := σ) (p := 1) (lo := 1) (hi := 12) (Or.inl rfl) ht1 (by decide) (by decide)
  have m1 : ∀ τ : St, FrG σ τ [1, 12] [] [13] → (sS τ 39 3 0).1 39 1 = nI N := fun τ hf => by rw [sS_j (by decide), hf.2.1 1 (by decide)]; exact ht2
  have m40 : ∀ τ : St, FrG σ τ [1, 12] [] [13] → ∀ k, k < N → (sS τ 39 3 0).2.1 40 k = t k := fun τ hf k hk => by rw [sS_a, hf.2.2.1 40 (by decide)]; exact ht3 k hk
  have m12 : ∀ τ : St, FrG σ τ [1, 12] [] [13] → (sS τ 39 3 0).1 39 12 = nI C := fun τ hf => by rw [sS_j (by decide), hf.2.1 12 (by decide)]; exact c4
  have m13 : ∀ τ : St, FrG σ τ [1, 12] [] [13] → (sS τ 39 3 0).1 39 13 = nI W := fun τ hf => by rw [sS_j (by decide), hf.2.1 13 (by decide)]; exact c6
  have m46 : ∀ τ : St, FrG σ τ [1, 12] [] [13] → (sS τ 39 3 0).2.1 46 = σ.2.1 46 := fun τ hf => by rw [sS_a, hf.2.2.1 46 (by decide)]
  have mu : ∀ τ : St, FrG σ τ [1, 12] [] [13] → f_X9_barcode τ = (if bI (decide (1 ≤ N ∧ N ≤ 12) && allB t N) = 0 then b_X9_barcode_53 (sS τ 39 3 0) else (if nI 16 ≤ nI C then b_X9_barcode_53 (sS τ 39 3 0) else (if nI C = 0 then b_X9_barcode_49 (sS τ 39 3 0) else (if nI N = nI W then bd (f_X9_hasCode (sS τ 39 3 0)) (fun r10 s11 => (if r10 = 0 then b_X9_barcode_49 s11 else b_X9_barcode_53 s11)) else b_X9_barcode_53 (sS τ 39 3 0))))) := by
    intro τ hf
    unfold f_X9_barcode
    rw [nx_e, show (1 : Int32) = nI 1 from rfl, show (12 : Int32) = nI 12 from rfl, isCode_e (t := t) (m1 τ hf) hN (m40 τ hf) (by decide) (by decide), bd_s, m12 τ hf, m1 τ hf, m13 τ hf]
    rfl
  have f0 : FrG σ (sS σ 1 1 0) [1, 12] [] [13] := (frg_oS (by decide)).mono rfl
  have ct : f_X0_take 1 σ = (if nI 16 ≤ nI C then some (-1, σ) else (if bI (decide (1 ≤ N ∧ N ≤ 12) && allB t N) = 0 then some (-1, σ) else (if nI C ≤ 0 then b_X0_take_41 1 σ else (if nI N = nI W then b_X0_take_41 1 σ else some (-1, σ))))) := by
    unfold f_X0_take b_X0_take_19
    rw [show (1 : Int32) = nI 1 from rfl, show (12 : Int32) = nI 12 from rfl, hb, bd_s, c3]
    unfold f_X4_size
    rw [bd_s, ht1.1, c5]
    rfl
  by_cases h16 : C = 16
  · refine hno ?_ ?_
    · rw [ct, if_pos (nI_le (by omega) (by omega))]
    · rw [mu _ f0, if_pos (nI_le (by omega) (by omega))]
      split <;> rfl
  · have h16' : ¬ nI 16 ≤ nI C := nI_ge (by omega) (by omega)
    rw [if_neg h16'] at ct
    cases hok : (decide (1 ≤ N ∧ N ≤ 12) && allB t N)
    · refine hno ?_ ?_
      · rw [ct, hok, if_pos (by decide)]
      · rw [mu _ f0, hok, if_pos (by decide)]
    · rw [hok, if_neg (by decide)] at ct
      have hNN : 1 ≤ N ∧ N ≤ 12 := by
        simp only [Bool.and_eq_true, decide_eq_true_eq] at hok
        exact hok.1
      by_cases hCW : C = 0 ∨ N = W
      · have hct : f_X0_take 1 σ = b_X0_take_41 1 σ := by
          rw [ct]
          by_cases e : C = 0
          · subst e; rw [if_pos (by decide)]
          · rw [if_neg (nI_nle (by omega) (by omega)), if_pos (by rw [hCW.resolve_left e])]
        have hspr : spr c N C = spr c W C := by
          rcases hCW with e | e
          · subst e; rfl
          · rw [e]
        have hcN : ∀ i, i < C → ∀ k, k < N → σ.2.1 13 (12 * i + k) = c i k ∧ σ.2.1 46 (12 * i + k) = c i k := by
          intro i hi k hk
          rcases hCW with e | e
          · omega
          · exact c8 i hi k (by omega)
        obtain ⟨σ1, htk⟩ := take_loop (t := t) (c := c) hNN.2 hNN.1 (by omega) ht1 c3 (fun h => by rw [c5, hCW.resolve_left (by omega)]) (fun i hi k hk => (hcN i hi k hk).1) (by rw [c9, hspr]) FU 0 (by omega) (by simp only [FU]; omega)
        have hmu : ∀ τ : St, FrG σ τ [1, 12] [] [13] → f_X9_barcode τ = (if mn c N t C = 0 then b_X9_barcode_53 (sS τ 39 3 0) else b_X9_barcode_49 (sS τ 39 3 0)) := by
          intro τ hf
          rw [mu τ hf, hok, if_neg (by decide), if_neg h16']
          by_cases e : C = 0
          · subst e
            rw [if_pos (by decide)]
            rfl
          · have eW := hCW.resolve_left e
            rw [if_neg (nI_ne0 (by omega) (by omega)), if_pos (by rw [eW])]
            have hh : f_X9_hasCode (sS τ 39 3 0) = some (bI (decide (mn c N t C = 0)), sS τ 39 3 0) := has_loop (t := t) (c := c) hNN.2 (by omega) (by rw [m13 τ hf, eW]) (m12 τ hf) (m40 τ hf) (fun i hi k hk => by rw [m46 τ hf]; exact (hcN i hi k hk).2) FU 0 (by omega) (by simp only [FU]; omega) (fun i hi => by omega)
            rw [hh, bd_s]
            by_cases e0 : mn c N t C = 0
            · rw [decide_eq_true e0, if_pos e0, if_neg (by decide)]
            · rw [decide_eq_false e0, if_neg e0, if_pos (by decide)]
        rcases htk with ⟨t1, t2⟩ | ⟨t1, t2, t3, t4, t5, t6, t7, t8⟩
        · refine hno (hct.trans t2) ?_
          rw [hmu _ f0, if_pos t1]
        · have f1 : FrG σ (sS σ1 1 1 0) [1, 12] [] [13] := (t8.mono rfl).tr ((frg_oS (by decide)).mono rfl)
          obtain ⟨σ2, k1, k2, k3, k4, k5, k6⟩ := mkeep_loop (t := t) hNN.2 (by omega : C < 16) FU 0 (sS (sS (sS σ1 1 1 0) 39 3 0) 39 13 (nI N)) (by omega) (by simp only [FU]; omega) (by rw [sS_j (by decide)]; exact m1 _ f1) (show ∀ k, k < N → (sS (sS (sS σ1 1 1 0) 39 3 0) 39 13 (nI N)).2.1 40 k = t k from m40 (sS σ1 1 1 0) f1) (by rw [sS_j (by decide)]; exact m12 _ f1) (fun k hk => by omega)
          have f2 : FrG (sS σ1 1 1 0) σ2 [] [1, 3, 12, 13] [46] := ((FrG.sS.mono rfl).tr (FrG.sS.mono rfl)).tr (k6.mono rfl)
          have f3 : FrG σ σ2 [1, 12] [1, 3, 12, 13] [13, 46] := (f1.mono rfl).tr (f2.mono rfl)
          have o12 : σ2.1 12 = σ1.1 12 := by rw [f2.1 12 (by decide) (by decide), sS_p (by decide)]
          have o13 : σ2.2.1 13 = σ1.2.1 13 := by rw [f2.2.2.1 13 (by decide)]; rfl
          have o46 : ∀ k, k < 12 * C → σ2.2.1 46 k = σ.2.1 46 k := by
            intro k hk
            rw [k5 k hk]
            show σ1.2.1 46 k = σ.2.1 46 k
            rw [t8.2.2.1 46 (by decide)]
          have hcc : ∀ i, i < C + 1 → ∀ k, k < N → σ2.2.1 13 (12 * i + k) = va_up c C t i k ∧ σ2.2.1 46 (12 * i + k) = va_up c C t i k := by
            intro i hi k hk
            by_cases e : i = C
            · subst e
              rw [upN_s, o13]
              exact ⟨t6 k hk, k4 k hk⟩
            · rw [upN_n e, o13, t7 _ (by omega), o46 _ (by omega)]
              exact hcN i (by omega) k hk
          have hsp : spr (va_up c C t) N (C + 1) = min (spr c N C) (mn c N t C) := by
            simp only [spr, upN_s]
            rw [spr_cg (c' := c) C (fun i hi k hk => by rw [upN_n (by omega)]), mn_cg (c' := c) (f' := t) (fun _ _ => rfl) C (fun i hi k hk => by rw [upN_n (by omega)])]
          refine ⟨nI C, sS σ1 1 1 0, ?_, σ2, ?_, ⟨0, t, ⟨?_, by omega, fun k hk => by omega⟩, k3, fun k hk => by omega, fun k hk => by omega⟩, ⟨M, o, hO.fr f3 rfl⟩, hP.fr f3 rfl, ⟨C + 1, N, va_up c C t, by omega, by omega, by rw [o12]; exact t3, k2, by rw [o12]; exact t4, ?_, (fun h => by omega), hcc, by rw [o12, hsp]; exact t5, ?_⟩, ⟨A, a, hA.fr f3 rfl⟩, ⟨l1, l2, l3, hL.fr16 f3 rfl⟩, n, m, st, ns, lc, nm, lt, ql, hR.fr f3 rfl, hS.fr f3 rfl rfl⟩
          · unfold f_X8_barcode
            rw [hct]
            unfold b_X0_take_41
            rw [show (13 : Int32) = nI (mn c N t 0) from rfl, show (0 : Int32) = nI 0 from rfl, t2, bd_s, clear_e, bd_s]
            rfl
          · rw [hmu _ f1, if_neg t1]
            unfold b_X9_barcode_49 b_X9_barcode_54
            rw [if_neg (by decide), nx_e, m1 _ f1]
            exact k1
          · rw [f2.1 1 (by decide) (by decide), sS_s]; rfl
          · rw [k6.2.1 13 (by decide), sS_s]
          · rw [hsp, hspr]
            omega
      · have hc0 : C ≠ 0 := fun h => hCW (Or.inl h)
        have hnw : N ≠ W := fun h => hCW (Or.inr h)
        have hne : ¬ nI N = nI W := fun h => hnw ((nI_eq (by omega) (by omega)).mp h)
        refine hno ?_ ?_
        · rw [ct, if_neg (nI_nle (by omega) (by omega)), if_neg hne]
        · rw [mu _ f0, hok, if_neg (by decide), if_neg h16', if_neg (nI_ne0 (by omega) (by omega)), if_neg hne]
end OB
