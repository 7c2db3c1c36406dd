section OT
variable {σ σ' : St}
theorem sp_26 {k5 : Int32 → Int32 → St → Option Rs} {k15 : Int32 → Int32 → Int32 → St → Option Rs} {W i j a : Nat} {c : Nat → Nat → Int32} (hW : W ≤ 12) (ha : a ≤ 13) (hi : i < 16) (hj : j < 16) (h13 : σ.1 39 13 = nI W) (hci : ∀ k, k < W → σ.2.1 46 (12 * i + k) = c i k) (hcj : ∀ k, k < W → σ.2.1 46 (12 * j + k) = c j k) : ∀ (fu q : Nat), q ≤ W → W < fu + q → l_X9_spread_26 k5 k15 fu (nI a) (nI i) (nI j) (nI (ds (c i) (c j) q)) (nI q) σ = k15 (nI (min a (ds (c i) (c j) W))) (nI i) (nI (j + 1)) σ := by
  intro fu
  induction fu with
  | zero => intro q h1 h2; omega
  | succ fu ih =>
    intro q h1 h2
    show b_X9_spread_26 k5 k15 (l_X9_spread_26 k5 k15 fu) (nI a) (nI i) (nI j) (nI (ds (c i) (c j) q)) (nI q) σ = _
    have hd := ds_le (f := c i) (g := c j) q
    unfold b_X9_spread_26 b_X9_spread_90 b_X9_spread_69
    rw [h13]
    by_cases e : q = W
    · subst e
      rw [if_pos (nI_le (Nat.le_refl _) (by omega)), nx_e, nI_1, nx_e]
      by_cases h : a ≤ ds (c i) (c j) q
      · rw [if_pos (nI_le h (by omega)), Nat.min_eq_left h]
      · rw [if_neg (nI_ge (by omega) (by omega)), Nat.min_eq_right (by omega)]
    · have hd := ih (q + 1) (by omega) (by omega)
      simp only [ds] at hd
      rw [if_neg (nI_ge (by omega) (by omega)), show (12 : Int32) = nI 12 from rfl, pk_mul, pk_mul, nI_add, nI_add, gd_t (inb_n (show 12 * i + q < ln 46 by show 12 * i + q < 192; omega) (by decide)), gd_t (inb_n (show 12 * j + q < ln 46 by show 12 * j + q < 192; omega) (by decide)), nI_clamp (by omega), nI_clamp (by omega), hci q (by omega), hcj q (by omega)]
      by_cases e2 : c i q = c j q
      · rw [if_pos e2] at hd ⊢
        rw [nx_e, nx_e, nI_1, show nI (ds (c i) (c j) q) + 0 = nI (ds (c i) (c j) q + 0) from nI_add _ 0]
        exact hd
      · rw [if_neg e2] at hd ⊢
        rw [nx_e, nx_e, nI_1, nI_1]
        exact hd
theorem sp_15 {k5 : Int32 → Int32 → St → Option Rs} {W C i a : Nat} {c : Nat → Nat → Int32} (hW : W ≤ 12) (hC : C ≤ 16) (ha : a ≤ 13) (hi : i < C) (h13 : σ.1 39 13 = nI W) (hc : ∀ i, i < C → ∀ k, k < W → σ.2.1 46 (12 * i + k) = c i k) : ∀ (fu j : Nat), j ≤ i → i < fu + j → l_X9_spread_15 k5 fu (nI (min a (mn c W (c i) j))) (nI i) (nI j) σ = k5 (nI (min a (mn c W (c i) i))) (nI (i + 1)) σ := by
  intro fu
  induction fu with
  | zero => intro q h1 h2; omega
  | succ fu ih =>
    intro j h1 h2
    show b_X9_spread_15 k5 (l_X9_spread_15 k5 fu) (nI (min a (mn c W (c i) j))) (nI i) (nI j) σ = _
    unfold b_X9_spread_15
    by_cases e : j = i
    · subst e
      rw [if_pos (nI_le (Nat.le_refl _) (by omega)), nx_e, nI_1]
    · rw [if_neg (nI_ge (by omega) (by omega))]
      have h26 := sp_26 (k5 := k5) (k15 := l_X9_spread_15 k5 fu) (c := c) hW (by omega : min a (mn c W (c i) j) ≤ 13) (by omega : i < 16) (by omega : j < 16) h13 (hc i hi) (hc j (by omega)) FU 0 (by omega) (by simp only [FU]; omega)
      refine Eq.trans h26 ?_
      have hm : min (min a (mn c W (c i) j)) (ds (c i) (c j) W) = min a (mn c W (c i) (j + 1)) := by
        simp only [mn]
        rw [ds_comm (f := c j) W]
        omega
      rw [hm]
      exact ih (j + 1) (by omega) (by omega)
theorem sp_5 {W C : Nat} {c : Nat → Nat → Int32} (hW : W ≤ 12) (hC : C ≤ 16) (h13 : σ.1 39 13 = nI W) (h12 : σ.1 39 12 = nI C) (hc : ∀ i, i < C → ∀ k, k < W → σ.2.1 46 (12 * i + k) = c i k) : ∀ (fu i : Nat), i ≤ C → C < fu + i → l_X9_spread_5 fu (nI (spr c W i)) (nI i) σ = some (nI (spr c W C), σ) := by
  intro fu
  induction fu with
  | zero => intro q h1 h2; omega
  | succ fu ih =>
    intro i h1 h2
    show b_X9_spread_5 (l_X9_spread_5 fu) (nI (spr c W i)) (nI i) σ = _
    unfold b_X9_spread_5
    rw [h12]
    by_cases e : i = C
    · subst e
      rw [if_pos (nI_le (Nat.le_refl _) (by omega))]
    · have hs := spr_le13 (c := c) (W := W) i
      rw [if_neg (nI_ge (by omega) (by omega))]
      have h15 := sp_15 (k5 := l_X9_spread_5 fu) (c := c) hW hC hs (by omega : i < C) h13 hc FU 0 (by omega) (by simp only [FU]; omega)
      rw [show min (spr c W i) (mn c W (c i) 0) = spr c W i from Nat.min_eq_left hs] at h15
      exact h15.trans (ih (i + 1) (by omega) (by omega))
theorem mspread_e {W C : Nat} {c : Nat → Nat → Int32} (h : CodI σ C W c) : f_X9_spread σ = some (nI (spr c W C), σ) := by
  obtain ⟨c1, c2, c3, c4, c5, c6, c7, c8, c9, c10⟩ := h
  exact sp_5 c2 c1 c6 c4 (fun i hi k hk => (c8 i hi k hk).2) FU 0 (by omega) (by simp only [FU]; omega)
theorem op_told (hI : Inv σ) (x : Int32) : OpX [2] (f_X8_told x σ) (f_X9_told x) := by
  have hI0 := hI
  obtain ⟨⟨N, t, hT⟩, ⟨M, o, hO⟩, hP, ⟨C, W, c, hC⟩, ⟨A, a, hA⟩, ⟨l1, l2, l3, hL⟩, n, m, st, ns, lc, nm, lt, ql, hR, hS⟩ := hI
  have hC0 := hC
  obtain ⟨c1, c2, c3, c4, c5, c6, c7, c8, c9, c10⟩ := hC
  by_cases hx : x < 0 ∨ (3 : Int32) < x
  · refine ⟨2, 0, σ, ?_, Or.inr (by decide), fun J => ⟨0, sS (sJ σ J) 39 3 1, ?_, by rw [sS_s]; rfl, (fun h => by cases h), rfl, Inv.s3 (σ := sJ σ J) hI0⟩⟩
    · unfold f_X8_told
      have hne : ∀ k : Int32, ¬ k < 0 → ¬ 3 < k → ¬ x = k := fun k h1 h2 h => by rw [h] at hx; exact hx.elim h1 h2
      rw [if_neg (hne 0 (by decide) (by decide)), if_neg (hne 1 (by decide) (by decide)), if_neg (hne 2 (by decide) (by decide)), if_neg (hne 3 (by decide) (by decide))]
    · have h10 : b_X9_told_10 x (sJ σ J) = some (0, sS (sJ σ J) 39 3 1) := by
        unfold b_X9_told_10 b_X9_told_15
        rw [nx_e, sS_s, if_neg (by decide)]
      unfold f_X9_told
      by_cases h0 : x < 0
      · rw [if_pos h0, h10]
      · rw [if_neg h0, if_neg (Int32.not_le.mpr (hx.resolve_left h0)), h10]
  · have h0 : ¬ x < 0 := fun h => hx (Or.inl h)
    have h3 : x ≤ 3 := Int32.not_lt.mp (fun h => hx (Or.inr h))
    obtain ⟨j, hj, rfl⟩ := nI_of2 (M := 3) (n := 3) (by decide) h0 h3
    have hm : ∀ J, f_X9_told (nI j) (sJ σ J) = b_X9_told_15 (nI j) 0 (sJ σ J) := fun J => by
      unfold f_X9_told
      rw [if_neg h0, if_pos h3]
    have hj4 : j = 0 ∨ j = 1 ∨ j = 2 ∨ j = 3 := by omega
    rcases hj4 with rfl | rfl | rfl | rfl
    · refine ⟨0, nI (spr c W C), σ, ?_, Or.inl rfl, fun J => ⟨nI (spr c W C), sS (sJ σ J) 39 3 0, ?_, by rw [sS_s]; rfl, (fun _ => rfl), rfl, Inv.s3 (σ := sJ σ J) hI0⟩⟩
      · unfold f_X8_told f_X0_spread
        rw [if_pos (by decide), bd_s, c9]
      · have hc : CodI (sS (sJ σ J) 39 3 0) C W c := CodI.fr (σ := sJ σ J) hC0 FrG.sS rfl
        rw [hm]
        unfold b_X9_told_15 b_X9_told_77
        rw [nx_e, sS_s, if_pos (by decide), if_pos (by decide), mspread_e hc, bd_s]
    · refine ⟨0, nI C, σ, ?_, Or.inl rfl, fun J => ⟨nI C, sS (sJ σ J) 39 3 0, ?_, by rw [sS_s]; rfl, (fun _ => rfl), rfl, Inv.s3 (σ := sJ σ J) hI0⟩⟩
      · unfold f_X8_told f_X0_count
        rw [if_neg (by decide), if_pos (by decide), bd_s, c3]
      · rw [hm]
        unfold b_X9_told_15 b_X9_told_77
        rw [nx_e, sS_s, if_pos (by decide), if_neg (by decide), if_pos (by decide), sS_j (by decide)]
        rw [show (sJ σ J).1 39 12 = nI C from c4]
    · refine ⟨0, nI W, σ, ?_, Or.inl rfl, fun J => ⟨nI W, sS (sJ σ J) 39 3 0, ?_, by rw [sS_s]; rfl, (fun _ => rfl), rfl, Inv.s3 (σ := sJ σ J) hI0⟩⟩
      · unfold f_X8_told f_X0_length
        rw [if_neg (by decide), if_neg (by decide), if_pos (by decide), bd_s, c5]
      · rw [hm]
        unfold b_X9_told_15 b_X9_told_77
        rw [nx_e, sS_s, if_pos (by decide), if_neg (by decide), if_neg (by decide), if_pos (by decide), sS_j (by decide), sS_j (by decide)]
        rw [show (sJ σ J).1 39 12 = nI C from c4, show (sJ σ J).1 39 13 = nI W from c6]
        by_cases e : C = 0
        · have := c7 e
          subst e
          subst this
          rfl
        · rw [if_neg (nI_ne0 (by omega) (by omega))]
    · refine ⟨0, nI n, σ, ?_, Or.inl rfl, fun J => ⟨nI n, sS (sJ σ J) 39 3 0, ?_, by rw [sS_s]; rfl, (fun _ => rfl), rfl, Inv.s3 (σ := sJ σ J) hI0⟩⟩
      · unfold f_X8_told
        rw [if_neg (by decide), if_neg (by decide), if_neg (by decide), if_pos (by decide), count_e hR.2.1.1, bd_s]
      · rw [hm]
        unfold b_X9_told_15 b_X9_told_77
        rw [nx_e, sS_s, if_pos (by decide), if_neg (by decide), if_neg (by decide), if_neg (by decide), sS_j (by decide)]
        rw [show (sJ σ J).1 39 9 = nI n from hR.2.2.2.1.1]
theorem in_or {x : Int32} {n : Nat} (hn : n < 2 ^ 31) : (x < 0 ∨ nI n ≤ x) ∨ ∃ i, i < n ∧ x = nI i := by
  by_cases h0 : x < 0
  · exact Or.inl (Or.inl h0)
  · obtain ⟨i, hi, rfl⟩ := nI_of h0
    by_cases h : i < n
    · exact Or.inr ⟨i, h, rfl⟩
    · exact Or.inl (Or.inr (nI_le (by omega) hi))
theorem noRead_out {x : Int32} {n : Nat} (h9 : σ.1 39 9 = nI n) (hx : x < 0 ∨ nI n ≤ x) : f_X9_noRead x σ = some (1, σ) := by
  unfold f_X9_noRead b_X9_noRead_12 b_X9_noRead_17
  rw [h9, gz_1]
  by_cases h0 : x < 0
  · rw [if_pos h0]
  · rw [if_neg h0, if_neg (Int32.not_lt.mpr (hx.resolve_left h0))]
theorem noRead_in {i n : Nat} (h9 : σ.1 39 9 = nI n) (hi : i < n) (hn : n ≤ 60) : f_X9_noRead (nI i) σ = some (0, σ) := by
  unfold f_X9_noRead b_X9_noRead_17
  rw [h9, gz_0, if_neg (nI_pos (by omega)), if_pos (nI_lt hi (by omega))]
theorem op_letter (hI : Inv σ) (x y z : Int32) : OpX [2] (f_X8_letter x y z σ) (f_X9_letter x y z) := by
  have hI0 := hI
  obtain ⟨-, -, -, -, -, -, n, m, st, ns, lc, nm, lt, ql, hR, hS⟩ := hI
  obtain ⟨r1, r2, r3, r4, r5⟩ := hR
  have hn := r2.2.1
  have h45 : ∀ J, b_X9_letter_45 x y z (sJ σ J) = some (0, sS (sJ σ J) 39 3 1) := fun J => by
    unfold b_X9_letter_45 b_X9_letter_50
    rw [nx_e, sS_s, if_neg (by decide)]
  have hthrow : f_X8_letter x y z σ = some (2, 0, σ) → (∀ J, f_X9_letter x y z (sJ σ J) = b_X9_letter_45 x y z (sJ σ J)) → OpX [2] (f_X8_letter x y z σ) (f_X9_letter x y z) := fun h1 h2 => ⟨2, 0, σ, h1, Or.inr (by decide), fun J => ⟨0, sS (sJ σ J) 39 3 1, by rw [h2, h45], by rw [sS_s]; rfl, (fun h => by cases h), rfl, Inv.s3 (σ := sJ σ J) hI0⟩⟩
  have hgive : ∀ v : Int32, f_X8_letter x y z σ = some (0, v, σ) → (∀ J, f_X9_letter x y z (sJ σ J) = some (v, sS (sJ σ J) 39 3 0)) → OpX [2] (f_X8_letter x y z σ) (f_X9_letter x y z) := fun v h1 h2 => ⟨0, v, σ, h1, Or.inl rfl, fun J => ⟨v, sS (sJ σ J) 39 3 0, h2 J, by rw [sS_s]; rfl, (fun _ => rfl), rfl, Inv.s3 (σ := sJ σ J) hI0⟩⟩
  have h9 : ∀ J, (sJ σ J).1 39 9 = nI n := fun J => r4.1
  rcases in_or (x := x) (n := n) (by omega) with hx | ⟨i, hi, rfl⟩
  · refine hthrow ?_ (fun J => ?_)
    · unfold f_X8_letter b_X8_letter_56
      rw [nameOctet_outi r2.1 hx, bd_s, if_pos rfl, letterOctet_outi r2.1 hx, bd_s, if_pos rfl, quality_outi r2.1 hx, bd_s]
      split
      · rfl
      · split
        · rfl
        · split <;> rfl
    · unfold f_X9_letter
      rw [noRead_out (h9 J) hx, bd_s, if_neg (by decide)]
  · have hmi := r4.2 i hi
    have hvi := r5 i hi
    have hmu : ∀ J, f_X9_letter (nI i) y z (sJ σ J) = (if y < 0 then b_X9_letter_45 (nI i) y z (sJ σ J) else (if (2 : Int32) < y then b_X9_letter_45 (nI i) y z (sJ σ J) else (if z < 0 then b_X9_letter_45 (nI i) y z (sJ σ J) else (if y = 0 then b_X9_letter_42 (nI i) y z (nI (ns i)) z (sJ σ J) else b_X9_letter_42 (nI i) y z (nI (lc i)) z (sJ σ J))))) := by
      intro J
      unfold f_X9_letter
      rw [noRead_in (h9 J) hi hn, bd_s, if_pos rfl, gd_t (inb_n (show i < ln 41 by show i < 120; omega) (by decide)), gd_t (inb_n (show i < ln 43 by show i < 120; omega) (by decide)), nI_clamp (by omega)]
      rw [show (sJ σ J).2.1 41 i = nI (ns i) from hmi.1, show (sJ σ J).2.1 43 i = nI (lc i) from hmi.2.1]
    by_cases hy : y < 0 ∨ (2 : Int32) < y
    · refine hthrow ?_ (fun J => ?_)
      · have hne : ∀ k : Int32, ¬ k < 0 → ¬ 2 < k → ¬ y = k := fun k h1 h2 h => by rw [h] at hy; exact hy.elim h1 h2
        unfold f_X8_letter b_X8_letter_56
        rw [if_neg (hne 0 (by decide) (by decide)), if_neg (hne 1 (by decide) (by decide)), if_neg (hne 2 (by decide) (by decide)), if_pos rfl]
      · rw [hmu]
        by_cases h0 : y < 0
        · rw [if_pos h0]
        · rw [if_neg h0, if_pos (hy.resolve_left h0)]
    · have h0 : ¬ y < 0 := fun h => hy (Or.inl h)
      have h2 : ¬ (2 : Int32) < y := fun h => hy (Or.inr h)
      obtain ⟨j, hj, rfl⟩ := nI_of2 (M := 2) (n := 2) (by decide) h0 (Int32.not_lt.mp h2)
      simp only [if_neg h0, if_neg h2] at hmu
      have hj3 : j = 0 ∨ j = 1 ∨ j = 2 := by omega
      rcases hj3 with rfl | rfl | rfl
      · rcases in_or (x := z) (n := ns i) (by omega) with hz | ⟨k, hk, rfl⟩
        · refine hthrow ?_ (fun J => ?_)
          · unfold f_X8_letter b_X8_letter_56
            rw [if_pos (by decide), nameOctet_outk r2 hi hz, bd_s, if_pos rfl]
          · rw [hmu]
            by_cases hz0 : z < 0
            · rw [if_pos hz0]
            · unfold b_X9_letter_42
              rw [if_neg hz0, if_pos (by decide), if_neg (Int32.not_lt.mpr (hz.resolve_left hz0))]
        · obtain ⟨q, q1, q2, q3⟩ := isSg_of (hvi.2.2.2.1 k hk)
          refine hgive (nm i k) ?_ (fun J => ?_)
          · unfold f_X8_letter b_X8_letter_56
            rw [if_pos (by decide), nameOctet_in r2 hi hk, bd_s, if_neg (fun h => by
              rw [q3] at h
              exact absurd (show nI (q + 33) < 0 by rw [h]; decide) (nI_pos (by omega)))]
          · rw [hmu]
            unfold b_X9_letter_42 b_X9_letter_50 b_X9_letter_110
            rw [if_neg (nI_pos (by omega)), if_pos (by decide), if_pos (nI_lt hk (by omega)), nx_e, sS_s, if_pos (by decide), if_pos (by decide), show (40 : Int32) = nI 40 from rfl, pk_mul, nI_add, gd_t (inb_n (show 40 * i + k < ln 42 by show 40 * i + k < 4800; omega) (by decide)), nI_clamp (by omega)]
            rw [show (sS (sJ σ J) 39 3 0).2.1 42 (40 * i + k) = nm i k from hmi.2.2.1 k hk]
      · rcases in_or (x := z) (n := lc i) (by omega) with hz | ⟨k, hk, rfl⟩
        · refine hthrow ?_ (fun J => ?_)
          · unfold f_X8_letter b_X8_letter_56
            rw [if_neg (by decide), if_pos (by decide), letterOctet_outk r2 hi hz, bd_s, if_pos rfl]
          · rw [hmu]
            by_cases hz0 : z < 0
            · rw [if_pos hz0]
            · unfold b_X9_letter_42
              rw [if_neg hz0, if_neg (by decide), if_neg (Int32.not_lt.mpr (hz.resolve_left hz0))]
        · have hl := isL_pos (hvi.2.2.2.2.1 k hk)
          refine hgive (lt i k) ?_ (fun J => ?_)
          · unfold f_X8_letter b_X8_letter_56
            rw [if_neg (by decide), if_pos (by decide), letterOctet_in r2 hi hk, bd_s, if_neg (fun h => hl (by rw [h]; decide))]
          · rw [hmu]
            unfold b_X9_letter_42 b_X9_letter_50 b_X9_letter_110
            rw [if_neg (nI_pos (by omega)), if_neg (by decide), if_pos (nI_lt hk (by omega)), nx_e, sS_s, if_pos (by decide), if_neg (by decide), if_pos (by decide), show (120 : Int32) = nI 120 from rfl, pk_mul, nI_add, gd_t (inb_n (show 120 * i + k < ln 44 by show 120 * i + k < 14400; omega) (by decide)), nI_clamp (by omega)]
            rw [show (sS (sJ σ J) 39 3 0).2.1 44 (120 * i + k) = lt i k from (hmi.2.2.2 k hk).1]
      · rcases in_or (x := z) (n := lc i) (by omega) with hz | ⟨k, hk, rfl⟩
        · refine hthrow ?_ (fun J => ?_)
          · unfold f_X8_letter b_X8_letter_56
            rw [if_neg (by decide), if_neg (by decide), if_pos (by decide), quality_outk r2 hi hz, bd_s, if_pos rfl]
          · rw [hmu]
            by_cases hz0 : z < 0
            · rw [if_pos hz0]
            · unfold b_X9_letter_42
              rw [if_neg hz0, if_neg (by decide), if_neg (Int32.not_lt.mpr (hz.resolve_left hz0))]
        · obtain ⟨q, q1, q2⟩ := hvi.2.2.2.2.2 k hk
          refine hgive (ql i k) ?_ (fun J => ?_)
          · unfold f_X8_letter b_X8_letter_56
            rw [if_neg (by decide), if_neg (by decide), if_pos (by decide), quality_in r2 r3 hi hk, bd_s, if_neg (fun h => by
              rw [q2] at h
              exact absurd (show nI q < 0 by rw [h]; decide) (nI_pos (by omega)))]
          · rw [hmu]
            unfold b_X9_letter_42 b_X9_letter_50 b_X9_letter_110
            rw [if_neg (nI_pos (by omega)), if_neg (by decide), if_pos (nI_lt hk (by omega)), nx_e, sS_s, if_pos (by decide), if_neg (by decide), if_neg (by decide), show (120 : Int32) = nI 120 from rfl, pk_mul, nI_add, gd_t (inb_n (show 120 * i + k < ln 45 by show 120 * i + k < 14400; omega) (by decide)), nI_clamp (by omega)]
            rw [show (sS (sJ σ J) 39 3 0).2.1 45 (120 * i + k) = ql i k from (hmi.2.2.2 k hk).2]
end OT
