section OF
variable {σ σ' : St}
theorem cfeed_loop {x : Int64} {N j : Nat} {t : Nat → Int32} (hj : j ≤ 8) (hN : N + j ≤ 6000) (ho : ∀ q, q < j → t (N + q) = oct x q) : ∀ (fu k : Nat) (σ : St), k ≤ j → j < fu + k → RowH σ 1 (N + k) t → ∃ (σ' : St), l_X8_feed_35 fu (nI j) x (nI k) σ = some (0, nI (N + j), σ') ∧ RowH σ' 1 (N + j) t ∧ FrG σ σ' [1] [] [2] := by
  intro fu
  induction fu with
  | zero => intro k σ h1 h2; omega
  | succ fu ih =>
    intro k σ h1 h2 hr
    show ∃ (σ' : St), b_X8_feed_35 (l_X8_feed_35 fu) (nI j) x (nI k) σ = some (0, nI (N + j), σ') ∧ _
    unfold b_X8_feed_35
    by_cases e : k = j
    · subst e
      rw [if_pos (nI_le (Nat.le_refl _) (by omega))]
      unfold f_X4_size
      rw [bd_s, hr.1]
      exact ⟨σ, rfl, hr, FrG.rf⟩
    · rw [if_neg (nI_ge (by omega) (by omega)), show ((x.toUInt64 >>> (((8 : Int32) * nI k).toInt64.toUInt64 &&& Int64.toUInt64 63)).toInt64.toInt32 &&& (255 : Int32)) = oct x k from rfl, add_e (Or.inl rfl) hr.1 (show N + k < 6000 by omega), bd_s, nx_e, nI_1]
      have hr' : RowH (rAdd σ 1 (N + k) (oct x k)) 1 (N + (k + 1)) t := (add_row (v := oct x k) (Or.inl rfl) hr (show N + k < 6000 by omega)).cg (fun q hq => by
        by_cases e : q = N + k
        · subst e; rw [upd_s, ho k (by omega)]
        · rw [upd_n e])
      have hf : FrG σ (rAdd σ 1 (N + k) (oct x k)) [1] [] [2] := FrG.of add_fr rfl
      obtain ⟨σ', g1, g2, g5⟩ := ih (k + 1) (rAdd σ 1 (N + k) (oct x k)) (by omega) (by omega) hr'
      exact ⟨σ', g1, g2, hf.tr g5⟩
theorem mfeed_loop {x : Int64} {N j : Nat} (hj : j ≤ 8) (hN : N + j ≤ 6000) : ∀ (fu k : Nat) (σ : St), k ≤ j → j < fu + k → σ.1 39 1 = nI N → (∀ q, q < k → σ.2.1 40 (N + q) = oct x q) → ∃ σ' : St, l_X9_feed_44 fu (nI j) x (nI k) σ = some (nI (N + j), σ') ∧ σ'.1 39 1 = nI (N + j) ∧ (∀ q, q < N → σ'.2.1 40 q = σ.2.1 40 q) ∧ (∀ q, q < j → σ'.2.1 40 (N + q) = oct x q) ∧ FrG σ σ' [] [1] [40] := by
  intro fu
  induction fu with
  | zero => intro k σ h1 h2; omega
  | succ fu ih =>
    intro k σ h1 h2 h39 ho
    show ∃ (σ' : St), b_X9_feed_44 (l_X9_feed_44 fu) (nI j) x (nI k) σ = some (nI (N + j), σ') ∧ _
    unfold b_X9_feed_44
    by_cases e : k = j
    · subst e
      rw [if_pos (nI_le (Nat.le_refl _) (by omega)), nx_e, sS_s, h39, nI_add]
      exact ⟨_, rfl, sS_s, fun _ _ => rfl, ho, FrG.sS.mono rfl⟩
    · rw [if_neg (nI_ge (by omega) (by omega)), h39, nI_add, gd_t (inb_n (show N + k < ln 40 by show N + k < 6000; omega) (by decide)), oct_m k (by omega), nx_e, nI_1, nx_e]
      obtain ⟨σ', g1, g2, g3, g4, g5⟩ := ih (k + 1) (sA σ 40 (nI (N + k)) (oct x k)) (by omega) (by omega) h39 (fun q hq => by
        rw [sA_s (by omega)]
        by_cases e : q = k
        · subst e; rw [upd_s]
        · rw [upd_n (by omega)]; exact ho q (by omega))
      refine ⟨σ', g1, g2, fun q hq => ?_, g4, (FrG.sA.mono rfl).tr g5⟩
      rw [g3 q hq, sA_s (by omega), upd_n (by omega)]
theorem op_feed (hI : Inv σ) (x : Int32) (v : Int64) : OpX [1] (f_X8_feed x v σ) (f_X9_feed x v) := by
  have hI0 := hI
  have hthrow : (∀ J, f_X9_feed x v (sJ σ J) = b_X9_feed_24 x v (sJ σ J)) → f_X8_feed x v σ = some (1, 0, σ) → OpX [1] (f_X8_feed x v σ) (f_X9_feed x v) := by
    intro h1 h2
    refine ⟨1, 0, σ, h2, Or.inr (by decide), fun J => ⟨0, sS (sJ σ J) 39 3 1, ?_, by rw [sS_s]; rfl, (fun h => by cases h), rfl, Inv.s3 (σ := sJ σ J) hI0⟩⟩
    rw [h1]
    unfold b_X9_feed_24 b_X9_feed_29
    rw [nx_e, sS_s, if_neg (by decide)]
  obtain ⟨⟨N, t, hT⟩, ⟨M, o, hO⟩, hP, ⟨C, W, c, hC⟩, ⟨A, a, hA⟩, ⟨l1, l2, l3, hL⟩, n, m, st, ns, lc, nm, lt, ql, hR, hS⟩ := hI
  obtain ⟨ht1, ht2, ht3, ht4⟩ := hT
  have hN : N ≤ 6000 := ht1.2.1
  by_cases h1 : x < 1
  · refine hthrow (fun J => ?_) ?_
    · unfold f_X9_feed
      rw [if_pos h1]
    · unfold f_X8_feed b_X8_feed_22
      rw [if_pos h1]
  · by_cases h2 : (8 : Int32) < x
    · refine hthrow (fun J => ?_) ?_
      · unfold f_X9_feed
        rw [if_neg h1, if_pos h2]
      · unfold f_X8_feed b_X8_feed_22
        rw [if_neg h1, if_pos h2]
    · have h0 : ¬ x < 0 := fun h => h1 (Int32.lt_trans h (by decide))
      obtain ⟨j, hj, rfl⟩ := nI_of2 (M := 8) (n := 8) (by decide) h0 (Int32.not_lt.mp h2)
      have hrm : f_X4_room 1 σ = some (nI (6000 - N), σ) := by
        unfold f_X4_room
        rw [ht1.1, show ln (1 + 1) = 6000 from rfl, pk_sub hN]
      by_cases h3 : N + j ≤ 6000
      · obtain ⟨t', e3, e4⟩ : ∃ t' : Nat → Int32, (∀ q, q < N → t' q = t q) ∧ ∀ q, q < j → t' (N + q) = oct v q := ⟨fun q => if q < N then t q else oct v (q - N), fun q hq => if_pos hq, fun q hq => by
          show (if N + q < N then t (N + q) else oct v (N + q - N)) = oct v q
          rw [if_neg (by omega), Nat.add_sub_cancel_left]⟩
        obtain ⟨σ1, e1, e2, e5⟩ := cfeed_loop (x := v) (t := t') hj h3 e4 FU 0 σ (by omega) (by simp only [FU]; omega) (ht1.cg (fun q hq => (e3 q hq).symm))
        refine ⟨0, nI (N + j), σ1, ?_, Or.inl rfl, fun J => ?_⟩
        · unfold f_X8_feed
          rw [if_neg h1, if_neg h2, hrm, bd_s, if_pos (nI_le (by omega) (by omega))]
          exact e1
        · obtain ⟨σ2, k1, k2, k3, k4, k5⟩ := mfeed_loop (x := v) hj h3 FU 0 (sS (sJ σ1 J) 39 3 0) (by omega) (by simp only [FU]; omega) (by rw [sS_j (by decide)]; show σ1.1 39 1 = nI N; rw [e5.2.1 1 (by decide)]; exact ht2) (fun q hq => by omega)
          have f1 : FrG (sJ σ1 J) σ2 [] [1, 3] [40] := (FrG.sS.mono rfl).tr (k5.mono rfl)
          refine ⟨nI (N + j), σ2, ?_, by rw [k5.2.1 3 (by decide), sS_s]; rfl, fun _ => rfl, by rw [f1.2.2.2]; rfl, ?_⟩
          · unfold f_X9_feed b_X9_feed_29
            rw [if_neg h1, if_neg h2, show (sJ σ1 J).1 39 1 = nI N by show σ1.1 39 1 = nI N; rw [e5.2.1 1 (by decide)]; exact ht2, nI_add, if_pos (show nI (N + j) ≤ (6000 : Int32) from nI_le (b := 6000) h3 (by decide)), nx_e, sS_s, if_pos (by decide)]
            exact k1
          · have O1 : OutI (sJ σ1 J) M o := (hO.fr e5 rfl : OutI σ1 M o)
            have P1 : PlaI (sJ σ1 J) := (hP.fr e5 rfl : PlaI σ1)
            have C1 : CodI (sJ σ1 J) C W c := (hC.fr e5 rfl : CodI σ1 C W c)
            have A1 : AdaI (sJ σ1 J) A a := (hA.fr e5 rfl : AdaI σ1 A a)
            have L1 : LimI (sJ σ1 J) l1 l2 l3 := (hL.fr16 e5 rfl : LimI σ1 l1 l2 l3)
            have R1 : RdI (sJ σ1 J) n m st ns lc nm lt ql := (hR.fr e5 rfl : RdI σ1 n m st ns lc nm lt ql)
            have S1 : SoI (sJ σ1 J) n lc lt ql := (hS.fr e5 rfl rfl : SoI σ1 n lc lt ql)
            refine ⟨⟨N + j, t', ?_, k2, fun q hq => ?_, fun q hq => ?_⟩, ⟨M, o, O1.fr f1 rfl⟩, P1.fr f1 rfl, ⟨C, W, c, C1.fr f1 rfl⟩, ⟨A, a, A1.fr f1 rfl⟩, ⟨l1, l2, l3, L1.fr16 f1 rfl⟩, n, m, st, ns, lc, nm, lt, ql, R1.fr f1 rfl, S1.fr f1 rfl rfl⟩
            · exact RowH.frg (σ := sJ σ1 J) e2 (f1.1 1 (by decide) (by decide)) (f1.2.2.1 2 (by decide))
            · by_cases hq1 : q < N
              · rw [k3 q hq1, e3 q hq1]
                show σ1.2.1 40 q = t q
                rw [e5.2.2.1 40 (by decide)]
                exact ht3 q hq1
              · obtain ⟨q', rfl⟩ : ∃ q', q = N + q' := ⟨q - N, by omega⟩
                rw [k4 q' (by omega), e4 q' (by omega)]
            · by_cases hq1 : q < N
              · rw [e3 q hq1]; exact ht4 q hq1
              · obtain ⟨q', rfl⟩ : ∃ q', q = N + q' := ⟨q - N, by omega⟩
                rw [e4 q' (by omega)]
                exact oct_0
      · refine hthrow (fun J => ?_) ?_
        · unfold f_X9_feed
          rw [if_neg h1, if_neg h2, show (sJ σ J).1 39 1 = nI N from ht2, nI_add, if_neg (show ¬ nI (N + j) ≤ (6000 : Int32) from nI_ge (b := N + j) (a := 6000) (by omega) (by omega))]
        · unfold f_X8_feed b_X8_feed_22
          rw [if_neg h1, if_neg h2, hrm, bd_s, if_neg (nI_ge (by omega) (by omega))]
theorem op_place (hI : Inv σ) : OpS (f_X8_place σ) f_X9_place := by
  refine ⟨σ.1 0 7, σ, rfl, sS σ 39 3 0, ?_, hI.s3⟩
  unfold f_X9_place
  rw [nx_e, sS_j (by decide)]
  rw [show σ.1 0 7 = σ.1 39 2 from hI.2.2.1]
theorem isW_f {x : Int32} {M : Nat} (hM : M < 2 ^ 31) : isW x (nI M) = true ↔ ∃ j : Nat, j ≤ M ∧ x = nI j := by
  simp only [isW, decide_eq_true_eq]
  constructor
  · intro h
    exact nI_of2 (nI_toInt hM) (Int32.not_lt.mpr h.1) h.2
  · rintro ⟨j, hj, rfl⟩
    exact ⟨nI_pos' (by omega), nI_le hj hM⟩
theorem op_limits (hI : Inv σ) (x y z : Int32) : OpS (f_X8_limits x y z σ) (f_X9_limits x y z) := by
  have hI0 := hI
  obtain ⟨⟨N, t, hT⟩, ⟨M, o, hO⟩, hP, ⟨C, W, c, hC⟩, ⟨A, a, hA⟩, ⟨l1, l2, l3, hL⟩, n, m, st, ns, lc, nm, lt, ql, hR, hS⟩ := hI
  have hno : ∀ x M : Int32, isW x M = false → x < 0 ∨ M < x := by
    intro x M h
    simp only [isW, decide_eq_false_iff_not] at h
    by_cases h0 : x < 0
    · exact Or.inl h0
    · exact Or.inr (Int32.not_le.mp (fun h9 => h ⟨Int32.not_lt.mp h0, h9⟩))
  have hbad : (isW x 93 = false ∨ isW y 93 = false ∨ isW z 120 = false) → OpS (f_X8_limits x y z σ) (f_X9_limits x y z) := by
    intro h
    refine ⟨0, σ, ?_, sS σ 39 3 0, ?_, hI0.s3⟩
    · unfold f_X8_limits b_X8_limits_27
      rw [isWithin_e, bd_s, gz_0]
      cases h1 : isW x 93
      · rw [if_pos (by decide)]
      · rw [if_neg (by decide), isWithin_e, bd_s]
        cases h2 : isW y 93
        · rw [if_pos (by decide), gz_0]
        · rw [if_neg (by decide), isWithin_e, bd_s]
          cases h3 : isW z 120
          · rw [if_pos (by decide), gz_0]
          · rw [h1, h2, h3] at h; simp at h
    · have h39 : b_X9_limits_39 x y z (sS σ 39 3 0) = some (0, sS σ 39 3 0) := by
        unfold b_X9_limits_39 b_X9_limits_40 b_X9_limits_62
        rw [if_pos rfl, gz_0]
      unfold f_X9_limits
      rw [nx_e, h39]
      by_cases a1 : x < 0
      · rw [if_pos a1]
      · rw [if_neg a1]
        by_cases a2 : 93 < x
        · rw [if_pos a2]
        · rw [if_neg a2]
          by_cases a3 : y < 0
          · rw [if_pos a3]
          · rw [if_neg a3]
            by_cases a4 : 93 < y
            · rw [if_pos a4]
            · rw [if_neg a4]
              by_cases a5 : z < 0
              · rw [if_pos a5]
              · rw [if_neg a5]
                by_cases a6 : 120 < z
                · rw [if_pos a6]
                · rcases h with h | h | h
                  · exact absurd (hno _ _ h) (fun h => h.elim a1 a2)
                  · exact absurd (hno _ _ h) (fun h => h.elim a3 a4)
                  · exact absurd (hno _ _ h) (fun h => h.elim a5 a6)
  cases h1 : isW x 93
  · exact hbad (Or.inl h1)
  · cases h2 : isW y 93
    · exact hbad (Or.inr (Or.inl h2))
    · cases h3 : isW z 120
      · exact hbad (Or.inr (Or.inr h3))
      · obtain ⟨i, hi, rfl⟩ := (isW_f (M := 93) (by decide)).mp h1
        obtain ⟨j, hj, rfl⟩ := (isW_f (M := 93) (by decide)).mp h2
        obtain ⟨k, hk, rfl⟩ := (isW_f (M := 120) (by decide)).mp h3
        have f1 : FrG σ (sS (sS (sS σ 16 1 (nI i)) 16 2 (nI j)) 16 3 (nI k)) [16] [] [] := ((frg_oS (by decide)).tr (frg_oS (by decide))).tr (frg_oS (by decide))
        refine ⟨1, sS (sS (sS σ 16 1 (nI i)) 16 2 (nI j)) 16 3 (nI k), ?_, sS (sS (sS (sS (sS (sS (sS σ 16 1 (nI i)) 16 2 (nI j)) 16 3 (nI k)) 39 3 0) 39 16 (nI i)) 39 17 (nI j)) 39 18 (nI k), ?_, ?_⟩
        · unfold f_X8_limits f_X6_setLimits
          rw [isWithin_e, bd_s, h1, if_neg (by decide), isWithin_e, bd_s, h2, if_neg (by decide), isWithin_e, bd_s, h3, if_neg (by decide), nx_e, nx_e, nx_e, bd_s, gz_1]
        · unfold f_X9_limits b_X9_limits_40 b_X9_limits_62
          rw [nx_e, if_neg (nI_pos (by omega)), if_neg (show ¬ (93 : Int32) < nI i from nI_nlt (a := 93) hi (by omega)), if_neg (nI_pos (by omega)), if_neg (show ¬ (93 : Int32) < nI j from nI_nlt (a := 93) hj (by omega)), if_neg (nI_pos (by omega)), if_neg (show ¬ (120 : Int32) < nI k from nI_nlt (a := 120) hk (by omega)), if_neg (by decide), nx_e, nx_e, nx_e, gz_1]
        · have f2 : FrG (sS (sS (sS σ 16 1 (nI i)) 16 2 (nI j)) 16 3 (nI k)) (sS (sS (sS (sS (sS (sS (sS σ 16 1 (nI i)) 16 2 (nI j)) 16 3 (nI k)) 39 3 0) 39 16 (nI i)) 39 17 (nI j)) 39 18 (nI k)) [] [3, 16, 17, 18] [] := (((FrG.sS.mono rfl).tr (FrG.sS.mono rfl)).tr (FrG.sS.mono rfl)).tr (FrG.sS.mono rfl)
          have f3 : FrG σ (sS (sS (sS (sS (sS (sS (sS σ 16 1 (nI i)) 16 2 (nI j)) 16 3 (nI k)) 39 3 0) 39 16 (nI i)) 39 17 (nI j)) 39 18 (nI k)) [16] [3, 16, 17, 18] [] := (f1.mono rfl).tr (f2.mono rfl)
          refine ⟨⟨N, t, hT.fr f3 rfl⟩, ⟨M, o, hO.fr f3 rfl⟩, hP.fr f3 rfl, ⟨C, W, c, hC.fr f3 rfl⟩, ⟨A, a, hA.fr f3 rfl⟩, ⟨i, j, k, hi, hj, hk, ?_⟩, n, m, st, ns, lc, nm, lt, ql, hR.fr f3 rfl, hS.fr f3 rfl rfl⟩
          rw [f2.1 16 (by decide) (by decide)]
          refine ⟨?_, ?_, ?_, ?_, sS_s, sS_s⟩
          · rw [sS_j (by decide), sS_j (by decide), sS_s]
          · rw [sS_j (by decide), sS_j (by decide), sS_s]
          · rw [sS_j (by decide), sS_s]
          · rw [sS_j (by decide), sS_s]
theorem op_out (hI : Inv σ) (x : Int32) : OpX [2] (f_X8_out x σ) (f_X9_out x) := by
  have hI0 := hI
  obtain ⟨⟨N, t, hT⟩, ⟨M, o, hO⟩, -⟩ := hI
  obtain ⟨h1, h2, h3, h4⟩ := hO
  have hM : M ≤ 12000 := h1.2.1
  by_cases hx : x < 0 ∨ nI M ≤ x
  · refine ⟨2, 0, σ, ?_, Or.inr (by decide), fun J => ⟨0, sS (sJ σ J) 39 3 1, ?_, by rw [sS_s]; rfl, (fun h => by cases h), rfl, Inv.s3 (σ := sJ σ J) hI0⟩⟩
    · unfold f_X8_out
      rw [at_out h1.1 hx, bd_s, if_pos rfl]
    · have h13 : b_X9_out_13 x (sJ σ J) = some (0, sS (sJ σ J) 39 3 1) := by
        unfold b_X9_out_13 b_X9_out_18 b_X9_out_38
        rw [nx_e, sS_s, if_neg (by decide)]
      unfold f_X9_out
      by_cases h0 : x < 0
      · rw [if_pos h0, h13]
      · rw [if_neg h0, show (sJ σ J).1 39 29 = nI M from h2, if_neg (Int32.not_lt.mpr (hx.resolve_left h0)), h13]
  · have h0 : ¬ x < 0 := fun h => hx (Or.inl h)
    obtain ⟨j, hj, rfl⟩ := nI_of h0
    have hjM : j < M := by
      refine Nat.lt_of_not_le (fun h => hx (Or.inr (nI_le h hj)))
    have hpos := h4 j hjM
    refine ⟨0, o j, σ, ?_, Or.inl rfl, fun J => ⟨o j, sS (sJ σ J) 39 3 0, ?_, by rw [sS_s]; rfl, (fun _ => rfl), rfl, Inv.s3 (σ := sJ σ J) hI0⟩⟩
    · unfold f_X8_out
      rw [at_in (Or.inr (Or.inl rfl)) h1 hjM, bd_s, if_neg (fun h => by rw [h] at hpos; exact absurd hpos (by decide))]
    · unfold f_X9_out b_X9_out_18 b_X9_out_38
      rw [if_neg h0, show (sJ σ J).1 39 29 = nI M from h2, if_pos (nI_lt hjM (by omega)), nx_e, sS_s, if_pos (by decide), gd_t (inb_n (show j < ln 53 by show j < 12000; omega) (by decide)), nI_clamp hj]
      rw [show (sS (sJ σ J) 39 3 0).2.1 53 j = o j from h3 j hjM]
theorem magain_loop {M : Nat} {o : Nat → Int32} (hM : M ≤ 6000) : ∀ (fu k : Nat) (σ : St), k ≤ M → M < fu + k → σ.1 39 29 = nI M → (∀ q, q < M → σ.2.1 53 q = o q) → (∀ q, q < k → σ.2.1 40 q = o q) → ∃ σ' : St, l_X9_again_19 fu (nI k) σ = some (nI M, σ') ∧ σ'.1 39 1 = nI M ∧ (∀ q, q < M → σ'.2.1 40 q = o q) ∧ FrG σ σ' [] [1] [40] := by
  intro fu
  induction fu with
  | zero => intro k σ h1 h2; omega
  | succ fu ih =>
    intro k σ h1 h2 h29 h53 ho
    show ∃ (σ' : St), b_X9_again_19 (l_X9_again_19 fu) (nI k) σ = some (nI M, σ') ∧ _
    unfold b_X9_again_19
    rw [h29]
    by_cases e : k = M
    · subst e
      rw [if_pos (nI_le (Nat.le_refl _) (by omega)), nx_e, sS_s]
      exact ⟨_, rfl, sS_s, ho, FrG.sS.mono rfl⟩
    · rw [if_neg (nI_ge (by omega) (by omega)), gd_t (inb_n (show k < ln 53 by show k < 12000; omega) (by decide)), gd_t (inb_n (show k < ln 40 by show k < 6000; omega) (by decide)), nI_clamp (by omega), nx_e, nI_1, nx_e]
      obtain ⟨σ', g1, g2, g3, g4⟩ := ih (k + 1) (sA σ 40 (nI k) (σ.2.1 53 k)) (by omega) (by omega) h29 (by rw [sA_q (by decide)]; exact h53) (fun q hq => by
        rw [sA_s (by omega)]
        by_cases e : q = k
        · subst e; rw [upd_s]; exact h53 q (by omega)
        · rw [upd_n (by omega)]; exact ho q (by omega))
      exact ⟨σ', g1, g2, g3, (FrG.sA.mono rfl).tr g4⟩
theorem op_again (hI : Inv σ) : OpS (f_X8_again σ) f_X9_again := by
  have hI0 := hI
  obtain ⟨⟨N, t, hT⟩, ⟨M, o, hO⟩, hP, ⟨C, W, c, hC⟩, ⟨A, a, hA⟩, ⟨l1, l2, l3, hL⟩, n, m, st, ns, lc, nm, lt, ql, hR, hS⟩ := hI
  have hO1 := hO
  obtain ⟨h1, h2, h3, h4⟩ := hO
  have hM : M ≤ 12000 := h1.2.1
  unfold f_X8_again
  unfold f_X4_size
  rw [bd_s, h1.1]
  by_cases hm : M ≤ 6000
  · rw [if_pos (show nI M ≤ (6000 : Int32) from nI_le (b := 6000) hm (by decide))]
    obtain ⟨σ1, e1, e2, e3⟩ := copy_e (p0 := 1) (p1 := 3) (Or.inl rfl) (Or.inr (Or.inl rfl)) (by decide) h1 hm
    rw [e1, bd_s, bd_s]
    have f1 : FrG σ σ1 [1] [] [2] := FrG.of e3 rfl
    obtain ⟨σ2, k1, k2, k3, k4⟩ := magain_loop (o := o) hm FU 0 (sS σ1 39 3 0) (by omega) (by simp only [FU]; omega) (by rw [sS_j (by decide), f1.2.1 29 (by decide)]; exact h2) (fun q hq => by rw [sS_a, f1.2.2.1 53 (by decide)]; exact h3 q hq) (fun q hq => by omega)
    have f2 : FrG σ1 σ2 [] [1, 3] [40] := (FrG.sS.mono rfl).tr (k4.mono rfl)
    have f3 : FrG σ σ2 [1] [1, 3] [2, 40] := (f1.mono rfl).tr (f2.mono rfl)
    refine ⟨nI M, σ1, by rw [e2.1], σ2, ?_, ⟨⟨M, o, ?_, k2, k3, h4⟩, ⟨M, o, hO1.fr f3 rfl⟩, hP.fr f3 rfl, ⟨C, W, c, hC.fr f3 rfl⟩, ⟨A, a, hA.fr f3 rfl⟩, ⟨l1, l2, l3, hL.fr16 f3 rfl⟩, n, m, st, ns, lc, nm, lt, ql, hR.fr f3 rfl, hS.fr f3 rfl rfl⟩⟩
    · unfold f_X9_again
      rw [nx_e, sS_j (by decide), f1.2.1 29 (by decide), h2, if_pos (show nI M ≤ (6000 : Int32) from nI_le (b := 6000) hm (by decide))]
      exact k1
    · exact e2.frg (f2.1 1 (by decide) (by decide)) (f2.2.2.1 2 (by decide))
  · rw [if_neg (show ¬ nI M ≤ (6000 : Int32) from nI_ge (b := M) (a := 6000) (by omega) (by omega))]
    refine ⟨-1, σ, rfl, sS σ 39 3 0, ?_, hI0.s3⟩
    unfold f_X9_again
    rw [nx_e, sS_j (by decide), h2, if_neg (show ¬ nI M ≤ (6000 : Int32) from nI_ge (b := M) (a := 6000) (by omega) (by omega))]
end OF
