section OY
variable {σ τ : St}
theorem write_core {fm n m : Nat} {st ns lc : Nat → Nat} {nm lt ql : Nat → Nat → Int32} {x2 x3 : Int32} {ch : Nat → Bool} {fa fb : Nat → Nat} (hI : Inv σ) (hfm : fm = 0 ∨ fm = 1) (hR : RdI σ n m st ns lc nm lt ql) (hC : ChC σ x2 x3 n ch fa fb) (hM : ∀ (σ1 : St) (J : Nat → Int64), FrG σ σ1 [3] [] [4] → ChM (sS (sS (sJ σ1 J) 39 3 0) 39 30 0) (nI fm) x2 x3 n ch fa fb) (hab : ∀ i, i < n → ch i = true → fa i < fb i ∧ fb i ≤ lc i) : ∃ (r : Int32) (σ1 : St), b_X8_write_67 (nI fm) x2 x3 σ = some (0, r, σ1) ∧ ∀ J : Nat → Int64, ∃ σ2 : St, b_X9_write_49 (nI fm) x2 x3 (sJ σ1 J) = some (r, σ2) ∧ σ2.1 39 3 = 0 ∧ σ2.2.2.2.2 = J ∧ Inv σ2 := by
  have hR0 := hR
  obtain ⟨r1, r2, r3, r4, r5⟩ := hR0
  have hn := r2.2.1
  have hTl : (wt ch (rT fm ns nm lt ql fa fb) n).length ≤ 20000 := by
    have := wt_le (ch := ch) (T := rT fm ns nm lt ql fa fb) (B := 290) n (fun i hi hc => by
      have h1 := hab i hi hc
      have h2 := r5 i hi
      unfold rT
      rw [rtx_len (by omega)]
      split <;> omega)
    have h3 : 290 * n ≤ 290 * 60 := Nat.mul_le_mul_left _ hn
    omega
  have hmod : ∀ (σ1 : St) (J : Nat → Int64), FrG σ σ1 [3] [] [4] → _ := fun σ1 J hf => mwrite_e (σ := sS (sS (sJ σ1 J) 39 3 0) 39 30 0) (fm := fm) (x2 := x2) (x3 := x3) (ch := ch) (fa := fa) (fb := fb) (n := n) (ns := ns) (lc := lc) (nm := nm) (lt := lt) (ql := ql) hfm (by
      have h := (hR.fr hf rfl).2.2.2.1
      unfold MRI at h ⊢
      rw [sS_j (by decide), sS_j (by decide)]
      exact h) hn r5 (hM σ1 J hf) hab hTl FU 0 (sS (sS (sJ σ1 J) 39 3 0) 39 30 0) (by omega) (by simp only [FU]; omega) ⟨sS_s, fun k hk => by cases hk⟩ FrG.rf
  unfold b_X8_write_67
  rw [size_e hfm hR hC hab, bd_s]
  have h49 : ∀ (σ1 : St) (J : Nat → Int64), b_X9_write_49 (nI fm) x2 x3 (sJ σ1 J) = l_X9_write_70 FU (nI fm) x2 x3 (nI 0) (sS (sS (sJ σ1 J) 39 3 0) 39 30 0) := fun σ1 J => by
    unfold b_X9_write_49 b_X9_write_50
    rw [nx_e, sS_s, if_pos (by decide), nx_e]
    rfl
  obtain ⟨⟨N, t, hT⟩, ⟨M, o, hO⟩, hP, ⟨C, W, c, hCd⟩, ⟨A, a, hA⟩, ⟨l1, l2, l3, hL⟩, n', m', st', ns', lc', nm', lt', ql', hR', hS'⟩ := hI
  by_cases hle : (wt ch (rT fm ns nm lt ql fa fb) n).length ≤ 12000
  · rw [if_pos (show nI (wt ch (rT fm ns nm lt ql fa fb) n).length ≤ (12000 : Int32) from nI_le (b := 12000) hle (by decide))]
    obtain ⟨σ1, g1, g2, g3⟩ := text_e hfm hR hC hab hle
    rw [g1, bd_s]
    refine ⟨_, σ1, rfl, fun J => ?_⟩
    obtain ⟨σ2, k1, -⟩ := hmod σ1 J g3
    obtain ⟨k2, k3, k4, k5⟩ := k1 hle
    have f1 : FrG (sJ σ1 J) σ2 [] [3, 29, 30] [53, 54] := ((FrG.sS.mono rfl).tr (FrG.sS.mono rfl)).tr (k5.mono rfl)
    have hNN : NN (wt ch (rT fm ns nm lt ql fa fb) n) := nn_wt n (fun i hi hc => by
      have h1 := hab i hi hc
      obtain ⟨v1, v2, v3, v4, v5, v6⟩ := r5 i hi
      unfold rT
      refine nn_rtx (fun j hj => ?_) (fun j hj => ?_) (fun j hj => ?_)
      · obtain ⟨q, q1, q2, q3⟩ := isSg_of (v4 j hj)
        rw [q3]
        exact nI_pos' (by omega)
      · have := isL_pos (v5 (fa i + j) (by omega))
        exact Int32.le_of_lt (Int32.not_le.mp this)
      · obtain ⟨q, q1, q2⟩ := v6 (fa i + j) (by omega)
        show 0 ≤ 33 + ql i (fa i + j)
        rw [q2, show (33 : Int32) = nI 33 from rfl, nI_add]
        exact nI_pos' (by omega))
    refine ⟨σ2, by rw [h49]; exact k2, by rw [k5.2.1 3 (by decide), sS_j (by decide), sS_s], by rw [f1.2.2.2]; rfl, ?_⟩
    have T1 : TapI (sJ σ1 J) N t := (hT.fr g3 rfl : TapI σ1 N t)
    have P1 : PlaI (sJ σ1 J) := (hP.fr g3 rfl : PlaI σ1)
    have C1 : CodI (sJ σ1 J) C W c := (hCd.fr g3 rfl : CodI σ1 C W c)
    have A1 : AdaI (sJ σ1 J) A a := (hA.fr g3 rfl : AdaI σ1 A a)
    have L1 : LimI (sJ σ1 J) l1 l2 l3 := (hL.fr16 g3 rfl : LimI σ1 l1 l2 l3)
    have R1 : RdI (sJ σ1 J) n' m' st' ns' lc' nm' lt' ql' := (hR'.fr g3 rfl : RdI σ1 n' m' st' ns' lc' nm' lt' ql')
    have S1 : SoI (sJ σ1 J) n' lc' lt' ql' := (hS'.fr g3 rfl rfl : SoI σ1 n' lc' lt' ql')
    refine ⟨⟨N, t, T1.fr f1 rfl⟩, ⟨(wt ch (rT fm ns nm lt ql fa fb) n).length, fun k => (wt ch (rT fm ns nm lt ql fa fb) n).getD k 0, ?_, k3, k4, fun k hk => ?_⟩, P1.fr f1 rfl, ⟨C, W, c, C1.fr f1 rfl⟩, ⟨A, a, A1.fr f1 rfl⟩, ⟨l1, l2, l3, L1.fr16 f1 rfl⟩, n', m', st', ns', lc', nm', lt', ql', R1.fr f1 rfl, S1.fr f1 rfl rfl⟩
    · exact RowH.frg (σ := sJ σ1 J) g2 (f1.1 3 (by decide) (by decide)) (f1.2.2.1 4 (by decide))
    · refine hNN _ ?_
      show (wt ch (rT fm ns nm lt ql fa fb) n).getD k 0 ∈ _
      rw [List.getD_eq_getElem?_getD, List.getElem?_eq_getElem hk]
      exact List.getElem_mem hk
  · rw [if_neg (show ¬ nI (wt ch (rT fm ns nm lt ql fa fb) n).length ≤ (12000 : Int32) from nI_ge (b := (wt ch (rT fm ns nm lt ql fa fb) n).length) (a := 12000) (by omega) (by omega))]
    refine ⟨_, σ, rfl, fun J => ?_⟩
    obtain ⟨σ2, -, k1⟩ := hmod σ J FrG.rf
    obtain ⟨k2, k5⟩ := k1 hle
    have f1 : FrG (sJ σ J) σ2 [] [3, 30] [54] := ((FrG.sS.mono rfl).tr (FrG.sS.mono rfl)).tr (k5.mono rfl)
    refine ⟨σ2, by rw [h49]; exact k2, by rw [k5.2.1 3 (by decide), sS_j (by decide), sS_s], by rw [f1.2.2.2]; rfl, ?_⟩
    have T1 : TapI (sJ σ J) N t := hT
    have O1 : OutI (sJ σ J) M o := hO
    have P1 : PlaI (sJ σ J) := hP
    have C1 : CodI (sJ σ J) C W c := hCd
    have A1 : AdaI (sJ σ J) A a := hA
    have L1 : LimI (sJ σ J) l1 l2 l3 := hL
    have R1 : RdI (sJ σ J) n' m' st' ns' lc' nm' lt' ql' := hR'
    have S1 : SoI (sJ σ J) n' lc' lt' ql' := hS'
    exact ⟨⟨N, t, T1.fr f1 rfl⟩, ⟨M, o, O1.fr f1 rfl⟩, P1.fr f1 rfl, ⟨C, W, c, C1.fr f1 rfl⟩, ⟨A, a, A1.fr f1 rfl⟩, ⟨l1, l2, l3, L1.fr16 f1 rfl⟩, n', m', st', ns', lc', nm', lt', ql', R1.fr f1 rfl, S1.fr f1 rfl rfl⟩
theorem MbC.fr4 {n : Nat} {bn gr : Nat → Int32} {sh : Nat → Bool} (h : MbC σ n bn gr sh) (hf : FrG σ τ [3] [] [4]) : MbC τ n bn gr sh := by
  unfold MbC
  rw [hf.2.2.1 27 (by decide), hf.2.2.1 30 (by decide)]
  exact h
theorem op_write (hI : Inv σ) (x y z : Int32) : OpX [1, 2, 3] (f_X8_write x y z σ) (f_X9_write x y z) := by
  have hI0 := hI
  obtain ⟨-, -, -, ⟨C, W0, c, hC⟩, -, -, n, m, st, ns, lc, nm, lt, ql, hR, hS⟩ := hI
  have hR0 := hR
  obtain ⟨r1, r2, r3, r4, r5⟩ := hR0
  have hn := r2.2.1
  obtain ⟨c1, c2, c3, c4, -⟩ := hC
  have hthrow : ∀ k, (k = 1 ∨ k = 2 ∨ k = 3) → f_X8_write x y z σ = some (k, 0, σ) → (∀ J, f_X9_write x y z (sJ σ J) = b_X9_write_50 x y z (nI k) (sJ σ J)) → OpX [1, 2, 3] (f_X8_write x y z σ) (f_X9_write x y z) := by
    intro k hk h1 h2
    refine ⟨k, 0, σ, h1, Or.inr (by rcases hk with rfl | rfl | rfl <;> decide), fun J => ⟨0, sS (sJ σ J) 39 3 (nI k), ?_, by rw [sS_s]; rcases hk with rfl | rfl | rfl <;> rfl, (fun h => by omega), rfl, Inv.s3 (σ := sJ σ J) hI0⟩⟩
    rw [h2]
    unfold b_X9_write_50
    rw [nx_e, sS_s, if_neg (nI_nle (by omega) (by omega))]
  have hgo : ∀ fm : Nat, (fm = 0 ∨ fm = 1) → x = nI fm → f_X8_write x y z σ = b_X8_write_67 x y z σ → (∀ τ : St, τ.1 39 19 = σ.1 39 19 → τ.1 39 12 = σ.1 39 12 → τ.1 39 20 = σ.1 39 20 → f_X9_write x y z τ = b_X9_write_49 x y z τ) → ∀ (ch : Nat → Bool) (fa fb : Nat → Nat), ChC σ y z n ch fa fb → (∀ (σ1 : St) (J : Nat → Int64), FrG σ σ1 [3] [] [4] → ChM (sS (sS (sJ σ1 J) 39 3 0) 39 30 0) x y z n ch fa fb) → (∀ i, i < n → ch i = true → fa i < fb i ∧ fb i ≤ lc i) → OpX [1, 2, 3] (f_X8_write x y z σ) (f_X9_write x y z) := by
    intro fm hfm hx h1 h2 ch fa fb hCC hCM hab
    subst hx
    obtain ⟨r, σ1, e1, e2⟩ := write_core hI0 hfm hR hCC hCM hab
    have hf1 : σ1.1 39 = σ.1 39 := by
      have hsz := size_e hfm hR hCC hab
      unfold b_X8_write_67 at e1
      rw [hsz, bd_s] at e1
      by_cases hle : (wt ch (rT fm ns nm lt ql fa fb) n).length ≤ 12000
      · rw [if_pos (show nI (wt ch (rT fm ns nm lt ql fa fb) n).length ≤ (12000 : Int32) from nI_le (b := 12000) hle (by decide))] at e1
        obtain ⟨σ9, g1, g2, g3⟩ := text_e hfm hR hCC hab hle
        rw [g1, bd_s] at e1
        cases e1
        funext j
        exact g3.2.1 j (by simp)
      · by_cases h9 : nI (wt ch (rT fm ns nm lt ql fa fb) n).length ≤ (12000 : Int32)
        · rw [if_pos h9] at e1
          obtain ⟨q, w, a1, a2⟩ := bd_ok e1
          cases a2
          exfalso
          have hTl : (wt ch (rT fm ns nm lt ql fa fb) n).length ≤ 20000 := by
            have := wt_le (ch := ch) (T := rT fm ns nm lt ql fa fb) (B := 290) n (fun i hi hc => by
              have h1 := hab i hi hc
              have h2 := r5 i hi
              unfold rT
              rw [rtx_len (by omega)]
              split <;> omega)
            have h3 : 290 * n ≤ 290 * 60 := Nat.mul_le_mul_left _ hn
            omega
          exact nI_ge (b := (wt ch (rT fm ns nm lt ql fa fb) n).length) (a := 12000) (by omega) (by omega) h9
        · rw [if_neg h9] at e1
          cases e1
          rfl
    refine ⟨0, r, σ1, by rw [h1]; exact e1, Or.inl rfl, fun J => ?_⟩
    obtain ⟨σ2, k1, k2, k3, k4⟩ := e2 J
    refine ⟨r, σ2, ?_, by rw [k2]; rfl, fun _ => rfl, k3, k4⟩
    rw [h2 (sJ σ1 J) (by show σ1.1 39 19 = _; rw [hf1]) (by show σ1.1 39 12 = _; rw [hf1]) (by show σ1.1 39 20 = _; rw [hf1])]
    exact k1
  cases hx : (x == 0 || x == 1)
  · refine hthrow 1 (Or.inl rfl) ?_ (fun J => ?_)
    · unfold f_X8_write
      rw [isForm_e, bd_s, hx, if_pos (by decide)]
    · unfold f_X9_write b_X9_write_10
      by_cases h1 : x < 0
      · rw [if_pos h1]
        rfl
      · rw [if_neg h1]
        by_cases h2 : x ≤ 1
        · obtain ⟨j, hj, rfl⟩ := nI_of2 (M := 1) (n := 1) (by decide) h1 h2
          have : j = 0 ∨ j = 1 := by omega
          rcases this with rfl | rfl <;> exact absurd hx (by decide)
        · rw [if_neg h2]
          rfl
  · obtain ⟨fm, hfm, rfl⟩ := isForm_f hx
    have hcu : f_X8_write (nI fm) y z σ = (if y = (-2 : Int32) then b_X8_write_41 (nI fm) y z σ else bd (f_X8_hasBin y σ) (fun r6 s7 => (if r6 = 0 then some (2, (0 : Int32), s7) else b_X8_write_41 (nI fm) y z s7))) := by
      unfold f_X8_write
      rw [isForm_e, bd_s, hx, if_neg (by decide)]
    have hmu : ∀ τ : St, f_X9_write (nI fm) y z τ = (if y = (-2) then b_X9_write_32 (nI fm) y z τ else bd (f_X9_noBin y τ) (fun r4 s5 => (if r4 = 0 then b_X9_write_32 (nI fm) y z s5 else b_X9_write_50 (nI fm) y z (2) s5))) := fun τ => by
      unfold f_X9_write
      rw [if_neg (nI_pos (by omega)), if_pos (show nI fm ≤ (1 : Int32) from nI_le (b := 1) (by omega) (by decide))]
    by_cases hy : y = -2
    · subst hy
      refine hgo fm hfm rfl ?_ (fun τ _ _ _ => ?_) (fun _ => true) (fun _ => 0) lc (fun τ hf i hi => ?_) (fun σ1 J hf1 τ hf K k hk => ?_) (fun i hi _ => ⟨(r5 i hi).2.2.1, Nat.le_refl _⟩)
      · rw [hcu, if_pos rfl]
        unfold b_X8_write_41
        rw [if_pos rfl]
      · rw [hmu, if_pos rfl]
        unfold b_X9_write_32
        rw [if_pos rfl]
      · have h0 := (r5 i hi).2.2.1
        have h120 := (r5 i hi).2.1
        have hla : f_X8_lastOf (nI i) (-2) τ = some (nI (lc i), τ) := by
          unfold f_X8_lastOf b_X8_lastOf_25
          rw [if_pos rfl, show τ.2.2.1 = σ.2.2.1 by rw [hf.2.2.2], letterCount_in (rdc4 hR hf).1 hi, bd_s]
        have hfi : f_X8_firstOf (nI i) (-2) τ = some (0, τ) := by
          unfold f_X8_firstOf b_X8_firstOf_18
          rw [if_pos rfl]
        refine ⟨?_, fun _ => ⟨hfi, hla⟩⟩
        unfold f_X8_isChosen
        rw [hfi, bd_s, hla, bd_s, if_pos (show (0 : Int32) < nI (lc i) from nI_lt (a := 0) h0 (by omega)), if_pos rfl, gz_1]
        rfl
      · have h9 : τ.1 39 9 = nI n := by
          rw [hf.2.1 9 (by decide), sS_j (by decide), sS_j (by decide)]
          show σ1.1 39 9 = nI n
          rw [hf1.2.1 9 (by decide)]
          exact r4.1
        have h43 : τ.2.1 43 k = nI (lc k) := by
          rw [hf.2.2.1 43 (by decide)]
          show σ1.2.1 43 k = nI (lc k)
          rw [hf1.2.2.1 43 (by decide)]
          exact (r4.2 k hk).2.1
        unfold b_X9_write_70 b_X9_write_194
        rw [h9, if_neg (nI_ge hk (by omega)), if_pos rfl, gd_t (inb_n (show k < ln 43 by show k < 120; omega) (by decide)), nI_clamp (by omega), h43, if_pos rfl]
        simp only [nx_e, nI_1]
        rfl
    · rw [if_neg hy] at hcu
      have hmu : ∀ τ : St, _ := fun τ => (hmu τ).trans (if_neg hy)
      obtain ⟨sd, s1, s2, s3⟩ := hS
      have hB : ∃ B : Nat, B ≤ 16 ∧ (sd = true → σ.1 19 8 = nI B) ∧ (sd = true → σ.1 39 20 = nI B) := by
        cases sd
        · exact ⟨0, by omega, (fun h => by cases h), (fun h => by cases h)⟩
        · obtain ⟨B, W, u, bn, gr, bg, en, rp, sh, d1, d2, d3, d4, d5, d6, -⟩ := s3 rfl
          exact ⟨B, d1, fun _ => d5, fun _ => d6⟩
      obtain ⟨B, B1, B2, B3⟩ := hB
      have hcb := hasBin_e (x := y) s1 c3 B2
      have hmb : ∀ τ : St, τ.1 39 19 = σ.1 39 19 → τ.1 39 12 = σ.1 39 12 → τ.1 39 20 = σ.1 39 20 → f_X9_noBin y τ = some (bI (!hbn y (if sd = true then B else C)), τ) := fun τ h1 h2 h3 => noBin_e (σ := τ) (x := y) (by rw [h1]; exact s2) (by rw [h2]; exact c4) (fun h => by rw [h3]; exact B3 h)
      rw [hcb, bd_s] at hcu
      cases hbx : hbn y (if sd = true then B else C)
      · refine hthrow 2 (Or.inr (Or.inl rfl)) (by rw [hcu, hbx, if_pos (by decide)]) (fun J => ?_)
        rw [hmu, hmb (sJ σ J) rfl rfl rfl, hbx, bd_s, if_neg (by decide)]
        rfl
      · rw [hbx, if_neg (by decide)] at hcu
        unfold b_X8_write_41 at hcu
        rw [if_neg hy, isDone_e s1, bd_s] at hcu
        have hmu2 : ∀ τ : St, τ.1 39 19 = σ.1 39 19 → τ.1 39 12 = σ.1 39 12 → τ.1 39 20 = σ.1 39 20 → f_X9_write (nI fm) y z τ = (if bI sd = 0 then b_X9_write_50 (nI fm) y z 3 τ else b_X9_write_49 (nI fm) y z τ) := fun τ h1 h2 h3 => by
          rw [hmu, hmb τ h1 h2 h3, hbx, bd_s, if_pos (by decide)]
          unfold b_X9_write_32
          rw [if_neg hy, h1, s2]
        cases sd
        · refine hthrow 3 (Or.inr (Or.inr rfl)) (by rw [hcu, if_pos (by decide)]) (fun J => ?_)
          rw [hmu2 (sJ σ J) rfl rfl rfl, if_pos (by decide)]
          rfl
        · rw [if_neg (by decide)] at hcu
          have hmu3 : ∀ τ : St, τ.1 39 19 = σ.1 39 19 → τ.1 39 12 = σ.1 39 12 → τ.1 39 20 = σ.1 39 20 → f_X9_write (nI fm) y z τ = b_X9_write_49 (nI fm) y z τ := fun τ h1 h2 h3 => by
            rw [hmu2 τ h1 h2 h3, if_neg (by decide)]
          obtain ⟨B', W, u, bn, gr, bg, en, rp, sh, d1, d2, d3, d4, d5, d6, d7, d8, d9, d10, d11, d12, d13, d14⟩ := s3 rfl
          have hM : MbC σ n bn gr sh := ⟨fun i hi => ⟨(d9 i hi).2.2.2.2.2.2.2.2.2.2.2.1, (d9 i hi).2.2.2.2.2.2.2.2.2.1, d12 i hi⟩, fun i h1 h2 => (d10 i h1 h2).1⟩
          have hwl : ∀ i, i < n → smq (ql i) (bg i) (en i - bg i) < 2 ^ 31 := fun i hi => by
            obtain ⟨v1, v2, v3, v4, v5, v6⟩ := r5 i hi
            obtain ⟨-, -, -, -, -, -, -, -, -, -, -, -, -, w1, w2⟩ := d9 i hi
            have := smq_le (f := ql i) (a := bg i) (en i - bg i) (fun j hj => v6 (bg i + j) (by omega))
            omega
          have hgr : ∀ i, i < n → ctd bn sh i → ∃ b q, b < 16 ∧ q < 60 ∧ bn i = nI b ∧ gr i = nI q := fun i hi hc => by
            obtain ⟨-, -, -, -, -, -, -, -, -, -, -, -, w0, -⟩ := d9 i hi
            rcases w0 with h | ⟨b, hb, hbe⟩
            · exact absurd h hc.1
            · obtain ⟨G, g1, g2, g3, g4⟩ := d14 b hb
              obtain ⟨q, hq, hqe⟩ := g3 i hi hc hbe
              exact ⟨b, q, by omega, by omega, hbe, hqe⟩
          obtain ⟨ch, hch⟩ : ∃ ch : Nat → Bool, ∀ i, ch i = true ↔ (bg i < en i ∧ bn i = y ∧ sh i = false ∧ (z = 0 ∨ (ctd bn sh i ∧ (bsf (mb n bn gr (bn i) (gr i)) (fun i => smq (ql i) (bg i) (en i - bg i)) n).1 = nI i))) := ⟨fun i => decide (bg i < en i ∧ bn i = y ∧ sh i = false ∧ (z = 0 ∨ (ctd bn sh i ∧ (bsf (mb n bn gr (bn i) (gr i)) (fun i => smq (ql i) (bg i) (en i - bg i)) n).1 = nI i))), fun i => decide_eq_true_iff⟩
          have hcf : ∀ i, ¬ (bg i < en i ∧ bn i = y ∧ sh i = false ∧ (z = 0 ∨ (ctd bn sh i ∧ (bsf (mb n bn gr (bn i) (gr i)) (fun i => smq (ql i) (bg i) (en i - bg i)) n).1 = nI i))) → ch i = false := fun i h => Bool.eq_false_iff.mpr (fun h9 => h ((hch i).mp h9))
          refine hgo fm hfm rfl hcu hmu3 ch bg en (fun τ hf i hi => ?_) (fun σ1 J hf1 τ hf K k hk => ?_) (fun i hi hc => ?_)
          · obtain ⟨e1, e2, e3, e4, e5, e6, e7, e8, e9, e10, e11, e12, e13, e14, e15⟩ := d9 i hi
            have h120 := (r5 i hi).2.1
            have h7 : τ.1 19 7 = nI n := by rw [hf.1 19 (by decide) (by decide)]; exact d4
            have hfi : f_X8_firstOf (nI i) y τ = some (nI (bg i), τ) := by
              unfold f_X8_firstOf b_X8_firstOf_18
              rw [if_neg hy, beginOf_in h7 hn hi, bd_s, hf.2.2.1 21 (by decide), e3]
            have hla : f_X8_lastOf (nI i) y τ = some (nI (en i), τ) := by
              unfold f_X8_lastOf b_X8_lastOf_25
              rw [if_neg hy, endOf_in h7 hn hi, bd_s, hf.2.2.1 22 (by decide), e5]
            refine ⟨?_, fun _ => ⟨hfi, hla⟩⟩
            unfold f_X8_isChosen b_X8_isChosen_63 b_X8_isChosen_67 b_X8_isChosen_68
            rw [hfi, bd_s, hla, bd_s]
            by_cases hbe : bg i < en i
            · rw [if_pos (nI_lt hbe (by omega)), if_neg hy, binOf_in h7 hn hi, bd_s, hf.2.2.1 20 (by decide), e1]
              by_cases hby : bn i = y
              · rw [if_pos hby, xshort_in h7 hn hi (by rw [hf.2.2.1 24 (by decide)]; exact e7), bd_s]
                cases hsh : sh i
                · rw [if_pos (by decide)]
                  by_cases hz : z = 0
                  · rw [if_pos hz, gz_1, (hch i).mpr ⟨hbe, hby, hsh, Or.inl hz⟩]
                    rfl
                  · rw [if_neg hz]
                    by_cases hc : ctd bn sh i
                    · obtain ⟨b, q, hb16, hq60, hbe2, hqe⟩ := hgr i hi hc
                      have hbst := xbestOf_e (σ := τ) (b := b) (q := q) (w := fun i => smq (ql i) (bg i) (en i - bg i)) (hM.fr4 hf) (by omega) (by omega) hn h7 (fun i hi => ⟨by rw [hf.2.2.1 23 (by decide)]; exact (d9 i hi).2.2.2.2.2.2.2.2.1, hwl i hi⟩)
                      unfold f_X5_isBest b_X5_isBest_32 b_X5_isBest_33
                      rw [groupOf_in (by omega), bd_s, hf.2.2.1 30 (by decide), e10, hqe, if_neg (nI_m1' (by omega)), binOf_in h7 hn hi, bd_s, hf.2.2.1 20 (by decide), e1, hbe2, hbst, bd_s, gz_1, gz_0]
                      by_cases hfin : (bsf (mb n bn gr (nI b) (nI q)) (fun i => smq (ql i) (bg i) (en i - bg i)) n).1 = nI i
                      · rw [if_pos hfin, bd_s, if_neg (by decide), (hch i).mpr ⟨hbe, hby, hsh, Or.inr ⟨hc, by rw [hbe2, hqe]; exact hfin⟩⟩, gz_1]
                        rfl
                      · rw [if_neg hfin, bd_s, if_pos (by decide), hcf i (fun h => h.2.2.2.elim hz (fun h9 => hfin (by have := h9.2; rw [hbe2, hqe] at this; exact this))), gz_0]
                        rfl
                    · unfold f_X5_isBest b_X5_isBest_32 b_X5_isBest_33
                      rw [groupOf_in (by omega), bd_s, hf.2.2.1 30 (by decide), e10, d12 i hi hc, if_pos rfl, gz_0, bd_s, if_pos rfl, hcf i (fun h => h.2.2.2.elim hz (fun h9 => hc h9.1)), gz_0]
                      rfl
                · rw [if_neg (by decide), gz_0, hcf i (fun h => by rw [hsh] at h; cases h.2.2.1)]
                  rfl
              · rw [if_neg hby, gz_0, hcf i (fun h => hby h.2.1)]
                rfl
            · rw [if_neg (nI_nlt (by omega) (by omega)), gz_0, hcf i (fun h => hbe h.1)]
              rfl
          · obtain ⟨e1, e2, e3, e4, e5, e6, e7, e8, e9, e10, e11, e12, e13, e14, e15⟩ := d9 k hk
            have h120 := (r5 k hk).2.1
            have ha : ∀ q, q ∉ [4, 54] → τ.2.1 q = σ.2.1 q := fun q hq => by
              rw [hf.2.2.1 q (fun h => hq (by simp at h; simp [h]))]
              show σ1.2.1 q = σ.2.1 q
              exact hf1.2.2.1 q (fun h => hq (by simp at h; simp [h]))
            have h9 : τ.1 39 9 = nI n := by
              rw [hf.2.1 9 (by decide), sS_j (by decide), sS_j (by decide)]
              show σ1.1 39 9 = nI n
              rw [hf1.2.1 9 (by decide)]
              exact r4.1
            have hcnt1 : bn k = y → sh k = false → f_X9_counts (nI k) y τ = some (1, τ) := by
              intro a1 a2
              unfold f_X9_counts b_X9_counts_23 b_X9_counts_24
              rw [gd_t (inb_n (show k < ln 48 by show k < 60; omega) (by decide)), gd_t (inb_n (show k < ln 51 by show k < 60; omega) (by decide)), nI_clamp (by omega), ha 48 (by decide), ha 51 (by decide), e2, e8, gz_0, gz_1, if_pos a1, a2]
              rfl
            have hcnt0 : ¬ (bn k = y ∧ sh k = false) → f_X9_counts (nI k) y τ = some (0, τ) := by
              intro a1
              unfold f_X9_counts b_X9_counts_23 b_X9_counts_24
              rw [gd_t (inb_n (show k < ln 48 by show k < 60; omega) (by decide)), gd_t (inb_n (show k < ln 51 by show k < 60; omega) (by decide)), nI_clamp (by omega), ha 48 (by decide), ha 51 (by decide), e2, e8, gz_0, gz_1]
              by_cases hby : bn k = y
              · rw [if_pos hby]
                cases hsh : sh k
                · exact absurd ⟨hby, hsh⟩ a1
                · rfl
              · rw [if_neg hby]
            unfold b_X9_write_70 b_X9_write_134 b_X9_write_135 b_X9_write_173 b_X9_write_194
            simp only [nx_e, nI_1]
            rw [h9, if_neg (nI_ge hk (by omega)), if_neg hy]
            by_cases hbs : bn k = y ∧ sh k = false
            · rw [hcnt1 hbs.1 hbs.2, bd_s, if_neg (by decide), gd_t (inb_n (show k < ln 49 by show k < 60; omega) (by decide)), gd_t (inb_n (show k < ln 50 by show k < 60; omega) (by decide)), nI_clamp (by omega), ha 49 (by decide), ha 50 (by decide), e4, e6]
              by_cases hbe : bg k < en k
              · rw [if_neg (nI_ge hbe (by omega)), if_neg (by decide)]
                by_cases hz : z = 0
                · rw [if_pos hz, gd_t (inb_n (show k < ln 49 by show k < 60; omega) (by decide)), gd_t (inb_n (show k < ln 50 by show k < 60; omega) (by decide)), (hch k).mpr ⟨hbe, hbs.1, hbs.2, Or.inl hz⟩, if_pos rfl]
                · rw [if_neg hz, gd_t (inb_n (show k < ln 52 by show k < 60; omega) (by decide)), gd_t (inb_n (show k < ln 52 by show k < 60; omega) (by decide)), ha 52 (by decide), e11]
                  by_cases hc : ctd bn sh k
                  · obtain ⟨b, q, hb16, hq60, hbe2, hqe⟩ := hgr k hk hc
                    have hbst := mbestOf_e (σ := τ) (b := y) (q := gr k) (bn := bn) (gr := gr) (bg := bg) (en := en) (ql := ql) hn h9 (fun i hi => by rw [ha 48 (by decide)]; exact (d9 i hi).2.1) (fun i hi => by rw [ha 52 (by decide)]; exact (d9 i hi).2.2.2.2.2.2.2.2.2.2.1) (fun i hi => by rw [ha 49 (by decide)]; exact (d9 i hi).2.2.2.1) (fun i hi => by rw [ha 50 (by decide)]; exact (d9 i hi).2.2.2.2.2.1) (fun i hi => by
                      obtain ⟨v1, v2, v3, v4, v5, v6⟩ := r5 i hi
                      obtain ⟨-, -, -, -, -, -, -, -, -, -, -, -, -, w1, w2⟩ := d9 i hi
                      omega) (fun i hi j hj => by
                      obtain ⟨-, -, -, -, -, -, -, -, -, -, -, -, -, w1, w2⟩ := d9 i hi
                      rw [ha 45 (by decide)]
                      exact ((r4.2 i hi).2.2.2 j (by omega)).2) (fun i hi j hj => by
                      obtain ⟨-, -, -, -, -, -, -, -, -, -, -, -, -, w1, w2⟩ := d9 i hi
                      exact (r5 i hi).2.2.2.2.2 j (by omega))
                    rw [hbst, bd_s, if_neg (show ¬ gr k < 0 by rw [hqe]; exact nI_pos (by omega))]
                    by_cases hfin : (bsf (mb n bn gr y (gr k)) (fun i => smq (ql i) (bg i) (en i - bg i)) n).1 = nI k
                    · rw [if_pos hfin, gd_t (inb_n (show k < ln 49 by show k < 60; omega) (by decide)), gd_t (inb_n (show k < ln 50 by show k < 60; omega) (by decide)), ha 49 (by decide), ha 50 (by decide), e4, e6, (hch k).mpr ⟨hbe, hbs.1, hbs.2, Or.inr ⟨hc, by rw [hbs.1]; exact hfin⟩⟩, if_pos rfl]
                    · rw [if_neg hfin, hcf k (fun h => h.2.2.2.elim hz (fun h9 => hfin (by have := h9.2; rw [hbs.1] at this; exact this))), if_neg (by decide)]
                  · rw [d12 k hk hc, if_pos (by decide), hcf k (fun h => h.2.2.2.elim hz (fun h9 => hc h9.1)), if_neg (by decide)]
              · rw [if_pos (nI_le (by omega) (by omega)), hcf k (fun h => hbe h.1), if_pos trivial, if_neg (by decide : ¬ false = true)]
            · rw [hcnt0 hbs, bd_s, if_pos rfl, hcf k (fun h => hbs ⟨h.2.1, h.2.2.1⟩), if_pos trivial, if_neg (by decide : ¬ false = true)]
          · obtain ⟨e1, e2, e3, e4, e5, e6, e7, e8, e9, e10, e11, e12, e13, e14, e15⟩ := d9 i hi
            exact ⟨((hch i).mp hc).1, e15⟩
end OY
