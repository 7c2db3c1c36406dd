section OR
variable {σ σ' : St}
theorem Inv.fr3 (h : Inv σ) (hf : FrG σ σ' [] [3] []) : Inv σ' := by
  obtain ⟨⟨N, t, hT⟩, ⟨M, o, hO⟩, hP, ⟨C, W, c, hC⟩, ⟨A, a, hA⟩, ⟨l1, l2, l3, hL⟩, n, m, st, ns, lc, nm, lt, ql, hR, hS⟩ := h
  exact ⟨⟨N, t, hT.fr hf rfl⟩, ⟨M, o, hO.fr hf rfl⟩, hP.fr hf rfl, ⟨C, W, c, hC.fr hf rfl⟩, ⟨A, a, hA.fr hf rfl⟩, ⟨l1, l2, l3, hL.fr16 hf rfl⟩, n, m, st, ns, lc, nm, lt, ql, hR.fr hf rfl, hS.fr hf rfl rfl⟩
theorem Inv.s3 {v : Int32} (h : Inv σ) : Inv (sS σ 39 3 v) := h.fr3 FrG.sS
theorem FrG.ofD {b : Bool} (h : FrD σ σ' b) : FrG σ σ' [5, 6, 7, 33, 34] [] [8, 9, 10, 11, 35, 36, 37, 38] := by
  cases b
  · exact (FrG.of (h.mono (ps' := [5, 6, 7]) (qs' := [8, 9, 10, 11]) (by decide) (by decide)) rfl).mono rfl
  · exact (FrG.of (h.mono (ps' := [5, 33, 34]) (qs' := [35, 36, 37, 38]) (by decide) (by decide)) rfl).mono rfl
theorem isForm_f {x : Int32} (h : (x == 0 || x == 1) = true) : ∃ fm : Nat, (fm = 0 ∨ fm = 1) ∧ x = nI fm := by
  simp only [Bool.or_eq_true, beq_iff_eq] at h
  rcases h with rfl | rfl
  · exact ⟨0, Or.inl rfl, rfl⟩
  · exact ⟨1, Or.inr rfl, rfl⟩
theorem op_read (hI : Inv σ) (x : Int32) : OpX [1] (f_X8_read x σ) (f_X9_read x) := by
  have hI0 := hI
  obtain ⟨⟨N, t, hT⟩, ⟨M, o, hO⟩, hP, ⟨C, W, c, hC⟩, ⟨A, a, hA⟩, ⟨l1, l2, l3, hL⟩, n, m, st, ns, lc, nm, lt, ql, hR, hS⟩ := hI
  cases hx : (x == 0 || x == 1)
  · refine ⟨1, 0, σ, ?_, Or.inr (by decide), fun J => ⟨0, sS (sJ σ J) 39 3 1, ?_, by rw [sS_s]; rfl, (fun h => by cases h), rfl, Inv.s3 (σ := sJ σ J) hI0⟩⟩
    · unfold f_X8_read
      rw [isForm_e, bd_s, hx, if_pos (by decide)]
    · have h10 : b_X9_read_10 x (sJ σ J) = some (0, sS (sJ σ J) 39 3 1) := by
        unfold b_X9_read_10 b_X9_read_15
        rw [nx_e, sS_s, if_neg (by decide)]
      unfold f_X9_read
      by_cases h1 : x < 0
      · rw [if_pos h1, h10]
      · rw [if_neg h1]
        by_cases h2 : x ≤ 1
        · obtain ⟨j, hj, rfl⟩ := nI_of2 (M := 1) (n := 1) (by decide) h1 h2
          have : j = 0 ∨ j = 1 := by omega
          rcases this with rfl | rfl <;> exact absurd hx (by decide)
        · rw [if_neg h2, h10]
  · obtain ⟨fm, hfm, rfl⟩ := isForm_f hx
    have hT1 := hT
    obtain ⟨ht1, ht2, ht3, ht4⟩ := hT
    have hN : N ≤ 6000 := ht1.2.1
    obtain ⟨σ1, f, pl, e1, e2, e3, e4, e5⟩ := parse_e hfm hN ht4 ht1
    have g1 := FrG.ofD e4
    have g2 : FrG σ (sS σ1 1 1 0) [1, 5, 6, 7, 33, 34] [] [8, 9, 10, 11, 35, 36, 37, 38] := (g1.mono rfl).tr ((frg_oS (by decide)).mono rfl)
    unfold f_X8_read
    rw [isForm_e, bd_s, hx, if_neg (by decide), e1, bd_s, clear_e, bd_s]
    by_cases hf : f = 0
    · subst hf
      rw [if_pos (by decide : nI 0 = 0), nx_e, nx_e]
      unfold f_X5_forget
      rw [gz_0, nx_e, bd_s]
      obtain ⟨c1, c2, c3, c4⟩ := e5 rfl
      have hpw : pwh fm (psAt fm t N) = true ∧ ∀ j, j < N → pf fm t j = 0 := by
        rcases e2 with ⟨k, -, -, -, k4, -⟩ | ⟨k1, k2, k3⟩
        · exact absurd rfl k4
        · cases h : pwh fm (psAt fm t N)
          · rw [h] at k3; cases k3
          · exact ⟨rfl, k1⟩
      have hv := psAt_v (fm := fm) (t := t) hfm N hpw.2
      generalize hps : psAt fm t N = P at c2 c3 c4 hpw hv
      obtain ⟨s9, n9, l9, ns9, lc9, nm9, lt9, ql9⟩ := P
      obtain ⟨d1, m9, st9, d2, d3, d4, d5, d6⟩ := c4
      obtain ⟨a1, a2, a3, a4, a5, a6, a7, a8, a9, a10, a11, a12, a13⟩ := hv
      have d2' := d2
      obtain ⟨q1, q2, q3, q4, q5⟩ := d2
      have hV : RdV n9 ns9 lc9 nm9 lt9 ql9 := by
        intro i hi
        obtain ⟨w1, w2, w3, w4, w5⟩ := a9 i hi
        have hpw1 := hpw.1
        simp only [pwh] at hpw1
        rcases hfm with rfl | rfl
        · rw [if_pos rfl] at hpw1
          have := of_decide_eq_true hpw1
          exact ⟨w1, w2, a11 i hi (Or.inr (Or.inl this.1)), w3, w4, a12 rfl i hi (Or.inr this.1)⟩
        · rw [if_neg (by decide)] at hpw1
          have := of_decide_eq_true hpw1
          refine ⟨w1, w2, ?_, w3, w4, fun k hk => ⟨40, by omega, w5 rfl k hk⟩⟩
          by_cases e : i < n9 - 1
          · exact a11 i hi (Or.inl e)
          · rw [show i = n9 - 1 by omega]
            exact this.2.2
      have hQ : RdQ σ1 σ1.2.2.2.1 n9 m9 st9 ns9 lc9 ql9 := by
        rcases hfm with rfl | rfl
        · refine Or.inr ⟨d1, fun i hi => ?_⟩
          have hpw1 := hpw.1
          simp only [pwh] at hpw1
          rw [if_pos trivial] at hpw1
          exact d5 rfl i hi (Or.inr (of_decide_eq_true hpw1).1)
        · exact Or.inl ⟨d1, fun i hi k hk => (a9 i hi).2.2.2.2 rfl k hk⟩
      have hb : σ1.2.2.2.1 = !σ1.2.2.1 := by rw [e4.2.2]; exact hR.1
      have hcnt : (sS (sR (sD (sS σ1 1 1 0) (sS σ1 1 1 0).2.2.1) (sS σ1 1 1 0).2.2.2.1) 19 6 0).1 (bs σ1.2.2.2.1) 4 = nI n9 := by
        rw [sS_p (show bs σ1.2.2.2.1 ≠ 19 by cases σ1.2.2.2.1 <;> decide)]
        show (sS σ1 1 1 0).1 (bs σ1.2.2.2.1) 4 = nI n9
        rw [sS_p (show bs σ1.2.2.2.1 ≠ 1 by cases σ1.2.2.2.1 <;> decide)]
        exact q1
      rw [show (sS (sR (sD (sS σ1 1 1 0) (sS σ1 1 1 0).2.2.1) (sS σ1 1 1 0).2.2.2.1) 19 6 0).2.2.1 = σ1.2.2.2.1 from rfl, count_e hcnt, bd_s]
      have g3 : FrG σ (sS (sS σ1 1 1 0) 19 6 0) [1, 5, 6, 7, 19, 33, 34] [] [8, 9, 10, 11, 35, 36, 37, 38] := (g2.mono rfl).tr ((frg_oS (by decide)).mono rfl)
      refine ⟨0, nI n9, sS (sR (sD (sS σ1 1 1 0) (sS σ1 1 1 0).2.2.1) (sS σ1 1 1 0).2.2.2.1) 19 6 0, rfl, Or.inl rfl, fun J => ?_⟩
      generalize hτ : sJ (sS (sR (sD (sS σ1 1 1 0) (sS σ1 1 1 0).2.2.1) (sS σ1 1 1 0).2.2.2.1) 19 6 0) J = τ
      have τ1 : τ.1 = (sS (sS σ1 1 1 0) 19 6 0).1 := by rw [← hτ]; rfl
      have τ2 : τ.2.1 = (sS (sS σ1 1 1 0) 19 6 0).2.1 := by rw [← hτ]; rfl
      have τ3 : τ.2.2.1 = σ1.2.2.2.1 := by rw [← hτ]; rfl
      have τ4 : τ.2.2.2.1 = σ1.2.2.1 := by rw [← hτ]; rfl
      have τ5 : τ.2.2.2.2 = J := by rw [← hτ]; rfl
      obtain ⟨σ4, f4, pl4, k1, k2, k3, k4, k5, k6⟩ := mread_e (σ := τ) (t := t) hfm hN (by rw [τ1, g3.2.1 1 (by decide)]; exact ht2) (by rw [τ2, g3.2.2.1 40 (by decide)]; exact ht3)
      have huq := e2.uq k1
      have : f4 = 0 := huq.1.symm
      subst this
      obtain ⟨m1, m2, m3, m4⟩ := k6 rfl
      rw [hps] at m4
      refine ⟨σ4.1 39 9, σ4, by rw [k2, if_pos rfl], by rw [k3]; rfl, fun _ => m4.1, by rw [m1.2.2.2]; exact τ5, ?_⟩
      have O1 : OutI τ M o := by rw [← hτ]; exact (hO.fr g3 rfl : OutI (sS (sS σ1 1 1 0) 19 6 0) M o)
      have C1 : CodI τ C W c := by rw [← hτ]; exact (hC.fr g3 rfl : CodI (sS (sS σ1 1 1 0) 19 6 0) C W c)
      have A1 : AdaI τ A a := by rw [← hτ]; exact (hA.fr g3 rfl : AdaI (sS (sS σ1 1 1 0) 19 6 0) A a)
      have L1 : LimI τ l1 l2 l3 := by rw [← hτ]; exact (hL.fr16 g3 rfl : LimI (sS (sS σ1 1 1 0) 19 6 0) l1 l2 l3)
      refine ⟨⟨0, t, ⟨?_, by omega, fun k hk => by omega⟩, k4, fun k hk => by omega, fun k hk => by omega⟩, ⟨M, o, O1.fr m1 rfl⟩, ?_, ⟨C, W, c, C1.fr m1 rfl⟩, ⟨A, a, A1.fr m1 rfl⟩, ⟨l1, l2, l3, L1.fr16 m1 rfl⟩, n9, m9, st9, ns9, lc9, nm9, lt9, ql9, ⟨?_, ?_, ?_, m4, hV⟩, false, ?_, m3, fun h => by cases h⟩
      · rw [m1.1 1 (by decide) (by decide), τ1, sS_p (by decide), sS_s]; rfl
      · show σ4.1 0 7 = σ4.1 39 2
        rw [m1.1 0 (by decide) (by decide), m2, τ1, g3.1 0 (by decide) (by decide), g3.2.1 2 (by decide)]
        exact hP
      · rw [m1.2.2.2, τ3, τ4, hb]
        simp
      · rw [show σ4.2.2.1 = σ1.2.2.2.1 by rw [m1.2.2.2]; exact τ3]
        have f9 : Fr σ1 (sS (sS σ1 1 1 0) 19 6 0) [1, 19] [] := (Fr.sS.mono (by decide) (by decide)).tr (Fr.sS.mono (by decide) (by decide))
        have r9 := d2'.fr f9 (by cases σ1.2.2.2.1 <;> decide) (by cases σ1.2.2.2.1 <;> decide) (by simp) (by simp) (by simp) (by simp)
        generalize σ1.2.2.2.1 = b at r9 ⊢
        unfold RdC at r9 ⊢
        rw [m1.1 (bs b) (by cases b <;> decide) (by cases b <;> decide), m1.1 (bs b + 1) (by cases b <;> decide) (by cases b <;> decide), m1.2.2.1 (bs b + 2) (by cases b <;> decide), m1.2.2.1 (bs b + 3) (by cases b <;> decide), m1.2.2.1 (bs b + 4) (by cases b <;> decide), m1.2.2.1 (bs b + 5) (by cases b <;> decide), τ1, τ2]
        exact r9
      · rw [show σ4.2.2.1 = σ1.2.2.2.1 by rw [m1.2.2.2]; exact τ3]
        have f9 : Fr σ1 (sS (sS σ1 1 1 0) 19 6 0) [1, 19] [] := (Fr.sS.mono (by decide) (by decide)).tr (Fr.sS.mono (by decide) (by decide))
        have r9 := hQ.fr f9 (by cases σ1.2.2.2.1 <;> decide) (by simp)
        generalize σ1.2.2.2.1 = b at r9 ⊢
        unfold RdQ at r9 ⊢
        rw [m1.1 (bs b) (by cases b <;> decide) (by cases b <;> decide), m1.2.2.1 (bs b + 2) (by cases b <;> decide), τ1, τ2]
        exact r9
      · rw [m1.1 19 (by decide) (by decide), τ1, sS_s]; rfl
    · have hf4 : f ≤ 4 := by
        rcases e2 with ⟨k, -, -, k3, -, -⟩ | ⟨k1, k2, k3⟩
        · rw [← k3]
          simp only [pf]
          obtain ⟨s, n, l, ns, lc, nm, lt, ql⟩ := psAt fm t k
          simp only [pstep, pmark]
          repeat' split
          all_goals simp
        · rw [k3]; split <;> omega
      rw [if_neg (nI_ne0 (by omega) (by omega))]
      unfold f_X2_faultAt
      rw [bd_s, nx_e, sS_p (by decide), e3]
      have g3 : FrG σ (sS (sS σ1 1 1 0) 0 7 (nI pl)) [0, 1, 5, 6, 7, 33, 34] [] [8, 9, 10, 11, 35, 36, 37, 38] := (g2.mono rfl).tr ((frg_oS (by decide)).mono rfl)
      refine ⟨0, -(nI f), sS (sS σ1 1 1 0) 0 7 (nI pl), rfl, Or.inl rfl, fun J => ?_⟩
      generalize hτ : sJ (sS (sS σ1 1 1 0) 0 7 (nI pl)) J = τ
      have τ1 : τ.1 = (sS (sS σ1 1 1 0) 0 7 (nI pl)).1 := by rw [← hτ]; rfl
      have τ2 : τ.2.1 = (sS (sS σ1 1 1 0) 0 7 (nI pl)).2.1 := by rw [← hτ]; rfl
      have τ3 : τ.2.2.1 = σ.2.2.1 := by rw [← hτ, ← e4.2.2]; rfl
      have τ4 : τ.2.2.2.1 = σ.2.2.2.1 := by rw [← hτ, ← e4.2.2]; rfl
      have τ5 : τ.2.2.2.2 = J := by rw [← hτ]; rfl
      obtain ⟨σ4, f4, pl4, k1, k2, k3, k4, k5, k6⟩ := mread_e (σ := τ) (t := t) hfm hN (by rw [τ1, g3.2.1 1 (by decide)]; exact ht2) (by rw [τ2, g3.2.2.1 40 (by decide)]; exact ht3)
      have huq := e2.uq k1
      obtain ⟨rfl, rfl⟩ := huq
      obtain ⟨m1, m2, m3, m4, m5⟩ := k5 hf
      refine ⟨-(nI f), σ4, by rw [k2, if_neg hf], by rw [k3]; rfl, fun _ => rfl, by rw [m1.2.2.2]; exact τ5, ?_⟩
      have O1 : OutI τ M o := by rw [← hτ]; exact (hO.fr g3 rfl : OutI (sS (sS σ1 1 1 0) 0 7 (nI pl)) M o)
      have C1 : CodI τ C W c := by rw [← hτ]; exact (hC.fr g3 rfl : CodI (sS (sS σ1 1 1 0) 0 7 (nI pl)) C W c)
      have A1 : AdaI τ A a := by rw [← hτ]; exact (hA.fr g3 rfl : AdaI (sS (sS σ1 1 1 0) 0 7 (nI pl)) A a)
      have L1 : LimI τ l1 l2 l3 := by rw [← hτ]; exact (hL.fr16 g3 rfl : LimI (sS (sS σ1 1 1 0) 0 7 (nI pl)) l1 l2 l3)
      have S1 : SoI τ n lc lt ql := by rw [← hτ]; exact (hS.fr g3 rfl rfl : SoI (sS (sS σ1 1 1 0) 0 7 (nI pl)) n lc lt ql)
      obtain ⟨r1, r2, r3, r4, r5⟩ := hR
      have f9 : Fr σ (sS (sS σ1 1 1 0) 0 7 (nI pl)) [0, 1, 5, bs (!σ.2.2.1), bs (!σ.2.2.1) + 1] [bs (!σ.2.2.1) + 2, bs (!σ.2.2.1) + 3, bs (!σ.2.2.1) + 4, bs (!σ.2.2.1) + 5] := by
        rw [r1] at e4
        exact ((e4.mono (by simp +contextual) (by simp +contextual)).tr (Fr.sS.mono (by simp) (by simp))).tr (Fr.sS.mono (by simp) (by simp))
      refine ⟨⟨0, t, ⟨?_, by omega, fun k hk => by omega⟩, k4, fun k hk => by omega, fun k hk => by omega⟩, ⟨M, o, O1.fr m1 rfl⟩, ?_, ⟨C, W, c, C1.fr m1 rfl⟩, ⟨A, a, A1.fr m1 rfl⟩, ⟨l1, l2, l3, L1.fr16 m1 rfl⟩, n, m, st, ns, lc, nm, lt, ql, ⟨?_, ?_, ?_, ?_, r5⟩, S1.fr m1 rfl rfl⟩
      · rw [m1.1 1 (by decide) (by decide), τ1, sS_p (by decide), sS_s]; rfl
      · show σ4.1 0 7 = σ4.1 39 2
        rw [m1.1 0 (by decide) (by decide), m2, τ1, sS_s]
      · rw [m1.2.2.2, τ3, τ4]; exact r1
      · rw [show σ4.2.2.1 = σ.2.2.1 by rw [m1.2.2.2]; exact τ3]
        have r9 := r2.fr f9 (by cases σ.2.2.1 <;> decide) (by cases σ.2.2.1 <;> decide) (by cases σ.2.2.1 <;> decide) (by cases σ.2.2.1 <;> decide) (by cases σ.2.2.1 <;> decide) (by cases σ.2.2.1 <;> decide)
        generalize σ.2.2.1 = b at r9 ⊢
        unfold RdC at r9 ⊢
        rw [m1.1 (bs b) (by cases b <;> decide) (by cases b <;> decide), m1.1 (bs b + 1) (by cases b <;> decide) (by cases b <;> decide), m1.2.2.1 (bs b + 2) (by cases b <;> decide), m1.2.2.1 (bs b + 3) (by cases b <;> decide), m1.2.2.1 (bs b + 4) (by cases b <;> decide), m1.2.2.1 (bs b + 5) (by cases b <;> decide), τ1, τ2]
        exact r9
      · rw [show σ4.2.2.1 = σ.2.2.1 by rw [m1.2.2.2]; exact τ3]
        have r9 := r3.fr f9 (by cases σ.2.2.1 <;> decide) (by cases σ.2.2.1 <;> decide)
        generalize σ.2.2.1 = b at r9 ⊢
        unfold RdQ at r9 ⊢
        rw [m1.1 (bs b) (by cases b <;> decide) (by cases b <;> decide), m1.2.2.1 (bs b + 2) (by cases b <;> decide), τ1, τ2]
        exact r9
      · have hn := r2.2.1
        refine ⟨by rw [m1.2.1 9 (by decide), τ1, g3.2.1 9 (by decide)]; exact r4.1, fun i hi => ?_⟩
        obtain ⟨v1, v2, v3, v4⟩ := r4.2 i hi
        have w := r5 i hi
        have w1 := w.1
        have w2 := w.2.1
        refine ⟨?_, ?_, fun k hk => ?_, fun k hk => ⟨?_, ?_⟩⟩
        · rw [(m3 i (by omega)).1, τ2, g3.2.2.1 41 (by decide)]; exact v1
        · rw [(m3 i (by omega)).2, τ2, g3.2.2.1 43 (by decide)]; exact v2
        · rw [m4 _ (by omega), τ2, g3.2.2.1 42 (by decide)]; exact v3 k hk
        · rw [(m5 _ (by omega)).1, τ2, g3.2.2.1 44 (by decide)]; exact (v4 k hk).1
        · rw [(m5 _ (by omega)).2, τ2, g3.2.2.1 45 (by decide)]; exact (v4 k hk).2
end OR
