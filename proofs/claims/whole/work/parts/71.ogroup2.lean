section OJ
variable {σ σ' : St}
theorem op_group (hI : Inv σ) (x z y : Int32) : OpX [2, 3] (f_X8_group x z y σ) (f_X9_group x z y) := by
  have hI0 := hI
  obtain ⟨-, -, -, ⟨C, W0, c, hC⟩, -, -, n, m, st, ns, lc, nm, lt, ql, hR, hS⟩ := hI
  obtain ⟨r1, r2, r3, r4, r5⟩ := hR
  have hn := r2.2.1
  obtain ⟨c1, c2, c3, c4, -⟩ := hC
  have hthrow : ∀ k, (k = 0 ∨ k = 1) → f_X8_group x z y σ = some (k + 2, 0, σ) → (∀ J, f_X9_group x z y (sJ σ J) = b_X9_group_51 x z y (nI (k + 1)) (sJ σ J)) → OpX [2, 3] (f_X8_group x z y σ) (f_X9_group x z y) := by
    intro k hk h1 h2
    refine ⟨k + 2, 0, σ, h1, Or.inr (by rcases hk with rfl | rfl <;> decide), fun J => ⟨0, sS (sJ σ J) 39 3 (nI (k + 1)), ?_, by rw [sS_s]; rcases hk with rfl | rfl <;> rfl, (fun h => by cases h), rfl, Inv.s3 (σ := sJ σ J) hI0⟩⟩
    rw [h2]
    unfold b_X9_group_51
    rw [nx_e, sS_s, if_neg (nI_nle (by omega) (by omega))]
  have hgive : ∀ v : Int32, f_X8_group x z y σ = some (0, v, σ) → (∀ J, f_X9_group x z y (sJ σ J) = some (v, sS (sJ σ J) 39 3 0)) → OpX [2, 3] (f_X8_group x z y σ) (f_X9_group x z y) := fun v h1 h2 => ⟨0, v, σ, h1, Or.inl rfl, fun J => ⟨v, sS (sJ σ J) 39 3 0, h2 J, by rw [sS_s]; rfl, (fun _ => rfl), rfl, Inv.s3 (σ := sJ σ J) hI0⟩⟩
  obtain ⟨sd, s1, s2, s3⟩ := hS
  have hB : ∃ B : Nat, B ≤ 16 ∧ (sd = true → σ.1 19 8 = nI B) ∧ (sd = true → σ.1 39 20 = nI B) := by
    cases sd
    · exact ⟨0, by omega, (fun h => by cases h), (fun h => by cases h)⟩
    · obtain ⟨B, W, u, bn, gr, bg, en, rp, sh, d1, d2, d3, d4, d5, d6, -⟩ := s3 rfl
      exact ⟨B, d1, fun _ => d5, fun _ => d6⟩
  obtain ⟨B, B1, B2, B3⟩ := hB
  have hcb := hasBin_e (x := x) s1 c3 B2
  have hmb : ∀ J, f_X9_noBin x (sJ σ J) = some (bI (!hbn x (if sd = true then B else C)), sJ σ J) := fun J => noBin_e (σ := sJ σ J) (x := x) s2 c4 B3
  cases hbx : hbn x (if sd = true then B else C)
  · refine hthrow 0 (Or.inl rfl) ?_ (fun J => ?_)
    · unfold f_X8_group b_X8_group_16
      rw [hcb, hbx, bd_s, if_pos (by decide)]
    · unfold f_X9_group b_X9_group_18
      rw [hmb, hbx, bd_s, if_neg (by decide)]
      rfl
  · cases hy : isW y 2
    · refine hthrow 0 (Or.inl rfl) ?_ (fun J => ?_)
      · unfold f_X8_group b_X8_group_16
        rw [hcb, hbx, bd_s, if_neg (by decide), isWithin_e, bd_s, hy, if_pos (by decide)]
      · unfold f_X9_group b_X9_group_18
        rw [hmb, hbx, bd_s, if_pos (by decide)]
        simp only [isW, decide_eq_false_iff_not] at hy
        by_cases h0 : y < 0
        · rw [if_pos h0]; rfl
        · rw [if_neg h0, if_neg (fun h => hy ⟨Int32.not_lt.mp h0, h⟩)]; rfl
    · obtain ⟨j, hj, rfl⟩ := (isW_f (M := 2) (by decide)).mp hy
      have hcu : f_X8_group x z (nI j) σ = (if bI sd = 0 then some (3, (0 : Int32), σ) else (if z < 0 then b_X8_group_65 σ else bd (f_X1_groupsIn x σ) (fun r14 s15 => (if z < r14 then (if nI j = 0 then bd (f_X1_readsIn x z s15) (fun r26 s27 => some (0, r26, s27)) else (if nI j = (1 : Int32) then bd (f_X5_bestOf x z s15) (fun r23 s24 => b_X8_group_121 r23 s24) else bd (f_X1_tagsIn x z s15) (fun r20 s21 => b_X8_group_121 r20 s21))) else b_X8_group_65 s15)))) := by
        unfold f_X8_group
        rw [hcb, hbx, bd_s, if_neg (by decide), isWithin_e, bd_s, hy, if_neg (by decide), isDone_e s1, bd_s]
      have hmu : ∀ J, f_X9_group x z (nI j) (sJ σ J) = (if bI sd = 0 then b_X9_group_51 x z (nI j) 2 (sJ σ J) else (if z < 0 then b_X9_group_46 x z (nI j) (sJ σ J) else bd (f_X9_groupsOf x (sJ σ J)) (fun r9 s10 => (if z < r9 then b_X9_group_51 x z (nI j) 0 s10 else b_X9_group_46 x z (nI j) s10)))) := fun J => by
        unfold f_X9_group
        rw [hmb, hbx, bd_s, if_pos (by decide), if_neg (nI_pos (by omega)), if_pos (show nI j ≤ (2 : Int32) from nI_le (b := 2) hj (by decide)), show (sJ σ J).1 39 19 = bI sd from s2]
      cases sd
      · refine hthrow 1 (Or.inr rfl) (by rw [hcu, if_pos (by decide)]) (fun J => ?_)
        rw [hmu, if_pos (by decide)]
        rfl
      · rw [if_neg (by decide)] at hcu
        have hmu : ∀ J, _ := fun J => (hmu J).trans (if_neg (by decide : ¬ bI true = 0))
        obtain ⟨B', W, u, bn, gr, bg, en, rp, sh, d1, d2, d3, d4, d5, d6, d7, d8, d9, d10, d11, d12, d13, d14⟩ := s3 rfl
        have hBB : B' = B := by
          have := B2 rfl
          rw [d5] at this
          exact (nI_eq (by omega) (by omega)).mp this
        subst hBB
        have e48 : ∀ i, i < n → σ.2.1 48 i = bn i := fun i hi => (d9 i hi).2.1
        have e52 : ∀ i, i < n → σ.2.1 52 i = gr i := fun i hi => (d9 i hi).2.2.2.2.2.2.2.2.2.2.1
        by_cases hz0 : z < 0
        · refine hthrow 0 (Or.inl rfl) (by rw [hcu, if_pos hz0]; rfl) (fun J => ?_)
          rw [hmu, if_pos hz0]
          rfl
        · rw [if_neg hz0] at hcu
          have hmu : ∀ J, _ := fun J => (hmu J).trans (if_neg hz0)
          obtain ⟨q, hq31, rfl⟩ := nI_of hz0
          rcases hbn_f (by rw [if_pos rfl]; omega) hbx with rfl | ⟨b, hb, rfl⟩
          · refine hthrow 0 (Or.inl rfl) ?_ (fun J => ?_)
            · rw [hcu, groupsIn_m, bd_s, if_neg hz0]
              rfl
            · have hg : f_X9_groupsOf (-1) (sJ σ J) = some (nI 0, sJ σ J) := groupsOf_e (σ := sJ σ J) (G := 0) (bn := bn) (gr := gr) r4.1 hn (by omega) e48 e52 (fun i hi hb => Or.inl (d12 i hi (fun h => h.1 hb))) (fun q hq => by omega)
              rw [hmu, hg, bd_s, if_neg (nI_nlt (by omega) hq31)]
              rfl
          · rw [if_pos rfl] at hb
            obtain ⟨G, g1, g2, g3, g4⟩ := d14 b hb
            have hg : ∀ J, f_X9_groupsOf (nI b) (sJ σ J) = some (nI G, sJ σ J) := fun J => by
              refine groupsOf_e (σ := sJ σ J) (G := G) (bn := bn) (gr := gr) r4.1 hn (by omega) e48 e52 (fun i hi hb => ?_) (fun q hq => ?_)
              · by_cases hc : ctd bn sh i
                · exact Or.inr (g3 i hi hc hb)
                · exact Or.inl (d12 i hi hc)
              · obtain ⟨i, i1, i2, i3, i4⟩ := g4 q hq
                exact ⟨i, i1, i3, i4⟩
            rw [groupsIn_in (by omega), bd_s, g2] at hcu
            by_cases hqG : q < G
            · rw [if_pos (nI_lt hqG (by omega))] at hcu
              have hml : ∀ J, f_X9_group (nI b) (nI q) (nI j) (sJ σ J) = (if nI j = (1 : Int32) then bd (f_X9_bestOf (nI b) (nI q) (sS (sJ σ J) 39 3 0)) (fun r5 s6 => some (r5, s6)) else l_X9_group_81 FU (nI b) (nI q) (nI j) (0) (0) (sS (sJ σ J) 39 3 0)) := fun J => by
                rw [hmu, hg, bd_s, if_pos (nI_lt hqG (by omega))]
                unfold b_X9_group_51
                rw [nx_e, sS_s, if_pos (by decide)]
              have hM : MbC σ n bn gr sh := ⟨fun i hi => ⟨(d9 i hi).2.2.2.2.2.2.2.2.2.2.2.1, (d9 i hi).2.2.2.2.2.2.2.2.2.1, d12 i hi⟩, fun i h1 h2 => (d10 i h1 h2).1⟩
              have hj3 : j = 0 ∨ j = 1 ∨ j = 2 := by omega
              rcases hj3 with rfl | rfl | rfl
              · refine hgive (nI (cnt (mb n bn gr (nI b) (nI q)) n)) ?_ (fun J => ?_)
                · rw [hcu, if_pos (by decide), xreadsIn_e hM (by omega) (by omega) hn, bd_s]
                · rw [hml, if_neg (by decide)]
                  exact mgroup_81 (σ := sS (sJ σ J) 39 3 0) (bn := bn) (gr := gr) hn d2 d3 r4.1 d7 d8 e48 e52 _ (Or.inl ⟨by decide, rfl⟩) FU 0 (by omega) (by simp only [FU]; omega)
              · have hwl : ∀ i, i < n → smq (ql i) (bg i) (en i - bg i) < 2 ^ 31 := fun i hi => by
                  obtain ⟨v1, v2, v3, v4, v5, v6⟩ := r5 i hi
                  obtain ⟨-, -, -, -, -, -, -, -, -, -, -, -, -, w1, w2⟩ := d9 i hi
                  have := smq_le (f := ql i) (a := bg i) (en i - bg i) (fun j hj => v6 (bg i + j) (by omega))
                  omega
                refine hgive (bsf (mb n bn gr (nI b) (nI q)) (fun i => smq (ql i) (bg i) (en i - bg i)) n).1 ?_ (fun J => ?_)
                · rw [hcu, if_neg (by decide), if_pos (by decide), xbestOf_e (w := fun i => smq (ql i) (bg i) (en i - bg i)) hM (by omega) (by omega) hn d4 (fun i hi => ⟨(d9 i hi).2.2.2.2.2.2.2.2.1, hwl i hi⟩), bd_s]
                  rfl
                · rw [hml, if_pos (by decide), mbestOf_e (σ := sS (sJ σ J) 39 3 0) (bn := bn) (gr := gr) (bg := bg) (en := en) (ql := ql) hn r4.1 e48 e52 (fun i hi => (d9 i hi).2.2.2.1) (fun i hi => (d9 i hi).2.2.2.2.2.1) (fun i hi => ?_) (fun i hi k hk => ?_) (fun i hi k hk => ?_), bd_s]
                  · obtain ⟨v1, v2, v3, v4, v5, v6⟩ := r5 i hi
                    obtain ⟨-, -, -, -, -, -, -, -, -, -, -, -, -, w1, w2⟩ := d9 i hi
                    omega
                  · obtain ⟨-, -, -, -, -, -, -, -, -, -, -, -, -, w1, w2⟩ := d9 i hi
                    exact ((r4.2 i hi).2.2.2 k (by omega)).2
                  · obtain ⟨-, -, -, -, -, -, -, -, -, -, -, -, -, w1, w2⟩ := d9 i hi
                    exact (r5 i hi).2.2.2.2.2 k (by omega)
              · have hct : ∀ i, i < n → mb n bn gr (nI b) (nI q) i = true → ctd bn sh i := fun i hi hm => by
                  by_cases hc : ctd bn sh i
                  · exact hc
                  · have h1 := (mb_t.mp hm).2.2
                    rw [d12 i hi hc] at h1
                    exact absurd h1 (nI_m1 (by omega))
                have hds : ∀ i i', i < n → i' < n → ctd bn sh i → ctd bn sh i' → ds (fun k => σ.2.1 44 (120 * i + W + k)) (fun k => σ.2.1 44 (120 * i' + W + k)) u = ds (fun k => lt i (W + k)) (fun k => lt i' (W + k)) u := by
                  intro i i' hi hi' hc hc'
                  have a1 := (d11 i hi hc).1
                  have a2 := (d11 i' hi' hc').1
                  refine ds_cg u (fun k hk => ?_) (fun k hk => ?_)
                  · rw [show 120 * i + W + k = 120 * i + (W + k) by omega]
                    exact ((r4.2 i hi).2.2.2 (W + k) (by omega)).1
                  · rw [show 120 * i' + W + k = 120 * i' + (W + k) by omega]
                    exact ((r4.2 i' hi').2.2.2 (W + k) (by omega)).1
                refine hgive (nI (cnt (tgB n bn gr (nI b) (nI q) (fun i j => ds (fun k => σ.2.1 44 (120 * i + W + k)) (fun k => σ.2.1 44 (120 * j + W + k)) u)) n)) ?_ (fun J => ?_)
                · rw [hcu, if_neg (by decide), if_neg (by decide), xtagsIn_e (tg := tgB n bn gr (nI b) (nI q) (fun i j => ds (fun k => σ.2.1 44 (120 * i + W + k)) (fun k => σ.2.1 44 (120 * j + W + k)) u)) hM (by omega) (by omega) hn (fun i hi hm => ?_) (fun i hm => ?_), bd_s]
                  · rfl
                  · have hc := hct i hi hm
                    obtain ⟨a1, a2, a3, a4, a5, a6⟩ := d11 i hi hc
                    rw [a2]
                    simp only [tgB, hm, Bool.true_and]
                    rw [nf_t]
                    constructor
                    · intro he k hk
                      have hrp : rp i = i := (nI_eq (by omega) (by omega)).mp he
                      cases hmk : mb n bn gr (nI b) (nI q) k
                      · rfl
                      · have hck := hct k (by omega) hmk
                        rw [Bool.true_and]
                        refine decide_eq_false (fun h0 => ?_)
                        rw [hds i k hi (by omega) hc hck] at h0
                        exact a6 k (by omega) hck ⟨by rw [(mb_t.mp hm).2.1, (mb_t.mp hmk).2.1], h0⟩
                    · intro hall
                      by_cases e : rp i = i
                      · rw [e]
                      · have hlt : rp i < i := by omega
                        have h1 := hall (rp i) hlt
                        have hmr : mb n bn gr (nI b) (nI q) (rp i) = true := by
                          have hm' := mb_t.mp hm
                          refine mb_t.mpr ⟨by omega, ?_, ?_⟩
                          · rw [← a5.1]; exact hm'.2.1
                          · rw [← d13 i hi (rp i) (by omega) hc a4 a5]; exact hm'.2.2
                        rw [hmr, Bool.true_and] at h1
                        exact absurd ((hds i (rp i) hi (by omega) hc a4).trans a5.2) (of_decide_eq_false h1)
                  · simp [tgB, hm]
                · rw [hml, if_neg (by decide)]
                  exact mgroup_81 (σ := sS (sJ σ J) 39 3 0) (bn := bn) (gr := gr) hn d2 d3 r4.1 d7 d8 e48 e52 _ (Or.inr ⟨rfl, rfl⟩) FU 0 (by omega) (by simp only [FU]; omega)
            · refine hthrow 0 (Or.inl rfl) ?_ (fun J => ?_)
              · rw [hcu, if_neg (nI_nlt (by omega) (by omega))]
                rfl
              · rw [hmu, hg, bd_s, if_neg (nI_nlt (by omega) (by omega))]
                rfl
end OJ
