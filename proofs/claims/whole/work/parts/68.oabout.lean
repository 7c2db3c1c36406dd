section OA
variable {σ σ' : St}
variable {n i : Nat}
theorem xhas_in (h7 : σ.1 19 7 = nI n) (hn : n ≤ 60) (hi : i < n) : f_X5_has (nI i) σ = some (1, σ) := by
  unfold f_X5_has b_X5_has_23
  rw [h7, if_neg (nI_pos (by omega)), if_neg (nI_ge hi (by omega)), if_neg (show ¬ (60 : Int32) ≤ nI i from nI_ge (b := 60) (by omega) (by decide)), gz_1]
theorem binOf_in (h7 : σ.1 19 7 = nI n) (hn : n ≤ 60) (hi : i < n) : f_X5_binOf (nI i) σ = some (σ.2.1 20 i, σ) := by
  unfold f_X5_binOf b_X5_binOf_18
  rw [xhas_in h7 hn hi, bd_s, if_neg (by decide), gd_t (inb_n (show i < ln 20 by show i < 60; omega) (by decide)), nI_clamp (by omega)]
theorem beginOf_in (h7 : σ.1 19 7 = nI n) (hn : n ≤ 60) (hi : i < n) : f_X5_beginOf (nI i) σ = some (σ.2.1 21 i, σ) := by
  unfold f_X5_beginOf b_X5_beginOf_18
  rw [xhas_in h7 hn hi, bd_s, if_neg (by decide), gd_t (inb_n (show i < ln 21 by show i < 60; omega) (by decide)), nI_clamp (by omega)]
theorem endOf_in (h7 : σ.1 19 7 = nI n) (hn : n ≤ 60) (hi : i < n) : f_X5_endOf (nI i) σ = some (σ.2.1 22 i, σ) := by
  unfold f_X5_endOf b_X5_endOf_18
  rw [xhas_in h7 hn hi, bd_s, if_neg (by decide), gd_t (inb_n (show i < ln 22 by show i < 60; omega) (by decide)), nI_clamp (by omega)]
theorem worthOf_in (h7 : σ.1 19 7 = nI n) (hn : n ≤ 60) (hi : i < n) : f_X5_worthOf (nI i) σ = some (σ.2.1 23 i, σ) := by
  unfold f_X5_worthOf b_X5_worthOf_18
  rw [xhas_in h7 hn hi, bd_s, if_neg (by decide), gd_t (inb_n (show i < ln 23 by show i < 60; omega) (by decide)), nI_clamp (by omega)]
theorem xshort_in {b : Bool} (h7 : σ.1 19 7 = nI n) (hn : n ≤ 60) (hi : i < n) (hs : σ.2.1 24 i = bI b) : f_X5_isShort (nI i) σ = some (bI b, σ) := by
  unfold f_X5_isShort b_X5_isShort_21 b_X5_isShort_22
  rw [xhas_in h7 hn hi, bd_s, if_neg (by decide), gd_t (inb_n (show i < ln 24 by show i < 60; omega) (by decide)), nI_clamp (by omega), hs, gz_0, gz_1]
  cases b <;> rfl
theorem isRead_in (hi : i < 60) : f_X1_isRead (nI i) σ = some (1, σ) := by
  unfold f_X1_isRead b_X1_isRead_15
  rw [if_neg (nI_pos (by omega)), if_neg (show ¬ (60 : Int32) ≤ nI i from nI_ge (b := 60) (by omega) (by decide)), gz_1]
theorem groupOf_in (hi : i < 60) : f_X1_groupOf (nI i) σ = some (σ.2.1 30 i, σ) := by
  unfold f_X1_groupOf b_X1_groupOf_17
  rw [isRead_in hi, bd_s, if_neg (by decide), gd_t (inb_n (show i < ln 30 by show i < 60; omega) (by decide)), nI_clamp (by omega)]
theorem isDone_e {b : Bool} (h : σ.1 19 6 = bI b) : f_X5_isDone σ = some (bI b, σ) := by
  unfold f_X5_isDone
  rw [h, gz_b]
theorem op_about (hI : Inv σ) (x y : Int32) : OpX [2] (f_X8_about x y σ) (f_X9_about x y) := by
  have hI0 := hI
  obtain ⟨-, -, -, -, -, -, n, m, st, ns, lc, nm, lt, ql, hR, hS⟩ := hI
  obtain ⟨r1, r2, r3, r4, r5⟩ := hR
  have hn := r2.2.1
  have h9 : ∀ J, (sJ σ J).1 39 9 = nI n := fun J => r4.1
  have h19 : ∀ J, b_X9_about_19 x y (sJ σ J) = some (0, sS (sJ σ J) 39 3 1) := fun J => by
    unfold b_X9_about_19 b_X9_about_24
    rw [nx_e, sS_s, if_neg (by decide)]
  have hthrow : f_X8_about x y σ = some (2, 0, σ) → (∀ J, f_X9_about x y (sJ σ J) = b_X9_about_19 x y (sJ σ J)) → OpX [2] (f_X8_about x y σ) (f_X9_about x y) := fun h1 h2 => ⟨2, 0, σ, h1, Or.inr (by decide), fun J => ⟨0, sS (sJ σ J) 39 3 1, by rw [h2, h19], by rw [sS_s]; rfl, (fun h => by cases h), rfl, Inv.s3 (σ := sJ σ J) hI0⟩⟩
  have hgive : ∀ v : Int32, f_X8_about x y σ = some (0, v, σ) → (∀ J, f_X9_about x y (sJ σ J) = some (v, sS (sJ σ J) 39 3 0)) → OpX [2] (f_X8_about x y σ) (f_X9_about x y) := fun v h1 h2 => ⟨0, v, σ, h1, Or.inl rfl, fun J => ⟨v, sS (sJ σ J) 39 3 0, h2 J, by rw [sS_s]; rfl, (fun _ => rfl), rfl, Inv.s3 (σ := sJ σ J) hI0⟩⟩
  rcases in_or (x := x) (n := n) (by omega) with hx | ⟨i, hi, rfl⟩
  · refine hthrow ?_ (fun J => ?_)
    · unfold f_X8_about b_X8_about_20
      rw [has_out r2.1 hx, bd_s, if_pos rfl]
    · unfold f_X9_about
      rw [noRead_out (h9 J) hx, bd_s, if_neg (by decide)]
  · have hmi := r4.2 i hi
    cases hy : isW y 6
    · refine hthrow ?_ (fun J => ?_)
      · unfold f_X8_about b_X8_about_20
        rw [has_in r2.1 hn hi, bd_s, if_neg (by decide), isWithin_e, bd_s, hy, if_pos (by decide)]
      · unfold f_X9_about
        rw [noRead_in (h9 J) hi hn, bd_s, if_pos rfl]
        simp only [isW, decide_eq_false_iff_not] at hy
        by_cases h0 : y < 0
        · rw [if_pos h0]
        · rw [if_neg h0, if_neg (fun h => hy ⟨Int32.not_lt.mp h0, h⟩)]
    · obtain ⟨j, hj, rfl⟩ := (isW_f (M := 6) (by decide)).mp hy
      have hcu : f_X8_about (nI i) (nI j) σ = (if nI j = 0 then some (0, nI (ns i), σ) else (if nI j = (1 : Int32) then some (0, nI (lc i), σ) else bd (f_X5_isDone σ) (fun r11 s12 => (if r11 = 0 then b_X8_about_77 (-1 : Int32) s12 else bd (f_X8_aboutSorted (nI i) (nI j) s12) (fun r15 s16 => b_X8_about_77 r15 s16))))) := by
        unfold f_X8_about
        rw [has_in r2.1 hn hi, bd_s, if_neg (by decide), isWithin_e, bd_s, hy, if_neg (by decide), nameSize_in r2 hi, bd_s, letterCount_in r2 hi, bd_s]
      have hmu : ∀ J, f_X9_about (nI i) (nI j) (sJ σ J) = b_X9_about_24 (nI i) (nI j) 0 (sJ σ J) := fun J => by
        unfold f_X9_about
        rw [noRead_in (h9 J) hi hn, bd_s, if_pos rfl, if_neg (nI_pos (by omega)), if_pos (show nI j ≤ (6 : Int32) from nI_le (b := 6) hj (by decide))]
      have h24 : ∀ J, b_X9_about_24 (nI i) (nI j) 0 (sJ σ J) = (if (2 : Int32) ≤ nI j then (if (σ.1 39 19) = 0 then some ((-1), sS (sJ σ J) 39 3 0) else (if nI j = (2) then some (σ.2.1 48 i, sS (sJ σ J) 39 3 0) else (if nI j = (3) then some (σ.2.1 49 i, sS (sJ σ J) 39 3 0) else (if nI j = (4) then some (σ.2.1 50 i, sS (sJ σ J) 39 3 0) else (if nI j = (5) then (if σ.2.1 51 i = 0 then some (0, sS (sJ σ J) 39 3 0) else some (1, sS (sJ σ J) 39 3 0)) else some (σ.2.1 52 i, sS (sJ σ J) 39 3 0)))))) else (if nI j = 0 then some (nI (ns i), sS (sJ σ J) 39 3 0) else some (nI (lc i), sS (sJ σ J) 39 3 0))) := fun J => by
        unfold b_X9_about_24 b_X9_about_140 b_X9_about_60
        rw [nx_e, sS_s, if_pos (by decide), sS_j (by decide), gd_t (inb_n (show i < ln 48 by show i < 60; omega) (by decide)), gd_t (inb_n (show i < ln 49 by show i < 60; omega) (by decide)), gd_t (inb_n (show i < ln 50 by show i < 60; omega) (by decide)), gd_t (inb_n (show i < ln 51 by show i < 60; omega) (by decide)), gd_t (inb_n (show i < ln 52 by show i < 60; omega) (by decide)), gd_t (inb_n (show i < ln 41 by show i < 120; omega) (by decide)), gd_t (inb_n (show i < ln 43 by show i < 120; omega) (by decide)), nI_clamp (by omega)]
        rw [show (sS (sJ σ J) 39 3 0).2.1 41 i = nI (ns i) from hmi.1, show (sS (sJ σ J) 39 3 0).2.1 43 i = nI (lc i) from hmi.2.1]
        rfl
      by_cases hj2 : j < 2
      · have : j = 0 ∨ j = 1 := by omega
        rcases this with rfl | rfl
        · refine hgive (nI (ns i)) (by rw [hcu, if_pos (by decide)]) (fun J => ?_)
          rw [hmu, h24, if_neg (by decide), if_pos (by decide)]
        · refine hgive (nI (lc i)) (by rw [hcu, if_neg (by decide), if_pos (by decide)]) (fun J => ?_)
          rw [hmu, h24, if_neg (by decide), if_neg (by decide)]
      · rw [if_neg (nI_ne0 (by omega) (by omega)), if_neg (show ¬ nI j = (1 : Int32) from fun h => by have := (nI_eq (b := 1) (by omega) (by decide)).mp h; omega)] at hcu
        have h24' : ∀ J, _ := fun J => (h24 J).trans (if_pos (show (2 : Int32) ≤ nI j from nI_le (a := 2) (by omega) (by omega)))
        obtain ⟨sd, s1, s2, s3⟩ := hS
        rw [isDone_e s1, bd_s] at hcu
        cases sd
        · refine hgive (-1) (by rw [hcu, if_pos (by decide)]; rfl) (fun J => ?_)
          rw [hmu, h24', s2, if_pos (by decide)]
        · obtain ⟨B, W, u, bn, gr, bg, en, rp, sh, d1, d2, d3, d4, d5, d6, d7, d8, d9, -⟩ := s3 rfl
          obtain ⟨e1, e2, e3, e4, e5, e6, e7, e8, e9, e10, e11, e12, -⟩ := d9 i hi
          rw [if_neg (by decide : ¬ bI true = 0)] at hcu
          unfold f_X8_aboutSorted at hcu
          rw [binOf_in d4 hn hi, bd_s, beginOf_in d4 hn hi, bd_s, endOf_in d4 hn hi, bd_s, xshort_in d4 hn hi e7, bd_s, groupOf_in (by omega), bd_s, e1, e3, e5, e10] at hcu
          unfold b_X8_aboutSorted_75 b_X8_about_77 at hcu
          have hmm : ∀ J, _ := fun J => (hmu J).trans ((h24' J).trans (if_neg (show ¬ σ.1 39 19 = 0 by rw [s2]; decide)))
          rw [e2, e4, e6, e8, e11] at hmm
          have hj5 : j = 2 ∨ j = 3 ∨ j = 4 ∨ j = 5 ∨ j = 6 := by omega
          rcases hj5 with rfl | rfl | rfl | rfl | rfl
          · exact hgive _ hcu hmm
          · exact hgive _ hcu hmm
          · exact hgive _ hcu hmm
          · have h5 : (if bI (sh i) = 0 then (0 : Int32) else 1) = bI (sh i) := by cases sh i <;> rfl
            refine hgive (bI (sh i)) ?_ (fun J => ?_)
            · rw [hcu]
              cases sh i <;> rfl
            · rw [hmm]
              cases sh i <;> rfl
          · exact hgive _ hcu hmm
end OA
