section OG
variable {σ σ' : St}
def cnt (p : Nat → Bool) : Nat → Nat
  | 0 => 0
  | k + 1 => cnt p k + (if p k = true then 1 else 0)
theorem cnt_le {p : Nat → Bool} : ∀ k, cnt p k ≤ k := by
  intro k
  induction k with
  | zero => exact Nat.le_refl _
  | succ k ih => simp only [cnt]; split <;> omega
theorem cnt_cg {p q : Nat → Bool} : ∀ k, (∀ i, i < k → p i = q i) → cnt p k = cnt q k := by
  intro k
  induction k with
  | zero => intro _; rfl
  | succ k ih => intro h; simp only [cnt]; rw [ih (fun i hi => h i (by omega)), h k (by omega)]
theorem cnt_ext {p : Nat → Bool} {n : Nat} (h : ∀ k, n ≤ k → p k = false) : ∀ d, cnt p (n + d) = cnt p n := by
  intro d
  induction d with
  | zero => rfl
  | succ d ih =>
    show cnt p (n + d) + (if p (n + d) = true then 1 else 0) = cnt p n
    rw [ih, h (n + d) (by omega)]
    simp
/-- none of the first -/
def nf (p : Nat → Bool) : Nat → Bool
  | 0 => true
  | k + 1 => nf p k && !p k
theorem nf_t {p : Nat → Bool} : ∀ k, nf p k = true ↔ ∀ j, j < k → p j = false := by
  intro k
  induction k with
  | zero => exact ⟨fun _ j hj => by omega, fun _ => rfl⟩
  | succ k ih =>
    simp only [nf, Bool.and_eq_true, Bool.not_eq_true']
    constructor
    · rintro ⟨h1, h2⟩ j hj
      by_cases e : j = k
      · subst e; exact h2
      · exact ih.mp h1 j (by omega)
    · intro h
      exact ⟨ih.mpr (fun j hj => h j (by omega)), h k (by omega)⟩
theorem bI_and {a b : Bool} : bI a &&& bI b = bI (a && b) := by cases a <;> cases b <;> rfl
theorem bI_add {a : Bool} {k : Nat} : nI k + bI a = nI (k + (if a = true then 1 else 0)) := by
  cases a
  · exact nI_add k 0
  · exact nI_add k 1
variable {n : Nat} {bn gr : Nat → Int32} {sh : Nat → Bool}
theorem readsIn_e {x : Int32} (h7 : σ.1 19 7 = nI n) (hn : n ≤ 60) (h20 : ∀ i, i < n → σ.2.1 20 i = bn i) : f_X5_readsIn x σ = some (nI (cnt (fun i => decide (bn i = x)) n), σ) := by
  have key : ∀ (fu k : Nat), k ≤ n → n < fu + k → l_X5_readsIn_4 fu x (nI (cnt (fun i => decide (bn i = x)) k)) (nI k) σ = some (nI (cnt (fun i => decide (bn i = x)) n), σ) := by
    intro fu
    induction fu with
    | zero => intro k h1 h2; omega
    | succ fu ih =>
      intro k h1 h2
      show b_X5_readsIn_4 (l_X5_readsIn_4 fu) x (nI (cnt (fun i => decide (bn i = x)) k)) (nI k) σ = _
      unfold b_X5_readsIn_4 b_X5_readsIn_24
      rw [h7]
      by_cases e : k = n
      · subst e
        rw [if_pos (nI_le (Nat.le_refl _) (by omega))]
      · have hd := ih (k + 1) (by omega) (by omega)
        rw [if_neg (nI_ge (by omega) (by omega)), binOf_in h7 hn (by omega : k < n), bd_s, h20 k (by omega), nx_e, nI_1, nx_e, nx_e, nI_1]
        by_cases e2 : bn k = x
        · have hs : cnt (fun i => decide (bn i = x)) (k + 1) = cnt (fun i => decide (bn i = x)) k + 1 := by simp [cnt, e2]
          rw [hs] at hd
          rw [if_pos e2]
          exact hd
        · have hs : cnt (fun i => decide (bn i = x)) (k + 1) = cnt (fun i => decide (bn i = x)) k := by simp [cnt, e2]
          rw [hs] at hd
          rw [if_neg e2]
          exact hd
  exact key FU 0 (by omega) (by simp only [FU]; omega)
theorem shortReadsIn_e {x : Int32} (h7 : σ.1 19 7 = nI n) (hn : n ≤ 60) (h20 : ∀ i, i < n → σ.2.1 20 i = bn i) (h24 : ∀ i, i < n → σ.2.1 24 i = bI (sh i)) : f_X5_shortReadsIn x σ = some (nI (cnt (fun i => decide (bn i = x) && sh i) n), σ) := by
  have key : ∀ (fu k : Nat), k ≤ n → n < fu + k → l_X5_shortReadsIn_4 fu x (nI (cnt (fun i => decide (bn i = x) && sh i) k)) (nI k) σ = some (nI (cnt (fun i => decide (bn i = x) && sh i) n), σ) := by
    intro fu
    induction fu with
    | zero => intro k h1 h2; omega
    | succ fu ih =>
      intro k h1 h2
      show b_X5_shortReadsIn_4 (l_X5_shortReadsIn_4 fu) x (nI (cnt (fun i => decide (bn i = x) && sh i) k)) (nI k) σ = _
      unfold b_X5_shortReadsIn_4 b_X5_shortReadsIn_32
      rw [h7]
      by_cases e : k = n
      · subst e
        rw [if_pos (nI_le (Nat.le_refl _) (by omega))]
      · have hd := ih (k + 1) (by omega) (by omega)
        rw [if_neg (nI_ge (by omega) (by omega)), binOf_in h7 hn (by omega : k < n), bd_s, h20 k (by omega), xshort_in h7 hn (by omega : k < n) (h24 k (by omega)), bd_s, nx_e, nI_1, nx_e, nx_e, nI_1]
        by_cases e2 : bn k = x
        · rw [if_pos e2]
          cases hsh : sh k
          · have hs : cnt (fun i => decide (bn i = x) && sh i) (k + 1) = cnt (fun i => decide (bn i = x) && sh i) k := by simp [cnt, hsh]
            rw [hs] at hd
            rw [if_pos (by decide)]
            exact hd
          · have hs : cnt (fun i => decide (bn i = x) && sh i) (k + 1) = cnt (fun i => decide (bn i = x) && sh i) k + 1 := by simp [cnt, e2, hsh]
            rw [hs] at hd
            rw [if_neg (by decide)]
            exact hd
        · have hs : cnt (fun i => decide (bn i = x) && sh i) (k + 1) = cnt (fun i => decide (bn i = x) && sh i) k := by simp [cnt, e2]
          rw [hs] at hd
          rw [if_neg e2]
          exact hd
  exact key FU 0 (by omega) (by simp only [FU]; omega)
/-- the model's groups of a bin -/
theorem groupsOf_e {x : Int32} {G : Nat} (h9 : σ.1 39 9 = nI n) (hn : n ≤ 60) (hG : G ≤ 60) (h48 : ∀ i, i < n → σ.2.1 48 i = bn i) (h52 : ∀ i, i < n → σ.2.1 52 i = gr i) (g1 : ∀ i, i < n → bn i = x → gr i = -1 ∨ ∃ q, q < G ∧ gr i = nI q) (g2 : ∀ q, q < G → ∃ i, i < n ∧ bn i = x ∧ gr i = nI q) : f_X9_groupsOf x σ = some (nI G, σ) := by
  have key : ∀ (fu k m : Nat), k ≤ n → n < fu + k → m ≤ G → (∀ i, i < k → bn i = x → ∀ q, q < G → gr i = nI q → q < m) → l_X9_groupsOf_4 fu x (nI m) (nI k) σ = some (nI G, σ) := by
    intro fu
    induction fu with
    | zero => intro k m h1 h2; omega
    | succ fu ih =>
      intro k m h1 h2 hm hi
      show b_X9_groupsOf_4 (l_X9_groupsOf_4 fu) x (nI m) (nI k) σ = _
      unfold b_X9_groupsOf_4 b_X9_groupsOf_43 b_X9_groupsOf_44
      rw [h9]
      by_cases e : k = n
      · subst e
        rw [if_pos (nI_le (Nat.le_refl _) (by omega))]
        have : m = G := by
          by_cases h : m < G
          · obtain ⟨i, i1, i2, i3⟩ := g2 m h
            have := hi i i1 i2 m h i3
            omega
          · omega
        rw [this]
      · rw [if_neg (nI_ge (by omega) (by omega)), gd_t (inb_n (show k < ln 48 by show k < 60; omega) (by decide)), gd_t (inb_n (show k < ln 52 by show k < 60; omega) (by decide)), gd_t (inb_n (show k < ln 52 by show k < 60; omega) (by decide)), nI_clamp (by omega), h48 k (by omega), h52 k (by omega), nx_e, nI_1, nx_e]
        by_cases e2 : bn k = x
        · rw [if_pos e2]
          rcases g1 k (by omega) e2 with g3 | ⟨q, q1, q2⟩
          · rw [g3, if_pos (show (-1 : Int32) < nI m from Int32.lt_of_lt_of_le (by decide) (nI_pos' (by omega)))]
            refine ih (k + 1) m (by omega) (by omega) hm (fun i hi1 hi2 q hq hgq => ?_)
            by_cases e3 : i = k
            · subst e3
              rw [g3] at hgq
              exact absurd (show nI q < 0 by rw [← hgq]; decide) (nI_pos (by omega))
            · exact hi i (by omega) hi2 q hq hgq
          · rw [q2]
            by_cases h : q < m
            · rw [if_pos (nI_lt h (by omega))]
              refine ih (k + 1) m (by omega) (by omega) hm (fun i hi1 hi2 q' hq hgq => ?_)
              by_cases e3 : i = k
              · subst e3
                rw [q2] at hgq
                have := (nI_eq (by omega) (by omega)).mp hgq
                omega
              · exact hi i (by omega) hi2 q' hq hgq
            · rw [if_neg (nI_nlt (by omega) (by omega)), nI_1]
              refine ih (k + 1) (q + 1) (by omega) (by omega) (by omega) (fun i hi1 hi2 q' hq hgq => ?_)
              by_cases e3 : i = k
              · subst e3
                rw [q2] at hgq
                have := (nI_eq (by omega) (by omega)).mp hgq
                omega
              · have := hi i (by omega) hi2 q' hq hgq
                omega
        · rw [if_neg e2]
          refine ih (k + 1) m (by omega) (by omega) hm (fun i hi1 hi2 q' hq hgq => ?_)
          by_cases e3 : i = k
          · subst e3; exact absurd hi2 e2
          · exact hi i (by omega) hi2 q' hq hgq
  exact key FU 0 0 (by omega) (by simp only [FU]; omega) (by omega) (fun i hi => by omega)
theorem groupsIn_in {b : Nat} (hb : b < 16) : f_X1_groupsIn (nI b) σ = some (σ.2.1 32 b, σ) := by
  unfold f_X1_groupsIn b_X1_groupsIn_17 f_X1_isBin b_X1_isBin_15
  rw [if_neg (nI_pos (by omega)), if_neg (show ¬ (16 : Int32) ≤ nI b from nI_ge (b := 16) (by omega) (by decide)), gz_1, bd_s, if_neg (by decide), gd_t (inb_n (show b < ln 32 by show b < 16; omega) (by decide)), nI_clamp (by omega)]
theorem groupsIn_m : f_X1_groupsIn (-1) σ = some (0, σ) := by
  unfold f_X1_groupsIn b_X1_groupsIn_17 f_X1_isBin b_X1_isBin_14 b_X1_isBin_15
  rw [if_pos (by decide), gz_0, bd_s, if_pos rfl]
theorem mbin_loop {x y : Int32} (h9 : σ.1 39 9 = nI n) (hn : n ≤ 60) (h48 : ∀ i, i < n → σ.2.1 48 i = bn i) (h51 : ∀ i, i < n → σ.2.1 51 i = bI (sh i)) : ∀ (fu k : Nat), k ≤ n → n < fu + k → l_X9_bin_54 fu x y (nI (cnt (fun i => decide (bn i = x)) k)) (nI (cnt (fun i => decide (bn i = x) && sh i) k)) (nI k) σ = (if y = 0 then some (nI (cnt (fun i => decide (bn i = x)) n), σ) else (if y = 1 then some (nI (cnt (fun i => decide (bn i = x) && sh i) n), σ) else f_X9_groupsOf x σ)) := by
  intro fu
  induction fu with
  | zero => intro k h1 h2; omega
  | succ fu ih =>
    intro k h1 h2
    show b_X9_bin_54 (l_X9_bin_54 fu) x y (nI (cnt (fun i => decide (bn i = x)) k)) (nI (cnt (fun i => decide (bn i = x) && sh i) k)) (nI k) σ = _
    unfold b_X9_bin_54 b_X9_bin_142
    rw [h9]
    by_cases e : k = n
    · subst e
      rw [if_pos (nI_le (Nat.le_refl _) (by omega))]
      cases f_X9_groupsOf x σ <;> rfl
    · have hd := ih (k + 1) (by omega) (by omega)
      have hs1 : cnt (fun i => decide (bn i = x)) (k + 1) = cnt (fun i => decide (bn i = x)) k + (if decide (bn k = x) = true then 1 else 0) := rfl
      have hs2 : cnt (fun i => decide (bn i = x) && sh i) (k + 1) = cnt (fun i => decide (bn i = x) && sh i) k + (if (decide (bn k = x) && sh k) = true then 1 else 0) := rfl
      rw [hs1, hs2, ← bI_add, ← bI_add] at hd
      unfold b_X9_bin_80 b_X9_bin_109 b_X9_bin_110
      simp only [nx_e]
      simp only [gd_t (inb_n (show k < ln 48 by show k < 60; omega) (by decide)), gd_t (inb_n (show k < ln 51 by show k < 60; omega) (by decide)), nI_clamp (show k < 2 ^ 31 by omega), h48 k (by omega), h51 k (by omega), nI_1 k]
      rw [if_neg (nI_ge (by omega) (by omega))]
      by_cases e2 : bn k = x
      · simp only [if_pos e2]
        rw [decide_eq_true e2, Bool.true_and] at hd
        cases hsh : sh k
        · rw [hsh] at hd
          rw [if_pos (by decide)]
          exact hd
        · rw [hsh] at hd
          rw [if_neg (by decide)]
          exact hd
      · simp only [if_neg e2]
        rw [decide_eq_false e2, Bool.false_and] at hd
        exact hd
/-- which bins there are: both ask the same -/
def hbn (x : Int32) (Lm : Nat) : Bool := decide (¬ x < -1 ∧ ¬ nI Lm ≤ x)
theorem hasBin_e {x : Int32} {sd : Bool} {C B : Nat} (h6 : σ.1 19 6 = bI sd) (h2 : σ.1 12 2 = nI C) (h8 : sd = true → σ.1 19 8 = nI B) : f_X8_hasBin x σ = some (bI (hbn x (if sd = true then B else C)), σ) := by
  have key : ∀ Lm : Nat, b_X8_hasBin_27 x (nI Lm) σ = some (bI (hbn x Lm), σ) := by
    intro Lm
    unfold b_X8_hasBin_27 b_X8_hasBin_42 b_X8_hasBin_43
    rw [gz_0, gz_1]
    by_cases h1 : x < -1
    · rw [if_pos h1, show hbn x Lm = false by simp [hbn, h1]]; rfl
    · rw [if_neg h1]
      by_cases h2 : nI Lm ≤ x
      · rw [if_pos h2, show hbn x Lm = false by simp [hbn, h2]]; rfl
      · rw [if_neg h2, show hbn x Lm = true from decide_eq_true ⟨h1, h2⟩]; rfl
  unfold f_X8_hasBin
  rw [isDone_e h6, bd_s]
  cases sd
  · unfold f_X0_count
    rw [if_pos (by decide), bd_s, h2, key]
    rfl
  · unfold f_X5_binCount
    rw [if_neg (by decide), bd_s, h8 rfl, key]
    rfl
theorem noBin_e {x : Int32} {sd : Bool} {C B : Nat} (h6 : σ.1 39 19 = bI sd) (h2 : σ.1 39 12 = nI C) (h8 : sd = true → σ.1 39 20 = nI B) : f_X9_noBin x σ = some (bI (!hbn x (if sd = true then B else C)), σ) := by
  have key : ∀ Lm : Nat, ¬ x < -1 → b_X9_noBin_24 (nI Lm) x σ = some (bI (!hbn x Lm), σ) := by
    intro Lm h1
    unfold b_X9_noBin_24 b_X9_noBin_27 b_X9_noBin_32
    rw [gz_0, gz_1]
    by_cases h2 : nI Lm ≤ x
    · rw [if_neg (Int32.not_lt.mpr h2), show hbn x Lm = false by simp [hbn, h2]]; rfl
    · rw [if_pos (Int32.not_le.mp h2), show hbn x Lm = true from decide_eq_true ⟨h1, h2⟩]; rfl
  unfold f_X9_noBin
  by_cases h1 : x < -1
  · unfold b_X9_noBin_27 b_X9_noBin_32
    rw [if_pos h1, gz_1, show hbn x (if sd = true then B else C) = false by simp [hbn, h1]]; rfl
  · rw [if_neg h1, h6]
    cases sd
    · rw [if_pos (by decide), h2, key _ h1]; rfl
    · rw [if_neg (by decide), h8 rfl, key _ h1]; rfl
theorem hbn_f {x : Int32} {Lm : Nat} (hL : Lm < 2 ^ 31) (h : hbn x Lm = true) : x = -1 ∨ ∃ b, b < Lm ∧ x = nI b := by
  have h1 := of_decide_eq_true h
  by_cases h0 : x < 0
  · left
    have a1 := Int32.lt_iff_toInt_lt.mp h0
    have a2 : ¬ x.toInt < (-1 : Int32).toInt := fun h => h1.1 (Int32.lt_iff_toInt_lt.mpr h)
    have : x.toInt = -1 := by
      have e1 : (0 : Int32).toInt = 0 := by decide
      have e2 : (-1 : Int32).toInt = -1 := by decide
      omega
    exact Int32.toInt_inj.mp (by rw [this]; decide)
  · obtain ⟨i, hi, rfl⟩ := nI_of h0
    exact Or.inr ⟨i, Nat.lt_of_not_le (fun h => h1.2 (nI_le h hi)), rfl⟩
theorem op_bin (hI : Inv σ) (x y : Int32) : OpX [2, 3] (f_X8_bin x y σ) (f_X9_bin x y) := by
  have hI0 := hI
  obtain ⟨-, -, -, ⟨C, W0, c, hC⟩, -, -, n, m, st, ns, lc, nm, lt, ql, hR, hS⟩ := hI
  obtain ⟨r1, r2, r3, r4, r5⟩ := hR
  have hn := r2.2.1
  obtain ⟨c1, c2, c3, c4, -⟩ := hC
  have hthrow : ∀ k, (k = 0 ∨ k = 1) → f_X8_bin x y σ = some (k + 2, 0, σ) → (∀ J, f_X9_bin x y (sJ σ J) = b_X9_bin_34 x y (nI (k + 1)) (sJ σ J)) → OpX [2, 3] (f_X8_bin x y σ) (f_X9_bin x y) := by
    intro k hk h1 h2
    refine ⟨k + 2, 0, σ, h1, Or.inr (by rcases hk with rfl | rfl <;> decide), fun J => ⟨0, sS (sJ σ J) 39 3 (nI (k + 1)), ?_, by rw [sS_s]; rcases hk with rfl | rfl <;> rfl, (fun h => by cases h), rfl, Inv.s3 (σ := sJ σ J) hI0⟩⟩
    rw [h2]
    unfold b_X9_bin_34
    rw [nx_e, sS_s, if_neg (nI_nle (by omega) (by omega))]
  have hgive : ∀ v : Int32, f_X8_bin x y σ = some (0, v, σ) → (∀ J, f_X9_bin x y (sJ σ J) = some (v, sS (sJ σ J) 39 3 0)) → OpX [2, 3] (f_X8_bin x y σ) (f_X9_bin x y) := fun v h1 h2 => ⟨0, v, σ, h1, Or.inl rfl, fun J => ⟨v, sS (sJ σ J) 39 3 0, h2 J, by rw [sS_s]; rfl, (fun _ => rfl), rfl, Inv.s3 (σ := sJ σ J) hI0⟩⟩
  obtain ⟨sd, s1, s2, s3⟩ := hS
  have hB : ∃ B : Nat, B ≤ 16 ∧ (sd = true → σ.1 19 8 = nI B) ∧ (sd = true → σ.1 39 20 = nI B) := by
    cases sd
    · exact ⟨0, by omega, (fun h => by cases h), (fun h => by cases h)⟩
    · obtain ⟨B, W, u, bn, gr, bg, en, rp, sh, d1, d2, d3, d4, d5, d6, -⟩ := s3 rfl
      exact ⟨B, d1, fun _ => d5, fun _ => d6⟩
  obtain ⟨B, B1, B2, B3⟩ := hB
  have hcb := hasBin_e (x := x) s1 c3 B2
  have hmb : ∀ J, f_X9_noBin x (sJ σ J) = some (bI (!hbn x (if sd = true then B else C)), sJ σ J) := fun J => noBin_e (σ := sJ σ J) (x := x) s2 c4 B3
  cases hbx : hbn x (if sd = true then B else C)
  · refine hthrow 0 (Or.inl rfl) ?_ (fun J => ?_)
    · unfold f_X8_bin b_X8_bin_16
      rw [hcb, hbx, bd_s, if_pos (by decide)]
    · unfold f_X9_bin b_X9_bin_18
      rw [hmb, hbx, bd_s, if_neg (by decide)]
      rfl
  · cases hy : isW y 2
    · refine hthrow 0 (Or.inl rfl) ?_ (fun J => ?_)
      · unfold f_X8_bin b_X8_bin_16
        rw [hcb, hbx, bd_s, if_neg (by decide), isWithin_e, bd_s, hy, if_pos (by decide)]
      · unfold f_X9_bin b_X9_bin_18
        rw [hmb, hbx, bd_s, if_pos (by decide)]
        simp only [isW, decide_eq_false_iff_not] at hy
        by_cases h0 : y < 0
        · rw [if_pos h0]; rfl
        · rw [if_neg h0, if_neg (fun h => hy ⟨Int32.not_lt.mp h0, h⟩)]; rfl
    · obtain ⟨j, hj, rfl⟩ := (isW_f (M := 2) (by decide)).mp hy
      have hcu : f_X8_bin x (nI j) σ = (if bI sd = 0 then some (3, (0 : Int32), σ) else (if nI j = 0 then bd (f_X5_readsIn x σ) (fun r21 s22 => some (0, r21, s22)) else (if nI j = (1 : Int32) then bd (f_X5_shortReadsIn x σ) (fun r18 s19 => b_X8_bin_86 r18 s19) else bd (f_X1_groupsIn x σ) (fun r15 s16 => b_X8_bin_86 r15 s16)))) := by
        unfold f_X8_bin
        rw [hcb, hbx, bd_s, if_neg (by decide), isWithin_e, bd_s, hy, if_neg (by decide), isDone_e s1, bd_s]
      have hmu : ∀ J, f_X9_bin x (nI j) (sJ σ J) = (if bI sd = 0 then b_X9_bin_34 x (nI j) 2 (sJ σ J) else b_X9_bin_34 x (nI j) 0 (sJ σ J)) := fun J => by
        unfold f_X9_bin
        rw [hmb, hbx, bd_s, if_pos (by decide), if_neg (nI_pos (by omega)), if_pos (show nI j ≤ (2 : Int32) from nI_le (b := 2) hj (by decide)), show (sJ σ J).1 39 19 = bI sd from s2]
      cases sd
      · refine hthrow 1 (Or.inr rfl) (by rw [hcu, if_pos (by decide)]) (fun J => ?_)
        rw [hmu, if_pos (by decide)]
        rfl
      · rw [if_neg (by decide)] at hcu
        obtain ⟨B', W, u, bn, gr, bg, en, rp, sh, d1, d2, d3, d4, d5, d6, d7, d8, d9, d10, d11, d12, d13, d14⟩ := s3 rfl
        have hBB : B' = B := by
          have := B2 rfl
          rw [d5] at this
          exact (nI_eq (by omega) (by omega)).mp this
        subst hBB
        have hml : ∀ J, f_X9_bin x (nI j) (sJ σ J) = (if nI j = 0 then some (nI (cnt (fun i => decide (bn i = x)) n), sS (sJ σ J) 39 3 0) else (if nI j = 1 then some (nI (cnt (fun i => decide (bn i = x) && sh i) n), sS (sJ σ J) 39 3 0) else f_X9_groupsOf x (sS (sJ σ J) 39 3 0))) := fun J => by
          rw [hmu, if_neg (by decide)]
          unfold b_X9_bin_34
          rw [nx_e, sS_s, if_pos (by decide)]
          exact mbin_loop (σ := sS (sJ σ J) 39 3 0) (n := n) (bn := bn) (sh := sh) r4.1 hn (fun i hi => (d9 i hi).2.1) (fun i hi => (d9 i hi).2.2.2.2.2.2.2.1) FU 0 (by omega) (by simp only [FU]; omega)
        have hj3 : j = 0 ∨ j = 1 ∨ j = 2 := by omega
        rcases hj3 with rfl | rfl | rfl
        · refine hgive (nI (cnt (fun i => decide (bn i = x)) n)) ?_ (fun J => by rw [hml, if_pos (by decide)])
          rw [hcu, if_pos (by decide), readsIn_e d4 hn (fun i hi => (d9 i hi).1), bd_s]
        · refine hgive (nI (cnt (fun i => decide (bn i = x) && sh i) n)) ?_ (fun J => by rw [hml, if_neg (by decide), if_pos (by decide)])
          rw [hcu, if_neg (by decide), if_pos (by decide), shortReadsIn_e d4 hn (fun i hi => (d9 i hi).1) (fun i hi => (d9 i hi).2.2.2.2.2.2.1), bd_s]
          rfl
        · rw [if_neg (by decide), if_neg (by decide)] at hcu
          have hgn : ∀ i, i < n → ¬ ctd bn sh i → gr i = -1 := d12
          rcases hbn_f (by rw [if_pos rfl]; omega) hbx with rfl | ⟨b, hb, rfl⟩
          · refine hgive 0 ?_ (fun J => ?_)
            · rw [hcu, groupsIn_m, bd_s]
              rfl
            · rw [hml, if_neg (by decide), if_neg (by decide)]
              exact groupsOf_e (σ := sS (sJ σ J) 39 3 0) (G := 0) (bn := bn) (gr := gr) r4.1 hn (by omega) (fun i hi => (d9 i hi).2.1) (fun i hi => (d9 i hi).2.2.2.2.2.2.2.2.2.2.1) (fun i hi hb => Or.inl (hgn i hi (fun h => h.1 hb))) (fun q hq => by omega)
          · rw [if_pos rfl] at hb
            obtain ⟨G, g1, g2, g3, g4⟩ := d14 b hb
            refine hgive (nI G) ?_ (fun J => ?_)
            · rw [hcu, groupsIn_in (by omega), bd_s, g2]
              rfl
            · rw [hml, if_neg (by decide), if_neg (by decide)]
              refine groupsOf_e (σ := sS (sJ σ J) 39 3 0) (G := G) (bn := bn) (gr := gr) r4.1 hn (by omega) (fun i hi => (d9 i hi).2.1) (fun i hi => (d9 i hi).2.2.2.2.2.2.2.2.2.2.1) (fun i hi hb => ?_) (fun q hq => ?_)
              · by_cases hc : ctd bn sh i
                · exact Or.inr (g3 i hi hc hb)
                · exact Or.inl (hgn i hi hc)
              · obtain ⟨i, i1, i2, i3, i4⟩ := g4 q hq
                exact ⟨i, i1, i3, i4⟩
end OG
