section OH
variable {σ σ' : St} {n : Nat} {bn gr : Nat → Int32} {sh : Nat → Bool}
/-- a member of a group -/
def mb (n : Nat) (bn gr : Nat → Int32) (b q : Int32) (i : Nat) : Bool := decide (i < n) && decide (bn i = b) && decide (gr i = q)
theorem mb_t {b q : Int32} {i : Nat} : mb n bn gr b q i = true ↔ i < n ∧ bn i = b ∧ gr i = q := by
  simp only [mb, Bool.and_eq_true, decide_eq_true_eq, and_assoc]
theorem nI_m1 {k : Nat} (hk : k < 2 ^ 31) : ¬ (-1 : Int32) = nI k := fun h => absurd (show nI k < 0 by rw [← h]; decide) (nI_pos hk)
theorem nI_m1' {k : Nat} (hk : k < 2 ^ 31) : ¬ nI k = (-1 : Int32) := fun h => nI_m1 hk h.symm
/-- what the class's arrays say of members -/
def MbC (σ : St) (n : Nat) (bn gr : Nat → Int32) (sh : Nat → Bool) : Prop := (∀ i, i < n → σ.2.1 27 i = (if ctd bn sh i then bn i else -1) ∧ σ.2.1 30 i = gr i ∧ (¬ ctd bn sh i → gr i = -1)) ∧ (∀ i, n ≤ i → i < 60 → σ.2.1 27 i = -1)
theorem isMember_e {b q i : Nat} (h : MbC σ n bn gr sh) (hi : i < 60) (hb : b < 2 ^ 31) (hq : q < 2 ^ 31) : f_X1_isMember (nI i) (nI b) (nI q) σ = some (bI (mb n bn gr (nI b) (nI q) i), σ) := by
  unfold f_X1_isMember b_X1_isMember_31 b_X1_isMember_32
  rw [isRead_in hi, bd_s, if_neg (by decide), gd_t (inb_n (show i < ln 27 by show i < 60; omega) (by decide)), gd_t (inb_n (show i < ln 30 by show i < 60; omega) (by decide)), nI_clamp (by omega), gz_0, gz_1]
  by_cases hin : i < n
  · obtain ⟨a1, a2, a3⟩ := h.1 i hin
    rw [a1, a2]
    by_cases hc : ctd bn sh i
    · rw [if_pos hc]
      by_cases e1 : bn i = nI b
      · by_cases e2 : gr i = nI q
        · rw [if_pos e1, if_pos e2, mb_t.mpr ⟨hin, e1, e2⟩]
          rfl
        · rw [if_pos e1, if_neg e2, show mb n bn gr (nI b) (nI q) i = false by simp [mb, e2]]
          rfl
      · rw [if_neg e1, show mb n bn gr (nI b) (nI q) i = false by simp [mb, e1]]
        rfl
    · rw [if_neg hc, if_neg (nI_m1 hb), show mb n bn gr (nI b) (nI q) i = false by simp [mb, a3 hc, nI_m1 hq]]
      rfl
  · rw [h.2 i (by omega) hi, if_neg (nI_m1 hb), show mb n bn gr (nI b) (nI q) i = false by simp [mb, hin]]
    rfl
theorem xreadsIn_e {b q : Nat} (h : MbC σ n bn gr sh) (hb : b < 2 ^ 31) (hq : q < 2 ^ 31) (hn : n ≤ 60) : f_X1_readsIn (nI b) (nI q) σ = some (nI (cnt (mb n bn gr (nI b) (nI q)) n), σ) := by
  have key : ∀ (fu k : Nat), k ≤ 60 → 60 < fu + k → l_X1_readsIn_5 fu (nI b) (nI q) (nI (cnt (mb n bn gr (nI b) (nI q)) k)) (nI k) σ = some (nI (cnt (mb n bn gr (nI b) (nI q)) 60), σ) := by
    intro fu
    induction fu with
    | zero => intro k h1 h2; omega
    | succ fu ih =>
      intro k h1 h2
      show b_X1_readsIn_5 (l_X1_readsIn_5 fu) (nI b) (nI q) (nI (cnt (mb n bn gr (nI b) (nI q)) k)) (nI k) σ = _
      unfold b_X1_readsIn_5 b_X1_readsIn_26
      rw [show (60 : Int32) = nI 60 from rfl]
      by_cases e : k = 60
      · subst e
        rw [if_pos (nI_le (Nat.le_refl _) (by omega))]
      · have hd := ih (k + 1) (by omega) (by omega)
        have hs : cnt (mb n bn gr (nI b) (nI q)) (k + 1) = cnt (mb n bn gr (nI b) (nI q)) k + (if mb n bn gr (nI b) (nI q) k = true then 1 else 0) := rfl
        rw [hs] at hd
        rw [if_neg (nI_ge (by omega) (by omega)), isMember_e h (by omega) hb hq, bd_s]
        simp only [nx_e, nI_1]
        cases hm : mb n bn gr (nI b) (nI q) k
        · rw [hm] at hd
          rw [if_pos (by decide)]
          exact hd
        · rw [hm] at hd
          rw [if_neg (by decide)]
          exact hd
  have := key FU 0 (by omega) (by simp only [FU]; omega)
  have e60 : cnt (mb n bn gr (nI b) (nI q)) 60 = cnt (mb n bn gr (nI b) (nI q)) n := by
    have := cnt_ext (p := mb n bn gr (nI b) (nI q)) (n := n) (fun k hk => by simp [mb, show ¬ k < n by omega]) (60 - n)
    rw [show n + (60 - n) = 60 by omega] at this
    exact this
  rw [e60] at this
  exact this
theorem xtagsIn_e {b q : Nat} {tg : Nat → Bool} (h : MbC σ n bn gr sh) (hb : b < 2 ^ 31) (hq : q < 2 ^ 31) (hn : n ≤ 60) (h28 : ∀ i, i < n → mb n bn gr (nI b) (nI q) i = true → (σ.2.1 28 i = nI i ↔ tg i = true)) (h0 : ∀ i, mb n bn gr (nI b) (nI q) i = false → tg i = false) : f_X1_tagsIn (nI b) (nI q) σ = some (nI (cnt tg n), σ) := by
  have key : ∀ (fu k : Nat), k ≤ 60 → 60 < fu + k → l_X1_tagsIn_5 fu (nI b) (nI q) (nI (cnt tg k)) (nI k) σ = some (nI (cnt tg 60), σ) := by
    intro fu
    induction fu with
    | zero => intro k h1 h2; omega
    | succ fu ih =>
      intro k h1 h2
      show b_X1_tagsIn_5 (l_X1_tagsIn_5 fu) (nI b) (nI q) (nI (cnt tg k)) (nI k) σ = _
      unfold b_X1_tagsIn_5 b_X1_tagsIn_38
      rw [show (60 : Int32) = nI 60 from rfl]
      by_cases e : k = 60
      · subst e
        rw [if_pos (nI_le (Nat.le_refl _) (by omega))]
      · have hd := ih (k + 1) (by omega) (by omega)
        have hs : cnt tg (k + 1) = cnt tg k + (if tg k = true then 1 else 0) := rfl
        rw [hs] at hd
        rw [if_neg (nI_ge (by omega) (by omega)), isMember_e h (by omega) hb hq, bd_s]
        simp only [nx_e, nI_1]
        cases hm : mb n bn gr (nI b) (nI q) k
        · rw [h0 k hm] at hd
          rw [if_pos (by decide)]
          exact hd
        · have hkn : k < n := (mb_t.mp hm).1
          rw [if_neg (by decide), gd_t (inb_n (show k < ln 28 by show k < 60; omega) (by decide)), nI_clamp (by omega)]
          by_cases e2 : σ.2.1 28 k = nI k
          · rw [(h28 k hkn hm).mp e2] at hd
            rw [if_pos e2]
            exact hd
          · have : tg k = false := by
              cases h9 : tg k
              · rfl
              · exact absurd ((h28 k hkn hm).mpr h9) e2
            rw [this] at hd
            rw [if_neg e2]
            exact hd
  have := key FU 0 (by omega) (by simp only [FU]; omega)
  have e60 : cnt tg 60 = cnt tg n := by
    have := cnt_ext (p := tg) (n := n) (fun k hk => h0 k (by simp [mb, show ¬ k < n by omega])) (60 - n)
    rw [show n + (60 - n) = 60 by omega] at this
    exact this
  rw [e60] at this
  exact this
/-- the best member so far, and its worth -/
def bsf (p : Nat → Bool) (w : Nat → Nat) : Nat → Int32 × Int32
  | 0 => (-1, -1)
  | k + 1 => if p k = true ∧ (bsf p w k).2 < nI (w k) then (nI k, nI (w k)) else bsf p w k
theorem bsf_i {p : Nat → Bool} {w : Nat → Nat} : ∀ k, bsf p w k = (-1, -1) ∨ ∃ j, j < k ∧ p j = true ∧ bsf p w k = (nI j, nI (w j)) := by
  intro k
  induction k with
  | zero => exact Or.inl rfl
  | succ k ih =>
    simp only [bsf]
    split
    · rename_i h
      exact Or.inr ⟨k, by omega, h.1, rfl⟩
    · rcases ih with h | ⟨j, h1, h2, h3⟩
      · exact Or.inl h
      · exact Or.inr ⟨j, by omega, h2, h3⟩
theorem xbestOf_e {b q : Nat} {w : Nat → Nat} (h : MbC σ n bn gr sh) (hb : b < 2 ^ 31) (hq : q < 2 ^ 31) (hn : n ≤ 60) (h7 : σ.1 19 7 = nI n) (hw : ∀ i, i < n → σ.2.1 23 i = nI (w i) ∧ w i < 2 ^ 31) : f_X5_bestOf (nI b) (nI q) σ = some ((bsf (mb n bn gr (nI b) (nI q)) w n).1, σ) := by
  have key : ∀ (fu k : Nat), k ≤ n → n < fu + k → l_X5_bestOf_5 fu (nI b) (nI q) (bsf (mb n bn gr (nI b) (nI q)) w k).1 (nI k) σ = some ((bsf (mb n bn gr (nI b) (nI q)) w n).1, σ) := by
    intro fu
    induction fu with
    | zero => intro k h1 h2; omega
    | succ fu ih =>
      intro k h1 h2
      show b_X5_bestOf_5 (l_X5_bestOf_5 fu) (nI b) (nI q) (bsf (mb n bn gr (nI b) (nI q)) w k).1 (nI k) σ = _
      unfold b_X5_bestOf_5 b_X5_bestOf_47 b_X5_bestOf_50
      rw [h7]
      by_cases e : k = n
      · subst e
        rw [if_pos (nI_le (Nat.le_refl _) (by omega))]
      · have hd := ih (k + 1) (by omega) (by omega)
        have hs : bsf (mb n bn gr (nI b) (nI q)) w (k + 1) = if mb n bn gr (nI b) (nI q) k = true ∧ (bsf (mb n bn gr (nI b) (nI q)) w k).2 < nI (w k) then (nI k, nI (w k)) else bsf (mb n bn gr (nI b) (nI q)) w k := rfl
        rw [if_neg (nI_ge (by omega) (by omega)), isMember_e h (by omega) hb hq, bd_s]
        simp only [nx_e, nI_1]
        cases hm : mb n bn gr (nI b) (nI q) k
        · rw [hm, if_neg (fun h => by cases h.1)] at hs
          rw [hs] at hd
          rw [if_pos (by decide)]
          exact hd
        · rw [if_neg (by decide)]
          rw [hm] at hs
          rcases bsf_i (p := mb n bn gr (nI b) (nI q)) (w := w) k with h0 | ⟨j, j1, j2, j3⟩
          · rw [h0, if_pos ⟨rfl, Int32.lt_of_lt_of_le (by decide) (nI_pos' (hw k (by omega)).2)⟩] at hs
            rw [hs] at hd
            rw [h0, if_pos rfl]
            exact hd
          · rw [j3] at hs ⊢
            rw [if_neg (nI_m1' (by omega)), worthOf_in h7 hn (by omega : k < n), bd_s, worthOf_in h7 hn (by omega : j < n), bd_s, (hw k (by omega)).1, (hw j (by omega)).1]
            by_cases hlt : w j < w k
            · rw [if_pos ⟨rfl, nI_lt hlt (hw k (by omega)).2⟩] at hs
              rw [hs] at hd
              rw [if_neg (nI_ge hlt (hw k (by omega)).2)]
              exact hd
            · rw [if_neg (fun h => nI_nlt (by omega) (hw j (by omega)).2 h.2)] at hs
              rw [hs] at hd
              rw [if_pos (nI_le (by omega) (hw j (by omega)).2)]
              exact hd
  exact key FU 0 (by omega) (by simp only [FU]; omega)
theorem smq_le {f : Nat → Int32} {a : Nat} : ∀ k, (∀ j, j < k → ∃ q : Nat, q ≤ 93 ∧ f (a + j) = nI q) → smq f a k ≤ 93 * k := by
  intro k
  induction k with
  | zero => intro _; exact Nat.le_refl _
  | succ k ih =>
    intro h
    simp only [smq]
    obtain ⟨q, q1, q2⟩ := h k (by omega)
    have := ih (fun j hj => h j (by omega))
    rw [q2, nI_clamp (by omega)]
    omega
theorem msum_loop {K : Int32 → Int32 → Int32 → Int32 → Int32 → St → Option Rs} {b q x3 x4 : Int32} {i a e : Nat} {f : Nat → Int32} (hi : i < 60) (he : e ≤ 120) (h50 : σ.2.1 50 i = nI e) (h45 : ∀ k, k < e → σ.2.1 45 (120 * i + k) = f k) (hf : ∀ k, k < e → ∃ q : Nat, q ≤ 93 ∧ f k = nI q) : ∀ (fu j : Nat), a + j ≤ e → e < fu + (a + j) → l_X9_bestOf_51 K fu b q x3 x4 (nI i) (nI (smq f a j)) (nI (a + j)) σ = (if nI (smq f a (e - a)) ≤ x4 then K b q x3 x4 (nI (i + 1)) σ else K b q (nI i) (nI (smq f a (e - a))) (nI (i + 1)) σ) := by
  intro fu
  induction fu with
  | zero => intro j h1 h2; omega
  | succ fu ih =>
    intro j h1 h2
    show b_X9_bestOf_51 K (l_X9_bestOf_51 K fu) b q x3 x4 (nI i) (nI (smq f a j)) (nI (a + j)) σ = _
    unfold b_X9_bestOf_51 b_X9_bestOf_100 b_X9_bestOf_115 b_X9_bestOf_117
    rw [gd_t (inb_n (show i < ln 50 by show i < 60; omega) (by decide)), nI_clamp (by omega), h50]
    simp only [nx_e]
    by_cases e1 : a + j = e
    · rw [if_pos (nI_le (by omega) (by omega)), nI_1, show e - a = j by omega]
      by_cases h9 : nI (smq f a j) ≤ x4
      · simp only [if_pos h9]
      · simp only [if_neg h9]
    · rw [if_neg (nI_ge (by omega) (by omega)), show (120 : Int32) = nI 120 from rfl, pk_mul, nI_add, gd_t (inb_n (show 120 * i + (a + j) < ln 45 by show 120 * i + (a + j) < 14400; omega) (by decide)), nI_clamp (by omega), h45 _ (by omega), nI_1]
      obtain ⟨v, v1, v2⟩ := hf (a + j) (by omega)
      have hd := ih (j + 1) (by omega) (by omega)
      have hs : smq f a (j + 1) = smq f a j + v := by
        simp only [smq]
        rw [v2, nI_clamp (by omega)]
      rw [hs] at hd
      rw [v2, nI_add]
      exact hd
theorem mbestOf_e {b q : Int32} {bg en : Nat → Nat} {ql : Nat → Nat → Int32} (hn : n ≤ 60) (h9 : σ.1 39 9 = nI n) (h48 : ∀ i, i < n → σ.2.1 48 i = bn i) (h52 : ∀ i, i < n → σ.2.1 52 i = gr i) (h49 : ∀ i, i < n → σ.2.1 49 i = nI (bg i)) (h50 : ∀ i, i < n → σ.2.1 50 i = nI (en i)) (hbe : ∀ i, i < n → bg i ≤ en i ∧ en i ≤ 120) (h45 : ∀ i, i < n → ∀ k, k < en i → σ.2.1 45 (120 * i + k) = ql i k) (hq : ∀ i, i < n → ∀ k, k < en i → ∃ q : Nat, q ≤ 93 ∧ ql i k = nI q) : f_X9_bestOf b q σ = some ((bsf (mb n bn gr b q) (fun i => smq (ql i) (bg i) (en i - bg i)) n).1, σ) := by
  have key : ∀ (fu k : Nat), k ≤ n → n < fu + k → l_X9_bestOf_8 fu b q (bsf (mb n bn gr b q) (fun i => smq (ql i) (bg i) (en i - bg i)) k).1 (bsf (mb n bn gr b q) (fun i => smq (ql i) (bg i) (en i - bg i)) k).2 (nI k) σ = some ((bsf (mb n bn gr b q) (fun i => smq (ql i) (bg i) (en i - bg i)) n).1, σ) := by
    intro fu
    induction fu with
    | zero => intro k h1 h2; omega
    | succ fu ih =>
      intro k h1 h2
      show b_X9_bestOf_8 (l_X9_bestOf_8 fu) b q (bsf (mb n bn gr b q) (fun i => smq (ql i) (bg i) (en i - bg i)) k).1 (bsf (mb n bn gr b q) (fun i => smq (ql i) (bg i) (en i - bg i)) k).2 (nI k) σ = _
      unfold b_X9_bestOf_8 b_X9_bestOf_117
      rw [h9]
      by_cases e : k = n
      · subst e
        rw [if_pos (nI_le (Nat.le_refl _) (by omega))]
      · have hd := ih (k + 1) (by omega) (by omega)
        have hs : bsf (mb n bn gr b q) (fun i => smq (ql i) (bg i) (en i - bg i)) (k + 1) = if mb n bn gr b q k = true ∧ (bsf (mb n bn gr b q) (fun i => smq (ql i) (bg i) (en i - bg i)) k).2 < nI (smq (ql k) (bg k) (en k - bg k)) then (nI k, nI (smq (ql k) (bg k) (en k - bg k))) else bsf (mb n bn gr b q) (fun i => smq (ql i) (bg i) (en i - bg i)) k := rfl
        simp only [nx_e]
        rw [if_neg (nI_ge (by omega) (by omega)), gd_t (inb_n (show k < ln 48 by show k < 60; omega) (by decide)), gd_t (inb_n (show k < ln 52 by show k < 60; omega) (by decide)), gd_t (inb_n (show k < ln 49 by show k < 60; omega) (by decide)), nI_clamp (by omega), h48 k (by omega), h52 k (by omega), h49 k (by omega), nI_1]
        have hbk := hbe k (by omega)
        have hlp := msum_loop (K := l_X9_bestOf_8 fu) (b := b) (q := q) (x3 := (bsf (mb n bn gr b q) (fun i => smq (ql i) (bg i) (en i - bg i)) k).1) (x4 := (bsf (mb n bn gr b q) (fun i => smq (ql i) (bg i) (en i - bg i)) k).2) (a := bg k) (by omega : k < 60) hbk.2 (h50 k (by omega)) (h45 k (by omega)) (hq k (by omega)) FU 0 (by omega) (by simp only [FU]; omega)
        by_cases e1 : bn k = b
        · by_cases e2 : gr k = q
          · rw [if_pos e1, if_pos e2]
            refine hlp.trans ?_
            rw [mb_t.mpr ⟨by omega, e1, e2⟩] at hs
            by_cases h9 : nI (smq (ql k) (bg k) (en k - bg k)) ≤ (bsf (mb n bn gr b q) (fun i => smq (ql i) (bg i) (en i - bg i)) k).2
            · rw [if_pos h9]
              rw [if_neg (fun h => absurd h.2 (Int32.not_lt.mpr h9))] at hs
              rw [hs] at hd
              exact hd
            · rw [if_neg h9]
              rw [if_pos ⟨rfl, Int32.not_le.mp h9⟩] at hs
              rw [hs] at hd
              exact hd
          · rw [if_pos e1, if_neg e2]
            rw [show mb n bn gr b q k = false by simp [mb, e2], if_neg (fun h => by cases h.1)] at hs
            rw [hs] at hd
            exact hd
        · rw [if_neg e1]
          rw [show mb n bn gr b q k = false by simp [mb, e1], if_neg (fun h => by cases h.1)] at hs
          rw [hs] at hd
          exact hd
  exact key FU 0 (by omega) (by simp only [FU]; omega)
/-- the model's distance of two tags -/
theorem mdist_e {W u i j : Nat} (hi : i < 60) (hj : j < 60) (hW : W ≤ 12) (hu : u ≤ 12) (h33 : σ.1 39 33 = nI W) (h21 : σ.1 39 21 = nI u) : f_X9_distance (nI i) (nI j) σ = some (nI (ds (fun k => σ.2.1 44 (120 * i + W + k)) (fun k => σ.2.1 44 (120 * j + W + k)) u), σ) := by
  have htag : ∀ i k, i < 60 → k < u → f_X9_tagAt (nI i) (nI k) σ = some (σ.2.1 44 (120 * i + W + k), σ) := by
    intro i k hi hk
    unfold f_X9_tagAt
    rw [h33, show (120 : Int32) = nI 120 from rfl, pk_mul, nI_add, nI_add, gd_t (inb_n (show 120 * i + W + k < ln 44 by show 120 * i + W + k < 14400; omega) (by decide)), nI_clamp (by omega)]
  have key : ∀ (fu k : Nat), k ≤ u → u < fu + k → l_X9_distance_5 fu (nI i) (nI j) (nI (ds (fun k => σ.2.1 44 (120 * i + W + k)) (fun k => σ.2.1 44 (120 * j + W + k)) k)) (nI k) σ = some (nI (ds (fun k => σ.2.1 44 (120 * i + W + k)) (fun k => σ.2.1 44 (120 * j + W + k)) u), σ) := by
    intro fu
    induction fu with
    | zero => intro k h1 h2; omega
    | succ fu ih =>
      intro k h1 h2
      show b_X9_distance_5 (l_X9_distance_5 fu) (nI i) (nI j) (nI (ds (fun k => σ.2.1 44 (120 * i + W + k)) (fun k => σ.2.1 44 (120 * j + W + k)) k)) (nI k) σ = _
      unfold b_X9_distance_5 b_X9_distance_37
      rw [h21]
      by_cases e : k = u
      · subst e
        rw [if_pos (nI_le (Nat.le_refl _) (by omega))]
      · have hd := ih (k + 1) (by omega) (by omega)
        simp only [nx_e]
        rw [if_neg (nI_ge (by omega) (by omega)), htag i k hi (by omega), bd_s, htag j k hj (by omega), bd_s, nI_1]
        by_cases e2 : σ.2.1 44 (120 * i + W + k) = σ.2.1 44 (120 * j + W + k)
        · have hs : ds (fun k => σ.2.1 44 (120 * i + W + k)) (fun k => σ.2.1 44 (120 * j + W + k)) (k + 1) = ds (fun k => σ.2.1 44 (120 * i + W + k)) (fun k => σ.2.1 44 (120 * j + W + k)) k + 0 := by simp only [ds]; rw [if_pos e2]
          rw [hs] at hd
          rw [if_pos e2, show nI (ds (fun k => σ.2.1 44 (120 * i + W + k)) (fun k => σ.2.1 44 (120 * j + W + k)) k) + 0 = nI (ds (fun k => σ.2.1 44 (120 * i + W + k)) (fun k => σ.2.1 44 (120 * j + W + k)) k + 0) from nI_add _ 0]
          exact hd
        · have hs : ds (fun k => σ.2.1 44 (120 * i + W + k)) (fun k => σ.2.1 44 (120 * j + W + k)) (k + 1) = ds (fun k => σ.2.1 44 (120 * i + W + k)) (fun k => σ.2.1 44 (120 * j + W + k)) k + 1 := by simp only [ds]; rw [if_neg e2]
          rw [hs] at hd
          rw [if_neg e2, nI_1]
          exact hd
  exact key FU 0 (by omega) (by simp only [FU]; omega)
/-- no earlier member has this tag -/
def tgB (n : Nat) (bn gr : Nat → Int32) (b q : Int32) (D : Nat → Nat → Nat) (i : Nat) : Bool := mb n bn gr b q i && nf (fun j => mb n bn gr b q j && decide (D i j = 0)) i
theorem mgroup_122 {K : Int32 → Int32 → Int32 → Int32 → Int32 → St → Option Rs} {b q x4 : Int32} {W u i : Nat} {g : Bool} (hn : n ≤ 60) (hi : i < n) (hW : W ≤ 12) (hu : u ≤ 12) (h33 : σ.1 39 33 = nI W) (h21 : σ.1 39 21 = nI u) (h48 : ∀ i, i < n → σ.2.1 48 i = bn i) (h52 : ∀ i, i < n → σ.2.1 52 i = gr i) : ∀ (fu j : Nat), j ≤ i → i < fu + j → l_X9_group_122 K fu b q 2 x4 (nI i) (bI (g && nf (fun j => mb n bn gr b q j && decide (ds (fun k => σ.2.1 44 (120 * i + W + k)) (fun k => σ.2.1 44 (120 * j + W + k)) u = 0)) j)) (nI j) σ = b_X9_group_183 K b q 2 x4 (nI i) (bI (g && nf (fun j => mb n bn gr b q j && decide (ds (fun k => σ.2.1 44 (120 * i + W + k)) (fun k => σ.2.1 44 (120 * j + W + k)) u = 0)) i)) σ := by
  intro fu
  induction fu with
  | zero => intro j h1 h2; omega
  | succ fu ih =>
    intro j h1 h2
    generalize hp : (fun j => mb n bn gr b q j && decide (ds (fun k => σ.2.1 44 (120 * i + W + k)) (fun k => σ.2.1 44 (120 * j + W + k)) u = 0)) = p at ih ⊢
    show b_X9_group_122 K (l_X9_group_122 K fu) b q 2 x4 (nI i) (bI (g && nf p j)) (nI j) σ = _
    unfold b_X9_group_122 b_X9_group_169 b_X9_group_174
    by_cases e : j = i
    · subst e
      rw [if_pos (nI_le (Nat.le_refl _) (by omega))]
    · have hd := ih (j + 1) (by omega) (by omega)
      have hs : nf p (j + 1) = (nf p j && !p j) := rfl
      have hpj : p j = (mb n bn gr b q j && decide (ds (fun k => σ.2.1 44 (120 * i + W + k)) (fun k => σ.2.1 44 (120 * j + W + k)) u = 0)) := by rw [← hp]
      have hfin : ∀ a : Bool, p j = a → l_X9_group_122 K fu b q 2 x4 (nI i) (bI (g && nf p j) &&& bI (!a)) (nI (j + 1)) σ = b_X9_group_183 K b q 2 x4 (nI i) (bI (g && nf p i)) σ := by
        intro a ha
        rw [bI_and, Bool.and_assoc, ← ha, ← hs]
        exact hd
      simp only [nx_e]
      rw [if_neg (nI_ge (by omega) (by omega)), if_pos trivial, gd_t (inb_n (show j < ln 48 by show j < 60; omega) (by decide)), gd_t (inb_n (show j < ln 52 by show j < 60; omega) (by decide)), nI_clamp (by omega), h48 j (by omega), h52 j (by omega), nI_1, mdist_e (by omega) (by omega) hW hu h33 h21, bd_s]
      by_cases e1 : bn j = b
      · by_cases e2 : gr j = q
        · rw [if_pos e1, if_pos e2]
          by_cases e3 : ds (fun k => σ.2.1 44 (120 * i + W + k)) (fun k => σ.2.1 44 (120 * j + W + k)) u = 0
          · rw [if_pos (by rw [e3]; rfl)]
            exact hfin true (by rw [hpj, mb_t.mpr ⟨by omega, e1, e2⟩, decide_eq_true e3]; rfl)
          · have := ds_le (f := fun k => σ.2.1 44 (120 * i + W + k)) (g := fun k => σ.2.1 44 (120 * j + W + k)) u
            rw [if_neg (nI_ne0 (by omega) (by omega))]
            exact hfin false (by rw [hpj, decide_eq_false e3, Bool.and_false])
        · rw [if_pos e1, if_neg e2]
          exact hfin false (by rw [hpj, show mb n bn gr b q j = false by simp [mb, e2], Bool.false_and])
      · rw [if_neg e1]
        exact hfin false (by rw [hpj, show mb n bn gr b q j = false by simp [mb, e1], Bool.false_and])
theorem mgroup_81 {b q y : Int32} {W u : Nat} (hn : n ≤ 60) (hW : W ≤ 12) (hu : u ≤ 12) (h9 : σ.1 39 9 = nI n) (h33 : σ.1 39 33 = nI W) (h21 : σ.1 39 21 = nI u) (h48 : ∀ i, i < n → σ.2.1 48 i = bn i) (h52 : ∀ i, i < n → σ.2.1 52 i = gr i) (P : Nat → Bool) (hP : (y ≠ 2 ∧ P = mb n bn gr b q) ∨ (y = 2 ∧ P = tgB n bn gr b q (fun i j => ds (fun k => σ.2.1 44 (120 * i + W + k)) (fun k => σ.2.1 44 (120 * j + W + k)) u))) : ∀ (fu k : Nat), k ≤ n → n < fu + k → l_X9_group_81 fu b q y (nI (cnt P k)) (nI k) σ = some (nI (cnt P n), σ) := by
  intro fu
  induction fu with
  | zero => intro k h1 h2; omega
  | succ fu ih =>
    intro k h1 h2
    show b_X9_group_81 (l_X9_group_81 fu) b q y (nI (cnt P k)) (nI k) σ = _
    unfold b_X9_group_81 b_X9_group_116 b_X9_group_117
    rw [h9]
    by_cases e : k = n
    · subst e
      rw [if_pos (nI_le (Nat.le_refl _) (by omega))]
    · have hd := ih (k + 1) (by omega) (by omega)
      have hs : cnt P (k + 1) = cnt P k + (if P k = true then 1 else 0) := rfl
      rw [hs, ← bI_add] at hd
      have h183 : ∀ a : Bool, P k = a → b_X9_group_183 (l_X9_group_81 fu) b q y (nI (cnt P k)) (nI k) (bI a) σ = some (nI (cnt P n), σ) := by
        intro a ha
        unfold b_X9_group_183 b_X9_group_195
        simp only [nx_e, nI_1 k]
        rw [ha] at hd
        cases a
        · rw [if_pos (by decide)]; exact hd
        · rw [if_neg (by decide)]; exact hd
      have hstart : ∀ a : Bool, mb n bn gr b q k = a → l_X9_group_122 (l_X9_group_81 fu) FU b q y (nI (cnt P k)) (nI k) (bI a) 0 σ = some (nI (cnt P n), σ) := by
        intro a ha
        rcases hP with ⟨hy, hP⟩ | ⟨rfl, hP⟩
        · show b_X9_group_122 (l_X9_group_81 fu) (l_X9_group_122 (l_X9_group_81 fu) 19999) b q y (nI (cnt P k)) (nI k) (bI a) 0 σ = _
          unfold b_X9_group_122
          rw [if_neg hy]
          have := h183 a (by rw [hP, ha])
          rw [this]
          split <;> rfl
        · have h122 := mgroup_122 (K := l_X9_group_81 fu) (b := b) (q := q) (x4 := nI (cnt P k)) (g := a) hn (by omega : k < n) hW hu h33 h21 h48 h52 FU 0 (by omega) (by simp only [FU]; omega)
          simp only [nf, Bool.and_true] at h122
          refine h122.trans (h183 _ ?_)
          rw [hP, ← ha]
          rfl
      rw [if_neg (nI_ge (by omega) (by omega)), gd_t (inb_n (show k < ln 48 by show k < 60; omega) (by decide)), gd_t (inb_n (show k < ln 52 by show k < 60; omega) (by decide)), nI_clamp (by omega), h48 k (by omega), h52 k (by omega)]
      by_cases e1 : bn k = b
      · by_cases e2 : gr k = q
        · rw [if_pos e1, if_pos e2]
          exact hstart true (mb_t.mpr ⟨by omega, e1, e2⟩)
        · rw [if_pos e1, if_neg e2]
          exact hstart false (by simp [mb, e2])
      · rw [if_neg e1]
        exact hstart false (by simp [mb, e1])
end OH
