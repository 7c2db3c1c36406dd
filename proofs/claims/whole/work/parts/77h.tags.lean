section TG
/-- a bin's grouping: reads, bin, where tags begin, their size, the way; bins, short ones, letters -/
abbrev Gx : Type := Nat × Nat × Nat × Nat × Bool × (Nat → Int32) × (Nat → Bool) × (Nat → Nat → Int32)
def gN (X : Gx) : Nat := X.1
def gV (X : Gx) : Nat := X.2.1
def gW (X : Gx) : Nat := X.2.2.1
def gU (X : Gx) : Nat := X.2.2.2.1
def gw (X : Gx) : Bool := X.2.2.2.2.1
def gB (X : Gx) : Nat → Int32 := X.2.2.2.2.2.1
def gS (X : Gx) : Nat → Bool := X.2.2.2.2.2.2.1
def gL (X : Gx) : Nat → Nat → Int32 := X.2.2.2.2.2.2.2
abbrev It (X : Gx) (i : Nat) : Prop := i < gN X ∧ ctd (gB X) (gS X) i ∧ gB X i = nI (gV X)
def gT (X : Gx) (i : Nat) : Nat → Int32 := fun k => gL X i (gW X + k)
def gD (X : Gx) (i j : Nat) : Nat := ds (gT X i) (gT X j) (gU X)
def rp (X : Gx) (i : Nat) : Nat := rpf (gB X) (gS X) (gL X) (gW X) (gU X) i
abbrev Rp (X : Gx) (i : Nat) : Prop := It X i ∧ rp X i = i
def cn (X : Gx) (r : Nat) : Nat := cnt (fun j => decide (ctd (gB X) (gS X) j) && decide (rp X j = r)) (gN X)
variable {X : Gx} {i j k : Nat}
theorem gD_tri : gD X i k ≤ gD X i j + gD X j k := ds_tri _
theorem gD_comm : gD X i j = gD X j i := ds_comm _
theorem gD_self : gD X i i = 0 := (ds_0 _).mpr (fun _ _ => rfl)
theorem rp_le : rp X i ≤ i := ft_le i
theorem rp_it (h : It X i) : It X (rp X i) ∧ gD X (rp X i) i = 0 := by
  have hl : rp X i ≤ i := rp_le
  by_cases e : rp X i = i
  · rw [e]; exact ⟨h, gD_self⟩
  · have hy : alk (gB X) (gS X) (gL X) (gW X) (gU X) i (rp X i) = true := ft_yes i (by show rp X i < i; omega)
    simp only [alk, Bool.and_eq_true, decide_eq_true_eq] at hy
    exact ⟨⟨by have := h.1; omega, hy.1.1, by rw [hy.1.2]; exact h.2.2⟩, hy.2⟩
theorem rp_no (h : It X i) (hj : It X j) (hlt : j < rp X i) : gD X j i ≠ 0 := by
  intro h0
  have hn : alk (gB X) (gS X) (gL X) (gW X) (gU X) i j = false := ft_no i j hlt
  have : alk (gB X) (gS X) (gL X) (gW X) (gU X) i j = true := by
    simp only [alk, Bool.and_eq_true, decide_eq_true_eq]
    exact ⟨⟨hj.2.1, by rw [hj.2.2, h.2.2]⟩, h0⟩
  rw [hn] at this
  cases this
theorem rp_eq (hi : It X i) (hj : It X j) (h : gD X i j = 0) : rp X i = rp X j := by
  have a := rp_it hi
  have b := rp_it hj
  rcases Nat.lt_trichotomy (rp X i) (rp X j) with hl | hl | hl
  · have h1 := rp_no hj a.1 hl
    have h2 := gD_tri (X := X) (i := rp X i) (j := i) (k := j)
    omega
  · exact hl
  · have h1 := rp_no hi b.1 hl
    have h2 := gD_tri (X := X) (i := rp X j) (j := j) (k := i)
    have h3 := gD_comm (X := X) (i := i) (j := j)
    omega
theorem rp_id (hi : It X i) : rp X (rp X i) = rp X i := rp_eq (rp_it hi).1 hi (rp_it hi).2
theorem rp_D (hi : It X i) (hj : It X j) (h : rp X i = rp X j) : gD X i j = 0 := by
  have a := rp_it hi
  have b := rp_it hj
  rw [← h] at b
  have h2 := gD_tri (X := X) (i := i) (j := rp X i) (k := j)
  have h3 := gD_comm (X := X) (i := i) (j := rp X i)
  omega
theorem rp_Rp (hi : It X i) : Rp X (rp X i) := ⟨(rp_it hi).1, rp_id hi⟩
theorem gD_rp (hi : It X i) : gD X (rp X i) j = gD X i j := by
  have a := rp_it hi
  have h2 := gD_tri (X := X) (i := rp X i) (j := i) (k := j)
  have h3 := gD_tri (X := X) (i := i) (j := rp X i) (k := j)
  have h4 := gD_comm (X := X) (i := i) (j := rp X i)
  omega
theorem gD_rp2 (hi : It X i) (hj : It X j) : gD X (rp X i) (rp X j) = gD X i j := by
  rw [gD_rp hi, gD_comm, gD_rp hj, gD_comm]
theorem cnt_pos {p : Nat → Bool} : ∀ k i, i < k → p i = true → 1 ≤ cnt p k := by
  intro k
  induction k with
  | zero => intro i hi; omega
  | succ k ih =>
    intro i hi hp
    simp only [cnt]
    by_cases e : i = k
    · subst e; rw [if_pos hp]; omega
    · have := ih i (by omega) hp; omega
theorem cn_pos (hi : It X i) : 1 ≤ cn X (rp X i) := cnt_pos _ i hi.1 (by rw [decide_eq_true hi.2.1, decide_eq_true rfl]; rfl)
theorem cn_le {r : Nat} : cn X r ≤ gN X := cnt_le _
/-- how many reads have the tag of i -/
theorem cn_tag (hi : It X i) : cnt (fun j => decide (ctd (gB X) (gS X) j) && decide (gB X j = nI (gV X)) && decide (gD X i j = 0)) (gN X) = cn X (rp X i) := by
  refine cnt_cg _ (fun j hj => ?_)
  by_cases hc : ctd (gB X) (gS X) j
  · rw [decide_eq_true hc, Bool.true_and, Bool.true_and]
    by_cases hb : gB X j = nI (gV X)
    · have hJ : It X j := ⟨hj, hc, hb⟩
      rw [decide_eq_true hb, Bool.true_and]
      by_cases h0 : gD X i j = 0
      · rw [decide_eq_true h0, decide_eq_true (rp_eq hi hJ h0).symm]
      · rw [decide_eq_false h0, decide_eq_false (fun h => h0 (rp_D hi hJ h.symm))]
    · rw [decide_eq_false hb, Bool.false_and, decide_eq_false]
      intro h
      have hl : rp X j ≤ j := rp_le
      have hr := (rp_it hi).1
      rw [← h] at hr
      by_cases e : rp X j = j
      · rw [e] at hr; exact hb hr.2.2
      · have hy : alk (gB X) (gS X) (gL X) (gW X) (gU X) j (rp X j) = true := ft_yes j (by show rp X j < j; omega)
        simp only [alk, Bool.and_eq_true, decide_eq_true_eq] at hy
        exact hb (by rw [← hy.1.2]; exact hr.2.2)
  · rw [decide_eq_false hc, Bool.false_and, Bool.false_and, Bool.false_and]
/-- the order of tags -/
def lx (a b : Nat → Int32) : Nat → Nat → Bool
  | 0, _ => false
  | r + 1, j => if a j = b j then lx a b r (j + 1) else decide (a j < b j)
theorem lx_irr {a : Nat → Int32} : ∀ r j, lx a a r j = false := by
  intro r
  induction r with
  | zero => intro j; rfl
  | succ r ih => intro j; simp only [lx, if_true]; exact ih (j + 1)
theorem lx_tr {a b c : Nat → Int32} : ∀ r j, lx a b r j = true → lx b c r j = true → lx a c r j = true := by
  intro r
  induction r with
  | zero => intro j h; cases h
  | succ r ih =>
    intro j h1 h2
    simp only [lx] at h1 h2 ⊢
    by_cases e1 : a j = b j
    · rw [if_pos e1] at h1
      by_cases e2 : b j = c j
      · rw [if_pos e2] at h2
        rw [if_pos (e1.trans e2)]
        exact ih (j + 1) h1 h2
      · rw [if_neg e2] at h2
        rw [if_neg (fun h => e2 (e1.symm.trans h)), e1]
        exact h2
    · rw [if_neg e1] at h1
      by_cases e2 : b j = c j
      · rw [if_neg (fun h => e1 (h.trans e2.symm)), ← e2]
        exact h1
      · rw [if_neg e2] at h2
        have h3 := Int32.lt_trans (of_decide_eq_true h1) (of_decide_eq_true h2)
        rw [if_neg (fun h => by rw [h] at h3; exact Int32.lt_irrefl h3), decide_eq_true h3]
theorem lx_cg {a b a' b' : Nat → Int32} : ∀ r j, (∀ k, j ≤ k → k < j + r → a k = a' k) → (∀ k, j ≤ k → k < j + r → b k = b' k) → lx a b r j = lx a' b' r j := by
  intro r
  induction r with
  | zero => intro j _ _; rfl
  | succ r ih =>
    intro j h1 h2
    simp only [lx]
    rw [h1 j (by omega) (by omega), h2 j (by omega) (by omega), ih (j + 1) (fun k h3 h4 => h1 k (by omega) (by omega)) (fun k h3 h4 => h2 k (by omega) (by omega))]
/-- i comes before j -/
def bf (X : Gx) (i j : Nat) : Bool := decide (cn X (rp X j) < cn X (rp X i)) || (decide (cn X (rp X i) = cn X (rp X j)) && lx (gT X i) (gT X j) (gU X) 0)
theorem bf_irr : bf X i i = false := by
  simp only [bf, lx_irr, Bool.and_false, Bool.or_false]
  exact decide_eq_false (Nat.lt_irrefl _)
theorem bf_tr (h1 : bf X i j = true) (h2 : bf X j k = true) : bf X i k = true := by
  simp only [bf, Bool.or_eq_true, Bool.and_eq_true, decide_eq_true_eq] at h1 h2 ⊢
  rcases h1 with h1 | ⟨h1, h3⟩ <;> rcases h2 with h2 | ⟨h2, h4⟩
  · exact Or.inl (by omega)
  · exact Or.inl (by omega)
  · exact Or.inl (by omega)
  · exact Or.inr ⟨by omega, lx_tr _ _ h3 h4⟩
theorem bf_rp (hi : It X i) : bf X (rp X i) j = bf X i j := by
  have h0 : ∀ k, k < gU X → gT X (rp X i) k = gT X i k := (ds_0 _).mp (rp_it hi).2
  simp only [bf]
  rw [rp_id hi, lx_cg (gU X) 0 (a' := gT X i) (b' := gT X j) (fun k _ h => h0 k (by omega)) (fun _ _ _ => rfl)]
/-- the seed among the first: the first that is open, or the one before all others -/
def sdf (X : Gx) (g : Nat → Int32) : Nat → Int32
  | 0 => -1
  | k + 1 => if Rp X k ∧ g k = -1 then (if sdf X g k = -1 then nI k else if gw X = true ∧ bf X k (sdf X g k).toNatClampNeg = true then nI k else sdf X g k) else sdf X g k
theorem sdf_v {g : Nat → Int32} : ∀ k, sdf X g k = -1 ∨ ∃ s, s < k ∧ Rp X s ∧ g s = -1 ∧ sdf X g k = nI s := by
  intro k
  induction k with
  | zero => exact Or.inl rfl
  | succ k ih =>
    simp only [sdf]
    by_cases ho : Rp X k ∧ g k = -1
    · rw [if_pos ho]
      split
      · exact Or.inr ⟨k, by omega, ho.1, ho.2, rfl⟩
      · split
        · exact Or.inr ⟨k, by omega, ho.1, ho.2, rfl⟩
        · rcases ih with h | ⟨s, h1, h2, h3, h4⟩
          · exact Or.inl h
          · exact Or.inr ⟨s, by omega, h2, h3, h4⟩
    · rw [if_neg ho]
      rcases ih with h | ⟨s, h1, h2, h3, h4⟩
      · exact Or.inl h
      · exact Or.inr ⟨s, by omega, h2, h3, h4⟩
theorem sdf_b {g : Nat → Int32} (hn : gN X ≤ 60) : ∀ k, k ≤ 60 → ∀ x, x < k → Rp X x → g x = -1 → sdf X g k ≠ -1 ∧ (gw X = true → ∀ s, s < 60 → sdf X g k = nI s → bf X x s = false) := by
  intro k
  induction k with
  | zero => intro _ x hx; omega
  | succ k ih =>
    intro hk x hx hR hg
    simp only [sdf]
    by_cases ho : Rp X k ∧ g k = -1
    · rw [if_pos ho]
      by_cases h1 : sdf X g k = -1
      · rw [if_pos h1]
        have e : x = k := by
          by_cases e : x = k
          · exact e
          · exact absurd h1 (ih (by omega) x (by omega) hR hg).1
        subst e
        refine ⟨nI_m1' (by omega), fun _ s hs hse => ?_⟩
        have := (nI_eq (by omega) (by omega)).mp hse
        subst this
        exact bf_irr
      · rw [if_neg h1]
        obtain ⟨s0, a1, a2, a3, a4⟩ := (sdf_v (X := X) (g := g) k).resolve_left h1
        rw [a4, nI_clamp (by omega)]
        by_cases h2 : gw X = true ∧ bf X k s0 = true
        · rw [if_pos h2]
          refine ⟨nI_m1' (by omega), fun _ s hs hse => ?_⟩
          have := (nI_eq (by omega) (by omega)).mp hse
          subst this
          by_cases e : x = k
          · subst e; exact bf_irr
          · cases h : bf X x k
            · rfl
            · have h3 := (ih (by omega) x (by omega) hR hg).2 h2.1 s0 (by omega) a4
              rw [bf_tr h h2.2] at h3
              cases h3
        · rw [if_neg h2]
          refine ⟨nI_m1' (by omega), fun hw s hs hse => ?_⟩
          by_cases e : x = k
          · have := (nI_eq (by omega) (by omega)).mp hse
            subst this
            subst e
            cases h : bf X x s0
            · rfl
            · exact absurd ⟨hw, h⟩ h2
          · exact (ih (by omega) x (by omega) hR hg).2 hw s hs (by rw [a4]; exact hse)
    · rw [if_neg ho]
      have hxk : x < k := by
        by_cases e : x = k
        · subst e; exact absurd ⟨hR, hg⟩ ho
        · omega
      exact ih (by omega) x hxk hR hg
theorem sdf_n {g : Nat → Int32} : ∀ d, sdf X g (gN X + d) = sdf X g (gN X) := by
  intro d
  induction d with
  | zero => rfl
  | succ d ih =>
    show (if Rp X (gN X + d) ∧ g (gN X + d) = -1 then _ else sdf X g (gN X + d)) = _
    rw [if_neg (fun h => by have := h.1.1.1; omega)]
    exact ih
theorem sdf_60 {g : Nat → Int32} (hn : gN X ≤ 60) : sdf X g 60 = sdf X g (gN X) := by
  have := sdf_n (X := X) (g := g) (60 - gN X)
  rw [show gN X + (60 - gN X) = 60 by omega] at this
  exact this
end TG
