section NR
variable {σ τ : St}
/-- x is the number of the one code that is near -/
def BinR (C W r : Nat) (c : Nat → Nat → Int32) (f : Nat → Int32) (x : Int32) : Prop := (x = -1 ∧ ∀ j, j < C → r < ds (c j) f W) ∨ ∃ j, j < C ∧ x = nI j ∧ ds (c j) f W ≤ r
theorem BinR.uq {C W r : Nat} {c : Nat → Nat → Int32} {f : Nat → Int32} {x y : Int32} (h : BinR C W r c f x) (g : BinR C W r c f y) (hr : 2 * r < spr c W C) : x = y := by
  rcases h with ⟨rfl, h1⟩ | ⟨i, i1, rfl, i3⟩ <;> rcases g with ⟨rfl, g1⟩ | ⟨j, j1, rfl, j3⟩
  · rfl
  · exact absurd j3 (Nat.not_le.mpr (h1 j j1))
  · exact absurd i3 (Nat.not_le.mpr (g1 i i1))
  · have : i = j := by
      rcases Nat.lt_trichotomy i j with h | h | h
      · have h2 := spr_le (c := c) (W := W) C i j h j1
        have h3 := ds_tri (f := c i) (g := f) (h := c j) W
        rw [ds_comm (f := f) (g := c j) W] at h3
        omega
      · exact h
      · have h2 := spr_le (c := c) (W := W) C j i h i1
        have h3 := ds_tri (f := c j) (g := f) (h := c i) W
        rw [ds_comm (f := f) (g := c i) W] at h3
        omega
    rw [this]
theorem half : ∀ k : Fin 14, (nI k.1 - 1) / 2 = nI ((k.1 - 1) / 2) := by decide
variable {n m : Nat} {st ns lc : Nat → Nat} {nm lt ql : Nat → Nat → Int32} {b : Bool}
theorem near_48 {C W r i : Nat} {c : Nat → Nat → Int32} {f : Nat → Int32} (hC : C ≤ 16) (hW : W ≤ 12) (hr : r < 100) (h2 : τ.1 12 2 = nI C) (h3 : τ.1 12 3 = nI W) (hc : ∀ i, i < C → ∀ k, k < W → τ.2.1 13 (12 * i + k) = c i k) (hrow : RowH τ 14 W f) : ∀ (fu j : Nat), j ≤ C → C < fu + j → (∀ q, q < j → r < ds (c q) f W) → ∃ x, l_X0_nearTo_48 b fu (nI r) (nI j) τ = some (x, τ) ∧ BinR C W r c f x := by
  intro fu
  induction fu with
  | zero => intro j h1 h2; omega
  | succ fu ih =>
    intro j h1 hfu hq
    show ∃ x, b_X0_nearTo_48 b (l_X0_nearTo_48 b fu) (nI r) (nI j) τ = some (x, τ) ∧ _
    unfold b_X0_nearTo_48
    rw [h2]
    by_cases e : j = C
    · subst e
      rw [if_pos (nI_le (Nat.le_refl _) (by omega))]
      exact ⟨-1, rfl, Or.inl ⟨rfl, hq⟩⟩
    · have hd := ds_le (f := c j) (g := f) W
      rw [if_neg (nI_ge (by omega) (by omega)), cdist_e (c := c j) (Or.inr (Or.inr (Or.inr (Or.inl rfl)))) hrow (Nat.le_refl _) h3 (by omega) hW (hc j (by omega)), bd_s, nx_e, nI_1]
      by_cases hlt : r < ds (c j) f W
      · rw [if_pos (nI_lt hlt (by omega))]
        exact ih (j + 1) (by omega) (by omega) (fun q hq1 => by
          by_cases e : q = j
          · subst e; exact hlt
          · exact hq q (by omega))
      · rw [if_neg (nI_nlt (by omega) (by omega))]
        exact ⟨nI j, rfl, Or.inr ⟨j, by omega, rfl, by omega⟩⟩
/-- the class looks for the bin of a read -/
theorem cnear_e {C W i : Nat} {c : Nat → Nat → Int32} (hC : C ≤ 16) (hW : W ≤ 12) (hsp : 0 < spr c W C) (h2 : τ.1 12 2 = nI C) (h3 : τ.1 12 3 = nI W) (h4 : τ.1 12 4 = nI (spr c W C)) (hc : ∀ i, i < C → ∀ k, k < W → τ.2.1 13 (12 * i + k) = c i k) (hR : RdC τ b n m st ns lc nm lt) (hi : i < n) (hlc : W ≤ lc i) : ∃ x τ', f_X0_nearTo b (nI i) τ = some (x, τ') ∧ BinR C W ((spr c W C - 1) / 2) c (lt i) x ∧ FrG τ τ' [14] [] [15] := by
  have hs13 := spr_le13 (c := c) (W := W) C
  have key : ∀ (fu j : Nat) (υ : St), j ≤ W → W < fu + j → RowH υ 14 j (lt i) → FrG τ υ [14] [] [15] → RdC υ b n m st ns lc nm lt → ∃ x τ', l_X0_nearTo_9 b fu (nI i) (nI j) υ = some (x, τ') ∧ BinR C W ((spr c W C - 1) / 2) c (lt i) x ∧ FrG τ τ' [14] [] [15] := by
    intro fu
    induction fu with
    | zero => intro j υ h1 h2; omega
    | succ fu ih =>
      intro j υ h1 hfu hrow hf hRv
      show ∃ x τ', b_X0_nearTo_9 b (l_X0_nearTo_9 b fu) (nI i) (nI j) υ = some (x, τ') ∧ _
      unfold b_X0_nearTo_9
      rw [hf.1 12 (by decide) (by decide), h3, h4]
      by_cases e : j = W
      · subst e
        rw [if_pos (nI_le (Nat.le_refl _) (by omega)), half ⟨spr c j C, by omega⟩, nx_e]
        obtain ⟨x, e1, e2⟩ := near_48 (b := b) (τ := υ) (r := (spr c j C - 1) / 2) (i := i) (c := c) (f := lt i) hC hW (by omega) (by rw [hf.1 12 (by decide) (by decide)]; exact h2) (by rw [hf.1 12 (by decide) (by decide)]; exact h3) (by rw [hf.2.2.1 13 (by decide)]; exact hc) hrow FU 0 (by omega) (by simp only [FU]; omega) (fun q hq => by omega)
        exact ⟨x, υ, e1, e2, hf⟩
      · rw [if_neg (nI_ge (by omega) (by omega)), letterOctet_in hRv hi (by omega : j < lc i), bd_s, add_e (Or.inr (Or.inr (Or.inr (Or.inl rfl)))) hrow.1 (show j < 12 by omega), bd_s, nx_e, nI_1]
        have hrow' := add_row (v := lt i j) (Or.inr (Or.inr (Or.inr (Or.inl rfl)))) hrow (show j < 12 by omega)
        refine ih (j + 1) (rAdd υ 14 j (lt i j)) (by omega) (by omega) (hrow'.cg (fun k hk => ?_)) (hf.tr (FrG.of add_fr rfl)) (hRv.fr (add_fr (σ := υ) (p := 14) (n := j) (v := lt i j)) (by cases b <;> decide) (by cases b <;> decide) (by cases b <;> decide) (by cases b <;> decide) (by cases b <;> decide) (by cases b <;> decide))
        by_cases e : k = j
        · subst e; rw [upd_s]
        · rw [upd_n e]
  unfold f_X0_nearTo
  rw [clear_e, bd_s]
  exact key FU 0 (sS τ 14 1 0) (by omega) (by simp only [FU]; omega) clear_row ((frg_oS (by decide)).mono rfl) (hR.fr (Fr.sS (σ := τ) (p := 14) (j := 1) (v := 0)) (by cases b <;> decide) (by cases b <;> decide) (by simp) (by simp) (by simp) (by simp))
/-- the model looks for the bin of a read -/
theorem mbin_38 {K : Int32 → Int32 → Int32 → Int32 → St → Option Rs} {W r i j : Nat} {c : Nat → Int32} {x4 : Int32} (hW : W ≤ 12) (hj : j < 16) (hr : r < 100) (hi : i < n) (hn : n ≤ 60) (h13 : τ.1 39 13 = nI W) (hc : ∀ k, k < W → τ.2.1 46 (12 * j + k) = c k) (hM : MRI τ n ns lc nm lt ql) (hlc : W ≤ lc i) : ∀ (fu k : Nat), k ≤ W → W < fu + k → l_X9_binOf_38 K fu (nI i) (nI r) x4 (nI j) (nI (ds c (lt i) k)) (nI k) τ = (if r < ds c (lt i) W then K (nI i) (nI r) x4 (nI (j + 1)) τ else K (nI i) (nI r) (nI j) (nI (j + 1)) τ) := by
  intro fu
  induction fu with
  | zero => intro k h1 h2; omega
  | succ fu ih =>
    intro k h1 h2
    show b_X9_binOf_38 K (l_X9_binOf_38 K fu) (nI i) (nI r) x4 (nI j) (nI (ds c (lt i) k)) (nI k) τ = _
    unfold b_X9_binOf_38 b_X9_binOf_104 b_X9_binOf_82
    have hd0 := ds_le (f := c) (g := lt i) k
    rw [h13]
    by_cases e : k = W
    · subst e
      rw [if_pos (nI_le (Nat.le_refl _) (by omega))]
      simp only [nx_e, nI_1]
      by_cases h : r < ds c (lt i) k
      · rw [if_pos (nI_lt h (by omega)), if_pos h]
      · rw [if_neg (nI_nlt (by omega) (by omega)), if_neg h]
    · have hd := ih (k + 1) (by omega) (by omega)
      simp only [nx_e]
      rw [if_neg (nI_ge (by omega) (by omega)), show (12 : Int32) = nI 12 from rfl, show (120 : Int32) = nI 120 from rfl, pk_mul, pk_mul, nI_add, nI_add, gd_t (inb_n (show 12 * j + k < ln 46 by show 12 * j + k < 192; omega) (by decide)), gd_t (inb_n (show 120 * i + k < ln 44 by show 120 * i + k < 14400; omega) (by decide)), nI_clamp (by omega), nI_clamp (by omega), hc k (by omega), ((hM.2 i hi).2.2.2 k (by omega)).1, nI_1]
      by_cases e2 : c k = lt i k
      · have hs : ds c (lt i) (k + 1) = ds c (lt i) k + 0 := by simp only [ds]; rw [if_pos e2]
        rw [hs] at hd
        rw [if_pos e2, show nI (ds c (lt i) k) + 0 = nI (ds c (lt i) k + 0) from nI_add _ 0]
        exact hd
      · have hs : ds c (lt i) (k + 1) = ds c (lt i) k + 1 := by simp only [ds]; rw [if_neg e2]
        rw [hs] at hd
        rw [if_neg e2, nI_1]
        exact hd
theorem mnear_e {C W r i : Nat} {c : Nat → Nat → Int32} (hC : C ≤ 16) (hW : W ≤ 12) (hr : r < 100) (hi : i < n) (hn : n ≤ 60) (h12 : τ.1 39 12 = nI C) (h13 : τ.1 39 13 = nI W) (hc : ∀ i, i < C → ∀ k, k < W → τ.2.1 46 (12 * i + k) = c i k) (hM : MRI τ n ns lc nm lt ql) (hlc : W ≤ lc i) : ∀ (fu j : Nat) (x : Int32), j ≤ C → C < fu + j → ((x = -1 ∧ ∀ q, q < j → r < ds (c q) (lt i) W) ∨ ∃ q, q < j ∧ x = nI q ∧ ds (c q) (lt i) W ≤ r) → ∃ y, l_X9_binOf_23 fu (nI i) (nI r) x (nI j) τ = some (y, τ) ∧ BinR C W r c (lt i) y := by
  intro fu
  induction fu with
  | zero => intro j x h1 h2; omega
  | succ fu ih =>
    intro j x h1 h2 hx
    show ∃ y, b_X9_binOf_23 (l_X9_binOf_23 fu) (nI i) (nI r) x (nI j) τ = some (y, τ) ∧ _
    unfold b_X9_binOf_23
    rw [h12]
    by_cases e : j = C
    · subst e
      rw [if_pos (nI_le (Nat.le_refl _) (by omega))]
      exact ⟨x, rfl, hx⟩
    · have h38 := mbin_38 (K := l_X9_binOf_23 fu) (c := c j) (x4 := x) hW (by omega : j < 16) hr hi hn h13 (hc j (by omega)) hM hlc FU 0 (by omega) (by simp only [FU]; omega)
      rw [if_neg (nI_ge (by omega) (by omega)), show (0 : Int32) = nI (ds (c j) (lt i) 0) from rfl]
      rw [show nI (ds (c j) (lt i) 0) = nI 0 from rfl] at h38 ⊢
      rw [h38]
      by_cases h : r < ds (c j) (lt i) W
      · rw [if_pos h]
        refine ih (j + 1) x (by omega) (by omega) ?_
        rcases hx with ⟨h3, h4⟩ | ⟨q, q1, q2, q3⟩
        · exact Or.inl ⟨h3, fun q hq => by
            by_cases e : q = j
            · subst e; exact h
            · exact h4 q (by omega)⟩
        · exact Or.inr ⟨q, by omega, q2, q3⟩
      · rw [if_neg h]
        exact ih (j + 1) (nI j) (by omega) (by omega) (Or.inr ⟨j, by omega, rfl, by omega⟩)
end NR
