section AB
def XX (n W u : Nat) (w : Bool) (bn : Nat → Int32) (sh : Nat → Bool) (lt : Nat → Nat → Int32) (b : Nat) : Gx := (n, b, W, u, w, bn, sh, lt)
def bno (bn : Nat → Int32) (i : Nat) : Nat := (bn i).toNatClampNeg
/-- the groups when the first k bins are done -/
def grf (n W u : Nat) (bn : Nat → Int32) (sh : Nat → Bool) (lt : Nat → Nat → Int32) (F : Nat → (Nat → Int32) × Nat) (k i : Nat) : Int32 := if i < n ∧ ctd bn sh i ∧ bno bn i < k then (F (bno bn i)).1 (rpf bn sh lt W u i) else -1
variable {n C W u : Nat} {w : Bool} {bn : Nat → Int32} {sh : Nat → Bool} {lt : Nat → Nat → Int32} {F : Nat → (Nat → Int32) × Nat}
theorem bins_all (hX : ∀ b, b < C → GX (XX n W u w bn sh lt b)) : ∃ F : Nat → (Nat → Int32) × Nat, ∀ b, b < C → BO (XX n W u w bn sh lt b) (F b).1 (F b).2 := by
  have h : ∀ b, ∃ y : (Nat → Int32) × Nat, b < C → BO (XX n W u w bn sh lt b) y.1 y.2 := fun b => by
    by_cases hb : b < C
    · obtain ⟨gF, qF, h⟩ := bin_one (hX b hb)
      exact ⟨(gF, qF), fun _ => h⟩
    · exact ⟨(fun _ => 0, 0), fun h => absurd h hb⟩
  obtain ⟨F, hF⟩ := Classical.axiomOfChoice h
  exact ⟨F, hF⟩
theorem grf_st {k : Nat} (hC : C ≤ 16) (hbn : ∀ i, i < n → ctd bn sh i → ∃ b, b < C ∧ bn i = nI b) (hk : k < C) (i : Nat) : grf n W u bn sh lt F (k + 1) i = (if It (XX n W u w bn sh lt k) i then (F k).1 (rp (XX n W u w bn sh lt k) i) else grf n W u bn sh lt F k i) := by
  unfold grf
  by_cases hc : i < n ∧ ctd bn sh i
  · obtain ⟨b, b1, b2⟩ := hbn i hc.1 hc.2
    have hb : bno bn i = b := by unfold bno; rw [b2, nI_clamp (by omega)]
    by_cases e : b = k
    · subst e
      rw [if_pos ⟨hc.1, hc.2, by omega⟩, if_pos (show It (XX n W u w bn sh lt b) i from ⟨hc.1, hc.2, b2⟩), hb]
      rfl
    · rw [if_neg (show ¬ It (XX n W u w bn sh lt k) i from fun h => e ((nI_eq (by omega) (by omega)).mp (b2.symm.trans h.2.2)))]
      by_cases h1 : b < k
      · rw [if_pos ⟨hc.1, hc.2, by omega⟩, if_pos ⟨hc.1, hc.2, by omega⟩]
      · rw [if_neg (fun h => by have := h.2.2; omega), if_neg (fun h => by have := h.2.2; omega)]
  · rw [if_neg (fun h => hc ⟨h.1, h.2.1⟩), if_neg (show ¬ It (XX n W u w bn sh lt k) i from fun h => hc ⟨h.1, h.2.1⟩), if_neg (fun h => hc ⟨h.1, h.2.1⟩)]
theorem grf_open {k i : Nat} (hk : k < C) (hC : C ≤ 16) (h : It (XX n W u w bn sh lt k) i) : grf n W u bn sh lt F k i = -1 := by
  unfold grf
  have hb : bno bn i = k := by
    unfold bno
    rw [show bn i = nI k from h.2.2, nI_clamp (by omega)]
  rw [if_neg (fun h => by have := h.2.2; omega)]
/-- the class: all bins -/
theorem fin_2 (hF : ∀ b, b < C → BO (XX n W u w bn sh lt b) (F b).1 (F b).2) (hC : C ≤ 16) (hbn : ∀ i, i < n → ctd bn sh i → ∃ b, b < C ∧ bn i = nI b) (hn : n ≤ 60) : ∀ (fu k : Nat) (τ : St), k ≤ C → C < fu + k → τ.1 19 8 = nI C → GS (XX n W u w bn sh lt 0) τ → (∀ i, i < 60 → τ.2.1 30 i = grf n W u bn sh lt F k i) → (∀ b, b < 16 → τ.2.1 32 b = (if b < k then nI (F b).2 else 0)) → ∃ τ', l_X5_finish_2 fu (nI k) τ = some (0, τ') ∧ τ'.1 19 6 = 1 ∧ (∀ j, j ≠ 6 → τ'.1 19 j = τ.1 19 j) ∧ (∀ i, i < 60 → τ'.2.1 30 i = grf n W u bn sh lt F C i) ∧ (∀ b, b < C → τ'.2.1 32 b = nI (F b).2) ∧ FrG τ τ' [19] [] [30, 31, 32] := by
  intro fu
  induction fu with
  | zero => intro k τ h1 h2; omega
  | succ fu ih =>
    intro k τ h1 h2 h8 hS h30 h32
    show ∃ τ', b_X5_finish_2 (l_X5_finish_2 fu) (nI k) τ = some (0, τ') ∧ _
    unfold b_X5_finish_2
    simp only [nx_e]
    rw [h8]
    by_cases e : k = C
    · subst e
      rw [if_pos (nI_le (Nat.le_refl _) (by omega)), gz_1]
      refine ⟨sS τ 19 6 1, rfl, sS_s, fun j hj => sS_j hj, h30, fun b hb => ?_, (frg_oS (by decide)).mono rfl⟩
      show τ.2.1 32 b = _
      rw [h32 b (by omega), if_pos hb]
    · have hk : k < C := by omega
      obtain ⟨-, -, -, c4, -⟩ := hF k hk
      rw [if_neg (nI_ge hk (by omega))]
      obtain ⟨τ1, a1, a2, a3, a4, a5⟩ := c4 τ hS (fun i hi => by rw [h30 i (by have := hi.1; have : gN (XX n W u w bn sh lt k) = n := rfl; omega)]; exact grf_open hk hC hi) (by
        show τ.2.1 32 k = 0
        rw [h32 k (by omega), if_neg (Nat.lt_irrefl _)])
      have a1' : f_X1_formGroups (nI k) τ = some (0, τ1) := a1
      rw [a1', bd_s, nI_1]
      have f8 : τ1.1 19 = τ.1 19 := (a5.off (show offL [] [] [30, 31, 32] [19] [] [] = true from rfl)).1 19 (by decide)
      obtain ⟨τ2, b1, b2, b3, b4, b5, b6⟩ := ih (k + 1) τ1 (by omega) (by omega) (by rw [f8]; exact h8) (hS.fr a5 rfl) (fun i hi => by
        rw [a2 i hi, grf_st hC hbn hk i (w := w), h30 i hi]) (fun b hb => by
        by_cases e2 : b = k
        · subst e2
          rw [if_pos (by omega)]
          exact a3
        · rw [show τ1.2.1 32 b = τ.2.1 32 b from a4 b e2, h32 b hb]
          by_cases h9 : b < k
          · rw [if_pos h9, if_pos (show b < k + 1 by omega)]
          · rw [if_neg h9, if_neg (show ¬ b < k + 1 by omega)])
      exact ⟨τ2, b1, b2, fun j hj => by rw [b3 j hj, f8], b4, b5, (a5.mono rfl).tr b6⟩
/-- the model: all bins -/
theorem mfin {x4 : Int32} (hF : ∀ b, b < C → BO (XX n W u w bn sh lt b) (F b).1 (F b).2) (hC : C ≤ 16) (hbn : ∀ i, i < n → ctd bn sh i → ∃ b, b < C ∧ bn i = nI b) (hn : n ≤ 60) : ∀ (fu k : Nat) (τ : St), k ≤ C → C < fu + k → τ.1 39 20 = nI C → (∀ b, b < C → MX (XX n W u w bn sh lt b) τ) → (∀ i, i < n → τ.2.1 52 i = grf n W u bn sh lt F k i) → ∃ τ', l_X9_sort_243 fu (bI w) x4 (nI k) τ = some (x4, τ') ∧ (∀ i, i < n → τ'.2.1 52 i = grf n W u bn sh lt F C i) ∧ FrG τ τ' [] [] [52] := by
  intro fu
  induction fu with
  | zero => intro k τ h1 h2; omega
  | succ fu ih =>
    intro k τ h1 h2 h20 hM h52
    show ∃ τ', b_X9_sort_243 (l_X9_sort_243 fu) (bI w) x4 (nI k) τ = some (x4, τ') ∧ _
    unfold b_X9_sort_243
    simp only [nx_e]
    rw [h20]
    by_cases e : k = C
    · subst e
      rw [if_pos (nI_le (Nat.le_refl _) (by omega))]
      exact ⟨τ, rfl, h52, FrG.rf⟩
    · have hk : k < C := by omega
      obtain ⟨-, -, -, -, c5⟩ := hF k hk
      rw [if_neg (nI_ge hk (by omega))]
      obtain ⟨τ1, a1, a2, a3⟩ := c5 τ (hM k hk) (fun i hi => by rw [h52 i hi.1]; exact grf_open hk hC hi)
      have a1' : f_X9_groupAll (nI k) (bI w) τ = some (0, τ1) := a1
      rw [a1', bd_s, nI_1]
      obtain ⟨τ2, b1, b2, b3⟩ := ih (k + 1) τ1 (by omega) (by omega) (by rw [a3.2.1 20 (by simp)]; exact h20) (fun b hb => (hM b hb).fr a3 rfl) (fun i hi => by
        rw [a2 i hi, grf_st hC hbn hk i (w := w), h52 i hi])
      exact ⟨τ2, b1, b2, a3.tr b3⟩
end AB
