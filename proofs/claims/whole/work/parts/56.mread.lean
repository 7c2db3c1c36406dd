section MR
/-- what reading may change of the model: its own four numbers, the second half of its rows of reads -/
def FrR (σ σ' : St) : Prop := (∀ q, q ≠ 39 → σ'.1 q = σ.1 q) ∧ (∀ j, j ≠ 2 → j ≠ 10 → j ≠ 31 → j ≠ 32 → σ'.1 39 j = σ.1 39 j) ∧ (∀ q, q ≠ 41 → q ≠ 42 → q ≠ 43 → q ≠ 44 → q ≠ 45 → σ'.2.1 q = σ.2.1 q) ∧ (∀ k, k < 60 → σ'.2.1 41 k = σ.2.1 41 k ∧ σ'.2.1 43 k = σ.2.1 43 k) ∧ (∀ k, k < 2400 → σ'.2.1 42 k = σ.2.1 42 k) ∧ (∀ k, k < 7200 → σ'.2.1 44 k = σ.2.1 44 k ∧ σ'.2.1 45 k = σ.2.1 45 k) ∧ σ'.2.2 = σ.2.2
theorem FrR.rf {σ : St} : FrR σ σ := ⟨fun _ _ => rfl, fun _ _ _ _ _ => rfl, fun _ _ _ _ _ _ => rfl, fun _ _ => ⟨rfl, rfl⟩, fun _ _ => rfl, fun _ _ => ⟨rfl, rfl⟩, rfl⟩
theorem FrR.tr {σ σ1 σ2 : St} (h : FrR σ σ1) (g : FrR σ1 σ2) : FrR σ σ2 := by
  obtain ⟨a1, a2, a3, a4, a5, a6, a7⟩ := h
  obtain ⟨b1, b2, b3, b4, b5, b6, b7⟩ := g
  exact ⟨fun q h => (b1 q h).trans (a1 q h), fun j h1 h2 h3 h4 => (b2 j h1 h2 h3 h4).trans (a2 j h1 h2 h3 h4), fun q h1 h2 h3 h4 h5 => (b3 q h1 h2 h3 h4 h5).trans (a3 q h1 h2 h3 h4 h5), fun k h => ⟨(b4 k h).1.trans (a4 k h).1, (b4 k h).2.trans (a4 k h).2⟩, fun k h => (b5 k h).trans (a5 k h), fun k h => ⟨(b6 k h).1.trans (a6 k h).1, (b6 k h).2.trans (a6 k h).2⟩, b7.trans a7⟩
theorem FrR.s {σ : St} {j : Nat} {v : Int32} (hj : j = 2 ∨ j = 10 ∨ j = 31 ∨ j = 32) : FrR σ (sS σ 39 j v) := ⟨fun q h => sS_p h, fun i h1 h2 h3 h4 => sS_j (by omega), fun _ _ _ _ _ _ => rfl, fun _ _ => ⟨rfl, rfl⟩, fun _ _ => rfl, fun _ _ => ⟨rfl, rfl⟩, rfl⟩
theorem FrR.a {σ : St} {q i : Nat} {v : Int32} (hi : i < 2 ^ 31) (hq : (q = 41 ∧ 60 ≤ i) ∨ (q = 43 ∧ 60 ≤ i) ∨ (q = 42 ∧ 2400 ≤ i) ∨ (q = 44 ∧ 7200 ≤ i) ∨ (q = 45 ∧ 7200 ≤ i)) : FrR σ (sA σ q (nI i) v) := by
  have key : ∀ p k : Nat, (p = q → k < i) → (sA σ q (nI i) v).2.1 p k = σ.2.1 p k := by
    intro p k hk
    by_cases e : p = q
    · subst e
      rw [sA_s hi, upd_n (by have := hk rfl; omega)]
    · rw [sA_q e]
  refine ⟨fun _ _ => rfl, fun _ _ _ _ _ => rfl, fun p h1 h2 h3 h4 h5 => sA_q (by omega), fun k hk => ⟨key _ _ (by omega), key _ _ (by omega)⟩, fun k hk => key _ _ (by omega), fun k hk => ⟨key _ _ (by omega), key _ _ (by omega)⟩, rfl⟩
/-- the model reads: the text, where it stands, reads that are whole (t 6000 stands for the place of the last fault) -/
def MS (σ : St) (N : Nat) (t : Nat → Int32) (at_ hand : Nat) : Prop := σ.1 39 1 = nI N ∧ (∀ k, k < N → σ.2.1 40 k = t k) ∧ σ.1 39 31 = nI at_ ∧ σ.1 39 10 = nI hand ∧ at_ ≤ N ∧ N ≤ 6000 ∧ hand ≤ 60 ∧ σ.1 39 2 = t 6000
/-- and what it has of them -/
def MRd (σ : St) (n : Nat) (ns lc : Nat → Nat) (nm lt ql : Nat → Nat → Int32) : Prop := ∀ i, i < n → (∀ k, k < ns i → σ.2.1 42 (40 * (60 + i) + k) = nm i k) ∧ σ.2.1 43 (60 + i) = nI (lc i) ∧ (∀ k, k < lc i → σ.2.1 44 (120 * (60 + i) + k) = lt i k) ∧ (∀ k, k < lc i → σ.2.1 45 (120 * (60 + i) + k) = ql i k)
def MNs (σ : St) (n : Nat) (ns : Nat → Nat) : Prop := ∀ i, i < n → σ.2.1 41 (60 + i) = nI (ns i)
theorem MS.s31 {σ : St} {N at_ hand a : Nat} {t : Nat → Int32} (h : MS σ N t at_ hand) (ha : a ≤ N) : MS (sS σ 39 31 (nI a)) N t a hand := ⟨by rw [sS_j (by decide)]; exact h.1, h.2.1, sS_s, by rw [sS_j (by decide)]; exact h.2.2.2.1, ha, h.2.2.2.2.2.1, h.2.2.2.2.2.2.1, by rw [sS_j (by decide)]; exact h.2.2.2.2.2.2.2⟩
theorem MS.a {σ : St} {N at_ hand q : Nat} {i v : Int32} {t : Nat → Int32} (h : MS σ N t at_ hand) (hq : q ≠ 40) : MS (sA σ q i v) N t at_ hand := ⟨h.1, fun k hk => by rw [sA_q (Ne.symm hq)]; exact h.2.1 k hk, h.2.2.1, h.2.2.2.1, h.2.2.2.2.1, h.2.2.2.2.2.1, h.2.2.2.2.2.2⟩
variable {σ : St} {N at_ hand fm : Nat} {t : Nat → Int32}
theorem look_in (h : MS σ N t at_ hand) (ha : at_ < N) : f_X9_look σ = some (t at_, σ) := by
  obtain ⟨h1, h2, h3, h4, h5, h6, h7⟩ := h
  unfold f_X9_look b_X9_look_24
  rw [h1, h3, if_neg (nI_ge ha (by omega)), gd_t (inb_n (show at_ < ln 40 by show at_ < 6000; omega) (by decide)), nI_clamp (by omega), h2 _ ha]
theorem look_out (h : MS σ N t N hand) : f_X9_look σ = some (-1, σ) := by
  obtain ⟨h1, h2, h3, h4, h5, h6, h7⟩ := h
  unfold f_X9_look b_X9_look_24
  rw [h1, h3, if_pos (nI_le (Nat.le_refl _) (by omega))]
/-- a fault is booked -/
def Flt (σ : St) (fm : Nat) (t : Nat → Int32) (N : Nat) : Prop := ∃ f pl : Nat, f ≠ 0 ∧ PRes fm t N f pl ∧ σ.1 39 32 = nI f ∧ σ.1 39 2 = nI pl
/-- what a piece of the model's reading does: a fault is booked, or G -/
def LO (σ : St) (fm : Nat) (t : Nat → Int32) (N : Nat) (G9 : St → Prop) (o : Option Rs) : Prop := ∃ (σ' : St) (g : Bool), o = some (bI g, σ') ∧ FrR σ σ' ∧ (g = false → Flt σ' fm t N) ∧ (g = true → G9 σ')
theorem LO.gz {G9 : St → Prop} {o : Option Rs} (h : LO σ fm t N G9 o) : LO σ fm t N G9 (bd o (fun r s => gz r (some (r, s)))) := by
  obtain ⟨σ', g, e, h1, h2, h3⟩ := h
  refine ⟨σ', g, ?_, h1, h2, h3⟩
  rw [e, bd_s, gz_b]
theorem faulty_e {f pl : Nat} {G9 : St → Prop} (h3 : σ.1 39 31 = nI pl) (hf : f ≠ 0) (hp : PRes fm t N f pl) : LO σ fm t N G9 (f_X9_faulty (nI f) σ) := by
  refine ⟨sS (sS σ 39 32 (nI f)) 39 2 (nI pl), false, ?_, (FrR.s (by omega)).tr (FrR.s (by omega)), fun _ => ⟨f, pl, hf, hp, by rw [sS_j (by decide), sS_s], sS_s⟩, fun h => by cases h⟩
  unfold f_X9_faulty
  rw [nx_e, nx_e, sS_j (by decide), h3, gz_0]
  rfl
theorem flt_at {f : Nat} (ha : at_ < N) (hz : ∀ j, j < at_ → pf fm t j = 0) (hf : pf fm t at_ = f) (h0 : f ≠ 0) : PRes fm t N f at_ := Or.inl ⟨at_, ha, hz, hf, h0, rfl⟩
theorem flt_end (hz : ∀ j, j < N → pf fm t j = 0) (hw : pwh fm (psAt fm t N) = false) : PRes fm t N 1 N := Or.inr ⟨hz, rfl, by rw [hw]; rfl⟩
/-- must(c): the octet c, or a fault -/
theorem must_e {c : Int32} {G9 : St → Prop} (h : MS σ N t at_ hand) (hz : ∀ j, j < at_ → pf fm t j = 0) (h1 : at_ = N → pwh fm (psAt fm t N) = false) (h2 : at_ < N → t at_ ≠ c → pf fm t at_ = 2) (hg : at_ < N → t at_ = c → G9 (sS σ 39 31 (nI (at_ + 1)))) : LO σ fm t N G9 (f_X9_must c σ) := by
  have hh := h
  obtain ⟨b1, b2, b3, b4, b5, b6, b7⟩ := h
  unfold f_X9_must
  rw [b3, b1]
  by_cases e : at_ = N
  · subst e
    rw [if_pos rfl]
    exact (faulty_e (f := 1) b3 (by decide) (flt_end hz (h1 rfl))).gz
  · have ha : at_ < N := by omega
    rw [if_neg (fun h => e ((nI_eq (by omega) (by omega)).mp h)), look_in hh ha, bd_s]
    by_cases hc : t at_ = c
    · rw [if_pos hc, nx_e, b3, nI_1, gz_1]
      exact ⟨_, true, rfl, FrR.s (by omega), (fun h => by cases h), fun _ => hg ha hc⟩
    · rw [if_neg hc]
      exact (faulty_e (f := 2) b3 (by decide) (flt_at ha hz (h2 ha hc) (by decide))).gz
theorem LO.bd {G9 G8 : St → Prop} {o : Option Rs} {k : Int32 → St → Option Rs} (h : LO σ fm t N G9 o) (h0 : ∀ σ', Flt σ' fm t N → k 0 σ' = some (0, σ')) (h1 : ∀ σ', FrR σ σ' → G9 σ' → LO σ' fm t N G8 (k 1 σ')) : LO σ fm t N G8 (bd o k) := by
  obtain ⟨σ', g, e, f1, f2, f3⟩ := h
  rw [e, bd_s]
  cases g
  · exact ⟨σ', false, h0 σ' (f2 rfl), f1, f2, fun h => by cases h⟩
  · obtain ⟨σ2, g2, e2, f4, f5, f6⟩ := h1 σ' f1 (f3 rfl)
    exact ⟨σ2, g2, e2, f1.tr f4, f5, f6⟩
theorem LO.mono {G9 G8 : St → Prop} {o : Option Rs} (h : LO σ fm t N G9 o) (hm : ∀ σ', G9 σ' → G8 σ') : LO σ fm t N G8 o := by
  obtain ⟨σ', g, e, f1, f2, f3⟩ := h
  exact ⟨σ', g, e, f1, f2, fun hg => hm _ (f3 hg)⟩
theorem LO.fr {σ0 : St} {G9 : St → Prop} {o : Option Rs} (h : LO σ fm t N G9 o) (hf : FrR σ0 σ) : LO σ0 fm t N G9 o := by
  obtain ⟨σ', g, e, f1, f2, f3⟩ := h
  exact ⟨σ', g, e, hf.tr f1, f2, f3⟩
theorem letterOf_e {x : Int32} : f_X9_letterOf x σ = some (if isL x = true then x else -1, σ) := by
  unfold f_X9_letterOf b_X9_letterOf_30 b_X9_letterOf_35 isL isB
  by_cases h1 : x = 65
  · simp [h1]
  · by_cases h2 : x = 67
    · simp [h2]
    · by_cases h3 : x = 71
      · simp [h3]
      · by_cases h4 : x = 78
        · simp [h4]
        · by_cases h5 : x = 84
          · simp [h5]
          · simp [h1, h2, h3, h4, h5]
theorem isL_pos {x : Int32} (h : isL x = true) : ¬ x ≤ 0 := by
  simp only [isL, isB, Bool.or_eq_true, beq_iff_eq] at h
  rcases h with (((rfl | rfl) | rfl) | rfl) | rfl <;> decide
end MR
