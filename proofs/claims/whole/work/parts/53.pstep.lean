section PS
/-- how far a text is read: state, reads begun, line size; name sizes, letter counts, names, letters, qualities -/
abbrev PS : Type := Nat × Nat × Nat × (Nat → Nat) × (Nat → Nat) × (Nat → Nat → Int32) × (Nat → Nat → Int32) × (Nat → Nat → Int32)
def mk (fm : Nat) : Int32 := if fm = 0 then 64 else 62
def pmark (fm : Nat) (x : Int32) (P : PS) : Nat × PS := match P with
  | (_, n, _, ns, lc, nm, lt, ql) => if x = mk fm then (if n < 60 then (0, (1, n + 1, 0, va_up ns n 0, va_up lc n 0, nm, lt, ql)) else (4, P)) else (2, P)
def pstep (fm : Nat) (x : Int32) (P : PS) : Nat × PS := match P with
  | (s, n, l, ns, lc, nm, lt, ql) =>
    if s = 0 then pmark fm x P
    else if s = 1 then (if x = 10 ∧ 0 < ns (n - 1) then (0, (2, n, 0, ns, lc, nm, lt, ql)) else if isSg x = false then (2, P) else if ns (n - 1) < 40 then (0, (1, n, l, va_up ns (n - 1) (ns (n - 1) + 1), lc, up2 nm (n - 1) (ns (n - 1)) x, lt, ql)) else (3, P))
    else if s = 2 then (if x = 10 ∧ 0 < l then (0, (if fm = 0 then 3 else 2, n, 0, ns, lc, nm, lt, ql)) else if fm = 1 ∧ x = 62 ∧ l = 0 ∧ 0 < lc (n - 1) then pmark fm x P else if isL x = false then (2, P) else if lc (n - 1) < 120 then (0, (2, n, l + 1, ns, va_up lc (n - 1) (lc (n - 1) + 1), nm, up2 lt (n - 1) (lc (n - 1)) x, up2 ql (n - 1) (lc (n - 1)) 40)) else (3, P))
    else if s = 3 then (if x = 43 then (0, (4, n, 0, ns, lc, nm, lt, ql)) else (2, P))
    else if s = 4 then (if x = 10 ∧ (l = 0 ∨ l = ns (n - 1)) then (0, (5, n, 0, ns, lc, nm, lt, ql)) else if l < ns (n - 1) ∧ x = nm (n - 1) l then (0, (4, n, l + 1, ns, lc, nm, lt, ql)) else (2, P))
    else (if l < lc (n - 1) then (if isSg x = false then (2, P) else (0, (5, n, l + 1, ns, lc, nm, lt, up2 ql (n - 1) l (x - 33)))) else if x = 10 then (0, (0, n, 0, ns, lc, nm, lt, ql)) else (2, P))
/-- how many qualities of the last read are there -/
def qn (fm s l c : Nat) : Nat := if fm = 0 then (if s = 5 then l else if s = 0 then c else 0) else 0
/-- the draft holds it, where k octets are read -/
def Dr (σ : St) (fm k : Nat) (P : PS) : Prop := match P with
  | (s, n, l, ns, lc, nm, lt, ql) => σ.1 (bs σ.2.2.2.1) 5 = (if fm = 0 then 1 else 0) ∧ ∃ (m : Nat) (st : Nat → Nat), RdC σ σ.2.2.2.1 n m st ns lc nm lt ∧ m ≤ k ∧ (0 < n → m = st (n - 1) + ns (n - 1) + lc (n - 1) + qn fm s l (lc (n - 1))) ∧ (fm = 0 → ∀ i, i < n → (i < n - 1 ∨ s = 0) → st i + ns i + lc i + lc i ≤ m ∧ ∀ j, j < lc i → σ.2.1 (bs σ.2.2.2.1 + 2) (st i + ns i + lc i + j) = ql i j + 33) ∧ (fm = 0 → s = 5 → ∀ j, j < l → σ.2.1 (bs σ.2.2.2.1 + 2) (st (n - 1) + ns (n - 1) + lc (n - 1) + j) = ql (n - 1) j + 33)
def PcC (σ : St) (fm k : Nat) (P : PS) : Prop := σ.1 5 1 = nI fm ∧ σ.1 5 2 = nI P.1 ∧ σ.1 5 3 = nI P.2.2.1 ∧ Dr σ fm k P
/-- what holds of it by itself -/
def PvI (fm k : Nat) (P : PS) : Prop := match P with
  | (s, n, l, ns, lc, nm, lt, ql) => s ≤ 5 ∧ n ≤ 60 ∧ l ≤ k ∧ (s ≠ 0 → 0 < n) ∧ (fm = 1 → s ≤ 2 ∧ (s = 0 → n = 0)) ∧ (s = 1 → lc (n - 1) = 0) ∧ (s = 5 → l ≤ lc (n - 1)) ∧ (s = 2 → l ≤ lc (n - 1) ∧ (fm = 0 → l = lc (n - 1))) ∧ (∀ i, i < n → ns i ≤ 40 ∧ lc i ≤ 120 ∧ (∀ j, j < ns i → isSg (nm i j) = true) ∧ (∀ j, j < lc i → isL (lt i j) = true) ∧ (fm = 1 → ∀ j, j < lc i → ql i j = 40)) ∧ (∀ i, i < n → (i < n - 1 ∨ s ≠ 1) → 0 < ns i) ∧ (∀ i, i < n → (i < n - 1 ∨ s = 0 ∨ 2 < s) → 0 < lc i) ∧ (fm = 0 → ∀ i, i < n → (i < n - 1 ∨ s = 0) → ∀ j, j < lc i → ∃ q : Nat, q ≤ 93 ∧ ql i j = nI q) ∧ (fm = 0 → s = 5 → ∀ j, j < l → ∃ q : Nat, q ≤ 93 ∧ ql (n - 1) j = nI q)
theorem isSg_of {x : Int32} (h : isSg x = true) : ∃ q : Nat, q ≤ 93 ∧ x - 33 = nI q ∧ x = nI (q + 33) := by
  have h1 : 33 ≤ x ∧ x ≤ 126 := by simpa [isSg] using h
  obtain ⟨j, hj, rfl⟩ := nI_of2 (M := 126) (n := 126) (by decide) (Int32.not_lt.mpr (Int32.le_trans (by decide) h1.1)) h1.2
  have h2 : 33 ≤ j := (nI_leI (a := 33) (b := j) (by decide) (by omega)).mp h1.1
  refine ⟨j - 33, by omega, ?_, by rw [Nat.sub_add_cancel h2]⟩
  exact pk_sub (a := j) (b := 33) h2
theorem pmark_v {fm k : Nat} {x : Int32} {P : PS} (h : PvI fm k P) (hs : P.1 = 0 ∨ (fm = 1 ∧ P.1 = 2 ∧ P.2.2.1 = 0 ∧ 0 < P.2.2.2.2.1 (P.2.1 - 1))) (hz : (pmark fm x P).1 = 0) : PvI fm (k + 1) (pmark fm x P).2 := by
  obtain ⟨s, n, l, ns, lc, nm, lt, ql⟩ := P
  obtain ⟨a1, a2, a3, a4, a5, a6, a7, a8, a9, a10, a11, a12, a13⟩ := h
  simp only [pmark] at hz ⊢
  split at hz <;> try (simp at hz; done)
  rename_i hx
  split at hz <;> try (simp at hz; done)
  rename_i hn
  rw [if_pos hx, if_pos hn]
  simp only at hs
  refine ⟨by omega, by omega, by omega, by omega, fun _ => by omega, fun _ => ?_, fun h => by omega, fun h => by omega, fun i hi => ?_, fun i hi hc => ?_, fun i hi hc => ?_, fun h0 i hi hc j hj => ?_, fun _ h => by omega⟩
  · rw [Nat.add_sub_cancel, upN_s]
  · by_cases e : i = n
    · subst e
      rw [upN_s, upN_s]
      exact ⟨by omega, by omega, fun j hj => by omega, fun j hj => by omega, fun _ j hj => by omega⟩
    · rw [upN_n e, upN_n e]
      exact a9 i (by omega)
  · have e : i ≠ n := by omega
    rw [upN_n e]
    exact a10 i (by omega) (by omega)
  · have e : i ≠ n := by omega
    rw [upN_n e]
    by_cases e2 : i < n - 1
    · exact a11 i (by omega) (by omega)
    · rcases hs with hs | hs
      · exact a11 i (by omega) (by omega)
      · rw [show i = n - 1 by omega]
        exact hs.2.2.2
  · have e : i ≠ n := by omega
    rw [upN_n e] at hj
    rcases hs with hs | hs
    · exact a12 h0 i (by omega) (by omega) j hj
    · omega
theorem pstep_v {fm k : Nat} {x : Int32} {P : PS} (hfm : fm = 0 ∨ fm = 1) (h : PvI fm k P) (hz : (pstep fm x P).1 = 0) : PvI fm (k + 1) (pstep fm x P).2 := by
  have hh := h
  obtain ⟨s, n, l, ns, lc, nm, lt, ql⟩ := P
  obtain ⟨a1, a2, a3, a4, a5, a6, a7, a8, a9, a10, a11, a12, a13⟩ := h
  simp only [pstep] at hz ⊢
  by_cases h0 : s = 0
  · rw [if_pos h0] at hz ⊢
    exact pmark_v hh (Or.inl h0) hz
  rw [if_neg h0] at hz ⊢
  have hn := a4 h0
  by_cases h1 : s = 1
  · rw [if_pos h1] at hz ⊢
    subst h1
    split at hz
    · rename_i hc
      rw [if_pos hc]
      refine ⟨by omega, a2, by omega, by omega, fun _ => by omega, fun h => by omega, fun h => by omega, fun _ => ⟨by omega, fun _ => (a6 rfl).symm⟩, a9, fun i hi hd => ?_, fun i hi hd => a11 i hi (by omega), fun h i hi hd => a12 h i hi (by omega), fun _ h => by omega⟩
      by_cases e : i < n - 1
      · exact a10 i hi (Or.inl e)
      · rw [show i = n - 1 by omega]
        exact hc.2
    · rename_i hc
      rw [if_neg hc]
      split at hz <;> try (simp at hz; done)
      rename_i hg
      split at hz <;> try (simp at hz; done)
      rename_i h40
      rw [if_neg hg, if_pos h40]
      refine ⟨by omega, a2, by omega, by omega, fun _ => by omega, a6, fun h => by omega, fun h => by omega, fun i hi => ?_, fun i hi hd => ?_, fun i hi hd => a11 i hi (by omega), fun h i hi hd => a12 h i hi (by omega), fun _ h => by omega⟩
      · obtain ⟨b1, b2, b3, b4, b5⟩ := a9 i hi
        by_cases e : i = n - 1
        · subst e
          rw [upN_s]
          refine ⟨by omega, b2, fun j hj => ?_, b4, b5⟩
          by_cases e2 : j = ns (n - 1)
          · subst e2
            rw [up2_s]
            simpa using hg
          · rw [up2_k e2]
            exact b3 j (by omega)
        · rw [upN_n e, up2_i e]
          exact ⟨b1, b2, b3, b4, b5⟩
      · by_cases e : i = n - 1
        · omega
        · rw [upN_n e]
          exact a10 i hi (by omega)
  rw [if_neg h1] at hz ⊢
  by_cases h2 : s = 2
  · rw [if_pos h2] at hz ⊢
    subst h2
    split at hz
    · rename_i hc
      rw [if_pos hc]
      have a8' := a8 rfl
      rcases hfm with hf | hf
      · subst hf
        simp only [if_true]
        refine ⟨by omega, a2, by omega, by omega, fun h => by omega, fun h => by omega, fun h => by omega, fun h => by omega, a9, fun i hi hd => a10 i hi (by omega), fun i hi hd => ?_, fun h i hi hd => a12 h i hi (by omega), fun _ h => by omega⟩
        by_cases e : i < n - 1
        · exact a11 i hi (by omega)
        · rw [show i = n - 1 by omega]; omega
      · subst hf
        simp only [if_neg (by decide : ¬ (1 : Nat) = 0)]
        exact ⟨by omega, a2, by omega, by omega, fun h => by omega, fun h => by omega, fun h => by omega, fun _ => ⟨by omega, fun h => by omega⟩, a9, fun i hi hd => a10 i hi (by omega), fun i hi hd => a11 i hi (by omega), fun h i hi hd => a12 h i hi (by omega), fun _ h => by omega⟩
    · rename_i hc
      rw [if_neg hc]
      split at hz
      · rename_i hm
        rw [if_pos hm]
        exact pmark_v hh (Or.inr ⟨hm.1, rfl, hm.2.2⟩) hz
      · rename_i hm
        rw [if_neg hm]
        split at hz <;> try (simp at hz; done)
        rename_i hg
        split at hz <;> try (simp at hz; done)
        rename_i h40
        rw [if_neg hg, if_pos h40]
        have a8' := a8 rfl
        refine ⟨by omega, a2, by omega, by omega, fun _ => by omega, fun h => by omega, fun h => by omega, fun _ => ⟨by rw [upN_s]; omega, fun h => by rw [upN_s, a8'.2 h]⟩, fun i hi => ?_, fun i hi hd => a10 i hi (by omega), fun i hi hd => ?_, fun h i hi hd j hj => ?_, fun _ h => by omega⟩
        · obtain ⟨b1, b2, b3, b4, b5⟩ := a9 i hi
          by_cases e : i = n - 1
          · subst e
            rw [upN_s]
            refine ⟨b1, by omega, b3, fun j hj => ?_, fun hf j hj => ?_⟩
            · by_cases e2 : j = lc (n - 1)
              · subst e2
                rw [up2_s]
                simpa using hg
              · rw [up2_k e2]
                exact b4 j (by omega)
            · by_cases e2 : j = lc (n - 1)
              · subst e2
                rw [up2_s]
              · rw [up2_k e2]
                exact b5 hf j (by omega)
          · rw [upN_n e, up2_i e, up2_i e]
            exact ⟨b1, b2, b3, b4, b5⟩
        · have e : i ≠ n - 1 := by omega
          rw [upN_n e]
          exact a11 i hi (by omega)
        · have e : i ≠ n - 1 := by omega
          rw [upN_n e] at hj
          rw [up2_i e]
          exact a12 h i hi (by omega) j hj
  rw [if_neg h2] at hz ⊢
  have hf0 : fm = 0 := by
    rcases hfm with h | h
    · exact h
    · exact absurd (a5 h).1 (by omega)
  by_cases h3 : s = 3
  · rw [if_pos h3] at hz ⊢
    subst h3
    split at hz <;> try (simp at hz; done)
    rename_i hc
    rw [if_pos hc]
    exact ⟨by omega, a2, by omega, by omega, fun h => by omega, fun h => by omega, fun h => by omega, fun h => by omega, a9, fun i hi hd => a10 i hi (by omega), fun i hi hd => a11 i hi (by omega), fun h i hi hd => a12 h i hi (by omega), fun _ h => by omega⟩
  rw [if_neg h3] at hz ⊢
  by_cases h4 : s = 4
  · rw [if_pos h4] at hz ⊢
    subst h4
    split at hz
    · rename_i hc
      rw [if_pos hc]
      exact ⟨by omega, a2, by omega, by omega, fun h => by omega, fun h => by omega, fun h => by omega, fun h => by omega, a9, fun i hi hd => a10 i hi (by omega), fun i hi hd => a11 i hi (by omega), fun h i hi hd => a12 h i hi (by omega), fun _ _ j hj => by omega⟩
    · rename_i hc
      rw [if_neg hc]
      split at hz <;> try (simp at hz; done)
      rename_i hd
      rw [if_pos hd]
      exact ⟨by omega, a2, by omega, by omega, fun h => by omega, fun h => by omega, fun h => by omega, fun h => by omega, a9, fun i hi hd => a10 i hi (by omega), fun i hi hd => a11 i hi (by omega), fun h i hi hd => a12 h i hi (by omega), fun _ h => by omega⟩
  rw [if_neg h4] at hz ⊢
  have h5 : s = 5 := by omega
  subst h5
  split at hz
  · rename_i hc
    rw [if_pos hc]
    split at hz <;> try (simp at hz; done)
    rename_i hg
    rw [if_neg hg]
    refine ⟨by omega, a2, by omega, by omega, fun h => by omega, fun h => by omega, fun _ => by omega, fun h => by omega, fun i hi => ?_, fun i hi hd => a10 i hi (by omega), fun i hi hd => a11 i hi (by omega), fun h i hi hd j hj => ?_, fun h _ j hj => ?_⟩
    · obtain ⟨b1, b2, b3, b4, b5⟩ := a9 i hi
      exact ⟨b1, b2, b3, b4, fun h => by omega⟩
    · have e : i ≠ n - 1 := by omega
      rw [up2_i e]
      exact a12 h i hi (by omega) j hj
    · by_cases e : j = l
      · subst e
        rw [up2_s]
        obtain ⟨q, q1, q2, -⟩ := isSg_of (x := x) (by simpa using hg)
        exact ⟨q, q1, q2⟩
      · rw [up2_k e]
        exact a13 h rfl j (by omega)
  · rename_i hc
    rw [if_neg hc]
    split at hz <;> try (simp at hz; done)
    rename_i hx
    rw [if_pos hx]
    have a7' := a7 rfl
    refine ⟨by omega, a2, by omega, by omega, fun h => by omega, fun h => by omega, fun h => by omega, fun h => by omega, a9, fun i hi hd => a10 i hi (by omega), fun i hi hd => a11 i hi (by omega), fun h i hi hd j hj => ?_, fun _ h => by omega⟩
    by_cases e : i < n - 1
    · exact a12 h i hi (Or.inl e) j hj
    · have e : i = n - 1 := by omega
      subst e
      exact a13 h rfl j (by omega)
end PS
