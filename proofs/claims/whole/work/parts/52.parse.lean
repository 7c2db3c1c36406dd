section PP
variable {σ : St} {b : Bool} {n m : Nat} {st ns lc : Nat → Nat} {nm lt : Nat → Nat → Int32}
theorem upN_s {α : Type} {f : Nat → α} {k : Nat} {v : α} : va_up f k v k = v := va_up_self f k v
theorem upN_n {α : Type} {f : Nat → α} {k j : Nat} {v : α} (h : j ≠ k) : va_up f k v j = f j := va_up_ne f v h
/-- a place of a table of rows -/
def up2 (f : Nat → Nat → Int32) (i k : Nat) (v : Int32) : Nat → Nat → Int32 := va_up f i (va_up (f i) k v)
theorem up2_s {f : Nat → Nat → Int32} {i k : Nat} {v : Int32} : up2 f i k v i k = v := by simp [up2, va_up_self]
theorem up2_k {f : Nat → Nat → Int32} {i k j : Nat} {v : Int32} (h : j ≠ k) : up2 f i k v i j = f i j := by simp [up2, va_up_self, va_up_ne _ _ h]
theorem up2_i {f : Nat → Nat → Int32} {i k j : Nat} {v : Int32} (h : j ≠ i) : up2 f i k v j = f j := by simp [up2, va_up_ne _ _ h]
abbrev FrD (σ σ' : St) (b : Bool) : Prop := Fr σ σ' [5, bs b, bs b + 1] [bs b + 2, bs b + 3, bs b + 4, bs b + 5]
theorem begin_e (h : RdC σ b n m st ns lc nm lt) (hn : n < 60) : ∃ σ', f_X3_begin b σ = some (0, σ') ∧ RdC σ' b (n + 1) m (va_up st n m) (va_up ns n 0) (va_up lc n 0) nm lt ∧ FrD σ σ' b ∧ σ'.1 5 = σ.1 5 ∧ σ'.1 (bs b) 5 = σ.1 (bs b) 5 ∧ σ'.2.1 (bs b + 2) = σ.2.1 (bs b + 2) := by
  obtain ⟨a1, a2, a3, a4, a5⟩ := h
  obtain ⟨l3, l4, l5, l2⟩ := ln_bs b
  refine ⟨sS (sA (sA (sA σ (bs b + 3) (nI n) (nI m)) (bs b + 4) (nI n) 0) (bs b + 5) (nI n) 0) (bs b) 4 (nI (n + 1)), ?_, ?_, ?_, ?_, ?_, ?_⟩
  · unfold f_X3_begin b_X3_begin_62 f_X4_size
    rw [a1, if_neg (nI_pos (by omega)), show (60 : Int32) = nI 60 from rfl, if_neg (nI_ge hn (by omega)), bd_s, a3, gd_t (inb_n (by omega) (by omega))]
    simp only [nx_e, sA_o, a1]
    rw [gd_t (inb_n (by omega) (by omega)), gd_t (inb_n (by omega) (by omega)), nI_1]
  · refine ⟨sS_s, by omega, by rw [sS_p (by omega)]; exact a3, a4, fun i hi => ?_⟩
    have e3 : (sS (sA (sA (sA σ (bs b + 3) (nI n) (nI m)) (bs b + 4) (nI n) 0) (bs b + 5) (nI n) 0) (bs b) 4 (nI (n + 1))).2.1 (bs b + 3) = upd (σ.2.1 (bs b + 3)) n (nI m) := by
      rw [sS_a, sA_q (by omega), sA_q (by omega), sA_s (by omega)]
    have e4 : (sS (sA (sA (sA σ (bs b + 3) (nI n) (nI m)) (bs b + 4) (nI n) 0) (bs b + 5) (nI n) 0) (bs b) 4 (nI (n + 1))).2.1 (bs b + 4) = upd (σ.2.1 (bs b + 4)) n 0 := by
      rw [sS_a, sA_q (by omega), sA_s (by omega), sA_q (by omega)]
    have e5 : (sS (sA (sA (sA σ (bs b + 3) (nI n) (nI m)) (bs b + 4) (nI n) 0) (bs b + 5) (nI n) 0) (bs b) 4 (nI (n + 1))).2.1 (bs b + 5) = upd (σ.2.1 (bs b + 5)) n 0 := by
      rw [sS_a, sA_s (by omega), sA_q (by omega), sA_q (by omega)]
    have e2 : (sS (sA (sA (sA σ (bs b + 3) (nI n) (nI m)) (bs b + 4) (nI n) 0) (bs b + 5) (nI n) 0) (bs b) 4 (nI (n + 1))).2.1 (bs b + 2) = σ.2.1 (bs b + 2) := by
      rw [sS_a, sA_q (by omega), sA_q (by omega), sA_q (by omega)]
    rw [e2, e3, e4, e5]
    by_cases e : i = n
    · subst e
      rw [upd_s, upd_s, upd_s, upN_s, upN_s, upN_s]
      exact ⟨rfl, rfl, rfl, by omega, fun k hk => absurd hk (Nat.not_lt_zero k), fun k hk => absurd hk (Nat.not_lt_zero k)⟩
    · rw [upd_n e, upd_n e, upd_n e, upN_n e, upN_n e, upN_n e]
      exact a5 i (by omega)
  · refine ⟨fun q hq => ?_, fun q hq => ?_, rfl⟩
    · simp only [List.mem_cons, List.not_mem_nil, or_false, not_or] at hq
      rw [sS_p hq.2.1]
      rfl
    · simp only [List.mem_cons, List.not_mem_nil, or_false, not_or] at hq
      rw [sS_a, sA_q hq.2.2.2, sA_q hq.2.2.1, sA_q hq.2.1]
  · rw [sS_p (by cases b <;> decide)]
    rfl
  · rw [sS_j (by decide)]
    rfl
  · rw [sS_a, sA_q (by omega), sA_q (by omega), sA_q (by omega)]
/-- one octet more -/
theorem addO_e {x : Int32} (h : RdC σ b n m st ns lc nm lt) (hm : m < 6000) : f_X4_add (bs b + 1) x σ = some (0, rAdd σ (bs b + 1) m x) ∧ (rAdd σ (bs b + 1) m x).2.1 (bs b + 2) = upd (σ.2.1 (bs b + 2)) m x ∧ (rAdd σ (bs b + 1) m x).1 (bs b + 1) 1 = nI (m + 1) ∧ Fr σ (rAdd σ (bs b + 1) m x) [bs b + 1] [bs b + 2] := by
  refine ⟨add_e (rw_bs b) h.2.2.1 (by rw [show bs b + 1 + 1 = bs b + 2 from rfl, (ln_bs b).2.2.2]; exact hm), ?_, ?_, add_fr⟩
  · show (rAdd σ (bs b + 1) m x).2.1 (bs b + 1 + 1) = _
    rw [rAdd, sS_a, sA_s (by omega)]
  · rw [rAdd, sS_s]
theorem addQ_e {x : Int32} (h : RdC σ b n m st ns lc nm lt) (hm : m < 6000) : ∃ σ', f_X3_addQuality b x σ = some (0, σ') ∧ RdC σ' b n (m + 1) st ns lc nm lt ∧ FrD σ σ' b ∧ σ'.1 5 = σ.1 5 ∧ σ'.1 (bs b) 5 = σ.1 (bs b) 5 ∧ σ'.2.1 (bs b + 2) = upd (σ.2.1 (bs b + 2)) m x := by
  obtain ⟨f1, f2, f3, f4⟩ := addO_e (x := x) h hm
  obtain ⟨a1, a2, a3, a4, a5⟩ := h
  refine ⟨_, by unfold f_X3_addQuality; rw [f1, bd_s], ?_, f4.mono (by simp) (by simp), f4.1 5 (by cases b <;> decide), by rw [f4.1 (bs b) (by simp)], f2⟩
  refine ⟨by rw [f4.1 (bs b) (by simp)]; exact a1, a2, f3, by omega, fun i hi => ?_⟩
  obtain ⟨b1, b2, b3, b4, b5, b6⟩ := a5 i hi
  rw [f4.2.1 (bs b + 3) (by simp), f4.2.1 (bs b + 4) (by simp), f4.2.1 (bs b + 5) (by simp), f2]
  exact ⟨b1, b2, b3, by omega, fun k hk => by rw [upd_n (by omega)]; exact b5 k hk, fun k hk => by rw [upd_n (by omega)]; exact b6 k hk⟩
theorem addN_e {x : Int32} (h : RdC σ b (n + 1) m st ns lc nm lt) (hm : m < 6000) (h0 : lc n = 0) (h1 : m = st n + ns n) : ∃ σ', f_X3_addToName b x σ = some (0, σ') ∧ RdC σ' b (n + 1) (m + 1) st (va_up ns n (ns n + 1)) lc (up2 nm n (ns n) x) lt ∧ FrD σ σ' b ∧ σ'.1 5 = σ.1 5 ∧ σ'.1 (bs b) 5 = σ.1 (bs b) 5 ∧ σ'.2.1 (bs b + 2) = upd (σ.2.1 (bs b + 2)) m x := by
  obtain ⟨f1, f2, f3, f4⟩ := addO_e (x := x) h hm
  have hh := h
  obtain ⟨a1, a2, a3, a4, a5⟩ := h
  obtain ⟨l3, l4, l5, l2⟩ := ln_bs b
  have ec : σ.1 (bs b) 4 - 1 = nI n := by rw [a1]; exact nI_pred n
  generalize hτ : rAdd σ (bs b + 1) m x = τ at f1 f2 f3 f4
  have t1 : τ.1 (bs b) 4 - 1 = nI n := by rw [f4.1 (bs b) (by simp)]; exact ec
  have t4 : τ.2.1 (bs b + 4) n = nI (ns n) := by rw [f4.2.1 (bs b + 4) (by simp)]; exact (a5 n (by omega)).2.1
  refine ⟨sA τ (bs b + 4) (nI n) (nI (ns n + 1)), ?_, ?_, ?_, ?_, ?_, ?_⟩
  · unfold f_X3_addToName b_X3_addToName_36
    rw [ec, has_in a1 a2 (by omega : n < n + 1), bd_s, if_neg (by decide), f1, bd_s, t1, gd_t (inb_n (by omega) (by omega)), gd_t (inb_n (by omega) (by omega)), nx_e, nI_clamp (by omega), t4, nI_1]
  · refine ⟨by rw [sA_o, f4.1 (bs b) (by simp)]; exact a1, a2, by rw [sA_o]; exact f3, by omega, fun i hi => ?_⟩
    rw [sA_q (p := bs b + 2) (by omega), sA_q (p := bs b + 3) (by omega), sA_q (p := bs b + 5) (by omega), sA_s (by omega), f4.2.1 (bs b + 3) (by simp), f4.2.1 (bs b + 4) (by simp), f4.2.1 (bs b + 5) (by simp), f2]
    obtain ⟨b1, b2, b3, b4, b5, b6⟩ := a5 i hi
    by_cases e : i = n
    · subst e
      rw [upd_s, upN_s]
      refine ⟨b1, rfl, b3, by omega, fun k hk => ?_, fun k hk => absurd hk (by omega)⟩
      by_cases e2 : k = ns i
      · subst e2
        rw [← h1, upd_s, up2_s]
      · rw [upd_n (by omega), up2_k e2]
        exact b5 k (by omega)
    · rw [upd_n e, upN_n e, up2_i e]
      exact ⟨b1, b2, b3, by omega, fun k hk => by rw [upd_n (by omega)]; exact b5 k hk, fun k hk => by rw [upd_n (by omega)]; exact b6 k hk⟩
  · exact (f4.mono (by simp) (by simp)).tr (Fr.sA.mono (by simp) (by simp))
  · rw [sA_o]
    exact f4.1 5 (by cases b <;> decide)
  · rw [sA_o, f4.1 (bs b) (by simp)]
  · rw [sA_q (by omega)]
    exact f2
theorem addL_e {x : Int32} (h : RdC σ b (n + 1) m st ns lc nm lt) (hm : m < 6000) (h1 : m = st n + ns n + lc n) : ∃ σ', f_X3_addLetter b x σ = some (0, σ') ∧ RdC σ' b (n + 1) (m + 1) st ns (va_up lc n (lc n + 1)) nm (up2 lt n (lc n) x) ∧ FrD σ σ' b ∧ σ'.1 5 = σ.1 5 ∧ σ'.1 (bs b) 5 = σ.1 (bs b) 5 ∧ σ'.2.1 (bs b + 2) = upd (σ.2.1 (bs b + 2)) m x := by
  obtain ⟨f1, f2, f3, f4⟩ := addO_e (x := x) h hm
  obtain ⟨a1, a2, a3, a4, a5⟩ := h
  obtain ⟨l3, l4, l5, l2⟩ := ln_bs b
  have ec : σ.1 (bs b) 4 - 1 = nI n := by rw [a1]; exact nI_pred n
  generalize hτ : rAdd σ (bs b + 1) m x = τ at f1 f2 f3 f4
  have t1 : τ.1 (bs b) 4 - 1 = nI n := by rw [f4.1 (bs b) (by simp)]; exact ec
  have t4 : τ.2.1 (bs b + 5) n = nI (lc n) := by rw [f4.2.1 (bs b + 5) (by simp)]; exact (a5 n (by omega)).2.2.1
  refine ⟨sA τ (bs b + 5) (nI n) (nI (lc n + 1)), ?_, ?_, ?_, ?_, ?_, ?_⟩
  · unfold f_X3_addLetter b_X3_addLetter_36
    rw [ec, has_in a1 a2 (by omega : n < n + 1), bd_s, if_neg (by decide), f1, bd_s, t1, gd_t (inb_n (by omega) (by omega)), gd_t (inb_n (by omega) (by omega)), nx_e, nI_clamp (by omega), t4, nI_1]
  · refine ⟨by rw [sA_o, f4.1 (bs b) (by simp)]; exact a1, a2, by rw [sA_o]; exact f3, by omega, fun i hi => ?_⟩
    rw [sA_q (p := bs b + 2) (by omega), sA_q (p := bs b + 3) (by omega), sA_q (p := bs b + 4) (by omega), sA_s (by omega), f4.2.1 (bs b + 3) (by simp), f4.2.1 (bs b + 4) (by simp), f4.2.1 (bs b + 5) (by simp), f2]
    obtain ⟨b1, b2, b3, b4, b5, b6⟩ := a5 i hi
    by_cases e : i = n
    · subst e
      rw [upd_s, upN_s]
      refine ⟨b1, b2, rfl, by omega, fun k hk => by rw [upd_n (by omega)]; exact b5 k hk, fun k hk => ?_⟩
      by_cases e2 : k = lc i
      · subst e2
        rw [← h1, upd_s, up2_s]
      · rw [upd_n (by omega), up2_k e2]
        exact b6 k (by omega)
    · rw [upd_n e, upN_n e, up2_i e]
      exact ⟨b1, b2, b3, by omega, fun k hk => by rw [upd_n (by omega)]; exact b5 k hk, fun k hk => by rw [upd_n (by omega)]; exact b6 k hk⟩
  · exact (f4.mono (by simp) (by simp)).tr (Fr.sA.mono (by simp) (by simp))
  · rw [sA_o]
    exact f4.1 5 (by cases b <;> decide)
  · rw [sA_o, f4.1 (bs b) (by simp)]
  · rw [sA_q (by omega)]
    exact f2
end PP
