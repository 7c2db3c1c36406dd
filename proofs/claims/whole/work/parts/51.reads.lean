section PR
/-- the reads at a place hold: how many, where each begins, name and letter sizes, names, letters (octets: m in all) -/
def RdC (σ : St) (b : Bool) (rn m : Nat) (st ns lc : Nat → Nat) (nm lt : Nat → Nat → Int32) : Prop :=
  σ.1 (bs b) 4 = nI rn ∧ rn ≤ 60 ∧ σ.1 (bs b + 1) 1 = nI m ∧ m ≤ 6000 ∧ ∀ i, i < rn → (σ.2.1 (bs b + 3) i = nI (st i) ∧ σ.2.1 (bs b + 4) i = nI (ns i) ∧ σ.2.1 (bs b + 5) i = nI (lc i) ∧ st i + ns i + lc i ≤ m ∧ (∀ k, k < ns i → σ.2.1 (bs b + 2) (st i + k) = nm i k) ∧ ∀ k, k < lc i → σ.2.1 (bs b + 2) (st i + ns i + k) = lt i k)
/-- and their qualities -/
def RdQ (σ : St) (b : Bool) (rn m : Nat) (st ns lc : Nat → Nat) (ql : Nat → Nat → Int32) : Prop :=
  (σ.1 (bs b) 5 = 0 ∧ ∀ i, i < rn → ∀ k, k < lc i → ql i k = 40) ∨ (σ.1 (bs b) 5 = 1 ∧ ∀ i, i < rn → st i + ns i + lc i + lc i ≤ m ∧ ∀ k, k < lc i → σ.2.1 (bs b + 2) (st i + ns i + lc i + k) = ql i k + 33)
theorem ln_bs (b : Bool) : ln (bs b + 3) = 60 ∧ ln (bs b + 4) = 60 ∧ ln (bs b + 5) = 60 ∧ ln (bs b + 2) = 6000 := by cases b <;> decide
theorem RdC.fr {σ σ' : St} {b : Bool} {rn m : Nat} {st ns lc : Nat → Nat} {nm lt : Nat → Nat → Int32} {ps qs : List Nat} (h : RdC σ b rn m st ns lc nm lt) (hf : Fr σ σ' ps qs) (h0 : bs b ∉ ps) (h1 : bs b + 1 ∉ ps) (h2 : bs b + 2 ∉ qs) (h3 : bs b + 3 ∉ qs) (h4 : bs b + 4 ∉ qs) (h5 : bs b + 5 ∉ qs) : RdC σ' b rn m st ns lc nm lt := by
  obtain ⟨a1, a2, a3, a4, a5⟩ := h
  refine ⟨by rw [hf.1 _ h0]; exact a1, a2, by rw [hf.1 _ h1]; exact a3, a4, fun i hi => ?_⟩
  obtain ⟨b1, b2, b3, b4, b5, b6⟩ := a5 i hi
  refine ⟨by rw [hf.2.1 _ h3]; exact b1, by rw [hf.2.1 _ h4]; exact b2, by rw [hf.2.1 _ h5]; exact b3, b4, fun k hk => by rw [hf.2.1 _ h2]; exact b5 k hk, fun k hk => by rw [hf.2.1 _ h2]; exact b6 k hk⟩
theorem RdQ.fr {σ σ' : St} {b : Bool} {rn m : Nat} {st ns lc : Nat → Nat} {ql : Nat → Nat → Int32} {ps qs : List Nat} (h : RdQ σ b rn m st ns lc ql) (hf : Fr σ σ' ps qs) (h0 : bs b ∉ ps) (h2 : bs b + 2 ∉ qs) : RdQ σ' b rn m st ns lc ql := by
  rcases h with ⟨a1, a2⟩ | ⟨a1, a2⟩
  · exact Or.inl ⟨by rw [hf.1 _ h0]; exact a1, a2⟩
  · exact Or.inr ⟨by rw [hf.1 _ h0]; exact a1, fun i hi => ⟨(a2 i hi).1, fun k hk => by rw [hf.2.1 _ h2]; exact (a2 i hi).2 k hk⟩⟩
variable {σ : St} {b : Bool} {rn m i k : Nat} {st ns lc : Nat → Nat} {nm lt ql : Nat → Nat → Int32}
theorem RdC.row (h : RdC σ b rn m st ns lc nm lt) : RowH σ (bs b + 1) m (σ.2.1 (bs b + 2)) := ⟨h.2.2.1, by rw [show bs b + 1 + 1 = bs b + 2 from rfl, (ln_bs b).2.2.2]; exact h.2.2.2.1, fun _ _ => rfl⟩
theorem count_e (hc : σ.1 (bs b) 4 = nI rn) : f_X3_count b σ = some (nI rn, σ) := by unfold f_X3_count; rw [hc]
theorem has_in (hc : σ.1 (bs b) 4 = nI rn) (hn : rn ≤ 60) (hi : i < rn) : f_X3_has b (nI i) σ = some (1, σ) := by
  unfold f_X3_has b_X3_has_22 b_X3_has_23
  rw [hc, if_neg (nI_pos (by omega)), if_neg (nI_ge hi (by omega)), show (60 : Int32) = nI 60 from rfl, if_neg (nI_ge (by omega) (by omega)), gz_1]
theorem has_out {x : Int32} (hc : σ.1 (bs b) 4 = nI rn) (hx : x < 0 ∨ nI rn ≤ x) : f_X3_has b x σ = some (0, σ) := by
  unfold f_X3_has b_X3_has_22 b_X3_has_23
  rw [gz_0]
  by_cases h0 : x < 0
  · rw [if_pos h0]
  · rw [if_neg h0, hc, if_pos (hx.resolve_left h0)]
theorem nameSize_in (h : RdC σ b rn m st ns lc nm lt) (hi : i < rn) : f_X3_nameSize b (nI i) σ = some (nI (ns i), σ) := by
  have h60 := h.2.1
  unfold f_X3_nameSize b_X3_nameSize_18
  rw [has_in h.1 h60 hi, bd_s, if_neg (by decide), gd_t (inb_n (by rw [(ln_bs b).2.1]; omega) (by rw [(ln_bs b).2.1]; omega)), nI_clamp (by omega), (h.2.2.2.2 i hi).2.1]
theorem nameSize_out {x : Int32} (hc : σ.1 (bs b) 4 = nI rn) (hx : x < 0 ∨ nI rn ≤ x) : f_X3_nameSize b x σ = some (0, σ) := by
  unfold f_X3_nameSize b_X3_nameSize_18
  rw [has_out hc hx, bd_s, if_pos rfl]
theorem letterCount_in (h : RdC σ b rn m st ns lc nm lt) (hi : i < rn) : f_X3_letterCount b (nI i) σ = some (nI (lc i), σ) := by
  have h60 := h.2.1
  unfold f_X3_letterCount b_X3_letterCount_18
  rw [has_in h.1 h60 hi, bd_s, if_neg (by decide), gd_t (inb_n (by rw [(ln_bs b).2.2.1]; omega) (by rw [(ln_bs b).2.2.1]; omega)), nI_clamp (by omega), (h.2.2.2.2 i hi).2.2.1]
theorem letterCount_out {x : Int32} (hc : σ.1 (bs b) 4 = nI rn) (hx : x < 0 ∨ nI rn ≤ x) : f_X3_letterCount b x σ = some (0, σ) := by
  unfold f_X3_letterCount b_X3_letterCount_18
  rw [has_out hc hx, bd_s, if_pos rfl]
theorem nameOctet_in (h : RdC σ b rn m st ns lc nm lt) (hi : i < rn) (hk : k < ns i) : f_X3_nameOctet b (nI i) (nI k) σ = some (nm i k, σ) := by
  have h60 := h.2.1
  have h6 := h.2.2.2.1
  obtain ⟨b1, b2, b3, b4, b5, b6⟩ := h.2.2.2.2 i hi
  unfold f_X3_nameOctet b_X3_nameOctet_40 b_X3_nameOctet_41
  rw [has_in h.1 h60 hi, bd_s, if_neg (by decide), if_neg (nI_pos (by omega)), gd_t (inb_n (by rw [(ln_bs b).2.1]; omega) (by rw [(ln_bs b).2.1]; omega)), nI_clamp (by omega), b2, if_neg (nI_ge hk (by omega)), gd_t (inb_n (by rw [(ln_bs b).1]; omega) (by rw [(ln_bs b).1]; omega)), b1, nI_add, at_in (rw_bs b) h.row (by omega), bd_s, b5 k hk]
theorem nameOctet_outi {x y : Int32} (hc : σ.1 (bs b) 4 = nI rn) (hx : x < 0 ∨ nI rn ≤ x) : f_X3_nameOctet b x y σ = some (-1, σ) := by
  unfold f_X3_nameOctet b_X3_nameOctet_40 b_X3_nameOctet_41
  rw [has_out hc hx, bd_s, if_pos rfl]
theorem nameOctet_outk {y : Int32} (h : RdC σ b rn m st ns lc nm lt) (hi : i < rn) (hy : y < 0 ∨ nI (ns i) ≤ y) : f_X3_nameOctet b (nI i) y σ = some (-1, σ) := by
  have h60 := h.2.1
  have h6 := h.2.2.2.1
  obtain ⟨b1, b2, b3, b4, b5, b6⟩ := h.2.2.2.2 i hi
  unfold f_X3_nameOctet b_X3_nameOctet_40 b_X3_nameOctet_41
  rw [has_in h.1 h60 hi, bd_s, if_neg (by decide)]
  by_cases h0 : y < 0
  · rw [if_pos h0]
  · rw [if_neg h0, gd_t (inb_n (by rw [(ln_bs b).2.1]; omega) (by rw [(ln_bs b).2.1]; omega)), nI_clamp (by omega), b2, if_pos (hy.resolve_left h0)]
theorem hasLetter_in (h : RdC σ b rn m st ns lc nm lt) (hi : i < rn) (hk : k < lc i) : f_X3_hasLetter b (nI i) (nI k) σ = some (1, σ) := by
  have h60 := h.2.1
  have h6 := h.2.2.2.1
  obtain ⟨b1, b2, b3, b4, b5, b6⟩ := h.2.2.2.2 i hi
  unfold f_X3_hasLetter b_X3_hasLetter_36 b_X3_hasLetter_37
  rw [h.1, if_neg (nI_pos (by omega)), if_neg (nI_ge hi (by omega)), show (60 : Int32) = nI 60 from rfl, if_neg (nI_ge (by omega) (by omega)), if_neg (nI_pos (by omega)), gd_t (inb_n (by rw [(ln_bs b).2.2.1]; omega) (by rw [(ln_bs b).2.2.1]; omega)), nI_clamp (by omega), b3, if_neg (nI_ge hk (by omega)), gz_1]
theorem hasLetter_outi {x y : Int32} (hc : σ.1 (bs b) 4 = nI rn) (hx : x < 0 ∨ nI rn ≤ x) : f_X3_hasLetter b x y σ = some (0, σ) := by
  unfold f_X3_hasLetter b_X3_hasLetter_36 b_X3_hasLetter_37
  rw [gz_0]
  by_cases h0 : x < 0
  · rw [if_pos h0]
  · rw [if_neg h0, hc, if_pos (hx.resolve_left h0)]
theorem hasLetter_outk {y : Int32} (h : RdC σ b rn m st ns lc nm lt) (hi : i < rn) (hy : y < 0 ∨ nI (lc i) ≤ y) : f_X3_hasLetter b (nI i) y σ = some (0, σ) := by
  have h60 := h.2.1
  have h6 := h.2.2.2.1
  obtain ⟨b1, b2, b3, b4, b5, b6⟩ := h.2.2.2.2 i hi
  unfold f_X3_hasLetter b_X3_hasLetter_36 b_X3_hasLetter_37
  rw [gz_0, h.1, if_neg (nI_pos (by omega)), if_neg (nI_ge hi (by omega)), show (60 : Int32) = nI 60 from rfl, if_neg (nI_ge (by omega) (by omega))]
  by_cases h0 : y < 0
  · rw [if_pos h0]
  · rw [if_neg h0, gd_t (inb_n (by rw [(ln_bs b).2.2.1]; omega) (by rw [(ln_bs b).2.2.1]; omega)), nI_clamp (by omega), b3, if_pos (hy.resolve_left h0)]
theorem letterOctet_in (h : RdC σ b rn m st ns lc nm lt) (hi : i < rn) (hk : k < lc i) : f_X3_letterOctet b (nI i) (nI k) σ = some (lt i k, σ) := by
  have h60 := h.2.1
  have h6 := h.2.2.2.1
  obtain ⟨b1, b2, b3, b4, b5, b6⟩ := h.2.2.2.2 i hi
  unfold f_X3_letterOctet b_X3_letterOctet_35
  rw [hasLetter_in h hi hk, bd_s, if_neg (by decide), gd_t (inb_n (by rw [(ln_bs b).1]; omega) (by rw [(ln_bs b).1]; omega)), gd_t (inb_n (by rw [(ln_bs b).2.1]; omega) (by rw [(ln_bs b).2.1]; omega)), nI_clamp (by omega), b1, b2, nI_add, nI_add, at_in (rw_bs b) h.row (by omega), bd_s, b6 k hk]
theorem letterOctet_outi {x y : Int32} (hc : σ.1 (bs b) 4 = nI rn) (hx : x < 0 ∨ nI rn ≤ x) : f_X3_letterOctet b x y σ = some (-1, σ) := by
  unfold f_X3_letterOctet b_X3_letterOctet_35
  rw [hasLetter_outi hc hx, bd_s, if_pos rfl]
theorem letterOctet_outk {y : Int32} (h : RdC σ b rn m st ns lc nm lt) (hi : i < rn) (hy : y < 0 ∨ nI (lc i) ≤ y) : f_X3_letterOctet b (nI i) y σ = some (-1, σ) := by
  unfold f_X3_letterOctet b_X3_letterOctet_35
  rw [hasLetter_outk h hi hy, bd_s, if_pos rfl]
theorem quality_in (h : RdC σ b rn m st ns lc nm lt) (hq : RdQ σ b rn m st ns lc ql) (hi : i < rn) (hk : k < lc i) : f_X3_quality b (nI i) (nI k) σ = some (ql i k, σ) := by
  have h60 := h.2.1
  have h6 := h.2.2.2.1
  obtain ⟨b1, b2, b3, b4, b5, b6⟩ := h.2.2.2.2 i hi
  unfold f_X3_quality
  rw [hasLetter_in h hi hk, bd_s, if_neg (by decide)]
  rcases hq with ⟨a1, a2⟩ | ⟨a1, a2⟩
  · rw [a1, if_pos rfl, a2 i hi k hk]
  · obtain ⟨a3, a4⟩ := a2 i hi
    rw [a1, if_neg (by decide), gd_t (inb_n (by rw [(ln_bs b).1]; omega) (by rw [(ln_bs b).1]; omega)), gd_t (inb_n (by rw [(ln_bs b).2.1]; omega) (by rw [(ln_bs b).2.1]; omega)), gd_t (inb_n (by rw [(ln_bs b).2.2.1]; omega) (by rw [(ln_bs b).2.2.1]; omega)), nI_clamp (by omega), b1, b2, b3, nI_add, nI_add, nI_add, at_in (rw_bs b) h.row (by omega), bd_s, a4 k hk, Int32.add_sub_cancel]
theorem quality_outi {x y : Int32} (hc : σ.1 (bs b) 4 = nI rn) (hx : x < 0 ∨ nI rn ≤ x) : f_X3_quality b x y σ = some (-1, σ) := by
  unfold f_X3_quality
  rw [hasLetter_outi hc hx, bd_s, if_pos rfl]
theorem quality_outk {y : Int32} (h : RdC σ b rn m st ns lc nm lt) (hi : i < rn) (hy : y < 0 ∨ nI (lc i) ≤ y) : f_X3_quality b (nI i) y σ = some (-1, σ) := by
  unfold f_X3_quality
  rw [hasLetter_outk h hi hy, bd_s, if_pos rfl]
end PR
