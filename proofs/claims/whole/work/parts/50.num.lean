section PN
theorem nx_e {α β : Type} (a : α) (f : α → β) : nx a f = f a := rfl
theorem gd_t {α : Type} {c : Bool} {o : Option α} (h : c = true) : gd c o = o := by rw [h]; rfl
theorem bd_s {α : Type} {r : Int32} {σ : St} {f : Int32 → St → Option α} : bd (some (r, σ)) f = f r σ := rfl
theorem bd_e {α : Type} {o : Option Rs} {r : Int32} {σ : St} {f : Int32 → St → Option α} (h : o = some (r, σ)) : bd o f = f r σ := by rw [h]; rfl
theorem gz_0 {α : Type} {o : Option α} : gz 0 o = o := by simp [gz]
theorem gz_1 {α : Type} {o : Option α} : gz 1 o = o := by simp [gz]
theorem inb_n {k n : Nat} (h : k < n) (hn : n < 2 ^ 31) : inb (nI k) n = true := decide_eq_true (nI_in h hn)
/-- a truth as a number -/
def bI (b : Bool) : Int32 := if b then 1 else 0
theorem gz_b {α : Type} {b : Bool} {o : Option α} : gz (bI b) o = o := by cases b <;> simp [gz, bI]
theorem bI_0 {b : Bool} : bI b = 0 ↔ b = false := by cases b <;> simp [bI]
theorem bI_n0 {b : Bool} : ¬ bI b = 0 ↔ b = true := by cases b <;> simp [bI]
/-- what changed: the numbers of the objects ps, of the arrays qs -/
def Fr (σ σ' : St) (ps qs : List Nat) : Prop := (∀ q, q ∉ ps → σ'.1 q = σ.1 q) ∧ (∀ q, q ∉ qs → σ'.2.1 q = σ.2.1 q) ∧ σ'.2.2 = σ.2.2
theorem Fr.rf {σ : St} {ps qs : List Nat} : Fr σ σ ps qs := ⟨fun _ _ => rfl, fun _ _ => rfl, rfl⟩
theorem Fr.tr {σ σ1 σ2 : St} {ps qs : List Nat} (h1 : Fr σ σ1 ps qs) (h2 : Fr σ1 σ2 ps qs) : Fr σ σ2 ps qs := ⟨fun q h => (h2.1 q h).trans (h1.1 q h), fun q h => (h2.2.1 q h).trans (h1.2.1 q h), h2.2.2.trans h1.2.2⟩
theorem Fr.mono {σ σ1 : St} {ps qs ps' qs' : List Nat} (h1 : Fr σ σ1 ps qs) (hp : ∀ q ∈ ps, q ∈ ps') (hq : ∀ q ∈ qs, q ∈ qs') : Fr σ σ1 ps' qs' := ⟨fun q h => h1.1 q (fun z => h (hp q z)), fun q h => h1.2.1 q (fun z => h (hq q z)), h1.2.2⟩
theorem sS_s {σ : St} {p j : Nat} {v : Int32} : (sS σ p j v).1 p j = v := by simp [sS, va_up_self]
theorem sS_j {σ : St} {p j i : Nat} {v : Int32} (h : i ≠ j) : (sS σ p j v).1 p i = σ.1 p i := by simp [sS, va_up_self, va_up_ne _ _ h]
theorem sS_p {σ : St} {p j q : Nat} {v : Int32} (h : q ≠ p) : (sS σ p j v).1 q = σ.1 q := by simp [sS, va_up_ne _ _ h]
theorem sS_a {σ : St} {p j : Nat} {v : Int32} : (sS σ p j v).2 = σ.2 := rfl
theorem sA_o {σ : St} {q : Nat} {i v : Int32} : (sA σ q i v).1 = σ.1 := rfl
theorem sA_r {σ : St} {q : Nat} {i v : Int32} : (sA σ q i v).2.2 = σ.2.2 := rfl
theorem sA_q {σ : St} {p q : Nat} {i v : Int32} (h : p ≠ q) : (sA σ q i v).2.1 p = σ.2.1 p := by simp [sA, va_up_ne _ _ h]
theorem sA_s {σ : St} {q n : Nat} {v : Int32} (hn : n < 2 ^ 31) : (sA σ q (nI n) v).2.1 q = upd (σ.2.1 q) n v := by simp [sA, va_up_self, nI_clamp hn]
theorem Fr.sS {σ : St} {p j : Nat} {v : Int32} : Fr σ (sS σ p j v) [p] [] := ⟨fun q h => sS_p (by simpa using h), fun _ _ => rfl, rfl⟩
theorem Fr.sA {σ : St} {q : Nat} {i v : Int32} : Fr σ (sA σ q i v) [] [q] := ⟨fun _ _ => rfl, fun p h => sA_q (by simpa using h), rfl⟩
theorem upd_s {f : Nat → Int32} {n : Nat} {v : Int32} : upd f n v n = v := pk_us
theorem upd_n {f : Nat → Int32} {n k : Nat} {v : Int32} (h : k ≠ n) : upd f n v k = f k := pk_un h
theorem ln_rw {p : Nat} (hp : Rw p) : ln (p + 1) ≤ 12000 := by rcases hp with rfl | rfl | rfl | rfl | rfl | rfl <;> decide
/-- a Row holds f 0 .. f (n - 1) -/
def RowH (σ : St) (p n : Nat) (f : Nat → Int32) : Prop := σ.1 p 1 = nI n ∧ n ≤ ln (p + 1) ∧ ∀ k, k < n → σ.2.1 (p + 1) k = f k
theorem RowH.fr {σ σ' : St} {p n : Nat} {f : Nat → Int32} {ps qs : List Nat} (h : RowH σ p n f) (hf : Fr σ σ' ps qs) (hp : p ∉ ps) (hq : p + 1 ∉ qs) : RowH σ' p n f := ⟨by rw [hf.1 p hp]; exact h.1, h.2.1, fun k hk => by rw [hf.2.1 _ hq]; exact h.2.2 k hk⟩
theorem RowH.cg {σ : St} {p n : Nat} {f g : Nat → Int32} (h : RowH σ p n f) (e : ∀ k, k < n → f k = g k) : RowH σ p n g := ⟨h.1, h.2.1, fun k hk => (h.2.2 k hk).trans (e k hk)⟩
variable {σ : St} {p n k : Nat} {f : Nat → Int32}
theorem at_in (hp : Rw p) (hr : RowH σ p n f) (hk : k < n) : f_X4_at p (nI k) σ = some (f k, σ) := by
  have hl := ln_rw hp
  have h2 := hr.2.1
  unfold f_X4_at b_X4_at_30 b_X4_at_31
  rw [hr.1, if_neg (nI_pos (by omega)), if_neg (nI_ge hk (by omega)), if_neg (nI_ge (by omega) (by omega)), gd_t (inb_n (by omega) (by omega)), nI_clamp (by omega), hr.2.2 k hk]
theorem at_out {x : Int32} (hr : σ.1 p 1 = nI n) (h : x < 0 ∨ nI n ≤ x) : f_X4_at p x σ = some (-1, σ) := by
  unfold f_X4_at b_X4_at_30 b_X4_at_31
  by_cases h0 : x < 0
  · rw [if_pos h0]
  · rw [if_neg h0, hr, if_pos (h.resolve_left h0)]
def rAdd (σ : St) (p n : Nat) (v : Int32) : St := sS (sA σ (p + 1) (nI n) v) p 1 (nI (n + 1))
theorem add_e {v : Int32} (hp : Rw p) (h1 : σ.1 p 1 = nI n) (hn : n < ln (p + 1)) : f_X4_add p v σ = some (0, rAdd σ p n v) := by
  have hl := ln_rw hp
  unfold f_X4_add b_X4_add_39
  rw [h1, if_neg (nI_pos (by omega)), if_neg (nI_ge hn (by omega)), gd_t (inb_n hn (by omega)), nx_e, nx_e, sA_o, h1, nI_1]
  rfl
theorem add_fr {v : Int32} : Fr σ (rAdd σ p n v) [p] [p + 1] := (Fr.sA.mono (by simp) (by simp)).tr (Fr.sS.mono (by simp) (by simp))
theorem add_row {v : Int32} (hp : Rw p) (hr : RowH σ p n f) (hn : n < ln (p + 1)) : RowH (rAdd σ p n v) p (n + 1) (upd f n v) := by
  have hl := ln_rw hp
  refine ⟨sS_s, hn, fun k hk => ?_⟩
  rw [rAdd, sS_a, sA_s (by omega)]
  by_cases e : k = n
  · subst e; rw [upd_s, upd_s]
  · rw [upd_n e, upd_n e]; exact hr.2.2 k (by omega)
theorem clear_e : f_X4_clear p σ = some (0, sS σ p 1 0) := rfl
theorem clear_row : RowH (sS σ p 1 0) p 0 f := ⟨by rw [sS_s]; rfl, Nat.zero_le _, fun k hk => absurd hk (Nat.not_lt_zero k)⟩
theorem copy_loop {p0 p1 : Nat} (hp0 : Rw p0) (hp1 : Rw p1) (hne : p0 ≠ p1) (hn : n ≤ ln (p0 + 1)) : ∀ (fu j : Nat) (σ : St), j ≤ n → n < fu + j → RowH σ p1 n f → RowH σ p0 j f → ∃ σ', l_X4_copy_6 p0 p1 fu (nI j) σ = some (0, σ') ∧ RowH σ' p0 n f ∧ Fr σ σ' [p0] [p0 + 1] := by
  have hl := ln_rw hp0
  intro fu
  induction fu with
  | zero => intro j σ h1 h2; omega
  | succ fu ih =>
    intro j σ h1 h2 hs hd
    show ∃ σ', b_X4_copy_6 p0 p1 (l_X4_copy_6 p0 p1 fu) (nI j) σ = some (0, σ') ∧ _
    unfold b_X4_copy_6 f_X4_size
    rw [bd_s, hs.1]
    by_cases e : j = n
    · subst e
      rw [if_pos (nI_le (Nat.le_refl _) (by omega))]
      exact ⟨σ, rfl, hd, Fr.rf⟩
    · rw [if_neg (nI_ge (by omega) (by omega)), at_in hp1 hs (by omega : j < n), bd_s, add_e hp0 hd.1 (by omega), bd_s, nx_e, nI_1]
      have hd' := add_row (v := f j) hp0 hd (by omega)
      have hfr : Fr σ (rAdd σ p0 j (f j)) [p0] [p0 + 1] := add_fr
      obtain ⟨σ', e1, e2, e3⟩ := ih (j + 1) (rAdd σ p0 j (f j)) (by omega) (by omega) (hs.fr hfr (by simpa using hne.symm) (by simpa using hne.symm)) (hd'.cg (fun k hk => by
        by_cases e : k = j
        · subst e; rw [upd_s]
        · rw [upd_n e]))
      exact ⟨σ', e1, e2, hfr.tr e3⟩
theorem copy_e {p0 p1 : Nat} (hp0 : Rw p0) (hp1 : Rw p1) (hne : p0 ≠ p1) (hs : RowH σ p1 n f) (hn : n ≤ ln (p0 + 1)) : ∃ σ', f_X4_copy p0 p1 σ = some (0, σ') ∧ RowH σ' p0 n f ∧ Fr σ σ' [p0] [p0 + 1] := by
  have hl := ln_rw hp0
  have hfr : Fr σ (sS σ p0 1 0) [p0] [p0 + 1] := Fr.sS.mono (by simp) (by simp)
  obtain ⟨σ', e1, e2, e3⟩ := copy_loop hp0 hp1 hne hn FU 0 (sS σ p0 1 0) (Nat.zero_le _) (by simp only [FU]; omega) (hs.fr hfr (by simpa using hne.symm) (by simpa using hne.symm)) clear_row
  exact ⟨σ', by unfold f_X4_copy; rw [clear_e, bd_s]; exact e1, e2, hfr.tr e3⟩
/-- A C G T -/
def isB (x : Int32) : Bool := x == 65 || x == 67 || x == 71 || x == 84
theorem isBase_e {x : Int32} : f_X8_isBase x σ = some (bI (isB x), σ) := by
  unfold f_X8_isBase b_X8_isBase_24 b_X8_isBase_29 isB
  rw [gz_0, gz_1]
  by_cases h1 : x = 65
  · simp [h1, bI]
  · by_cases h2 : x = 67
    · simp [h2, bI]
    · by_cases h3 : x = 71
      · simp [h3, bI]
      · by_cases h4 : x = 84
        · simp [h4, bI]
        · simp [h1, h2, h3, h4, bI]
def isL (x : Int32) : Bool := isB x || x == 78
theorem isLetter_e {x : Int32} : f_X8_isLetter x σ = some (bI (isL x), σ) := by
  unfold f_X8_isLetter b_X8_isLetter_13 b_X8_isLetter_18 isL
  rw [isBase_e, bd_s, gz_0, gz_1]
  cases isB x
  · by_cases h : x = 78
    · simp [h, bI]
    · simp [h, bI]
  · simp [bI]
def isSg (x : Int32) : Bool := decide (33 ≤ x ∧ x ≤ 126)
theorem isSign_e {x : Int32} : f_X8_isSign x σ = some (bI (isSg x), σ) := by
  unfold f_X8_isSign b_X8_isSign_16 b_X8_isSign_17 isSg
  rw [gz_0, gz_1]
  by_cases h1 : x < 33
  · rw [if_pos h1]
    have : ¬ (33 ≤ x ∧ x ≤ 126) := fun h => absurd h.1 (Int32.not_le.mpr h1)
    simp [this, bI]
  · by_cases h2 : 126 < x
    · rw [if_neg h1, if_pos h2]
      have : ¬ (33 ≤ x ∧ x ≤ 126) := fun h => absurd h.2 (Int32.not_le.mpr h2)
      simp [this, bI]
    · rw [if_neg h1, if_neg h2]
      have : (33 ≤ x ∧ x ≤ 126) := ⟨Int32.not_lt.mp h1, Int32.not_lt.mp h2⟩
      simp [this, bI]
def isW (x m : Int32) : Bool := decide (0 ≤ x ∧ x ≤ m)
theorem isWithin_e {x m : Int32} : f_X8_isWithin x m σ = some (bI (isW x m), σ) := by
  unfold f_X8_isWithin b_X8_isWithin_13 b_X8_isWithin_14 isW
  rw [gz_0, gz_1]
  by_cases h1 : x < 0
  · rw [if_pos h1]
    have : ¬ (0 ≤ x ∧ x ≤ m) := fun h => absurd h.1 (Int32.not_le.mpr h1)
    simp [this, bI]
  · by_cases h2 : m < x
    · rw [if_neg h1, if_pos h2]
      have : ¬ (0 ≤ x ∧ x ≤ m) := fun h => absurd h.2 (Int32.not_le.mpr h2)
      simp [this, bI]
    · rw [if_neg h1, if_neg h2]
      have : (0 ≤ x ∧ x ≤ m) := ⟨Int32.not_lt.mp h1, Int32.not_lt.mp h2⟩
      simp [this, bI]
theorem isForm_e {x : Int32} : f_X8_isForm x σ = some (bI (x == 0 || x == 1), σ) := by
  unfold f_X8_isForm b_X8_isForm_9 b_X8_isForm_14
  rw [gz_0, gz_1]
  by_cases h1 : x = 0
  · simp [h1, bI]
  · by_cases h2 : x = 1
    · simp [h2, bI]
    · simp [h1, h2, bI]
/-- all of the first n are A C G T -/
def allB (f : Nat → Int32) (n : Nat) : Bool := (List.range n).all (fun k => isB (f k))
theorem allB_t {f : Nat → Int32} {n : Nat} : allB f n = true ↔ ∀ k, k < n → isB (f k) = true := by simp [allB]
theorem bases_loop (hp : Rw p) (hr : RowH σ p n f) : ∀ (fu j : Nat), j ≤ n → n < fu + j → (∀ k, k < j → isB (f k) = true) → l_X4_isOfBases_20 p fu (nI j) σ = some (bI (allB f n), σ) := by
  have hl := ln_rw hp
  have h2 := hr.2.1
  intro fu
  induction fu with
  | zero => intro j h1 h2; omega
  | succ fu ih =>
    intro j h1 h2 ha
    show b_X4_isOfBases_20 p (l_X4_isOfBases_20 p fu) (nI j) σ = _
    unfold b_X4_isOfBases_20
    rw [hr.1]
    by_cases e : j = n
    · subst e
      rw [if_pos (nI_le (Nat.le_refl _) (by omega)), gz_1, allB_t.mpr ha]
      rfl
    · rw [if_neg (nI_ge (by omega) (by omega)), at_in hp hr (by omega : j < n), bd_s, isBase_e, bd_s, gz_0, nx_e, nI_1]
      cases hb : isB (f j)
      · have : allB f n = false := by
          cases h : allB f n
          · rfl
          · rw [allB_t.mp h j (by omega)] at hb; cases hb
        rw [this]
        rfl
      · rw [if_neg (by decide)]
        exact ih (j + 1) (by omega) (by omega) (fun k hk => by
          by_cases e : k = j
          · subst e; exact hb
          · exact ha k (by omega))
theorem isOfBases_e {lo hi : Nat} (hp : Rw p) (hr : RowH σ p n f) (hhi : hi < 2 ^ 31) (hlo : lo < 2 ^ 31) : f_X4_isOfBases p (nI lo) (nI hi) σ = some (bI (decide (lo ≤ n ∧ n ≤ hi) && allB f n), σ) := by
  have hl := ln_rw hp
  have h2 := hr.2.1
  unfold f_X4_isOfBases b_X4_isOfBases_16
  rw [hr.1, gz_0]
  by_cases h1 : n < lo
  · rw [if_pos (nI_lt h1 hlo)]
    have : ¬ (lo ≤ n ∧ n ≤ hi) := by omega
    simp [this, bI]
  · rw [if_neg (nI_nlt (by omega) (by omega))]
    by_cases h3 : n ≤ hi
    · rw [if_pos (nI_le h3 hhi), show (0 : Int32) = nI 0 from rfl, bases_loop hp hr FU 0 (Nat.zero_le _) (by simp only [FU]; omega) (fun k hk => absurd hk (Nat.not_lt_zero k))]
      have : (lo ≤ n ∧ n ≤ hi) := by omega
      simp [this]
    · rw [if_neg (nI_ge (by omega) (by omega))]
      have : ¬ (lo ≤ n ∧ n ≤ hi) := by omega
      simp [this, bI]
end PN
