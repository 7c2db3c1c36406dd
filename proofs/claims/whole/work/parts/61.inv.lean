section IV
def ds (f g : Nat → Int32) : Nat → Nat
  | 0 => 0
  | n + 1 => ds f g n + (if f n = g n then 0 else 1)
theorem ds_le {f g : Nat → Int32} : ∀ n, ds f g n ≤ n := by
  intro n
  induction n with
  | zero => exact Nat.le_refl _
  | succ n ih => simp only [ds]; split <;> omega
theorem ds_cg {f g f' g' : Nat → Int32} : ∀ n, (∀ k, k < n → f k = f' k) → (∀ k, k < n → g k = g' k) → ds f g n = ds f' g' n := by
  intro n
  induction n with
  | zero => intro _ _; rfl
  | succ n ih =>
    intro h1 h2
    simp only [ds]
    rw [ih (fun k hk => h1 k (by omega)) (fun k hk => h2 k (by omega)), h1 n (by omega), h2 n (by omega)]
theorem ds_comm {f g : Nat → Int32} : ∀ n, ds f g n = ds g f n := by
  intro n
  induction n with
  | zero => rfl
  | succ n ih =>
    simp only [ds]
    rw [ih]
    by_cases e : f n = g n
    · rw [if_pos e, if_pos e.symm]
    · rw [if_neg e, if_neg (fun h => e h.symm)]
theorem ds_tri {f g h : Nat → Int32} : ∀ n, ds f h n ≤ ds f g n + ds g h n := by
  intro n
  induction n with
  | zero => exact Nat.le_refl _
  | succ n ih =>
    simp only [ds]
    by_cases e1 : f n = g n
    · by_cases e2 : g n = h n
      · rw [if_pos (e1.trans e2), if_pos e1, if_pos e2]; omega
      · rw [if_pos e1, if_neg e2]; split <;> omega
    · rw [if_neg e1]; split <;> split <;> omega
theorem ds_0 {f g : Nat → Int32} : ∀ n, ds f g n = 0 ↔ ∀ k, k < n → f k = g k := by
  intro n
  induction n with
  | zero => exact ⟨fun _ k hk => by omega, fun _ => rfl⟩
  | succ n ih =>
    simp only [ds]
    constructor
    · intro h k hk
      by_cases e : f n = g n
      · by_cases e2 : k = n
        · subst e2; exact e
        · exact ih.mp (by omega) k (by omega)
      · rw [if_neg e] at h; omega
    · intro h
      rw [if_pos (h n (by omega)), ih.mpr (fun k hk => h k (by omega))]
/-- the least distance of f to the first codes -/
def mn (c : Nat → Nat → Int32) (W : Nat) (f : Nat → Int32) : Nat → Nat
  | 0 => 13
  | i + 1 => min (mn c W f i) (ds (c i) f W)
/-- the least distance of two codes -/
def spr (c : Nat → Nat → Int32) (W : Nat) : Nat → Nat
  | 0 => 13
  | i + 1 => min (spr c W i) (mn c W (c i) i)
theorem mn_le13 {c : Nat → Nat → Int32} {W : Nat} {f : Nat → Int32} : ∀ n, mn c W f n ≤ 13 := by
  intro n
  induction n with
  | zero => exact Nat.le_refl _
  | succ n ih => simp only [mn]; omega
theorem spr_le13 {c : Nat → Nat → Int32} {W : Nat} : ∀ n, spr c W n ≤ 13 := by
  intro n
  induction n with
  | zero => exact Nat.le_refl _
  | succ n ih => simp only [spr]; omega
theorem mn_le {c : Nat → Nat → Int32} {W : Nat} {f : Nat → Int32} : ∀ n i, i < n → mn c W f n ≤ ds (c i) f W := by
  intro n
  induction n with
  | zero => intro i hi; omega
  | succ n ih =>
    intro i hi
    simp only [mn]
    by_cases e : i = n
    · subst e; omega
    · have := ih i (by omega); omega
theorem mn_0 {c : Nat → Nat → Int32} {W : Nat} {f : Nat → Int32} : ∀ n, mn c W f n = 0 → ∃ i, i < n ∧ ds (c i) f W = 0 := by
  intro n
  induction n with
  | zero => intro h; cases h
  | succ n ih =>
    intro h
    simp only [mn] at h
    by_cases e : ds (c n) f W = 0
    · exact ⟨n, by omega, e⟩
    · obtain ⟨i, hi, h1⟩ := ih (by omega)
      exact ⟨i, by omega, h1⟩
theorem spr_le {c : Nat → Nat → Int32} {W : Nat} : ∀ n i j, i < j → j < n → spr c W n ≤ ds (c i) (c j) W := by
  intro n
  induction n with
  | zero => intro i j h1 h2; omega
  | succ n ih =>
    intro i j h1 h2
    simp only [spr]
    by_cases e : j = n
    · subst e
      have := mn_le (c := c) (W := W) (f := c j) j i h1
      omega
    · have := ih i j h1 (by omega)
      omega
theorem mn_cg {c c' : Nat → Nat → Int32} {W : Nat} {f f' : Nat → Int32} (hf : ∀ k, k < W → f k = f' k) : ∀ n, (∀ i, i < n → ∀ k, k < W → c i k = c' i k) → mn c W f n = mn c' W f' n := by
  intro n
  induction n with
  | zero => intro _; rfl
  | succ n ih =>
    intro h
    simp only [mn]
    rw [ih (fun i hi => h i (by omega)), ds_cg W (h n (by omega)) hf]
theorem spr_cg {c c' : Nat → Nat → Int32} {W : Nat} : ∀ n, (∀ i, i < n → ∀ k, k < W → c i k = c' i k) → spr c W n = spr c' W n := by
  intro n
  induction n with
  | zero => intro _; rfl
  | succ n ih =>
    intro h
    simp only [spr]
    rw [ih (fun i hi => h i (by omega)), mn_cg (h n (by omega)) n (fun i hi => h i (by omega))]
/-- a sum of qualities -/
def smq (f : Nat → Int32) (a : Nat) : Nat → Nat
  | 0 => 0
  | k + 1 => smq f a k + (f (a + k)).toNatClampNeg
/-- nothing of as (numbers of objects), bs (numbers of the model), cs (arrays) is among what changed -/
def offL (ps fs qs as bs cs : List Nat) : Bool := as.all (fun x => !ps.contains x && !(x == 39)) && bs.all (fun x => !fs.contains x) && cs.all (fun x => !qs.contains x)
theorem FrG.off {σ σ' : St} {ps fs qs as bs cs : List Nat} (h : FrG σ σ' ps fs qs) (hd : offL ps fs qs as bs cs = true) : (∀ p, p ∈ as → σ'.1 p = σ.1 p) ∧ (∀ j, j ∈ bs → σ'.1 39 j = σ.1 39 j) ∧ (∀ q, q ∈ cs → σ'.2.1 q = σ.2.1 q) := by
  simp only [offL, Bool.and_eq_true, List.all_eq_true] at hd
  refine ⟨fun p hp => ?_, fun j hj => ?_, fun q hq => ?_⟩
  · have := hd.1.1 p hp
    simp at this
    exact h.1 p this.1 this.2
  · have := hd.1.2 j hj
    simp at this
    exact h.2.1 j this
  · have := hd.2 q hq
    simp at this
    exact h.2.2.1 q this
/-- the tape -/
def TapI (σ : St) (N : Nat) (t : Nat → Int32) : Prop := RowH σ 1 N t ∧ σ.1 39 1 = nI N ∧ (∀ k, k < N → σ.2.1 40 k = t k) ∧ ∀ k, k < N → 0 ≤ t k
/-- the written text -/
def OutI (σ : St) (N : Nat) (t : Nat → Int32) : Prop := RowH σ 3 N t ∧ σ.1 39 29 = nI N ∧ (∀ k, k < N → σ.2.1 53 k = t k) ∧ ∀ k, k < N → 0 ≤ t k
/-- the place of the last fault -/
def PlaI (σ : St) : Prop := σ.1 0 7 = σ.1 39 2
/-- the codes -/
def CodI (σ : St) (C W : Nat) (c : Nat → Nat → Int32) : Prop := C ≤ 16 ∧ W ≤ 12 ∧ σ.1 12 2 = nI C ∧ σ.1 39 12 = nI C ∧ σ.1 12 3 = nI W ∧ σ.1 39 13 = nI W ∧ (C = 0 → W = 0) ∧ (∀ i, i < C → ∀ k, k < W → σ.2.1 13 (12 * i + k) = c i k ∧ σ.2.1 46 (12 * i + k) = c i k) ∧ σ.1 12 4 = nI (spr c W C) ∧ 0 < spr c W C
/-- the adapter -/
def AdaI (σ : St) (N : Nat) (t : Nat → Int32) : Prop := RowH σ 17 N t ∧ N ≤ 30 ∧ σ.1 39 15 = nI N ∧ (∀ k, k < N → σ.2.1 47 k = t k) ∧ (N = 0 ∨ 3 ≤ N)
/-- the limits -/
def LimI (σ : St) (a b c : Nat) : Prop := a ≤ 93 ∧ b ≤ 93 ∧ c ≤ 120 ∧ σ.1 16 1 = nI a ∧ σ.1 39 16 = nI a ∧ σ.1 16 2 = nI b ∧ σ.1 39 17 = nI b ∧ σ.1 16 3 = nI c ∧ σ.1 39 18 = nI c
/-- what holds of reads -/
def RdV (n : Nat) (ns lc : Nat → Nat) (nm lt ql : Nat → Nat → Int32) : Prop := ∀ i, i < n → ns i ≤ 40 ∧ lc i ≤ 120 ∧ 0 < lc i ∧ (∀ k, k < ns i → isSg (nm i k) = true) ∧ (∀ k, k < lc i → isL (lt i k) = true) ∧ ∀ k, k < lc i → ∃ q : Nat, q ≤ 93 ∧ ql i k = nI q
/-- the reads -/
def RdI (σ : St) (n m : Nat) (st ns lc : Nat → Nat) (nm lt ql : Nat → Nat → Int32) : Prop := σ.2.2.2.1 = !σ.2.2.1 ∧ RdC σ σ.2.2.1 n m st ns lc nm lt ∧ RdQ σ σ.2.2.1 n m st ns lc ql ∧ MRI σ n ns lc nm lt ql ∧ RdV n ns lc nm lt ql
/-- what a read is counted by; two tags are the same -/
abbrev ctd (bn : Nat → Int32) (sh : Nat → Bool) (i : Nat) : Prop := bn i ≠ -1 ∧ sh i = false
def sme (bn : Nat → Int32) (lt : Nat → Nat → Int32) (W u i j : Nat) : Prop := bn i = bn j ∧ ds (fun k => lt i (W + k)) (fun k => lt j (W + k)) u = 0
/-- the sorted state -/
def SoD (σ : St) (n : Nat) (lc : Nat → Nat) (lt ql : Nat → Nat → Int32) : Prop := ∃ (B W u : Nat) (bn gr : Nat → Int32) (bg en rp : Nat → Nat) (sh : Nat → Bool), B ≤ 16 ∧ W ≤ 12 ∧ u ≤ 12 ∧ σ.1 19 7 = nI n ∧ σ.1 19 8 = nI B ∧ σ.1 39 20 = nI B ∧ σ.1 39 33 = nI W ∧ σ.1 39 21 = nI u ∧
  (∀ i, i < n → σ.2.1 20 i = bn i ∧ σ.2.1 48 i = bn i ∧ σ.2.1 21 i = nI (bg i) ∧ σ.2.1 49 i = nI (bg i) ∧ σ.2.1 22 i = nI (en i) ∧ σ.2.1 50 i = nI (en i) ∧ σ.2.1 24 i = bI (sh i) ∧ σ.2.1 51 i = bI (sh i) ∧ σ.2.1 23 i = nI (smq (ql i) (bg i) (en i - bg i)) ∧ σ.2.1 30 i = gr i ∧ σ.2.1 52 i = gr i ∧ σ.2.1 27 i = (if ctd bn sh i then bn i else -1) ∧ (bn i = -1 ∨ ∃ b, b < B ∧ bn i = nI b) ∧ bg i ≤ en i ∧ en i ≤ lc i) ∧
  (∀ i, n ≤ i → i < 60 → σ.2.1 27 i = -1 ∧ σ.2.1 30 i = -1) ∧
  (∀ i, i < n → ctd bn sh i → W + u ≤ lc i ∧ σ.2.1 28 i = nI (rp i) ∧ rp i ≤ i ∧ ctd bn sh (rp i) ∧ sme bn lt W u i (rp i) ∧ ∀ j, j < rp i → ctd bn sh j → ¬ sme bn lt W u i j) ∧
  (∀ i, i < n → ¬ ctd bn sh i → gr i = -1) ∧
  (∀ i, i < n → ∀ j, j < n → ctd bn sh i → ctd bn sh j → sme bn lt W u i j → gr i = gr j) ∧
  (∀ b, b < B → ∃ G : Nat, G ≤ 60 ∧ σ.2.1 32 b = nI G ∧ (∀ i, i < n → ctd bn sh i → bn i = nI b → ∃ q, q < G ∧ gr i = nI q) ∧ ∀ q, q < G → ∃ i, i < n ∧ ctd bn sh i ∧ bn i = nI b ∧ gr i = nI q)
def SoI (σ : St) (n : Nat) (lc : Nat → Nat) (lt ql : Nat → Nat → Int32) : Prop := ∃ sd : Bool, σ.1 19 6 = bI sd ∧ σ.1 39 19 = bI sd ∧ (sd = true → SoD σ n lc lt ql)
def Inv (σ : St) : Prop := (∃ N t, TapI σ N t) ∧ (∃ N t, OutI σ N t) ∧ PlaI σ ∧ (∃ C W c, CodI σ C W c) ∧ (∃ N t, AdaI σ N t) ∧ (∃ a b c, LimI σ a b c) ∧ ∃ n m st ns lc nm lt ql, RdI σ n m st ns lc nm lt ql ∧ SoI σ n lc lt ql
variable {σ σ' : St} {ps fs qs : List Nat}
theorem RowH.frg {p n : Nat} {f : Nat → Int32} (h : RowH σ p n f) (h1 : σ'.1 p = σ.1 p) (h2 : σ'.2.1 (p + 1) = σ.2.1 (p + 1)) : RowH σ' p n f := ⟨by rw [h1]; exact h.1, h.2.1, fun k hk => by rw [h2]; exact h.2.2 k hk⟩
theorem TapI.fr {N : Nat} {t : Nat → Int32} (h : TapI σ N t) (hf : FrG σ σ' ps fs qs) (hd : offL ps fs qs [1] [1] [2, 40] = true) : TapI σ' N t := by
  obtain ⟨k1, k2, k3⟩ := hf.off hd
  exact ⟨h.1.frg (k1 1 (by decide)) (k3 2 (by decide)), by rw [k2 1 (by decide)]; exact h.2.1, by rw [k3 40 (by decide)]; exact h.2.2.1, h.2.2.2⟩
theorem OutI.fr {N : Nat} {t : Nat → Int32} (h : OutI σ N t) (hf : FrG σ σ' ps fs qs) (hd : offL ps fs qs [3] [29] [4, 53] = true) : OutI σ' N t := by
  obtain ⟨k1, k2, k3⟩ := hf.off hd
  exact ⟨h.1.frg (k1 3 (by decide)) (k3 4 (by decide)), by rw [k2 29 (by decide)]; exact h.2.1, by rw [k3 53 (by decide)]; exact h.2.2.1, h.2.2.2⟩
theorem PlaI.fr (h : PlaI σ) (hf : FrG σ σ' ps fs qs) (hd : offL ps fs qs [0] [2] [] = true) : PlaI σ' := by
  obtain ⟨k1, k2, k3⟩ := hf.off hd
  show σ'.1 0 7 = σ'.1 39 2
  rw [k1 0 (by decide), k2 2 (by decide)]
  exact h
theorem CodI.fr {C W : Nat} {c : Nat → Nat → Int32} (h : CodI σ C W c) (hf : FrG σ σ' ps fs qs) (hd : offL ps fs qs [12] [12, 13] [13, 46] = true) : CodI σ' C W c := by
  obtain ⟨k1, k2, k3⟩ := hf.off hd
  unfold CodI
  rw [k1 12 (by decide), k2 12 (by decide), k2 13 (by decide), k3 13 (by decide), k3 46 (by decide)]
  exact h
theorem AdaI.fr {N : Nat} {t : Nat → Int32} (h : AdaI σ N t) (hf : FrG σ σ' ps fs qs) (hd : offL ps fs qs [17] [15] [18, 47] = true) : AdaI σ' N t := by
  obtain ⟨k1, k2, k3⟩ := hf.off hd
  exact ⟨h.1.frg (k1 17 (by decide)) (k3 18 (by decide)), h.2.1, by rw [k2 15 (by decide)]; exact h.2.2.1, by rw [k3 47 (by decide)]; exact h.2.2.2.1, h.2.2.2.2⟩
theorem LimI.fr {a b c : Nat} (h : LimI σ a b c) (hf : FrG σ σ' ps fs qs) (hd : offL ps fs qs [] [16, 17, 18] [] = true) (h1 : σ'.1 16 1 = σ.1 16 1) (h2 : σ'.1 16 2 = σ.1 16 2) (h3 : σ'.1 16 3 = σ.1 16 3) : LimI σ' a b c := by
  obtain ⟨k1, k2, k3⟩ := hf.off hd
  unfold LimI
  rw [h1, h2, h3, k2 16 (by decide), k2 17 (by decide), k2 18 (by decide)]
  exact h
theorem LimI.fr16 {a b c : Nat} (h : LimI σ a b c) (hf : FrG σ σ' ps fs qs) (hd : offL ps fs qs [16] [16, 17, 18] [] = true) : LimI σ' a b c := by
  obtain ⟨k1, k2, k3⟩ := hf.off hd
  unfold LimI
  rw [k1 16 (by decide), k2 16 (by decide), k2 17 (by decide), k2 18 (by decide)]
  exact h
theorem RdI.fr {n m : Nat} {st ns lc : Nat → Nat} {nm lt ql : Nat → Nat → Int32} (h : RdI σ n m st ns lc nm lt ql) (hf : FrG σ σ' ps fs qs) (hd : offL ps fs qs [6, 7, 33, 34] [9] [8, 9, 10, 11, 35, 36, 37, 38, 41, 42, 43, 44, 45] = true) : RdI σ' n m st ns lc nm lt ql := by
  obtain ⟨k1, k2, k3⟩ := hf.off hd
  obtain ⟨h1, h2, h3, h4, h5⟩ := h
  have e : σ'.2.2 = σ.2.2 := hf.2.2.2
  refine ⟨by rw [e]; exact h1, ?_, ?_, ?_, h5⟩
  · rw [e]
    unfold RdC
    generalize σ.2.2.1 = b at h2 ⊢
    cases b
    · show σ'.1 6 4 = nI n ∧ n ≤ 60 ∧ σ'.1 7 1 = nI m ∧ m ≤ 6000 ∧ ∀ i, i < n → (σ'.2.1 9 i = nI (st i) ∧ σ'.2.1 10 i = nI (ns i) ∧ σ'.2.1 11 i = nI (lc i) ∧ st i + ns i + lc i ≤ m ∧ (∀ k, k < ns i → σ'.2.1 8 (st i + k) = nm i k) ∧ ∀ k, k < lc i → σ'.2.1 8 (st i + ns i + k) = lt i k)
      rw [k1 6 (by decide), k1 7 (by decide), k3 8 (by decide), k3 9 (by decide), k3 10 (by decide), k3 11 (by decide)]
      exact h2
    · show σ'.1 33 4 = nI n ∧ n ≤ 60 ∧ σ'.1 34 1 = nI m ∧ m ≤ 6000 ∧ ∀ i, i < n → (σ'.2.1 36 i = nI (st i) ∧ σ'.2.1 37 i = nI (ns i) ∧ σ'.2.1 38 i = nI (lc i) ∧ st i + ns i + lc i ≤ m ∧ (∀ k, k < ns i → σ'.2.1 35 (st i + k) = nm i k) ∧ ∀ k, k < lc i → σ'.2.1 35 (st i + ns i + k) = lt i k)
      rw [k1 33 (by decide), k1 34 (by decide), k3 35 (by decide), k3 36 (by decide), k3 37 (by decide), k3 38 (by decide)]
      exact h2
  · rw [e]
    unfold RdQ
    generalize σ.2.2.1 = b at h3 ⊢
    cases b
    · show (σ'.1 6 5 = 0 ∧ ∀ i, i < n → ∀ k, k < lc i → ql i k = 40) ∨ (σ'.1 6 5 = 1 ∧ ∀ i, i < n → st i + ns i + lc i + lc i ≤ m ∧ ∀ k, k < lc i → σ'.2.1 8 (st i + ns i + lc i + k) = ql i k + 33)
      rw [k1 6 (by decide), k3 8 (by decide)]
      exact h3
    · show (σ'.1 33 5 = 0 ∧ ∀ i, i < n → ∀ k, k < lc i → ql i k = 40) ∨ (σ'.1 33 5 = 1 ∧ ∀ i, i < n → st i + ns i + lc i + lc i ≤ m ∧ ∀ k, k < lc i → σ'.2.1 35 (st i + ns i + lc i + k) = ql i k + 33)
      rw [k1 33 (by decide), k3 35 (by decide)]
      exact h3
  · unfold MRI
    rw [k2 9 (by decide), k3 41 (by decide), k3 42 (by decide), k3 43 (by decide), k3 44 (by decide), k3 45 (by decide)]
    exact h4
theorem SoD.fr {n : Nat} {lc : Nat → Nat} {lt ql : Nat → Nat → Int32} (h : SoD σ n lc lt ql) (hf : FrG σ σ' ps fs qs) (hd : offL ps fs qs [19] [20, 21, 33] [20, 21, 22, 23, 24, 27, 28, 30, 32, 48, 49, 50, 51, 52] = true) : SoD σ' n lc lt ql := by
  obtain ⟨k1, k2, k3⟩ := hf.off hd
  unfold SoD
  rw [k1 19 (by decide), k2 20 (by decide), k2 21 (by decide), k2 33 (by decide), k3 20 (by decide), k3 21 (by decide), k3 22 (by decide), k3 23 (by decide), k3 24 (by decide), k3 27 (by decide), k3 28 (by decide), k3 30 (by decide), k3 32 (by decide), k3 48 (by decide), k3 49 (by decide), k3 50 (by decide), k3 51 (by decide), k3 52 (by decide)]
  exact h
theorem SoI.fr {n : Nat} {lc : Nat → Nat} {lt ql : Nat → Nat → Int32} (h : SoI σ n lc lt ql) (hf : FrG σ σ' ps fs qs) (hd : offL ps fs qs [19] [19, 20, 21, 33] [20, 21, 22, 23, 24, 27, 28, 30, 32, 48, 49, 50, 51, 52] = true) (hd2 : offL ps fs qs [19] [20, 21, 33] [20, 21, 22, 23, 24, 27, 28, 30, 32, 48, 49, 50, 51, 52] = true) : SoI σ' n lc lt ql := by
  obtain ⟨k1, k2, k3⟩ := hf.off hd
  obtain ⟨sd, h1, h2, h3⟩ := h
  exact ⟨sd, by rw [k1 19 (by decide)]; exact h1, by rw [k2 19 (by decide)]; exact h2, fun h => (h3 h).fr hf hd2⟩
/-- a call of the class that may throw, and the model's -/
def OpX (hs : List Nat) (o : Option Rx) (m : St → Option Rs) : Prop := ∃ (c : Nat) (r : Int32) (σ1 : St), o = some (c, r, σ1) ∧ (c = 0 ∨ c ∈ hs) ∧ ∀ J : Nat → Int64, ∃ (r' : Int32) (σ2 : St), m (sJ σ1 J) = some (r', σ2) ∧ σ2.1 39 3 = (if c = 0 then 0 else nI (hs.idxOf c + 1)) ∧ (c = 0 → r' = r) ∧ σ2.2.2.2.2 = J ∧ Inv σ2
/-- and one that may not -/
def OpS (o : Option Rs) (m : St → Option Rs) : Prop := ∃ (r : Int32) (σ1 : St), o = some (r, σ1) ∧ ∃ σ2 : St, m σ1 = some (r, σ2) ∧ Inv σ2
end IV
