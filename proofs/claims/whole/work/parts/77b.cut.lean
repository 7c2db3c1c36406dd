section CU
/-- the class's and the model's surroundings of a cut -/
def CH (b : Bool) (n m : Nat) (st ns lc : Nat → Nat) (nm lt ql : Nat → Nat → Int32) (A : Nat) (ad : Nat → Int32) (l1 l2 l3 : Nat) (τ : St) : Prop := RdC τ b n m st ns lc nm lt ∧ RdQ τ b n m st ns lc ql ∧ RowH τ 17 A ad ∧ τ.1 16 1 = nI l1 ∧ τ.1 16 2 = nI l2 ∧ τ.1 16 3 = nI l3
def FrT (τ τ' : St) : Prop := FrG τ τ' [16] [] [] ∧ ∀ j, j ≠ 4 → j ≠ 5 → τ'.1 16 j = τ.1 16 j
theorem FrT.rf {τ : St} : FrT τ τ := ⟨FrG.rf, fun _ _ _ => rfl⟩
theorem FrT.tr {τ τ1 τ2 : St} (h : FrT τ τ1) (g : FrT τ1 τ2) : FrT τ τ2 := ⟨h.1.tr g.1, fun j h1 h2 => (g.2 j h1 h2).trans (h.2 j h1 h2)⟩
theorem FrT.s {τ : St} {j : Nat} {v : Int32} (hj : j = 4 ∨ j = 5) : FrT τ (sS τ 16 j v) := ⟨frg_oS (by decide), fun k h1 h2 => sS_j (by omega)⟩
def MH (n : Nat) (ns lc : Nat → Nat) (nm lt ql : Nat → Nat → Int32) (A : Nat) (ad : Nat → Int32) (l1 l2 l3 : Nat) (τ : St) : Prop := MRI τ n ns lc nm lt ql ∧ τ.1 39 15 = nI A ∧ (∀ k, k < A → τ.2.1 47 k = ad k) ∧ τ.1 39 16 = nI l1 ∧ τ.1 39 17 = nI l2 ∧ τ.1 39 18 = nI l3
def FrM (i : Nat) (τ τ' : St) : Prop := FrG τ τ' [] [] [49, 50] ∧ ∀ k, k ≠ i → τ'.2.1 49 k = τ.2.1 49 k ∧ τ'.2.1 50 k = τ.2.1 50 k
theorem FrM.rf {i : Nat} {τ : St} : FrM i τ τ := ⟨FrG.rf, fun _ _ => ⟨rfl, rfl⟩⟩
theorem FrM.tr {i : Nat} {τ τ1 τ2 : St} (h : FrM i τ τ1) (g : FrM i τ1 τ2) : FrM i τ τ2 := ⟨h.1.tr g.1, fun k hk => ⟨(g.2 k hk).1.trans (h.2 k hk).1, (g.2 k hk).2.trans (h.2 k hk).2⟩⟩
theorem FrM.a {i q : Nat} {τ : St} {v : Int32} (hq : q = 49 ∨ q = 50) (hi : i < 60) : FrM i τ (sA τ q (nI i) v) := by
  refine ⟨by rcases hq with rfl | rfl <;> exact FrG.sA.mono rfl, fun k hk => ?_⟩
  rcases hq with rfl | rfl
  · rw [sA_s (by omega), upd_n hk, sA_q (by decide)]
    exact ⟨rfl, rfl⟩
  · rw [sA_s (by omega), upd_n hk, sA_q (by decide)]
    exact ⟨rfl, rfl⟩
variable {b : Bool} {n m A l1 l2 l3 : Nat} {st ns lc : Nat → Nat} {nm lt ql : Nat → Nat → Int32} {ad : Nat → Int32}
theorem CH.fr {τ τ' : St} (h : CH b n m st ns lc nm lt ql A ad l1 l2 l3 τ) (hf : FrT τ τ') : CH b n m st ns lc nm lt ql A ad l1 l2 l3 τ' := by
  obtain ⟨h1, h2, h3, h4, h5, h6⟩ := h
  have hb0 : bs b ∉ [16] ∧ bs b ≠ 39 := by cases b <;> decide
  have hb1 : bs b + 1 ∉ [16] ∧ bs b + 1 ≠ 39 := by cases b <;> decide
  refine ⟨?_, ?_, h3.frg (hf.1.1 17 (by decide) (by decide)) (hf.1.2.2.1 18 (by simp)), by rw [hf.2 1 (by decide) (by decide)]; exact h4, by rw [hf.2 2 (by decide) (by decide)]; exact h5, by rw [hf.2 3 (by decide) (by decide)]; exact h6⟩
  · unfold RdC at h1 ⊢
    rw [hf.1.1 (bs b) hb0.1 hb0.2, hf.1.1 (bs b + 1) hb1.1 hb1.2, hf.1.2.2.1 (bs b + 2) (by simp), hf.1.2.2.1 (bs b + 3) (by simp), hf.1.2.2.1 (bs b + 4) (by simp), hf.1.2.2.1 (bs b + 5) (by simp)]
    exact h1
  · unfold RdQ at h2 ⊢
    rw [hf.1.1 (bs b) hb0.1 hb0.2, hf.1.2.2.1 (bs b + 2) (by simp)]
    exact h2
theorem MH.fr {i : Nat} {τ τ' : St} (h : MH n ns lc nm lt ql A ad l1 l2 l3 τ) (hf : FrM i τ τ') : MH n ns lc nm lt ql A ad l1 l2 l3 τ' := by
  unfold MH MRI at h ⊢
  rw [hf.1.2.1 9 (by simp), hf.1.2.1 15 (by simp), hf.1.2.1 16 (by simp), hf.1.2.1 17 (by simp), hf.1.2.1 18 (by simp), hf.1.2.2.1 41 (by decide), hf.1.2.2.1 42 (by decide), hf.1.2.2.1 43 (by decide), hf.1.2.2.1 44 (by decide), hf.1.2.2.1 45 (by decide), hf.1.2.2.1 47 (by decide)]
  exact h
def KC (fc : St → Option Rs) (H : St → Prop) (a e a' e' : Nat) : Prop := ∀ τ, H τ → τ.1 16 4 = nI a → τ.1 16 5 = nI e → ∃ τ', fc τ = some (0, τ') ∧ τ'.1 16 4 = nI a' ∧ τ'.1 16 5 = nI e' ∧ FrT τ τ'
def KM (fm : St → Option Rs) (H : St → Prop) (i a e a' e' : Nat) : Prop := ∀ τ, H τ → τ.2.1 49 i = nI a → τ.2.1 50 i = nI e → ∃ τ', fm τ = some (0, τ') ∧ τ'.2.1 49 i = nI a' ∧ τ'.2.1 50 i = nI e' ∧ FrM i τ τ'
theorem fifth : ∀ k : Fin 31, nI k.1 / 5 = nI (k.1 / 5) := by decide
theorem sub3_lt {e x : Nat} (he : e ≤ 120) (hx : x ≤ 200) : (nI e - 3 < nI x) ↔ e < x + 3 := by
  by_cases h : 3 ≤ e
  · rw [show (3 : Int32) = nI 3 from rfl, pk_sub h]
    constructor
    · intro h2
      have := (nI_ltI (by omega) (by omega)).mp h2
      omega
    · intro h2
      exact nI_lt (by omega) (by omega)
  · have hneg : nI e - 3 < 0 := by
      have : ∀ q : Fin 3, nI q.1 - 3 < 0 := by decide
      exact this ⟨e, by omega⟩
    exact ⟨fun _ => by omega, fun _ => Int32.lt_of_lt_of_le hneg (nI_pos' (by omega))⟩
/-- the class: the adapter begins at x -/
theorem cAB {i x e : Nat} {τ : St} (H : CH b n m st ns lc nm lt ql A ad l1 l2 l3 τ) (hi : i < n) (hA : A ≤ 30) (h5 : τ.1 16 5 = nI e) (hxe : x ≤ e) (he : e ≤ lc i) (h120 : lc i ≤ 120) : f_X6_adapterBegins b (nI i) (nI x) τ = some (bI (decide (ds ad (fun j => lt i (x + j)) (min A (e - x)) ≤ (min A (e - x)) / 5)), τ) := by
  obtain ⟨h1, h2, h3, h4⟩ := H
  have key : ∀ (fu j : Nat), j ≤ min A (e - x) → min A (e - x) < fu + j → l_X6_adapterBegins_30 b fu (nI i) (nI x) (nI (min A (e - x))) (nI (min A (e - x) / 5)) (nI (ds ad (fun j => lt i (x + j)) j)) (nI j) τ = some (bI (decide (ds ad (fun j => lt i (x + j)) (min A (e - x)) ≤ (min A (e - x)) / 5)), τ) := by
    intro fu
    induction fu with
    | zero => intro j h1 h2; omega
    | succ fu ih =>
      intro j hj hfu
      show b_X6_adapterBegins_30 b (l_X6_adapterBegins_30 b fu) (nI i) (nI x) (nI (min A (e - x))) (nI (min A (e - x) / 5)) (nI (ds ad (fun j => lt i (x + j)) j)) (nI j) τ = _
      unfold b_X6_adapterBegins_30 b_X6_adapterBegins_74 b_X6_adapterBegins_86 b_X6_adapterBegins_68
      have hd0 := ds_le (f := ad) (g := fun j => lt i (x + j)) j
      rw [gz_0, gz_1]
      by_cases ej : j = min A (e - x)
      · rw [if_pos (nI_le (by omega) (by omega)), ← ej]
        by_cases hh : ds ad (fun j => lt i (x + j)) j ≤ j / 5
        · rw [if_neg (nI_nlt (by omega) (by omega)), decide_eq_true hh]; rfl
        · rw [if_pos (nI_lt (by omega) (by omega)), decide_eq_false hh]; rfl
      · rw [if_neg (nI_ge (by omega) (by omega))]
        by_cases hh : min A (e - x) / 5 < ds ad (fun j => lt i (x + j)) j
        · rw [if_pos (nI_lt hh (by omega)), if_pos (nI_lt hh (by omega))]
          have hmono : ∀ d, ds ad (fun j => lt i (x + j)) j ≤ ds ad (fun j => lt i (x + j)) (j + d) := by
            intro d
            induction d with
            | zero => exact Nat.le_refl _
            | succ d ihd =>
              have : ds ad (fun j => lt i (x + j)) (j + (d + 1)) = ds ad (fun j => lt i (x + j)) (j + d) + (if ad (j + d) = lt i (x + (j + d)) then 0 else 1) := rfl
              omega
          have := hmono (min A (e - x) - j)
          rw [show j + (min A (e - x) - j) = min A (e - x) by omega] at this
          rw [decide_eq_false (by omega)]
          rfl
        · have hd := ih (j + 1) (by omega) (by omega)
          simp only [nx_e]
          rw [if_neg (nI_nlt (by omega) (by omega)), at_in (Or.inr (Or.inr (Or.inr (Or.inr (Or.inl rfl))))) h3 (by omega : j < A), bd_s, nI_add, letterOctet_in h1 hi (by omega : x + j < lc i), bd_s]
          by_cases e2 : ad j = lt i (x + j)
          · have hs : ds ad (fun j => lt i (x + j)) (j + 1) = ds ad (fun j => lt i (x + j)) j := by simp only [ds]; rw [if_pos e2]; rfl
            rw [hs] at hd
            rw [if_pos e2, nI_1]
            exact hd
          · have hs : ds ad (fun j => lt i (x + j)) (j + 1) = ds ad (fun j => lt i (x + j)) j + 1 := by simp only [ds]; rw [if_neg e2]
            rw [hs] at hd
            rw [if_neg e2, nI_1, nI_1]
            exact hd
  unfold f_X6_adapterBegins f_X4_size
  rw [bd_s, h3.1, h5, pk_sub hxe, nI_min (by omega) (by omega), nx_e, fifth ⟨min A (e - x), by omega⟩, nx_e]
  exact key FU 0 (by omega) (by simp only [FU]; omega)
/-- the model: it counts what differs -/
theorem mAB {K : Int32 → Int32 → St → Option Rs} {i x e : Nat} {τ : St} (H : MH n ns lc nm lt ql A ad l1 l2 l3 τ) (hi : i < n) (hn : n ≤ 60) (hA : A ≤ 30) (hxe : x ≤ e) (he : e ≤ lc i) (h120 : lc i ≤ 120) : l_X9_cutAdapter_61 K FU (nI i) (nI x) (nI (min A (e - x))) 0 0 τ = (if min A (e - x) < 3 ∨ min A (e - x) / 5 < ds ad (fun j => lt i (x + j)) (min A (e - x)) then K (nI i) (nI (x + 1)) τ else K (nI i) (nI (x + 1)) (sA τ 50 (nI i) (nI x))) := by
  obtain ⟨h1, h2, h3, h4⟩ := H
  have key : ∀ (fu j : Nat), j ≤ min A (e - x) → min A (e - x) < fu + j → l_X9_cutAdapter_61 K fu (nI i) (nI x) (nI (min A (e - x))) (nI (ds ad (fun j => lt i (x + j)) j)) (nI j) τ = (if min A (e - x) < 3 ∨ min A (e - x) / 5 < ds ad (fun j => lt i (x + j)) (min A (e - x)) then K (nI i) (nI (x + 1)) τ else K (nI i) (nI (x + 1)) (sA τ 50 (nI i) (nI x))) := by
    intro fu
    induction fu with
    | zero => intro j h1 h2; omega
    | succ fu ih =>
      intro j hj hfu
      show b_X9_cutAdapter_61 K (l_X9_cutAdapter_61 K fu) (nI i) (nI x) (nI (min A (e - x))) (nI (ds ad (fun j => lt i (x + j)) j)) (nI j) τ = _
      unfold b_X9_cutAdapter_61 b_X9_cutAdapter_127 b_X9_cutAdapter_98
      have hd0 := ds_le (f := ad) (g := fun j => lt i (x + j)) j
      simp only [nx_e]
      by_cases ej : j = min A (e - x)
      · rw [if_pos (nI_le (by omega) (by omega)), ← ej, show nI j / 5 = nI (j / 5) from fifth ⟨j, by omega⟩, nI_1, gd_t (inb_n (show i < ln 50 by show i < 60; omega) (by decide)), show (3 : Int32) = nI 3 from rfl]
        by_cases c1 : j < 3
        · rw [if_pos (nI_lt c1 (by omega)), if_pos (Or.inl c1)]
        · rw [if_neg (nI_nlt (by omega) (by omega))]
          by_cases c2 : j / 5 < ds ad (fun j => lt i (x + j)) j
          · rw [if_pos (nI_lt c2 (by omega)), if_pos (Or.inr c2)]
          · rw [if_neg (nI_nlt (by omega) (by omega)), if_neg (fun h => h.elim c1 c2)]
      · have hd := ih (j + 1) (by omega) (by omega)
        rw [if_neg (nI_ge (by omega) (by omega)), show (120 : Int32) = nI 120 from rfl, pk_mul, nI_add, nI_add, gd_t (inb_n (show 120 * i + x + j < ln 44 by show 120 * i + x + j < 14400; omega) (by decide)), gd_t (inb_n (show j < ln 47 by show j < 30; omega) (by decide)), nI_clamp (by omega), nI_clamp (by omega), h3 j (by omega), show 120 * i + x + j = 120 * i + (x + j) by omega, ((h1.2 i hi).2.2.2 (x + j) (by omega)).1, nI_1]
        by_cases e2 : ad j = lt i (x + j)
        · have hs : ds ad (fun j => lt i (x + j)) (j + 1) = ds ad (fun j => lt i (x + j)) j + 0 := by simp only [ds]; rw [if_pos e2]
          rw [hs] at hd
          rw [if_pos e2.symm, show nI (ds ad (fun j => lt i (x + j)) j) + 0 = nI (ds ad (fun j => lt i (x + j)) j + 0) from nI_add _ 0]
          exact hd
        · have hs : ds ad (fun j => lt i (x + j)) (j + 1) = ds ad (fun j => lt i (x + j)) j + 1 := by simp only [ds]; rw [if_neg e2]
          rw [hs] at hd
          rw [if_neg (fun h => e2 h.symm), nI_1]
          exact hd
  exact key FU 0 (by omega) (by simp only [FU]; omega)
/-- one step of the model's search -/
theorem mcut_7 {K : Int32 → Int32 → St → Option Rs} {i x e : Nat} {τ : St} (H : MH n ns lc nm lt ql A ad l1 l2 l3 τ) (hi : i < n) (hn : n ≤ 60) (hA : A ≤ 30) (hA0 : 0 < A) (h50 : τ.2.1 50 i = nI e) (hxe : x < e) (he : e ≤ lc i) (h120 : lc i ≤ 120) : b_X9_cutAdapter_7 K (nI i) (nI x) τ = (if min A (e - x) < 3 ∨ min A (e - x) / 5 < ds ad (fun j => lt i (x + j)) (min A (e - x)) then K (nI i) (nI (x + 1)) τ else K (nI i) (nI (x + 1)) (sA τ 50 (nI i) (nI x))) := by
  have h15 := H.2.1
  unfold b_X9_cutAdapter_7 b_X9_cutAdapter_54
  rw [gd_t (inb_n (show i < ln 50 by show i < 60; omega) (by decide)), gd_t (inb_n (show i < ln 50 by show i < 60; omega) (by decide)), gd_t (inb_n (show i < ln 50 by show i < 60; omega) (by decide)), nI_clamp (by omega), h50, h15, if_neg (nI_ge hxe (by omega)), if_neg (nI_nle hA0 (by omega)), pk_sub (by omega)]
  rw [← mAB H hi hn hA (by omega) he h120]
  by_cases h : A ≤ e - x
  · rw [if_pos (nI_le h (by omega)), Nat.min_eq_left h]
  · rw [if_neg (nI_ge (by omega) (by omega)), Nat.min_eq_right (by omega)]
theorem mcut_end {i e : Nat} {τ : St} (H : MH n ns lc nm lt ql A ad l1 l2 l3 τ) (hi : i < n) (hn : n ≤ 60) (hA : A ≤ 30) (h50 : τ.2.1 50 i = nI e) (he : e ≤ lc i) (h120 : lc i ≤ 120) : ∀ (fu x : Nat), e ≤ 121 → (A = 0 ∨ e < x + 3 ∨ e ≤ x) → x ≤ 200 → 200 < fu + x → l_X9_cutAdapter_7 fu (nI i) (nI x) τ = some (0, τ) := by
  intro fu
  induction fu with
  | zero => intro x h0 h1 h2 h3; omega
  | succ fu ih =>
    intro x h0 h1 h2 h3
    show b_X9_cutAdapter_7 (l_X9_cutAdapter_7 fu) (nI i) (nI x) τ = _
    by_cases hx : e ≤ x
    · unfold b_X9_cutAdapter_7 b_X9_cutAdapter_133
      rw [gd_t (inb_n (show i < ln 50 by show i < 60; omega) (by decide)), nI_clamp (by omega), h50, if_pos (nI_le hx (by omega))]
    · by_cases hA0 : A = 0
      · unfold b_X9_cutAdapter_7 b_X9_cutAdapter_133
        rw [gd_t (inb_n (show i < ln 50 by show i < 60; omega) (by decide)), nI_clamp (by omega), h50, if_neg (nI_ge (by omega) (by omega)), H.2.1, hA0, if_pos (by decide)]
      · rw [mcut_7 H hi hn hA (by omega) h50 (by omega) he h120, if_pos (Or.inl (by omega))]
        exact ih (x + 1) h0 (by omega) (by omega) (by omega)
theorem step_adapter {i a e : Nat} (hi : i < n) (hn : n ≤ 60) (hA : A ≤ 30) (hA3 : A = 0 ∨ 3 ≤ A) (hae : a ≤ e) (he : e ≤ lc i) (h120 : lc i ≤ 120) : ∃ e', a ≤ e' ∧ e' ≤ e ∧ KC (f_X6_cutAdapter b (nI i)) (CH b n m st ns lc nm lt ql A ad l1 l2 l3) a e a e' ∧ KM (f_X9_cutAdapter (nI i)) (MH n ns lc nm lt ql A ad l1 l2 l3) i a e a e' := by
  by_cases hA0 : A = 0
  · refine ⟨e, hae, Nat.le_refl _, fun τ H h4 h5 => ⟨τ, ?_, h4, h5, FrT.rf⟩, fun τ H h4 h5 => ⟨τ, ?_, h4, h5, FrM.rf⟩⟩
    · unfold f_X6_cutAdapter f_X4_size
      rw [bd_s, H.2.2.1.1, hA0, if_pos (by decide)]
    · unfold f_X9_cutAdapter
      rw [gd_t (inb_n (show i < ln 49 by show i < 60; omega) (by decide)), nI_clamp (by omega), h4, nx_e]
      exact mcut_end H hi hn hA h5 he h120 FU a (by omega) (Or.inl hA0) (by omega) (by simp only [FU]; omega)
  · have key : ∀ (d x : Nat), e < x + d → a ≤ x → x ≤ e → ∃ e', a ≤ e' ∧ e' ≤ e ∧ (∀ (τ : St) (fu : Nat), CH b n m st ns lc nm lt ql A ad l1 l2 l3 τ → τ.1 16 4 = nI a → τ.1 16 5 = nI e → 200 < fu + x → ∃ τ', l_X6_cutAdapter_16 b fu (nI i) (nI x) τ = some (0, τ') ∧ τ'.1 16 4 = nI a ∧ τ'.1 16 5 = nI e' ∧ FrT τ τ') ∧ (∀ (τ : St) (fu : Nat), MH n ns lc nm lt ql A ad l1 l2 l3 τ → τ.2.1 49 i = nI a → τ.2.1 50 i = nI e → 201 < fu + x → ∃ τ', l_X9_cutAdapter_7 fu (nI i) (nI x) τ = some (0, τ') ∧ τ'.2.1 49 i = nI a ∧ τ'.2.1 50 i = nI e' ∧ FrM i τ τ') := by
      intro d
      induction d with
      | zero => intro x h1 h2 h3; omega
      | succ d ih =>
        intro x h1 h2 h3
        by_cases hx3 : e < x + 3
        · refine ⟨e, hae, Nat.le_refl _, fun τ fu H h4 h5 hfu => ⟨τ, ?_, h4, h5, FrT.rf⟩, fun τ fu H h4 h5 hfu => ⟨τ, ?_, h4, h5, FrM.rf⟩⟩
          · obtain ⟨fu, rfl⟩ : ∃ f, fu = f + 1 := ⟨fu - 1, by omega⟩
            show b_X6_cutAdapter_16 b (l_X6_cutAdapter_16 b fu) (nI i) (nI x) τ = _
            unfold b_X6_cutAdapter_16
            rw [h5, if_pos ((sub3_lt (by omega) (by omega)).mpr hx3)]
          · exact mcut_end H hi hn hA h5 he h120 fu x (by omega) (Or.inr (Or.inl hx3)) (by omega) (by omega)
        · by_cases hh : ds ad (fun j => lt i (x + j)) (min A (e - x)) ≤ (min A (e - x)) / 5
          · refine ⟨x, h2, h3, fun τ fu H h4 h5 hfu => ⟨sS τ 16 5 (nI x), ?_, by rw [sS_j (by decide)]; exact h4, sS_s, FrT.s (Or.inr rfl)⟩, fun τ fu H h4 h5 hfu => ⟨sA τ 50 (nI i) (nI x), ?_, by rw [sA_q (by decide)]; exact h4, by rw [sA_s (by omega), upd_s], FrM.a (Or.inr rfl) (by omega)⟩⟩
            · obtain ⟨fu, rfl⟩ : ∃ f, fu = f + 1 := ⟨fu - 1, by omega⟩
              show b_X6_cutAdapter_16 b (l_X6_cutAdapter_16 b fu) (nI i) (nI x) τ = _
              unfold b_X6_cutAdapter_16
              rw [h5, if_neg (fun h => hx3 ((sub3_lt (by omega) (by omega)).mp h)), cAB H hi hA h5 (by omega) he h120, bd_s, decide_eq_true hh, if_neg (by decide), nx_e]
            · obtain ⟨fu, rfl⟩ : ∃ f, fu = f + 1 := ⟨fu - 1, by omega⟩
              show b_X9_cutAdapter_7 (l_X9_cutAdapter_7 fu) (nI i) (nI x) τ = _
              rw [mcut_7 H hi hn hA (by omega) h5 (by omega) he h120, if_neg (by omega)]
              exact mcut_end (H.fr (FrM.a (τ := τ) (v := nI x) (Or.inr rfl) (by omega : i < 60))) hi hn hA (by rw [sA_s (by omega), upd_s]) (by omega) h120 fu (x + 1) (by omega) (Or.inr (Or.inr (by omega))) (by omega) (by omega)
          · obtain ⟨e', q1, q2, q3, q4⟩ := ih (x + 1) (by omega) (by omega) (by omega)
            refine ⟨e', q1, q2, fun τ fu H h4 h5 hfu => ?_, fun τ fu H h4 h5 hfu => ?_⟩
            · obtain ⟨fu, rfl⟩ : ∃ f, fu = f + 1 := ⟨fu - 1, by omega⟩
              show ∃ τ', b_X6_cutAdapter_16 b (l_X6_cutAdapter_16 b fu) (nI i) (nI x) τ = some (0, τ') ∧ _
              unfold b_X6_cutAdapter_16
              rw [h5, if_neg (fun h => hx3 ((sub3_lt (by omega) (by omega)).mp h)), cAB H hi hA h5 (by omega) he h120, bd_s, decide_eq_false hh, if_pos (by decide), nx_e, nI_1]
              exact q3 τ fu H h4 h5 (by omega)
            · obtain ⟨fu, rfl⟩ : ∃ f, fu = f + 1 := ⟨fu - 1, by omega⟩
              show ∃ τ', b_X9_cutAdapter_7 (l_X9_cutAdapter_7 fu) (nI i) (nI x) τ = some (0, τ') ∧ _
              rw [mcut_7 H hi hn hA (by omega) h5 (by omega) he h120, if_pos (Or.inr (by omega))]
              exact q4 τ fu H h4 h5 (by omega)
    obtain ⟨e', q1, q2, q3, q4⟩ := key (e + 1 - a) a (by omega) (Nat.le_refl _) hae
    refine ⟨e', q1, q2, fun τ H h4 h5 => ?_, fun τ H h4 h5 => ?_⟩
    · unfold f_X6_cutAdapter f_X4_size
      rw [bd_s, H.2.2.1.1, if_neg (nI_ne0 (by omega) (by omega)), h4, nx_e]
      exact q3 τ FU H h4 h5 (by simp only [FU]; omega)
    · unfold f_X9_cutAdapter
      rw [gd_t (inb_n (show i < ln 49 by show i < 60; omega) (by decide)), nI_clamp (by omega), h4, nx_e]
      exact q4 τ FU H h4 h5 (by simp only [FU]; omega)
end CU
