section WC
variable {σ τ : St}
/-- the first k of f -/
def tk (f : Nat → Int32) : Nat → List Int32
  | 0 => []
  | k + 1 => tk f k ++ [f k]
theorem tk_len {f : Nat → Int32} : ∀ k, (tk f k).length = k := by
  intro k
  induction k with
  | zero => rfl
  | succ k ih => simp [tk, ih]
/-- letters in lines of 60 -/
def ml (f : Nat → Int32) (L : Nat) : Nat → List Int32
  | 0 => []
  | k + 1 => ml f L k ++ [f k] ++ (if k % 60 = 59 ∧ k + 1 < L then [10] else [])
theorem ml_len {f : Nat → Int32} {L : Nat} : ∀ k, k ≤ L → (ml f L k).length = k + (if k < L then k / 60 else (k - 1) / 60) := by
  intro k
  induction k with
  | zero => intro _; simp [ml]
  | succ k ih =>
    intro hk
    simp only [ml, List.length_append, List.length_cons, List.length_nil]
    rw [ih (by omega), if_pos (by omega)]
    by_cases h : k % 60 = 59 ∧ k + 1 < L
    · rw [if_pos h, if_pos h.2]
      simp only [List.length_cons, List.length_nil]
      omega
    · rw [if_neg h]
      simp only [List.length_nil]
      by_cases h2 : k + 1 < L
      · rw [if_pos h2]
        have : k % 60 ≠ 59 := fun h3 => h ⟨h3, h2⟩
        omega
      · rw [if_neg h2]
        omega
theorem ml_add {f : Nat → Int32} {L p : Nat} (hp : p % 60 = 0) : ∀ j, j ≤ 59 → ml f L (p + j) = ml f L p ++ tk (fun k => f (p + k)) j := by
  intro j
  induction j with
  | zero => intro _; simp [tk]
  | succ j ih =>
    intro hj
    show ml f L (p + j) ++ [f (p + j)] ++ (if (p + j) % 60 = 59 ∧ p + j + 1 < L then [10] else []) = ml f L p ++ (tk (fun k => f (p + k)) j ++ [f (p + j)])
    rw [if_neg (by omega), ih (by omega), List.append_nil, List.append_assoc]
theorem ml_line {f : Nat → Int32} {L p : Nat} (hp : p % 60 = 0) (hL : p + 60 < L) : ml f L (p + 60) = ml f L p ++ tk (fun k => f (p + k)) 60 ++ [10] := by
  show ml f L (p + 59) ++ [f (p + 59)] ++ (if (p + 59) % 60 = 59 ∧ p + 59 + 1 < L then [10] else []) = ml f L p ++ (tk (fun k => f (p + k)) 59 ++ [f (p + 59)]) ++ [10]
  rw [if_pos (by omega), ml_add hp 59 (by omega)]
  simp only [List.append_assoc]
theorem ml_last {f : Nat → Int32} {L p : Nat} (hp : p % 60 = 0) (h1 : p ≤ L) (h2 : L ≤ p + 60) : ml f L L = ml f L p ++ tk (fun k => f (p + k)) (L - p) := by
  by_cases h : L - p ≤ 59
  · have := ml_add (f := f) (L := L) hp (L - p) h
    rw [show p + (L - p) = L by omega] at this
    exact this
  · have e : L = p + 60 := by omega
    subst e
    show ml f (p + 60) (p + 59) ++ [f (p + 59)] ++ (if (p + 59) % 60 = 59 ∧ p + 59 + 1 < p + 60 then [10] else []) = ml f (p + 60) p ++ tk (fun k => f (p + k)) (p + 60 - p)
    rw [if_neg (by omega), ml_add hp 59 (by omega), show p + 60 - p = 60 by omega]
    show ml f (p + 60) p ++ tk (fun k => f (p + k)) 59 ++ [f (p + 59)] ++ [] = ml f (p + 60) p ++ (tk (fun k => f (p + k)) 59 ++ [f (p + 59)])
    simp only [List.append_assoc, List.append_nil]
/-- the text of a read: its name, its letters and qualities from a on, L of them -/
def rtx (fm ns : Nat) (nm lt ql : Nat → Int32) (L : Nat) : List Int32 := if fm = 0 then [64] ++ tk nm ns ++ [10] ++ tk lt L ++ [10] ++ [43] ++ [10] ++ tk (fun k => 33 + ql k) L ++ [10] else [62] ++ tk nm ns ++ [10] ++ (ml lt L L ++ [10])
theorem rtx_len {fm ns L : Nat} {nm lt ql : Nat → Int32} (hL : 0 < L) : (rtx fm ns nm lt ql L).length = if fm = 0 then ns + 2 * L + 6 else ns + L + (L + 59) / 60 + 2 := by
  unfold rtx
  by_cases h : fm = 0
  · rw [if_pos h, if_pos h]
    simp only [List.length_append, List.length_cons, List.length_nil, tk_len]
    omega
  · rw [if_neg h, if_neg h]
    simp only [List.length_append, List.length_cons, List.length_nil, tk_len, ml_len L (Nat.le_refl _), if_neg (Nat.lt_irrefl L)]
    omega
/-- the written row holds a list -/
def RwL (τ : St) (l : List Int32) : Prop := RowH τ 3 l.length (fun k => l.getD k 0)
theorem getD_app {l : List Int32} {v : Int32} {k : Nat} : (l ++ [v]).getD k 0 = if k < l.length then l.getD k 0 else if k = l.length then v else 0 := by
  simp only [List.getD_eq_getElem?_getD, List.getElem?_append]
  by_cases h : k < l.length
  · simp [h]
  · by_cases h2 : k = l.length
    · subst h2; simp
    · have : ¬ k - l.length = 0 := by omega
      rw [if_neg h, if_neg h, if_neg h2]
      obtain ⟨d, hd⟩ : ∃ d, k - l.length = d + 1 := ⟨k - l.length - 1, by omega⟩
      rw [hd]
      rfl
theorem cput {l : List Int32} {v : Int32} (h : RwL τ l) (hl : l.length < 12000) : ∃ τ', f_X4_add 3 v τ = some (0, τ') ∧ RwL τ' (l ++ [v]) ∧ FrG τ τ' [3] [] [4] := by
  refine ⟨rAdd τ 3 l.length v, add_e (Or.inr (Or.inl rfl)) h.1 hl, ?_, FrG.of add_fr rfl⟩
  have := add_row (v := v) (Or.inr (Or.inl rfl)) h hl
  unfold RwL
  rw [List.length_append]
  refine this.cg (fun k hk => ?_)
  rw [getD_app]
  by_cases e : k = l.length
  · subst e; rw [upd_s, if_neg (Nat.lt_irrefl _), if_pos rfl]
  · rw [upd_n e, if_pos (by have : k < l.length + 1 := hk; omega)]
/-- something is put at the end of the written row -/
def CP (σ : St) (l x : List Int32) (o : Option Rs) : Prop := ∃ τ', o = some (0, τ') ∧ RwL τ' (l ++ x) ∧ FrG σ τ' [3] [] [4]
variable {n m : Nat} {st ns lc : Nat → Nat} {nm lt ql : Nat → Nat → Int32}
theorem rdc4 (hR : RdI σ n m st ns lc nm lt ql) (hf : FrG σ τ [3] [] [4]) : RdC τ σ.2.2.1 n m st ns lc nm lt ∧ RdQ τ σ.2.2.1 n m st ns lc ql := by
  have h := hR.fr hf rfl
  have e : τ.2.2 = σ.2.2 := hf.2.2.2
  rw [← e]
  exact ⟨h.2.1, h.2.2.1⟩
theorem putName_e {i : Nat} {l : List Int32} (hR : RdI σ n m st ns lc nm lt ql) (hi : i < n) (hl : l.length + ns i + 1 ≤ 12000) (h : RwL τ l) (hf : FrG σ τ [3] [] [4]) : CP σ l (tk (nm i) (ns i) ++ [10]) (f_X7_putName 3 σ.2.2.1 (nI i) τ) := by
  have hv := (hR.2.2.2.2 i hi).1
  have key : ∀ (fu k : Nat) (τ : St), k ≤ ns i → ns i < fu + k → RwL τ (l ++ tk (nm i) k) → FrG σ τ [3] [] [4] → CP σ l (tk (nm i) (ns i) ++ [10]) (l_X7_putName_2 3 σ.2.2.1 fu (nI i) (nI k) τ) := by
    intro fu
    induction fu with
    | zero => intro k τ h1 h2; omega
    | succ fu ih =>
      intro k τ h1 h2 h hf
      show CP σ l _ (b_X7_putName_2 3 σ.2.2.1 (l_X7_putName_2 3 σ.2.2.1 fu) (nI i) (nI k) τ)
      unfold b_X7_putName_2
      rw [nameSize_in (rdc4 hR hf).1 hi, bd_s]
      by_cases e : k = ns i
      · subst e
        rw [if_pos (nI_le (Nat.le_refl _) (by omega))]
        obtain ⟨τ', g1, g2, g3⟩ := cput (v := 10) h (by rw [List.length_append, tk_len]; omega)
        rw [g1, bd_s]
        exact ⟨τ', rfl, by rw [← List.append_assoc]; exact g2, hf.tr g3⟩
      · rw [if_neg (nI_ge (by omega) (by omega)), nameOctet_in (rdc4 hR hf).1 hi (by omega : k < ns i), bd_s]
        obtain ⟨τ', g1, g2, g3⟩ := cput (v := nm i k) h (by rw [List.length_append, tk_len]; omega)
        rw [g1, bd_s, nx_e, nI_1]
        exact ih (k + 1) τ' (by omega) (by omega) (by rw [List.append_assoc] at g2; exact g2) (hf.tr g3)
  exact key FU 0 τ (by omega) (by simp only [FU]; omega) (by rw [tk, List.append_nil]; exact h) hf
theorem putLetters_e {i a e : Nat} {l : List Int32} (hR : RdI σ n m st ns lc nm lt ql) (hi : i < n) (hae : a ≤ e) (he : e ≤ lc i) (hl : l.length + (e - a) + 1 ≤ 12000) (h : RwL τ l) (hf : FrG σ τ [3] [] [4]) : CP σ l (tk (fun k => lt i (a + k)) (e - a) ++ [10]) (f_X7_putLetters 3 σ.2.2.1 (nI i) (nI a) (nI e) τ) := by
  have hv := (hR.2.2.2.2 i hi).2.1
  have key : ∀ (fu k : Nat) (τ : St), a + k ≤ e → e < fu + (a + k) → RwL τ (l ++ tk (fun k => lt i (a + k)) k) → FrG σ τ [3] [] [4] → CP σ l (tk (fun k => lt i (a + k)) (e - a) ++ [10]) (l_X7_putLetters_3 3 σ.2.2.1 fu (nI i) (nI e) (nI (a + k)) τ) := by
    intro fu
    induction fu with
    | zero => intro k τ h1 h2; omega
    | succ fu ih =>
      intro k τ h1 h2 h hf
      show CP σ l _ (b_X7_putLetters_3 3 σ.2.2.1 (l_X7_putLetters_3 3 σ.2.2.1 fu) (nI i) (nI e) (nI (a + k)) τ)
      unfold b_X7_putLetters_3
      by_cases e1 : a + k = e
      · rw [if_pos (nI_le (by omega) (by omega))]
        obtain ⟨τ', g1, g2, g3⟩ := cput (v := 10) h (by rw [List.length_append, tk_len]; omega)
        rw [g1, bd_s]
        exact ⟨τ', rfl, by rw [show e - a = k by omega, ← List.append_assoc]; exact g2, hf.tr g3⟩
      · rw [if_neg (nI_ge (by omega) (by omega)), letterOctet_in (rdc4 hR hf).1 hi (by omega : a + k < lc i), bd_s]
        obtain ⟨τ', g1, g2, g3⟩ := cput (v := lt i (a + k)) h (by rw [List.length_append, tk_len]; omega)
        rw [g1, bd_s, nx_e, nI_1]
        exact ih (k + 1) τ' (by omega) (by omega) (by rw [List.append_assoc] at g2; exact g2) (hf.tr g3)
  exact key FU 0 τ (by omega) (by simp only [FU]; omega) (by rw [tk, List.append_nil]; exact h) hf
theorem putQualities_e {i a e : Nat} {l : List Int32} (hR : RdI σ n m st ns lc nm lt ql) (hi : i < n) (hae : a ≤ e) (he : e ≤ lc i) (hl : l.length + (e - a) + 1 ≤ 12000) (h : RwL τ l) (hf : FrG σ τ [3] [] [4]) : CP σ l (tk (fun k => 33 + ql i (a + k)) (e - a) ++ [10]) (f_X7_putQualities 3 σ.2.2.1 (nI i) (nI a) (nI e) τ) := by
  have hv := (hR.2.2.2.2 i hi).2.1
  have key : ∀ (fu k : Nat) (τ : St), a + k ≤ e → e < fu + (a + k) → RwL τ (l ++ tk (fun k => 33 + ql i (a + k)) k) → FrG σ τ [3] [] [4] → CP σ l (tk (fun k => 33 + ql i (a + k)) (e - a) ++ [10]) (l_X7_putQualities_3 3 σ.2.2.1 fu (nI i) (nI e) (nI (a + k)) τ) := by
    intro fu
    induction fu with
    | zero => intro k τ h1 h2; omega
    | succ fu ih =>
      intro k τ h1 h2 h hf
      show CP σ l _ (b_X7_putQualities_3 3 σ.2.2.1 (l_X7_putQualities_3 3 σ.2.2.1 fu) (nI i) (nI e) (nI (a + k)) τ)
      unfold b_X7_putQualities_3
      by_cases e1 : a + k = e
      · rw [if_pos (nI_le (by omega) (by omega))]
        obtain ⟨τ', g1, g2, g3⟩ := cput (v := 10) h (by rw [List.length_append, tk_len]; omega)
        rw [g1, bd_s]
        exact ⟨τ', rfl, by rw [show e - a = k by omega, ← List.append_assoc]; exact g2, hf.tr g3⟩
      · rw [if_neg (nI_ge (by omega) (by omega)), quality_in (rdc4 hR hf).1 (rdc4 hR hf).2 hi (by omega : a + k < lc i), bd_s]
        obtain ⟨τ', g1, g2, g3⟩ := cput (v := 33 + ql i (a + k)) h (by rw [List.length_append, tk_len]; omega)
        rw [g1, bd_s, nx_e, nI_1]
        exact ih (k + 1) τ' (by omega) (by omega) (by rw [List.append_assoc] at g2; exact g2) (hf.tr g3)
  exact key FU 0 τ (by omega) (by simp only [FU]; omega) (by rw [tk, List.append_nil]; exact h) hf
theorem putLines_e {i a e : Nat} {l : List Int32} (hR : RdI σ n m st ns lc nm lt ql) (hi : i < n) (hae : a < e) (he : e ≤ lc i) (hl : l.length + ((e - a) + (e - a + 59) / 60) ≤ 12000) (h : RwL τ l) (hf : FrG σ τ [3] [] [4]) : CP σ l (ml (fun k => lt i (a + k)) (e - a) (e - a) ++ [10]) (l_X7_putRead_64 3 σ.2.2.1 FU (nI i) (nI e) (nI a) τ) := by
  have hv := (hR.2.2.2.2 i hi).2.1
  have key : ∀ (fu p : Nat) (τ : St), p % 60 = 0 → a + p < e → e < fu + (a + p) → RwL τ (l ++ ml (fun k => lt i (a + k)) (e - a) p) → FrG σ τ [3] [] [4] → CP σ l (ml (fun k => lt i (a + k)) (e - a) (e - a) ++ [10]) (l_X7_putRead_64 3 σ.2.2.1 fu (nI i) (nI e) (nI (a + p)) τ) := by
    intro fu
    induction fu with
    | zero => intro p τ h1 h2 h3; omega
    | succ fu ih =>
      intro p τ hp h1 h2 h hf
      show CP σ l _ (b_X7_putRead_64 3 σ.2.2.1 (l_X7_putRead_64 3 σ.2.2.1 fu) (nI i) (nI e) (nI (a + p)) τ)
      unfold b_X7_putRead_64
      rw [if_neg (nI_ge h1 (by omega)), show (60 : Int32) = nI 60 from rfl, nI_add]
      have hlen := ml_len (f := fun k => lt i (a + k)) (L := e - a) p (by omega)
      rw [if_pos (by omega)] at hlen
      by_cases hlt : e < a + p + 61
      · have hmin : (if nI e < nI (a + p + 60) then nI e else nI (a + p + 60)) = nI e := by
          by_cases h9 : e < a + p + 60
          · rw [if_pos (nI_lt h9 (by omega))]
          · rw [if_neg (nI_nlt (by omega) (by omega)), show a + p + 60 = e by omega]
        rw [hmin]
        obtain ⟨τ', g1, g2, g3⟩ := putLetters_e (a := a + p) (e := e) (l := l ++ ml (fun k => lt i (a + k)) (e - a) p) hR hi (by omega) he (by rw [List.length_append, hlen]; omega) h hf
        rw [g1, bd_s, nx_e]
        obtain ⟨fu', rfl⟩ : ∃ fu', fu = fu' + 1 := ⟨fu - 1, by omega⟩
        show CP σ l _ (b_X7_putRead_64 3 σ.2.2.1 (l_X7_putRead_64 3 σ.2.2.1 fu') (nI i) (nI e) (nI (a + p + 60)) τ')
        unfold b_X7_putRead_64 b_X7_putRead_95
        rw [if_pos (nI_le (by omega) (by omega))]
        refine ⟨τ', rfl, ?_, g3⟩
        rw [ml_last hp (by omega) (by omega), show e - a - p = e - (a + p) by omega]
        have e3 : (fun k => lt i (a + p + k)) = (fun k => (fun k => lt i (a + k)) (p + k)) := by
          funext k
          show lt i (a + p + k) = lt i (a + (p + k))
          rw [Nat.add_assoc]
        rw [e3] at g2
        simp only [List.append_assoc] at g2 ⊢
        exact g2
      · rw [if_neg (nI_nlt (by omega) (by omega))]
        obtain ⟨τ', g1, g2, g3⟩ := putLetters_e (a := a + p) (e := a + p + 60) (l := l ++ ml (fun k => lt i (a + k)) (e - a) p) hR hi (by omega) (by omega) (by rw [List.length_append, hlen]; omega) h hf
        rw [g1, bd_s, nx_e]
        refine ih (p + 60) τ' (by omega) (by omega) (by omega) ?_ g3
        rw [ml_line hp (by omega)]
        have e3 : (fun k => lt i (a + p + k)) = (fun k => (fun k => lt i (a + k)) (p + k)) := by
          funext k
          show lt i (a + p + k) = lt i (a + (p + k))
          rw [Nat.add_assoc]
        rw [e3, show a + p + 60 - (a + p) = 60 by omega] at g2
        simp only [List.append_assoc] at g2 ⊢
        exact g2
  exact key FU 0 τ (by omega) (by omega) (by simp only [FU]; omega) (by rw [ml, List.append_nil]; exact h) hf
theorem CP.bd {l x y z : List Int32} {o : Option Rs} {k : Int32 → St → Option Rs} (h : CP σ l x o) (hk : ∀ τ', RwL τ' (l ++ x) → FrG σ τ' [3] [] [4] → CP σ (l ++ x) y (k 0 τ')) (hz : z = x ++ y) : CP σ l z (bd o k) := by
  obtain ⟨τ', g1, g2, g3⟩ := h
  rw [g1, bd_s, hz]
  obtain ⟨τ2, k1, k2, k3⟩ := hk τ' g2 g3
  exact ⟨τ2, k1, by rw [List.append_assoc] at k2; exact k2, k3⟩
theorem cput_P {l : List Int32} {v : Int32} (h : RwL τ l) (hl : l.length < 12000) (hf : FrG σ τ [3] [] [4]) : CP σ l [v] (f_X4_add 3 v τ) := by
  obtain ⟨τ', g1, g2, g3⟩ := cput (v := v) h hl
  exact ⟨τ', g1, g2, hf.tr g3⟩
theorem putRead_e {fm i a e : Nat} {l : List Int32} (hfm : fm = 0 ∨ fm = 1) (hR : RdI σ n m st ns lc nm lt ql) (hi : i < n) (hae : a < e) (he : e ≤ lc i) (hl : l.length + (rtx fm (ns i) (nm i) (fun k => lt i (a + k)) (fun k => ql i (a + k)) (e - a)).length ≤ 12000) (h : RwL τ l) (hf : FrG σ τ [3] [] [4]) : CP σ l (rtx fm (ns i) (nm i) (fun k => lt i (a + k)) (fun k => ql i (a + k)) (e - a)) (f_X7_putRead 3 σ.2.2.1 (nI i) (nI fm) (nI a) (nI e) τ) := by
  rw [rtx_len (by omega)] at hl
  unfold f_X7_putRead b_X7_putRead_12 b_X7_putRead_95 rtx
  rcases hfm with rfl | rfl
  · rw [if_pos rfl] at hl
    simp only [if_pos (by decide : nI 0 = 0)]
    rw [if_pos trivial]
    refine CP.bd (y := tk (nm i) (ns i) ++ [10] ++ tk (fun k => lt i (a + k)) (e - a) ++ [10] ++ [43] ++ [10] ++ tk (fun k => 33 + ql i (a + k)) (e - a) ++ [10]) (cput_P h (by omega) hf) (fun τ1 h1 f1 => ?_) (by simp only [List.append_assoc])
    refine CP.bd (y := tk (fun k => lt i (a + k)) (e - a) ++ [10] ++ [43] ++ [10] ++ tk (fun k => 33 + ql i (a + k)) (e - a) ++ [10]) (putName_e hR hi (by simp only [List.length_append, List.length_cons, List.length_nil]; omega) h1 f1) (fun τ2 h2 f2 => ?_) (by simp only [List.append_assoc])
    refine CP.bd (y := [43] ++ [10] ++ tk (fun k => 33 + ql i (a + k)) (e - a) ++ [10]) (putLetters_e hR hi (by omega) he (by simp only [List.length_append, List.length_cons, List.length_nil, tk_len]; omega) h2 f2) (fun τ3 h3 f3 => ?_) (by simp only [List.append_assoc])
    refine CP.bd (y := [10] ++ tk (fun k => 33 + ql i (a + k)) (e - a) ++ [10]) (cput_P h3 (by simp only [List.length_append, List.length_cons, List.length_nil, tk_len]; omega) f3) (fun τ4 h4 f4 => ?_) (by simp only [List.append_assoc])
    refine CP.bd (y := tk (fun k => 33 + ql i (a + k)) (e - a) ++ [10]) (cput_P h4 (by simp only [List.length_append, List.length_cons, List.length_nil, tk_len]; omega) f4) (fun τ5 h5 f5 => ?_) (by simp only [List.append_assoc])
    refine CP.bd (y := []) (putQualities_e hR hi (by omega) he (by simp only [List.length_append, List.length_cons, List.length_nil, tk_len]; omega) h5 f5) (fun τ6 h6 f6 => ?_) (by rw [List.append_nil])
    exact ⟨τ6, rfl, by rw [List.append_nil]; exact h6, f6⟩
  · rw [if_neg (by decide : ¬ (1 : Nat) = 0)] at hl
    simp only [if_neg (by decide : ¬ nI 1 = 0)]
    rw [if_neg (by decide : ¬ (1 : Nat) = 0)]
    refine CP.bd (y := tk (nm i) (ns i) ++ [10] ++ (ml (fun k => lt i (a + k)) (e - a) (e - a) ++ [10])) (cput_P h (by omega) hf) (fun τ1 h1 f1 => ?_) (by simp only [List.append_assoc])
    refine CP.bd (y := ml (fun k => lt i (a + k)) (e - a) (e - a) ++ [10]) (putName_e hR hi (by simp only [List.length_append, List.length_cons, List.length_nil]; omega) h1 f1) (fun τ2 h2 f2 => ?_) (by simp only [List.append_assoc])
    exact putLines_e hR hi hae he (by simp only [List.length_append, List.length_cons, List.length_nil, tk_len]; omega) h2 f2
end WC
