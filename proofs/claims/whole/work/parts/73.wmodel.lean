section WM
variable {σ τ : St}
/-- what the model has made so far -/
def MkL (τ : St) (l : List Int32) : Prop := τ.1 39 30 = nI l.length ∧ ∀ k, k < l.length → k < 12000 → τ.2.1 54 k = l.getD k 0
def MP (σ : St) (l x : List Int32) (o : Option Rs) : Prop := ∃ τ', o = some (0, τ') ∧ MkL τ' (l ++ x) ∧ FrG σ τ' [] [30] [54]
theorem mput {l : List Int32} {v : Int32} (h : MkL τ l) (hl : l.length < 30000) (hf : FrG σ τ [] [30] [54]) : MP σ l [v] (f_X9_put v τ) := by
  obtain ⟨h1, h2⟩ := h
  unfold f_X9_put b_X9_put_20
  rw [h1, show (12000 : Int32) = nI 12000 from rfl]
  by_cases h9 : 12000 ≤ l.length
  · rw [if_pos (nI_le h9 (by omega)), nx_e, nI_1]
    refine ⟨_, rfl, ⟨by rw [sS_s, List.length_append]; rfl, fun k hk hk2 => ?_⟩, hf.tr (FrG.sS.mono rfl)⟩
    rw [getD_app, if_pos (by omega)]
    exact h2 k (by omega) hk2
  · simp only [nx_e]
    rw [if_neg (nI_ge (by omega) (by omega)), gd_t (inb_n (show l.length < ln 54 by show l.length < 12000; omega) (by decide)), show (sA τ 54 (nI l.length) v).1 39 30 = nI l.length from h1, nI_1]
    refine ⟨_, rfl, ⟨by rw [sS_s, List.length_append]; rfl, fun k hk hk2 => ?_⟩, (hf.tr (FrG.sA.mono rfl)).tr (FrG.sS.mono rfl)⟩
    rw [getD_app, sS_a, sA_s (by omega)]
    by_cases e : k = l.length
    · subst e; rw [upd_s, if_neg (Nat.lt_irrefl _), if_pos rfl]
    · have hk' : k < l.length + 1 := by rw [List.length_append] at hk; exact hk
      rw [upd_n e, if_pos (by omega)]
      exact h2 k (by omega) hk2
theorem MP.bd {l x y z : List Int32} {o : Option Rs} {k : Int32 → St → Option Rs} (h : MP σ l x o) (hk : ∀ τ', MkL τ' (l ++ x) → FrG σ τ' [] [30] [54] → MP σ (l ++ x) y (k 0 τ')) (hz : z = x ++ y) : MP σ l z (bd o k) := by
  obtain ⟨τ', g1, g2, g3⟩ := h
  rw [g1, bd_s, hz]
  obtain ⟨τ2, k1, k2, k3⟩ := hk τ' g2 g3
  exact ⟨τ2, k1, by rw [List.append_assoc] at k2; exact k2, k3⟩
theorem MP.cg {l x l' x' : List Int32} {o : Option Rs} (h : MP σ l x o) (e : l ++ x = l' ++ x') : MP σ l' x' o := by
  obtain ⟨τ', g1, g2, g3⟩ := h
  exact ⟨τ', g1, by rw [← e]; exact g2, g3⟩
variable {n : Nat} {ns lc : Nat → Nat} {nm lt ql : Nat → Nat → Int32}
theorem m44 (hM : MRI σ n ns lc nm lt ql) (hf : FrG σ τ [] [30] [54]) : MRI τ n ns lc nm lt ql := by
  unfold MRI
  rw [hf.2.1 9 (by decide), hf.2.2.1 41 (by decide), hf.2.2.1 42 (by decide), hf.2.2.1 43 (by decide), hf.2.2.1 44 (by decide), hf.2.2.1 45 (by decide)]
  exact hM
theorem mqual_e {i a e : Nat} {l : List Int32} (hM : MRI σ n ns lc nm lt ql) (hn : n ≤ 60) (hi : i < n) (h120 : lc i ≤ 120) (hae : a ≤ e) (he : e ≤ lc i) (hl : l.length + (e - a) + 1 < 30000) (h : MkL τ l) (hf : FrG σ τ [] [30] [54]) : MP σ l (tk (fun k => 33 + ql i (a + k)) (e - a) ++ [10]) (l_X9_putRead_146 FU (nI i) (nI e) (nI a) τ) := by
  have key : ∀ (fu k : Nat) (τ : St), a + k ≤ e → e < fu + (a + k) → MkL τ (l ++ tk (fun k => 33 + ql i (a + k)) k) → FrG σ τ [] [30] [54] → MP σ l (tk (fun k => 33 + ql i (a + k)) (e - a) ++ [10]) (l_X9_putRead_146 fu (nI i) (nI e) (nI (a + k)) τ) := by
    intro fu
    induction fu with
    | zero => intro k τ h1 h2; omega
    | succ fu ih =>
      intro k τ h1 h2 h hf
      show MP σ l _ (b_X9_putRead_146 (l_X9_putRead_146 fu) (nI i) (nI e) (nI (a + k)) τ)
      unfold b_X9_putRead_146 b_X9_putRead_184
      by_cases e1 : a + k = e
      · rw [if_pos (nI_le (by omega) (by omega))]
        refine MP.cg (MP.bd (y := []) (mput h (by rw [List.length_append, tk_len]; omega) hf) (fun τ' g1 g2 => ⟨τ', rfl, by rw [List.append_nil]; exact g1, g2⟩) (z := [10]) rfl) ?_
        rw [show e - a = k by omega, List.append_assoc]
      · rw [if_neg (nI_ge (by omega) (by omega)), show (120 : Int32) = nI 120 from rfl, pk_mul, nI_add, gd_t (inb_n (show 120 * i + (a + k) < ln 45 by show 120 * i + (a + k) < 14400; omega) (by decide)), nI_clamp (by omega), (((m44 hM hf).2 i hi).2.2.2 (a + k) (by omega)).2]
        obtain ⟨τ', g1, g2, g3⟩ := mput (v := 33 + ql i (a + k)) h (by rw [List.length_append, tk_len]; omega) hf
        rw [g1, bd_s, nx_e, nI_1]
        exact ih (k + 1) τ' (by omega) (by omega) (by rw [List.append_assoc] at g2; exact g2) g3
  exact key FU 0 τ (by omega) (by simp only [FU]; omega) (by rw [tk, List.append_nil]; exact h) hf
theorem mlet0_e {i a e : Nat} {l : List Int32} (hM : MRI σ n ns lc nm lt ql) (hn : n ≤ 60) (hi : i < n) (h120 : lc i ≤ 120) (hae : a ≤ e) (he : e ≤ lc i) (hl : l.length + 2 * (e - a) + 4 < 30000) (h : MkL τ l) (hf : FrG σ τ [] [30] [54]) : MP σ l (tk (fun k => lt i (a + k)) (e - a) ++ [10] ++ [43] ++ [10] ++ tk (fun k => 33 + ql i (a + k)) (e - a) ++ [10]) (l_X9_putRead_60 FU 0 (nI i) (nI a) (nI e) (nI a) τ) := by
  have key : ∀ (fu k : Nat) (τ : St), a + k ≤ e → e < fu + (a + k) → MkL τ (l ++ tk (fun k => lt i (a + k)) k) → FrG σ τ [] [30] [54] → MP σ l (tk (fun k => lt i (a + k)) (e - a) ++ [10] ++ [43] ++ [10] ++ tk (fun k => 33 + ql i (a + k)) (e - a) ++ [10]) (l_X9_putRead_60 fu 0 (nI i) (nI a) (nI e) (nI (a + k)) τ) := by
    intro fu
    induction fu with
    | zero => intro k τ h1 h2; omega
    | succ fu ih =>
      intro k τ h1 h2 h hf
      show MP σ l _ (b_X9_putRead_60 (l_X9_putRead_60 fu) 0 (nI i) (nI a) (nI e) (nI (a + k)) τ)
      unfold b_X9_putRead_60 b_X9_putRead_115
      by_cases e1 : a + k = e
      · rw [if_pos (nI_le (by omega) (by omega))]
        refine MP.cg (x := [10] ++ ([43] ++ ([10] ++ (tk (fun k => 33 + ql i (a + k)) (e - a) ++ [10])))) (MP.bd (y := [43] ++ ([10] ++ (tk (fun k => 33 + ql i (a + k)) (e - a) ++ [10]))) (mput h (by rw [List.length_append, tk_len]; omega) hf) (fun τ1 g1 f1 => ?_) rfl) ?_
        · rw [if_pos rfl]
          refine MP.bd (y := [10] ++ (tk (fun k => 33 + ql i (a + k)) (e - a) ++ [10])) (mput g1 (by simp only [List.length_append, List.length_cons, List.length_nil, tk_len]; omega) f1) (fun τ2 g2 f2 => ?_) rfl
          refine MP.bd (y := tk (fun k => 33 + ql i (a + k)) (e - a) ++ [10]) (mput g2 (by simp only [List.length_append, List.length_cons, List.length_nil, tk_len]; omega) f2) (fun τ3 g3 f3 => ?_) rfl
          exact mqual_e hM hn hi h120 hae he (by simp only [List.length_append, List.length_cons, List.length_nil, tk_len]; omega) g3 f3
        · rw [show e - a = k by omega]
          simp only [List.append_assoc]
      · rw [if_neg (nI_ge (by omega) (by omega)), show (120 : Int32) = nI 120 from rfl, pk_mul, nI_add, gd_t (inb_n (show 120 * i + (a + k) < ln 44 by show 120 * i + (a + k) < 14400; omega) (by decide)), nI_clamp (by omega), (((m44 hM hf).2 i hi).2.2.2 (a + k) (by omega)).1]
        obtain ⟨τ', g1, g2, g3⟩ := mput (v := lt i (a + k)) h (by rw [List.length_append, tk_len]; omega) hf
        rw [g1, bd_s, if_neg (by decide), nx_e, nI_1]
        exact ih (k + 1) τ' (by omega) (by omega) (by rw [List.append_assoc] at g2; exact g2) g3
  exact key FU 0 τ (by omega) (by simp only [FU]; omega) (by rw [tk, List.append_nil]; exact h) hf
theorem rem60 : ∀ k : Fin 121, (nI k.1 - nI k.1 / 60 * 60 = (59 : Int32)) ↔ k.1 % 60 = 59 := by decide
theorem mlet1_e {i a e : Nat} {l : List Int32} (hM : MRI σ n ns lc nm lt ql) (hn : n ≤ 60) (hi : i < n) (h120 : lc i ≤ 120) (hae : a < e) (he : e ≤ lc i) (hl : l.length + 2 * (e - a) + 4 < 30000) (h : MkL τ l) (hf : FrG σ τ [] [30] [54]) : MP σ l (ml (fun k => lt i (a + k)) (e - a) (e - a) ++ [10]) (l_X9_putRead_60 FU 1 (nI i) (nI a) (nI e) (nI a) τ) := by
  have key : ∀ (fu k : Nat) (τ : St), a + k ≤ e → e < fu + (a + k) → MkL τ (l ++ ml (fun k => lt i (a + k)) (e - a) k) → FrG σ τ [] [30] [54] → MP σ l (ml (fun k => lt i (a + k)) (e - a) (e - a) ++ [10]) (l_X9_putRead_60 fu 1 (nI i) (nI a) (nI e) (nI (a + k)) τ) := by
    intro fu
    induction fu with
    | zero => intro k τ h1 h2; omega
    | succ fu ih =>
      intro k τ h1 h2 h hf
      show MP σ l _ (b_X9_putRead_60 (l_X9_putRead_60 fu) 1 (nI i) (nI a) (nI e) (nI (a + k)) τ)
      unfold b_X9_putRead_60 b_X9_putRead_115 b_X9_putRead_184
      have hlen := ml_len (f := fun k => lt i (a + k)) (L := e - a) k (by omega)
      by_cases e1 : a + k = e
      · rw [if_pos (nI_le (by omega) (by omega))]
        rw [if_neg (by omega)] at hlen
        refine MP.cg (MP.bd (y := []) (mput h (by rw [List.length_append, hlen]; omega) hf) (fun τ' g1 g2 => by rw [if_neg (by decide)]; exact ⟨τ', rfl, by rw [List.append_nil]; exact g1, g2⟩) (z := [10]) rfl) ?_
        rw [show e - a = k by omega, List.append_assoc]
      · rw [if_pos (by omega)] at hlen
        rw [if_neg (nI_ge (by omega) (by omega)), show (120 : Int32) = nI 120 from rfl, pk_mul, nI_add, gd_t (inb_n (show 120 * i + (a + k) < ln 44 by show 120 * i + (a + k) < 14400; omega) (by decide)), nI_clamp (by omega), (((m44 hM hf).2 i hi).2.2.2 (a + k) (by omega)).1]
        obtain ⟨τ', g1, g2, g3⟩ := mput (v := lt i (a + k)) h (by rw [List.length_append, hlen]; omega) hf
        rw [g1, bd_s, if_pos rfl, show nI (a + k) - nI a = nI k by rw [pk_sub (by omega), Nat.add_sub_cancel_left]]
        simp only [nx_e, nI_1]
        have hrem := rem60 ⟨k, by omega⟩
        by_cases hr : k % 60 = 59
        · rw [if_pos (hrem.mpr hr)]
          by_cases hlast : a + k + 1 = e
          · rw [if_pos (nI_le (by omega) (by omega))]
            refine ih (k + 1) τ' (by omega) (by omega) ?_ g3
            simp only [ml]
            rw [if_neg (by omega), List.append_nil, ← List.append_assoc]
            exact g2
          · rw [if_neg (nI_ge (by omega) (by omega))]
            obtain ⟨τ2, k1, k2, k3⟩ := mput (v := 10) g2 (by rw [List.length_append, List.length_append, hlen]; show _ + 1 < 30000; omega) g3
            rw [k1, bd_s]
            refine ih (k + 1) τ2 (by omega) (by omega) ?_ k3
            simp only [ml]
            rw [if_pos (by omega)]
            simp only [List.append_assoc] at k2 ⊢
            exact k2
        · rw [if_neg (fun h9 => hr (hrem.mp h9))]
          refine ih (k + 1) τ' (by omega) (by omega) ?_ g3
          simp only [ml]
          rw [if_neg (by omega), List.append_nil, ← List.append_assoc]
          exact g2
  exact key FU 0 τ (by omega) (by simp only [FU]; omega) (by rw [ml, List.append_nil]; exact h) hf
theorem mputRead_e {fm i a e : Nat} {l : List Int32} (hfm : fm = 0 ∨ fm = 1) (hM : MRI σ n ns lc nm lt ql) (hn : n ≤ 60) (hi : i < n) (h40 : ns i ≤ 40) (h120 : lc i ≤ 120) (hae : a < e) (he : e ≤ lc i) (hl : l.length ≤ 20000) (h : MkL τ l) (hf : FrG σ τ [] [30] [54]) : MP σ l (rtx fm (ns i) (nm i) (fun k => lt i (a + k)) (fun k => ql i (a + k)) (e - a)) (f_X9_putRead (nI fm) (nI i) (nI a) (nI e) τ) := by
  have hname : ∀ (x : List Int32), (∀ (l : List Int32) (τ : St), l.length ≤ 20050 → MkL τ l → FrG σ τ [] [30] [54] → MP σ l x (l_X9_putRead_60 FU (nI fm) (nI i) (nI a) (nI e) (nI a) τ)) → ∀ (l : List Int32), l.length ≤ 20001 → ∀ (fu k : Nat) (τ : St), k ≤ ns i → ns i < fu + k → MkL τ (l ++ tk (nm i) k) → FrG σ τ [] [30] [54] → MP σ l (tk (nm i) (ns i) ++ [10] ++ x) (l_X9_putRead_18 fu (nI fm) (nI i) (nI a) (nI e) (nI k) τ) := by
    intro x hx l hl fu
    induction fu with
    | zero => intro k τ h1 h2; omega
    | succ fu ih =>
      intro k τ h1 h2 h hf
      show MP σ l _ (b_X9_putRead_18 (l_X9_putRead_18 fu) (nI fm) (nI i) (nI a) (nI e) (nI k) τ)
      unfold b_X9_putRead_18
      rw [gd_t (inb_n (show i < ln 41 by show i < 120; omega) (by decide)), nI_clamp (by omega), ((m44 hM hf).2 i hi).1]
      by_cases e1 : k = ns i
      · subst e1
        rw [if_pos (nI_le (Nat.le_refl _) (by omega))]
        refine MP.cg (x := [10] ++ x) (MP.bd (y := x) (mput h (by rw [List.length_append, tk_len]; omega) hf) (fun τ1 g1 f1 => hx _ τ1 (by simp only [List.length_append, List.length_cons, List.length_nil, tk_len]; omega) g1 f1) rfl) ?_
        simp only [List.append_assoc]
      · rw [if_neg (nI_ge (by omega) (by omega)), show (40 : Int32) = nI 40 from rfl, pk_mul, nI_add, gd_t (inb_n (show 40 * i + k < ln 42 by show 40 * i + k < 4800; omega) (by decide)), nI_clamp (by omega), ((m44 hM hf).2 i hi).2.2.1 k (by omega)]
        obtain ⟨τ', g1, g2, g3⟩ := mput (v := nm i k) h (by rw [List.length_append, tk_len]; omega) hf
        rw [g1, bd_s, nx_e, nI_1]
        exact ih (k + 1) τ' (by omega) (by omega) (by rw [List.append_assoc] at g2; exact g2) g3
  unfold f_X9_putRead b_X9_putRead_12 rtx
  rcases hfm with rfl | rfl
  · rw [if_pos (by decide : nI 0 = 0), if_pos rfl]
    refine MP.bd (y := tk (nm i) (ns i) ++ [10] ++ (tk (fun k => lt i (a + k)) (e - a) ++ [10] ++ [43] ++ [10] ++ tk (fun k => 33 + ql i (a + k)) (e - a) ++ [10])) (mput h (by omega) hf) (fun τ1 g1 f1 => ?_) (by simp only [List.append_assoc])
    exact hname _ (fun l τ hl h hf => mlet0_e hM hn hi h120 (by omega) he (by omega) h hf) (l ++ [64]) (by rw [List.length_append]; show _ + 1 ≤ 20001; omega) FU 0 τ1 (by omega) (by simp only [FU]; omega) (by rw [tk, List.append_nil]; exact g1) f1
  · rw [if_neg (by decide : ¬ nI 1 = 0), if_neg (by decide : ¬ (1 : Nat) = 0)]
    refine MP.bd (y := tk (nm i) (ns i) ++ [10] ++ (ml (fun k => lt i (a + k)) (e - a) (e - a) ++ [10])) (mput h (by omega) hf) (fun τ1 g1 f1 => ?_) (by simp only [List.append_assoc])
    exact hname _ (fun l τ hl h hf => mlet1_e hM hn hi h120 hae he (by omega) h hf) (l ++ [62]) (by rw [List.length_append]; show _ + 1 ≤ 20001; omega) FU 0 τ1 (by omega) (by simp only [FU]; omega) (by rw [tk, List.append_nil]; exact g1) f1
end WM
