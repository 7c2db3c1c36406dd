section OX
variable {σ τ : St} {n m : Nat} {st ns lc : Nat → Nat} {nm lt ql : Nat → Nat → Int32}
/-- the text of a read from a to e -/
def rT (fm : Nat) (ns : Nat → Nat) (nm lt ql : Nat → Nat → Int32) (fa fb : Nat → Nat) (i : Nat) : List Int32 := rtx fm (ns i) (nm i) (fun k => lt i (fa i + k)) (fun k => ql i (fa i + k)) (fb i - fa i)
theorem div60 : ∀ k : Fin 121, (nI k.1 + 60 - 1) / 60 = nI ((k.1 + 59) / 60) := by decide
theorem sizeOfRead_e {fm a L : Nat} (hfm : fm = 0 ∨ fm = 1) (hL : L ≤ 120) (hL0 : 0 < L) {nmf ltf qlf : Nat → Int32} : f_X7_sizeOfRead (nI a) (nI L) (nI fm) τ = some (nI (rtx fm a nmf ltf qlf L).length, τ) := by
  rw [rtx_len hL0]
  unfold f_X7_sizeOfRead
  rcases hfm with rfl | rfl
  · rw [if_pos (by decide), if_pos rfl, show (2 : Int32) = nI 2 from rfl, pk_mul, nI_add, show (6 : Int32) = nI 6 from rfl, nI_add]
  · rw [if_neg (by decide), if_neg (by decide), nx_e, div60 ⟨L, by omega⟩, nI_add, nI_add, show (2 : Int32) = nI 2 from rfl, nI_add]
/-- what the class says of each read -/
def ChC (σ : St) (x2 x3 : Int32) (n : Nat) (ch : Nat → Bool) (fa fb : Nat → Nat) : Prop := ∀ τ, FrG σ τ [3] [] [4] → ∀ i, i < n → f_X8_isChosen (nI i) x2 x3 τ = some (bI (ch i), τ) ∧ (ch i = true → f_X8_firstOf (nI i) x2 τ = some (nI (fa i), τ) ∧ f_X8_lastOf (nI i) x2 τ = some (nI (fb i), τ))
theorem count4 (hR : RdI σ n m st ns lc nm lt ql) (hf : FrG σ τ [3] [] [4]) : f_X3_count τ.2.2.1 τ = some (nI n, τ) := by
  have h := hR.fr hf rfl
  exact count_e h.2.1.1
theorem size_e {fm : Nat} {x2 x3 : Int32} {ch : Nat → Bool} {fa fb : Nat → Nat} (hfm : fm = 0 ∨ fm = 1) (hR : RdI σ n m st ns lc nm lt ql) (hC : ChC σ x2 x3 n ch fa fb) (hab : ∀ i, i < n → ch i = true → fa i < fb i ∧ fb i ≤ lc i) : f_X8_sizeOfText (nI fm) x2 x3 σ = some (nI (wt ch (rT fm ns nm lt ql fa fb) n).length, σ) := by
  have hn := hR.2.1.2.1
  have key : ∀ (fu k : Nat), k ≤ n → n < fu + k → l_X8_sizeOfText_6 fu (nI fm) x2 x3 (nI (wt ch (rT fm ns nm lt ql fa fb) k).length) (nI k) σ = some (nI (wt ch (rT fm ns nm lt ql fa fb) n).length, σ) := by
    intro fu
    induction fu with
    | zero => intro k h1 h2; omega
    | succ fu ih =>
      intro k h1 h2
      show b_X8_sizeOfText_6 (l_X8_sizeOfText_6 fu) (nI fm) x2 x3 (nI (wt ch (rT fm ns nm lt ql fa fb) k).length) (nI k) σ = _
      unfold b_X8_sizeOfText_6 b_X8_sizeOfText_62
      rw [count4 hR FrG.rf, bd_s]
      by_cases e : k = n
      · subst e
        rw [if_pos (nI_le (Nat.le_refl _) (by omega))]
      · have hd := ih (k + 1) (by omega) (by omega)
        have hs : (wt ch (rT fm ns nm lt ql fa fb) (k + 1)).length = (wt ch (rT fm ns nm lt ql fa fb) k).length + (if ch k = true then rT fm ns nm lt ql fa fb k else []).length := by
          show (wt ch (rT fm ns nm lt ql fa fb) k ++ _).length = _
          rw [List.length_append]
        obtain ⟨q1, q2⟩ := hC σ FrG.rf k (by omega)
        rw [if_neg (nI_ge (by omega) (by omega)), q1, bd_s]
        cases hc : ch k
        · rw [hc, if_neg (by decide), List.length_nil, Nat.add_zero] at hs
          rw [hs] at hd
          rw [if_pos (by decide), nx_e, nI_1]
          exact hd
        · obtain ⟨q3, q4⟩ := q2 hc
          have hab' := hab k (by omega) hc
          have hv := hR.2.2.2.2 k (by omega)
          rw [hc, if_pos rfl] at hs
          rw [if_neg (by decide), nameSize_in hR.2.1 (by omega), bd_s, q4, bd_s, q3, bd_s, pk_sub (by omega), sizeOfRead_e (nmf := nm k) (ltf := fun j => lt k (fa k + j)) (qlf := fun j => ql k (fa k + j)) hfm (by omega) (by omega), bd_s]
          simp only [nx_e]
          rw [nI_add, nI_1]
          rw [hs] at hd
          exact hd
  exact key FU 0 (by omega) (by simp only [FU]; omega)
theorem text_e {fm : Nat} {x2 x3 : Int32} {ch : Nat → Bool} {fa fb : Nat → Nat} (hfm : fm = 0 ∨ fm = 1) (hR : RdI σ n m st ns lc nm lt ql) (hC : ChC σ x2 x3 n ch fa fb) (hab : ∀ i, i < n → ch i = true → fa i < fb i ∧ fb i ≤ lc i) (hle : (wt ch (rT fm ns nm lt ql fa fb) n).length ≤ 12000) : ∃ σ', f_X8_writeText (nI fm) x2 x3 σ = some (0, σ') ∧ RwL σ' (wt ch (rT fm ns nm lt ql fa fb) n) ∧ FrG σ σ' [3] [] [4] := by
  have hn := hR.2.1.2.1
  have key : ∀ (fu k : Nat) (τ : St), k ≤ n → n < fu + k → RwL τ (wt ch (rT fm ns nm lt ql fa fb) k) → FrG σ τ [3] [] [4] → ∃ σ', l_X8_writeText_10 fu (nI fm) x2 x3 (nI k) τ = some (0, σ') ∧ RwL σ' (wt ch (rT fm ns nm lt ql fa fb) n) ∧ FrG σ σ' [3] [] [4] := by
    intro fu
    induction fu with
    | zero => intro k τ h1 h2; omega
    | succ fu ih =>
      intro k τ h1 h2 h hf
      show ∃ σ', b_X8_writeText_10 (l_X8_writeText_10 fu) (nI fm) x2 x3 (nI k) τ = some (0, σ') ∧ _
      unfold b_X8_writeText_10 b_X8_writeText_61
      rw [count4 hR hf, bd_s]
      by_cases e : k = n
      · subst e
        rw [if_pos (nI_le (Nat.le_refl _) (by omega))]
        exact ⟨τ, rfl, h, hf⟩
      · obtain ⟨q1, q2⟩ := hC τ hf k (by omega)
        have hs : wt ch (rT fm ns nm lt ql fa fb) (k + 1) = wt ch (rT fm ns nm lt ql fa fb) k ++ (if ch k = true then rT fm ns nm lt ql fa fb k else []) := rfl
        rw [if_neg (nI_ge (by omega) (by omega)), q1, bd_s]
        cases hc : ch k
        · rw [hc, if_neg (by decide), List.append_nil] at hs
          rw [if_pos (by decide), nx_e, nI_1]
          exact ih (k + 1) τ (by omega) (by omega) (by rw [hs]; exact h) hf
        · obtain ⟨q3, q4⟩ := q2 hc
          have hab' := hab k (by omega) hc
          rw [hc, if_pos rfl] at hs
          have hmono := wt_mono (ch := ch) (T := rT fm ns nm lt ql fa fb) (n - (k + 1)) (k + 1)
          rw [show k + 1 + (n - (k + 1)) = n by omega, hs, List.length_append] at hmono
          obtain ⟨τ', g1, g2, g3⟩ := putRead_e (l := wt ch (rT fm ns nm lt ql fa fb) k) hfm hR (by omega : k < n) hab'.1 hab'.2 (Nat.le_trans hmono hle) h hf
          rw [if_neg (by decide), q3, bd_s, q4, bd_s, show τ.2.2.1 = σ.2.2.1 by rw [hf.2.2.2], g1, bd_s, nx_e, nI_1]
          exact ih (k + 1) τ' (by omega) (by omega) (by rw [hs]; exact g2) g3
  unfold f_X8_writeText
  rw [clear_e, bd_s]
  exact key FU 0 (sS σ 3 1 0) (by omega) (by simp only [FU]; omega) clear_row ((frg_oS (by decide)).mono rfl)
/-- and what the model does with each -/
def ChM (σ : St) (x1 x2 x3 : Int32) (n : Nat) (ch : Nat → Bool) (fa fb : Nat → Nat) : Prop := ∀ τ, FrG σ τ [] [30] [54] → ∀ (K : Int32 → Int32 → Int32 → Int32 → St → Option Rs) (k : Nat), k < n → b_X9_write_70 K x1 x2 x3 (nI k) τ = (if ch k = true then bd (f_X9_putRead x1 (nI k) (nI (fa k)) (nI (fb k)) τ) (fun _ s => K x1 x2 x3 (nI (k + 1)) s) else K x1 x2 x3 (nI (k + 1)) τ)
theorem mwrite_215 {l : List Int32} (hl : l.length ≤ 12000) : ∀ (fu k : Nat) (τ : St), k ≤ l.length → l.length < fu + k → MkL τ l → (∀ j, j < k → τ.2.1 53 j = l.getD j 0) → ∃ τ', l_X9_write_215 fu (nI k) τ = some (nI l.length, τ') ∧ τ'.1 39 29 = nI l.length ∧ (∀ j, j < l.length → τ'.2.1 53 j = l.getD j 0) ∧ FrG τ τ' [] [29] [53] := by
  intro fu
  induction fu with
  | zero => intro k τ h1 h2; omega
  | succ fu ih =>
    intro k τ h1 h2 h hj
    show ∃ τ', b_X9_write_215 (l_X9_write_215 fu) (nI k) τ = some (nI l.length, τ') ∧ _
    unfold b_X9_write_215
    rw [h.1]
    by_cases e : k = l.length
    · subst e
      rw [if_pos (nI_le (Nat.le_refl _) (by omega)), nx_e, sS_s]
      exact ⟨_, rfl, sS_s, hj, FrG.sS.mono rfl⟩
    · rw [if_neg (nI_ge (by omega) (by omega)), gd_t (inb_n (show k < ln 54 by show k < 12000; omega) (by decide)), gd_t (inb_n (show k < ln 53 by show k < 12000; omega) (by decide)), nI_clamp (by omega), nx_e, nI_1, nx_e, h.2 k (by omega) (by omega)]
      obtain ⟨τ', g1, g2, g3, g4⟩ := ih (k + 1) (sA τ 53 (nI k) (l.getD k 0)) (by omega) (by omega) ⟨h.1, fun j hj1 hj2 => by rw [sA_q (by decide)]; exact h.2 j hj1 hj2⟩ (fun j hj1 => by
        rw [sA_s (by omega)]
        by_cases e : j = k
        · subst e; rw [upd_s]
        · rw [upd_n e]; exact hj j (by omega))
      exact ⟨τ', g1, g2, g3, (FrG.sA.mono rfl).tr g4⟩
theorem mwrite_e {fm : Nat} {x2 x3 : Int32} {ch : Nat → Bool} {fa fb : Nat → Nat} (hfm : fm = 0 ∨ fm = 1) (hM : MRI σ n ns lc nm lt ql) (hn : n ≤ 60) (hV : RdV n ns lc nm lt ql) (hC : ChM σ (nI fm) x2 x3 n ch fa fb) (hab : ∀ i, i < n → ch i = true → fa i < fb i ∧ fb i ≤ lc i) (hT : (wt ch (rT fm ns nm lt ql fa fb) n).length ≤ 20000) : ∀ (fu k : Nat) (τ : St), k ≤ n → n < fu + k → MkL τ (wt ch (rT fm ns nm lt ql fa fb) k) → FrG σ τ [] [30] [54] → ∃ σ', ((wt ch (rT fm ns nm lt ql fa fb) n).length ≤ 12000 → l_X9_write_70 fu (nI fm) x2 x3 (nI k) τ = some (nI (wt ch (rT fm ns nm lt ql fa fb) n).length, σ') ∧ σ'.1 39 29 = nI (wt ch (rT fm ns nm lt ql fa fb) n).length ∧ (∀ j, j < (wt ch (rT fm ns nm lt ql fa fb) n).length → σ'.2.1 53 j = (wt ch (rT fm ns nm lt ql fa fb) n).getD j 0) ∧ FrG σ σ' [] [29, 30] [53, 54]) ∧ (¬ (wt ch (rT fm ns nm lt ql fa fb) n).length ≤ 12000 → l_X9_write_70 fu (nI fm) x2 x3 (nI k) τ = some (-1, σ') ∧ FrG σ σ' [] [30] [54]) := by
  intro fu
  induction fu with
  | zero => intro k τ h1 h2; omega
  | succ fu ih =>
    intro k τ h1 h2 h hf
    have hst : ∀ o, l_X9_write_70 (fu + 1) (nI fm) x2 x3 (nI k) τ = o ↔ b_X9_write_70 (l_X9_write_70 fu) (nI fm) x2 x3 (nI k) τ = o := fun _ => Iff.rfl
    simp only [hst]
    by_cases e : k = n
    · subst e
      have h0 : b_X9_write_70 (l_X9_write_70 fu) (nI fm) x2 x3 (nI k) τ = (if nI (wt ch (rT fm ns nm lt ql fa fb) k).length ≤ 12000 then l_X9_write_215 FU 0 τ else some (-1, τ)) := by
        unfold b_X9_write_70
        rw [show τ.1 39 9 = nI k from (m44 hM hf).1, if_pos (nI_le (Nat.le_refl _) (by omega)), h.1]
      rw [h0]
      by_cases hle : (wt ch (rT fm ns nm lt ql fa fb) k).length ≤ 12000
      · rw [if_pos (show nI (wt ch (rT fm ns nm lt ql fa fb) k).length ≤ (12000 : Int32) from nI_le (b := 12000) hle (by decide))]
        obtain ⟨τ', g1, g2, g3, g4⟩ := mwrite_215 hle FU 0 τ (by omega) (by simp only [FU]; omega) h (fun j hj => by omega)
        exact ⟨τ', fun _ => ⟨g1, g2, g3, (hf.mono rfl).tr (g4.mono rfl)⟩, fun h => absurd hle h⟩
      · rw [if_neg (show ¬ nI (wt ch (rT fm ns nm lt ql fa fb) k).length ≤ (12000 : Int32) from nI_ge (b := (wt ch (rT fm ns nm lt ql fa fb) k).length) (a := 12000) (by omega) (by omega))]
        exact ⟨τ, fun h => absurd h hle, fun _ => ⟨rfl, hf⟩⟩
    · rw [hC τ hf (l_X9_write_70 fu) k (by omega)]
      have hs : wt ch (rT fm ns nm lt ql fa fb) (k + 1) = wt ch (rT fm ns nm lt ql fa fb) k ++ (if ch k = true then rT fm ns nm lt ql fa fb k else []) := rfl
      cases hc : ch k
      · rw [hc, if_neg (by decide), List.append_nil] at hs
        rw [if_neg (by decide)]
        exact ih (k + 1) τ (by omega) (by omega) (by rw [hs]; exact h) hf
      · have hab' := hab k (by omega) hc
        have hv := hV k (by omega)
        rw [hc, if_pos rfl] at hs
        have hmono := wt_mono (ch := ch) (T := rT fm ns nm lt ql fa fb) (n - k) k
        rw [show k + (n - k) = n by omega] at hmono
        obtain ⟨τ', g1, g2, g3⟩ := mputRead_e (l := wt ch (rT fm ns nm lt ql fa fb) k) hfm hM hn (by omega : k < n) hv.1 hv.2.1 hab'.1 hab'.2 (by omega) h hf
        rw [if_pos rfl, g1, bd_s]
        exact ih (k + 1) τ' (by omega) (by omega) (by rw [hs]; exact g2) g3
end OX
