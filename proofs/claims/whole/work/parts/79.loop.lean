section LL
/-- what the law does with an answer -/
def cmpX (K : St → Option Rs) (r r' : Int32) (s : St) : Option Rs := bd (f_X9_thrown s) (fun r2 s2 => (if r2 = r then (if r = 0 then (if (lcm (s2.2.2.2.2 0) r'.toInt64) = 0 then K s2 else some ((0 : Int32), s2)) else K s2) else some ((0 : Int32), s2)))
theorem stepX {hs : List Nat} {o : Option Rx} {mf : St → Option Rs} (h : OpX hs o mf) (hl : hs.length ≤ 3) : ∃ σ2 : St, Inv σ2 ∧ ∀ K : St → Option Rs, bd (wr hs o) (fun r s => bd (mf s) (fun r' s' => cmpX K r r' s')) = K σ2 := by
  obtain ⟨c, r, σ1, e1, e2, e3⟩ := h
  by_cases hc : c = 0
  · subst hc
    obtain ⟨r', σ2, k1, k2, k3, k4, k5⟩ := e3 (vp_updL σ1.2.2.2.2 0 r.toInt64)
    refine ⟨σ2, k5, fun K => ?_⟩
    have hw : wr hs o = some (0, sJ σ1 (vp_updL σ1.2.2.2.2 0 r.toInt64)) := by
      rw [e1]
      rfl
    rw [hw, bd_s, k1, bd_s]
    unfold cmpX f_X9_thrown
    rw [bd_s, k2, if_pos rfl, if_pos rfl, if_pos rfl, k4, if_pos]
    have h0 : vp_updL σ1.2.2.2.2 0 r.toInt64 0 = r.toInt64 := by simp [vp_updL]
    rw [h0, k3 rfl]
    exact (lg_cmp_eq _ _).mpr rfl
  · obtain ⟨r', σ2, k1, k2, k3, k4, k5⟩ := e3 σ1.2.2.2.2
    refine ⟨σ2, k5, fun K => ?_⟩
    have hm : c ∈ hs := e2.resolve_left hc
    have hw : wr hs o = some (nI (hs.idxOf c + 1), σ1) := by
      rw [e1]
      show (if c = 0 then _ else if c ∈ hs then some (nI (hs.idxOf c + 1), σ1) else none) = _
      rw [if_neg hc, if_pos hm]
    have hi : hs.idxOf c ≤ hs.length := List.idxOf_le_length
    have k1' : mf σ1 = some (r', σ2) := k1
    rw [hw, bd_s, k1', bd_s]
    unfold cmpX f_X9_thrown
    rw [bd_s, k2, if_neg hc, if_pos rfl, if_neg (nI_ne0 (by omega) (by omega))]
theorem stepS {o : Option Rs} {mf : St → Option Rs} (h : OpS o mf) : ∃ σ2 : St, Inv σ2 ∧ ∀ K : St → Option Rs, bd o (fun r s => bd (mf s) (fun r' s' => (if r = r' then K s' else some ((0 : Int32), s')))) = K σ2 := by
  obtain ⟨r, σ1, e1, σ2, e2, e3⟩ := h
  refine ⟨σ2, e3, fun K => ?_⟩
  rw [e1, bd_s, e2, bd_s, if_pos rfl]
theorem inv0 : Inv σ0 := by
  refine ⟨⟨0, fun _ => 0, ⟨rfl, by omega, fun k hk => by omega⟩, rfl, fun k hk => by omega, fun k hk => by omega⟩, ⟨0, fun _ => 0, ⟨rfl, by omega, fun k hk => by omega⟩, rfl, fun k hk => by omega, fun k hk => by omega⟩, rfl, ⟨0, 0, fun _ _ => 0, by omega, by omega, rfl, rfl, rfl, rfl, fun _ => rfl, fun i hi => by omega, rfl, by decide⟩, ⟨0, fun _ => 0, ⟨rfl, by omega, fun k hk => by omega⟩, by omega, rfl, fun k hk => by omega, Or.inl rfl⟩, ⟨0, 0, 1, by omega, by omega, by omega, rfl, rfl, rfl, rfl, rfl, rfl⟩, 0, 0, fun _ => 0, fun _ => 0, fun _ => 0, fun _ _ => 0, fun _ _ => 0, fun _ _ => 0, ⟨rfl, ⟨rfl, by omega, rfl, by omega, fun i hi => by omega⟩, Or.inl ⟨rfl, fun i hi => by omega⟩, ⟨rfl, fun i hi => by omega⟩, fun i hi => by omega⟩, false, rfl, rfl, fun h => by cases h⟩
theorem law_e (hso : ∀ σ : St, Inv σ → ∀ x y : Int32, OpX [1] (f_X8_sort x y σ) (f_X9_sort x y)) (xs : Nat → Int32) (L : Nat) (hL : L ≤ 2048) : ∀ (fu k : Nat) (σ : St), Inv σ → k + 4 * fu ≥ 2052 → k ≤ 2051 → ∃ σ' : St, l_L_law_23 xs L fu (nI k) σ = some (1, σ') := by
  intro fu
  induction fu with
  | zero => intro k σ _ h; omega
  | succ fu ih =>
    intro k σ hI hk hk2
    show ∃ σ', b_L_law_23 xs L (l_L_law_23 xs L fu) (nI k) σ = some (1, σ')
    by_cases hend : L < k + 4
    · refine ⟨σ, ?_⟩
      unfold b_L_law_23
      rw [if_pos]
      by_cases h4 : 4 ≤ L
      · rw [show (4 : Int32) = nI 4 from rfl, pk_sub h4]
        exact nI_lt (by omega) (by omega)
      · have hneg : nI L - 4 < 0 := by
          have : ∀ q : Fin 4, nI q.1 - 4 < 0 := by decide
          exact this ⟨L, by omega⟩
        exact Int32.lt_of_lt_of_le hneg (nI_pos' (by omega))
    · have hnext : ∀ σ2 : St, Inv σ2 → ∃ σ' : St, b_L_law_941 xs L (l_L_law_23 xs L fu) (nI k) σ2 = some (1, σ') := by
        intro σ2 h2
        unfold b_L_law_941
        rw [nx_e, show (4 : Int32) = nI 4 from rfl, nI_add]
        exact ih (k + 4) σ2 h2 (by omega) (by omega)
      have hgoX : ∀ (hs : List Nat) (o : Option Rx) (mf : St → Option Rs), OpX hs o mf → hs.length ≤ 3 → ∃ σ' : St, bd (wr hs o) (fun r s => bd (mf s) (fun r' s' => cmpX (b_L_law_941 xs L (l_L_law_23 xs L fu) (nI k)) r r' s')) = some (1, σ') := by
        intro hs o mf h hl
        obtain ⟨σ2, k1, k2⟩ := stepX h hl
        obtain ⟨σ', e⟩ := hnext σ2 k1
        exact ⟨σ', (k2 _).trans e⟩
      have hgoS : ∀ (o : Option Rs) (mf : St → Option Rs), OpS o mf → ∃ σ' : St, bd o (fun r s => bd (mf s) (fun r' s' => (if r = r' then b_L_law_941 xs L (l_L_law_23 xs L fu) (nI k) s' else some ((0 : Int32), s')))) = some (1, σ') := by
        intro o mf h
        obtain ⟨σ2, k1, k2⟩ := stepS h
        obtain ⟨σ', e⟩ := hnext σ2 k1
        exact ⟨σ', (k2 _).trans e⟩
      unfold b_L_law_23
      have hcond : ¬ nI L - 4 < nI k := by
        rw [show (4 : Int32) = nI 4 from rfl, pk_sub (by omega)]
        exact nI_nlt (by omega) (by omega)
      have e1 : nI k + (1 : Int32) = nI (k + 1) := nI_1 k
      have e2 : nI k + (2 : Int32) = nI (k + 2) := nI_add k 2
      have e3 : nI k + (3 : Int32) = nI (k + 3) := nI_add k 3
      rw [if_neg hcond, gd_t (inb_n (by omega) (by omega)), nx_e]
      simp only [e1, e2, e3, gd_t (inb_n (show k + 1 < L by omega) (by omega)), gd_t (inb_n (show k + 2 < L by omega) (by omega)), gd_t (inb_n (show k + 3 < L by omega) (by omega))]
      generalize hA1 : xs (nI (k + 1)).toNatClampNeg = a1
      generalize hA2 : xs (nI (k + 2)).toNatClampNeg = a2
      generalize hA3 : xs (nI (k + 3)).toNatClampNeg = a3
      generalize xs (nI k).toNatClampNeg &&& 15 = y
      by_cases h0 : y = 0
      · rw [if_pos h0]
        exact hgoX [1] _ _ (op_feed hI _ _) (by decide)
      · rw [if_neg h0]
        by_cases h1 : y = 1
        · rw [if_pos h1]
          exact hgoX [1] _ _ (op_read hI _) (by decide)
        · rw [if_neg h1]
          by_cases h2 : y = 2
          · rw [if_pos h2]
            exact hgoS _ _ (op_place hI)
          · rw [if_neg h2]
            by_cases h3 : y = 3
            · rw [if_pos h3]
              exact hgoS _ _ (op_barcode hI)
            · rw [if_neg h3]
              by_cases h4 : y = 4
              · rw [if_pos h4]
                exact hgoS _ _ (op_adapter hI)
              · rw [if_neg h4]
                by_cases h5 : y = 5
                · rw [if_pos h5]
                  exact hgoS _ _ (op_limits hI _ _ _)
                · rw [if_neg h5]
                  by_cases h6 : y = 6
                  · rw [if_pos h6]
                    exact hgoX [2] _ _ (op_told hI _) (by decide)
                  · rw [if_neg h6]
                    by_cases h7 : y = 7
                    · rw [if_pos h7]
                      exact hgoX [1] _ _ (hso σ hI _ _) (by decide)
                    · rw [if_neg h7]
                      by_cases h8 : y = 8
                      · rw [if_pos h8]
                        exact hgoX [2] _ _ (op_about hI _ _) (by decide)
                      · rw [if_neg h8]
                        by_cases h9 : y = 9
                        · rw [if_pos h9]
                          exact hgoX [2] _ _ (op_letter hI _ _ _) (by decide)
                        · rw [if_neg h9]
                          by_cases h10 : y = 10
                          · rw [if_pos h10]
                            exact hgoX [2, 3] _ _ (op_bin hI _ _) (by decide)
                          · rw [if_neg h10]
                            by_cases h11 : y = 11
                            · rw [if_pos h11]
                              exact hgoX [2, 3] _ _ (op_group hI _ _ _) (by decide)
                            · rw [if_neg h11]
                              by_cases h12 : y = 12
                              · rw [if_pos h12]
                                by_cases hz : a3 = 0
                                · rw [if_pos hz]
                                  unfold b_L_law_803
                                  simp only [e1, e2, e3, gd_t (inb_n (show k + 1 < L by omega) (by omega)), gd_t (inb_n (show k + 2 < L by omega) (by omega)), gd_t (inb_n (show k + 3 < L by omega) (by omega)), hA1, hA2, hA3, if_pos hz]
                                  exact hgoX [1, 2, 3] _ _ (op_write hI a1 a2 0) (by decide)
                                · rw [if_neg hz]
                                  unfold b_L_law_803
                                  simp only [e1, e2, e3, gd_t (inb_n (show k + 1 < L by omega) (by omega)), gd_t (inb_n (show k + 2 < L by omega) (by omega)), gd_t (inb_n (show k + 3 < L by omega) (by omega)), hA1, hA2, hA3, if_neg hz]
                                  exact hgoX [1, 2, 3] _ _ (op_write hI a1 a2 1) (by decide)
                              · rw [if_neg h12]
                                by_cases h13 : y = 13
                                · rw [if_pos h13]
                                  exact hgoX [2] _ _ (op_out hI _) (by decide)
                                · rw [if_neg h13]
                                  by_cases h14 : y = 14
                                  · rw [if_pos h14]
                                    exact hgoS _ _ (op_again hI)
                                  · rw [if_neg h14]
                                    exact hnext σ hI
end LL
