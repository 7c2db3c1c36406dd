section MGR
variable {X : Gx} {τ : St} {g h : Nat → Int32} {s q : Nat}
theorem spread_no {K3 : Int32 → Int32 → Int32 → Int32 → St → Option Rs} {K14 : Int32 → Int32 → Int32 → Int32 → Int32 → St → Option Rs} {i fu : Nat} {fl : Bool} {gm : Nat → Int32} (hX : GX X) (hMI : MI X g h s q τ gm) (hi : i < gN X) (hno : ¬ (It X i ∧ gm i = nI q)) : l_X9_spreadGroup_26 K3 K14 (fu + 1) (nI (gV X)) (nI q) (bI (gw X)) (bI fl) (nI i) (nI 0) τ = K14 (nI (gV X)) (nI q) (bI (gw X)) (bI fl) (nI (i + 1)) τ := by
  obtain ⟨a1, a2, a3, a4⟩ := hMI
  have hn := hX.1
  show b_X9_spreadGroup_26 K3 K14 (l_X9_spreadGroup_26 K3 K14 fu) (nI (gV X)) (nI q) (bI (gw X)) (bI fl) (nI i) (nI 0) τ = _
  unfold b_X9_spreadGroup_26 b_X9_spreadGroup_151
  simp only [nx_e]
  rw [a4.1, if_neg (nI_ge (by omega) (by omega)), counts_e hX a4 hi, bd_s, nI_1]
  by_cases hI : It X i
  · rw [decide_eq_true hI, if_neg (by decide), gd_t (inb_n (show i < ln 52 by show i < 60; omega) (by decide)), nI_clamp (by omega), a1 i hi, if_neg (fun h => hno ⟨hI, h⟩)]
  · rw [decide_eq_false hI, if_pos (by decide)]
theorem spread_14 {K3 : Int32 → Int32 → Int32 → Int32 → St → Option Rs} (hX : GX X) (hq : q < 1000) (hgk : gOk X g q) : ∀ (fu x5 : Nat) (τ : St) (gm : Nat → Int32) (fl : Bool), x5 ≤ gN X → gN X < fu + x5 → MI X g h s q τ gm → ∃ (τ' : St) (gm' : Nat → Int32) (fl' : Bool), l_X9_spreadGroup_14 K3 fu (nI (gV X)) (nI q) (bI (gw X)) (bI fl) (nI x5) τ = K3 (nI (gV X)) (nI q) (bI (gw X)) (bI fl') τ' ∧ MI X g h s q τ' gm' ∧ FrG τ τ' [] [] [52] ∧ (∀ j, It X j → gm j = nI q → gm' j = nI q) ∧ ((fl' = fl ∧ gm' = gm ∧ ∀ i j, x5 ≤ i → It X i → gm i = nI q → It X j → gm j = -1 → ¬ Ed X i j) ∨ (fl' = true ∧ mu X gm' < mu X gm)) := by
  intro fu
  induction fu with
  | zero => intro x5 τ gm fl h1 h2; omega
  | succ fu ih =>
    intro x5 τ gm fl h1 h2 hMI
    have hn := hX.1
    show ∃ (τ' : St) (gm' : Nat → Int32) (fl' : Bool), b_X9_spreadGroup_14 K3 (l_X9_spreadGroup_14 K3 fu) (nI (gV X)) (nI q) (bI (gw X)) (bI fl) (nI x5) τ = _ ∧ _
    unfold b_X9_spreadGroup_14
    rw [hMI.2.2.2.1]
    by_cases e : x5 = gN X
    · rw [if_pos (nI_le (by omega) (by omega))]
      exact ⟨τ, gm, fl, rfl, hMI, FrG.rf, fun _ _ h => h, Or.inl ⟨rfl, rfl, fun i j hi hI => absurd hI.1 (by omega)⟩⟩
    · rw [if_neg (nI_ge (by omega) (by omega))]
      by_cases hy : It X x5 ∧ gm x5 = nI q
      · obtain ⟨τ1, gm1, fl1, k1, k2, k3, k4, k5⟩ := spread_26 (K3 := K3) (K14 := l_X9_spreadGroup_14 K3 fu) hX hq hgk hy.1 FU 0 τ gm fl (by omega) (by simp only [FU]; omega) hMI hy.2
        obtain ⟨τ2, gm2, fl2, m1, m2, m3, m4, m5⟩ := ih (x5 + 1) τ1 gm1 fl1 (by omega) (by omega) k2
        refine ⟨τ2, gm2, fl2, k1.trans m1, m2, k3.tr m3, fun j hJ hj => m4 j hJ (k4 j hJ hj), ?_⟩
        rcases k5 with ⟨c1, c2, c3⟩ | ⟨c1, c2⟩
        · subst c2
          rcases m5 with ⟨d1, d2, d3⟩ | ⟨d1, d2⟩
          · refine Or.inl ⟨d1.trans c1, d2, fun i j hi hI hgi hJ hgj => ?_⟩
            by_cases e : i = x5
            · subst e; exact c3 j (by omega) hJ hgj
            · exact d3 i j (by omega) hI hgi hJ hgj
          · exact Or.inr ⟨d1, d2⟩
        · rcases m5 with ⟨d1, d2, d3⟩ | ⟨d1, d2⟩
          · exact Or.inr ⟨d1.trans c1, by rw [d2]; exact c2⟩
          · exact Or.inr ⟨d1, by omega⟩
      · have k1 := spread_no (K3 := K3) (K14 := l_X9_spreadGroup_14 K3 fu) (fu := 19999) (fl := fl) hX hMI (by omega : x5 < gN X) hy
        obtain ⟨τ2, gm2, fl2, m1, m2, m3, m4, m5⟩ := ih (x5 + 1) τ gm fl (by omega) (by omega) hMI
        refine ⟨τ2, gm2, fl2, k1.trans m1, m2, m3, m4, ?_⟩
        rcases m5 with ⟨d1, d2, d3⟩ | d1
        · refine Or.inl ⟨d1, d2, fun i j hi hI hgi hJ hgj => ?_⟩
          by_cases e : i = x5
          · subst e; exact absurd ⟨hI, hgi⟩ hy
          · exact d3 i j (by omega) hI hgi hJ hgj
        · exact Or.inr d1
theorem spread_3a {fu : Nat} {τ : St} {x1 x2 x3 : Int32} : l_X9_spreadGroup_3 (fu + 1) x1 x2 x3 1 τ = l_X9_spreadGroup_14 (l_X9_spreadGroup_3 fu) FU x1 x2 x3 0 0 τ := by
  show b_X9_spreadGroup_3 (l_X9_spreadGroup_3 fu) x1 x2 x3 1 τ = _
  unfold b_X9_spreadGroup_3
  rw [if_neg (by decide)]
theorem spread_3b {fu : Nat} {τ : St} {x1 x2 x3 : Int32} : l_X9_spreadGroup_3 (fu + 1) x1 x2 x3 (bI false) τ = some (0, τ) := by
  show b_X9_spreadGroup_3 (l_X9_spreadGroup_3 fu) x1 x2 x3 (bI false) τ = _
  unfold b_X9_spreadGroup_3
  rw [if_pos (by decide)]
theorem spread_3 (hX : GX X) (hq : q < 1000) (hgk : gOk X g q) (hs : It X s) : ∀ (m fu : Nat) (τ : St) (gm : Nat → Int32), mu X gm ≤ m → m + 2 ≤ fu → MI X g h s q τ gm → gm s = nI q → ∃ (τ' : St) (gm' : Nat → Int32), l_X9_spreadGroup_3 fu (nI (gV X)) (nI q) (bI (gw X)) 1 τ = some (0, τ') ∧ MI X g h s q τ' gm' ∧ FrG τ τ' [] [] [52] ∧ gm' s = nI q ∧ ∀ i j, It X i → gm' i = nI q → It X j → gm' j = -1 → ¬ Ed X i j := by
  intro m
  induction m with
  | zero =>
    intro fu τ gm h1 h2 hMI hgs
    obtain ⟨fu, rfl⟩ : ∃ f, fu = f + 2 := ⟨fu - 2, by omega⟩
    obtain ⟨τ', gm', fl', k1, k2, k3, k4, k5⟩ := spread_14 (K3 := l_X9_spreadGroup_3 (fu + 1)) hX hq hgk FU 0 τ gm false (by omega) (by simp only [FU]; have := hX.1; omega) hMI
    rcases k5 with ⟨c1, c2, c3⟩ | ⟨c1, c2⟩
    · subst c2
      subst c1
      refine ⟨τ', gm', ?_, k2, k3, hgs, fun i j => c3 i j (by omega)⟩
      rw [spread_3a, show (0 : Int32) = bI false from rfl]
      rw [show nI 0 = bI false from rfl] at k1
      rw [k1, spread_3b]
      rfl
    · omega
  | succ m ih =>
    intro fu τ gm h1 h2 hMI hgs
    obtain ⟨fu, rfl⟩ : ∃ f, fu = f + 2 := ⟨fu - 2, by omega⟩
    obtain ⟨τ', gm', fl', k1, k2, k3, k4, k5⟩ := spread_14 (K3 := l_X9_spreadGroup_3 (fu + 1)) hX hq hgk FU 0 τ gm false (by omega) (by simp only [FU]; have := hX.1; omega) hMI
    rw [show nI 0 = bI false from rfl] at k1
    rcases k5 with ⟨c1, c2, c3⟩ | ⟨c1, c2⟩
    · subst c2
      subst c1
      refine ⟨τ', gm', ?_, k2, k3, hgs, fun i j => c3 i j (by omega)⟩
      rw [spread_3a, show (0 : Int32) = bI false from rfl, k1, spread_3b]
      rfl
    · subst c1
      obtain ⟨τ2, gm2, m1, m2, m3, m4, m5⟩ := ih (fu + 1) τ' gm' (by omega) (by omega) k2 (k4 s hs hgs)
      refine ⟨τ2, gm2, ?_, m2, k3.tr m3, m4, m5⟩
      rw [spread_3a, show (0 : Int32) = bI false from rfl, k1]
      exact m1
/-- the model's groups are g for its items, h for the rest -/
def MGr (X : Gx) (τ : St) (g h : Nat → Int32) : Prop := ∀ i, i < gN X → τ.2.1 52 i = (if It X i then g (rp X i) else h i)
theorem Rch_rp {i : Nat} (hi : It X i) (hg : g (rp X i) = -1) : Rch X g s i ↔ Rch X g s (rp X i) := by
  have hr := rp_Rp hi
  have o1 : Oi X g i := ⟨hi, hg⟩
  have o2 : Oi X g (rp X i) := ⟨hr.1, by rw [hr.2]; exact hg⟩
  exact ⟨fun h => h.st o1 o2 (Or.inl (by rw [gD_comm]; exact (rp_it hi).2)), fun h => h.st o2 o1 (Or.inl (rp_it hi).2)⟩
/-- the model forms one group -/
theorem mgrow_e {g' : Nat → Int32} (hX : GX X) (hq : q < 1000) (hgk : gOk X g q) (hs : Rp X s) (hgs : g s = -1) (hCh : Chr X g s q g') (hM : MX X τ) (hG : MGr X τ g h) : ∃ τ' : St, f_X9_spreadGroup (nI (gV X)) (nI q) (bI (gw X)) (sA τ 52 (nI s) (nI q)) = some (0, τ') ∧ MGr X τ' g' h ∧ FrG τ τ' [] [] [52] := by
  have hs60 : s < gN X := hs.1.1
  have hn := hX.1
  have f1 : FrG τ (sA τ 52 (nI s) (nI q)) [] [] [52] := FrG.sA
  have hMI : MI X g h s q (sA τ 52 (nI s) (nI q)) (va_up (fun i => if It X i then g (rp X i) else h i) s (nI q)) := by
    refine ⟨fun i hi => ?_, fun i hi hni => ?_, fun i hi => ?_, hM.fr f1 rfl⟩
    · rw [sA_s (by omega)]
      by_cases e : i = s
      · subst e; rw [upd_s, upN_s]
      · rw [upd_n e, upN_n e]; exact hG i hi
    · rw [upN_n (fun e => by subst e; exact hni hs.1), if_neg hni]
    · by_cases e : i = s
      · subst e
        rw [upN_s]
        exact Or.inr ⟨by rw [hs.2]; exact hgs, rfl, Rch.rf⟩
      · rw [upN_n e, if_pos hi]
        exact Or.inl rfl
  obtain ⟨τ', gm, k1, k2, k3, k4, k5⟩ := spread_3 hX hq hgk hs.1 60 FU (sA τ 52 (nI s) (nI q)) _ (Nat.le_trans (cnt_le _) hn) (by simp only [FU]; omega) hMI upN_s
  refine ⟨τ', k1, fun i hi => ?_, f1.tr k3⟩
  obtain ⟨a1, a2, a3, a4⟩ := k2
  rw [a1 i hi]
  by_cases hI : It X i
  · rw [if_pos hI]
    rcases hCh (rp X i) (rp_Rp hI) with ⟨c1, c2, c3⟩ | ⟨c1, c2⟩
    · rw [c3]
      have hRi : Rch X g s i := (Rch_rp hI c1).mpr c2
      have hP := hRi (fun j => It X j ∧ gm j = nI q) ⟨hs.1, k4⟩ (fun i j hi hoi hoj hed => by
        refine ⟨hoj.1, ?_⟩
        rcases a3 j hoj.1 with h9 | ⟨-, h9, -⟩
        · exact absurd hed (k5 i j hi.1 hi.2 hoj.1 (h9.trans hoj.2))
        · exact h9)
      exact hP.2
    · rw [c2]
      rcases a3 i hI with h9 | ⟨h9, -, h10⟩
      · exact h9
      · exact absurd ⟨h9, (Rch_rp hI h9).mp h10⟩ c1
  · rw [if_neg hI, a2 i hi hI]
/-- the model looks for the seed -/
theorem mseed {K5 : Int32 → Int32 → Int32 → Int32 → St → Option Rs} (hX : GX X) (hgk : gOk X g q) (hq : q < 1000) (hM : MX X τ) (hG : MGr X τ g h) : ∀ (fu k : Nat), k ≤ gN X → gN X < fu + k → l_X9_groupAll_16 K5 fu (nI (gV X)) (bI (gw X)) (nI q) (sdf X g k) (nI k) τ = (if sdf X g (gN X) < 0 then K5 (nI (gV X)) (bI (gw X)) (nI q) (sdf X g (gN X)) τ else gd (inb (sdf X g (gN X)) (ln 52)) (bd (f_X9_spreadGroup (nI (gV X)) (nI q) (bI (gw X)) (sA τ 52 (sdf X g (gN X)) (nI q))) (fun r6 s7 => K5 (nI (gV X)) (bI (gw X)) (nI (q + 1)) (sdf X g (gN X)) s7))) := by
  intro fu
  induction fu with
  | zero => intro k h1 h2; omega
  | succ fu ih =>
    intro k h1 h2
    have hn := hX.1
    show b_X9_groupAll_16 K5 (l_X9_groupAll_16 K5 fu) (nI (gV X)) (bI (gw X)) (nI q) (sdf X g k) (nI k) τ = _
    unfold b_X9_groupAll_16 b_X9_groupAll_66 b_X9_groupAll_70
    simp only [nx_e]
    rw [hM.1]
    by_cases e : k = gN X
    · rw [if_pos (nI_le (by omega) (by omega)), e, nI_1]
    · have hk : k < gN X := by omega
      have hd := ih (k + 1) (by omega) (by omega)
      have hs : sdf X g (k + 1) = (if Rp X k ∧ g k = -1 then (if sdf X g k = -1 then nI k else if gw X = true ∧ bf X k (sdf X g k).toNatClampNeg = true then nI k else sdf X g k) else sdf X g k) := rfl
      rw [if_neg (nI_ge (by omega) (by omega)), counts_e hX hM hk, bd_s, nI_1 k]
      by_cases hI : It X k
      · have h52 : τ.2.1 52 k = g (rp X k) := by rw [hG k hk, if_pos hI]
        rw [decide_eq_true hI, if_neg (by decide), gd_t (inb_n (show k < ln 52 by show k < 60; omega) (by decide)), nI_clamp (by omega), h52]
        rcases hgk _ (rp_Rp hI) with hop | ⟨p, p1, p2⟩
        · rw [hop, if_neg (by decide)]
          by_cases hr : rp X k = k
          · have ho : Rp X k ∧ g k = -1 := ⟨⟨hI, hr⟩, by rw [hr] at hop; exact hop⟩
            rw [if_pos ho] at hs
            by_cases h1 : sdf X g k = -1
            · rw [if_pos h1] at hs
              rw [hs] at hd
              rw [h1, if_pos (by decide)]
              exact hd
            · obtain ⟨s0, b1, b2, b3, b4⟩ := (sdf_v (X := X) (g := g) k).resolve_left h1
              rw [if_neg h1] at hs
              rw [b4, nI_clamp (by omega)] at hs
              rw [b4, if_neg (nI_pos (by omega)), isBefore_e hX hM hI b2.1, bd_s]
              by_cases hw : gw X = true
              · rw [if_pos (show bI (gw X) = (1 : Int32) by rw [hw]; rfl)]
                by_cases hb : bf X k s0 = true
                · rw [if_pos ⟨hw, hb⟩] at hs
                  rw [hs] at hd
                  rw [hb, if_neg (by decide)]
                  exact hd
                · rw [if_neg (fun h => hb h.2)] at hs
                  rw [hs] at hd
                  rw [Bool.eq_false_iff.mpr hb, if_pos (by decide)]
                  exact hd
              · rw [if_neg (fun h => hw h.1)] at hs
                rw [hs] at hd
                rw [if_neg (show ¬ bI (gw X) = (1 : Int32) by rw [Bool.eq_false_iff.mpr hw]; decide)]
                exact hd
          · have hl : rp X k ≤ k := rp_le
            have hb := sdf_b (X := X) (g := g) hn k (by omega) (rp X k) (by omega) (rp_Rp hI) hop
            rw [if_neg (fun h => hr h.1.2)] at hs
            rw [hs] at hd
            obtain ⟨s0, b1, b2, b3, b4⟩ := (sdf_v (X := X) (g := g) k).resolve_left hb.1
            rw [b4] at hd ⊢
            rw [if_neg (nI_pos (by omega)), isBefore_e hX hM hI b2.1, bd_s]
            by_cases hw : gw X = true
            · have h9 := hb.2 hw s0 (by omega) b4
              rw [bf_rp hI] at h9
              rw [if_pos (show bI (gw X) = (1 : Int32) by rw [hw]; rfl), h9, if_pos (by decide)]
              exact hd
            · rw [if_neg (show ¬ bI (gw X) = (1 : Int32) by rw [Bool.eq_false_iff.mpr hw]; decide)]
              exact hd
        · have hno : ¬ (Rp X k ∧ g k = -1) := fun h => by
            have h9 := h.2
            rw [← h.1.2, p2] at h9
            exact nI_m1' (by omega) h9
          rw [if_neg hno] at hs
          rw [hs] at hd
          rw [p2, if_pos (nI_pos' (by omega))]
          exact hd
      · rw [if_neg (fun h => hI h.1.1)] at hs
        rw [hs] at hd
        rw [decide_eq_false hI, if_pos (by decide)]
        exact hd
end MGR
