section CX
def Oi (X : Gx) (g : Nat → Int32) (i : Nat) : Prop := It X i ∧ g (rp X i) = -1
def Ed (X : Gx) (i j : Nat) : Prop := gD X i j = 0 ∨ (gD X i j = 1 ∧ (gw X = false ∨ 2 * cn X (rp X j) ≤ cn X (rp X i) + 1))
/-- j is drawn, from s on -/
def Rch (X : Gx) (g : Nat → Int32) (s j : Nat) : Prop := ∀ P : Nat → Prop, P s → (∀ i j, P i → Oi X g i → Oi X g j → Ed X i j → P j) → P j
theorem Rch.rf {X : Gx} {g : Nat → Int32} {s : Nat} : Rch X g s s := fun _ h _ => h
theorem Rch.st {X : Gx} {g : Nat → Int32} {s i j : Nat} (h : Rch X g s i) (hi : Oi X g i) (hj : Oi X g j) (he : Ed X i j) : Rch X g s j := fun P h0 hs => hs i j (h P h0 hs) hi hj he
/-- g' is g with the group q of all that s draws -/
def Chr (X : Gx) (g : Nat → Int32) (s q : Nat) (g' : Nat → Int32) : Prop := ∀ r, Rp X r → (g r = -1 ∧ Rch X g s r ∧ g' r = nI q) ∨ (¬ (g r = -1 ∧ Rch X g s r) ∧ g' r = g r)
theorem Chr.ex (X : Gx) (g : Nat → Int32) (s q : Nat) : ∃ g', Chr X g s q g' := by
  have h : ∀ r, ∃ y : Int32, Rp X r → (g r = -1 ∧ Rch X g s r ∧ y = nI q) ∨ (¬ (g r = -1 ∧ Rch X g s r) ∧ y = g r) := by
    intro r
    rcases Classical.em (g r = -1 ∧ Rch X g s r) with h | h
    · exact ⟨nI q, fun _ => Or.inl ⟨h.1, h.2, rfl⟩⟩
    · exact ⟨g r, fun _ => Or.inr ⟨h, rfl⟩⟩
  obtain ⟨f, hf⟩ := Classical.axiomOfChoice h
  exact ⟨f, hf⟩
theorem Chr.uq {X : Gx} {g g1 g2 : Nat → Int32} {s q r : Nat} (h1 : Chr X g s q g1) (h2 : Chr X g s q g2) (hr : Rp X r) : g1 r = g2 r := by
  rcases h1 r hr with ⟨a1, a2, a3⟩ | ⟨a1, a2⟩ <;> rcases h2 r hr with ⟨b1, b2, b3⟩ | ⟨b1, b2⟩
  · rw [a3, b3]
  · exact absurd ⟨a1, a2⟩ b1
  · exact absurd ⟨b1, b2⟩ a1
  · rw [a2, b2]
theorem cnt_up {p p' : Nat → Bool} {x : Nat} (h0 : p x = false) (h1 : p' x = true) (h2 : ∀ i, i ≠ x → p' i = p i) : ∀ k, cnt p' k = cnt p k + (if x < k then 1 else 0) := by
  intro k
  induction k with
  | zero => rfl
  | succ k ih =>
    simp only [cnt]
    rw [ih]
    by_cases e : k = x
    · subst e
      rw [h0, h1, if_neg (Nat.lt_irrefl _), if_pos rfl, if_neg (by decide), if_pos (by omega)]
    · rw [h2 k e]
      by_cases h : x < k
      · rw [if_pos (show x < k from h), if_pos (show x < k + 1 by omega)]; omega
      · rw [if_neg (show ¬ x < k from h), if_neg (show ¬ x < k + 1 by omega)]; omega
theorem cnt_lt {p : Nat → Bool} {x : Nat} (h0 : p x = false) : ∀ k, x < k → cnt p k < k := by
  intro k
  induction k with
  | zero => intro h; omega
  | succ k ih =>
    intro hx
    have hl := cnt_le (p := p) k
    simp only [cnt]
    by_cases e : x = k
    · subst e; rw [h0, if_neg (by decide)]; omega
    · have := ih (by omega)
      split <;> omega
variable {X : Gx} {τ : St} {g h : Nat → Int32} {s q : Nat}
/-- a group grows: what holds of it on the way -/
def BI (X : Gx) (g h : Nat → Int32) (s q : Nat) (τ : St) (gc : Nat → Int32) (x4 : Nat) : Prop := CG X τ gc h ∧ (∀ r, Rp X r → gc r = g r ∨ (g r = -1 ∧ gc r = nI q ∧ Rch X g s r)) ∧ (∀ j, j < x4 → ∃ r, r < 60 ∧ τ.2.1 31 j = nI r ∧ Rp X r ∧ gc r = nI q) ∧ (∀ r, Rp X r → gc r = nI q → ∃ j, j < x4 ∧ τ.2.1 31 j = nI r) ∧ x4 = cnt (fun r => decide (Rp X r ∧ gc r = nI q)) 60
theorem grow_37 {K : Int32 → Int32 → Int32 → Int32 → St → Option Rs} {x5 r0 : Nat} (hX : GX X) (hq : q < 1000) (hgq : ∀ r, Rp X r → g r ≠ nI q) (hr0 : Rp X r0) : ∀ (fu x6 : Nat) (τ : St) (gc : Nat → Int32) (x4 : Nat), x6 ≤ 60 → 60 < fu + x6 → GS X τ → BI X g h s q τ gc x4 → x5 < x4 → τ.2.1 31 x5 = nI r0 → gc r0 = nI q → (∀ r, r < x6 → Rp X r → g r = -1 → dr X r0 r → gc r = nI q) → ∃ (τ' : St) (gc' : Nat → Int32) (x4' : Nat), l_X1_growGroup_37 K fu (nI (gV X)) (nI q) (nI x4) (nI x5) (nI x6) τ = K (nI (gV X)) (nI q) (nI x4') (nI (x5 + 1)) τ' ∧ GS X τ' ∧ FrG τ τ' [] [] [30, 31] ∧ BI X g h s q τ' gc' x4' ∧ x4 ≤ x4' ∧ (∀ j, j < x4 → τ'.2.1 31 j = τ.2.1 31 j) ∧ (∀ r, Rp X r → gc r = nI q → gc' r = nI q) ∧ (∀ r, Rp X r → g r = -1 → dr X r0 r → gc' r = nI q) := by
  intro fu
  induction fu with
  | zero => intro x6 τ gc x4 h1 h2; omega
  | succ fu ih =>
    intro x6 τ gc x4 h1 h2 hS hB h54 h31 hg0 hdone
    have hB0 := hB
    obtain ⟨b1, b2, b3, b4, b5⟩ := hB
    have hx4 : x4 ≤ 60 := by rw [b5]; exact cnt_le 60
    show ∃ (τ' : St) (gc' : Nat → Int32) (x4' : Nat), b_X1_growGroup_37 K (l_X1_growGroup_37 K fu) (nI (gV X)) (nI q) (nI x4) (nI x5) (nI x6) τ = _ ∧ _
    unfold b_X1_growGroup_37 b_X1_growGroup_97
    rw [show (60 : Int32) = nI 60 from rfl]
    by_cases e : x6 = 60
    · subst e
      rw [if_pos (nI_le (Nat.le_refl _) (by omega)), nx_e, nI_1]
      refine ⟨τ, gc, x4, rfl, hS, FrG.rf, hB0, Nat.le_refl _, fun _ _ => rfl, fun _ _ h => h, fun r hr hgr hd => hdone r (by have := hr.1.1; have := hX.1; omega) hr hgr hd⟩
    · have hskip : (Rp X x6 → g x6 = -1 → dr X r0 x6 → gc x6 = nI q) → ∃ (τ' : St) (gc' : Nat → Int32) (x4' : Nat), l_X1_growGroup_37 K fu (nI (gV X)) (nI q) (nI x4) (nI x5) (nI (x6 + 1)) τ = K (nI (gV X)) (nI q) (nI x4') (nI (x5 + 1)) τ' ∧ GS X τ' ∧ FrG τ τ' [] [] [30, 31] ∧ BI X g h s q τ' gc' x4' ∧ x4 ≤ x4' ∧ (∀ j, j < x4 → τ'.2.1 31 j = τ.2.1 31 j) ∧ (∀ r, Rp X r → gc r = nI q → gc' r = nI q) ∧ (∀ r, Rp X r → g r = -1 → dr X r0 r → gc' r = nI q) := fun hk => ih (x6 + 1) τ gc x4 (by omega) (by omega) hS hB0 h54 h31 hg0 (fun r hr hR hgr hd => by
        by_cases e : r = x6
        · subst e; exact hk hR hgr hd
        · exact hdone r (by omega) hR hgr hd)
      simp only [nx_e]
      rw [if_neg (nI_ge (by omega) (by omega)), isOpen_e hX hS b1 (by omega), bd_s, nI_1]
      by_cases ho : Rp X x6 ∧ gc x6 = -1
      · have hgx : g x6 = -1 := by
          rcases b2 x6 ho.1 with h9 | ⟨h9, -, -⟩
          · rw [← h9]; exact ho.2
          · exact h9
        rw [decide_eq_true ho, if_neg (by decide), gd_t (inb_n (show x5 < ln 31 by show x5 < 60; omega) (by decide)), nI_clamp (by omega), h31, draws_e hX hS hr0 ho.1, bd_s]
        by_cases hd : dr X r0 x6
        · have hlt : x4 < 60 := by
            rw [b5]
            exact cnt_lt (x := x6) (decide_eq_false (fun h => by rw [ho.2] at h; exact nI_m1 (by omega) h.2)) 60 (by omega)
          rw [decide_eq_true hd, if_neg (by decide), if_neg (nI_ge (by omega) (by omega)), gd_t (inb_n (show x6 < ln 30 by show x6 < 60; omega) (by decide)), gd_t (inb_n (show x4 < ln 31 by show x4 < 60; omega) (by decide)), nI_1]
          have f1 : FrG τ (sA (sA τ 30 (nI x6) (nI q)) 31 (nI x4) (nI x6)) [] [] [30, 31] := (FrG.sA.mono rfl).tr (FrG.sA.mono rfl)
          have t31 : (sA (sA τ 30 (nI x6) (nI q)) 31 (nI x4) (nI x6)).2.1 31 = upd (τ.2.1 31) x4 (nI x6) := by
            rw [sA_s (by omega), sA_q (by decide)]
          have t30 : (sA (sA τ 30 (nI x6) (nI q)) 31 (nI x4) (nI x6)).2.1 30 = upd (τ.2.1 30) x6 (nI q) := by
            rw [sA_q (by decide), sA_s (by omega)]
          have hR0 : Rch X g s r0 ∧ g r0 = -1 := by
            rcases b2 r0 hr0 with h9 | ⟨h9, -, h10⟩
            · rw [hg0] at h9; exact absurd h9.symm (hgq r0 hr0)
            · exact ⟨h10, h9⟩
          have hBn : BI X g h s q (sA (sA τ 30 (nI x6) (nI q)) 31 (nI x4) (nI x6)) (va_up gc x6 (nI q)) (x4 + 1) := by
            refine ⟨fun i hi => ?_, fun r hr => ?_, fun j hj => ?_, fun r hr hgr => ?_, ?_⟩
            · rw [t30]
              by_cases e : i = x6
              · subst e; rw [upd_s, if_pos ho.1, upN_s]
              · rw [upd_n e, upN_n e]; exact b1 i hi
            · by_cases e : r = x6
              · subst e
                rw [upN_s]
                exact Or.inr ⟨hgx, rfl, hR0.1.st ⟨hr0.1, by rw [hr0.2]; exact hR0.2⟩ ⟨hr.1, by rw [hr.2]; exact hgx⟩ (Or.inr (by rw [hr.2, hr0.2]; exact hd))⟩
              · rw [upN_n e]; exact b2 r hr
            · rw [t31]
              by_cases e : j = x4
              · subst e
                rw [upd_s]
                exact ⟨x6, by omega, rfl, ho.1, upN_s⟩
              · rw [upd_n e]
                obtain ⟨r, r1, r2, r3, r4⟩ := b3 j (by omega)
                refine ⟨r, r1, r2, r3, ?_⟩
                rw [upN_n (fun e2 => by subst e2; rw [ho.2] at r4; exact nI_m1 (by omega) r4)]
                exact r4
            · rw [t31]
              by_cases e : r = x6
              · subst e; exact ⟨x4, by omega, upd_s⟩
              · rw [upN_n e] at hgr
                obtain ⟨j, j1, j2⟩ := b4 r hr hgr
                exact ⟨j, by omega, by rw [upd_n (by omega)]; exact j2⟩
            · rw [cnt_up (p := fun r => decide (Rp X r ∧ gc r = nI q)) (p' := fun r => decide (Rp X r ∧ va_up gc x6 (nI q) r = nI q)) (x := x6) (decide_eq_false (fun h => by rw [ho.2] at h; exact nI_m1 (by omega) h.2)) (decide_eq_true ⟨ho.1, upN_s⟩) (fun i hi => by
                show decide (Rp X i ∧ va_up gc x6 (nI q) i = nI q) = decide (Rp X i ∧ gc i = nI q)
                rw [upN_n hi]) 60, if_pos (by omega), ← b5]
          obtain ⟨τ', gc', x4', k1, k2, k3, k4, k5, k6, k7, k8⟩ := ih (x6 + 1) (sA (sA τ 30 (nI x6) (nI q)) 31 (nI x4) (nI x6)) (va_up gc x6 (nI q)) (x4 + 1) (by omega) (by omega) (hS.fr f1 rfl) hBn (by omega) (by rw [t31, upd_n (by omega)]; exact h31) (by
            by_cases e : r0 = x6
            · subst e; exact upN_s
            · rw [upN_n e]; exact hg0) (fun r hr hR hgr hdd => by
            by_cases e : r = x6
            · subst e; exact upN_s
            · rw [upN_n e]; exact hdone r (by omega) hR hgr hdd)
          refine ⟨τ', gc', x4', k1, k2, f1.tr k3, k4, by omega, fun j hj => ?_, fun r hr hgr => k7 r hr ?_, k8⟩
          · rw [k6 j (by omega), t31, upd_n (by omega)]
          · by_cases e : r = x6
            · subst e; exact upN_s
            · rw [upN_n e]; exact hgr
        · rw [decide_eq_false hd, if_pos (by decide)]
          exact hskip (fun _ _ h => absurd h hd)
      · rw [decide_eq_false ho, if_pos (by decide)]
        refine hskip (fun hR hgx hd => ?_)
        rcases b2 x6 hR with h9 | ⟨-, h10, -⟩
        · exact absurd ⟨hR, by rw [h9]; exact hgx⟩ ho
        · exact h10
theorem grow_20 {g' : Nat → Int32} (hX : GX X) (hq : q < 1000) (hgq : ∀ r, Rp X r → g r ≠ nI q) (hs : Rp X s) (hCh : Chr X g s q g') : ∀ (fu x5 : Nat) (τ : St) (gc : Nat → Int32) (x4 : Nat), 60 < fu + x5 → x5 ≤ x4 → GS X τ → BI X g h s q τ gc x4 → gc s = nI q → (∀ j, j < x5 → ∀ r', r' < 60 → τ.2.1 31 j = nI r' → ∀ r, Rp X r → g r = -1 → dr X r' r → gc r = nI q) → ∃ τ' : St, l_X1_growGroup_20 fu (nI (gV X)) (nI q) (nI x4) (nI x5) τ = some (0, τ') ∧ CG X τ' g' h ∧ FrG τ τ' [] [] [30, 31] := by
  intro fu
  induction fu with
  | zero =>
    intro x5 τ gc x4 h1 h2 hS hB
    have hx4 : x4 ≤ 60 := by rw [hB.2.2.2.2]; exact cnt_le 60
    omega
  | succ fu ih =>
    intro x5 τ gc x4 h1 h2 hS hB hgs hdone
    have hB0 := hB
    obtain ⟨b1, b2, b3, b4, b5⟩ := hB
    have hx4 : x4 ≤ 60 := by rw [b5]; exact cnt_le 60
    show ∃ τ' : St, b_X1_growGroup_20 (l_X1_growGroup_20 fu) (nI (gV X)) (nI q) (nI x4) (nI x5) τ = some (0, τ') ∧ _
    unfold b_X1_growGroup_20 b_X1_growGroup_109
    by_cases e : x5 = x4
    · subst e
      rw [if_pos (nI_le (Nat.le_refl _) (by omega))]
      have hc : Chr X g s q gc := by
        intro r hr
        rcases Classical.em (g r = -1 ∧ Rch X g s r) with h9 | h9
        · refine Or.inl ⟨h9.1, h9.2, ?_⟩
          have hP := h9.2 (fun j => It X j ∧ gc (rp X j) = nI q) ⟨hs.1, by rw [hs.2]; exact hgs⟩ (fun i j hi hoi hoj hed => by
            refine ⟨hoj.1, ?_⟩
            rcases hed with h0 | h1
            · rw [← rp_eq hoi.1 hoj.1 h0]; exact hi.2
            · obtain ⟨idx, i1, i2⟩ := b4 (rp X i) (rp_Rp hoi.1) hi.2
              have hri : rp X i < 60 := by have := (rp_it hoi.1).1.1; have := hX.1; omega
              refine hdone idx i1 (rp X i) hri i2 (rp X j) (rp_Rp hoj.1) hoj.2 ⟨?_, h1.2⟩
              rw [gD_rp2 hoi.1 hoj.1]; exact h1.1)
          have h10 := hP.2
          rw [hr.2] at h10
          exact h10
        · refine Or.inr ⟨h9, ?_⟩
          rcases b2 r hr with h10 | ⟨h10, -, h11⟩
          · exact h10
          · exact absurd ⟨h10, h11⟩ h9
      refine ⟨τ, rfl, fun i hi => ?_, FrG.rf⟩
      rw [b1 i hi]
      by_cases hr : Rp X i
      · rw [if_pos hr, if_pos hr, hc.uq hCh hr]
      · rw [if_neg hr, if_neg hr]
    · rw [if_neg (nI_ge (by omega) (by omega)), if_neg (show ¬ (60 : Int32) ≤ nI x5 from nI_ge (b := 60) (by omega) (by decide))]
      obtain ⟨r0, r1, r2, r3, r4⟩ := b3 x5 (by omega)
      obtain ⟨τ', gc', x4', k1, k2, k3, k4, k5, k6, k7, k8⟩ := grow_37 (K := l_X1_growGroup_20 fu) (x5 := x5) (r0 := r0) hX hq hgq r3 FU 0 τ gc x4 (by omega) (by simp only [FU]; omega) hS hB0 (by omega) r2 r4 (fun r hr => by omega)
      rw [show (0 : Int32) = nI 0 from rfl, k1]
      obtain ⟨τ2, m1, m2, m3⟩ := ih (x5 + 1) τ' gc' x4' (by omega) (by omega) k2 k4 (k7 s hs hgs) (fun j hj r' hr' h31 r hr hgr hd => by
        by_cases e : j = x5
        · subst e
          rw [k6 j (by omega), r2] at h31
          have := (nI_eq (by omega) (by omega)).mp h31
          subst this
          exact k8 r hr hgr hd
        · rw [k6 j (by omega)] at h31
          exact k7 r hr (hdone j (by omega) r' hr' h31 r hr hgr hd))
      exact ⟨τ2, m1, m2, k3.tr m3⟩
/-- the class forms one group -/
theorem growGroup_e {g' : Nat → Int32} (hX : GX X) (hq : q < 1000) (hgq : ∀ r, Rp X r → g r ≠ nI q) (hs : Rp X s) (hgs : g s = -1) (hCh : Chr X g s q g') (hS : GS X τ) (hC : CG X τ g h) : ∃ τ' : St, f_X1_growGroup (nI (gV X)) (nI s) (nI q) τ = some (0, τ') ∧ CG X τ' g' h ∧ FrG τ τ' [] [] [30, 31] := by
  have hs60 : s < 60 := by have := hs.1.1; have := hX.1; omega
  unfold f_X1_growGroup
  simp only [nx_e]
  rw [gd_t (inb_n (show s < ln 30 by show s < 60; omega) (by decide)), show (0 : Int32) = nI 0 from rfl, gd_t (inb_n (show 0 < ln 31 by decide) (by decide))]
  have f1 : FrG τ (sA (sA τ 30 (nI s) (nI q)) 31 (nI 0) (nI s)) [] [] [30, 31] := (FrG.sA.mono rfl).tr (FrG.sA.mono rfl)
  have t31 : (sA (sA τ 30 (nI s) (nI q)) 31 (nI 0) (nI s)).2.1 31 = upd (τ.2.1 31) 0 (nI s) := by
    rw [sA_s (by omega), sA_q (by decide)]
  have t30 : (sA (sA τ 30 (nI s) (nI q)) 31 (nI 0) (nI s)).2.1 30 = upd (τ.2.1 30) s (nI q) := by
    rw [sA_q (by decide), sA_s (by omega)]
  have hz : cnt (fun r => decide (Rp X r ∧ g r = nI q)) 60 = 0 := by
    have : ∀ k, cnt (fun r => decide (Rp X r ∧ g r = nI q)) k = 0 := by
      intro k
      induction k with
      | zero => rfl
      | succ k ih =>
        simp only [cnt]
        rw [ih, if_neg (by rw [decide_eq_false (fun h => hgq k h.1 h.2)]; decide)]
    exact this 60
  have hBI : BI X g h s q (sA (sA τ 30 (nI s) (nI q)) 31 (nI 0) (nI s)) (va_up g s (nI q)) 1 := by
    refine ⟨fun i hi => ?_, fun r hr => ?_, fun j hj => ?_, fun r hr hgr => ?_, ?_⟩
    · rw [t30]
      by_cases e : i = s
      · subst e; rw [upd_s, if_pos hs, upN_s]
      · rw [upd_n e, upN_n e]; exact hC i hi
    · by_cases e : r = s
      · subst e; rw [upN_s]; exact Or.inr ⟨hgs, rfl, Rch.rf⟩
      · rw [upN_n e]; exact Or.inl rfl
    · have : j = 0 := by omega
      subst this
      rw [t31, upd_s]
      exact ⟨s, hs60, rfl, hs, upN_s⟩
    · by_cases e : r = s
      · subst e; exact ⟨0, by omega, by rw [t31, upd_s]⟩
      · rw [upN_n e] at hgr
        exact absurd hgr (hgq r hr)
    · rw [cnt_up (p := fun r => decide (Rp X r ∧ g r = nI q)) (p' := fun r => decide (Rp X r ∧ va_up g s (nI q) r = nI q)) (x := s) (decide_eq_false (fun h => hgq s h.1 h.2)) (decide_eq_true ⟨hs, upN_s⟩) (fun i hi => by
        show decide (Rp X i ∧ va_up g s (nI q) i = nI q) = decide (Rp X i ∧ g i = nI q)
        rw [upN_n hi]) 60, if_pos hs60, hz]
  obtain ⟨τ', k1, k2, k3⟩ := grow_20 (g := g) (h := h) (s := s) hX hq hgq hs hCh FU 0 (sA (sA τ 30 (nI s) (nI q)) 31 (nI 0) (nI s)) (va_up g s (nI q)) 1 (by simp only [FU]; omega) (by omega) (hS.fr f1 rfl) hBI upN_s (fun j hj => by omega)
  exact ⟨τ', k1, k2, f1.tr k3⟩
end CX
