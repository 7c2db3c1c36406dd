section OSO
variable {σ τ υ : St} {n m A l1 l2 l3 C W u : Nat} {st ns lc : Nat → Nat} {nm lt ql : Nat → Nat → Int32} {ad : Nat → Int32} {c : Nat → Nat → Int32} {bn : Nat → Int32} {bg en : Nat → Nat} {sh : Nat → Bool} {w b : Bool} {F : Nat → (Nat → Int32) × Nat}
theorem binr_ex (C W r : Nat) (c : Nat → Nat → Int32) (f : Nat → Int32) : ∃ x, BinR C W r c f x := by
  rcases Classical.em (∃ j, j < C ∧ ds (c j) f W ≤ r) with ⟨j, h1, h2⟩ | h
  · exact ⟨nI j, Or.inr ⟨j, h1, rfl, h2⟩⟩
  · exact ⟨-1, Or.inl ⟨rfl, fun j hj => Nat.lt_of_not_le (fun h9 => h ⟨j, hj, h9⟩)⟩⟩
/-- bins, cuts, short ones -/
theorem prd_ex (hn : n ≤ 60) (hA : A ≤ 30) (hA3 : A = 0 ∨ 3 ≤ A) (hl1 : l1 ≤ 93) (hl2 : l2 ≤ 93) (hV : RdV n ns lc nm lt ql) : ∃ (bn : Nat → Int32) (bg en : Nat → Nat) (sh : Nat → Bool), ∀ i, i < n → PRD b n m st ns lc nm lt ql A ad l1 l2 l3 C W u c bn bg en sh i := by
  have h : ∀ i, ∃ y : Int32 × Nat × Nat × Bool, i < n → PRD b n m st ns lc nm lt ql A ad l1 l2 l3 C W u c (fun _ => y.1) (fun _ => y.2.1) (fun _ => y.2.2.1) (fun _ => y.2.2.2) i := by
    intro i
    by_cases hi : i < n
    · obtain ⟨v1, v2, v3, v4, v5, v6⟩ := hV i hi
      have hx : ∃ x : Int32, (W + u ≤ lc i ∧ BinR C W ((spr c W C - 1) / 2) c (lt i) x) ∨ (¬ W + u ≤ lc i ∧ x = -1) := by
        by_cases hl : W + u ≤ lc i
        · obtain ⟨x, hx⟩ := binr_ex C W ((spr c W C - 1) / 2) c (lt i)
          exact ⟨x, Or.inl ⟨hl, hx⟩⟩
        · exact ⟨-1, Or.inr ⟨hl, rfl⟩⟩
      obtain ⟨x, hx⟩ := hx
      have ha : (if x = -1 then 0 else W + u) ≤ lc i := by
        by_cases e : x = -1
        · rw [if_pos e]; omega
        · rw [if_neg e]
          rcases hx with hx | hx
          · exact hx.1
          · exact absurd hx.2 e
      obtain ⟨a', e', k1, k2, k3, k4, k5⟩ := cut_all (b := b) (n := n) (m := m) (st := st) (ns := ns) (lc := lc) (nm := nm) (lt := lt) (ql := ql) (A := A) (ad := ad) (l1 := l1) (l2 := l2) (l3 := l3) hi hn hA hA3 hl1 hl2 ha v2 v6
      exact ⟨(x, a', e', decide (e' - a' < l3)), fun _ => ⟨hx, k2, k3, rfl, k4, k5⟩⟩
    · exact ⟨(0, 0, 0, false), fun h => absurd h hi⟩
  obtain ⟨Y, hY⟩ := Classical.axiomOfChoice h
  exact ⟨fun i => (Y i).1, fun i => (Y i).2.1, fun i => (Y i).2.2.1, fun i => (Y i).2.2.2, hY⟩
theorem prd_bn {i : Nat} (hP : PRD b n m st ns lc nm lt ql A ad l1 l2 l3 C W u c bn bg en sh i) : bn i = -1 ∨ (W + u ≤ lc i ∧ ∃ q, q < C ∧ bn i = nI q) := by
  rcases hP.1 with ⟨h1, h2⟩ | h
  · rcases h2 with h2 | ⟨j, j1, j2, -⟩
    · exact Or.inl h2.1
    · exact Or.inr ⟨h1, j, j1, j2⟩
  · exact Or.inl h.2
theorem gx_of (hn : n ≤ 60) (hu : u ≤ 12) (hC : C ≤ 16) (hV : RdV n ns lc nm lt ql) (hP : ∀ i, i < n → PRD b n m st ns lc nm lt ql A ad l1 l2 l3 C W u c bn bg en sh i) : ∀ q, q < C → GX (XX n W u w bn sh lt q) := by
  intro q hq
  refine ⟨hn, hu, by show q < 16; omega, fun i hi k hk => ?_⟩
  rcases prd_bn (hP i hi.1) with h | ⟨h, -⟩
  · exact absurd h hi.2.1.1
  · have hk' : k < u := hk
    exact (hV i hi.1).2.2.2.2.1 (W + k) (by omega)
/-- the class sorts -/
theorem class_sort (hR : RdI σ n m st ns lc nm lt ql) (hCo : CodI σ C W c) (hA : AdaI σ A ad) (hL : LimI σ l1 l2 l3) (hu : u ≤ 12) (hP : ∀ i, i < n → PRD σ.2.2.1 n m st ns lc nm lt ql A ad l1 l2 l3 C W u c bn bg en sh i) (hF : ∀ b, b < C → BO (XX n W u w bn sh lt b) (F b).1 (F b).2) : ∃ τ, f_X8_sort (nI u) (bI w) σ = some (0, nI (cnt (fun i => decide (bn i = -1)) n), τ) ∧ FrG σ τ [14, 16, 19, 25] [] [15, 20, 21, 22, 23, 24, 26, 27, 28, 29, 30, 31, 32] ∧ (∀ j, j ≠ 4 → j ≠ 5 → τ.1 16 j = σ.1 16 j) ∧ τ.1 19 6 = 1 ∧ τ.1 19 7 = nI n ∧ τ.1 19 8 = nI C ∧ ARR τ n bn bg en sh ql ∧ (∀ i, i < 60 → τ.2.1 27 i = (if i < n ∧ ctd bn sh i then bn i else -1)) ∧ (∀ i, i < n → ctd bn sh i → τ.2.1 28 i = nI (rpf bn sh lt W u i)) ∧ (∀ i, i < 60 → τ.2.1 30 i = grf n W u bn sh lt F C i) ∧ (∀ b, b < C → τ.2.1 32 b = nI (F b).2) := by
  have hn : n ≤ 60 := hR.2.1.2.1
  have hC : C ≤ 16 := hCo.1
  have hbn : ∀ i, i < n → ctd bn sh i → ∃ b, b < C ∧ bn i = nI b := fun i hi hc => by
    rcases prd_bn (hP i hi) with h | ⟨-, h⟩
    · exact absurd h hc.1
    · exact h
  have key : ∀ (fu k : Nat) (τ : St), k ≤ n → n < fu + k → CSt σ τ k C u W w bn bg en sh lt ql → ∃ τ', l_X8_sort_45 fu (nI u) (nI k) τ = bd (f_X5_finish τ') (fun r5 s6 => bd (f_X5_readsIn (-1 : Int32) s6) (fun r8 s9 => some (0, r8, s9))) ∧ CSt σ τ' n C u W w bn bg en sh lt ql := by
    intro fu
    induction fu with
    | zero => intro k τ h1 h2; omega
    | succ fu ih =>
      intro k τ h1 h2 hS
      show ∃ τ', b_X8_sort_45 (l_X8_sort_45 fu) (nI u) (nI k) τ = _ ∧ _
      unfold b_X8_sort_45
      have h4 := (hR.fr hS.1 rfl).2.1.1
      rw [count_e h4, bd_s]
      by_cases e : k = n
      · subst e
        rw [if_pos (nI_le (Nat.le_refl _) (by omega))]
        exact ⟨τ, rfl, hS⟩
      · rw [if_neg (nI_ge (by omega) (by omega))]
        obtain ⟨τ1, a1, a2⟩ := sortRead_c hR hCo hA hL hS (by omega) hu (hP k (by omega))
        rw [a1, bd_s, nx_e, nI_1]
        exact ih (k + 1) τ1 (by omega) (by omega) a2
  obtain ⟨τ0, a1, a2, a3⟩ := restart_g (u := u) (W := W) (w := w) (bn := bn) (sh := sh) (lt := lt) (τ := sS (sS σ 19 7 0) 19 8 (nI C)) hu
  have f0 : FrG σ (sS (sS σ 19 7 0) 19 8 (nI C)) [19, 25] [] [27, 28, 29, 30, 32] := ((frg_oS (by decide)).mono rfl).tr ((frg_oS (by decide)).mono rfl)
  have f1 : FrG σ τ0 [19, 25] [] [27, 28, 29, 30, 32] := f0.tr (a2.mono rfl)
  have e19 : τ0.1 19 = (sS (sS σ 19 7 0) 19 8 (nI C)).1 19 := (a2.off (show offL [25] [] [27, 28, 29, 30, 32] [19] [] [] = true from rfl)).1 19 (by decide)
  have e16 : τ0.1 16 = σ.1 16 := (f1.off (show offL [19, 25] [] [27, 28, 29, 30, 32] [16] [] [] = true from rfl)).1 16 (by decide)
  have hS0 : CSt σ τ0 0 C u W w bn bg en sh lt ql := by
    refine ⟨f1.mono rfl, fun j _ _ => by rw [e16], ?_, ?_, fun i hi => absurd hi (Nat.not_lt_zero i), a3⟩
    · rw [e19, sS_j (by decide), sS_s]; rfl
    · rw [e19, sS_s]
  obtain ⟨τ1, b1, b2⟩ := key FU 0 τ0 (by omega) (by simp only [FU]; omega) hS0
  obtain ⟨c1, c2, c3, c4, c5, c6⟩ := b2
  obtain ⟨g1, g2, g3, g4, g5, g6, g7⟩ := c6
  have hGS : GS (XX n W u w bn sh lt 0) τ1 := ⟨g1, g2, g3, g4, g5⟩
  obtain ⟨τ2, d1, d2, d3, d4, d5, d6⟩ := fin_2 hF hC hbn hn FU 0 τ1 (by omega) (by simp only [FU]; omega) c4 hGS (fun i hi => by
    rw [g6 i hi]
    unfold grf
    rw [if_neg (fun h => by have := h.2.2; omega)]) (fun q hq => by rw [g7 q hq, if_neg (Nat.not_lt_zero q)])
  obtain ⟨k1, -, k3⟩ := d6.off (show offL [19] [] [30, 31, 32] [16] [] [20, 21, 22, 23, 24, 27, 28] = true from rfl)
  have hARR : ARR τ2 n bn bg en sh ql := by
    unfold ARR
    rw [k3 20 (by decide), k3 21 (by decide), k3 22 (by decide), k3 23 (by decide), k3 24 (by decide)]
    exact c5
  have h7 : τ2.1 19 7 = nI n := by rw [d3 7 (by decide)]; exact c3
  refine ⟨τ2, ?_, (c1.mono rfl).tr (d6.mono rfl), fun j h1 h2 => by rw [k1 16 (by decide)]; exact c2 j h1 h2, d2, h7, by rw [d3 8 (by decide)]; exact c4, hARR, fun i hi => by rw [k3 27 (by decide)]; exact g3 i hi, fun i hi hc => by rw [k3 28 (by decide)]; exact (g4 i hi hc).2, d4, d5⟩
  have hx : isW (nI u) 12 = true := (isW_f (M := 12) (by decide)).mpr ⟨u, hu, rfl⟩
  have hy : isW (bI w) 1 = true := by cases w <;> decide
  unfold f_X8_sort f_X0_count f_X5_restart
  rw [isWithin_e, bd_s, hx, if_neg (by decide), isWithin_e, bd_s, hy, if_neg (by decide), bd_s, hCo.2.2.1, nx_e, nx_e, a1, bd_s, bd_s]
  refine b1.trans ?_
  rw [show f_X5_finish τ1 = some (0, τ2) from d1, bd_s, readsIn_e h7 hn (fun i hi => (hARR i hi).1), bd_s]
/-- the model sorts -/
theorem model_sort (hM : MRI υ n ns lc nm lt ql) (hCo : CodI υ C W c) (hA : AdaI υ A ad) (hL : LimI υ l1 l2 l3) (hn : n ≤ 60) (hu : u ≤ 12) (hV : RdV n ns lc nm lt ql) (hP : ∀ i, i < n → PRD b n m st ns lc nm lt ql A ad l1 l2 l3 C W u c bn bg en sh i) (hF : ∀ b, b < C → BO (XX n W u w bn sh lt b) (F b).1 (F b).2) : ∃ τ, f_X9_sort (nI u) (bI w) υ = some (nI (cnt (fun i => decide (bn i = -1)) n), τ) ∧ FrG υ τ [] [3, 19, 20, 21, 33] [48, 49, 50, 51, 52] ∧ τ.1 39 3 = 0 ∧ τ.1 39 19 = 1 ∧ τ.1 39 20 = nI C ∧ τ.1 39 21 = nI u ∧ τ.1 39 33 = nI W ∧ (∀ i, i < n → τ.2.1 48 i = bn i ∧ τ.2.1 49 i = nI (bg i) ∧ τ.2.1 50 i = nI (en i) ∧ τ.2.1 51 i = bI (sh i) ∧ τ.2.1 52 i = grf n W u bn sh lt F C i) := by
  have hC : C ≤ 16 := hCo.1
  have hW : W ≤ 12 := hCo.2.1
  have hbn : ∀ i, i < n → ctd bn sh i → ∃ b, b < C ∧ bn i = nI b := fun i hi hc => by
    rcases prd_bn (hP i hi) with h | ⟨-, h⟩
    · exact absurd h hc.1
    · exact h
  obtain ⟨ρ, hρ⟩ : ∃ ρ : St, ρ = sS (sS (sS (sS (sS υ 39 3 0) 39 19 1) 39 20 (nI C)) 39 21 (nI u)) 39 33 (nI W) := ⟨_, rfl⟩
  have f1 : FrG υ ρ [] [3, 19, 20, 21, 33] [] := by
    rw [hρ]
    exact ((((FrG.sS.mono rfl).tr (FrG.sS.mono rfl)).tr (FrG.sS.mono rfl)).tr (FrG.sS.mono rfl)).tr (FrG.sS.mono rfl)
  have h33 : ρ.1 39 33 = nI W := by rw [hρ, sS_s]
  have h21 : ρ.1 39 21 = nI u := by rw [hρ, sS_j (by decide), sS_s]
  have h20 : ρ.1 39 20 = nI C := by rw [hρ, sS_j (by decide), sS_j (by decide), sS_s]
  have h19 : ρ.1 39 19 = 1 := by rw [hρ, sS_j (by decide), sS_j (by decide), sS_j (by decide), sS_s]
  have h3 : ρ.1 39 3 = 0 := by rw [hρ, sS_j (by decide), sS_j (by decide), sS_j (by decide), sS_j (by decide), sS_s]
  have hCρ := hCo.fr f1 rfl
  have hAρ := hA.fr f1 rfl
  have hLρ := hL.fr16 f1 rfl
  obtain ⟨-, m2, m3⟩ := f1.off (show offL [] [3, 19, 20, 21, 33] [] [] [9] [41, 42, 43, 44, 45] = true from rfl)
  have hMρ : MRI ρ n ns lc nm lt ql := by
    unfold MRI
    rw [m2 9 (by decide), m3 41 (by decide), m3 42 (by decide), m3 43 (by decide), m3 44 (by decide), m3 45 (by decide)]
    exact hM
  have hMH : MH n ns lc nm lt ql A ad l1 l2 l3 ρ := ⟨hMρ, hAρ.2.2.1, hAρ.2.2.2.1, hLρ.2.2.2.2.1, hLρ.2.2.2.2.2.2.1, hLρ.2.2.2.2.2.2.2.2⟩
  obtain ⟨-, -, -, q12, -, q13, -, q46, -, qsp⟩ := hCρ
  obtain ⟨τ1, a1, a2⟩ := msort_78 (b := b) (m := m) (st := st) (wy := bI w) hMH hn hV hu hL.2.2.1 hC hW q12 q13 (fun i hi k hk => (q46 i hi k hk).2) qsp hP FU 0 ρ (by omega) (by simp only [FU]; omega) ⟨FrG.rf, fun i hi => absurd hi (Nat.not_lt_zero i)⟩
  obtain ⟨b1, b2⟩ := a2
  have hM1 := hMH.frg b1
  have hMX : ∀ q, q < C → MX (XX n W u w bn sh lt q) τ1 := by
    intro q hq
    refine ⟨hM1.1.1, by rw [b1.2.1 21 (by simp)]; exact h21, by rw [b1.2.1 33 (by simp)]; exact h33, hW, fun i hi => ⟨(b2 i hi).1, (b2 i hi).2.2.2.1⟩, fun i hi k hk => ?_⟩
    rcases prd_bn (hP i hi.1) with h | ⟨h, -⟩
    · exact absurd h hi.2.1.1
    · have hk' : k < u := hk
      show τ1.2.1 44 (120 * i + W + k) = lt i (W + k)
      rw [Nat.add_assoc]
      exact ((hM1.1.2 i hi.1).2.2.2 (W + k) (by omega)).1
  obtain ⟨τ2, c1, c2, c3⟩ := mfin (x4 := nI (cnt (fun i => decide (bn i = -1)) n)) hF hC hbn hn FU 0 τ1 (by omega) (by simp only [FU]; omega) (by rw [b1.2.1 20 (by simp)]; exact h20) hMX (fun i hi => by
    rw [(b2 i hi).2.2.2.2]
    unfold grf
    rw [if_neg (fun h => by have := h.2.2; omega)])
  obtain ⟨-, -, k3⟩ := c3.off (show offL [] [] [52] [] [] [48, 49, 50, 51] = true from rfl)
  have f2 : FrG ρ τ2 [] [] [48, 49, 50, 51, 52] := b1.tr (c3.mono rfl)
  refine ⟨τ2, ?_, (f1.mono rfl).tr (f2.mono rfl), by rw [f2.2.1 3 (by simp)]; exact h3, by rw [f2.2.1 19 (by simp)]; exact h19, by rw [f2.2.1 20 (by simp)]; exact h20, by rw [f2.2.1 21 (by simp)]; exact h21, by rw [f2.2.1 33 (by simp)]; exact h33, fun i hi => ?_⟩
  · have hsp := mspread_e (hCo.fr f1 rfl)
    have hhalf : (nI (spr c W C) - 1) / 2 = nI ((spr c W C - 1) / 2) := half ⟨spr c W C, by have := spr_le13 (c := c) (W := W) C; omega⟩
    have hx1 : ¬ bI w < 0 := by cases w <;> decide
    have hx2 : bI w ≤ 1 := by cases w <;> decide
    have e12 : (sS (sS υ 39 3 0) 39 19 1).1 39 12 = nI C := by rw [sS_j (by decide), sS_j (by decide)]; exact hCo.2.2.2.1
    have e13 : (sS (sS (sS (sS υ 39 3 0) 39 19 1) 39 20 (nI C)) 39 21 (nI u)).1 39 13 = nI W := by rw [sS_j (by decide), sS_j (by decide), sS_j (by decide), sS_j (by decide)]; exact hCo.2.2.2.2.2.1
    unfold f_X9_sort b_X9_sort_25
    simp only [nx_e]
    rw [if_neg (nI_pos (by omega)), if_neg (show ¬ (12 : Int32) < nI u from nI_nlt (a := 12) hu (by omega)), if_neg hx1, if_pos hx2, sS_s, if_pos (by decide), gz_1, e12, e13, ← hρ, hsp, bd_s, hhalf]
    exact a1.trans c1
  · rw [k3 48 (by decide), k3 49 (by decide), k3 50 (by decide), k3 51 (by decide)]
    exact ⟨(b2 i hi).1, (b2 i hi).2.1, (b2 i hi).2.2.1, (b2 i hi).2.2.2.1, c2 i hi⟩
theorem grf_in {i q : Nat} (hi : i < n) (hc : ctd bn sh i) (hq : q < C) (hC : C ≤ 16) (hb : bn i = nI q) : grf n W u bn sh lt F C i = (F q).1 (rpf bn sh lt W u i) := by
  unfold grf
  have h : bno bn i = q := by unfold bno; rw [hb, nI_clamp (by omega)]
  rw [if_pos ⟨hi, hc, by omega⟩, h]
/-- what is then known -/
theorem sod_of (hn : n ≤ 60) (hu : u ≤ 12) (hC : C ≤ 16) (hW : W ≤ 12) (hP : ∀ i, i < n → PRD b n m st ns lc nm lt ql A ad l1 l2 l3 C W u c bn bg en sh i) (hF : ∀ b, b < C → BO (XX n W u w bn sh lt b) (F b).1 (F b).2) (h7 : τ.1 19 7 = nI n) (h8 : τ.1 19 8 = nI C) (hARR : ARR τ n bn bg en sh ql) (h27 : ∀ i, i < 60 → τ.2.1 27 i = (if i < n ∧ ctd bn sh i then bn i else -1)) (h28 : ∀ i, i < n → ctd bn sh i → τ.2.1 28 i = nI (rpf bn sh lt W u i)) (h30 : ∀ i, i < 60 → τ.2.1 30 i = grf n W u bn sh lt F C i) (h32 : ∀ b, b < C → τ.2.1 32 b = nI (F b).2) (h20 : τ.1 39 20 = nI C) (h21 : τ.1 39 21 = nI u) (h33 : τ.1 39 33 = nI W) (hm : ∀ i, i < n → τ.2.1 48 i = bn i ∧ τ.2.1 49 i = nI (bg i) ∧ τ.2.1 50 i = nI (en i) ∧ τ.2.1 51 i = bI (sh i) ∧ τ.2.1 52 i = grf n W u bn sh lt F C i) : SoD τ n lc lt ql := by
  have hbn : ∀ i, i < n → ctd bn sh i → W + u ≤ lc i ∧ ∃ q, q < C ∧ bn i = nI q := fun i hi hc => by
    rcases prd_bn (hP i hi) with h | h
    · exact absurd h hc.1
    · exact h
  refine ⟨C, W, u, bn, grf n W u bn sh lt F C, bg, en, rpf bn sh lt W u, sh, hC, hW, hu, h7, h8, h20, h33, h21, fun i hi => ?_, fun i hi h60 => ?_, fun i hi hc => ?_, fun i hi hc => ?_, fun i hi j hj hci hcj hs => ?_, fun q hq => ?_⟩
  · obtain ⟨a1, a2, a3, a4, a5⟩ := hARR i hi
    obtain ⟨b1, b2, b3, b4, b5⟩ := hm i hi
    refine ⟨a1, b1, a2, b2, a3, b3, a4, b4, a5, h30 i (by omega), b5, ?_, ?_, (hP i hi).2.1, (hP i hi).2.2.1⟩
    · rw [h27 i (by omega)]
      by_cases hc : ctd bn sh i
      · rw [if_pos ⟨hi, hc⟩, if_pos hc]
      · rw [if_neg (fun h => hc h.2), if_neg hc]
    · rcases prd_bn (hP i hi) with h | ⟨-, h⟩
      · exact Or.inl h
      · exact Or.inr h
  · rw [h27 i h60, h30 i h60]
    unfold grf
    rw [if_neg (fun h => by have := h.1; omega), if_neg (fun h => by have := h.1; omega)]
    exact ⟨rfl, rfl⟩
  · obtain ⟨hl, q, q1, q2⟩ := hbn i hi hc
    have hI : It (XX n W u w bn sh lt q) i := ⟨hi, hc, q2⟩
    have hr := rp_it hI
    refine ⟨hl, h28 i hi hc, rp_le (X := XX n W u w bn sh lt q), hr.1.2.1, ⟨q2.trans hr.1.2.2.symm, ?_⟩, fun j hj hcj hs => ?_⟩
    · exact (gD_comm (X := XX n W u w bn sh lt q) (i := i) (j := rp (XX n W u w bn sh lt q) i)).trans hr.2
    · have hle : rpf bn sh lt W u i ≤ i := rp_le (X := XX n W u w bn sh lt q)
      have hJ : It (XX n W u w bn sh lt q) j := ⟨by show j < n; omega, hcj, hs.1.symm.trans q2⟩
      exact rp_no hI hJ hj ((gD_comm (X := XX n W u w bn sh lt q) (i := j) (j := i)).trans hs.2)
  · unfold grf
    rw [if_neg (fun h => hc h.2.1)]
  · obtain ⟨-, q, q1, q2⟩ := hbn i hi hci
    have hI : It (XX n W u w bn sh lt q) i := ⟨hi, hci, q2⟩
    have hJ : It (XX n W u w bn sh lt q) j := ⟨hj, hcj, hs.1.symm.trans q2⟩
    rw [grf_in hi hci q1 hC q2, grf_in hj hcj q1 hC (hs.1.symm.trans q2)]
    rw [show rpf bn sh lt W u i = rpf bn sh lt W u j from rp_eq hI hJ hs.2]
  · obtain ⟨c1, c2, c3, -, -⟩ := hF q hq
    refine ⟨(F q).2, c1, h32 q hq, fun i hi hc hb => ?_, fun p hp => ?_⟩
    · have hI : It (XX n W u w bn sh lt q) i := ⟨hi, hc, hb⟩
      rw [grf_in hi hc hq hC hb]
      exact c2 _ (rp_Rp hI)
    · obtain ⟨r, r1, r2⟩ := c3 p hp
      refine ⟨r, r1.1.1, r1.1.2.1, r1.1.2.2, ?_⟩
      have e1 : r < n := r1.1.1
      have e2 : ctd bn sh r := r1.1.2.1
      have e3 : bn r = nI q := r1.1.2.2
      rw [grf_in e1 e2 hq hC e3]
      rw [show rpf bn sh lt W u r = r from r1.2]
      exact r2
/-- sort -/
theorem op_sort (hI : Inv σ) (x y : Int32) : OpX [1] (f_X8_sort x y σ) (f_X9_sort x y) := by
  have hI0 := hI
  obtain ⟨⟨N, t, hT⟩, ⟨M, o, hO⟩, hP, ⟨C, W, c, hC⟩, ⟨A, a, hA⟩, ⟨l1, l2, l3, hL⟩, n, m, st, ns, lc, nm, lt, ql, hR, hS⟩ := hI
  have hno : ∀ x M : Int32, isW x M = false → x < 0 ∨ M < x := by
    intro x M h
    simp only [isW, decide_eq_false_iff_not] at h
    by_cases h0 : x < 0
    · exact Or.inl h0
    · exact Or.inr (Int32.not_le.mp (fun h9 => h ⟨Int32.not_lt.mp h0, h9⟩))
  have hbad : (isW x 12 = false ∨ isW y 1 = false) → OpX [1] (f_X8_sort x y σ) (f_X9_sort x y) := by
    intro h
    refine ⟨1, 0, σ, ?_, Or.inr (by decide), fun J => ⟨0, sS (sJ σ J) 39 3 1, ?_, by rw [sS_s]; rfl, (fun h => by cases h), rfl, Inv.s3 (σ := sJ σ J) hI0⟩⟩
    · unfold f_X8_sort b_X8_sort_17
      rw [isWithin_e, bd_s]
      cases h1 : isW x 12
      · rw [if_pos (by decide)]
      · rw [if_neg (by decide), isWithin_e, bd_s]
        cases h2 : isW y 1
        · rw [if_pos (by decide)]
        · rw [h1, h2] at h; simp at h
    · have h20 : b_X9_sort_20 x y (sJ σ J) = some (0, sS (sJ σ J) 39 3 1) := by
        unfold b_X9_sort_20 b_X9_sort_25
        rw [nx_e, sS_s, if_neg (by decide)]
      unfold f_X9_sort
      rw [h20]
      by_cases a1 : x < 0
      · rw [if_pos a1]
      · rw [if_neg a1]
        by_cases a2 : 12 < x
        · rw [if_pos a2]
        · rw [if_neg a2]
          by_cases a3 : y < 0
          · rw [if_pos a3]
          · rw [if_neg a3]
            by_cases a4 : y ≤ 1
            · rcases h with h | h
              · exact absurd (hno _ _ h) (fun h => h.elim a1 a2)
              · exact absurd (hno _ _ h) (fun h => h.elim a3 (fun h9 => absurd a4 (Int32.not_le.mpr h9)))
            · rw [if_neg a4]
  cases h1 : isW x 12
  · exact hbad (Or.inl h1)
  · cases h2 : isW y 1
    · exact hbad (Or.inr h2)
    · obtain ⟨u, hu, rfl⟩ := (isW_f (M := 12) (by decide)).mp h1
      have hyw : ∃ w : Bool, y = bI w := by
        obtain ⟨k, hk, rfl⟩ := (isW_f (M := 1) (by decide)).mp h2
        have : k = 0 ∨ k = 1 := by omega
        rcases this with rfl | rfl
        · exact ⟨false, rfl⟩
        · exact ⟨true, rfl⟩
      obtain ⟨w, rfl⟩ := hyw
      have hn : n ≤ 60 := hR.2.1.2.1
      obtain ⟨bn, bg, en, sh, hPR⟩ := prd_ex (b := σ.2.2.1) (m := m) (st := st) (ad := a) (l3 := l3) (C := C) (W := W) (u := u) (c := c) hn hA.2.1 hA.2.2.2.2 hL.1 hL.2.1 hR.2.2.2.2
      obtain ⟨F, hF⟩ := bins_all (gx_of (w := w) hn hu hC.1 hR.2.2.2.2 hPR)
      obtain ⟨τ, a1, a2, a3, a4, a5, a6, a7, a8, a9, a10, a11⟩ := class_sort (w := w) hR hC hA hL hu hPR hF
      have hT' := hT.fr a2 rfl
      have hO' := hO.fr a2 rfl
      have hP' := hP.fr a2 rfl
      have hC' := hC.fr a2 rfl
      have hA' := hA.fr a2 rfl
      have hL' := hL.fr a2 rfl (a3 1 (by decide) (by decide)) (a3 2 (by decide) (by decide)) (a3 3 (by decide) (by decide))
      have hR' := hR.fr a2 rfl
      refine ⟨0, _, τ, a1, Or.inl rfl, fun J => ?_⟩
      have hTJ : TapI (sJ τ J) N t := hT'
      have hOJ : OutI (sJ τ J) M o := hO'
      have hPJ : PlaI (sJ τ J) := hP'
      have hCJ : CodI (sJ τ J) C W c := hC'
      have hAJ : AdaI (sJ τ J) A a := hA'
      have hLJ : LimI (sJ τ J) l1 l2 l3 := hL'
      have hRJ : RdI (sJ τ J) n m st ns lc nm lt ql := hR'
      obtain ⟨ω, b1, b2, b3, b4, b5, b6, b7, b8⟩ := model_sort (w := w) hRJ.2.2.2.1 hCJ hAJ hLJ hn hu hRJ.2.2.2.2 hPR hF
      obtain ⟨k1, -, k3⟩ := b2.off (show offL [] [3, 19, 20, 21, 33] [48, 49, 50, 51, 52] [19] [] [20, 21, 22, 23, 24, 27, 28, 30, 32] = true from rfl)
      refine ⟨_, ω, b1, by rw [b3]; rfl, fun _ => rfl, by rw [b2.2.2.2]; rfl, ⟨N, t, hTJ.fr b2 rfl⟩, ⟨M, o, hOJ.fr b2 rfl⟩, hPJ.fr b2 rfl, ⟨C, W, c, hCJ.fr b2 rfl⟩, ⟨A, a, hAJ.fr b2 rfl⟩, ⟨l1, l2, l3, hLJ.fr16 b2 rfl⟩, n, m, st, ns, lc, nm, lt, ql, hRJ.fr b2 rfl, true, by rw [k1 19 (by decide)]; exact a4, b4, fun _ => ?_⟩
      refine sod_of (w := w) hn hu hC.1 hC.2.1 hPR hF (by rw [k1 19 (by decide)]; exact a5) (by rw [k1 19 (by decide)]; exact a6) ?_ (by rw [k3 27 (by decide)]; exact a8) (by rw [k3 28 (by decide)]; exact a9) (by rw [k3 30 (by decide)]; exact a10) (by rw [k3 32 (by decide)]; exact a11) b5 b6 b7 b8
      unfold ARR
      rw [k3 20 (by decide), k3 21 (by decide), k3 22 (by decide), k3 23 (by decide), k3 24 (by decide)]
      exact a7
end OSO
