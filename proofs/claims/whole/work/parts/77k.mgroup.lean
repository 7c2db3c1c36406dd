section MG
/-- the model's grouping, what stays -/
def MX (X : Gx) (τ : St) : Prop := τ.1 39 9 = nI (gN X) ∧ τ.1 39 21 = nI (gU X) ∧ τ.1 39 33 = nI (gW X) ∧ gW X ≤ 12 ∧ (∀ i, i < gN X → τ.2.1 48 i = gB X i ∧ τ.2.1 51 i = bI (gS X i)) ∧ ∀ i, It X i → ∀ k, k < gU X → τ.2.1 44 (120 * i + gW X + k) = gT X i k
theorem MX.fr {X : Gx} {τ τ' : St} {ps fs qs : List Nat} (hG : MX X τ) (hf : FrG τ τ' ps fs qs) (hd : offL ps fs qs [] [9, 21, 33] [44, 48, 51] = true) : MX X τ' := by
  obtain ⟨k1, k2, k3⟩ := hf.off hd
  unfold MX
  rw [k2 9 (by decide), k2 21 (by decide), k2 33 (by decide), k3 44 (by decide), k3 48 (by decide), k3 51 (by decide)]
  exact hG
variable {X : Gx} {τ : St} {g h : Nat → Int32} {s q : Nat}
theorem counts_e {i : Nat} (hX : GX X) (hM : MX X τ) (hi : i < gN X) : f_X9_counts (nI i) (nI (gV X)) τ = some (bI (decide (It X i)), τ) := by
  obtain ⟨x1, x2, x3, x4⟩ := hX
  obtain ⟨m1, m2, m3, m4, m5, m6⟩ := hM
  unfold f_X9_counts b_X9_counts_23 b_X9_counts_24
  rw [gd_t (inb_n (show i < ln 48 by show i < 60; omega) (by decide)), gd_t (inb_n (show i < ln 51 by show i < 60; omega) (by decide)), nI_clamp (by omega), (m5 i hi).1, (m5 i hi).2, gz_0, gz_1]
  by_cases hb : gB X i = nI (gV X)
  · rw [if_pos hb]
    by_cases hsh : gS X i = false
    · rw [if_pos (bI_0.mpr hsh), decide_eq_true ⟨hi, ⟨by rw [hb]; exact nI_m1' (by omega), hsh⟩, hb⟩]; rfl
    · rw [if_neg (fun h => hsh (bI_0.mp h)), decide_eq_false (fun h => hsh h.2.1.2)]; rfl
  · rw [if_neg hb, decide_eq_false (fun h => hb h.2.2)]; rfl
theorem gdist_e {i j : Nat} (hX : GX X) (hM : MX X τ) (hi : It X i) (hj : It X j) : f_X9_distance (nI i) (nI j) τ = some (nI (gD X i j), τ) := by
  have hi60 : i < 60 := by have := hi.1; have := hX.1; omega
  have hj60 : j < 60 := by have := hj.1; have := hX.1; omega
  obtain ⟨m1, m2, m3, m4, m5, m6⟩ := hM
  rw [mdist_e hi60 hj60 m4 hX.2.1 m3 m2]
  rw [show ds (fun k => τ.2.1 44 (120 * i + gW X + k)) (fun k => τ.2.1 44 (120 * j + gW X + k)) (gU X) = gD X i j from ds_cg _ (m6 i hi) (m6 j hj)]
theorem countOf_e {i : Nat} (hX : GX X) (hM : MX X τ) (hi : It X i) : f_X9_countOf (nI i) τ = some (nI (cn X (rp X i)), τ) := by
  have hM0 := hM
  obtain ⟨m1, m2, m3, m4, m5, m6⟩ := hM
  have hn := hX.1
  have hi60 : i < 60 := by have := hi.1; omega
  have key : ∀ (fu k : Nat), k ≤ gN X → gN X < fu + k → l_X9_countOf_4 fu (nI i) (nI (cnt (fun j => decide (It X j) && decide (gD X i j = 0)) k)) (nI k) τ = some (nI (cnt (fun j => decide (It X j) && decide (gD X i j = 0)) (gN X)), τ) := by
    intro fu
    induction fu with
    | zero => intro k h1 h2; omega
    | succ fu ih =>
      intro k h1 h2
      show b_X9_countOf_4 (l_X9_countOf_4 fu) (nI i) (nI (cnt (fun j => decide (It X j) && decide (gD X i j = 0)) k)) (nI k) τ = _
      unfold b_X9_countOf_4 b_X9_countOf_40 b_X9_countOf_41
      rw [m1]
      by_cases e : k = gN X
      · rw [if_pos (nI_le (by omega) (by omega)), e]
      · have hd := ih (k + 1) (by omega) (by omega)
        have hs : cnt (fun j => decide (It X j) && decide (gD X i j = 0)) (k + 1) = cnt (fun j => decide (It X j) && decide (gD X i j = 0)) k + (if (decide (It X k) && decide (gD X i k = 0)) = true then 1 else 0) := rfl
        rw [hs, ← bI_add] at hd
        simp only [nx_e]
        rw [if_neg (nI_ge (by omega) (by omega)), gd_t (inb_n (show i < ln 48 by show i < 60; omega) (by decide)), nI_clamp (by omega), (m5 i hi.1).1, hi.2.2, counts_e hX hM0 (by omega), bd_s, nI_1 k]
        by_cases hk : It X k
        · rw [decide_eq_true hk, Bool.true_and] at hd
          rw [decide_eq_true hk, if_neg (by decide), gdist_e hX hM0 hi hk, bd_s]
          have hdl : gD X i k ≤ gU X := ds_le _
          have hu := hX.2.1
          by_cases h0 : gD X i k = 0
          · rw [decide_eq_true h0] at hd
            rw [if_pos (by rw [h0]; rfl)]
            exact hd
          · rw [decide_eq_false h0] at hd
            rw [if_neg (nI_ne0 (by omega) (by omega))]
            exact hd
        · rw [decide_eq_false hk, Bool.false_and] at hd
          rw [decide_eq_false hk, if_pos (by decide)]
          exact hd
  have h1 := key FU 0 (by omega) (by simp only [FU]; omega)
  have h2 : cnt (fun j => decide (It X j) && decide (gD X i j = 0)) (gN X) = cn X (rp X i) := by
    rw [← cn_tag hi]
    refine cnt_cg _ (fun j hj => ?_)
    by_cases hc : ctd (gB X) (gS X) j
    · by_cases hb : gB X j = nI (gV X)
      · rw [decide_eq_true (show It X j from ⟨hj, hc, hb⟩), decide_eq_true hc, decide_eq_true hb]; rfl
      · rw [decide_eq_false (fun h : It X j => hb h.2.2), decide_eq_true hc, decide_eq_false hb]; rfl
    · rw [decide_eq_false (fun h : It X j => hc h.2.1), decide_eq_false hc]; rfl
  rw [h2] at h1
  exact h1
theorem isBefore_e {x y : Nat} (hX : GX X) (hM : MX X τ) (hx : It X x) (hy : It X y) : f_X9_isBefore (nI x) (nI y) τ = some (bI (bf X x y), τ) := by
  have hM0 := hM
  obtain ⟨m1, m2, m3, m4, m5, m6⟩ := hM
  obtain ⟨x1, x2, x3, x4⟩ := hX
  have hx60 : x < 60 := by have := hx.1; omega
  have hy60 : y < 60 := by have := hy.1; omega
  have c1 := cn_le (X := X) (r := rp X x)
  have c2 := cn_le (X := X) (r := rp X y)
  have htag : ∀ i, It X i → i < 60 → ∀ k, k < gU X → f_X9_tagAt (nI i) (nI k) τ = some (gT X i k, τ) := by
    intro i hi hi60 k hk
    unfold f_X9_tagAt
    rw [m3, show (120 : Int32) = nI 120 from rfl, pk_mul, nI_add, nI_add, gd_t (inb_n (show 120 * i + gW X + k < ln 44 by show 120 * i + gW X + k < 14400; omega) (by decide)), nI_clamp (by omega), m6 i hi k hk]
  have key : ∀ (fu k r : Nat), k + r = gU X → r < fu → l_X9_isBefore_34 fu (nI x) (nI y) (nI k) τ = some (bI (lx (gT X x) (gT X y) r k), τ) := by
    intro fu
    induction fu with
    | zero => intro k r h1 h2; omega
    | succ fu ih =>
      intro k r h1 h2
      show b_X9_isBefore_34 (l_X9_isBefore_34 fu) (nI x) (nI y) (nI k) τ = _
      unfold b_X9_isBefore_34 b_X9_isBefore_82
      rw [m2]
      cases r with
      | zero =>
        rw [if_pos (nI_le (by omega) (by omega)), gz_0]
        rfl
      | succ r =>
        simp only [nx_e]
        rw [if_neg (nI_ge (by omega) (by omega)), htag x hx hx60 k (by omega), bd_s, htag y hy hy60 k (by omega), bd_s, htag x hx hx60 k (by omega), bd_s, htag y hy hy60 k (by omega), bd_s, nI_1, gz_0, gz_1]
        simp only [lx]
        by_cases e : gT X x k = gT X y k
        · rw [if_pos e, if_pos e]
          exact ih (k + 1) r (by omega) (by omega)
        · rw [if_neg e, if_neg e]
          by_cases h9 : gT X x k < gT X y k
          · rw [if_neg (Int32.not_le.mpr h9), decide_eq_true h9]; rfl
          · rw [if_pos (Int32.not_lt.mp h9), decide_eq_false h9]; rfl
  unfold f_X9_isBefore b_X9_isBefore_30
  rw [countOf_e ⟨x1, x2, x3, x4⟩ hM0 hx, bd_s, countOf_e ⟨x1, x2, x3, x4⟩ hM0 hy, bd_s, gz_0, gz_1]
  simp only [bf]
  by_cases e : cn X (rp X x) = cn X (rp X y)
  · rw [if_pos (by rw [e]), e, decide_eq_true rfl, decide_eq_false (Nat.lt_irrefl _), Bool.true_and, Bool.false_or]
    exact key FU 0 (gU X) (by omega) (by simp only [FU]; omega)
  · rw [if_neg (fun h => e ((nI_eq (by omega) (by omega)).mp h)), decide_eq_false e, Bool.false_and, Bool.or_false]
    by_cases h9 : cn X (rp X y) < cn X (rp X x)
    · rw [if_neg (nI_ge h9 (by omega)), decide_eq_true h9]; rfl
    · rw [if_pos (nI_le (by omega) (by omega)), decide_eq_false h9]; rfl
/-- a group grows in the model: what holds on the way -/
def MI (X : Gx) (g h : Nat → Int32) (s q : Nat) (τ : St) (gm : Nat → Int32) : Prop := (∀ i, i < gN X → τ.2.1 52 i = gm i) ∧ (∀ i, i < gN X → ¬ It X i → gm i = h i) ∧ (∀ i, It X i → gm i = g (rp X i) ∨ (g (rp X i) = -1 ∧ gm i = nI q ∧ Rch X g s i)) ∧ MX X τ
def mu (X : Gx) (gm : Nat → Int32) : Nat := cnt (fun j => decide (It X j ∧ gm j = -1)) (gN X)
theorem cnt_dn {p p' : Nat → Bool} {x : Nat} (h0 : p x = true) (h1 : p' x = false) (h2 : ∀ i, i ≠ x → p' i = p i) : ∀ k, x < k → cnt p' k < cnt p k := by
  intro k hk
  have := cnt_up (p := p') (p' := p) (x := x) h1 h0 (fun i hi => (h2 i hi).symm) k
  rw [if_pos hk] at this
  omega
/-- group numbers so far -/
def gOk (X : Gx) (g : Nat → Int32) (q : Nat) : Prop := ∀ r, Rp X r → g r = -1 ∨ ∃ p, p < q ∧ g r = nI p
theorem ed_val {i j : Nat} (hX : GX X) (hM : MX X τ) (hi : It X i) (hj : It X j) (hle : gD X i j ≤ 1) {A N : St → Option Rs} {B : Option Rs} (hA : Ed X i j → A τ = B) (hN : ¬ Ed X i j → N τ = B) : (if bI (gw X) = 0 then A τ else bd (f_X9_distance (nI i) (nI j) τ) (fun r3 s4 => (if r3 = 0 then A s4 else bd (f_X9_countOf (nI j) s4) (fun r7 s8 => bd (f_X9_countOf (nI i) s8) (fun r10 s11 => (if r10 < (((2) * r7) - (1)) then N s11 else A s11)))))) = B := by
  have c1 := cn_le (X := X) (r := rp X i)
  have c2 := cn_le (X := X) (r := rp X j)
  have c3 := cn_pos hj
  have hn := hX.1
  by_cases hw : gw X = false
  · rw [if_pos (bI_0.mpr hw)]
    refine hA ?_
    by_cases h0 : gD X i j = 0
    · exact Or.inl h0
    · exact Or.inr ⟨by omega, Or.inl hw⟩
  · rw [if_neg (fun h => hw (bI_0.mp h)), gdist_e hX hM hi hj, bd_s]
    by_cases h0 : gD X i j = 0
    · rw [if_pos (by rw [h0]; rfl)]
      exact hA (Or.inl h0)
    · obtain ⟨p, hp⟩ : ∃ p, 2 * cn X (rp X j) = p + 1 := ⟨2 * cn X (rp X j) - 1, by omega⟩
      have e2 : (2 : Int32) * nI (cn X (rp X j)) - 1 = nI p := by
        rw [show (2 : Int32) = nI 2 from rfl, pk_mul, hp, nI_pred]
      rw [if_neg (nI_ne0 (by omega) (by omega)), countOf_e hX hM hj, bd_s, countOf_e hX hM hi, bd_s, e2]
      by_cases h2 : cn X (rp X i) < p
      · rw [if_pos (nI_lt h2 (by omega))]
        exact hN (fun h => h.elim h0 (fun h3 => h3.2.elim hw (fun h4 => by omega)))
      · rw [if_neg (nI_nlt (by omega) (by omega))]
        exact hA (Or.inr ⟨by omega, Or.inr (by omega)⟩)
theorem spread_26 {K3 : Int32 → Int32 → Int32 → Int32 → St → Option Rs} {K14 : Int32 → Int32 → Int32 → Int32 → Int32 → St → Option Rs} {i : Nat} (hX : GX X) (hq : q < 1000) (hgk : gOk X g q) (hi : It X i) : ∀ (fu x6 : Nat) (τ : St) (gm : Nat → Int32) (fl : Bool), x6 ≤ gN X → gN X < fu + x6 → MI X g h s q τ gm → gm i = nI q → ∃ (τ' : St) (gm' : Nat → Int32) (fl' : Bool), l_X9_spreadGroup_26 K3 K14 fu (nI (gV X)) (nI q) (bI (gw X)) (bI fl) (nI i) (nI x6) τ = K14 (nI (gV X)) (nI q) (bI (gw X)) (bI fl') (nI (i + 1)) τ' ∧ MI X g h s q τ' gm' ∧ FrG τ τ' [] [] [52] ∧ (∀ j, It X j → gm j = nI q → gm' j = nI q) ∧ ((fl' = fl ∧ gm' = gm ∧ ∀ j, x6 ≤ j → It X j → gm j = -1 → ¬ Ed X i j) ∨ (fl' = true ∧ mu X gm' < mu X gm)) := by
  intro fu
  induction fu with
  | zero => intro x6 τ gm fl h1 h2; omega
  | succ fu ih =>
    intro x6 τ gm fl h1 h2 hMI hgi
    have hMI0 := hMI
    obtain ⟨a1, a2, a3, a4⟩ := hMI
    have hn := hX.1
    have hu := hX.2.1
    have hi60 : i < gN X := hi.1
    show ∃ (τ' : St) (gm' : Nat → Int32) (fl' : Bool), b_X9_spreadGroup_26 K3 K14 (l_X9_spreadGroup_26 K3 K14 fu) (nI (gV X)) (nI q) (bI (gw X)) (bI fl) (nI i) (nI x6) τ = _ ∧ _
    unfold b_X9_spreadGroup_26 b_X9_spreadGroup_92 b_X9_spreadGroup_93 b_X9_spreadGroup_134 b_X9_spreadGroup_145 b_X9_spreadGroup_151
    simp only [nx_e, if_true, if_false]
    rw [a4.1]
    by_cases e : x6 = gN X
    · rw [if_pos (nI_le (by omega) (by omega)), nI_1]
      exact ⟨τ, gm, fl, rfl, hMI0, FrG.rf, fun _ _ h => h, Or.inl ⟨rfl, rfl, fun j hj hJ => absurd hJ.1 (by omega)⟩⟩
    · have hx6 : x6 < gN X := by omega
      have hskip : (It X x6 → gm x6 = -1 → ¬ Ed X i x6) → ∃ (τ' : St) (gm' : Nat → Int32) (fl' : Bool), l_X9_spreadGroup_26 K3 K14 fu (nI (gV X)) (nI q) (bI (gw X)) (bI fl) (nI i) (nI (x6 + 1)) τ = K14 (nI (gV X)) (nI q) (bI (gw X)) (bI fl') (nI (i + 1)) τ' ∧ MI X g h s q τ' gm' ∧ FrG τ τ' [] [] [52] ∧ (∀ j, It X j → gm j = nI q → gm' j = nI q) ∧ ((fl' = fl ∧ gm' = gm ∧ ∀ j, x6 ≤ j → It X j → gm j = -1 → ¬ Ed X i j) ∨ (fl' = true ∧ mu X gm' < mu X gm)) := by
        intro hno
        obtain ⟨τ', gm', fl', k1, k2, k3, k4, k5⟩ := ih (x6 + 1) τ gm fl (by omega) (by omega) hMI0 hgi
        refine ⟨τ', gm', fl', k1, k2, k3, k4, ?_⟩
        rcases k5 with ⟨c1, c2, c3⟩ | c1
        · refine Or.inl ⟨c1, c2, fun j hj hJ hgj => ?_⟩
          by_cases e : j = x6
          · subst e; exact hno hJ hgj
          · exact c3 j (by omega) hJ hgj
        · exact Or.inr c1
      rw [if_neg (nI_ge (by omega) (by omega)), counts_e hX a4 hi60, bd_s, decide_eq_true hi, if_neg (by decide), gd_t (inb_n (show i < ln 52 by show i < 60; omega) (by decide)), nI_clamp (by omega), a1 i hi60, hgi, if_pos rfl, counts_e hX a4 hx6, bd_s, nI_1]
      by_cases hJ : It X x6
      · rw [decide_eq_true hJ, if_neg (by decide), gd_t (inb_n (show x6 < ln 52 by show x6 < 60; omega) (by decide)), nI_clamp (by omega), a1 x6 hx6, gdist_e hX a4 hi hJ, bd_s]
        have hdl : gD X i x6 ≤ gU X := ds_le _
        have hval : gm x6 = -1 ∨ ∃ p, p < 1000 ∧ gm x6 = nI p := by
          rcases a3 x6 hJ with h9 | ⟨-, h9, -⟩
          · rcases hgk _ (rp_Rp hJ) with h10 | ⟨p, p1, p2⟩
            · exact Or.inl (h9.trans h10)
            · exact Or.inr ⟨p, by omega, h9.trans p2⟩
          · exact Or.inr ⟨q, hq, h9⟩
        rcases hval with hg1 | ⟨p, p1, p2⟩
        · rw [hg1, if_neg (by decide)]
          by_cases hd : gD X i x6 ≤ 1
          · rw [if_neg (show ¬ (1 : Int32) < nI (gD X i x6) from nI_nlt (a := 1) hd (by decide))]
            try rw [if_neg (by decide : ¬ (1 : Int32) = 0)]
            have hgo : gm x6 = -1 → g (rp X x6) = -1 := fun h9 => by
              rcases a3 x6 hJ with h10 | ⟨h10, -, -⟩
              · rw [← h10]; exact h9
              · exact h10
            have hRi : Rch X g s i ∧ g (rp X i) = -1 := by
              rcases a3 i hi with h10 | ⟨h10, -, h11⟩
              · exfalso
                rw [hgi] at h10
                rcases hgk _ (rp_Rp hi) with h12 | ⟨p, p1, p2⟩
                · rw [h12] at h10; exact nI_m1' (by omega) h10
                · rw [p2] at h10
                  have := (nI_eq (by omega) (by omega)).mp h10
                  omega
              · exact ⟨h11, h10⟩
            by_cases hed : Ed X i x6
            · -- it is drawn
              have f1 : FrG τ (sA τ 52 (nI x6) (nI q)) [] [] [52] := FrG.sA
              have hMIn : MI X g h s q (sA τ 52 (nI x6) (nI q)) (va_up gm x6 (nI q)) := by
                refine ⟨fun k hk => ?_, fun k hk hnk => ?_, fun k hk => ?_, a4.fr f1 rfl⟩
                · rw [sA_s (by omega)]
                  by_cases e : k = x6
                  · subst e; rw [upd_s, upN_s]
                  · rw [upd_n e, upN_n e]; exact a1 k hk
                · rw [upN_n (fun e => by subst e; exact hnk hJ)]
                  exact a2 k hk hnk
                · by_cases e : k = x6
                  · subst e
                    rw [upN_s]
                    exact Or.inr ⟨hgo hg1, rfl, hRi.1.st ⟨hi, hRi.2⟩ ⟨hJ, hgo hg1⟩ hed⟩
                  · rw [upN_n e]; exact a3 k hk
              have hmu : mu X (va_up gm x6 (nI q)) < mu X gm := by
                refine cnt_dn (x := x6) (decide_eq_true ⟨hJ, hg1⟩) (decide_eq_false (fun h => by rw [upN_s] at h; exact nI_m1' (by omega) h.2)) (fun k hk => ?_) _ hx6
                show decide (It X k ∧ va_up gm x6 (nI q) k = -1) = decide (It X k ∧ gm k = -1)
                rw [upN_n hk]
              obtain ⟨τ', gm', fl', k1, k2, k3, k4, k5⟩ := ih (x6 + 1) (sA τ 52 (nI x6) (nI q)) (va_up gm x6 (nI q)) true (by omega) (by omega) hMIn (by
                by_cases e : i = x6
                · subst e; exact upN_s
                · rw [upN_n e]; exact hgi)
              refine ⟨τ', gm', fl', ?_, k2, f1.tr k3, fun j hJ2 hgj => k4 j hJ2 (by
                by_cases e : j = x6
                · subst e; exact upN_s
                · rw [upN_n e]; exact hgj), Or.inr ?_⟩
              · refine Eq.trans (ed_val hX a4 hi hJ hd (A := fun υ => gd (inb (nI x6) (ln 52)) (l_X9_spreadGroup_26 K3 K14 fu (nI (gV X)) (nI q) (bI (gw X)) 1 (nI i) (nI (x6 + 1)) (sA υ 52 (nI x6) (nI q)))) (N := fun υ => l_X9_spreadGroup_26 K3 K14 fu (nI (gV X)) (nI q) (bI (gw X)) (bI fl) (nI i) (nI (x6 + 1)) υ) (B := l_X9_spreadGroup_26 K3 K14 fu (nI (gV X)) (nI q) (bI (gw X)) 1 (nI i) (nI (x6 + 1)) (sA τ 52 (nI x6) (nI q))) (fun _ => gd_t (inb_n (show x6 < ln 52 by show x6 < 60; omega) (by decide))) (fun h => absurd hed h)) k1
              · rcases k5 with ⟨c1, c2, -⟩ | ⟨c1, c2⟩
                · exact ⟨c1, by rw [c2]; exact hmu⟩
                · exact ⟨c1, by omega⟩
            · obtain ⟨τ', gm', fl', k1, k2⟩ := hskip (fun _ _ => hed)
              refine ⟨τ', gm', fl', ?_, k2⟩
              exact Eq.trans (ed_val hX a4 hi hJ hd (A := fun υ => gd (inb (nI x6) (ln 52)) (l_X9_spreadGroup_26 K3 K14 fu (nI (gV X)) (nI q) (bI (gw X)) 1 (nI i) (nI (x6 + 1)) (sA υ 52 (nI x6) (nI q)))) (N := fun υ => l_X9_spreadGroup_26 K3 K14 fu (nI (gV X)) (nI q) (bI (gw X)) (bI fl) (nI i) (nI (x6 + 1)) υ) (B := l_X9_spreadGroup_26 K3 K14 fu (nI (gV X)) (nI q) (bI (gw X)) (bI fl) (nI i) (nI (x6 + 1)) τ) (fun h => absurd h hed) (fun _ => rfl)) k1
          · rw [if_pos (show (1 : Int32) < nI (gD X i x6) from nI_lt (a := 1) (by omega) (by omega))]
            exact hskip (fun _ _ h => h.elim (fun h => by omega) (fun h => by omega))
        · rw [p2, if_pos (nI_pos' (by omega))]
          exact hskip (fun _ h => by rw [p2] at h; exact absurd h (nI_m1' (by omega)))
      · rw [decide_eq_false hJ, if_pos (by decide)]
        exact hskip (fun h => absurd h hJ)
end MG
