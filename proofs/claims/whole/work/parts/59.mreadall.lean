section ML3
variable {σ : St} {N at_ hand fm : Nat} {t : Nat → Int32}
theorem more_loop {h : Nat} {ns : Nat → Nat} {nm : Nat → Nat → Int32} (hh : h < 60) : ∀ (fu : Nat) (σ : St) (at_ : Nat) (lc : Nat → Nat) (lt ql : Nat → Nat → Int32), N < fu + at_ → MA σ 1 N t at_ h (2, h + 1, 0, ns, lc, nm, lt, ql) → MNs σ (h + 1) ns → 0 < lc h → LO σ 1 t N (fun σ' => ∃ a lc' lt' ql', MA σ' 1 N t a h (2, h + 1, 0, ns, lc', nm, lt', ql') ∧ MNs σ' (h + 1) ns ∧ 0 < lc' h ∧ (a < N → t a = 62)) (l_X9_readOne_94 fu (nI (60 + h)) σ) := by
  intro fu
  induction fu with
  | zero => intro σ at_ lc lt ql h1 H; obtain ⟨⟨-, -, -, -, b5, -⟩, -⟩ := H; omega
  | succ fu ih =>
    intro σ at_ lc lt ql h1 H hN h0
    have HH := H
    obtain ⟨hS, hz, hP, hR⟩ := H
    have hSS := hS
    obtain ⟨b1, b2, b3, b4, b5, b6, b7⟩ := hS
    show LO σ 1 t N _ (b_X9_readOne_94 (l_X9_readOne_94 fu) (nI (60 + h)) σ)
    unfold b_X9_readOne_94 b_X9_readOne_124
    rw [b1, b3]
    by_cases ha : at_ < N
    · rw [if_neg (nI_ge ha (by omega)), look_in hSS ha, bd_s]
      by_cases hx : t at_ = 62
      · rw [if_pos hx, gz_1]
        exact ⟨σ, true, rfl, FrR.rf, (fun h => by cases h), fun _ => ⟨at_, lc, lt, ql, HH, hN, h0, fun _ => hx⟩⟩
      · rw [if_neg hx]
        refine LO.bd (letterLine_e (Or.inr rfl) hh HH hN (fun _ => ⟨fun _ _ => hx, fun h => by omega⟩)) (fun σ' _ => by rw [if_pos rfl, gz_0]) (fun σ' hf hg => ?_)
        obtain ⟨a, lc', lt', ql', c1, c2, c3, c4⟩ := hg
        rw [if_neg (by decide)]
        exact ih σ' a lc' lt' ql' (by omega) c2 c3 c4
    · rw [if_pos (nI_le (by omega) (by omega)), gz_1]
      exact ⟨σ, true, rfl, FrR.rf, (fun h => by cases h), fun _ => ⟨at_, lc, lt, ql, HH, hN, h0, fun h => absurd h ha⟩⟩
/-- between two reads -/
def Btw (fm N : Nat) (t : Nat → Int32) (at_ s h l : Nat) (lc : Nat → Nat) : Prop := (s = 0 ∧ (fm = 0 ∨ h = 0)) ∨ (fm = 1 ∧ s = 2 ∧ l = 0 ∧ 0 < h ∧ 0 < lc (h - 1) ∧ (at_ < N → t at_ = 62))
def RdN (σ : St) (fm N : Nat) (t : Nat → Int32) (at_ h n : Nat) : Prop := ∃ s l ns lc nm lt ql, MA σ fm N t at_ h (s, n, l, ns, lc, nm, lt, ql) ∧ MNs σ n ns ∧ Btw fm N t at_ s n l lc
theorem readOne_49 {h s l : Nat} {ns lc : Nat → Nat} {nm lt ql : Nat → Nat → Int32} (hfm : fm = 0 ∨ fm = 1) (H : MA σ fm N t at_ h (s, h, l, ns, lc, nm, lt, ql)) (hN : MNs σ h ns) (hB : Btw fm N t at_ s h l lc) (hh : h ≤ 60) (he : at_ = N → h = 0) (h43 : h < 60 → σ.2.1 43 (60 + h) = 0) (r : Nat) (hr : h < 60 → r = h) : LO σ fm t N (fun σ' => h < 60 ∧ ∃ a, RdN σ' fm N t a h (h + 1)) (b_X9_readOne_49 (nI fm) (nI (60 + r)) (mk fm) σ) := by
  unfold b_X9_readOne_49 b_X9_readOne_66 b_X9_readOne_92 b_X9_readOne_93
  have hm : at_ < N → pstep fm (t at_) (s, h, l, ns, lc, nm, lt, ql) = pmark fm (t at_) (s, h, l, ns, lc, nm, lt, ql) := by
    intro ha
    rcases hB with ⟨rfl, -⟩ | ⟨rfl, rfl, rfl, h1, h2, h3⟩
    · simp only [pstep, if_true]
    · simp only [pstep, if_neg (by decide : ¬ (2 : Nat) = 0), if_neg (by decide : ¬ (2 : Nat) = 1), if_true]
      rw [if_neg (by omega), if_pos ⟨trivial, h3 ha, trivial, h2⟩]
  have hend : at_ = N → pwh fm (s, h, l, ns, lc, nm, lt, ql) = false := by
    intro e
    have h0 := he e
    subst h0
    rcases hB with ⟨rfl, -⟩ | ⟨rfl, rfl, rfl, h1, h2, h3⟩
    · simp only [pwh]
      rcases hfm with rfl | rfl <;> simp
    · omega
  refine LO.bd (nameLine_e hfm rfl H hN hh hm hend h43 r hr) (fun σ' _ => by rw [if_pos rfl, gz_0]) (fun σ1 hf1 hg1 => ?_)
  obtain ⟨h60, a1, ns1, nm1, c1, c2, c3⟩ := hg1
  rw [if_neg (by decide)]
  have hrr := hr h60
  subst hrr
  refine LO.bd (letterLine_e hfm h60 c1 c2 (fun _ => ⟨fun _ h9 => by rw [upN_s] at h9; omega, fun _ => upN_s⟩)) (fun σ' _ => by rw [if_pos rfl, gz_0]) (fun σ2 hf2 hg2 => ?_)
  obtain ⟨a2, lc2, lt2, ql2, -, d2, d3, d4⟩ := hg2
  rw [if_neg (by decide : ¬ (1 : Int32) = 0)]
  rcases hfm with rfl | rfl
  · rw [if_pos (by decide : nI 0 = 0)]
    rw [if_pos rfl] at d2
    refine LO.bd (plusLine_e h60 c3 d2 d3) (fun σ' _ => by rw [if_pos rfl, gz_0]) (fun σ3 hf3 hg3 => ?_)
    obtain ⟨a3, e2, e3⟩ := hg3
    rw [if_neg (by decide)]
    refine LO.bd (qualityLine_e h60 e2 e3) (fun σ' _ => by rw [if_pos rfl, gz_0]) (fun σ4 hf4 hg4 => ?_)
    obtain ⟨a4, ql4, g2, g3⟩ := hg4
    rw [if_neg (by decide), gz_1]
    exact ⟨σ4, true, rfl, FrR.rf, (fun h => by cases h), fun _ => ⟨h60, a4, 0, 0, ns1, lc2, nm1, lt2, ql4, g2, g3, Or.inl ⟨rfl, Or.inl rfl⟩⟩⟩
  · rw [if_neg (by decide : ¬ nI 1 = 0)]
    rw [if_neg (by decide : ¬ (1 : Nat) = 0)] at d2
    have b6 := d2.1.2.2.2.2.2.1
    refine (more_loop h60 FU σ2 a2 lc2 lt2 ql2 (by simp only [FU]; omega) d2 d3 d4).mono ?_
    rintro σ' ⟨a, lc', lt', ql', g1, g2, g3, g4⟩
    exact ⟨h60, a, 2, 0, ns1, lc', nm1, lt', ql', g1, g2, Or.inr ⟨rfl, rfl, rfl, by omega, g3, g4⟩⟩
theorem readOne_e {h : Nat} (hfm : fm = 0 ∨ fm = 1) (H : RdN σ fm N t at_ h h) (hh : h ≤ 60) (he : at_ = N → h = 0) : LO σ fm t N (fun σ' => h < 60 ∧ ∃ a, RdN σ' fm N t a h (h + 1)) (f_X9_readOne (nI fm) σ) := by
  obtain ⟨s, l, ns, lc, nm, lt, ql, H, hN, hB⟩ := H
  obtain ⟨hS, hz, hP, hR⟩ := H
  have hSS := hS
  obtain ⟨b1, b2, b3, b4, b5, b6, b7⟩ := hS
  have hmk : ∀ (y : Int32) (τ : St), (if nI fm = 0 then b_X9_readOne_32 (nI fm) y 64 τ else b_X9_readOne_32 (nI fm) y 62 τ) = b_X9_readOne_32 (nI fm) y (mk fm) τ := by
    intro y τ
    rcases hfm with rfl | rfl
    · rw [if_pos (by decide : nI 0 = 0)]; rfl
    · rw [if_neg (by decide : ¬ nI 1 = 0)]; rfl
  unfold f_X9_readOne b_X9_readOne_19
  simp only [nx_e, hmk]
  unfold b_X9_readOne_32
  rw [b4, show (60 : Int32) = nI 60 from rfl]
  by_cases h60 : h = 60
  · subst h60
    rw [if_pos (nI_le (Nat.le_refl _) (by omega)), if_pos (nI_le (Nat.le_refl _) (by omega)), show nI 60 + 0 = nI (60 + 0) from nI_add 60 0]
    exact readOne_49 hfm ⟨hSS, hz, hP, hR⟩ hN hB hh he (fun h => by omega) 0 (fun h => by omega)
  · rw [if_neg (nI_ge (by omega) (by omega)), if_neg (nI_ge (by omega) (by omega)), nI_add, gd_t (inb_n (show 60 + h < ln 43 by show 60 + h < 120; omega) (by decide)), nx_e]
    have f1 : FrR σ (sA σ 43 (nI (60 + h)) 0) := FrR.a (by omega) (by omega)
    refine (readOne_49 (at_ := at_) (s := s) (l := l) (ns := ns) (lc := lc) (nm := nm) (lt := lt) (ql := ql) hfm ⟨hSS.a (by decide), hz, hP, ?_⟩ (hN.q (by decide)) hB hh he (fun h => by rw [sA_s (by omega), upd_s]) h (fun _ => rfl)).fr f1
    intro i hi
    rw [sA_q (by decide), sA_s (by omega), sA_q (by decide), sA_q (by decide), upd_n (by omega)]
    exact hR i hi
/-- the whole text is read by the model: a fault, or the reads -/
theorem read_44 (hfm : fm = 0 ∨ fm = 1) : ∀ (fu : Nat) (σ : St) (at_ h : Nat), 61 < fu + h → RdN σ fm N t at_ h h → h ≤ 60 → ∃ (σ' : St) (g : Bool), l_X9_read_44 fu (nI fm) 1 σ = b_X9_read_85 (bI g) σ' ∧ FrR σ σ' ∧ (g = false → Flt σ' fm t N) ∧ (g = true → ∃ h', h' ≤ 60 ∧ PRes fm t N 0 N ∧ RdN σ' fm N t N h' h') := by
  intro fu
  induction fu with
  | zero => intro σ at_ h h1 _ h2; omega
  | succ fu ih =>
    intro σ at_ h h1 H hh
    have HH := H
    obtain ⟨s, l, ns, lc, nm, lt, ql, H, hN, hB⟩ := H
    obtain ⟨hS, hz, hP, hR⟩ := H
    have hSS := hS
    obtain ⟨b1, b2, b3, b4, b5, b6, b7⟩ := hS
    show ∃ (σ' : St) (g : Bool), b_X9_read_44 (l_X9_read_44 fu) (nI fm) 1 σ = b_X9_read_85 (bI g) σ' ∧ _
    have h66 : (at_ = N → h = 0) → ∃ (σ' : St) (g : Bool), b_X9_read_66 (l_X9_read_44 fu) (nI fm) σ = b_X9_read_85 (bI g) σ' ∧ FrR σ σ' ∧ (g = false → Flt σ' fm t N) ∧ (g = true → ∃ h', h' ≤ 60 ∧ PRes fm t N 0 N ∧ RdN σ' fm N t N h' h') := by
      intro he
      unfold b_X9_read_66
      obtain ⟨σ1, g, e1, f1, f2, f3⟩ := readOne_e hfm HH hh he
      rw [e1, bd_s, nx_e]
      cases g
      · have f4 : FrR σ (sS σ1 39 10 (σ1.1 39 10 + 1)) := f1.tr (FrR.s (by omega))
        refine ⟨sS σ1 39 10 (σ1.1 39 10 + 1), false, ?_, f4, fun _ => ?_, fun h => by cases h⟩
        · obtain ⟨fu', rfl⟩ : ∃ fu', fu = fu' + 1 := ⟨fu - 1, by omega⟩
          show b_X9_read_44 (l_X9_read_44 fu') (nI fm) (bI false) _ = _
          unfold b_X9_read_44
          rw [if_pos (by decide)]
        · obtain ⟨f, pl, q1, q2, q3, q4⟩ := f2 rfl
          exact ⟨f, pl, q1, q2, by rw [sS_j (by decide)]; exact q3, by rw [sS_j (by decide)]; exact q4⟩
      · obtain ⟨h60, a, s1, l1, ns1, lc1, nm1, lt1, ql1, c1, c2, c3⟩ := f3 rfl
        obtain ⟨hS1, hz1, hP1, hR1⟩ := c1
        obtain ⟨d1, d2, d3, d4, d5, d6, d7⟩ := hS1
        rw [d4, nI_1]
        obtain ⟨σ', g', g1, g2, g3, g4⟩ := ih (sS σ1 39 10 (nI (h + 1))) a (h + 1) (by omega) ⟨s1, l1, ns1, lc1, nm1, lt1, ql1, ⟨⟨by rw [sS_j (by decide)]; exact d1, d2, by rw [sS_j (by decide)]; exact d3, sS_s, d5, d6, by omega, by rw [sS_j (by decide)]; exact d7.2⟩, hz1, hP1, hR1⟩, c2, c3⟩ (by omega)
        exact ⟨σ', g', g1, f1.tr ((FrR.s (by omega)).tr g2), g3, g4⟩
    unfold b_X9_read_44
    rw [if_neg (by decide : ¬ (1 : Int32) = 0), b1, b3, b4]
    by_cases ha : at_ < N
    · rw [if_pos (nI_lt ha (by omega))]
      exact h66 (fun h => by omega)
    · have e : at_ = N := by omega
      subst e
      rw [if_neg (nI_nlt (Nat.le_refl _) (by omega))]
      by_cases h0 : h = 0
      · subst h0
        rw [if_pos (by decide : nI 0 = 0)]
        exact h66 (fun _ => rfl)
      · rw [if_neg (nI_ne0 (by omega) (by omega))]
        refine ⟨σ, true, rfl, FrR.rf, (fun h => by cases h), fun _ => ⟨h, hh, Or.inr ⟨hz, rfl, ?_⟩, HH⟩⟩
        rw [hP]
        simp only [pwh]
        rcases hB with ⟨rfl, h9⟩ | ⟨rfl, rfl, rfl, q1, q2, q3⟩
        · have : fm = 0 := by omega
          subst this
          have : 0 < h := by omega
          simp [this]
        · simp [q2]
end ML3
