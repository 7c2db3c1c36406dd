section CS
/-- what is known of a read: its bin, its cut, and how both come to them -/
def PRD (b : Bool) (n m : Nat) (st ns lc : Nat → Nat) (nm lt ql : Nat → Nat → Int32) (A : Nat) (ad : Nat → Int32) (l1 l2 l3 C W u : Nat) (c : Nat → Nat → Int32) (bn : Nat → Int32) (bg en : Nat → Nat) (sh : Nat → Bool) (i : Nat) : Prop := ((W + u ≤ lc i ∧ BinR C W ((spr c W C - 1) / 2) c (lt i) (bn i)) ∨ (¬ W + u ≤ lc i ∧ bn i = -1)) ∧ bg i ≤ en i ∧ en i ≤ lc i ∧ sh i = decide (en i - bg i < l3) ∧ (∀ τ : St, CH b n m st ns lc nm lt ql A ad l1 l2 l3 τ → ∃ τ', f_X6_cut b (nI i) (nI (if bn i = -1 then 0 else W + u)) τ = some (0, τ') ∧ τ'.1 16 4 = nI (bg i) ∧ τ'.1 16 5 = nI (en i) ∧ FrT τ τ') ∧ (∀ τ : St, MH n ns lc nm lt ql A ad l1 l2 l3 τ → τ.2.1 49 i = nI (if bn i = -1 then 0 else W + u) → τ.2.1 50 i = nI (lc i) → ∃ τ1 τ2 τ3, f_X9_cutAdapter (nI i) τ = some (0, τ1) ∧ f_X9_cutQualities (nI i) τ1 = some (0, τ2) ∧ f_X9_cutNone (nI i) τ2 = some (0, τ3) ∧ τ3.2.1 49 i = nI (bg i) ∧ τ3.2.1 50 i = nI (en i) ∧ FrM i τ τ3)
/-- what the class holds of the first k -/
def ARR (τ : St) (k : Nat) (bn : Nat → Int32) (bg en : Nat → Nat) (sh : Nat → Bool) (ql : Nat → Nat → Int32) : Prop := ∀ i, i < k → τ.2.1 20 i = bn i ∧ τ.2.1 21 i = nI (bg i) ∧ τ.2.1 22 i = nI (en i) ∧ τ.2.1 24 i = bI (sh i) ∧ τ.2.1 23 i = nI (smq (ql i) (bg i) (en i - bg i))
def CSt (σ τ : St) (k C u W : Nat) (w : Bool) (bn : Nat → Int32) (bg en : Nat → Nat) (sh : Nat → Bool) (lt ql : Nat → Nat → Int32) : Prop := FrG σ τ [14, 16, 19, 25] [] [15, 20, 21, 22, 23, 24, 26, 27, 28, 29, 30, 32] ∧ (∀ j, j ≠ 4 → j ≠ 5 → τ.1 16 j = σ.1 16 j) ∧ τ.1 19 7 = nI k ∧ τ.1 19 8 = nI C ∧ ARR τ k bn bg en sh ql ∧ GF τ k u W w bn sh lt
variable {n m A l1 l2 l3 C W u : Nat} {st ns lc : Nat → Nat} {nm lt ql : Nat → Nat → Int32} {ad : Nat → Int32} {c : Nat → Nat → Int32} {bn : Nat → Int32} {bg en : Nat → Nat} {sh : Nat → Bool} {w : Bool}
theorem ch_of {σ τ : St} (hR : RdI σ n m st ns lc nm lt ql) (hA : AdaI σ A ad) (hL : LimI σ l1 l2 l3) (hf : FrG σ τ [14, 16, 19, 25] [] [15, 20, 21, 22, 23, 24, 26, 27, 28, 29, 30, 32]) (h16 : ∀ j, j ≠ 4 → j ≠ 5 → τ.1 16 j = σ.1 16 j) : CH σ.2.2.1 n m st ns lc nm lt ql A ad l1 l2 l3 τ := by
  have h := hR.fr hf rfl
  have e : τ.2.2 = σ.2.2 := hf.2.2.2
  have hA' := hA.fr hf rfl
  have hL' := hL.fr hf rfl (h16 1 (by decide) (by decide)) (h16 2 (by decide) (by decide)) (h16 3 (by decide) (by decide))
  exact ⟨by rw [← e]; exact h.2.1, by rw [← e]; exact h.2.2.1, hA'.1, hL'.2.2.2.1, hL'.2.2.2.2.2.1, hL'.2.2.2.2.2.2.2.1⟩
theorem csum_e {b : Bool} {τ : St} {i a e : Nat} (hR : RdC τ b n m st ns lc nm lt) (hQ : RdQ τ b n m st ns lc ql) (hi : i < n) (hae : a ≤ e) (he : e ≤ lc i) (h120 : lc i ≤ 120) (h21 : τ.2.1 21 i = nI a) (h22 : τ.2.1 22 i = nI e) (hV : ∀ k, k < lc i → ∃ q : Nat, q ≤ 93 ∧ ql i k = nI q) : f_X5_sumOfQualities b (nI i) τ = some (nI (smq (ql i) a (e - a)), τ) := by
  have hn := hR.2.1
  have key : ∀ (fu j : Nat), a + j ≤ e → e < fu + (a + j) → l_X5_sumOfQualities_10 b fu (nI i) (nI (smq (ql i) a j)) (nI (a + j)) τ = some (nI (smq (ql i) a (e - a)), τ) := by
    intro fu
    induction fu with
    | zero => intro j h1 h2; omega
    | succ fu ih =>
      intro j h1 h2
      show b_X5_sumOfQualities_10 b (l_X5_sumOfQualities_10 b fu) (nI i) (nI (smq (ql i) a j)) (nI (a + j)) τ = _
      unfold b_X5_sumOfQualities_10
      simp only [nx_e]
      rw [gd_t (inb_n (show i < ln 22 by show i < 60; omega) (by decide)), nI_clamp (by omega), h22]
      by_cases e1 : a + j = e
      · rw [if_pos (nI_le (by omega) (by omega)), show e - a = j by omega]
      · obtain ⟨v, v1, v2⟩ := hV (a + j) (by omega)
        have hd := ih (j + 1) (by omega) (by omega)
        have hs : smq (ql i) a (j + 1) = smq (ql i) a j + v := by
          simp only [smq]
          rw [v2, nI_clamp (by omega)]
        rw [hs] at hd
        rw [if_neg (nI_ge (by omega) (by omega)), quality_in hR hQ hi (by omega : a + j < lc i), bd_s, v2, nI_add, nI_1]
        exact hd
  unfold f_X5_sumOfQualities
  rw [gd_t (inb_n (show i < ln 21 by show i < 60; omega) (by decide)), nI_clamp (by omega), h21, nx_e]
  exact key FU 0 (by omega) (by simp only [FU]; omega)
theorem tooShort_e {τ : St} {a e : Nat} (hae : a ≤ e) (he : e ≤ 120) (hl3 : l3 ≤ 120) (h3 : τ.1 16 3 = nI l3) (h4 : τ.1 16 4 = nI a) (h5 : τ.1 16 5 = nI e) : f_X6_isTooShort τ = some (bI (decide (e - a < l3)), τ) := by
  unfold f_X6_isTooShort b_X6_isTooShort_21
  rw [h3, h4, h5, pk_sub hae, gz_0, gz_1]
  by_cases h : e - a < l3
  · rw [if_neg (nI_ge h (by omega)), decide_eq_true h]; rfl
  · rw [if_pos (nI_le (by omega) (by omega)), decide_eq_false h]; rfl
theorem add_c {σ τ : St} {i : Nat} (hR : RdI σ n m st ns lc nm lt ql) (hA : AdaI σ A ad) (hL : LimI σ l1 l2 l3) (hS : CSt σ τ i C u W w bn bg en sh lt ql) (hi : i < n) (hbe : bg i ≤ en i) (he : en i ≤ lc i) (hsh : sh i = decide (en i - bg i < l3)) (h4 : τ.1 16 4 = nI (bg i)) (h5 : τ.1 16 5 = nI (en i)) : ∃ τ', f_X5_add σ.2.2.1 (bn i) τ = some (0, τ') ∧ FrG τ τ' [19] [] [20, 21, 22, 23, 24] ∧ τ'.1 19 7 = nI (i + 1) ∧ τ'.1 19 8 = nI C ∧ ARR τ' (i + 1) bn bg en sh ql := by
  obtain ⟨s1, s2, s3, s4, s5, s6⟩ := hS
  have hn := hR.2.1.2.1
  have hv := hR.2.2.2.2 i hi
  have hl3 := hL.2.2.1
  have h120 := hv.2.1
  have hC := ch_of hR hA hL s1 s2
  unfold f_X5_add f_X6_begin f_X6_end
  simp only [nx_e]
  rw [s3, if_neg (nI_pos (by omega)), if_pos (show nI i < (60 : Int32) from nI_lt (b := 60) (by omega) (by decide)), gd_t (inb_n (show i < ln 20 by show i < 60; omega) (by decide)), bd_s, gd_t (inb_n (show i < ln 21 by show i < 60; omega) (by decide)), bd_s, gd_t (inb_n (show i < ln 22 by show i < 60; omega) (by decide))]
  rw [show (sA τ 20 (nI i) (bn i)).1 16 4 = nI (bg i) from h4]
  rw [show (sA (sA τ 20 (nI i) (bn i)) 21 (nI i) (nI (bg i))).1 16 5 = nI (en i) from h5]
  generalize hυ : sA (sA (sA τ 20 (nI i) (bn i)) 21 (nI i) (nI (bg i))) 22 (nI i) (nI (en i)) = υ
  have u1 : υ.1 = τ.1 := by rw [← hυ]; rfl
  have uf : FrG τ υ [] [] [20, 21, 22] := by
    rw [← hυ]
    exact ((FrG.sA.mono rfl).tr (FrG.sA.mono rfl)).tr (FrG.sA.mono rfl)
  rw [tooShort_e (l3 := l3) hbe (by omega) hl3 (by rw [u1]; exact hC.2.2.2.2.2) (by rw [u1]; exact h4) (by rw [u1]; exact h5), bd_s, gd_t (inb_n (show i < ln 24 by show i < 60; omega) (by decide)), gz_b, ← hsh]
  have v21 : (sA υ 24 (nI i) (bI (sh i))).2.1 21 i = nI (bg i) := by
    rw [sA_q (by decide), ← hυ, sA_q (by decide), sA_s (by omega), upd_s]
  have v22 : (sA υ 24 (nI i) (bI (sh i))).2.1 22 i = nI (en i) := by
    rw [sA_q (by decide), ← hυ, sA_s (by omega), upd_s]
  have vf : FrG τ (sA υ 24 (nI i) (bI (sh i))) [] [] [20, 21, 22, 24] := (uf.mono rfl).tr (FrG.sA.mono rfl)
  have hR2 := hR.fr (s1.tr (vf.mono rfl)) rfl
  have e2 : (sA υ 24 (nI i) (bI (sh i))).2.2 = σ.2.2 := (s1.tr (vf.mono rfl)).2.2.2
  rw [csum_e (b := σ.2.2.1) (by rw [← e2]; exact hR2.2.1) (by rw [← e2]; exact hR2.2.2.1) hi hbe he h120 v21 v22 hv.2.2.2.2.2, bd_s, gd_t (inb_n (show i < ln 23 by show i < 60; omega) (by decide))]
  rw [show (sA (sA υ 24 (nI i) (bI (sh i))) 23 (nI i) (nI (smq (ql i) (bg i) (en i - bg i)))).1 19 7 = nI i by show υ.1 19 7 = nI i; rw [u1]; exact s3, nI_1]
  refine ⟨_, rfl, ((vf.mono rfl).tr (FrG.sA.mono rfl)).tr ((frg_oS (by decide)).mono rfl), sS_s, ?_, fun k hk => ?_⟩
  · rw [sS_j (by decide)]
    show υ.1 19 8 = nI C
    rw [u1]; exact s4
  · rw [sS_a, sA_q (p := 20) (q := 23) (by decide), sA_q (p := 20) (q := 24) (by decide), sA_q (p := 21) (q := 23) (by decide), sA_q (p := 21) (q := 24) (by decide), sA_q (p := 22) (q := 23) (by decide), sA_q (p := 22) (q := 24) (by decide), sA_q (p := 24) (q := 23) (by decide), sA_s (q := 24) (by omega), sA_s (q := 23) (by omega), sA_q (p := 23) (q := 24) (by decide), ← hυ, sA_q (p := 20) (q := 22) (by decide), sA_q (p := 20) (q := 21) (by decide), sA_s (q := 20) (by omega), sA_q (p := 21) (q := 22) (by decide), sA_s (q := 21) (by omega), sA_q (p := 21) (q := 20) (by decide), sA_s (q := 22) (by omega), sA_q (p := 22) (q := 21) (by decide), sA_q (p := 22) (q := 20) (by decide), sA_q (p := 24) (q := 22) (by decide), sA_q (p := 24) (q := 21) (by decide), sA_q (p := 24) (q := 20) (by decide), sA_q (p := 23) (q := 22) (by decide), sA_q (p := 23) (q := 21) (by decide), sA_q (p := 23) (q := 20) (by decide)]
    by_cases e : k = i
    · subst e
      rw [upd_s, upd_s, upd_s, upd_s, upd_s]
      exact ⟨rfl, rfl, rfl, rfl, rfl⟩
    · rw [upd_n e, upd_n e, upd_n e, upd_n e, upd_n e]
      exact s5 k (by omega)
theorem sortRead_c {σ τ : St} {i : Nat} (hR : RdI σ n m st ns lc nm lt ql) (hCo : CodI σ C W c) (hA : AdaI σ A ad) (hL : LimI σ l1 l2 l3) (hS : CSt σ τ i C u W w bn bg en sh lt ql) (hi : i < n) (hu : u ≤ 12) (hP : PRD σ.2.2.1 n m st ns lc nm lt ql A ad l1 l2 l3 C W u c bn bg en sh i) : ∃ τ', f_X8_sortRead (nI i) (nI u) τ = some (0, τ') ∧ CSt σ τ' (i + 1) C u W w bn bg en sh lt ql := by
  have hS0 := hS
  obtain ⟨s1, s2, s3, s4, s5, s6⟩ := hS
  have hCH := ch_of hR hA hL s1 s2
  have hC' := hCo.fr s1 rfl
  obtain ⟨c1, c2, c3, c4, c5, c6, c7, c8, c9, c10⟩ := hC'
  have hn := hR.2.1.2.1
  have hv := hR.2.2.2.2 i hi
  have hl3 := hL.2.2.1
  have h120 := hv.2.1
  obtain ⟨p1, p2, p3, p4, p5, p6⟩ := hP
  have eb : τ.2.2 = σ.2.2 := s1.2.2.2
  have hsp := spr_le13 (c := c) (W := W) C
  -- the bin
  have hbin : ∃ τ1, (if nI (W + u) ≤ nI (lc i) then bd (f_X0_nearTo σ.2.2.1 (nI i) τ) (fun r10 s11 => b_X8_sortRead_38 (nI i) (nI (W + u)) r10 s11) else b_X8_sortRead_38 (nI i) (nI (W + u)) (-1 : Int32) τ) = b_X8_sortRead_38 (nI i) (nI (W + u)) (bn i) τ1 ∧ FrG τ τ1 [14] [] [15] := by
    rcases p1 with ⟨q1, q2⟩ | ⟨q1, q2⟩
    · obtain ⟨x, τ1, k1, k2, k3⟩ := cnear_e (b := σ.2.2.1) (τ := τ) c1 c2 c10 c3 c5 c9 (fun i hi k hk => (c8 i hi k hk).1) hCH.1 hi (by omega)
      refine ⟨τ1, ?_, k3⟩
      rw [if_pos (nI_le q1 (by omega)), k1, bd_s, k2.uq q2 (by omega)]
    · refine ⟨τ, ?_, FrG.rf⟩
      rw [if_neg (nI_ge (by omega) (by omega)), q2]
  obtain ⟨τ1, b1, b2⟩ := hbin
  have f1 : FrG σ τ1 [14, 16, 19, 25] [] [15, 20, 21, 22, 23, 24, 26, 27, 28, 29, 30, 32] := s1.tr (b2.mono rfl)
  have h16 : ∀ j, j ≠ 4 → j ≠ 5 → τ1.1 16 j = σ.1 16 j := fun j h1 h2 => by rw [b2.1 16 (by decide) (by decide)]; exact s2 j h1 h2
  have hCH1 := ch_of hR hA hL f1 h16
  obtain ⟨τ2, k1, k2, k3, k4⟩ := p5 τ1 hCH1
  have f2 : FrG σ τ2 [14, 16, 19, 25] [] [15, 20, 21, 22, 23, 24, 26, 27, 28, 29, 30, 32] := f1.tr (k4.1.mono rfl)
  have h162 : ∀ j, j ≠ 4 → j ≠ 5 → τ2.1 16 j = σ.1 16 j := fun j h1 h2 => by rw [k4.2 j h1 h2]; exact h16 j h1 h2
  have f12 : FrG τ τ2 [14, 16] [] [15] := (b2.mono rfl).tr (k4.1.mono rfl)
  have hS2 : CSt σ τ2 i C u W w bn bg en sh lt ql := by
    refine ⟨f2, h162, by rw [f12.1 19 (by decide) (by decide)]; exact s3, by rw [f12.1 19 (by decide) (by decide)]; exact s4, ?_, s6.fr f12 rfl⟩
    intro k hk
    rw [f12.2.2.1 20 (by decide), f12.2.2.1 21 (by decide), f12.2.2.1 22 (by decide), f12.2.2.1 23 (by decide), f12.2.2.1 24 (by decide)]
    exact s5 k hk
  obtain ⟨τ3, a1, a2, a3, a4, a5⟩ := add_c hR hA hL hS2 hi p2 p3 p4 k2 k3
  have f3 : FrG σ τ3 [14, 16, 19, 25] [] [15, 20, 21, 22, 23, 24, 26, 27, 28, 29, 30, 32] := f2.tr (a2.mono rfl)
  have h163 : ∀ j, j ≠ 4 → j ≠ 5 → τ3.1 16 j = σ.1 16 j := fun j h1 h2 => by rw [a2.1 16 (by decide) (by decide)]; exact h162 j h1 h2
  have g3 : GF τ3 i u W w bn sh lt := hS2.2.2.2.2.2.fr a2 rfl
  have e1 : τ1.2.2 = σ.2.2 := f1.2.2.2
  have e2 : τ2.2.2 = σ.2.2 := f2.2.2.2
  have e3 : τ3.2.2 = σ.2.2 := f3.2.2.2
  have h60 : ∀ t0 : Int32, t0 = nI (if bn i = -1 then 0 else W + u) → b_X8_sortRead_60 (nI i) (bn i) t0 (nI i) τ1 = (if bn i = (-1 : Int32) then some (0, τ3) else (if bI (sh i) = 0 then bd (f_X1_enter σ.2.2.1 (nI i) (bn i) (nI W) τ3) (fun r15 s16 => b_X8_sortRead_120 s16) else some (0, τ3))) := by
    intro t0 ht
    unfold b_X8_sortRead_60 b_X8_sortRead_120 f_X0_length
    rw [ht, show τ1.2.2.1 = σ.2.2.1 by rw [e1], k1, bd_s, show τ2.2.2.1 = σ.2.2.1 by rw [e2], a1, bd_s, tooShort_e (l3 := l3) p2 (by omega) hl3 (ch_of hR hA hL f3 h163).2.2.2.2.2 (by rw [a2.1 16 (by decide) (by decide)]; exact k2) (by rw [a2.1 16 (by decide) (by decide)]; exact k3), bd_s, bd_s, ← p4, show τ3.2.2.1 = σ.2.2.1 by rw [e3], show τ3.1 12 3 = nI W by rw [f3.1 12 (by decide) (by decide)]; exact hCo.2.2.2.2.1]
  have h38 : b_X8_sortRead_38 (nI i) (nI (W + u)) (bn i) τ1 = b_X8_sortRead_60 (nI i) (bn i) (nI (if bn i = -1 then 0 else W + u)) (nI i) τ1 := by
    unfold b_X8_sortRead_38
    by_cases h : bn i = -1
    · rw [if_pos h, if_pos h]; rfl
    · rw [if_neg h, if_neg h]
  have htop : f_X8_sortRead (nI i) (nI u) τ = b_X8_sortRead_38 (nI i) (nI (W + u)) (bn i) τ1 := by
    unfold f_X8_sortRead f_X0_length
    rw [bd_s, c5, nI_add, nx_e, show τ.2.2.1 = σ.2.2.1 by rw [eb], letterCount_in hCH.1 hi, bd_s, show τ.2.2.1 = σ.2.2.1 by rw [eb]]
    exact b1
  rw [htop, h38, h60 _ rfl]
  have hskip : ¬ ctd bn sh i → CSt σ τ3 (i + 1) C u W w bn bg en sh lt ql := fun h => ⟨f3, h163, a3, a4, a5, g3.skip h⟩
  by_cases hb : bn i = -1
  · rw [if_pos hb]
    exact ⟨τ3, rfl, hskip (fun h => h.1 hb)⟩
  · rw [if_neg hb]
    cases hsh : sh i
    · rw [if_pos (by decide)]
      have hc : ctd bn sh i := ⟨hb, hsh⟩
      have hlc : W + u ≤ lc i := by
        rcases p1 with ⟨q1, q2⟩ | ⟨q1, q2⟩
        · exact q1
        · exact absurd q2 hb
      obtain ⟨τ4, m1, m2, m3⟩ := enter_g (b := σ.2.2.1) g3 (ch_of hR hA hL f3 h163).1 hi hu hc hlc c2
      rw [m1, bd_s]
      refine ⟨τ4, rfl, f3.tr (m2.mono rfl), fun j h1 h2 => by rw [m2.1 16 (by simp) (by decide)]; exact h163 j h1 h2, by rw [m2.1 19 (by simp) (by decide)]; exact a3, by rw [m2.1 19 (by simp) (by decide)]; exact a4, fun k hk => ?_, m3⟩
      rw [m2.2.2.1 20 (by decide), m2.2.2.1 21 (by decide), m2.2.2.1 22 (by decide), m2.2.2.1 23 (by decide), m2.2.2.1 24 (by decide)]
      exact a5 k hk
    · rw [if_neg (by decide)]
      exact ⟨τ3, rfl, hskip (fun h => by have h2 := h.2; rw [hsh] at h2; cases h2)⟩
end CS
