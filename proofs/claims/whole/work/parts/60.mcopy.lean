section MC
/-- what may have changed: numbers of objects ps, the model's numbers fs, arrays qs -/
def FrG (σ σ' : St) (ps fs qs : List Nat) : Prop := (∀ q, q ∉ ps → q ≠ 39 → σ'.1 q = σ.1 q) ∧ (∀ j, j ∉ fs → σ'.1 39 j = σ.1 39 j) ∧ (∀ q, q ∉ qs → σ'.2.1 q = σ.2.1 q) ∧ σ'.2.2 = σ.2.2
theorem FrG.rf {σ : St} {ps fs qs : List Nat} : FrG σ σ ps fs qs := ⟨fun _ _ _ => rfl, fun _ _ => rfl, fun _ _ => rfl, rfl⟩
theorem FrG.tr {σ σ1 σ2 : St} {ps fs qs : List Nat} (h1 : FrG σ σ1 ps fs qs) (h2 : FrG σ1 σ2 ps fs qs) : FrG σ σ2 ps fs qs := ⟨fun q h g => (h2.1 q h g).trans (h1.1 q h g), fun j h => (h2.2.1 j h).trans (h1.2.1 j h), fun q h => (h2.2.2.1 q h).trans (h1.2.2.1 q h), h2.2.2.2.trans h1.2.2.2⟩
/-- one list in another, as a number can say it -/
def sub (l m : List Nat) : Bool := l.all (fun x => m.contains x)
theorem sub_t {l m : List Nat} (h : sub l m = true) : ∀ q, q ∈ l → q ∈ m := by
  intro q hq
  have := List.all_eq_true.mp h q hq
  simpa using this
theorem FrG.mono {σ σ1 : St} {ps fs qs ps' fs' qs' : List Nat} (h : FrG σ σ1 ps fs qs) (hd : (sub ps ps' && sub fs fs' && sub qs qs') = true) : FrG σ σ1 ps' fs' qs' := by
  simp only [Bool.and_eq_true] at hd
  exact ⟨fun q g g2 => h.1 q (fun z => g (sub_t hd.1.1 q z)) g2, fun j g => h.2.1 j (fun z => g (sub_t hd.1.2 j z)), fun q g => h.2.2.1 q (fun z => g (sub_t hd.2 q z)), h.2.2.2⟩
theorem FrG.sS {σ : St} {j : Nat} {v : Int32} : FrG σ (sS σ 39 j v) [] [j] [] := ⟨fun q _ g => sS_p g, fun i h => sS_j (by simpa using h), fun _ _ => rfl, rfl⟩
theorem FrG.sA {σ : St} {q : Nat} {i v : Int32} : FrG σ (sA σ q i v) [] [] [q] := ⟨fun _ _ _ => rfl, fun _ _ => rfl, fun p h => sA_q (by simpa using h), rfl⟩
theorem frg_oS {σ : St} {p j : Nat} {v : Int32} (hp : p ≠ 39) : FrG σ (sS σ p j v) [p] [] [] := ⟨fun q h _ => sS_p (by simpa using h), fun i _ => by rw [sS_p (Ne.symm hp)], fun _ _ => rfl, rfl⟩
theorem FrG.of {σ σ' : St} {ps qs : List Nat} (h : Fr σ σ' ps qs) (h39 : (ps.contains 39) = false) : FrG σ σ' ps [] qs := ⟨fun q g _ => h.1 q g, fun j _ => by rw [h.1 39 (by simpa using h39)], h.2.1, h.2.2⟩
theorem FrG.ofR {σ σ' : St} (h : FrR σ σ') : FrG σ σ' [] [2, 10, 31, 32] [41, 42, 43, 44, 45] := ⟨fun q _ g => h.1 q g, fun j g => h.2.1 j (fun e => g (by simp [e])) (fun e => g (by simp [e])) (fun e => g (by simp [e])) (fun e => g (by simp [e])), fun q g => h.2.2.1 q (fun e => g (by simp [e])) (fun e => g (by simp [e])) (fun e => g (by simp [e])) (fun e => g (by simp [e])) (fun e => g (by simp [e])), h.2.2.2.2.2.2⟩
/-- B is A, its first m taken from H on -/
def HC (A B : Nat → Int32) (H m : Nat) : Prop := (∀ k, H ≤ k → B k = A k) ∧ ∀ k, k < m → B k = A (H + k)
theorem HC.step {A B : Nat → Int32} {H m : Nat} (h : HC A B H m) (hm : m < H) : HC A (upd B m (B (H + m))) H (m + 1) := by
  refine ⟨fun k hk => ?_, fun k hk => ?_⟩
  · rw [upd_n (by omega)]; exact h.1 k hk
  · by_cases e : k = m
    · subst e; rw [upd_s]; exact h.1 _ (by omega)
    · rw [upd_n e]; exact h.2 k (by omega)
variable {A : Nat → Nat → Int32}
theorem copy_199 {K : Int32 → St → Option Rs} {i : Nat} (hi : i < 60) : ∀ (fu j : Nat) (τ : St), j ≤ 120 → 120 < fu + j → HC (A 44) (τ.2.1 44) 7200 (120 * i + j) → HC (A 45) (τ.2.1 45) 7200 (120 * i + j) → ∃ τ', l_X9_read_199 K fu (nI i) (nI (60 + i)) (nI j) τ = K (nI (i + 1)) τ' ∧ FrG τ τ' [] [] [44, 45] ∧ HC (A 44) (τ'.2.1 44) 7200 (120 * (i + 1)) ∧ HC (A 45) (τ'.2.1 45) 7200 (120 * (i + 1)) := by
  intro fu
  induction fu with
  | zero => intro j τ h1 h2; omega
  | succ fu ih =>
    intro j τ h1 h2 h44 h45
    show ∃ τ', b_X9_read_199 K (l_X9_read_199 K fu) (nI i) (nI (60 + i)) (nI j) τ = K (nI (i + 1)) τ' ∧ _
    unfold b_X9_read_199
    rw [show (120 : Int32) = nI 120 from rfl]
    by_cases e : j = 120
    · subst e
      rw [if_pos (nI_le (Nat.le_refl _) (by omega)), nx_e, nI_1]
      exact ⟨τ, rfl, FrG.rf, h44, h45⟩
    · have e1 : 120 * (60 + i) + j = 7200 + (120 * i + j) := by omega
      rw [if_neg (nI_ge (by omega) (by omega)), pk_mul, pk_mul, nI_add, nI_add, e1, gd_t (inb_n (show 7200 + (120 * i + j) < ln 44 by show 7200 + (120 * i + j) < 14400; omega) (by decide)), gd_t (inb_n (show (120 * i + j) < ln 44 by show (120 * i + j) < 14400; omega) (by decide)), nI_clamp (by omega), nx_e, gd_t (inb_n (show 7200 + (120 * i + j) < ln 45 by show 7200 + (120 * i + j) < 14400; omega) (by decide)), gd_t (inb_n (show (120 * i + j) < ln 45 by show (120 * i + j) < 14400; omega) (by decide)), nx_e, nI_1, nx_e, sA_q (p := 45) (q := 44) (by decide)]
      have f1 : FrG τ (sA (sA τ 44 (nI (120 * i + j)) (τ.2.1 44 (7200 + (120 * i + j)))) 45 (nI (120 * i + j)) (τ.2.1 45 (7200 + (120 * i + j)))) [] [] [44, 45] := (FrG.sA.mono rfl).tr (FrG.sA.mono rfl)
      obtain ⟨τ', g1, g2, g3, g4⟩ := ih (j + 1) (sA (sA τ 44 (nI (120 * i + j)) (τ.2.1 44 (7200 + (120 * i + j)))) 45 (nI (120 * i + j)) (τ.2.1 45 (7200 + (120 * i + j)))) (by omega) (by omega) (by
        rw [sA_q (by decide), sA_s (by omega)]
        exact h44.step (by omega)) (by
        rw [sA_s (by omega), sA_q (by decide)]
        exact h45.step (by omega))
      exact ⟨τ', g1, f1.tr g2, g3, g4⟩
theorem copy_158 {K : Int32 → St → Option Rs} {i : Nat} (hi : i < 60) : ∀ (fu j : Nat) (τ : St), j ≤ 40 → 40 < fu + j → HC (A 42) (τ.2.1 42) 2400 (40 * i + j) → HC (A 44) (τ.2.1 44) 7200 (120 * i) → HC (A 45) (τ.2.1 45) 7200 (120 * i) → ∃ τ', l_X9_read_158 K fu (nI i) (nI (60 + i)) (nI j) τ = K (nI (i + 1)) τ' ∧ FrG τ τ' [] [] [42, 44, 45] ∧ HC (A 42) (τ'.2.1 42) 2400 (40 * (i + 1)) ∧ HC (A 44) (τ'.2.1 44) 7200 (120 * (i + 1)) ∧ HC (A 45) (τ'.2.1 45) 7200 (120 * (i + 1)) := by
  intro fu
  induction fu with
  | zero => intro j τ h1 h2; omega
  | succ fu ih =>
    intro j τ h1 h2 h42 h44 h45
    show ∃ τ', b_X9_read_158 K (l_X9_read_158 K fu) (nI i) (nI (60 + i)) (nI j) τ = K (nI (i + 1)) τ' ∧ _
    unfold b_X9_read_158
    rw [show (40 : Int32) = nI 40 from rfl]
    by_cases e : j = 40
    · subst e
      rw [if_pos (nI_le (Nat.le_refl _) (by omega))]
      obtain ⟨τ', g1, g2, g3, g4⟩ := copy_199 (A := A) (K := K) hi FU 0 τ (by omega) (by simp only [FU]; omega) h44 h45
      refine ⟨τ', g1, g2.mono rfl, ?_, g3, g4⟩
      rw [g2.2.2.1 42 (by decide)]
      exact h42
    · have e1 : 40 * (60 + i) + j = 2400 + (40 * i + j) := by omega
      rw [if_neg (nI_ge (by omega) (by omega)), pk_mul, pk_mul, nI_add, nI_add, e1, gd_t (inb_n (show 2400 + (40 * i + j) < ln 42 by show 2400 + (40 * i + j) < 4800; omega) (by decide)), gd_t (inb_n (show (40 * i + j) < ln 42 by show (40 * i + j) < 4800; omega) (by decide)), nI_clamp (by omega), nx_e, nI_1, nx_e]
      obtain ⟨τ', g1, g2, g3, g4, g5⟩ := ih (j + 1) (sA τ 42 (nI (40 * i + j)) (τ.2.1 42 (2400 + (40 * i + j)))) (by omega) (by omega) (by
        rw [sA_s (by omega)]
        exact h42.step (by omega)) (by rw [sA_q (by decide)]; exact h44) (by rw [sA_q (by decide)]; exact h45)
      exact ⟨τ', g1, (FrG.sA.mono rfl).tr g2, g3, g4, g5⟩
theorem copy_115 {n : Nat} (hn : n ≤ 60) : ∀ (fu i : Nat) (τ : St), i ≤ n → n < fu + i → τ.1 39 9 = nI n → HC (A 41) (τ.2.1 41) 60 i → HC (A 43) (τ.2.1 43) 60 i → HC (A 42) (τ.2.1 42) 2400 (40 * i) → HC (A 44) (τ.2.1 44) 7200 (120 * i) → HC (A 45) (τ.2.1 45) 7200 (120 * i) → ∃ τ', l_X9_read_115 fu (nI i) τ = some (nI n, τ') ∧ FrG τ τ' [] [] [41, 42, 43, 44, 45] ∧ HC (A 41) (τ'.2.1 41) 60 n ∧ HC (A 43) (τ'.2.1 43) 60 n ∧ HC (A 42) (τ'.2.1 42) 2400 (40 * n) ∧ HC (A 44) (τ'.2.1 44) 7200 (120 * n) ∧ HC (A 45) (τ'.2.1 45) 7200 (120 * n) := by
  intro fu
  induction fu with
  | zero => intro i τ h1 h2; omega
  | succ fu ih =>
    intro i τ h1 h2 h9 h41 h43 h42 h44 h45
    show ∃ τ', b_X9_read_115 (l_X9_read_115 fu) (nI i) τ = some (nI n, τ') ∧ _
    unfold b_X9_read_115
    rw [h9]
    by_cases e : i = n
    · subst e
      rw [if_pos (nI_le (Nat.le_refl _) (by omega))]
      exact ⟨τ, rfl, FrG.rf, h41, h43, h42, h44, h45⟩
    · rw [if_neg (nI_ge (by omega) (by omega)), show (60 : Int32) = nI 60 from rfl, nI_add, nx_e, gd_t (inb_n (show 60 + i < ln 41 by show 60 + i < 120; omega) (by decide)), gd_t (inb_n (show i < ln 41 by show i < 120; omega) (by decide)), nI_clamp (by omega), nx_e, gd_t (inb_n (show 60 + i < ln 43 by show 60 + i < 120; omega) (by decide)), gd_t (inb_n (show i < ln 43 by show i < 120; omega) (by decide)), nx_e, sA_q (p := 43) (q := 41) (by decide)]
      have f1 : FrG τ (sA (sA τ 41 (nI i) (τ.2.1 41 (60 + i))) 43 (nI i) (τ.2.1 43 (60 + i))) [] [] [41, 43] := (FrG.sA.mono rfl).tr (FrG.sA.mono rfl)
      obtain ⟨τ1, g1, g2, g3, g4, g5⟩ := copy_158 (A := A) (K := l_X9_read_115 fu) (by omega : i < 60) FU 0 (sA (sA τ 41 (nI i) (τ.2.1 41 (60 + i))) 43 (nI i) (τ.2.1 43 (60 + i))) (by omega) (by simp only [FU]; omega) (by rw [f1.2.2.1 42 (by decide)]; exact h42) (by rw [f1.2.2.1 44 (by decide)]; exact h44) (by rw [f1.2.2.1 45 (by decide)]; exact h45)
      obtain ⟨τ', k1, k2, k3⟩ := ih (i + 1) τ1 (by omega) (by omega) (by rw [g2.2.1 9 (by decide)]; exact h9) (by
        rw [g2.2.2.1 41 (by decide), sA_q (by decide), sA_s (by omega)]
        exact h41.step (by omega)) (by
        rw [g2.2.2.1 43 (by decide), sA_s (by omega), sA_q (by decide)]
        exact h43.step (by omega)) g3 g4 g5
      exact ⟨τ', g1.trans k1, ((f1.mono rfl).tr (g2.mono rfl)).tr k2, k3⟩
/-- the model's reads -/
def MRI (σ : St) (n : Nat) (ns lc : Nat → Nat) (nm lt ql : Nat → Nat → Int32) : Prop := σ.1 39 9 = nI n ∧ ∀ i, i < n → σ.2.1 41 i = nI (ns i) ∧ σ.2.1 43 i = nI (lc i) ∧ (∀ k, k < ns i → σ.2.1 42 (40 * i + k) = nm i k) ∧ ∀ k, k < lc i → σ.2.1 44 (120 * i + k) = lt i k ∧ σ.2.1 45 (120 * i + k) = ql i k
/-- the model's read of a form that there is -/
theorem mread_e {σ : St} {fm N : Nat} {t : Nat → Int32} (hfm : fm = 0 ∨ fm = 1) (hN : N ≤ 6000) (h1 : σ.1 39 1 = nI N) (h40 : ∀ k, k < N → σ.2.1 40 k = t k) : ∃ (σ' : St) (f pl : Nat), PRes fm t N f pl ∧ f_X9_read (nI fm) σ = some ((if f = 0 then σ'.1 39 9 else -(nI f)), σ') ∧ σ'.1 39 3 = 0 ∧ σ'.1 39 1 = 0 ∧ (f ≠ 0 → FrG σ σ' [] [1, 2, 3, 10, 31, 32] [41, 42, 43, 44, 45] ∧ σ'.1 39 2 = nI pl ∧ (∀ k, k < 60 → σ'.2.1 41 k = σ.2.1 41 k ∧ σ'.2.1 43 k = σ.2.1 43 k) ∧ (∀ k, k < 2400 → σ'.2.1 42 k = σ.2.1 42 k) ∧ (∀ k, k < 7200 → σ'.2.1 44 k = σ.2.1 44 k ∧ σ'.2.1 45 k = σ.2.1 45 k)) ∧ (f = 0 → FrG σ σ' [] [1, 2, 3, 9, 10, 19, 31, 32] [41, 42, 43, 44, 45] ∧ σ'.1 39 2 = σ.1 39 2 ∧ σ'.1 39 19 = 0 ∧ match psAt fm t N with
    | (_, n, _, ns, lc, nm, lt, ql) => MRI σ' n ns lc nm lt ql) := by
  have hu : f_X9_read (nI fm) σ = b_X9_read_15 (nI fm) 0 σ := by
    unfold f_X9_read
    rcases hfm with rfl | rfl
    · rw [if_neg (by decide), if_pos (by decide)]
    · rw [if_neg (by decide), if_pos (by decide)]
  rw [hu]
  unfold b_X9_read_15
  simp only [nx_e]
  rw [sS_s, if_pos (by decide)]
  generalize hτ : sS (sS (sS (sS σ 39 3 0) 39 31 0) 39 10 0) 39 32 0 = τ
  have f0 : FrG σ τ [] [3, 31, 10, 32] [] := by
    rw [← hτ]
    exact (((FrG.sS.mono rfl).tr (FrG.sS.mono rfl)).tr (FrG.sS.mono rfl)).tr (FrG.sS.mono rfl)
  have t3 : τ.1 39 3 = 0 := by rw [← hτ, sS_j (by decide), sS_j (by decide), sS_j (by decide), sS_s]
  have t31 : τ.1 39 31 = nI 0 := by rw [← hτ, sS_j (by decide), sS_j (by decide), sS_s]; rfl
  have t10 : τ.1 39 10 = nI 0 := by rw [← hτ, sS_j (by decide), sS_s]; rfl
  have hR : RdN τ fm N (upd t 6000 (σ.1 39 2)) 0 0 0 := by
    refine ⟨0, 0, P0.2.2.2.1, P0.2.2.2.2.1, P0.2.2.2.2.2.1, P0.2.2.2.2.2.2.1, P0.2.2.2.2.2.2.2, ⟨⟨?_, ?_, t31, t10, by omega, hN, by omega, ?_⟩, fun j hj => by omega, rfl, fun i hi => by omega⟩, fun i hi => by omega, Or.inl ⟨rfl, Or.inr rfl⟩⟩
    · rw [f0.2.1 1 (by decide)]; exact h1
    · intro k hk
      rw [f0.2.2.1 40 (by decide), upd_n (by omega)]
      exact h40 k hk
    · rw [f0.2.1 2 (by decide), upd_s]
  have hps : ∀ k, k ≤ N → psAt fm (upd t 6000 (σ.1 39 2)) k = psAt fm t k := by
    intro k
    induction k with
    | zero => intro _; rfl
    | succ k ih =>
      intro hk
      simp only [psAt]
      rw [ih (by omega), upd_n (by omega)]
  have hpf : ∀ k, k < N → pf fm (upd t 6000 (σ.1 39 2)) k = pf fm t k := by
    intro k hk
    simp only [pf]
    rw [hps k (by omega), upd_n (by omega)]
  have hPR : ∀ f pl, PRes fm (upd t 6000 (σ.1 39 2)) N f pl → PRes fm t N f pl := by
    intro f pl h
    rcases h with ⟨k, k1, k2, k3, k4, k5⟩ | ⟨k1, k2, k3⟩
    · exact Or.inl ⟨k, k1, fun j hj => by rw [← hpf j (by omega)]; exact k2 j hj, by rw [← hpf k k1]; exact k3, k4, k5⟩
    · exact Or.inr ⟨fun j hj => by rw [← hpf j hj]; exact k1 j hj, k2, by rw [← hps N (Nat.le_refl _)]; exact k3⟩
  obtain ⟨σ1, g, e1, e2, e3, e4⟩ := read_44 hfm FU τ 0 0 (by simp only [FU]; omega) hR (by omega)
  rw [e1]
  have f1 : FrG σ σ1 [] [2, 3, 10, 31, 32] [41, 42, 43, 44, 45] := (f0.mono rfl).tr ((FrG.ofR e2).mono rfl)
  have s3 : σ1.1 39 3 = 0 := by rw [(FrG.ofR e2).2.1 3 (by decide)]; exact t3
  unfold b_X9_read_85
  simp only [nx_e]
  cases g
  · obtain ⟨f, pl, q1, q2, q3, q4⟩ := e3 rfl
    rw [if_pos (by decide)]
    refine ⟨sS σ1 39 1 0, f, pl, hPR _ _ q2, ?_, by rw [sS_j (by decide)]; exact s3, sS_s, fun _ => ⟨(f1.mono rfl).tr (FrG.sS.mono rfl), by rw [sS_j (by decide)]; exact q4, fun k hk => ?_, fun k hk => ?_, fun k hk => ?_⟩, fun h => absurd h q1⟩
    · rw [if_neg q1, sS_j (by decide), q3]
    · obtain ⟨-, -, -, a4, a5, a6, -⟩ := e2
      have := a4 k hk
      rw [f0.2.2.1 41 (by decide), f0.2.2.1 43 (by decide)] at this
      exact this
    · obtain ⟨-, -, -, a4, a5, a6, -⟩ := e2
      have := a5 k hk
      rw [f0.2.2.1 42 (by decide)] at this
      exact this
    · obtain ⟨-, -, -, a4, a5, a6, -⟩ := e2
      have := a6 k hk
      rw [f0.2.2.1 44 (by decide), f0.2.2.1 45 (by decide)] at this
      exact this
  · obtain ⟨h, h60, q2, s, l, ns, lc, nm, lt, ql, H, hNs, hB⟩ := e4 rfl
    obtain ⟨hS, hz, hP, hR1⟩ := H
    obtain ⟨b1, b2, b3, b4, b5, b6, b7, b8⟩ := hS
    rw [if_neg (by decide), gz_0, sS_j (by decide), b4]
    have f2 : FrG σ1 (sS (sS (sS σ1 39 1 0) 39 9 (nI h)) 39 19 0) [] [1, 9, 19] [] := ((FrG.sS.mono rfl).tr (FrG.sS.mono rfl)).tr (FrG.sS.mono rfl)
    obtain ⟨σ2, c1, c2, c3, c4, c5, c6, c7⟩ := copy_115 (A := σ1.2.1) h60 FU 0 (sS (sS (sS σ1 39 1 0) 39 9 (nI h)) 39 19 0) (by omega) (by simp only [FU]; omega) (by rw [sS_j (by decide), sS_s]) ⟨fun k _ => rfl, fun k hk => by omega⟩ ⟨fun k _ => rfl, fun k hk => by omega⟩ ⟨fun k _ => rfl, fun k hk => by omega⟩ ⟨fun k _ => rfl, fun k hk => by omega⟩ ⟨fun k _ => rfl, fun k hk => by omega⟩
    have s9 : σ2.1 39 9 = nI h := by rw [c2.2.1 9 (by decide), sS_j (by decide), sS_s]
    refine ⟨σ2, 0, N, hPR _ _ q2, ?_, ?_, ?_, fun h => absurd rfl h, fun _ => ⟨((f1.mono rfl).tr (f2.mono rfl)).tr (c2.mono rfl), ?_, ?_, ?_⟩⟩
    · rw [if_pos rfl, s9]
      exact c1
    · rw [c2.2.1 3 (by decide), f2.2.1 3 (by decide)]; exact s3
    · rw [c2.2.1 1 (by decide), sS_j (by decide), sS_j (by decide), sS_s]
    · rw [c2.2.1 2 (by decide), f2.2.1 2 (by decide), b8, upd_s]
    · rw [c2.2.1 19 (by decide), sS_s]
    · rw [← hps N (Nat.le_refl _), hP]
      have hv := psAt_v (fm := fm) (t := upd t 6000 (σ.1 39 2)) hfm N hz
      rw [hP] at hv
      obtain ⟨a1, a2, a3, a4, a5, a6, a7, a8, a9, a10, a11, a12, a13⟩ := hv
      show MRI σ2 h ns lc nm lt ql
      refine ⟨s9, fun i hi => ?_⟩
      obtain ⟨d1, d2, d3, d4⟩ := hR1 i hi
      have w := a9 i hi
      have w1 := w.1
      have w2 := w.2.1
      refine ⟨(c3.2 i hi).trans (hNs i hi), (c4.2 i hi).trans d2, fun k hk => ?_, fun k hk => ⟨?_, ?_⟩⟩
      · rw [c5.2 (40 * i + k) (by omega), show 2400 + (40 * i + k) = 40 * (60 + i) + k by omega]
        exact d1 k hk
      · rw [c6.2 (120 * i + k) (by omega), show 7200 + (120 * i + k) = 120 * (60 + i) + k by omega]
        exact d3 k hk
      · rw [c7.2 (120 * i + k) (by omega), show 7200 + (120 * i + k) = 120 * (60 + i) + k by omega]
        exact d4 k hk
end MC
