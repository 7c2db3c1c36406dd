section CW
variable {b : Bool} {n m A l1 l2 l3 : Nat} {st ns lc : Nat → Nat} {nm lt ql : Nat → Nat → Int32} {ad : Nat → Int32}
theorem unk2 {i a : Nat} (hi : i < n) (hn : n ≤ 60) (h120 : lc i ≤ 120) : ∀ e, a ≤ e → e ≤ lc i → ∃ e', a ≤ e' ∧ e' ≤ e ∧ (∀ (τ : St) (fu : Nat), CH b n m st ns lc nm lt ql A ad l1 l2 l3 τ → τ.1 16 4 = nI a → τ.1 16 5 = nI e → e < fu + a → ∃ τ', l_X6_cutUnknown_38 b fu (nI i) τ = some (0, τ') ∧ τ'.1 16 4 = nI a ∧ τ'.1 16 5 = nI e' ∧ FrT τ τ') ∧ (∀ (τ : St) (fu : Nat), MH n ns lc nm lt ql A ad l1 l2 l3 τ → τ.2.1 49 i = nI a → τ.2.1 50 i = nI e → e < fu + a → ∃ τ', l_X9_cutNone_49 fu (nI i) τ = some (0, τ') ∧ τ'.2.1 49 i = nI a ∧ τ'.2.1 50 i = nI e' ∧ FrM i τ τ') := by
  intro e
  induction e with
  | zero =>
    intro h1 h2
    have : a = 0 := by omega
    subst this
    refine ⟨0, Nat.le_refl _, Nat.le_refl _, fun τ fu H h4 h5 hfu => ⟨τ, ?_, h4, h5, FrT.rf⟩, fun τ fu H h4 h5 hfu => ⟨τ, ?_, h4, h5, FrM.rf⟩⟩
    · obtain ⟨fu, rfl⟩ : ∃ f, fu = f + 1 := ⟨fu - 1, by omega⟩
      show b_X6_cutUnknown_38 b (l_X6_cutUnknown_38 b fu) (nI i) τ = _
      unfold b_X6_cutUnknown_38 b_X6_cutUnknown_78
      rw [h4, h5, if_pos (by decide)]
    · obtain ⟨fu, rfl⟩ : ∃ f, fu = f + 1 := ⟨fu - 1, by omega⟩
      show b_X9_cutNone_49 (l_X9_cutNone_49 fu) (nI i) τ = _
      unfold b_X9_cutNone_49 b_X9_cutNone_100
      rw [gd_t (inb_n (show i < ln 49 by show i < 60; omega) (by decide)), gd_t (inb_n (show i < ln 50 by show i < 60; omega) (by decide)), nI_clamp (by omega), h4, h5, if_pos (by decide)]
  | succ e ih =>
    intro h1 h2
    by_cases hea : e + 1 = a
    · refine ⟨e + 1, by omega, Nat.le_refl _, fun τ fu H h4 h5 hfu => ⟨τ, ?_, h4, h5, FrT.rf⟩, fun τ fu H h4 h5 hfu => ⟨τ, ?_, h4, h5, FrM.rf⟩⟩
      · obtain ⟨fu, rfl⟩ : ∃ f, fu = f + 1 := ⟨fu - 1, by omega⟩
        show b_X6_cutUnknown_38 b (l_X6_cutUnknown_38 b fu) (nI i) τ = _
        unfold b_X6_cutUnknown_38 b_X6_cutUnknown_78
        rw [h4, h5, if_pos (nI_le (by omega) (by omega))]
      · obtain ⟨fu, rfl⟩ : ∃ f, fu = f + 1 := ⟨fu - 1, by omega⟩
        show b_X9_cutNone_49 (l_X9_cutNone_49 fu) (nI i) τ = _
        unfold b_X9_cutNone_49 b_X9_cutNone_100
        rw [gd_t (inb_n (show i < ln 49 by show i < 60; omega) (by decide)), gd_t (inb_n (show i < ln 50 by show i < 60; omega) (by decide)), nI_clamp (by omega), h4, h5, if_pos (nI_le (by omega) (by omega))]
    · have hm1 : ∀ τ : St, τ.2.1 50 i = nI (e + 1) → nI 120 * nI i + τ.2.1 50 i - 1 = nI (120 * i + e) := fun τ h5 => by
        rw [h5, pk_mul, nI_add, show 120 * i + (e + 1) = 120 * i + e + 1 by omega, nI_pred]
      by_cases hN : lt i e = 78
      · obtain ⟨e', q1, q2, q3, q4⟩ := ih (by omega) (by omega)
        refine ⟨e', q1, by omega, fun τ fu H h4 h5 hfu => ?_, fun τ fu H h4 h5 hfu => ?_⟩
        · obtain ⟨fu, rfl⟩ : ∃ f, fu = f + 1 := ⟨fu - 1, by omega⟩
          show ∃ τ', b_X6_cutUnknown_38 b (l_X6_cutUnknown_38 b fu) (nI i) τ = some (0, τ') ∧ _
          unfold b_X6_cutUnknown_38
          rw [h4, h5, if_neg (nI_ge (by omega) (by omega)), nI_pred, letterOctet_in H.1 hi (by omega : e < lc i), bd_s, if_pos hN, h5, nI_pred, nx_e]
          obtain ⟨τ', k1, k2, k3, k4⟩ := q3 (sS τ 16 5 (nI e)) fu (H.fr (FrT.s (Or.inr rfl))) (by rw [sS_j (by decide)]; exact h4) sS_s (by omega)
          exact ⟨τ', k1, k2, k3, (FrT.s (Or.inr rfl)).tr k4⟩
        · obtain ⟨fu, rfl⟩ : ∃ f, fu = f + 1 := ⟨fu - 1, by omega⟩
          show ∃ τ', b_X9_cutNone_49 (l_X9_cutNone_49 fu) (nI i) τ = some (0, τ') ∧ _
          unfold b_X9_cutNone_49
          rw [gd_t (inb_n (show i < ln 49 by show i < 60; omega) (by decide)), gd_t (inb_n (show i < ln 50 by show i < 60; omega) (by decide)), gd_t (inb_n (show i < ln 50 by show i < 60; omega) (by decide)), gd_t (inb_n (show i < ln 50 by show i < 60; omega) (by decide)), gd_t (inb_n (show i < ln 50 by show i < 60; omega) (by decide)), nI_clamp (by omega), show (120 : Int32) = nI 120 from rfl, hm1 τ h5, h4, h5, if_neg (nI_ge (by omega) (by omega)), gd_t (inb_n (show 120 * i + e < ln 44 by show 120 * i + e < 14400; omega) (by decide)), nI_clamp (by omega), ((H.1.2 i hi).2.2.2 e (by omega)).1, if_pos hN, nI_pred, nx_e]
          obtain ⟨τ', k1, k2, k3, k4⟩ := q4 (sA τ 50 (nI i) (nI e)) fu (H.fr (FrM.a (Or.inr rfl) (by omega))) (by rw [sA_q (by decide)]; exact h4) (by rw [sA_s (by omega), upd_s]) (by omega)
          exact ⟨τ', k1, k2, k3, (FrM.a (Or.inr rfl) (by omega)).tr k4⟩
      · refine ⟨e + 1, by omega, Nat.le_refl _, fun τ fu H h4 h5 hfu => ⟨τ, ?_, h4, h5, FrT.rf⟩, fun τ fu H h4 h5 hfu => ⟨τ, ?_, h4, h5, FrM.rf⟩⟩
        · obtain ⟨fu, rfl⟩ : ∃ f, fu = f + 1 := ⟨fu - 1, by omega⟩
          show b_X6_cutUnknown_38 b (l_X6_cutUnknown_38 b fu) (nI i) τ = _
          unfold b_X6_cutUnknown_38 b_X6_cutUnknown_78
          rw [h4, h5, if_neg (nI_ge (by omega) (by omega)), nI_pred, letterOctet_in H.1 hi (by omega : e < lc i), bd_s, if_neg hN]
        · obtain ⟨fu, rfl⟩ : ∃ f, fu = f + 1 := ⟨fu - 1, by omega⟩
          show b_X9_cutNone_49 (l_X9_cutNone_49 fu) (nI i) τ = _
          unfold b_X9_cutNone_49 b_X9_cutNone_100
          rw [gd_t (inb_n (show i < ln 49 by show i < 60; omega) (by decide)), gd_t (inb_n (show i < ln 50 by show i < 60; omega) (by decide)), gd_t (inb_n (show i < ln 50 by show i < 60; omega) (by decide)), nI_clamp (by omega), show (120 : Int32) = nI 120 from rfl, hm1 τ h5, h4, h5, if_neg (nI_ge (by omega) (by omega)), gd_t (inb_n (show 120 * i + e < ln 44 by show 120 * i + e < 14400; omega) (by decide)), nI_clamp (by omega), ((H.1.2 i hi).2.2.2 e (by omega)).1, if_neg hN]
theorem step_unk {i e : Nat} (hi : i < n) (hn : n ≤ 60) (he : e ≤ lc i) (h120 : lc i ≤ 120) : ∀ d a, e < a + d → a ≤ e → ∃ a' e', a ≤ a' ∧ a' ≤ e' ∧ e' ≤ e ∧ (∀ (τ : St) (fu : Nat), CH b n m st ns lc nm lt ql A ad l1 l2 l3 τ → τ.1 16 4 = nI a → τ.1 16 5 = nI e → e < fu + a → ∃ τ', l_X6_cutUnknown_0 b fu (nI i) τ = some (0, τ') ∧ τ'.1 16 4 = nI a' ∧ τ'.1 16 5 = nI e' ∧ FrT τ τ') ∧ (∀ (τ : St) (fu : Nat), MH n ns lc nm lt ql A ad l1 l2 l3 τ → τ.2.1 49 i = nI a → τ.2.1 50 i = nI e → e < fu + a → ∃ τ', l_X9_cutNone_0 fu (nI i) τ = some (0, τ') ∧ τ'.2.1 49 i = nI a' ∧ τ'.2.1 50 i = nI e' ∧ FrM i τ τ') := by
  intro d
  induction d with
  | zero => intro a h1 h2; omega
  | succ d ih =>
    intro a h1 h2
    obtain ⟨e', q1, q2, q3, q4⟩ := unk2 (b := b) (n := n) (m := m) (A := A) (l1 := l1) (l2 := l2) (l3 := l3) (st := st) (ns := ns) (lc := lc) (nm := nm) (lt := lt) (ql := ql) (ad := ad) (i := i) (a := a) hi hn h120 e h2 he
    by_cases hea : a = e
    · refine ⟨a, e', Nat.le_refl _, q1, q2, fun τ fu H h4 h5 hfu => ?_, fun τ fu H h4 h5 hfu => ?_⟩
      · obtain ⟨fu, rfl⟩ : ∃ f, fu = f + 1 := ⟨fu - 1, by omega⟩
        show ∃ τ', b_X6_cutUnknown_0 b (l_X6_cutUnknown_0 b fu) (nI i) τ = some (0, τ') ∧ _
        unfold b_X6_cutUnknown_0
        rw [h4, h5, if_pos (nI_le (by omega) (by omega))]
        exact q3 τ FU H h4 h5 (by simp only [FU]; omega)
      · obtain ⟨fu, rfl⟩ : ∃ f, fu = f + 1 := ⟨fu - 1, by omega⟩
        show ∃ τ', b_X9_cutNone_0 (l_X9_cutNone_0 fu) (nI i) τ = some (0, τ') ∧ _
        unfold b_X9_cutNone_0
        rw [gd_t (inb_n (show i < ln 49 by show i < 60; omega) (by decide)), gd_t (inb_n (show i < ln 50 by show i < 60; omega) (by decide)), nI_clamp (by omega), h4, h5, if_pos (nI_le (by omega) (by omega))]
        exact q4 τ FU H h4 h5 (by simp only [FU]; omega)
    · by_cases hN : lt i a = 78
      · obtain ⟨a2, e2, p1, p2, p3, p4, p5⟩ := ih (a + 1) (by omega) (by omega)
        refine ⟨a2, e2, by omega, p2, p3, fun τ fu H h4 h5 hfu => ?_, fun τ fu H h4 h5 hfu => ?_⟩
        · obtain ⟨fu, rfl⟩ : ∃ f, fu = f + 1 := ⟨fu - 1, by omega⟩
          show ∃ τ', b_X6_cutUnknown_0 b (l_X6_cutUnknown_0 b fu) (nI i) τ = some (0, τ') ∧ _
          unfold b_X6_cutUnknown_0
          rw [h4, h5, if_neg (nI_ge (by omega) (by omega)), letterOctet_in H.1 hi (by omega : a < lc i), bd_s, if_pos hN, h4, nI_1, nx_e]
          obtain ⟨τ', k1, k2, k3, k4⟩ := p4 (sS τ 16 4 (nI (a + 1))) fu (H.fr (FrT.s (Or.inl rfl))) sS_s (by rw [sS_j (by decide)]; exact h5) (by omega)
          exact ⟨τ', k1, k2, k3, (FrT.s (Or.inl rfl)).tr k4⟩
        · obtain ⟨fu, rfl⟩ : ∃ f, fu = f + 1 := ⟨fu - 1, by omega⟩
          show ∃ τ', b_X9_cutNone_0 (l_X9_cutNone_0 fu) (nI i) τ = some (0, τ') ∧ _
          unfold b_X9_cutNone_0
          rw [gd_t (inb_n (show i < ln 49 by show i < 60; omega) (by decide)), gd_t (inb_n (show i < ln 50 by show i < 60; omega) (by decide)), gd_t (inb_n (show i < ln 49 by show i < 60; omega) (by decide)), gd_t (inb_n (show i < ln 49 by show i < 60; omega) (by decide)), gd_t (inb_n (show i < ln 49 by show i < 60; omega) (by decide)), nI_clamp (by omega), h4, h5, if_neg (nI_ge (by omega) (by omega)), show (120 : Int32) = nI 120 from rfl, pk_mul, nI_add, gd_t (inb_n (show 120 * i + a < ln 44 by show 120 * i + a < 14400; omega) (by decide)), nI_clamp (by omega), ((H.1.2 i hi).2.2.2 a (by omega)).1, if_pos hN, nI_1, nx_e]
          obtain ⟨τ', k1, k2, k3, k4⟩ := p5 (sA τ 49 (nI i) (nI (a + 1))) fu (H.fr (FrM.a (Or.inl rfl) (by omega))) (by rw [sA_s (by omega), upd_s]) (by rw [sA_q (by decide)]; exact h5) (by omega)
          exact ⟨τ', k1, k2, k3, (FrM.a (Or.inl rfl) (by omega)).tr k4⟩
      · refine ⟨a, e', Nat.le_refl _, q1, q2, fun τ fu H h4 h5 hfu => ?_, fun τ fu H h4 h5 hfu => ?_⟩
        · obtain ⟨fu, rfl⟩ : ∃ f, fu = f + 1 := ⟨fu - 1, by omega⟩
          show ∃ τ', b_X6_cutUnknown_0 b (l_X6_cutUnknown_0 b fu) (nI i) τ = some (0, τ') ∧ _
          unfold b_X6_cutUnknown_0
          rw [h4, h5, if_neg (nI_ge (by omega) (by omega)), letterOctet_in H.1 hi (by omega : a < lc i), bd_s, if_neg hN]
          exact q3 τ FU H h4 h5 (by simp only [FU]; omega)
        · obtain ⟨fu, rfl⟩ : ∃ f, fu = f + 1 := ⟨fu - 1, by omega⟩
          show ∃ τ', b_X9_cutNone_0 (l_X9_cutNone_0 fu) (nI i) τ = some (0, τ') ∧ _
          unfold b_X9_cutNone_0
          rw [gd_t (inb_n (show i < ln 49 by show i < 60; omega) (by decide)), gd_t (inb_n (show i < ln 50 by show i < 60; omega) (by decide)), gd_t (inb_n (show i < ln 49 by show i < 60; omega) (by decide)), nI_clamp (by omega), h4, h5, if_neg (nI_ge (by omega) (by omega)), show (120 : Int32) = nI 120 from rfl, pk_mul, nI_add, gd_t (inb_n (show 120 * i + a < ln 44 by show 120 * i + a < 14400; omega) (by decide)), nI_clamp (by omega), ((H.1.2 i hi).2.2.2 a (by omega)).1, if_neg hN]
          exact q4 τ FU H h4 h5 (by simp only [FU]; omega)
/-- a read is cut by both in the same way -/
theorem cut_all {i a : Nat} (hi : i < n) (hn : n ≤ 60) (hA : A ≤ 30) (hA3 : A = 0 ∨ 3 ≤ A) (hl1 : l1 ≤ 93) (hl2 : l2 ≤ 93) (hae : a ≤ lc i) (h120 : lc i ≤ 120) (hV : ∀ k, k < lc i → ∃ q : Nat, q ≤ 93 ∧ ql i k = nI q) : ∃ a' e', a ≤ a' ∧ a' ≤ e' ∧ e' ≤ lc i ∧ (∀ τ : St, CH b n m st ns lc nm lt ql A ad l1 l2 l3 τ → ∃ τ', f_X6_cut b (nI i) (nI a) τ = some (0, τ') ∧ τ'.1 16 4 = nI a' ∧ τ'.1 16 5 = nI e' ∧ FrT τ τ') ∧ (∀ τ : St, MH n ns lc nm lt ql A ad l1 l2 l3 τ → τ.2.1 49 i = nI a → τ.2.1 50 i = nI (lc i) → ∃ τ1 τ2 τ3, f_X9_cutAdapter (nI i) τ = some (0, τ1) ∧ f_X9_cutQualities (nI i) τ1 = some (0, τ2) ∧ f_X9_cutNone (nI i) τ2 = some (0, τ3) ∧ τ3.2.1 49 i = nI a' ∧ τ3.2.1 50 i = nI e' ∧ FrM i τ τ3) := by
  obtain ⟨e1, p1, p2, p3, p4⟩ := step_adapter (b := b) (n := n) (m := m) (A := A) (l1 := l1) (l2 := l2) (l3 := l3) (st := st) (ns := ns) (lc := lc) (nm := nm) (lt := lt) (ql := ql) (ad := ad) hi hn hA hA3 hae (Nat.le_refl _) h120
  obtain ⟨e2, q1, q2, q3, q4⟩ := step_we (b := b) (n := n) (m := m) (A := A) (l1 := l1) (l2 := l2) (l3 := l3) (st := st) (ns := ns) (lc := lc) (nm := nm) (lt := lt) (ql := ql) (ad := ad) hi hn hl2 p1 (by omega) h120 hV
  obtain ⟨a3, r1, r2, r3, r4⟩ := step_wb (b := b) (n := n) (m := m) (A := A) (l1 := l1) (l2 := l2) (l3 := l3) (st := st) (ns := ns) (lc := lc) (nm := nm) (lt := lt) (ql := ql) (ad := ad) hi hn hl1 q1 (by omega) h120 hV
  obtain ⟨a4, e4, s1, s2, s3, s4, s5⟩ := step_unk (b := b) (n := n) (m := m) (A := A) (l1 := l1) (l2 := l2) (l3 := l3) (st := st) (ns := ns) (lc := lc) (nm := nm) (lt := lt) (ql := ql) (ad := ad) hi hn (by omega : e2 ≤ lc i) h120 (e2 + 1 - a3) a3 (by omega) r2
  refine ⟨a4, e4, by omega, s2, by omega, fun τ H => ?_, fun τ H h4 h5 => ?_⟩
  · have f0 : FrT τ (sS (sS τ 16 4 (nI a)) 16 5 (nI (lc i))) := (FrT.s (Or.inl rfl)).tr (FrT.s (Or.inr rfl))
    have H0 := H.fr (FrT.s (τ := τ) (j := 4) (v := nI a) (Or.inl rfl))
    obtain ⟨τ1, k1, k2, k3, k4⟩ := p3 _ (H.fr f0) (by rw [sS_j (by decide), sS_s]) sS_s
    obtain ⟨τ2, k5, k6, k7, k8⟩ := q3 τ1 ((H.fr f0).fr k4) k2 k3
    obtain ⟨τ3, k9, k10, k11, k12⟩ := r3 τ2 (((H.fr f0).fr k4).fr k8) k6 k7
    obtain ⟨τ4, k13, k14, k15, k16⟩ := s4 τ3 FU ((((H.fr f0).fr k4).fr k8).fr k12) k10 k11 (by simp only [FU]; omega)
    refine ⟨τ4, ?_, k14, k15, (((f0.tr k4).tr k8).tr k12).tr k16⟩
    unfold f_X6_cut
    rw [nx_e, letterCount_in H0.1 hi, bd_s, nx_e, k1, bd_s, k5, bd_s, k9, bd_s]
    unfold f_X6_cutUnknown
    rw [k13, bd_s]
  · obtain ⟨τ1, k1, k2, k3, k4⟩ := p4 τ H h4 h5
    have k5 := q4 τ1 (H.fr k4) k2 k3
    have f2 : FrM i τ1 (sA τ1 50 (nI i) (nI e2)) := FrM.a (Or.inr rfl) (by omega)
    have b49 : (sA τ1 50 (nI i) (nI e2)).2.1 49 i = nI a := by rw [sA_q (by decide)]; exact k2
    have b50 : (sA τ1 50 (nI i) (nI e2)).2.1 50 i = nI e2 := by rw [sA_s (by omega), upd_s]
    have k6 := r4 _ ((H.fr k4).fr f2) b49 b50
    have f3 : FrM i (sA τ1 50 (nI i) (nI e2)) (sA (sA τ1 50 (nI i) (nI e2)) 49 (nI i) (nI a3)) := FrM.a (Or.inl rfl) (by omega)
    obtain ⟨τ4, k13, k14, k15, k16⟩ := s5 (sA (sA τ1 50 (nI i) (nI e2)) 49 (nI i) (nI a3)) FU (((H.fr k4).fr f2).fr f3) (by rw [sA_s (by omega), upd_s]) (by rw [sA_q (by decide)]; exact b50) (by simp only [FU]; omega)
    refine ⟨τ1, _, τ4, k1, ?_, k13, k14, k15, ((k4.tr f2).tr f3).tr k16⟩
    rw [k5]
    unfold b_X9_cutQualities_95
    simp only [nx_e]
    rw [gd_t (inb_n (show i < ln 50 by show i < 60; omega) (by decide)), gd_t (inb_n (show i < ln 49 by show i < 60; omega) (by decide)), gd_t (inb_n (show i < ln 49 by show i < 60; omega) (by decide)), nI_clamp (by omega), b49]
    exact k6
end CW
