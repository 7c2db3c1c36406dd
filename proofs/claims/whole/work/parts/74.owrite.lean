section OW
variable {σ τ : St}
/-- the whole text: the texts of those that are chosen -/
def wt (ch : Nat → Bool) (T : Nat → List Int32) : Nat → List Int32
  | 0 => []
  | k + 1 => wt ch T k ++ (if ch k = true then T k else [])
theorem wt_mono {ch : Nat → Bool} {T : Nat → List Int32} : ∀ d k, (wt ch T k).length ≤ (wt ch T (k + d)).length := by
  intro d
  induction d with
  | zero => intro k; exact Nat.le_refl _
  | succ d ih =>
    intro k
    have := ih k
    show _ ≤ (wt ch T (k + d) ++ _).length
    rw [List.length_append]
    omega
theorem wt_le {ch : Nat → Bool} {T : Nat → List Int32} {B : Nat} : ∀ k, (∀ i, i < k → ch i = true → (T i).length ≤ B) → (wt ch T k).length ≤ B * k := by
  intro k
  induction k with
  | zero => intro _; exact Nat.zero_le _
  | succ k ih =>
    intro h
    have h1 := ih (fun i hi => h i (by omega))
    simp only [wt, List.length_append]
    rw [Nat.mul_succ]
    by_cases hc : ch k = true
    · rw [if_pos hc]
      have := h k (by omega) hc
      omega
    · rw [if_neg hc]
      simp only [List.length_nil]
      omega
def NN (l : List Int32) : Prop := ∀ v, v ∈ l → 0 ≤ v
theorem NN.app {l m : List Int32} (h : NN l) (g : NN m) : NN (l ++ m) := fun v hv => (List.mem_append.mp hv).elim (h v) (g v)
theorem NN.one {v : Int32} (h : 0 ≤ v) : NN [v] := fun w hw => by
  rw [List.mem_singleton.mp hw]; exact h
theorem NN.nil : NN [] := fun v hv => by cases hv
theorem nn_tk {f : Nat → Int32} : ∀ k, (∀ j, j < k → 0 ≤ f j) → NN (tk f k) := by
  intro k
  induction k with
  | zero => intro _; exact NN.nil
  | succ k ih => intro h; exact (ih (fun j hj => h j (by omega))).app (NN.one (h k (by omega)))
theorem nn_ml {f : Nat → Int32} {L : Nat} : ∀ k, (∀ j, j < k → 0 ≤ f j) → NN (ml f L k) := by
  intro k
  induction k with
  | zero => intro _; exact NN.nil
  | succ k ih =>
    intro h
    refine ((ih (fun j hj => h j (by omega))).app (NN.one (h k (by omega)))).app ?_
    split
    · exact NN.one (by decide)
    · exact NN.nil
theorem nn_rtx {fm ns L : Nat} {nm lt ql : Nat → Int32} (h1 : ∀ j, j < ns → 0 ≤ nm j) (h2 : ∀ j, j < L → 0 ≤ lt j) (h3 : ∀ j, j < L → 0 ≤ 33 + ql j) : NN (rtx fm ns nm lt ql L) := by
  unfold rtx
  split
  · exact ((((((((NN.one (by decide)).app (nn_tk ns h1)).app (NN.one (by decide))).app (nn_tk L h2)).app (NN.one (by decide))).app (NN.one (by decide))).app (NN.one (by decide))).app (nn_tk L h3)).app (NN.one (by decide))
  · exact (((NN.one (by decide)).app (nn_tk ns h1)).app (NN.one (by decide))).app ((nn_ml L h2).app (NN.one (by decide)))
theorem nn_wt {ch : Nat → Bool} {T : Nat → List Int32} : ∀ k, (∀ i, i < k → ch i = true → NN (T i)) → NN (wt ch T k) := by
  intro k
  induction k with
  | zero => intro _; exact NN.nil
  | succ k ih =>
    intro h
    refine (ih (fun i hi => h i (by omega))).app ?_
    split
    · rename_i hc; exact h k (by omega) hc
    · exact NN.nil
end OW
