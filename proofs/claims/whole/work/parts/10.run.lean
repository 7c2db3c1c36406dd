section RUN
abbrev Rs : Type := Int32 × St
abbrev Rx : Type := Nat × Int32 × St
def FU : Nat := 20000
def gd {α : Type} (c : Bool) (o : Option α) : Option α := bif c then o else none
def nx {α β : Type} (a : α) (f : α → β) : β := f a
def bd {α : Type} (o : Option Rs) (f : Int32 → St → Option α) : Option α := match o with | none => none | some z => f z.1 z.2
def gz {α : Type} (x : Int32) (o : Option α) : Option α := if x = 0 ∨ x = 1 then o else none
theorem gd_ok {α : Type} {c : Bool} {o : Option α} {z : α} (h : gd c o = some z) : c = true ∧ o = some z := by
  cases c
  · cases h
  · exact ⟨rfl, h⟩
theorem gz_ok {α : Type} {x : Int32} {o : Option α} {z : α} (h : gz x o = some z) : (x = 0 ∨ x = 1) ∧ o = some z := by
  unfold gz at h
  split at h
  · exact ⟨‹_›, h⟩
  · cases h
theorem bd_ok {α : Type} {o : Option Rs} {f : Int32 → St → Option α} {z : α} (h : bd o f = some z) : ∃ r σ, o = some (r, σ) ∧ f r σ = some z := by
  cases o with
  | none => cases h
  | some q => exact ⟨q.1, q.2, rfl, h⟩
theorem nx_ok {α β : Type} {a : α} {f : α → Option β} {z : β} (h : nx a f = some z) : ∀ x, x = a → f x = some z := fun _ e => e ▸ h
theorem ok_t {α : Type} {c : Prop} [Decidable c] {a b : Option α} {z : α} (hc : c) (h : (if c then a else b) = some z) : a = some z := by rwa [if_pos hc] at h
theorem ok_f {α : Type} {c : Prop} [Decidable c] {a b : Option α} {z : α} (hc : ¬ c) (h : (if c then a else b) = some z) : b = some z := by rwa [if_neg hc] at h
def PI (ε : Et) (z : Rs) : Option Value → Hp → Prop := fun v X => v = some (.int z.1) ∧ X = WX ε z.2
def PV (ε : Et) (z : Rs) : Option Value → Hp → Prop := fun v X => v = none ∧ X = WX ε z.2
def PR (ε : Et) (p : Nat) (σ : St) : Option Value → Hp → Prop := fun v X => v = some (.ref (ad ε p)) ∧ X = WX ε σ
theorem pi_ok {ε : Et} {r : Int32} {σ : St} {z : Rs} (h : some (r, σ) = some z) : PI ε z (some (.int r)) (WX ε σ) := by
  cases h
  exact ⟨rfl, rfl⟩
theorem pv_ok {ε : Et} {r : Int32} {σ : St} {z : Rs} (h : some (r, σ) = some z) : PV ε z none (WX ε σ) := by
  cases h
  exact ⟨rfl, rfl⟩
theorem nar_b {r : Int32} (hz : r = 0 ∨ r = 1) : narrow .boolean (.int r) = .int r := by rcases hz with rfl | rfl <;> rfl
variable {ε : Et} {κ : Kt} {cc : ByteArray} {nL d : Nat} {own : String} {pc : Nat} {lv : List (Nat × Value)} {st : List Value} {σ : St}
/-- a computed number gets a name -/
theorem q_nm {x : Int32} {k n : Nat} (kk : ∀ y : Int32, y = x → G ε κ k n pc lv (.int y :: st) (WX ε σ)) : G ε κ k n pc lv (.int x :: st) (WX ε σ) := kk x rfl
theorem q_cI (C : Cx ε κ cc nL own d) {y : MethodName} {bytes : ByteArray} {maxL d' b ci index np : Nat} {ret : Option FieldType} {rest st0 : List Value} {fs : List Value} {T : u_T} {N : Nat} {r1 : Int32} {σ1 : St} (As : List Value)
    (hM : RM κ.2.1 ε y bytes maxL ret d' 0 0 (.ref (ad ε b) :: As) (WX ε σ) (PI ε (r1, σ1))) (hw9 : Wv own index y bytes maxL ret np) (hdp : d' < d) (hb9 : b < NP) (he : WX ε σ b = .inr (ci, fs)) (hci : vwCl[ci]? = some (y.cls, T, N)) (hn : As.length = np) (hst : st0 = As.reverse ++ .ref (ad ε b) :: rest) (hcat : (rest.map fun v => v.category).sum ≤ 8) (hd : decode cc pc = .ok (.invokevirtual index, 3))
    (kk : G ε κ 0 0 (pc + 3) lv (.int r1 :: rest) (WX ε σ1)) : G ε κ 0 0 pc lv st0 (WX ε σ) := g_call0 C hM hw9 hdp hb9 he hci hn hst hcat hd (fun v h1 hp => by obtain ⟨rfl, rfl⟩ := hp; exact kk)
theorem q_cV (C : Cx ε κ cc nL own d) {y : MethodName} {bytes : ByteArray} {maxL d' b ci index np : Nat} {ret : Option FieldType} {rest st0 : List Value} {fs : List Value} {T : u_T} {N : Nat} {r1 : Int32} {σ1 : St} (As : List Value)
    (hM : RM κ.2.1 ε y bytes maxL ret d' 0 0 (.ref (ad ε b) :: As) (WX ε σ) (PV ε (r1, σ1))) (hw9 : Wv own index y bytes maxL ret np) (hdp : d' < d) (hb9 : b < NP) (he : WX ε σ b = .inr (ci, fs)) (hci : vwCl[ci]? = some (y.cls, T, N)) (hn : As.length = np) (hst : st0 = As.reverse ++ .ref (ad ε b) :: rest) (hcat : (rest.map fun v => v.category).sum ≤ 8) (hd : decode cc pc = .ok (.invokevirtual index, 3))
    (kk : G ε κ 0 0 (pc + 3) lv rest (WX ε σ1)) : G ε κ 0 0 pc lv st0 (WX ε σ) := g_call0 C hM hw9 hdp hb9 he hci hn hst hcat hd (fun v h1 hp => by obtain ⟨rfl, rfl⟩ := hp; exact kk)
theorem q_cR (C : Cx ε κ cc nL own d) {y : MethodName} {bytes : ByteArray} {maxL d' b ci index np : Nat} {ret : Option FieldType} {rest st0 : List Value} {fs : List Value} {T : u_T} {N : Nat} {q : Nat} {σ1 : St} (As : List Value)
    (hM : RM κ.2.1 ε y bytes maxL ret d' 0 0 (.ref (ad ε b) :: As) (WX ε σ) (PR ε q σ1)) (hw9 : Wv own index y bytes maxL ret np) (hdp : d' < d) (hb9 : b < NP) (he : WX ε σ b = .inr (ci, fs)) (hci : vwCl[ci]? = some (y.cls, T, N)) (hn : As.length = np) (hst : st0 = As.reverse ++ .ref (ad ε b) :: rest) (hcat : (rest.map fun v => v.category).sum ≤ 8) (hd : decode cc pc = .ok (.invokevirtual index, 3))
    (kk : G ε κ 0 0 (pc + 3) lv (.ref (ad ε q) :: rest) (WX ε σ1)) : G ε κ 0 0 pc lv st0 (WX ε σ) := g_call0 C hM hw9 hdp hb9 he hci hn hst hcat hd (fun v h1 hp => by obtain ⟨rfl, rfl⟩ := hp; exact kk)
theorem q_sI (C : Cx ε κ cc nL own d) {y : MethodName} {bytes : ByteArray} {maxL d' index np : Nat} {ret : Option FieldType} {rest st0 : List Value} {r1 : Int32} {σ1 : St} (As : List Value)
    (hM : RM κ.2.1 ε y bytes maxL ret d' 0 0 As (WX ε σ) (PI ε (r1, σ1))) (hw9 : Wst own index y bytes maxL ret np) (hdp : d' < d) (hn : As.length = np) (hst : st0 = As.reverse ++ rest) (hcat : (rest.map fun v => v.category).sum ≤ 8) (hd : decode cc pc = .ok (.invokestatic index, 3))
    (kk : G ε κ 0 0 (pc + 3) lv (.int r1 :: rest) (WX ε σ1)) : G ε κ 0 0 pc lv st0 (WX ε σ) := g_callS0 C hM hw9 hdp hn hst hcat hd (fun v h1 hp => by obtain ⟨rfl, rfl⟩ := hp; exact kk)
theorem q_sV (C : Cx ε κ cc nL own d) {y : MethodName} {bytes : ByteArray} {maxL d' index np : Nat} {ret : Option FieldType} {rest st0 : List Value} {r1 : Int32} {σ1 : St} (As : List Value)
    (hM : RM κ.2.1 ε y bytes maxL ret d' 0 0 As (WX ε σ) (PV ε (r1, σ1))) (hw9 : Wst own index y bytes maxL ret np) (hdp : d' < d) (hn : As.length = np) (hst : st0 = As.reverse ++ rest) (hcat : (rest.map fun v => v.category).sum ≤ 8) (hd : decode cc pc = .ok (.invokestatic index, 3))
    (kk : G ε κ 0 0 (pc + 3) lv rest (WX ε σ1)) : G ε κ 0 0 pc lv st0 (WX ε σ) := g_callS0 C hM hw9 hdp hn hst hcat hd (fun v h1 hp => by obtain ⟨rfl, rfl⟩ := hp; exact kk)
theorem q_nI (C : Cx ε κ cc nL own d) {y : MethodName} {bytes : ByteArray} {maxL d' index np : Nat} {ret : Option FieldType} {rest st0 : List Value} {r1 : Int32} {σ1 : St} (As : List Value)
    (hM : RM κ.2.1 ε y bytes maxL ret d' 0 0 As (WX ε σ) (PI ε (r1, σ1))) (hw9 : Wsn own index y bytes maxL ret np) (hdp : d' < d) (hn : As.length = np) (hst : st0 = As.reverse ++ rest) (hcat : (rest.map fun v => v.category).sum ≤ 8) (hd : decode cc pc = .ok (.invokestatic index, 3))
    (kk : G ε κ 0 0 (pc + 3) lv (.int r1 :: rest) (WX ε σ1)) : G ε κ 0 0 pc lv st0 (WX ε σ) := g_callN0 C hM hw9 hdp hn hst hcat hd (fun v h1 hp => by obtain ⟨rfl, rfl⟩ := hp; exact kk)
theorem RM.ofR {l : Launch} {h : Hp} {y : MethodName} {cl : String} {av : List Value} {Post : Option Value → Hp → Prop} (hy : plainName y.cls = true) (hav : (lg_sl av).length ≤ nL)
    (body : ∀ κ : Kt, Cx ε κ cc nL y.cls d → (∀ (pc : Nat) (lv : List (Nat × Value)) (h : Hp) (r : Nat), decode cc pc = .ok (.areturn, 1) → Post (some (.ref r)) h → G ε κ 0 0 pc lv [.ref r] h) → G ε κ 0 0 0 (lv_args 0 av) [] h) : RM l ε y cc nL (some (.object cl)) d 0 0 av h Post := by
  intro sz
  refine Met.ofW (cc := cc) (maxL := nL) (ret := some (.object cl)) hy rfl ?_
  intro p e s m args below meth c s₁ B hml hv
  obtain ⟨rfl, hsz, hP, hK, hN, hD0⟩ := hv
  subst hsz
  have hts := atoms_spec (ws := .code y cc nL (some (.object cl)) :: TB) B.pre
  have hD := hD0.self (sz := s.heap.size)
  have hA : ∀ q : Nat, s.heap.size ≤ q → va_A (pl ε h) s.heap.size q := fun q h => Or.inr h
  have hl := lv_entry av (n := nL) hav
  rw [lg_entry_eq]
  have hr := B.returns
  have hlk : meth.locks = false := B.notSynchronized
  refine body (p, l, e, _, s, m, av.toArray, below, meth, c, _, _) ⟨B.exec, B.bytes, hml, findClass_of_methodNamed B.named, fun w hw => hts w (List.mem_cons_of_mem _ hw), hK, hN, hlk, hA, Nat.le_refl _, Nat.le_refl _⟩ ?_ s.heap [] _ ⟨hP, hD, va_S.rf⟩ (by rw [hml]; exact hl)
  intro pc lv h' r hd hp H locs ls hw hl
  exact W.aret B.exec B.bytes hr (Or.inl ⟨_, rfl⟩) (Or.inr ⟨_, rfl⟩) (fun t ht hW => ⟨⟨some (.ref r), h', rfl, hp, by rw [ht]; exact hw.1, hw.2.1⟩, hw.2.2.F ht⟩) hw.2.2.2.2 hd
theorem tab_out {x : Int32} (lo n : Nat) (hn : n + 1 < 2 ^ 31) (h : ∀ k : Nat, lo ≤ k → k ≤ n → x ≠ nI k) : x.toInt < (lo : Int) ∨ (n : Int) < x.toInt := by
  rcases pk_ix x hn with h0 | h1 | ⟨j, hj, rfl⟩
  · left
    have := Int32.lt_iff_toInt_lt.mp h0
    simp at this
    omega
  · right
    have := Int32.le_iff_toInt_le.mp h1
    rw [nI_toInt hn] at this
    omega
  · by_cases hlo : lo ≤ j
    · exact absurd rfl (h j hlo (by omega))
    · left
      rw [nI_toInt (by omega)]
      omega
theorem rw_1 : Rw 1 := by simp [Rw]
theorem rw_3 : Rw 3 := by simp [Rw]
theorem rw_14 : Rw 14 := by simp [Rw]
theorem rw_17 : Rw 17 := by simp [Rw]
theorem ai_2 : AI 2 := by decide
theorem ai_4 : AI 4 := by decide
theorem ai_8 : AI 8 := by decide
theorem ai_9 : AI 9 := by decide
theorem ai_10 : AI 10 := by decide
theorem ai_11 : AI 11 := by decide
theorem ai_13 : AI 13 := by decide
theorem ai_15 : AI 15 := by decide
theorem ai_18 : AI 18 := by decide
theorem ai_20 : AI 20 := by decide
theorem ai_21 : AI 21 := by decide
theorem ai_22 : AI 22 := by decide
theorem ai_23 : AI 23 := by decide
theorem ai_26 : AI 26 := by decide
theorem ai_27 : AI 27 := by decide
theorem ai_28 : AI 28 := by decide
theorem ai_29 : AI 29 := by decide
theorem ai_30 : AI 30 := by decide
theorem ai_31 : AI 31 := by decide
theorem ai_32 : AI 32 := by decide
theorem ai_35 : AI 35 := by decide
theorem ai_36 : AI 36 := by decide
theorem ai_37 : AI 37 := by decide
theorem ai_38 : AI 38 := by decide
theorem ai_40 : AI 40 := by decide
theorem ai_41 : AI 41 := by decide
theorem ai_42 : AI 42 := by decide
theorem ai_43 : AI 43 := by decide
theorem ai_44 : AI 44 := by decide
theorem ai_45 : AI 45 := by decide
theorem ai_46 : AI 46 := by decide
theorem ai_47 : AI 47 := by decide
theorem ai_48 : AI 48 := by decide
theorem ai_49 : AI 49 := by decide
theorem ai_50 : AI 50 := by decide
theorem ai_52 : AI 52 := by decide
theorem ai_53 : AI 53 := by decide
theorem ai_54 : AI 54 := by decide
theorem az_24 : AZ 24 := by decide
theorem az_51 : AZ 51 := by decide
theorem lt_N {p : Nat} (h : p < 56) : p < NP := h
theorem c_X5_grouping {l : Launch} {σ : St} : RM l ε yX5_grouping cX5_grouping 1 (some (.object "ReadBins$Grouping")) 0 0 0 [.ref (ad ε 19)] (WX ε σ) (PR ε 25 σ) := by
  refine RM.ofR (by decide) (Nat.le_of_ble_eq_true rfl) (fun κ C K => ?_)
  refine g_aload_n C dX5_grouping_0 rfl 0 rfl ?_
  refine q_X5_31 C dX5_grouping_1 ?_
  exact K _ _ _ _ dX5_grouping_4 ⟨rfl, rfl⟩
theorem c_X2_exchange {l : Launch} {σ : St} (b : Bool) : RM l ε yX2_exchange cX2_exchange 3 (some (.object "ReadBins$Reads")) 0 0 0 [.ref (ad ε 5), .ref (ad ε (bs b))] (WX ε σ) (PR ε (bs σ.2.2.2.1) (sD σ b)) := by
  refine RM.ofR (by decide) (Nat.le_of_ble_eq_true rfl) (fun κ C K => ?_)
  refine g_aload_n C dX2_exchange_0 rfl 0 rfl ?_
  refine q_X2_12 C dX2_exchange_1 ?_
  refine g_astore_n C [(2, .ref (ad ε (bs σ.2.2.2.1))), (0, .ref (ad ε 5)), (1, .ref (ad ε (bs b)))] dX2_exchange_4 rfl (by decide) rfl ?_
  refine g_aload_n C dX2_exchange_5 rfl 1 rfl ?_
  refine g_aload_n C dX2_exchange_6 rfl 2 rfl ?_
  refine p_X2_12 C b dX2_exchange_7 (fun s1 e1 => ?_)
  refine g_aload_n C dX2_exchange_10 rfl 0 rfl ?_
  exact K _ _ _ _ dX2_exchange_11 ⟨rfl, by rw [e1]⟩
end RUN
