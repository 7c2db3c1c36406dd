section WORLD
/-- where the reads lie: two places, which change their parts -/
def bs (b : Bool) : Nat := match b with | true => 33 | false => 6
def ln (q : Nat) : Nat := match q with | 2 => 6000 | 4 => 12000 | 8 => 6000 | 9 => 60 | 10 => 60 | 11 => 60 | 13 => 192 | 15 => 12 | 18 => 30 | 20 => 60 | 21 => 60 | 22 => 60 | 23 => 60 | 24 => 60 | 26 => 720 | 27 => 60 | 28 => 60 | 29 => 60 | 30 => 60 | 31 => 60 | 32 => 16 | 35 => 6000 | 36 => 60 | 37 => 60 | 38 => 60 | 40 => 6000 | 41 => 120 | 42 => 4800 | 43 => 120 | 44 => 14400 | 45 => 14400 | 46 => 192 | 47 => 30 | 48 => 60 | 49 => 60 | 50 => 60 | 51 => 60 | 52 => 60 | 53 => 12000 | 54 => 12000 | _ => 0
/-- numbers of the objects (place, field), of the arrays (place, index), which reads are the reads and which the draft, the law's long -/
abbrev St : Type := (Nat → Nat → Int32) × (Nat → Nat → Int32) × Bool × Bool × (Nat → Int64)
def cO (ε : Et) (q : Nat) (s a : Nat → Int32) (rb db : Bool) (J : Nat → Int64) : va_E := match q with
  | 0 => .inr (7, [.ref (ad ε 1), .ref (ad ε 3), .ref (ad ε 5), .ref (ad ε 12), .ref (ad ε 16), .ref (ad ε 19), .ref (ad ε (bs rb)), .int (s 7)])
  | 1 => .inr (4, [.ref (ad ε 2), .int (s 1)])
  | 2 => aI ε 6000 a
  | 3 => .inr (4, [.ref (ad ε 4), .int (s 1)])
  | 4 => aI ε 12000 a
  | 5 => .inr (2, [.ref (ad ε (bs db)), .int (s 1), .int (s 2), .int (s 3), .int (s 4)])
  | 6 => .inr (3, [.ref (ad ε 7), .ref (ad ε 9), .ref (ad ε 10), .ref (ad ε 11), .int (s 4), .int (s 5)])
  | 7 => .inr (4, [.ref (ad ε 8), .int (s 1)])
  | 8 => aI ε 6000 a
  | 9 => aI ε 60 a
  | 10 => aI ε 60 a
  | 11 => aI ε 60 a
  | 12 => .inr (0, [.ref (ad ε 13), .ref (ad ε 14), .int (s 2), .int (s 3), .int (s 4)])
  | 13 => aI ε 192 a
  | 14 => .inr (4, [.ref (ad ε 15), .int (s 1)])
  | 15 => aI ε 12 a
  | 16 => .inr (6, [.ref (ad ε 17), .int (s 1), .int (s 2), .int (s 3), .int (s 4), .int (s 5)])
  | 17 => .inr (4, [.ref (ad ε 18), .int (s 1)])
  | 18 => aI ε 30 a
  | 19 => .inr (5, [.ref (ad ε 20), .ref (ad ε 21), .ref (ad ε 22), .ref (ad ε 23), .ref (ad ε 24), .ref (ad ε 25), .int (s 6), .int (s 7), .int (s 8)])
  | 20 => aI ε 60 a
  | 21 => aI ε 60 a
  | 22 => aI ε 60 a
  | 23 => aI ε 60 a
  | 24 => aZ ε 60 a
  | 25 => .inr (1, [.ref (ad ε 26), .ref (ad ε 27), .ref (ad ε 28), .ref (ad ε 29), .ref (ad ε 30), .ref (ad ε 31), .ref (ad ε 32), .int (s 7), .int (s 8)])
  | 26 => aI ε 720 a
  | 27 => aI ε 60 a
  | 28 => aI ε 60 a
  | 29 => aI ε 60 a
  | 30 => aI ε 60 a
  | 31 => aI ε 60 a
  | 32 => aI ε 16 a
  | 33 => .inr (3, [.ref (ad ε 34), .ref (ad ε 36), .ref (ad ε 37), .ref (ad ε 38), .int (s 4), .int (s 5)])
  | 34 => .inr (4, [.ref (ad ε 35), .int (s 1)])
  | 35 => aI ε 6000 a
  | 36 => aI ε 60 a
  | 37 => aI ε 60 a
  | 38 => aI ε 60 a
  | 39 => .inr (8, [.ref (ad ε 40), .int (s 1), .int (s 2), .int (s 3), .ref (ad ε 41), .ref (ad ε 42), .ref (ad ε 43), .ref (ad ε 44), .ref (ad ε 45), .int (s 9), .int (s 10), .ref (ad ε 46), .int (s 12), .int (s 13), .ref (ad ε 47), .int (s 15), .int (s 16), .int (s 17), .int (s 18), .int (s 19), .int (s 20), .int (s 21), .ref (ad ε 48), .ref (ad ε 49), .ref (ad ε 50), .ref (ad ε 51), .ref (ad ε 52), .ref (ad ε 53), .ref (ad ε 54), .int (s 29), .int (s 30), .int (s 31), .int (s 32), .int (s 33)])
  | 40 => aI ε 6000 a
  | 41 => aI ε 120 a
  | 42 => aI ε 4800 a
  | 43 => aI ε 120 a
  | 44 => aI ε 14400 a
  | 45 => aI ε 14400 a
  | 46 => aI ε 192 a
  | 47 => aI ε 30 a
  | 48 => aI ε 60 a
  | 49 => aI ε 60 a
  | 50 => aI ε 60 a
  | 51 => aZ ε 60 a
  | 52 => aI ε 60 a
  | 53 => aI ε 12000 a
  | 54 => aI ε 12000 a
  | 55 => aJ ε 1 J
  | _ => aI ε 0 a
def WX (ε : Et) (σ : St) : Hp := fun q => cO ε q (σ.1 q) (σ.2.1 q) σ.2.2.1 σ.2.2.2.1 σ.2.2.2.2
def sS (σ : St) (p j : Nat) (v : Int32) : St := (va_up σ.1 p (va_up (σ.1 p) j v), σ.2)
def sA (σ : St) (q : Nat) (i : Int32) (v : Int32) : St := (σ.1, va_up σ.2.1 q (upd (σ.2.1 q) i.toNatClampNeg v), σ.2.2)
def sD (σ : St) (b : Bool) : St := (σ.1, σ.2.1, σ.2.2.1, b, σ.2.2.2.2)
def sR (σ : St) (b : Bool) : St := (σ.1, σ.2.1, b, σ.2.2.2)
def sJ (σ : St) (J : Nat → Int64) : St := (σ.1, σ.2.1, σ.2.2.1, σ.2.2.2.1, J)
def Rw (p : Nat) : Prop := p = 1 ∨ p = 3 ∨ p = 7 ∨ p = 14 ∨ p = 17 ∨ p = 34
abbrev AI (q : Nat) : Prop := q ∈ [2, 4, 8, 9, 10, 11, 13, 15, 18, 20, 21, 22, 23, 26, 27, 28, 29, 30, 31, 32, 35, 36, 37, 38, 40, 41, 42, 43, 44, 45, 46, 47, 48, 49, 50, 52, 53, 54]
abbrev AZ (q : Nat) : Prop := q ∈ [24, 51]
theorem ai_rw {p : Nat} (hp : Rw p) : AI (p + 1) := by rcases hp with rfl | rfl | rfl | rfl | rfl | rfl <;> decide +kernel
theorem ai_bs (b : Bool) {i : Nat} (hi : i = 3 ∨ i = 4 ∨ i = 5) : AI (bs b + i) := by cases b <;> rcases hi with rfl | rfl | rfl <;> decide +kernel
theorem rw_bs (b : Bool) : Rw (bs b + 1) := by cases b <;> simp [Rw, bs]
theorem rw_lt {p : Nat} (hp : Rw p) : p < NP := by rcases hp with rfl | rfl | rfl | rfl | rfl | rfl <;> decide
theorem bs_lt (b : Bool) : bs b < NP := by cases b <;> decide
theorem up_same {σ : St} {ε : Et} {p : Nat} {s a : Nat → Int32} : va_up (WX ε σ) p (cO ε p s a σ.2.2.1 σ.2.2.2.1 σ.2.2.2.2) = WX ε (va_up σ.1 p s, va_up σ.2.1 p a, σ.2.2) := by
  funext q
  by_cases h : q = p
  · subst h
    simp [WX, va_up_self]
  · simp [WX, va_up_ne _ _ h]
theorem va_up_id {α : Type} (f : Nat → α) (p : Nat) : va_up f p (f p) = f := by
  funext q
  by_cases h : q = p
  · subst h
    simp [va_up_self]
  · simp [va_up_ne _ _ h]
theorem up_s {σ : St} {ε : Et} {p : Nat} {j : Nat} {v : Int32} {c : va_E} (hc : c = cO ε p (va_up (σ.1 p) j v) (σ.2.1 p) σ.2.2.1 σ.2.2.2.1 σ.2.2.2.2) : va_up (WX ε σ) p c = WX ε (sS σ p j v) := by
  rw [hc, up_same, va_up_id]
  rfl
theorem up_a {σ : St} {ε : Et} {q : Nat} {i v : Int32} {c : va_E} (hc : c = cO ε q (σ.1 q) (upd (σ.2.1 q) i.toNatClampNeg v) σ.2.2.1 σ.2.2.2.1 σ.2.2.2.2) : va_up (WX ε σ) q c = WX ε (sA σ q i v) := by
  rw [hc, up_same, va_up_id]
  rfl
variable {ε : Et} {κ : Kt} {cc : ByteArray} {nL d : Nat} {own : String} {k n pc : Nat} {lv : List (Nat × Value)} {st : List Value} {σ : St}
theorem wx_ai {q : Nat} (h : AI q) : WX ε σ q = aI ε (ln q) (σ.2.1 q) := by
  simp only [AI, List.mem_cons, List.not_mem_nil, or_false] at h
  rcases h with rfl | rfl | rfl | rfl | rfl | rfl | rfl | rfl | rfl | rfl | rfl | rfl | rfl | rfl | rfl | rfl | rfl | rfl | rfl | rfl | rfl | rfl | rfl | rfl | rfl | rfl | rfl | rfl | rfl | rfl | rfl | rfl | rfl | rfl | rfl | rfl | rfl | rfl <;> rfl
theorem wx_az {q : Nat} (h : AZ q) : WX ε σ q = aZ ε (ln q) (σ.2.1 q) := by
  simp only [AZ, List.mem_cons, List.not_mem_nil, or_false] at h
  rcases h with rfl | rfl <;> rfl
theorem wx_aiu {q : Nat} (h : AI q) (s a : Nat → Int32) (rb db : Bool) (J : Nat → Int64) : cO ε q s a rb db J = aI ε (ln q) a := by
  simp only [AI, List.mem_cons, List.not_mem_nil, or_false] at h
  rcases h with rfl | rfl | rfl | rfl | rfl | rfl | rfl | rfl | rfl | rfl | rfl | rfl | rfl | rfl | rfl | rfl | rfl | rfl | rfl | rfl | rfl | rfl | rfl | rfl | rfl | rfl | rfl | rfl | rfl | rfl | rfl | rfl | rfl | rfl | rfl | rfl | rfl | rfl <;> rfl
theorem wx_azu {q : Nat} (h : AZ q) (s a : Nat → Int32) (rb db : Bool) (J : Nat → Int64) : cO ε q s a rb db J = aZ ε (ln q) a := by
  simp only [AZ, List.mem_cons, List.not_mem_nil, or_false] at h
  rcases h with rfl | rfl <;> rfl
theorem ai_lt {q : Nat} (h : AI q) : q < NP := by
  simp only [AI, List.mem_cons, List.not_mem_nil, or_false] at h
  simp only [NP]
  omega
theorem az_lt {q : Nat} (h : AZ q) : q < NP := by
  simp only [AZ, List.mem_cons, List.not_mem_nil, or_false] at h
  simp only [NP]
  omega
/-- an index is in a row -/
def inb (i : Int32) (n : Nat) : Bool := decide (¬ (i < 0 ∨ n ≤ i.toNatClampNeg))
theorem inb_in {i : Int32} {n : Nat} (h : inb i n = true) : vp_in i n := (of_decide_eq_true (p := ¬ (i < 0 ∨ n ≤ i.toNatClampNeg)) h)
theorem q_ald (C : Cx ε κ cc nL own d) {q : Nat} {i : Int32} (hq : AI q) (hi : inb i (ln q) = true) (hd : decode cc pc = .ok (.iaload, 1)) (kk : G ε κ k n (pc + 1) lv (.int (σ.2.1 q i.toNatClampNeg) :: st) (WX ε σ)) : G ε κ k n pc lv (.int i :: .ref (ad ε q) :: st) (WX ε σ) := g_ald C (ai_lt hq) (wx_ai hq) (inb_in hi) hd kk
theorem q_zld (C : Cx ε κ cc nL own d) {q : Nat} {i : Int32} (hq : AZ q) (hi : inb i (ln q) = true) (hd : decode cc pc = .ok (.baload, 1)) (kk : G ε κ k n (pc + 1) lv (.int (σ.2.1 q i.toNatClampNeg) :: st) (WX ε σ)) : G ε κ k n pc lv (.int i :: .ref (ad ε q) :: st) (WX ε σ) := g_zld C (az_lt hq) (wx_az hq) (inb_in hi) hd kk
theorem q_ast (C : Cx ε κ cc nL own d) {q : Nat} {i x : Int32} (hq : AI q) (hi : inb i (ln q) = true) (hd : decode cc pc = .ok (.iastore, 1)) (kk : ∀ σ1 : St, σ1 = sA σ q i x → G ε κ k n (pc + 1) lv st (WX ε σ1)) : G ε κ k n pc lv (.int x :: .int i :: .ref (ad ε q) :: st) (WX ε σ) := g_ast C (ai_lt hq) (wx_ai hq) (inb_in hi) hd (fun h1 e1 => by
  rw [e1, up_a (i := i) (v := x) (wx_aiu hq _ _ _ _ _).symm]
  exact kk _ rfl)
theorem nar_z {x : Int32} (hz : x = 0 ∨ x = 1) : vp_nar .boolean x = x := by rcases hz with rfl | rfl <;> rfl
theorem q_zst (C : Cx ε κ cc nL own d) {q : Nat} {i x : Int32} (hq : AZ q) (hi : inb i (ln q) = true) (hz : x = 0 ∨ x = 1) (hd : decode cc pc = .ok (.bastore, 1)) (kk : ∀ σ1 : St, σ1 = sA σ q i x → G ε κ k n (pc + 1) lv st (WX ε σ1)) : G ε κ k n pc lv (.int x :: .int i :: .ref (ad ε q) :: st) (WX ε σ) := g_zst C (az_lt hq) (wx_az hq) (inb_in hi) hd (fun h1 e1 => by
  rw [e1, nar_z hz, up_a (i := i) (v := x) (wx_azu hq _ _ _ _ _).symm]
  exact kk _ rfl)
theorem q_len (C : Cx ε κ cc nL own d) {q : Nat} (hq : AI q) (hd : decode cc pc = .ok (.arraylength, 1)) (kk : G ε κ k n (pc + 1) lv (.int (nI (ln q)) :: st) (WX ε σ)) : G ε κ k n pc lv (.ref (ad ε q) :: st) (WX ε σ) := g_len C (ai_lt hq) (wx_ai hq) rfl hd kk
theorem wx_X0 : WX ε σ 12 = .inr (0, [.ref (ad ε 13), .ref (ad ε 14), .int (σ.1 12 2), .int (σ.1 12 3), .int (σ.1 12 4)]) := rfl
theorem wx_X1 : WX ε σ 25 = .inr (1, [.ref (ad ε 26), .ref (ad ε 27), .ref (ad ε 28), .ref (ad ε 29), .ref (ad ε 30), .ref (ad ε 31), .ref (ad ε 32), .int (σ.1 25 7), .int (σ.1 25 8)]) := rfl
theorem wx_X2 : WX ε σ 5 = .inr (2, [.ref (ad ε (bs σ.2.2.2.1)), .int (σ.1 5 1), .int (σ.1 5 2), .int (σ.1 5 3), .int (σ.1 5 4)]) := rfl
theorem wx_X3 (b : Bool) : WX ε σ (bs b) = .inr (3, [.ref (ad ε (bs b + 1)), .ref (ad ε (bs b + 3)), .ref (ad ε (bs b + 4)), .ref (ad ε (bs b + 5)), .int (σ.1 (bs b) 4), .int (σ.1 (bs b) 5)]) := by cases b <;> rfl
theorem wx_X4 {p : Nat} (hp : Rw p) : WX ε σ p = .inr (4, [.ref (ad ε (p + 1)), .int (σ.1 p 1)]) := by rcases hp with rfl | rfl | rfl | rfl | rfl | rfl <;> rfl
theorem wx_X5 : WX ε σ 19 = .inr (5, [.ref (ad ε 20), .ref (ad ε 21), .ref (ad ε 22), .ref (ad ε 23), .ref (ad ε 24), .ref (ad ε 25), .int (σ.1 19 6), .int (σ.1 19 7), .int (σ.1 19 8)]) := rfl
theorem wx_X6 : WX ε σ 16 = .inr (6, [.ref (ad ε 17), .int (σ.1 16 1), .int (σ.1 16 2), .int (σ.1 16 3), .int (σ.1 16 4), .int (σ.1 16 5)]) := rfl
theorem wx_X8 : WX ε σ 0 = .inr (7, [.ref (ad ε 1), .ref (ad ε 3), .ref (ad ε 5), .ref (ad ε 12), .ref (ad ε 16), .ref (ad ε 19), .ref (ad ε (bs σ.2.2.1)), .int (σ.1 0 7)]) := rfl
theorem wx_X9 : WX ε σ 39 = .inr (8, [.ref (ad ε 40), .int (σ.1 39 1), .int (σ.1 39 2), .int (σ.1 39 3), .ref (ad ε 41), .ref (ad ε 42), .ref (ad ε 43), .ref (ad ε 44), .ref (ad ε 45), .int (σ.1 39 9), .int (σ.1 39 10), .ref (ad ε 46), .int (σ.1 39 12), .int (σ.1 39 13), .ref (ad ε 47), .int (σ.1 39 15), .int (σ.1 39 16), .int (σ.1 39 17), .int (σ.1 39 18), .int (σ.1 39 19), .int (σ.1 39 20), .int (σ.1 39 21), .ref (ad ε 48), .ref (ad ε 49), .ref (ad ε 50), .ref (ad ε 51), .ref (ad ε 52), .ref (ad ε 53), .ref (ad ε 54), .int (σ.1 39 29), .int (σ.1 39 30), .int (σ.1 39 31), .int (σ.1 39 32), .int (σ.1 39 33)]) := rfl
theorem q_X8_14 (C : Cx ε κ cc nL RX8 d) (hd : decode cc pc = .ok (.getfield 14, 3)) (kk : G ε κ k n (pc + 3) lv (.ref (ad ε 1) :: st) (WX ε σ)) : G ε κ k n pc lv (.ref (ad ε 0) :: st) (WX ε σ) := gf_X8_14 C (by decide) wx_X8 rfl hd kk
theorem q_X8_18 (C : Cx ε κ cc nL RX8 d) (hd : decode cc pc = .ok (.getfield 18, 3)) (kk : G ε κ k n (pc + 3) lv (.ref (ad ε 3) :: st) (WX ε σ)) : G ε κ k n pc lv (.ref (ad ε 0) :: st) (WX ε σ) := gf_X8_18 C (by decide) wx_X8 rfl hd kk
theorem q_X8_24 (C : Cx ε κ cc nL RX8 d) (hd : decode cc pc = .ok (.getfield 24, 3)) (kk : G ε κ k n (pc + 3) lv (.ref (ad ε 5) :: st) (WX ε σ)) : G ε κ k n pc lv (.ref (ad ε 0) :: st) (WX ε σ) := gf_X8_24 C (by decide) wx_X8 rfl hd kk
theorem q_X8_31 (C : Cx ε κ cc nL RX8 d) (hd : decode cc pc = .ok (.getfield 31, 3)) (kk : G ε κ k n (pc + 3) lv (.ref (ad ε 12) :: st) (WX ε σ)) : G ε κ k n pc lv (.ref (ad ε 0) :: st) (WX ε σ) := gf_X8_31 C (by decide) wx_X8 rfl hd kk
theorem q_X8_38 (C : Cx ε κ cc nL RX8 d) (hd : decode cc pc = .ok (.getfield 38, 3)) (kk : G ε κ k n (pc + 3) lv (.ref (ad ε 16) :: st) (WX ε σ)) : G ε κ k n pc lv (.ref (ad ε 0) :: st) (WX ε σ) := gf_X8_38 C (by decide) wx_X8 rfl hd kk
theorem q_X8_45 (C : Cx ε κ cc nL RX8 d) (hd : decode cc pc = .ok (.getfield 45, 3)) (kk : G ε κ k n (pc + 3) lv (.ref (ad ε 19) :: st) (WX ε σ)) : G ε κ k n pc lv (.ref (ad ε 0) :: st) (WX ε σ) := gf_X8_45 C (by decide) wx_X8 rfl hd kk
theorem q_X8_52 (C : Cx ε κ cc nL RX8 d) (hd : decode cc pc = .ok (.getfield 52, 3)) (kk : G ε κ k n (pc + 3) lv (.ref (ad ε (bs σ.2.2.1)) :: st) (WX ε σ)) : G ε κ k n pc lv (.ref (ad ε 0) :: st) (WX ε σ) := gf_X8_52 C (by decide) wx_X8 rfl hd kk
theorem p_X8_52 (C : Cx ε κ cc nL RX8 d) (b : Bool) (hd : decode cc pc = .ok (.putfield 52, 3)) (kk : ∀ σ1 : St, σ1 = sR σ b → G ε κ k n (pc + 3) lv st (WX ε σ1)) : G ε κ k n pc lv (.ref (ad ε (bs b)) :: .ref (ad ε 0) :: st) (WX ε σ) := gp_X8_52 C _ (by decide) wx_X8 (by simp) rfl hd (fun h1 e1 => by
  have e2 : h1 = WX ε (sR σ b) := by
    rw [e1]
    funext q
    by_cases hq : q = 0
    · subst hq
      rw [va_up_self]
      rfl
    · rw [va_up_ne _ _ hq]
      simp only [WX, sR]
      unfold cO
      split <;> first | rfl | exact absurd rfl hq
  rw [e2]
  exact kk _ rfl)
theorem q_X8_56 (C : Cx ε κ cc nL RX8 d) (hd : decode cc pc = .ok (.getfield 56, 3)) (kk : G ε κ k n (pc + 3) lv (.int (σ.1 0 7) :: st) (WX ε σ)) : G ε κ k n pc lv (.ref (ad ε 0) :: st) (WX ε σ) := gf_X8_56 C (by decide) wx_X8 rfl hd kk
theorem p_X8_56 (C : Cx ε κ cc nL RX8 d) {x : Int32} (hd : decode cc pc = .ok (.putfield 56, 3)) (kk : ∀ σ1 : St, σ1 = sS σ 0 7 x → G ε κ k n (pc + 3) lv st (WX ε σ1)) : G ε κ k n pc lv (.int x :: .ref (ad ε 0) :: st) (WX ε σ) := gp_X8_56 C _ (by decide) wx_X8 (by simp) rfl hd (fun h1 e1 => by have e2 := e1.trans (up_s (j := 7) (v := x) rfl); rw [e2]; exact kk _ rfl)
theorem q_X0_9 (C : Cx ε κ cc nL RX0 d) (hd : decode cc pc = .ok (.getfield 9, 3)) (kk : G ε κ k n (pc + 3) lv (.ref (ad ε 13) :: st) (WX ε σ)) : G ε κ k n pc lv (.ref (ad ε 12) :: st) (WX ε σ) := gf_X0_9 C (by decide) wx_X0 rfl hd kk
theorem q_X0_20 (C : Cx ε κ cc nL RX0 d) (hd : decode cc pc = .ok (.getfield 20, 3)) (kk : G ε κ k n (pc + 3) lv (.ref (ad ε 14) :: st) (WX ε σ)) : G ε κ k n pc lv (.ref (ad ε 12) :: st) (WX ε σ) := gf_X0_20 C (by decide) wx_X0 rfl hd kk
theorem q_X0_24 (C : Cx ε κ cc nL RX0 d) (hd : decode cc pc = .ok (.getfield 24, 3)) (kk : G ε κ k n (pc + 3) lv (.int (σ.1 12 4) :: st) (WX ε σ)) : G ε κ k n pc lv (.ref (ad ε 12) :: st) (WX ε σ) := gf_X0_24 C (by decide) wx_X0 rfl hd kk
theorem p_X0_24 (C : Cx ε κ cc nL RX0 d) {x : Int32} (hd : decode cc pc = .ok (.putfield 24, 3)) (kk : ∀ σ1 : St, σ1 = sS σ 12 4 x → G ε κ k n (pc + 3) lv st (WX ε σ1)) : G ε κ k n pc lv (.int x :: .ref (ad ε 12) :: st) (WX ε σ) := gp_X0_24 C _ (by decide) wx_X0 (by simp) rfl hd (fun h1 e1 => by have e2 := e1.trans (up_s (j := 4) (v := x) rfl); rw [e2]; exact kk _ rfl)
theorem q_X0_28 (C : Cx ε κ cc nL RX0 d) (hd : decode cc pc = .ok (.getfield 28, 3)) (kk : G ε κ k n (pc + 3) lv (.int (σ.1 12 2) :: st) (WX ε σ)) : G ε κ k n pc lv (.ref (ad ε 12) :: st) (WX ε σ) := gf_X0_28 C (by decide) wx_X0 rfl hd kk
theorem p_X0_28 (C : Cx ε κ cc nL RX0 d) {x : Int32} (hd : decode cc pc = .ok (.putfield 28, 3)) (kk : ∀ σ1 : St, σ1 = sS σ 12 2 x → G ε κ k n (pc + 3) lv st (WX ε σ1)) : G ε κ k n pc lv (.int x :: .ref (ad ε 12) :: st) (WX ε σ) := gp_X0_28 C _ (by decide) wx_X0 (by simp) rfl hd (fun h1 e1 => by have e2 := e1.trans (up_s (j := 2) (v := x) rfl); rw [e2]; exact kk _ rfl)
theorem q_X0_31 (C : Cx ε κ cc nL RX0 d) (hd : decode cc pc = .ok (.getfield 31, 3)) (kk : G ε κ k n (pc + 3) lv (.int (σ.1 12 3) :: st) (WX ε σ)) : G ε κ k n pc lv (.ref (ad ε 12) :: st) (WX ε σ) := gf_X0_31 C (by decide) wx_X0 rfl hd kk
theorem p_X0_31 (C : Cx ε κ cc nL RX0 d) {x : Int32} (hd : decode cc pc = .ok (.putfield 31, 3)) (kk : ∀ σ1 : St, σ1 = sS σ 12 3 x → G ε κ k n (pc + 3) lv st (WX ε σ1)) : G ε κ k n pc lv (.int x :: .ref (ad ε 12) :: st) (WX ε σ) := gp_X0_31 C _ (by decide) wx_X0 (by simp) rfl hd (fun h1 e1 => by have e2 := e1.trans (up_s (j := 3) (v := x) rfl); rw [e2]; exact kk _ rfl)
theorem q_X1_9 (C : Cx ε κ cc nL RX1 d) (hd : decode cc pc = .ok (.getfield 9, 3)) (kk : G ε κ k n (pc + 3) lv (.ref (ad ε 26) :: st) (WX ε σ)) : G ε κ k n pc lv (.ref (ad ε 25) :: st) (WX ε σ) := gf_X1_9 C (by decide) wx_X1 rfl hd kk
theorem q_X1_15 (C : Cx ε κ cc nL RX1 d) (hd : decode cc pc = .ok (.getfield 15, 3)) (kk : G ε κ k n (pc + 3) lv (.ref (ad ε 27) :: st) (WX ε σ)) : G ε κ k n pc lv (.ref (ad ε 25) :: st) (WX ε σ) := gf_X1_15 C (by decide) wx_X1 rfl hd kk
theorem q_X1_18 (C : Cx ε κ cc nL RX1 d) (hd : decode cc pc = .ok (.getfield 18, 3)) (kk : G ε κ k n (pc + 3) lv (.ref (ad ε 28) :: st) (WX ε σ)) : G ε κ k n pc lv (.ref (ad ε 25) :: st) (WX ε σ) := gf_X1_18 C (by decide) wx_X1 rfl hd kk
theorem q_X1_21 (C : Cx ε κ cc nL RX1 d) (hd : decode cc pc = .ok (.getfield 21, 3)) (kk : G ε κ k n (pc + 3) lv (.ref (ad ε 29) :: st) (WX ε σ)) : G ε κ k n pc lv (.ref (ad ε 25) :: st) (WX ε σ) := gf_X1_21 C (by decide) wx_X1 rfl hd kk
theorem q_X1_24 (C : Cx ε κ cc nL RX1 d) (hd : decode cc pc = .ok (.getfield 24, 3)) (kk : G ε κ k n (pc + 3) lv (.ref (ad ε 30) :: st) (WX ε σ)) : G ε κ k n pc lv (.ref (ad ε 25) :: st) (WX ε σ) := gf_X1_24 C (by decide) wx_X1 rfl hd kk
theorem q_X1_27 (C : Cx ε κ cc nL RX1 d) (hd : decode cc pc = .ok (.getfield 27, 3)) (kk : G ε κ k n (pc + 3) lv (.ref (ad ε 31) :: st) (WX ε σ)) : G ε κ k n pc lv (.ref (ad ε 25) :: st) (WX ε σ) := gf_X1_27 C (by decide) wx_X1 rfl hd kk
theorem q_X1_30 (C : Cx ε κ cc nL RX1 d) (hd : decode cc pc = .ok (.getfield 30, 3)) (kk : G ε κ k n (pc + 3) lv (.ref (ad ε 32) :: st) (WX ε σ)) : G ε κ k n pc lv (.ref (ad ε 25) :: st) (WX ε σ) := gf_X1_30 C (by decide) wx_X1 rfl hd kk
theorem q_X1_39 (C : Cx ε κ cc nL RX1 d) (hd : decode cc pc = .ok (.getfield 39, 3)) (kk : G ε κ k n (pc + 3) lv (.int (σ.1 25 7) :: st) (WX ε σ)) : G ε κ k n pc lv (.ref (ad ε 25) :: st) (WX ε σ) := gf_X1_39 C (by decide) wx_X1 rfl hd kk
theorem p_X1_39 (C : Cx ε κ cc nL RX1 d) {x : Int32} (hd : decode cc pc = .ok (.putfield 39, 3)) (kk : ∀ σ1 : St, σ1 = sS σ 25 7 x → G ε κ k n (pc + 3) lv st (WX ε σ1)) : G ε κ k n pc lv (.int x :: .ref (ad ε 25) :: st) (WX ε σ) := gp_X1_39 C _ (by decide) wx_X1 (by simp) rfl hd (fun h1 e1 => by have e2 := e1.trans (up_s (j := 7) (v := x) rfl); rw [e2]; exact kk _ rfl)
theorem q_X1_43 (C : Cx ε κ cc nL RX1 d) (hd : decode cc pc = .ok (.getfield 43, 3)) (kk : G ε κ k n (pc + 3) lv (.int (σ.1 25 8) :: st) (WX ε σ)) : G ε κ k n pc lv (.ref (ad ε 25) :: st) (WX ε σ) := gf_X1_43 C (by decide) wx_X1 rfl hd kk
theorem p_X1_43 (C : Cx ε κ cc nL RX1 d) {x : Int32} (hz : x = 0 ∨ x = 1) (hd : decode cc pc = .ok (.putfield 43, 3)) (kk : ∀ σ1 : St, σ1 = sS σ 25 8 x → G ε κ k n (pc + 3) lv st (WX ε σ1)) : G ε κ k n pc lv (.int x :: .ref (ad ε 25) :: st) (WX ε σ) := gp_X1_43 C hz _ (by decide) wx_X1 (by simp) rfl hd (fun h1 e1 => by have e2 := e1.trans (up_s (j := 8) (v := x) rfl); rw [e2]; exact kk _ rfl)
theorem q_X2_12 (C : Cx ε κ cc nL RX2 d) (hd : decode cc pc = .ok (.getfield 12, 3)) (kk : G ε κ k n (pc + 3) lv (.ref (ad ε (bs σ.2.2.2.1)) :: st) (WX ε σ)) : G ε κ k n pc lv (.ref (ad ε 5) :: st) (WX ε σ) := gf_X2_12 C (by decide) wx_X2 rfl hd kk
theorem p_X2_12 (C : Cx ε κ cc nL RX2 d) (b : Bool) (hd : decode cc pc = .ok (.putfield 12, 3)) (kk : ∀ σ1 : St, σ1 = sD σ b → G ε κ k n (pc + 3) lv st (WX ε σ1)) : G ε κ k n pc lv (.ref (ad ε (bs b)) :: .ref (ad ε 5) :: st) (WX ε σ) := gp_X2_12 C _ (by decide) wx_X2 (by simp) rfl hd (fun h1 e1 => by
  have e2 : h1 = WX ε (sD σ b) := by
    rw [e1]
    funext q
    by_cases hq : q = 5
    · subst hq
      rw [va_up_self]
      rfl
    · rw [va_up_ne _ _ hq]
      simp only [WX, sD]
      unfold cO
      split <;> first | rfl | exact absurd rfl hq
  rw [e2]
  exact kk _ rfl)
theorem q_X2_18 (C : Cx ε κ cc nL RX2 d) (hd : decode cc pc = .ok (.getfield 18, 3)) (kk : G ε κ k n (pc + 3) lv (.int (σ.1 5 1) :: st) (WX ε σ)) : G ε κ k n pc lv (.ref (ad ε 5) :: st) (WX ε σ) := gf_X2_18 C (by decide) wx_X2 rfl hd kk
theorem p_X2_18 (C : Cx ε κ cc nL RX2 d) {x : Int32} (hd : decode cc pc = .ok (.putfield 18, 3)) (kk : ∀ σ1 : St, σ1 = sS σ 5 1 x → G ε κ k n (pc + 3) lv st (WX ε σ1)) : G ε κ k n pc lv (.int x :: .ref (ad ε 5) :: st) (WX ε σ) := gp_X2_18 C _ (by decide) wx_X2 (by simp) rfl hd (fun h1 e1 => by have e2 := e1.trans (up_s (j := 1) (v := x) rfl); rw [e2]; exact kk _ rfl)
theorem q_X2_42 (C : Cx ε κ cc nL RX2 d) (hd : decode cc pc = .ok (.getfield 42, 3)) (kk : G ε κ k n (pc + 3) lv (.int (σ.1 5 4) :: st) (WX ε σ)) : G ε κ k n pc lv (.ref (ad ε 5) :: st) (WX ε σ) := gf_X2_42 C (by decide) wx_X2 rfl hd kk
theorem p_X2_42 (C : Cx ε κ cc nL RX2 d) {x : Int32} (hd : decode cc pc = .ok (.putfield 42, 3)) (kk : ∀ σ1 : St, σ1 = sS σ 5 4 x → G ε κ k n (pc + 3) lv st (WX ε σ1)) : G ε κ k n pc lv (.int x :: .ref (ad ε 5) :: st) (WX ε σ) := gp_X2_42 C _ (by decide) wx_X2 (by simp) rfl hd (fun h1 e1 => by have e2 := e1.trans (up_s (j := 4) (v := x) rfl); rw [e2]; exact kk _ rfl)
theorem q_X2_49 (C : Cx ε κ cc nL RX2 d) (hd : decode cc pc = .ok (.getfield 49, 3)) (kk : G ε κ k n (pc + 3) lv (.int (σ.1 5 2) :: st) (WX ε σ)) : G ε κ k n pc lv (.ref (ad ε 5) :: st) (WX ε σ) := gf_X2_49 C (by decide) wx_X2 rfl hd kk
theorem p_X2_49 (C : Cx ε κ cc nL RX2 d) {x : Int32} (hd : decode cc pc = .ok (.putfield 49, 3)) (kk : ∀ σ1 : St, σ1 = sS σ 5 2 x → G ε κ k n (pc + 3) lv st (WX ε σ1)) : G ε κ k n pc lv (.int x :: .ref (ad ε 5) :: st) (WX ε σ) := gp_X2_49 C _ (by decide) wx_X2 (by simp) rfl hd (fun h1 e1 => by have e2 := e1.trans (up_s (j := 2) (v := x) rfl); rw [e2]; exact kk _ rfl)
theorem q_X2_58 (C : Cx ε κ cc nL RX2 d) (hd : decode cc pc = .ok (.getfield 58, 3)) (kk : G ε κ k n (pc + 3) lv (.int (σ.1 5 3) :: st) (WX ε σ)) : G ε κ k n pc lv (.ref (ad ε 5) :: st) (WX ε σ) := gf_X2_58 C (by decide) wx_X2 rfl hd kk
theorem p_X2_58 (C : Cx ε κ cc nL RX2 d) {x : Int32} (hd : decode cc pc = .ok (.putfield 58, 3)) (kk : ∀ σ1 : St, σ1 = sS σ 5 3 x → G ε κ k n (pc + 3) lv st (WX ε σ1)) : G ε κ k n pc lv (.int x :: .ref (ad ε 5) :: st) (WX ε σ) := gp_X2_58 C _ (by decide) wx_X2 (by simp) rfl hd (fun h1 e1 => by have e2 := e1.trans (up_s (j := 3) (v := x) rfl); rw [e2]; exact kk _ rfl)
theorem q_X3_14 (C : Cx ε κ cc nL RX3 d) (b : Bool) (hd : decode cc pc = .ok (.getfield 14, 3)) (kk : G ε κ k n (pc + 3) lv (.ref (ad ε (bs b + 1)) :: st) (WX ε σ)) : G ε κ k n pc lv (.ref (ad ε (bs b)) :: st) (WX ε σ) := gf_X3_14 C (bs_lt b) (wx_X3 b) rfl hd kk
theorem q_X3_20 (C : Cx ε κ cc nL RX3 d) (b : Bool) (hd : decode cc pc = .ok (.getfield 20, 3)) (kk : G ε κ k n (pc + 3) lv (.ref (ad ε (bs b + 3)) :: st) (WX ε σ)) : G ε κ k n pc lv (.ref (ad ε (bs b)) :: st) (WX ε σ) := gf_X3_20 C (bs_lt b) (wx_X3 b) rfl hd kk
theorem q_X3_24 (C : Cx ε κ cc nL RX3 d) (b : Bool) (hd : decode cc pc = .ok (.getfield 24, 3)) (kk : G ε κ k n (pc + 3) lv (.ref (ad ε (bs b + 4)) :: st) (WX ε σ)) : G ε κ k n pc lv (.ref (ad ε (bs b)) :: st) (WX ε σ) := gf_X3_24 C (bs_lt b) (wx_X3 b) rfl hd kk
theorem q_X3_27 (C : Cx ε κ cc nL RX3 d) (b : Bool) (hd : decode cc pc = .ok (.getfield 27, 3)) (kk : G ε κ k n (pc + 3) lv (.ref (ad ε (bs b + 5)) :: st) (WX ε σ)) : G ε κ k n pc lv (.ref (ad ε (bs b)) :: st) (WX ε σ) := gf_X3_27 C (bs_lt b) (wx_X3 b) rfl hd kk
theorem q_X3_33 (C : Cx ε κ cc nL RX3 d) (b : Bool) (hd : decode cc pc = .ok (.getfield 33, 3)) (kk : G ε κ k n (pc + 3) lv (.int (σ.1 (bs b) 4) :: st) (WX ε σ)) : G ε κ k n pc lv (.ref (ad ε (bs b)) :: st) (WX ε σ) := gf_X3_33 C (bs_lt b) (wx_X3 b) rfl hd kk
theorem p_X3_33 (C : Cx ε κ cc nL RX3 d) (b : Bool) {x : Int32} (hd : decode cc pc = .ok (.putfield 33, 3)) (kk : ∀ σ1 : St, σ1 = sS σ (bs b) 4 x → G ε κ k n (pc + 3) lv st (WX ε σ1)) : G ε κ k n pc lv (.int x :: .ref (ad ε (bs b)) :: st) (WX ε σ) := gp_X3_33 C _ (bs_lt b) (wx_X3 b) (by simp) rfl hd (fun h1 e1 => by have e2 := e1.trans (up_s (j := 4) (v := x) (by cases b <;> rfl)); rw [e2]; exact kk _ rfl)
theorem q_X3_37 (C : Cx ε κ cc nL RX3 d) (b : Bool) (hd : decode cc pc = .ok (.getfield 37, 3)) (kk : G ε κ k n (pc + 3) lv (.int (σ.1 (bs b) 5) :: st) (WX ε σ)) : G ε κ k n pc lv (.ref (ad ε (bs b)) :: st) (WX ε σ) := gf_X3_37 C (bs_lt b) (wx_X3 b) rfl hd kk
theorem p_X3_37 (C : Cx ε κ cc nL RX3 d) (b : Bool) {x : Int32} (hz : x = 0 ∨ x = 1) (hd : decode cc pc = .ok (.putfield 37, 3)) (kk : ∀ σ1 : St, σ1 = sS σ (bs b) 5 x → G ε κ k n (pc + 3) lv st (WX ε σ1)) : G ε κ k n pc lv (.int x :: .ref (ad ε (bs b)) :: st) (WX ε σ) := gp_X3_37 C hz _ (bs_lt b) (wx_X3 b) (by simp) rfl hd (fun h1 e1 => by have e2 := e1.trans (up_s (j := 5) (v := x) (by cases b <;> rfl)); rw [e2]; exact kk _ rfl)
theorem q_X4_15 (C : Cx ε κ cc nL RX4 d) {p : Nat} (hp : Rw p) (hd : decode cc pc = .ok (.getfield 15, 3)) (kk : G ε κ k n (pc + 3) lv (.ref (ad ε (p + 1)) :: st) (WX ε σ)) : G ε κ k n pc lv (.ref (ad ε p) :: st) (WX ε σ) := gf_X4_15 C (rw_lt hp) (wx_X4 hp) rfl hd kk
theorem q_X4_21 (C : Cx ε κ cc nL RX4 d) {p : Nat} (hp : Rw p) (hd : decode cc pc = .ok (.getfield 21, 3)) (kk : G ε κ k n (pc + 3) lv (.int (σ.1 p 1) :: st) (WX ε σ)) : G ε κ k n pc lv (.ref (ad ε p) :: st) (WX ε σ) := gf_X4_21 C (rw_lt hp) (wx_X4 hp) rfl hd kk
theorem p_X4_21 (C : Cx ε κ cc nL RX4 d) {p : Nat} (hp : Rw p) {x : Int32} (hd : decode cc pc = .ok (.putfield 21, 3)) (kk : ∀ σ1 : St, σ1 = sS σ p 1 x → G ε κ k n (pc + 3) lv st (WX ε σ1)) : G ε κ k n pc lv (.int x :: .ref (ad ε p) :: st) (WX ε σ) := gp_X4_21 C _ (rw_lt hp) (wx_X4 hp) (by simp) rfl hd (fun h1 e1 => by have e2 := e1.trans (up_s (j := 1) (v := x) (by rcases hp with rfl | rfl | rfl | rfl | rfl | rfl <;> rfl)); rw [e2]; exact kk _ rfl)
theorem q_X5_9 (C : Cx ε κ cc nL RX5 d) (hd : decode cc pc = .ok (.getfield 9, 3)) (kk : G ε κ k n (pc + 3) lv (.ref (ad ε 20) :: st) (WX ε σ)) : G ε κ k n pc lv (.ref (ad ε 19) :: st) (WX ε σ) := gf_X5_9 C (by decide) wx_X5 rfl hd kk
theorem q_X5_15 (C : Cx ε κ cc nL RX5 d) (hd : decode cc pc = .ok (.getfield 15, 3)) (kk : G ε κ k n (pc + 3) lv (.ref (ad ε 21) :: st) (WX ε σ)) : G ε κ k n pc lv (.ref (ad ε 19) :: st) (WX ε σ) := gf_X5_15 C (by decide) wx_X5 rfl hd kk
theorem q_X5_18 (C : Cx ε κ cc nL RX5 d) (hd : decode cc pc = .ok (.getfield 18, 3)) (kk : G ε κ k n (pc + 3) lv (.ref (ad ε 22) :: st) (WX ε σ)) : G ε κ k n pc lv (.ref (ad ε 19) :: st) (WX ε σ) := gf_X5_18 C (by decide) wx_X5 rfl hd kk
theorem q_X5_21 (C : Cx ε κ cc nL RX5 d) (hd : decode cc pc = .ok (.getfield 21, 3)) (kk : G ε κ k n (pc + 3) lv (.ref (ad ε 23) :: st) (WX ε σ)) : G ε κ k n pc lv (.ref (ad ε 19) :: st) (WX ε σ) := gf_X5_21 C (by decide) wx_X5 rfl hd kk
theorem q_X5_24 (C : Cx ε κ cc nL RX5 d) (hd : decode cc pc = .ok (.getfield 24, 3)) (kk : G ε κ k n (pc + 3) lv (.ref (ad ε 24) :: st) (WX ε σ)) : G ε κ k n pc lv (.ref (ad ε 19) :: st) (WX ε σ) := gf_X5_24 C (by decide) wx_X5 rfl hd kk
theorem q_X5_31 (C : Cx ε κ cc nL RX5 d) (hd : decode cc pc = .ok (.getfield 31, 3)) (kk : G ε κ k n (pc + 3) lv (.ref (ad ε 25) :: st) (WX ε σ)) : G ε κ k n pc lv (.ref (ad ε 19) :: st) (WX ε σ) := gf_X5_31 C (by decide) wx_X5 rfl hd kk
theorem q_X5_35 (C : Cx ε κ cc nL RX5 d) (hd : decode cc pc = .ok (.getfield 35, 3)) (kk : G ε κ k n (pc + 3) lv (.int (σ.1 19 6) :: st) (WX ε σ)) : G ε κ k n pc lv (.ref (ad ε 19) :: st) (WX ε σ) := gf_X5_35 C (by decide) wx_X5 rfl hd kk
theorem p_X5_35 (C : Cx ε κ cc nL RX5 d) {x : Int32} (hz : x = 0 ∨ x = 1) (hd : decode cc pc = .ok (.putfield 35, 3)) (kk : ∀ σ1 : St, σ1 = sS σ 19 6 x → G ε κ k n (pc + 3) lv st (WX ε σ1)) : G ε κ k n pc lv (.int x :: .ref (ad ε 19) :: st) (WX ε σ) := gp_X5_35 C hz _ (by decide) wx_X5 (by simp) rfl hd (fun h1 e1 => by have e2 := e1.trans (up_s (j := 6) (v := x) rfl); rw [e2]; exact kk _ rfl)
theorem q_X5_39 (C : Cx ε κ cc nL RX5 d) (hd : decode cc pc = .ok (.getfield 39, 3)) (kk : G ε κ k n (pc + 3) lv (.int (σ.1 19 8) :: st) (WX ε σ)) : G ε κ k n pc lv (.ref (ad ε 19) :: st) (WX ε σ) := gf_X5_39 C (by decide) wx_X5 rfl hd kk
theorem p_X5_39 (C : Cx ε κ cc nL RX5 d) {x : Int32} (hd : decode cc pc = .ok (.putfield 39, 3)) (kk : ∀ σ1 : St, σ1 = sS σ 19 8 x → G ε κ k n (pc + 3) lv st (WX ε σ1)) : G ε κ k n pc lv (.int x :: .ref (ad ε 19) :: st) (WX ε σ) := gp_X5_39 C _ (by decide) wx_X5 (by simp) rfl hd (fun h1 e1 => by have e2 := e1.trans (up_s (j := 8) (v := x) rfl); rw [e2]; exact kk _ rfl)
theorem q_X5_43 (C : Cx ε κ cc nL RX5 d) (hd : decode cc pc = .ok (.getfield 43, 3)) (kk : G ε κ k n (pc + 3) lv (.int (σ.1 19 7) :: st) (WX ε σ)) : G ε κ k n pc lv (.ref (ad ε 19) :: st) (WX ε σ) := gf_X5_43 C (by decide) wx_X5 rfl hd kk
theorem p_X5_43 (C : Cx ε κ cc nL RX5 d) {x : Int32} (hd : decode cc pc = .ok (.putfield 43, 3)) (kk : ∀ σ1 : St, σ1 = sS σ 19 7 x → G ε κ k n (pc + 3) lv st (WX ε σ1)) : G ε κ k n pc lv (.int x :: .ref (ad ε 19) :: st) (WX ε σ) := gp_X5_43 C _ (by decide) wx_X5 (by simp) rfl hd (fun h1 e1 => by have e2 := e1.trans (up_s (j := 7) (v := x) rfl); rw [e2]; exact kk _ rfl)
theorem q_X6_14 (C : Cx ε κ cc nL RX6 d) (hd : decode cc pc = .ok (.getfield 14, 3)) (kk : G ε κ k n (pc + 3) lv (.ref (ad ε 17) :: st) (WX ε σ)) : G ε κ k n pc lv (.ref (ad ε 16) :: st) (WX ε σ) := gf_X6_14 C (by decide) wx_X6 rfl hd kk
theorem q_X6_20 (C : Cx ε κ cc nL RX6 d) (hd : decode cc pc = .ok (.getfield 20, 3)) (kk : G ε κ k n (pc + 3) lv (.int (σ.1 16 3) :: st) (WX ε σ)) : G ε κ k n pc lv (.ref (ad ε 16) :: st) (WX ε σ) := gf_X6_20 C (by decide) wx_X6 rfl hd kk
theorem p_X6_20 (C : Cx ε κ cc nL RX6 d) {x : Int32} (hd : decode cc pc = .ok (.putfield 20, 3)) (kk : ∀ σ1 : St, σ1 = sS σ 16 3 x → G ε κ k n (pc + 3) lv st (WX ε σ1)) : G ε κ k n pc lv (.int x :: .ref (ad ε 16) :: st) (WX ε σ) := gp_X6_20 C _ (by decide) wx_X6 (by simp) rfl hd (fun h1 e1 => by have e2 := e1.trans (up_s (j := 3) (v := x) rfl); rw [e2]; exact kk _ rfl)
theorem q_X6_36 (C : Cx ε κ cc nL RX6 d) (hd : decode cc pc = .ok (.getfield 36, 3)) (kk : G ε κ k n (pc + 3) lv (.int (σ.1 16 1) :: st) (WX ε σ)) : G ε κ k n pc lv (.ref (ad ε 16) :: st) (WX ε σ) := gf_X6_36 C (by decide) wx_X6 rfl hd kk
theorem p_X6_36 (C : Cx ε κ cc nL RX6 d) {x : Int32} (hd : decode cc pc = .ok (.putfield 36, 3)) (kk : ∀ σ1 : St, σ1 = sS σ 16 1 x → G ε κ k n (pc + 3) lv st (WX ε σ1)) : G ε κ k n pc lv (.int x :: .ref (ad ε 16) :: st) (WX ε σ) := gp_X6_36 C _ (by decide) wx_X6 (by simp) rfl hd (fun h1 e1 => by have e2 := e1.trans (up_s (j := 1) (v := x) rfl); rw [e2]; exact kk _ rfl)
theorem q_X6_39 (C : Cx ε κ cc nL RX6 d) (hd : decode cc pc = .ok (.getfield 39, 3)) (kk : G ε κ k n (pc + 3) lv (.int (σ.1 16 2) :: st) (WX ε σ)) : G ε κ k n pc lv (.ref (ad ε 16) :: st) (WX ε σ) := gf_X6_39 C (by decide) wx_X6 rfl hd kk
theorem p_X6_39 (C : Cx ε κ cc nL RX6 d) {x : Int32} (hd : decode cc pc = .ok (.putfield 39, 3)) (kk : ∀ σ1 : St, σ1 = sS σ 16 2 x → G ε κ k n (pc + 3) lv st (WX ε σ1)) : G ε κ k n pc lv (.int x :: .ref (ad ε 16) :: st) (WX ε σ) := gp_X6_39 C _ (by decide) wx_X6 (by simp) rfl hd (fun h1 e1 => by have e2 := e1.trans (up_s (j := 2) (v := x) rfl); rw [e2]; exact kk _ rfl)
theorem q_X6_42 (C : Cx ε κ cc nL RX6 d) (hd : decode cc pc = .ok (.getfield 42, 3)) (kk : G ε κ k n (pc + 3) lv (.int (σ.1 16 4) :: st) (WX ε σ)) : G ε κ k n pc lv (.ref (ad ε 16) :: st) (WX ε σ) := gf_X6_42 C (by decide) wx_X6 rfl hd kk
theorem p_X6_42 (C : Cx ε κ cc nL RX6 d) {x : Int32} (hd : decode cc pc = .ok (.putfield 42, 3)) (kk : ∀ σ1 : St, σ1 = sS σ 16 4 x → G ε κ k n (pc + 3) lv st (WX ε σ1)) : G ε κ k n pc lv (.int x :: .ref (ad ε 16) :: st) (WX ε σ) := gp_X6_42 C _ (by decide) wx_X6 (by simp) rfl hd (fun h1 e1 => by have e2 := e1.trans (up_s (j := 4) (v := x) rfl); rw [e2]; exact kk _ rfl)
theorem q_X6_45 (C : Cx ε κ cc nL RX6 d) (hd : decode cc pc = .ok (.getfield 45, 3)) (kk : G ε κ k n (pc + 3) lv (.int (σ.1 16 5) :: st) (WX ε σ)) : G ε κ k n pc lv (.ref (ad ε 16) :: st) (WX ε σ) := gf_X6_45 C (by decide) wx_X6 rfl hd kk
theorem p_X6_45 (C : Cx ε κ cc nL RX6 d) {x : Int32} (hd : decode cc pc = .ok (.putfield 45, 3)) (kk : ∀ σ1 : St, σ1 = sS σ 16 5 x → G ε κ k n (pc + 3) lv st (WX ε σ1)) : G ε κ k n pc lv (.int x :: .ref (ad ε 16) :: st) (WX ε σ) := gp_X6_45 C _ (by decide) wx_X6 (by simp) rfl hd (fun h1 e1 => by have e2 := e1.trans (up_s (j := 5) (v := x) rfl); rw [e2]; exact kk _ rfl)
theorem q_X9_7 (C : Cx ε κ cc nL RX9 d) (hd : decode cc pc = .ok (.getfield 7, 3)) (kk : G ε κ k n (pc + 3) lv (.ref (ad ε 40) :: st) (WX ε σ)) : G ε κ k n pc lv (.ref (ad ε 39) :: st) (WX ε σ) := gf_X9_7 C (by decide) wx_X9 rfl hd kk
theorem q_X9_13 (C : Cx ε κ cc nL RX9 d) (hd : decode cc pc = .ok (.getfield 13, 3)) (kk : G ε κ k n (pc + 3) lv (.int (σ.1 39 2) :: st) (WX ε σ)) : G ε κ k n pc lv (.ref (ad ε 39) :: st) (WX ε σ) := gf_X9_13 C (by decide) wx_X9 rfl hd kk
theorem p_X9_13 (C : Cx ε κ cc nL RX9 d) {x : Int32} (hd : decode cc pc = .ok (.putfield 13, 3)) (kk : ∀ σ1 : St, σ1 = sS σ 39 2 x → G ε κ k n (pc + 3) lv st (WX ε σ1)) : G ε κ k n pc lv (.int x :: .ref (ad ε 39) :: st) (WX ε σ) := gp_X9_13 C _ (by decide) wx_X9 (by simp) rfl hd (fun h1 e1 => by have e2 := e1.trans (up_s (j := 2) (v := x) rfl); rw [e2]; exact kk _ rfl)
theorem q_X9_17 (C : Cx ε κ cc nL RX9 d) (hd : decode cc pc = .ok (.getfield 17, 3)) (kk : G ε κ k n (pc + 3) lv (.ref (ad ε 41) :: st) (WX ε σ)) : G ε κ k n pc lv (.ref (ad ε 39) :: st) (WX ε σ) := gf_X9_17 C (by decide) wx_X9 rfl hd kk
theorem q_X9_20 (C : Cx ε κ cc nL RX9 d) (hd : decode cc pc = .ok (.getfield 20, 3)) (kk : G ε κ k n (pc + 3) lv (.ref (ad ε 42) :: st) (WX ε σ)) : G ε κ k n pc lv (.ref (ad ε 39) :: st) (WX ε σ) := gf_X9_20 C (by decide) wx_X9 rfl hd kk
theorem q_X9_23 (C : Cx ε κ cc nL RX9 d) (hd : decode cc pc = .ok (.getfield 23, 3)) (kk : G ε κ k n (pc + 3) lv (.ref (ad ε 43) :: st) (WX ε σ)) : G ε κ k n pc lv (.ref (ad ε 39) :: st) (WX ε σ) := gf_X9_23 C (by decide) wx_X9 rfl hd kk
theorem q_X9_26 (C : Cx ε κ cc nL RX9 d) (hd : decode cc pc = .ok (.getfield 26, 3)) (kk : G ε κ k n (pc + 3) lv (.ref (ad ε 44) :: st) (WX ε σ)) : G ε κ k n pc lv (.ref (ad ε 39) :: st) (WX ε σ) := gf_X9_26 C (by decide) wx_X9 rfl hd kk
theorem q_X9_29 (C : Cx ε κ cc nL RX9 d) (hd : decode cc pc = .ok (.getfield 29, 3)) (kk : G ε κ k n (pc + 3) lv (.ref (ad ε 45) :: st) (WX ε σ)) : G ε κ k n pc lv (.ref (ad ε 39) :: st) (WX ε σ) := gf_X9_29 C (by decide) wx_X9 rfl hd kk
theorem q_X9_32 (C : Cx ε κ cc nL RX9 d) (hd : decode cc pc = .ok (.getfield 32, 3)) (kk : G ε κ k n (pc + 3) lv (.ref (ad ε 46) :: st) (WX ε σ)) : G ε κ k n pc lv (.ref (ad ε 39) :: st) (WX ε σ) := gf_X9_32 C (by decide) wx_X9 rfl hd kk
theorem q_X9_35 (C : Cx ε κ cc nL RX9 d) (hd : decode cc pc = .ok (.getfield 35, 3)) (kk : G ε κ k n (pc + 3) lv (.ref (ad ε 47) :: st) (WX ε σ)) : G ε κ k n pc lv (.ref (ad ε 39) :: st) (WX ε σ) := gf_X9_35 C (by decide) wx_X9 rfl hd kk
theorem q_X9_38 (C : Cx ε κ cc nL RX9 d) (hd : decode cc pc = .ok (.getfield 38, 3)) (kk : G ε κ k n (pc + 3) lv (.int (σ.1 39 18) :: st) (WX ε σ)) : G ε κ k n pc lv (.ref (ad ε 39) :: st) (WX ε σ) := gf_X9_38 C (by decide) wx_X9 rfl hd kk
theorem p_X9_38 (C : Cx ε κ cc nL RX9 d) {x : Int32} (hd : decode cc pc = .ok (.putfield 38, 3)) (kk : ∀ σ1 : St, σ1 = sS σ 39 18 x → G ε κ k n (pc + 3) lv st (WX ε σ1)) : G ε κ k n pc lv (.int x :: .ref (ad ε 39) :: st) (WX ε σ) := gp_X9_38 C _ (by decide) wx_X9 (by simp) rfl hd (fun h1 e1 => by have e2 := e1.trans (up_s (j := 18) (v := x) rfl); rw [e2]; exact kk _ rfl)
theorem q_X9_41 (C : Cx ε κ cc nL RX9 d) (hd : decode cc pc = .ok (.getfield 41, 3)) (kk : G ε κ k n (pc + 3) lv (.ref (ad ε 48) :: st) (WX ε σ)) : G ε κ k n pc lv (.ref (ad ε 39) :: st) (WX ε σ) := gf_X9_41 C (by decide) wx_X9 rfl hd kk
theorem q_X9_44 (C : Cx ε κ cc nL RX9 d) (hd : decode cc pc = .ok (.getfield 44, 3)) (kk : G ε κ k n (pc + 3) lv (.ref (ad ε 49) :: st) (WX ε σ)) : G ε κ k n pc lv (.ref (ad ε 39) :: st) (WX ε σ) := gf_X9_44 C (by decide) wx_X9 rfl hd kk
theorem q_X9_47 (C : Cx ε κ cc nL RX9 d) (hd : decode cc pc = .ok (.getfield 47, 3)) (kk : G ε κ k n (pc + 3) lv (.ref (ad ε 50) :: st) (WX ε σ)) : G ε κ k n pc lv (.ref (ad ε 39) :: st) (WX ε σ) := gf_X9_47 C (by decide) wx_X9 rfl hd kk
theorem q_X9_50 (C : Cx ε κ cc nL RX9 d) (hd : decode cc pc = .ok (.getfield 50, 3)) (kk : G ε κ k n (pc + 3) lv (.ref (ad ε 51) :: st) (WX ε σ)) : G ε κ k n pc lv (.ref (ad ε 39) :: st) (WX ε σ) := gf_X9_50 C (by decide) wx_X9 rfl hd kk
theorem q_X9_54 (C : Cx ε κ cc nL RX9 d) (hd : decode cc pc = .ok (.getfield 54, 3)) (kk : G ε κ k n (pc + 3) lv (.ref (ad ε 52) :: st) (WX ε σ)) : G ε κ k n pc lv (.ref (ad ε 39) :: st) (WX ε σ) := gf_X9_54 C (by decide) wx_X9 rfl hd kk
theorem q_X9_57 (C : Cx ε κ cc nL RX9 d) (hd : decode cc pc = .ok (.getfield 57, 3)) (kk : G ε κ k n (pc + 3) lv (.ref (ad ε 53) :: st) (WX ε σ)) : G ε κ k n pc lv (.ref (ad ε 39) :: st) (WX ε σ) := gf_X9_57 C (by decide) wx_X9 rfl hd kk
theorem q_X9_60 (C : Cx ε κ cc nL RX9 d) (hd : decode cc pc = .ok (.getfield 60, 3)) (kk : G ε κ k n (pc + 3) lv (.ref (ad ε 54) :: st) (WX ε σ)) : G ε κ k n pc lv (.ref (ad ε 39) :: st) (WX ε σ) := gf_X9_60 C (by decide) wx_X9 rfl hd kk
theorem q_X9_63 (C : Cx ε κ cc nL RX9 d) (hd : decode cc pc = .ok (.getfield 63, 3)) (kk : G ε κ k n (pc + 3) lv (.int (σ.1 39 9) :: st) (WX ε σ)) : G ε κ k n pc lv (.ref (ad ε 39) :: st) (WX ε σ) := gf_X9_63 C (by decide) wx_X9 rfl hd kk
theorem p_X9_63 (C : Cx ε κ cc nL RX9 d) {x : Int32} (hd : decode cc pc = .ok (.putfield 63, 3)) (kk : ∀ σ1 : St, σ1 = sS σ 39 9 x → G ε κ k n (pc + 3) lv st (WX ε σ1)) : G ε κ k n pc lv (.int x :: .ref (ad ε 39) :: st) (WX ε σ) := gp_X9_63 C _ (by decide) wx_X9 (by simp) rfl hd (fun h1 e1 => by have e2 := e1.trans (up_s (j := 9) (v := x) rfl); rw [e2]; exact kk _ rfl)
theorem q_X9_66 (C : Cx ε κ cc nL RX9 d) (hd : decode cc pc = .ok (.getfield 66, 3)) (kk : G ε κ k n (pc + 3) lv (.int (σ.1 39 3) :: st) (WX ε σ)) : G ε κ k n pc lv (.ref (ad ε 39) :: st) (WX ε σ) := gf_X9_66 C (by decide) wx_X9 rfl hd kk
theorem p_X9_66 (C : Cx ε κ cc nL RX9 d) {x : Int32} (hd : decode cc pc = .ok (.putfield 66, 3)) (kk : ∀ σ1 : St, σ1 = sS σ 39 3 x → G ε κ k n (pc + 3) lv st (WX ε σ1)) : G ε κ k n pc lv (.int x :: .ref (ad ε 39) :: st) (WX ε σ) := gp_X9_66 C _ (by decide) wx_X9 (by simp) rfl hd (fun h1 e1 => by have e2 := e1.trans (up_s (j := 3) (v := x) rfl); rw [e2]; exact kk _ rfl)
theorem q_X9_69 (C : Cx ε κ cc nL RX9 d) (hd : decode cc pc = .ok (.getfield 69, 3)) (kk : G ε κ k n (pc + 3) lv (.int (σ.1 39 1) :: st) (WX ε σ)) : G ε κ k n pc lv (.ref (ad ε 39) :: st) (WX ε σ) := gf_X9_69 C (by decide) wx_X9 rfl hd kk
theorem p_X9_69 (C : Cx ε κ cc nL RX9 d) {x : Int32} (hd : decode cc pc = .ok (.putfield 69, 3)) (kk : ∀ σ1 : St, σ1 = sS σ 39 1 x → G ε κ k n (pc + 3) lv st (WX ε σ1)) : G ε κ k n pc lv (.int x :: .ref (ad ε 39) :: st) (WX ε σ) := gp_X9_69 C _ (by decide) wx_X9 (by simp) rfl hd (fun h1 e1 => by have e2 := e1.trans (up_s (j := 1) (v := x) rfl); rw [e2]; exact kk _ rfl)
theorem q_X9_74 (C : Cx ε κ cc nL RX9 d) (hd : decode cc pc = .ok (.getfield 74, 3)) (kk : G ε κ k n (pc + 3) lv (.int (σ.1 39 32) :: st) (WX ε σ)) : G ε κ k n pc lv (.ref (ad ε 39) :: st) (WX ε σ) := gf_X9_74 C (by decide) wx_X9 rfl hd kk
theorem p_X9_74 (C : Cx ε κ cc nL RX9 d) {x : Int32} (hd : decode cc pc = .ok (.putfield 74, 3)) (kk : ∀ σ1 : St, σ1 = sS σ 39 32 x → G ε κ k n (pc + 3) lv st (WX ε σ1)) : G ε κ k n pc lv (.int x :: .ref (ad ε 39) :: st) (WX ε σ) := gp_X9_74 C _ (by decide) wx_X9 (by simp) rfl hd (fun h1 e1 => by have e2 := e1.trans (up_s (j := 32) (v := x) rfl); rw [e2]; exact kk _ rfl)
theorem q_X9_77 (C : Cx ε κ cc nL RX9 d) (hd : decode cc pc = .ok (.getfield 77, 3)) (kk : G ε κ k n (pc + 3) lv (.int (σ.1 39 31) :: st) (WX ε σ)) : G ε κ k n pc lv (.ref (ad ε 39) :: st) (WX ε σ) := gf_X9_77 C (by decide) wx_X9 rfl hd kk
theorem p_X9_77 (C : Cx ε κ cc nL RX9 d) {x : Int32} (hd : decode cc pc = .ok (.putfield 77, 3)) (kk : ∀ σ1 : St, σ1 = sS σ 39 31 x → G ε κ k n (pc + 3) lv st (WX ε σ1)) : G ε κ k n pc lv (.int x :: .ref (ad ε 39) :: st) (WX ε σ) := gp_X9_77 C _ (by decide) wx_X9 (by simp) rfl hd (fun h1 e1 => by have e2 := e1.trans (up_s (j := 31) (v := x) rfl); rw [e2]; exact kk _ rfl)
theorem q_X9_88 (C : Cx ε κ cc nL RX9 d) (hd : decode cc pc = .ok (.getfield 88, 3)) (kk : G ε κ k n (pc + 3) lv (.int (σ.1 39 10) :: st) (WX ε σ)) : G ε κ k n pc lv (.ref (ad ε 39) :: st) (WX ε σ) := gf_X9_88 C (by decide) wx_X9 rfl hd kk
theorem p_X9_88 (C : Cx ε κ cc nL RX9 d) {x : Int32} (hd : decode cc pc = .ok (.putfield 88, 3)) (kk : ∀ σ1 : St, σ1 = sS σ 39 10 x → G ε κ k n (pc + 3) lv st (WX ε σ1)) : G ε κ k n pc lv (.int x :: .ref (ad ε 39) :: st) (WX ε σ) := gp_X9_88 C _ (by decide) wx_X9 (by simp) rfl hd (fun h1 e1 => by have e2 := e1.trans (up_s (j := 10) (v := x) rfl); rw [e2]; exact kk _ rfl)
theorem q_X9_114 (C : Cx ε κ cc nL RX9 d) (hd : decode cc pc = .ok (.getfield 114, 3)) (kk : G ε κ k n (pc + 3) lv (.int (σ.1 39 19) :: st) (WX ε σ)) : G ε κ k n pc lv (.ref (ad ε 39) :: st) (WX ε σ) := gf_X9_114 C (by decide) wx_X9 rfl hd kk
theorem p_X9_114 (C : Cx ε κ cc nL RX9 d) {x : Int32} (hz : x = 0 ∨ x = 1) (hd : decode cc pc = .ok (.putfield 114, 3)) (kk : ∀ σ1 : St, σ1 = sS σ 39 19 x → G ε κ k n (pc + 3) lv st (WX ε σ1)) : G ε κ k n pc lv (.int x :: .ref (ad ε 39) :: st) (WX ε σ) := gp_X9_114 C hz _ (by decide) wx_X9 (by simp) rfl hd (fun h1 e1 => by have e2 := e1.trans (up_s (j := 19) (v := x) rfl); rw [e2]; exact kk _ rfl)
theorem q_X9_118 (C : Cx ε κ cc nL RX9 d) (hd : decode cc pc = .ok (.getfield 118, 3)) (kk : G ε κ k n (pc + 3) lv (.int (σ.1 39 12) :: st) (WX ε σ)) : G ε κ k n pc lv (.ref (ad ε 39) :: st) (WX ε σ) := gf_X9_118 C (by decide) wx_X9 rfl hd kk
theorem p_X9_118 (C : Cx ε κ cc nL RX9 d) {x : Int32} (hd : decode cc pc = .ok (.putfield 118, 3)) (kk : ∀ σ1 : St, σ1 = sS σ 39 12 x → G ε κ k n (pc + 3) lv st (WX ε σ1)) : G ε κ k n pc lv (.int x :: .ref (ad ε 39) :: st) (WX ε σ) := gp_X9_118 C _ (by decide) wx_X9 (by simp) rfl hd (fun h1 e1 => by have e2 := e1.trans (up_s (j := 12) (v := x) rfl); rw [e2]; exact kk _ rfl)
theorem q_X9_121 (C : Cx ε κ cc nL RX9 d) (hd : decode cc pc = .ok (.getfield 121, 3)) (kk : G ε κ k n (pc + 3) lv (.int (σ.1 39 13) :: st) (WX ε σ)) : G ε κ k n pc lv (.ref (ad ε 39) :: st) (WX ε σ) := gf_X9_121 C (by decide) wx_X9 rfl hd kk
theorem p_X9_121 (C : Cx ε κ cc nL RX9 d) {x : Int32} (hd : decode cc pc = .ok (.putfield 121, 3)) (kk : ∀ σ1 : St, σ1 = sS σ 39 13 x → G ε κ k n (pc + 3) lv st (WX ε σ1)) : G ε κ k n pc lv (.int x :: .ref (ad ε 39) :: st) (WX ε σ) := gp_X9_121 C _ (by decide) wx_X9 (by simp) rfl hd (fun h1 e1 => by have e2 := e1.trans (up_s (j := 13) (v := x) rfl); rw [e2]; exact kk _ rfl)
theorem q_X9_131 (C : Cx ε κ cc nL RX9 d) (hd : decode cc pc = .ok (.getfield 131, 3)) (kk : G ε κ k n (pc + 3) lv (.int (σ.1 39 15) :: st) (WX ε σ)) : G ε κ k n pc lv (.ref (ad ε 39) :: st) (WX ε σ) := gf_X9_131 C (by decide) wx_X9 rfl hd kk
theorem p_X9_131 (C : Cx ε κ cc nL RX9 d) {x : Int32} (hd : decode cc pc = .ok (.putfield 131, 3)) (kk : ∀ σ1 : St, σ1 = sS σ 39 15 x → G ε κ k n (pc + 3) lv st (WX ε σ1)) : G ε κ k n pc lv (.int x :: .ref (ad ε 39) :: st) (WX ε σ) := gp_X9_131 C _ (by decide) wx_X9 (by simp) rfl hd (fun h1 e1 => by have e2 := e1.trans (up_s (j := 15) (v := x) rfl); rw [e2]; exact kk _ rfl)
theorem q_X9_134 (C : Cx ε κ cc nL RX9 d) (hd : decode cc pc = .ok (.getfield 134, 3)) (kk : G ε κ k n (pc + 3) lv (.int (σ.1 39 16) :: st) (WX ε σ)) : G ε κ k n pc lv (.ref (ad ε 39) :: st) (WX ε σ) := gf_X9_134 C (by decide) wx_X9 rfl hd kk
theorem p_X9_134 (C : Cx ε κ cc nL RX9 d) {x : Int32} (hd : decode cc pc = .ok (.putfield 134, 3)) (kk : ∀ σ1 : St, σ1 = sS σ 39 16 x → G ε κ k n (pc + 3) lv st (WX ε σ1)) : G ε κ k n pc lv (.int x :: .ref (ad ε 39) :: st) (WX ε σ) := gp_X9_134 C _ (by decide) wx_X9 (by simp) rfl hd (fun h1 e1 => by have e2 := e1.trans (up_s (j := 16) (v := x) rfl); rw [e2]; exact kk _ rfl)
theorem q_X9_137 (C : Cx ε κ cc nL RX9 d) (hd : decode cc pc = .ok (.getfield 137, 3)) (kk : G ε κ k n (pc + 3) lv (.int (σ.1 39 17) :: st) (WX ε σ)) : G ε κ k n pc lv (.ref (ad ε 39) :: st) (WX ε σ) := gf_X9_137 C (by decide) wx_X9 rfl hd kk
theorem p_X9_137 (C : Cx ε κ cc nL RX9 d) {x : Int32} (hd : decode cc pc = .ok (.putfield 137, 3)) (kk : ∀ σ1 : St, σ1 = sS σ 39 17 x → G ε κ k n (pc + 3) lv st (WX ε σ1)) : G ε κ k n pc lv (.int x :: .ref (ad ε 39) :: st) (WX ε σ) := gp_X9_137 C _ (by decide) wx_X9 (by simp) rfl hd (fun h1 e1 => by have e2 := e1.trans (up_s (j := 17) (v := x) rfl); rw [e2]; exact kk _ rfl)
theorem q_X9_143 (C : Cx ε κ cc nL RX9 d) (hd : decode cc pc = .ok (.getfield 143, 3)) (kk : G ε κ k n (pc + 3) lv (.int (σ.1 39 33) :: st) (WX ε σ)) : G ε κ k n pc lv (.ref (ad ε 39) :: st) (WX ε σ) := gf_X9_143 C (by decide) wx_X9 rfl hd kk
theorem p_X9_143 (C : Cx ε κ cc nL RX9 d) {x : Int32} (hd : decode cc pc = .ok (.putfield 143, 3)) (kk : ∀ σ1 : St, σ1 = sS σ 39 33 x → G ε κ k n (pc + 3) lv st (WX ε σ1)) : G ε κ k n pc lv (.int x :: .ref (ad ε 39) :: st) (WX ε σ) := gp_X9_143 C _ (by decide) wx_X9 (by simp) rfl hd (fun h1 e1 => by have e2 := e1.trans (up_s (j := 33) (v := x) rfl); rw [e2]; exact kk _ rfl)
theorem q_X9_146 (C : Cx ε κ cc nL RX9 d) (hd : decode cc pc = .ok (.getfield 146, 3)) (kk : G ε κ k n (pc + 3) lv (.int (σ.1 39 21) :: st) (WX ε σ)) : G ε κ k n pc lv (.ref (ad ε 39) :: st) (WX ε σ) := gf_X9_146 C (by decide) wx_X9 rfl hd kk
theorem p_X9_146 (C : Cx ε κ cc nL RX9 d) {x : Int32} (hd : decode cc pc = .ok (.putfield 146, 3)) (kk : ∀ σ1 : St, σ1 = sS σ 39 21 x → G ε κ k n (pc + 3) lv st (WX ε σ1)) : G ε κ k n pc lv (.int x :: .ref (ad ε 39) :: st) (WX ε σ) := gp_X9_146 C _ (by decide) wx_X9 (by simp) rfl hd (fun h1 e1 => by have e2 := e1.trans (up_s (j := 21) (v := x) rfl); rw [e2]; exact kk _ rfl)
theorem q_X9_169 (C : Cx ε κ cc nL RX9 d) (hd : decode cc pc = .ok (.getfield 169, 3)) (kk : G ε κ k n (pc + 3) lv (.int (σ.1 39 20) :: st) (WX ε σ)) : G ε κ k n pc lv (.ref (ad ε 39) :: st) (WX ε σ) := gf_X9_169 C (by decide) wx_X9 rfl hd kk
theorem p_X9_169 (C : Cx ε κ cc nL RX9 d) {x : Int32} (hd : decode cc pc = .ok (.putfield 169, 3)) (kk : ∀ σ1 : St, σ1 = sS σ 39 20 x → G ε κ k n (pc + 3) lv st (WX ε σ1)) : G ε κ k n pc lv (.int x :: .ref (ad ε 39) :: st) (WX ε σ) := gp_X9_169 C _ (by decide) wx_X9 (by simp) rfl hd (fun h1 e1 => by have e2 := e1.trans (up_s (j := 20) (v := x) rfl); rw [e2]; exact kk _ rfl)
theorem q_X9_202 (C : Cx ε κ cc nL RX9 d) (hd : decode cc pc = .ok (.getfield 202, 3)) (kk : G ε κ k n (pc + 3) lv (.int (σ.1 39 30) :: st) (WX ε σ)) : G ε κ k n pc lv (.ref (ad ε 39) :: st) (WX ε σ) := gf_X9_202 C (by decide) wx_X9 rfl hd kk
theorem p_X9_202 (C : Cx ε κ cc nL RX9 d) {x : Int32} (hd : decode cc pc = .ok (.putfield 202, 3)) (kk : ∀ σ1 : St, σ1 = sS σ 39 30 x → G ε κ k n (pc + 3) lv st (WX ε σ1)) : G ε κ k n pc lv (.int x :: .ref (ad ε 39) :: st) (WX ε σ) := gp_X9_202 C _ (by decide) wx_X9 (by simp) rfl hd (fun h1 e1 => by have e2 := e1.trans (up_s (j := 30) (v := x) rfl); rw [e2]; exact kk _ rfl)
theorem q_X9_212 (C : Cx ε κ cc nL RX9 d) (hd : decode cc pc = .ok (.getfield 212, 3)) (kk : G ε κ k n (pc + 3) lv (.int (σ.1 39 29) :: st) (WX ε σ)) : G ε κ k n pc lv (.ref (ad ε 39) :: st) (WX ε σ) := gf_X9_212 C (by decide) wx_X9 rfl hd kk
theorem p_X9_212 (C : Cx ε κ cc nL RX9 d) {x : Int32} (hd : decode cc pc = .ok (.putfield 212, 3)) (kk : ∀ σ1 : St, σ1 = sS σ 39 29 x → G ε κ k n (pc + 3) lv st (WX ε σ1)) : G ε κ k n pc lv (.int x :: .ref (ad ε 39) :: st) (WX ε σ) := gp_X9_212 C _ (by decide) wx_X9 (by simp) rfl hd (fun h1 e1 => by have e2 := e1.trans (up_s (j := 29) (v := x) rfl); rw [e2]; exact kk _ rfl)
end WORLD
