section OS
variable {σ σ' : St}
/-- the octet k of a number -/
def oct (x : Int64) (k : Nat) : Int32 := ((x.toUInt64 >>> (((8 : Int32) * nI k).toInt64.toUInt64 &&& Int64.toUInt64 63)).toInt64.toInt32 &&& (255 : Int32))
theorem and255 (y : Int32) : 0 ≤ y &&& 255 := by
  rw [Int32.le_iff_toInt_le]
  have h : (y &&& 255).toBitVec.msb = false := by
    rw [Int32.toBitVec_and, BitVec.msb_and]
    have : (Int32.toBitVec 255).msb = false := by decide
    rw [this, Bool.and_false]
  have h2 : (y &&& 255).toInt = ((y &&& 255).toBitVec.toNat : Int) := BitVec.toInt_eq_toNat_of_msb h
  rw [h2]
  exact Int.natCast_nonneg _
theorem oct_0 {x : Int64} {k : Nat} : 0 ≤ oct x k := and255 _
theorem bv_oct (x : BitVec 64) (s : Nat) (hs : s ≤ 56) : ((x >>> s).setWidth 32 &&& 255#32) = ((x.sshiftRight s &&& 255#64).setWidth 32) := by
  apply BitVec.eq_of_getLsbD_eq
  intro i hi
  have h255 : ∀ j, (255#32).getLsbD j = decide (j < 8) := by
    intro j
    have : 255#32 = BitVec.setWidth 32 (BitVec.allOnes 8) := by decide
    rw [this, BitVec.getLsbD_setWidth, BitVec.getLsbD_allOnes]
    by_cases h : j < 8
    · simp [h]; omega
    · simp [h]
  have h255' : ∀ j, (255#64).getLsbD j = decide (j < 8) := by
    intro j
    have : 255#64 = BitVec.setWidth 64 (BitVec.allOnes 8) := by decide
    rw [this, BitVec.getLsbD_setWidth, BitVec.getLsbD_allOnes]
    by_cases h : j < 8
    · simp [h]; omega
    · simp [h]
  rw [BitVec.getLsbD_and, BitVec.getLsbD_setWidth, BitVec.getLsbD_setWidth, BitVec.getLsbD_and, h255, h255', BitVec.getLsbD_ushiftRight, BitVec.getLsbD_sshiftRight]
  by_cases h8 : i < 8
  · have e1 : s + i < 64 := by omega
    have e2 : ¬ 64 ≤ i := by omega
    simp [h8, e1, e2, hi]
  · simp [h8]
theorem oct_m {x : Int64} : ∀ k, k < 8 → ((x >>> (((8 : Int32) * nI k).toInt64 &&& 63)) &&& (255 : Int64)).toInt32 = oct x k := by
  intro k hk
  have h1 : ((8 : Int32) * nI k) = nI (8 * k) := pk_mul 8 k
  unfold oct
  rw [h1]
  have key : ∀ s : Nat, s ≤ 56 → (nI s).toInt64 &&& 63 = Int64.ofNat s → ((nI s).toInt64.toUInt64 &&& Int64.toUInt64 63) = UInt64.ofNat s → ((x >>> ((nI s).toInt64 &&& 63)) &&& (255 : Int64)).toInt32 = ((x.toUInt64 >>> ((nI s).toInt64.toUInt64 &&& Int64.toUInt64 63)).toInt64.toInt32 &&& (255 : Int32)) := by
    intro s hs e1 e2
    rw [e1, e2]
    apply Int32.toBitVec_inj.mp
    have hb := bv_oct x.toBitVec s hs
    rw [Int32.toBitVec_and]
    show BitVec.signExtend 32 ((x >>> Int64.ofNat s) &&& 255).toBitVec = BitVec.signExtend 32 (x.toUInt64 >>> UInt64.ofNat s).toBitVec &&& 255#32
    rw [BitVec.signExtend_eq_setWidth_of_le _ (by decide), BitVec.signExtend_eq_setWidth_of_le _ (by decide)]
    rw [Int64.toBitVec_and, Int64.toBitVec_shiftRight]
    rw [UInt64.toBitVec_shiftRight]
    have e3 : (BitVec.smod (Int64.ofNat s).toBitVec 64).toNat = s := by
      have : ∀ s : Fin 57, (BitVec.smod (Int64.ofNat s.1).toBitVec 64).toNat = s.1 := by decide
      exact this ⟨s, by omega⟩
    have e4 : ((UInt64.ofNat s).toBitVec % 64).toNat = s := by
      have : ∀ s : Fin 57, ((UInt64.ofNat s.1).toBitVec % 64).toNat = s.1 := by decide
      exact this ⟨s, by omega⟩
    rw [BitVec.ushiftRight_eq', e4, BitVec.sshiftRight', e3]
    exact hb.symm
  have hall : ∀ k : Fin 8, (nI (8 * k.1)).toInt64 &&& 63 = Int64.ofNat (8 * k.1) ∧ ((nI (8 * k.1)).toInt64.toUInt64 &&& Int64.toUInt64 63) = UInt64.ofNat (8 * k.1) := by decide
  obtain ⟨q1, q2⟩ := hall ⟨k, hk⟩
  exact key (8 * k) (by omega) q1 q2
end OS
