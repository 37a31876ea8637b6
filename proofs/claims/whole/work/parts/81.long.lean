/-! the class: bits of long numbers -/
def lB (v : Int64) (i : Nat) : Bool := v.toBitVec.getLsbD i
theorem lB_or (a b : Int64) (i : Nat) : lB (a ||| b) i = (lB a i || lB b i) := by unfold lB; rw [Int64.toBitVec_or, BitVec.getLsbD_or]
theorem lB_and (a b : Int64) (i : Nat) : lB (a &&& b) i = (lB a i && lB b i) := by unfold lB; rw [Int64.toBitVec_and, BitVec.getLsbD_and]
theorem lB_not (a : Int64) {i : Nat} (hi : i < 64) : lB (a ^^^ (-1)) i = !lB a i := by
  unfold lB
  have e : (-1 : Int64).toBitVec = BitVec.allOnes 64 := by decide +kernel
  rw [Int64.toBitVec_xor, BitVec.getLsbD_xor, e, BitVec.getLsbD_allOnes]
  simp [hi]
theorem lB_hi {a : Int64} {i : Nat} (hi : 64 ≤ i) : lB a i = false := BitVec.getLsbD_of_ge _ _ hi
theorem lB_ext {a b : Int64} (h : ∀ i, i < 64 → lB a i = lB b i) : a = b := Int64.toBitVec_inj.mp (BitVec.eq_of_getLsbD_eq fun i hi => h i hi)
theorem lB_0 (i : Nat) : lB 0 i = false := by unfold lB; exact BitVec.getLsbD_zero
theorem lB_z {a : Int64} : a = 0 ↔ ∀ i, i < 64 → lB a i = false := ⟨fun e i _ => by rw [e]; exact lB_0 i, fun h => lB_ext fun i hi => by rw [h i hi, lB_0]⟩
theorem sh_amt : ∀ p : Nat, p < 64 → ((iZ (p : Int)).toInt64 &&& 63).toBitVec.smod 64 = BitVec.ofNat 64 p := by decide +kernel
theorem sh_amu : ∀ p : Nat, p < 64 → ((iZ (p : Int)).toInt64.toUInt64 &&& Int64.toUInt64 63).toBitVec % 64 = BitVec.ofNat 64 p := by decide +kernel
theorem lB_shl {v : Int64} {p : Nat} (hp : p < 64) (i : Nat) : lB (v <<< ((iZ (p : Int)).toInt64 &&& 63)) i = (decide (i < 64) && decide (p ≤ i) && lB v (i - p)) := by
  unfold lB
  rw [Int64.toBitVec_shiftLeft, sh_amt p hp, BitVec.shiftLeft_eq', BitVec.toNat_ofNat, Nat.mod_eq_of_lt (by omega), BitVec.getLsbD_shiftLeft]
  congr 1
  by_cases h : p ≤ i
  · simp [h]
  · simp [h]; omega
theorem lB_shr {v : Int64} {p : Nat} (hp : p < 64) (i : Nat) : lB ((Int64.toUInt64 v >>> ((iZ (p : Int)).toInt64.toUInt64 &&& Int64.toUInt64 63)).toInt64) i = lB v (p + i) := by
  unfold lB
  rw [UInt64.toBitVec_toInt64, UInt64.toBitVec_shiftRight, sh_amu p hp, BitVec.ushiftRight_eq', BitVec.toNat_ofNat, Nat.mod_eq_of_lt (by omega), BitVec.getLsbD_ushiftRight, Int64.toBitVec_toUInt64]
theorem lB_1 : ∀ i, i < 64 → lB 1 i = decide (i = 0) := by decide +kernel
theorem lB_col : ∀ i, i < 64 → lB 72340172838076673 i = decide (i % 8 = 0) := by decide +kernel
theorem lB_row : ∀ i, i < 64 → lB 255 i = decide (i < 8) := by decide +kernel
theorem lB_nl : ∀ i, i < 64 → lB 9187201950435737471 i = decide (i % 8 ≠ 7) := by decide +kernel
theorem lB_nf : ∀ i, i < 64 → lB (-72340172838076674) i = decide (i % 8 ≠ 0) := by decide +kernel
/-- a bit asked for -/
theorem lB_ask {v : Int64} {p : Nat} (hp : p < 64) : lg_cmp (((Int64.toUInt64 v >>> ((iZ (p : Int)).toInt64.toUInt64 &&& Int64.toUInt64 63)).toInt64) &&& 1) 0 = iZ 0 ↔ lB v p = false := by
  rw [show iZ 0 = 0 from rfl, lg_cmp_eq, lB_z]
  constructor
  · intro h
    have := h 0 (by omega)
    rw [lB_and, lB_shr hp, lB_1 0 (by omega)] at this
    simpa using this
  · intro h i hi
    rw [lB_and, lB_shr hp, lB_1 i hi]
    by_cases e : i = 0
    · subst e; simp [h]
    · simp [e]
