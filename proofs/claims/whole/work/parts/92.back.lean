/-! ways and their way back -/
def opW (w : Nat) : Nat := if w % 2 = 0 then w + 1 else w - 1
theorem opW_d : ∀ w, w < 6 → (dX (opW w) = -dX w ∧ dY (opW w) = -dY w ∧ dZ (opW w) = -dZ w) ∧ opW w < 6 ∧ opW (opW w) = w := by decide +kernel
theorem ray_back {A : dA} {c w k q : Nat} (hc : c < 512) (hw : w < 6) (h : ray A c w k = (q : Int)) : ∃ c', c' < 512 ∧ aC A c' = q ∧ ray A c' (opW w) k = aC A c := by
  obtain ⟨⟨d1, d2, d3⟩, _⟩ := opW_d w hw
  unfold ray aat at h
  by_cases i : (0 ≤ rX c w k ∧ rX c w k ≤ 7) ∧ (0 ≤ rY c w k ∧ rY c w k ≤ 7) ∧ (0 ≤ rZ c w k ∧ rZ c w k ≤ 7)
  · rw [if_pos i] at h
    refine ⟨(64 * rZ c w k + 8 * rY c w k + rX c w k).toNat, by omega, h, ?_⟩
    have e1 : rX (64 * rZ c w k + 8 * rY c w k + rX c w k).toNat (opW w) k = ((c % 8 : Nat) : Int) := by
      have e : (((64 * rZ c w k + 8 * rY c w k + rX c w k).toNat % 8 : Nat) : Int) = rX c w k := by omega
      show (((64 * rZ c w k + 8 * rY c w k + rX c w k).toNat % 8 : Nat) : Int) + k * dX (opW w) = _
      rw [e, d1, Int.mul_neg]
      unfold rX
      omega
    have e2 : rY (64 * rZ c w k + 8 * rY c w k + rX c w k).toNat (opW w) k = ((c / 8 % 8 : Nat) : Int) := by
      have e : (((64 * rZ c w k + 8 * rY c w k + rX c w k).toNat / 8 % 8 : Nat) : Int) = rY c w k := by omega
      show (((64 * rZ c w k + 8 * rY c w k + rX c w k).toNat / 8 % 8 : Nat) : Int) + k * dY (opW w) = _
      rw [e, d2, Int.mul_neg]
      unfold rY
      omega
    have e3 : rZ (64 * rZ c w k + 8 * rY c w k + rX c w k).toNat (opW w) k = ((c / 64 : Nat) : Int) := by
      have e : (((64 * rZ c w k + 8 * rY c w k + rX c w k).toNat / 64 : Nat) : Int) = rZ c w k := by omega
      show (((64 * rZ c w k + 8 * rY c w k + rX c w k).toNat / 64 : Nat) : Int) + k * dZ (opW w) = _
      rw [e, d3, Int.mul_neg]
      unfold rZ
      omega
    unfold ray aat
    rw [e1, e2, e3, if_pos (by omega)]
    congr 1
    omega
  · rw [if_neg i] at h
    omega
theorem brs_back {A : dA} {p w q : Nat} (hw : w < 6) (h : brs A p w q) : brs A q (opW w) p := by
  obtain ⟨c, hc, k, k1, k2, h1, h2, h3, h4, h5⟩ := h
  obtain ⟨c', g1, g2, g3⟩ := ray_back hc hw h3
  exact ⟨c', g1, k, k1, k2, g2, h5, by rw [g3]; exact h1, fun e => h4 e.symm, h2⟩
theorem barS_bit {A : dA} {p w q : Nat} (hw : w < 6) : (barS A (6 * p + w)).testBit q = true ↔ q < 9 ∧ brs A p w q := by
  unfold barS
  rw [msk_bit, show (6 * p + w) / 6 = p by omega, show (6 * p + w) % 6 = w by omega]
/-- barring goes both ways -/
def symB (B : Nat → Nat) : Prop := ∀ p q w, p < 9 → q < 9 → w < 6 → (B (6 * p + w)).testBit q = true → (B (6 * q + opW w)).testBit p = true
theorem barS_sym (A : dA) : symB (barS A) := fun p q w hp _ hw h => (barS_bit (opW_d w hw).2.1).mpr ⟨hp, brs_back hw ((barS_bit hw).mp h).2⟩
theorem lv_iff {P heap half w : Nat} {B : Nat → Nat} : lv P B heap half w ↔ ∀ p, p < P → half.testBit p = true → ∀ q, heap.testBit q = true → half.testBit q = false → ¬ (B (6 * p + w)).testBit q = true := by
  unfold lv
  constructor
  · intro h p hp hpb q hq hqn hB
    have := h p hp hpb
    rw [ndn_z] at this
    have := this q (by rw [Nat.testBit_and, hB, hq]; rfl)
    rw [this] at hqn
    cases hqn
  · intro h p hp hpb
    rw [ndn_z]
    intro q hq
    rw [Nat.testBit_and, Bool.and_eq_true] at hq
    refine Classical.byContradiction fun z => h p hp hpb q hq.2 (by simpa using z) hq.1
theorem bit_lt {a i n : Nat} (h : a < 2 ^ n) (hb : a.testBit i = true) : i < n := by
  refine Classical.byContradiction fun z => ?_
  have := Nat.testBit_lt_two_pow (Nat.lt_of_lt_of_le h (Nat.pow_le_pow_right (n := 2) (by omega) (by omega : n ≤ i)))
  rw [this] at hb
  cases hb
theorem lv_back {P heap half w : Nat} {B : Nat → Nat} (hP : P ≤ 9) (hB : symB B) (hh : heap < 2 ^ P) (hw : w < 6) (h : lv P B heap half w) (hs : ndn half heap = 0) : lv P B heap (ndn heap half) (opW w) := by
  rw [lv_iff] at h ⊢
  rw [ndn_z] at hs
  intro p hp hpb q hq hqn hBB
  rw [ndn_bit, Bool.and_eq_true] at hpb
  rw [ndn_bit, hq, Bool.true_and] at hqn
  have hq1 : half.testBit q = true := by simpa using hqn
  have hqP := bit_lt hh hq
  have hp2 : half.testBit p = false := by simpa using hpb.2
  have := hB p q (opW w) (by omega) (by omega) (opW_d w hw).2.1 hBB
  rw [(opW_d w hw).2.2] at this
  exact h q hqP hq1 p hpb.1 hp2 this
theorem gwS_prt {A : dA} {heap half : Nat} {B : Nat → Nat} (hP : aP A ≤ 9) (hB : symB B) (hh : heap < 2 ^ aP A) (hs : ndn half heap = 0) : gwS A B heap half ≠ 0 ↔ prt A B heap half := by
  have e : gwS A B heap half ≠ 0 ↔ ∃ w, w < 6 ∧ gdw A B heap half w := by
    constructor
    · intro h
      refine Classical.byContradiction fun n => h (Nat.eq_of_testBit_eq fun w => ?_)
      rw [Nat.zero_testBit]
      by_cases y : (gwS A B heap half).testBit w = true
      · exact absurd ⟨w, (msk_bit _ 6 w).mp y⟩ n
      · simpa using y
    · rintro ⟨w, w1, w2⟩ z
      have := (msk_bit (fun w => gdw A B heap half w) 6 w).mpr ⟨w1, w2⟩
      unfold gwS at z
      rw [z, Nat.zero_testBit] at this
      cases this
  rw [e]
  have hnn : ndn heap (ndn heap half) = half := ndn_nn (ndn_and.mp hs)
  have hs2 : ndn (ndn heap half) heap = 0 := ndn_and.mpr (ndn_ss heap half)
  unfold prt gdw
  constructor
  · rintro ⟨w, w1, w2, w3⟩
    exact ⟨.inl ⟨w, w1, w2⟩, w3⟩
  · rintro ⟨⟨w, w1, w2⟩ | ⟨w, w1, w2⟩, w3⟩
    · exact ⟨w, w1, w2, w3⟩
    · have := lv_back hP hB hh w1 w2 hs2
      rw [hnn] at this
      exact ⟨opW w, (opW_d w w1).2.1, this, w3⟩
