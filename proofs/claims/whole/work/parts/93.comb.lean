/-! the class: halves' barring parts out of parts' -/
/-- six times the same nine bits -/
def six (S : Nat) : Nat → Int64
  | 0 => 0
  | n + 1 => (six S n <<< ((iZ 9).toInt64 &&& 63)) ||| lZ (S : Int)
theorem six_b {S : Nat} (hS : S < 512) : ∀ n w q, w < n → n ≤ 6 → q < 9 → lB (six S n) (9 * w + q) = S.testBit q
  | 0, w, q, h, _, _ => by omega
  | n + 1, w, q, h, hn, hq => by
    unfold six
    rw [lB_or, lB_N _ (by omega)]
    have e := lB_shl (v := six S n) (p := 9) (by omega) (9 * w + q)
    rw [show lB (six S n <<< ((iZ 9).toInt64 &&& 63)) (9 * w + q) = _ from e]
    by_cases w0 : w = 0
    · subst w0
      have : ¬ 9 ≤ 9 * 0 + q := by omega
      rw [decide_eq_false this, Bool.and_false, Bool.false_and, Bool.false_or, show 9 * 0 + q = q by omega]
    · have h9 : 9 ≤ 9 * w + q := by omega
      have h64 : 9 * w + q < 64 := by omega
      have hz : S.testBit (9 * w + q) = false := Nat.testBit_lt_two_pow (Nat.lt_of_lt_of_le (show S < 2 ^ 9 from hS) (Nat.pow_le_pow_right (n := 2) (by omega) (by omega)))
      rw [decide_eq_true h64, decide_eq_true h9, hz, Bool.or_false, Bool.true_and, Bool.true_and, show 9 * w + q - 9 = 9 * (w - 1) + q by omega]
      exact six_b hS n (w - 1) q (by omega) (by omega) hq
/-- a half is its least part and the others -/
def lowOk (h : Nat) : Bool := (List.range 9).any fun p => (h ^^^ (h &&& (h - 1)) == 2 ^ p) && (List.range 9).all fun i => h.testBit i == ((h &&& (h - 1)).testBit i || i == p)
theorem low_all : (List.range 512).all (fun h => h == 0 || (lowOk h && decide (h &&& (h - 1) < h))) = true := by decide +kernel
theorem low_is {h : Nat} (h1 : 1 ≤ h) (h2 : h < 512) : (h &&& (h - 1) < h) ∧ ∃ p, p < 9 ∧ h ^^^ (h &&& (h - 1)) = 2 ^ p ∧ ∀ i, i < 9 → (h.testBit i = true ↔ (h &&& (h - 1)).testBit i = true ∨ i = p) := by
  have := List.all_eq_true.mp low_all h (List.mem_range.mpr h2)
  have e0 : (h == 0) = false := beq_eq_false_iff_ne.mpr (by omega)
  rw [e0, Bool.false_or, Bool.and_eq_true, decide_eq_true_eq] at this
  refine ⟨this.2, ?_⟩
  obtain ⟨p, p1, p2⟩ := List.any_eq_true.mp this.1
  rw [Bool.and_eq_true, beq_iff_eq] at p2
  refine ⟨p, List.mem_range.mp p1, p2.1, fun i hi => ?_⟩
  have h3 := List.all_eq_true.mp p2.2 i (List.mem_range.mpr hi)
  rw [beq_iff_eq] at h3
  rw [h3, Bool.or_eq_true, beq_iff_eq]
