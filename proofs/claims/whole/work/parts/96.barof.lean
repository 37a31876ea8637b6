/-! the class: who bars a part -/
/-- the swept body of p meets that of q -/
def hitB (M : xM) (k p w q : Nat) : Prop := q ≠ p ∧ ∃ c, c < 512 ∧ (∃ n, 1 ≤ n ∧ n < 8 ∧ itB (sB M (11 * k + 21 + p)) w n c = true) ∧ sB M (11 * k + 21 + q) c = true
noncomputable def bRow (H : Nat → Nat → Prop) (v : Int64) (w : Nat) : Nat → Int64
  | 0 => v
  | q + 1 => @ite _ (H w q) (Classical.propDecidable _) (bRow H v w q ||| ((1 : Int64) <<< ((iZ ((9 * w + q : Nat) : Int)).toInt64 &&& 63))) (bRow H v w q)
noncomputable def bAll (H : Nat → Nat → Prop) (P : Nat) : Nat → Int64
  | 0 => 0
  | w + 1 => bRow H (bAll H P w) w P
theorem bRow_b (H : Nat → Nat → Prop) (v : Int64) {w : Nat} (hw : w < 6) : ∀ n i, n ≤ 9 → i < 64 → (lB (bRow H v w n) i = true ↔ lB v i = true ∨ ∃ q, q < n ∧ H w q ∧ i = 9 * w + q)
  | 0, i, _, _ => by unfold bRow; exact ⟨.inl, fun z => z.elim id fun ⟨q, h, _⟩ => by omega⟩
  | n + 1, i, hn, hi => by
    unfold bRow
    have ih := bRow_b H v hw n i (by omega) hi
    by_cases y : H w n
    · rw [if_pos y, lB_or, Bool.or_eq_true, ih, lB_shl (by omega)]
      have e : ((decide (i < 64) && decide (9 * w + n ≤ i) && lB 1 (i - (9 * w + n))) = true) ↔ i = 9 * w + n := by
        by_cases q : 9 * w + n ≤ i
        · rw [lB_1 _ (by omega), decide_eq_true hi, decide_eq_true q, Bool.true_and, Bool.true_and, decide_eq_true_eq]
          omega
        · rw [decide_eq_false q, Bool.and_false, Bool.false_and]
          exact ⟨fun z => Bool.noConfusion z, fun z => by omega⟩
      rw [e]
      constructor
      · rintro ((z | ⟨q, q1, q2, q3⟩) | z)
        · exact .inl z
        · exact .inr ⟨q, by omega, q2, q3⟩
        · exact .inr ⟨n, by omega, y, z⟩
      · rintro (z | ⟨q, q1, q2, q3⟩)
        · exact .inl (.inl z)
        · by_cases e2 : q = n
          · exact .inr (e2 ▸ q3)
          · exact .inl (.inr ⟨q, by omega, q2, q3⟩)
    · rw [if_neg y, ih]
      constructor
      · exact fun z => z.imp id fun ⟨q, q1, q2⟩ => ⟨q, by omega, q2⟩
      · refine fun z => z.imp id fun ⟨q, q1, q2, q3⟩ => ⟨q, ?_, q2, q3⟩
        by_cases e2 : q = n
        · exact absurd (e2 ▸ q2) y
        · omega
theorem bAll_b (H : Nat → Nat → Prop) {P : Nat} (hP : P ≤ 9) : ∀ n i, n ≤ 6 → i < 64 → (lB (bAll H P n) i = true ↔ ∃ w, w < n ∧ ∃ q, q < P ∧ H w q ∧ i = 9 * w + q)
  | 0, i, _, _ => by unfold bAll; rw [lB_0]; exact ⟨fun z => Bool.noConfusion z, fun ⟨w, h, _⟩ => by omega⟩
  | n + 1, i, hn, hi => by
    unfold bAll
    rw [bRow_b H _ (by omega) P i hP hi, bAll_b H hP n i (by omega) hi]
    constructor
    · rintro (⟨w, w1, w2⟩ | z)
      · exact ⟨w, by omega, w2⟩
      · exact ⟨n, by omega, z⟩
    · rintro ⟨w, w1, w2⟩
      by_cases e : w = n
      · exact .inr (e ▸ w2)
      · exact .inl ⟨w, by omega, w2⟩
