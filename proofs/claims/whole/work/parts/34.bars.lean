/-! loops that write -/
theorem xfor_M {sg : xS → Option xX} {st : Nat → xM → xS} {I : Nat → xM → Prop} {n : Nat} (h : ∀ i M, i < n → I i M → ∃ M', xfix sg (st i M) = xfix sg (st (i + 1) M') ∧ I (i + 1) M') : ∀ {a : Nat} {M : xM}, a ≤ n → I a M → ∃ M', xfix sg (st a M) = xfix sg (st n M') ∧ I n M' := by
  intro a M ha hI
  obtain ⟨d, e⟩ : ∃ d, n = a + d := ⟨n - a, by omega⟩
  induction d generalizing a M with
  | zero => rw [Nat.add_zero] at e; subst e; exact ⟨M, rfl, hI⟩
  | succ d ih =>
    obtain ⟨M', h1, h2⟩ := h a M (by omega) hI
    obtain ⟨M'', h3, h4⟩ := ih (by omega) h2 (by omega)
    exact ⟨M'', h1.trans h3, h4⟩
/-- a set as a number -/
noncomputable def msk (p : Nat → Prop) : Nat → Nat
  | 0 => 0
  | n + 1 => msk p n ||| @ite _ (p n) (Classical.propDecidable _) (2 ^ n) 0
theorem msk_bit (p : Nat → Prop) : ∀ (n i : Nat), (msk p n).testBit i = true ↔ i < n ∧ p i
  | 0, i => by simp [msk]
  | n + 1, i => by
    unfold msk
    rw [Nat.testBit_or, Bool.or_eq_true, msk_bit p n i]
    by_cases h : p n
    · rw [if_pos h, Nat.testBit_two_pow, decide_eq_true_iff]
      constructor
      · rintro (⟨a, b⟩ | a)
        · exact ⟨by omega, b⟩
        · subst a; exact ⟨by omega, h⟩
      · rintro ⟨a, b⟩
        by_cases e : n = i
        · exact .inr e
        · exact .inl ⟨by omega, b⟩
    · rw [if_neg h, Nat.zero_testBit]
      constructor
      · rintro (⟨a, b⟩ | a)
        · exact ⟨by omega, b⟩
        · cases a
      · rintro ⟨a, b⟩
        by_cases e : n = i
        · subst e; exact absurd b h
        · exact .inl ⟨by omega, b⟩
theorem msk_lt (p : Nat → Prop) (n : Nat) : msk p n < 2 ^ n := by
  refine Nat.lt_pow_two_of_testBit _ fun i hi => ?_
  cases h : (msk p n).testBit i with
  | false => rfl
  | true => have := ((msk_bit p n i).mp h).1; omega
theorem msk_ext {a n : Nat} {p : Nat → Prop} (ha : a < 2 ^ n) (h : ∀ i, i < n → (a.testBit i = true ↔ p i)) : a = msk p n := by
  refine Nat.eq_of_testBit_eq fun i => ?_
  by_cases hi : i < n
  · have h1 := h i hi
    have h2 := msk_bit p n i
    cases x : a.testBit i <;> cases y : (msk p n).testBit i <;> simp_all
  · have h1 : a.testBit i = false := Nat.testBit_lt_two_pow (Nat.lt_of_lt_of_le ha (Nat.pow_le_pow_right (by decide) (by omega)))
    have h2 : (msk p n).testBit i = false := Nat.testBit_lt_two_pow (Nat.lt_of_lt_of_le (msk_lt p n) (Nat.pow_le_pow_right (by decide) (by omega)))
    rw [h1, h2]
/-- what the reference holds depends on these rows alone -/
def mRow (r : xR) : Prop := r.1 = 132 ∨ r.1 = 133 ∨ r.1 = 134 ∨ r.1 = 135 ∨ r.1 = 136 ∨ r.1 = 137 ∨ r.1 = 138 ∨ r.1 = 139 ∨ r.1 = 140 ∨ r.1 = 141
theorem mA.same {M M' : xM} {A : dA} {P : xR → Prop} (h : mA M A) (hs : xSame P M M') (h0 : ¬ P (12, 0)) (h1 : ¬ P (100, 0)) (h4 : ¬ P (104, 0)) (h5 : ¬ P (105, 0)) (h6 : ¬ P (106, 0)) (h7 : ¬ P (107, 0)) (h8 : ¬ P (108, 0)) (h9 : ¬ P (109, 0)) (h10 : ¬ P (159, 0)) : mA M' A := by
  obtain ⟨a, b, c, d, e, f, g, i⟩ := h
  refine ⟨a, ?_, ?_, ?_, ?_, ?_, ?_, ?_⟩
  · rw [(hs _ h0).1]; exact b
  · rw [(hs _ h0).1]; exact c
  · intro k hk; rw [(hs _ h1).1]; exact d k hk
  · intro k hk; rw [(hs _ h4).1, (hs _ h5).1, (hs _ h6).1, (hs _ h7).1]; exact e k hk
  · intro k hk; rw [(hs _ h8).1]; exact f k hk
  · intro k hk; rw [(hs _ h9).1]; exact g k hk
  · intro k hk; rw [(hs _ h10).1]; exact i k hk
