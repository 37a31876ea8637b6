/-! tools: loops with states of any kind, the first index, tables -/
theorem xfor_S {σ : Type} {sg : xS → Option xX} {st : Nat → σ → xS} {I : Nat → σ → Prop} {n : Nat} (h : ∀ i x, i < n → I i x → ∃ x', xfix sg (st i x) = xfix sg (st (i + 1) x') ∧ I (i + 1) x') : ∀ {a : Nat} {x : σ}, a ≤ n → I a x → ∃ x', xfix sg (st a x) = xfix sg (st n x') ∧ I n x' := by
  intro a M ha hI
  obtain ⟨d, e⟩ : ∃ d, n = a + d := ⟨n - a, by omega⟩
  induction d generalizing a M with
  | zero => rw [Nat.add_zero] at e; subst e; exact ⟨M, rfl, hI⟩
  | succ d ih =>
    obtain ⟨M', h1, h2⟩ := h a M (by omega) hI
    obtain ⟨M'', h3, h4⟩ := ih (by omega) h2 (by omega)
    exact ⟨M'', h1.trans h3, h4⟩
/-- a pure loop whose state is a function of the index -/
theorem xfor_F {sg : xS → Option xX} (st : Nat → xS) {a n : Nat} (hn : a ≤ n) (h : ∀ i, a ≤ i → i < n → xfix sg (st i) = xfix sg (st (i + 1))) : xfix sg (st a) = xfix sg (st n) := by
  induction n with
  | zero => have : a = 0 := by omega
            rw [this]
  | succ n ih =>
    by_cases e : a = n + 1
    · rw [e]
    · rw [ih (by omega) (fun i h1 h2 => h i h1 (by omega))]
      exact h n (by omega) (by omega)
/-- the first index with a property, n without one -/
noncomputable def lst (p : Nat → Prop) : Nat → Nat
  | 0 => 0
  | n + 1 => if lst p n < n then lst p n else @ite _ (p n) (Classical.propDecidable _) n (n + 1)
theorem lst_le (p : Nat → Prop) : ∀ n, lst p n ≤ n
  | 0 => Nat.le_refl 0
  | n + 1 => by
    unfold lst
    split
    · omega
    · by_cases h : p n
      · rw [if_pos h]; omega
      · rw [if_neg h]; exact Nat.le_refl _
theorem lst_no (p : Nat → Prop) : ∀ n i, i < lst p n → ¬ p i
  | 0, i, h => by unfold lst at h; omega
  | n + 1, i, h => by
    unfold lst at h
    have hl := lst_le p n
    split at h
    · exact lst_no p n i h
    · by_cases e : p n
      · rw [if_pos e] at h; exact lst_no p n i (by omega)
      · rw [if_neg e] at h
        by_cases e2 : i = n
        · rw [e2]; exact e
        · exact lst_no p n i (by omega)
theorem lst_is (p : Nat → Prop) : ∀ n, lst p n < n → p (lst p n)
  | 0, h => by omega
  | n + 1, h => by
    unfold lst at h ⊢
    split at h
    · rename_i hh
      rw [if_pos hh]
      exact lst_is p n hh
    · rename_i hh
      rw [if_neg hh]
      by_cases e : p n
      · rw [if_pos e]; exact e
      · rw [if_neg e] at h; omega
theorem lst_eq {p : Nat → Prop} {n k : Nat} (h1 : k ≤ n) (h2 : ∀ i, i < k → ¬ p i) (h3 : k < n → p k) : lst p n = k := by
  have a := lst_le p n
  by_cases e : lst p n < k
  · exact absurd (lst_is p n (by omega)) (h2 _ e)
  · by_cases e2 : k < lst p n
    · exact absurd (h3 (by omega)) (lst_no p n k e2)
    · omega
theorem lst_cg {p q : Nat → Prop} {n : Nat} (h : ∀ i, i < n → (p i ↔ q i)) : lst p n = lst q n := by
  refine lst_eq (lst_le q n) (fun i hi hp => lst_no q n i hi ((h i (by have := lst_le q n; omega)).mp hp)) (fun hl => (h _ hl).mpr (lst_is q n hl))
/-- a table that is filled from below -/
def tab {α : Type} (d : α) (F : Nat → (Nat → α) → α) : Nat → Nat → α
  | 0 => fun _ => d
  | n + 1 => fun k => if k = n then F n (tab d F n) else tab d F n k
theorem tab_at {α : Type} (d : α) (F : Nat → (Nat → α) → α) : ∀ {n k : Nat}, k < n → tab d F n k = F k (tab d F k)
  | 0, k, h => by omega
  | n + 1, k, h => by
    show (if k = n then F n (tab d F n) else tab d F n k) = F k (tab d F k)
    by_cases e : k = n
    · subst e; exact if_pos rfl
    · rw [if_neg e]; exact tab_at d F (n := n) (k := k) (by omega)
theorem tab_st {α : Type} (d : α) (F : Nat → (Nat → α) → α) {n m k : Nat} (h1 : k < n) (h2 : k < m) : tab d F n k = tab d F m k := by rw [tab_at d F h1, tab_at d F h2]
-- rows of numbers
def rw0 (M : xM) (r : xR) (n : Nat) (f : Nat → Int) : Prop := ∀ k, k < n → xI M r k = iZ (f k)
theorem rw0.same {r : xR} {n : Nat} {f : Nat → Int} {P : xR → Prop} {M M' : xM} (h : rw0 M r n f) (hs : xSame P M M') (hr : ¬ P r) : rw0 M' r n f := fun k hk => by rw [(hs r hr).1]; exact h k hk
theorem rw0.cg {r : xR} {n : Nat} {f g : Nat → Int} {M : xM} (h : rw0 M r n f) (hs : ∀ k, k < n → f k = g k) : rw0 M r n g := fun k hk => by rw [← hs k hk]; exact h k hk
theorem rw0.put {r : xR} {n : Nat} {f : Nat → Int} {M : xM} (h : rw0 M r n f) (j : Nat) (v : Int) : rw0 (xpI M r j (iZ v)) r n (fun k => if k = j then v else f k) := fun k hk => by
  show xI (xpI M r j (iZ v)) r k = iZ (if k = j then v else f k)
  rw [xI_pI]
  by_cases e : k = j
  · rw [if_pos ⟨rfl, e⟩, if_pos e]
  · rw [if_neg (fun z => e z.2), if_neg e]; exact h k hk
theorem rw0.ne {r r' : xR} {n : Nat} {f : Nat → Int} {M : xM} {j : Nat} {v : Int32} (h : rw0 M r n f) (hr : r ≠ r') : rw0 (xpI M r' j v) r n f := fun k hk => by
  rw [xI_pI_ne hr]; exact h k hk
-- long numbers
def lZ (z : Int) : Int64 := Int64.ofInt z
theorem lZ_lN (n : Nat) : lN n = lZ (n : Int) := by
  refine Int64.toBitVec_inj.mp ?_
  show BitVec.ofNat 64 n = BitVec.ofInt 64 (n : Int)
  rw [BitVec.ofInt_natCast]
theorem lZ_lit (n : Nat) : (@OfNat.ofNat Int64 n _) = lZ (@OfNat.ofNat Int n _) := lZ_lN n
theorem lZ_m1 : (-1 : Int64) = lZ (-1) := by decide +kernel
theorem lZ_add (a b : Int) : lZ a + lZ b = lZ (a + b) := (Int64.ofInt_add a b).symm
theorem lZ_mul (a b : Int) : lZ a * lZ b = lZ (a * b) := (Int64.ofInt_mul a b).symm
theorem lZ_sub (a b : Int) : lZ a - lZ b = lZ (a - b) := (Int64.ofInt_sub a b).symm
theorem lZ_toInt {z : Int} (h1 : -9223372036854775808 ≤ z) (h2 : z < 9223372036854775808) : (lZ z).toInt = z := by
  unfold lZ
  rw [Int64.toInt_ofInt]
  rw [Int.bmod_def]
  have : Int64.size = 18446744073709551616 := rfl
  rw [this]
  omega
theorem lZ_lt {a b : Int} (h1 : -9223372036854775808 ≤ a ∧ a < 9223372036854775808) (h2 : -9223372036854775808 ≤ b ∧ b < 9223372036854775808) : lZ a < lZ b ↔ a < b := by
  rw [fa_lt64, lZ_toInt h1.1 h1.2, lZ_toInt h2.1 h2.2]
theorem lZ_inj {a b : Int} (h1 : -9223372036854775808 ≤ a ∧ a < 9223372036854775808) (h2 : -9223372036854775808 ≤ b ∧ b < 9223372036854775808) : lZ a = lZ b ↔ a = b := by
  constructor
  · intro h
    have := congrArg Int64.toInt h
    rwa [lZ_toInt h1.1 h1.2, lZ_toInt h2.1 h2.2] at this
  · exact fun h => by rw [h]
theorem lZ_cmp {a b : Int} (h1 : -9223372036854775808 ≤ a ∧ a < 9223372036854775808) (h2 : -9223372036854775808 ≤ b ∧ b < 9223372036854775808) : lg_cmp (lZ a) (lZ b) = iZ (if b < a then 1 else if a = b then 0 else -1) := by
  unfold lg_cmp
  by_cases e : b < a
  · rw [if_pos (show lZ a > lZ b from (lZ_lt h2 h1).mpr e), if_pos e]; rfl
  · rw [if_neg (show ¬ lZ a > lZ b from fun z => e ((lZ_lt h2 h1).mp z)), if_neg e]
    by_cases e2 : a = b
    · rw [if_pos (by rw [e2]), if_pos e2]; rfl
    · rw [if_neg (fun z => e2 ((lZ_inj h1 h2).mp z)), if_neg e2]; exact iZ_m1
theorem iL_toInt64 {z : Int} (h1 : -2147483648 ≤ z) (h2 : z < 2147483648) : (iZ z).toInt64 = lZ z := by
  refine Int64.toInt_inj.mp ?_
  rw [Int32.toInt_toInt64, iZ_toInt h1 h2, lZ_toInt (by omega) (by omega)]
theorem lZ_toInt32 (z : Int) : (lZ z).toInt32 = iZ z := by
  unfold lZ iZ
  simp
/-- entries that may have changed -/
def xSm (P : xR → Nat → Prop) (M M' : xM) : Prop := ∀ r j, ¬ P r j → xI M' r j = xI M r j ∧ xL M' r j = xL M r j
theorem xSm.rf {P : xR → Nat → Prop} {M : xM} : xSm P M M := fun _ _ _ => ⟨rfl, rfl⟩
theorem xSm.tr {P : xR → Nat → Prop} {M M' M'' : xM} (h : xSm P M M') (h2 : xSm P M' M'') : xSm P M M'' := fun r j hr => ⟨(h2 r j hr).1.trans (h r j hr).1, (h2 r j hr).2.trans (h r j hr).2⟩
theorem xSm.wk {P P' : xR → Nat → Prop} {M M' : xM} (h : xSm P M M') (hp : ∀ r j, P r j → P' r j) : xSm P' M M' := fun r j hr => h r j (fun z => hr (hp r j z))
theorem xSm.pI {P : xR → Nat → Prop} {M M' : xM} {r : xR} {j : Nat} {v : Int32} (h : xSm P M M') (hr : P r j) : xSm P M (xpI M' r j v) := fun r' j' hr' => by
  refine ⟨?_, (h r' j' hr').2⟩
  rw [xI_pI, if_neg (fun z => hr' (by rw [z.1, z.2]; exact hr))]
  exact (h r' j' hr').1
theorem xSm.pL {P : xR → Nat → Prop} {M M' : xM} {r : xR} {j : Nat} {v : Int64} (h : xSm P M M') (hr : P r j) : xSm P M (xpL M' r j v) := fun r' j' hr' => by
  refine ⟨(h r' j' hr').1, ?_⟩
  rw [xL_pL, if_neg (fun z => hr' (by rw [z.1, z.2]; exact hr))]
  exact (h r' j' hr').2
theorem xSm.S {P : xR → Nat → Prop} {Q : xR → Prop} {M M' : xM} (h : xSm P M M') (hp : ∀ r j, P r j → Q r) : xSame Q M M' := fun r hr => ⟨fun j => (h r j (fun z => hr (hp r j z))).1, fun j => (h r j (fun z => hr (hp r j z))).2⟩
theorem xSame.sm {Q : xR → Prop} {M M' : xM} (h : xSame Q M M') : xSm (fun r _ => Q r) M M' := fun r j hr => ⟨(h r hr).1 j, (h r hr).2 j⟩
theorem z8 (i : Nat) : (i : Int) - (i : Int) / 8 * 8 = ((i % 8 : Nat) : Int) := by omega
theorem z88 (i : Nat) : (i : Int) / 8 - (i : Int) / 8 / 8 * 8 = ((i / 8 % 8 : Nat) : Int) := by omega
theorem z64 (i : Nat) : (i : Int) / 64 = ((i / 64 : Nat) : Int) := by omega
theorem cl_0 : Int32.toNatClampNeg (iZ 0) = 0 := by decide +kernel
theorem cl_1 : Int32.toNatClampNeg (iZ 1) = 1 := by decide +kernel
theorem cl_2 : Int32.toNatClampNeg (iZ 2) = 2 := by decide +kernel
theorem cl_3 : Int32.toNatClampNeg (iZ 3) = 3 := by decide +kernel
theorem cl_4 : Int32.toNatClampNeg (iZ 4) = 4 := by decide +kernel
theorem cl_5 : Int32.toNatClampNeg (iZ 5) = 5 := by decide +kernel
theorem cl_6 : Int32.toNatClampNeg (iZ 6) = 6 := by decide +kernel
theorem cl_7 : Int32.toNatClampNeg (iZ 7) = 7 := by decide +kernel
theorem lZ_cle {a : Int} (h1 : -9223372036854775808 ≤ a ∧ a < 9223372036854775808) : (lg_cmp (lZ a) (lZ 0) ≤ iZ 0) = (a ≤ 0) := by
  rw [lZ_cmp h1 (by omega)]
  refine propext ?_
  by_cases e : (0 : Int) < a
  · rw [if_pos e, iZ_le (by omega) (by omega)]; omega
  · rw [if_neg e]
    by_cases e2 : a = 0
    · rw [if_pos e2, iZ_le (by omega) (by omega)]; omega
    · rw [if_neg e2, iZ_le (by omega) (by omega)]; omega
theorem lg_eq (x y : Int64) : (lg_cmp x y = iZ 0) = (x = y) := by
  refine propext ?_
  unfold lg_cmp
  by_cases e : x > y
  · rw [if_pos e]
    exact ⟨fun z => absurd z (by decide +kernel), fun z => absurd e (by rw [z, gt_iff_lt, fa_lt64]; omega)⟩
  · rw [if_neg e]
    by_cases e2 : x = y
    · rw [if_pos e2]; exact ⟨fun _ => e2, fun _ => rfl⟩
    · rw [if_neg e2]
      exact ⟨fun z => absurd z (by decide +kernel), fun z => absurd z e2⟩
