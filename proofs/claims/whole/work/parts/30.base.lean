/-! LAYER 2: the functions of the small machine, in plain mathematics -/
theorem xrun_mono (sg : xS → Option xX) : ∀ {n : Nat} {s : xS} {r : Option xV × xM}, xrun sg n s = some r → ∀ {m : Nat}, n ≤ m → xrun sg m s = some r
  | 0, _, _, h, _, _ => by cases h
  | n + 1, s, r, h, 0, hm => absurd hm (by omega)
  | n + 1, s, r, h, m + 1, hm => by
    unfold xrun at h ⊢
    cases e : sg s with
    | none => rw [e] at h; cases h
    | some x =>
      rw [e] at h
      cases x with
      | inl r' => exact h
      | inr s' => exact xrun_mono sg (n := n) (m := m) h (by omega)
theorem xfix_eq {sg : xS → Option xX} {s : xS} {r : Option xV × xM} {n : Nat} (h : xrun sg n s = some r) : xfix sg s = some r := by
  unfold xfix
  have hx : ∃ r n, xrun sg n s = some r := ⟨r, n, h⟩
  rw [dif_pos hx]
  obtain ⟨k, hk⟩ := hx.choose_spec
  have h1 := xrun_mono sg h (m := n + k) (by omega)
  have h2 := xrun_mono sg hk (m := n + k) (by omega)
  exact h2.symm.trans h1
theorem xfix_next {sg : xS → Option xX} {s s' : xS} (h : sg s = some (.inr s')) : xfix sg s = xfix sg s' := by
  cases e : xfix sg s' with
  | some r =>
    obtain ⟨n, hn⟩ := xfix_some e
    exact xfix_eq (n := n + 1) (by unfold xrun; rw [h]; exact hn)
  | none =>
    cases e2 : xfix sg s with
    | none => rfl
    | some r =>
      obtain ⟨n, hn⟩ := xfix_some e2
      cases n with
      | zero => cases hn
      | succ n =>
        unfold xrun at hn
        rw [h] at hn
        rw [xfix_eq hn] at e
        cases e
theorem xfix_done {sg : xS → Option xX} {s : xS} {r : Option xV × xM} (h : sg s = some (.inl r)) : xfix sg s = some r := xfix_eq (n := 1) (by unfold xrun; rw [h])
/-- a stretch of a loop, state by state -/
theorem xfor_up {sg : xS → Option xX} (st : Nat → xS) {a n : Nat} (hn : a ≤ n) (h : ∀ i, a ≤ i → i < n → sg (st i) = some (.inr (st (i + 1)))) : xfix sg (st a) = xfix sg (st n) := by
  induction n with
  | zero => have : a = 0 := by omega
            rw [this]
  | succ n ih =>
    by_cases e : a = n + 1
    · rw [e]
    · rw [ih (by omega) (fun i h1 h2 => h i h1 (by omega))]
      exact xfix_next (h n (by omega) (by omega))
/-- a loop by a measure -/
theorem xfor_m {sg : xS → Option xX} {R : Option (Option xV × xM)} {I : Nat → xS → Prop} (hs : ∀ k s, I k s → (∃ k' s', k' < k ∧ sg s = some (.inr s') ∧ I k' s') ∨ xfix sg s = R) : ∀ k s, I k s → xfix sg s = R := by
  intro k
  induction k using Nat.strongRecOn with
  | ind k ih =>
    intro s h
    rcases hs k s h with ⟨k', s', h1, h2, h3⟩ | h1
    · rw [xfix_next h2]; exact ih k' h1 s' h3
    · exact h1
theorem xri_some {o : Option (Option xV × xM)} {k : Int32 → xM → Option xX} {v : Int32} {M : xM} (h : o = some (some (.inl v), M)) : xri o k = k v M := by rw [h]; rfl
theorem xrl_some {o : Option (Option xV × xM)} {k : Int64 → xM → Option xX} {v : Int64} {M : xM} (h : o = some (some (.inr (.inl v)), M)) : xrl o k = k v M := by rw [h]; rfl
theorem xrv_some {o : Option (Option xV × xM)} {k : xM → Option xX} {M : xM} (h : o = some (none, M)) : xrv o k = k M := by rw [h]; rfl
theorem xb_0 : xb 0 = true := xb_iff.mpr (Or.inl rfl)
theorem xb_1 : xb 1 = true := xb_iff.mpr (Or.inr rfl)
theorem xin_nI {i n : Nat} (h : i < n) (hn : n < 2 ^ 31) : xin (nI i) n = true := xin_iff.mpr ⟨nI_pos (by omega), by rw [nI_clamp (by omega)]; exact h⟩
/-- the truth as a number -/
def b2 (c : Prop) [Decidable c] : Int32 := if c then 1 else 0
theorem xb_b2 (c : Prop) [Decidable c] : xb (b2 c) = true := by
  unfold b2
  split
  · exact xb_1
  · exact xb_0
theorem b2_eq0 {c : Prop} [Decidable c] : b2 c = 0 ↔ ¬ c := by unfold b2; split <;> simp_all
theorem b2_t {c : Prop} [Decidable c] (h : c) : b2 c = 1 := if_pos h
theorem b2_f {c : Prop} [Decidable c] (h : ¬ c) : b2 c = 0 := if_neg h
-- numbers
theorem lit_nI (n : Nat) : (OfNat.ofNat n : Int32) = nI n := rfl
theorem nI_inj {a b : Nat} (ha : a < 2 ^ 31) (hb : b < 2 ^ 31) : nI a = nI b ↔ a = b := nI_eq ha hb
theorem i32_lt (a b : Int32) : a < b ↔ a.toInt < b.toInt := Int32.lt_iff_toInt_lt
theorem i32_le (a b : Int32) : a ≤ b ↔ a.toInt ≤ b.toInt := Int32.le_iff_toInt_le
theorem m1_ne (n : Nat) (h : n < 2 ^ 31) : ¬ nI n = -1 := by
  intro e
  have := congrArg Int32.toInt e
  rw [nI_toInt h] at this
  have h2 : (-1 : Int32).toInt = -1 := by decide
  omega
theorem ne_m1 (n : Nat) (h : n < 2 ^ 31) : ¬ (-1 : Int32) = nI n := fun e => m1_ne n h e.symm
-- memory: rows set as a whole
def xsI (M : xM) (r : xR) (f : Nat → Int32) : xM := (fun r' j => if r' = r then f j else M.1 r' j, M.2)
def xsL (M : xM) (r : xR) (f : Nat → Int64) : xM := (M.1, fun r' j => if r' = r then f j else M.2 r' j)
theorem xsI_self (M : xM) (r : xR) : xsI M r (xI M r) = M := by
  unfold xsI
  refine Prod.ext (funext fun r' => funext fun j => ?_) rfl
  show (if r' = r then xI M r j else M.1 r' j) = M.1 r' j
  by_cases e : r' = r
  · rw [if_pos e, e]; rfl
  · rw [if_neg e]
theorem xsL_self (M : xM) (r : xR) : xsL M r (xL M r) = M := by
  unfold xsL
  refine Prod.ext rfl (funext fun r' => funext fun j => ?_)
  show (if r' = r then xL M r j else M.2 r' j) = M.2 r' j
  by_cases e : r' = r
  · rw [if_pos e, e]; rfl
  · rw [if_neg e]
theorem xpI_sI (M : xM) (r : xR) (f : Nat → Int32) (j : Nat) (v : Int32) : xpI (xsI M r f) r j v = xsI M r (fun k => if k = j then v else f k) := by
  unfold xpI xsI
  refine Prod.ext (funext fun r' => funext fun k => ?_) rfl
  by_cases e : r' = r
  · subst e; by_cases e2 : k = j
    · subst e2; simp
    · simp [e2]
  · simp [e]
theorem xpL_sL (M : xM) (r : xR) (f : Nat → Int64) (j : Nat) (v : Int64) : xpL (xsL M r f) r j v = xsL M r (fun k => if k = j then v else f k) := by
  unfold xpL xsL
  refine Prod.ext rfl (funext fun r' => funext fun k => ?_)
  by_cases e : r' = r
  · subst e; by_cases e2 : k = j
    · subst e2; simp
    · simp [e2]
  · simp [e]
theorem xI_sI (M : xM) (r r' : xR) (f : Nat → Int32) (j : Nat) : xI (xsI M r f) r' j = if r' = r then f j else xI M r' j := rfl
theorem xL_sI (M : xM) (r r' : xR) (f : Nat → Int32) (j : Nat) : xL (xsI M r f) r' j = xL M r' j := rfl
theorem xI_sL (M : xM) (r r' : xR) (f : Nat → Int64) (j : Nat) : xI (xsL M r f) r' j = xI M r' j := rfl
theorem xL_sL (M : xM) (r r' : xR) (f : Nat → Int64) (j : Nat) : xL (xsL M r f) r' j = if r' = r then f j else xL M r' j := rfl
theorem xM_ext {M M' : xM} (h1 : ∀ r j, xI M r j = xI M' r j) (h2 : ∀ r j, xL M r j = xL M' r j) : M = M' := Prod.ext (funext fun r => funext fun j => h1 r j) (funext fun r => funext fun j => h2 r j)
theorem xsI_cong {M : xM} {r : xR} {f g : Nat → Int32} (h : ∀ j, f j = g j) : xsI M r f = xsI M r g := by rw [funext h]
theorem xsL_cong {M : xM} {r : xR} {f g : Nat → Int64} (h : ∀ j, f j = g j) : xsL M r f = xsL M r g := by rw [funext h]
/-- nothing but rows of a kind has changed -/
def xSame (P : xR → Prop) (M M' : xM) : Prop := ∀ r, ¬ P r → (∀ j, xI M' r j = xI M r j) ∧ ∀ j, xL M' r j = xL M r j
theorem xSame.rf {P : xR → Prop} {M : xM} : xSame P M M := fun _ _ => ⟨fun _ => rfl, fun _ => rfl⟩
theorem xSame.tr {P : xR → Prop} {M M' M'' : xM} (h : xSame P M M') (h2 : xSame P M' M'') : xSame P M M'' := fun r hr => ⟨fun j => ((h2 r hr).1 j).trans ((h r hr).1 j), fun j => ((h2 r hr).2 j).trans ((h r hr).2 j)⟩
theorem xSame.wk {P P' : xR → Prop} {M M' : xM} (h : xSame P M M') (hp : ∀ r, P r → P' r) : xSame P' M M' := fun r hr => h r (fun z => hr (hp r z))
theorem xSame.pI {P : xR → Prop} {M M' : xM} {r : xR} {j : Nat} {v : Int32} (h : xSame P M M') (hr : P r) : xSame P M (xpI M' r j v) := fun r' hr' => by
  have e : r' ≠ r := fun e => hr' (by rw [e]; exact hr)
  exact ⟨fun k => by rw [xI_pI_ne e]; exact (h r' hr').1 k, (h r' hr').2⟩
theorem xSame.pL {P : xR → Prop} {M M' : xM} {r : xR} {j : Nat} {v : Int64} (h : xSame P M M') (hr : P r) : xSame P M (xpL M' r j v) := fun r' hr' => by
  have e : r' ≠ r := fun e => hr' (by rw [e]; exact hr)
  exact ⟨(h r' hr').1, fun k => by rw [xL_pL, if_neg (fun z => e z.1)]; exact (h r' hr').2 k⟩
