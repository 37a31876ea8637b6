/-! tables of orders, prices and rounds, in plain mathematics -/
theorem ndn2 (a b : Nat) : ndn a b / 2 = ndn (a / 2) (b / 2) ∧ (ndn a b % 2 = 1 ↔ a % 2 = 1 ∧ b % 2 = 0) := by
  constructor
  · refine Nat.eq_of_testBit_eq fun i => ?_
    rw [← Nat.testBit_succ, ndn_bit, ndn_bit, Nat.testBit_succ, Nat.testBit_succ]
  · have h := ndn_bit a b 0
    rw [Nat.testBit_zero, Nat.testBit_zero, Nat.testBit_zero] at h
    by_cases e1 : a % 2 = 1 <;> by_cases e2 : b % 2 = 1 <;> simp [e1, e2] at h ⊢ <;> omega
theorem ndn_add : ∀ (a b : Nat), b &&& a = b → ndn a b + b = a := by
  intro a
  induction a using Nat.strongRecOn with
  | ind a ih =>
    intro b h
    by_cases e : a = 0
    · subst e
      rw [Nat.and_zero] at h
      subst h
      rfl
    · have h1 := and2 b a
      rw [h] at h1
      have h2 := ndn2 a b
      have := ih (a / 2) (by omega) (b / 2) h1.1.symm
      omega
theorem ndn_ss (a b : Nat) : ndn a b &&& a = ndn a b := ndn_and.mp (ndn_z.mpr fun i hi => by
  rw [ndn_bit] at hi
  exact (Bool.and_eq_true_iff.mp hi).1)
theorem ndn_nn {a b : Nat} (h : b &&& a = b) : ndn a (ndn a b) = b := by
  refine Nat.eq_of_testBit_eq fun i => ?_
  rw [ndn_bit, ndn_bit]
  have := ndn_z.mp (ndn_and.mpr h) i
  cases x : a.testBit i <;> cases y : b.testBit i <;> simp_all
theorem bc_add {a b : Nat} (h : b &&& a = b) : bc (ndn a b) + bc b = bc a := by
  unfold bc
  rw [← fb_ct_or (p := fun k => (ndn a b).testBit k) (q := fun k => b.testBit k) (fun k _ z => by
    have := z.1
    rw [ndn_bit, z.2] at this
    simp at this)]
  refine fb_ct_cong fun k _ => ?_
  rw [ndn_bit]
  have := ndn_z.mp (ndn_and.mpr h) k
  cases x : a.testBit k <;> cases y : b.testBit k <;> simp_all
theorem bc_0 {a : Nat} (ha : a < 512) : bc a = 0 ↔ a = 0 := by
  constructor
  · intro h
    refine Nat.eq_of_testBit_eq fun i => ?_
    rw [Nat.zero_testBit]
    by_cases hi : i < 9
    · exact fb_ct_zero.mp h i hi
    · exact Nat.testBit_lt_two_pow (Nat.lt_of_lt_of_le ha (Nat.pow_le_pow_right (n := 2) (by decide) (show 9 ≤ i by omega)))
  · intro h; subst h; rfl
theorem and_lt {a b : Nat} (h : b &&& a = b) (ha : a < 512) : b < 512 := by
  have : b &&& a ≤ a := Nat.and_le_right
  omega
/-- one part alone has no halves -/
theorem bc_1 {a b : Nat} (ha : a < 512) (h : bc a = 1) (hb : b &&& a = b) (h0 : 0 < b) (hl : b < a) : False := by
  have h1 := bc_add hb
  have h2 := ndn_add a b hb
  have h3 := bc_0 (and_lt hb ha)
  have h4 := bc_0 (a := ndn a b) (by omega)
  omega
def hlf (one : Nat → Prop) (ok : Nat → Nat → Prop) (heap half : Nat) : Prop := ¬ one heap ∧ 1 ≤ half ∧ half &&& heap = half ∧ ok heap half
noncomputable def ordP (one : Nat → Prop) (ok pt : Nat → Nat → Prop) (heap : Nat) (T : Nat → Int) (i : Nat) : Int := @ite _ (one heap) (Classical.propDecidable _) 1 0 + sm (fun half => @ite _ (hlf one ok heap half ∧ half < ndn heap half ∧ pt heap half) (Classical.propDecidable _) (T half * T (ndn heap half)) 0) i
noncomputable def ordT (one : Nat → Prop) (ok pt : Nat → Nat → Prop) : Nat → Nat → Int := tab 0 fun heap T => ordP one ok pt heap T heap
noncomputable def leaW (gw : Nat → Nat → Nat → Prop) (cst : Nat → Nat → Int) (heap half : Nat) (b : Int) (s : Int × Nat × Nat) : Nat → Int × Nat × Nat
  | 0 => s
  | w + 1 => @ite _ (gw heap half w ∧ ((leaW gw cst heap half b s w).1 = -1 ∨ cst heap w + b < (leaW gw cst heap half b s w).1)) (Classical.propDecidable _) (cst heap w + b, half, w) (leaW gw cst heap half b s w)
noncomputable def leaP (one : Nat → Prop) (ok : Nat → Nat → Prop) (gw : Nat → Nat → Nat → Prop) (cst : Nat → Nat → Int) (heap : Nat) (T : Nat → Int × Nat × Nat) : Nat → Int × Nat × Nat
  | 0 => @ite _ (one heap) (Classical.propDecidable _) (0, 0, 0) (-1, 0, 0)
  | half + 1 => @ite _ (hlf one ok heap half ∧ (T half).1 ≠ -1 ∧ (T (ndn heap half)).1 ≠ -1) (Classical.propDecidable _) (leaW gw cst heap half ((T half).1 + (T (ndn heap half)).1) (leaP one ok gw cst heap T half) 6) (leaP one ok gw cst heap T half)
noncomputable def leaT (one : Nat → Prop) (ok : Nat → Nat → Prop) (gw : Nat → Nat → Nat → Prop) (cst : Nat → Nat → Int) : Nat → Nat → Int × Nat × Nat := tab (-1, 0, 0) fun heap T => leaP one ok gw cst heap T heap
def rnd2 (a b : Int) : Int := if a = -1 ∨ b = -1 then -1 else 1 + (if b < a then a else b)
noncomputable def rndP (pt : Nat → Nat → Prop) (heap : Nat) (T : Nat → Int) : Nat → Int
  | 0 => if bc heap = 1 then 0 else -1
  | half + 1 => @ite _ (hlf (fun h => bc h = 1) (fun _ _ => True) heap half ∧ half < ndn heap half ∧ pt heap half ∧ rnd2 (T half) (T (ndn heap half)) ≠ -1 ∧ (rndP pt heap T half = -1 ∨ rnd2 (T half) (T (ndn heap half)) < rndP pt heap T half)) (Classical.propDecidable _) (rnd2 (T half) (T (ndn heap half))) (rndP pt heap T half)
noncomputable def rndT (pt : Nat → Nat → Prop) : Nat → Nat → Int := tab (-1) fun heap T => rndP pt heap T heap
-- how large
theorem hlf_rest {one : Nat → Prop} {ok : Nat → Nat → Prop} {heap half : Nat} (h : hlf one ok heap half) (hl : half < heap) : ndn heap half + half = heap ∧ 1 ≤ half ∧ 1 ≤ ndn heap half ∧ ndn heap half < heap := by
  have := ndn_add heap half h.2.2.1
  have := h.2.1
  omega
theorem rnd2_b {a b : Int} {k m n : Nat} (ha : -1 ≤ a ∧ a ≤ k) (hb : -1 ≤ b ∧ b ≤ m) (hk : k < n) (hm : m < n) : -1 ≤ rnd2 a b ∧ rnd2 a b ≤ n := by
  unfold rnd2
  split
  · omega
  · split <;> omega
theorem rndP_b {pt : Nat → Nat → Prop} {heap : Nat} {T : Nat → Int} (h : ∀ k, 1 ≤ k → k < heap → -1 ≤ T k ∧ T k ≤ k) : ∀ i, i ≤ heap → -1 ≤ rndP pt heap T i ∧ rndP pt heap T i ≤ heap
  | 0, _ => by unfold rndP; split <;> omega
  | i + 1, hi => by
    unfold rndP
    have ih := rndP_b (pt := pt) h i (by omega)
    split
    · rename_i hc
      have h1 := hlf_rest hc.1 (by omega)
      exact rnd2_b (h i (by omega) (by omega)) (h _ h1.2.2.1 h1.2.2.2) (by omega) (by omega)
    · exact ih
theorem rndT_b {pt : Nat → Nat → Prop} : ∀ n k, 1 ≤ k → k < n → -1 ≤ rndT pt n k ∧ rndT pt n k ≤ k := by
  intro n k
  induction k using Nat.strongRecOn generalizing n with
  | ind k ih =>
    intro h1 h2
    unfold rndT
    rw [tab_at _ _ h2]
    exact rndP_b (fun j h3 h4 => ih j h4 k h3 h4) k (Nat.le_refl _)
theorem leaW_b {gw : Nat → Nat → Nat → Prop} {cst : Nat → Nat → Int} {heap half : Nat} {b : Int} {s : Int × Nat × Nat} {C : Int} (hb : 0 ≤ b) (hc : ∀ w, w < 6 → 0 ≤ cst heap w ∧ cst heap w + b ≤ C) (hs : -1 ≤ s.1 ∧ s.1 ≤ C) : ∀ w, w ≤ 6 → -1 ≤ (leaW gw cst heap half b s w).1 ∧ (leaW gw cst heap half b s w).1 ≤ C
  | 0, _ => hs
  | w + 1, h => by
    unfold leaW
    have := hc w (by omega)
    split
    · show -1 ≤ cst heap w + b ∧ cst heap w + b ≤ C
      omega
    · exact leaW_b hb hc hs w (by omega)
theorem leaP_b {one : Nat → Prop} {ok : Nat → Nat → Prop} {gw : Nat → Nat → Nat → Prop} {cst : Nat → Nat → Int} {heap : Nat} (hh : 1 ≤ heap) {T : Nat → Int × Nat × Nat} (hc : ∀ w, w < 6 → 0 ≤ cst heap w ∧ cst heap w ≤ 1089) (h : ∀ k, 1 ≤ k → k < heap → -1 ≤ (T k).1 ∧ (T k).1 ≤ 1089 * (k - 1)) : ∀ i, i ≤ heap → -1 ≤ (leaP one ok gw cst heap T i).1 ∧ (leaP one ok gw cst heap T i).1 ≤ 1089 * (heap - 1)
  | 0, _ => by
    unfold leaP
    split
    · show -1 ≤ (0 : Int) ∧ (0 : Int) ≤ 1089 * (heap - 1)
      omega
    · show -1 ≤ (-1 : Int) ∧ (-1 : Int) ≤ 1089 * (heap - 1)
      omega
  | i + 1, hi => by
    unfold leaP
    have ih := leaP_b (one := one) (ok := ok) (gw := gw) hh hc h i (by omega)
    split
    · rename_i hd
      have h1 := hlf_rest hd.1 (by omega)
      have h2 := h i (by omega) (by omega)
      have h3 := h _ h1.2.2.1 h1.2.2.2
      refine leaW_b (by omega) (fun w hw => ?_) ih 6 (Nat.le_refl _)
      have := hc w hw
      omega
    · exact ih
theorem leaT_b {one : Nat → Prop} {ok : Nat → Nat → Prop} {gw : Nat → Nat → Nat → Prop} {cst : Nat → Nat → Int} (hc : ∀ heap w, w < 6 → 0 ≤ cst heap w ∧ cst heap w ≤ 1089) : ∀ n k, 1 ≤ k → k < n → -1 ≤ (leaT one ok gw cst n k).1 ∧ (leaT one ok gw cst n k).1 ≤ 1089 * (k - 1) := by
  intro n k
  induction k using Nat.strongRecOn generalizing n with
  | ind k ih =>
    intro h1 h2
    unfold leaT
    rw [tab_at _ _ h2]
    exact leaP_b h1 (hc k) (fun j h3 h4 => ih j h4 k h3 h4) k (Nat.le_refl _)
/-- the bound of the orders: 2 to the n (n + 1) / 2 - 1 -/
def ob (n : Nat) : Nat := 2 ^ (n * (n + 1) / 2 - 1)
theorem ob_step : ∀ n, n ≤ 9 → ∀ i, i < n → 1 ≤ i → 2 ^ n * (ob i * ob (n - i)) ≤ ob n := by decide +kernel
theorem ob_9 : ∀ n, n ≤ 9 → 1 ≤ ob n ∧ ob n ≤ ob 9 := by decide +kernel
theorem sm_sub {heap : Nat} {f : Nat → Int} {c : Int} (hc : 0 ≤ c) : ∀ {n : Nat}, (∀ k, k < n → 0 ≤ f k ∧ (k &&& heap = k → f k ≤ c) ∧ (¬ k &&& heap = k → f k = 0)) → 0 ≤ sm f n ∧ sm f n ≤ nsb heap n * c
  | 0, _ => by
    have : nsb heap 0 = 0 := rfl
    rw [this]
    simp [sm]
  | n + 1, h => by
    have ih := sm_sub hc (n := n) (fun k hk => h k (by omega))
    have h2 := h n (by omega)
    unfold sm
    by_cases e : n &&& heap = n
    · rw [nsb_one e, nS, Int.add_mul]
      have := h2.2.1 e
      omega
    · rw [nsb_gap (heap := heap) (a := n) (b := n + 1) (by omega) (fun k k1 k2 => by
        have : k = n := by omega
        rw [this]; exact e), h2.2.2 e]
      omega
theorem ordP_b {one : Nat → Prop} {ok pt : Nat → Nat → Prop} {heap : Nat} (h1 : 1 ≤ heap) (hh : heap < 512) {T : Nat → Int} (h : ∀ k, 1 ≤ k → k < heap → k < 512 → 0 ≤ T k ∧ T k ≤ ob (bc k)) : ∀ i, i ≤ heap → 0 ≤ ordP one ok pt heap T i ∧ ordP one ok pt heap T i ≤ ob (bc heap) := by
  intro i hi
  have hb := bc_le heap
  have hb0 : bc heap ≠ 0 := fun e => by have := (bc_0 hh).mp e; omega
  by_cases ho : one heap
  · have : sm (fun half => @ite _ (hlf one ok heap half ∧ half < ndn heap half ∧ pt heap half) (Classical.propDecidable _) (T half * T (ndn heap half)) 0) i = 0 := by
      have := sm_le (f := fun half => @ite _ (hlf one ok heap half ∧ half < ndn heap half ∧ pt heap half) (Classical.propDecidable _) (T half * T (ndn heap half)) 0) (b := 0) (n := i) (fun k hk => by
        rw [if_neg (fun z => z.1.1 ho)]
        omega)
      omega
    unfold ordP
    rw [this, if_pos ho]
    have := (ob_9 (bc heap) hb).1
    omega
  · by_cases hb1 : bc heap = 1
    · have : sm (fun half => @ite _ (hlf one ok heap half ∧ half < ndn heap half ∧ pt heap half) (Classical.propDecidable _) (T half * T (ndn heap half)) 0) i = 0 := by
        have := sm_le (f := fun half => @ite _ (hlf one ok heap half ∧ half < ndn heap half ∧ pt heap half) (Classical.propDecidable _) (T half * T (ndn heap half)) 0) (b := 0) (n := i) (fun k hk => by
          rw [if_neg (fun z => bc_1 hh hb1 z.1.2.2.1 (by have := z.1.2.1; omega) (by omega))]
          omega)
        omega
      unfold ordP
      rw [this, if_neg ho]
      omega
    · obtain ⟨c, hc⟩ : ∃ c : Nat, c * 2 ^ bc heap ≤ ob (bc heap) ∧ ∀ k, 1 ≤ k → k < bc heap → ob k * ob (bc heap - k) ≤ c := by
        refine ⟨ob (bc heap) / 2 ^ bc heap, Nat.div_mul_le_self _ _, fun k k1 k2 => ?_⟩
        rw [Nat.le_div_iff_mul_le (Nat.two_pow_pos _), Nat.mul_comm]
        exact ob_step (bc heap) hb k k2 k1
      have := sm_sub (heap := heap) (f := fun half => @ite _ (hlf one ok heap half ∧ half < ndn heap half ∧ pt heap half) (Classical.propDecidable _) (T half * T (ndn heap half)) 0) (c := c) (by omega) (n := i) (fun k hk => by
        by_cases e : hlf one ok heap k ∧ k < ndn heap k ∧ pt heap k
        · rw [if_pos e]
          have g1 := hlf_rest e.1 (by omega)
          have g2 := h k g1.2.1 (by omega) (by omega)
          have g3 := h _ g1.2.2.1 g1.2.2.2 (by omega)
          have g4 := bc_add e.1.2.2.1
          have g5 := mul_b g2 g3
          have g6 : bc k ≠ 0 := fun z => by have := (bc_0 (a := k) (by omega)).mp z; omega
          have g7 : bc (ndn heap k) ≠ 0 := fun z => by have := (bc_0 (a := ndn heap k) (by omega)).mp z; omega
          have g8 := hc.2 (bc k) (by omega) (by omega)
          rw [show bc heap - bc k = bc (ndn heap k) by omega] at g8
          have g9 : ((ob (bc k) : Int) * ob (bc (ndn heap k))) ≤ c := by exact_mod_cast g8
          refine ⟨g5.1, fun _ => by omega, fun z => absurd e.1.2.2.1 z⟩
        · rw [if_neg e]
          exact ⟨by omega, fun _ => by omega, fun _ => rfl⟩)
      have h2 : nsb heap i ≤ nsb heap heap := fb_ct_mono _ hi
      have h3 := nsb_is hh
      have h4 : (nsb heap i : Int) * c ≤ (2 ^ bc heap : Nat) * c := Int.mul_le_mul_of_nonneg_right (by omega) (by omega)
      have h5 : (c : Int) * (2 ^ bc heap : Nat) ≤ ob (bc heap) := by exact_mod_cast hc.1
      rw [Int.mul_comm] at h5
      unfold ordP
      rw [if_neg ho]
      omega
theorem ordT_b {one : Nat → Prop} {ok pt : Nat → Nat → Prop} : ∀ n k, 1 ≤ k → k < n → k < 512 → 0 ≤ ordT one ok pt n k ∧ ordT one ok pt n k ≤ ob (bc k) := by
  intro n k
  induction k using Nat.strongRecOn generalizing n with
  | ind k ih =>
    intro h1 h2 h3
    unfold ordT
    rw [tab_at _ _ h2]
    exact ordP_b h1 h3 (fun j h3 h4 h5 => ih j h4 k h3 h4 h5) k (Nat.le_refl _)
theorem ob_lt {n : Nat} (h : n ≤ 9) : (ob n : Int) < 9223372036854775808 := by
  have := (ob_9 n h).2
  have h2 : ob 9 = 17592186044416 := by decide +kernel
  omega
