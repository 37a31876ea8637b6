/-! whole numbers as Int32 -/
def iZ (z : Int) : Int32 := Int32.ofInt z
theorem iZ_nI (n : Nat) : nI n = iZ (n : Int) := by
  refine Int32.toBitVec_inj.mp ?_
  show BitVec.ofNat 32 n = BitVec.ofInt 32 (n : Int)
  rw [BitVec.ofInt_natCast]
theorem iZ_lit (n : Nat) : (@OfNat.ofNat Int32 n _) = iZ (@OfNat.ofNat Int n _) := iZ_nI n
theorem iZ_m1 : (-1 : Int32) = iZ (-1) := by decide +kernel
theorem iZ_m99 : (-99 : Int32) = iZ (-99) := by decide +kernel
theorem iZ_m8 : (-8 : Int32) = iZ (-8) := by decide +kernel
theorem iZ_toInt {z : Int} (h1 : -2147483648 ≤ z) (h2 : z < 2147483648) : (iZ z).toInt = z := by
  unfold iZ
  rw [Int32.toInt_ofInt]
  rw [Int.bmod_def]
  have : Int32.size = 4294967296 := rfl
  rw [this]
  omega
theorem iZ_of (x : Int32) : iZ x.toInt = x := Int32.ofInt_toInt x
theorem iZ_rng (x : Int32) : -2147483648 ≤ x.toInt ∧ x.toInt < 2147483648 := by
  have h1 := Int32.le_toInt x
  have h2 := Int32.toInt_lt x
  omega
theorem iZ_ex (x : Int32) : ∃ z : Int, -2147483648 ≤ z ∧ z < 2147483648 ∧ x = iZ z := ⟨x.toInt, (iZ_rng x).1, (iZ_rng x).2, (iZ_of x).symm⟩
theorem iZ_lt {a b : Int} (h1 : -2147483648 ≤ a ∧ a < 2147483648) (h2 : -2147483648 ≤ b ∧ b < 2147483648) : iZ a < iZ b ↔ a < b := by
  rw [i32_lt, iZ_toInt h1.1 h1.2, iZ_toInt h2.1 h2.2]
theorem iZ_le {a b : Int} (h1 : -2147483648 ≤ a ∧ a < 2147483648) (h2 : -2147483648 ≤ b ∧ b < 2147483648) : iZ a ≤ iZ b ↔ a ≤ b := by
  rw [i32_le, iZ_toInt h1.1 h1.2, iZ_toInt h2.1 h2.2]
theorem iZ_inj {a b : Int} (h1 : -2147483648 ≤ a ∧ a < 2147483648) (h2 : -2147483648 ≤ b ∧ b < 2147483648) : iZ a = iZ b ↔ a = b := by
  constructor
  · intro h
    have := congrArg Int32.toInt h
    rwa [iZ_toInt h1.1 h1.2, iZ_toInt h2.1 h2.2] at this
  · exact fun h => by rw [h]
theorem iZ_add (a b : Int) : iZ a + iZ b = iZ (a + b) := (Int32.ofInt_add a b).symm
theorem iZ_sub (a b : Int) : iZ a - iZ b = iZ (a - b) := (Int32.ofInt_sub a b).symm
theorem iZ_neg (a : Int) : -iZ a = iZ (-a) := (Int32.ofInt_neg a).symm
theorem iZ_mul (a b : Int) : iZ a * iZ b = iZ (a * b) := (Int32.ofInt_mul a b).symm
theorem iZ_div {a b : Int} (h1 : 0 ≤ a ∧ a < 2147483648) (h2 : 0 < b ∧ b < 2147483648) : iZ a / iZ b = iZ (a / b) := by
  refine Int32.toInt_inj.mp ?_
  have hq : 0 ≤ a / b := Int.ediv_nonneg h1.1 (by omega)
  have hq2 : a / b ≤ a := Int.ediv_le_self b h1.1
  rw [iZ_toInt (by omega) (by omega), Int32.toInt_div, iZ_toInt (by omega) (by omega), iZ_toInt (by omega) (by omega), Int.tdiv_eq_ediv_of_nonneg h1.1, Int.bmod_def]
  have h4 : ((4294967296 : Nat) : Int) = 4294967296 := rfl
  omega
theorem iZ_clamp {a : Int} (h : -2147483648 ≤ a ∧ a < 2147483648) : (iZ a).toNatClampNeg = a.toNat := by
  show (iZ a).toInt.toNat = _
  rw [iZ_toInt h.1 h.2]
theorem iZ_clampN {n : Nat} (h : n < 2147483648) : (iZ (n : Int)).toNatClampNeg = n := by rw [iZ_clamp (by omega)]; omega
theorem iZ_xin {a : Int} {n : Nat} (h : 0 ≤ a ∧ a < n) (hn : n < 2147483648) : xin (iZ a) n = true := by
  refine xin_iff.mpr ⟨?_, ?_⟩
  · rw [show (0 : Int32) = iZ 0 from rfl, iZ_lt (by omega) (by omega)]; omega
  · rw [iZ_clamp (by omega)]; omega
theorem b2_Z (c : Prop) [Decidable c] : b2 c = iZ (if c then 1 else 0) := by unfold b2; split <;> decide +kernel
theorem b2_z {c : Prop} [Decidable c] : b2 c = iZ 0 ↔ ¬ c := b2_eq0
theorem b2_o {c : Prop} [Decidable c] : b2 c = iZ 1 ↔ c := by unfold b2; split <;> simp_all <;> decide +kernel
theorem xb_z0 : xb (iZ 0) = true := xb_0
theorem xb_z1 : xb (iZ 1) = true := xb_1
/-- the truth as a number, whatever decides it -/
noncomputable def bP (c : Prop) : Int32 := @ite _ c (Classical.propDecidable c) (iZ 1) (iZ 0)
theorem bP_t {c : Prop} (h : c) : bP c = iZ 1 := if_pos h
theorem bP_f {c : Prop} (h : ¬ c) : bP c = iZ 0 := if_neg h
theorem bP_z {c : Prop} : bP c = iZ 0 ↔ ¬ c := by
  by_cases h : c
  · rw [bP_t h]; simp [h]; decide +kernel
  · rw [bP_f h]; simp [h]
theorem bP_o {c : Prop} : bP c = iZ 1 ↔ c := by
  by_cases h : c
  · rw [bP_t h]; simp [h]
  · rw [bP_f h]; simp [h]; decide +kernel
theorem xb_bP (c : Prop) : xb (bP c) = true := by
  by_cases h : c
  · rw [bP_t h]; exact xb_z1
  · rw [bP_f h]; exact xb_z0
theorem bP_b2 (c : Prop) [Decidable c] : b2 c = bP c := by
  by_cases h : c
  · rw [bP_t h, b2_t h]; rfl
  · rw [bP_f h, b2_f h]; rfl
theorem ite_bPz {α : Type} (c : Prop) {i : Decidable (bP c = iZ 0)} (a b : α) : @ite α (bP c = iZ 0) i a b = @ite α c (Classical.propDecidable c) b a := by
  by_cases h : c
  · rw [if_pos h, if_neg (fun e => bP_z.mp e h)]
  · rw [if_neg h, if_pos (bP_z.mpr h)]
theorem ite_bPo {α : Type} (c : Prop) {i : Decidable (bP c = iZ 1)} (a b : α) : @ite α (bP c = iZ 1) i a b = @ite α c (Classical.propDecidable c) a b := by
  by_cases h : c
  · rw [if_pos h, if_pos (bP_o.mpr h)]
  · rw [if_neg h, if_neg (fun e => h (bP_o.mp e))]
theorem bP_c {c d : Prop} (h : c ↔ d) : bP c = bP d := by rw [propext h]
theorem bP_Z (c : Prop) [Decidable c] : bP c = iZ (if c then 1 else 0) := by rw [← bP_b2, b2_Z]
-- bits
theorem iZ_and (a b : Nat) : iZ (a : Int) &&& iZ (b : Int) = iZ ((a &&& b : Nat) : Int) := by
  rw [← iZ_nI, ← iZ_nI, ← iZ_nI]; exact fa_and a b
/-- what is in the first alone -/
def ndn (a b : Nat) : Nat := a ^^^ (a &&& b)
theorem ndn_bit (a b i : Nat) : (ndn a b).testBit i = (a.testBit i && !b.testBit i) := by
  unfold ndn
  rw [Nat.testBit_xor, Nat.testBit_and]
  cases a.testBit i <;> cases b.testBit i <;> rfl
theorem iZ_or (a b : Nat) : iZ (a : Int) ||| iZ (b : Int) = iZ ((a ||| b : Nat) : Int) := by
  rw [← iZ_nI, ← iZ_nI, ← iZ_nI]; exact fa_or a b
theorem iZ_xor (a b : Nat) : iZ (a : Int) ^^^ iZ (b : Int) = iZ ((a ^^^ b : Nat) : Int) := by
  rw [← iZ_nI, ← iZ_nI, ← iZ_nI]; exact fb_xorI a b
theorem bt_nI (n : Nat) {i : Nat} (hi : i < 32) : bt (nI n) i = n.testBit i := by
  show (BitVec.ofNat 32 n).getLsbD i = _
  rw [BitVec.getLsbD_ofNat, decide_eq_true hi, Bool.true_and]
theorem bt_iZ (n : Nat) {i : Nat} (hi : i < 32) : bt (iZ (n : Int)) i = n.testBit i := by rw [← iZ_nI]; exact bt_nI n hi
theorem bt_not (x : Int32) {i : Nat} (hi : i < 32) : bt (x ^^^ (-1)) i = !bt x i := by
  rw [b_xor, b_m1 i hi]; cases bt x i <;> rfl
theorem iZ_ndn (a b : Nat) : iZ (a : Int) &&& (iZ (b : Int) ^^^ iZ (-1)) = iZ ((ndn a b : Nat) : Int) := by
  refine b_ext fun i hi => ?_
  rw [b_and, ← iZ_m1, bt_not _ hi, bt_iZ _ hi, bt_iZ _ hi, bt_iZ _ hi, ndn_bit]
theorem iZ_ndn' (a b : Nat) : (iZ (b : Int) ^^^ iZ (-1)) &&& iZ (a : Int) = iZ ((ndn a b : Nat) : Int) := by
  refine b_ext fun i hi => ?_
  rw [b_and, ← iZ_m1, bt_not _ hi, bt_iZ _ hi, bt_iZ _ hi, bt_iZ _ hi, ndn_bit, Bool.and_comm]
theorem s_31 : ∀ n, n < 32 → nI n &&& 31 = nI n := by decide +kernel
theorem iZ_31 {p : Nat} (h : p < 32) : iZ (p : Int) &&& iZ 31 = iZ (p : Int) := by
  rw [← iZ_nI]; exact s_31 p h
theorem bt_1 : ∀ i, i < 32 → bt 1 i = decide (i = 0) := by decide +kernel
theorem bt_31 (n : Nat) (h : n < 2147483648) : bt (nI n) 31 = false := by
  rw [bt_nI n (by omega)]
  exact Nat.testBit_lt_two_pow (by omega)
theorem iZ_shr {n p : Nat} (hn : n < 2147483648) (hp : p < 32) : iZ (n : Int) >>> (iZ (p : Int) &&& iZ 31) = iZ ((n >>> p : Nat) : Int) := by
  refine b_ext fun i hi => ?_
  have e : iZ (n : Int) >>> (iZ (p : Int) &&& iZ 31) = nI n >>> (nI p &&& 31) := by rw [iZ_nI, iZ_nI]; rfl
  rw [e, b_sshr p hp _ hi, bt_iZ _ hi, Nat.testBit_shiftRight]
  split
  · exact bt_nI n (by omega)
  · rw [bt_31 n hn]
    exact (Nat.testBit_lt_two_pow (Nat.lt_of_lt_of_le hn (show 2 ^ 31 ≤ _ from Nat.pow_le_pow_right (by decide) (by omega)))).symm
theorem and1 (n : Nat) : n &&& 1 = if n.testBit 0 then 1 else 0 := by
  rw [Nat.and_one_is_mod, Nat.testBit_zero]
  have : n % 2 < 2 := Nat.mod_lt _ (by decide)
  by_cases h : n % 2 = 1
  · simp [h]
  · have : n % 2 = 0 := by omega
    simp [this]
theorem iZ_bit {n p : Nat} (hn : n < 2147483648) (hp : p < 32) : (iZ (n : Int) >>> (iZ (p : Int) &&& iZ 31)) &&& iZ 1 = bP (n.testBit p = true) := by
  rw [iZ_shr hn hp]
  have e : iZ ((n >>> p : Nat) : Int) &&& iZ 1 = iZ (((n >>> p) &&& 1 : Nat) : Int) := iZ_and (n >>> p) 1
  rw [e, and1, Nat.testBit_shiftRight, bP_Z, Nat.add_zero]
  by_cases h : n.testBit p = true <;> simp [h]
theorem iZ_one {p : Nat} (hp : p < 31) : iZ 1 <<< (iZ (p : Int) &&& iZ 31) = iZ ((2 ^ p : Nat) : Int) := by
  refine b_ext fun i hi => ?_
  have e : iZ 1 <<< (iZ (p : Int) &&& iZ 31) = 1 <<< (nI p &&& 31) := by rw [iZ_nI]; rfl
  rw [e, b_shl p (by omega) _ hi, bt_iZ _ hi, bt_1 _ (by omega), Nat.testBit_two_pow]
  by_cases h : p = i
  · simp [h]
  · by_cases h2 : p ≤ i
    · simp [h, h2]; omega
    · simp [h, h2]
theorem iZ_z {n : Nat} (h : n < 2147483648) : iZ (n : Int) = iZ 0 ↔ n = 0 := by
  rw [iZ_inj (by omega) (by omega)]; omega
theorem nS (i : Nat) : ((i + 1 : Nat) : Int) = (i : Int) + 1 := rfl
theorem nz0 (n : Nat) : ((n : Int) = 0) = (n = 0) := propext ⟨fun h => by omega, fun h => by omega⟩
theorem nzi (n m : Nat) : ((n : Int) = (m : Int)) = (n = m) := propext ⟨fun h => by omega, fun h => by omega⟩
-- the machine's next step as an equation
noncomputable def xk (sg : xS → Option xX) : Option xX → Option (Option xV × xM)
  | none => none
  | some (.inl r) => some r
  | some (.inr s) => xfix sg s
theorem xk_none (sg : xS → Option xX) : xk sg none = none := rfl
theorem xk_inl (sg : xS → Option xX) (r : Option xV × xM) : xk sg (some (.inl r)) = some r := rfl
theorem xk_inr (sg : xS → Option xX) (s : xS) : xk sg (some (.inr s)) = xfix sg s := rfl
theorem xk_ite (sg : xS → Option xX) (c : Prop) [Decidable c] (a b : Option xX) : xk sg (if c then a else b) = if c then xk sg a else xk sg b := by split <;> rfl
theorem xfix_unf (sg : xS → Option xX) (s : xS) : xfix sg s = xk sg (sg s) := by
  cases e : sg s with
  | none =>
    cases e2 : xfix sg s with
    | none => rfl
    | some r =>
      obtain ⟨n, hn⟩ := xfix_some e2
      cases n with
      | zero => cases hn
      | succ n =>
        unfold xrun at hn
        rw [e] at hn
        cases hn
  | some x =>
    cases x with
    | inl r => rw [xfix_done e]; rfl
    | inr s' => rw [xfix_next e]; rfl
theorem xri_v (v : Int32) (M : xM) (k : Int32 → xM → Option xX) : xri (some (some (.inl v), M)) k = k v M := rfl
theorem xrl_v (v : Int64) (M : xM) (k : Int64 → xM → Option xX) : xrl (some (some (.inr (.inl v)), M)) k = k v M := rfl
theorem xrv_v (M : xM) (k : xM → Option xX) : xrv (some (none, M)) k = k M := rfl
theorem rP {c d : Prop} {M : xM} (h : c ↔ d) : (some (some (.inl (bP c)), M) : Option (Option xV × xM)) = some (some (.inl (bP d)), M) := by rw [bP_c h]
