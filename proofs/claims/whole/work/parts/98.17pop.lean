/-! the class: Long.bitCount -/
def mkB (m : Nat) : Nat → Nat
  | 0 => 0
  | k + 1 => m + 256 * mkB m k
theorem and_256 {b y m z : Nat} (hb : b < 256) (hm : m < 256) : (b + 256 * y) &&& (m + 256 * z) = (b &&& m) + 256 * (y &&& z) := by
  refine Nat.eq_of_testBit_eq fun i => ?_
  have h1 : (b &&& m) < 2 ^ 8 := Nat.lt_of_le_of_lt Nat.and_le_left hb
  rw [Nat.add_comm b, Nat.add_comm m, Nat.add_comm (b &&& m), show (256 : Nat) = 2 ^ 8 from rfl, Nat.testBit_and, Nat.testBit_two_pow_mul_add _ (show b < 2 ^ 8 from hb), Nat.testBit_two_pow_mul_add _ (show m < 2 ^ 8 from hm), Nat.testBit_two_pow_mul_add _ h1]
  split <;> rw [Nat.testBit_and]
def pA (k n : Nat) : Nat := n - (n / 2 &&& mkB 85 k)
def pB (k n : Nat) : Nat := (n &&& mkB 51 k) + (n / 4 &&& mkB 51 k)
def pG (k n : Nat) : Nat := (n + n / 16) &&& mkB 15 k
def y1 (b : Nat) : Nat := b - (b / 2 &&& 85)
def y2 (b : Nat) : Nat := (b &&& 51) + (b / 4 &&& 51)
def y3 (b : Nat) : Nat := (b + b / 16) &&& 15
theorem by1 : ((List.range 256).all fun b => (List.range 2).all fun t => (b / 2 + 128 * t) &&& 85 == b / 2 &&& 85) = true := by decide +kernel
theorem by2 : ((List.range 256).all fun b => (List.range 4).all fun t => (b / 4 + 64 * t) &&& 51 == b / 4 &&& 51) = true := by decide +kernel
theorem by3 : ((List.range 256).all fun x => (List.range 5).all fun t => !(decide (x % 16 ≤ 4) && decide (x / 16 ≤ 4)) || (decide (x + x / 16 + 16 * t < 256) && ((x + x / 16 + 16 * t) &&& 15 == y3 x))) = true := by decide +kernel
theorem by4 : ((List.range 256).all fun b => decide (b / 2 &&& 85 ≤ b) && decide (y1 b < 256) && decide (y2 (y1 b) < 256) && decide (y2 (y1 b) % 16 ≤ 4) && decide (y2 (y1 b) / 16 ≤ 4) && decide (y3 (y2 (y1 b)) = fb_ct (fun i => b.testBit i) 8)) = true := by decide +kernel
theorem by4' {b : Nat} (h : b < 256) : b / 2 &&& 85 ≤ b ∧ y1 b < 256 ∧ y2 (y1 b) < 256 ∧ y2 (y1 b) % 16 ≤ 4 ∧ y2 (y1 b) / 16 ≤ 4 ∧ y3 (y2 (y1 b)) = fb_ct (fun i => b.testBit i) 8 := by
  have := List.all_eq_true.mp by4 b (List.mem_range.mpr h)
  simp only [Bool.and_eq_true, decide_eq_true_eq] at this
  obtain ⟨⟨⟨⟨⟨a, b⟩, c⟩, d⟩, e⟩, f⟩ := this
  exact ⟨a, b, c, d, e, f⟩
theorem pA_S {k b y : Nat} (hb : b < 256) : pA (k + 1) (b + 256 * y) = y1 b + 256 * pA k y := by
  have e1 : (b + 256 * y) / 2 = (b / 2 + 128 * (y % 2)) + 256 * (y / 2) := by omega
  have e2 : (b / 2 + 128 * (y % 2)) &&& 85 = b / 2 &&& 85 := eq_of_beq (List.all_eq_true.mp (List.all_eq_true.mp by1 b (List.mem_range.mpr hb)) (y % 2) (List.mem_range.mpr (by omega)))
  have h1 := (by4' hb).1
  have h2 : y / 2 &&& mkB 85 k ≤ y / 2 := Nat.and_le_left
  show (b + 256 * y) - ((b + 256 * y) / 2 &&& (85 + 256 * mkB 85 k)) = (b - (b / 2 &&& 85)) + 256 * (y - (y / 2 &&& mkB 85 k))
  rw [e1, and_256 (by omega) (by omega), e2]
  omega
theorem pB_S {k b y : Nat} (hb : b < 256) : pB (k + 1) (b + 256 * y) = y2 b + 256 * pB k y := by
  have e1 : (b + 256 * y) / 4 = (b / 4 + 64 * (y % 4)) + 256 * (y / 4) := by omega
  have e2 : (b / 4 + 64 * (y % 4)) &&& 51 = b / 4 &&& 51 := eq_of_beq (List.all_eq_true.mp (List.all_eq_true.mp by2 b (List.mem_range.mpr hb)) (y % 4) (List.mem_range.mpr (by omega)))
  show ((b + 256 * y) &&& (51 + 256 * mkB 51 k)) + ((b + 256 * y) / 4 &&& (51 + 256 * mkB 51 k)) = ((b &&& 51) + (b / 4 &&& 51)) + 256 * ((y &&& mkB 51 k) + (y / 4 &&& mkB 51 k))
  rw [e1, and_256 hb (by omega), and_256 (by omega) (by omega), e2]
  omega
theorem pG_S {k x z : Nat} (hx : x < 256) (h1 : x % 16 ≤ 4) (h2 : x / 16 ≤ 4) (hz : z % 16 ≤ 4) : pG (k + 1) (x + 256 * z) = y3 x + 256 * pG k z := by
  have e1 : x + 256 * z + (x + 256 * z) / 16 = (x + x / 16 + 16 * (z % 16)) + 256 * (z + z / 16) := by omega
  have e2 := List.all_eq_true.mp (List.all_eq_true.mp by3 x (List.mem_range.mpr hx)) (z % 16) (List.mem_range.mpr (by omega))
  rw [decide_eq_true h1, decide_eq_true h2, Bool.and_self, Bool.not_true, Bool.false_or, Bool.and_eq_true, decide_eq_true_eq] at e2
  show (x + 256 * z + (x + 256 * z) / 16) &&& (15 + 256 * mkB 15 k) = y3 x + 256 * ((z + z / 16) &&& mkB 15 k)
  rw [e1, and_256 e2.1 (by omega), eq_of_beq e2.2]
/-- digits to the base of 256, and their sum -/
def dig : Nat → Nat → Nat → Prop
  | 0, s, t => s = 0 ∧ t = 0
  | k + 1, s, t => ∃ p s' t', p ≤ 8 ∧ s = p + 256 * s' ∧ t = p + t' ∧ dig k s' t'
theorem pop_k : ∀ k n, n < 256 ^ k → dig k (pG k (pB k (pA k n))) (fb_ct (fun i => n.testBit i) (8 * k)) ∧ pB k (pA k n) % 16 ≤ 4
  | 0, n, h => by
    have : n = 0 := by simpa using h
    subst this
    exact ⟨⟨rfl, rfl⟩, by decide⟩
  | k + 1, n, h => by
    obtain ⟨b, y, hb, rfl⟩ : ∃ b y, b < 256 ∧ n = b + 256 * y := ⟨n % 256, n / 256, by omega, by omega⟩
    have hy : y < 256 ^ k := by
      have : (256 : Nat) ^ (k + 1) = 256 ^ k * 256 := Nat.pow_succ 256 k
      omega
    obtain ⟨i1, i2⟩ := pop_k k y hy
    obtain ⟨_, q1, q2, q3, q4, q5⟩ := by4' hb
    rw [pA_S hb, pB_S q1, pG_S q2 q3 q4 i2]
    have e : fb_ct (fun i => (b + 256 * y).testBit i) (8 * (k + 1)) = fb_ct (fun i => b.testBit i) 8 + fb_ct (fun i => y.testBit i) (8 * k) := by
      rw [show 8 * (k + 1) = 8 + 8 * k by omega, fb_ct_split]
      have tb : ∀ i, (b + 256 * y).testBit i = if i < 8 then b.testBit i else y.testBit (i - 8) := fun i => by
        rw [Nat.add_comm b, show (256 : Nat) = 2 ^ 8 from rfl]
        exact Nat.testBit_two_pow_mul_add _ (show b < 2 ^ 8 from hb) i
      congr 1
      · exact fb_ct_cong fun i hi => by rw [tb, if_pos hi]
      · exact fb_ct_cong fun i hi => by rw [tb, if_neg (by omega), show 8 + i - 8 = i by omega]
    rw [e]
    have l8 := fb_ct_le (fun i => b.testBit i) 8
    refine ⟨⟨_, _, _, l8, by rw [q5], rfl, i1⟩, by omega⟩
theorem dv_q {x y q : Nat} (h : x < q) : (x + q * y) / q = y := by
  rw [Nat.add_mul_div_left _ _ (by omega), Nat.div_eq_of_lt h, Nat.zero_add]
theorem dg_1 (p0 p1 p2 s2 s3 : Nat) : (p0 + 256 * p1 + 65536 * s2) + (p1 + 256 * p2 + 65536 * s3) = ((p0 + p1) + 256 * (p1 + p2)) + 65536 * (s2 + s3) := by omega
theorem dg_3 (p0 p1 p2 p3 p4 p5 p6 p7 : Nat) : ((p0 + p1) + 256 * (p1 + p2)) + 65536 * ((p2 + 256 * (p3 + 256 * (p4 + 256 * (p5 + 256 * (p6 + 256 * p7))))) + (p3 + 256 * (p4 + 256 * (p5 + 256 * (p6 + 256 * p7))))) + ((p2 + 256 * (p3 + 256 * (p4 + 256 * (p5 + 256 * (p6 + 256 * p7))))) + (p3 + 256 * (p4 + 256 * (p5 + 256 * (p6 + 256 * p7))))) = ((p0 + p1 + p2 + p3) + 256 * (p1 + p2 + p3 + p4) + 65536 * (p2 + p3 + p4 + p5) + 16777216 * (p3 + p4 + p5 + p6)) + 4294967296 * ((p4 + 256 * (p5 + 256 * (p6 + 256 * p7))) + (p5 + 256 * (p6 + 256 * p7)) + (p6 + 256 * p7) + p7) := by omega
theorem dg_4 {p0 p1 p2 p3 p4 p5 p6 p7 : Nat} (a0 : p0 ≤ 8) (a1 : p1 ≤ 8) (a2 : p2 ≤ 8) (a3 : p3 ≤ 8) (a4 : p4 ≤ 8) (a5 : p5 ≤ 8) (a6 : p6 ≤ 8) (a7 : p7 ≤ 8) : ((p0 + p1 + p2 + p3) + 256 * (p1 + p2 + p3 + p4) + 65536 * (p2 + p3 + p4 + p5) + 16777216 * (p3 + p4 + p5 + p6)) + 4294967296 * ((p4 + 256 * (p5 + 256 * (p6 + 256 * p7))) + (p5 + 256 * (p6 + 256 * p7)) + (p6 + 256 * p7) + p7) + ((p4 + 256 * (p5 + 256 * (p6 + 256 * p7))) + (p5 + 256 * (p6 + 256 * p7)) + (p6 + 256 * p7) + p7) = (p0 + p1 + p2 + p3 + p4 + p5 + p6 + p7) + 128 * (2 * ((p1 + p2 + p3 + p4 + p5 + p6 + p7) + 256 * ((p2 + p3 + p4 + p5 + p6 + p7) + 256 * ((p3 + p4 + p5 + p6 + p7) + 256 * ((p4 + p5 + p6 + p7) + 256 * ((p5 + p6 + p7) + 256 * ((p6 + p7) + 256 * p7))))))) := by omega
theorem dg_5 {x y : Nat} (h : x ≤ 64) : (x + 128 * y) % 128 = x := by omega
theorem dig_8 {s t : Nat} (h : dig 8 s t) : (s + s / 256) + (s + s / 256) / 65536 + ((s + s / 256) + (s + s / 256) / 65536) / 4294967296 < 18446744073709551616 ∧ ((s + s / 256) + (s + s / 256) / 65536 + ((s + s / 256) + (s + s / 256) / 65536) / 4294967296) % 128 = t ∧ t ≤ 64 := by
  obtain ⟨p0, s1, t1, a0, b0, c0, p1, s2, t2, a1, b1, c1, p2, s3, t3, a2, b2, c2, p3, s4, t4, a3, b3, c3, p4, s5, t5, a4, b4, c4, p5, s6, t6, a5, b5, c5, p6, s7, t7, a6, b6, c6, p7, s8, t8, a7, b7, c7, d1, d2⟩ := h
  have et : t = p0 + p1 + p2 + p3 + p4 + p5 + p6 + p7 := by omega
  clear c0 c1 c2 c3 c4 c5 c6 c7
  have e7 : s7 = p7 := by rw [b7, d1, Nat.mul_zero, Nat.add_zero]
  have e6 : s6 = p6 + 256 * p7 := by rw [b6, e7]
  have e5 : s5 = p5 + 256 * (p6 + 256 * p7) := by rw [b5, e6]
  have e4 : s4 = p4 + 256 * (p5 + 256 * (p6 + 256 * p7)) := by rw [b4, e5]
  have e3 : s3 = p3 + 256 * (p4 + 256 * (p5 + 256 * (p6 + 256 * p7))) := by rw [b3, e4]
  have e2 : s2 = p2 + 256 * (p3 + 256 * (p4 + 256 * (p5 + 256 * (p6 + 256 * p7)))) := by rw [b2, e3]
  have g1' : s1 = p1 + 256 * p2 + 65536 * s3 := by
    rw [b1, b2]; clear b0 b1 b2 b3 b4 b5 b6 b7 e2 e3 e4 e5 e6 e7 d1 d2; omega
  have g0' : s = p0 + 256 * p1 + 65536 * s2 := by
    rw [b0, b1]; clear b0 b1 b2 b3 b4 b5 b6 b7 e2 e3 e4 e5 e6 e7 d1 d2 g1'; omega
  have f0 : s / 256 = s1 := by rw [b0]; exact dv_q (by clear b0 b1 b2 b3 b4 b5 b6 b7 e2 e3 e4 e5 e6 e7 d1 d2 g0' g1'; omega)
  have g1 : s + s1 = ((p0 + p1) + 256 * (p1 + p2)) + 65536 * (s2 + s3) := by
    rw [g0', g1']; exact dg_1 _ _ _ _ _
  have f1 : (s + s1) / 65536 = s2 + s3 := by rw [g1]; exact dv_q (by clear b0 b1 b2 b3 b4 b5 b6 b7 e2 e3 e4 e5 e6 e7 d1 d2 g0' g1' g1 f0; omega)
  have g3 : s + s1 + (s2 + s3) = ((p0 + p1 + p2 + p3) + 256 * (p1 + p2 + p3 + p4) + 65536 * (p2 + p3 + p4 + p5) + 16777216 * (p3 + p4 + p5 + p6)) + 4294967296 * (s4 + s5 + s6 + s7) := by
    rw [g1, e2, e3, e4, e5, e6, e7]
    exact dg_3 _ _ _ _ _ _ _ _
  have f2 : (s + s1 + (s2 + s3)) / 4294967296 = s4 + s5 + s6 + s7 := by rw [g3]; exact dv_q (by clear b0 b1 b2 b3 b4 b5 b6 b7 e2 e3 e4 e5 e6 e7 d1 d2 g0' g1' g1 f0 f1 g3; omega)
  rw [f0, f1, f2, g3, et, e4, e5, e6, e7, dg_4 a0 a1 a2 a3 a4 a5 a6 a7]
  clear b0 b1 b2 b3 b4 b5 b6 b7 e2 e3 e4 e5 e6 e7 d1 d2 g0' g1' g1 f0 f1 f2 g3 et
  refine ⟨by omega, dg_5 (by omega), by omega⟩
def N64 (v : Int64) : Nat := v.toBitVec.toNat
theorem N_lt (v : Int64) : N64 v < 18446744073709551616 := v.toBitVec.isLt
theorem N_sub {x y : Int64} (h : N64 y ≤ N64 x) : N64 (x - y) = N64 x - N64 y := by
  unfold N64 at *
  rw [Int64.toBitVec_sub]
  exact BitVec.toNat_sub_of_le h
theorem N_add {x y : Int64} (h : N64 x + N64 y < 18446744073709551616) : N64 (x + y) = N64 x + N64 y := by
  unfold N64 at *
  rw [Int64.toBitVec_add, BitVec.toNat_add]
  exact Nat.mod_eq_of_lt h
theorem N_and (x y : Int64) : N64 (x &&& y) = N64 x &&& N64 y := by
  unfold N64
  rw [Int64.toBitVec_and, BitVec.toNat_and]
theorem N_shr (x : Int64) {p : Nat} (hp : p < 64) : N64 ((Int64.toUInt64 x >>> ((iZ (p : Int)).toInt64.toUInt64 &&& Int64.toUInt64 63)).toInt64) = N64 x / 2 ^ p := by
  unfold N64
  rw [UInt64.toBitVec_toInt64, UInt64.toBitVec_shiftRight, sh_amu p hp, BitVec.ushiftRight_eq', BitVec.toNat_ofNat, Nat.mod_eq_of_lt (by omega), BitVec.toNat_ushiftRight, Int64.toBitVec_toUInt64, Nat.shiftRight_eq_div_pow]
theorem N_lB (v : Int64) (i : Nat) : lB v i = (N64 v).testBit i := by
  unfold lB N64
  rw [BitVec.testBit_toNat]
theorem x_bitCountL {M : xM} {v : Int64} : fJ13_bitCount_95d88 [.inr (.inl v)] M = some (some (.inl (iZ ((fb_ct (fun i => lB v i) 64 : Nat)))), M) := by
  have s1 : ∀ x : Int64, N64 ((Int64.toUInt64 x >>> ((Int32.toInt64 1).toUInt64 &&& Int64.toUInt64 63)).toInt64) = N64 x / 2 := fun x => N_shr x (p := 1) (by omega)
  have s2 : ∀ x : Int64, N64 ((Int64.toUInt64 x >>> ((Int32.toInt64 2).toUInt64 &&& Int64.toUInt64 63)).toInt64) = N64 x / 4 := fun x => N_shr x (p := 2) (by omega)
  have s4 : ∀ x : Int64, N64 ((Int64.toUInt64 x >>> ((Int32.toInt64 4).toUInt64 &&& Int64.toUInt64 63)).toInt64) = N64 x / 16 := fun x => N_shr x (p := 4) (by omega)
  have s8 : ∀ x : Int64, N64 ((Int64.toUInt64 x >>> ((Int32.toInt64 8).toUInt64 &&& Int64.toUInt64 63)).toInt64) = N64 x / 256 := fun x => N_shr x (p := 8) (by omega)
  have s16 : ∀ x : Int64, N64 ((Int64.toUInt64 x >>> ((Int32.toInt64 16).toUInt64 &&& Int64.toUInt64 63)).toInt64) = N64 x / 65536 := fun x => N_shr x (p := 16) (by omega)
  have s32 : ∀ x : Int64, N64 ((Int64.toUInt64 x >>> ((Int32.toInt64 32).toUInt64 &&& Int64.toUInt64 63)).toInt64) = N64 x / 4294967296 := fun x => N_shr x (p := 32) (by omega)
  have m1 : N64 6148914691236517205 = mkB 85 8 := by decide +kernel
  have m2 : N64 3689348814741910323 = mkB 51 8 := by decide +kernel
  have m3 : N64 1085102592571150095 = mkB 15 8 := by decide +kernel
  have k2 : mkB 51 8 = 3689348814741910323 := by decide +kernel
  have hp := (pop_k 8 (N64 v) (N_lt v)).1
  have hA : N64 (v - ((Int64.toUInt64 v >>> ((Int32.toInt64 1).toUInt64 &&& Int64.toUInt64 63)).toInt64 &&& 6148914691236517205)) = pA 8 (N64 v) := by
    have : N64 ((Int64.toUInt64 v >>> ((Int32.toInt64 1).toUInt64 &&& Int64.toUInt64 63)).toInt64 &&& 6148914691236517205) = N64 v / 2 &&& mkB 85 8 := by rw [N_and, s1, m1]
    rw [N_sub (by rw [this]; exact Nat.le_trans Nat.and_le_left (Nat.div_le_self _ _)), this]
    rfl
  have hct : fb_ct (fun i => lB v i) 64 = fb_ct (fun i => (N64 v).testBit i) (8 * 8) := fb_ct_cong fun i _ => N_lB v i
  rw [hct]
  generalize fb_ct (fun i => (N64 v).testBit i) (8 * 8) = t at *
  show xfix gJ13_bitCount_95d88 (0, [some (.inr (.inl v)), none], [], M) = _
  refine xfix_done ?_
  rw [sJ13_bitCount_95d88_0]
  rw [← hA] at hp
  generalize v - ((Int64.toUInt64 v >>> ((Int32.toInt64 1).toUInt64 &&& Int64.toUInt64 63)).toInt64 &&& 6148914691236517205) = a at *
  have hB : N64 ((a &&& 3689348814741910323) + ((Int64.toUInt64 a >>> ((Int32.toInt64 2).toUInt64 &&& Int64.toUInt64 63)).toInt64 &&& 3689348814741910323)) = pB 8 (N64 a) := by
    have l1 : N64 a &&& mkB 51 8 ≤ mkB 51 8 := Nat.and_le_right
    have l2 : N64 a / 4 &&& mkB 51 8 ≤ mkB 51 8 := Nat.and_le_right
    rw [N_add (by rw [N_and, N_and, s2, m2]; omega), N_and, N_and, s2, m2]
    rfl
  rw [← hB] at hp
  generalize (a &&& 3689348814741910323) + ((Int64.toUInt64 a >>> ((Int32.toInt64 2).toUInt64 &&& Int64.toUInt64 63)).toInt64 &&& 3689348814741910323) = b at *
  have hbl : N64 b ≤ 7378697629483820646 := by
    rw [hB]
    have l1 : N64 a &&& mkB 51 8 ≤ mkB 51 8 := Nat.and_le_right
    have l2 : N64 a / 4 &&& mkB 51 8 ≤ mkB 51 8 := Nat.and_le_right
    show (N64 a &&& mkB 51 8) + (N64 a / 4 &&& mkB 51 8) ≤ _
    omega
  have hC : N64 ((b + (Int64.toUInt64 b >>> ((Int32.toInt64 4).toUInt64 &&& Int64.toUInt64 63)).toInt64) &&& 1085102592571150095) = pG 8 (N64 b) := by
    rw [N_and, N_add (by rw [s4]; omega), s4, m3]
    rfl
  rw [← hC] at hp
  generalize (b + (Int64.toUInt64 b >>> ((Int32.toInt64 4).toUInt64 &&& Int64.toUInt64 63)).toInt64) &&& 1085102592571150095 = c at *
  obtain ⟨d1, d2, d3⟩ := dig_8 hp
  have hD : N64 (c + (Int64.toUInt64 c >>> ((Int32.toInt64 8).toUInt64 &&& Int64.toUInt64 63)).toInt64) = N64 c + N64 c / 256 := by rw [N_add (by rw [s8]; omega), s8]
  rw [← hD] at d1 d2
  generalize c + (Int64.toUInt64 c >>> ((Int32.toInt64 8).toUInt64 &&& Int64.toUInt64 63)).toInt64 = d at *
  have hE : N64 (d + (Int64.toUInt64 d >>> ((Int32.toInt64 16).toUInt64 &&& Int64.toUInt64 63)).toInt64) = N64 d + N64 d / 65536 := by rw [N_add (by rw [s16]; omega), s16]
  rw [← hE] at d1 d2
  generalize d + (Int64.toUInt64 d >>> ((Int32.toInt64 16).toUInt64 &&& Int64.toUInt64 63)).toInt64 = e at *
  have hF : N64 (e + (Int64.toUInt64 e >>> ((Int32.toInt64 32).toUInt64 &&& Int64.toUInt64 63)).toInt64) = N64 e + N64 e / 4294967296 := by rw [N_add (by rw [s32]; omega), s32]
  rw [← hF] at d1 d2
  generalize e + (Int64.toUInt64 e >>> ((Int32.toInt64 32).toUInt64 &&& Int64.toUInt64 63)).toInt64 = f at *
  have hfin : Int64.toInt32 f &&& 127 = iZ (t : Int) := by
    refine i32_ext fun i hi => ?_
    have b127 : ∀ i, i < 32 → bt 127 i = decide (i < 7) := by decide +kernel
    rw [bt_and, bt_l2i f hi, b127 i hi, bt_iZ t hi, N_lB, ← d2, show (128 : Nat) = 2 ^ 7 from rfl, Nat.testBit_mod_two_pow, Bool.and_comm]
  rw [hfin]
