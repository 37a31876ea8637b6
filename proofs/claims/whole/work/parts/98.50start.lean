/-! both sides at the start -/
def zA0 : dA := (0, (fun _ => -1), 0, (fun _ => 0), (fun _ => 0), (fun _ => 0), (fun _ => 0), (fun w => if w < 6 then 1 else 0), (fun _ => false), fun _ => false)
def zS0 : dS := ((0, fun _ => 0), (0, -1), ((fun _ => 0), 0), ((fun _ => 0), fun _ _ => 0), (-1, 0, 0, 0))
theorem inM_rp {mem : List yK} {off : xR → Nat} {r : xR} {a b n j : Nat} {v : Int32} (h : mem[off r]? = some (a, b, List.replicate n (some (.inl v)))) (hj : j < n) : xI (inM mem off) r j = v := by
  have e : (List.replicate n (some (.inl v) : Option xV)).getD j none = some (.inl v) := by
    rw [List.getD_eq_getElem?_getD, List.getElem?_replicate, if_pos hj]
    rfl
  unfold xI inM
  dsimp only
  rw [h]
  dsimp only
  rw [e]
theorem z0_ok : aOk zA0 := by
  refine ⟨Nat.zero_le _, Nat.zero_le _, fun c _ => ⟨?_, ?_⟩, fun j hj => absurd hj (Nat.not_lt_zero j), fun w _ => ?_⟩
  · show (-1 : Int) ≤ -1
    omega
  · show (-1 : Int) < ((0 : Nat) : Int)
    omega
  · show (if w < 6 then 1 else 0) ≤ 99
    split <;> omega
theorem z0_m : mZ MM0 zA0 zS0 := by
  have e100 : ∀ c, c < 512 → xI MM0 (100, 0) c = iZ (-1) := fun c hc => inM_rp (mem := memM) (off := offM) (r := (100, 0)) (a := 1) (b := 512) (n := 512) rfl hc
  have e159 : ∀ c, c < 54 → xI MM0 (159, 0) c = iZ 0 := fun c hc => inM_rp (mem := memM) (off := offM) (r := (159, 0)) (a := 4) (b := 54) (n := 54) rfl hc
  have e108 : ∀ w, w < 7 → xI MM0 (108, 0) w = iZ (((if w < 6 then 1 else 0 : Nat)) : Int) := by decide +kernel
  have e109 : ∀ p, p < 9 → xI MM0 (109, 0) p = iZ 0 := by decide +kernel
  have f2 : xI MM0 (12, 0) 2 = iZ 0 := by decide +kernel
  have f3 : xI MM0 (12, 0) 3 = iZ 0 := by decide +kernel
  have f18 : xI MM0 (12, 0) 18 = iZ 0 := by decide +kernel
  have f25 : xI MM0 (12, 0) 25 = iZ 0 := by decide +kernel
  have f29 : xI MM0 (12, 0) 29 = iZ (-1) := by decide +kernel
  have f31 : xI MM0 (12, 0) 31 = iZ 0 := by decide +kernel
  have f58 : xI MM0 (12, 0) 58 = iZ 0 := by decide +kernel
  have f71 : xI MM0 (12, 0) 71 = iZ (-1) := by decide +kernel
  have f72 : xI MM0 (12, 0) 72 = iZ 0 := by decide +kernel
  have f73 : xI MM0 (12, 0) 73 = iZ 0 := by decide +kernel
  have f74 : xI MM0 (12, 0) 74 = iZ 0 := by decide +kernel
  have f82 : xI MM0 (12, 0) 82 = iZ 0 := by decide +kernel
  have f176 : xI MM0 (176, 0) 0 = iZ 0 := by decide +kernel
  refine ⟨⟨⟨z0_ok, f2, f3, fun c hc => e100 c hc, fun j hj => absurd hj (Nat.not_lt_zero j), fun w hw => e108 w hw, fun p hp => ?_, fun k hk => ?_⟩, ⟨fun p hp => absurd hp (Nat.not_lt_zero p), fun p hp => absurd hp (Nat.not_lt_zero p)⟩, fun heap h1 h2 => ?_, ⟨fun q hq => ?_, fun q hq => absurd hq (Nat.not_lt_zero q), fun q hq => absurd hq (Nat.not_lt_zero q), fun q hq => absurd hq (Nat.not_lt_zero q)⟩, .inl f31, .inl f82⟩, ⟨⟨f18, fun k hk => absurd hk (Nat.not_lt_zero k)⟩, ⟨f25, f29⟩, ⟨fun p hp => absurd hp (Nat.not_lt_zero p), f58⟩, fun q hq => absurd hq (Nat.not_lt_zero q), f71, f72, f73, f74⟩, ⟨Nat.zero_le _, fun k hk => absurd hk (Nat.not_lt_zero k), fun p hp => absurd hp (Nat.not_lt_zero p), fun q hq => absurd hq (Nat.not_lt_zero q)⟩, fun p hp => absurd hp (Nat.not_lt_zero p)⟩
  · have n : ¬ aBent zA0 p = true := fun z => absurd (show false = true from z) (by decide)
    rw [bP_f n]; exact e109 p hp
  · have n : ¬ aSw zA0 k = true := fun z => absurd (show false = true from z) (by decide)
    rw [bP_f n]; exact e159 k hk
  · have : heap < 1 := h2
    omega
  · have : q ≤ 0 := hq
    have e : q = 0 := by omega
    subst e
    have b0 : bgn zA0 0 = 0 := rfl
    rw [b0]
    exact f176
theorem z0_c : cZ MX0 zA0 zS0 := by
  have xl : ∀ r j, xL MX0 r j = 0 := fun _ _ => rfl
  have e38 : ∀ w, w < 6 → xI MX0 (38, 0) w = iZ 0 := by decide +kernel
  have e53 : ∀ w, w < 7 → xI MX0 (53, 0) w = iZ (((if w < 6 then 1 else 0 : Nat)) : Int) := by decide +kernel
  have e35 : ∀ p, p < 9 → xI MX0 (35, 0) p = iZ 0 := by decide +kernel
  have f50 : xI MX0 (5, 0) 0 = iZ 0 := by decide +kernel
  have f51 : xI MX0 (5, 0) 1 = iZ 0 := by decide +kernel
  have f52 : xI MX0 (5, 0) 2 = iZ 0 := by decide +kernel
  have f81 : xI MX0 (8, 0) 1 = iZ 0 := by decide +kernel
  have f82 : xI MX0 (8, 0) 2 = iZ 0 := by decide +kernel
  have f83 : xI MX0 (8, 0) 3 = iZ (-1) := by decide +kernel
  have f31 : xI MX0 (3, 0) 1 = iZ 0 := by decide +kernel
  have f46 : xI MX0 (4, 0) 6 = iZ (-1) := by decide +kernel
  have f06 : xI MX0 (0, 0) 6 = iZ 0 := by decide +kernel
  have f24 : xI MX0 (2, 0) 4 = iZ 0 := by decide +kernel
  have f16 : xI MX0 (1, 0) 6 = iZ 0 := by decide +kernel
  have f17 : xI MX0 (1, 0) 7 = iZ 0 := by decide +kernel
  have hw : ∀ (k : Nat) (B : Nat → Nat), cWy MX0 k 0 B := fun k B half _ w _ q _ => by
    rw [xl, lB_0]
    exact ⟨fun z => (by cases z), fun ⟨p, hp, _⟩ => absurd hp (Nat.not_lt_zero p)⟩
  refine ⟨⟨⟨⟨⟨f50, Nat.zero_le _, fun p hp => absurd hp (Nat.not_lt_zero p)⟩, f51, fun q hq => absurd hq (Nat.not_lt_zero q), fun j hj => absurd hj (Nat.not_lt_zero j), fun c hc => ?_⟩, f51, fun j hj => absurd hj (Nat.not_lt_zero j)⟩, ⟨0, f52, by omega, fun p hp => ?_⟩, ⟨fun _ => 0, fun w hw => ⟨e38 w hw, (show 0 < 512 by omega), fun p hp => ?_⟩⟩, ⟨⟨f81, Nat.zero_le _, fun k hk => absurd hk (Nat.not_lt_zero k)⟩, f82, f83⟩, fun w hw => e53 w hw, ⟨⟨fun p hp => absurd hp (Nat.not_lt_zero p), hw 0 _, xl _ _⟩, fun p hp => absurd hp (Nat.not_lt_zero p), hw 1 _, xl _ _⟩, ⟨fun p hp => ?_, f31⟩, .inl ⟨rfl, f46⟩⟩, .inl f06, .inl f24, .inl f16, .inl f17⟩
  · unfold sB
    rw [xl, lB_0]
    exact ⟨fun z => (by cases z), fun z => absurd (show aC zA0 c = -1 from rfl) z⟩
  · rw [Nat.zero_testBit]
    exact ⟨fun z => (by cases z), fun z => absurd (show false = true from z) (by decide)⟩
  · rw [Nat.zero_testBit]
    exact ⟨fun z => (by cases z), fun z => absurd (show false = true from z) (by decide)⟩
  · exact e35 p hp
