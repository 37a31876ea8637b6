/-! the class: how far till it is out -/
/-- the half and the rest are loaded -/
def cLd (M : xM) (A : dA) (half rest : Nat) : Prop := ∀ c, c < 512 → (sB M 44 c = true ↔ inH A half c) ∧ (sB M 45 c = true ↔ inH A rest c)
theorem x_load {M : xM} {A : dA} {heap half : Nat} (hA : aOk A) (h : cBd M 0 (aP A) (aC A)) (hh : heap < 2 ^ aP A) (hs : half &&& heap = half) : ∃ M', fX7_load [.inr (.inr (7, 0)), .inl (iZ (heap)), .inl (iZ (half))] M = some (none, M') ∧ xSame (fun r => r = (44, 44) ∨ r = (44, 45)) M M' ∧ cLd M' A half (ndn heap half) := by
  have hP := hA.P
  have h512 := Nat.lt_of_lt_of_le hh (pow9 hP).2
  have hn := ndn_le heap half
  have hf := and_lt hs h512
  obtain ⟨M1, a1, a2, a3⟩ := x_collect (M := M) (s := 0) (k := 44) (set := half) h (fun p hp => by omega) hf
  have h1 : cBd M1 0 (aP A) (aC A) := ⟨by rw [(a2 (5, 0) (by simp)).1]; exact h.1, hP, fun p hp c hc => by rw [sB_same a2 (by simp; omega) c]; exact h.2.2 p hp c hc⟩
  obtain ⟨M2, b1, b2, b3⟩ := x_collect (M := M1) (s := 0) (k := 45) (set := ndn heap half) h1 (fun p hp => by omega) (by omega)
  have key : ∀ set c, c < 512 → ((∃ p, p < aP A ∧ set.testBit p = true ∧ aC A c = (p : Int)) ↔ inH A set c) := fun set c hc => by
    unfold inH
    constructor
    · rintro ⟨p, _, p2, p3⟩; exact ⟨p, p3, p2⟩
    · rintro ⟨p, p3, p2⟩
      have := (hA.C hc).2
      exact ⟨p, by omega, p2, p3⟩
  refine ⟨M2, ?_, (a2.wk fun r z => .inl z).tr (b2.wk fun r z => .inr z), fun c hc => ⟨?_, ?_⟩⟩
  · have hnd' : iZ (heap : Int) &&& (iZ (half : Int) ^^^ iZ (-1)) = iZ ((ndn heap half : Nat) : Int) := iZ_ndn heap half
    generalize ndn heap half = rs at *
    show xfix gX7_load (0, [some (.inr (.inr (7, 0))), some (.inl (iZ (heap))), some (.inl (iZ (half)))], [], M) = _; rw [xfix_unf, sX7_load_0]
    simp (disch := omega) only [xk_none, xk_inl, xk_inr, xk_ite, xri_v, xrl_v, xrv_v, xb_z0, xb_z1, xb_b2, if_true, if_false, ite_true, ite_false, iZ_lit, iZ_m1, iZ_m99, iZ_m8, iZ_add, iZ_sub, iZ_mul, iZ_neg, nz0, nzi, iZ_lt, iZ_le, iZ_inj, b2_z, b2_o, ite_bPz, ite_bPo, xb_bP, iZ_xin, if_pos, ite_self, ↓reduceIte, Int.reduceAdd, Int.reduceSub, Int.reduceMul, Int.reduceNeg, Int.reduceLT, Int.reduceLE, if_neg, a1, hnd', b1]
  · rw [sB_same b2 (by simp) c, a3 c hc]; exact key half c hc
  · rw [b3 c hc]; exact key _ c hc
theorem spn_d : ((List.range 8).all fun l => (List.range 8).all fun h => (List.range 32).all fun v => (!decide (l ≤ h)) || ((2 ^ (h + 1) - 2 ^ l).testBit v == (decide (l ≤ v) && decide (v ≤ h)))) = true := by decide +kernel
theorem spn_b {l h v : Nat} (hl : l ≤ h) (hh : h < 8) (hv : v < 32) : (2 ^ (h + 1) - 2 ^ l).testBit v = true ↔ l ≤ v ∧ v ≤ h := by
  have q := List.all_eq_true.mp (List.all_eq_true.mp (List.all_eq_true.mp spn_d l (List.mem_range.mpr (by omega))) h (List.mem_range.mpr hh)) v (List.mem_range.mpr hv)
  rw [decide_eq_true hl, Bool.not_true, Bool.false_or] at q
  rw [eq_of_beq q, Bool.and_eq_true, decide_eq_true_eq, decide_eq_true_eq]
theorem sh2_d : ∀ p : Nat, p < 8 → iZ 2 <<< (iZ (p : Int) &&& iZ 31) = iZ ((2 ^ (p + 1) : Nat) : Int) := by decide +kernel
theorem x_spanOf {M : xM} {b l h : Nat} (hb : b < 256) (hl : (if b = 0 then 0 else (jLw b 8 : Int)) = (l : Int)) (hh : (if b = 0 then 0 else jHw b) = (h : Int)) (h8 : h < 8) (l8 : l ≤ h) : fX7_spanOf [.inl (iZ (b))] M = some (some (.inl (iZ (((2 ^ (h + 1) - 2 ^ l : Nat) : Int)))), M) := by
  have h1 := x_lowest (M := M) hb
  have h2 := x_highest (M := M) hb
  rw [hl] at h1
  rw [hh] at h2
  have s1 := sh2_d h h8
  have s2 := iZ_one (p := l) (by omega)
  have hle : 2 ^ l ≤ 2 ^ (h + 1) := Nat.pow_le_pow_right (by omega) (by omega)
  have e : ((2 ^ (h + 1) : Nat) : Int) - ((2 ^ l : Nat) : Int) = ((2 ^ (h + 1) - 2 ^ l : Nat) : Int) := by omega
  generalize 2 ^ (h + 1) - 2 ^ l = d at *
  generalize (2 : Nat) ^ (h + 1) = x at *
  generalize (2 : Nat) ^ l = y at *
  show xfix gX7_spanOf (0, [some (.inl (iZ (b)))], [], M) = _; rw [xfix_unf, sX7_spanOf_0]
  simp (disch := omega) only [xk_none, xk_inl, xk_inr, xk_ite, xri_v, xrl_v, xrv_v, xb_z0, xb_z1, xb_b2, if_true, if_false, ite_true, ite_false, iZ_lit, iZ_m1, iZ_m99, iZ_m8, iZ_add, iZ_sub, iZ_mul, iZ_neg, nz0, nzi, iZ_lt, iZ_le, iZ_inj, b2_z, b2_o, ite_bPz, ite_bPo, xb_bP, iZ_xin, if_pos, ite_self, ↓reduceIte, Int.reduceAdd, Int.reduceSub, Int.reduceMul, Int.reduceNeg, Int.reduceLT, Int.reduceLE, if_neg, h2, h1, s1, s2, e]
theorem iZ_sl1 {n : Nat} : iZ (n : Int) <<< (iZ 1 &&& iZ 31) = iZ ((2 * n : Nat) : Int) := by
  refine b_ext fun i hi => ?_
  have e : iZ (n : Int) <<< (iZ 1 &&& iZ 31) = nI n <<< (nI 1 &&& 31) := by rw [iZ_nI]; rfl
  rw [e, b_shl 1 (by omega) _ hi, bt_iZ _ hi, show 2 * n = 2 ^ 1 * n by omega, Nat.testBit_two_pow_mul]
  by_cases z : 1 ≤ i
  · rw [bt_nI n (by omega)]; first | done | simp [z]
  · simp [z]
/-- numbers at an axis, moved -/
def tmv (s : Nat) (T d : Nat) : Nat := if s = 0 then 2 ^ d * T else T >>> d
theorem tmv_b {s T d v : Nat} : (tmv s T d).testBit v = true ↔ (s = 0 ∧ d ≤ v ∧ T.testBit (v - d) = true) ∨ (s ≠ 0 ∧ T.testBit (d + v) = true) := by
  unfold tmv
  by_cases z : s = 0
  · rw [if_pos z, Nat.testBit_two_pow_mul, Bool.and_eq_true, decide_eq_true_eq]
    exact ⟨fun q => .inl ⟨z, q⟩, fun q => q.elim (fun w => w.2) fun w => absurd z w.1⟩
  · rw [if_neg z, Nat.testBit_shiftRight]
    exact ⟨fun q => .inr ⟨z, q⟩, fun q => q.elim (fun w => absurd w.1 z) fun w => w.2⟩
theorem has_sh {A : dA} {set a : Nat} {f : Nat → Bool} (hf : ∀ c, c < 512 → (f c = true ↔ inH A set c)) (v : Nat) : (∃ c, c < 512 ∧ f c = true ∧ alg c a = v) ↔ hasA A set a 512 v := ⟨fun ⟨c, q1, q2, q3⟩ => ⟨c, q1, (hf c q1).mp q2, q3⟩, fun ⟨c, q1, q2, q3⟩ => ⟨c, q1, (hf c q1).mpr q2, q3⟩⟩
theorem bA_lo {A : dA} {set a : Nat} (he : ∃ c, c < 512 ∧ inH A set c) : ∃ l h : Nat, bA A set (2 * a) = l ∧ bA A set (2 * a + 1) = h ∧ lst (hasA A set a 512) 8 = l ∧ hst (hasA A set a 512) 8 = h ∧ l ≤ h ∧ h < 8 := by
  obtain ⟨c, c1, c2⟩ := he
  have hv : hasA A set a 512 (alg c a) := ⟨c, c1, c2, rfl⟩
  have h8 := alg_lt c1 a
  have l8 : lst (hasA A set a 512) 8 < 8 := Classical.byContradiction fun z => lst_no _ 8 (alg c a) (by omega) hv
  have e99 : lst (hasA A set a 512) 99 = lst (hasA A set a 512) 8 := lst_eq (by omega) (fun i hi => lst_no _ 8 i hi) (fun _ => lst_is _ 8 l8)
  have hr := hst_rng (hasA A set a 512) 8
  have key : ∀ n v, v < n → hasA A set a 512 v → (v : Int) ≤ hst (hasA A set a 512) n := fun n => by
    induction n with
    | zero => intro v h; omega
    | succ n ih =>
      intro v hn hv
      show (v : Int) ≤ @ite _ (hasA A set a 512 n) (Classical.propDecidable _) (n : Int) (hst (hasA A set a 512) n)
      by_cases z : hasA A set a 512 n
      · rw [if_pos z]; omega
      · rw [if_neg z]
        refine ih v ?_ hv
        by_cases w : v = n
        · subst w; exact absurd hv z
        · omega
  have hlo := key 8 _ l8 (lst_is _ 8 l8)
  refine ⟨lst (hasA A set a 512) 8, (hst (hasA A set a 512) 8).toNat, ?_, ?_, rfl, by omega, by omega, by omega⟩
  · unfold bA
    rw [if_pos (by omega), show 2 * a / 2 = a by omega]
    show (loA A set a : Int) = _
    unfold loA
    rw [e99]
  · unfold bA
    rw [if_neg (by omega), show (2 * a + 1) / 2 = a by omega]
    show hiA A set a = _
    unfold hiA
    omega
theorem x_span {M : xM} {A : dA} {set a k : Nat} (ha : a < 3) (hf : ∀ c, c < 512 → (sB M k c = true ↔ inH A set c)) (he : ∃ c, c < 512 ∧ inH A set c) : ∃ sp : Nat, fX7_spanOf [.inl (iZ ((shW (sB M k) a)))] M = some (some (.inl (iZ ((sp : Int)))), M) ∧ sp < 512 ∧ ∀ v : Nat, v < 32 → (sp.testBit v = true ↔ bA A set (2 * a) ≤ v ∧ (v : Int) ≤ bA A set (2 * a + 1)) := by
  obtain ⟨l, h, e1, e2, e3, e4, e5, e6⟩ := bA_lo (A := A) (a := a) he
  obtain ⟨c, c1, c2⟩ := he
  obtain ⟨x1, x2, x3, x4⟩ := sh_lh (p := hasA A set a 512) (f := sB M k) (a := a) ⟨alg c a, alg_lt c1 a, c, c1, c2, rfl⟩ (fun v _ => has_sh hf v)
  rw [e3] at x1
  rw [e4] at x2
  refine ⟨2 ^ (h + 1) - 2 ^ l, x_spanOf (msk_lt _ 8) x1 x2 e6 e5, ?_, fun v hv => ?_⟩
  · have : 2 ^ (h + 1) ≤ 2 ^ 8 := Nat.pow_le_pow_right (by omega) (by omega)
    exact Nat.lt_of_le_of_lt (Nat.sub_le _ _) (Nat.lt_of_le_of_lt this (by decide))
  · rw [spn_b e5 e6 hv, e1, e2]; omega
theorem x_cellsTillOut {M : xM} {A : dA} {heap half w : Nat} (hw : w < 6) (hL : cLd M A half (ndn heap half)) (he : ∃ c, c < 512 ∧ inH A (ndn heap half) c) : ∃ M', fX7_cellsTillOut [.inr (.inr (7, 0)), .inl (iZ (w))] M = some (some (.inl (iZ ((mnt A heap half w : Nat)))), M') ∧ xSame (fun r => r = (44, 46)) M M' := by
  obtain ⟨rest, er⟩ : ∃ rest, rest = ndn heap half := ⟨_, rfl⟩
  rw [← er] at hL he
  have hX := x_axisOf (M := M) (w := w) (by omega)
  obtain ⟨M1, a1, a2, a3⟩ := x_copy (M := M) (k := 46) (j := 44) (by omega)
  have ax3 : w / 2 < 3 := by omega
  obtain ⟨M2, b1, b2, b3⟩ := xfor_M (sg := gX7_cellsTillOut) (st := fun i M => (18, [some (.inr (.inr (7, 0))), some (.inl (iZ (w))), some (.inl (iZ (((w / 2 : Nat))))), some (.inl (iZ (i))), none, none], [], M)) (I := fun n K => xSame (fun r => r = (44, 46)) M K ∧ ∀ c, c < 512 → (sB K 46 c = true ↔ inH A half c ∧ ∀ a, a < n → a ≠ w / 2 → bA A rest (2 * a) ≤ alg c a ∧ (alg c a : Int) ≤ bA A rest (2 * a + 1))) (n := 3) (fun i K hi hK => by
    obtain ⟨k1, k2⟩ := hK
    by_cases e : i = w / 2
    · refine ⟨K, ?_, k1, fun c hc => ?_⟩
      · rw [nS]
        generalize w / 2 = ax at *
        subst e
        rw [xfix_unf, sX7_cellsTillOut_18]
        simp (disch := omega) only [xk_none, xk_inl, xk_inr, xk_ite, xri_v, xrl_v, xrv_v, xb_z0, xb_z1, xb_b2, if_true, if_false, ite_true, ite_false, iZ_lit, iZ_m1, iZ_m99, iZ_m8, iZ_add, iZ_sub, iZ_mul, iZ_neg, nz0, nzi, iZ_lt, iZ_le, iZ_inj, b2_z, b2_o, ite_bPz, ite_bPo, xb_bP, iZ_xin, if_pos, ite_self, ↓reduceIte, Int.reduceAdd, Int.reduceSub, Int.reduceMul, Int.reduceNeg, Int.reduceLT, Int.reduceLE, if_neg]
      · rw [k2 c hc]
        exact and_congr_right fun _ => ⟨fun z a h1 h2 => z a (by omega) h2, fun z a h1 h2 => z a (by omega) h2⟩
    · have h45 : ∀ c, c < 512 → (sB K 45 c = true ↔ inH A rest c) := fun c hc => by rw [sB_same k1 (by simp) c]; exact (hL c hc).2
      have hsh := x_shadow (M := K) (k := 45) (a := i) hi
      obtain ⟨sp, s1, s2, s3⟩ := x_span (M := K) (k := 45) hi h45 he
      obtain ⟨K1, c1, c2, c3⟩ := x_keep (M := K) (k := 46) (a := i) (b := sp) hi (by omega)
      refine ⟨K1, ?_, k1.tr c2, fun c hc => ?_⟩
      · rw [nS]
        generalize w / 2 = ax at *
        generalize shW (sB K 45) i = sw at *
        rw [xfix_unf, sX7_cellsTillOut_18]
        simp (disch := omega) only [xk_none, xk_inl, xk_inr, xk_ite, xri_v, xrl_v, xrv_v, xb_z0, xb_z1, xb_b2, if_true, if_false, ite_true, ite_false, iZ_lit, iZ_m1, iZ_m99, iZ_m8, iZ_add, iZ_sub, iZ_mul, iZ_neg, nz0, nzi, iZ_lt, iZ_le, iZ_inj, b2_z, b2_o, ite_bPz, ite_bPo, xb_bP, iZ_xin, if_pos, ite_self, ↓reduceIte, Int.reduceAdd, Int.reduceSub, Int.reduceMul, Int.reduceNeg, Int.reduceLT, Int.reduceLE, if_neg, hsh, s1, c1]
      · have h8 := alg_lt hc i
        rw [c3 c hc, Bool.and_eq_true, k2 c hc, s3 _ (by omega)]
        constructor
        · rintro ⟨⟨z1, z2⟩, z3⟩
          refine ⟨z1, fun a h1 h2 => ?_⟩
          by_cases y : a = i
          · subst y; exact z3
          · exact z2 a (by omega) h2
        · rintro ⟨z1, z2⟩
          exact ⟨⟨z1, fun a h1 h2 => z2 a (by omega) h2⟩, z2 i (by omega) e⟩) (a := 0) (M := M1) (by omega) ⟨a2, fun c hc => by
      rw [a3 c hc, (hL c hc).1]
      exact ⟨fun z => ⟨z, fun a h => by omega⟩, fun z => z.1⟩⟩
  have h45 : ∀ c, c < 512 → (sB M2 45 c = true ↔ inH A rest c) := fun c hc => by rw [sB_same b2 (by simp) c]; exact (hL c hc).2
  have hs1 := x_shadow (M := M2) (k := 46) (a := w / 2) ax3
  have hs2 := x_shadow (M := M2) (k := 45) (a := w / 2) ax3
  obtain ⟨sp, s1, s2, s3⟩ := x_span (M := M2) (k := 45) ax3 h45 he
  obtain ⟨T, eT⟩ : ∃ T, T = shW (sB M2 46) (w / 2) := ⟨_, rfl⟩
  have Tl : T < 256 := by rw [eT]; exact msk_lt _ 8
  have Tb : ∀ v, T.testBit v = true ↔ v < 8 ∧ ∃ c, c < 512 ∧ (inH A half c ∧ ∀ a, a < 3 → a ≠ w / 2 → bA A rest (2 * a) ≤ alg c a ∧ (alg c a : Int) ≤ bA A rest (2 * a + 1)) ∧ alg c (w / 2) = v := fun v => by
    rw [eT]
    unfold shW
    rw [msk_bit]
    exact and_congr_right fun _ => ⟨fun ⟨c, q1, q2, q3⟩ => ⟨c, q1, (b3 c q1).mp q2, q3⟩, fun ⟨c, q1, q2, q3⟩ => ⟨c, q1, (b3 c q1).mpr q2, q3⟩⟩
  obtain ⟨l, h, e1, e2, _, _, e5, e6⟩ := bA_lo (A := A) (a := w / 2) he
  have stpv : stp w (w / 2) = (if w % 2 = 0 then 1 else -1) ∧ ∀ a, a < 3 → a ≠ w / 2 → stp w a = 0 := by
    have key : ∀ w, w < 6 → stp w (w / 2) = (if w % 2 = 0 then 1 else -1) ∧ ∀ a, a < 3 → a ≠ w / 2 → stp w a = 0 := by decide +kernel
    exact key w hw
  have hit : ∀ d, d ≤ 16 → (tmv (w % 2) T d &&& sp ≠ 0 ↔ wth A rest half w d) := fun d hd => by
    rw [and_nz]
    unfold wth gdc
    constructor
    · rintro ⟨v, q1, q2⟩
      have v9 : v < 9 := bit_lt (n := 9) s2 q2
      have q2' := (s3 v (by omega)).mp q2
      rcases tmv_b.mp q1 with ⟨z1, z2, z3⟩ | ⟨z1, z3⟩
      · obtain ⟨_, c, y1, ⟨y2, y3⟩, y4⟩ := (Tb _).mp z3
        refine ⟨c, y1, y2, fun a ha => ?_⟩
        by_cases y : a = w / 2
        · subst y
          rw [stpv.1, if_pos z1, y4]
          omega
        · rw [stpv.2 a ha y, Int.mul_zero, Int.add_zero]; exact y3 a ha y
      · obtain ⟨_, c, y1, ⟨y2, y3⟩, y4⟩ := (Tb _).mp z3
        refine ⟨c, y1, y2, fun a ha => ?_⟩
        by_cases y : a = w / 2
        · subst y
          rw [stpv.1, if_neg z1, y4]
          omega
        · rw [stpv.2 a ha y, Int.mul_zero, Int.add_zero]; exact y3 a ha y
    · rintro ⟨c, y1, y2, y3⟩
      have y4 := y3 (w / 2) ax3
      have h8 := alg_lt y1 (w / 2)
      have hT : T.testBit (alg c (w / 2)) = true := (Tb _).mpr ⟨h8, c, y1, ⟨y2, fun a ha hn => by
        have := y3 a ha
        rw [stpv.2 a ha hn, Int.mul_zero, Int.add_zero] at this; exact this⟩, rfl⟩
      rw [stpv.1, e1, e2] at y4
      by_cases z : w % 2 = 0
      · rw [if_pos z] at y4
        refine ⟨alg c (w / 2) + d, tmv_b.mpr (.inl ⟨z, by omega, by rw [Nat.add_sub_cancel]; exact hT⟩), (s3 _ (by omega)).mpr ?_⟩
        rw [e1, e2]; omega
      · rw [if_neg z] at y4
        refine ⟨alg c (w / 2) - d, tmv_b.mpr (.inr ⟨z, by rw [show d + (alg c (w / 2) - d) = alg c (w / 2) by omega]; exact hT⟩), (s3 _ (by omega)).mpr ?_⟩
        rw [e1, e2]; omega
  have no8 : ∀ d, 8 ≤ d → ¬ wth A rest half w d := fun d hd ⟨c, y1, y2, y3⟩ => by
    have y4 := y3 (w / 2) ax3
    have h8 := alg_lt y1 (w / 2)
    rw [stpv.1, e1, e2] at y4
    by_cases z : w % 2 = 0
    · rw [if_pos z] at y4; omega
    · rw [if_neg z] at y4; omega
  have hS := x_signOf (M := M2) (w := w) (by omega)
  have em : mnt A heap half w = lst (fun d => ¬ wth A rest half w d) 17 := by rw [er]; rfl
  have lp := xfor_R (sg := gX7_cellsTillOut) (st := fun d K => (78, [none, some (.inl (iZ (w))), none, some (.inl (iZ ((tmv (w % 2) T d)))), some (.inl (iZ (sp))), some (.inl (iZ (d)))], [], K)) (I := fun d K => K = M2 ∧ ∀ d', d' < d → wth A rest half w d') (Q := fun o => o = some (some (.inl (iZ ((mnt A heap half w : Nat)))), M2)) (n := 16) (fun d K hd hK => by
    obtain ⟨rfl, hp⟩ := hK
    have hh := hit d (by omega)
    have hand : iZ ((tmv (w % 2) T d : Nat) : Int) &&& iZ (sp : Int) = iZ ((tmv (w % 2) T d &&& sp : Nat) : Int) := iZ_and _ _
    have hal : tmv (w % 2) T d &&& sp < 512 := Nat.lt_of_le_of_lt Nat.and_le_right s2
    by_cases y : wth A rest half w d
    · refine .inl ⟨K, ?_, rfl, fun d' h' => ?_⟩
      · have nz := hh.mpr y
        have d8 : d < 8 := Classical.byContradiction fun z => no8 d (by omega) y
        show xfix gX7_cellsTillOut (78, [none, some (.inl (iZ (w))), none, some (.inl (iZ ((tmv (w % 2) T d)))), some (.inl (iZ (sp))), some (.inl (iZ (d)))], [], K) = xfix gX7_cellsTillOut (78, [none, some (.inl (iZ (w))), none, some (.inl (iZ ((tmv (w % 2) T (d + 1))))), some (.inl (iZ (sp))), some (.inl (iZ (((d + 1 : Nat)))))], [], K)
        rw [nS]
        by_cases z : w % 2 = 0
        · rw [if_pos z] at hS
          have e3 : tmv (w % 2) T (d + 1) = 2 * tmv (w % 2) T d := by
            unfold tmv
            rw [if_pos z, if_pos z, Nat.pow_succ, Nat.mul_comm (2 ^ d) 2, Nat.mul_assoc]
          have hsl := iZ_sl1 (n := tmv (w % 2) T d)
          rw [e3]
          generalize (tmv (w % 2) T d &&& sp : Nat) = za at *
          generalize tmv (w % 2) T d = tv at *
          rw [xfix_unf, sX7_cellsTillOut_78]
          simp (disch := omega) only [xk_none, xk_inl, xk_inr, xk_ite, xri_v, xrl_v, xrv_v, xb_z0, xb_z1, xb_b2, if_true, if_false, ite_true, ite_false, iZ_lit, iZ_m1, iZ_m99, iZ_m8, iZ_add, iZ_sub, iZ_mul, iZ_neg, nz0, nzi, iZ_lt, iZ_le, iZ_inj, b2_z, b2_o, ite_bPz, ite_bPo, xb_bP, iZ_xin, if_pos, ite_self, ↓reduceIte, Int.reduceAdd, Int.reduceSub, Int.reduceMul, Int.reduceNeg, Int.reduceLT, Int.reduceLE, if_neg, hand, hS, hsl]
        · rw [if_neg z] at hS
          have e3 : tmv (w % 2) T (d + 1) = tmv (w % 2) T d >>> 1 := by
            unfold tmv
            rw [if_neg z, if_neg z, Nat.shiftRight_add]
          have tl : tmv (w % 2) T d < 2147483648 := by
            unfold tmv
            rw [if_neg z, Nat.shiftRight_eq_div_pow]
            have := Nat.div_le_self T (2 ^ d)
            omega
          have hsr : iZ ((tmv (w % 2) T d : Nat) : Int) >>> (iZ 1 &&& iZ 31) = iZ ((tmv (w % 2) T d >>> 1 : Nat) : Int) := iZ_shr (p := 1) tl (by omega)
          rw [e3]
          generalize (tmv (w % 2) T d &&& sp : Nat) = za at *
          generalize (tmv (w % 2) T d >>> 1 : Nat) = tv1 at *
          generalize tmv (w % 2) T d = tv at *
          rw [xfix_unf, sX7_cellsTillOut_78]
          simp (disch := omega) only [xk_none, xk_inl, xk_inr, xk_ite, xri_v, xrl_v, xrv_v, xb_z0, xb_z1, xb_b2, if_true, if_false, ite_true, ite_false, iZ_lit, iZ_m1, iZ_m99, iZ_m8, iZ_add, iZ_sub, iZ_mul, iZ_neg, nz0, nzi, iZ_lt, iZ_le, iZ_inj, b2_z, b2_o, ite_bPz, ite_bPo, xb_bP, iZ_xin, if_pos, ite_self, ↓reduceIte, Int.reduceAdd, Int.reduceSub, Int.reduceMul, Int.reduceNeg, Int.reduceLT, Int.reduceLE, if_neg, hand, hS, hsr]
      · by_cases q : d' = d
        · rw [q]; exact y
        · exact hp d' (by omega)
    · refine .inr ?_
      have nz : ¬ (tmv (w % 2) T d &&& sp ≠ 0) := fun z => y (hh.mp z)
      have em2 : mnt A heap half w = d := by
        rw [em]
        exact lst_eq (by omega) (fun i hi z => z (hp i hi)) (fun _ => y)
      rw [em2]
      generalize (tmv (w % 2) T d &&& sp : Nat) = za at *
      generalize tmv (w % 2) T d = tv at *
      rw [xfix_unf, sX7_cellsTillOut_78]
      simp (disch := omega) only [xk_none, xk_inl, xk_inr, xk_ite, xri_v, xrl_v, xrv_v, xb_z0, xb_z1, xb_b2, if_true, if_false, ite_true, ite_false, iZ_lit, iZ_m1, iZ_m99, iZ_m8, iZ_add, iZ_sub, iZ_mul, iZ_neg, nz0, nzi, iZ_lt, iZ_le, iZ_inj, b2_z, b2_o, ite_bPz, ite_bPo, xb_bP, iZ_xin, if_pos, ite_self, ↓reduceIte, Int.reduceAdd, Int.reduceSub, Int.reduceMul, Int.reduceNeg, Int.reduceLT, Int.reduceLE, if_neg, hand]) (fun K hK => by
    exact absurd (hK.2 8 (by omega)) (no8 8 (by omega))) (a := 0) (M := M2) (by omega) ⟨rfl, fun d' h => by omega⟩
  refine ⟨M2, ?_, b2⟩
  have t0 : fX7_cellsTillOut [.inr (.inr (7, 0)), .inl (iZ (w))] M = xfix gX7_cellsTillOut (18, [some (.inr (.inr (7, 0))), some (.inl (iZ (w))), some (.inl (iZ (((w / 2 : Nat))))), some (.inl (iZ (((0 : Nat))))), none, none], [], M1) := by
    have zz : ((0 : Nat) : Int) = 0 := rfl
    rw [zz]
    generalize w / 2 = ax at *
    show xfix gX7_cellsTillOut (0, [some (.inr (.inr (7, 0))), some (.inl (iZ (w))), none, none, none, none], [], M) = _; rw [xfix_unf, sX7_cellsTillOut_0]
    simp (disch := omega) only [xk_none, xk_inl, xk_inr, xk_ite, xri_v, xrl_v, xrv_v, xb_z0, xb_z1, xb_b2, if_true, if_false, ite_true, ite_false, iZ_lit, iZ_m1, iZ_m99, iZ_m8, iZ_add, iZ_sub, iZ_mul, iZ_neg, nz0, nzi, iZ_lt, iZ_le, iZ_inj, b2_z, b2_o, ite_bPz, ite_bPo, xb_bP, iZ_xin, if_pos, ite_self, ↓reduceIte, Int.reduceAdd, Int.reduceSub, Int.reduceMul, Int.reduceNeg, Int.reduceLT, Int.reduceLE, if_neg, hX, a1]
  refine t0.trans (b1.trans (Eq.trans ?_ lp))
  have e3 : ((3 : Nat) : Int) = 3 := rfl
  have zz : ((0 : Nat) : Int) = 0 := rfl
  have t00 : tmv (w % 2) T 0 = T := by
    unfold tmv
    split
    · rw [Nat.pow_zero, Nat.one_mul]
    · rfl
  rw [e3, zz, t00]
  rw [← eT] at hs1
  generalize w / 2 = ax at *
  generalize shW (sB M2 45) ax = s45 at *
  rw [xfix_unf, sX7_cellsTillOut_18]
  simp (disch := omega) only [xk_none, xk_inl, xk_inr, xk_ite, xri_v, xrl_v, xrv_v, xb_z0, xb_z1, xb_b2, if_true, if_false, ite_true, ite_false, iZ_lit, iZ_m1, iZ_m99, iZ_m8, iZ_add, iZ_sub, iZ_mul, iZ_neg, nz0, nzi, iZ_lt, iZ_le, iZ_inj, b2_z, b2_o, ite_bPz, ite_bPo, xb_bP, iZ_xin, if_pos, ite_self, ↓reduceIte, Int.reduceAdd, Int.reduceSub, Int.reduceMul, Int.reduceNeg, Int.reduceLT, Int.reduceLE, if_neg, hs1, hs2, s1]
