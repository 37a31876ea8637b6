/-! steps of cells are rays -/
theorem rC_co {c w k : Nat} (h : rIn c w k) : (((rC c w k) % 8 : Nat) : Int) = rX c w k ∧ (((rC c w k) / 8 % 8 : Nat) : Int) = rY c w k ∧ (((rC c w k) / 64 : Nat) : Int) = rZ c w k := by
  unfold rC
  obtain ⟨h1, h2, h3⟩ := h
  generalize rX c w k = x at *
  generalize rY c w k = y at *
  generalize rZ c w k = z at *
  refine ⟨?_, ?_, ?_⟩ <;> omega
theorem r_two {c w k : Nat} (h : rIn c w k) (j : Nat) : rX (rC c w k) w j = rX c w (k + j) ∧ rY (rC c w k) w j = rY c w (k + j) ∧ rZ (rC c w k) w j = rZ c w (k + j) := by
  obtain ⟨e1, e2, e3⟩ := rC_co h
  refine ⟨?_, ?_, ?_⟩
  · show ((rC c w k % 8 : Nat) : Int) + j * dX w = _
    rw [e1]; unfold rX; rw [Int.natCast_add, Int.add_mul]; omega
  · show ((rC c w k / 8 % 8 : Nat) : Int) + j * dY w = _
    rw [e2]; unfold rY; rw [Int.natCast_add, Int.add_mul]; omega
  · show ((rC c w k / 64 : Nat) : Int) + j * dZ w = _
    rw [e3]; unfold rZ; rw [Int.natCast_add, Int.add_mul]; omega
theorem rIn_two {c w k j : Nat} (h : rIn c w k) : (rIn (rC c w k) w j ↔ rIn c w (k + j)) ∧ rC (rC c w k) w j = rC c w (k + j) := by
  obtain ⟨e1, e2, e3⟩ := r_two h j
  constructor
  · unfold rIn; rw [e1, e2, e3]
  · unfold rC; unfold rC at e1 e2 e3; rw [e1, e2, e3]
theorem r_back {c w k : Nat} (hc : c < 512) (hw : w < 6) (h : rIn c w k) : rIn (rC c w k) (opW w) k ∧ rC (rC c w k) (opW w) k = c := by
  obtain ⟨⟨d1, d2, d3⟩, _⟩ := opW_d w hw
  obtain ⟨e1, e2, e3⟩ := rC_co h
  have a1 : rX (rC c w k) (opW w) k = ((c % 8 : Nat) : Int) := by
    show ((rC c w k % 8 : Nat) : Int) + k * dX (opW w) = _
    rw [e1, d1, Int.mul_neg]; unfold rX; omega
  have a2 : rY (rC c w k) (opW w) k = ((c / 8 % 8 : Nat) : Int) := by
    show ((rC c w k / 8 % 8 : Nat) : Int) + k * dY (opW w) = _
    rw [e2, d2, Int.mul_neg]; unfold rY; omega
  have a3 : rZ (rC c w k) (opW w) k = ((c / 64 : Nat) : Int) := by
    show ((rC c w k / 64 : Nat) : Int) + k * dZ (opW w) = _
    rw [e3, d3, Int.mul_neg]; unfold rZ; omega
  generalize rC c w k = m at *
  constructor
  · unfold rIn; rw [a1, a2, a3]; omega
  · unfold rC; rw [a1, a2, a3]; omega
theorem st_ray {f : Nat → Bool} {w c : Nat} (hw : w < 6) (hc : c < 512) : stB f w c = true ↔ ∃ c0, c0 < 512 ∧ f c0 = true ∧ rIn c0 w 1 ∧ rC c0 w 1 = c := by
  have key : ∀ (g : Nat) (P : Prop) [Decidable P], (P → g < 512 ∧ rIn g w 1 ∧ rC g w 1 = c) → (∀ c0, c0 < 512 → rIn c0 w 1 → rC c0 w 1 = c → P ∧ c0 = g) → ((decide P && f g) = true ↔ ∃ c0, c0 < 512 ∧ f c0 = true ∧ rIn c0 w 1 ∧ rC c0 w 1 = c) := by
    intro g P _ h1 h2
    rw [Bool.and_eq_true, decide_eq_true_eq]
    constructor
    · rintro ⟨a, b⟩
      exact ⟨g, (h1 a).1, b, (h1 a).2⟩
    · rintro ⟨c0, a, b, d, e⟩
      obtain ⟨x, y⟩ := h2 c0 a d e
      exact ⟨x, y ▸ b⟩
  unfold stB
  rcases w6 hw with e | e | e | e | e | e <;> subst e
  · have d1 : dX 0 = 1 := rfl
    have d2 : dY 0 = 0 := rfl
    have d3 : dZ 0 = 0 := rfl
    rw [if_pos rfl]
    refine key (c - 1) (c % 8 ≠ 0) (fun h => ?_) (fun c0 h1 h2 h3 => ?_)
    · simp only [rIn, rC, rX, rY, rZ, d1, d2, d3]; omega
    · simp only [rIn, rC, rX, rY, rZ, d1, d2, d3] at h2 h3; omega
  · have d1 : dX 1 = -1 := rfl
    have d2 : dY 1 = 0 := rfl
    have d3 : dZ 1 = 0 := rfl
    rw [if_neg (by omega), if_pos rfl]
    refine key (c + 1) (c % 8 ≠ 7) (fun h => ?_) (fun c0 h1 h2 h3 => ?_)
    · simp only [rIn, rC, rX, rY, rZ, d1, d2, d3]; omega
    · simp only [rIn, rC, rX, rY, rZ, d1, d2, d3] at h2 h3; omega
  · have d1 : dX 2 = 0 := rfl
    have d2 : dY 2 = 1 := rfl
    have d3 : dZ 2 = 0 := rfl
    rw [if_neg (by omega), if_neg (by omega), if_pos rfl]
    refine key (c - 8) (c / 8 % 8 ≠ 0) (fun h => ?_) (fun c0 h1 h2 h3 => ?_)
    · simp only [rIn, rC, rX, rY, rZ, d1, d2, d3]; omega
    · simp only [rIn, rC, rX, rY, rZ, d1, d2, d3] at h2 h3; omega
  · have d1 : dX 3 = 0 := rfl
    have d2 : dY 3 = -1 := rfl
    have d3 : dZ 3 = 0 := rfl
    rw [if_neg (by omega), if_neg (by omega), if_neg (by omega), if_pos rfl]
    refine key (c + 8) (c / 8 % 8 ≠ 7) (fun h => ?_) (fun c0 h1 h2 h3 => ?_)
    · simp only [rIn, rC, rX, rY, rZ, d1, d2, d3]; omega
    · simp only [rIn, rC, rX, rY, rZ, d1, d2, d3] at h2 h3; omega
  · have d1 : dX 4 = 0 := rfl
    have d2 : dY 4 = 0 := rfl
    have d3 : dZ 4 = 1 := rfl
    rw [if_neg (by omega), if_neg (by omega), if_neg (by omega), if_neg (by omega), if_pos rfl]
    refine key (c - 64) (64 ≤ c) (fun h => ?_) (fun c0 h1 h2 h3 => ?_)
    · simp only [rIn, rC, rX, rY, rZ, d1, d2, d3]; omega
    · simp only [rIn, rC, rX, rY, rZ, d1, d2, d3] at h2 h3; omega
  · have d1 : dX 5 = 0 := rfl
    have d2 : dY 5 = 0 := rfl
    have d3 : dZ 5 = -1 := rfl
    rw [if_neg (by omega), if_neg (by omega), if_neg (by omega), if_neg (by omega), if_neg (by omega)]
    refine key (c + 64) (c < 448) (fun h => ?_) (fun c0 h1 h2 h3 => ?_)
    · simp only [rIn, rC, rX, rY, rZ, d1, d2, d3]; omega
    · simp only [rIn, rC, rX, rY, rZ, d1, d2, d3] at h2 h3; omega
theorem rIn_0 {c w : Nat} (hc : c < 512) : rIn c w 0 ∧ rC c w 0 = c := by
  have a1 : rX c w 0 = ((c % 8 : Nat) : Int) := by unfold rX; omega
  have a2 : rY c w 0 = ((c / 8 % 8 : Nat) : Int) := by unfold rY; omega
  have a3 : rZ c w 0 = ((c / 64 : Nat) : Int) := by unfold rZ; omega
  constructor
  · unfold rIn; rw [a1, a2, a3]; omega
  · unfold rC; rw [a1, a2, a3]; omega
theorem it_ray {f : Nat → Bool} {w : Nat} (hw : w < 6) : ∀ {n c : Nat}, c < 512 → (itB f w n c = true ↔ ∃ c0, c0 < 512 ∧ f c0 = true ∧ rIn c0 w n ∧ rC c0 w n = c)
  | 0, c, hc => by
    show f c = true ↔ _
    constructor
    · exact fun h => ⟨c, hc, h, rIn_0 hc⟩
    · rintro ⟨c0, h1, h2, h3, h4⟩
      rw [(rIn_0 h1).2] at h4
      rw [← h4]; exact h2
  | n + 1, c, hc => by
    show stB (itB f w n) w c = true ↔ _
    rw [st_ray hw hc]
    constructor
    · rintro ⟨c1, h1, h2, h3, h4⟩
      obtain ⟨c0, g1, g2, g3, g4⟩ := (it_ray hw h1).mp h2
      subst g4
      refine ⟨c0, g1, g2, (rIn_two g3).1.mp h3, ?_⟩
      rw [← (rIn_two (j := 1) g3).2]; exact h4
    · rintro ⟨c0, g1, g2, g3, g4⟩
      have i : rIn c0 w n := Classical.byContradiction fun z => rIn_out g1 hw (by omega) z g3
      refine ⟨rC c0 w n, rC_lt i, (it_ray hw (rC_lt i)).mpr ⟨c0, g1, g2, i, rfl⟩, (rIn_two i).1.mpr g3, ?_⟩
      rw [(rIn_two (j := 1) i).2]; exact g4
/-- one body on its way meets another -/
def gB (R : Nat → Nat → Prop) (p w q : Nat) : Prop := q ≠ p ∧ ∃ c, c < 512 ∧ R c p ∧ ∃ n, 1 ≤ n ∧ n < 8 ∧ rIn c w n ∧ R (rC c w n) q
theorem hit_g {M : xM} {k p w q : Nat} {R : Nat → Nat → Prop} (hw : w < 6) (hp : ∀ c, c < 512 → (sB M (11 * k + 21 + p) c = true ↔ R c p)) (hq : ∀ c, c < 512 → (sB M (11 * k + 21 + q) c = true ↔ R c q)) : hitB M k p w q ↔ gB R p w q := by
  unfold hitB gB
  refine and_congr_right fun _ => ?_
  constructor
  · rintro ⟨c, hc, ⟨n, n1, n2, n3⟩, h2⟩
    obtain ⟨c0, g1, g2, g3, g4⟩ := (it_ray hw hc).mp n3
    refine ⟨c0, g1, (hp c0 g1).mp g2, n, n1, n2, g3, ?_⟩
    rw [g4]; exact (hq c hc).mp h2
  · rintro ⟨c, hc, h1, n, n1, n2, n3, h2⟩
    exact ⟨rC c w n, rC_lt n3, ⟨n, n1, n2, (it_ray hw (rC_lt n3)).mpr ⟨c, hc, (hp c hc).mpr h1, n3, rfl⟩⟩, (hq _ (rC_lt n3)).mpr h2⟩
noncomputable def ownR (P : Nat) (R : Nat → Nat → Prop) (i : Nat) : Nat := msk (fun q => q < P ∧ gB R (i / 6) (i % 6) q) 9
theorem ownR_b {P : Nat} {R : Nat → Nat → Prop} {p w q : Nat} (hw : w < 6) (hP : P ≤ 9) : (ownR P R (6 * p + w)).testBit q = true ↔ q < P ∧ gB R p w q := by
  unfold ownR
  rw [msk_bit, show (6 * p + w) / 6 = p by omega, show (6 * p + w) % 6 = w by omega]
  exact ⟨fun h => h.2, fun h => ⟨by omega, h⟩⟩
/-- the own rows of Ways k -/
def cOw (M : xM) (k P : Nat) (R : Nat → Nat → Prop) : Prop := ∀ p, p < P → ∀ w, w < 6 → ∀ q, q < 9 → (lB (xL M (51, k) p) (9 * w + q) = true ↔ (ownR P R (6 * p + w)).testBit q = true)
theorem cWy.cg {M : xM} {k P : Nat} {B B' : Nat → Nat} (h : cWy M k P B) (hb : ∀ p, p < P → ∀ w, w < 6 → ∀ q, q < 9 → ((B (6 * p + w)).testBit q = true ↔ (B' (6 * p + w)).testBit q = true)) : cWy M k P B' := fun half hh w hw q hq => by
  rw [h half hh w hw q hq]
  exact ⟨fun ⟨p, a, b, c⟩ => ⟨p, a, b, (hb p a w hw q hq).mp c⟩, fun ⟨p, a, b, c⟩ => ⟨p, a, b, (hb p a w hw q hq).mpr c⟩⟩
theorem cmb_b {P b : Nat} {R : Nat → Nat → Prop} {p w q : Nat} (hP : P ≤ 9) (hw : w < 6) : (cmb P b (ownR P R) (6 * p + w)).testBit q = true ↔ b.testBit p = false ∧ b.testBit q = false ∧ q < P ∧ gB R p w q := by
  unfold cmb
  rw [show (6 * p + w) / 6 = p by omega]
  by_cases e : b.testBit p = true
  · rw [if_pos e, Nat.zero_testBit]
    exact ⟨fun z => (Bool.noConfusion z), fun z => by rw [e] at z; exact absurd z.1 (by simp)⟩
  · rw [if_neg e, Nat.testBit_and, Bool.and_eq_true, ownR_b hw hP, ndn_bit, Bool.and_eq_true, Nat.testBit_two_pow_sub_one, decide_eq_true_eq, Bool.not_eq_true']
    have e2 : b.testBit p = false := by simpa using e
    exact ⟨fun z => ⟨e2, z.2.2, z.1⟩, fun z => ⟨z.2.2, z.2.2.1, z.2.1⟩⟩
theorem ray_g {A : dA} {c w k q : Nat} : ray A c w k = (q : Int) ↔ rIn c w k ∧ aC A (rC c w k) = q := by
  by_cases i : rIn c w k
  · rw [ray_in i]; exact ⟨fun h => ⟨i, h⟩, fun h => h.2⟩
  · have := aat_out (A := A) i
    unfold ray
    rw [this]
    exact ⟨fun h => by omega, fun h => absurd h.1 i⟩
/-- the bent parts as a set -/
def cBn (A : dA) (b : Nat) : Prop := b < 512 ∧ ∀ p, p < 9 → (b.testBit p = true ↔ aBent A p = true)
theorem cBn.f {A : dA} {b p : Nat} (h : cBn A b) (hp : p < 9) : b.testBit p = false ↔ aBent A p = false := by
  have := h.2 p hp
  cases e : b.testBit p <;> cases e2 : aBent A p <;> simp_all
theorem cmb_bar {A : dA} {M : xM} {k b : Nat} (hA : aOk A) (hb : cBn A b) (h : cWy M k (aP A) (cmb (aP A) b (ownR (aP A) (fun c p => aC A c = p)))) : cWy M k (aP A) (barS A) := h.cg fun p hp w hw q hq => by
  have := hA.P
  rw [cmb_b this hw, barS_bit hw, hb.f (by omega), hb.f hq]
  unfold brs gB hitk
  constructor
  · rintro ⟨a1, a2, a3, a4, c, a5, a6, n, a7, a8, a9⟩
    exact ⟨hq, c, a5, n, a7, a8, a6, a1, ray_g.mpr a9, a4, a2⟩
  · rintro ⟨_, c, a5, n, a7, a8, a6, a1, a9, a4, a2⟩
    have a10 := ray_g.mp a9
    have := (hA.C (rC_lt a10.1)).2
    exact ⟨a1, a2, by omega, a4, c, a5, a6, n, a7, a8, a10⟩
theorem sbrS_bit {A : dA} {p w q : Nat} (hw : w < 6) (hp : p < aP A) (hP : aP A ≤ 9) : (sbrS A (6 * p + w)).testBit q = true ↔ aBent A p = false ∧ aBent A q = false ∧ q < aP A ∧ gB (rch A) p w q := by
  unfold sbrS sadd gB strt
  rw [msk_bit, show (6 * p + w) / 6 = p by omega, show (6 * p + w) % 6 = w by omega]
  constructor
  · rintro ⟨h1, c, h2, h3, h4, ⟨j, h5⟩, h6, h7⟩
    have b1 := ((msk_bit _ 9 _).mp h4).2
    have b2 := ((msk_bit _ 9 _).mp h6).2
    exact ⟨b1.2, b2.2, b2.1, h7, c, h2, h3, j, h5⟩
  · rintro ⟨h1, h2, h3, h4, c, h5, h6, h7⟩
    exact ⟨by omega, c, h5, h6, (msk_bit _ 9 _).mpr ⟨by omega, hp, h1⟩, h7, (msk_bit _ 9 _).mpr ⟨by omega, h3, h2⟩, h4⟩
theorem cmb_sbar {A : dA} {M : xM} {k b : Nat} (hA : aOk A) (hb : cBn A b) (h : cWy M k (aP A) (cmb (aP A) b (ownR (aP A) (rch A)))) : cWy M k (aP A) (sbrS A) := h.cg fun p hp w hw q hq => by
  have := hA.P
  rw [cmb_b this hw, sbrS_bit hw hp this, hb.f (by omega), hb.f hq]
theorem sbrS_sym {A : dA} (hA : aOk A) : symB (sbrS A) := fun p q w hp hq hw h => by
  have hP := hA.P
  have hpP : p < aP A := by
    unfold sbrS sadd strt at h
    rw [msk_bit, show (6 * p + w) / 6 = p by omega] at h
    obtain ⟨_, c, _, _, h4, _⟩ := h
    exact ((msk_bit _ 9 _).mp h4).2.1
  rw [sbrS_bit hw hpP hP] at h
  obtain ⟨h1, h2, h3, h4, c, h5, h6, n, n1, n2, n3, n4⟩ := h
  rw [sbrS_bit (opW_d w hw).2.1 h3 hP]
  have r := r_back h5 hw n3
  exact ⟨h2, h1, hpP, fun e => h4 e.symm, rC c w n, rC_lt n3, n4, n, n1, n2, r.1, by rw [r.2]; exact h6⟩
