/-! the class: likeness -/
theorem alg_ext {c o : Nat} (h : ∀ a, a < 3 → alg c a = alg o a) : c = o := by
  have h0 := h 0 (by omega)
  have h1 := h 1 (by omega)
  have h2 := h 2 (by omega)
  rw [alg0, alg0] at h0
  rw [alg1, alg1] at h1
  rw [alg2, alg2] at h2
  omega
theorem alg_mk {X : Nat → Int} (h : ∀ a, a < 3 → 0 ≤ X a ∧ X a < 8) : ∃ c, c < 512 ∧ ∀ a, a < 3 → (alg c a : Int) = X a := by
  have h0 := h 0 (by omega)
  have h1 := h 1 (by omega)
  have h2 := h 2 (by omega)
  refine ⟨(64 * X 2 + 8 * X 1 + X 0).toNat, by omega, fun a ha => ?_⟩
  rcases (by omega : a = 0 ∨ a = 1 ∨ a = 2) with e | e | e <;> subst e
  · rw [alg0]; omega
  · rw [alg1]; omega
  · rw [alg2]; omega
theorem fa3 {P : Nat → Prop} : (∀ a, a < 3 → P a) ↔ P 0 ∧ P 1 ∧ P 2 := ⟨fun h => ⟨h 0 (by omega), h 1 (by omega), h 2 (by omega)⟩, fun ⟨h0, h1, h2⟩ a ha => by
  rcases (by omega : a = 0 ∨ a = 1 ∨ a = 2) with e | e | e <;> subst e
  · exact h0
  · exact h1
  · exact h2⟩
/-- a set moved -/
def tsf (S : Nat → Prop) (L : Nat → Int) (c : Nat) : Prop := ∃ o, o < 512 ∧ S o ∧ ∀ a, a < 3 → (alg c a : Int) = alg o a + L a
theorem tsf_0 {S : Nat → Prop} {L : Nat → Int} {c : Nat} (hc : c < 512) (hL : ∀ a, a < 3 → L a = 0) : tsf S L c ↔ S c := by
  constructor
  · rintro ⟨o, o1, o2, o3⟩
    have : c = o := alg_ext fun a ha => by have := o3 a ha; rw [hL a ha] at this; omega
    rw [this]; exact o2
  · intro z; exact ⟨c, hc, z, fun a ha => by rw [hL a ha]; omega⟩
theorem stB_tsf {f : Nat → Bool} {w c : Nat} (hw : w < 6) (hc : c < 512) : stB f w c = true ↔ tsf (fun o => f o = true) (stp w) c := by
  unfold tsf stB
  simp only [fa3, alg0, alg1, alg2, stp]
  rcases w6 hw with e | e | e | e | e | e <;> subst e <;> simp [dX, dY, dZ] <;> constructor
  · rintro ⟨h1, h2⟩; exact ⟨c - 1, by omega, h2, by omega, by omega, by omega⟩
  · rintro ⟨o, o1, o2, o3, o4, o5⟩
    have : o = c - 1 := by omega
    rw [← this]; exact ⟨by omega, o2⟩
  · rintro ⟨h1, h2⟩; exact ⟨c + 1, by omega, h2, by omega, by omega, by omega⟩
  · rintro ⟨o, o1, o2, o3, o4, o5⟩
    have : o = c + 1 := by omega
    rw [← this]; exact ⟨by omega, o2⟩
  · rintro ⟨h1, h2⟩; exact ⟨c - 8, by omega, h2, by omega, by omega, by omega⟩
  · rintro ⟨o, o1, o2, o3, o4, o5⟩
    have : o = c - 8 := by omega
    rw [← this]; exact ⟨by omega, o2⟩
  · rintro ⟨h1, h2⟩; exact ⟨c + 8, by omega, h2, by omega, by omega, by omega⟩
  · rintro ⟨o, o1, o2, o3, o4, o5⟩
    have : o = c + 8 := by omega
    rw [← this]; exact ⟨by omega, o2⟩
  · rintro ⟨h1, h2⟩; exact ⟨c - 64, by omega, h2, by omega, by omega, by omega⟩
  · rintro ⟨o, o1, o2, o3, o4, o5⟩
    have : o = c - 64 := by omega
    rw [← this]; exact ⟨by omega, o2⟩
  · rintro ⟨h1, h2⟩; exact ⟨c + 64, by omega, h2, by omega, by omega, by omega⟩
  · rintro ⟨o, o1, o2, o3, o4, o5⟩
    have : o = c + 64 := by omega
    rw [← this]; exact ⟨by omega, o2⟩
/-- two moves are one, where nothing is lost between -/
theorem tsf_tsf {S : Nat → Prop} {L L' : Nat → Int} {c : Nat} (hb : ∀ o, o < 512 → S o → (∀ a, a < 3 → (alg c a : Int) = alg o a + (L a + L' a)) → ∀ a, a < 3 → 0 ≤ (alg o a : Int) + L a ∧ (alg o a : Int) + L a < 8) : tsf (tsf S L) L' c ↔ tsf S (fun a => L a + L' a) c := by
  constructor
  · rintro ⟨m, m1, ⟨o, o1, o2, o3⟩, m2⟩
    exact ⟨o, o1, o2, fun a ha => by have := m2 a ha; have := o3 a ha; dsimp only; omega⟩
  · rintro ⟨o, o1, o2, o3⟩
    obtain ⟨m, m1, m2⟩ := alg_mk (hb o o1 o2 o3)
    exact ⟨m, m1, ⟨o, o1, o2, m2⟩, fun a ha => by have h1 := m2 a ha; have h2 := o3 a ha; dsimp only at h2; omega⟩
theorem tsf_cg {S T : Nat → Prop} {L L' : Nat → Int} {c : Nat} (h : ∀ o, o < 512 → (S o ↔ T o)) (hl : ∀ a, a < 3 → L a = L' a) : tsf S L c ↔ tsf T L' c :=
  ⟨fun ⟨o, o1, o2, o3⟩ => ⟨o, o1, (h o o1).mp o2, fun a ha => by rw [← hl a ha]; exact o3 a ha⟩, fun ⟨o, o1, o2, o3⟩ => ⟨o, o1, (h o o1).mpr o2, fun a ha => by rw [hl a ha]; exact o3 a ha⟩⟩
theorem stp_n {w a : Nat} (hw : w < 6) (ha : a < 3) (n : Nat) : (n : Int) * stp w a = if a = w / 2 then (if w % 2 = 0 then (n : Int) else -(n : Int)) else 0 := by
  rw [stp_ax hw ha]
  (repeat' split) <;> omega
/-- so many steps of a solid -/
theorem st_more {M K K' : xM} {k w n : Nat} (hw : w < 6) (hI : ∀ c, c < 512 → (sB K k c = true ↔ tsf (fun o => sB M k o = true) (fun a => (n : Int) * stp w a) c)) (hK : ∀ c, c < 512 → sB K' k c = stB (sB K k) w c) : ∀ c, c < 512 → (sB K' k c = true ↔ tsf (fun o => sB M k o = true) (fun a => ((n + 1 : Nat) : Int) * stp w a) c) := fun c hc => by
  rw [hK c hc, stB_tsf hw hc]
  refine (tsf_cg (T := tsf (fun o => sB M k o = true) (fun a => (n : Int) * stp w a)) hI (fun _ _ => rfl)).trans ((tsf_tsf ?_).trans (tsf_cg (fun _ _ => Iff.rfl) fun a ha => ?_))
  · intro o o1 o2 o3 a ha
    have h3 := o3 a ha
    have b1 := alg_lt hc a
    have b2 := alg_lt o1 a
    rw [stp_ax hw ha] at h3 ⊢
    (repeat' split at h3) <;> (repeat' split) <;> first | omega | simp_all
  · show (n : Int) * stp w a + stp w a = ((n + 1 : Nat) : Int) * stp w a
    rw [show ((n + 1 : Nat) : Int) = (n : Int) + 1 from rfl, Int.add_mul, Int.one_mul]
/-- the lowest and the highest place of a set at an axis -/
def isLo (S : Nat → Prop) (a : Nat) (L : Int) : Prop := (∃ o, o < 512 ∧ S o ∧ (alg o a : Int) = L) ∧ ∀ o, o < 512 → S o → L ≤ alg o a
def isHi (S : Nat → Prop) (a : Nat) (L : Int) : Prop := (∃ o, o < 512 ∧ S o ∧ (alg o a : Int) = L) ∧ ∀ o, o < 512 → S o → (alg o a : Int) ≤ L
theorem isLo.un {S : Nat → Prop} {a : Nat} {L L' : Int} (h : isLo S a L) (h' : isLo S a L') : L = L' := by
  obtain ⟨o, o1, o2, o3⟩ := h.1
  obtain ⟨u, u1, u2, u3⟩ := h'.1
  have := h.2 u u1 u2
  have := h'.2 o o1 o2
  omega
theorem isHi.un {S : Nat → Prop} {a : Nat} {L L' : Int} (h : isHi S a L) (h' : isHi S a L') : L = L' := by
  obtain ⟨o, o1, o2, o3⟩ := h.1
  obtain ⟨u, u1, u2, u3⟩ := h'.1
  have := h.2 u u1 u2
  have := h'.2 o o1 o2
  omega
theorem hst_sp {p : Nat → Prop} : ∀ {n k : Nat}, k < n → p k → ∃ m : Nat, m < n ∧ hst p n = m ∧ p m ∧ ∀ j, m < j → j < n → ¬ p j
  | 0, k, hk, _ => by omega
  | n + 1, k, hk, hp => by
    unfold hst
    by_cases e : p n
    · rw [if_pos e]; exact ⟨n, by omega, rfl, e, fun j h1 h2 => by omega⟩
    · rw [if_neg e]
      obtain ⟨m, m1, m2, m3, m4⟩ := hst_sp (n := n) (k := k) (Nat.lt_of_le_of_ne (by omega) fun z => e (by rw [← z]; exact hp)) hp
      refine ⟨m, by omega, m2, m3, fun j h1 h2 => ?_⟩
      by_cases ej : j = n
      · rw [ej]; exact e
      · exact m4 j h1 (by omega)
theorem lst_lo {S p : Nat → Prop} {a n : Nat} (hp : ∀ v, v < n → (p v ↔ ∃ c, c < 512 ∧ S c ∧ alg c a = v)) (h8 : 8 ≤ n) (h : ∃ o, o < 512 ∧ S o) : isLo S a (lst p n) := by
  obtain ⟨o, o1, o2⟩ := h
  have ol := alg_lt o1 a
  have hx : p (alg o a) := (hp _ (by omega)).mpr ⟨o, o1, o2, rfl⟩
  have hl : lst p n < n := Nat.lt_of_not_le fun z => lst_no p n (alg o a) (by omega) hx
  have hi := lst_is p n hl
  obtain ⟨c, c1, c2, c3⟩ := (hp _ hl).mp hi
  refine ⟨⟨c, c1, c2, by omega⟩, fun u u1 u2 => ?_⟩
  have ul := alg_lt u1 a
  refine Classical.byContradiction fun z => lst_no p n (alg u a) (by omega) ((hp _ (by omega)).mpr ⟨u, u1, u2, rfl⟩)
theorem hst_hi {S p : Nat → Prop} {a : Nat} (hp : ∀ v, v < 8 → (p v ↔ ∃ c, c < 512 ∧ S c ∧ alg c a = v)) (h : ∃ o, o < 512 ∧ S o) : isHi S a (hst p 8) := by
  obtain ⟨o, o1, o2⟩ := h
  have ol := alg_lt o1 a
  obtain ⟨m, m1, m2, m3, m4⟩ := hst_sp (n := 8) ol ((hp _ ol).mpr ⟨o, o1, o2, rfl⟩)
  obtain ⟨c, c1, c2, c3⟩ := (hp m m1).mp m3
  rw [m2]
  refine ⟨⟨c, c1, c2, by omega⟩, fun u u1 u2 => ?_⟩
  have ul := alg_lt u1 a
  refine Classical.byContradiction fun z => m4 (alg u a) (by omega) ul ((hp _ ul).mpr ⟨u, u1, u2, rfl⟩)
theorem sh_bit {f : Nat → Bool} {a v : Nat} (hv : v < 8) : (shW f a).testBit v = true ↔ ∃ c, c < 512 ∧ f c = true ∧ alg c a = v := by
  unfold shW
  rw [msk_bit]
  exact ⟨fun z => z.2, fun z => ⟨hv, z⟩⟩
theorem sh_nz {f : Nat → Bool} {a : Nat} (h : ∃ o, o < 512 ∧ f o = true) : ¬ shW f a = 0 := fun z => by
  obtain ⟨o, o1, o2⟩ := h
  have := (sh_bit (a := a) (alg_lt o1 a)).mpr ⟨o, o1, o2, rfl⟩
  rw [z] at this
  simp at this
theorem x_lowSh {M : xM} {f : Nat → Bool} {a : Nat} (h : ∃ o, o < 512 ∧ f o = true) : ∃ L : Nat, L < 8 ∧ isLo (fun o => f o = true) a L ∧ fX6_lowest [.inl (iZ ((shW f a)))] M = some (some (.inl (iZ (L))), M) := by
  have hl := x_lowest (M := M) (b := shW f a) (msk_lt _ 8)
  rw [if_neg (sh_nz h)] at hl
  have lo := lst_lo (p := fun p => (shW f a).testBit p = true) (n := 8) (a := a) (fun v hv => sh_bit hv) (by omega) h
  refine ⟨jLw (shW f a) 8, ?_, lo, hl⟩
  obtain ⟨o, o1, o2⟩ := h
  have := lo.2 o o1 o2
  have := alg_lt o1 a
  unfold jLw
  omega
theorem x_highSh {M : xM} {f : Nat → Bool} {a : Nat} (h : ∃ o, o < 512 ∧ f o = true) : ∃ L : Nat, L < 8 ∧ isHi (fun o => f o = true) a L ∧ fX6_highest [.inl (iZ ((shW f a)))] M = some (some (.inl (iZ (L))), M) := by
  have hl := x_highest (M := M) (b := shW f a) (msk_lt _ 8)
  rw [if_neg (sh_nz h)] at hl
  have lo := hst_hi (p := fun p => (shW f a).testBit p = true) (a := a) (fun v hv => sh_bit hv) h
  obtain ⟨o, o1, o2⟩ := h
  have b1 := lo.2 o o1 o2
  have b2 := hst_rng (fun p => (shW f a).testBit p = true) 8
  refine ⟨(jHw (shW f a)).toNat, by unfold jHw; omega, ?_, ?_⟩
  · have : ((jHw (shW f a)).toNat : Int) = hst (fun p => (shW f a).testBit p = true) 8 := by unfold jHw; omega
    rw [this]; exact lo
  · have : ((jHw (shW f a)).toNat : Int) = jHw (shW f a) := by unfold jHw; omega
    rw [this]; exact hl
theorem pw_in {A : dA} {p c : Nat} : inH A (2 ^ p) c ↔ aC A c = p := by
  constructor
  · rintro ⟨q, q1, q2⟩
    have : p = q := by
      rw [Nat.testBit_two_pow] at q2
      simpa using q2
    rw [this]; exact q1
  · intro h; exact ⟨p, h, by rw [Nat.testBit_two_pow]; simp⟩
theorem lo_is {A : dA} {p : Nat} (h : ∃ o, o < 512 ∧ aC A o = p) (a : Nat) : isLo (fun c => aC A c = p) a (loA A (2 ^ p) a) := by
  unfold loA
  refine lst_lo (fun v _ => ?_) (by omega) h
  exact ⟨fun ⟨c, c1, c2, c3⟩ => ⟨c, c1, pw_in.mp c2, c3⟩, fun ⟨c, c1, c2, c3⟩ => ⟨c, c1, pw_in.mpr c2, c3⟩⟩
theorem hi_is {A : dA} {p : Nat} (h : ∃ o, o < 512 ∧ aC A o = p) (a : Nat) : isHi (fun c => aC A c = p) a (hiA A (2 ^ p) a) := by
  unfold hiA
  refine hst_hi (fun v _ => ?_) h
  exact ⟨fun ⟨c, c1, c2, c3⟩ => ⟨c, c1, pw_in.mp c2, c3⟩, fun ⟨c, c1, c2, c3⟩ => ⟨c, c1, pw_in.mpr c2, c3⟩⟩
theorem x_settle {M : xM} {k : Nat} {L : Nat → Int} (hn : ∃ o, o < 512 ∧ sB M k o = true) (hL : ∀ a, a < 3 → isLo (fun o => sB M k o = true) a (L a)) : ∃ M', fX6_settle [.inr (.inr (6, k))] M = some (none, M') ∧ xSame (fun r => r = (44, k)) M M' ∧ ∀ c, c < 512 → (sB M' k c = true ↔ tsf (fun o => sB M k o = true) (fun a => -L a) c) := by
  have L0 : ∀ a, a < 3 → 0 ≤ L a := fun a ha => by
    obtain ⟨o, o1, o2, o3⟩ := (hL a ha).1
    omega
  obtain ⟨M2, b1, b2, b3⟩ := xfor_M (sg := gX6_settle) (st := fun i K => (2, [some (.inr (.inr (6, k))), some (.inl (iZ (i))), none, none], [], K)) (I := fun i K => xSame (fun r => r = (44, k)) M K ∧ ∀ c, c < 512 → (sB K k c = true ↔ tsf (fun o => sB M k o = true) (fun a => if a < i then -L a else 0) c)) (n := 3) (fun i K hi hI => by
    obtain ⟨i1, i2⟩ := hI
    have keep : ∀ o, o < 512 → sB M k o = true → ∃ c, c < 512 ∧ sB K k c = true ∧ ∀ a, a < 3 → (alg c a : Int) = alg o a + (if a < i then -L a else 0) := fun o o1 o2 => by
      obtain ⟨c, c1, c2⟩ := alg_mk (X := fun a => (alg o a : Int) + (if a < i then -L a else 0)) (fun a ha => by
        have h1 := (hL a ha).2 o o1 o2
        have h2 := alg_lt o1 a
        have h3 := L0 a ha
        split <;> omega)
      exact ⟨c, c1, (i2 c c1).mpr ⟨o, o1, o2, c2⟩, c2⟩
    have hn' : ∃ o, o < 512 ∧ sB K k o = true := by
      obtain ⟨o, o1, o2⟩ := hn
      obtain ⟨c, c1, c2, _⟩ := keep o o1 o2
      exact ⟨c, c1, c2⟩
    have lo' : isLo (fun o => sB K k o = true) i (L i) := by
      refine ⟨?_, fun c c1 c2 => ?_⟩
      · obtain ⟨o, o1, o2, o3⟩ := (hL i hi).1
        obtain ⟨c, c1, c2, c3⟩ := keep o o1 o2
        have := c3 i hi
        rw [if_neg (by omega)] at this
        exact ⟨c, c1, c2, by omega⟩
      · obtain ⟨o, o1, o2, o3⟩ := (i2 c c1).mp c2
        have := o3 i hi
        dsimp only at this
        rw [if_neg (by omega)] at this
        have := (hL i hi).2 o o1 o2
        omega
    have hs := x_shadow (M := K) (k := k) hi
    obtain ⟨F, F8, F1, F2⟩ := x_lowSh (M := K) (f := sB K k) (a := i) hn'
    have FL : (F : Int) = L i := F1.un lo'
    have w5 : 2 * i + 1 < 6 := by omega
    obtain ⟨K2, d1, d2, d3⟩ := xfor_M (sg := gX6_settle) (st := fun n K => (18, [some (.inr (.inr (6, k))), some (.inl (iZ (i))), some (.inl (iZ (F))), some (.inl (iZ (n)))], [], K)) (I := fun n K' => xSame (fun r => r = (44, k)) M K' ∧ ∀ c, c < 512 → (sB K' k c = true ↔ tsf (fun o => sB K k o = true) (fun a => (n : Int) * stp (2 * i + 1) a) c)) (n := F) (fun n K1 hn hI => by
      obtain ⟨K', e1, e2, e3⟩ := x_step (M := K1) (k := k) w5
      refine ⟨K', ?_, hI.1.tr e2, st_more w5 hI.2 e3⟩
      have ew : 2 * (i : Int) + 1 = ((2 * i + 1 : Nat) : Int) := by omega
      rw [nS]
      clear keep lo' i2 hL L0 e3 F1 hs F2
      rw [xfix_unf, sX6_settle_18]
      simp (disch := omega) only [xk_none, xk_inl, xk_inr, xk_ite, xri_v, xrl_v, xrv_v, xb_z0, xb_z1, xb_b2, if_true, if_false, ite_true, ite_false, iZ_lit, iZ_m1, iZ_m99, iZ_m8, iZ_add, iZ_sub, iZ_mul, iZ_neg, nz0, nzi, iZ_lt, iZ_le, iZ_inj, b2_z, b2_o, ite_bPz, ite_bPo, xb_bP, iZ_xin, if_pos, ite_self, ↓reduceIte, Int.reduceAdd, Int.reduceSub, Int.reduceMul, Int.reduceNeg, Int.reduceLT, Int.reduceLE, if_neg, ew, ↓xrv_some e1]) (a := 0) (M := K) (by omega) ⟨i1, fun c hc => (tsf_0 (S := fun o => sB K k o = true) (L := fun a => ((0 : Nat) : Int) * stp (2 * i + 1) a) hc (fun a ha => by simp)).symm⟩
    refine ⟨K2, ?_, d2, fun c hc => ?_⟩
    · have zz : ((0 : Nat) : Int) = 0 := rfl
      rw [zz] at d1
      have t18 : xfix gX6_settle (2, [some (.inr (.inr (6, k))), some (.inl (iZ (i))), none, none], [], K) = xfix gX6_settle (18, [some (.inr (.inr (6, k))), some (.inl (iZ (i))), some (.inl (iZ (F))), some (.inl (iZ ((0 : Int))))], [], K) := by
        clear keep lo' i2 hL L0 d3 d1 F1
        generalize shW (sB K k) i = sw at *
        rw [xfix_unf, sX6_settle_2]
        simp (disch := omega) only [xk_none, xk_inl, xk_inr, xk_ite, xri_v, xrl_v, xrv_v, xb_z0, xb_z1, xb_b2, if_true, if_false, ite_true, ite_false, iZ_lit, iZ_m1, iZ_m99, iZ_m8, iZ_add, iZ_sub, iZ_mul, iZ_neg, nz0, nzi, iZ_lt, iZ_le, iZ_inj, b2_z, b2_o, ite_bPz, ite_bPo, xb_bP, iZ_xin, if_pos, ite_self, ↓reduceIte, Int.reduceAdd, Int.reduceSub, Int.reduceMul, Int.reduceNeg, Int.reduceLT, Int.reduceLE, if_neg, ↓xri_some hs, ↓xri_some F2]
      rw [t18, d1, nS]
      clear keep lo' i2 hL L0 d3 d1 F1 t18
      rw [xfix_unf, sX6_settle_18]
      simp (disch := omega) only [xk_none, xk_inl, xk_inr, xk_ite, xri_v, xrl_v, xrv_v, xb_z0, xb_z1, xb_b2, if_true, if_false, ite_true, ite_false, iZ_lit, iZ_m1, iZ_m99, iZ_m8, iZ_add, iZ_sub, iZ_mul, iZ_neg, nz0, nzi, iZ_lt, iZ_le, iZ_inj, b2_z, b2_o, ite_bPz, ite_bPo, xb_bP, iZ_xin, if_pos, ite_self, ↓reduceIte, Int.reduceAdd, Int.reduceSub, Int.reduceMul, Int.reduceNeg, Int.reduceLT, Int.reduceLE, if_neg]
    · rw [d3 c hc]
      refine (tsf_cg (T := tsf (fun o => sB M k o = true) (fun a => if a < i then -L a else 0)) (fun o ho => i2 o ho) (fun _ _ => rfl)).trans ((tsf_tsf ?_).trans (tsf_cg (fun _ _ => Iff.rfl) fun a ha => ?_))
      · intro o o1 o2 o3 a ha
        have h1 := (hL a ha).2 o o1 o2
        have h2 := alg_lt o1 a
        have h3 := L0 a ha
        split <;> omega
      · rw [stp_n w5 ha]
        by_cases e : a = i
        · subst e
          rw [if_neg (by omega), if_pos (by omega), if_neg (by omega), if_pos (by omega)]; omega
        · rw [if_neg (show ¬ a = (2 * i + 1) / 2 by omega)]
          by_cases e2 : a < i
          · rw [if_pos e2, if_pos (by omega)]; omega
          · rw [if_neg e2, if_neg (by omega)]; omega) (a := 0) (M := M) (by omega) ⟨xSame.rf, fun c hc => (tsf_0 (S := fun o => sB M k o = true) (L := fun a => if a < 0 then -L a else 0) hc (fun a ha => by simp)).symm⟩
  refine ⟨M2, ?_, b2, fun c hc => (b3 c hc).trans (tsf_cg (fun _ _ => Iff.rfl) fun a ha => by rw [if_pos ha])⟩
  have zz : ((0 : Nat) : Int) = 0 := rfl
  have e3 : ((3 : Nat) : Int) = 3 := rfl
  rw [zz, e3] at b1
  clear hL L0 b3
  show xfix gX6_settle (0, [some (.inr (.inr (6, k))), none, none, none], [], M) = _; rw [xfix_unf, sX6_settle_0]
  simp (disch := omega) only [xk_none, xk_inl, xk_inr, xk_ite, xri_v, xrl_v, xrv_v, xb_z0, xb_z1, xb_b2, if_true, if_false, ite_true, ite_false, iZ_lit, iZ_m1, iZ_m99, iZ_m8, iZ_add, iZ_sub, iZ_mul, iZ_neg, nz0, nzi, iZ_lt, iZ_le, iZ_inj, b2_z, b2_o, ite_bPz, ite_bPo, xb_bP, iZ_xin, if_pos, ite_self, ↓reduceIte, Int.reduceAdd, Int.reduceSub, Int.reduceMul, Int.reduceNeg, Int.reduceLT, Int.reduceLE, if_neg]
  refine Eq.trans b1 ?_
  rw [xfix_unf, sX6_settle_2]
  simp (disch := omega) only [xk_none, xk_inl, xk_inr, xk_ite, xri_v, xrl_v, xrv_v, xb_z0, xb_z1, xb_b2, if_true, if_false, ite_true, ite_false, iZ_lit, iZ_m1, iZ_m99, iZ_m8, iZ_add, iZ_sub, iZ_mul, iZ_neg, nz0, nzi, iZ_lt, iZ_le, iZ_inj, b2_z, b2_o, ite_bPz, ite_bPo, xb_bP, iZ_xin, if_pos, ite_self, ↓reduceIte, Int.reduceAdd, Int.reduceSub, Int.reduceMul, Int.reduceNeg, Int.reduceLT, Int.reduceLE, if_neg]
