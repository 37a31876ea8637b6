/-! the reference: moves, by going outward -/
def oX (s : Nat) : Int := ((s % 17 : Nat) : Int) - 8
def oY (s : Nat) : Int := ((s / 17 % 17 : Nat) : Int) - 8
def oZ (s : Nat) : Int := ((s / 289 : Nat) : Int) - 8
theorem o_b {s : Nat} (h : s < 4913) : (-8 ≤ oX s ∧ oX s ≤ 8) ∧ (-8 ≤ oY s ∧ oY s ≤ 8) ∧ (-8 ≤ oZ s ∧ oZ s ≤ 8) := by unfold oX oY oZ; omega
def okN (s w : Nat) : Prop := (-8 ≤ oX s + dX w ∧ oX s + dX w ≤ 8) ∧ (-8 ≤ oY s + dY w ∧ oY s + dY w ≤ 8) ∧ (-8 ≤ oZ s + dZ w ∧ oZ s + dZ w ≤ 8)
def nxN (s w : Nat) : Nat := (289 * (oZ s + dZ w + 8) + 17 * (oY s + dY w + 8) + (oX s + dX w) + 8).toNat
theorem nx_o {s w : Nat} (h : okN s w) : nxN s w < 4913 ∧ oX (nxN s w) = oX s + dX w ∧ oY (nxN s w) = oY s + dY w ∧ oZ (nxN s w) = oZ s + dZ w := by
  obtain ⟨h1, h2, h3⟩ := h
  obtain ⟨x, hx⟩ : ∃ x : Nat, oX s + dX w + 8 = x := ⟨(oX s + dX w + 8).toNat, by omega⟩
  obtain ⟨y, hy⟩ : ∃ y : Nat, oY s + dY w + 8 = y := ⟨(oY s + dY w + 8).toNat, by omega⟩
  obtain ⟨z, hz⟩ : ∃ z : Nat, oZ s + dZ w + 8 = z := ⟨(oZ s + dZ w + 8).toNat, by omega⟩
  have e : nxN s w = 289 * z + 17 * y + x := by unfold nxN; omega
  rw [e]
  refine ⟨by omega, ?_, ?_, ?_⟩
  · rw [show oX s + dX w = (x : Int) - 8 by omega]
    have : x ≤ 16 := by omega
    unfold oX
    omega
  · rw [show oY s + dY w = (y : Int) - 8 by omega]
    have : x ≤ 16 := by omega
    have : y ≤ 16 := by omega
    have e2 : (289 * z + 17 * y + x) / 17 = 17 * z + y := by omega
    unfold oY
    rw [e2]
    omega
  · rw [show oZ s + dZ w = (z : Int) - 8 by omega]
    have : x ≤ 16 := by omega
    have : y ≤ 16 := by omega
    unfold oZ
    omega
def frT (A : dA) (half rest s : Nat) : Prop := ¬ stS A half rest (oX s) (oY s) (oZ s)
def ouT (A : dA) (half rest s : Nat) : Prop := ouS A half rest (oX s) (oY s) (oZ s)
def mvE (A : dA) (half rest s u : Nat) : Prop := ∃ w, w < 6 ∧ okN s w ∧ u = nxN s w ∧ frT A half rest u
/-- how far it has come -/
def BI (E : Nat → Nat → Prop) (O : Nat → Prop) (wd : Nat → Int) (q : Nat → Nat) (first last : Nat) : Prop := (∀ i, i < last → q i < 4913 ∧ 0 ≤ wd (q i) ∧ wd (q i) ≤ i) ∧ (∀ i j, i < j → j < last → q i ≠ q j) ∧ (∀ s, s < 4913 → -1 ≤ wd s ∧ (wd s ≠ -1 → ∃ i, i < last ∧ q i = s)) ∧ (∀ i j, i ≤ j → j < last → wd (q i) ≤ wd (q j)) ∧ (∀ j, j < last → first < last → wd (q j) ≤ wd (q first) + 1) ∧ (∀ i, i < last → pf E (wd (q i)).toNat 2456 (q i)) ∧ (∀ i, i < first → ¬ O (q i) ∧ ∀ u, E (q i) u → wd u ≠ -1 ∧ wd u ≤ wd (q i) + 1) ∧ (0 < last ∧ q 0 = 2456 ∧ wd 2456 = 0)
theorem BI.key {E : Nat → Nat → Prop} {O : Nat → Prop} {wd : Nat → Int} {q : Nat → Nat} {first last : Nat} (hE : ∀ a b, E a b → b < 4913) (h : BI E O wd q first last) (hf : first ≤ last) : ∀ n t, pf E n 2456 t → (first = last ∨ (n : Int) ≤ wd (q first)) → wd t ≠ -1 ∧ wd t ≤ n ∧ t < 4913
  | 0, t, h1, _ => by
    have e : 2456 = t := h1
    have h7 := h.2.2.2.2.2.2.2
    rw [← e, h7.2.2]
    exact ⟨by omega, by omega, by omega⟩
  | n + 1, t, ⟨u, h1, h2⟩, hc => by
    have ih := BI.key hE h hf n u h1 (hc.imp id fun z => by omega)
    obtain ⟨i, i1, i2⟩ := (h.2.2.1 u ih.2.2).2 ih.1
    have hi : i < first := by
      rcases hc with hc | hc
      · omega
      · refine Nat.lt_of_not_le fun z => ?_
        have := h.2.2.2.1 first i z i1
        rw [i2] at this
        omega
    have := (h.2.2.2.2.2.2.1 i hi).2 t (by rw [i2]; exact h2)
    rw [i2] at this
    exact ⟨this.1, by omega, hE u t h2⟩
theorem BI.out {E : Nat → Nat → Prop} {O : Nat → Prop} {wd : Nat → Int} {q : Nat → Nat} {first last : Nat} (hE : ∀ a b, E a b → b < 4913) (h : BI E O wd q first last) (hf : first < last) (ho : O (q first)) : isM (fun n => ∃ t, pf E n 2456 t ∧ O t) (wd (q first)) := by
  have h1 := h.1 first hf
  refine .inr ⟨(wd (q first)).toNat, by omega, ⟨q first, h.2.2.2.2.2.1 first hf, ho⟩, fun n hn ⟨t, t1, t2⟩ => ?_⟩
  have k := BI.key hE h (by omega) n t t1 (.inr (by omega))
  obtain ⟨i, i1, i2⟩ := (h.2.2.1 t k.2.2).2 k.1
  have hi : i < first := by
    refine Nat.lt_of_not_le fun z => ?_
    have := h.2.2.2.1 first i z i1
    rw [i2] at this
    omega
  exact (h.2.2.2.2.2.2.1 i hi).1 (by rw [i2]; exact t2)
theorem BI.fin {E : Nat → Nat → Prop} {O : Nat → Prop} {wd : Nat → Int} {q : Nat → Nat} {last : Nat} (hE : ∀ a b, E a b → b < 4913) (h : BI E O wd q last last) : isM (fun n => ∃ t, pf E n 2456 t ∧ O t) (-1) := by
  refine .inl ⟨rfl, fun n ⟨t, t1, t2⟩ => ?_⟩
  have k := BI.key hE h (Nat.le_refl _) n t t1 (.inl rfl)
  obtain ⟨i, i1, i2⟩ := (h.2.2.1 t k.2.2).2 k.1
  exact (h.2.2.2.2.2.2.1 i i1).1 (by rw [i2]; exact t2)
/-- one more is found -/
theorem BI.add {E : Nat → Nat → Prop} {O : Nat → Prop} {wd : Nat → Int} {q : Nat → Nat} {first last u : Nat} (h : BI E O wd q first last) (hf : first < last) (hu : u < 4913) (hn : wd u = -1) (he : E (q first) u) : BI E O (fun s => if s = u then wd (q first) + 1 else wd s) (fun i => if i = last then u else q i) first (last + 1) := by
  obtain ⟨a, b, c, d, e, f, g, k⟩ := h
  have hq : ∀ i, i < last → q i ≠ u := fun i hi z => by
    have := (a i hi).2.1
    rw [z, hn] at this
    omega
  have qv : ∀ i, i < last → (if i = last then u else q i) = q i := fun i hi => if_neg (by omega)
  have wv : ∀ i, i < last → (if q i = u then wd (q first) + 1 else wd (q i)) = wd (q i) := fun i hi => if_neg (hq i hi)
  have key : ∀ i, i < last + 1 → (i < last ∧ (if i = last then u else q i) = q i ∧ (if (if i = last then u else q i) = u then wd (q first) + 1 else wd (if i = last then u else q i)) = wd (q i)) ∨ (i = last ∧ (if i = last then u else q i) = u ∧ (if (if i = last then u else q i) = u then wd (q first) + 1 else wd (if i = last then u else q i)) = wd (q first) + 1) := fun i hi => by
    by_cases e : i = last
    · right
      refine ⟨e, if_pos e, ?_⟩
      rw [if_pos e, if_pos rfl]
    · left
      refine ⟨by omega, if_neg e, ?_⟩
      rw [if_neg e]; exact wv i (by omega)
  have a0 := a first hf
  have kf : (if (if first = last then u else q first) = u then wd (q first) + 1 else wd (if first = last then u else q first)) = wd (q first) := by
    rw [qv first hf]; exact wv first hf
  refine ⟨fun i hi => ?_, fun i j hij hj => ?_, fun s hs => ?_, fun i j hij hj => ?_, fun j hj _ => ?_, fun i hi => ?_, fun i hi => ?_, by omega, ?_, ?_⟩
  · dsimp only
    rcases key i hi with ⟨x1, x2, x3⟩ | ⟨x1, x2, x3⟩
    · rw [x3, x2]; exact a i x1
    · rw [x3, x2]; exact ⟨hu, by omega, by omega⟩
  · dsimp only
    rw [qv i (by omega)]
    by_cases ej : j = last
    · rw [if_pos ej]; exact hq i (by omega)
    · rw [if_neg ej]; exact b i j hij (by omega)
  · dsimp only
    have c0 := c s hs
    by_cases es : s = u
    · rw [if_pos es]
      exact ⟨by omega, fun _ => ⟨last, by omega, by rw [if_pos rfl, es]⟩⟩
    · rw [if_neg es]
      refine ⟨c0.1, fun z => ?_⟩
      obtain ⟨i, i1, i2⟩ := c0.2 z
      exact ⟨i, by omega, by rw [qv i i1]; exact i2⟩
  · dsimp only
    rcases key i (by omega) with ⟨x1, x2, x3⟩ | ⟨x1, x2, x3⟩
    · rcases key j hj with ⟨y1, y2, y3⟩ | ⟨y1, y2, y3⟩
      · rw [x3, y3]; exact d i j hij y1
      · rw [x3, y3]; exact e i x1 hf
    · rcases key j hj with ⟨y1, y2, y3⟩ | ⟨y1, y2, y3⟩
      · omega
      · rw [x3, y3]; omega
  · dsimp only
    rw [kf]
    rcases key j hj with ⟨y1, y2, y3⟩ | ⟨y1, y2, y3⟩
    · rw [y3]; exact e j y1 hf
    · rw [y3]; omega
  · dsimp only
    rcases key i hi with ⟨x1, x2, x3⟩ | ⟨x1, x2, x3⟩
    · rw [x3, x2]; exact f i x1
    · rw [x3, x2, show (wd (q first) + 1).toNat = (wd (q first)).toNat + 1 by omega]
      exact ⟨q first, f first hf, he⟩
  · dsimp only
    rw [qv i (by omega), wv i (by omega)]
    refine ⟨(g i hi).1, fun v hv => ?_⟩
    have g0 := (g i hi).2 v hv
    by_cases ev : v = u
    · rw [ev, hn] at g0
      exact absurd rfl g0.1
    · rw [if_neg ev]; exact g0
  · dsimp only
    rw [qv 0 (by omega)]; exact k.2.1
  · dsimp only
    have := k.2.1
    rw [if_neg (fun z => hq 0 (by omega) (this.trans z))]; exact k.2.2
theorem BI.last {E : Nat → Nat → Prop} {O : Nat → Prop} {wd : Nat → Int} {q : Nat → Nat} {first last : Nat} (h : BI E O wd q first last) : last ≤ 4913 := fb_holes 4913 last q (fun i hi => (h.1 i hi).1) h.2.1
/-- the rows of walked and queue -/
def bfR (M : xM) (wd : Nat → Int) (q : Nat → Nat) (last : Nat) : Prop := (∀ s, s < 4913 → xI M (151, 0) s = iZ (wd s)) ∧ ∀ i, i < last → xI M (152, 0) i = iZ (q i)
theorem z17 (i : Nat) : (i : Int) - (i : Int) / 17 * 17 = ((i % 17 : Nat) : Int) := by omega
theorem z1717 (i : Nat) : (i : Int) / 17 - (i : Int) / 17 / 17 * 17 = ((i / 17 % 17 : Nat) : Int) := by omega
theorem z289 (i : Nat) : (i : Int) / 289 = ((i / 289 : Nat) : Int) := by omega
theorem mv_ways {A : dA} {M N : xM} {half rest n first last : Nat} {wd : Nat → Int} {q : Nat → Nat} (hA : mA M A) (h2 : rest < 512) (hN : xSame (fun r => r = (151, 0) ∨ r = (152, 0)) M N) (hL : hLs A half 512 M n) (hb : bfR N wd q last) (hf : first < last) (hno : ¬ ouT A half rest (q first)) (hI : BI (mvE A half rest) (ouT A half rest) wd q first last) : ∃ N' wd' q' last', xfix gX12_moves (149, [some (.inr (.inr (12, 0))), none, none, some (.inl (iZ (rest))), none, some (.inl (iZ (last))), some (.inl (iZ (first))), some (.inl (iZ ((q first)))), some (.inl (iZ ((oX (q first))))), some (.inl (iZ ((oY (q first))))), some (.inl (iZ ((oZ (q first))))), some (.inl (iZ ((0 : Nat)))), none, none, none, none], [], N) = xfix gX12_moves (75, [some (.inr (.inr (12, 0))), none, none, some (.inl (iZ (rest))), none, some (.inl (iZ ((last' : Nat)))), some (.inl (iZ (((first : Int) + 1)))), none, none, none, none, none, none, none, none, none], [], N') ∧ xSame (fun r => r = (151, 0) ∨ r = (152, 0)) M N' ∧ bfR N' wd' q' last' ∧ first < last' ∧ BI (mvE A half rest) (ouT A half rest) wd' q' (first + 1) last' := by
  have hq1 := (hI.1 first hf).1
  have ob := o_b hq1
  obtain ⟨⟨N2, wd2, q2, last2⟩, g1, g2, g3, g4, g5, g6, g7⟩ := xfor_S (σ := xM × (Nat → Int) × (Nat → Nat) × Nat) (sg := gX12_moves) (st := fun w x => (149, [some (.inr (.inr (12, 0))), none, none, some (.inl (iZ (rest))), none, some (.inl (iZ ((x.2.2.2 : Nat)))), some (.inl (iZ (first))), some (.inl (iZ ((q first)))), some (.inl (iZ ((oX (q first))))), some (.inl (iZ ((oY (q first))))), some (.inl (iZ ((oZ (q first))))), some (.inl (iZ (w))), none, none, none, none], [], x.1)) (I := fun w x => xSame (fun r => r = (151, 0) ∨ r = (152, 0)) M x.1 ∧ bfR x.1 x.2.1 x.2.2.1 x.2.2.2 ∧ first < x.2.2.2 ∧ x.2.2.1 first = q first ∧ BI (mvE A half rest) (ouT A half rest) x.2.1 x.2.2.1 first x.2.2.2 ∧ ∀ v, v < w → okN (q first) v → frT A half rest (nxN (q first) v) → x.2.1 (nxN (q first) v) ≠ -1) (n := 6) (fun w x hw hx => by
    obtain ⟨N, wd, q', last⟩ := x
    obtain ⟨i1, i2, i3, i4, i5, i6⟩ := hx
    dsimp only at i1 i2 i3 i4 i5 i6 ⊢
    have hNA := hA.fr i1 (by decide)
    have hNL : hLs A half 512 N n := by
      obtain ⟨l1, l2, l3, l4⟩ := hL
      refine ⟨by rw [(i1 (12, 0) (by decide)).1]; exact l1, l2, fun k hk => by rw [(i1 (153, 0) (by decide)).1]; exact l3 k hk, fun c c1 c2 => ?_⟩
      obtain ⟨k, k1, k2⟩ := l4 c c1 c2
      exact ⟨k, k1, by rw [(i1 (153, 0) (by decide)).1]; exact k2⟩
    have bx := dX_le w
    have by' := dY_le w
    have bz := dZ_le w
    have hl := i5.last
    have h6 : ¬ (6 : Int32) ≤ iZ (w : Int) := by
      rw [show (6 : Int32) = iZ 6 from rfl, iZ_le (by omega) (by omega)]; omega
    have h10 : ¬ iZ 1 = (0 : Int32) := by decide +kernel
    have h00 : iZ 0 = (0 : Int32) := rfl
    have kX := k_isIn (M := N) (v := oX (q first) + dX w) (lo := -8) (hi := 8) (by omega) (by omega) (by omega)
    have kY := k_isIn (M := N) (v := oY (q first) + dY w) (lo := -8) (hi := 8) (by omega) (by omega) (by omega)
    have kZ := k_isIn (M := N) (v := oZ (q first) + dZ w) (lo := -8) (hi := 8) (by omega) (by omega) (by omega)
    have stay : (okN (q first) w → frT A half rest (nxN (q first) w) → wd (nxN (q first) w) ≠ -1) → xfix gX12_moves (149, [some (.inr (.inr (12, 0))), none, none, some (.inl (iZ (rest))), none, some (.inl (iZ (last))), some (.inl (iZ (first))), some (.inl (iZ ((q first)))), some (.inl (iZ ((oX (q first))))), some (.inl (iZ ((oY (q first))))), some (.inl (iZ ((oZ (q first))))), some (.inl (iZ (w))), none, none, none, none], [], N) = xfix gX12_moves (149, [some (.inr (.inr (12, 0))), none, none, some (.inl (iZ (rest))), none, some (.inl (iZ (last))), some (.inl (iZ (first))), some (.inl (iZ ((q first)))), some (.inl (iZ ((oX (q first))))), some (.inl (iZ ((oY (q first))))), some (.inl (iZ ((oZ (q first))))), some (.inl (iZ (((w : Int) + 1)))), none, none, none, none], [], N) → ∃ x' : xM × (Nat → Int) × (Nat → Nat) × Nat, xfix gX12_moves (149, [some (.inr (.inr (12, 0))), none, none, some (.inl (iZ (rest))), none, some (.inl (iZ (last))), some (.inl (iZ (first))), some (.inl (iZ ((q first)))), some (.inl (iZ ((oX (q first))))), some (.inl (iZ ((oY (q first))))), some (.inl (iZ ((oZ (q first))))), some (.inl (iZ (w))), none, none, none, none], [], N) = xfix gX12_moves (149, [some (.inr (.inr (12, 0))), none, none, some (.inl (iZ (rest))), none, some (.inl (iZ ((x'.2.2.2 : Nat)))), some (.inl (iZ (first))), some (.inl (iZ ((q first)))), some (.inl (iZ ((oX (q first))))), some (.inl (iZ ((oY (q first))))), some (.inl (iZ ((oZ (q first))))), some (.inl (iZ (((w + 1 : Nat))))), none, none, none, none], [], x'.1) ∧ xSame (fun r => r = (151, 0) ∨ r = (152, 0)) M x'.1 ∧ bfR x'.1 x'.2.1 x'.2.2.1 x'.2.2.2 ∧ first < x'.2.2.2 ∧ x'.2.2.1 first = q first ∧ BI (mvE A half rest) (ouT A half rest) x'.2.1 x'.2.2.1 first x'.2.2.2 ∧ ∀ v, v < w + 1 → okN (q first) v → frT A half rest (nxN (q first) v) → x'.2.1 (nxN (q first) v) ≠ -1 := fun z1 z2 => ⟨(N, wd, q', last), by rw [nS]; exact z2, i1, i2, i3, i4, i5, fun v hv v1 v2 => by
      by_cases e : v = w
      · subst e; exact z1 v1 v2
      · exact i6 v (by omega) v1 v2⟩
    by_cases cX : -8 ≤ oX (q first) + dX w ∧ oX (q first) + dX w ≤ 8
    · by_cases cY : -8 ≤ oY (q first) + dY w ∧ oY (q first) + dY w ≤ 8
      · by_cases cZ : -8 ≤ oZ (q first) + dZ w ∧ oZ (q first) + dZ w ≤ 8
        · have hok : okN (q first) w := ⟨cX, cY, cZ⟩
          obtain ⟨n1, n2, n3, n4⟩ := nx_o hok
          have en : 289 * (oZ (q first) + dZ w + 8) + 17 * (oY (q first) + dY w + 8) + (oX (q first) + dX w) + 8 = ((nxN (q first) w : Nat) : Int) := by unfold nxN; omega
          have f1 := i2.1 (nxN (q first) w) n1
          have f2 := i2.1 (q first) hq1
          have w1 := (i5.2.2.1 (nxN (q first) w) n1).1
          have w2 := (i5.2.2.1 (q first) hq1).1
          have w3 := i5.1 first i3
          rw [i4] at w3
          have w4 : wd (nxN (q first) w) ≤ 4913 := by
            by_cases e : wd (nxN (q first) w) = -1
            · omega
            · obtain ⟨i, x1, x2⟩ := (i5.2.2.1 _ n1).2 e
              have := (i5.1 i x1).2.2
              rw [x2] at this
              omega
          have hst := m_strikes hNA hNL h2 (x := oX (q first) + dX w) (y := oY (q first) + dY w) (z := oZ (q first) + dZ w) (by omega) (by omega) (by omega)
          by_cases c1 : wd (nxN (q first) w) = -1
          · by_cases c2 : frT A half rest (nxN (q first) w)
            · -- a new one
              have hadd := i5.add i3 n1 c1 (by rw [i4]; exact ⟨w, hw, hok, rfl, c2⟩)
              rw [i4] at hadd
              have hl2 := hadd.last
              refine ⟨(xpI (xpI N (151, 0) (nxN (q first) w) (iZ (wd (q first) + 1))) (152, 0) last (iZ (nxN (q first) w)), fun s => if s = nxN (q first) w then wd (q first) + 1 else wd s, fun i => if i = last then nxN (q first) w else q' i, last + 1), ?_, (i1.pI (.inl rfl)).pI (.inr rfl), ⟨fun s hs => ?_, fun i hi => ?_⟩, by show first < last + 1; omega, by show (if first = last then nxN (q first) w else q' first) = q first; rw [if_neg (by omega)]; exact i4, hadd, fun v hv v1 v2 => ?_⟩
              · have c2' : ¬ stS A half rest (oX (q first) + dX w) (oY (q first) + dY w) (oZ (q first) + dZ w) := by rw [← n2, ← n3, ← n4]; exact c2
                dsimp only
                rw [nS, nS]
                rw [xfix_unf, sX12_moves_149, if_neg h6, m_stepX N hw, xri_v, m_stepY N hw, xri_v, m_stepZ N hw, xri_v, iZ_add (oX (q first)) (dX w), iZ_add (oY (q first)) (dY w), iZ_add (oZ (q first)) (dZ w), iZ_m8, show (8 : Int32) = iZ 8 from rfl, kX, xri_v, bP_t cX, if_neg h10, kY, xri_v, bP_t cY, if_neg h10, kZ, xri_v, bP_t cZ, if_neg h10]
                simp (disch := omega) only [xk_none, xk_inl, xk_inr, xk_ite, xri_v, xrl_v, xrv_v, xb_z0, xb_z1, xb_b2, if_true, if_false, ite_true, ite_false, iZ_lit, iZ_m1, iZ_m99, iZ_m8, iZ_add, iZ_sub, iZ_mul, iZ_neg, nz0, nzi, iZ_lt, iZ_le, iZ_inj, b2_z, b2_o, ite_bPz, ite_bPo, xb_bP, iZ_xin, if_pos, ite_self, ↓reduceIte, Int.reduceAdd, Int.reduceSub, Int.reduceMul, Int.reduceNeg, Int.reduceLT, Int.reduceLE, if_neg, en, iZ_clampN, f1, f2, c1, hst, if_neg c2']
              · dsimp only
                rw [xI_pI_ne (by decide), xI_pI]
                by_cases e : s = nxN (q first) w
                · rw [if_pos ⟨rfl, e⟩, if_pos e]
                · rw [if_neg (fun z => e z.2), if_neg e]; exact i2.1 s hs
              · dsimp only
                rw [xI_pI]
                by_cases e : i = last
                · rw [if_pos ⟨rfl, e⟩, if_pos e]
                · rw [if_neg (fun z => e z.2), if_neg e, xI_pI_ne (by decide)]; exact i2.2 i (by show i < last; dsimp only at hi; omega)
              · dsimp only
                by_cases e : nxN (q first) v = nxN (q first) w
                · rw [if_pos e]; omega
                · rw [if_neg e]
                  exact i6 v (by
                    by_cases ev : v = w
                    · subst ev; exact absurd rfl e
                    · omega) v1 v2
            · have c2' : stS A half rest (oX (q first) + dX w) (oY (q first) + dY w) (oZ (q first) + dZ w) := by rw [← n2, ← n3, ← n4]; exact Classical.byContradiction c2
              refine stay (fun _ z => absurd z c2) ?_
              rw [xfix_unf, sX12_moves_149, if_neg h6, m_stepX N hw, xri_v, m_stepY N hw, xri_v, m_stepZ N hw, xri_v, iZ_add (oX (q first)) (dX w), iZ_add (oY (q first)) (dY w), iZ_add (oZ (q first)) (dZ w), iZ_m8, show (8 : Int32) = iZ 8 from rfl, kX, xri_v, bP_t cX, if_neg h10, kY, xri_v, bP_t cY, if_neg h10, kZ, xri_v, bP_t cZ, if_neg h10]
              simp (disch := omega) only [xk_none, xk_inl, xk_inr, xk_ite, xri_v, xrl_v, xrv_v, xb_z0, xb_z1, xb_b2, if_true, if_false, ite_true, ite_false, iZ_lit, iZ_m1, iZ_m99, iZ_m8, iZ_add, iZ_sub, iZ_mul, iZ_neg, nz0, nzi, iZ_lt, iZ_le, iZ_inj, b2_z, b2_o, ite_bPz, ite_bPo, xb_bP, iZ_xin, if_pos, ite_self, ↓reduceIte, Int.reduceAdd, Int.reduceSub, Int.reduceMul, Int.reduceNeg, Int.reduceLT, Int.reduceLE, if_neg, en, iZ_clampN, f1, f2, c1, hst, if_pos c2']
          · refine stay (fun _ _ => c1) ?_
            rw [xfix_unf, sX12_moves_149, if_neg h6, m_stepX N hw, xri_v, m_stepY N hw, xri_v, m_stepZ N hw, xri_v, iZ_add (oX (q first)) (dX w), iZ_add (oY (q first)) (dY w), iZ_add (oZ (q first)) (dZ w), iZ_m8, show (8 : Int32) = iZ 8 from rfl, kX, xri_v, bP_t cX, if_neg h10, kY, xri_v, bP_t cY, if_neg h10, kZ, xri_v, bP_t cZ, if_neg h10]
            simp (disch := omega) only [xk_none, xk_inl, xk_inr, xk_ite, xri_v, xrl_v, xrv_v, xb_z0, xb_z1, xb_b2, if_true, if_false, ite_true, ite_false, iZ_lit, iZ_m1, iZ_m99, iZ_m8, iZ_add, iZ_sub, iZ_mul, iZ_neg, nz0, nzi, iZ_lt, iZ_le, iZ_inj, b2_z, b2_o, ite_bPz, ite_bPo, xb_bP, iZ_xin, if_pos, ite_self, ↓reduceIte, Int.reduceAdd, Int.reduceSub, Int.reduceMul, Int.reduceNeg, Int.reduceLT, Int.reduceLE, if_neg, en, iZ_clampN, f1]
        · refine stay (fun z => absurd z.2.2 cZ) ?_
          rw [xfix_unf, sX12_moves_149, if_neg h6, m_stepX N hw, xri_v, m_stepY N hw, xri_v, m_stepZ N hw, xri_v, iZ_add (oX (q first)) (dX w), iZ_add (oY (q first)) (dY w), iZ_add (oZ (q first)) (dZ w), iZ_m8, show (8 : Int32) = iZ 8 from rfl, kX, xri_v, bP_t cX, if_neg h10, kY, xri_v, bP_t cY, if_neg h10, kZ, xri_v, bP_f cZ, if_pos h00]
          simp (disch := omega) only [xk_none, xk_inl, xk_inr, xk_ite, xri_v, xrl_v, xrv_v, xb_z0, xb_z1, xb_b2, if_true, if_false, ite_true, ite_false, iZ_lit, iZ_m1, iZ_m99, iZ_m8, iZ_add, iZ_sub, iZ_mul, iZ_neg, nz0, nzi, iZ_lt, iZ_le, iZ_inj, b2_z, b2_o, ite_bPz, ite_bPo, xb_bP, iZ_xin, if_pos, ite_self, ↓reduceIte, Int.reduceAdd, Int.reduceSub, Int.reduceMul, Int.reduceNeg, Int.reduceLT, Int.reduceLE, if_neg]
      · refine stay (fun z => absurd z.2.1 cY) ?_
        rw [xfix_unf, sX12_moves_149, if_neg h6, m_stepX N hw, xri_v, m_stepY N hw, xri_v, m_stepZ N hw, xri_v, iZ_add (oX (q first)) (dX w), iZ_add (oY (q first)) (dY w), iZ_add (oZ (q first)) (dZ w), iZ_m8, show (8 : Int32) = iZ 8 from rfl, kX, xri_v, bP_t cX, if_neg h10, kY, xri_v, bP_f cY, if_pos h00]
        simp (disch := omega) only [xk_none, xk_inl, xk_inr, xk_ite, xri_v, xrl_v, xrv_v, xb_z0, xb_z1, xb_b2, if_true, if_false, ite_true, ite_false, iZ_lit, iZ_m1, iZ_m99, iZ_m8, iZ_add, iZ_sub, iZ_mul, iZ_neg, nz0, nzi, iZ_lt, iZ_le, iZ_inj, b2_z, b2_o, ite_bPz, ite_bPo, xb_bP, iZ_xin, if_pos, ite_self, ↓reduceIte, Int.reduceAdd, Int.reduceSub, Int.reduceMul, Int.reduceNeg, Int.reduceLT, Int.reduceLE, if_neg]
    · refine stay (fun z => absurd z.1 cX) ?_
      rw [xfix_unf, sX12_moves_149, if_neg h6, m_stepX N hw, xri_v, m_stepY N hw, xri_v, m_stepZ N hw, xri_v, iZ_add (oX (q first)) (dX w), iZ_add (oY (q first)) (dY w), iZ_add (oZ (q first)) (dZ w), iZ_m8, show (8 : Int32) = iZ 8 from rfl, kX, xri_v, bP_f cX, if_pos h00]
      simp (disch := omega) only [xk_none, xk_inl, xk_inr, xk_ite, xri_v, xrl_v, xrv_v, xb_z0, xb_z1, xb_b2, if_true, if_false, ite_true, ite_false, iZ_lit, iZ_m1, iZ_m99, iZ_m8, iZ_add, iZ_sub, iZ_mul, iZ_neg, nz0, nzi, iZ_lt, iZ_le, iZ_inj, b2_z, b2_o, ite_bPz, ite_bPo, xb_bP, iZ_xin, if_pos, ite_self, ↓reduceIte, Int.reduceAdd, Int.reduceSub, Int.reduceMul, Int.reduceNeg, Int.reduceLT, Int.reduceLE, if_neg]) (a := 0) (x := (N, wd, q, last)) (by omega) ⟨hN, hb, hf, rfl, hI, fun v hv => by omega⟩
  dsimp only at g1 g2 g3 g4 g5 g6 g7
  refine ⟨N2, wd2, q2, last2, g1.trans ?_, g2, g3, g4, ?_⟩
  · have hl := g6.last
    rw [xfix_unf, sX12_moves_149]
    simp (disch := omega) only [xk_none, xk_inl, xk_inr, xk_ite, xri_v, xrl_v, xrv_v, xb_z0, xb_z1, xb_b2, if_true, if_false, ite_true, ite_false, iZ_lit, iZ_m1, iZ_m99, iZ_m8, iZ_add, iZ_sub, iZ_mul, iZ_neg, nz0, nzi, iZ_lt, iZ_le, iZ_inj, b2_z, b2_o, ite_bPz, ite_bPo, xb_bP, iZ_xin, if_pos, ite_self, ↓reduceIte, Int.reduceAdd, Int.reduceSub, Int.reduceMul, Int.reduceNeg, Int.reduceLT, Int.reduceLE, if_neg]
  · obtain ⟨a, b, c, d, e, f, g, k⟩ := g6
    refine ⟨a, b, c, d, fun j hj hlt => ?_, f, fun i hi => ?_, k⟩
    · have := e j hj g4
      have := d first (first + 1) (by omega) hlt
      omega
    · by_cases ei : i = first
      · subst ei
        rw [g5]
        refine ⟨hno, fun u ⟨w, w1, w2, w3, w4⟩ => ?_⟩
        rw [w3] at w4 ⊢
        have h1 := g7 w w1 w2 w4
        refine ⟨h1, ?_⟩
        obtain ⟨j, j1, j2⟩ := (c _ (nx_o w2).1).2 h1
        have := e j j1 g4
        rw [j2, g5] at this
        exact this
      · exact g i (by omega)
noncomputable def sMoves (A : dA) (a b : Int) : Int := vI (vF A a b) (lsI (fun n => ∃ u, pf (mvE A b.toNat (ndn a.toNat b.toNat)) n 2456 u ∧ ouT A b.toNat (ndn a.toNat b.toNat) u) 5000)
theorem mvE_lt {A : dA} {half rest : Nat} : ∀ a b, mvE A half rest a b → b < 4913 := fun _ _ ⟨_, _, w2, w3, _⟩ => by rw [w3]; exact (nx_o w2).1
theorem mv_loop {A : dA} {M : xM} {half rest n : Nat} (hA : mA M A) (h2 : rest < 512) (hL : hLs A half 512 M n) (hN : mLn A rest 512 M) : ∀ (d first last : Nat) (N : xM) (wd : Nat → Int) (q : Nat → Nat), first + d = 4914 → first ≤ last → xSame (fun r => r = (151, 0) ∨ r = (152, 0)) M N → bfR N wd q last → BI (mvE A half rest) (ouT A half rest) wd q first last → ∃ N' v, xfix gX12_moves (75, [some (.inr (.inr (12, 0))), none, none, some (.inl (iZ (rest))), none, some (.inl (iZ (last))), some (.inl (iZ (first))), none, none, none, none, none, none, none, none, none], [], N) = some (some (.inl (iZ (v))), N') ∧ xSame (fun r => r = (151, 0) ∨ r = (152, 0)) M N' ∧ isM (fun n => ∃ u, pf (mvE A half rest) n 2456 u ∧ ouT A half rest u) v ∧ v < 5000 := by
  intro d
  induction d with
  | zero => intro first last N wd q h1 h3 _ _ hI; have := hI.last; omega
  | succ d ih =>
    intro first last N wd q h1 h3 hs hb hI
    have hl := hI.last
    by_cases c : first < last
    · have hq1 := (hI.1 first c).1
      have ob := o_b hq1
      have f1 := hb.2 first c
      have hNL : hLs A half 512 N n := by
        obtain ⟨l1, l2, l3, l4⟩ := hL
        refine ⟨by rw [(hs (12, 0) (by decide)).1]; exact l1, l2, fun k hk => by rw [(hs (153, 0) (by decide)).1]; exact l3 k hk, fun c c1 c2 => ?_⟩
        obtain ⟨k, k1, k2⟩ := l4 c c1 c2
        exact ⟨k, k1, by rw [(hs (153, 0) (by decide)).1]; exact k2⟩
      have hNN : mLn A rest 512 N := fun k hk => by
        obtain ⟨lo, hi, x1, x2, x3⟩ := hN k hk
        exact ⟨lo, hi, by rw [(hs (154, 0) (by decide)).1]; exact x1, by rw [(hs (155, 0) (by decide)).1]; exact x2, x3⟩
      have ho := m_isOut hNL hNN (x := oX (q first)) (y := oY (q first)) (z := oZ (q first)) (by omega) (by omega) (by omega)
      have eX : ((q first % 17 : Nat) : Int) - 8 = oX (q first) := rfl
      have eY : ((q first / 17 % 17 : Nat) : Int) - 8 = oY (q first) := rfl
      have eZ : ((q first / 289 : Nat) : Int) - 8 = oZ (q first) := rfl
      by_cases y : ouT A half rest (q first)
      · have y' : ouS A half rest (oX (q first)) (oY (q first)) (oZ (q first)) := y
        have w3 := hI.1 first c
        refine ⟨N, wd (q first), ?_, hs, hI.out mvE_lt c y, by omega⟩
        rw [xfix_unf, sX12_moves_75]
        simp (disch := omega) only [xk_none, xk_inl, xk_inr, xk_ite, xri_v, xrl_v, xrv_v, xb_z0, xb_z1, xb_b2, if_true, if_false, ite_true, ite_false, iZ_lit, iZ_m1, iZ_m99, iZ_m8, iZ_add, iZ_sub, iZ_mul, iZ_neg, nz0, nzi, iZ_lt, iZ_le, iZ_inj, b2_z, b2_o, ite_bPz, ite_bPo, xb_bP, iZ_xin, if_pos, ite_self, ↓reduceIte, Int.reduceAdd, Int.reduceSub, Int.reduceMul, Int.reduceNeg, Int.reduceLT, Int.reduceLE, if_neg, iZ_clampN, f1, iZ_div, Int.ediv_nonneg, z17, z1717, z289, eX, eY, eZ, ho, y', hb.1 (q first) hq1]
      · have y' : ¬ ouS A half rest (oX (q first)) (oY (q first)) (oZ (q first)) := y
        obtain ⟨N', wd', q', last', g1, g2, g3, g4, g5⟩ := mv_ways hA h2 hs hL hb c y hI
        obtain ⟨N2, v, k1, k2, k3⟩ := ih (first + 1) last' N' wd' q' (by omega) (by omega) g2 g3 g5
        refine ⟨N2, v, ?_, k2, k3⟩
        rw [← k1, nS, ← g1]
        rw [xfix_unf, sX12_moves_75]
        simp (disch := omega) only [xk_none, xk_inl, xk_inr, xk_ite, xri_v, xrl_v, xrv_v, xb_z0, xb_z1, xb_b2, if_true, if_false, ite_true, ite_false, iZ_lit, iZ_m1, iZ_m99, iZ_m8, iZ_add, iZ_sub, iZ_mul, iZ_neg, nz0, nzi, iZ_lt, iZ_le, iZ_inj, b2_z, b2_o, ite_bPz, ite_bPo, xb_bP, iZ_xin, if_pos, ite_self, ↓reduceIte, Int.reduceAdd, Int.reduceSub, Int.reduceMul, Int.reduceNeg, Int.reduceLT, Int.reduceLE, if_neg, iZ_clampN, f1, iZ_div, Int.ediv_nonneg, z17, z1717, z289, eX, eY, eZ, ho, y']
        rfl
    · have e : first = last := by omega
      subst e
      refine ⟨N, -1, ?_, hs, hI.fin mvE_lt, by omega⟩
      rw [xfix_unf, sX12_moves_75]
      simp (disch := omega) only [xk_none, xk_inl, xk_inr, xk_ite, xri_v, xrl_v, xrv_v, xb_z0, xb_z1, xb_b2, if_true, if_false, ite_true, ite_false, iZ_lit, iZ_m1, iZ_m99, iZ_m8, iZ_add, iZ_sub, iZ_mul, iZ_neg, nz0, nzi, iZ_lt, iZ_le, iZ_inj, b2_z, b2_o, ite_bPz, ite_bPo, xb_bP, iZ_xin, if_pos, ite_self, ↓reduceIte, Int.reduceAdd, Int.reduceSub, Int.reduceMul, Int.reduceNeg, Int.reduceLT, Int.reduceLE, if_neg]
theorem q_moves {A : dA} {M : xM} (h : mQ M A) {a b : Int} (ha : r32 a) (hb : r32 b) : qR M A (fX12_moves [.inr (.inr (12, 0)), .inl (iZ (a)), .inl (iZ (b))] M) (.inl (iZ (sMoves A a b))) := by
  have hP := pow9 h.A.ok.P
  unfold sMoves
  by_cases e1 : vF A a b
  · rw [vI_t e1]
    have e1' := e1
    obtain ⟨a, b, rfl, rfl, x1, x2, x3, x4⟩ := e1'
    have ena : ((a : Int)).toNat = a := by omega
    have enb : ((b : Int)).toNat = b := by omega
    rw [ena, enb]
    have hle := ndn_le a b
    obtain ⟨M1, n, a1, a2, a3, a4⟩ := m_lays h.A (by omega : b < 512) (by omega : ndn a b < 512)
    have hA1 := h.A.mv a2
    obtain ⟨M2, b1, b2, b3⟩ := xfor_M (sg := gX12_moves) (st := fun k M => (26, [some (.inr (.inr (12, 0))), none, none, some (.inl (iZ ((ndn a b)))), some (.inl (iZ (k))), none, none, none, none, none, none, none, none, none, none, none], [], M)) (I := fun k N => xSame (fun r => r = (151, 0) ∨ r = (152, 0)) M1 N ∧ ∀ j, j < k → xI N (151, 0) j = iZ (-1)) (n := 4913) (fun k N hk hN => by
      refine ⟨xpI N (151, 0) k (iZ (-1)), ?_, hN.1.pI (.inl rfl), fun j hj => ?_⟩
      · rw [xfix_unf, sX12_moves_26]
        simp (disch := omega) only [xk_none, xk_inl, xk_inr, xk_ite, xri_v, xrl_v, xrv_v, xb_z0, xb_z1, xb_b2, if_true, if_false, ite_true, ite_false, iZ_lit, iZ_m1, iZ_m99, iZ_m8, iZ_add, iZ_sub, iZ_mul, iZ_neg, nz0, nzi, iZ_lt, iZ_le, iZ_inj, b2_z, b2_o, ite_bPz, ite_bPo, xb_bP, iZ_xin, if_pos, ite_self, ↓reduceIte, Int.reduceAdd, Int.reduceSub, Int.reduceMul, Int.reduceNeg, Int.reduceLT, Int.reduceLE, if_neg, nS, iZ_clampN, iZ_bit, iZ_one, iZ_and, iZ_or, iZ_ndn]
      · rw [xI_pI]
        by_cases e : j = k
        · rw [if_pos ⟨rfl, e⟩]
        · rw [if_neg (fun z => e z.2)]; exact hN.2 j (by omega)) (a := 0) (M := M1) (by omega) ⟨xSame.rf, fun j hj => by omega⟩
    have s3 : xSame (fun r => r = (151, 0) ∨ r = (152, 0)) M1 (xpI (xpI M2 (151, 0) 2456 (iZ 0)) (152, 0) 0 (iZ 2456)) := (b2.pI (.inl rfl)).pI (.inr rfl)
    obtain ⟨N, v, c1, c2, c3, c4⟩ := mv_loop hA1 (by omega : ndn a b < 512) a3 a4 4914 0 1 (xpI (xpI M2 (151, 0) 2456 (iZ 0)) (152, 0) 0 (iZ 2456)) (fun s => if s = 2456 then 0 else -1) (fun _ => 2456) (by omega) (by omega) s3 ⟨fun s hs => by
      dsimp only
      rw [xI_pI_ne (by decide), xI_pI]
      by_cases e : s = 2456
      · rw [if_pos ⟨rfl, e⟩, if_pos e]
      · rw [if_neg (fun z => e z.2), if_neg e]; exact b3 s hs, fun i hi => by rw [show i = 0 by omega, xI_pI, if_pos ⟨rfl, rfl⟩]; rfl⟩ (by
      refine ⟨fun i hi => ⟨by show 2456 < 4913; omega, by show (0 : Int) ≤ (if 2456 = 2456 then 0 else -1); simp, by show (if 2456 = 2456 then (0 : Int) else -1) ≤ i; simp⟩, fun i j hij hj => by omega, fun s hs => ?_, fun i j hij hj => Int.le_refl _, fun j hj _ => by show (if 2456 = 2456 then (0 : Int) else -1) ≤ (if 2456 = 2456 then 0 else -1) + 1; simp, fun i hi => rfl, fun i hi => by omega, by omega, rfl, rfl⟩
      show -1 ≤ (if s = 2456 then (0 : Int) else -1) ∧ ((if s = 2456 then (0 : Int) else -1) ≠ -1 → ∃ i, i < 1 ∧ 2456 = s)
      by_cases e : s = 2456
      · rw [if_pos e]; exact ⟨by omega, fun _ => ⟨0, by omega, e.symm⟩⟩
      · rw [if_neg e]; exact ⟨by omega, fun z => absurd rfl z⟩)
    have hv : v = lsI (fun n => ∃ u, pf (mvE A b (ndn a b)) n 2456 u ∧ ouT A b (ndn a b) u) 5000 := isM_ls c3 (by omega)
    rw [← hv]
    have hs : scr M N := xSm.wk (a2.tr (c2.sm.wk fun r j z => z.elim .inl fun z => .inr (.inl z))) (by
      rintro r j (e | e | e | e | e | ⟨e, e2⟩)
      · subst e; exact ⟨rfl, rfl⟩
      · subst e; exact ⟨rfl, rfl⟩
      · subst e; exact ⟨rfl, rfl⟩
      · subst e; exact ⟨rfl, rfl⟩
      · subst e; exact ⟨rfl, rfl⟩
      · subst e; subst e2; exact ⟨rfl, rfl⟩)
    refine ⟨N, ?_, h.scr hs, hs.fB⟩
    show xfix gX12_moves (0, [some (.inr (.inr (12, 0))), some (.inl (iZ (a))), some (.inl (iZ (b))), none, none, none, none, none, none, none, none, none, none, none, none, none], [], M) = _; rw [xfix_unf, sX12_moves_0]
    simp (disch := omega) only [xk_none, xk_inl, xk_inr, xk_ite, xri_v, xrl_v, xrv_v, xb_z0, xb_z1, xb_b2, if_true, if_false, ite_true, ite_false, iZ_lit, iZ_m1, iZ_m99, iZ_m8, iZ_add, iZ_sub, iZ_mul, iZ_neg, nz0, nzi, iZ_lt, iZ_le, iZ_inj, b2_z, b2_o, ite_bPz, ite_bPo, xb_bP, iZ_xin, if_pos, ite_self, ↓reduceIte, Int.reduceAdd, Int.reduceSub, Int.reduceMul, Int.reduceNeg, Int.reduceLT, Int.reduceLE, if_neg, k_isHalf h.A ha hb, e1, iZ_ndn, a1]
    refine b1.trans (Eq.trans ?_ c1)
    have e0 : ((4913 : Nat) : Int) = 4913 := rfl
    have cl2456 : Int32.toNatClampNeg (iZ 2456) = 2456 := by decide +kernel
    rw [xfix_unf, sX12_moves_26]
    simp (disch := omega) only [xk_none, xk_inl, xk_inr, xk_ite, xri_v, xrl_v, xrv_v, xb_z0, xb_z1, xb_b2, if_true, if_false, ite_true, ite_false, iZ_lit, iZ_m1, iZ_m99, iZ_m8, iZ_add, iZ_sub, iZ_mul, iZ_neg, nz0, nzi, iZ_lt, iZ_le, iZ_inj, b2_z, b2_o, ite_bPz, ite_bPo, xb_bP, iZ_xin, if_pos, ite_self, ↓reduceIte, Int.reduceAdd, Int.reduceSub, Int.reduceMul, Int.reduceNeg, Int.reduceLT, Int.reduceLE, if_neg, e0, cl_0, cl2456]
    rfl
  · refine qR.of h ?_
    rw [vI_f e1]
    show xfix gX12_moves (0, [some (.inr (.inr (12, 0))), some (.inl (iZ (a))), some (.inl (iZ (b))), none, none, none, none, none, none, none, none, none, none, none, none, none], [], M) = _; rw [xfix_unf, sX12_moves_0]
    simp (disch := omega) only [xk_none, xk_inl, xk_inr, xk_ite, xri_v, xrl_v, xrv_v, xb_z0, xb_z1, xb_b2, if_true, if_false, ite_true, ite_false, iZ_lit, iZ_m1, iZ_m99, iZ_m8, iZ_add, iZ_sub, iZ_mul, iZ_neg, nz0, nzi, iZ_lt, iZ_le, iZ_inj, b2_z, b2_o, ite_bPz, ite_bPo, xb_bP, iZ_xin, if_pos, ite_self, ↓reduceIte, Int.reduceAdd, Int.reduceSub, Int.reduceMul, Int.reduceNeg, Int.reduceLT, Int.reduceLE, if_neg, k_isHalf h.A ha hb, e1]
