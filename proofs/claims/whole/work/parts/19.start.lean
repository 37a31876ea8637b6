/-! What the constructors leave: both worlds at their start -/
def inM (mem : List yK) (off : xR → Nat) : xM := (fun r j => match mem[off r]? with
  | some (_, _, vs) => match vs.getD j none with
    | some (.inl v) => v
    | _ => 0
  | none => 0, fun _ _ => 0)
def sad (b : Nat) (off : xR → Nat) (st : Nat → Nat) : xAd := fun r => if r.1 = 99 then st r.2 else b + off r
def yel (v : Option (Option xV)) : Bool := match v with
  | some (some (.inl _)) => true
  | _ => false
def yrl (o : Nat) (t : Nat) (v : Option (Option xV)) : Bool := match v with
  | some (some (.inr (.inr q))) => Nat.beq q.2 o && !(Nat.beq t 99)
  | _ => false
def ychk (E : xE) (off : xR → Nat) (mem : List yK) (r : xR) : Bool := match E.1 r.1, mem[off r]? with
  | (0, ci), some (0, cj, vs) => Nat.beq ci cj && Nat.beq vs.length (fkX ci).length && (List.range vs.length).all fun f => match (fkX ci)[f]? with
    | some 2 => yrl (off (E.2.2.1 r f)) (E.2.2.1 r f).1 vs[f]?
    | some 0 => yel vs[f]?
    | some 3 => yel vs[f]?
    | _ => false
  | (5, n), some (5, n', vs) => Nat.beq n n' && Nat.beq vs.length n && (List.range n).all fun f => yrl (off (E.2.2.1 r f)) (E.2.2.1 r f).1 vs[f]?
  | (2, n), some (2, n', vs) => Nat.beq n n' && Nat.beq vs.length n && vs.all fun v => match v with
    | some (.inr (.inl w)) => decide (w = 0)
    | _ => false
  | (1, n), some (1, n', vs) => Nat.beq n n' && Nat.beq vs.length n && vs.all fun v => yel (some v)
  | (3, n), some (3, n', vs) => Nat.beq n n' && Nat.beq vs.length n && vs.all fun v => yel (some v)
  | (4, n), some (4, n', vs) => Nat.beq n n' && Nat.beq vs.length n && vs.all fun v => yel (some v)
  | _, _ => false
theorem yel_inv {v : Option (Option xV)} (h : yel v = true) : ∃ x, v = some (some (.inl x)) := by
  unfold yel at h
  split at h
  · exact ⟨_, rfl⟩
  · cases h
theorem yrl_inv {o t : Nat} {v : Option (Option xV)} (h : yrl o t v = true) : t ≠ 99 ∧ ∃ a, v = some (some (.inr (.inr (a, o)))) := by
  unfold yrl at h
  split at h
  · rename_i q
    rw [Bool.and_eq_true] at h
    refine ⟨fun e => ?_, q.1, ?_⟩
    · subst e; cases h.2
    · rw [← Nat.eq_of_beq_eq_true h.1]
  · cases h
theorem ygD {vs : List (Option xV)} {f : Nat} {v d : Option xV} (h : vs[f]? = some v) : vs.getD f d = v := by rw [List.getD_eq_getElem?_getD, h]; rfl
theorem ychk_int {E : xE} {off : xR → Nat} {mem : List yK} {r : xR} {n c : Nat} {vs : List (Option xV)} (hm : mem[off r]? = some (c, n, vs)) (hl : vs.length = n) (ha : vs.all (fun v => yel (some v)) = true) (b : Nat) (d : Option xV) (hd : d = some (.inl 0)) : (fun j => yc b (vs.getD j d)) = fun j => Value.int (xI (inM mem off) r j) := by
  funext j
  have hI : xI (inM mem off) r j = match vs.getD j none with
    | some (.inl v) => v
    | _ => 0 := by
    show (match mem[off r]? with
      | some (_, _, vs) => match vs.getD j none with
        | some (.inl v) => v
        | _ => 0
      | none => 0) = _
    rw [hm]
  rw [hI]
  by_cases hj : j < n
  · have hj2 : vs[j]? = some (vs[j]'(by omega)) := List.getElem?_eq_getElem (by omega)
    obtain ⟨x, hx⟩ := yel_inv (List.all_eq_true.mp ha _ (List.mem_of_getElem? hj2))
    rw [← hj2] at hx
    rw [ygD hx, ygD hx]
    rfl
  · have h0 : vs[j]? = none := List.getElem?_eq_none (by omega)
    rw [List.getD_eq_getElem?_getD, List.getD_eq_getElem?_getD, h0, hd]
    rfl
theorem ychk_ok {E : xE} {D : xD} {off : xR → Nat} {mem : List yK} {b : Nat} {st : Nat → Nat} {H : Heap} (hE : E.2.1 = fkX) (hy : yH b D mem H) {r : xR} (h99 : r.1 ≠ 99) (h : ychk E off mem r = true) : xAt E D (sad b off st) (inM mem off) r H := by
  have had : sad b off st r = b + off r := by unfold sad; rw [if_neg h99]
  unfold ychk at h
  unfold xAt
  split at h
  · rename_i ci cj vs hk hm
    simp only [Bool.and_eq_true] at h
    obtain ⟨⟨h1, h2⟩, h3⟩ := h
    have h1 := Nat.eq_of_beq_eq_true h1
    have h2 := Nat.eq_of_beq_eq_true h2
    subst h1
    obtain ⟨q, q1, qlen, hob⟩ := hy.2 _ _ hm
    rw [hk]
    refine ⟨q, q1, ?_⟩
    rw [had]
    refine hob.to (fun f hf => ?_)
    dsimp only at hf qlen ⊢
    have h4 := List.all_eq_true.mp h3 f (List.mem_range.mpr (by omega))
    unfold xfv
    rw [hE]
    have hI : ∀ x, vs[f]? = some (some (.inl x)) → xI (inM mem off) r f = x := fun x hx => by
      show (match mem[off r]? with
        | some (_, _, vs) => match vs.getD f none with
          | some (.inl v) => v
          | _ => 0
        | none => 0) = x
      rw [hm]
      dsimp only
      rw [ygD hx]
    split at h4
    · rename_i hkk
      rw [hkk]
      obtain ⟨g1, a, g2⟩ := yrl_inv h4
      rw [ygD g2]
      show Value.ref (b + off (E.2.2.1 r f)) = Value.ref (sad b off st (E.2.2.1 r f))
      unfold sad
      rw [if_neg g1]
    · rename_i hkk
      rw [hkk]
      obtain ⟨x, hx⟩ := yel_inv h4
      rw [ygD hx]
      show Value.int x = Value.int _
      rw [hI x hx]
    · rename_i hkk
      rw [hkk]
      obtain ⟨x, hx⟩ := yel_inv h4
      rw [ygD hx]
      show Value.int x = Value.int _
      rw [hI x hx]
    · cases h4
  · rename_i n n' vs hk hm
    simp only [Bool.and_eq_true] at h
    obtain ⟨⟨h1, h2⟩, h3⟩ := h
    have h1 := Nat.eq_of_beq_eq_true h1
    have h2 := Nat.eq_of_beq_eq_true h2
    subst h1
    rw [hk]
    show H[sad b off st r]? = some (arrV (D.2.2 5) n (fun j => .ref (sad b off st (E.2.2.1 r j))))
    rw [had]
    have hA := (hy.2 _ _ hm).1
    have hA : H[b + off r]? = some (arrV (D.2.2 5) n (fun j => yc b (vs.getD j (ydf 5)))) := hA
    rw [hA]
    congr 1
    have e1 : ∀ j : Fin n, yc b (vs.getD j.val (ydf 5)) = Value.ref (sad b off st (E.2.2.1 r j.val)) := fun j => by
      obtain ⟨g1, a, g2⟩ := yrl_inv (List.all_eq_true.mp h3 j.val (List.mem_range.mpr j.isLt))
      rw [ygD g2]
      show Value.ref (b + off (E.2.2.1 r j.val)) = _
      unfold sad
      rw [if_neg g1]
    unfold arrV
    congr 2
    funext j
    exact e1 j
  · rename_i n n' vs hk hm
    simp only [Bool.and_eq_true] at h
    obtain ⟨⟨h1, h2⟩, h3⟩ := h
    have h1 := Nat.eq_of_beq_eq_true h1
    subst h1
    rw [hk]
    show H[sad b off st r]? = some (arrV (D.2.2 2) n (fun j => .long (xL (inM mem off) r j)))
    rw [had]
    have hA := (hy.2 _ _ hm).1
    have hA : H[b + off r]? = some (arrV (D.2.2 2) n (fun j => yc b (vs.getD j (ydf 2)))) := hA
    rw [hA]
    congr 2
    funext j
    show yc b (vs.getD j (some (.inr (.inl 0)))) = Value.long 0
    rw [List.getD_eq_getElem?_getD]
    cases hj : vs[j]? with
    | none => rfl
    | some v =>
      have := List.all_eq_true.mp h3 v (List.mem_of_getElem? hj)
      split at this
      · rw [decide_eq_true_eq] at this
        rw [this]
        rfl
      · cases this
  · rename_i n n' vs hk hm
    simp only [Bool.and_eq_true] at h
    obtain ⟨⟨h1, h2⟩, h3⟩ := h
    have h1 := Nat.eq_of_beq_eq_true h1
    subst h1
    rw [hk]
    show H[sad b off st r]? = some (arrV (D.2.2 1) n (fun j => .int (xI (inM mem off) r j)))
    rw [had, ← ychk_int (E := E) hm (Nat.eq_of_beq_eq_true h2) h3 b _ rfl]
    exact (hy.2 _ _ hm).1
  · rename_i n n' vs hk hm
    simp only [Bool.and_eq_true] at h
    obtain ⟨⟨h1, h2⟩, h3⟩ := h
    have h1 := Nat.eq_of_beq_eq_true h1
    subst h1
    rw [hk]
    show H[sad b off st r]? = some (arrV (D.2.2 3) n (fun j => .int (xI (inM mem off) r j)))
    rw [had, ← ychk_int (E := E) hm (Nat.eq_of_beq_eq_true h2) h3 b _ rfl]
    exact (hy.2 _ _ hm).1
  · rename_i n n' vs hk hm
    simp only [Bool.and_eq_true] at h
    obtain ⟨⟨h1, h2⟩, h3⟩ := h
    have h1 := Nat.eq_of_beq_eq_true h1
    subst h1
    rw [hk]
    show H[sad b off st r]? = some (arrV (D.2.2 4) n (fun j => .int (xI (inM mem off) r j)))
    rw [had, ← ychk_int (E := E) hm (Nat.eq_of_beq_eq_true h2) h3 b _ rfl]
    exact (hy.2 _ _ hm).1
  · cases h
def invX : List xR := [(11, 0), (8, 0), (47, 0), (5, 0), (38, 0), (6, 0), (44, 0), (39, 0), (40, 0), (41, 0), (42, 0), (43, 0), (6, 1), (44, 1), (6, 2), (44, 2), (6, 3), (44, 3), (6, 4), (44, 4), (6, 5), (44, 5), (6, 6), (44, 6), (6, 7), (44, 7), (6, 8), (44, 8), (6, 9), (44, 9), (9, 0), (5, 1), (38, 1), (6, 10), (44, 10), (39, 1), (40, 1), (41, 1), (42, 1), (43, 1), (6, 11), (44, 11), (6, 12), (44, 12), (6, 13), (44, 13), (6, 14), (44, 14), (6, 15), (44, 15), (6, 16), (44, 16), (6, 17), (44, 17), (6, 18), (44, 18), (6, 19), (44, 19), (6, 20), (44, 20), (48, 0), (4, 0), (3, 1), (35, 1), (36, 0), (37, 0), (10, 0), (49, 0), (6, 30), (44, 30), (6, 31), (44, 31), (50, 0), (51, 0), (52, 0), (6, 21), (44, 21), (6, 22), (44, 22), (6, 23), (44, 23), (6, 24), (44, 24), (6, 25), (44, 25), (6, 26), (44, 26), (6, 27), (44, 27), (6, 28), (44, 28), (6, 29), (44, 29), (10, 1), (49, 1), (6, 41), (44, 41), (6, 42), (44, 42), (50, 1), (51, 1), (52, 1), (6, 32), (44, 32), (6, 33), (44, 33), (6, 34), (44, 34), (6, 35), (44, 35), (6, 36), (44, 36), (6, 37), (44, 37), (6, 38), (44, 38), (6, 39), (44, 39), (6, 40), (44, 40), (0, 0), (6, 43), (44, 43), (20, 0), (21, 0), (22, 0), (23, 0), (53, 0), (2, 0), (30, 0), (31, 0), (32, 0), (33, 0), (34, 0), (2, 1), (30, 1), (31, 1), (32, 1), (33, 1), (34, 1), (7, 0), (6, 44), (44, 44), (6, 45), (44, 45), (6, 46), (44, 46), (6, 47), (44, 47), (45, 0), (45, 1), (46, 0), (46, 1), (46, 2), (46, 3), (46, 4), (1, 0), (24, 0), (25, 0), (26, 0), (27, 0), (28, 0), (29, 0), (3, 0), (35, 0)]
def invMm : List xR := [(12, 0), (100, 0), (101, 0), (104, 0), (105, 0), (106, 0), (107, 0), (108, 0), (109, 0), (110, 0), (111, 0), (112, 0), (113, 0), (114, 0), (115, 0), (116, 0), (117, 0), (132, 0), (133, 0), (134, 0), (135, 0), (136, 0), (137, 0), (138, 0), (139, 0), (140, 0), (141, 0), (142, 0), (143, 0), (144, 0), (145, 0), (146, 0), (148, 0), (149, 0), (150, 0), (151, 0), (152, 0), (153, 0), (154, 0), (155, 0), (157, 0), (159, 0), (160, 0), (161, 0), (162, 0), (163, 0), (164, 0), (165, 0), (166, 0), (167, 0), (168, 0), (169, 0), (175, 0), (176, 0), (177, 0), (178, 0), (179, 0), (180, 0), (181, 0)]
def yinv (inv : List xR) (off : xR → Nat) (r : xR) : Bool := match inv[off r]? with
  | some q => Nat.beq q.1 r.1 && Nat.beq q.2 r.2
  | none => false
theorem yinv_ok {inv : List xR} {off : xR → Nat} {r : xR} (h : yinv inv off r = true) : inv[off r]? = some r := by
  unfold yinv at h
  split at h
  · rename_i q e
    rw [Bool.and_eq_true] at h
    rw [e, Prod.ext (Nat.eq_of_beq_eq_true h.1) (Nat.eq_of_beq_eq_true h.2)]
  · cases h
set_option maxRecDepth 100000 in
theorem chkX : ((List.range 54).all fun t => (List.range (cnX t)).all fun k => ychk eX offX memX (t, k) && yinv invX offX (t, k)) = true := by decide +kernel
set_option maxRecDepth 100000 in
theorem chkM : ((List.range 182).all fun t => Nat.beq t 99 || (List.range (cnM t)).all fun k => ychk eM offM memM (t, k) && yinv invMm offM (t, k)) = true := by decide +kernel
noncomputable def MX0 : xM := inM memX offX
noncomputable def MM0 : xM := inM memM offM
theorem vrX {r : xR} (h : xvr eX r) : ychk eX offX memX r = true ∧ yinv invX offX r = true := by
  obtain ⟨t, k⟩ := r
  obtain ⟨h1, h2⟩ := h
  have h1 : k < cnX t := h1
  have ht : t < 54 := by
    rcases cnX_lt (t := t) (by omega) with h | h
    · exact h
    · exact absurd h h2
  have := List.all_eq_true.mp (List.all_eq_true.mp chkX t (List.mem_range.mpr ht)) k (List.mem_range.mpr h1)
  rwa [Bool.and_eq_true] at this
theorem cnM_lt {t : Nat} (h : 0 < cnM t) : t < 182 := by
  by_cases h1 : t < 182
  · exact h1
  · exfalso
    have e : ∀ c, c ≤ 182 → Nat.blt t c = false := fun c hc => by
      cases hb : Nat.blt t c with
      | false => rfl
      | true => exact absurd (Nat.blt_eq.mp hb) (by omega)
    simp [cnM, e] at h
theorem vrM {r : xR} (h : xvr eM r) : ychk eM offM memM r = true ∧ yinv invMm offM r = true := by
  obtain ⟨t, k⟩ := r
  obtain ⟨h1, h2⟩ := h
  have h1 : k < cnM t := h1
  have h2 : t ≠ 99 := h2
  have ht : t < 182 := cnM_lt (by omega)
  have h3 := List.all_eq_true.mp chkM t (List.mem_range.mpr ht)
  rw [Bool.or_eq_true] at h3
  rcases h3 with h3 | h3
  · exact absurd (Nat.eq_of_beq_eq_true h3) h2
  · have := List.all_eq_true.mp h3 k (List.mem_range.mpr h1)
    rwa [Bool.and_eq_true] at this
theorem wdX {D : xD} {b : Nat} {st : Nat → Nat} {H : Heap} (hy : yH b D memX H) : xWd eX D (sad b offX st) MX0 H := fun r hr => ychk_ok rfl hy hr.2 (vrX hr).1
theorem wdM {D : xD} {b : Nat} {st : Nat → Nat} {H : Heap} (hy : yH b D memM H) : xWd eM D (sad b offM st) MM0 H := fun r hr => ychk_ok rfl hy hr.2 (vrM hr).1
theorem injX {b : Nat} {st : Nat → Nat} : ∀ r r' : xR, xvr eX r → xvr eX r' → sad b offX st r = sad b offX st r' → r = r' := by
  intro r r' h h' e
  unfold sad at e
  rw [if_neg h.2, if_neg h'.2] at e
  have h1 := yinv_ok (vrX h).2
  have h2 := yinv_ok (vrX h').2
  rw [show offX r = offX r' by omega, h2] at h1
  exact (Option.some.inj h1).symm
theorem injM {b : Nat} {st : Nat → Nat} : ∀ r r' : xR, xvr eM r → xvr eM r' → sad b offM st r = sad b offM st r' → r = r' := by
  intro r r' h h' e
  unfold sad at e
  rw [if_neg h.2, if_neg h'.2] at e
  have h1 := yinv_ok (vrM h).2
  have h2 := yinv_ok (vrM h').2
  rw [show offM r = offM r' by omega, h2] at h1
  exact (Option.some.inj h1).symm
/-- where the cells lie -/
theorem ownX {b : Nat} {st : Nat → Nat} {q : Nat} (h : xOwn eX (sad b offX st) q) : b ≤ q ∧ q < b + 165 := by
  obtain ⟨r, hr, rfl⟩ := h
  unfold sad
  rw [if_neg hr.2]
  have h1 := (List.getElem?_eq_some_iff.mp (yinv_ok (vrX hr).2)).1
  have : invX.length = 165 := by decide +kernel
  omega
theorem ownM {b : Nat} {st : Nat → Nat} {q : Nat} (h : xOwn eM (sad b offM st) q) : b ≤ q ∧ q < b + 59 := by
  obtain ⟨r, hr, rfl⟩ := h
  unfold sad
  rw [if_neg hr.2]
  have h1 := (List.getElem?_eq_some_iff.mp (yinv_ok (vrM hr).2)).1
  have : invMm.length = 59 := by decide +kernel
  omega
