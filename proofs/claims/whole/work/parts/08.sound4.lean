theorem xls_inv {S : List xV} {k : Int64 → List xV → Option xX} {X : xX} (h : (match S with
    | .inr (.inl v) :: S => k v S
    | _ => none) = some X) : ∃ v S', S = .inr (.inl v) :: S' ∧ k v S' = some X := by
  split at h
  · exact ⟨_, _, rfl, h⟩
  · cases h
theorem xcat1 {v : xV} (h : xcat v = 1) (ad : xAd) : (xc ad v).category = 1 := by
  rcases v with a | a | a
  · rfl
  · cases h
  · rfl
theorem xd1_inv {S : List xV} {k : xV → List xV → Option xX} {X : xX} (h : (match S with
    | v :: S => match xcat v with
      | 1 => k v S
      | _ => none
    | _ => none) = some X) : ∃ v S', S = v :: S' ∧ (∀ ad : xAd, (xc ad v).category = 1) ∧ k v S' = some X := by
  split at h
  · split at h
    · rename_i e; exact ⟨_, _, rfl, xcat1 e, h⟩
    · cases h
  · cases h
theorem xd2_inv {S : List xV} {k : xV → xV → List xV → Option xX} {k2 : xV → List xV → Option xX} {X : xX} (h : (match S with
    | v :: S => match xcat v with
      | 1 => match S with
        | w :: S => match xcat w with
          | 1 => k v w S
          | _ => none
        | _ => none
      | _ => k2 v S
    | _ => none) = some X) : ∃ v S', S = v :: S' ∧ (((∀ ad : xAd, (xc ad v).category = 1) ∧ ∃ w S2, S' = w :: S2 ∧ (∀ ad : xAd, (xc ad w).category = 1) ∧ k v w S2 = some X) ∨ ((∀ ad : xAd, (xc ad v).category = 2) ∧ k2 v S' = some X)) := by
  split at h
  · rename_i v S
    split at h
    · rename_i e
      split at h
      · split at h
        · rename_i e2; exact ⟨_, _, rfl, Or.inl ⟨xcat1 e, _, _, rfl, xcat1 e2, h⟩⟩
        · cases h
      · cases h
    · rename_i e
      refine ⟨_, _, rfl, Or.inr ⟨fun ad => ?_, h⟩⟩
      rcases v with a | a | a
      · exact absurd rfl e
      · rfl
      · exact absurd rfl e
  · cases h
theorem xts_inv {x : xA} {k : List Nat → Option xX} {X : xX} (h : (match x with
    | .inr (.inr (.inr ts)) => k ts
    | _ => none) = some X) : ∃ ts, x = .inr (.inr (.inr ts)) ∧ k ts = some X := by
  split at h
  · exact ⟨_, rfl, h⟩
  · cases h
theorem xlt2_inv {x : xA} {k : Nat → Option xX} {X : xX} (h : (match x with
    | .inl c => k c
    | _ => none) = some X) : ∃ c, x = .inl c ∧ k c = some X := by
  split at h
  · exact ⟨_, rfl, h⟩
  · cases h
theorem xrf_inv {S : List xV} {k : xR → List xV → Option xX} {X : xX} (h : (match S with
    | .inr (.inr r) :: S => k r S
    | _ => none) = some X) : ∃ r S', S = .inr (.inr r) :: S' ∧ k r S' = some X := by
  split at h
  · exact ⟨_, _, rfl, h⟩
  · cases h
theorem xpf_inv {S : List xV} {k : Int32 → xR → List xV → Option xX} {k2 : Int64 → xR → List xV → Option xX} {X : xX} (h : (match S with
    | .inl v :: .inr (.inr r) :: S => k v r S
    | .inr (.inl v) :: .inr (.inr r) :: S => k2 v r S
    | _ => none) = some X) : (∃ v r S', S = .inl v :: .inr (.inr r) :: S' ∧ k v r S' = some X) ∨ ∃ v r S', S = .inr (.inl v) :: .inr (.inr r) :: S' ∧ k2 v r S' = some X := by
  split at h
  · exact Or.inl ⟨_, _, _, rfl, h⟩
  · exact Or.inr ⟨_, _, _, rfl, h⟩
  · cases h
theorem xal_inv {S : List xV} {k : Int32 → xR → List xV → Option xX} {X : xX} (h : (match S with
    | .inl j :: .inr (.inr r) :: S => k j r S
    | _ => none) = some X) : ∃ j r S', S = .inl j :: .inr (.inr r) :: S' ∧ k j r S' = some X := by
  split at h
  · exact ⟨_, _, _, rfl, h⟩
  · cases h
theorem xas_inv {S : List xV} {k : Int32 → Int32 → xR → List xV → Option xX} {X : xX} (h : (match S with
    | .inl v :: .inl j :: .inr (.inr r) :: S => k v j r S
    | _ => none) = some X) : ∃ v j r S', S = .inl v :: .inl j :: .inr (.inr r) :: S' ∧ k v j r S' = some X := by
  split at h
  · exact ⟨_, _, _, _, rfl, h⟩
  · cases h
theorem xlas_inv {S : List xV} {k : Int64 → Int32 → xR → List xV → Option xX} {X : xX} (h : (match S with
    | .inr (.inl v) :: .inl j :: .inr (.inr r) :: S => k v j r S
    | _ => none) = some X) : ∃ v j r S', S = .inr (.inl v) :: .inl j :: .inr (.inr r) :: S' ∧ k v j r S' = some X := by
  split at h
  · exact ⟨_, _, _, _, rfl, h⟩
  · cases h
theorem xir_inv {S : List xV} {k : Int32 → Option xX} {X : xX} (h : (match S with
    | [.inl v] => k v
    | _ => none) = some X) : ∃ v, S = [.inl v] ∧ k v = some X := by
  split at h
  · exact ⟨_, rfl, h⟩
  · cases h
theorem xlr_inv {S : List xV} {k : Int64 → Option xX} {X : xX} (h : (match S with
    | [.inr (.inl v)] => k v
    | _ => none) = some X) : ∃ v, S = [.inr (.inl v)] ∧ k v = some X := by
  split at h
  · exact ⟨_, rfl, h⟩
  · cases h
theorem xvr_inv {S : List xV} {k : Option xX} {X : xX} (h : (match S with
    | [] => k
    | _ => none) = some X) : S = [] ∧ k = some X := by
  split at h
  · exact ⟨rfl, h⟩
  · cases h
theorem hSt10 : ∀ q ∈ xSt, q.2.2.2 < 10 := by decide +kernel
theorem fb_x1 (v : Int32) : v < 0 ↔ v.toInt < 0 := by
  rw [Int32.lt_iff_toInt_lt]; rfl
section
variable {E : xE} {D : xD} {ad : xAd} {p : Program} {l : Launch} {e : Env} {d : Nat} {s : State} {m : MethodId} {args : Array Value} {below : List Frame} {meth : Method} {c : Code} {cc : ByteArray} {nL : Nat} {own : String} {Q : State → Prop}
/-- a switch over a table from 0 on -/
theorem xr_sw (hC : xCx E D ad p s m args meth c cc nL own) {pc : Nat} {dflt lo hi : Int} {offs : Array Int} {len : Nat} {v : Int32} {ts : List Nat} (hdg : decode cc pc = .ok (.tableswitch dflt lo hi offs, len)) (hlo : lo = 0) (hhi : hi + 1 = (offs.size : Int)) (hsz : offs.size < 64) (hlen : ts.length = offs.size + 1)
    (hall : ∀ k t, k < offs.size → ts[k]? = some t → ∃ o, offs[k]? = some o ∧ (pc : Int) + o = (t : Int)) (hd : ∀ t, ts[offs.size]? = some t → (pc : Int) + dflt = (t : Int)) {X : xX} {K : Nat → Option xX}
    {H : Heap} {locs : List Loc} {ls : Array Slot} {rest : List Value} (hK : ∀ t, K t = some X → W p l e (xrm d) s m args below meth c H locs 0 0 Q (F0 m t ls rest)) :
    ∀ (us : List Nat) (k : Nat), us = ts.drop k → k ≤ offs.size → (∀ j, j < k → v ≠ Int32.ofNat j) → xsw v k us K = some X → W p l e (xrm d) s m args below meth c H locs 0 0 Q (F0 m pc ls (.int v :: rest)) := by
  obtain ⟨hx, hb, -⟩ := hC
  intro us
  induction us with
  | nil => intro k _ _ _ h; cases h
  | cons t us ih =>
    intro k hu hk hne h
    have ht : ts[k]? = some t := by
      have : (ts.drop k)[0]? = some t := by rw [← hu]; rfl
      simpa using this
    have hus : us = ts.drop (k + 1) := by
      have := congrArg List.tail hu
      simpa using this
    cases us with
    | nil =>
      have h : K t = some X := h
      have hk2 : k = offs.size := by
        have := congrArg List.length hus
        simp [List.length_drop] at this
        omega
      subst hk2
      have hv : v.toInt < lo ∨ hi < v.toInt := by
        by_cases h0 : v < 0
        · left; rw [hlo]; exact (fb_x1 v).mp h0
        · right
          obtain ⟨j, j1, j2⟩ := nI_of h0
          have : offs.size ≤ j := Nat.not_lt.mp fun q => hne j q j2
          rw [j2, nI_toInt j1]
          omega
      exact lv_tableOut hx hb hdg hv (hd t ht) (hK t h)
    | cons t2 us2 =>
      have h : (if v = Int32.ofNat k then K t else xsw v (k + 1) (t2 :: us2) K) = some X := h
      have hk3 : k < offs.size := by
        have := congrArg List.length hus
        simp [List.length_drop] at this
        omega
      by_cases hv : v = Int32.ofNat k
      · rw [if_pos hv] at h
        obtain ⟨o, o1, o2⟩ := hall k t hk3 ht
        have hvi : v.toInt = (k : Int) := by rw [hv]; exact nI_toInt (by omega)
        exact lv_tableIn hx hb hdg (by rw [hvi, hlo]; omega) (by rw [hvi]; omega) (off := o) (by rw [hvi, hlo]; simpa using o1) o2 (hK t h)
      · rw [if_neg hv] at h
        refine ih (k + 1) hus (by omega) (fun j hj => ?_) h
        by_cases e : j = k
        · rw [e]; exact hv
        · exact hne j (by omega)
set_option maxHeartbeats 4000000 in
theorem xex_ok (hG : xcg) (hEc : xEc E) (hKc : ∀ q ∈ xKc, Cond.constant q.1 q.2.1 q.2.2 ∈ xTB) (hKl : ∀ q ∈ xKl, Cond.constantLong q.1 q.2.1 q.2.2 ∈ xTB) (hC : xCx E D ad p s m args meth c cc nL own) {rk : Nat} {ret : Option FieldType} (hr : meth.sig.returnType = ret) (hrk : (rk = 0 → ret = none) ∧ (rk = 1 → ret = some .int) ∧ (rk = 2 → ret = some .boolean) ∧ (rk = 3 → ret = some .long))
    {ft : List (Nat × Nat × Nat × Nat)} (hft : ∀ q ∈ ft, xfo own q) {ct : List (Nat × Bool × Nat × Nat × Nat × xF)} (hct : ∀ q ∈ ct, xco E D own d q) {r0 : Option xV} {M0 : xM}
    {K : Nat → List (Option xV) → List xV → xM → Option xX} {pc : Nat} {i : Instr} {x : xA} {L : List (Option xV)} {S : List xV} {M : xM} {X : xX} (hX : ∀ r M', X = .inl (r, M') → r = r0 ∧ M' = M0)
    (hdc : xdc cc own (pc, i, x) = true) (h : xex E ft ct rk K pc i x L S M = some X)
    (hK : ∀ pc' L' S' M', K pc' L' S' M' = some X → xWf E D ad p l e d s m args below meth c nL (MQ below (xPo E D ad r0 M0) args s 0 0 (xOwn E ad)) pc' L' S' M') : xWf E D ad p l e d s m args below meth c nL (MQ below (xPo E D ad r0 M0) args s 0 0 (xOwn E ad)) pc L S M := by
  have hC2 := hC
  obtain ⟨hx, hb, hml, hown, hts, hlk, -, -, -, hstr, -⟩ := hC2
  unfold xdc at hdc
  rw [Bool.and_eq_true, decide_eq_true_eq] at hdc
  obtain ⟨hd, ha⟩ := hdc
  subst hr
  cases i with
  | iconst n =>
    obtain ⟨v, hq0, hh⟩ := xlc_inv (x := x) h
    clear h; subst hq0; have h := hh; clear hh
    intro H locs ls hW hF hl hS
    exact lv_iconst hx hb hd (by simpa [xax] using ha) (hK _ _ _ _ h H locs ls hW hF hl (xok_cons trivial hS))
  | bipush n =>
    obtain ⟨v, hq0, hh⟩ := xlc_inv (x := x) h
    clear h; subst hq0; have h := hh; clear hh
    intro H locs ls hW hF hl hS
    exact lv_bipush hx hb hd (by simpa [xax] using ha) (hK _ _ _ _ h H locs ls hW hF hl (xok_cons trivial hS))
  | sipush n =>
    obtain ⟨v, hq0, hh⟩ := xlc_inv (x := x) h
    clear h; subst hq0; have h := hh; clear hh
    intro H locs ls hW hF hl hS
    exact lv_sipush hx hb hd (by simpa [xax] using ha) (hK _ _ _ _ h H locs ls hW hF hl (xok_cons trivial hS))
  | ldc_w n =>
    obtain ⟨v, hq0, hh⟩ := xlc_inv (x := x) h
    clear h; subst hq0; have h := hh; clear hh
    obtain ⟨q, q1, q2⟩ := List.any_eq_true.mp (show xKc.any (fun q => q.1 == own && q.2.1 == n && q.2.2 == v) = true from ha)
    simp only [Bool.and_eq_true, beq_iff_eq] at q2
    obtain ⟨⟨q2, q3⟩, q4⟩ := q2
    subst q2 q3 q4
    intro H locs ls hW hF hl hS
    exact lv_ldcw hx hb hown (hts _ (hKc q q1)) hd (hK _ _ _ _ h H locs ls hW hF hl (xok_cons trivial hS))
  | ldc n =>
    obtain ⟨v, hq0, hh⟩ := xlt_inv (x := x) h
    clear h; subst hq0; have h := hh; clear hh
    obtain ⟨q, q1, q2⟩ := List.any_eq_true.mp (show xSt.any (fun q => q.1 == own && q.2.1 == n && q.2.2.2 == v) = true from ha)
    simp only [Bool.and_eq_true, beq_iff_eq] at q2
    obtain ⟨⟨q2, q3⟩, q4⟩ := q2
    subst q2 q3 q4
    intro H locs ls hW hF hl hS
    refine va_ldcS hx hb hown (hstr q q1) hd (hK _ _ _ _ h H locs ls hW hF hl (xok_cons ?_ hS))
    show q.2.2.2 < E.2.2.2 99
    rw [hEc.2.2.2.2]
    exact hSt10 q q1
  | lconst n =>
    obtain ⟨v, hq0, hh⟩ := xlw_inv (x := x) h
    clear h; subst hq0; have h := hh; clear hh
    intro H locs ls hW hF hl hS
    exact lv_lconst hx hb hd (by simpa [xax] using ha) (hK _ _ _ _ h H locs ls hW hF hl (xok_cons trivial hS))
  | ldc2_w n =>
    obtain ⟨v, hq0, hh⟩ := xlw_inv (x := x) h
    clear h; subst hq0; have h := hh; clear hh
    obtain ⟨q, q1, q2⟩ := List.any_eq_true.mp (show xKl.any (fun q => q.1 == own && q.2.1 == n && q.2.2 == v) = true from ha)
    simp only [Bool.and_eq_true, beq_iff_eq] at q2
    obtain ⟨⟨q2, q3⟩, q4⟩ := q2
    subst q2 q3 q4
    intro H locs ls hW hF hl hS
    exact lv_ldc2 hx hb hown (hts _ (hKl q q1)) hd (hK _ _ _ _ h H locs ls hW hF hl (xok_cons trivial hS))
  | iload_n n =>
    obtain ⟨v, hv, h⟩ := xgi_inv h
    intro H locs ls hW hF hl hS
    obtain ⟨w1, w2⟩ := hl.2.2.2 _ _ hv
    exact lv_iload_n hx hb hd rfl w1 (hK _ _ _ _ h H locs ls hW hF hl (xok_cons w2 hS))
  | iload n =>
    obtain ⟨v, hv, h⟩ := xgi_inv h
    intro H locs ls hW hF hl hS
    obtain ⟨w1, w2⟩ := hl.2.2.2 _ _ hv
    exact lv_iload hx hb hd w1 (hK _ _ _ _ h H locs ls hW hF hl (xok_cons w2 hS))
  | lload_n n =>
    obtain ⟨v, hv, h⟩ := xgl_inv h
    intro H locs ls hW hF hl hS
    obtain ⟨w1, w2⟩ := hl.2.2.2 _ _ hv
    exact lv_lload_n hx hb hd rfl w1 (hK _ _ _ _ h H locs ls hW hF hl (xok_cons w2 hS))
  | lload n =>
    obtain ⟨v, hv, h⟩ := xgl_inv h
    intro H locs ls hW hF hl hS
    obtain ⟨w1, w2⟩ := hl.2.2.2 _ _ hv
    exact lv_lload hx hb hd w1 (hK _ _ _ _ h H locs ls hW hF hl (xok_cons w2 hS))
  | aload_n n =>
    obtain ⟨v, hv, h⟩ := xga_inv h
    intro H locs ls hW hF hl hS
    obtain ⟨w1, w2⟩ := hl.2.2.2 _ _ hv
    exact lv_aload_n hx hb hd rfl w1 (hK _ _ _ _ h H locs ls hW hF hl (xok_cons w2 hS))
  | aload n =>
    obtain ⟨v, hv, h⟩ := xga_inv h
    intro H locs ls hW hF hl hS
    obtain ⟨w1, w2⟩ := hl.2.2.2 _ _ hv
    exact lv_aload hx hb hd w1 (hK _ _ _ _ h H locs ls hW hF hl (xok_cons w2 hS))
  | istore_n n =>
    obtain ⟨v, S, hq0, hh⟩ := x1i_inv h
    clear h; subst hq0; have h := hh; clear hh
    obtain ⟨h1, h2, h⟩ := xst1_inv h
    intro H locs ls hW hF hl hS
    exact lv_istore_n hx hb hd rfl hl.has (by rw [← hl.1]; exact h1) rfl (fun ls2 h3 => hK _ _ _ _ h H locs ls2 hW hF (hl.st1 trivial h2 h3) (xok_tl hS))
  | istore n =>
    obtain ⟨v, S, hq0, hh⟩ := x1i_inv h
    clear h; subst hq0; have h := hh; clear hh
    obtain ⟨h1, h2, h⟩ := xst1_inv h
    intro H locs ls hW hF hl hS
    exact lv_istore hx hb hd hl.has (by rw [← hl.1]; exact h1) rfl (fun ls2 h3 => hK _ _ _ _ h H locs ls2 hW hF (hl.st1 trivial h2 h3) (xok_tl hS))
  | lstore_n n =>
    obtain ⟨v, S, hq0, hh⟩ := xls_inv h
    clear h; subst hq0; have h := hh; clear hh
    obtain ⟨h1, h2, h⟩ := xst2_inv h
    intro H locs ls hW hF hl hS
    exact lv_lstore_n hx hb hd rfl hl.has (by rw [← hl.1]; exact h1) rfl (fun ls2 h3 => hK _ _ _ _ h H locs ls2 hW hF (hl.st2 trivial h2 h3) (xok_tl hS))
  | lstore n =>
    obtain ⟨v, S, hq0, hh⟩ := xls_inv h
    clear h; subst hq0; have h := hh; clear hh
    obtain ⟨h1, h2, h⟩ := xst2_inv h
    intro H locs ls hW hF hl hS
    exact lv_lstore hx hb hd hl.has (by rw [← hl.1]; exact h1) rfl (fun ls2 h3 => hK _ _ _ _ h H locs ls2 hW hF (hl.st2 trivial h2 h3) (xok_tl hS))
  | iinc i n =>
    obtain ⟨w, hq0, hh⟩ := xlc_inv (x := x) h
    clear h; subst hq0; have h := hh; clear hh
    obtain ⟨v, hv, h⟩ := xgi_inv h
    obtain ⟨h1, h2, h⟩ := xst1_inv h
    intro H locs ls hW hF hl hS
    have hw : Int32.ofInt n = w := by simpa [xax] using ha
    obtain ⟨k, hk⟩ := List.getElem?_of_mem (xll_mem (ad := ad) hv)
    exact lv_iinc hx hb hd hl.has hk (by rw [hw]) (by rw [← hl.1]; exact h1) rfl (fun ls2 h3 => hK _ _ _ _ h H locs ls2 hW hF (hl.st1 trivial h2 h3) hS)
  | iadd =>
    obtain ⟨a, b, S, hq0, hh⟩ := x2i_inv h
    clear h; subst hq0; have h := hh; clear hh
    intro H locs ls hW hF hl hS
    exact lv_iadd hx hb hd (hK _ _ _ _ h H locs ls hW hF hl (xok_cons trivial (xok_tl (xok_tl hS))))
  | isub =>
    obtain ⟨a, b, S, hq0, hh⟩ := x2i_inv h
    clear h; subst hq0; have h := hh; clear hh
    intro H locs ls hW hF hl hS
    exact lv_isub hx hb hd (hK _ _ _ _ h H locs ls hW hF hl (xok_cons trivial (xok_tl (xok_tl hS))))
  | imul =>
    obtain ⟨a, b, S, hq0, hh⟩ := x2i_inv h
    clear h; subst hq0; have h := hh; clear hh
    intro H locs ls hW hF hl hS
    exact lv_imul hx hb hd (hK _ _ _ _ h H locs ls hW hF hl (xok_cons trivial (xok_tl (xok_tl hS))))
  | iand =>
    obtain ⟨a, b, S, hq0, hh⟩ := x2i_inv h
    clear h; subst hq0; have h := hh; clear hh
    intro H locs ls hW hF hl hS
    exact lv_iand hx hb hd (hK _ _ _ _ h H locs ls hW hF hl (xok_cons trivial (xok_tl (xok_tl hS))))
  | ior =>
    obtain ⟨a, b, S, hq0, hh⟩ := x2i_inv h
    clear h; subst hq0; have h := hh; clear hh
    intro H locs ls hW hF hl hS
    exact lv_ior hx hb hd (hK _ _ _ _ h H locs ls hW hF hl (xok_cons trivial (xok_tl (xok_tl hS))))
  | ixor =>
    obtain ⟨a, b, S, hq0, hh⟩ := x2i_inv h
    clear h; subst hq0; have h := hh; clear hh
    intro H locs ls hW hF hl hS
    exact lv_ixor hx hb hd (hK _ _ _ _ h H locs ls hW hF hl (xok_cons trivial (xok_tl (xok_tl hS))))
  | ishl =>
    obtain ⟨a, b, S, hq0, hh⟩ := x2i_inv h
    clear h; subst hq0; have h := hh; clear hh
    intro H locs ls hW hF hl hS
    exact lv_ishl hx hb hd (hK _ _ _ _ h H locs ls hW hF hl (xok_cons trivial (xok_tl (xok_tl hS))))
  | ishr =>
    obtain ⟨a, b, S, hq0, hh⟩ := x2i_inv h
    clear h; subst hq0; have h := hh; clear hh
    intro H locs ls hW hF hl hS
    exact lv_ishr hx hb hd (hK _ _ _ _ h H locs ls hW hF hl (xok_cons trivial (xok_tl (xok_tl hS))))
  | iushr =>
    obtain ⟨a, b, S, hq0, hh⟩ := x2i_inv h
    clear h; subst hq0; have h := hh; clear hh
    intro H locs ls hW hF hl hS
    exact lv_iushr hx hb hd rfl (hK _ _ _ _ h H locs ls hW hF hl (xok_cons trivial (xok_tl (xok_tl hS))))
  | idiv =>
    obtain ⟨a, b, S, hq0, hh⟩ := x2i_inv h
    clear h; subst hq0; have h := hh; clear hh
    split at h
    · cases h
    · rename_i hne
      intro H locs ls hW hF hl hS
      exact lv_idiv hx hb hd hne (hK _ _ _ _ h H locs ls hW hF hl (xok_cons trivial (xok_tl (xok_tl hS))))
  | irem =>
    obtain ⟨a, b, S, hq0, hh⟩ := x2i_inv h
    clear h; subst hq0; have h := hh; clear hh
    split at h
    · cases h
    · rename_i hne
      intro H locs ls hW hF hl hS
      exact lv_irem hx hb hd hne (hK _ _ _ _ h H locs ls hW hF hl (xok_cons trivial (xok_tl (xok_tl hS))))
  | ineg =>
    obtain ⟨a, S, hq0, hh⟩ := x1i_inv h
    clear h; subst hq0; have h := hh; clear hh
    intro H locs ls hW hF hl hS
    exact lv_ineg hx hb hd (hK _ _ _ _ h H locs ls hW hF hl (xok_cons trivial (xok_tl hS)))
  | ladd =>
    obtain ⟨a, b, S, hq0, hh⟩ := x2l_inv h
    clear h; subst hq0; have h := hh; clear hh
    intro H locs ls hW hF hl hS
    exact lv_ladd hx hb hd (hK _ _ _ _ h H locs ls hW hF hl (xok_cons trivial (xok_tl (xok_tl hS))))
  | lsub =>
    obtain ⟨a, b, S, hq0, hh⟩ := x2l_inv h
    clear h; subst hq0; have h := hh; clear hh
    intro H locs ls hW hF hl hS
    exact lv_lsub hx hb hd (hK _ _ _ _ h H locs ls hW hF hl (xok_cons trivial (xok_tl (xok_tl hS))))
  | lmul =>
    obtain ⟨a, b, S, hq0, hh⟩ := x2l_inv h
    clear h; subst hq0; have h := hh; clear hh
    intro H locs ls hW hF hl hS
    exact lv_lmul hx hb hd (hK _ _ _ _ h H locs ls hW hF hl (xok_cons trivial (xok_tl (xok_tl hS))))
  | land =>
    obtain ⟨a, b, S, hq0, hh⟩ := x2l_inv h
    clear h; subst hq0; have h := hh; clear hh
    intro H locs ls hW hF hl hS
    exact lv_land hx hb hd (hK _ _ _ _ h H locs ls hW hF hl (xok_cons trivial (xok_tl (xok_tl hS))))
  | lor =>
    obtain ⟨a, b, S, hq0, hh⟩ := x2l_inv h
    clear h; subst hq0; have h := hh; clear hh
    intro H locs ls hW hF hl hS
    exact lv_lor hx hb hd (hK _ _ _ _ h H locs ls hW hF hl (xok_cons trivial (xok_tl (xok_tl hS))))
  | lxor =>
    obtain ⟨a, b, S, hq0, hh⟩ := x2l_inv h
    clear h; subst hq0; have h := hh; clear hh
    intro H locs ls hW hF hl hS
    exact lv_lxor hx hb hd (hK _ _ _ _ h H locs ls hW hF hl (xok_cons trivial (xok_tl (xok_tl hS))))
  | lcmp =>
    obtain ⟨a, b, S, hq0, hh⟩ := x2l_inv h
    clear h; subst hq0; have h := hh; clear hh
    intro H locs ls hW hF hl hS
    exact W.lcmp hx hb hd (hK _ _ _ _ h H locs ls hW hF hl (xok_cons trivial (xok_tl (xok_tl hS))))
  | lshl =>
    obtain ⟨a, b, S, hq0, hh⟩ := xli_inv h
    clear h; subst hq0; have h := hh; clear hh
    intro H locs ls hW hF hl hS
    exact lv_lshl hx hb hd rfl (hK _ _ _ _ h H locs ls hW hF hl (xok_cons trivial (xok_tl (xok_tl hS))))
  | lushr =>
    obtain ⟨a, b, S, hq0, hh⟩ := xli_inv h
    clear h; subst hq0; have h := hh; clear hh
    intro H locs ls hW hF hl hS
    exact lv_lushr hx hb hd rfl (hK _ _ _ _ h H locs ls hW hF hl (xok_cons trivial (xok_tl (xok_tl hS))))
  | i2l =>
    obtain ⟨a, S, hq0, hh⟩ := x1i_inv h
    clear h; subst hq0; have h := hh; clear hh
    intro H locs ls hW hF hl hS
    exact lv_i2l hx hb hd rfl (hK _ _ _ _ h H locs ls hW hF hl (xok_cons trivial (xok_tl hS)))
  | i2b =>
    obtain ⟨a, S, hq0, hh⟩ := x1i_inv h
    clear h; subst hq0; have h := hh; clear hh
    intro H locs ls hW hF hl hS
    exact lv_i2b hx hb hd rfl (hK _ _ _ _ h H locs ls hW hF hl (xok_cons trivial (xok_tl hS)))
  | l2i =>
    obtain ⟨a, S, hq0, hh⟩ := xls_inv h
    clear h; subst hq0; have h := hh; clear hh
    intro H locs ls hW hF hl hS
    exact lv_l2i hx hb hd rfl (hK _ _ _ _ h H locs ls hW hF hl (xok_cons trivial (xok_tl hS)))
  | dup =>
    obtain ⟨v, S, rfl, h1, h⟩ := xd1_inv h
    intro H locs ls hW hF hl hS
    exact lv_dup hx hb hd (h1 ad) (hK _ _ _ _ h H locs ls hW hF hl (xok_cons (xok_hd hS) hS))
  | pop =>
    obtain ⟨v, S, rfl, h1, h⟩ := xd1_inv h
    intro H locs ls hW hF hl hS
    exact lv_pop hx hb hd (h1 ad) (hK _ _ _ _ h H locs ls hW hF hl (xok_tl hS))
  | dup2 =>
    obtain ⟨v, S, hq0, hh⟩ := xd2_inv h
    clear h; subst hq0; have h := hh; clear hh
    rcases h with ⟨h1, w, S2, rfl, h2, h⟩ | ⟨h1, h⟩
    · intro H locs ls hW hF hl hS
      exact lv_dup2_11 hx hb hd (h1 ad) (h2 ad) (hK _ _ _ _ h H locs ls hW hF hl (xok_cons (xok_hd hS) (xok_cons (xok_hd (xok_tl hS)) hS)))
    · intro H locs ls hW hF hl hS
      exact lv_dup2_2 hx hb hd (h1 ad) (hK _ _ _ _ h H locs ls hW hF hl (xok_cons (xok_hd hS) hS))
  | goto off =>
    obtain ⟨t, hq0, hh⟩ := xlt_inv (x := x) h
    clear h; subst hq0; have h := hh; clear hh
    intro H locs ls hW hF hl hS
    exact lv_goto hx hb hd (by simpa [xax] using ha) (hK _ _ _ _ h H locs ls hW hF hl hS)
  | ifCond cnd off =>
    obtain ⟨t, hq0, hh⟩ := xlt_inv (x := x) h
    clear h; subst hq0; have h := hh; clear hh
    obtain ⟨a, S, hq0, hh⟩ := x1i_inv h
    clear h; subst hq0; have h := hh; clear hh
    have ht : (pc : Int) + off = (t : Int) := by simpa [xax] using ha
    cases cnd with
    | eq =>
      intro H locs ls hW hF hl hS
      refine lv_if_eq hx hb hd ht (fun q => hK _ _ _ _ ((if_pos q).symm.trans h) H locs ls hW hF hl (xok_tl hS)) (fun q => hK _ _ _ _ ((if_neg q).symm.trans h) H locs ls hW hF hl (xok_tl hS))
    | ne =>
      intro H locs ls hW hF hl hS
      refine lv_if_ne hx hb hd ht (fun q => hK _ _ _ _ ((if_neg q).symm.trans h) H locs ls hW hF hl (xok_tl hS)) (fun q => hK _ _ _ _ ((if_pos q).symm.trans h) H locs ls hW hF hl (xok_tl hS))
    | lt =>
      intro H locs ls hW hF hl hS
      refine lv_if_lt hx hb hd ht (fun q => hK _ _ _ _ ((if_pos q).symm.trans h) H locs ls hW hF hl (xok_tl hS)) (fun q => hK _ _ _ _ ((if_neg q).symm.trans h) H locs ls hW hF hl (xok_tl hS))
    | ge =>
      intro H locs ls hW hF hl hS
      refine lv_if_ge hx hb hd ht (fun q => hK _ _ _ _ ((if_pos q).symm.trans h) H locs ls hW hF hl (xok_tl hS)) (fun q => hK _ _ _ _ ((if_neg q).symm.trans h) H locs ls hW hF hl (xok_tl hS))
    | gt =>
      intro H locs ls hW hF hl hS
      refine lv_if_gt hx hb hd ht (fun q => hK _ _ _ _ ((if_pos q).symm.trans h) H locs ls hW hF hl (xok_tl hS)) (fun q => hK _ _ _ _ ((if_neg q).symm.trans h) H locs ls hW hF hl (xok_tl hS))
    | le =>
      intro H locs ls hW hF hl hS
      refine lv_if_le hx hb hd ht (fun q => hK _ _ _ _ ((if_pos q).symm.trans h) H locs ls hW hF hl (xok_tl hS)) (fun q => hK _ _ _ _ ((if_neg q).symm.trans h) H locs ls hW hF hl (xok_tl hS))
  | if_icmp cnd off =>
    obtain ⟨t, hq0, hh⟩ := xlt_inv (x := x) h
    clear h; subst hq0; have h := hh; clear hh
    obtain ⟨a, b, S, hq0, hh⟩ := x2i_inv h
    clear h; subst hq0; have h := hh; clear hh
    have ht : (pc : Int) + off = (t : Int) := by simpa [xax] using ha
    cases cnd with
    | eq =>
      intro H locs ls hW hF hl hS
      refine lv_icmp_eq hx hb hd ht (fun q => hK _ _ _ _ ((if_pos q).symm.trans h) H locs ls hW hF hl (xok_tl (xok_tl hS))) (fun q => hK _ _ _ _ ((if_neg q).symm.trans h) H locs ls hW hF hl (xok_tl (xok_tl hS)))
    | ne =>
      intro H locs ls hW hF hl hS
      refine lv_icmp_ne hx hb hd ht (fun q => hK _ _ _ _ ((if_neg q).symm.trans h) H locs ls hW hF hl (xok_tl (xok_tl hS))) (fun q => hK _ _ _ _ ((if_pos q).symm.trans h) H locs ls hW hF hl (xok_tl (xok_tl hS)))
    | lt =>
      intro H locs ls hW hF hl hS
      refine lv_icmp_lt hx hb hd ht (fun q => hK _ _ _ _ ((if_pos q).symm.trans h) H locs ls hW hF hl (xok_tl (xok_tl hS))) (fun q => hK _ _ _ _ ((if_neg q).symm.trans h) H locs ls hW hF hl (xok_tl (xok_tl hS)))
    | ge =>
      intro H locs ls hW hF hl hS
      refine lv_icmp_ge hx hb hd ht (fun q => hK _ _ _ _ ((if_pos q).symm.trans h) H locs ls hW hF hl (xok_tl (xok_tl hS))) (fun q => hK _ _ _ _ ((if_neg q).symm.trans h) H locs ls hW hF hl (xok_tl (xok_tl hS)))
    | gt =>
      intro H locs ls hW hF hl hS
      refine lv_icmp_gt hx hb hd ht (fun q => hK _ _ _ _ ((if_pos q).symm.trans h) H locs ls hW hF hl (xok_tl (xok_tl hS))) (fun q => hK _ _ _ _ ((if_neg q).symm.trans h) H locs ls hW hF hl (xok_tl (xok_tl hS)))
    | le =>
      intro H locs ls hW hF hl hS
      refine lv_icmp_le hx hb hd ht (fun q => hK _ _ _ _ ((if_pos q).symm.trans h) H locs ls hW hF hl (xok_tl (xok_tl hS))) (fun q => hK _ _ _ _ ((if_neg q).symm.trans h) H locs ls hW hF hl (xok_tl (xok_tl hS)))
  | tableswitch dflt lo hi offs =>
    obtain ⟨ts, hq0, hh⟩ := xts_inv (x := x) h
    clear h; subst hq0; have h := hh; clear hh
    obtain ⟨a, S, hq0, hh⟩ := x1i_inv h
    clear h; subst hq0; have h := hh; clear hh
    have ha2 := ha
    simp only [xax, Bool.and_eq_true, beq_iff_eq, decide_eq_true_eq] at ha2
    obtain ⟨⟨⟨⟨⟨a1, a2⟩, a3⟩, a4⟩, a5⟩, a6⟩ := ha2
    intro H locs ls hW hF hl hS
    refine xr_sw (l := l) (e := e) (d := d) (below := below) (Q := MQ below (xPo E D ad r0 M0) args s 0 0 (xOwn E ad)) hC hd a1 a2 a4 a3 (fun k t hk ht => ?_) (fun t ht => ?_) (X := X) (fun t ht => hK _ _ _ _ ht H locs ls hW hF hl (xok_tl hS)) ts 0 rfl (Nat.zero_le _) (fun j hj => by omega) h
    · have := List.all_eq_true.mp a5 k (List.mem_range.mpr hk)
      rw [ht] at this
      cases ho : offs[k]? with
      | none => rw [ho] at this; cases this
      | some o => rw [ho] at this; exact ⟨o, rfl, by simpa using this⟩
    · rw [ht] at a6
      simpa using a6
  | getfield idx =>
    obtain ⟨r, S, hq0, hh⟩ := xrf_inv h
    clear h; subst hq0; have h := hh; clear hh
    obtain ⟨ci, f, kk, h1, h2, h⟩ := xob_inv h
    intro H locs ls hW hF hl hS
    have hfo := hft _ h1
    have hr := xok_hd hS
    have hvr : xvr E r := ⟨hr, xr_99 hEc h2 (by decide)⟩
    have h4 : (E.2.1 ci)[f]? = some kk := by rw [hEc.1]; obtain ⟨C, T, N, g1, g2, g3, g4, g5, g6⟩ := hfo; exact g4
    refine xr_getf hG hEc hC hfo h2 hd hr hW ?_
    unfold xfv
    rw [h4]
    split at h
    · exact hK _ _ _ _ h H locs ls hW hF hl (xok_cons trivial (xok_tl hS))
    · exact hK _ _ _ _ h H locs ls hW hF hl (xok_cons (hEc.2.1 r ci f hvr h2 (by rw [hEc.1] at h4; exact h4)) (xok_tl hS))
    · rename_i n1 n2
      split
      · rename_i q; cases q; exact absurd rfl n1
      · rename_i q; cases q; exact absurd rfl n2
      · exact hK _ _ _ _ h H locs ls hW hF hl (xok_cons trivial (xok_tl hS))
  | putfield idx =>
    rcases xpf_inv h with ⟨v, r, S, hq0, hh⟩ | ⟨v, r, S, hq0, hh⟩ <;> clear h <;> subst hq0 <;> have h := hh <;> clear hh
    · obtain ⟨ci, f, kk, h1, h2, h⟩ := xob_inv h
      intro H locs ls hW hF hl hS
      have hr := xok_hd (xok_tl hS)
      split at h
      · exact xr_puti hG hEc hC (hft _ h1) h2 hd hr hW hF (Or.inl rfl) (fun H' locs' hW' hF' => hK _ _ _ _ h H' locs' ls hW' hF' hl (xok_tl (xok_tl hS)))
      · split at h
        · rename_i hb2
          exact xr_puti hG hEc hC (hft _ h1) h2 hd hr hW hF (Or.inr ⟨rfl, xb_iff.mp hb2⟩) (fun H' locs' hW' hF' => hK _ _ _ _ h H' locs' ls hW' hF' hl (xok_tl (xok_tl hS)))
        · cases h
      · cases h
    · obtain ⟨ci, f, kk, h1, h2, h⟩ := xob_inv h
      intro H locs ls hW hF hl hS
      have hr := xok_hd (xok_tl hS)
      split at h
      · exact xr_putl hG hEc hC (hft _ h1) h2 hd hr hW hF (fun H' locs' hW' hF' => hK _ _ _ _ h H' locs' ls hW' hF' hl (xok_tl (xok_tl hS)))
      · cases h
  | iaload =>
    obtain ⟨j, r, S, hq0, hh⟩ := xal_inv h
    clear h; subst hq0; have h := hh; clear hh
    obtain ⟨n, h1, h2, h⟩ := xar_inv h
    intro H locs ls hW hF hl hS
    exact xr_iald hEc hC h1 h2 hd (xok_hd (xok_tl hS)) hW (hK _ _ _ _ h H locs ls hW hF hl (xok_cons trivial (xok_tl (xok_tl hS))))
  | laload =>
    obtain ⟨j, r, S, hq0, hh⟩ := xal_inv h
    clear h; subst hq0; have h := hh; clear hh
    obtain ⟨n, h1, h2, h⟩ := xar_inv h
    intro H locs ls hW hF hl hS
    exact xr_lald hEc hC h1 h2 hd (xok_hd (xok_tl hS)) hW (hK _ _ _ _ h H locs ls hW hF hl (xok_cons trivial (xok_tl (xok_tl hS))))
  | aaload =>
    obtain ⟨j, r, S, hq0, hh⟩ := xal_inv h
    clear h; subst hq0; have h := hh; clear hh
    obtain ⟨n, h1, h2, h⟩ := xar_inv h
    intro H locs ls hW hF hl hS
    have hr := xok_hd (xok_tl hS)
    exact xr_aald hEc hC h1 h2 hd hr hW (hK _ _ _ _ h H locs ls hW hF hl (xok_cons (hEc.2.2.1 r n _ ⟨hr, xr_99 hEc h1 (by decide)⟩ h1 h2.2) (xok_tl (xok_tl hS))))
  | baload =>
    obtain ⟨j, r, S, hq0, hh⟩ := xal_inv h
    clear h; subst hq0; have h := hh; clear hh
    obtain ⟨a, hq0, hh⟩ := xlt2_inv (x := x) h
    clear h; subst hq0; have h := hh; clear hh
    split at h
    · rename_i hb2
      obtain ⟨n, h1, h2, hh⟩ := xar_inv h
      clear h
      intro H locs ls hW hF hl hS
      have hr := xok_hd (xok_tl hS)
      rw [Bool.or_eq_true] at hb2
      rcases hb2 with q | q
      · have q := Nat.eq_of_beq_eq_true q
        subst q
        exact xr_bald hEc hC h1 h2 hd hr hW (hK _ _ _ _ hh H locs ls hW hF hl (xok_cons trivial (xok_tl (xok_tl hS))))
      · have q := Nat.eq_of_beq_eq_true q
        subst q
        exact xr_zald hEc hC h1 h2 hd hr hW (hK _ _ _ _ hh H locs ls hW hF hl (xok_cons trivial (xok_tl (xok_tl hS))))
    · cases h
  | iastore =>
    obtain ⟨v, j, r, S, hq0, hh⟩ := xas_inv h
    clear h; subst hq0; have h := hh; clear hh
    obtain ⟨n, h1, h2, h⟩ := xar_inv h
    intro H locs ls hW hF hl hS
    exact xr_iast hEc hC h1 h2 hd (xok_hd (xok_tl (xok_tl hS))) hW hF (fun H' locs' hW' hF' => hK _ _ _ _ h H' locs' ls hW' hF' hl (xok_tl (xok_tl (xok_tl hS))))
  | lastore =>
    obtain ⟨v, j, r, S, hq0, hh⟩ := xlas_inv h
    clear h; subst hq0; have h := hh; clear hh
    obtain ⟨n, h1, h2, h⟩ := xar_inv h
    intro H locs ls hW hF hl hS
    exact xr_last hEc hC h1 h2 hd (xok_hd (xok_tl (xok_tl hS))) hW hF (fun H' locs' hW' hF' => hK _ _ _ _ h H' locs' ls hW' hF' hl (xok_tl (xok_tl (xok_tl hS))))
  | bastore =>
    obtain ⟨v, j, r, S, hq0, hh⟩ := xas_inv h
    clear h; subst hq0; have h := hh; clear hh
    split at h
    · obtain ⟨n, h1, h2, h⟩ := xar_inv h
      intro H locs ls hW hF hl hS
      exact xr_bast hEc hC h1 h2 hd (xok_hd (xok_tl (xok_tl hS))) hW hF (fun H' locs' hW' hF' => hK _ _ _ _ h H' locs' ls hW' hF' hl (xok_tl (xok_tl (xok_tl hS))))
    · obtain ⟨n, h1, h2, h⟩ := xar_inv h
      split at h
      · rename_i hb2
        intro H locs ls hW hF hl hS
        exact xr_zast hEc hC h1 h2 (xb_iff.mp hb2) hd (xok_hd (xok_tl (xok_tl hS))) hW hF (fun H' locs' hW' hF' => hK _ _ _ _ h H' locs' ls hW' hF' hl (xok_tl (xok_tl (xok_tl hS))))
      · cases h
    · cases h
  | arraylength =>
    obtain ⟨r, S, hq0, hh⟩ := xrf_inv h
    clear h; subst hq0; have h := hh; clear hh
    split at h
    rename_i a n h1
    split at h
    · rename_i hb2
      intro H locs ls hW hF hl hS
      rw [Bool.or_eq_true] at hb2
      exact xr_alen hEc hC h1 (hb2.imp Nat.eq_of_beq_eq_true Nat.eq_of_beq_eq_true) hd (xok_hd hS) hW (hK _ _ _ _ h H locs ls hW hF hl (xok_cons trivial (xok_tl hS)))
    · cases h
  | invokevirtual idx =>
    obtain ⟨tag, n, rk', f, As, S', r, M', h1, hq0, h3, h4, h5, h6, h7, hh⟩ := xcl_inv h
    clear h; subst hq0; have h := hh; clear hh
    exact hct _ h1 p l e s m args below meth c cc nL _ ad pc L S' As M M' r hC hd h6 h3 h4 h5 (fun v q => h7 v q E) (hK _ _ _ _ h)
  | invokestatic idx =>
    obtain ⟨tag, n, rk', f, As, S', r, M', h1, hq0, h3, h4, h5, h6, h7, hh⟩ := xcl_inv h
    clear h; subst hq0; have h := hh; clear hh
    exact hct _ h1 p l e s m args below meth c cc nL _ ad pc L S' As M M' r hC hd h6 h3 h4 h5 (fun v q => h7 v q E) (hK _ _ _ _ h)
  | ireturn =>
    obtain ⟨v, hq0, hh⟩ := xir_inv h
    clear h; subst hq0; have h := hh; clear hh
    intro H locs ls hW hF hl hS
    split at h
    · cases h
      obtain ⟨rfl, rfl⟩ := hX _ _ rfl
      exact W.iret hx hb (hrk.2.1 rfl) (fun t ht _ => ⟨rfl, by rw [ht]; exact hW, by rw [ht]; exact hF.1, fun q hq => by rw [ht]; exact hF.2.1 q hq⟩) hF.2.2 hd hlk
    · split at h
      · rename_i hb2
        cases h
        obtain ⟨rfl, rfl⟩ := hX _ _ rfl
        exact W.zret hx hb (hrk.2.2.1 rfl) (nar_bool (xb_iff.mp hb2)).1 (fun t ht _ => ⟨rfl, by rw [ht]; exact hW, by rw [ht]; exact hF.1, fun q hq => by rw [ht]; exact hF.2.1 q hq⟩) hF.2.2 hd hlk
      · cases h
    · cases h
  | lreturn =>
    obtain ⟨v, hq0, hh⟩ := xlr_inv h
    clear h; subst hq0; have h := hh; clear hh
    intro H locs ls hW hF hl hS
    split at h
    · cases h
      obtain ⟨rfl, rfl⟩ := hX _ _ rfl
      exact W.lret hx hb (hrk.2.2.2 rfl) (fun t ht _ => ⟨rfl, by rw [ht]; exact hW, by rw [ht]; exact hF.1, fun q hq => by rw [ht]; exact hF.2.1 q hq⟩) hF.2.2 hd hlk
    · cases h
  | return_ =>
    obtain ⟨hq0, hh⟩ := xvr_inv h
    clear h; subst hq0; have h := hh; clear hh
    intro H locs ls hW hF hl hS
    split at h
    · cases h
      obtain ⟨rfl, rfl⟩ := hX _ _ rfl
      exact W.vret hx hb (hrk.1 rfl) (fun t ht _ => ⟨rfl, by rw [ht]; exact hW, by rw [ht]; exact hF.1, fun q hq => by rw [ht]; exact hF.2.1 q hq⟩) hF.2.2 hd hlk
    · cases h
  | _ => exact nomatch (show (none : Option xX) = some X from h)
end
