/-! The rows: one step of the small machine is one of the JVM -/
theorem xfv_same {E : xE} {ad : xAd} {M M' : xM} {ci : Nat} {r : xR} (hI : ∀ j, xI M' r j = xI M r j) (hL : ∀ j, xL M' r j = xL M r j) : xfv E ad M' ci r = xfv E ad M ci r := by
  funext f
  unfold xfv
  rw [hI, hL]
theorem xAt.other {E : xE} {D : xD} {ad : xAd} {M M' : xM} {r : xR} {H H' : Heap} (h : xAt E D ad M r H) (hI : ∀ j, xI M' r j = xI M r j) (hL : ∀ j, xL M' r j = xL M r j) (hq : H'[ad r]? = H[ad r]?) : xAt E D ad M' r H' := by
  have e1 : (fun j => Value.int (xI M' r j)) = (fun j => Value.int (xI M r j)) := funext fun j => by rw [hI]
  have e2 : (fun j => Value.long (xL M' r j)) = (fun j => Value.long (xL M r j)) := funext fun j => by rw [hL]
  unfold xAt at h ⊢
  generalize E.1 r.1 = kd at h ⊢
  obtain ⟨c, n⟩ := kd
  rcases c with _ | _ | _ | _ | _ | _ | c
  · obtain ⟨q, h1, h2⟩ := h
    exact ⟨q, h1, by rw [xfv_same hI hL]; exact h2.kept hq⟩
  · show H'[ad r]? = some (arrV (D.2.2 1) n (fun j => .int (xI M' r j))); rw [hq, e1]; exact h
  · show H'[ad r]? = some (arrV (D.2.2 2) n (fun j => .long (xL M' r j))); rw [hq, e2]; exact h
  · show H'[ad r]? = some (arrV (D.2.2 3) n (fun j => .int (xI M' r j))); rw [hq, e1]; exact h
  · show H'[ad r]? = some (arrV (D.2.2 4) n (fun j => .int (xI M' r j))); rw [hq, e1]; exact h
  · show H'[ad r]? = some (arrV (D.2.2 5) n (fun j => .ref (ad (E.2.2.1 r j)))); rw [hq]; exact h
  · exact h
theorem xI_pI_ne {M : xM} {r r' : xR} {j k : Nat} {v : Int32} (h : r' ≠ r) : xI (xpI M r j v) r' k = xI M r' k := by
  unfold xI xpI; simp [h]
theorem xI_pI {M : xM} {r r' : xR} {j k : Nat} {v : Int32} : xI (xpI M r j v) r' k = if r' = r ∧ k = j then v else xI M r' k := rfl
theorem xL_pI {M : xM} {r r' : xR} {j k : Nat} {v : Int32} : xL (xpI M r j v) r' k = xL M r' k := rfl
theorem xI_pL {M : xM} {r r' : xR} {j k : Nat} {v : Int64} : xI (xpL M r j v) r' k = xI M r' k := rfl
theorem xL_pL {M : xM} {r r' : xR} {j k : Nat} {v : Int64} : xL (xpL M r j v) r' k = if r' = r ∧ k = j then v else xL M r' k := rfl
theorem xWd.setI {E : xE} {D : xD} {ad : xAd} {M : xM} {r : xR} {j : Nat} {v : Int32} {H H' : Heap} (h : xWd E D ad M H) (hj : ∀ r r' : xR, xvr E r → xvr E r' → ad r = ad r' → r = r') (hr : xvr E r) (h1 : xAt E D ad (xpI M r j v) r H') (ho : ∀ q : Nat, q ≠ ad r → H'[q]? = H[q]?) : xWd E D ad (xpI M r j v) H' := by
  intro r' hr'
  by_cases e : r' = r
  · rw [e]; exact h1
  · exact (h r' hr').other (fun k => xI_pI_ne e) (fun k => rfl) (ho _ fun z => e (hj r' r hr' hr z))
theorem xWd.setL {E : xE} {D : xD} {ad : xAd} {M : xM} {r : xR} {j : Nat} {v : Int64} {H H' : Heap} (h : xWd E D ad M H) (hj : ∀ r r' : xR, xvr E r → xvr E r' → ad r = ad r' → r = r') (hr : xvr E r) (h1 : xAt E D ad (xpL M r j v) r H') (ho : ∀ q : Nat, q ≠ ad r → H'[q]? = H[q]?) : xWd E D ad (xpL M r j v) H' := by
  intro r' hr'
  by_cases e : r' = r
  · rw [e]; exact h1
  · exact (h r' hr').other (fun k => rfl) (fun k => by rw [xL_pL]; simp [e]) (ho _ fun z => e (hj r' r hr' hr z))
theorem xFr.put {E : xE} {ad : xAd} {H0 H H' : Heap} {locs : List Loc} {r : xR} {k : Nat} (h : xFr E ad H0 H locs) (hr : xvr E r) (z : H'.size = H.size) (ho : ∀ q : Nat, q ≠ ad r → H'[q]? = H[q]?) : xFr E ad H0 H' (locs ++ [⟨ad r, k⟩]) := by
  refine ⟨z.trans h.1, fun q hq => ?_, fun l hl => ?_⟩
  · rw [ho q (fun e => hq ⟨r, hr, e⟩)]; exact h.2.1 q hq
  · rcases List.mem_append.mp hl with h1 | h1
    · exact h.2.2 l h1
    · rw [List.mem_singleton.mp h1]; exact ⟨r, hr, rfl⟩
/-- the kit's list of locals -/
def xll (ad : xAd) (L : List (Option xV)) : List (Nat × Value) := (List.range L.length).filterMap fun i => match L[i]? with
  | some (some v) => some (i, xc ad v)
  | _ => none
theorem xll_mem {ad : xAd} {L : List (Option xV)} {i : Nat} {v : xV} (h : L[i]? = some (some v)) : (i, xc ad v) ∈ xll ad L := by
  refine List.mem_filterMap.mpr ⟨i, List.mem_range.mpr (List.getElem?_eq_some_iff.mp h).1, ?_⟩
  rw [h]
theorem xll_of {ad : xAd} {L : List (Option xV)} {q : Nat × Value} (h : q ∈ xll ad L) : ∃ v, L[q.1]? = some (some v) ∧ q.2 = xc ad v := by
  obtain ⟨i, -, h2⟩ := List.mem_filterMap.mp h
  split at h2
  · rename_i v e
    cases h2
    exact ⟨v, e, rfl⟩
  · cases h2
theorem xlv.has {E : xE} {ad : xAd} {ls : Array Slot} {nL : Nat} {L : List (Option xV)} (h : xlv E ad ls nL L) : lv_has ls nL (xll ad L) := by
  refine ⟨h.2.1, h.2.2.1, fun q hq => ?_⟩
  obtain ⟨v, h1, h2⟩ := xll_of hq
  rw [h2]
  exact (h.2.2.2 _ _ h1).1
theorem xc_cat1 {ad : xAd} {v : xV} (h : ∀ w, v ≠ .inr (.inl w)) : (xc ad v).category = 1 := by
  rcases v with a | a | a
  · rfl
  · exact absurd rfl (h a)
  · rfl
theorem xlv.st1 {E : xE} {ad : xAd} {ls ls' : Array Slot} {nL i : Nat} {L : List (Option xV)} {v : xV} (h : xlv E ad ls nL L) (hv : xok E v) (hn : ∀ j w, j + 1 = i → L[j]? ≠ some (some (.inr (.inl w))))
    (h2 : lv_has ls' nL ((i, xc ad v) :: (xll ad L).filter (fun q => !(q.1 == i) && !(q.1 + 1 == i && q.2.category == 2)))) : xlv E ad ls' nL (L.set i (some v)) := by
  refine ⟨by rw [List.length_set]; exact h.1, h2.1, h2.2.1, fun j w hj => ?_⟩
  by_cases e : j = i
  · subst e
    have hl : j < L.length := by
      have := (List.getElem?_eq_some_iff.mp hj).1
      simpa using this
    rw [List.getElem?_set_self hl] at hj
    cases hj
    exact ⟨h2.2.2 _ List.mem_cons_self, hv⟩
  · rw [List.getElem?_set_ne (Ne.symm e)] at hj
    refine ⟨h2.2.2 _ (List.mem_cons_of_mem _ (List.mem_filter.mpr ⟨xll_mem hj, ?_⟩)), (h.2.2.2 j w hj).2⟩
    have h3 : (j == i) = false := by simpa using e
    simp only [h3, Bool.not_false, Bool.true_and]
    by_cases e2 : j + 1 = i
    · have h4 : (xc ad w).category = 1 := xc_cat1 fun z q => hn j z e2 (by rw [hj, q])
      simp [h4]
    · simp [e2]
theorem xlv.st2 {E : xE} {ad : xAd} {ls ls' : Array Slot} {nL i : Nat} {L : List (Option xV)} {v : xV} (h : xlv E ad ls nL L) (hv : xok E v) (hn : ∀ j w, j + 1 = i → L[j]? ≠ some (some (.inr (.inl w))))
    (h2 : lv_has ls' nL ((i, xc ad v) :: (xll ad L).filter (fun q => !(q.1 == i) && (!(q.1 == i + 1) && !(q.1 + 1 == i && q.2.category == 2))))) : xlv E ad ls' nL ((L.set i (some v)).set (i + 1) none) := by
  refine ⟨by rw [List.length_set, List.length_set]; exact h.1, h2.1, h2.2.1, fun j w hj => ?_⟩
  by_cases e1 : j = i + 1
  · subst e1
    have hl : i + 1 < (L.set i (some v)).length := by
      have := (List.getElem?_eq_some_iff.mp hj).1
      simpa using this
    rw [List.getElem?_set_self hl] at hj
    cases hj
  · rw [List.getElem?_set_ne (Ne.symm e1)] at hj
    by_cases e : j = i
    · subst e
      have hl : j < L.length := by
        have := (List.getElem?_eq_some_iff.mp hj).1
        simpa using this
      rw [List.getElem?_set_self hl] at hj
      cases hj
      exact ⟨h2.2.2 _ List.mem_cons_self, hv⟩
    · rw [List.getElem?_set_ne (Ne.symm e)] at hj
      refine ⟨h2.2.2 _ (List.mem_cons_of_mem _ (List.mem_filter.mpr ⟨xll_mem hj, ?_⟩)), (h.2.2.2 j w hj).2⟩
      have h3 : (j == i) = false := by simpa using e
      have h5 : (j == i + 1) = false := by simpa using e1
      simp only [h3, h5, Bool.not_false, Bool.true_and]
      by_cases e2 : j + 1 = i
      · have h4 : (xc ad w).category = 1 := xc_cat1 fun z q => hn j z e2 (by rw [hj, q])
        simp [h4]
      · simp [e2]
theorem xlv.forg {E : xE} {ad : xAd} {ls : Array Slot} : ∀ {b : List Bool} {L : List (Option xV)} {i : Nat} {v : xV}, (xfor b L)[i]? = some (some v) → L[i]? = some (some v)
  | true :: b, w :: l, 0, v, h => h
  | true :: b, w :: l, i + 1, v, h => xlv.forg (E := E) (ad := ad) (ls := ls) (b := b) (L := l) (i := i) h
  | false :: b, w :: l, 0, v, h => by cases h
  | false :: b, w :: l, i + 1, v, h => xlv.forg (E := E) (ad := ad) (ls := ls) (b := b) (L := l) (i := i) h
  | [], l, i, v, h => by cases l <;> simp [xfor] at h
  | b :: bs, [], i, v, h => by cases b <;> simp [xfor] at h
theorem xfor_len : ∀ {b : List Bool} {L : List (Option xV)}, b.length = L.length → (xfor b L).length = L.length
  | [], [], _ => rfl
  | true :: b, _ :: l, h => by simp [xfor, xfor_len (b := b) (L := l) (by simpa using h)]
  | false :: b, _ :: l, h => by simp [xfor, xfor_len (b := b) (L := l) (by simpa using h)]
  | _ :: _, [], h => by simp at h
  | [], _ :: _, h => by simp at h
theorem xok_cons {E : xE} {v : xV} {S : List xV} (hv : xok E v) (h : ∀ w ∈ S, xok E w) : ∀ w ∈ v :: S, xok E w := fun w hw => by
  rcases List.mem_cons.mp hw with e | e
  · rw [e]; exact hv
  · exact h w e
theorem xok_tl {E : xE} {v : xV} {S : List xV} (h : ∀ w ∈ v :: S, xok E w) : ∀ w ∈ S, xok E w := fun w hw => h w (List.mem_cons_of_mem _ hw)
theorem xok_hd {E : xE} {v : xV} {S : List xV} (h : ∀ w ∈ v :: S, xok E w) : xok E v := h v List.mem_cons_self
theorem xc_map_rev (ad : xAd) (As S : List xV) : (As.reverse ++ S).map (xc ad) = (As.map (xc ad)).reverse ++ S.map (xc ad) := by simp
theorem xcats_sum (ad : xAd) : ∀ S : List xV, ((S.map (xc ad)).map fun v => v.category).sum = xcats S
  | [] => rfl
  | v :: S => by
    have ih := xcats_sum ad S
    simp only [List.map_cons, List.sum_cons, xcats]
    rw [ih]
    rcases v with a | a | a <;> rfl
theorem nar_bool {v : Int32} (h : v = 0 ∨ v = 1) : narrow .boolean (.int v) = .int v ∧ fits .boolean (.int v) = true := by
  rcases h with rfl | rfl <;> exact ⟨rfl, rfl⟩
theorem fits_int (v : Int32) : narrow .int (.int v) = .int v ∧ fits .int (.int v) = true := ⟨rfl, rfl⟩
theorem fits_long (v : Int64) : narrow .long (.long v) = .long v ∧ fits .long (.long v) = true := ⟨rfl, rfl⟩
section
variable {E : xE} {D : xD} {ad : xAd} {p : Program} {l : Launch} {e : Env} {d : Nat} {s : State} {m : MethodId} {args : Array Value} {below : List Frame} {meth : Method} {c : Code} {cc : ByteArray} {nL : Nat} {own : String} {Q : State → Prop}
variable {pc : Nat} {L : List (Option xV)} {S : List xV} {M : xM}
theorem xr_getf (hG : xcg) (hEc : xEc E) (hC : xCx E D ad p s m args meth c cc nL own) {idx ci f kk : Nat} (hf : xfo own (idx, ci, f, kk)) {r : xR} (hk : E.1 r.1 = (0, ci)) (hdg : decode cc pc = .ok (.getfield idx, 3))
    (hr : xok E (.inr (.inr r))) {H : Heap} {locs : List Loc} {ls : Array Slot} {rest : List Value} (hW : xWd E D ad M H)
    (k : W p l e (xrm d) s m args below meth c H locs 0 0 Q (F0 m (pc + 3) ls (xfv E ad M ci r f :: rest))) : W p l e (xrm d) s m args below meth c H locs 0 0 Q (F0 m pc ls (.ref (ad r) :: rest)) := by
  obtain ⟨hx, hb, hml, hown, hts, hlk, hKn, -, hnw, -⟩ := hC
  obtain ⟨C, T, N, g1, g2, g3, g4, g5, g6⟩ := hf
  dsimp only at g1 g2 g3 g4 g5 g6
  have h99 : r.1 ≠ 99 := fun z => by rw [z] at hk; have := hEc.2.2.2.1; rw [hk] at this; cases this
  have hA := hW r ⟨hr, h99⟩
  unfold xAt at hA
  rw [hk] at hA
  obtain ⟨q, q1, cell, c1, c2, c3, c4⟩ := hA
  have hq : q = (C, T, N) := Option.some.inj (q1.symm.trans g1)
  subst hq
  obtain ⟨hS, hfc, kC, hkC, hkind⟩ := hKn ci _ g1
  obtain ⟨cf, kf, fi, fd, hi, hsl⟩ := hS f g2
  dsimp only at hi hsl c4 hfc
  have hin := (hG ci C T N g1).1
  have hst := (u_facts hfc hkC (u_lays hts hin g2) hi).1
  have hslot : cell.slots[fd.slot]? = some (xfv E ad M ci r f) := by rw [hsl]; exact c4 f g2
  rw [g5] at hi
  rcases g3 with g3 | ⟨g3, -⟩
  · exact W.getf hx hb hown (hts _ g3) hi hst c1 (by rw [c3]; exact fun h => by cases h) hslot rfl rfl hdg k
  · exact va_Wgetf hx hb hown (va_Nw.use rfl (hnw _ g3)) hi hst c1 (by rw [c3]; exact fun h => by cases h) hslot rfl rfl hdg k
end
