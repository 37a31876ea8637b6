/-! Constructors as contracts -/
def yln (pc : Nat) : Instr → Nat
  | .new _ | .anewarray _ | .invokespecial _ => 3
  | .newarray _ => 2
  | i => xln pc i
def ydc (cc : ByteArray) (own : String) (q : Nat × Instr × xA) : Bool := decide (decode cc q.1 = .ok (q.2.1, yln q.1 q.2.1)) && xax own q.1 q.2.1 q.2.2
theorem ynl {L : List (Option xV)} (h : L.all (fun q => match q with
    | some (.inr (.inl _)) => false
    | _ => true) = true) : ∀ (j : Nat) (w : Int64), L[j]? ≠ some (some (.inr (.inl w))) := by
  intro j w hj
  have := List.all_eq_true.mp h _ (List.mem_of_getElem? hj)
  simp at this
section
variable {D : xD} {b : Nat} {p : Program} {l : Launch} {e : Env} {d mc ms : Nat} {s : State} {m : MethodId} {args : Array Value} {below : List Frame} {meth : Method} {c : Code} {cc : ByteArray} {nL : Nat} {own : String}
set_option maxHeartbeats 4000000 in
theorem yex_ok (hG : ycg) (hG2 : xcg) (hC : yCx D p s m args meth c cc nL own) {ft : List (Nat × Nat × Nat × Nat)} {nt : List (Nat × Nat)} {ct : List (Nat × Nat × Nat × Nat × yF)} {oi : Nat} (hft : ∀ q ∈ ft, yfo own q) (hnt : ∀ q ∈ nt, ynt own q) (hct : ∀ q ∈ ct, yco D own d q)
    (hoi : Cond.methodLink own oi objectInit ∈ xTB ∧ Cond.instanceMethod objectInit ∈ xTB ∧ Cond.code objectInit ⟨#[0xb1]⟩ 1 none ∈ xTB) (harr : ∀ ty, yty ty ≤ 4 → Cond.arrayClass (newarray.typeOf ty) ∈ xTB) (hd1 : 1 ≤ d) {m0 : List yK} {K : Nat → List (Option xV) → List xV → List yK → Nat → Nat → Option yX} {pc : Nat} {i : Instr} {x : xA} {L : List (Option xV)} {S : List xV} {mem : List yK} {uc us : Nat} {X : yX} (hX : X.1 = m0)
    (hdc : ydc cc own (pc, i, x) = true) (h : yex ft nt ct oi K pc i x L S mem uc us = some X)
    (hK : ∀ pc' L' S' mem' uc' us', K pc' L' S' mem' uc' us' = some X → yWf D b p l e d mc ms s m args below meth c nL (MQ below (yPo D b m0) args s mc ms (fun q => b ≤ q)) pc' L' S' mem' uc' us') : yWf D b p l e d mc ms s m args below meth c nL (MQ below (yPo D b m0) args s mc ms (fun q => b ≤ q)) pc L S mem uc us := by
  have hC2 := hC
  obtain ⟨hx, hb, hml, hown, hts, hlk, hnm, hret, hKn, -⟩ := hC2
  unfold ydc at hdc
  rw [Bool.and_eq_true, decide_eq_true_eq] at hdc
  obtain ⟨hd, ha⟩ := hdc
  intro huc hus H locs ls hW hF hl hS
  cases i with
  | iconst n =>
    simp only [yex] at h
    split at h
    · exact lv_iconst hx hb hd (by simpa [xax] using ha) (hK _ _ _ _ _ _ h huc hus H locs ls hW hF hl (xok_cons trivial hS))
    · cases h
  | bipush n =>
    simp only [yex] at h
    split at h
    · exact lv_bipush hx hb hd (by simpa [xax] using ha) (hK _ _ _ _ _ _ h huc hus H locs ls hW hF hl (xok_cons trivial hS))
    · cases h
  | sipush n =>
    simp only [yex] at h
    split at h
    · exact lv_sipush hx hb hd (by simpa [xax] using ha) (hK _ _ _ _ _ _ h huc hus H locs ls hW hF hl (xok_cons trivial hS))
    · cases h
  | aload_n n =>
    simp only [yex] at h
    split at h
    · rename_i r hv
      obtain ⟨w1, w2⟩ := hl.2.2.2 _ _ hv
      exact lv_aload_n hx hb hd rfl w1 (hK _ _ _ _ _ _ h huc hus H locs ls hW hF hl (xok_cons w2 hS))
    · cases h
  | iload_n n =>
    simp only [yex] at h
    split at h
    · rename_i r hv
      obtain ⟨w1, w2⟩ := hl.2.2.2 _ _ hv
      exact lv_iload_n hx hb hd rfl w1 (hK _ _ _ _ _ _ h huc hus H locs ls hW hF hl (xok_cons w2 hS))
    · cases h
  | istore_n n =>
    simp only [yex] at h
    split at h
    · split at h
      · rename_i hb2
        rw [Bool.and_eq_true] at hb2
        exact lv_istore_n hx hb hd rfl hl.has (by rw [← hl.1]; exact Nat.blt_eq.mp hb2.1) rfl (fun ls2 h3 => hK _ _ _ _ _ _ h huc hus H locs ls2 hW hF (hl.st1 trivial (fun j w _ => ynl hb2.2 j w) h3) (xok_tl hS))
      · cases h
    · cases h
  | iinc n k =>
    simp only [yex] at h
    split at h
    · rename_i w
      split at h
      · rename_i v hv
        split at h
        · rename_i hb2
          have hw : Int32.ofInt k = w := by simpa [xax] using ha
          obtain ⟨k2, hk2⟩ := List.getElem?_of_mem (xll_mem (ad := yad b) hv)
          exact lv_iinc hx hb hd hl.has hk2 (by rw [hw]) (by rw [← hl.1]; exact (List.getElem?_eq_some_iff.mp hv).1) rfl (fun ls2 h3 => hK _ _ _ _ _ _ h huc hus H locs ls2 hW hF (hl.st1 trivial (fun j w _ => ynl hb2 j w) h3) hS)
        · cases h
      · cases h
    · cases h
  | dup =>
    simp only [yex] at h
    split at h
    · exact lv_dup hx hb hd rfl (hK _ _ _ _ _ _ h huc hus H locs ls hW hF hl (xok_cons (xok_hd hS) hS))
    · cases h
  | goto off =>
    simp only [yex] at h
    split at h
    · exact lv_goto hx hb hd (by simpa [xax] using ha) (hK _ _ _ _ _ _ h huc hus H locs ls hW hF hl hS)
    · cases h
  | if_icmp cnd off =>
    cases cnd with
    | ge =>
      simp only [yex] at h
      split at h
      · rename_i t
        split at h
        · have ht : (pc : Int) + off = (t : Int) := by simpa [xax] using ha
          exact lv_icmp_ge hx hb hd ht (fun q => hK _ _ _ _ _ _ ((if_pos q).symm.trans h) huc hus H locs ls hW hF hl (xok_tl (xok_tl hS))) (fun q => hK _ _ _ _ _ _ ((if_neg q).symm.trans h) huc hus H locs ls hW hF hl (xok_tl (xok_tl hS)))
        · cases h
      · cases h
    | _ => exact nomatch (show (none : Option yX) = some X from h)
  | new idx =>
    simp only [yex] at h
    split at h
    · rename_i ci hci
      split at h
      · rename_i hb2
        simp only [Bool.and_eq_true] at hb2
        have h1 : 0 < uc := Nat.blt_eq.mp hb2.1.1
        have h2 : (fkX ci).length ≤ us := Nat.ble_eq.mp hb2.1.2
        have h3 : mem.length < 1000000 := Nat.blt_eq.mp hb2.2
        refine yr_new hG hG2 hC (hnt _ (xlk_mem hci)) hd hW hF (by omega) (by omega) (fun H' hW' hF' => ?_)
        refine W.cs (by omega) (by omega) (hK _ _ _ _ _ _ h (by omega) (by omega) H' locs ls hW' hF' hl (xok_cons (yE_ok.mpr h3) hS))
      · cases h
    · cases h
  | newarray ty =>
    simp only [yex] at h
    split at h
    · rename_i n S2
      split at h
      · rename_i hb2
        simp only [Bool.and_eq_true, decide_eq_true_eq] at hb2
        obtain ⟨⟨⟨⟨⟨h1, h2⟩, h3⟩, h4⟩, h5⟩, h6⟩ := hb2
        have h1 : 0 < uc := Nat.blt_eq.mp h1
        have h2 : n.toNatClampNeg ≤ us := Nat.ble_eq.mp h2
        have h3 : mem.length < 1000000 := Nat.blt_eq.mp h3
        refine yr_arr hC hd (Nat.ble_eq.mp h6) h4 (Nat.ble_eq.mp h5) (fun t ht => ht ▸ harr ty (Nat.ble_eq.mp h6)) hW hF (by omega) (by omega) (fun H' hW' hF' => ?_)
        refine W.cs (by omega) (by omega) (hK _ _ _ _ _ _ h (by omega) (by omega) H' locs ls hW' hF' hl (xok_cons (yE_ok.mpr h3) (xok_tl hS)))
      · cases h
    · cases h
  | anewarray idx =>
    simp only [yex] at h
    split at h
    · rename_i n S2
      split at h
      · rename_i hci
        split at h
        · rename_i hb2
          simp only [Bool.and_eq_true, decide_eq_true_eq] at hb2
          obtain ⟨⟨⟨⟨h1, h2⟩, h3⟩, h4⟩, h5⟩ := hb2
          have h1 : 0 < uc := Nat.blt_eq.mp h1
          have h2 : n.toNatClampNeg ≤ us := Nat.ble_eq.mp h2
          have h3 : mem.length < 1000000 := Nat.blt_eq.mp h3
          refine yr_anew hC (hnt _ (xlk_mem hci)) hd h4 (Nat.ble_eq.mp h5) hW hF (by omega) (by omega) (fun H' hW' hF' => ?_)
          refine W.cs (by omega) (by omega) (hK _ _ _ _ _ _ h (by omega) (by omega) H' locs ls hW' hF' hl (xok_cons (yE_ok.mpr h3) (xok_tl hS)))
        · cases h
      · cases h
    · cases h
  | getfield idx =>
    simp only [yex] at h
    split at h
    · rename_i r S2
      split at h
      · rename_i ci f kk hci
        split at h
        · rename_i cj vs ho
          split at h
          · rename_i hb2
            have hb2 := Nat.eq_of_beq_eq_true hb2
            subst hb2
            split at h
            · rename_i v hv
              split at h
              · rename_i hcat
                exact yr_get hG2 hC (hft _ (xlk_mem hci)) hd ho hv hW (hK _ _ _ _ _ _ h huc hus H locs ls hW hF hl (xok_cons (yE_ok.mpr (Nat.blt_eq.mp hcat)) (xok_tl hS)))
              · cases h
            · cases h
          · cases h
        · cases h
      · cases h
    · cases h
  | putfield idx =>
    simp only [yex] at h
    split at h
    · rename_i v r S2
      split at h
      · rename_i ci f kk hci
        split at h
        · rename_i cj vs ho
          split at h
          · rename_i hb2
            rw [Bool.and_eq_true, Bool.and_eq_true] at hb2
            have hb3 := Nat.eq_of_beq_eq_true hb2.1.1
            subst hb3
            refine yr_put hG hG2 hC (hft _ (xlk_mem hci)) hd ho ?_ hW hF (fun H' locs' hW' hF' => hK _ _ _ _ _ _ h huc hus H' locs' ls hW' hF' hl (xok_tl (xok_tl hS)))
            have hb4 := hb2.2
            split at hb4
            · exact Or.inl ⟨rfl, _, rfl⟩
            · exact Or.inr (Or.inl ⟨rfl, _, rfl⟩)
            · rw [Bool.or_eq_true, decide_eq_true_eq, decide_eq_true_eq] at hb4
              exact Or.inr (Or.inr ⟨rfl, hb4.imp (fun e => by rw [e]) (fun e => by rw [e])⟩)
            · cases hb4
          · cases h
        · cases h
      · cases h
    · cases h
  | iastore =>
    simp only [yex] at h
    split at h
    · rename_i v j r S2
      split at h
      · rename_i n vs ho
        split at h
        · rename_i hb2
          simp only [Bool.and_eq_true, decide_eq_true_eq] at hb2
          exact yr_iast hC hd ho hb2.1.1 (Nat.blt_eq.mp hb2.1.2) hW hF (fun H' locs' hW' hF' => hK _ _ _ _ _ _ h huc hus H' locs' ls hW' hF' hl (xok_tl (xok_tl (xok_tl hS))))
        · cases h
      · cases h
    · cases h
  | aastore =>
    simp only [yex] at h
    split at h
    · rename_i v j r S2
      split at h
      · rename_i n vs ws ho hv
        split at h
        · rename_i hb2
          simp only [Bool.and_eq_true, decide_eq_true_eq] at hb2
          exact yr_aast hC hd ho hv hb2.1.1 (Nat.blt_eq.mp hb2.1.2) hW hF (fun H' locs' hW' hF' => hK _ _ _ _ _ _ h huc hus H' locs' ls hW' hF' hl (xok_tl (xok_tl (xok_tl hS))))
        · cases h
      · cases h
    · cases h
  | invokespecial idx =>
    simp only [yex] at h
    split at h
    · rename_i hb2
      have hb2 := Nat.eq_of_beq_eq_true hb2
      subst hb2
      split at h
      · rename_i r S2
        split at h
        · rename_i hb3
          have hb3 := Nat.ble_eq.mp hb3
          exact W.objInit hx hb hown (hts _ hoi.1) (hts _ hoi.2.1) (hts _ hoi.2.2) rfl (by rw [hml]; exact hl.2.1) rfl hd hd1 (by show 2 * 0 + _ + 12 ≤ 60 * d; rw [xcats_sum]; omega) (hK _ _ _ _ _ _ h huc hus H locs ls hW hF hl (xok_tl hS))
        · cases h
      · cases h
    · split at h
      · rename_i n mc2 ms2 f hci
        split at h
        · rename_i As S2 htk
          split at h
          · rename_i hb3
            simp only [Bool.and_eq_true] at hb3
            obtain ⟨⟨⟨h1, h2⟩, h3⟩, h4⟩ := hb3
            split at h
            · rename_i mem' hf
              obtain ⟨bb, b1, b2, b3⟩ := xtake_inv htk
              rw [List.append_nil] at b3
              have e3 : S = As.reverse ++ S2 := by rw [b3, List.reverse_reverse]; exact b2
              have e4 : As.length = n := by rw [b3, List.length_reverse]; exact b1
              have e5 : ∃ r As', As = .inr (.inr r) :: As' := by
                split at h4
                · exact ⟨_, _, rfl⟩
                · cases h4
              have hw := hct _ (xlk_mem hci) p l e mc ms s m args below meth c cc nL _ b pc L S2 As mem mem' uc us hC hd hf e4 e5 (Nat.ble_eq.mp h1) (Nat.ble_eq.mp h2) (Nat.ble_eq.mp h3) (hK _ _ _ _ _ _ h)
              subst e3
              exact hw huc hus H locs ls hW hF hl hS
            · cases h
          · cases h
        · cases h
      · cases h
  | return_ =>
    simp only [yex] at h
    split at h
    · cases h
      subst hX
      refine W.widen (k := mc) (n := ms) (by omega) (by omega) ?_
      exact W.vret hx hb hret (fun t ht _ => ⟨rfl, by rw [ht]; exact hW, by rw [ht]; exact hF.1, fun q hq => by rw [ht]; exact hF.2.2.1 q hq⟩) hF.2.2.2 hd hlk
    · cases h
  | _ => exact nomatch (show (none : Option yX) = some X from h)
end
section
variable {D : xD} {b : Nat} {p : Program} {l : Launch} {e : Env} {d mc ms : Nat} {s : State} {m : MethodId} {args : Array Value} {below : List Frame} {meth : Method} {c : Code} {cc : ByteArray} {nL : Nat} {own : String}
def ybk (cc : ByteArray) (own : String) (q : Nat × Option (List Bool) × List (Nat × Instr × xA)) : Bool := (match q.2.2 with
  | (p, _, _) :: _ => p == q.1
  | [] => false) && q.2.2.all (ydc cc own)
theorem yo_ok (hG : ycg) (hG2 : xcg) (hC : yCx D p s m args meth c cc nL own) {ft : List (Nat × Nat × Nat × Nat)} {nt : List (Nat × Nat)} {ct : List (Nat × Nat × Nat × Nat × yF)} {oi : Nat} (hft : ∀ q ∈ ft, yfo own q) (hnt : ∀ q ∈ nt, ynt own q) (hct : ∀ q ∈ ct, yco D own d q)
    (hoi : Cond.methodLink own oi objectInit ∈ xTB ∧ Cond.instanceMethod objectInit ∈ xTB ∧ Cond.code objectInit ⟨#[0xb1]⟩ 1 none ∈ xTB) (harr : ∀ ty, yty ty ≤ 4 → Cond.arrayClass (newarray.typeOf ty) ∈ xTB) (hd1 : 1 ≤ d) {B : xT} (hB : B.all (ybk cc own) = true) {m0 : List yK} {X : yX} (hX : X.1 = m0) :
    ∀ (n pc : Nat) (i : Instr) (x : xA) (is : List (Nat × Instr × xA)) (L : List (Option xV)) (S : List xV) (mem : List yK) (uc us : Nat), (∀ q ∈ (pc, i, x) :: is, ydc cc own q = true) → yo ft nt ct oi B n ((pc, i, x) :: is) L S mem uc us = some X → yWf D b p l e d mc ms s m args below meth c nL (MQ below (yPo D b m0) args s mc ms (fun q => b ≤ q)) pc L S mem uc us := by
  intro n
  induction n with
  | zero => intro pc i x is L S mem uc us _ h; cases h
  | succ n ih =>
    intro pc i x is L S mem uc us hq h
    unfold yo at h
    refine yex_ok hG hG2 hC hft hnt hct hoi harr hd1 hX (hq _ List.mem_cons_self) h ?_
    intro pc' L' S' mem' uc' us' hK
    split at hK
    · rename_i hn
      cases is with
      | nil => cases hn
      | cons q is =>
        obtain ⟨p', i', x'⟩ := q
        have hn : p' = pc' := Nat.eq_of_beq_eq_true hn
        subst hn
        exact ih p' i' x' is L' S' mem' uc' us' (fun q hq2 => hq q (List.mem_cons_of_mem _ hq2)) hK
    · split at hK
      · rename_i b2 is2 hl
        have hb := List.all_eq_true.mp hB _ (xlk_mem hl)
        unfold ybk at hb
        simp only [Bool.and_eq_true] at hb
        cases is2 with
        | nil => cases hb.1
        | cons q is2 =>
          obtain ⟨p', i', x'⟩ := q
          have hp : p' = pc' := by simpa using hb.1
          subst hp
          exact ih p' i' x' is2 L' S' mem' uc' us' (List.all_eq_true.mp hb.2) hK
      · cases hK
end
theorem ymet {D : xD} {y : MethodName} {cc : ByteArray} {nL d mc ms n oi : Nat} {own : String} {ft : List (Nat × Nat × Nat × Nat)} {nt : List (Nat × Nat)} {ct : List (Nat × Nat × Nat × Nat × yF)} {B : xT} (hG : ycg) (hG2 : xcg) (hy : plainName y.cls = true) (ho : y.cls = own) (hyn : y.name = "<init>") (hB : B.all (ybk cc own) = true) (hft : ∀ q ∈ ft, yfo own q) (hnt : ∀ q ∈ nt, ynt own q) (hct : ∀ q ∈ ct, yco D own d q)
    (hoi : Cond.methodLink own oi objectInit ∈ xTB ∧ Cond.instanceMethod objectInit ∈ xTB ∧ Cond.code objectInit ⟨#[0xb1]⟩ 1 none ∈ xTB) (harr : ∀ ty, yty ty ≤ 4 → Cond.arrayClass (newarray.typeOf ty) ∈ xTB) (hd1 : 1 ≤ d) : yC D y cc nL d mc ms (yfn ft nt ct oi B n nL mc ms) := by
  intro l b As m0 m' hf hAs
  unfold yfn at hf
  split at hf
  · rename_i hlen
    have hlen := Nat.ble_eq.mp hlen
    split at hf
    · rename_i q is hl0
      split at hf
      · rename_i m2 uc us hyo
        cases hf
        refine Met.ofW (cc := cc) (maxL := nL) (ret := none) hy rfl ?_
        intro p e s m args below meth c s₁ Bd hml hv
        obtain ⟨rfl, hEn, hW⟩ := hv
        have hts := atoms_spec (ws := .code y cc nL none :: xTB) Bd.pre
        have hown : s.vm.findClass own = some m.cls := by rw [← ho]; exact findClass_of_methodNamed Bd.named
        have hnm : meth.name = "<init>" := by rw [← hyn]; exact (name_of_methodNamed Bd.named Bd.method).1
        have hC : yCx D p s m (As.map (xc (yad b))).toArray meth c cc nL own := ⟨Bd.exec, Bd.bytes, hml, hown, fun w hw => hts w (List.mem_cons_of_mem _ hw), Bd.notSynchronized, hnm, Bd.returns, hEn⟩
        have hb := List.all_eq_true.mp hB _ (xlk_mem hl0)
        unfold ybk at hb
        simp only [Bool.and_eq_true] at hb
        cases is with
        | nil => cases hb.1
        | cons q is =>
          obtain ⟨p', i', x'⟩ := q
          have hp : p' = 0 := by simpa using hb.1
          subst hp
          have hw := yo_ok (b := b) (l := l) (e := e) (d := d) (mc := mc) (ms := ms) (below := below) hG hG2 hC hft hnt hct hoi harr hd1 hB rfl n 0 i' x' is _ _ _ _ _ (List.all_eq_true.mp hb.2) hyo
          have hl := lv_entry (As.map (xc (yad b))) (n := nL) (by rw [xlay_len]; exact hlen)
          rw [lg_entry_eq]
          have hw2 := hw (Nat.le_refl _) (Nat.le_refl _) s.heap [] _ hW ⟨Nat.le_refl _, by rw [hW.1]; omega, fun _ _ => rfl, fun _ h => by cases h⟩ ⟨xpad_len _ _, hl.1, hl.2.1, fun i v hi => ?_⟩ (fun v hv => by cases hv)
          · rw [Nat.sub_self, Nat.sub_self] at hw2
            exact hw2
          · obtain ⟨h1, h2⟩ := xlay_args (yad b) As 0 i v (xpad_get _ _ _ _ hi)
            rw [Nat.zero_add] at h1
            exact ⟨hl.2.2 _ h1, hAs v h2⟩
      · cases hf
    · cases hf
  · cases hf
theorem yEn.to {D : xD} {s U : State} (hal : s.vm.Alike U.vm) (hnw : ∀ w ∈ xNw, va_Nw w s → va_Nw w U) (h : yEn D s) : yEn D U := by
  obtain ⟨h1, ⟨a1, a2, a3, a4, a5⟩, h3, h4⟩ := h
  exact ⟨fun c q hq => u_Kn_moved hal (h1 c q hq), ⟨⟨arrOfT_moved hal a1.1, a1.2.moved hal⟩, ⟨arrOfT_moved hal a2.1, a2.2.moved hal⟩, ⟨arrOfT_moved hal a3.1, a3.2.moved hal⟩, ⟨arrOfT_moved hal a4.1, a4.2.moved hal⟩, ⟨arrOfT_moved hal a5.1, a5.2.moved hal⟩⟩, fun w hw => hnw w hw (h3 w hw), va_AO.moved hal h4⟩
theorem yPc_blind {D : xD} {b : Nat} {As : List xV} {mem : List yK} : FrameBlind (fun v U => v = (As.map (xc (yad b))).toArray ∧ yEn D U ∧ yH b D mem U.heap) := by
  intro a U g mk ⟨h1, h2, h3⟩
  exact ⟨h1, h2.to (U := U.calling g mk a) (Vm.Alike.refl U.vm) (xNw_same rfl), h3⟩
theorem ygo {D : xD} {b : Nat} {p : Program} {l : Launch} {e : Env} {d mc ms : Nat} {s : State} {m : MethodId} {args : Array Value} {below : List Frame} {meth : Method} {c : Code} {nL : Nat} {Q : State → Prop} {pc : Nat} {ls : Array Slot} {S : List xV} {mem' : List yK} {L : List (Option xV)} {H : Heap} {locs : List Loc} {a : Array Value} {st0 : List Value} {uc us mc2 ms2 : Nat}
    (hr : va_Run p l e (yrm d mc ms) s m args below meth c H locs (mc - uc) (ms - us) mc2 ms2 (F0 m pc ls st0) (S.map (xc (yad b))) (yPo D b mem' a) (fun q => b ≤ q)) (hF : yFr b s.heap H locs) (hl : xlv yE (yad b) ls nL L) (hS : ∀ v ∈ S, xok yE v) (h1 : uc ≤ mc) (h2 : us ≤ ms) (h3 : mc2 ≤ uc) (h4 : ms2 ≤ us)
    (hw : yWf D b p l e d mc ms s m args below meth c nL Q (pc + 3) L S mem' (uc - mc2) (us - ms2)) : W p l e (yrm d mc ms) s m args below meth c H locs (mc - uc) (ms - us) Q (F0 m pc ls st0) := by
  intro T hT X
  obtain ⟨v, st₀, t, T', L', h0, X', hL, e1, e2, ⟨q1, q2, q3, q4⟩, st⟩ := hr T hT X
  have hv : v = none := Outcome.returned.inj q1
  subst hv
  rw [h0] at q3 q4
  have ec : mc - uc + mc2 = mc - (uc - mc2) := by omega
  have es : ms - us + ms2 = ms - (us - ms2) := by omega
  rw [ec, es] at X'
  obtain ⟨t2, a1, b1⟩ := hw (by omega) (by omega) T'.heap (locs ++ L') ls (by rw [e1]; exact q2) ⟨Nat.le_trans hF.1 (by rw [e1]; exact q3), hF.2.1, fun q hq => by rw [e1, q4 q hq]; exact hF.2.2.1 q hq, fun q hq => by
    rcases List.mem_append.mp hq with h | h
    · exact hF.2.2.2 q h
    · exact hL q h⟩ hl hS T' rfl X'
  exact ⟨t2, st t2 a1, b1⟩
/-- a constructor that the tables link -/
theorem yco_I {D : xD} {own : String} {d d2 idx n mc2 ms2 nL2 : Nat} {y : MethodName} {cc2 : ByteArray} {f : yF} (hM : yC D y cc2 nL2 d2 mc2 ms2 f) (hd : d2 + 1 ≤ d ∧ nL2 ≤ 40) (h1 : Cond.methodLink own idx y ∈ xTB) (h2 : Cond.instanceMethod y ∈ xTB) (h4 : Cond.initialized y.cls ∈ xTB) (h5 : Cond.code y cc2 nL2 none ∈ xTB) (hy1 : y.name = "<init>") (hy : y.cls ≠ "java/lang/invoke/MethodHandle" ∧ y.cls ≠ "java/lang/invoke/VarHandle" ∧ (parseMethodDescriptor y.desc).map (fun d => d.parameters.length) = some n) : yco D own d (idx, n + 1, mc2, ms2, f) := by
  intro p l e mc ms s m args below meth c cc nL Q b pc L S As mem mem' uc us hC hdg hf hn hAs0 hcat huc2 hus2 hw huc hus H locs ls hW hF hl hS
  obtain ⟨r, As', rfl⟩ := hAs0
  have hC2 := hC
  obtain ⟨hx, hb, hml, hown, hts, hlk, hnm, hret, hEn⟩ := hC2
  have hAs : ∀ v ∈ (.inr (.inr r) :: As' : List xV), xok yE v := fun v hv => hS v (List.mem_append_left _ (List.mem_reverse.mpr hv))
  have hst : ((.inr (.inr r) :: As' : List xV).reverse ++ S).map (xc (yad b)) = (As'.map (xc (yad b))).reverse ++ .ref (yad b r) :: S.map (xc (yad b)) := by simp [xc]
  rw [hst]
  have hrun := va_runI (l := l) (e := e) (R := yrm d mc ms) (below := below) (meth := meth) (locs := locs) (cells := mc - uc) (slots := ms - us) (H := H) (As := As'.map (xc (yad b))) (rest := S.map (xc (yad b))) (b := yad b r) (n := n) (g := F0 m pc ls ((As'.map (xc (yad b))).reverse ++ .ref (yad b r) :: S.map (xc (yad b)))) ⟨hx, hb, hml, hown, hts⟩ (hM l b _ mem mem' hf hAs)
    (cwI n hts (xgood (fun w hw2 => by
      rcases List.mem_cons.mp hw2 with rfl | hw2
      · exact h5
      · exact hw2)) rfl rfl rfl (hts _ h4) (hts _ h1) (hts _ h2) hy1 hy ⟨hd.1, by show 8 + (nL2 + 11) + 60 * d2 ≤ 60 * d; omega⟩)
    ⟨yPc_blind, fun U hU hWm => ⟨by simp [xc], hEn.to hWm.alike (xNw_warm hWm), by rw [hU]; exact hW⟩⟩
    rfl (by simpa using hn) hl.2.1 rfl (lv_room (by rw [xcats_sum]; exact hcat)) hdg ⟨by show mc - uc + mc2 ≤ mc; have : mc2 ≤ uc := huc2; omega, by show ms - us + ms2 ≤ ms; have : ms2 ≤ us := hus2; omega⟩
  exact ygo hrun hF hl (fun v hv => hS v (List.mem_append_right _ hv)) huc hus huc2 hus2 hw
/-- a private constructor of a nest mate -/
theorem yco_N {D : xD} {own : String} {d d2 idx n mc2 ms2 nL2 : Nat} {y : MethodName} {cc2 : ByteArray} {f : yF} (hM : yC D y cc2 nL2 d2 mc2 ms2 f) (hd : d2 + 1 ≤ d ∧ nL2 ≤ 40) (h1 : Cond.methodLinkNest own idx y RX11 ∈ xNw) (h2 : Cond.instanceMethod y ∈ xTB) (h4 : Cond.initialized y.cls ∈ xTB) (h5 : Cond.code y cc2 nL2 none ∈ xTB) (hy1 : y.name = "<init>") (hy : y.cls ≠ "java/lang/invoke/MethodHandle" ∧ y.cls ≠ "java/lang/invoke/VarHandle" ∧ (parseMethodDescriptor y.desc).map (fun d => d.parameters.length) = some n) : yco D own d (idx, n + 1, mc2, ms2, f) := by
  intro p l e mc ms s m args below meth c cc nL Q b pc L S As mem mem' uc us hC hdg hf hn hAs0 hcat huc2 hus2 hw huc hus H locs ls hW hF hl hS
  obtain ⟨r, As', rfl⟩ := hAs0
  have hC2 := hC
  obtain ⟨hx, hb, hml, hown, hts, hlk, hnm, hret, hEn⟩ := hC2
  have hAs : ∀ v ∈ (.inr (.inr r) :: As' : List xV), xok yE v := fun v hv => hS v (List.mem_append_left _ (List.mem_reverse.mpr hv))
  have hst : ((.inr (.inr r) :: As' : List xV).reverse ++ S).map (xc (yad b)) = (As'.map (xc (yad b))).reverse ++ .ref (yad b r) :: S.map (xc (yad b)) := by simp [xc]
  rw [hst]
  have hrun := va_runIN (l := l) (e := e) (R := yrm d mc ms) (below := below) (meth := meth) (locs := locs) (cells := mc - uc) (slots := ms - us) (H := H) (As := As'.map (xc (yad b))) (rest := S.map (xc (yad b))) (b := yad b r) (n := n) (g := F0 m pc ls ((As'.map (xc (yad b))).reverse ++ .ref (yad b r) :: S.map (xc (yad b)))) ⟨hx, hb, hml, hown, hts⟩ (hM l b _ mem mem' hf hAs)
    ⟨va_cnB n hts (xgood (fun w hw2 => by
      rcases List.mem_cons.mp hw2 with rfl | hw2
      · exact h5
      · exact hw2)) rfl rfl rfl (hEn.2.2.1 _ h1) (hts _ h4) hy ⟨hd.1, by show 8 + (nL2 + 11) + 60 * d2 ≤ 60 * d; omega⟩, hy1, hts _ h2⟩
    ⟨yPc_blind, fun U hU hWm => ⟨by simp [xc], hEn.to hWm.alike (xNw_warm hWm), by rw [hU]; exact hW⟩⟩
    rfl (by simpa using hn) hl.2.1 rfl (lv_room (by rw [xcats_sum]; exact hcat)) hdg ⟨by show mc - uc + mc2 ≤ mc; have : mc2 ≤ uc := huc2; omega, by show ms - us + ms2 ≤ ms; have : ms2 ≤ us := hus2; omega⟩
  exact ygo hrun hF hl (fun v hv => hS v (List.mem_append_right _ hv)) huc hus huc2 hus2 hw
