/-! Whole methods: runs of the small machine are contracts of the JVM -/
/-- what stands in the tables of both worlds -/
def xGl : Prop := xcg ∧ (∀ q ∈ xKc, Cond.constant q.1 q.2.1 q.2.2 ∈ xTB) ∧ ∀ q ∈ xKl, Cond.constantLong q.1 q.2.1 q.2.2 ∈ xTB
def xbk (cc : ByteArray) (own : String) (nL : Nat) (b : Nat × Option (List Bool) × List (Nat × Instr × xA)) : Bool := (match b.2.1 with
  | some m => m.length == nL
  | none => true) && (match b.2.2 with
  | (p, _, _) :: _ => p == b.1
  | [] => false) && b.2.2.all (xdc cc own)
theorem xlv.forget {E : xE} {ad : xAd} {ls : Array Slot} {nL : Nat} {L : List (Option xV)} {b : List Bool} (h : xlv E ad ls nL L) (hb : b.length = nL) : xlv E ad ls nL (xfor b L) :=
  ⟨by rw [xfor_len (by rw [hb, h.1])]; exact h.1, h.2.1, h.2.2.1, fun i v hi => h.2.2.2 i v (xlv.forg (E := E) (ad := ad) (ls := ls) hi)⟩
section
variable {E : xE} {D : xD} {ad : xAd} {p : Program} {l : Launch} {e : Env} {d : Nat} {s : State} {m : MethodId} {args : Array Value} {below : List Frame} {meth : Method} {c : Code} {cc : ByteArray} {nL : Nat} {own : String}
theorem xo_ok (hG : xGl) (hEc : xEc E) (hC : xCx E D ad p s m args meth c cc nL own) {rk : Nat} {ret : Option FieldType} (hr : meth.sig.returnType = ret) (hrk : (rk = 0 → ret = none) ∧ (rk = 1 → ret = some .int) ∧ (rk = 2 → ret = some .boolean) ∧ (rk = 3 → ret = some .long))
    {ft : List (Nat × Nat × Nat × Nat)} (hft : ∀ q ∈ ft, xfo own q) {ct : List (Nat × Bool × Nat × Nat × Nat × xF)} (hct : ∀ q ∈ ct, xco E D own d q) {B : xT} (hB : B.all (xbk cc own nL) = true) {r0 : Option xV} {M0 : xM} {X : xX} (hX : ∀ r M', X = .inl (r, M') → r = r0 ∧ M' = M0)
    (hY : ∀ pc L S M, X = .inr (pc, L, S, M) → xWf E D ad p l e d s m args below meth c nL (MQ below (xPo E D ad r0 M0) args s 0 0 (xOwn E ad)) pc L S M) :
    ∀ (n pc : Nat) (i : Instr) (x : xA) (is : List (Nat × Instr × xA)) (L : List (Option xV)) (S : List xV) (M : xM), (∀ q ∈ (pc, i, x) :: is, xdc cc own q = true) → xo E ft ct rk B n ((pc, i, x) :: is) L S M = some X → xWf E D ad p l e d s m args below meth c nL (MQ below (xPo E D ad r0 M0) args s 0 0 (xOwn E ad)) pc L S M := by
  intro n
  induction n with
  | zero => intro pc i x is L S M _ h; cases h
  | succ n ih =>
    intro pc i x is L S M hq h
    unfold xo at h
    refine xex_ok hG.1 hEc hG.2.1 hG.2.2 hC hr hrk hft hct hX (hq _ List.mem_cons_self) h ?_
    intro pc' L' S' M' hK
    split at hK
    · rename_i hn
      cases is with
      | nil => cases hn
      | cons q is =>
        obtain ⟨p', i', x'⟩ := q
        have hn : p' = pc' := Nat.eq_of_beq_eq_true hn
        subst hn
        exact ih p' i' x' is L' S' M' (fun q hq2 => hq q (List.mem_cons_of_mem _ hq2)) hK
    · split at hK
      · rename_i b is2 hl
        have hb := List.all_eq_true.mp hB _ (xlk_mem hl)
        unfold xbk at hb
        simp only [Bool.and_eq_true, beq_iff_eq] at hb
        cases hK
        have hw := hY _ _ _ _ rfl
        intro H locs ls hW hF hlv hS
        exact hw H locs ls hW hF (hlv.forget hb.1.1) hS
      · rename_i is2 hl
        have hb := List.all_eq_true.mp hB _ (xlk_mem hl)
        unfold xbk at hb
        simp only [Bool.and_eq_true] at hb
        cases is2 with
        | nil => cases hb.1.2
        | cons q is2 =>
          obtain ⟨p', i', x'⟩ := q
          have hp : p' = pc' := by simpa using hb.1.2
          subst hp
          exact ih p' i' x' is2 L' S' M' (List.all_eq_true.mp hb.2) hK
      · cases hK
theorem xsg_ok (hG : xGl) (hEc : xEc E) (hC : xCx E D ad p s m args meth c cc nL own) {rk : Nat} {ret : Option FieldType} (hr : meth.sig.returnType = ret) (hrk : (rk = 0 → ret = none) ∧ (rk = 1 → ret = some .int) ∧ (rk = 2 → ret = some .boolean) ∧ (rk = 3 → ret = some .long))
    {ft : List (Nat × Nat × Nat × Nat)} (hft : ∀ q ∈ ft, xfo own q) {ct : List (Nat × Bool × Nat × Nat × Nat × xF)} (hct : ∀ q ∈ ct, xco E D own d q) {B : xT} (hB : B.all (xbk cc own nL) = true) {r0 : Option xV} {M0 : xM} {n : Nat} :
    ∀ (k : Nat) (t : xS), xrun (xsg E ft ct rk B n) k t = some (r0, M0) → xWf E D ad p l e d s m args below meth c nL (MQ below (xPo E D ad r0 M0) args s 0 0 (xOwn E ad)) t.1 t.2.1 t.2.2.1 t.2.2.2 := by
  intro k
  induction k with
  | zero => intro t h; cases h
  | succ k ih =>
    intro t h
    obtain ⟨pc, L, S, M⟩ := t
    unfold xrun at h
    have key : ∀ X, xsg E ft ct rk B n (pc, L, S, M) = some X → (∀ r M', X = .inl (r, M') → r = r0 ∧ M' = M0) → (∀ pc L S M, X = .inr (pc, L, S, M) → xWf E D ad p l e d s m args below meth c nL (MQ below (xPo E D ad r0 M0) args s 0 0 (xOwn E ad)) pc L S M) → xWf E D ad p l e d s m args below meth c nL (MQ below (xPo E D ad r0 M0) args s 0 0 (xOwn E ad)) pc L S M := by
      intro X hg hX hY
      unfold xsg at hg
      split at hg
      · rename_i b is hl
        have hb := List.all_eq_true.mp hB _ (xlk_mem hl)
        unfold xbk at hb
        simp only [Bool.and_eq_true] at hb
        cases is with
        | nil => cases hb.1.2
        | cons q is =>
          obtain ⟨p', i', x'⟩ := q
          have hp : p' = pc := by simpa using hb.1.2
          subst hp
          exact xo_ok hG hEc hC hr hrk hft hct hB hX hY n p' i' x' is L S M (List.all_eq_true.mp hb.2) hg
      · cases hg
    split at h
    · rename_i r hg
      cases h
      exact key _ hg (fun r M' q => by cases q; exact ⟨rfl, rfl⟩) (fun _ _ _ _ q => by cases q)
    · rename_i t' hg
      refine key _ hg (fun r M' q => by cases q) (fun pc L S M q => ?_)
      cases q
      exact ih _ h
    · cases h
end
theorem xfix_some {sg : xS → Option xX} {t : xS} {r : Option xV × xM} (h : xfix sg t = some r) : ∃ n, xrun sg n t = some r := by
  unfold xfix at h
  split at h
  · rename_i hx
    cases h
    exact hx.choose_spec
  · cases h
theorem xlay_args (ad : xAd) : ∀ (As : List xV) (k i : Nat) (v : xV), (xlay As)[i]? = some (some v) → (k + i, xc ad v) ∈ lv_args k (As.map (xc ad)) ∧ v ∈ As
  | [], k, i, v, h => by simp [xlay] at h
  | w :: As, k, i, v, h => by
    unfold xlay at h
    rcases w with a | a | a
    · simp only [xcat] at h
      cases i with
      | zero => cases h; exact ⟨List.mem_cons_self, List.mem_cons_self⟩
      | succ i =>
        obtain ⟨h1, h2⟩ := xlay_args ad As (k + 1) i v h
        refine ⟨List.mem_cons_of_mem _ ?_, List.mem_cons_of_mem _ h2⟩
        have : k + (i + 1) = k + 1 + i := by omega
        rw [this]
        exact h1
    · simp only [xcat] at h
      cases i with
      | zero => cases h; exact ⟨List.mem_cons_self, List.mem_cons_self⟩
      | succ i =>
        cases i with
        | zero => cases h
        | succ i =>
          obtain ⟨h1, h2⟩ := xlay_args ad As (k + 2) i v h
          refine ⟨List.mem_cons_of_mem _ ?_, List.mem_cons_of_mem _ h2⟩
          have : k + (i + 1 + 1) = k + 2 + i := by omega
          rw [this]
          exact h1
    · simp only [xcat] at h
      cases i with
      | zero => cases h; exact ⟨List.mem_cons_self, List.mem_cons_self⟩
      | succ i =>
        obtain ⟨h1, h2⟩ := xlay_args ad As (k + 1) i v h
        refine ⟨List.mem_cons_of_mem _ ?_, List.mem_cons_of_mem _ h2⟩
        have : k + (i + 1) = k + 1 + i := by omega
        rw [this]
        exact h1
theorem xlay_len (ad : xAd) : ∀ As : List xV, (lg_sl (As.map (xc ad))).length = (xlay As).length
  | [] => rfl
  | w :: As => by
    have ih := xlay_len ad As
    have e : lg_sl ((w :: As).map (xc ad)) = (if (xc ad w).category = 2 then [.val (xc ad w), .second] else [.val (xc ad w)]) ++ lg_sl (As.map (xc ad)) := by
      unfold lg_sl
      rw [List.map_cons, List.flatMap_cons]
    rw [e, List.length_append, ih]
    rcases w with a | a | a
    · show 1 + _ = (xlay As).length + 1
      omega
    · show 2 + _ = (xlay As).length + 1 + 1
      omega
    · show 1 + _ = (xlay As).length + 1
      omega
theorem xpad_len : ∀ (n : Nat) (l : List (Option xV)), (xpad n l).length = n
  | 0, _ => rfl
  | n + 1, [] => by simp [xpad, xpad_len n []]
  | n + 1, v :: l => by simp [xpad, xpad_len n l]
theorem xpad_get : ∀ (n : Nat) (l : List (Option xV)) (i : Nat) (v : xV), (xpad n l)[i]? = some (some v) → l[i]? = some (some v)
  | 0, _, _, _, h => by simp [xpad] at h
  | n + 1, [], 0, v, h => by cases h
  | n + 1, [], i + 1, v, h => by
    have := xpad_get n [] i v h
    simp at this
  | n + 1, w :: l, 0, v, h => h
  | n + 1, w :: l, i + 1, v, h => xpad_get n l i v h
theorem xmet {E : xE} {D : xD} {y : MethodName} {cc : ByteArray} {nL rk d n : Nat} {own : String} {ret : Option FieldType} {ft : List (Nat × Nat × Nat × Nat)} {ct : List (Nat × Bool × Nat × Nat × Nat × xF)} {B : xT} (hG : xGl) (hEc : xEc E) (hy : plainName y.cls = true) (ho : y.cls = own)
    (hrk : (rk = 0 → ret = none) ∧ (rk = 1 → ret = some .int) ∧ (rk = 2 → ret = some .boolean) ∧ (rk = 3 → ret = some .long)) (hB : B.all (xbk cc own nL) = true) (hft : ∀ q ∈ ft, xfo own q) (hct : ∀ q ∈ ct, xco E D own d q) : xC E D y cc nL ret d (xfn (xsg E ft ct rk B n) nL) := by
  intro l ad As M M' r hf hAs
  unfold xfn at hf
  split at hf
  · rename_i hlen
    have hlen := Nat.ble_eq.mp hlen
    obtain ⟨k, hk⟩ := xfix_some hf
    refine Met.ofW (cc := cc) (maxL := nL) (ret := ret) hy rfl ?_
    intro p e s m args below meth c s₁ Bd hml hv
    obtain ⟨rfl, hEn, hW⟩ := hv
    have hts := atoms_spec (ws := .code y cc nL ret :: xTB) Bd.pre
    have hown : s.vm.findClass own = some m.cls := by rw [← ho]; exact findClass_of_methodNamed Bd.named
    have hC : xCx E D ad p s m (As.map (xc ad)).toArray meth c cc nL own := ⟨Bd.exec, Bd.bytes, hml, hown, fun w hw => hts w (List.mem_cons_of_mem _ hw), Bd.notSynchronized, hEn⟩
    have hw := xsg_ok (l := l) (e := e) (d := d) (below := below) hG hEc hC Bd.returns hrk hft hct hB k _ hk
    have hl := lv_entry (As.map (xc ad)) (n := nL) (by rw [xlay_len]; exact hlen)
    rw [lg_entry_eq]
    refine hw s.heap [] _ hW ⟨rfl, fun _ _ => rfl, fun _ h => by cases h⟩ ⟨xpad_len _ _, hl.1, hl.2.1, fun i v hi => ?_⟩ (fun v hv => by cases hv)
    obtain ⟨h1, h2⟩ := xlay_args ad As 0 i v (xpad_get _ _ _ _ hi)
    rw [Nat.zero_add] at h1
    exact ⟨hl.2.2 _ h1, hAs v h2⟩
  · cases hf
