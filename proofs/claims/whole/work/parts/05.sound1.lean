/-! What the small machine says of the JVM: worlds, and the inversions of its steps -/
def xTB : List Cond := lw_tbl.filter goodWord
def xNw : List Cond := [.fieldLinkNest RX0 72 RX5 "bodies" "[LHandsOrder$Solid;" RX11, .fieldLinkNest RX7 157 RX5 "bodies" "[LHandsOrder$Solid;" RX11, .fieldLinkNest RX10 46 RX5 "bodies" "[LHandsOrder$Solid;" RX11,
  .methodLinkNest RX11 11 yX8_init RX11, .methodLinkNest RX11 94 yX3_init RX11, .methodLinkNest RX0 11 yX6_init RX11, .methodLinkNest RX0 96 yX11_halvesOf RX11, .methodLinkNest RX0 99 yX11_nextHalf RX11,
  .methodLinkNest RX1 125 yX11_within RX11, .methodLinkNest RX1 64 yX11_isOne RX11, .methodLinkNest RX1 68 yX11_halvesOf RX11, .methodLinkNest RX1 72 yX11_nextHalf RX11, .methodLinkNest RX2 49 yX11_isOne RX11, .methodLinkNest RX2 61 yX11_halvesOf RX11, .methodLinkNest RX2 65 yX11_nextHalf RX11,
  .methodLinkNest RX3 19 yX11_leastOf RX11, .methodLinkNest RX3 23 yX11_within RX11, .methodLinkNest RX4 11 yX3_init RX11, .methodLinkNest RX4 117 yX11_leastOf RX11, .methodLinkNest RX5 27 yX6_init RX11, .methodLinkNest RX5 56 yX11_within RX11, .methodLinkNest RX5 84 yX11_axisOf RX11, .methodLinkNest RX5 87 yX11_signOf RX11,
  .methodLinkNest RX7 13 yX6_init RX11, .methodLinkNest RX7 68 yX11_signOf RX11, .methodLinkNest RX7 71 yX11_axisOf RX11, .methodLinkNest RX9 20 yX6_init RX11, .methodLinkNest RX10 116 yX11_leastOf RX11, .methodLinkNest RX10 17 yX6_init RX11]
/-- the String constants: class, pool place, text, number -/
def xSt : List (String × Nat × String × Nat) := [(RX9, 48, "part", 0), (RX9, 94, "box", 1), (RX9, 58, "joint", 2), (RX4, 65, "and", 3), (RX8, 69, "east", 4), (RX8, 75, "west", 5), (RX8, 77, "north", 6), (RX8, 79, "south", 7), (RX8, 81, "up", 8), (RX8, 83, "down", 9),
  (RX12, 229, "part", 0), (RX12, 235, "box", 1), (RX12, 236, "joint", 2), (RX12, 238, "and", 3), (RX12, 240, "east", 4), (RX12, 242, "west", 5), (RX12, 244, "north", 6), (RX12, 246, "south", 7), (RX12, 248, "up", 8), (RX12, 250, "down", 9)]
def xKc : List (String × Nat × Int32) := [(RJ6, 265, 1431655765), (RJ6, 266, 858993459), (RJ6, 267, 252645135)]
def xKl : List (String × Nat × Int64) := [(RX11, 191, -1), (RX1, 123, -1), (RX2, 83, -1), (RX6, 19, -1), (RX6, 25, 9187201950435737471), (RX6, 27, -72340172838076674), (RX6, 50, 72340172838076673), (RX6, 52, 255), (RX12, 408, -1), (RJ13, 314, 6148914691236517205), (RJ13, 316, 3689348814741910323), (RJ13, 318, 1085102592571150095)]
/-- the texts' bytes -/
def xSl : List Nat := [4, 3, 5, 3, 4, 4, 5, 5, 2, 4]
def xSb : List (List Int32) := [[112, 97, 114, 116], [98, 111, 120], [106, 111, 105, 110, 116], [97, 110, 100], [101, 97, 115, 116], [119, 101, 115, 116], [110, 111, 114, 116, 104], [115, 111, 117, 116, 104], [117, 112], [100, 111, 119, 110]]
abbrev xD : Type := (Nat → ClassId) × (Nat → Nat → Nat) × (Nat → ClassId)
abbrev xAd : Type := xR → Nat
def xc (ad : xAd) : xV → Value
  | .inl x => .int x
  | .inr (.inl y) => .long y
  | .inr (.inr r) => .ref (ad r)
def xok (E : xE) : xV → Prop
  | .inr (.inr r) => r.2 < E.2.2.2 r.1
  | _ => True
def xfv (E : xE) (ad : xAd) (M : xM) (ci : Nat) (r : xR) (f : Nat) : Value := match (E.2.1 ci)[f]? with
  | some 1 => .long (xL M r f)
  | some 2 => .ref (ad (E.2.2.1 r f))
  | _ => .int (xI M r f)
def xAt (E : xE) (D : xD) (ad : xAd) (M : xM) (r : xR) (H : Heap) : Prop := match E.1 r.1 with
  | (0, ci) => ∃ q : vw_C, vwCl[ci]? = some q ∧ t_OB (ad r) (D.1 ci) q.2.2 (D.2.1 ci) H (xfv E ad M ci r)
  | (1, n) => H[ad r]? = some (arrV (D.2.2 1) n (fun j => .int (xI M r j)))
  | (2, n) => H[ad r]? = some (arrV (D.2.2 2) n (fun j => .long (xL M r j)))
  | (3, n) => H[ad r]? = some (arrV (D.2.2 3) n (fun j => .int (xI M r j)))
  | (4, n) => H[ad r]? = some (arrV (D.2.2 4) n (fun j => .int (xI M r j)))
  | (5, n) => H[ad r]? = some (arrV (D.2.2 5) n (fun j => .ref (ad (E.2.2.1 r j))))
  | _ => True
def xvr (E : xE) (r : xR) : Prop := r.2 < E.2.2.2 r.1 ∧ r.1 ≠ 99
def xOwn (E : xE) (ad : xAd) (q : Nat) : Prop := ∃ r : xR, xvr E r ∧ q = ad r
def xWd (E : xE) (D : xD) (ad : xAd) (M : xM) (H : Heap) : Prop := ∀ r : xR, xvr E r → xAt E D ad M r H
def xFr (E : xE) (ad : xAd) (H0 H : Heap) (locs : List Loc) : Prop := H.size = H0.size ∧ (∀ q : Nat, ¬ xOwn E ad q → H[q]? = H0[q]?) ∧ ∀ l ∈ locs, xOwn E ad l.base
/-- the JDK's own: texts, and the statics that their methods read -/
def xJd (A : Nat → Prop) (ad : xAd) (U : State) : Prop := ∃ adV : Nat → Nat, vk_S 10 xSl xSb (fun k => ad (99, k)) adV A U U.heap ∧ va_Z "java/lang/String" "COMPACT_STRINGS" "Z" (.int 1) A U U.heap ∧ va_Zq "jdk/internal/util/Preconditions" "SIOOBE_FORMATTER" "Ljava/util/function/BiFunction;" A U U.heap
def xEn (E : xE) (D : xD) (ad : xAd) (U : State) : Prop :=
  (∀ (c : Nat) (q : vw_C), vwCl[c]? = some q → u_Kn U q.1 q.2.1 q.2.2 (D.1 c) (D.2.1 c)) ∧ (ArrOfT U (D.2.2 1) .int ∧ ArrOfT U (D.2.2 2) .long ∧ ArrOfT U (D.2.2 3) .byte ∧ ArrOfT U (D.2.2 4) .boolean ∧ ArrOfT U (D.2.2 5) (.object RX6)) ∧
  (∀ w ∈ xNw, va_Nw w U) ∧ (∀ q ∈ xSt, vk_R q.1 q.2.1 q.2.2.1 (ad (99, q.2.2.2)) U) ∧ (∀ r r' : xR, xvr E r → xvr E r' → ad r = ad r' → r = r') ∧ xJd (xOwn E ad) ad U
def xrm (d : Nat) : Room := { frames := d, cells := 0, slots := 0, locals := 60 * d }
def xCx (E : xE) (D : xD) (ad : xAd) (p : Program) (s : State) (m : MethodId) (args : Array Value) (meth : Method) (c : Code) (cc : ByteArray) (nL : Nat) (own : String) : Prop :=
  p.tables.exec = Jvm.exec ∧ c.code = cc ∧ c.maxLocals = nL ∧ s.vm.findClass own = some m.cls ∧ (∀ w ∈ xTB, w.before args s = true) ∧ meth.locks = false ∧ xEn E D ad s
def xlv (E : xE) (ad : xAd) (ls : Array Slot) (nL : Nat) (L : List (Option xV)) : Prop := L.length = nL ∧ ls.size = nL ∧ lv_wf ls ∧ ∀ (i : Nat) (v : xV), L[i]? = some (some v) → ls[i]? = some (.val (xc ad v)) ∧ xok E v
def xWf (E : xE) (D : xD) (ad : xAd) (p : Program) (l : Launch) (e : Env) (d : Nat) (s : State) (m : MethodId) (args : Array Value) (below : List Frame) (meth : Method) (c : Code) (nL : Nat) (Q : State → Prop) (pc : Nat) (L : List (Option xV)) (S : List xV) (M : xM) : Prop :=
  ∀ (H : Heap) (locs : List Loc) (ls : Array Slot), xWd E D ad M H → xFr E ad s.heap H locs → xlv E ad ls nL L → (∀ v ∈ S, xok E v) → W p l e (xrm d) s m args below meth c H locs 0 0 Q (F0 m pc ls (S.map (xc ad)))
def xPo (E : xE) (D : xD) (ad : xAd) (r : Option xV) (M' : xM) : Array Value → State → Outcome → State → Prop := fun _ st o t =>
  o = .returned (r.map (xc ad)) ∧ xWd E D ad M' t.heap ∧ t.heap.size = st.heap.size ∧ ∀ q : Nat, ¬ xOwn E ad q → t.heap[q]? = st.heap[q]?
def xC (E : xE) (D : xD) (y : MethodName) (cc : ByteArray) (nL : Nat) (ret : Option FieldType) (d : Nat) (f : xF) : Prop :=
  ∀ (l : Launch) (ad : xAd) (As : List xV) (M M' : xM) (r : Option xV), f As M = some (r, M') → (∀ v ∈ As, xok E v) →
    Met l y (.code y cc nL ret :: xTB) (xrm d) (fun v U => v = (As.map (xc ad)).toArray ∧ xEn E D ad U ∧ xWd E D ad M U.heap) (xPo E D ad r M') 0 0 (xOwn E ad)
/-- a call as the walk of its caller needs it -/
def xco (E : xE) (D : xD) (own : String) (d : Nat) (q : Nat × Bool × Nat × Nat × Nat × xF) : Prop :=
  ∀ (p : Program) (l : Launch) (e : Env) (s : State) (m : MethodId) (args : Array Value) (below : List Frame) (meth : Method) (c : Code) (cc : ByteArray) (nL : Nat) (Q : State → Prop) (ad : xAd) (pc : Nat) (L : List (Option xV)) (S As : List xV) (M M' : xM) (r : Option xV),
    xCx E D ad p s m args meth c cc nL own → decode cc pc = .ok (if q.2.1 then .invokestatic q.1 else .invokevirtual q.1, 3) → q.2.2.2.2.2 As M = some (r, M') → As.length = q.2.2.2.1 → xcats S ≤ 8 → xrc q.2.1 q.2.2.1 As = true → (∀ v, r = some v → xok E v) →
    xWf E D ad p l e d s m args below meth c nL Q (pc + 3) L (r.toList ++ S) M' → xWf E D ad p l e d s m args below meth c nL Q pc L (As.reverse ++ S) M
/-- a field as a pool names it -/
def xfo (own : String) (q : Nat × Nat × Nat × Nat) : Prop := ∃ (C : String) (T : u_T) (N : Nat), vwCl[q.2.1]? = some (C, T, N) ∧ q.2.2.1 < N ∧
  (Cond.fieldLink own q.1 C (T q.2.2.1).2.1 (T q.2.2.1).2.2.1 ∈ xTB ∨ Cond.fieldLinkNest own q.1 C (T q.2.2.1).2.1 (T q.2.2.1).2.2.1 RX11 ∈ xNw ∧ q.2.2.2 = 2) ∧ (fkX q.2.1)[q.2.2.1]? = some q.2.2.2 ∧ (T q.2.2.1).1 = C ∧ (q.2.2.2 ≠ 2 → (T q.2.2.1).2.2.2 = false)
def xkm (kk : Nat) (ty : FieldType) : Prop := (kk = 0 → ty = .int) ∧ (kk = 3 → ty = .boolean) ∧ (kk = 1 → ty = .long)
/-- what holds of every class of the worlds -/
def xcg : Prop := ∀ (ci : Nat) (C : String) (T : u_T) (N : Nat), vwCl[ci]? = some (C, T, N) → (∀ w ∈ u_ws C T N, w ∈ xTB) ∧ (∃ ty : Nat → FieldType, (∀ k, k < N → parseFieldDescriptor (T k).2.2.1 = some (ty k)) ∧ ∀ k kk, k < N → (fkX ci)[k]? = some kk → xkm kk (ty k)) ∧ (∀ a, a < N → ∀ b, b < N → a ≠ b → (T a).2.1 ≠ (T b).2.1)
/-- the shape is closed: what is held lies in the world -/
def xEc (E : xE) : Prop := E.2.1 = fkX ∧ (∀ (r : xR) (ci f : Nat), xvr E r → E.1 r.1 = (0, ci) → (fkX ci)[f]? = some 2 → (E.2.2.1 r f).2 < E.2.2.2 (E.2.2.1 r f).1) ∧ (∀ (r : xR) (n j : Nat), xvr E r → E.1 r.1 = (5, n) → j < n → (E.2.2.1 r j).2 < E.2.2.2 (E.2.2.1 r j).1) ∧ (E.1 99).1 = 9 ∧ E.2.2.2 99 = 10
def xln (pc : Nat) : Instr → Nat
  | .bipush _ | .iload _ | .lload _ | .aload _ | .istore _ | .lstore _ | .ldc _ => 2
  | .sipush _ | .ldc_w _ | .ldc2_w _ | .iinc _ _ | .goto _ | .ifCond _ _ | .if_icmp _ _ | .getfield _ | .putfield _ | .invokevirtual _ | .invokestatic _ => 3
  | .tableswitch _ _ _ offs => 1 + (3 - pc % 4) + 12 + 4 * offs.size
  | _ => 1
def xax (own : String) (pc : Nat) : Instr → xA → Bool
  | .iconst n, .inr (.inl c) => Int32.ofInt n == c
  | .bipush n, .inr (.inl c) => (Int8.ofInt n).toInt32 == c
  | .sipush n, .inr (.inl c) => (Int16.ofInt n).toInt32 == c
  | .ldc_w idx, .inr (.inl c) => xKc.any (fun q => q.1 == own && q.2.1 == idx && q.2.2 == c)
  | .ldc idx, .inl k => xSt.any (fun q => q.1 == own && q.2.1 == idx && q.2.2.2 == k)
  | .lconst n, .inr (.inr (.inl c)) => Int64.ofNat (n : Nat) == c
  | .ldc2_w idx, .inr (.inr (.inl c)) => xKl.any (fun q => q.1 == own && q.2.1 == idx && q.2.2 == c)
  | .iinc _ n, .inr (.inl c) => Int32.ofInt n == c
  | .goto off, .inl a => (pc : Int) + off == (a : Int)
  | .ifCond _ off, .inl a => (pc : Int) + off == (a : Int)
  | .if_icmp _ off, .inl a => (pc : Int) + off == (a : Int)
  | .tableswitch d lo hi offs, .inr (.inr (.inr ts)) => lo == 0 && hi + 1 == (offs.size : Int) && ts.length == offs.size + 1 && decide (offs.size < 64) && (List.range offs.size).all (fun k => match offs[k]?, ts[k]? with
    | some o, some t => (pc : Int) + o == (t : Int)
    | _, _ => false) && (match ts[offs.size]? with
    | some t => (pc : Int) + d == (t : Int)
    | none => false)
  | _, _ => true
def xdc (cc : ByteArray) (own : String) (q : Nat × Instr × xA) : Bool := decide (decode cc q.1 = .ok (q.2.1, xln q.1 q.2.1)) && xax own q.1 q.2.1 q.2.2
-- inversions
theorem x1i_inv {S : List xV} {k : Int32 → List xV → Option xX} {X : xX} (h : x1i S k = some X) : ∃ a S', S = .inl a :: S' ∧ k a S' = some X := by
  unfold x1i at h
  split at h
  · exact ⟨_, _, rfl, h⟩
  · cases h
theorem x2i_inv {S : List xV} {k : Int32 → Int32 → List xV → Option xX} {X : xX} (h : x2i S k = some X) : ∃ a b S', S = .inl b :: .inl a :: S' ∧ k a b S' = some X := by
  unfold x2i at h
  split at h
  · exact ⟨_, _, _, rfl, h⟩
  · cases h
theorem x2l_inv {S : List xV} {k : Int64 → Int64 → List xV → Option xX} {X : xX} (h : x2l S k = some X) : ∃ a b S', S = .inr (.inl b) :: .inr (.inl a) :: S' ∧ k a b S' = some X := by
  unfold x2l at h
  split at h
  · exact ⟨_, _, _, rfl, h⟩
  · cases h
theorem xli_inv {S : List xV} {k : Int64 → Int32 → List xV → Option xX} {X : xX} (h : xli S k = some X) : ∃ a b S', S = .inl b :: .inr (.inl a) :: S' ∧ k a b S' = some X := by
  unfold xli at h
  split at h
  · exact ⟨_, _, _, rfl, h⟩
  · cases h
theorem xlc_inv {x : xA} {k : Int32 → Option xX} {X : xX} (h : xlc x k = some X) : ∃ c, x = .inr (.inl c) ∧ k c = some X := by
  unfold xlc at h
  split at h
  · exact ⟨_, rfl, h⟩
  · cases h
theorem xlw_inv {x : xA} {k : Int64 → Option xX} {X : xX} (h : xlw x k = some X) : ∃ c, x = .inr (.inr (.inl c)) ∧ k c = some X := by
  unfold xlw at h
  split at h
  · exact ⟨_, rfl, h⟩
  · cases h
theorem xlt_inv {x : xA} {k : Nat → Option xX} {X : xX} (h : xlt x k = some X) : ∃ c, x = .inl c ∧ k c = some X := by
  unfold xlt at h
  split at h
  · exact ⟨_, rfl, h⟩
  · cases h
theorem xgi_inv {L : List (Option xV)} {i : Nat} {k : Int32 → Option xX} {X : xX} (h : xgi L i k = some X) : ∃ v, L[i]? = some (some (.inl v)) ∧ k v = some X := by
  unfold xgi at h
  split at h
  · rename_i e; exact ⟨_, e, h⟩
  · cases h
theorem xgl_inv {L : List (Option xV)} {i : Nat} {k : Int64 → Option xX} {X : xX} (h : xgl L i k = some X) : ∃ v, L[i]? = some (some (.inr (.inl v))) ∧ k v = some X := by
  unfold xgl at h
  split at h
  · rename_i e; exact ⟨_, e, h⟩
  · cases h
theorem xga_inv {L : List (Option xV)} {i : Nat} {k : xR → Option xX} {X : xX} (h : xga L i k = some X) : ∃ v, L[i]? = some (some (.inr (.inr v))) ∧ k v = some X := by
  unfold xga at h
  split at h
  · rename_i e; exact ⟨_, e, h⟩
  · cases h
theorem xst1_inv {L : List (Option xV)} {i : Nat} {v : xV} {k : List (Option xV) → Option xX} {X : xX} (h : xst1 L i v k = some X) : i < L.length ∧ (∀ j w, j + 1 = i → L[j]? ≠ some (some (.inr (.inl w)))) ∧ k (L.set i (some v)) = some X := by
  unfold xst1 at h
  split at h
  · rename_i hb
    have hb : i < L.length := Nat.blt_eq.mp hb
    split at h
    · exact ⟨hb, fun j w e => by omega, h⟩
    · split at h
      · cases h
      · rename_i hn
        exact ⟨hb, fun j w e q => hn w (by rw [← q]; congr 1; omega), h⟩
  · cases h
theorem xst2_inv {L : List (Option xV)} {i : Nat} {v : xV} {k : List (Option xV) → Option xX} {X : xX} (h : xst2 L i v k = some X) : i + 1 < L.length ∧ (∀ j w, j + 1 = i → L[j]? ≠ some (some (.inr (.inl w)))) ∧ k ((L.set i (some v)).set (i + 1) none) = some X := by
  unfold xst2 at h
  split at h
  · rename_i hb
    have hb : i + 1 < L.length := Nat.blt_eq.mp hb
    split at h
    · exact ⟨hb, fun j w e => by omega, h⟩
    · split at h
      · cases h
      · rename_i hn
        exact ⟨hb, fun j w e q => hn w (by rw [← q]; congr 1; omega), h⟩
  · cases h
theorem xin_iff {i : Int32} {n : Nat} : xin i n = true ↔ ¬ i < 0 ∧ i.toNatClampNeg < n := by
  unfold xin
  rw [@decide_eq_true_iff _ (Classical.propDecidable _)]
theorem xb_iff {v : Int32} : xb v = true ↔ v = 0 ∨ v = 1 := by
  unfold xb
  rw [@decide_eq_true_iff _ (Classical.propDecidable _)]
theorem xar_inv {E : xE} {c : Nat} {r : xR} {i : Int32} {k : Option xX} {X : xX} (h : xar E c r i k = some X) : ∃ n, E.1 r.1 = (c, n) ∧ (¬ i < 0 ∧ i.toNatClampNeg < n) ∧ k = some X := by
  unfold xar at h
  split at h
  rename_i d n e
  split at h
  · rename_i hb
    have hb := Nat.eq_of_beq_eq_true hb
    subst hb
    split at h
    · rename_i hi; exact ⟨n, e, xin_iff.mp hi, h⟩
    · cases h
  · cases h
theorem xlk_mem {α : Type} : ∀ {l : List (Nat × α)} {n : Nat} {v : α}, xlk l n = some v → (n, v) ∈ l
  | [], _, _, h => by cases h
  | (k, w) :: t, n, v, h => by
    unfold xlk at h
    split at h
    · rename_i hb
      have hb := Nat.eq_of_beq_eq_true hb
      cases h
      subst hb
      exact List.mem_cons_self
    · exact List.mem_cons_of_mem _ (xlk_mem h)
theorem xob_inv {E : xE} {ft : List (Nat × Nat × Nat × Nat)} {idx : Nat} {r : xR} {k : Nat → Nat → Option xX} {X : xX} (h : xob E ft idx r k = some X) : ∃ ci f kk, (idx, ci, f, kk) ∈ ft ∧ E.1 r.1 = (0, ci) ∧ k f kk = some X := by
  unfold xob at h
  split at h
  · rename_i ci f kk e
    split at h
    rename_i d cj e2
    split at h
    · rename_i hb
      simp only [Bool.and_eq_true] at hb
      have h1 := Nat.eq_of_beq_eq_true hb.1
      have h2 := Nat.eq_of_beq_eq_true hb.2
      subst h1; subst h2
      exact ⟨ci, f, kk, xlk_mem e, e2, h⟩
    · cases h
  · cases h
theorem xtake_inv : ∀ {n : Nat} {l acc As S' : List xV}, xtake n l acc = some (As, S') → ∃ b, b.length = n ∧ l = b ++ S' ∧ As = b.reverse ++ acc
  | 0, l, acc, As, S', h => by cases h; exact ⟨[], rfl, rfl, rfl⟩
  | n + 1, v :: l, acc, As, S', h => by
    obtain ⟨b, h1, h2, h3⟩ := xtake_inv (n := n) h
    exact ⟨v :: b, by simp [h1], by simp [h2], by simp [h3]⟩
  | n + 1, [], acc, As, S', h => by cases h
theorem xcl_inv {ct : List (Nat × Bool × Nat × Nat × Nat × xF)} {st : Bool} {idx : Nat} {S : List xV} {M : xM} {k : List xV → xM → Option xX} {X : xX} (h : xcl ct st idx S M k = some X) :
    ∃ tag n rk f As S' r M', (idx, st, tag, n, rk, f) ∈ ct ∧ S = As.reverse ++ S' ∧ As.length = n ∧ xcats S' ≤ 8 ∧ xrc st tag As = true ∧ f As M = some (r, M') ∧ (∀ v, r = some v → ∀ E, xok E v) ∧ k (r.toList ++ S') M' = some X := by
  unfold xcl at h
  split at h
  · rename_i st' tag n rk f e
    split at h
    · rename_i hst
      have hst : st' = st := by simpa using hst
      subst hst
      split at h
      · rename_i As S' e2
        obtain ⟨b, b1, b2, b3⟩ := xtake_inv e2
        rw [List.append_nil] at b3
        have e3 : S = As.reverse ++ S' := by rw [b3, List.reverse_reverse]; exact b2
        have e4 : As.length = n := by rw [b3, List.length_reverse]; exact b1
        split at h
        · rename_i hb
          rw [Bool.and_eq_true] at hb
          have hb1 := Nat.ble_eq.mp hb.1
          split at h
          · unfold xrv at h
            split at h
            · rename_i M' e5
              exact ⟨_, _, _, f, As, S', none, M', xlk_mem e, e3, e4, hb1, hb.2, e5, fun v q => (by cases q), h⟩
            · cases h
          · unfold xri at h
            split at h
            · rename_i v M' e5
              exact ⟨_, _, _, f, As, S', some (.inl v), M', xlk_mem e, e3, e4, hb1, hb.2, e5, fun w q _ => by cases q; trivial, h⟩
            · cases h
          · unfold xrl at h
            split at h
            · rename_i v M' e5
              exact ⟨_, _, _, f, As, S', some (.inr (.inl v)), M', xlk_mem e, e3, e4, hb1, hb.2, e5, fun w q _ => by cases q; trivial, h⟩
            · cases h
          · cases h
        · cases h
      · cases h
    · cases h
  · cases h
