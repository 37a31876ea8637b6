section
variable {E : xE} {D : xD} {ad : xAd} {p : Program} {l : Launch} {e : Env} {d : Nat} {s : State} {m : MethodId} {args : Array Value} {below : List Frame} {meth : Method} {c : Code} {cc : ByteArray} {nL : Nat} {own : String} {Q : State → Prop}
variable {pc : Nat} {M : xM} {H : Heap} {locs : List Loc} {ls : Array Slot} {rest : List Value}
theorem xr_99 (hEc : xEc E) {r : xR} {a b : Nat} (hk : E.1 r.1 = (a, b)) (h : a ≠ 9) : r.1 ≠ 99 := fun z => by rw [z] at hk; have := hEc.2.2.2.1; rw [hk] at this; exact h this
theorem xr_put (hG : xcg) (hEc : xEc E) (hC : xCx E D ad p s m args meth c cc nL own) {idx ci f kk : Nat} (hf : xfo own (idx, ci, f, kk)) {r : xR} (hk : E.1 r.1 = (0, ci)) (hdg : decode cc pc = .ok (.putfield idx, 3))
    (hr : xok E (.inr (.inr r))) (hW : xWd E D ad M H) (hF : xFr E ad s.heap H locs) {v : Value} {M' : xM} (hk2 : kk ≠ 2) (hty : ∀ ty, xkm kk ty → narrow ty v = v ∧ fits ty v = true)
    (hv : xfv E ad M' ci r f = v) (ho : ∀ j, j ≠ f → xfv E ad M' ci r j = xfv E ad M ci r j) (hset : ∀ H' : Heap, xAt E D ad M' r H' → (∀ q : Nat, q ≠ ad r → H'[q]? = H[q]?) → xWd E D ad M' H')
    (k : ∀ (H' : Heap) (locs' : List Loc), xWd E D ad M' H' → xFr E ad s.heap H' locs' → W p l e (xrm d) s m args below meth c H' locs' 0 0 Q (F0 m (pc + 3) ls rest)) : W p l e (xrm d) s m args below meth c H locs 0 0 Q (F0 m pc ls (v :: .ref (ad r) :: rest)) := by
  obtain ⟨hx, hb, hml, hown, hts, hlk, hKn, -, hnw, -, hinj, -⟩ := hC
  obtain ⟨C, T, N, g1, g2, g3, g4, g5, g6⟩ := hf
  dsimp only at g1 g2 g3 g4 g5 g6
  have hvr : xvr E r := ⟨hr, xr_99 hEc hk (by decide)⟩
  have hA := hW r hvr
  unfold xAt at hA
  rw [hk] at hA
  obtain ⟨q, q1, cell, c1, c2, c3, c4⟩ := hA
  have hq : q = (C, T, N) := Option.some.inj (q1.symm.trans g1)
  subst hq
  obtain ⟨hin, ⟨ty0, hty0, hkm⟩, hnm⟩ := hG ci C T N g1
  have hKa : va_K (D.1, D.2.1) vwCl [] s := ⟨hKn, fun k q h => by simp at h⟩
  have hap := va_apart (own := own) hts hin ty0 hty0 hnm hKa g1
  obtain ⟨hS, hfc, kC, hkC, hkind⟩ := hKn ci _ g1
  obtain ⟨cf, kf, fi, fd, hi, hsl⟩ := hS f g2
  dsimp only at hi hsl c4 hfc
  have hst := (u_facts hfc hkC (u_lays hts hin g2) hi).1
  have hlay := hts _ (hin _ (u_in_lay g2))
  unfold u_lay at hlay
  rw [if_neg (by rw [g6 hk2]; decide)] at hlay
  obtain ⟨hn, hfit⟩ := hty (ty0 f) (hkm f kk g2 g4)
  have h6 := u_store hfc hkC hkind hlay hi (hty0 f g2) hn hfit
  rw [g5] at hi
  rcases g3 with g3 | ⟨-, g3⟩
  · refine W.putK hx hb (f := fd) ⟨hown, hts _ g3, ⟨_, _, _, hi⟩, hst⟩ (by rw [c2]; exact h6) c1 c3 (by rw [hsl]; exact k2_hasslot (c4 f g2)) rfl rfl hdg fun H' e1 e2 e3 => ?_
    rw [hsl] at e1
    refine k H' _ (hset H' ?_ e3) (hF.put hvr e2 e3)
    unfold xAt
    rw [hk]
    refine ⟨_, g1, t_OB.to (V := updV (xfv E ad M ci r) f v) ⟨_, e1, c2, c3, t_set c4 hap g2 v⟩ (fun j _ => ?_)⟩
    unfold updV
    by_cases hj : j = f
    · rw [if_pos hj, hj]; exact hv.symm
    · rw [if_neg hj]; exact (ho j hj).symm
  · exact absurd g3 hk2
theorem xr_puti (hG : xcg) (hEc : xEc E) (hC : xCx E D ad p s m args meth c cc nL own) {idx ci f kk : Nat} (hf : xfo own (idx, ci, f, kk)) {r : xR} (hk : E.1 r.1 = (0, ci)) (hdg : decode cc pc = .ok (.putfield idx, 3))
    (hr : xok E (.inr (.inr r))) (hW : xWd E D ad M H) (hF : xFr E ad s.heap H locs) {v : Int32} (hkk : kk = 0 ∨ kk = 3 ∧ (v = 0 ∨ v = 1))
    (k : ∀ (H' : Heap) (locs' : List Loc), xWd E D ad (xpI M r f v) H' → xFr E ad s.heap H' locs' → W p l e (xrm d) s m args below meth c H' locs' 0 0 Q (F0 m (pc + 3) ls rest)) : W p l e (xrm d) s m args below meth c H locs 0 0 Q (F0 m pc ls (.int v :: .ref (ad r) :: rest)) := by
  have hinj := hC.2.2.2.2.2.2.2.2.2.2.1
  have hg4 : (E.2.1 ci)[f]? = some kk := by rw [hEc.1]; obtain ⟨C, T, N, g1, g2, g3, g4, g5, g6⟩ := hf; exact g4
  refine xr_put hG hEc hC hf hk hdg hr hW hF (v := .int v) (M' := xpI M r f v) (by rcases hkk with h | h <;> omega) (fun ty h => ?_) ?_ (fun j hj => ?_) (fun H' h1 h2 => hW.setI hinj ⟨hr, xr_99 hEc hk (by decide)⟩ h1 h2) k
  · rcases hkk with h2 | ⟨h2, h3⟩
    · rw [h.1 h2]; exact fits_int v
    · rw [h.2.1 h2]; exact nar_bool h3
  · unfold xfv
    rw [hg4]
    rcases hkk with h2 | ⟨h2, -⟩ <;> subst h2 <;> (show Value.int (xI (xpI M r f v) r f) = _; rw [xI_pI, if_pos ⟨rfl, rfl⟩])
  · unfold xfv
    rw [xI_pI, if_neg (fun h => hj h.2), xL_pI]
theorem xr_putl (hG : xcg) (hEc : xEc E) (hC : xCx E D ad p s m args meth c cc nL own) {idx ci f : Nat} (hf : xfo own (idx, ci, f, 1)) {r : xR} (hk : E.1 r.1 = (0, ci)) (hdg : decode cc pc = .ok (.putfield idx, 3))
    (hr : xok E (.inr (.inr r))) (hW : xWd E D ad M H) (hF : xFr E ad s.heap H locs) {v : Int64}
    (k : ∀ (H' : Heap) (locs' : List Loc), xWd E D ad (xpL M r f v) H' → xFr E ad s.heap H' locs' → W p l e (xrm d) s m args below meth c H' locs' 0 0 Q (F0 m (pc + 3) ls rest)) : W p l e (xrm d) s m args below meth c H locs 0 0 Q (F0 m pc ls (.long v :: .ref (ad r) :: rest)) := by
  have hinj := hC.2.2.2.2.2.2.2.2.2.2.1
  have hg4 : (E.2.1 ci)[f]? = some 1 := by rw [hEc.1]; obtain ⟨C, T, N, g1, g2, g3, g4, g5, g6⟩ := hf; exact g4
  refine xr_put hG hEc hC hf hk hdg hr hW hF (v := .long v) (M' := xpL M r f v) (by decide) (fun ty h => ?_) ?_ (fun j hj => ?_) (fun H' h1 h2 => hW.setL hinj ⟨hr, xr_99 hEc hk (by decide)⟩ h1 h2) k
  · rw [h.2.2 rfl]; exact fits_long v
  · unfold xfv
    rw [hg4]
    show Value.long (xL (xpL M r f v) r f) = _
    rw [xL_pL, if_pos ⟨rfl, rfl⟩]
  · unfold xfv
    rw [xL_pL, if_neg (fun h => hj h.2), xI_pL]
theorem xr_idx {i : Int32} {n : Nat} {cI : ClassId} {f : Nat → Value} (h : ¬ i < 0 ∧ i.toNatClampNeg < n) : ¬ (i < 0 ∨ (arrV cI n f).slots.size ≤ i.toNatClampNeg) := by
  rw [arrV_size]
  rintro (q | q)
  · exact h.1 q
  · omega
theorem xr_iald (hEc : xEc E) (hC : xCx E D ad p s m args meth c cc nL own) {r : xR} {n : Nat} (hk : E.1 r.1 = (1, n)) {i : Int32} (hi : ¬ i < 0 ∧ i.toNatClampNeg < n) (hdg : decode cc pc = .ok (.iaload, 1))
    (hr : xok E (.inr (.inr r))) (hW : xWd E D ad M H) (k : W p l e (xrm d) s m args below meth c H locs 0 0 Q (F0 m (pc + 1) ls (.int (xI M r i.toNatClampNeg) :: rest))) : W p l e (xrm d) s m args below meth c H locs 0 0 Q (F0 m pc ls (.int i :: .ref (ad r) :: rest)) := by
  obtain ⟨hx, hb, hml, hown, hts, hlk, hKn, ⟨ai, al, ab, az, as⟩, -⟩ := hC
  have hA := hW r ⟨hr, xr_99 hEc hk (by decide)⟩
  unfold xAt at hA
  rw [hk] at hA
  exact W.iald (v := .int (xI M r i.toNatClampNeg)) hx hb hA (ai n _) (fun q => by cases q) (xr_idx hi) (arrV_read _ _ hi.2) rfl rfl hdg k
theorem xr_lald (hEc : xEc E) (hC : xCx E D ad p s m args meth c cc nL own) {r : xR} {n : Nat} (hk : E.1 r.1 = (2, n)) {i : Int32} (hi : ¬ i < 0 ∧ i.toNatClampNeg < n) (hdg : decode cc pc = .ok (.laload, 1))
    (hr : xok E (.inr (.inr r))) (hW : xWd E D ad M H) (k : W p l e (xrm d) s m args below meth c H locs 0 0 Q (F0 m (pc + 1) ls (.long (xL M r i.toNatClampNeg) :: rest))) : W p l e (xrm d) s m args below meth c H locs 0 0 Q (F0 m pc ls (.int i :: .ref (ad r) :: rest)) := by
  obtain ⟨hx, hb, hml, hown, hts, hlk, hKn, ⟨ai, al, ab, az, as⟩, -⟩ := hC
  have hA := hW r ⟨hr, xr_99 hEc hk (by decide)⟩
  unfold xAt at hA
  rw [hk] at hA
  exact W.lald (v := .long (xL M r i.toNatClampNeg)) hx hb hA (al n _) (fun q => by cases q) (xr_idx hi) (arrV_read _ _ hi.2) rfl rfl hdg k
theorem xr_bald (hEc : xEc E) (hC : xCx E D ad p s m args meth c cc nL own) {r : xR} {n : Nat} (hk : E.1 r.1 = (3, n)) {i : Int32} (hi : ¬ i < 0 ∧ i.toNatClampNeg < n) (hdg : decode cc pc = .ok (.baload, 1))
    (hr : xok E (.inr (.inr r))) (hW : xWd E D ad M H) (k : W p l e (xrm d) s m args below meth c H locs 0 0 Q (F0 m (pc + 1) ls (.int (xI M r i.toNatClampNeg) :: rest))) : W p l e (xrm d) s m args below meth c H locs 0 0 Q (F0 m pc ls (.int i :: .ref (ad r) :: rest)) := by
  obtain ⟨hx, hb, hml, hown, hts, hlk, hKn, ⟨ai, al, ab, az, as⟩, -⟩ := hC
  have hA := hW r ⟨hr, xr_99 hEc hk (by decide)⟩
  unfold xAt at hA
  rw [hk] at hA
  exact W.bald (v := .int (xI M r i.toNatClampNeg)) hx hb hA (ab n _) (fun q => by cases q) (xr_idx hi) (arrV_read _ _ hi.2) rfl rfl hdg k
theorem xr_zald (hEc : xEc E) (hC : xCx E D ad p s m args meth c cc nL own) {r : xR} {n : Nat} (hk : E.1 r.1 = (4, n)) {i : Int32} (hi : ¬ i < 0 ∧ i.toNatClampNeg < n) (hdg : decode cc pc = .ok (.baload, 1))
    (hr : xok E (.inr (.inr r))) (hW : xWd E D ad M H) (k : W p l e (xrm d) s m args below meth c H locs 0 0 Q (F0 m (pc + 1) ls (.int (xI M r i.toNatClampNeg) :: rest))) : W p l e (xrm d) s m args below meth c H locs 0 0 Q (F0 m pc ls (.int i :: .ref (ad r) :: rest)) := by
  obtain ⟨hx, hb, hml, hown, hts, hlk, hKn, ⟨ai, al, ab, az, as⟩, -⟩ := hC
  have hA := hW r ⟨hr, xr_99 hEc hk (by decide)⟩
  unfold xAt at hA
  rw [hk] at hA
  exact W.zald (v := .int (xI M r i.toNatClampNeg)) hx hb hA (az n _) (fun q => by cases q) (xr_idx hi) (arrV_read _ _ hi.2) rfl rfl hdg k
theorem xr_aald (hEc : xEc E) (hC : xCx E D ad p s m args meth c cc nL own) {r : xR} {n : Nat} (hk : E.1 r.1 = (5, n)) {i : Int32} (hi : ¬ i < 0 ∧ i.toNatClampNeg < n) (hdg : decode cc pc = .ok (.aaload, 1))
    (hr : xok E (.inr (.inr r))) (hW : xWd E D ad M H) (k : W p l e (xrm d) s m args below meth c H locs 0 0 Q (F0 m (pc + 1) ls (.ref (ad (E.2.2.1 r i.toNatClampNeg)) :: rest))) : W p l e (xrm d) s m args below meth c H locs 0 0 Q (F0 m pc ls (.int i :: .ref (ad r) :: rest)) := by
  obtain ⟨hx, hb, hml, hown, hts, hlk, hKn, ⟨ai, al, ab, az, as⟩, -⟩ := hC
  have hA := hW r ⟨hr, xr_99 hEc hk (by decide)⟩
  unfold xAt at hA
  rw [hk] at hA
  exact W.aald (v := .ref (ad (E.2.2.1 r i.toNatClampNeg))) hx hb hA (as n _) (by rfl) (fun q => by cases q) (xr_idx hi) (arrV_read _ _ hi.2) rfl rfl hdg k
theorem xr_iast (hEc : xEc E) (hC : xCx E D ad p s m args meth c cc nL own) {r : xR} {n : Nat} (hk : E.1 r.1 = (1, n)) {i : Int32} {v : Int32} (hi : ¬ i < 0 ∧ i.toNatClampNeg < n) (hdg : decode cc pc = .ok (.iastore, 1))
    (hr : xok E (.inr (.inr r))) (hW : xWd E D ad M H) (hF : xFr E ad s.heap H locs) (k : ∀ (H' : Heap) (locs' : List Loc), xWd E D ad (xpI M r i.toNatClampNeg v) H' → xFr E ad s.heap H' locs' → W p l e (xrm d) s m args below meth c H' locs' 0 0 Q (F0 m (pc + 1) ls rest)) : W p l e (xrm d) s m args below meth c H locs 0 0 Q (F0 m pc ls (.int v :: .int i :: .ref (ad r) :: rest)) := by
  obtain ⟨hx, hb, hml, hown, hts, hlk, hKn, ⟨ai, al, ab, az, as⟩, -, -, hinj, -⟩ := hC
  have hvr : xvr E r := ⟨hr, xr_99 hEc hk (by decide)⟩
  have hA := hW r hvr
  unfold xAt at hA
  rw [hk] at hA
  refine W.iast hx hb hA (ai n _) (fun q => by cases q) (xr_idx hi) rfl rfl hdg fun H' e1 e2 e3 => k H' _ (hW.setI hinj hvr ?_ e3) (hF.put hvr e2 e3)
  unfold xAt
  rw [hk]
  show H'[ad r]? = some (arrV (D.2.2 1) n (fun j => .int (xI (xpI M r i.toNatClampNeg v) r j)))
  rw [e1, arrV_store]
  congr 2
  funext q
  rw [xI_pI]
  unfold updV
  by_cases hq : q = i.toNatClampNeg
  · rw [if_pos hq, if_pos ⟨rfl, hq⟩]
  · rw [if_neg hq, if_neg (fun h => hq h.2)]
theorem xr_last (hEc : xEc E) (hC : xCx E D ad p s m args meth c cc nL own) {r : xR} {n : Nat} (hk : E.1 r.1 = (2, n)) {i : Int32} {v : Int64} (hi : ¬ i < 0 ∧ i.toNatClampNeg < n) (hdg : decode cc pc = .ok (.lastore, 1))
    (hr : xok E (.inr (.inr r))) (hW : xWd E D ad M H) (hF : xFr E ad s.heap H locs) (k : ∀ (H' : Heap) (locs' : List Loc), xWd E D ad (xpL M r i.toNatClampNeg v) H' → xFr E ad s.heap H' locs' → W p l e (xrm d) s m args below meth c H' locs' 0 0 Q (F0 m (pc + 1) ls rest)) : W p l e (xrm d) s m args below meth c H locs 0 0 Q (F0 m pc ls (.long v :: .int i :: .ref (ad r) :: rest)) := by
  obtain ⟨hx, hb, hml, hown, hts, hlk, hKn, ⟨ai, al, ab, az, as⟩, -, -, hinj, -⟩ := hC
  have hvr : xvr E r := ⟨hr, xr_99 hEc hk (by decide)⟩
  have hA := hW r hvr
  unfold xAt at hA
  rw [hk] at hA
  refine W.last hx hb hA (al n _) (fun q => by cases q) (xr_idx hi) rfl rfl hdg fun H' e1 e2 e3 => k H' _ (hW.setL hinj hvr ?_ e3) (hF.put hvr e2 e3)
  unfold xAt
  rw [hk]
  show H'[ad r]? = some (arrV (D.2.2 2) n (fun j => .long (xL (xpL M r i.toNatClampNeg v) r j)))
  rw [e1, arrV_store]
  congr 2
  funext q
  rw [xL_pL]
  unfold updV
  by_cases hq : q = i.toNatClampNeg
  · rw [if_pos hq, if_pos ⟨rfl, hq⟩]
  · rw [if_neg hq, if_neg (fun h => hq h.2)]
theorem xr_bast (hEc : xEc E) (hC : xCx E D ad p s m args meth c cc nL own) {r : xR} {n : Nat} (hk : E.1 r.1 = (3, n)) {i : Int32} {v : Int32} (hi : ¬ i < 0 ∧ i.toNatClampNeg < n) (hdg : decode cc pc = .ok (.bastore, 1))
    (hr : xok E (.inr (.inr r))) (hW : xWd E D ad M H) (hF : xFr E ad s.heap H locs) (k : ∀ (H' : Heap) (locs' : List Loc), xWd E D ad (xpI M r i.toNatClampNeg v.toInt8.toInt32) H' → xFr E ad s.heap H' locs' → W p l e (xrm d) s m args below meth c H' locs' 0 0 Q (F0 m (pc + 1) ls rest)) : W p l e (xrm d) s m args below meth c H locs 0 0 Q (F0 m pc ls (.int v :: .int i :: .ref (ad r) :: rest)) := by
  obtain ⟨hx, hb, hml, hown, hts, hlk, hKn, ⟨ai, al, ab, az, as⟩, -, -, hinj, -⟩ := hC
  have hvr : xvr E r := ⟨hr, xr_99 hEc hk (by decide)⟩
  have hA := hW r hvr
  unfold xAt at hA
  rw [hk] at hA
  refine W.bast hx hb hA (ab n _) (fun q => by cases q) (xr_idx hi) rfl rfl hdg fun H' e1 e2 e3 => k H' _ (hW.setI hinj hvr ?_ e3) (hF.put hvr e2 e3)
  unfold xAt
  rw [hk]
  show H'[ad r]? = some (arrV (D.2.2 3) n (fun j => .int (xI (xpI M r i.toNatClampNeg v.toInt8.toInt32) r j)))
  rw [e1, arrV_store]
  congr 2
  funext q
  rw [xI_pI]
  unfold updV
  by_cases hq : q = i.toNatClampNeg
  · rw [if_pos hq, if_pos ⟨rfl, hq⟩]; rfl
  · rw [if_neg hq, if_neg (fun h => hq h.2)]
theorem xr_zast (hEc : xEc E) (hC : xCx E D ad p s m args meth c cc nL own) {r : xR} {n : Nat} (hk : E.1 r.1 = (4, n)) {i : Int32} {v : Int32} (hi : ¬ i < 0 ∧ i.toNatClampNeg < n) (hb2 : v = 0 ∨ v = 1) (hdg : decode cc pc = .ok (.bastore, 1))
    (hr : xok E (.inr (.inr r))) (hW : xWd E D ad M H) (hF : xFr E ad s.heap H locs) (k : ∀ (H' : Heap) (locs' : List Loc), xWd E D ad (xpI M r i.toNatClampNeg v) H' → xFr E ad s.heap H' locs' → W p l e (xrm d) s m args below meth c H' locs' 0 0 Q (F0 m (pc + 1) ls rest)) : W p l e (xrm d) s m args below meth c H locs 0 0 Q (F0 m pc ls (.int v :: .int i :: .ref (ad r) :: rest)) := by
  obtain ⟨hx, hb, hml, hown, hts, hlk, hKn, ⟨ai, al, ab, az, as⟩, -, -, hinj, -⟩ := hC
  have hvr : xvr E r := ⟨hr, xr_99 hEc hk (by decide)⟩
  have hA := hW r hvr
  unfold xAt at hA
  rw [hk] at hA
  refine W.zast hx hb hA (az n _) (fun q => by cases q) (xr_idx hi) rfl rfl hdg fun H' e1 e2 e3 => k H' _ (hW.setI hinj hvr ?_ e3) (hF.put hvr e2 e3)
  unfold xAt
  rw [hk]
  show H'[ad r]? = some (arrV (D.2.2 4) n (fun j => .int (xI (xpI M r i.toNatClampNeg v) r j)))
  rw [e1, arrV_store]
  congr 2
  funext q
  rw [xI_pI]
  unfold updV
  by_cases hq : q = i.toNatClampNeg
  · rw [if_pos hq, if_pos ⟨rfl, hq⟩]; exact (nar_bool hb2).1
  · rw [if_neg hq, if_neg (fun h => hq h.2)]
theorem xr_alen (hEc : xEc E) (hC : xCx E D ad p s m args meth c cc nL own) {r : xR} {a n : Nat} (hk : E.1 r.1 = (a, n)) (ha : a = 1 ∨ a = 2) (hdg : decode cc pc = .ok (.arraylength, 1))
    (hr : xok E (.inr (.inr r))) (hW : xWd E D ad M H) (k : W p l e (xrm d) s m args below meth c H locs 0 0 Q (F0 m (pc + 1) ls (.int (Int32.ofNat n) :: rest))) : W p l e (xrm d) s m args below meth c H locs 0 0 Q (F0 m pc ls (.ref (ad r) :: rest)) := by
  obtain ⟨hx, hb, hml, hown, hts, hlk, hKn, ⟨ai, al, ab, az, as⟩, -⟩ := hC
  have hA := hW r ⟨hr, xr_99 hEc hk (by rcases ha with h | h <;> omega)⟩
  unfold xAt at hA
  rw [hk] at hA
  rcases ha with h | h <;> subst h
  · exact W.alen hx hb hA (ai n _) (by rw [arrV_size]) rfl rfl hdg k
  · exact W.alen hx hb hA (al n _) (by rw [arrV_size]) rfl rfl hdg k
end
