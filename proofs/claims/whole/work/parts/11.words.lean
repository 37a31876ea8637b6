/-! What the tables say: words by their places -/
theorem xtb {w : Cond} (h : w ∈ lw_tbl) (g : goodWord w = true) : w ∈ xTB := List.mem_filter.mpr ⟨h, g⟩
theorem xtp {w : Cond} (h : w ∈ k2_sels lw_privs) (g : goodWord w = true) : w ∈ xTB := xtb (List.mem_append_left _ h) g
theorem xt1 {w : Cond} (h : w ∈ tables_1_1) (g : goodWord w = true) : w ∈ xTB := xtb (List.mem_append_right _ (show w ∈ tables_1 from List.mem_append_left _ h)) g
theorem xt2 {w : Cond} (h : w ∈ tables_1_2) (g : goodWord w = true) : w ∈ xTB := xtb (List.mem_append_right _ (show w ∈ tables_1 from List.mem_append_right _ (List.mem_append_left _ h))) g
theorem xt3 {w : Cond} (h : w ∈ tables_1_3) (g : goodWord w = true) : w ∈ xTB := xtb (List.mem_append_right _ (show w ∈ tables_1 from List.mem_append_right _ (List.mem_append_right _ (List.mem_append_left _ h)))) g
theorem xt4 {w : Cond} (h : w ∈ tables_1_4) (g : goodWord w = true) : w ∈ xTB := xtb (List.mem_append_right _ (show w ∈ tables_1 from List.mem_append_right _ (List.mem_append_right _ (List.mem_append_right _ (List.mem_append_left _ h))))) g
theorem xt5 {w : Cond} (h : w ∈ tables_1_5) (g : goodWord w = true) : w ∈ xTB := xtb (List.mem_append_right _ (show w ∈ tables_1 from List.mem_append_right _ (List.mem_append_right _ (List.mem_append_right _ (List.mem_append_right _ (List.mem_append_left _ h)))))) g
theorem xt6 {w : Cond} (h : w ∈ tables_1_6) (g : goodWord w = true) : w ∈ xTB := xtb (List.mem_append_right _ (show w ∈ tables_1 from List.mem_append_right _ (List.mem_append_right _ (List.mem_append_right _ (List.mem_append_right _ (List.mem_append_right _ (List.mem_append_left _ h))))))) g
theorem xt7 {w : Cond} (h : w ∈ tables_1_7) (g : goodWord w = true) : w ∈ xTB := xtb (List.mem_append_right _ (show w ∈ tables_1 from List.mem_append_right _ (List.mem_append_right _ (List.mem_append_right _ (List.mem_append_right _ (List.mem_append_right _ (List.mem_append_right _ (List.mem_append_left _ h)))))))) g
theorem xt8 {w : Cond} (h : w ∈ tables_1_8) (g : goodWord w = true) : w ∈ xTB := xtb (List.mem_append_right _ (show w ∈ tables_1 from List.mem_append_right _ (List.mem_append_right _ (List.mem_append_right _ (List.mem_append_right _ (List.mem_append_right _ (List.mem_append_right _ (List.mem_append_right _ (List.mem_append_left _ h))))))))) g
theorem xt9 {w : Cond} (h : w ∈ tables_1_9) (g : goodWord w = true) : w ∈ xTB := xtb (List.mem_append_right _ (show w ∈ tables_1 from List.mem_append_right _ (List.mem_append_right _ (List.mem_append_right _ (List.mem_append_right _ (List.mem_append_right _ (List.mem_append_right _ (List.mem_append_right _ (List.mem_append_right _ (h)))))))))) g
def xkmb (kk : Nat) (ty : FieldType) : Bool := match kk with
  | 0 => decide (ty = .int)
  | 3 => decide (ty = .boolean)
  | 1 => decide (ty = .long)
  | _ => true
theorem xkmb_ok {kk : Nat} {ty : FieldType} (h : xkmb kk ty = true) : xkm kk ty := by
  refine ⟨fun e => ?_, fun e => ?_, fun e => ?_⟩ <;> subst e <;> simpa [xkmb] using h
theorem xkma {ci N : Nat} {ty : Nat → FieldType} (h : (List.range N).all (fun k => match (fkX ci)[k]? with
    | some kk => xkmb kk (ty k)
    | none => true) = true) : ∀ k kk, k < N → (fkX ci)[k]? = some kk → xkm kk (ty k) := by
  intro k kk hk hf
  have := List.all_eq_true.mp h k (List.mem_range.mpr hk)
  rw [hf] at this
  exact xkmb_ok this
theorem xlm0 : ∀ k, k < 7 → u_lay RX0 TX0 k ∈ xTB := by
  intro k hk
  match k, hk with
  | 0, _ => exact xt2 (List.mem_of_getElem? (i := 25) rfl) rfl
  | 1, _ => exact xt2 (List.mem_of_getElem? (i := 27) rfl) rfl
  | 2, _ => exact xt2 (List.mem_of_getElem? (i := 29) rfl) rfl
  | 3, _ => exact xt2 (List.mem_of_getElem? (i := 31) rfl) rfl
  | 4, _ => exact xt2 (List.mem_of_getElem? (i := 33) rfl) rfl
  | 5, _ => exact xt2 (List.mem_of_getElem? (i := 35) rfl) rfl
  | 6, _ => exact xt2 (List.mem_of_getElem? (i := 37) rfl) rfl
  | n + 7, h => exact absurd h (by omega)
theorem xlk0 : (List.range 7).all (fun k => match (fkX 0)[k]? with
    | some kk => xkmb kk (tyX0 k)
    | none => true) = true := by decide +kernel
theorem xlm1 : ∀ k, k < 11 → u_lay RX1 TX1 k ∈ xTB := by
  intro k hk
  match k, hk with
  | 0, _ => exact xt2 (List.mem_of_getElem? (i := 146) rfl) rfl
  | 1, _ => exact xt2 (List.mem_of_getElem? (i := 148) rfl) rfl
  | 2, _ => exact xt2 (List.mem_of_getElem? (i := 150) rfl) rfl
  | 3, _ => exact xt2 (List.mem_of_getElem? (i := 152) rfl) rfl
  | 4, _ => exact xt2 (List.mem_of_getElem? (i := 154) rfl) rfl
  | 5, _ => exact xt2 (List.mem_of_getElem? (i := 156) rfl) rfl
  | 6, _ => exact xt2 (List.mem_of_getElem? (i := 158) rfl) rfl
  | 7, _ => exact xt2 (List.mem_of_getElem? (i := 160) rfl) rfl
  | 8, _ => exact xt2 (List.mem_of_getElem? (i := 162) rfl) rfl
  | 9, _ => exact xt2 (List.mem_of_getElem? (i := 164) rfl) rfl
  | 10, _ => exact xt2 (List.mem_of_getElem? (i := 166) rfl) rfl
  | n + 11, h => exact absurd h (by omega)
theorem xlk1 : (List.range 11).all (fun k => match (fkX 1)[k]? with
    | some kk => xkmb kk (tyX1 k)
    | none => true) = true := by decide +kernel
theorem xlm2 : ∀ k, k < 9 → u_lay RX2 TX2 k ∈ xTB := by
  intro k hk
  match k, hk with
  | 0, _ => exact xt2 (List.mem_of_getElem? (i := 61) rfl) rfl
  | 1, _ => exact xt2 (List.mem_of_getElem? (i := 63) rfl) rfl
  | 2, _ => exact xt2 (List.mem_of_getElem? (i := 65) rfl) rfl
  | 3, _ => exact xt2 (List.mem_of_getElem? (i := 67) rfl) rfl
  | 4, _ => exact xt2 (List.mem_of_getElem? (i := 69) rfl) rfl
  | 5, _ => exact xt2 (List.mem_of_getElem? (i := 71) rfl) rfl
  | 6, _ => exact xt2 (List.mem_of_getElem? (i := 73) rfl) rfl
  | 7, _ => exact xt2 (List.mem_of_getElem? (i := 75) rfl) rfl
  | 8, _ => exact xt2 (List.mem_of_getElem? (i := 77) rfl) rfl
  | n + 9, h => exact absurd h (by omega)
theorem xlk2 : (List.range 9).all (fun k => match (fkX 2)[k]? with
    | some kk => xkmb kk (tyX2 k)
    | none => true) = true := by decide +kernel
theorem xlm3 : ∀ k, k < 2 → u_lay RX3 TX3 k ∈ xTB := by
  intro k hk
  match k, hk with
  | 0, _ => exact xt1 (List.mem_of_getElem? (i := 180) rfl) rfl
  | 1, _ => exact xt1 (List.mem_of_getElem? (i := 182) rfl) rfl
  | n + 2, h => exact absurd h (by omega)
theorem xlk3 : (List.range 2).all (fun k => match (fkX 3)[k]? with
    | some kk => xkmb kk (tyX3 k)
    | none => true) = true := by decide +kernel
theorem xlm4 : ∀ k, k < 10 → u_lay RX4 TX4 k ∈ xTB := by
  intro k hk
  match k, hk with
  | 0, _ => exact xt1 (List.mem_of_getElem? (i := 196) rfl) rfl
  | 1, _ => exact xt1 (List.mem_of_getElem? (i := 198) rfl) rfl
  | 2, _ => exact xt1 (List.mem_of_getElem? (i := 200) rfl) rfl
  | 3, _ => exact xt1 (List.mem_of_getElem? (i := 202) rfl) rfl
  | 4, _ => exact xt1 (List.mem_of_getElem? (i := 204) rfl) rfl
  | 5, _ => exact xt1 (List.mem_of_getElem? (i := 206) rfl) rfl
  | 6, _ => exact xt1 (List.mem_of_getElem? (i := 208) rfl) rfl
  | 7, _ => exact xt1 (List.mem_of_getElem? (i := 210) rfl) rfl
  | 8, _ => exact xt1 (List.mem_of_getElem? (i := 212) rfl) rfl
  | 9, _ => exact xt1 (List.mem_of_getElem? (i := 214) rfl) rfl
  | n + 10, h => exact absurd h (by omega)
theorem xlk4 : (List.range 10).all (fun k => match (fkX 4)[k]? with
    | some kk => xkmb kk (tyX4 k)
    | none => true) = true := by decide +kernel
theorem xlm5 : ∀ k, k < 10 → u_lay RX5 TX5 k ∈ xTB := by
  intro k hk
  match k, hk with
  | 0, _ => exact xt1 (List.mem_of_getElem? (i := 116) rfl) rfl
  | 1, _ => exact xt1 (List.mem_of_getElem? (i := 118) rfl) rfl
  | 2, _ => exact xt1 (List.mem_of_getElem? (i := 120) rfl) rfl
  | 3, _ => exact xt1 (List.mem_of_getElem? (i := 122) rfl) rfl
  | 4, _ => exact xt1 (List.mem_of_getElem? (i := 124) rfl) rfl
  | 5, _ => exact xt1 (List.mem_of_getElem? (i := 126) rfl) rfl
  | 6, _ => exact xt1 (List.mem_of_getElem? (i := 128) rfl) rfl
  | 7, _ => exact xt1 (List.mem_of_getElem? (i := 130) rfl) rfl
  | 8, _ => exact xt1 (List.mem_of_getElem? (i := 132) rfl) rfl
  | 9, _ => exact xt1 (List.mem_of_getElem? (i := 134) rfl) rfl
  | n + 10, h => exact absurd h (by omega)
theorem xlk5 : (List.range 10).all (fun k => match (fkX 5)[k]? with
    | some kk => xkmb kk (tyX5 k)
    | none => true) = true := by decide +kernel
theorem xlm6 : ∀ k, k < 1 → u_lay RX6 TX6 k ∈ xTB := by
  intro k hk
  match k, hk with
  | 0, _ => exact xt1 (List.mem_of_getElem? (i := 83) rfl) rfl
  | n + 1, h => exact absurd h (by omega)
theorem xlk6 : (List.range 1).all (fun k => match (fkX 6)[k]? with
    | some kk => xkmb kk (tyX6 k)
    | none => true) = true := by decide +kernel
theorem xlm7 : ∀ k, k < 12 → u_lay RX7 TX7 k ∈ xTB := by
  intro k hk
  match k, hk with
  | 0, _ => exact xt2 (List.mem_of_getElem? (i := 100) rfl) rfl
  | 1, _ => exact xt2 (List.mem_of_getElem? (i := 102) rfl) rfl
  | 2, _ => exact xt2 (List.mem_of_getElem? (i := 104) rfl) rfl
  | 3, _ => exact xt2 (List.mem_of_getElem? (i := 106) rfl) rfl
  | 4, _ => exact xt2 (List.mem_of_getElem? (i := 108) rfl) rfl
  | 5, _ => exact xt2 (List.mem_of_getElem? (i := 110) rfl) rfl
  | 6, _ => exact xt2 (List.mem_of_getElem? (i := 112) rfl) rfl
  | 7, _ => exact xt2 (List.mem_of_getElem? (i := 114) rfl) rfl
  | 8, _ => exact xt2 (List.mem_of_getElem? (i := 116) rfl) rfl
  | 9, _ => exact xt2 (List.mem_of_getElem? (i := 118) rfl) rfl
  | 10, _ => exact xt2 (List.mem_of_getElem? (i := 120) rfl) rfl
  | 11, _ => exact xt2 (List.mem_of_getElem? (i := 122) rfl) rfl
  | n + 12, h => exact absurd h (by omega)
theorem xlk7 : (List.range 12).all (fun k => match (fkX 7)[k]? with
    | some kk => xkmb kk (tyX7 k)
    | none => true) = true := by decide +kernel
theorem xlm8 : ∀ k, k < 8 → u_lay RX8 TX8 k ∈ xTB := by
  intro k hk
  match k, hk with
  | 0, _ => exact xt1 (List.mem_of_getElem? (i := 52) rfl) rfl
  | 1, _ => exact xt1 (List.mem_of_getElem? (i := 54) rfl) rfl
  | 2, _ => exact xt1 (List.mem_of_getElem? (i := 56) rfl) rfl
  | 3, _ => exact xt1 (List.mem_of_getElem? (i := 58) rfl) rfl
  | 4, _ => exact xt1 (List.mem_of_getElem? (i := 60) rfl) rfl
  | 5, _ => exact xt1 (List.mem_of_getElem? (i := 62) rfl) rfl
  | 6, _ => exact xt1 (List.mem_of_getElem? (i := 64) rfl) rfl
  | 7, _ => exact xt1 (List.mem_of_getElem? (i := 66) rfl) rfl
  | n + 8, h => exact absurd h (by omega)
theorem xlk8 : (List.range 8).all (fun k => match (fkX 8)[k]? with
    | some kk => xkmb kk (tyX8 k)
    | none => true) = true := by decide +kernel
theorem xlm9 : ∀ k, k < 5 → u_lay RX9 TX9 k ∈ xTB := by
  intro k hk
  match k, hk with
  | 0, _ => exact xt1 (List.mem_of_getElem? (i := 153) rfl) rfl
  | 1, _ => exact xt1 (List.mem_of_getElem? (i := 155) rfl) rfl
  | 2, _ => exact xt1 (List.mem_of_getElem? (i := 157) rfl) rfl
  | 3, _ => exact xt1 (List.mem_of_getElem? (i := 159) rfl) rfl
  | 4, _ => exact xt1 (List.mem_of_getElem? (i := 161) rfl) rfl
  | n + 5, h => exact absurd h (by omega)
theorem xlk9 : (List.range 5).all (fun k => match (fkX 9)[k]? with
    | some kk => xkmb kk (tyX9 k)
    | none => true) = true := by decide +kernel
theorem xlm10 : ∀ k, k < 7 → u_lay RX10 TX10 k ∈ xTB := by
  intro k hk
  match k, hk with
  | 0, _ => exact xt1 (List.mem_of_getElem? (i := 232) rfl) rfl
  | 1, _ => exact xt1 (List.mem_of_getElem? (i := 234) rfl) rfl
  | 2, _ => exact xt1 (List.mem_of_getElem? (i := 236) rfl) rfl
  | 3, _ => exact xt1 (List.mem_of_getElem? (i := 238) rfl) rfl
  | 4, _ => exact xt2 (List.mem_of_getElem? (i := 0) rfl) rfl
  | 5, _ => exact xt2 (List.mem_of_getElem? (i := 2) rfl) rfl
  | 6, _ => exact xt2 (List.mem_of_getElem? (i := 4) rfl) rfl
  | n + 7, h => exact absurd h (by omega)
theorem xlk10 : (List.range 7).all (fun k => match (fkX 10)[k]? with
    | some kk => xkmb kk (tyX10 k)
    | none => true) = true := by decide +kernel
theorem xlm11 : ∀ k, k < 13 → u_lay RX11 TX11 k ∈ xTB := by
  intro k hk
  match k, hk with
  | 0, _ => exact xt2 (List.mem_of_getElem? (i := 184) rfl) rfl
  | 1, _ => exact xt2 (List.mem_of_getElem? (i := 186) rfl) rfl
  | 2, _ => exact xt2 (List.mem_of_getElem? (i := 188) rfl) rfl
  | 3, _ => exact xt2 (List.mem_of_getElem? (i := 190) rfl) rfl
  | 4, _ => exact xt2 (List.mem_of_getElem? (i := 192) rfl) rfl
  | 5, _ => exact xt2 (List.mem_of_getElem? (i := 194) rfl) rfl
  | 6, _ => exact xt2 (List.mem_of_getElem? (i := 196) rfl) rfl
  | 7, _ => exact xt2 (List.mem_of_getElem? (i := 198) rfl) rfl
  | 8, _ => exact xt2 (List.mem_of_getElem? (i := 200) rfl) rfl
  | 9, _ => exact xt2 (List.mem_of_getElem? (i := 202) rfl) rfl
  | 10, _ => exact xt2 (List.mem_of_getElem? (i := 204) rfl) rfl
  | 11, _ => exact xt2 (List.mem_of_getElem? (i := 206) rfl) rfl
  | 12, _ => exact xt2 (List.mem_of_getElem? (i := 208) rfl) rfl
  | n + 13, h => exact absurd h (by omega)
theorem xlk11 : (List.range 13).all (fun k => match (fkX 11)[k]? with
    | some kk => xkmb kk (tyX11 k)
    | none => true) = true := by decide +kernel
theorem xlm12 : ∀ k, k < 83 → u_lay RX12 TX12 k ∈ xTB := by
  intro k hk
  match k, hk with
  | 0, _ => exact xt7 (List.mem_of_getElem? (i := 8) rfl) rfl
  | 1, _ => exact xt7 (List.mem_of_getElem? (i := 10) rfl) rfl
  | 2, _ => exact xt7 (List.mem_of_getElem? (i := 12) rfl) rfl
  | 3, _ => exact xt7 (List.mem_of_getElem? (i := 14) rfl) rfl
  | 4, _ => exact xt7 (List.mem_of_getElem? (i := 16) rfl) rfl
  | 5, _ => exact xt7 (List.mem_of_getElem? (i := 18) rfl) rfl
  | 6, _ => exact xt7 (List.mem_of_getElem? (i := 20) rfl) rfl
  | 7, _ => exact xt7 (List.mem_of_getElem? (i := 22) rfl) rfl
  | 8, _ => exact xt7 (List.mem_of_getElem? (i := 24) rfl) rfl
  | 9, _ => exact xt7 (List.mem_of_getElem? (i := 26) rfl) rfl
  | 10, _ => exact xt7 (List.mem_of_getElem? (i := 28) rfl) rfl
  | 11, _ => exact xt7 (List.mem_of_getElem? (i := 30) rfl) rfl
  | 12, _ => exact xt7 (List.mem_of_getElem? (i := 32) rfl) rfl
  | 13, _ => exact xt7 (List.mem_of_getElem? (i := 34) rfl) rfl
  | 14, _ => exact xt7 (List.mem_of_getElem? (i := 36) rfl) rfl
  | 15, _ => exact xt7 (List.mem_of_getElem? (i := 38) rfl) rfl
  | 16, _ => exact xt7 (List.mem_of_getElem? (i := 40) rfl) rfl
  | 17, _ => exact xt7 (List.mem_of_getElem? (i := 42) rfl) rfl
  | 18, _ => exact xt7 (List.mem_of_getElem? (i := 44) rfl) rfl
  | 19, _ => exact xt7 (List.mem_of_getElem? (i := 46) rfl) rfl
  | 20, _ => exact xt7 (List.mem_of_getElem? (i := 48) rfl) rfl
  | 21, _ => exact xt7 (List.mem_of_getElem? (i := 50) rfl) rfl
  | 22, _ => exact xt7 (List.mem_of_getElem? (i := 52) rfl) rfl
  | 23, _ => exact xt7 (List.mem_of_getElem? (i := 54) rfl) rfl
  | 24, _ => exact xt7 (List.mem_of_getElem? (i := 56) rfl) rfl
  | 25, _ => exact xt7 (List.mem_of_getElem? (i := 58) rfl) rfl
  | 26, _ => exact xt7 (List.mem_of_getElem? (i := 60) rfl) rfl
  | 27, _ => exact xt7 (List.mem_of_getElem? (i := 62) rfl) rfl
  | 28, _ => exact xt7 (List.mem_of_getElem? (i := 64) rfl) rfl
  | 29, _ => exact xt7 (List.mem_of_getElem? (i := 66) rfl) rfl
  | 30, _ => exact xt7 (List.mem_of_getElem? (i := 68) rfl) rfl
  | 31, _ => exact xt7 (List.mem_of_getElem? (i := 70) rfl) rfl
  | 32, _ => exact xt7 (List.mem_of_getElem? (i := 72) rfl) rfl
  | 33, _ => exact xt7 (List.mem_of_getElem? (i := 74) rfl) rfl
  | 34, _ => exact xt7 (List.mem_of_getElem? (i := 76) rfl) rfl
  | 35, _ => exact xt7 (List.mem_of_getElem? (i := 78) rfl) rfl
  | 36, _ => exact xt7 (List.mem_of_getElem? (i := 80) rfl) rfl
  | 37, _ => exact xt7 (List.mem_of_getElem? (i := 82) rfl) rfl
  | 38, _ => exact xt7 (List.mem_of_getElem? (i := 84) rfl) rfl
  | 39, _ => exact xt7 (List.mem_of_getElem? (i := 86) rfl) rfl
  | 40, _ => exact xt7 (List.mem_of_getElem? (i := 88) rfl) rfl
  | 41, _ => exact xt7 (List.mem_of_getElem? (i := 90) rfl) rfl
  | 42, _ => exact xt7 (List.mem_of_getElem? (i := 92) rfl) rfl
  | 43, _ => exact xt7 (List.mem_of_getElem? (i := 94) rfl) rfl
  | 44, _ => exact xt7 (List.mem_of_getElem? (i := 96) rfl) rfl
  | 45, _ => exact xt7 (List.mem_of_getElem? (i := 98) rfl) rfl
  | 46, _ => exact xt7 (List.mem_of_getElem? (i := 100) rfl) rfl
  | 47, _ => exact xt7 (List.mem_of_getElem? (i := 102) rfl) rfl
  | 48, _ => exact xt7 (List.mem_of_getElem? (i := 104) rfl) rfl
  | 49, _ => exact xt7 (List.mem_of_getElem? (i := 106) rfl) rfl
  | 50, _ => exact xt7 (List.mem_of_getElem? (i := 108) rfl) rfl
  | 51, _ => exact xt7 (List.mem_of_getElem? (i := 110) rfl) rfl
  | 52, _ => exact xt7 (List.mem_of_getElem? (i := 112) rfl) rfl
  | 53, _ => exact xt7 (List.mem_of_getElem? (i := 114) rfl) rfl
  | 54, _ => exact xt7 (List.mem_of_getElem? (i := 116) rfl) rfl
  | 55, _ => exact xt7 (List.mem_of_getElem? (i := 118) rfl) rfl
  | 56, _ => exact xt7 (List.mem_of_getElem? (i := 120) rfl) rfl
  | 57, _ => exact xt7 (List.mem_of_getElem? (i := 122) rfl) rfl
  | 58, _ => exact xt7 (List.mem_of_getElem? (i := 124) rfl) rfl
  | 59, _ => exact xt7 (List.mem_of_getElem? (i := 126) rfl) rfl
  | 60, _ => exact xt7 (List.mem_of_getElem? (i := 128) rfl) rfl
  | 61, _ => exact xt7 (List.mem_of_getElem? (i := 130) rfl) rfl
  | 62, _ => exact xt7 (List.mem_of_getElem? (i := 132) rfl) rfl
  | 63, _ => exact xt7 (List.mem_of_getElem? (i := 134) rfl) rfl
  | 64, _ => exact xt7 (List.mem_of_getElem? (i := 136) rfl) rfl
  | 65, _ => exact xt7 (List.mem_of_getElem? (i := 138) rfl) rfl
  | 66, _ => exact xt7 (List.mem_of_getElem? (i := 140) rfl) rfl
  | 67, _ => exact xt7 (List.mem_of_getElem? (i := 142) rfl) rfl
  | 68, _ => exact xt7 (List.mem_of_getElem? (i := 144) rfl) rfl
  | 69, _ => exact xt7 (List.mem_of_getElem? (i := 146) rfl) rfl
  | 70, _ => exact xt7 (List.mem_of_getElem? (i := 148) rfl) rfl
  | 71, _ => exact xt7 (List.mem_of_getElem? (i := 150) rfl) rfl
  | 72, _ => exact xt7 (List.mem_of_getElem? (i := 152) rfl) rfl
  | 73, _ => exact xt7 (List.mem_of_getElem? (i := 154) rfl) rfl
  | 74, _ => exact xt7 (List.mem_of_getElem? (i := 156) rfl) rfl
  | 75, _ => exact xt7 (List.mem_of_getElem? (i := 158) rfl) rfl
  | 76, _ => exact xt7 (List.mem_of_getElem? (i := 160) rfl) rfl
  | 77, _ => exact xt7 (List.mem_of_getElem? (i := 162) rfl) rfl
  | 78, _ => exact xt7 (List.mem_of_getElem? (i := 164) rfl) rfl
  | 79, _ => exact xt7 (List.mem_of_getElem? (i := 166) rfl) rfl
  | 80, _ => exact xt7 (List.mem_of_getElem? (i := 168) rfl) rfl
  | 81, _ => exact xt7 (List.mem_of_getElem? (i := 170) rfl) rfl
  | 82, _ => exact xt7 (List.mem_of_getElem? (i := 172) rfl) rfl
  | n + 83, h => exact absurd h (by omega)
theorem xlk12 : (List.range 83).all (fun k => match (fkX 12)[k]? with
    | some kk => xkmb kk (tyX12 k)
    | none => true) = true := by decide +kernel
theorem xcg_ok : xcg := by
  intro ci C T N h
  match ci, h with
  | 0, h => cases h; exact ⟨fun w hw => by obtain ⟨k, hk, rfl⟩ := List.mem_map.mp hw; exact xlm0 k (List.mem_range.mp hk), ⟨tyX0, tyX0_ok, xkma xlk0⟩, nmX0⟩
  | 1, h => cases h; exact ⟨fun w hw => by obtain ⟨k, hk, rfl⟩ := List.mem_map.mp hw; exact xlm1 k (List.mem_range.mp hk), ⟨tyX1, tyX1_ok, xkma xlk1⟩, nmX1⟩
  | 2, h => cases h; exact ⟨fun w hw => by obtain ⟨k, hk, rfl⟩ := List.mem_map.mp hw; exact xlm2 k (List.mem_range.mp hk), ⟨tyX2, tyX2_ok, xkma xlk2⟩, nmX2⟩
  | 3, h => cases h; exact ⟨fun w hw => by obtain ⟨k, hk, rfl⟩ := List.mem_map.mp hw; exact xlm3 k (List.mem_range.mp hk), ⟨tyX3, tyX3_ok, xkma xlk3⟩, nmX3⟩
  | 4, h => cases h; exact ⟨fun w hw => by obtain ⟨k, hk, rfl⟩ := List.mem_map.mp hw; exact xlm4 k (List.mem_range.mp hk), ⟨tyX4, tyX4_ok, xkma xlk4⟩, nmX4⟩
  | 5, h => cases h; exact ⟨fun w hw => by obtain ⟨k, hk, rfl⟩ := List.mem_map.mp hw; exact xlm5 k (List.mem_range.mp hk), ⟨tyX5, tyX5_ok, xkma xlk5⟩, nmX5⟩
  | 6, h => cases h; exact ⟨fun w hw => by obtain ⟨k, hk, rfl⟩ := List.mem_map.mp hw; exact xlm6 k (List.mem_range.mp hk), ⟨tyX6, tyX6_ok, xkma xlk6⟩, nmX6⟩
  | 7, h => cases h; exact ⟨fun w hw => by obtain ⟨k, hk, rfl⟩ := List.mem_map.mp hw; exact xlm7 k (List.mem_range.mp hk), ⟨tyX7, tyX7_ok, xkma xlk7⟩, nmX7⟩
  | 8, h => cases h; exact ⟨fun w hw => by obtain ⟨k, hk, rfl⟩ := List.mem_map.mp hw; exact xlm8 k (List.mem_range.mp hk), ⟨tyX8, tyX8_ok, xkma xlk8⟩, nmX8⟩
  | 9, h => cases h; exact ⟨fun w hw => by obtain ⟨k, hk, rfl⟩ := List.mem_map.mp hw; exact xlm9 k (List.mem_range.mp hk), ⟨tyX9, tyX9_ok, xkma xlk9⟩, nmX9⟩
  | 10, h => cases h; exact ⟨fun w hw => by obtain ⟨k, hk, rfl⟩ := List.mem_map.mp hw; exact xlm10 k (List.mem_range.mp hk), ⟨tyX10, tyX10_ok, xkma xlk10⟩, nmX10⟩
  | 11, h => cases h; exact ⟨fun w hw => by obtain ⟨k, hk, rfl⟩ := List.mem_map.mp hw; exact xlm11 k (List.mem_range.mp hk), ⟨tyX11, tyX11_ok, xkma xlk11⟩, nmX11⟩
  | 12, h => cases h; exact ⟨fun w hw => by obtain ⟨k, hk, rfl⟩ := List.mem_map.mp hw; exact xlm12 k (List.mem_range.mp hk), ⟨tyX12, tyX12_ok, xkma xlk12⟩, nmX12⟩
  | n + 13, h => cases h
theorem xGl_ok : xGl := ⟨xcg_ok, List.forall_mem_cons.mpr ⟨xt4 (List.mem_of_getElem? (i := 153) rfl) rfl, List.forall_mem_cons.mpr ⟨xt4 (List.mem_of_getElem? (i := 154) rfl) rfl, List.forall_mem_cons.mpr ⟨xt4 (List.mem_of_getElem? (i := 155) rfl) rfl, fun _ h => absurd h List.not_mem_nil⟩⟩⟩, List.forall_mem_cons.mpr ⟨xt4 (List.mem_of_getElem? (i := 106) rfl) rfl, List.forall_mem_cons.mpr ⟨xt5 (List.mem_of_getElem? (i := 95) rfl) rfl, List.forall_mem_cons.mpr ⟨xt5 (List.mem_of_getElem? (i := 54) rfl) rfl, List.forall_mem_cons.mpr ⟨xt4 (List.mem_of_getElem? (i := 3) rfl) rfl, List.forall_mem_cons.mpr ⟨xt3 (List.mem_of_getElem? (i := 237) rfl) rfl, List.forall_mem_cons.mpr ⟨xt3 (List.mem_of_getElem? (i := 238) rfl) rfl, List.forall_mem_cons.mpr ⟨xt4 (List.mem_of_getElem? (i := 119) rfl) rfl, List.forall_mem_cons.mpr ⟨xt4 (List.mem_of_getElem? (i := 120) rfl) rfl, List.forall_mem_cons.mpr ⟨xt8 (List.mem_of_getElem? (i := 166) rfl) rfl, List.forall_mem_cons.mpr ⟨xt4 (List.mem_of_getElem? (i := 176) rfl) rfl, List.forall_mem_cons.mpr ⟨xt4 (List.mem_of_getElem? (i := 177) rfl) rfl, List.forall_mem_cons.mpr ⟨xt4 (List.mem_of_getElem? (i := 178) rfl) rfl, fun _ h => absurd h List.not_mem_nil⟩⟩⟩⟩⟩⟩⟩⟩⟩⟩⟩⟩⟩
theorem cnX_lt {t : Nat} (h : 0 < cnX t) : t < 54 ∨ t = 99 := by
  by_cases h1 : t < 100
  · exact (show ∀ t, t < 100 → 0 < cnX t → t < 54 ∨ t = 99 by decide +kernel) t h1 h
  · exfalso
    have e : ∀ c, c ≤ 100 → Nat.blt t c = false := fun c hc => by
      cases hb : Nat.blt t c with
      | false => rfl
      | true => exact absurd (Nat.blt_eq.mp hb) (by omega)
    simp [cnX, e] at h
theorem xck_r : ((List.range 54).all fun t => (kdX t).1 != 0 || (List.range (cnX t)).all fun k => (List.range (fkX (kdX t).2).length).all fun f => (fkX (kdX t).2)[f]? != some 2 || decide ((rfX (t, k) f).2 < cnX (rfX (t, k) f).1)) = true := by decide +kernel
theorem xEcX_ok : xEc eX := by
  refine ⟨rfl, fun r ci f hr hk hf => ?_, fun r n j hr hk hj => ?_, rfl, rfl⟩
  · obtain ⟨t, k⟩ := r
    obtain ⟨h1, h2⟩ := hr
    have h1 : k < cnX t := h1
    have hk : kdX t = (0, ci) := hk
    have ht : t < 54 := by
      rcases cnX_lt (t := t) (by omega) with h | h
      · exact h
      · exact absurd h h2
    have h3 := List.all_eq_true.mp xck_r t (List.mem_range.mpr ht)
    rw [hk] at h3
    have h4 := List.all_eq_true.mp (by simpa using h3 : ((List.range (cnX t)).all fun k => (List.range (fkX ci).length).all fun f => (fkX ci)[f]? != some 2 || decide ((rfX (t, k) f).2 < cnX (rfX (t, k) f).1)) = true) k (List.mem_range.mpr h1)
    have h5 := List.all_eq_true.mp h4 f (List.mem_range.mpr (List.getElem?_eq_some_iff.mp hf).1)
    rw [hf] at h5
    simpa using h5
  · obtain ⟨t, k⟩ := r
    obtain ⟨h1, h2⟩ := hr
    have h1 : k < cnX t := h1
    have hk : kdX t = (5, n) := hk
    have ht : t < 54 := by
      rcases cnX_lt (t := t) (by omega) with h | h
      · exact h
      · exact absurd h h2
    have hn : n = 9 := by
      have h3 : (kdX t).1 = 5 → (kdX t).2 = 9 := (show ∀ t, t < 54 → (kdX t).1 = 5 → (kdX t).2 = 9 by decide +kernel) t ht
      rw [hk] at h3
      exact h3 rfl
    subst hn
    exact (show ∀ t, t < 54 → kdX t = (5, 9) → ∀ k, k < cnX t → ∀ f, f < 9 → (rfX (t, k) f).2 < cnX (rfX (t, k) f).1 by decide +kernel) t ht hk k h1 j hj
theorem xEcM_ok : xEc eM := by
  refine ⟨rfl, fun r ci f hr hk hf => ?_, fun r n j hr hk hj => ?_, rfl, rfl⟩
  · obtain ⟨t, k⟩ := r
    have hk : kdM t = (0, ci) := hk
    have hci : ci = 12 := by
      by_cases h1 : t < 200
      · have h3 : (kdM t).1 = 0 → (kdM t).2 = 12 := (show ∀ t, t < 200 → (kdM t).1 = 0 → (kdM t).2 = 12 by decide +kernel) t h1
        rw [hk] at h3
        exact h3 rfl
      · exfalso
        have e : ∀ c, c ≤ 200 → Nat.blt t c = false := fun c hc => by
          cases hb : Nat.blt t c with
          | false => rfl
          | true => exact absurd (Nat.blt_eq.mp hb) (by omega)
        simp [kdM, e] at hk
    subst hci
    exact (show ∀ f, f < (fkX 12).length → (fkX 12)[f]? = some 2 → 0 < cnM (100 + f) by decide +kernel) f (List.getElem?_eq_some_iff.mp hf).1 hf
  · obtain ⟨t, k⟩ := r
    have hk : kdM t = (5, n) := hk
    exfalso
    by_cases h1 : t < 200
    · have h3 : (kdM t).1 ≠ 5 := (show ∀ t, t < 200 → (kdM t).1 ≠ 5 by decide +kernel) t h1
      rw [hk] at h3
      exact h3 rfl
    · have e : ∀ c, c ≤ 200 → Nat.blt t c = false := fun c hc => by
        cases hb : Nat.blt t c with
        | false => rfl
        | true => exact absurd (Nat.blt_eq.mp hb) (by omega)
      simp [kdM, e] at hk
