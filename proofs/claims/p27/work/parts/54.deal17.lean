/-! constructors: the worlds as they are made -/
def Z4 : Nat → Int32 := fun _ => 0
def zN : Nat → Nat := fun _ => 0
def t0 : am_T5 := (fun _ => 0, zN, zN, 0, 0, 0, 4, 0)
theorem zb_0 : zb 0 = fun _ => 0 := by
  funext i
  show bI (bt 0 i) = 0
  rw [b_0]
  rfl
abbrev fC0 : am_E := .inr (1, [.null, .null, .null, .int 0, .int 0, .int 0, .int 0, .int 0])
abbrev fA0 : am_E := .inr (0, [.null, .int 0, .int 0, .int 0, .int 0, .int 0, .int 0])
abbrev fT0 : am_E := .inr (2, [.null, .null, .null, .null, .null, .int 0, .int 0])
abbrev fD0 : am_E := .inr (3, [.null, .null, .int 0, .int 0, .int 0, .int 0, .null, .null, .null, .null, .int 0, .null, .null, .null, .null, .null, .null, .int 0])
abbrev fR4 : am_E := .inl (0, 4, .inl (fun _ => 0))
abbrev fR32 : am_E := .inl (0, 32, .inl (fun _ => 0))
abbrev fR9 : am_E := .inl (0, 9, .inl (fun _ => 0))
abbrev fR364 : am_E := .inl (0, 364, .inl (fun _ => 0))
abbrev fR2 : am_E := .inl (0, 2, .inl (fun _ => 0))
abbrev fZ4 : am_E := .inl (1, 4, .inl (fun _ => 0))
abbrev fZ32 : am_E := .inl (1, 32, .inl (fun _ => 0))
abbrev fC (q : Nat) : am_E := .inr (1, [.ref q, .ref (q + 1), .ref (q + 2), .int 0, .int 0, .int 0, .int 4, .int 0])
section
variable {l : Launch} {d k : Nat} {Q : am_Q} {x0 x1 x2 x3 x4 x5 x6 x7 x8 x9 : am_E}
set_option maxRecDepth 40000 in
theorem cl_16_2 (hl : l.stackTraces = false) (hd : 1 ≤ d) (hq : Q (.inl none) [x0, x1, fC 3, fR4, fR32, fR9]) : am_Call l d 16 3 [.ref 2] [x0, x1, fC0] Q :=
  op_16 hl (by omega) (Nat.le_of_ble_eq_true rfl) (fun J hJ => hJ [] 100 _ _ _ _ _ ⟨4, rfl, by omega, 32, rfl, by omega, 9, rfl, by omega, hq⟩)
set_option maxRecDepth 40000 in
theorem cl_16_6 (hl : l.stackTraces = false) (hd : 1 ≤ d) (hq : Q (.inl none) [x0, x1, x2, x3, x4, x5, fC 7, fR4, fR32, fR9]) : am_Call l d 16 3 [.ref 6] [x0, x1, x2, x3, x4, x5, fC0] Q :=
  op_16 hl (by omega) (Nat.le_of_ble_eq_true rfl) (fun J hJ => hJ [] 100 _ _ _ _ _ ⟨4, rfl, by omega, 32, rfl, by omega, 9, rfl, by omega, hq⟩)
set_option maxRecDepth 40000 in
theorem cl_0_10 (hl : l.stackTraces = false) (hd : 1 ≤ d) (hq : Q (.inl none) [x0, x1, x2, x3, x4, x5, x6, x7, x8, x9, .inr (0, [.ref 11, .int 0, .int 0, .int 0, .int 0, .int 1, .int 0]), fR364]) : am_Call l d 0 1 [.ref 10] [x0, x1, x2, x3, x4, x5, x6, x7, x8, x9, fA0] Q :=
  op_0 hl (by omega) (Nat.le_of_ble_eq_true rfl) (fun J hJ => hJ [] 100 _ _ _ _ _ ⟨364, rfl, by omega, hq⟩)
set_option maxRecDepth 40000 in
theorem cl_40_1 (hl : l.stackTraces = false) (hd : 2 ≤ d) (hq : Q (.inl none) [x0, .inr (2, [.ref 2, .ref 6, .ref 10, .ref 12, .ref 13, .int 0, .int 0]), fC 3, fR4, fR32, fR9, fC 7, fR4, fR32, fR9, .inr (0, [.ref 11, .int 0, .int 0, .int 0, .int 0, .int 1, .int 0]), fR364, fR2, fR2]) : am_Call l d 40 12 [.ref 1] [x0, fT0] Q := by
  refine op_40 hl (by omega) (Nat.le_of_ble_eq_true rfl) (fun J hJ => ?_)
  refine hJ [15] 100 _ _ _ _ _ ⟨3, Nat.le_of_ble_eq_true rfl, cl_16_2 hl (by omega) ?_⟩
  refine hJ [26] 100 _ _ _ _ _ ⟨3, Nat.le_of_ble_eq_true rfl, cl_16_6 hl (by omega) ?_⟩
  refine hJ [37] 100 _ _ _ _ _ ⟨1, Nat.le_of_ble_eq_true rfl, cl_0_10 hl (by omega) ?_⟩
  exact hJ [] 100 _ _ _ _ _ ⟨2, rfl, by omega, 2, rfl, by omega, hq⟩
/-- the Deal, as it is made -/
def wD0 (dr : Nat) : am_M := [.inr (3, [.ref 1, .float 0, .int (nI dr), .int 0, .int 0, .int 0, .ref 14, .ref 19, .ref 20, .ref 21, .int 0, .ref 22, .ref 23, .ref 24, .ref 25, .ref 26, .ref 27, .int 0]), .inr (2, [.ref 2, .ref 6, .ref 10, .ref 12, .ref 13, .int 0, .int 0]), fC 3, fR4, fR32, fR9, fC 7, fR4, fR32, fR9, .inr (0, [.ref 11, .int 0, .int 0, .int 0, .int 0, .int 1, .int 0]), fR364, fR2, fR2,
  .inl (4, 4, .inr (.inr (am_rows 14))), fZ32, fZ32, fZ32, fZ32, eZ0, eZ0, eT0, eZ0, fZ4, fZ4, fZ4, fR2, fR2]
set_option maxRecDepth 40000 in
theorem cl_92 (hl : l.stackTraces = false) (hd : 3 ≤ d) {dr : Nat} (hq : Q (.inl none) (wD0 dr)) : am_Call l d 92 27 [.ref 0, .float 0, .int (nI dr)] [fD0] Q := by
  refine op_92 hl (by omega) (Nat.le_of_ble_eq_true rfl) (fun J hJ => ?_)
  refine hJ [12] 100 _ _ _ _ _ ⟨12, Nat.le_of_ble_eq_true rfl, cl_40_1 hl (by omega) ?_⟩
  refine hJ [26] 100 _ _ _ _ _ ⟨rfl, rfl, Nat.le_of_ble_eq_true rfl, ?_⟩
  refine hJ [48] 100 _ _ _ _ _ ⟨0, rfl, by omega, 0, rfl, by omega, 0, rfl, by omega, ?_⟩
  refine hJ [76] 100 _ _ _ _ _ ⟨0, rfl, by omega, 4, rfl, by omega, 4, rfl, by omega, 4, rfl, by omega, ?_⟩
  exact hJ [] 100 _ _ _ _ _ ⟨2, rfl, by omega, 2, rfl, by omega, hq⟩
end
theorem wD0_NZ (dr : Nat) : NZ dr 0 0 0 (wD0 dr) := by
  refine ⟨0, 0, 0, 0, fun _ => 0, zN, zN, 0, 0, 0, 4, 0, t0, zN, 0, 0, 0, 0, 1, 0, zN, fun _ => 0, fun _ => 0, eZ0, eZ0, eT0, eZ0, fun _ => 0, fun _ => 0, fun _ => 0, fun _ => 0, fun _ => 0, [], 0, 0, ?_, ?_, ?_, ?_, ?_⟩
  · unfold wd
    rw [zb_0]
    rfl
  · refine ⟨⟨by omega, by omega, ⟨fun j hj => absurd hj (Nat.not_lt_zero j), rfl, fun e => absurd e (Nat.lt_irrefl _), by omega, rfl, Or.inl ⟨rfl, rfl, rfl⟩, fun _ => ⟨rfl, rfl⟩, fun e => absurd e (Nat.lt_irrefl _)⟩⟩, fun _ => ⟨rfl, rfl, rfl, fun q hq => ?_⟩, fun e => absurd e (by omega), fun e => absurd e (by omega), fun e => absurd e (by omega), ⟨by omega, by omega, by omega, by omega, by omega⟩, fun i hi => absurd hi (Nat.not_lt_zero i), fun j hj => (by decide : (0 : Nat) < 4), fun i _ _ => b_0 i, rfl, fun e => (by cases e)⟩
    show pc 0 ≤ 8
    rw [pc_zero.mpr rfl]
    omega
  · exact fun e => absurd e (by decide)
  · exact ⟨rfl, rfl, by omega, fun e => absurd e (by decide), fun p hp => rfl, rfl, 0, 0, rfl, rfl, rfl⟩
  · refine ⟨fun _ => 0, fun _ => 0, fun _ => 0, 0, ⟨rfl, fun j hj => absurd hj (Nat.not_lt_zero j)⟩, ⟨rfl, fun j hj => absurd hj (Nat.not_lt_zero j)⟩, ⟨rfl, fun e => absurd e (by decide)⟩, ?_, rfl, fun i hi => absurd hi (Nat.not_lt_zero i)⟩
    show eT0 = .inl (3, 0, .inr (.inr (NF 0)))
    congr 4
