/-! contracts: constructors; meanScore -/
def Z4 : Nat → Int32 := fun _ => 0
def zN : Nat → Nat := fun _ => 0
def t0 : am_T5 := (fun _ => 0, zN, zN, 0, 0, 0, 4, 0)
section
variable {l : Launch} {d k : Nat} {Q : am_Q} {x0 x1 x2 x3 x4 x5 x6 x7 x8 x9 x10 x11 x12 : am_E}
set_option maxRecDepth 40000 in
theorem cl_16_1 (hl : l.stackTraces = false) (hd : 1 ≤ d) (hq : Q (.inl none) (wc1 x0 (fun _ => 0) zN zN 0 0 0 4 0 [])) : am_Call l d 16 3 [.ref 1] [x0, .inr (1, [.null, .null, .null, .int 0, .int 0, .int 0, .int 0, .int 0])] Q :=
  op_16 hl (by omega) (Nat.le_of_ble_eq_true rfl) (fun J hJ => hJ [] 100 _ _ _ _ _ ⟨4, rfl, by omega, 32, rfl, by omega, 9, rfl, by omega, hq⟩)
set_option maxRecDepth 40000 in
theorem cl_16_5 (hl : l.stackTraces = false) (hd : 1 ≤ d) (hq : Q (.inl none) (wc5 x0 x1 x2 x3 x4 (fun _ => 0) zN zN 0 0 0 4 0 [])) : am_Call l d 16 3 [.ref 5] [x0, x1, x2, x3, x4, .inr (1, [.null, .null, .null, .int 0, .int 0, .int 0, .int 0, .int 0])] Q :=
  op_16 hl (by omega) (Nat.le_of_ble_eq_true rfl) (fun J hJ => hJ [] 100 _ _ _ _ _ ⟨4, rfl, by omega, 32, rfl, by omega, 9, rfl, by omega, hq⟩)
set_option maxRecDepth 40000 in
theorem cl_0 (hl : l.stackTraces = false) (hd : 1 ≤ d) (hq : Q (.inl none) (wa9 x0 x1 x2 x3 x4 x5 x6 x7 x8 zN 0 0 0 0 1 0 [])) : am_Call l d 0 1 [.ref 9] [x0, x1, x2, x3, x4, x5, x6, x7, x8, .inr (0, [.null, .int 0, .int 0, .int 0, .int 0, .int 0, .int 0])] Q :=
  op_0 hl (by omega) (Nat.le_of_ble_eq_true rfl) (fun J hJ => hJ [] 100 _ _ _ _ _ ⟨364, rfl, by omega, hq⟩)
set_option maxRecDepth 40000 in
theorem cl_40 (hl : l.stackTraces = false) (hd : 2 ≤ d) (hq : Q (.inl none) (wt 0 0 (fun _ => 0) zN zN 0 0 0 4 0 t0 zN 0 0 0 0 1 0 zN (fun _ => 0) [])) : am_Call l d 40 12 [.ref 0] [.inr (2, [.null, .null, .null, .null, .null, .int 0, .int 0])] Q := by
  refine op_40 hl (by omega) (Nat.le_of_ble_eq_true rfl) (fun J hJ => ?_)
  refine hJ [15] 100 _ _ _ _ _ ⟨3, Nat.le_of_ble_eq_true rfl, cl_16_1 hl (by omega) ?_⟩
  refine hJ [26] 100 _ _ _ _ _ ⟨3, Nat.le_of_ble_eq_true rfl, cl_16_5 hl (by omega) ?_⟩
  refine hJ [37] 100 _ _ _ _ _ ⟨1, Nat.le_of_ble_eq_true rfl, cl_0 hl (by omega) ?_⟩
  exact hJ [] 100 _ _ _ _ _ ⟨2, rfl, by omega, 2, rfl, by omega, hq⟩
/-- the model, as it is made -/
def cm0 : am_M :=
  .inr (3, [.int (nI 0), .int (nI 0), .int (nI 0), .int (nI 0), .ref 14, .int (nI 0), .ref 15, .int (-1), .int (nI 0), .int (nI 0), .int (nI 0), .int (nI 0), .ref 16, .int (nI 0), .int (nI 0), .ref 17, .ref 18, .ref 19, .ref 20, .ref 21, .int 0, .ref 22]) ::
  .inl (0, 4, .inl (fun _ => 0)) :: .inl (0, 32, .inl (fun i => nI (zN i))) :: .inl (0, 48, .inl (fun i => nI (zN i))) :: .inl (0, 4, .inl (fun i => nI (zN i))) :: .inl (0, 4, .inl (fun i => nI (zN i))) :: .inl (1, 4, .inl (fun i => bI ((fun _ => false) i))) :: .inl (0, 2, .inl (fun i => nI (zN i))) :: .inl (0, 2, .inl (fun _ => 0)) :: .inl (3, 5, .inr (.inr (am_rows 22))) ::
  .inl (0, 4, .inl (fun i => nI (zN i))) :: .inl (0, 4, .inl (fun i => nI (zN i))) :: .inl (0, 4, .inl (fun i => nI (zN i))) :: .inl (0, 4, .inl (fun i => nI (zN i))) :: .inl (0, 4, .inl (fun i => nI (zN i))) :: []
set_option maxRecDepth 40000 in
theorem cl_92 (hl : l.stackTraces = false) (hd : 1 ≤ d) (hq : Q (.inl none) (x0 :: x1 :: x2 :: x3 :: x4 :: x5 :: x6 :: x7 :: x8 :: x9 :: x10 :: x11 :: x12 :: cm0)) : am_Call l d 92 14 [.ref 13] [x0, x1, x2, x3, x4, x5, x6, x7, x8, x9, x10, x11, x12, .inr (3, [.int 0, .int 0, .int 0, .int 0, .null, .int 0, .null, .int 0, .int 0, .int 0, .int 0, .int 0, .null, .int 0, .int 0, .null, .null, .null, .null, .null, .int 0, .null])] Q := by
  refine op_92 hl (by omega) (Nat.le_of_ble_eq_true rfl) (fun J hJ => ?_)
  refine hJ [27] 100 _ _ _ _ _ ⟨4, rfl, by omega, 32, rfl, by omega, 48, rfl, by omega, ?_⟩
  refine hJ [48] 100 _ _ _ _ _ ⟨4, rfl, by omega, 4, rfl, by omega, 4, rfl, by omega, ?_⟩
  exact hJ [] 100 _ _ _ _ _ ⟨2, rfl, by omega, 2, rfl, by omega, rfl, rfl, Nat.le_of_ble_eq_true rfl, hq⟩
end
section
variable {l : Launch} {d k : Nat} {Q : am_Q} {st : Nat} {dn : Int32} {h : Nat → Int32} {c L : Nat → Nat} {sz pl tr tu : Nat} {rv : Int32} {t : am_T5} {b : Nat → Nat} {n dl ll lb ti pa : Nat} {tk : Nat → Nat} {sc : Nat → Int32} {r : am_M}
theorem cl_57 (hl : l.stackTraces = false) (hd : 1 ≤ d) (hq : Q (.inl (some (Value.double (mnV dn sc)))) (wt st dn h c L sz pl rv tr tu t b n dl ll lb ti pa tk sc r)) : am_Call l d 57 k [.ref 0] (wt st dn h c L sz pl rv tr tu t b n dl ll lb ti pa tk sc r) Q := by
  refine op_57 hl (by omega) (Nat.le_of_ble_eq_true rfl) (fun J hJ => hJ [] 100 _ _ _ _ _ ⟨fun q => ?_, fun q => ⟨nI_in (c := 0) (by omega) (by omega), nI_in (c := 1) (by omega) (by omega), fq_ddiv _ _ q, ?_⟩⟩)
  · rw [mnV, if_pos q] at hq
    exact hq
  · rw [mnV, if_neg q] at hq
    exact hq
end
