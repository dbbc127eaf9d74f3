abbrev cT (st dov : Int32) : am_E := .inr (2, [.ref 1, .ref 5, .ref 9, .ref 11, .ref 12, .int st, .int dov])
abbrev cC (a : Nat) (sz pl rv tr tu : Int32) : am_E := .inr (1, [.ref a, .ref (a + 1), .ref (a + 2), .int sz, .int pl, .int rv, .int tr, .int tu])
abbrev cI (n : Nat) (f : Nat → Int32) : am_E := .inl (0, n, .inl f)
abbrev cA (ct de ll lb ti pa : Int32) : am_E := .inr (0, [.ref 10, .int ct, .int de, .int ll, .int lb, .int ti, .int pa])
section
variable {l : Launch} {d k : Nat} {w : am_M} {Q : am_Q}
theorem am_q1 {x y : Int32} {w' : am_M} (hx : x = y) (hw : w = w') (h : Q (.inl (some (.int y))) w') : Q (.inl (some (.int x))) w := by rw [hx, hw]; exact h
theorem cl_84 (hl : l.stackTraces = false) (hd : 1 ≤ d) {p : Int32} (h : Q (.inl (some (.int (p &&& 1)))) w) : am_Call l d 84 k [.int p] w Q :=
  op_84 hl hd (Nat.le_of_ble_eq_true rfl) (fun J hJ => hJ [] 100 _ _ _ _ _ h)
theorem cl_85 (hl : l.stackTraces = false) (hd : 1 ≤ d) {p : Int32} (h : Q (.inl (some (.int ((p + 1) &&& 3)))) w) : am_Call l d 85 k [.int p] w Q :=
  op_85 hl hd (Nat.le_of_ble_eq_true rfl) (fun J hJ => hJ [] 100 _ _ _ _ _ h)
theorem cl_86 (hl : l.stackTraces = false) (hd : 1 ≤ d) {s c : Int32} {b : Bool} (hb : b = true ↔ ((s.toUInt32 >>> (c.toUInt32 &&& Int32.toUInt32 31)).toInt32 &&& 1) = 1) (h : Q (.inl (some (.int (bif b then 1 else 0)))) w) : am_Call l d 86 k [.int s, .int c] w Q := by
  refine op_86 hl hd (Nat.le_of_ble_eq_true rfl) (fun J hJ => hJ [] 100 _ _ _ _ _ ⟨fun c => ⟨by decide, ?_⟩, fun c => ⟨by decide, ?_⟩⟩)
  · rw [show b = true from hb.mpr c] at h
    exact h
  · rw [show b = false from Bool.eq_false_iff.mpr (fun q => c (hb.mp q))] at h
    exact h
theorem cl_70 (hl : l.stackTraces = false) (hd : 1 ≤ d) {p : Int32} (hk : 1 ≤ k) (h1 : 0 ≤ p → p < 4 → Q (.inl none) w) (h2 : ¬ (0 ≤ p ∧ p < 4) → Q (.inr 1) w) : am_Call l d 70 k [.int p] w Q := by
  refine op_70 hl hd (Nat.le_of_ble_eq_true rfl) (fun J hJ => hJ [] 100 _ _ _ _ _ ⟨fun c => ⟨hk, h2 ?_⟩, fun c => ⟨fun c' => h1 ?_ ?_, fun c' => ⟨hk, h2 ?_⟩⟩⟩)
  all_goals sorry
theorem cl_20 (hl : l.stackTraces = false) (hd : 1 ≤ d) {st dv sz pl rv tr tu : Int32} {hh : Nat → Int32} {j : Nat} (hj : j < 4) {R : am_M} (h : Q (.inl (some (.int (hh j)))) (cT st dv :: cC 2 sz pl rv tr tu :: cI 4 hh :: R)) : am_Call l d 20 k [.ref 1, .int (nI j)] (cT st dv :: cC 2 sz pl rv tr tu :: cI 4 hh :: R) Q := by
  have e : nI j &&& 3 = nI j := by
    rw [pk_andN (by omega) 2 (by decide)]
    congr 1
    omega
  refine op_20 hl hd (Nat.le_of_ble_eq_true rfl) (fun J hJ => hJ [] 100 _ _ _ _ _ ⟨?_, am_q1 ?_ rfl h⟩)
  · show vp_in (nI j &&& 3) 4
    rw [e]
    exact vp_in_nI hj (by omega)
  · show hh (nI j &&& 3).toNatClampNeg = _
    rw [e, nI_clamp (by omega)]
theorem cl_22 (hl : l.stackTraces = false) (hd : 2 ≤ d) {st dv sz pl rv tr tu : Int32} {hh : Nat → Int32} {j : Nat} {c : Int32} (hj : j < 4) {R : am_M} (h : Q (.inl none) (cT st dv :: cC 2 sz pl rv tr tu :: cI 4 (upd hh j (hh j ||| (1 <<< (c &&& 31)))) :: R)) : am_Call l d 22 k [.ref 1, .int (nI j), .int c] (cT st dv :: cC 2 sz pl rv tr tu :: cI 4 hh :: R) Q := by
  have e : nI j &&& 3 = nI j := by
    rw [pk_andN (by omega) 2 (by decide)]
    congr 1
    omega
  refine op_22 hl (by omega) (Nat.le_of_ble_eq_true rfl) (fun J hJ => hJ [] 100 _ _ _ _ _ ⟨0, Nat.zero_le _, cl_20 hl (by omega) hj ⟨0, Nat.zero_le _, op_87 hl (by omega) (Nat.le_of_ble_eq_true rfl) (fun J' hJ' => hJ' [] 100 _ _ _ _ _ ⟨?_, ?_⟩)⟩⟩)
  · show vp_in (nI j &&& 3) 4
    rw [e]
    exact vp_in_nI hj (by omega)
  · show Q (.inl none) (cT st dv :: cC 2 sz pl rv tr tu :: cI 4 (upd hh (nI j &&& 3).toNatClampNeg (hh j ||| (1 <<< (c &&& 31)))) :: R)
    rw [e, nI_clamp (by omega)]
    exact h
end
