/-! meanScore -/
def mnV (dn : Int32) (sc : Nat → Int32) : UInt64 := if dn = 0 then 0 else FP.ddiv (FP.i2d (sc 0 + sc 1)) (FP.i2d dn)
section
variable {l : Launch} {d k : Nat} {Q : am_Q} {st : Nat} {dn : Int32} {h : Nat → Int32} {c L : Nat → Nat} {sz pl tr tu : Nat} {rv : Int32} {t : am_T5} {b : Nat → Nat} {n dl ll lb ti pa : Nat} {tk : Nat → Nat} {sc : Nat → Int32} {r : am_M}
theorem cl_57 (hl : l.stackTraces = false) (hd : 1 ≤ d) (hq : Q (.inl (some (Value.double (mnV dn sc)))) (wt st dn h c L sz pl rv tr tu t b n dl ll lb ti pa tk sc r)) : am_Call l d 57 k [.ref 0] (wt st dn h c L sz pl rv tr tu t b n dl ll lb ti pa tk sc r) Q := by
  refine op_57 hl (by omega) (Nat.le_of_ble_eq_true rfl) (fun J hJ => hJ [] 100 _ _ _ _ _ ⟨fun q => ?_, fun q => ⟨nI_in (c := 0) (by omega) (by omega), nI_in (c := 1) (by omega) (by omega), fq_ddiv _ _ q, ?_⟩⟩)
  · rw [mnV, if_pos q] at hq
    exact hq
  · rw [mnV, if_neg q] at hq
    exact hq
end
