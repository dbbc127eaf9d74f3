/-! the law's run -/
section
variable {l : Launch} {d : Nat} {J : am_K}
theorem lw_gc0 {k tm : Nat} {w : am_M} {o2 o3 o4 o5 o6 : Option Value} (hGC : am_GC J) (h : J k 2 [some (.float 0), some (.int (nI tm)), none, none, none, none, none, none, none, none, none, none, none, none, none, none] [] []) : J k 2 [some (.float 0), some (.int (nI tm)), o2, o3, o4, o5, o6, none, none, none, none, none, none, none, none, none] [] w := by
  refine hGC k 2 _ [some (.float 0), some (.int (nI tm)), none, none, none, none, none, none, none, none, none, none, none, none, none, none] w [] (fun j => j) (fun j e he => by cases he) (fun i j hi => absurd hi (Nat.not_lt_zero _)) rfl ?_ (fun e he => absurd he List.not_mem_nil) ?_ h
  · intro j v hv
    match j, hv with
    | 0, hv => cases hv; rfl
    | 1, hv => cases hv; rfl
    | 2, hv => cases hv
    | 3, hv => cases hv
    | 4, hv => cases hv
    | 5, hv => cases hv
    | 6, hv => cases hv
    | 7, hv => cases hv
    | 8, hv => cases hv
    | 9, hv => cases hv
    | 10, hv => cases hv
    | 11, hv => cases hv
    | 12, hv => cases hv
    | 13, hv => cases hv
    | 14, hv => cases hv
    | 15, hv => cases hv
    | j + 16, hv => cases hv
  · intro v hv
    simp at hv
    rcases hv with rfl | rfl <;> trivial
set_option maxRecDepth 40000 in
theorem lk_times (hl : l.stackTraces = false) (hd : 60 ≤ d) (hJ : LJ l d J) (hGC : am_GC J) : ∀ (m tm k : Nat), tm + m = 3 → 600 * m ≤ k → J k 2 [some (.float 0), some (.int (nI tm)), none, none, none, none, none, none, none, none, none, none, none, none, none, none] [] [] := by
  intro m
  induction m with
  | zero =>
    intro tm k htm hk
    have htm' : tm = 3 := htm
    subst htm'
    exact hJ [] 100 _ _ _ _ _ ⟨fun _ => rfl, fun q => absurd (by decide) q⟩
  | succ m ih =>
    intro tm k htm hk
    obtain ⟨k2, rfl⟩ : ∃ k2, k = k2 + 28 := ⟨k - 28, by omega⟩
    have e1 : 31 * nI tm + 7 = nI (31 * tm + 7) := by
      rw [show (31 : Int32) = nI 31 from rfl, show (7 : Int32) = nI 7 from rfl, pk_mul, nI_add]
    have e2 : nI tm + 1 = nI (tm + 1) := nI_add tm 1
    have hin : ∀ {Q : am_Q}, Q (.inl none) (wD0 (31 * tm + 7)) → am_Call l d 92 27 [.ref 0, .float 0, .int (31 * nI tm + 7)] [fD0] Q := by
      intro Q hq
      rw [e1]
      exact cl_92 hl (by omega) hq
    refine hJ [22] 100 _ _ _ _ _ (ble (a := 3) (b := tm) (by omega) (by omega) (fun q => absurd q (by omega)) (fun _ => ⟨27, Nat.le_add_left _ _, hin ?_⟩))
    have h34 : J k2 34 [some (.float 0), some (.int (nI tm)), some (.ref 0), some (.ref 1), some (.int (nI 0)), some (.int (nI 0)), none, none, none, none, none, none, none, none, none, none] [] (wD0 (31 * tm + 7)) := by
      refine lk_deals (tm := tm) (kE := 600 * m) hl hd hJ hGC (fun k3 w s0 y6 hk3 => ?_) 3 0 k2 (31 * tm + 7) 0 0 0 none _ rfl (by omega) (by omega) (by omega) (Nat.le_refl _) (wD0_NZ _)
      have := lw_gc0 (tm := tm + 1) (w := w) (o2 := some (.ref 0)) (o3 := some (.ref 1)) (o4 := some (.int (nI s0))) (o5 := some (.int (nI 3))) (o6 := y6) hGC (ih (tm + 1) k3 (by omega) hk3)
      rw [← e2] at this
      exact hJ [2] 100 _ _ _ _ _ this
    exact hJ [34] 100 _ _ _ _ _ h34
theorem law_run (hl : l.stackTraces = false) (hd : 60 ≤ d) (hJ : LJ l d J) (hGC : am_GC J) {k : Nat} (hk : 1800 ≤ k) : J k 0 [some (.float 0), none, none, none, none, none, none, none, none, none, none, none, none, none, none, none] [] [] :=
  hJ [2] 100 _ _ _ _ _ (lk_times hl hd hJ hGC 3 0 k rfl (by omega))
end
