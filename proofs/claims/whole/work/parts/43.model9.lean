/-! contracts: the model's digest; both classes' constructors -/
section
variable {l : Launch} {d k : Nat} {Q : am_Q} {x0 x1 x2 x3 x4 x5 x6 x7 x8 x9 x10 x11 x12 : am_E} {th st dl sz : Nat} {h : Nat → Int32} {n bq : Nat} {lv : Int32} {tr dc ti tc : Nat} {T : Nat → Nat} {ld ly : Nat} {K V : Nat → Nat} {I : Nat → Bool} {tk : Nat → Nat} {sc : Nat → Int32} {dn : Int32} {R : Nat → Nat → Nat} {e5 eo : am_E} {r : am_M} {N : Nat} {bm : Nat → Nat} {kp : Nat}
theorem cl_147 (hl : l.stackTraces = false) (hd : 40 ≤ d) (hst : st < 4) (htr : tr ≤ 4) (hdl : dl < 4) (hG : GM st h K ld ly kp) (hV : ∀ p, p < 4 → V p ≤ 100) (htc : tc ≤ 8) (hb : bqA bq e5 r N bm) (hnN : n ≤ N) (hN : N ≤ 1000) (hq : ∀ R', Q (.inl (some (Value.long (digM st dn h n dl lv tr dc ti tc T ld ly K V tk sc bm kp)))) (wm x0 x1 x2 x3 x4 x5 x6 x7 x8 x9 x10 x11 x12 0 st dl sz h n bq lv tr dc ti tc T ld ly K V I tk sc dn R' e5 eo r)) : am_Call l d 147 k [.ref 13] (wm x0 x1 x2 x3 x4 x5 x6 x7 x8 x9 x10 x11 x12 th st dl sz h n bq lv tr dc ti tc T ld ly K V I tk sc dn R e5 eo r) Q := by
  obtain ⟨g1, g2, g3, _⟩ := hG
  unfold digM at hq
  refine op_147 hl (by omega) (Nat.le_of_ble_eq_true rfl) (fun J hJ => ?_)
  obtain ⟨d1, hd1⟩ : ∃ d1, d1 = fdN 968 (nowM st dn n dl tc ld ly tr K) 8 := ⟨_, rfl⟩
  obtain ⟨d2, hd2⟩ : ∃ d2, d2 = fdN d1 (conM lv tr dc ti) 4 := ⟨_, rfl⟩
  obtain ⟨d3, hd3⟩ : ∃ d3, d3 = fdN d2 (fun j => nI (bm j)) n := ⟨_, rfl⟩
  obtain ⟨d4, hd4⟩ : ∃ d4, d4 = fdN d3 (fun i => nI (T i)) (6 * tc) := ⟨_, rfl⟩
  obtain ⟨v5, hv5⟩ : ∃ v : Nat → Int32, v = fun i => sideM V tk sc (i / 3) (i % 3) := ⟨_, rfl⟩
  obtain ⟨d5, hd5⟩ : ∃ d5, d5 = fdN d4 v5 6 := ⟨_, rfl⟩
  obtain ⟨v6, hv6⟩ : ∃ v : Nat → Int32, v = fun i => handV h (i / 15) (i / 3 % 5) (i % 3) := ⟨_, rfl⟩
  obtain ⟨d6, hd6⟩ : ∃ d6, d6 = fdN d5 v6 60 := ⟨_, rfl⟩
  obtain ⟨d7, hd7⟩ : ∃ d7, d7 = mx (mx d6 (bestM st h K ld ly tr kp)) (bcM st h K ld ly tr kp) := ⟨_, rfl⟩
  rw [← hd1, ← hd2, ← hd3, ← hd4, ← hv5, ← hd5, ← hv6, ← hd6, ← hd7] at hq
  have h256 : ∀ m i R' o4 o5, i + m = 5 → J k 256 [some (Value.ref 13), some (Value.long (fdN d7 (fun t => bestM st h K ld ly t kp) i)), none, some (Value.int (nI i)), o4, o5] [] (wm x0 x1 x2 x3 x4 x5 x6 x7 x8 x9 x10 x11 x12 0 st dl sz h n bq lv tr dc ti tc T ld ly K V I tk sc dn R' e5 eo r) := by
    intro m
    induction m with
    | zero =>
      intro i R' o4 o5 hi
      have : i = 5 := by omega
      subst this
      exact hJ [256] 100 _ _ _ _ _ ⟨fun _ => hq R', fun q => absurd (by decide) q⟩
    | succ m ih =>
      intro i R' o4 o5 hi
      refine hJ [256] 100 _ _ _ _ _ (ble (a := 5) (b := i) (by omega) (by omega) (fun q => absurd q (by omega)) (fun _ => ⟨0, Nat.zero_le _, cl_138 (th := 0) (R := R') hl (by omega) hst (by omega) ⟨g1, g2, g3, by assumption⟩ (fun R2 => ?_)⟩))
      refine am_jw (J := J) ?_ rfl rfl (ih (i + 1) R2 o4 o5 (by omega))
      rw [← nI_1]
      rfl
  have h228 : ∀ o3 o4 o5, J k 228 [some (Value.ref 13), some (Value.long d6), none, o3, o4, o5] [] (wm x0 x1 x2 x3 x4 x5 x6 x7 x8 x9 x10 x11 x12 0 st dl sz h n bq lv tr dc ti tc T ld ly K V I tk sc dn R e5 eo r) := by
    intro o3 o4 o5
    refine hJ [256] 100 _ _ _ _ _ ⟨0, Nat.zero_le _, cl_138 (th := 0) hl (by omega) hst htr ⟨g1, g2, g3, by assumption⟩ (fun R1 => ⟨0, Nat.zero_le _, cl_140 (th := 0) (R := R1) hl (by omega) hst htr hdl (by omega) ⟨g1, g2, g3, by assumption⟩ (fun R2 => ?_)⟩)⟩
    have := h256 5 0 R2 o4 o5 rfl
    rw [hd7] at this
    exact this
  have h170 : ∀ m i o4 o5, i + m = 4 → J k 170 [some (Value.ref 13), some (Value.long (fdN d5 v6 (15 * i))), none, some (Value.int (nI i)), o4, o5] [] (wm x0 x1 x2 x3 x4 x5 x6 x7 x8 x9 x10 x11 x12 0 st dl sz h n bq lv tr dc ti tc T ld ly K V I tk sc dn R e5 eo r) := by
    intro m
    induction m with
    | zero =>
      intro i o4 o5 hi
      have : i = 4 := by omega
      subst this
      rw [show fdN d5 v6 (15 * 4) = d6 from hd6.symm]
      exact hJ [228] 100 _ _ _ _ _ ⟨fun _ => h228 _ _ _, fun q => absurd (by decide) q⟩
    | succ m ih =>
      intro i o4 o5 hi
      have hM : ∀ m2 s o5, s + m2 = 5 → J k 178 [some (Value.ref 13), some (Value.long (fdN d5 v6 (15 * i + 3 * s))), none, some (Value.int (nI i)), some (Value.int (nI s)), o5] [] (wm x0 x1 x2 x3 x4 x5 x6 x7 x8 x9 x10 x11 x12 0 st dl sz h n bq lv tr dc ti tc T ld ly K V I tk sc dn R e5 eo r) := by
        intro m2
        induction m2 with
        | zero =>
          intro s o5 hs
          have : s = 5 := by omega
          subst this
          refine hJ [170] 100 _ _ _ _ _ ⟨fun _ => ?_, fun q => absurd (by decide) q⟩
          exact am_jw (J := J) (congrArg (fun y => [some (Value.ref 13), some (Value.long (fdN d5 v6 (15 * i + 15))), none, some (Value.int y), some (Value.int (nI 5)), o5]) (nI_1 i)) rfl rfl (ih (i + 1) _ _ (by omega))
        | succ m2 ihm =>
          intro s o5 hs
          have hI : ∀ w e, e + w = 3 → J k 187 [some (Value.ref 13), some (Value.long (fdN d5 v6 (15 * i + 3 * s + e))), none, some (Value.int (nI i)), some (Value.int (nI s)), some (Value.int (nI e))] [] (wm x0 x1 x2 x3 x4 x5 x6 x7 x8 x9 x10 x11 x12 0 st dl sz h n bq lv tr dc ti tc T ld ly K V I tk sc dn R e5 eo r) := by
            intro w
            induction w with
            | zero =>
              intro e he
              have : e = 3 := by omega
              subst this
              refine hJ [178] 100 _ _ _ _ _ ⟨fun _ => ?_, fun q => absurd (by decide) q⟩
              exact am_jw (J := J) (congrArg (fun y => [some (Value.ref 13), some (Value.long (fdN d5 v6 (15 * i + 3 * s + 3))), none, some (Value.int (nI i)), some (Value.int y), some (Value.int (nI 3))]) (nI_1 s)) rfl rfl (ihm (s + 1) _ (by omega))
            | succ w ihw =>
              intro e he
              refine hJ [187] 100 _ _ _ _ _ (ble (a := 3) (b := e) (by omega) (by omega) (fun q => absurd q (by omega)) (fun _ => ⟨0, Nat.zero_le _, cl_107 (th := 0) hl (by omega) (by omega) (by omega) (by omega) ?_⟩))
              refine am_jw (J := J) ?_ rfl rfl (ihw (e + 1) (by omega))
              have h1 : mx (fdN d5 v6 (15 * i + 3 * s + e)) (handV h i s e) = fdN d5 v6 (15 * i + 3 * s + (e + 1)) := fdN_s (by omega) (by rw [hv6]; show handV h ((15 * i + 3 * s + e) / 15) ((15 * i + 3 * s + e) / 3 % 5) ((15 * i + 3 * s + e) % 3) = _; rw [show (15 * i + 3 * s + e) / 15 = i by omega, show (15 * i + 3 * s + e) / 3 % 5 = s by omega, show (15 * i + 3 * s + e) % 3 = e by omega])
              rw [← h1, ← nI_1]
              rfl
          exact hJ [187] 100 _ _ _ _ _ (ble (a := 5) (b := s) (by omega) (by omega) (fun q => absurd q (by omega)) (fun _ => hI 3 0 rfl))
      exact hJ [178] 100 _ _ _ _ _ (ble (a := 4) (b := i) (by omega) (by omega) (fun q => absurd q (by omega)) (fun _ => hM 5 0 _ rfl))
  have h127 : ∀ m i o4 o5, i + m = 2 → J k 127 [some (Value.ref 13), some (Value.long (fdN d4 v5 (3 * i))), none, some (Value.int (nI i)), o4, o5] [] (wm x0 x1 x2 x3 x4 x5 x6 x7 x8 x9 x10 x11 x12 0 st dl sz h n bq lv tr dc ti tc T ld ly K V I tk sc dn R e5 eo r) := by
    intro m
    induction m with
    | zero =>
      intro i o4 o5 hi
      have : i = 2 := by omega
      subst this
      rw [show fdN d4 v5 (3 * 2) = d5 from hd5.symm]
      exact hJ [170] 100 _ _ _ _ _ ⟨fun _ => h170 4 0 _ _ rfl, fun q => absurd (by decide) q⟩
    | succ m ih =>
      intro i o4 o5 hi
      have hI : ∀ w e, e + w = 3 → J k 135 [some (Value.ref 13), some (Value.long (fdN d4 v5 (3 * i + e))), none, some (Value.int (nI i)), some (Value.int (nI e)), o5] [] (wm x0 x1 x2 x3 x4 x5 x6 x7 x8 x9 x10 x11 x12 0 st dl sz h n bq lv tr dc ti tc T ld ly K V I tk sc dn R e5 eo r) := by
        intro w
        induction w with
        | zero =>
          intro e he
          have : e = 3 := by omega
          subst this
          refine hJ [127] 100 _ _ _ _ _ ⟨fun _ => ?_, fun q => absurd (by decide) q⟩
          exact am_jw (J := J) (congrArg (fun y => [some (Value.ref 13), some (Value.long (fdN d4 v5 (3 * i + 3))), none, some (Value.int y), some (Value.int (nI 3)), o5]) (nI_1 i)) rfl rfl (ih (i + 1) _ _ (by omega))
        | succ w ihw =>
          intro e he
          refine hJ [135] 100 _ _ _ _ _ (ble (a := 3) (b := e) (by omega) (by omega) (fun q => absurd q (by omega)) (fun _ => ⟨0, Nat.zero_le _, cl_131 (th := 0) hl (by omega) (by omega) (by omega) hV ?_⟩))
          refine am_jw (J := J) ?_ rfl rfl (ihw (e + 1) (by omega))
          have h1 : mx (fdN d4 v5 (3 * i + e)) (sideM V tk sc i e) = fdN d4 v5 (3 * i + (e + 1)) := fdN_s (by omega) (by rw [hv5]; show sideM V tk sc ((3 * i + e) / 3) ((3 * i + e) % 3) = _; rw [show (3 * i + e) / 3 = i by omega, show (3 * i + e) % 3 = e by omega])
          rw [← h1, ← nI_1]
          rfl
      exact hJ [135] 100 _ _ _ _ _ (ble (a := 2) (b := i) (by omega) (by omega) (fun q => absurd q (by omega)) (fun _ => hI 3 0 rfl))
  have h94 : ∀ m i o4 o5, i + m = 6 * tc → J k 94 [some (Value.ref 13), some (Value.long (fdN d3 (fun i => nI (T i)) i)), none, some (Value.int (nI i)), o4, o5] [] (wm x0 x1 x2 x3 x4 x5 x6 x7 x8 x9 x10 x11 x12 0 st dl sz h n bq lv tr dc ti tc T ld ly K V I tk sc dn R e5 eo r) := by
    intro m
    induction m with
    | zero =>
      intro i o4 o5 hi
      have : i = 6 * tc := by omega
      subst this
      rw [← hd4]
      exact hJ [127] 100 _ _ _ _ _ (blex (a := 6 * tc) (b := 6 * tc) (pk_mul 6 tc) rfl (by omega) (by omega) (fun _ => h127 2 0 _ _ rfl) (fun q => absurd q (by omega)))
    | succ m ih =>
      intro i o4 o5 hi
      have ecl : (nI i).toNatClampNeg = i := i_cl (by omega)
      refine hJ [94] 100 _ _ _ _ _ (blex (a := 6 * tc) (b := i) (pk_mul 6 tc) rfl (by omega) (by omega) (fun q => absurd q (by omega)) (fun _ => ⟨nI_in (by omega) (by omega), ?_⟩))
      refine am_jw (J := J) ?_ rfl rfl (ih (i + 1) o4 o5 (by omega))
      dsimp only
      rw [ecl, ← nI_1]
      rfl
  have h64 : ∀ m i o4 o5, i + m = n → J k 64 [some (Value.ref 13), some (Value.long (fdN d2 (fun j => nI (bm j)) i)), none, some (Value.int (nI i)), o4, o5] [] (wm x0 x1 x2 x3 x4 x5 x6 x7 x8 x9 x10 x11 x12 0 st dl sz h n bq lv tr dc ti tc T ld ly K V I tk sc dn R e5 eo r) := by
    intro m
    induction m with
    | zero =>
      intro i o4 o5 hi
      have : i = n := by omega
      subst this
      rw [← hd3]
      exact hJ [94] 100 _ _ _ _ _ (ble (a := i) (b := i) (by omega) (by omega) (fun _ => h94 (6 * tc) 0 _ _ (by omega)) (fun q => absurd q (by omega)))
    | succ m ih =>
      intro i o4 o5 hi
      have ecl : (nI i).toNatClampNeg = i := i_cl (by omega)
      refine hJ [82, 92] 100 _ _ _ _ _ (ble (a := n) (b := i) (by omega) (by omega) (fun q => absurd q (by omega)) (fun _ => ?_))
      refine hJ [64] 100 _ _ _ _ _ (bq_ld (th := 0) hb ⟨nI_in (by omega) (by omega), ?_⟩)
      refine am_jw (J := J) ?_ rfl rfl (ih (i + 1) o4 o5 (by omega))
      dsimp only
      rw [ecl, ← nI_1]
      rfl
  have h38 : ∀ m i o4 o5, i + m = 4 → J k 38 [some (Value.ref 13), some (Value.long (fdN d1 (conM lv tr dc ti) i)), none, some (Value.int (nI i)), o4, o5] [] (wm x0 x1 x2 x3 x4 x5 x6 x7 x8 x9 x10 x11 x12 0 st dl sz h n bq lv tr dc ti tc T ld ly K V I tk sc dn R e5 eo r) := by
    intro m
    induction m with
    | zero =>
      intro i o4 o5 hi
      have : i = 4 := by omega
      subst this
      rw [← hd2]
      exact hJ [64] 100 _ _ _ _ _ ⟨fun _ => h64 n 0 _ _ (by omega), fun q => absurd (by decide) q⟩
    | succ m ih =>
      intro i o4 o5 hi
      refine hJ [38] 100 _ _ _ _ _ (ble (a := 4) (b := i) (by omega) (by omega) (fun q => absurd q (by omega)) (fun _ => ⟨0, Nat.zero_le _, cl_118 (th := 0) hl (by omega) (by omega) ?_⟩))
      refine am_jw (J := J) ?_ rfl rfl (ih (i + 1) o4 o5 (by omega))
      rw [← nI_1]
      rfl
  have h11 : ∀ m i o4 o5, i + m = 8 → J k 11 [some (Value.ref 13), some (Value.long (fdN 968 (nowM st dn n dl tc ld ly tr K) i)), none, some (Value.int (nI i)), o4, o5] [] (wm x0 x1 x2 x3 x4 x5 x6 x7 x8 x9 x10 x11 x12 0 st dl sz h n bq lv tr dc ti tc T ld ly K V I tk sc dn R e5 eo r) := by
    intro m
    induction m with
    | zero =>
      intro i o4 o5 hi
      have : i = 8 := by omega
      subst this
      rw [← hd1]
      exact hJ [38] 100 _ _ _ _ _ ⟨fun _ => h38 4 0 _ _ rfl, fun q => absurd (by decide) q⟩
    | succ m ih =>
      intro i o4 o5 hi
      refine hJ [11] 100 _ _ _ _ _ (ble (a := 8) (b := i) (by omega) (by omega) (fun q => absurd q (by omega)) (fun _ => ⟨0, Nat.zero_le _, cl_129 (th := 0) hl (by omega) (by omega) hst hdl (by omega) g1 g2 htr g3 ?_⟩))
      refine am_jw (J := J) ?_ rfl rfl (ih (i + 1) o4 o5 (by omega))
      rw [← nI_1]
      rfl
  exact hJ [11] 100 _ _ _ _ _ (h11 8 0 none none rfl)
end
