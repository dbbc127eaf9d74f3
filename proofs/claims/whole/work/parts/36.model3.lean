/-! contracts: the model, third part: deal, open, bids -/
theorem tl_at {r : am_M} {v : am_E} {kk : am_E → Prop} (h : kk v) : am_at (r ++ [v]) r.length kk := am_at_iff.mpr ⟨v, by simp, h⟩
theorem tl_put {r : am_M} {v v' : am_E} {kk : am_M → Prop} (h : kk (r ++ [v'])) : am_put (r ++ [v]) r.length v' kk := am_put_iff.mpr ⟨by simp, by simpa using h⟩
theorem bI_and (a b : Bool) : bI a &&& bI b = bI (a && b) := by cases a <;> cases b <;> decide
theorem PS_le (b : Nat → Nat) : ∀ n, PS b n ≤ n
  | 0 => Nat.le_refl _
  | n + 1 => by
    have := PS_le b n
    rw [PS]
    split <;> omega
theorem PS_z (b : Nat → Nat) : ∀ n i, i < PS b n → b (n - 1 - i) = 0
  | 0, i, h => absurd h (Nat.not_lt_zero i)
  | n + 1, i, h => by
    rw [PS] at h
    by_cases e : b n = 0
    · rw [if_pos e] at h
      cases i with
      | zero => exact e
      | succ i =>
        have := PS_z b n i (by omega)
        rw [show n + 1 - 1 - (i + 1) = n - 1 - i by omega]
        exact this
    · rw [if_neg e] at h
      omega
theorem PS_e (b : Nat → Nat) : ∀ n, PS b n < n → ¬ b (n - 1 - PS b n) = 0
  | 0, h => absurd h (Nat.not_lt_zero _)
  | n + 1, h => by
    rw [PS] at h ⊢
    by_cases e : b n = 0
    · rw [if_pos e] at h ⊢
      have := PS_e b n (by omega)
      rw [show n + 1 - 1 - (PS b n + 1) = n - 1 - PS b n by omega]
      exact this
    · rw [if_neg e]
      exact e
theorem LV_cong {b b' : Nat → Nat} : ∀ {n : Nat}, (∀ j, j < n → b j = b' j) → LV b n = LV b' n
  | 0, _ => rfl
  | n + 1, h => by rw [LV, LV, h n (by omega), LV_cong (n := n) (fun j hj => h j (by omega))]
theorem SN_cong {b b' : Nat → Nat} {x : Nat} : ∀ {n : Nat}, (∀ j, j < n → b j = b' j) → SN b x n = SN b' x n
  | 0, _ => rfl
  | n + 1, h => by rw [SN, SN, h n (by omega), SN_cong (n := n) (fun j hj => h j (by omega))]
theorem PS_cong {b b' : Nat → Nat} : ∀ {n : Nat}, (∀ j, j < n → b j = b' j) → PS b n = PS b' n
  | 0, _ => rfl
  | n + 1, h => by rw [PS, PS, h n (by omega), PS_cong (n := n) (fun j hj => h j (by omega))]
def alwM (b : Nat → Nat) (n bd : Nat) : Bool :=
  if bd = 0 then true else if bd ≤ 40 then (if LV b n = 0 then true else decide (b (LV b n - 1) < bd)) else if LV b n = 0 then false else
  if bd = 41 then (!decide ((n - (LV b n - 1)) % 2 = 0) && !SN b 41 n) else (decide ((n - (LV b n - 1)) % 2 = 0) && (SN b 41 n && !SN b 42 n))
def tiM (b : Nat → Nat) (n : Nat) : Nat := if SN b 42 n then 4 else if SN b 41 n then 2 else 1
def isZM (b : Nat → Nat) (n z : Nat) : Prop := z < n ∧ z % 2 = (LV b n - 1) % 2 ∧ isLv (b z) = true ∧ (b z - 1) % 5 = (b (LV b n - 1) - 1) % 5 ∧ ∀ j, j < z → j % 2 = (LV b n - 1) % 2 → ¬ (isLv (b j) = true ∧ (b j - 1) % 5 = (b (LV b n - 1) - 1) % 5)
theorem kI_lt0 {m : Nat} {A B : Prop} (hm : m < 2 ^ 31) (f : m = 0 → A) (g : 0 < m → B) : (kI m < 0 → A) ∧ (¬ kI m < 0 → B) := by
  cases m with
  | zero => exact ⟨fun _ => f rfl, fun q => absurd (by decide) q⟩
  | succ m => exact ⟨fun q => absurd q (nI_pos (by omega)), fun _ => g (by omega)⟩
theorem kI_ge0 {m : Nat} {A B : Prop} (hm : m < 2 ^ 31) (f : 0 < m → A) (g : m = 0 → B) : (0 ≤ kI m → A) ∧ (¬ 0 ≤ kI m → B) := by
  cases m with
  | zero => exact ⟨fun q => absurd q (by decide), fun _ => g rfl⟩
  | succ m => exact ⟨fun _ => f (by omega), fun q => absurd (nI_pos' (by omega)) q⟩
theorem kI_p {m : Nat} (h : 0 < m) : kI m = nI (m - 1) := if_neg (by omega)
section
variable {l : Launch} {d k : Nat} {Q : am_Q} {x0 x1 x2 x3 x4 x5 x6 x7 x8 x9 x10 x11 x12 : am_E} {th st dl sz : Nat} {h : Nat → Int32} {n bq : Nat} {lv : Int32} {tr dc ti tc : Nat} {T : Nat → Nat} {ld ly : Nat} {K V : Nat → Nat} {I : Nat → Bool} {tk : Nat → Nat} {sc : Nat → Int32} {dn : Int32} {R : Nat → Nat → Nat} {e5 eo : am_E} {r : am_M} {N : Nat} {bm : Nat → Nat}
theorem cl_103a (hl : l.stackTraces = false) (hd : 3 ≤ d) {f s m : Nat} (hf : f < 32) (hs : s < 32) (hs1 : s % 2 = 1) (hm : m < 9)
    (hok : ∀ J : am_K, (∀ (stop : List Nat) (n k pc : Nat) (ls : am_L) (st : am_S) (w : am_M), am_run (tb_103 (am_Call l (d - 1)) Q) J stop n k pc ls st w → J k pc ls st w) → J k 44 [some (Value.ref 13), some (Value.int (nI f)), some (Value.int (nI s)), some (Value.int (nI m)), none] [] (wm x0 x1 x2 x3 x4 x5 x6 x7 x8 x9 x10 x11 x12 0 st dl sz h n bq lv tr dc ti tc T ld ly K V I tk sc dn R e5 eo r)) : am_Call l d 103 k [.ref 13, .int (nI f), .int (nI s), .int (nI m)] (wm x0 x1 x2 x3 x4 x5 x6 x7 x8 x9 x10 x11 x12 th st dl sz h n bq lv tr dc ti tc T ld ly K V I tk sc dn R e5 eo r) Q :=
  op_103 hl (by omega) (Nat.le_of_ble_eq_true rfl) (fun J hJ => hJ [44] 100 _ _ _ _ _ ⟨0, Nat.zero_le _, cl_97 hl (by omega) hf ⟨fun q => absurd q (by decide), fun _ => ⟨0, Nat.zero_le _, cl_95n (lo := 1) (hi := 31) hl (by omega) (by omega) (by omega) (by omega) (bz (fun q => absurd (of_decide_eq_false q) (by omega)) (fun _ => ⟨by decide, beqx (a := s % 2) (b := 0) (pk_rem (d := 2) (by omega) (by omega) (by omega)) rfl (by omega) (by omega) (fun q => absurd q (by omega)) (fun _ => ⟨0, Nat.zero_le _, cl_95n (lo := 0) (hi := 8) hl (by omega) (by omega) (by omega) (by omega) (bz (fun q => absurd (of_decide_eq_false q) (by omega)) (fun _ => hok J hJ))⟩)⟩))⟩⟩⟩)
set_option maxRecDepth 20000 in
theorem cl_103x (hl : l.stackTraces = false) (hd : 3 ≤ d) {x y z : Int32} (hx : ¬ ((∃ f, f < 32 ∧ x = nI f) ∧ (∃ s, s < 32 ∧ s % 2 = 1 ∧ y = nI s) ∧ (∃ m, m < 9 ∧ z = nI m))) (hq : Q (.inl (some (Value.int 0))) (wm x0 x1 x2 x3 x4 x5 x6 x7 x8 x9 x10 x11 x12 1 st dl sz h n bq lv tr dc ti tc T ld ly K V I tk sc dn R e5 eo r)) : am_Call l d 103 k [.ref 13, .int x, .int y, .int z] (wm x0 x1 x2 x3 x4 x5 x6 x7 x8 x9 x10 x11 x12 th st dl sz h n bq lv tr dc ti tc T ld ly K V I tk sc dn R e5 eo r) Q := by
  refine op_103 hl (by omega) (Nat.le_of_ble_eq_true rfl) (fun J hJ => ?_)
  have s38 : J k 38 [some (Value.ref 13), some (Value.int x), some (Value.int y), some (Value.int z), none] [] (wm x0 x1 x2 x3 x4 x5 x6 x7 x8 x9 x10 x11 x12 0 st dl sz h n bq lv tr dc ti tc T ld ly K V I tk sc dn R e5 eo r) := hJ [] 100 _ _ _ _ _ ⟨0, Nat.zero_le _, cl_94 (th := 0) hl (by omega) (y := 1) rfl hq⟩
  rcases NR_or x (n := 32) (by omega) with ⟨f, hf, rfl⟩ | hxx
  · refine hJ [12, 38] 100 _ _ _ _ _ ⟨0, Nat.zero_le _, cl_97 hl (by omega) hf ⟨fun q => absurd q (by decide), fun _ => ?_⟩⟩
    rcases NR_or y (n := 32) (by omega) with ⟨s, hs, rfl⟩ | hyy
    · refine hJ [22, 38] 100 _ _ _ _ _ ⟨0, Nat.zero_le _, cl_95n (lo := 1) (hi := 31) hl (by omega) (by omega) (by omega) (by omega) (bz (fun q => s38) (fun q => ?_))⟩
      refine hJ [28, 38] 100 _ _ _ _ _ ⟨by decide, beqx (a := s % 2) (b := 0) (pk_rem (d := 2) (by omega) (by omega) (by omega)) rfl (by omega) (by omega) (fun q => s38) (fun q2 => ?_)⟩
      have hzz : NR z (8 + 1) := by
        rcases NR_or z (n := 9) (by omega) with hz | hz
        · exact absurd ⟨⟨f, hf, rfl⟩, ⟨s, hs, by omega, rfl⟩, hz⟩ hx
        · exact hz
      exact hJ [38] 100 _ _ _ _ _ ⟨0, Nat.zero_le _, cl_95x (n := 8) hl (by omega) (by omega) hzz ⟨fun _ => s38, fun q => absurd rfl q⟩⟩
    · refine hJ [38] 100 _ _ _ _ _ ⟨0, Nat.zero_le _, cl_95 (b := false) hl (by omega) ⟨fun q => (by cases q), fun q => ?_⟩ ⟨fun _ => s38, fun q => absurd rfl q⟩⟩
      rcases hyy with h1 | h1
      · exact absurd (Int32.lt_of_le_of_lt q.1 h1) (by decide)
      · exact absurd (Int32.le_trans h1 q.2) (by decide)
  · exact hJ [38] 100 _ _ _ _ _ ⟨0, Nat.zero_le _, cl_97x hl (by omega) hxx ⟨fun _ => s38, fun q => absurd rfl q⟩⟩
set_option maxRecDepth 20000 in
theorem cl_103b (hl : l.stackTraces = false) (hd : 3 ≤ d) {f s m : Nat} (hst : st < 4) (hf : f < 32) (hs : s < 32) (hs1 : s % 2 = 1) (hm : m < 9) (hx : ¬ (st = 0 ∧ hAll h = 0)) (hq : Q (.inl (some (Value.int 0))) (wm x0 x1 x2 x3 x4 x5 x6 x7 x8 x9 x10 x11 x12 2 st dl sz h n bq lv tr dc ti tc T ld ly K V I tk sc dn R e5 eo r)) : am_Call l d 103 k [.ref 13, .int (nI f), .int (nI s), .int (nI m)] (wm x0 x1 x2 x3 x4 x5 x6 x7 x8 x9 x10 x11 x12 th st dl sz h n bq lv tr dc ti tc T ld ly K V I tk sc dn R e5 eo r) Q := by
  refine cl_103a hl hd hf hs hs1 hm (fun J hJ => ?_)
  have s58 : J k 58 [some (Value.ref 13), some (Value.int (nI f)), some (Value.int (nI s)), some (Value.int (nI m)), none] [] (wm x0 x1 x2 x3 x4 x5 x6 x7 x8 x9 x10 x11 x12 0 st dl sz h n bq lv tr dc ti tc T ld ly K V I tk sc dn R e5 eo r) := hJ [] 100 _ _ _ _ _ ⟨0, Nat.zero_le _, cl_94 (th := 0) hl (by omega) (y := 2) rfl hq⟩
  exact hJ [58] 100 _ _ _ _ _ (beq (a := st) (b := 0) (by omega) (by omega) (fun q => ⟨0, Nat.zero_le _, cl_101 (th := 0) hl (by omega) ⟨fun q2 => absurd ⟨q, q2⟩ hx, fun _ => s58⟩⟩) (fun q => s58))
theorem cl_103 (hl : l.stackTraces = false) (hd : 3 ≤ d) {f s m : Nat} (hf : f < 32) (hs : s < 32) (hs1 : s % 2 = 1) (hm : m < 9) (h1 : st = 0) (h2 : hAll h = 0) (hq : Q (.inl (some (Value.int (sm (dealH f s h (4 * m) 0))))) (wm x0 x1 x2 x3 x4 x5 x6 x7 x8 x9 x10 x11 x12 0 st dl sz (dealH f s h (4 * m)) n bq lv tr dc ti tc T ld ly K V I tk sc dn R e5 eo r)) : am_Call l d 103 k [.ref 13, .int (nI f), .int (nI s), .int (nI m)] (wm x0 x1 x2 x3 x4 x5 x6 x7 x8 x9 x10 x11 x12 th st dl sz h n bq lv tr dc ti tc T ld ly K V I tk sc dn R e5 eo r) Q := by
  subst h1
  refine cl_103a hl hd hf hs hs1 hm (fun J hJ => ?_)
  have hL : ∀ j i, i + j = 4 * m → J k 67 [some (Value.ref 13), some (Value.int (nI f)), some (Value.int (nI s)), some (Value.int (nI m)), some (Value.int (nI i))] [] (wm x0 x1 x2 x3 x4 x5 x6 x7 x8 x9 x10 x11 x12 0 0 dl sz (dealH f s h i) n bq lv tr dc ti tc T ld ly K V I tk sc dn R e5 eo r) := by
    intro j
    induction j with
    | zero =>
      intro i hi
      have : i = 4 * m := by omega
      subst this
      exact hJ [67] 100 _ _ _ _ _ (blex (a := 4 * m) (b := 4 * m) (pk_mul 4 m) rfl (by omega) (by omega) (fun _ => ⟨0, Nat.zero_le _, cl_107 (th := 0) (st := 0) (p := 0) (s := 4) (wh := 2) hl (by omega) (by omega) (by omega) (by omega) hq⟩) (fun q => absurd q (by omega)))
    | succ j ih =>
      intro i hi
      have hi36 : i < 36 := by omega
      have his : i * s ≤ 36 * 32 := Nat.mul_le_mul (by omega) (by omega)
      have e4 : nI i - nI i / 4 * 4 = nI (i % 4) := pk_rem (d := 4) (by omega) (by omega) (by omega)
      have e5 : (nI f + nI i * nI s) - (nI f + nI i * nI s) / 32 * 32 = nI ((f + i * s) % 32) := by
        rw [pk_mul, nI_add]
        exact pk_rem (d := 32) (by omega) (by omega) (by omega)
      have hm4 := Nat.mod_lt i (show 0 < 4 by omega)
      refine hJ [67] 100 _ _ _ _ _ (blex (a := 4 * m) (b := i) (pk_mul 4 m) rfl (by omega) (by omega) (fun q => absurd q (by omega)) (fun _ => ⟨by decide, vin e4 hm4 (by omega), by decide, vin e4 hm4 (by omega), ?_⟩))
      refine am_jw (J := J) (congrArg (fun x => [some (Value.ref 13), some (Value.int (nI f)), some (Value.int (nI s)), some (Value.int (nI m)), some (Value.int x)]) (nI_1 i)) rfl ?_ (ih (i + 1) (by omega))
      dsimp only
      rw [clx e4 (by omega), e5]
      rfl
  exact hJ [67] 100 _ _ _ _ _ ⟨fun _ => ⟨0, Nat.zero_le _, cl_101 (th := 0) (st := 0) hl (by omega) ⟨fun _ => hL (4 * m) 0 (by omega), fun q => absurd h2 q⟩⟩, fun q => absurd rfl q⟩
theorem cl_105a (hl : l.stackTraces = false) (hd : 3 ≤ d) (hst : st < 4) {o : Bool} (ho : o = true ↔ (st = 0 ∧ rdy h = true))
    (hok : ∀ J : am_K, (∀ (stop : List Nat) (n k pc : Nat) (ls : am_L) (st : am_S) (w : am_M), am_run (tb_105 (am_Call l (d - 1)) Q) J stop n k pc ls st w → J k pc ls st w) → ∀ o2, J k 69 [some (Value.ref 13), some (Value.int (bI o)), o2] [] (wm x0 x1 x2 x3 x4 x5 x6 x7 x8 x9 x10 x11 x12 0 st dl sz h n bq lv tr dc ti tc T ld ly K V I tk sc dn R e5 eo r)) : am_Call l d 105 k [.ref 13] (wm x0 x1 x2 x3 x4 x5 x6 x7 x8 x9 x10 x11 x12 th st dl sz h n bq lv tr dc ti tc T ld ly K V I tk sc dn R e5 eo r) Q := by
  refine op_105 hl (by omega) (Nat.le_of_ble_eq_true rfl) (fun J hJ => ?_)
  have hc0 := pc_le (h 0)
  have hL : ∀ j i (o' : Bool), i + j = 4 → 1 ≤ i → (o' = true ↔ (st = 0 ∧ h 0 ≠ 0 ∧ ∀ q, 1 ≤ q → q < i → pc (h q) = pc (h 0))) → J k 29 [some (Value.ref 13), some (Value.int (bI o')), some (Value.int (nI i))] [] (wm x0 x1 x2 x3 x4 x5 x6 x7 x8 x9 x10 x11 x12 0 st dl sz h n bq lv tr dc ti tc T ld ly K V I tk sc dn R e5 eo r) := by
    intro j
    induction j with
    | zero =>
      intro i o' hi h1 hoo
      have : i = 4 := by omega
      subst this
      have e : o' = o := by
        have hr := rdy_iff (h := h)
        have : o' = true ↔ o = true := by
          rw [hoo, ho, hr]
          constructor
          · rintro ⟨a, b, c⟩
            refine ⟨a, fun p hp => ?_, ?_⟩
            · by_cases e : p = 0
              · rw [e]
              · exact c p (by omega) hp
            · rcases Nat.eq_zero_or_pos (pc (h 0)) with q | q
              · exact absurd (pc_zero.mp q) b
              · exact q
          · rintro ⟨a, b, c⟩
            exact ⟨a, fun e => by rw [pc_zero.mpr e] at c; exact absurd c (Nat.lt_irrefl _), fun q _ hq => b q hq⟩
        cases o' <;> cases o <;> simp_all
      subst e
      exact hJ [69] 100 _ _ _ _ _ ⟨fun _ => hok J hJ _, fun q => absurd (by decide) q⟩
    | succ j ih =>
      intro i o' hi h1 hoo
      have hci := pc_le (h i)
      have s60 : ∀ b : Bool, (b = true ↔ pc (h i) = pc (h 0)) → J k 61 [some (Value.ref 13), some (Value.int (bI o')), some (Value.int (nI i))] [Value.int (bI b), Value.int (bI o')] (wm x0 x1 x2 x3 x4 x5 x6 x7 x8 x9 x10 x11 x12 0 st dl sz h n bq lv tr dc ti tc T ld ly K V I tk sc dn R e5 eo r) := by
        intro b hb
        refine hJ [29] 100 _ _ _ _ _ (am_jw (J := J) (ls' := [some (Value.ref 13), some (Value.int (bI (o' && b))), some (Value.int (nI (i + 1)))]) ?_ rfl rfl (ih (i + 1) (o' && b) (by omega) (by omega) ?_))
        · show [some (Value.ref 13), some (Value.int (bI o' &&& bI b)), some (Value.int (nI i + 1))] = _
          rw [bI_and, nI_1]
        · rw [Bool.and_eq_true, hoo, hb]
          constructor
          · rintro ⟨⟨a, b, c⟩, e⟩
            refine ⟨a, b, fun q h1 h2 => ?_⟩
            by_cases e2 : q = i
            · rw [e2]; exact e
            · exact c q h1 (by omega)
          · rintro ⟨a, b, c⟩
            exact ⟨⟨a, b, fun q h1 h2 => c q h1 (by omega)⟩, c i h1 (by omega)⟩
      refine hJ [61] 100 _ _ _ _ _ (ble (a := 4) (b := i) (by omega) (by omega) (fun q => absurd q (by omega)) (fun _ => ⟨nI_in (by omega) (by omega), 0, Nat.zero_le _, am_ca (congrArg (fun i => [Value.int (h i)]) (i_cl (by omega))) (cl_99 hl (by omega) ⟨nI_in (c := 0) (by omega) (by omega), 0, Nat.zero_le _, cl_99 hl (by omega) (beq (a := pc (h i)) (b := pc (h 0)) (by omega) (by omega) (fun q => s60 true ⟨fun _ => q, fun _ => rfl⟩) (fun q => s60 false ⟨fun e => (by cases e), fun e => absurd e q⟩))⟩)⟩))
  have s26 : ∀ b : Bool, (b = true ↔ (st = 0 ∧ h 0 ≠ 0)) → J k 26 [some (Value.ref 13), none, none] [Value.int (bI b)] (wm x0 x1 x2 x3 x4 x5 x6 x7 x8 x9 x10 x11 x12 0 st dl sz h n bq lv tr dc ti tc T ld ly K V I tk sc dn R e5 eo r) := by
    intro b hb
    refine hJ [29] 100 _ _ _ _ _ (hL 3 1 b rfl (Nat.le_refl _) ?_)
    rw [hb]
    exact ⟨fun ⟨a, b⟩ => ⟨a, b, fun q h1 h2 => absurd h1 (by omega)⟩, fun ⟨a, b, _⟩ => ⟨a, b⟩⟩
  exact hJ [26] 100 _ _ _ _ _ (beq (a := st) (b := 0) (by omega) (by omega) (fun q => ⟨nI_in (c := 0) (by omega) (by omega), fun q2 => s26 false ⟨fun e => (by cases e), fun e => absurd q2 e.2⟩, fun q2 => s26 true ⟨fun _ => ⟨q, q2⟩, fun _ => rfl⟩⟩) (fun q => s26 false ⟨fun e => (by cases e), fun e => absurd e.1 q⟩))
theorem cl_105 (hl : l.stackTraces = false) (hd : 3 ≤ d) (h1 : st = 0) (h2 : rdy h = true) (hq : Q (.inl (some (Value.int (nI (4 * pc (h 0)))))) (wm x0 x1 x2 x3 x4 x5 x6 x7 x8 x9 x10 x11 x12 0 1 dl (pc (h 0)) h n bq lv tr dc ti tc T ld ly K V I tk sc dn R e5 eo r)) : am_Call l d 105 k [.ref 13] (wm x0 x1 x2 x3 x4 x5 x6 x7 x8 x9 x10 x11 x12 th st dl sz h n bq lv tr dc ti tc T ld ly K V I tk sc dn R e5 eo r) Q :=
  cl_105a (o := true) hl hd (by omega) ⟨fun _ => ⟨h1, h2⟩, fun _ => rfl⟩ (fun J hJ o2 => hJ [] 100 _ _ _ _ _ ⟨fun q => absurd q (by decide), fun _ => ⟨nI_in (c := 0) (by omega) (by omega), 0, Nat.zero_le _, cl_99 hl (by omega) (am_q1 (pk_mul 4 (pc (h 0))) rfl hq)⟩⟩)
set_option maxRecDepth 20000 in
theorem cl_105b (hl : l.stackTraces = false) (hd : 3 ≤ d) (hst : st < 4) (hx : ¬ (st = 0 ∧ rdy h = true)) (hq : Q (.inl (some (Value.int 0))) (wm x0 x1 x2 x3 x4 x5 x6 x7 x8 x9 x10 x11 x12 1 st dl sz h n bq lv tr dc ti tc T ld ly K V I tk sc dn R e5 eo r)) : am_Call l d 105 k [.ref 13] (wm x0 x1 x2 x3 x4 x5 x6 x7 x8 x9 x10 x11 x12 th st dl sz h n bq lv tr dc ti tc T ld ly K V I tk sc dn R e5 eo r) Q :=
  cl_105a (o := false) hl hd hst ⟨fun e => (by cases e), fun e => absurd e hx⟩ (fun J hJ o2 => hJ [] 100 _ _ _ _ _ ⟨fun _ => ⟨0, Nat.zero_le _, cl_94 (th := 0) hl (by omega) (y := 1) rfl hq⟩, fun q => absurd rfl q⟩)
theorem cl_112 (hl : l.stackTraces = false) (hd : 4 ≤ d) (hb : bqA bq e5 r N bm) (hnN : n ≤ N) (hN : N ≤ 1000) (hbm : ∀ j, j < n → bm j < 43) {bd : Nat} (hbd : bd < 43) (hq : Q (.inl (some (Value.int (bI (alwM bm n bd))))) (wm x0 x1 x2 x3 x4 x5 x6 x7 x8 x9 x10 x11 x12 th st dl sz h n bq lv tr dc ti tc T ld ly K V I tk sc dn R e5 eo r)) : am_Call l d 112 k [.ref 13, .int (nI bd)] (wm x0 x1 x2 x3 x4 x5 x6 x7 x8 x9 x10 x11 x12 th st dl sz h n bq lv tr dc ti tc T ld ly K V I tk sc dn R e5 eo r) Q := by
  have hle := LV_le bm n
  refine op_112 hl (by omega) (Nat.le_of_ble_eq_true rfl) (fun J hJ => hJ [5] 100 _ _ _ _ _ ⟨0, Nat.zero_le _, cl_110 hl (by omega) hb hnN hN hbm ?_⟩)
  unfold alwM at hq
  refine hJ [27, 43] 100 _ _ _ _ _ (beq (a := bd) (b := 0) (by omega) (by omega) (fun q => ?_) (fun q => bl (a := 40) (b := bd) (by omega) (by omega) (fun q1 => kI_ge0 (by omega) (fun q2 => ?_) (fun q2 => ?_)) (fun q1 => kI_lt0 (by omega) (fun q2 => ?_) (fun q2 => ?_))))
  · rw [if_pos q] at hq
    exact ⟨by decide, hq⟩
  · -- DOUBLE, REDOUBLE
    rw [if_neg q, if_neg (by omega), if_neg (by omega)] at hq
    have s59 : ∀ o : Bool, o = decide ((n - (LV bm n - 1)) % 2 = 0) → J k 59 [some (Value.ref 13), some (Value.int (nI bd)), some (Value.int (kI (LV bm n))), none] [Value.int (bI o)] (wm x0 x1 x2 x3 x4 x5 x6 x7 x8 x9 x10 x11 x12 th st dl sz h n bq lv tr dc ti tc T ld ly K V I tk sc dn R e5 eo r) := by
      intro o ho
      rw [← ho] at hq
      refine hJ [] 100 _ _ _ _ _ (beq (a := bd) (b := 41) (by omega) (by omega) (fun q3 => bz (fun q4 => ⟨0, Nat.zero_le _, cl_111 (x := 41) hl (by omega) hb hnN hN hbm (by decide) (by omega) (bz (fun q5 => ?_) (fun q5 => ?_))⟩) (fun q4 => ?_)) (fun q3 => bz (fun q4 => ?_) (fun q4 => ⟨0, Nat.zero_le _, cl_111 (x := 41) hl (by omega) hb hnN hN hbm (by decide) (by omega) (bz (fun q5 => ?_) (fun q5 => ⟨0, Nat.zero_le _, cl_111 (x := 42) hl (by omega) hb hnN hN hbm (by decide) (by omega) (bz (fun q6 => ?_) (fun q6 => ?_))⟩))⟩)))
      · rw [if_pos q3, q4, q5] at hq
        exact ⟨by decide, hq⟩
      · rw [if_pos q3, q4, q5] at hq
        exact ⟨by decide, hq⟩
      · rw [if_pos q3, q4] at hq
        exact ⟨by decide, hq⟩
      · rw [if_neg q3, q4] at hq
        exact ⟨by decide, hq⟩
      · rw [if_neg q3, q4, q5] at hq
        exact ⟨by decide, hq⟩
      · rw [if_neg q3, q4, q5, q6] at hq
        exact ⟨by decide, hq⟩
      · rw [if_neg q3, q4, q5, q6] at hq
        exact ⟨by decide, hq⟩
    have e1 : (nI n - kI (LV bm n)) - (nI n - kI (LV bm n)) / 2 * 2 = nI ((n - (LV bm n - 1)) % 2) := by
      rw [kI_p q2, pk_sub (by omega)]
      exact pk_rem (d := 2) (by omega) (by omega) (by omega)
    exact hJ [59] 100 _ _ _ _ _ ⟨by decide, beqx (a := (n - (LV bm n - 1)) % 2) (b := 0) e1 rfl (by omega) (by omega) (fun q3 => s59 true (decide_eq_true q3).symm) (fun q3 => s59 false (decide_eq_false q3).symm)⟩
  · rw [if_neg q, if_neg (by omega), if_pos q2] at hq
    exact ⟨by decide, hq⟩
  · rw [if_neg q, if_pos q1, if_pos q2] at hq
    exact ⟨by decide, hq⟩
  · have hbl := hbm (LV bm n - 1) (by omega)
    rw [if_neg q, if_pos q1, if_neg (by omega)] at hq
    refine hJ [] 100 _ _ _ _ _ (bq_ld hb ⟨vin (kI_p q2) (by omega) (by omega), blex (a := bd) (b := bm (LV bm n - 1)) rfl (congrArg (fun i => nI (bm i)) (clx (kI_p q2) (by omega))) (by omega) (by omega) (fun q3 => ?_) (fun q3 => ?_)⟩)
    · rw [decide_eq_false (by omega)] at hq
      exact ⟨by decide, hq⟩
    · rw [decide_eq_true q3] at hq
      exact ⟨by decide, hq⟩
theorem cl_113 (hl : l.stackTraces = false) (hd : 4 ≤ d) (hb : bqA bq e5 r N bm) (hnN : n ≤ N) (hN : N ≤ 1000) (hbm : ∀ j, j < n → bm j < 43) (hdl : dl < 4) (h0 : 0 < LV bm n) {z : Nat} (hz : isZM bm n z) (hq : Q (.inl none) (wm x0 x1 x2 x3 x4 x5 x6 x7 x8 x9 x10 x11 x12 th 2 dl sz h n bq (nI ((bm (LV bm n - 1) - 1) / 5 + 1)) ((bm (LV bm n - 1) - 1) % 5) ((dl + z) % 4) (tiM bm n) tc T (((dl + z) % 4 + 1) % 4) ly K V I tk sc dn R e5 eo r)) : am_Call l d 113 k [.ref 13, .int (kI (LV bm n))] (wm x0 x1 x2 x3 x4 x5 x6 x7 x8 x9 x10 x11 x12 th st dl sz h n bq lv tr dc ti tc T ld ly K V I tk sc dn R e5 eo r) Q := by
  have hle := LV_le bm n
  have hlv := LV_lv bm n h0
  unfold isLv at hlv
  have hlv2 := of_decide_eq_true hlv
  obtain ⟨z1, z2, z3, z4, z5⟩ := hz
  have ek := kI_p h0
  refine op_113 hl (by omega) (Nat.le_of_ble_eq_true rfl) (fun J hJ => ?_)
  rw [ek]
  have ecl : (nI (LV bm n - 1)).toNatClampNeg = LV bm n - 1 := i_cl (by omega)
  have eL : (nI (bm (LV bm n - 1)) - 1) / 5 + 1 = nI ((bm (LV bm n - 1) - 1) / 5 + 1) := by
    rw [pk_sub1 (by omega), show (nI (bm (LV bm n - 1) - 1)) / 5 = nI ((bm (LV bm n - 1) - 1) / 5) from pk_div (d := 5) (by omega) (by omega) (by omega), nI_1]
  have eT : ∀ x, 0 < x → x < 43 → (nI x - 1) - (nI x - 1) / 5 * 5 = nI ((x - 1) % 5) := by
    intro x h1 h2
    rw [pk_sub1 h1]
    exact pk_rem (d := 5) (by omega) (by omega) (by omega)
  have s58 : ∀ t, t = tiM bm n → J k 58 [some (Value.ref 13), some (Value.int (nI (LV bm n - 1))), none] [Value.int (nI t), Value.ref 13] (wm x0 x1 x2 x3 x4 x5 x6 x7 x8 x9 x10 x11 x12 th st dl sz h n bq (nI ((bm (LV bm n - 1) - 1) / 5 + 1)) ((bm (LV bm n - 1) - 1) % 5) dc ti tc T ld ly K V I tk sc dn R e5 eo r) := by
    intro t ht
    rw [← ht] at hq
    have hLp : ∀ j i, i + 2 * j = z → J k 65 [some (Value.ref 13), some (Value.int (nI (LV bm n - 1))), some (Value.int (nI i))] [] (wm x0 x1 x2 x3 x4 x5 x6 x7 x8 x9 x10 x11 x12 th st dl sz h n bq (nI ((bm (LV bm n - 1) - 1) / 5 + 1)) ((bm (LV bm n - 1) - 1) % 5) dc t tc T ld ly K V I tk sc dn R e5 eo r) := by
      intro j
      induction j with
      | zero =>
        intro i hi
        have : i = z := by omega
        subst this
        have hbz := hbm i z1
        have e1 : isLv (bm i) = decide (1 ≤ bm i ∧ bm i ≤ 40) := rfl
        have e1t := of_decide_eq_true (e1.symm.trans z3)
        have eci : (nI i).toNatClampNeg = i := i_cl (by omega)
        refine hJ [77] 100 _ _ _ _ _ (bq_ld hb ⟨nI_in (by omega) (by omega), 0, Nat.zero_le _, am_ca (congrArg (fun i => [Value.int (nI (bm i)), Value.int (nI 1), Value.int (nI 40)]) eci) (cl_95n hl (by omega) (by omega) (by omega) (by omega) ?_)⟩)
        refine hJ [84] 100 _ _ _ _ _ (bz (fun q => absurd (of_decide_eq_false q) (by omega)) (fun _ => ?_))
        refine hJ [103] 100 _ _ _ _ _ (bq_ld hb ⟨nI_in (by omega) (by omega), by decide, beqx (a := (bm i - 1) % 5) (b := (bm (LV bm n - 1) - 1) % 5) (by rw [eci]; exact eT _ (by omega) hbz) rfl (by omega) (by omega) (fun _ => ?_) (fun q => absurd z4 q)⟩)
        refine hJ [115] 100 _ _ _ _ _ ⟨by decide, ?_⟩
        have e2 : (nI dl + nI i) - (nI dl + nI i) / 4 * 4 = nI ((dl + i) % 4) := by
          rw [nI_add]
          exact pk_rem (d := 4) (by omega) (by omega) (by omega)
        refine am_jw (J := J) (w' := (wm x0 x1 x2 x3 x4 x5 x6 x7 x8 x9 x10 x11 x12 th st dl sz h n bq (nI ((bm (LV bm n - 1) - 1) / 5 + 1)) ((bm (LV bm n - 1) - 1) % 5) ((dl + i) % 4) t tc T ld ly K V I tk sc dn R e5 eo r)) rfl rfl ?_ ?_
        · dsimp only
          rw [e2]
          rfl
        · refine hJ [] 100 _ _ _ _ _ ⟨by decide, am_qw ?_ hq⟩
          have e3 : (nI ((dl + i) % 4) + 1) - (nI ((dl + i) % 4) + 1) / 4 * 4 = nI (((dl + i) % 4 + 1) % 4) := by
            rw [nI_1]
            exact pk_rem (d := 4) (by omega) (by omega) (by omega)
          dsimp only
          rw [e3]
          rfl
      | succ j ih =>
        intro i hi
        have hbi := hbm i (by omega)
        have eci : (nI i).toNatClampNeg = i := i_cl (by omega)
        have hni := z5 i (by omega) (by omega)
        have s97 : J k 97 [some (Value.ref 13), some (Value.int (nI (LV bm n - 1))), some (Value.int (nI i))] [] (wm x0 x1 x2 x3 x4 x5 x6 x7 x8 x9 x10 x11 x12 th st dl sz h n bq (nI ((bm (LV bm n - 1) - 1) / 5 + 1)) ((bm (LV bm n - 1) - 1) % 5) dc t tc T ld ly K V I tk sc dn R e5 eo r) := by
          refine hJ [65] 100 _ _ _ _ _ (am_jw (J := J) (congrArg (fun x => [some (Value.ref 13), some (Value.int (nI (LV bm n - 1))), some (Value.int x)]) (nI_add i 2)) rfl rfl (ih (i + 2) (by omega)))
        refine hJ [77] 100 _ _ _ _ _ (bq_ld hb ⟨nI_in (by omega) (by omega), 0, Nat.zero_le _, am_ca (congrArg (fun i => [Value.int (nI (bm i)), Value.int (nI 1), Value.int (nI 40)]) eci) (cl_95n hl (by omega) (by omega) (by omega) (by omega) ?_)⟩)
        refine hJ [84, 97] 100 _ _ _ _ _ (bz (fun q => s97) (fun q => ?_))
        have hl1 : isLv (bm i) = true := q
        have hl2 := of_decide_eq_true q
        exact hJ [97] 100 _ _ _ _ _ (bq_ld hb ⟨nI_in (by omega) (by omega), by decide, beqx (a := (bm i - 1) % 5) (b := (bm (LV bm n - 1) - 1) % 5) (by rw [eci]; exact eT _ (by omega) hbi) rfl (by omega) (by omega) (fun q2 => absurd ⟨hl1, q2⟩ hni) (fun _ => s97)⟩)
    have e2 : nI (LV bm n - 1) - nI (LV bm n - 1) / 2 * 2 = nI ((LV bm n - 1) % 2) := pk_rem (d := 2) (by omega) (by omega) (by omega)
    refine hJ [65] 100 _ _ _ _ _ ⟨by decide, am_jw (J := J) (congrArg (fun x => [some (Value.ref 13), some (Value.int (nI (LV bm n - 1))), some (Value.int x)]) e2) rfl rfl (hLp (z / 2) ((LV bm n - 1) % 2) (by omega))⟩
  refine hJ [16] 100 _ _ _ _ _ (bq_ld hb ⟨nI_in (by omega) (by omega), by decide, ?_⟩)
  refine am_jw (J := J) (w' := (wm x0 x1 x2 x3 x4 x5 x6 x7 x8 x9 x10 x11 x12 th st dl sz h n bq (nI ((bm (LV bm n - 1) - 1) / 5 + 1)) tr dc ti tc T ld ly K V I tk sc dn R e5 eo r)) rfl rfl (by dsimp only; rw [ecl, eL]; rfl) ?_
  refine hJ [30] 100 _ _ _ _ _ (bq_ld hb ⟨nI_in (by omega) (by omega), by decide, ?_⟩)
  refine am_jw (J := J) (w' := (wm x0 x1 x2 x3 x4 x5 x6 x7 x8 x9 x10 x11 x12 th st dl sz h n bq (nI ((bm (LV bm n - 1) - 1) / 5 + 1)) ((bm (LV bm n - 1) - 1) % 5) dc ti tc T ld ly K V I tk sc dn R e5 eo r)) rfl rfl (by dsimp only; rw [ecl, eT _ (by omega) (by omega)]; rfl) ?_
  refine hJ [58] 100 _ _ _ _ _ ⟨0, Nat.zero_le _, cl_111 (x := 42) hl (by omega) hb hnN hN hbm (by decide) (by omega) (bz (fun q => ⟨0, Nat.zero_le _, cl_111 (x := 41) hl (by omega) hb hnN hN hbm (by decide) (by omega) (bz (fun q2 => s58 1 ?_) (fun q2 => s58 2 ?_))⟩) (fun q => s58 4 ?_))⟩
  · rw [tiM, q, q2]; rfl
  · rw [tiM, q, q2]; rfl
  · rw [tiM, q]; rfl
end
