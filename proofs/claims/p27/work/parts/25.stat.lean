/-! contracts: Integer's methods, the class's statics, the model's statics -/
def bI (b : Bool) : Int32 := if b then 1 else 0
theorem bI_t : bI true = 1 := rfl
theorem bI_f : bI false = 0 := rfl
theorem bI_1 {b : Bool} : bI b = 1 ↔ b = true := s_b1 b
theorem bI_0 {b : Bool} : bI b = 0 ↔ b = false := s_b0 b
theorem bI_e {a b : Bool} : bI a = bI b ↔ a = b := by cases a <;> cases b <;> decide
theorem bI_n (b : Bool) : bI b = nI (if b then 1 else 0) := by cases b <;> rfl
def sm (s : Int32) : Int32 := if s = 0 then -1 else nI (sLo s)
def gr (s : Int32) : Int32 := if s = 0 then -1 else nI (sHi s)
theorem i_hi {s : Int32} (h : ¬ 0 < s) (h0 : s ≠ 0) : sHi s = 31 := by
  obtain ⟨n, hn, rfl⟩ := i_ex s
  rcases Nat.lt_or_ge n (2 ^ 31) with q | q
  · have h1 : 0 < n := by
      rcases Nat.eq_zero_or_pos n with q | q
      · subst q; exact absurd rfl h0
      · exact q
    exact absurd (nI_lt h1 q) h
  · exact z_hi q hn (by omega)
section
variable {l : Launch} {d k : Nat} {w : am_M} {Q : am_Q}
theorem am_q1 {x y : Int32} {w' : am_M} (hx : x = y) (hw : w = w') (h : Q (.inl (some (.int y))) w') : Q (.inl (some (.int x))) w := by rw [hx, hw]; exact h
theorem am_qw {o : am_O} {w' : am_M} (hw : w = w') (h : Q o w') : Q o w := by rw [hw]; exact h
theorem cl_150 (hl : l.stackTraces = false) (hd : 1 ≤ d) {s : Int32} (h : Q (.inl (some (.int (nI (pc s))))) w) : am_Call l d 150 k [.int s] w Q := by
  obtain ⟨x1, h1⟩ : ∃ x, x = s - ((s.toUInt32 >>> ((1 : Int32).toUInt32 &&& Int32.toUInt32 31)).toInt32 &&& 1431655765) := ⟨_, rfl⟩
  obtain ⟨x2, h2⟩ : ∃ x, x = (x1 &&& 858993459) + ((x1.toUInt32 >>> ((2 : Int32).toUInt32 &&& Int32.toUInt32 31)).toInt32 &&& 858993459) := ⟨_, rfl⟩
  obtain ⟨x3, h3⟩ : ∃ x, x = (x2 + (x2.toUInt32 >>> ((4 : Int32).toUInt32 &&& Int32.toUInt32 31)).toInt32) &&& 252645135 := ⟨_, rfl⟩
  obtain ⟨x4, h4⟩ : ∃ x, x = x3 + (x3.toUInt32 >>> ((8 : Int32).toUInt32 &&& Int32.toUInt32 31)).toInt32 := ⟨_, rfl⟩
  obtain ⟨x5, h5⟩ : ∃ x, x = x4 + (x4.toUInt32 >>> ((16 : Int32).toUInt32 &&& Int32.toUInt32 31)).toInt32 := ⟨_, rfl⟩
  refine op_150 hl hd (Nat.le_of_ble_eq_true rfl) (fun J hJ => ?_)
  refine hJ [10] 100 _ _ _ _ _ ?_
  show J k 10 [some (.int (s - ((s.toUInt32 >>> ((1 : Int32).toUInt32 &&& Int32.toUInt32 31)).toInt32 &&& 1431655765)))] [] w
  rw [← h1]
  refine hJ [24] 100 _ _ _ _ _ ?_
  show J k 24 [some (.int ((x1 &&& 858993459) + ((x1.toUInt32 >>> ((2 : Int32).toUInt32 &&& Int32.toUInt32 31)).toInt32 &&& 858993459)))] [] w
  rw [← h2]
  refine hJ [34] 100 _ _ _ _ _ ?_
  show J k 34 [some (.int ((x2 + (x2.toUInt32 >>> ((4 : Int32).toUInt32 &&& Int32.toUInt32 31)).toInt32) &&& 252645135))] [] w
  rw [← h3]
  refine hJ [41] 100 _ _ _ _ _ ?_
  show J k 41 [some (.int (x3 + (x3.toUInt32 >>> ((8 : Int32).toUInt32 &&& Int32.toUInt32 31)).toInt32))] [] w
  rw [← h4]
  refine hJ [48] 100 _ _ _ _ _ ?_
  show J k 48 [some (.int (x4 + (x4.toUInt32 >>> ((16 : Int32).toUInt32 &&& Int32.toUInt32 31)).toInt32))] [] w
  rw [← h5]
  exact hJ [] 100 _ _ _ _ _ (am_q1 (w_swar s h1 h2 h3 h4 h5) rfl h)
theorem cl_149 (hl : l.stackTraces = false) (hd : 1 ≤ d) {s : Int32} (h0 : s ≠ 0) (h : Q (.inl (some (.int (nI (sLo s))))) w) : am_Call l d 149 k [.int s] w Q := by
  obtain ⟨t, ht, e1, e2⟩ := z_ex h0
  rw [e2] at h
  refine op_149 hl hd (Nat.le_of_ble_eq_true rfl) (fun J hJ => hJ [8] 100 _ _ _ _ _ ?_)
  show J k 8 [some (.int ((s ^^^ (-1)) &&& (s - 1))), none] [] w
  rw [e1]
  refine hJ [] 100 _ _ _ _ _ ?_
  have hc : ∀ t, t < 32 → t = 0 ∨ t = 1 ∨ t = 2 ∨ t = 3 ∨ t = 4 ∨ t = 5 ∨ t = 6 ∨ t = 7 ∨ t = 8 ∨ t = 9 ∨ t = 10 ∨ t = 11 ∨ t = 12 ∨ t = 13 ∨ t = 14 ∨ t = 15 ∨ t = 16 ∨ t = 17 ∨ t = 18 ∨ t = 19 ∨ t = 20 ∨ t = 21 ∨ t = 22 ∨ t = 23 ∨ t = 24 ∨ t = 25 ∨ t = 26 ∨ t = 27 ∨ t = 28 ∨ t = 29 ∨ t = 30 ∨ t = 31 := by omega
  rcases hc t ht with rfl | rfl | rfl | rfl | rfl | rfl | rfl | rfl | rfl | rfl | rfl | rfl | rfl | rfl | rfl | rfl | rfl | rfl | rfl | rfl | rfl | rfl | rfl | rfl | rfl | rfl | rfl | rfl | rfl | rfl | rfl | rfl
  all_goals
    repeat' (first | refine ⟨fun c => absurd c (by decide), fun _ => ?_⟩ | refine ⟨fun _ => ?_, fun c => absurd (by decide) c⟩ | fail)
    exact h
theorem z_ush {v j : Nat} {m : Int32} (hv : v < 2 ^ 31) (hm : m = nI j) (hj : j < 32) : ((nI v).toUInt32 >>> (m.toUInt32 &&& Int32.toUInt32 31)).toInt32 = nI (v / 2 ^ j) := by
  subst hm
  exact pk_ushrN (by omega) _ j (s_u j hj)
theorem cl_148 (hl : l.stackTraces = false) (hd : 1 ≤ d) {s : Int32} (h0 : s ≠ 0) (h : Q (.inl (some (.int (nI (31 - sHi s))))) w) : am_Call l d 148 k [.int s] w Q := by
  refine op_148 hl hd (Nat.le_of_ble_eq_true rfl) (fun J hJ => ?_)
  have s73 : ∀ a v r : Nat, a ≤ 30 → r < 2 ^ a → s = nI (2 ^ a * v + r) → 0 < v → v < 4 → J k 73 [some (.int (nI v)), some (.int (nI (31 - a)))] [] w := by
    intro a v r ha hr e hv0 hv
    refine hJ [] 100 _ _ _ _ _ (am_q1 ?_ rfl h)
    show nI (31 - a) - ((nI v).toUInt32 >>> ((1 : Int32).toUInt32 &&& Int32.toUInt32 31)).toInt32 = _
    rw [z_ush (j := 1) (m := 1) (by omega) rfl (by omega), pk_sub (by omega), e]
    congr 1
    have hp : 2 ^ (a + 1) = 2 * 2 ^ a := by rw [Nat.pow_succ, Nat.mul_comm]
    have hp2 : 2 ^ (a + 1 + 1) = 4 * 2 ^ a := by rw [Nat.pow_succ, Nat.pow_succ]; omega
    rcases (show v = 1 ∨ v = 2 ∨ v = 3 by omega) with rfl | rfl | rfl
    · rw [z_hi (g := a) (by omega) (by omega) (by omega)]
      omega
    · rw [z_hi (g := a + 1) (by omega) (by omega) (by omega)]
      omega
    · rw [z_hi (g := a + 1) (by omega) (by omega) (by omega)]
      omega
  have st : ∀ (j pc pc' : Nat), 1 ≤ j → j ≤ 16 → (∀ a v : Nat, v < 2 ^ 31 → (2 ^ j ≤ v → J k pc' [some (.int (nI (v / 2 ^ j))), some (.int (nI (31 - a) + (-(nI j))))] [] w) → (v < 2 ^ j → J k pc' [some (.int (nI v)), some (.int (nI (31 - a)))] [] w) → J k pc [some (.int (nI v)), some (.int (nI (31 - a)))] [] w) →
      (∀ a v r : Nat, a + j ≤ 32 → r < 2 ^ a → s = nI (2 ^ a * v + r) → 0 < v → v < 2 ^ j → J k pc' [some (.int (nI v)), some (.int (nI (31 - a)))] [] w) →
      ∀ a v r : Nat, a + 2 * j ≤ 32 → r < 2 ^ a → s = nI (2 ^ a * v + r) → 0 < v → v < 2 ^ (2 * j) → v < 2 ^ 31 → J k pc [some (.int (nI v)), some (.int (nI (31 - a)))] [] w := by
    intro j pc pc' hj1 hj hgo hn a v r ha hr e hv0 hv hv31
    have hm := Nat.div_add_mod v (2 ^ j)
    have hml := Nat.mod_lt v (Nat.two_pow_pos j)
    refine hgo a v hv31 (fun c => ?_) (fun c => hn a v r (by omega) hr e hv0 c)
    have e2 : nI (31 - a) + (-(nI j)) = nI (31 - (a + j)) := by
      have : nI (31 - a) = nI (31 - (a + j)) + nI j := by rw [nI_add]; congr 1; omega
      rw [this, Int32.add_assoc, Int32.add_right_neg, Int32.add_zero]
    rw [e2]
    refine hn (a + j) (v / 2 ^ j) (2 ^ a * (v % 2 ^ j) + r) (by omega) ?_ ?_ (Nat.div_pos c (Nat.two_pow_pos j)) ?_
    · rw [Nat.pow_add]
      have : 2 ^ a * (v % 2 ^ j) + 2 ^ a ≤ 2 ^ a * 2 ^ j := by
        rw [← Nat.mul_succ]
        exact Nat.mul_le_mul_left _ hml
      omega
    · rw [e]
      congr 1
      rw [Nat.pow_add, Nat.mul_assoc, ← Nat.add_assoc, ← Nat.mul_add, hm]
    · rw [Nat.div_lt_iff_lt_mul (Nat.two_pow_pos j), ← Nat.pow_add]
      rw [Nat.two_mul] at hv
      exact hv
  have s61 := st 2 61 73 (by omega) (by omega) (fun a v hv f g => hJ [73] 100 _ _ _ _ _ (bl (b := 4) hv (by omega) (fun c => g c) (fun c => by
    have := f c
    rw [← z_ush (j := 2) (m := 2) hv rfl (by omega)] at this
    exact this))) (fun a v r h1 h2 h3 h4 h5 => s73 a v r (by omega) h2 h3 h4 h5)
  have s48 := st 4 48 61 (by omega) (by omega) (fun a v hv f g => hJ [61] 100 _ _ _ _ _ (bl (b := 16) hv (by omega) (fun c => g c) (fun c => by
    have := f c
    rw [← z_ush (j := 4) (m := 4) hv rfl (by omega)] at this
    exact this))) (fun a v r h1 h2 h3 h4 h5 => s61 a v r (by omega) h2 h3 h4 h5 (by omega))
  have s33 := st 8 33 48 (by omega) (by omega) (fun a v hv f g => hJ [48] 100 _ _ _ _ _ (bl (b := 256) hv (by omega) (fun c => g c) (fun c => by
    have := f c
    rw [← z_ush (j := 8) (m := 8) hv rfl (by omega)] at this
    exact this))) (fun a v r h1 h2 h3 h4 h5 => s48 a v r (by omega) h2 h3 h4 h5 (by omega))
  have s18 : ∀ v : Nat, s = nI v → 0 < v → v < 2 ^ 31 → J k 18 [some (.int (nI v)), some (.int 31)] [] w := by
    intro v e hv0 hv
    refine hJ [33] 100 _ _ _ _ _ (bl (b := 65536) hv (by omega) (fun c => ?_) (fun c => ?_))
    · exact s33 0 v 0 (by omega) (by omega) (by rw [e]; congr 1; omega) hv0 c hv
    · have := s33 16 (v / 2 ^ 16) (v % 2 ^ 16) (by omega) (by omega) (by rw [e]; congr 1; omega) (by omega) (by omega) (by omega)
      rw [← z_ush (j := 16) (m := 16) hv rfl (by omega)] at this
      exact this
  refine hJ [18] 100 _ _ _ _ _ ⟨fun c => ?_, fun c => ⟨fun c2 => absurd c2 h0, fun c2 => ?_⟩⟩
  · obtain ⟨v, hv, e⟩ := nI_of (x := s) (by
      intro q
      exact absurd (Int32.lt_trans c q) (Int32.lt_irrefl))
    subst e
    refine s18 v rfl ?_ hv
    rcases Nat.eq_zero_or_pos v with q | q
    · subst q; exact absurd rfl h0
    · exact q
  · rw [i_hi c h0] at h
    exact h
theorem cl_84 (hl : l.stackTraces = false) (hd : 1 ≤ d) {p : Nat} (hp : p < 2 ^ 31) (h : Q (.inl (some (.int (nI (p % 2))))) w) : am_Call l d 84 k [.int (nI p)] w Q :=
  op_84 hl hd (Nat.le_of_ble_eq_true rfl) (fun J hJ => hJ [] 100 _ _ _ _ _ (am_q1 (i_and1 hp) rfl h))
theorem cl_85 (hl : l.stackTraces = false) (hd : 1 ≤ d) {p : Nat} (hp : p < 2 ^ 30) (h : Q (.inl (some (.int (nI ((p + 1) % 4))))) w) : am_Call l d 85 k [.int (nI p)] w Q :=
  op_85 hl hd (Nat.le_of_ble_eq_true rfl) (fun J hJ => hJ [] 100 _ _ _ _ _ (am_q1 (by
    show (nI p + 1) &&& 3 = _
    rw [nI_1, i_and3 (by omega)]) rfl h))
theorem cl_86 (hl : l.stackTraces = false) (hd : 1 ≤ d) {s : Int32} {c : Nat} (hc : c < 32) (h : Q (.inl (some (.int (bI (bt s c))))) w) : am_Call l d 86 k [.int s, .int (nI c)] w Q := by
  have e := s_ush hc s
  refine op_86 hl hd (Nat.le_of_ble_eq_true rfl) (fun J hJ => hJ [] 100 _ _ _ _ _ ⟨fun c => ⟨by decide, ?_⟩, fun c => ⟨by decide, ?_⟩⟩)
  · rw [show bt s _ = true from (s_b1 _).mp (e.symm.trans c)] at h
    exact h
  · rw [show bt s _ = false from Bool.eq_false_iff.mpr (fun q => c (e.trans ((s_b1 _).mpr q)))] at h
    exact h
theorem cl_87 (hl : l.stackTraces = false) (hd : 1 ≤ d) {s : Int32} {c : Nat} (h : Q (.inl (some (.int (sAdd s c)))) w) : am_Call l d 87 k [.int s, .int (nI c)] w Q :=
  op_87 hl hd (Nat.le_of_ble_eq_true rfl) (fun J hJ => hJ [] 100 _ _ _ _ _ h)
theorem cl_88 (hl : l.stackTraces = false) (hd : 1 ≤ d) {s : Int32} {c : Nat} (h : Q (.inl (some (.int (sDel s c)))) w) : am_Call l d 88 k [.int s, .int (nI c)] w Q :=
  op_88 hl hd (Nat.le_of_ble_eq_true rfl) (fun J hJ => hJ [] 100 _ _ _ _ _ h)
def sSuit (u : Nat) : Int32 := 255 <<< (nI (8 * u) &&& 31)
theorem bt_suit {u i : Nat} (hu : u < 4) (hi : i < 32) : bt (sSuit u) i = decide (i / 8 = u) := by
  rw [sSuit, b_shl (8 * u) (by omega) 255 hi, b_255]
  by_cases h : i / 8 = u
  · rw [decide_eq_true h, decide_eq_true (show 8 * u ≤ i by omega), decide_eq_true (show i - 8 * u < 8 by omega)]
    rfl
  · rw [decide_eq_false h]
    by_cases h2 : 8 * u ≤ i
    · rw [decide_eq_false (show ¬ i - 8 * u < 8 by omega), Bool.and_false]
    · rw [decide_eq_false h2, Bool.false_and]
theorem cl_89 (hl : l.stackTraces = false) (hd : 1 ≤ d) {u : Nat} (h : Q (.inl (some (.int (sSuit u)))) w) : am_Call l d 89 k [.int (nI u)] w Q :=
  op_89 hl hd (Nat.le_of_ble_eq_true rfl) (fun J hJ => hJ [] 100 _ _ _ _ _ (am_q1 (by
    show (255 : Int32) <<< ((nI 8 * nI u) &&& 31) = _
    rw [pk_mul]
    rfl) rfl h))
theorem cl_90 (hl : l.stackTraces = false) (hd : 2 ≤ d) {s : Int32} (h : Q (.inl (some (.int (sm s)))) w) : am_Call l d 90 k [.int s] w Q := by
  refine op_90 hl (by omega) (Nat.le_of_ble_eq_true rfl) (fun J hJ => hJ [] 100 _ _ _ _ _ ⟨fun c => ?_, fun c => ⟨0, Nat.zero_le _, cl_149 hl (by omega) c ?_⟩⟩)
  · rw [sm, if_pos c] at h
    exact h
  · rw [sm, if_neg c] at h
    exact h
theorem sHi_lt {s : Int32} (h : s ≠ 0) : sHi s < 32 ∧ bt s (sHi s) = true ∧ ∀ j, sHi s < j → j < 32 → bt s j = false :=
  gx_spec ⟨_, (sLo_spec h).1, (sLo_spec h).2.1⟩
theorem cl_91 (hl : l.stackTraces = false) (hd : 2 ≤ d) {s : Int32} (h : Q (.inl (some (.int (gr s)))) w) : am_Call l d 91 k [.int s] w Q := by
  refine op_91 hl (by omega) (Nat.le_of_ble_eq_true rfl) (fun J hJ => hJ [] 100 _ _ _ _ _ ⟨fun c => ?_, fun c => ⟨0, Nat.zero_le _, cl_148 hl (by omega) c (am_q1 ?_ rfl h)⟩⟩)
  · rw [gr, if_pos c] at h
    exact h
  · have := (sHi_lt c).1
    show nI 31 - nI (31 - sHi s) = _
    rw [pk_sub (by omega), gr, if_neg c]
    congr 1
    omega
theorem i_lo {p : Int32} {n : Nat} (h : p < 0 ∨ nI n ≤ p) (hn : 0 < n) (hn2 : n < 2 ^ 31) (h1 : ¬ p < 0) (h2 : p < nI n) : False := by
  rcases h with q | q
  · exact h1 q
  · exact absurd (Int32.lt_of_le_of_lt q h2) (Int32.lt_irrefl)
theorem cl_69 (hl : l.stackTraces = false) (hd : 1 ≤ d) {c : Nat} (hc : c < 32) (h : Q (.inl (some (.int 1))) w) : am_Call l d 69 k [.int (nI c)] w Q :=
  op_69 hl hd (Nat.le_of_ble_eq_true rfl) (fun J hJ => hJ [] 100 _ _ _ _ _ ⟨fun q => absurd q (nI_pos (by omega)), fun _ => ble (a := 32) (b := c) (by omega) (by omega) (fun q => absurd hc (by omega)) (fun _ => ⟨by decide, h⟩)⟩)
theorem cl_69x (hl : l.stackTraces = false) (hd : 1 ≤ d) {c : Int32} (hc : c < 0 ∨ nI 32 ≤ c) (h : Q (.inl (some (.int 0))) w) : am_Call l d 69 k [.int c] w Q :=
  op_69 hl hd (Nat.le_of_ble_eq_true rfl) (fun J hJ => hJ [] 100 _ _ _ _ _ ⟨fun _ => ⟨by decide, h⟩, fun q => ⟨fun _ => ⟨by decide, h⟩, fun q2 => (i_lo hc (by omega) (by omega) q (Int32.not_le.mp q2)).elim⟩⟩)
theorem cl_70 (hl : l.stackTraces = false) (hd : 1 ≤ d) {c : Nat} (hc : c < 4) (h : Q (.inl none) w) : am_Call l d 70 k [.int (nI c)] w Q :=
  op_70 hl hd (Nat.le_of_ble_eq_true rfl) (fun J hJ => hJ [] 100 _ _ _ _ _ ⟨fun q => absurd q (nI_pos (by omega)), fun _ => bl (b := 4) (by omega) (by omega) (fun _ => h) (fun q => absurd hc (by omega))⟩)
theorem cl_70x (hl : l.stackTraces = false) (hd : 1 ≤ d) (hk : 1 ≤ k) {c : Int32} (hc : c < 0 ∨ nI 4 ≤ c) (h : Q (.inr 1) w) : am_Call l d 70 k [.int c] w Q :=
  op_70 hl hd (Nat.le_of_ble_eq_true rfl) (fun J hJ => hJ [] 100 _ _ _ _ _ ⟨fun _ => ⟨hk, h⟩, fun q => ⟨fun q2 => (i_lo hc (by omega) (by omega) q q2).elim, fun _ => ⟨hk, h⟩⟩⟩)
theorem cl_71 (hl : l.stackTraces = false) (hd : 2 ≤ d) {c : Nat} (hc : c < 32) (h : Q (.inl none) w) : am_Call l d 71 k [.int (nI c)] w Q :=
  op_71 hl (by omega) (Nat.le_of_ble_eq_true rfl) (fun J hJ => hJ [] 100 _ _ _ _ _ ⟨0, Nat.zero_le _, cl_69 hl (by omega) hc ⟨fun q => absurd q (by decide), fun _ => h⟩⟩)
theorem cl_71x (hl : l.stackTraces = false) (hd : 2 ≤ d) (hk : 1 ≤ k) {c : Int32} (hc : c < 0 ∨ nI 32 ≤ c) (h : Q (.inr 1) w) : am_Call l d 71 k [.int c] w Q :=
  op_71 hl (by omega) (Nat.le_of_ble_eq_true rfl) (fun J hJ => hJ [] 100 _ _ _ _ _ ⟨0, Nat.zero_le _, cl_69x hl (by omega) hc ⟨fun _ => ⟨hk, h⟩, fun q => absurd rfl q⟩⟩)
theorem cl_72 (hl : l.stackTraces = false) (hd : 1 ≤ d) {c : Nat} (hc : c < 43) (h : Q (.inl none) w) : am_Call l d 72 k [.int (nI c)] w Q :=
  op_72 hl hd (Nat.le_of_ble_eq_true rfl) (fun J hJ => hJ [] 100 _ _ _ _ _ ⟨fun q => absurd q (nI_pos (by omega)), fun _ => ble (b := 42) (by omega) (by omega) (fun _ => h) (fun q => absurd hc (by omega))⟩)
theorem cl_72x (hl : l.stackTraces = false) (hd : 1 ≤ d) (hk : 1 ≤ k) {c : Int32} (hc : c < 0 ∨ nI 43 ≤ c) (h : Q (.inr 2) w) : am_Call l d 72 k [.int c] w Q :=
  op_72 hl hd (Nat.le_of_ble_eq_true rfl) (fun J hJ => hJ [] 100 _ _ _ _ _ ⟨fun _ => ⟨hk, h⟩, fun q => ⟨fun q2 => by
    rcases hc with q3 | q3
    · exact absurd q3 q
    · exact absurd (Int32.le_trans q3 q2) (by decide), fun _ => ⟨hk, h⟩⟩⟩)
end
