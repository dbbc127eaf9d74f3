/-! contracts: the class's Auction (at place 9) -/
def ca9 (b : Nat → Nat) (n dl ll lb ti pa : Nat) (r : am_M) : am_M :=
  .inr (0, [.ref 10, .int (nI n), .int (nI dl), .int (nI ll), .int (nI lb), .int (nI ti), .int (nI pa)]) :: .inl (0, 364, .inl (fun i => nI (b i))) :: r
def wa9 (x0 x1 x2 x3 x4 x5 x6 x7 x8 : am_E) (b : Nat → Nat) (n dl ll lb ti pa : Nat) (r : am_M) : am_M := x0 :: x1 :: x2 :: x3 :: x4 :: x5 :: x6 :: x7 :: x8 :: ca9 b n dl ll lb ti pa r
def alw (n dl ll lb ti bd : Nat) : Bool :=
  if bd = 0 then true else if bd ≤ 40 then decide (ll < bd) else if ll = 0 then false else
  if bd = 41 then (!decide ((dl + n) % 2 = lb % 2) && decide (ti = 1)) else (decide ((dl + n) % 2 = lb % 2) && decide (ti = 2))
def dcP (b : Nat → Nat) (dl lb tr : Nat) (k : Nat) : Bool := decide (0 < b k ∧ b k ≤ 40 ∧ (dl + k) % 2 = lb % 2 ∧ (b k - 1) % 5 = tr)
def worth (tr : Nat) : Nat := if 4 ≤ tr then 40 else if 2 ≤ tr then 30 else 20
def scV (ti lv tr t : Nat) : Nat := ti * lv * worth tr + 20 * ti * (t - lv) + (if 6 ≤ lv then 50 else 0)
def scF (ti lv tr t : Nat) : Int32 := if t < lv then -(nI (50 * ti * (lv - t))) else nI (scV ti lv tr t)
theorem m_mod2 (x : Nat) : x % 4 % 2 = x % 2 := by omega
theorem pk_sub1 {a : Nat} (h : 0 < a) : nI a - 1 = nI (a - 1) := pk_sub h
section
variable {l : Launch} {d k : Nat} {Q : am_Q} {x0 x1 x2 x3 x4 x5 x6 x7 x8 : am_E} {b : Nat → Nat} {n dl ll lb ti pa : Nat} {r : am_M}
set_option maxRecDepth 20000 in
theorem cl_1 (hl : l.stackTraces = false) (hd : 1 ≤ d) {nd : Nat} (hq : Q (.inl none) (wa9 x0 x1 x2 x3 x4 x5 x6 x7 x8 b 0 nd 0 0 1 0 r)) : am_Call l d 1 k [.ref 9, .int (nI nd)] (wa9 x0 x1 x2 x3 x4 x5 x6 x7 x8 b n dl ll lb ti pa r) Q :=
  op_1 hl hd (Nat.le_of_ble_eq_true rfl) (fun J hJ => hJ [] 100 _ _ _ _ _ hq)
theorem cl_2 (hl : l.stackTraces = false) (hd : 1 ≤ d) {j : Nat} (hdl : dl < 4) (hj : j < 2 ^ 30) (hq : Q (.inl (some (Value.int (nI ((dl + j) % 4))))) (wa9 x0 x1 x2 x3 x4 x5 x6 x7 x8 b n dl ll lb ti pa r)) : am_Call l d 2 k [.ref 9, .int (nI j)] (wa9 x0 x1 x2 x3 x4 x5 x6 x7 x8 b n dl ll lb ti pa r) Q :=
  op_2 hl hd (Nat.le_of_ble_eq_true rfl) (fun J hJ => hJ [] 100 _ _ _ _ _ (am_q1 (by
    show (nI dl + nI j) &&& 3 = _
    rw [nI_add, i_and3 (by omega)]) rfl hq))
theorem cl_3 (hl : l.stackTraces = false) (hd : 2 ≤ d) (hdl : dl < 4) (hn : n < 2 ^ 30) (hq : Q (.inl (some (Value.int (nI ((dl + n) % 4))))) (wa9 x0 x1 x2 x3 x4 x5 x6 x7 x8 b n dl ll lb ti pa r)) : am_Call l d 3 k [.ref 9] (wa9 x0 x1 x2 x3 x4 x5 x6 x7 x8 b n dl ll lb ti pa r) Q :=
  op_3 hl (by omega) (Nat.le_of_ble_eq_true rfl) (fun J hJ => hJ [] 100 _ _ _ _ _ ⟨0, Nat.zero_le _, cl_2 hl (by omega) hdl hn hq⟩)
theorem cl_4 (hl : l.stackTraces = false) (hd : 1 ≤ d) {j : Nat} (hj : j < n) (hn : n ≤ 364) (hq : Q (.inl (some (Value.int (nI (b j))))) (wa9 x0 x1 x2 x3 x4 x5 x6 x7 x8 b n dl ll lb ti pa r)) : am_Call l d 4 k [.ref 9, .int (nI j)] (wa9 x0 x1 x2 x3 x4 x5 x6 x7 x8 b n dl ll lb ti pa r) Q :=
  op_4 hl hd (Nat.le_of_ble_eq_true rfl) (fun J hJ => hJ [] 100 _ _ _ _ _ ⟨fun q => absurd q (nI_pos (by omega)), fun _ => ble (a := n) (b := j) (by omega) (by omega) (fun q => absurd q (by omega)) (fun _ => ble (a := 364) (b := j) (by omega) (by omega) (fun q => absurd q (by omega)) (fun _ => ⟨nI_in (by omega) (by omega), am_q1 (congrArg (fun i => nI (b i)) (i_cl (by omega))) rfl hq⟩))⟩)
theorem cl_5 (hl : l.stackTraces = false) (hd : 3 ≤ d) {bd : Nat} (hbd : bd < 43) (hdl : dl < 4) (hn : n < 2 ^ 30) (hll : ll ≤ 40) (hlb : lb < 4) (hti : ti ≤ 4) (hq : Q (.inl (some (Value.int (bI (alw n dl ll lb ti bd))))) (wa9 x0 x1 x2 x3 x4 x5 x6 x7 x8 b n dl ll lb ti pa r)) : am_Call l d 5 k [.ref 9, .int (nI bd)] (wa9 x0 x1 x2 x3 x4 x5 x6 x7 x8 b n dl ll lb ti pa r) Q := by
  refine op_5 hl (by omega) (Nat.le_of_ble_eq_true rfl) (fun J hJ => hJ [35] 100 _ _ _ _ _ (beq (a := bd) (b := 0) (by omega) (by omega) (fun q => ?_) (fun q => bl (a := 40) (b := bd) (by omega) (by omega) (fun q1 => beq (a := ll) (b := 0) (by omega) (by omega) (fun q2 => ?_) (fun q2 => ?_)) (fun q1 => ble (a := bd) (b := ll) (by omega) (by omega) (fun q2 => ?_) (fun q2 => ?_)))))
  · rw [alw, if_pos q] at hq
    exact ⟨by decide, hq⟩
  · rw [alw, if_neg q, if_neg (by omega), if_pos q2] at hq
    exact ⟨by decide, hq⟩
  · rw [alw, if_neg q, if_neg (by omega), if_neg q2] at hq
    have s57 : ∀ o : Bool, o = decide ((dl + n) % 2 = lb % 2) → J k 57 [some (Value.ref 9), some (Value.int (nI bd)), none] [Value.int (bI o)] (wa9 x0 x1 x2 x3 x4 x5 x6 x7 x8 b n dl ll lb ti pa r) := by
      intro o ho
      rw [← ho] at hq
      refine hJ [] 100 _ _ _ _ _ (beq (a := bd) (b := 41) (by omega) (by omega) (fun q3 => bz (fun q4 => beq (a := ti) (b := 1) (by omega) (by omega) (fun q5 => ?_) (fun q5 => ?_)) (fun q4 => ?_)) (fun q3 => bz (fun q4 => ?_) (fun q4 => beq (a := ti) (b := 2) (by omega) (by omega) (fun q5 => ?_) (fun q5 => ?_))))
      · rw [if_pos q3, q4, decide_eq_true q5] at hq
        exact ⟨by decide, hq⟩
      · rw [if_pos q3, q4, decide_eq_false q5] at hq
        exact ⟨by decide, hq⟩
      · rw [if_pos q3, q4] at hq
        exact ⟨by decide, hq⟩
      · rw [if_neg q3, q4] at hq
        exact ⟨by decide, hq⟩
      · rw [if_neg q3, q4, decide_eq_true q5] at hq
        exact ⟨by decide, hq⟩
      · rw [if_neg q3, q4, decide_eq_false q5] at hq
        exact ⟨by decide, hq⟩
    refine hJ [57] 100 _ _ _ _ _ ⟨0, Nat.zero_le _, cl_3 hl (by omega) hdl hn ⟨0, Nat.zero_le _, cl_84 hl (by omega) (by omega) ⟨0, Nat.zero_le _, cl_84 hl (by omega) (by omega) (beq (a := (dl + n) % 4 % 2) (b := lb % 2) (by omega) (by omega) (fun q3 => ?_) (fun q3 => ?_))⟩⟩⟩
    · exact s57 true (decide_eq_true (by omega)).symm
    · exact s57 false (decide_eq_false (by omega)).symm
  · rw [alw, if_neg q, if_pos q1, decide_eq_false (by omega)] at hq
    exact ⟨by decide, hq⟩
  · rw [alw, if_neg q, if_pos q1, decide_eq_true (by omega)] at hq
    exact ⟨by decide, hq⟩
theorem cl_7 (hl : l.stackTraces = false) (hd : 3 ≤ d) {bd : Nat} (hbd : bd < 43) (hdl : dl < 4) (hn : n < 2 ^ 30) (hq : Q (.inl none) (wa9 x0 x1 x2 x3 x4 x5 x6 x7 x8 b n dl (if bd ≤ 40 then bd else ll) (if bd ≤ 40 then (dl + n) % 4 else lb) (if bd ≤ 40 then 1 else if bd = 41 then 2 else 4) pa r)) : am_Call l d 7 k [.ref 9, .int (nI bd)] (wa9 x0 x1 x2 x3 x4 x5 x6 x7 x8 b n dl ll lb ti pa r) Q := by
  refine op_7 hl (by omega) (Nat.le_of_ble_eq_true rfl) (fun J hJ => hJ [] 100 _ _ _ _ _ (bl (a := 40) (b := bd) (by omega) (by omega) (fun q1 => beq (a := bd) (b := 41) (by omega) (by omega) (fun q2 => ?_) (fun q2 => ?_)) (fun q1 => ?_)))
  · rw [if_neg (by omega), if_neg (by omega), if_neg (by omega), if_pos q2] at hq
    exact hq
  · rw [if_neg (by omega), if_neg (by omega), if_neg (by omega), if_neg q2] at hq
    exact hq
  · rw [if_pos q1, if_pos q1, if_pos q1] at hq
    exact ⟨0, Nat.zero_le _, cl_3 hl (by omega) hdl hn hq⟩
theorem cl_6 (hl : l.stackTraces = false) (hd : 4 ≤ d) {bd : Nat} (hbd : bd < 43) (hdl : dl < 4) (hn : n < 364) (hpa : pa < 2 ^ 30) (hq : Q (.inl none) (wa9 x0 x1 x2 x3 x4 x5 x6 x7 x8 (uN b n bd) (n + 1) dl (if bd = 0 then ll else if bd ≤ 40 then bd else ll) (if bd = 0 then lb else if bd ≤ 40 then (dl + n) % 4 else lb) (if bd = 0 then ti else if bd ≤ 40 then 1 else if bd = 41 then 2 else 4) (if bd = 0 then pa + 1 else 0) r)) : am_Call l d 6 k [.ref 9, .int (nI bd)] (wa9 x0 x1 x2 x3 x4 x5 x6 x7 x8 b n dl ll lb ti pa r) Q := by
  refine op_6 hl (by omega) (Nat.le_of_ble_eq_true rfl) (fun J hJ => ?_)
  have s47 : ∀ ll' lb' ti' pa', (ll' = if bd = 0 then ll else if bd ≤ 40 then bd else ll) → (lb' = if bd = 0 then lb else if bd ≤ 40 then (dl + n) % 4 else lb) → (ti' = if bd = 0 then ti else if bd ≤ 40 then 1 else if bd = 41 then 2 else 4) → (pa' = if bd = 0 then pa + 1 else 0) → J k 47 [some (Value.ref 9), some (Value.int (nI bd))] [] (wa9 x0 x1 x2 x3 x4 x5 x6 x7 x8 b n dl ll' lb' ti' pa' r) := by
    intro ll' lb' ti' pa' e1 e2 e3 e4
    rw [← e1, ← e2, ← e3, ← e4] at hq
    refine hJ [] 100 _ _ _ _ _ ⟨nI_in (by omega) (by omega), am_qw ?_ hq⟩
    dsimp only
    rw [i_cl (by omega), uN_i, nI_1]
    rfl
  refine hJ [47] 100 _ _ _ _ _ ⟨fun q => absurd q (nI_pos (by omega)), fun _ => bl (a := n) (b := 364) (by omega) (by omega) (fun _ => beq (a := bd) (b := 0) (by omega) (by omega) (fun q => ?_) (fun q => ?_)) (fun q => absurd q (by omega))⟩
  · refine am_jw (J := J) rfl rfl ?_ (s47 ll lb ti (pa + 1) (if_pos q).symm (if_pos q).symm (if_pos q).symm (if_pos q).symm)
    dsimp only
    rw [nI_1]
    rfl
  · exact ⟨0, Nat.zero_le _, cl_7 (pa := 0) hl (by omega) hbd hdl (by omega) (s47 _ _ _ 0 (if_neg q).symm (if_neg q).symm (if_neg q).symm (if_neg q).symm)⟩
theorem cl_8 (hl : l.stackTraces = false) (hd : 1 ≤ d) (hll : ll ≤ 40) (hpa : pa < 2 ^ 30) (hq : Q (.inl (some (Value.int (bI (decide (ll = 0) && decide (4 ≤ pa)))))) (wa9 x0 x1 x2 x3 x4 x5 x6 x7 x8 b n dl ll lb ti pa r)) : am_Call l d 8 k [.ref 9] (wa9 x0 x1 x2 x3 x4 x5 x6 x7 x8 b n dl ll lb ti pa r) Q := by
  refine op_8 hl (by omega) (Nat.le_of_ble_eq_true rfl) (fun J hJ => hJ [] 100 _ _ _ _ _ (beq (a := ll) (b := 0) (by omega) (by omega) (fun q => bl (a := pa) (b := 4) (by omega) (by omega) (fun q1 => ?_) (fun q1 => ?_)) (fun q => ?_)))
  · rw [decide_eq_true q, decide_eq_false (show ¬ 4 ≤ pa by omega)] at hq
    exact ⟨by decide, hq⟩
  · rw [decide_eq_true q, decide_eq_true q1] at hq
    exact ⟨by decide, hq⟩
  · rw [decide_eq_false q] at hq
    exact ⟨by decide, hq⟩
theorem cl_9 (hl : l.stackTraces = false) (hd : 1 ≤ d) (hll : ll ≤ 40) (hpa : pa < 2 ^ 30) (hq : Q (.inl (some (Value.int (bI (decide (0 < ll) && decide (3 ≤ pa)))))) (wa9 x0 x1 x2 x3 x4 x5 x6 x7 x8 b n dl ll lb ti pa r)) : am_Call l d 9 k [.ref 9] (wa9 x0 x1 x2 x3 x4 x5 x6 x7 x8 b n dl ll lb ti pa r) Q := by
  refine op_9 hl (by omega) (Nat.le_of_ble_eq_true rfl) (fun J hJ => hJ [] 100 _ _ _ _ _ (ble (a := ll) (b := 0) (by omega) (by omega) (fun q => ?_) (fun q => bl (a := pa) (b := 3) (by omega) (by omega) (fun q1 => ?_) (fun q1 => ?_))))
  · rw [decide_eq_false (show ¬ 0 < ll by omega)] at hq
    exact ⟨by decide, hq⟩
  · rw [decide_eq_true q, decide_eq_false (show ¬ 3 ≤ pa by omega)] at hq
    exact ⟨by decide, hq⟩
  · rw [decide_eq_true q, decide_eq_true q1] at hq
    exact ⟨by decide, hq⟩
theorem cl_10 (hl : l.stackTraces = false) (hd : 1 ≤ d) (h0 : 0 < ll) (hll : ll ≤ 40) (hq : Q (.inl (some (Value.int (nI ((ll - 1) / 5 + 1))))) (wa9 x0 x1 x2 x3 x4 x5 x6 x7 x8 b n dl ll lb ti pa r)) : am_Call l d 10 k [.ref 9] (wa9 x0 x1 x2 x3 x4 x5 x6 x7 x8 b n dl ll lb ti pa r) Q :=
  op_10 hl (by omega) (Nat.le_of_ble_eq_true rfl) (fun J hJ => hJ [] 100 _ _ _ _ _ ⟨by decide, am_q1 (by
    show (nI ll - 1) / nI 5 + 1 = _
    rw [pk_sub1 h0, pk_div (d := 5) (by omega) (by omega) (by omega), nI_1]) rfl hq⟩)
theorem cl_12 {w : am_M} (hl : l.stackTraces = false) (hd : 1 ≤ d) {bd : Nat} (h0 : 0 < bd) (hll : bd ≤ 43) (hq : Q (.inl (some (Value.int (nI ((bd - 1) % 5))))) w) : am_Call l d 12 k [.int (nI bd)] w Q :=
  op_12 hl (by omega) (Nat.le_of_ble_eq_true rfl) (fun J hJ => hJ [] 100 _ _ _ _ _ ⟨by decide, am_q1 (by
    show (nI bd - 1) - (nI bd - 1) / nI 5 * nI 5 = _
    rw [pk_sub1 h0, pk_rem (d := 5) (by omega) (by omega) (by omega)]) rfl hq⟩)
theorem cl_11 (hl : l.stackTraces = false) (hd : 2 ≤ d) (h0 : 0 < ll) (hll : ll ≤ 40) (hq : Q (.inl (some (Value.int (nI ((ll - 1) % 5))))) (wa9 x0 x1 x2 x3 x4 x5 x6 x7 x8 b n dl ll lb ti pa r)) : am_Call l d 11 k [.ref 9] (wa9 x0 x1 x2 x3 x4 x5 x6 x7 x8 b n dl ll lb ti pa r) Q :=
  op_11 hl (by omega) (Nat.le_of_ble_eq_true rfl) (fun J hJ => hJ [] 100 _ _ _ _ _ ⟨0, Nat.zero_le _, cl_12 hl (by omega) h0 (by omega) hq⟩)
theorem cl_13 (hl : l.stackTraces = false) (hd : 3 ≤ d) (h0 : 0 < ll) (hll : ll ≤ 40) (hlb : lb < 4) (hdl : dl < 4) (hn : n ≤ 364) (hb : ∀ j, j < n → b j < 43) {z : Nat} (hz : z < n) (hzp : dcP b dl lb ((ll - 1) % 5) z = true) (hzn : ∀ j, j < z → dcP b dl lb ((ll - 1) % 5) j = false) (hq : Q (.inl (some (Value.int (nI ((dl + z) % 4))))) (wa9 x0 x1 x2 x3 x4 x5 x6 x7 x8 b n dl ll lb ti pa r)) : am_Call l d 13 k [.ref 9] (wa9 x0 x1 x2 x3 x4 x5 x6 x7 x8 b n dl ll lb ti pa r) Q := by
  refine op_13 hl (by omega) (Nat.le_of_ble_eq_true rfl) (fun J hJ => ?_)
  have hL : ∀ m i o2 o3 o4, i + m = z → J k 2 [some (Value.ref 9), some (Value.int (nI i)), o2, o3, o4] [] (wa9 x0 x1 x2 x3 x4 x5 x6 x7 x8 b n dl ll lb ti pa r) := by
    intro m
    induction m with
    | zero =>
      intro i o2 o3 o4 hi
      have : i = z := by omega
      subst this
      have hzq := of_decide_eq_true hzp
      have hbi := hb i hz
      refine hJ [31] 100 _ _ _ _ _ (ble (a := n) (b := i) (by omega) (by omega) (fun q => absurd q (by omega)) (fun _ => ⟨0, Nat.zero_le _, cl_4 hl (by omega) hz hn (ble (a := b i) (b := 0) (by omega) (by omega) (fun q => absurd q (by omega)) (fun _ => bl (a := 40) (b := b i) (by omega) (by omega) (fun q => absurd q (by omega)) (fun _ => ?_)))⟩))
      refine hJ [55] 100 _ _ _ _ _ ⟨0, Nat.zero_le _, cl_2 hl (by omega) hdl (by omega) ⟨0, Nat.zero_le _, cl_84 hl (by omega) (by omega) ⟨0, Nat.zero_le _, cl_84 hl (by omega) (by omega) (beq (a := (dl + i) % 4 % 2) (b := lb % 2) (by omega) (by omega) (fun q3 => ?_) (fun q3 => absurd q3 (by omega)))⟩⟩⟩
      exact hJ [] 100 _ _ _ _ _ ⟨fun q => absurd q (by decide), fun _ => ⟨fun q => absurd q (by decide), fun _ => ⟨0, Nat.zero_le _, cl_12 hl (by omega) hzq.1 (by omega) ⟨0, Nat.zero_le _, cl_11 hl (by omega) h0 hll (beq (a := (b i - 1) % 5) (b := (ll - 1) % 5) (by omega) (by omega) (fun _ => ⟨0, Nat.zero_le _, cl_2 hl (by omega) hdl (by omega) hq⟩) (fun q => absurd hzq.2.2.2 q))⟩⟩⟩⟩
    | succ m ih =>
      intro i o2 o3 o4 hi
      have hiz : ¬ _ := of_decide_eq_false (hzn i (by omega))
      have hbi := hb i (by omega)
      have s83 : ∀ o2 o3 o4, J k 83 [some (Value.ref 9), some (Value.int (nI i)), o2, o3, o4] [] (wa9 x0 x1 x2 x3 x4 x5 x6 x7 x8 b n dl ll lb ti pa r) := by
        intro o2 o3 o4
        refine hJ [2] 100 _ _ _ _ _ ?_
        exact am_jw (J := J) (congrArg (fun x => [some (Value.ref 9), some (Value.int x), o2, o3, o4]) (nI_1 i)) rfl rfl (ih (i + 1) o2 o3 o4 (by omega))
      have s31 : ∀ p : Bool, p = decide (0 < b i ∧ b i ≤ 40) → J k 31 [some (Value.ref 9), some (Value.int (nI i)), some (Value.int (nI (b i))), o3, o4] [Value.int (bI p)] (wa9 x0 x1 x2 x3 x4 x5 x6 x7 x8 b n dl ll lb ti pa r) := by
        intro p hp
        have s55 : ∀ q : Bool, q = decide ((dl + i) % 2 = lb % 2) → J k 55 [some (Value.ref 9), some (Value.int (nI i)), some (Value.int (nI (b i))), some (Value.int (bI p)), o4] [Value.int (bI q)] (wa9 x0 x1 x2 x3 x4 x5 x6 x7 x8 b n dl ll lb ti pa r) := by
          intro q hqq
          refine hJ [83] 100 _ _ _ _ _ (bz (fun q1 => s83 _ _ _) (fun q1 => bz (fun q2 => s83 _ _ _) (fun q2 => ?_)))
          rw [q1] at hp
          rw [q2] at hqq
          have hp1 := of_decide_eq_true hp.symm
          have hp2 := of_decide_eq_true hqq.symm
          exact ⟨0, Nat.zero_le _, cl_12 hl (by omega) hp1.1 (by omega) ⟨0, Nat.zero_le _, cl_11 hl (by omega) h0 hll (beq (a := (b i - 1) % 5) (b := (ll - 1) % 5) (by omega) (by omega) (fun q => absurd ⟨hp1.1, hp1.2, hp2, q⟩ hiz) (fun q => s83 _ _ _))⟩⟩
        refine hJ [55] 100 _ _ _ _ _ ⟨0, Nat.zero_le _, cl_2 hl (by omega) hdl (by omega) ⟨0, Nat.zero_le _, cl_84 hl (by omega) (by omega) ⟨0, Nat.zero_le _, cl_84 hl (by omega) (by omega) (beq (a := (dl + i) % 4 % 2) (b := lb % 2) (by omega) (by omega) (fun q3 => s55 true (decide_eq_true (by omega)).symm) (fun q3 => s55 false (decide_eq_false (by omega)).symm))⟩⟩⟩
      exact hJ [31] 100 _ _ _ _ _ (ble (a := n) (b := i) (by omega) (by omega) (fun q => absurd q (by omega)) (fun _ => ⟨0, Nat.zero_le _, cl_4 hl (by omega) (by omega) hn (ble (a := b i) (b := 0) (by omega) (by omega) (fun q => s31 false (decide_eq_false (by omega)).symm) (fun q => bl (a := 40) (b := b i) (by omega) (by omega) (fun q2 => s31 false (decide_eq_false (by omega)).symm) (fun q2 => s31 true (decide_eq_true (by omega)).symm)))⟩))
  exact hJ [2] 100 _ _ _ _ _ (hL z 0 none none none (by omega))
theorem cl_15 {w : am_M} (hl : l.stackTraces = false) (hd : 1 ≤ d) {tr : Nat} (ht : tr ≤ 4) (hq : Q (.inl (some (Value.int (nI (worth tr))))) w) : am_Call l d 15 k [.int (nI tr)] w Q := by
  refine op_15 hl (by omega) (Nat.le_of_ble_eq_true rfl) (fun J hJ => hJ [] 100 _ _ _ _ _ (bl (a := tr) (b := 4) (by omega) (by omega) (fun q => bl (a := tr) (b := 2) (by omega) (by omega) (fun q1 => ?_) (fun q1 => ?_)) (fun q => ?_)))
  · rw [worth, if_neg (by omega), if_neg (by omega)] at hq
    exact hq
  · rw [worth, if_neg (by omega), if_pos q1] at hq
    exact hq
  · rw [worth, if_pos q] at hq
    exact hq
theorem cl_14 (hl : l.stackTraces = false) (hd : 3 ≤ d) (h0 : 0 < ll) (hll : ll ≤ 40) {t : Nat} (ht : t ≤ 8) (hq : Q (.inl (some (Value.int (scF ti ((ll - 1) / 5 + 1) ((ll - 1) % 5) t)))) (wa9 x0 x1 x2 x3 x4 x5 x6 x7 x8 b n dl ll lb ti pa r)) : am_Call l d 14 k [.ref 9, .int (nI t)] (wa9 x0 x1 x2 x3 x4 x5 x6 x7 x8 b n dl ll lb ti pa r) Q := by
  refine op_14 hl (by omega) (Nat.le_of_ble_eq_true rfl) (fun J hJ => hJ [] 100 _ _ _ _ _ ⟨0, Nat.zero_le _, cl_10 hl (by omega) h0 hll (ble (a := (ll - 1) / 5 + 1) (b := t) (by omega) (by omega) (fun q => bl (a := (ll - 1) / 5 + 1) (b := 6) (by omega) (by omega) (fun q1 => ?_) (fun q1 => ?_)) (fun q => ?_))⟩)
  · refine ⟨0, Nat.zero_le _, cl_11 hl (by omega) h0 hll ⟨0, Nat.zero_le _, cl_15 hl (by omega) (by omega) (am_q1 ?_ rfl hq)⟩⟩
    show nI ti * nI ((ll - 1) / 5 + 1) * nI (worth ((ll - 1) % 5)) + nI 20 * nI ti * (nI t - nI ((ll - 1) / 5 + 1)) + nI 0 = _
    rw [scF, if_neg (by omega), scV, if_neg (by omega), pk_sub q, pk_mul, pk_mul, pk_mul, pk_mul, nI_add, nI_add]
  · refine ⟨0, Nat.zero_le _, cl_11 hl (by omega) h0 hll ⟨0, Nat.zero_le _, cl_15 hl (by omega) (by omega) (am_q1 ?_ rfl hq)⟩⟩
    show nI ti * nI ((ll - 1) / 5 + 1) * nI (worth ((ll - 1) % 5)) + nI 20 * nI ti * (nI t - nI ((ll - 1) / 5 + 1)) + nI 50 = _
    rw [scF, if_neg (by omega), scV, if_pos q1, pk_sub q, pk_mul, pk_mul, pk_mul, pk_mul, nI_add, nI_add]
  · refine am_q1 ?_ rfl hq
    show (-50) * nI ti * (nI ((ll - 1) / 5 + 1) - nI t) = _
    rw [scF, if_pos q, pk_sub (by omega), show (-50 : Int32) = -(nI 50) by decide, Int32.neg_mul, Int32.neg_mul, pk_mul, pk_mul]
end
