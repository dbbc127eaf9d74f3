/-! contracts: the class's own methods, second half (but the best play and the digest) -/
def le4 (h : Nat → Int32) (m : Nat) : Bool := decide (pc (h 0) ≤ m) && (decide (pc (h 1) ≤ m) && (decide (pc (h 2) ≤ m) && decide (pc (h 3) ≤ m)))
theorem le4_iff {h : Nat → Int32} {m : Nat} : le4 h m = true ↔ ∀ p, p < 4 → pc (h p) ≤ m := by
  unfold le4
  simp only [Bool.and_eq_true, decide_eq_true_iff]
  constructor
  · rintro ⟨a, b, c, d⟩ p hp
    have : p = 0 ∨ p = 1 ∨ p = 2 ∨ p = 3 := by omega
    rcases this with rfl | rfl | rfl | rfl
    · exact a
    · exact b
    · exact c
    · exact d
  · intro a
    exact ⟨a 0 (by omega), a 1 (by omega), a 2 (by omega), a 3 (by omega)⟩
def stl (ll pa : Nat) : Bool := decide (0 < ll) && decide (3 ≤ pa)
def conV (ll ti pa dc wh : Nat) : Int32 := if stl ll pa = false then -1 else if wh = 0 then nI ((ll - 1) / 5 + 1) else if wh = 1 then nI ((ll - 1) % 5) else if wh = 2 then nI dc else nI ti
def nowV (st : Nat) (dn : Int32) (c L : Nat → Nat) (pl tr tu n dl wh : Nat) : Int32 :=
  if wh = 0 then nI st else if wh = 1 then nI dl else if wh = 2 then turnV st tu dl n else if wh = 3 then nI n else if wh = 4 then nI (pl / 4) else if wh = 5 then nI (pl % 4) else if wh = 6 then takeV (L (pl / 4)) (rowOf c (pl / 4)) tr (pl % 4) else dn
def revV (rv : Int32) (L : Nat → Nat) (pl s : Nat) : Nat := (if rvK rv L pl s = 0 then 0 else 1) + (if rvK rv L pl (s + 2) = 0 then 0 else 1)
def sideV (rv : Int32) (L : Nat → Nat) (pl : Nat) (tk : Nat → Nat) (sc : Nat → Int32) (s wh : Nat) : Int32 := if wh = 0 then nI (tk s) else if wh = 1 then sc s else nI (revV rv L pl s)
def trkV (c L : Nat → Nat) (j wh : Nat) : Nat := if wh = 0 then L j else if wh = 1 then L (j + 1) else c (4 * j + (wh - 2 + 4 - L j) % 4)
def wscV (ti lv tr sz dc f : Nat) : Int32 := if dc % 2 = 0 then scF ti lv tr f else -(scF ti lv tr (sz - f))
def isZ (b : Nat → Nat) (n dl ll lb z : Nat) : Prop := z < n ∧ dcP b dl lb ((ll - 1) % 5) z = true ∧ ∀ j, j < z → dcP b dl lb ((ll - 1) % 5) j = false
theorem stl_t {ll pa : Nat} (h : stl ll pa = true) : 0 < ll ∧ 3 ≤ pa := by
  unfold stl at h
  rw [Bool.and_eq_true, decide_eq_true_iff, decide_eq_true_iff] at h
  exact h
theorem uN2_up {tk : Nat → Nat} {x y : Int32} {s v : Nat} (hx : x = nI s) (hs : s < 2) (hy : y = nI v) : upd (fun i => nI (tk i)) x.toNatClampNeg y = fun i => nI (uN tk s v i) := by rw [hx, i_cl (by omega), hy, uN_i]
section
variable {l : Launch} {d k : Nat} {Q : am_Q} {st : Nat} {dn : Int32} {h : Nat → Int32} {c L : Nat → Nat} {sz pl tr tu : Nat} {rv : Int32} {t : am_T5} {b : Nat → Nat} {n dl ll lb ti pa : Nat} {tk : Nat → Nat} {sc : Nat → Int32} {r : am_M}
theorem cl_73 (hl : l.stackTraces = false) (hd : 2 ≤ d) {cd : Nat} (h1 : st = 2) (ht : tu < 4) (hc : cd < 32) (h2 : bt (h tu) cd = true) (hq : Q (.inl none) (wt st dn h c L sz pl rv tr tu t b n dl ll lb ti pa tk sc r)) : am_Call l d 73 k [.ref 0, .int (nI cd)] (wt st dn h c L sz pl rv tr tu t b n dl ll lb ti pa tk sc r) Q := by
  subst h1
  exact op_73 hl (by omega) (Nat.le_of_ble_eq_true rfl) (fun J hJ => hJ [] 100 _ _ _ _ _ ⟨fun _ => ⟨0, Nat.zero_le _, cl_20_1 hl (by omega) ht ⟨0, Nat.zero_le _, cl_86 hl (by omega) hc (bz (fun q => by rw [h2] at q; cases q) (fun _ => hq))⟩⟩, fun q => absurd rfl q⟩)
theorem cl_73x (hl : l.stackTraces = false) (hd : 2 ≤ d) (hk : 1 ≤ k) {cd : Nat} (hst : st < 4) (ht : tu < 4) (hc : cd < 32) (hx : ¬ (st = 2 ∧ bt (h tu) cd = true)) (hq : Q (.inr 3) (wt st dn h c L sz pl rv tr tu t b n dl ll lb ti pa tk sc r)) : am_Call l d 73 k [.ref 0, .int (nI cd)] (wt st dn h c L sz pl rv tr tu t b n dl ll lb ti pa tk sc r) Q :=
  op_73 hl (by omega) (Nat.le_of_ble_eq_true rfl) (fun J hJ => hJ [] 100 _ _ _ _ _ (beq (a := st) (b := 2) (by omega) (by omega) (fun q => ⟨0, Nat.zero_le _, cl_20_1 hl (by omega) ht ⟨0, Nat.zero_le _, cl_86 hl (by omega) hc (bz (fun _ => ⟨hk, hq⟩) (fun q2 => absurd ⟨q, q2⟩ hx))⟩⟩) (fun _ => ⟨hk, hq⟩)))
theorem cl_79 (hl : l.stackTraces = false) (hd : 4 ≤ d) (hst : st < 4) (hq : Q (.inl (some (Value.int (bI (decide (st = 2) && le4 h 3))))) (wt st dn h c L sz pl rv tr tu t b n dl ll lb ti pa tk sc r)) : am_Call l d 79 k [.ref 0] (wt st dn h c L sz pl rv tr tu t b n dl ll lb ti pa tk sc r) Q := by
  refine op_79 hl (by omega) (Nat.le_of_ble_eq_true rfl) (fun J hJ => hJ [] 100 _ _ _ _ _ (beq (a := st) (b := 2) (by omega) (by omega) (fun q => ⟨0, Nat.zero_le _, cl_25_1 (m := 3) (b := le4 h 3) hl (by omega) (by omega) le4_iff (bz (fun q2 => ?_) (fun q2 => ?_))⟩) (fun q => ?_)))
  · rw [decide_eq_true q, q2] at hq
    exact ⟨by decide, hq⟩
  · rw [decide_eq_true q, q2] at hq
    exact ⟨by decide, hq⟩
  · rw [decide_eq_false q] at hq
    exact ⟨by decide, hq⟩
theorem cl_42a (hl : l.stackTraces = false) (hd : 5 ≤ d) {f s m : Nat} (hf : f < 32) (hs : s < 32) (hs1 : s % 2 = 1) (hm : m < 9) {Z : Prop}
    (hok : ∀ J : am_K, (∀ (stop : List Nat) (n k pc : Nat) (ls : am_L) (st : am_S) (w : am_M), am_run (tb_42 (am_Call l (d - 1)) Q) J stop n k pc ls st w → J k pc ls st w) → J k 57 [some (Value.ref 0), some (Value.int (nI f)), some (Value.int (nI s)), some (Value.int (nI m)), some (Value.int 1), none] [] (wt st dn h c L sz pl rv tr tu t b n dl ll lb ti pa tk sc r)) : am_Call l d 42 k [.ref 0, .int (nI f), .int (nI s), .int (nI m)] (wt st dn h c L sz pl rv tr tu t b n dl ll lb ti pa tk sc r) Q := by
  refine op_42 hl (by omega) (Nat.le_of_ble_eq_true rfl) (fun J hJ => ?_)
  have s23 : J k 23 [some (Value.ref 0), some (Value.int (nI f)), some (Value.int (nI s)), some (Value.int (nI m)), none, none] [Value.int 1] (wt st dn h c L sz pl rv tr tu t b n dl ll lb ti pa tk sc r) :=
    hJ [57] 100 _ _ _ _ _ ⟨0, Nat.zero_le _, cl_69 hl (by omega) hf ⟨fun q => absurd q (by decide), fun _ => ⟨fun q => absurd q (by decide), fun _ => ⟨fun q => absurd q (nI_pos (by omega)), fun _ => ble (a := m) (b := 8) (by omega) (by omega) (fun _ => hok J hJ) (fun q => absurd q (by omega))⟩⟩⟩⟩
  exact hJ [23] 100 _ _ _ _ _ (bl (a := s) (b := 1) (by omega) (by omega) (fun q => absurd q (by omega)) (fun _ => ble (a := 32) (b := s) (by omega) (by omega) (fun q => absurd q (by omega)) (fun _ => ⟨by decide, beqx (a := s % 2) (b := 1) (pk_rem (d := 2) (by omega) (by omega) (by omega)) rfl (by omega) (by omega) (fun _ => s23) (fun q => absurd hs1 q)⟩)))
theorem cl_42 (hl : l.stackTraces = false) (hd : 6 ≤ d) {f s m : Nat} (hf : f < 32) (hs : s < 32) (hs1 : s % 2 = 1) (hm : m < 9) (h1 : st = 0) (h2 : le4 h 0 = true) (hq : Q (.inl (some (Value.int (sm (dealH f s h (4 * m) 0))))) (wt st dn (dealH f s h (4 * m)) c L sz pl rv tr tu t b n dl ll lb ti pa tk sc r)) : am_Call l d 42 k [.ref 0, .int (nI f), .int (nI s), .int (nI m)] (wt st dn h c L sz pl rv tr tu t b n dl ll lb ti pa tk sc r) Q := by
  subst h1
  refine cl_42a hl (by omega) hf hs hs1 hm (Z := True) (fun J hJ => ?_)
  have hL : ∀ j i, i + j = 4 * m → J k 87 [some (Value.ref 0), some (Value.int (nI f)), some (Value.int (nI s)), some (Value.int (nI m)), some (Value.int 1), some (Value.int (nI i))] [] (wt 0 dn (dealH f s h i) c L sz pl rv tr tu t b n dl ll lb ti pa tk sc r) := by
    intro j
    induction j with
    | zero =>
      intro i hi
      have : i = 4 * m := by omega
      subst this
      exact hJ [87] 100 _ _ _ _ _ (blex (a := 4 * m) (b := 4 * m) (pk_mul 4 m) rfl (by omega) (by omega) (fun _ => ⟨0, Nat.zero_le _, cl_20_1 (p := 0) hl (by omega) (by omega) ⟨0, Nat.zero_le _, cl_90 hl (by omega) hq⟩⟩) (fun q => absurd q (by omega)))
    | succ j ih =>
      intro i hi
      have hi36 : i < 36 := by omega
      have his : i * s ≤ 36 * 32 := Nat.mul_le_mul (by omega) (by omega)
      refine hJ [87] 100 _ _ _ _ _ (blex (a := 4 * m) (b := i) (pk_mul 4 m) rfl (by omega) (by omega) (fun q => absurd q (by omega)) (fun _ => ⟨by decide, by decide, 0, Nat.zero_le _, am_ca (as' := [Value.ref 1, Value.int (nI (i % 4)), Value.int (nI ((f + i * s) % 32))]) ?_ (cl_22_1 hl (by omega) (Nat.mod_lt _ (by omega)) ?_)⟩))
      · show [Value.ref 1, Value.int (nI i - nI i / nI 4 * nI 4), Value.int (nI f + nI i * nI s - (nI f + nI i * nI s) / nI 32 * nI 32)] = _
        rw [pk_rem (d := 4) (by omega) (by omega) (by omega), pk_mul i s, nI_add, pk_rem (d := 32) (by omega) (by omega) (by omega)]
      · exact am_jw (J := J) (congrArg (fun x => [some (Value.ref 0), some (Value.int (nI f)), some (Value.int (nI s)), some (Value.int (nI m)), some (Value.int 1), some (Value.int x)]) (nI_1 i)) rfl rfl (ih (i + 1) (by omega))
  exact hJ [87] 100 _ _ _ _ _ ⟨fun _ => ⟨0, Nat.zero_le _, cl_24_1 (b := true) hl (by omega) ⟨fun _ => le4_iff.mp h2, fun _ => rfl⟩ ⟨fun q => absurd q (by decide), fun _ => hL (4 * m) 0 (by omega)⟩⟩, fun q => absurd rfl q⟩
theorem cl_42b (hl : l.stackTraces = false) (hd : 6 ≤ d) (hk : 1 ≤ k) {f s m : Nat} (hst : st < 4) (hf : f < 32) (hs : s < 32) (hs1 : s % 2 = 1) (hm : m < 9) (hx : ¬ (st = 0 ∧ le4 h 0 = true)) (hq : Q (.inr 3) (wt st dn h c L sz pl rv tr tu t b n dl ll lb ti pa tk sc r)) : am_Call l d 42 k [.ref 0, .int (nI f), .int (nI s), .int (nI m)] (wt st dn h c L sz pl rv tr tu t b n dl ll lb ti pa tk sc r) Q :=
  cl_42a hl (by omega) hf hs hs1 hm (Z := True) (fun J hJ => hJ [] 100 _ _ _ _ _ (beq (a := st) (b := 0) (by omega) (by omega) (fun q => ⟨0, Nat.zero_le _, cl_24_1 (b := le4 h 0) hl (by omega) le4_iff (bz (fun _ => ⟨hk, hq⟩) (fun q2 => absurd ⟨q, q2⟩ hx))⟩) (fun _ => ⟨hk, hq⟩)))
theorem cl_42x (hl : l.stackTraces = false) (hd : 6 ≤ d) (hk : 1 ≤ k) {x y z : Int32} (hx : ¬ ((∃ f, f < 32 ∧ x = nI f) ∧ (∃ s, s < 32 ∧ s % 2 = 1 ∧ y = nI s) ∧ (∃ m, m < 9 ∧ z = nI m))) (hq : Q (.inr 2) (wt st dn h c L sz pl rv tr tu t b n dl ll lb ti pa tk sc r)) : am_Call l d 42 k [.ref 0, .int x, .int y, .int z] (wt st dn h c L sz pl rv tr tu t b n dl ll lb ti pa tk sc r) Q := by
  refine op_42 hl (by omega) (Nat.le_of_ble_eq_true rfl) (fun J hJ => ?_)
  have s23 : ∀ o : Bool, (o = true → ∃ s, s < 32 ∧ s % 2 = 1 ∧ y = nI s) → J k 23 [some (Value.ref 0), some (Value.int x), some (Value.int y), some (Value.int z), none, none] [Value.int (bI o)] (wt st dn h c L sz pl rv tr tu t b n dl ll lb ti pa tk sc r) := by
    intro o ho
    rcases NR_or x (n := 32) (by omega) with ⟨f, hf, rfl⟩ | hxx
    · refine hJ [57] 100 _ _ _ _ _ ⟨0, Nat.zero_le _, cl_69 hl (by omega) hf ⟨fun q => absurd q (by decide), fun _ => bz (fun _ => ⟨hk, hq⟩) (fun q => ?_)⟩⟩
      rcases NR_or z (n := 9) (by omega) with hz | hz
      · exact absurd ⟨⟨f, hf, rfl⟩, ho q, hz⟩ hx
      · exact bNRl (n := 8) hz (by omega) ⟨hk, hq⟩ ⟨hk, hq⟩
    · exact hJ [57] 100 _ _ _ _ _ ⟨0, Nat.zero_le _, cl_69x hl (by omega) hxx ⟨fun _ => ⟨hk, hq⟩, fun q => absurd rfl q⟩⟩
  rcases NR_or y (n := 32) (by omega) with ⟨s, hs, rfl⟩ | hy
  · exact hJ [23] 100 _ _ _ _ _ (bl (a := s) (b := 1) (by omega) (by omega) (fun q => s23 false (fun q => by cases q)) (fun _ => ble (a := 32) (b := s) (by omega) (by omega) (fun q => absurd q (by omega)) (fun _ => ⟨by decide, beqx (a := s % 2) (b := 1) (pk_rem (d := 2) (by omega) (by omega) (by omega)) rfl (by omega) (by omega) (fun q => s23 true (fun _ => ⟨s, hs, q, rfl⟩)) (fun q => s23 false (fun q => by cases q))⟩)))
  · refine hJ [23] 100 _ _ _ _ _ ⟨fun _ => s23 false (fun q => by cases q), fun q => ⟨fun _ => s23 false (fun q => by cases q), fun q2 => ?_⟩⟩
    rcases hy with h1 | h1
    · exact absurd (Int32.lt_trans h1 (by decide)) q
    · exact absurd h1 q2
theorem cl_50 (hl : l.stackTraces = false) (hd : 4 ≤ d) {wh z : Nat} (hw : wh < 4) (hll : ll ≤ 40) (hlb : lb < 4) (hdl : dl < 4) (hn : n ≤ 364) (hpa : pa < 2 ^ 30) (hb : ∀ j, j < n → b j < 43) (hz : stl ll pa = true → isZ b n dl ll lb z) (hq : Q (.inl (some (Value.int (conV ll ti pa ((dl + z) % 4) wh)))) (wt st dn h c L sz pl rv tr tu t b n dl ll lb ti pa tk sc r)) : am_Call l d 50 k [.ref 0, .int (nI wh)] (wt st dn h c L sz pl rv tr tu t b n dl ll lb ti pa tk sc r) Q := by
  refine op_50 hl (by omega) (Nat.le_of_ble_eq_true rfl) (fun J hJ => hJ [] 100 _ _ _ _ _ ⟨fun q => absurd q (nI_pos (by omega)), fun _ => ble (a := wh) (b := 3) (by omega) (by omega) (fun _ => ⟨0, Nat.zero_le _, cl_9 hl (by omega) hll hpa (bz (fun q => ?_) (fun q => ?_))⟩) (fun q => absurd q (by omega))⟩)
  · rw [conV, if_pos (show stl ll pa = false from q)] at hq
    exact hq
  · rw [conV, if_neg (by rw [show stl ll pa = true from q]; decide)] at hq
    have h0 := (stl_t q).1
    obtain ⟨z1, z2, z3⟩ := hz q
    refine beq (a := wh) (b := 0) (by omega) (by omega) (fun q => ⟨0, Nat.zero_le _, cl_10 hl (by omega) h0 hll ?_⟩) (fun q => beq (a := wh) (b := 1) (by omega) (by omega) (fun q1 => ⟨0, Nat.zero_le _, cl_11 hl (by omega) h0 hll ?_⟩) (fun q1 => beq (a := wh) (b := 2) (by omega) (by omega) (fun q2 => ⟨0, Nat.zero_le _, cl_13 hl (by omega) h0 hll hlb hdl hn hb z1 z2 z3 ?_⟩) (fun q2 => ?_)))
    · rw [if_pos q] at hq
      exact hq
    · rw [if_neg q, if_pos q1] at hq
      exact hq
    · rw [if_neg q, if_neg q1, if_pos q2] at hq
      exact hq
    · rw [if_neg q, if_neg q1, if_neg q2] at hq
      exact hq
theorem cl_50x (hl : l.stackTraces = false) (hd : 4 ≤ d) (hk : 1 ≤ k) {x : Int32} (hx : NR x 4) (hq : Q (.inr 2) (wt st dn h c L sz pl rv tr tu t b n dl ll lb ti pa tk sc r)) : am_Call l d 50 k [.ref 0, .int x] (wt st dn h c L sz pl rv tr tu t b n dl ll lb ti pa tk sc r) Q :=
  op_50 hl (by omega) (Nat.le_of_ble_eq_true rfl) (fun J hJ => hJ [] 100 _ _ _ _ _ (bNRl (n := 3) hx (by omega) ⟨hk, hq⟩ ⟨hk, hq⟩))
theorem cl_52 (hl : l.stackTraces = false) (hd : 4 ≤ d) (h1 : st = 2) (h2 : pl % 4 ≠ 0) (hp : pl ≤ 32) (hL : L ((pl - 1) / 4) < 4) (hq : Q (.inl (some (Value.int (nI (c (pl - 1)))))) (wt st dn (upd h (who L (pl - 1)) (sAdd (h (who L (pl - 1))) (c (pl - 1)))) c L sz (pl - 1) (sDel rv (pl - 1)) tr (who L (pl - 1)) t b n dl ll lb ti pa tk sc r)) : am_Call l d 52 k [.ref 0] (wt st dn h c L sz pl rv tr tu t b n dl ll lb ti pa tk sc r) Q := by
  subst h1
  exact op_52 hl (by omega) (Nat.le_of_ble_eq_true rfl) (fun J hJ => hJ [] 100 _ _ _ _ _ ⟨fun _ => ⟨0, Nat.zero_le _, cl_28_1 hl (by omega) hp (beq (a := pl % 4) (b := 0) (by omega) (by omega) (fun q => absurd q h2) (fun _ => ⟨0, Nat.zero_le _, cl_38_1 hl (by omega) (by omega) hp hL hq⟩))⟩, fun q => absurd rfl q⟩)
theorem cl_52x (hl : l.stackTraces = false) (hd : 4 ≤ d) (hk : 1 ≤ k) (hst : st < 4) (hx : ¬ (st = 2 ∧ pl % 4 ≠ 0)) (hp : pl ≤ 32) (hq : Q (.inr 3) (wt st dn h c L sz pl rv tr tu t b n dl ll lb ti pa tk sc r)) : am_Call l d 52 k [.ref 0] (wt st dn h c L sz pl rv tr tu t b n dl ll lb ti pa tk sc r) Q :=
  op_52 hl (by omega) (Nat.le_of_ble_eq_true rfl) (fun J hJ => hJ [] 100 _ _ _ _ _ (beq (a := st) (b := 2) (by omega) (by omega) (fun q => ⟨0, Nat.zero_le _, cl_28_1 hl (by omega) hp (beq (a := pl % 4) (b := 0) (by omega) (by omega) (fun _ => ⟨hk, hq⟩) (fun q2 => absurd ⟨q, q2⟩ hx))⟩) (fun _ => ⟨hk, hq⟩)))
theorem cl_53 (hl : l.stackTraces = false) (hd : 3 ≤ d) {cd : Nat} (hst : st < 4) (hc : cd < 32) (hp : pl ≤ 32) (ht : tu < 4) (hcc : pl % 4 ≠ 0 → c (4 * (pl / 4)) < 32) (hq : Q (.inl (some (Value.int (bI (decide (st = 2) && bt (RC h c pl tu) cd))))) (wt st dn h c L sz pl rv tr tu t b n dl ll lb ti pa tk sc r)) : am_Call l d 53 k [.ref 0, .int (nI cd)] (wt st dn h c L sz pl rv tr tu t b n dl ll lb ti pa tk sc r) Q := by
  refine op_53 hl (by omega) (Nat.le_of_ble_eq_true rfl) (fun J hJ => hJ [] 100 _ _ _ _ _ ⟨0, Nat.zero_le _, cl_71 hl (by omega) hc (beq (a := st) (b := 2) (by omega) (by omega) (fun q => ⟨0, Nat.zero_le _, cl_36_1 hl (by omega) hp ht hcc ⟨0, Nat.zero_le _, cl_86 hl (by omega) hc (bz (fun q2 => ?_) (fun q2 => ?_))⟩⟩) (fun q => ?_))⟩)
  · rw [decide_eq_true q, q2] at hq
    exact ⟨by decide, hq⟩
  · rw [decide_eq_true q, q2] at hq
    exact ⟨by decide, hq⟩
  · rw [decide_eq_false q] at hq
    exact ⟨by decide, hq⟩
theorem cl_53x (hl : l.stackTraces = false) (hd : 3 ≤ d) (hk : 1 ≤ k) {x : Int32} (hc : NR x 32) (hq : Q (.inr 1) (wt st dn h c L sz pl rv tr tu t b n dl ll lb ti pa tk sc r)) : am_Call l d 53 k [.ref 0, .int x] (wt st dn h c L sz pl rv tr tu t b n dl ll lb ti pa tk sc r) Q :=
  op_53 hl (by omega) (Nat.le_of_ble_eq_true rfl) (fun J hJ => hJ [] 100 _ _ _ _ _ ⟨k, Nat.le_refl _, cl_71x hl (by omega) hk hc hq⟩)
theorem cl_54 (hl : l.stackTraces = false) (hd : 3 ≤ d) {j wh : Nat} (hj : j < pl / 4) (hw : wh < 6) (hp : pl ≤ 32) (hL : L j < 4) (hq : Q (.inl (some (Value.int (nI (trkV c L j wh))))) (wt st dn h c L sz pl rv tr tu t b n dl ll lb ti pa tk sc r)) : am_Call l d 54 k [.ref 0, .int (nI j), .int (nI wh)] (wt st dn h c L sz pl rv tr tu t b n dl ll lb ti pa tk sc r) Q := by
  refine op_54 hl (by omega) (Nat.le_of_ble_eq_true rfl) (fun J hJ => hJ [] 100 _ _ _ _ _ ⟨fun q => absurd q (nI_pos (by omega)), fun _ => ⟨0, Nat.zero_le _, cl_27_1 hl (by omega) hp (bl (a := j) (b := pl / 4) (by omega) (by omega) (fun _ => ⟨fun q => absurd q (nI_pos (by omega)), fun _ => ble (a := wh) (b := 5) (by omega) (by omega) (fun _ => beq (a := wh) (b := 0) (by omega) (by omega) (fun q => ⟨0, Nat.zero_le _, cl_30_1 hl (by omega) rfl (by omega) ?_⟩) (fun q => beq (a := wh) (b := 1) (by omega) (by omega) (fun q2 => ⟨0, Nat.zero_le _, cl_30_1 hl (by omega) (nI_1 j) (by omega) ?_⟩) (fun q2 => ⟨0, Nat.zero_le _, am_ca (congrArg (fun x => [Value.ref 1, Value.int (nI j), Value.int x]) (show nI wh - nI 2 = nI (wh - 2) from pk_sub (by omega))) (cl_33_1 hl (by omega) (by omega) (by omega) hL ?_)⟩))) (fun q => absurd q (by omega))⟩) (fun q => absurd hj (by omega)))⟩⟩)
  · rw [trkV, if_pos q] at hq
    exact hq
  · rw [trkV, if_neg q, if_pos q2] at hq
    exact hq
  · rw [trkV, if_neg q, if_neg q2] at hq
    exact hq
theorem cl_54x (hl : l.stackTraces = false) (hd : 3 ≤ d) (hk : 1 ≤ k) {x y : Int32} (hx : NR x (pl / 4)) (hp : pl ≤ 32) (hq : Q (.inr 1) (wt st dn h c L sz pl rv tr tu t b n dl ll lb ti pa tk sc r)) : am_Call l d 54 k [.ref 0, .int x, .int y] (wt st dn h c L sz pl rv tr tu t b n dl ll lb ti pa tk sc r) Q := by
  refine op_54 hl (by omega) (Nat.le_of_ble_eq_true rfl) (fun J hJ => hJ [] 100 _ _ _ _ _ ⟨fun _ => ⟨hk, hq⟩, fun q => ⟨0, Nat.zero_le _, cl_27_1 hl (by omega) hp ⟨fun q2 => ?_, fun _ => ⟨hk, hq⟩⟩⟩⟩)
  rcases hx with h | h
  · exact absurd h q
  · exact absurd (Int32.lt_of_le_of_lt h q2) (Int32.lt_irrefl)
theorem cl_54y (hl : l.stackTraces = false) (hd : 3 ≤ d) (hk : 1 ≤ k) {j : Nat} {y : Int32} (hj : j < pl / 4) (hp : pl ≤ 32) (hy : NR y 6) (hq : Q (.inr 2) (wt st dn h c L sz pl rv tr tu t b n dl ll lb ti pa tk sc r)) : am_Call l d 54 k [.ref 0, .int (nI j), .int y] (wt st dn h c L sz pl rv tr tu t b n dl ll lb ti pa tk sc r) Q :=
  op_54 hl (by omega) (Nat.le_of_ble_eq_true rfl) (fun J hJ => hJ [] 100 _ _ _ _ _ ⟨fun q => absurd q (nI_pos (by omega)), fun _ => ⟨0, Nat.zero_le _, cl_27_1 hl (by omega) hp (bl (a := j) (b := pl / 4) (by omega) (by omega) (fun _ => bNRl (n := 5) hy (by omega) ⟨hk, hq⟩ ⟨hk, hq⟩) (fun q => absurd hj (by omega)))⟩⟩)
theorem cl_55 (hl : l.stackTraces = false) (hd : 4 ≤ d) {wh : Nat} (hw : wh < 8) (hst : st < 4) (hdl : dl < 4) (hn : n < 2 ^ 30) (hp : pl ≤ 32) (htr : tr ≤ 4) (hc : ∀ i, i < pl → c i < 32) (hL : L (pl / 4) < 4) (hq : Q (.inl (some (Value.int (nowV st dn c L pl tr tu n dl wh)))) (wt st dn h c L sz pl rv tr tu t b n dl ll lb ti pa tk sc r)) : am_Call l d 55 k [.ref 0, .int (nI wh)] (wt st dn h c L sz pl rv tr tu t b n dl ll lb ti pa tk sc r) Q := by
  refine op_55 hl (by omega) (Nat.le_of_ble_eq_true rfl) (fun J hJ => hJ [] 100 _ _ _ _ _ ⟨fun q => absurd q (nI_pos (by omega)), fun _ => ble (a := wh) (b := 7) (by omega) (by omega) (fun _ => ?_) (fun q => absurd q (by omega))⟩)
  rw [nowV] at hq
  refine beq (a := wh) (b := 0) (by omega) (by omega) (fun q => ?_) (fun q0 => beq (a := wh) (b := 1) (by omega) (by omega) (fun q => ?_) (fun q1 => beq (a := wh) (b := 2) (by omega) (by omega) (fun q => ⟨0, Nat.zero_le _, cl_75 hl (by omega) hst hdl hn ?_⟩) (fun q2 => beq (a := wh) (b := 3) (by omega) (by omega) (fun q => ?_) (fun q3 => beq (a := wh) (b := 4) (by omega) (by omega) (fun q => ⟨0, Nat.zero_le _, cl_27_1 hl (by omega) hp ?_⟩) (fun q4 => beq (a := wh) (b := 5) (by omega) (by omega) (fun q => ⟨0, Nat.zero_le _, cl_28_1 hl (by omega) hp ?_⟩) (fun q5 => beq (a := wh) (b := 6) (by omega) (by omega) (fun q => ⟨0, Nat.zero_le _, cl_27_1 hl (by omega) hp ⟨0, Nat.zero_le _, cl_28_1 hl (by omega) hp ⟨0, Nat.zero_le _, cl_34_1 hl (by omega) (by omega) (by omega) (by omega) (fun i hi => hc _ (by omega)) htr hL ?_⟩⟩⟩) (fun q6 => ?_)))))))
  · rw [if_pos q] at hq
    exact hq
  · rw [if_neg q0, if_pos q] at hq
    exact hq
  · rw [if_neg q0, if_neg q1, if_pos q] at hq
    exact hq
  · rw [if_neg q0, if_neg q1, if_neg q2, if_pos q] at hq
    exact hq
  · rw [if_neg q0, if_neg q1, if_neg q2, if_neg q3, if_pos q] at hq
    exact hq
  · rw [if_neg q0, if_neg q1, if_neg q2, if_neg q3, if_neg q4, if_pos q] at hq
    exact hq
  · rw [if_neg q0, if_neg q1, if_neg q2, if_neg q3, if_neg q4, if_neg q5, if_pos q] at hq
    exact hq
  · rw [if_neg q0, if_neg q1, if_neg q2, if_neg q3, if_neg q4, if_neg q5, if_neg q6] at hq
    exact hq
theorem cl_55x (hl : l.stackTraces = false) (hd : 4 ≤ d) (hk : 1 ≤ k) {x : Int32} (hx : NR x 8) (hq : Q (.inr 2) (wt st dn h c L sz pl rv tr tu t b n dl ll lb ti pa tk sc r)) : am_Call l d 55 k [.ref 0, .int x] (wt st dn h c L sz pl rv tr tu t b n dl ll lb ti pa tk sc r) Q :=
  op_55 hl (by omega) (Nat.le_of_ble_eq_true rfl) (fun J hJ => hJ [] 100 _ _ _ _ _ (bNRl (n := 7) hx (by omega) ⟨hk, hq⟩ ⟨hk, hq⟩))
theorem cl_76 (hl : l.stackTraces = false) (hd : 4 ≤ d) {s : Nat} (hs : s < 2) (hp : pl ≤ 32) (hL : ∀ i, i < pl → L (i / 4) < 4) (hq : Q (.inl (some (Value.int (nI (revV rv L pl s))))) (wt st dn h c L sz pl rv tr tu t b n dl ll lb ti pa tk sc r)) : am_Call l d 76 k [.ref 0, .int (nI s)] (wt st dn h c L sz pl rv tr tu t b n dl ll lb ti pa tk sc r) Q := by
  refine op_76 hl (by omega) (Nat.le_of_ble_eq_true rfl) (fun J hJ => ?_)
  have s4b : J k 4 [some (Value.ref 0), some (Value.int (nI s)), some (Value.int (nI (revV rv L pl s))), some (Value.int (nI (s + 4)))] [] (wt st dn h c L sz pl rv tr tu t b n dl ll lb ti pa tk sc r) :=
    hJ [4] 100 _ _ _ _ _ (ble (a := 4) (b := s + 4) (by omega) (by omega) (fun _ => hq) (fun q => absurd q (by omega)))
  have e2 : ∀ x : Nat, nI x + 2 = nI (x + 2) := fun x => nI_add x 2
  have s4a : J k 4 [some (Value.ref 0), some (Value.int (nI s)), some (Value.int (nI (if rvK rv L pl s = 0 then 0 else 1))), some (Value.int (nI (s + 2)))] [] (wt st dn h c L sz pl rv tr tu t b n dl ll lb ti pa tk sc r) := by
    refine hJ [4] 100 _ _ _ _ _ (ble (a := 4) (b := s + 2) (by omega) (by omega) (fun q => absurd q (by omega)) (fun _ => ⟨0, Nat.zero_le _, cl_39_1 (b := decide (0 < rvK rv L pl (s + 2))) hl (by omega) (by omega) hp hL rvK_iff (bz (fun q => ?_) (fun q => ?_))⟩))
    · have e : rvK rv L pl (s + 2) = 0 := by have := of_decide_eq_false q; omega
      rw [revV, if_pos e] at s4b
      exact am_jw (J := J) (congrArg (fun x => [some (Value.ref 0), some (Value.int (nI s)), some (Value.int (nI (if rvK rv L pl s = 0 then 0 else 1))), some (Value.int x)]) (e2 (s + 2))) rfl rfl s4b
    · have e : ¬ rvK rv L pl (s + 2) = 0 := by have := of_decide_eq_true q; omega
      rw [revV, if_neg e] at s4b
      refine am_jw (J := J) ?_ rfl rfl s4b
      rw [nI_1, e2]
  refine hJ [4] 100 _ _ _ _ _ ?_
  refine hJ [4] 100 _ _ _ _ _ (ble (a := 4) (b := s) (by omega) (by omega) (fun q => absurd q (by omega)) (fun _ => ⟨0, Nat.zero_le _, cl_39_1 (b := decide (0 < rvK rv L pl s)) hl (by omega) (by omega) hp hL rvK_iff (bz (fun q => ?_) (fun q => ?_))⟩))
  · have e : rvK rv L pl s = 0 := by have := of_decide_eq_false q; omega
    rw [if_pos e] at s4a
    exact am_jw (J := J) (congrArg (fun x => [some (Value.ref 0), some (Value.int (nI s)), some (Value.int 0), some (Value.int x)]) (e2 s)) rfl rfl s4a
  · have e : ¬ rvK rv L pl s = 0 := by have := of_decide_eq_true q; omega
    rw [if_neg e] at s4a
    exact am_jw (J := J) (congrArg (fun x => [some (Value.ref 0), some (Value.int (nI s)), some (Value.int 1), some (Value.int x)]) (e2 s)) rfl rfl s4a
theorem cl_56 (hl : l.stackTraces = false) (hd : 5 ≤ d) {s wh : Nat} (hs : s < 2) (hw : wh < 3) (hp : pl ≤ 32) (hL : ∀ i, i < pl → L (i / 4) < 4) (hq : Q (.inl (some (Value.int (sideV rv L pl tk sc s wh)))) (wt st dn h c L sz pl rv tr tu t b n dl ll lb ti pa tk sc r)) : am_Call l d 56 k [.ref 0, .int (nI s), .int (nI wh)] (wt st dn h c L sz pl rv tr tu t b n dl ll lb ti pa tk sc r) Q := by
  refine op_56 hl (by omega) (Nat.le_of_ble_eq_true rfl) (fun J hJ => hJ [] 100 _ _ _ _ _ ⟨fun q => absurd q (nI_pos (by omega)), fun _ => ble (a := s) (b := 1) (by omega) (by omega) (fun _ => ⟨fun q => absurd q (nI_pos (by omega)), fun _ => ble (a := wh) (b := 2) (by omega) (by omega) (fun _ => beq (a := wh) (b := 0) (by omega) (by omega) (fun q => ⟨nI_in (by omega) (by omega), ?_⟩) (fun q => beq (a := wh) (b := 1) (by omega) (by omega) (fun q2 => ⟨nI_in (by omega) (by omega), ?_⟩) (fun q2 => ⟨0, Nat.zero_le _, cl_76 hl (by omega) hs hp hL ?_⟩))) (fun q => absurd q (by omega))⟩) (fun q => absurd q (by omega))⟩)
  · rw [sideV, if_pos q] at hq
    exact am_q1 (congrArg (fun i => nI (tk i)) (i_cl (by omega))) rfl hq
  · rw [sideV, if_neg q, if_pos q2] at hq
    exact am_q1 (congrArg sc (i_cl (by omega))) rfl hq
  · rw [sideV, if_neg q, if_neg q2] at hq
    exact hq
theorem cl_56x (hl : l.stackTraces = false) (hd : 5 ≤ d) (hk : 1 ≤ k) {x y : Int32} (hx : NR x 2) (hq : Q (.inr 1) (wt st dn h c L sz pl rv tr tu t b n dl ll lb ti pa tk sc r)) : am_Call l d 56 k [.ref 0, .int x, .int y] (wt st dn h c L sz pl rv tr tu t b n dl ll lb ti pa tk sc r) Q :=
  op_56 hl (by omega) (Nat.le_of_ble_eq_true rfl) (fun J hJ => hJ [] 100 _ _ _ _ _ (bNRl (n := 1) hx (by omega) ⟨hk, hq⟩ ⟨hk, hq⟩))
theorem cl_56y (hl : l.stackTraces = false) (hd : 5 ≤ d) (hk : 1 ≤ k) {s : Nat} {y : Int32} (hs : s < 2) (hy : NR y 3) (hq : Q (.inr 2) (wt st dn h c L sz pl rv tr tu t b n dl ll lb ti pa tk sc r)) : am_Call l d 56 k [.ref 0, .int (nI s), .int y] (wt st dn h c L sz pl rv tr tu t b n dl ll lb ti pa tk sc r) Q :=
  op_56 hl (by omega) (Nat.le_of_ble_eq_true rfl) (fun J hJ => hJ [] 100 _ _ _ _ _ ⟨fun q => absurd q (nI_pos (by omega)), fun _ => ble (a := s) (b := 1) (by omega) (by omega) (fun _ => bNRl (n := 2) hy (by omega) ⟨hk, hq⟩ ⟨hk, hq⟩) (fun q => absurd q (by omega))⟩)
theorem cl_78 (hl : l.stackTraces = false) (hd : 2 ≤ d) {p : Nat} (hp : p < 4) (ht : tk 0 + tk 1 ≤ 8) (hq : Q (.inl none) (wt st dn h c L sz pl rv tr tu t b n dl ll lb ti pa (pay tk (p % 2)) sc r)) : am_Call l d 78 k [.ref 0, .int (nI p)] (wt st dn h c L sz pl rv tr tu t b n dl ll lb ti pa tk sc r) Q := by
  have hs : p % 2 < 2 := Nat.mod_lt _ (by omega)
  have hts : tk (p % 2) ≤ 8 := by
    have : p % 2 = 0 ∨ p % 2 = 1 := by omega
    rcases this with e | e <;> rw [e] <;> omega
  have ecl : (nI (p % 2)).toNatClampNeg = p % 2 := i_cl (by omega)
  refine op_78 hl (by omega) (Nat.le_of_ble_eq_true rfl) (fun J hJ => hJ [24] 100 _ _ _ _ _ ⟨0, Nat.zero_le _, cl_84 hl (by omega) (by omega) ⟨nI_in hs (by omega), blex (a := tk (p % 2)) (b := 0) (congrArg (fun i => nI (tk i)) ecl) rfl (by omega) (by omega) (fun q => ?_) (fun q => ⟨nI_in hs (by omega), nI_in hs (by omega), ?_⟩)⟩⟩)
  · rw [pay, if_pos (by omega)] at hq
    exact hq
  · rw [pay, if_neg (by omega)] at hq
    have e1 : (1 - nI (p % 2)) = nI (1 - p % 2) := pk_sub (a := 1) (by omega)
    refine am_jw (J := J) (w' := (wt st dn h c L sz pl rv tr tu t b n dl ll lb ti pa (uN tk (p % 2) (tk (p % 2) - 1)) sc r)) rfl rfl ?_ (hJ [] 100 _ _ _ _ _ ⟨vin e1 (by omega) (by omega), vin e1 (by omega) (by omega), am_qw ?_ hq⟩)
    · dsimp only
      rw [ecl, pk_sub1 (by omega), uN_i]
      rfl
    · dsimp only
      rw [clx e1 (by omega), show nI (uN tk (p % 2) (tk (p % 2) - 1) (1 - p % 2)) + 1 = nI (uN tk (p % 2) (tk (p % 2) - 1) (1 - p % 2) + 1) from nI_1 _, uN_i]
      rfl
theorem payN_le {m : Nat} (ht : tk 0 + tk 1 = m) (hm : m ≤ 8) (i : Nat) : payN rv L pl tk i 0 + payN rv L pl tk i 1 ≤ 8 := by rw [payN_sum ht]; exact hm
theorem two_le {f : Nat → Nat} {m i : Nat} (h : f 0 + f 1 ≤ m) (hi : i < 2) : f i ≤ m := by
  have : i = 0 ∨ i = 1 := by omega
  rcases this with e | e <;> rw [e] <;> omega
theorem scF_lt {t lv : Nat} (h : t < lv) (hti : ti ≤ 4) (hti0 : 0 < ti) (hlv : lv ≤ 8) : scF ti lv tr t < 0 := by
  rw [scF, if_pos h]
  have hd : 0 < lv - t ∧ lv - t ≤ 8 := ⟨by omega, by omega⟩
  exact (by decide +kernel : ∀ a, a < 5 → 0 < a → ∀ b, b < 9 → 0 < b → -(nI (50 * a * b)) < 0) ti (by omega) hti0 (lv - t) (by omega) hd.1
theorem scV_le {t lv : Nat} (hti : ti ≤ 4) (hlv : lv ≤ 8) (ht : t ≤ 8) : scV ti lv tr t < 2 ^ 31 := by
  have h1 : ti * lv ≤ 4 * 8 := Nat.mul_le_mul hti hlv
  have hw : worth tr ≤ 40 := by
    unfold worth
    split
    · omega
    · split <;> omega
  have h2 : ti * lv * worth tr ≤ 32 * 40 := Nat.mul_le_mul (by omega) hw
  have h3 : 20 * ti * (t - lv) ≤ 80 * 8 := Nat.mul_le_mul (by omega) (by omega)
  have h4 : (if 6 ≤ lv then 50 else 0) ≤ 50 := by split <;> omega
  unfold scV
  omega
theorem scF_ge {t lv : Nat} (h : lv ≤ t) (hti : ti ≤ 4) (hlv : lv ≤ 8) (ht : t ≤ 8) : ¬ scF ti lv tr t < 0 := by
  rw [scF, if_neg (by omega)]
  exact nI_pos (scV_le hti hlv ht)
theorem cl_77 (hl : l.stackTraces = false) (hd : 5 ≤ d) {z m : Nat} (hp : pl ≤ 32) (hL : ∀ i, i < pl → L (i / 4) < 4) (ht : tk 0 + tk 1 = m) (hm : m ≤ 8) (h0 : 0 < ll) (hll : ll ≤ 40) (hti : ti ≤ 4) (hti0 : 0 < ti) (hlb : lb < 4) (hdl : dl < 4) (hn : n ≤ 364) (hb : ∀ j, j < n → b j < 43) (hz : isZ b n dl ll lb z)
    (hq : Q (.inl none) (wt 3 (dn + 1) h c L sz pl rv tr tu t b n dl ll lb ti pa (payN rv L pl tk 4) (scN sc ((dl + z) % 4 % 2) ti ((ll - 1) / 5 + 1) ((ll - 1) % 5) (payN rv L pl tk 4 ((dl + z) % 4 % 2))) r)) : am_Call l d 77 k [.ref 0] (wt st dn h c L sz pl rv tr tu t b n dl ll lb ti pa tk sc r) Q := by
  refine op_77 hl (by omega) (Nat.le_of_ble_eq_true rfl) (fun J hJ => ?_)
  have hd2 : (dl + z) % 4 % 2 < 2 := Nat.mod_lt _ (by omega)
  obtain ⟨D, hD⟩ : ∃ D, D = (dl + z) % 4 % 2 := ⟨_, rfl⟩
  have hDlt : D < 2 := by omega
  have htl : ∀ i, payN rv L pl tk i 0 + payN rv L pl tk i 1 ≤ 8 := payN_le ht hm
  have ecl : (nI D).toNatClampNeg = D := i_cl (by omega)
  have hlv : (ll - 1) / 5 + 1 ≤ 8 := by omega
  have s29 : ∀ o, J k 29 [some (Value.ref 0), o, none] [] (wt st dn h c L sz pl rv tr tu t b n dl ll lb ti pa (payN rv L pl tk 4) sc r) := by
    intro o
    have hT : payN rv L pl tk 4 D ≤ 8 := two_le (htl 4) hDlt
    rw [← hD] at hq
    refine hJ [83] 100 _ _ _ _ _ ⟨0, Nat.zero_le _, cl_13 hl (by omega) h0 hll hlb hdl hn hb hz.1 hz.2.1 hz.2.2 ⟨0, Nat.zero_le _, cl_84 hl (by omega) (by omega) ?_⟩⟩
    rw [← hD]
    refine ⟨nI_in hDlt (by omega), 0, Nat.zero_le _, am_ca (congrArg (fun i => [Value.ref 9, Value.int (nI (payN rv L pl tk 4 i))]) ecl) (cl_14 hl (by omega) h0 hll hT ⟨fun q => ?_, fun q => ?_⟩)⟩
    · have hlt : payN rv L pl tk 4 D < (ll - 1) / 5 + 1 := by
        rcases Nat.lt_or_ge (payN rv L pl tk 4 D) ((ll - 1) / 5 + 1) with g | g
        · exact g
        · exact absurd q (scF_ge g hti hlv hT)
      have e1 : (1 - nI D) = nI (1 - D) := pk_sub (a := 1) (by omega)
      rw [scN, if_pos hlt] at hq
      refine ⟨vin e1 (by omega) (by omega), vin e1 (by omega) (by omega), ?_⟩
      refine am_jw (J := J) (w' := (wt st dn h c L sz pl rv tr tu t b n dl ll lb ti pa (payN rv L pl tk 4) (upd sc (1 - D) (sc (1 - D) + nI (50 * ti * ((ll - 1) / 5 + 1 - payN rv L pl tk 4 D)))) r)) rfl rfl ?_ (hJ [] 100 _ _ _ _ _ hq)
      dsimp only
      rw [clx e1 (by omega), scF, if_pos hlt, Int32.sub_neg]
      rfl
    · have hge : ¬ payN rv L pl tk 4 D < (ll - 1) / 5 + 1 := fun g => q (scF_lt g hti hti0 hlv)
      rw [scN, if_neg hge] at hq
      refine ⟨nI_in hDlt (by omega), nI_in hDlt (by omega), ?_⟩
      refine am_jw (J := J) (w' := (wt st dn h c L sz pl rv tr tu t b n dl ll lb ti pa (payN rv L pl tk 4) (upd sc D (sc D + nI (scV ti ((ll - 1) / 5 + 1) ((ll - 1) % 5) (payN rv L pl tk 4 D)))) r)) rfl rfl ?_ (hJ [] 100 _ _ _ _ _ hq)
      dsimp only
      rw [ecl, scF, if_neg hge]
      rfl
  have hLp : ∀ j i, i + j = 4 → J k 2 [some (Value.ref 0), some (Value.int (nI i)), none] [] (wt st dn h c L sz pl rv tr tu t b n dl ll lb ti pa (payN rv L pl tk i) sc r) := by
    intro j
    induction j with
    | zero =>
      intro i hi
      have : i = 4 := by omega
      subst this
      exact hJ [29] 100 _ _ _ _ _ ⟨fun _ => s29 _, fun q => absurd (by decide) q⟩
    | succ j ih =>
      intro i hi
      have s23 : J k 23 [some (Value.ref 0), some (Value.int (nI i)), none] [] (wt st dn h c L sz pl rv tr tu t b n dl ll lb ti pa (payN rv L pl tk (i + 1)) sc r) := by
        refine hJ [2] 100 _ _ _ _ _ ?_
        exact am_jw (J := J) (congrArg (fun x => [some (Value.ref 0), some (Value.int x), none]) (nI_1 i)) rfl rfl (ih (i + 1) (by omega))
      refine hJ [23] 100 _ _ _ _ _ (ble (a := 4) (b := i) (by omega) (by omega) (fun q => absurd q (by omega)) (fun _ => ⟨0, Nat.zero_le _, cl_39_1 (b := decide (0 < rvK rv L pl i)) hl (by omega) (by omega) hp hL rvK_iff (bz (fun q => ?_) (fun q => ⟨0, Nat.zero_le _, cl_78 hl (by omega) (by omega) (htl i) ?_⟩))⟩))
      · rw [payN, if_pos (by have := of_decide_eq_false q; omega)] at s23
        exact s23
      · rw [payN, if_neg (by have := of_decide_eq_true q; omega)] at s23
        exact s23
  exact hJ [2] 100 _ _ _ _ _ (hLp 4 0 rfl)
theorem cl_47a (hl : l.stackTraces = false) (hd : 5 ≤ d) {bd : Nat} (h1 : st = 1) (hbd : bd < 43) (hdl : dl < 4) (hn : n < 364) (hll : ll ≤ 40) (hlb : lb < 4) (hti : ti ≤ 4) (hpa : pa < 2 ^ 29) (ha : alw n dl ll lb ti bd = true) (hb : ∀ j, j < n → b j < 43) {z : Nat} (hzz : stl (nLl ll bd) (nPa pa bd) = true → isZ (uN b n bd) (n + 1) dl (nLl ll bd) (nLb dl n lb bd) z)
    (hA : (decide (nLl ll bd = 0) && decide (4 ≤ nPa pa bd)) = true → Q (.inl (some (Value.int (-1)))) (wt 3 dn h c L sz pl rv tr tu t (uN b n bd) (n + 1) dl (nLl ll bd) (nLb dl n lb bd) (nTi ti bd) (nPa pa bd) tk sc r))
    (hB : stl (nLl ll bd) (nPa pa bd) = true → Q (.inl (some (Value.int (nI (((dl + z) % 4 + 1) % 4))))) (wt 2 dn h c (uN L 0 (((dl + z) % 4 + 1) % 4)) sz pl rv ((nLl ll bd - 1) % 5) (((dl + z) % 4 + 1) % 4) t (uN b n bd) (n + 1) dl (nLl ll bd) (nLb dl n lb bd) (nTi ti bd) (nPa pa bd) tk sc r))
    (hC : (decide (nLl ll bd = 0) && decide (4 ≤ nPa pa bd)) = false → stl (nLl ll bd) (nPa pa bd) = false → Q (.inl (some (Value.int (nI ((dl + (n + 1)) % 4))))) (wt st dn h c L sz pl rv tr tu t (uN b n bd) (n + 1) dl (nLl ll bd) (nLb dl n lb bd) (nTi ti bd) (nPa pa bd) tk sc r)) : am_Call l d 47 k [.ref 0, .int (nI bd)] (wt st dn h c L sz pl rv tr tu t b n dl ll lb ti pa tk sc r) Q := by
  subst h1
  have hll' : nLl ll bd ≤ 40 := by unfold nLl; split; omega; split <;> omega
  have hpa' : nPa pa bd < 2 ^ 30 := by unfold nPa; split <;> omega
  have hlb' : nLb dl n lb bd < 4 := by unfold nLb; split; omega; split <;> omega
  have hb' : ∀ j, j < n + 1 → uN b n bd j < 43 := by
    intro j hj
    unfold uN
    split
    · exact hbd
    · exact hb j (by omega)
  refine op_47 hl (by omega) (Nat.le_of_ble_eq_true rfl) (fun J hJ => hJ [30] 100 _ _ _ _ _ ⟨0, Nat.zero_le _, cl_72 hl (by omega) hbd ⟨0, Nat.zero_le _, cl_74 hl (by omega) (by omega) hbd hdl (by omega) hll hlb hti ?_⟩⟩)
  rw [ha]
  refine ⟨fun q => absurd q (by decide), fun _ => ⟨0, Nat.zero_le _, cl_6 hl (by omega) hbd hdl hn (by omega) (hJ [] 100 _ _ _ _ _ ⟨0, Nat.zero_le _, cl_8 hl (by omega) hll' hpa' (bz (fun q => ⟨0, Nat.zero_le _, cl_9 hl (by omega) hll' hpa' (bz (fun q2 => ?_) (fun q2 => ?_))⟩) (fun q => ⟨0, Nat.zero_le _, cl_75 (st := 3) hl (by omega) (by omega) hdl (by omega) (hA q)⟩))⟩)⟩⟩
  · exact ⟨0, Nat.zero_le _, cl_75 hl (by omega) (by omega) hdl (by omega) (hC q q2)⟩
  · have h0 := (stl_t q2).1
    obtain ⟨z1, z2, z3⟩ := hzz q2
    exact ⟨0, Nat.zero_le _, cl_13 hl (by omega) h0 hll' hlb' hdl (by omega) hb' z1 z2 z3 ⟨0, Nat.zero_le _, cl_85 hl (by omega) (by omega) ⟨0, Nat.zero_le _, cl_11 hl (by omega) h0 hll' ⟨0, Nat.zero_le _, cl_19_1 hl (by omega) ⟨0, Nat.zero_le _, cl_75 (st := 2) hl (by omega) (by omega) hdl (by omega) (hB q2)⟩⟩⟩⟩⟩
theorem cl_47x (hl : l.stackTraces = false) (hd : 5 ≤ d) (hk : 1 ≤ k) {x : Int32} (hp : NR x 43) (hq : Q (.inr 2) (wt st dn h c L sz pl rv tr tu t b n dl ll lb ti pa tk sc r)) : am_Call l d 47 k [.ref 0, .int x] (wt st dn h c L sz pl rv tr tu t b n dl ll lb ti pa tk sc r) Q :=
  op_47 hl (by omega) (Nat.le_of_ble_eq_true rfl) (fun J hJ => hJ [] 100 _ _ _ _ _ ⟨k, Nat.le_refl _, cl_72x hl (by omega) hk hp hq⟩)
theorem cl_47b (hl : l.stackTraces = false) (hd : 5 ≤ d) (hk : 1 ≤ k) {bd : Nat} (hst : st < 4) (hbd : bd < 43) (hdl : dl < 4) (hn : n < 2 ^ 30) (hll : ll ≤ 40) (hlb : lb < 4) (hti : ti ≤ 4) (hx : (decide (st = 1) && alw n dl ll lb ti bd) = false) (hq : Q (.inr 3) (wt st dn h c L sz pl rv tr tu t b n dl ll lb ti pa tk sc r)) : am_Call l d 47 k [.ref 0, .int (nI bd)] (wt st dn h c L sz pl rv tr tu t b n dl ll lb ti pa tk sc r) Q := by
  refine op_47 hl (by omega) (Nat.le_of_ble_eq_true rfl) (fun J hJ => hJ [] 100 _ _ _ _ _ ⟨0, Nat.zero_le _, cl_72 hl (by omega) hbd ⟨0, Nat.zero_le _, cl_74 hl (by omega) hst hbd hdl hn hll hlb hti ?_⟩⟩)
  rw [hx]
  exact ⟨fun _ => ⟨hk, hq⟩, fun q => absurd rfl q⟩
def pTk (c L : Nat → Nat) (pl tr cd : Nat) (tk : Nat → Nat) : Nat → Nat := if (pl + 1) % 4 = 0 then uN tk (pT c L pl tr cd % 2) (tk (pT c L pl tr cd % 2) + 1) else tk
theorem pRet_m1 {cd : Nat} : pRet c L pl tr cd = -1 ↔ ¬ (pl + 1) % 4 = 0 := by
  unfold pRet
  split
  · rename_i h1
    have := (by decide +kernel : ∀ x, x < 4 → ¬ nI x = -1) (pT c L pl tr cd) (Nat.mod_lt _ (by omega))
    exact ⟨fun q => absurd q this, fun q => absurd h1 q⟩
  · rename_i h1
    exact ⟨fun _ => h1, fun _ => rfl⟩
/-- play, up to what comes behind the taken TRICK -/
theorem cl_51a (hl : l.stackTraces = false) (hd : 6 ≤ d) {cd : Nat} (h1 : st = 2) (ht : tu < 4) (hcd : cd < 32) (h2 : bt (h tu) cd = true) (hp : pl < 32) (htr : tr ≤ 4) (hc : ∀ i, i < pl → c i < 32) (hL : L (pl / 4) < 4) (hs : (pl + 1) / 4 ≤ sz) (hs8 : sz ≤ 8) (htk : tk 0 + tk 1 ≤ 8)
    (hok : ∀ J : am_K, (∀ (stop : List Nat) (n k pc : Nat) (ls : am_L) (st : am_S) (w : am_M), am_run (tb_51 (am_Call l (d - 1)) Q) J stop n k pc ls st w → J k pc ls st w) → ∀ o, J k 43 [some (Value.ref 0), some (Value.int (nI cd)), o] [Value.int (nI (sz - (pl + 1) / 4))] (wt st dn (upd h tu (sDel (h tu) cd)) (uN c pl cd) (pL c L pl tr cd) sz (pl + 1) (pRv h c pl rv tu cd) tr (pTu c L pl tr tu cd) t b n dl ll lb ti pa (pTk c L pl tr cd tk) sc r)) : am_Call l d 51 k [.ref 0, .int (nI cd)] (wt st dn h c L sz pl rv tr tu t b n dl ll lb ti pa tk sc r) Q := by
  refine op_51 hl (by omega) (Nat.le_of_ble_eq_true rfl) (fun J hJ => ?_)
  have s36 : ∀ o, J k 36 [some (Value.ref 0), some (Value.int (nI cd)), o] [] (wt st dn (upd h tu (sDel (h tu) cd)) (uN c pl cd) (pL c L pl tr cd) sz (pl + 1) (pRv h c pl rv tu cd) tr (pTu c L pl tr tu cd) t b n dl ll lb ti pa (pTk c L pl tr cd tk) sc r) := fun o =>
    hJ [43] 100 _ _ _ _ _ ⟨0, Nat.zero_le _, cl_29_1 hl (by omega) (by omega) hs (hok J hJ o)⟩
  refine hJ [18] 100 _ _ _ _ _ ⟨0, Nat.zero_le _, cl_71 hl (by omega) hcd ⟨0, Nat.zero_le _, cl_73 hl (by omega) h1 ht hcd h2 ⟨0, Nat.zero_le _, cl_37_1 hl (by omega) hcd hp ht htr hc hL ?_⟩⟩⟩
  refine hJ [36] 100 _ _ _ _ _ ⟨fun q => ?_, fun q => ?_⟩
  · have e := pRet_m1.mp q
    have := s36 (some (Value.int (pRet c L pl tr cd)))
    rw [pTk, if_neg e] at this
    exact this
  · have e : (pl + 1) % 4 = 0 := by
      by_cases e : (pl + 1) % 4 = 0
      · exact e
      · exact absurd (pRet_m1.mpr e) q
    have hlt : pT c L pl tr cd < 4 := Nat.mod_lt _ (by omega)
    have hm2 : pT c L pl tr cd % 2 < 2 := Nat.mod_lt _ (by omega)
    have ecl : (nI (pT c L pl tr cd % 2)).toNatClampNeg = pT c L pl tr cd % 2 := i_cl (by omega)
    have := s36 (some (Value.int (pRet c L pl tr cd)))
    rw [pTk, if_pos e] at this
    have er : pRet c L pl tr cd = nI (pT c L pl tr cd) := if_pos e
    refine ⟨0, Nat.zero_le _, am_ca (congrArg (fun x => [Value.int x]) er) (cl_84 hl (by omega) (by omega) ⟨nI_in hm2 (by omega), nI_in hm2 (by omega), am_jw (J := J) rfl rfl ?_ this⟩)⟩
    dsimp only
    rw [ecl, nI_1, uN_i]
    rfl
theorem cl_51 (hl : l.stackTraces = false) (hd : 6 ≤ d) {cd : Nat} (h1 : st = 2) (ht : tu < 4) (hcd : cd < 32) (h2 : bt (h tu) cd = true) (hp : pl < 32) (htr : tr ≤ 4) (hc : ∀ i, i < pl → c i < 32) (hL : L (pl / 4) < 4) (hs : (pl + 1) / 4 < sz) (hs8 : sz ≤ 8) (htk : tk 0 + tk 1 ≤ 8) (hdl : dl < 4) (hn : n ≤ 364)
    (hq : Q (.inl (some (Value.int (nI (pTu c L pl tr tu cd))))) (wt st dn (upd h tu (sDel (h tu) cd)) (uN c pl cd) (pL c L pl tr cd) sz (pl + 1) (pRv h c pl rv tu cd) tr (pTu c L pl tr tu cd) t b n dl ll lb ti pa (pTk c L pl tr cd tk) sc r)) : am_Call l d 51 k [.ref 0, .int (nI cd)] (wt st dn h c L sz pl rv tr tu t b n dl ll lb ti pa tk sc r) Q := by
  refine cl_51a hl hd h1 ht hcd h2 hp htr hc hL (by omega) hs8 htk (fun J hJ o => hJ [] 100 _ _ _ _ _ (beq (a := sz - (pl + 1) / 4) (b := 0) (by omega) (by omega) (fun q => absurd q (by omega)) (fun _ => ⟨0, Nat.zero_le _, cl_75 hl (by omega) (by omega) hdl (by omega) ?_⟩)))
  subst h1
  exact hq
theorem cl_51f (hl : l.stackTraces = false) (hd : 6 ≤ d) {cd z m : Nat} (h1 : st = 2) (ht : tu < 4) (hcd : cd < 32) (h2 : bt (h tu) cd = true) (hp : pl < 32) (htr : tr ≤ 4) (hc : ∀ i, i < pl → c i < 32) (hL : L (pl / 4) < 4) (hs : (pl + 1) / 4 = sz) (hs8 : sz ≤ 8) (htk : tk 0 + tk 1 ≤ 8)
    (hLL : ∀ i, i < pl + 1 → pL c L pl tr cd (i / 4) < 4) (hm : pTk c L pl tr cd tk 0 + pTk c L pl tr cd tk 1 = m) (hm8 : m ≤ 8) (h0 : 0 < ll) (hll : ll ≤ 40) (hti : ti ≤ 4) (hti0 : 0 < ti) (hlb : lb < 4) (hdl : dl < 4) (hn : n ≤ 364) (hb : ∀ j, j < n → b j < 43) (hz : isZ b n dl ll lb z)
    (hq : Q (.inl (some (Value.int (-1)))) (wt 3 (dn + 1) (upd h tu (sDel (h tu) cd)) (uN c pl cd) (pL c L pl tr cd) sz (pl + 1) (pRv h c pl rv tu cd) tr (pTu c L pl tr tu cd) t b n dl ll lb ti pa (payN (pRv h c pl rv tu cd) (pL c L pl tr cd) (pl + 1) (pTk c L pl tr cd tk) 4) (scN sc ((dl + z) % 4 % 2) ti ((ll - 1) / 5 + 1) ((ll - 1) % 5) (payN (pRv h c pl rv tu cd) (pL c L pl tr cd) (pl + 1) (pTk c L pl tr cd tk) 4 ((dl + z) % 4 % 2))) r)) : am_Call l d 51 k [.ref 0, .int (nI cd)] (wt st dn h c L sz pl rv tr tu t b n dl ll lb ti pa tk sc r) Q :=
  cl_51a hl hd h1 ht hcd h2 hp htr hc hL (by omega) hs8 htk (fun J hJ o => hJ [] 100 _ _ _ _ _ (beq (a := sz - (pl + 1) / 4) (b := 0) (by omega) (by omega) (fun _ => ⟨0, Nat.zero_le _, cl_77 hl (by omega) (by omega) hLL hm hm8 h0 hll hti hti0 hlb hdl hn hb hz ⟨0, Nat.zero_le _, cl_75 hl (by omega) (by omega) hdl (by omega) hq⟩⟩) (fun q => absurd (by omega) q)))
theorem cl_51x (hl : l.stackTraces = false) (hd : 6 ≤ d) (hk : 1 ≤ k) {x : Int32} (hx : NR x 32) (hq : Q (.inr 1) (wt st dn h c L sz pl rv tr tu t b n dl ll lb ti pa tk sc r)) : am_Call l d 51 k [.ref 0, .int x] (wt st dn h c L sz pl rv tr tu t b n dl ll lb ti pa tk sc r) Q :=
  op_51 hl (by omega) (Nat.le_of_ble_eq_true rfl) (fun J hJ => hJ [] 100 _ _ _ _ _ ⟨k, Nat.le_refl _, cl_71x hl (by omega) hk hx hq⟩)
theorem cl_51y (hl : l.stackTraces = false) (hd : 6 ≤ d) (hk : 1 ≤ k) {cd : Nat} (hst : st < 4) (ht : tu < 4) (hcd : cd < 32) (hx : ¬ (st = 2 ∧ bt (h tu) cd = true)) (hq : Q (.inr 3) (wt st dn h c L sz pl rv tr tu t b n dl ll lb ti pa tk sc r)) : am_Call l d 51 k [.ref 0, .int (nI cd)] (wt st dn h c L sz pl rv tr tu t b n dl ll lb ti pa tk sc r) Q :=
  op_51 hl (by omega) (Nat.le_of_ble_eq_true rfl) (fun J hJ => hJ [] 100 _ _ _ _ _ ⟨0, Nat.zero_le _, cl_71 hl (by omega) hcd ⟨k, Nat.le_refl _, cl_73x hl (by omega) hk hst ht hcd hx hq⟩⟩)
theorem cl_83 {w : am_M} (hl : l.stackTraces = false) (hd : 2 ≤ d) {p : Nat} (hp : p < 4) (hq : Q (.inl (some (Value.int (nI (1 - p % 2))))) w) : am_Call l d 83 k [.int (nI p)] w Q := by
  refine op_83 hl (by omega) (Nat.le_of_ble_eq_true rfl) (fun J hJ => hJ [] 100 _ _ _ _ _ ⟨fun q => absurd q ((by decide +kernel : ∀ x, x < 4 → ¬ nI x = -1) p hp), fun _ => ⟨0, Nat.zero_le _, cl_84 hl (by omega) (by omega) (beq (a := p % 2) (b := 0) (by omega) (by omega) (fun q => ?_) (fun q => ?_))⟩⟩)
  · rw [q] at hq
    exact hq
  · rw [show p % 2 = 1 by omega] at hq
    exact hq
theorem cl_83m {w : am_M} (hl : l.stackTraces = false) (hd : 2 ≤ d) (hq : Q (.inl (some (Value.int 0))) w) : am_Call l d 83 k [.int (-1)] w Q :=
  op_83 hl (by omega) (Nat.le_of_ble_eq_true rfl) (fun J hJ => hJ [] 100 _ _ _ _ _ ⟨fun _ => hq, fun q => absurd rfl q⟩)
theorem cl_65 {w : am_M} (hl : l.stackTraces = false) (hd : 1 ≤ d) {x : Int64} {v : Int32} (hq : Q (.inl (some (Value.long (x * 31 + v.toInt64)))) w) : am_Call l d 65 k [.long x, .int v] w Q :=
  op_65 hl (by omega) (Nat.le_of_ble_eq_true rfl) (fun J hJ => hJ [] 100 _ _ _ _ _ hq)
end
