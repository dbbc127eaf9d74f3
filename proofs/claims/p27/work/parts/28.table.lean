/-! contracts: the class's own methods (at place 0), but the best play and the digest -/
abbrev am_T5 : Type := (Nat → Int32) × (Nat → Nat) × (Nat → Nat) × Nat × Nat × Int32 × Nat × Nat
def cc5t (t : am_T5) (r : am_M) : am_M := cc5 t.1 t.2.1 t.2.2.1 t.2.2.2.1 t.2.2.2.2.1 t.2.2.2.2.2.1 t.2.2.2.2.2.2.1 t.2.2.2.2.2.2.2 r
def wt (st : Nat) (dn : Int32) (h : Nat → Int32) (c L : Nat → Nat) (sz pl : Nat) (rv : Int32) (tr tu : Nat) (t : am_T5) (b : Nat → Nat) (n dl ll lb ti pa : Nat) (tk : Nat → Nat) (sc : Nat → Int32) (r : am_M) : am_M :=
  .inr (2, [.ref 1, .ref 5, .ref 9, .ref 11, .ref 12, .int (nI st), .int dn]) :: cc1 h c L sz pl rv tr tu (cc5t t (ca9 b n dl ll lb ti pa (.inl (0, 2, .inl (fun i => nI (tk i))) :: .inl (0, 2, .inl sc) :: r)))
def NR (x : Int32) (n : Nat) : Prop := x < 0 ∨ nI n ≤ x
theorem NR_or (x : Int32) {n : Nat} (hn : n < 2 ^ 31) : (∃ j, j < n ∧ x = nI j) ∨ NR x n := by
  by_cases h : x < 0
  · exact Or.inr (Or.inl h)
  · obtain ⟨j, hj, e⟩ := nI_of h
    by_cases h2 : j < n
    · exact Or.inl ⟨j, h2, e⟩
    · exact Or.inr (Or.inr (by rw [e]; exact nI_le (by omega) hj))
theorem NR_x {j n : Nat} (hj : j < n) (hn : n < 2 ^ 31) : ¬ NR (nI j) n := by
  rintro (q | q)
  · exact nI_pos (by omega) q
  · exact nI_ge hj hn q
/-- branches: x below 0, or above m, or good -/
theorem bNR {x : Int32} {n : Nat} {A A' B : Prop} (hx : NR x n) (f : A) (g : A') : (x < 0 → A) ∧ (¬ x < 0 → (nI n ≤ x → A') ∧ (¬ nI n ≤ x → B)) :=
  ⟨fun _ => f, fun q => ⟨fun _ => g, fun q2 => by
    rcases hx with h | h
    · exact absurd h q
    · exact absurd h q2⟩⟩
theorem bNRg {x : Int32} {n : Nat} {A A' B : Prop} (hx : NR x (n + 1)) (hn : n < 2 ^ 31 - 1) (f : A) (g : A') : (x < 0 → A) ∧ (¬ x < 0 → (nI n < x → A') ∧ (¬ nI n < x → B)) :=
  ⟨fun _ => f, fun q => ⟨fun _ => g, fun q2 => by
    rcases hx with h | h
    · exact absurd h q
    · obtain ⟨j, hj, e⟩ := nI_of q
      subst e
      have := (nI_leI (by omega) hj).mp h
      exact absurd (nI_lt (by omega) hj) q2⟩⟩
theorem bNRl {x : Int32} {n : Nat} {A A' B : Prop} (hx : NR x (n + 1)) (hn : n < 2 ^ 31 - 1) (f : A) (g : A') : (x < 0 → A) ∧ (¬ x < 0 → (x ≤ nI n → B) ∧ (¬ x ≤ nI n → A')) :=
  ⟨fun _ => f, fun q => ⟨fun q2 => by
    rcases hx with h | h
    · exact absurd h q
    · exact absurd (Int32.le_trans h q2) (nI_ge (by omega) (by omega)), fun _ => g⟩⟩
theorem bNRt {x : Int32} {n : Nat} {A A' B : Prop} (hx : NR x n) (f : A) (g : A') : (x < 0 → A) ∧ (¬ x < 0 → (x < nI n → B) ∧ (¬ x < nI n → A')) :=
  ⟨fun _ => f, fun q => ⟨fun q2 => by
    rcases hx with h | h
    · exact absurd h q
    · exact absurd (Int32.lt_of_le_of_lt h q2) (Int32.lt_irrefl), fun _ => g⟩⟩
def hAll (h : Nat → Int32) : Int32 := h 0 ||| h 1 ||| h 2 ||| h 3
def dealH (f s : Nat) (h : Nat → Int32) : Nat → Nat → Int32
  | 0 => h
  | n + 1 => upd (dealH f s h n) (n % 4) (sAdd (dealH f s h n (n % 4)) ((f + n * s) % 32))
def handA (h : Nat → Int32) (p s : Nat) : Int32 := if s = 4 then h p else h p &&& sSuit s
def handV (h : Nat → Int32) (p s w : Nat) : Int32 := if w = 0 then nI (pc (handA h p s)) else if w = 1 then gr (handA h p s) else sm (handA h p s)
def nLl (ll bd : Nat) : Nat := if bd = 0 then ll else if bd ≤ 40 then bd else ll
def nLb (dl n lb bd : Nat) : Nat := if bd = 0 then lb else if bd ≤ 40 then (dl + n) % 4 else lb
def nTi (ti bd : Nat) : Nat := if bd = 0 then ti else if bd ≤ 40 then 1 else if bd = 41 then 2 else 4
def nPa (pa bd : Nat) : Nat := if bd = 0 then pa + 1 else 0
def turnV (st : Nat) (pl_tu dl n : Nat) : Int32 := if st = 1 then nI ((dl + n) % 4) else if st = 2 then nI pl_tu else -1
def rvK (rv : Int32) (L : Nat → Nat) (pl p : Nat) : Nat := fb_ct (fun i => bt rv i && decide (who L i = p)) pl
def pay (tk : Nat → Nat) (s : Nat) : Nat → Nat := if tk s = 0 then tk else uN (uN tk s (tk s - 1)) (1 - s) (uN tk s (tk s - 1) (1 - s) + 1)
def payN (rv : Int32) (L : Nat → Nat) (pl : Nat) (tk : Nat → Nat) : Nat → Nat → Nat
  | 0 => tk
  | n + 1 => if rvK rv L pl n = 0 then payN rv L pl tk n else pay (payN rv L pl tk n) (n % 2)
def scN (sc : Nat → Int32) (dc ti lv tr t : Nat) : Nat → Int32 := if t < lv then upd sc (1 - dc) (sc (1 - dc) + nI (50 * ti * (lv - t))) else upd sc dc (sc dc + nI (scV ti lv tr t))
theorem pay_sum {tk : Nat → Nat} {s m : Nat} (hs : s < 2) (h : tk 0 + tk 1 = m) : pay tk s 0 + pay tk s 1 = m := by
  unfold pay
  by_cases h0 : tk s = 0
  · rw [if_pos h0]; exact h
  · rw [if_neg h0]
    have : s = 0 ∨ s = 1 := by omega
    rcases this with rfl | rfl
    · simp only [uN]
      simp
      omega
    · simp only [uN]
      simp
      omega
theorem payN_sum {rv : Int32} {L : Nat → Nat} {pl : Nat} {tk : Nat → Nat} {m : Nat} (h : tk 0 + tk 1 = m) : ∀ n, payN rv L pl tk n 0 + payN rv L pl tk n 1 = m
  | 0 => h
  | n + 1 => by
    rw [payN]
    split
    · exact payN_sum h n
    · exact pay_sum (Nat.mod_lt _ (by omega)) (payN_sum h n)
theorem rvK_iff {rv : Int32} {L : Nat → Nat} {pl p : Nat} : decide (0 < rvK rv L pl p) = true ↔ ∃ i, i < pl ∧ bt rv i = true ∧ who L i = p := by
  rw [decide_eq_true_iff, rvK, fb_ct_pos]
  constructor
  · rintro ⟨i, h1, h2⟩
    rw [Bool.and_eq_true, decide_eq_true_iff] at h2
    exact ⟨i, h1, h2⟩
  · rintro ⟨i, h1, h2⟩
    exact ⟨i, h1, by rw [Bool.and_eq_true, decide_eq_true_iff]; exact h2⟩
section
variable {l : Launch} {d k : Nat} {Q : am_Q} {st : Nat} {dn : Int32} {h : Nat → Int32} {c L : Nat → Nat} {sz pl tr tu : Nat} {rv : Int32} {t : am_T5} {b : Nat → Nat} {n dl ll lb ti pa : Nat} {tk : Nat → Nat} {sc : Nat → Int32} {r : am_M}
set_option maxRecDepth 20000 in
theorem cl_41 (hl : l.stackTraces = false) (hd : 2 ≤ d) {p : Nat} (hp : p < 4) (hq : Q (.inl (some (Value.int (nI st)))) (wt 0 dn (hz h 4) c L 0 0 0 tr tu t b 0 p 0 0 1 0 (uN (uN tk 0 0) 1 0) sc r)) : am_Call l d 41 k [.ref 0, .int (nI p)] (wt st dn h c L sz pl rv tr tu t b n dl ll lb ti pa tk sc r) Q := by
  refine op_41 hl (by omega) (Nat.le_of_ble_eq_true rfl) (fun J hJ => hJ [24] 100 _ _ _ _ _ ⟨0, Nat.zero_le _, cl_70 hl (by omega) hp ⟨0, Nat.zero_le _, cl_17_1 hl (by omega) ⟨0, Nat.zero_le _, cl_1 hl (by omega) ?_⟩⟩⟩)
  refine hJ [] 100 _ _ _ _ _ ⟨nI_in (c := 0) (by omega) (by omega), nI_in (c := 1) (by omega) (by omega), am_qw ?_ hq⟩
  rw [show upd (upd (fun i => nI (tk i)) (Int32.toNatClampNeg 0) 0) (Int32.toNatClampNeg 1) 0 = fun i => nI (uN (uN tk 0 0) 1 0 i) from by rw [← uN_i, ← uN_i]; rfl]
  rfl
theorem cl_41x (hl : l.stackTraces = false) (hd : 2 ≤ d) (hk : 1 ≤ k) {x : Int32} (hp : NR x 4) (hq : Q (.inr 1) (wt st dn h c L sz pl rv tr tu t b n dl ll lb ti pa tk sc r)) : am_Call l d 41 k [.ref 0, .int x] (wt st dn h c L sz pl rv tr tu t b n dl ll lb ti pa tk sc r) Q :=
  op_41 hl (by omega) (Nat.le_of_ble_eq_true rfl) (fun J hJ => hJ [] 100 _ _ _ _ _ ⟨k, Nat.le_refl _, cl_70x hl (by omega) hk hp hq⟩)
def rdy (h : Nat → Int32) : Bool := decide (pc (h 1) = pc (h 0)) && (decide (pc (h 2) = pc (h 0)) && (decide (pc (h 3) = pc (h 0)) && decide (0 < pc (h 0))))
theorem rdy_iff {h : Nat → Int32} : rdy h = true ↔ (∀ p, p < 4 → pc (h p) = pc (h 0)) ∧ 0 < pc (h 0) := by
  unfold rdy
  simp only [Bool.and_eq_true, decide_eq_true_iff]
  constructor
  · rintro ⟨a, b, c, d⟩
    refine ⟨fun p hp => ?_, d⟩
    have : p = 0 ∨ p = 1 ∨ p = 2 ∨ p = 3 := by omega
    rcases this with rfl | rfl | rfl | rfl
    · rfl
    · exact a
    · exact b
    · exact c
  · rintro ⟨a, b⟩
    exact ⟨a 1 (by omega), a 2 (by omega), a 3 (by omega), b⟩
theorem cl_44 (hl : l.stackTraces = false) (hd : 4 ≤ d) (h1 : st = 0) (h2 : rdy h = true) (hq : Q (.inl (some (Value.int (nI (4 * pc (h 0)))))) (wt 1 dn h c L (pc (h 0)) pl rv tr tu t b n dl ll lb ti pa tk sc r)) : am_Call l d 44 k [.ref 0] (wt st dn h c L sz pl rv tr tu t b n dl ll lb ti pa tk sc r) Q := by
  subst h1
  refine op_44 hl (by omega) (Nat.le_of_ble_eq_true rfl) (fun J hJ => hJ [] 100 _ _ _ _ _ ⟨fun _ => ⟨0, Nat.zero_le _, cl_26_1 hl (by omega) (b := true) (by have e := rdy_iff (h := h); rw [h2] at e; exact e) ⟨fun q => absurd q (by decide), fun _ => ⟨0, Nat.zero_le _, cl_21_1 (p := 0) hl (by omega) (by omega) (am_q1 (pk_mul 4 (pc (h 0))) rfl hq)⟩⟩⟩, fun q => absurd rfl q⟩)
theorem cl_44b (hl : l.stackTraces = false) (hd : 4 ≤ d) (hk : 1 ≤ k) (hst : st < 4) (hx : ¬ (st = 0 ∧ rdy h = true)) (hq : Q (.inr 3) (wt st dn h c L sz pl rv tr tu t b n dl ll lb ti pa tk sc r)) : am_Call l d 44 k [.ref 0] (wt st dn h c L sz pl rv tr tu t b n dl ll lb ti pa tk sc r) Q := by
  refine op_44 hl (by omega) (Nat.le_of_ble_eq_true rfl) (fun J hJ => hJ [] 100 _ _ _ _ _ (beq (a := st) (b := 0) (by omega) (by omega) (fun q => ⟨0, Nat.zero_le _, cl_26_1 hl (by omega) (b := rdy h) rdy_iff (bz (fun q2 => ⟨hk, hq⟩) (fun q2 => absurd ⟨q, q2⟩ hx))⟩) (fun _ => ⟨hk, hq⟩)))
theorem cl_45 (hl : l.stackTraces = false) (hd : 3 ≤ d) {p cd : Nat} (hp : p < 4) (hc : cd < 32) (hq : Q (.inl (some (Value.int (bI (bt (h p) cd))))) (wt st dn h c L sz pl rv tr tu t b n dl ll lb ti pa tk sc r)) : am_Call l d 45 k [.ref 0, .int (nI p), .int (nI cd)] (wt st dn h c L sz pl rv tr tu t b n dl ll lb ti pa tk sc r) Q :=
  op_45 hl (by omega) (Nat.le_of_ble_eq_true rfl) (fun J hJ => hJ [] 100 _ _ _ _ _ ⟨0, Nat.zero_le _, cl_70 hl (by omega) hp ⟨0, Nat.zero_le _, cl_71 hl (by omega) hc ⟨0, Nat.zero_le _, cl_20_1 hl (by omega) hp ⟨0, Nat.zero_le _, cl_86 hl (by omega) hc (am_qz rfl rfl hq)⟩⟩⟩⟩)
theorem cl_45x (hl : l.stackTraces = false) (hd : 3 ≤ d) (hk : 1 ≤ k) {x y : Int32} (hp : NR x 4) (hq : Q (.inr 1) (wt st dn h c L sz pl rv tr tu t b n dl ll lb ti pa tk sc r)) : am_Call l d 45 k [.ref 0, .int x, .int y] (wt st dn h c L sz pl rv tr tu t b n dl ll lb ti pa tk sc r) Q :=
  op_45 hl (by omega) (Nat.le_of_ble_eq_true rfl) (fun J hJ => hJ [] 100 _ _ _ _ _ ⟨k, Nat.le_refl _, cl_70x hl (by omega) hk hp hq⟩)
theorem cl_45y (hl : l.stackTraces = false) (hd : 3 ≤ d) (hk : 1 ≤ k) {p : Nat} {y : Int32} (hp : p < 4) (hc : NR y 32) (hq : Q (.inr 1) (wt st dn h c L sz pl rv tr tu t b n dl ll lb ti pa tk sc r)) : am_Call l d 45 k [.ref 0, .int (nI p), .int y] (wt st dn h c L sz pl rv tr tu t b n dl ll lb ti pa tk sc r) Q :=
  op_45 hl (by omega) (Nat.le_of_ble_eq_true rfl) (fun J hJ => hJ [] 100 _ _ _ _ _ ⟨0, Nat.zero_le _, cl_70 hl (by omega) hp ⟨k, Nat.le_refl _, cl_71x hl (by omega) hk hc hq⟩⟩)
theorem cl_46 (hl : l.stackTraces = false) (hd : 3 ≤ d) {p s wh : Nat} (hp : p < 4) (hs : s < 5) (hw : wh < 3) (hq : Q (.inl (some (Value.int (handV h p s wh)))) (wt st dn h c L sz pl rv tr tu t b n dl ll lb ti pa tk sc r)) : am_Call l d 46 k [.ref 0, .int (nI p), .int (nI s), .int (nI wh)] (wt st dn h c L sz pl rv tr tu t b n dl ll lb ti pa tk sc r) Q := by
  refine op_46 hl (by omega) (Nat.le_of_ble_eq_true rfl) (fun J hJ => ?_)
  have s59 : ∀ a, a = handA h p s → J k 59 [some (Value.ref 0), some (Value.int (nI p)), some (Value.int (nI s)), some (Value.int (nI wh)), some (Value.int (h p)), none] [Value.int a] (wt st dn h c L sz pl rv tr tu t b n dl ll lb ti pa tk sc r) := by
    intro a ha
    rw [handV, ← ha] at hq
    refine hJ [] 100 _ _ _ _ _ (beq (a := wh) (b := 0) (by omega) (by omega) (fun q => ⟨0, Nat.zero_le _, cl_150 hl (by omega) ?_⟩) (fun q => beq (a := wh) (b := 1) (by omega) (by omega) (fun q2 => ⟨0, Nat.zero_le _, cl_91 hl (by omega) ?_⟩) (fun q2 => ⟨0, Nat.zero_le _, cl_90 hl (by omega) ?_⟩)))
    · rw [if_pos q] at hq
      exact hq
    · rw [if_neg q, if_pos q2] at hq
      exact hq
    · rw [if_neg q, if_neg q2] at hq
      exact hq
  refine hJ [59] 100 _ _ _ _ _ ⟨0, Nat.zero_le _, cl_70 hl (by omega) hp ⟨fun q => absurd q (nI_pos (by omega)), fun _ => bl (a := 4) (b := s) (by omega) (by omega) (fun q => absurd q (by omega)) (fun _ => ⟨fun q => absurd q (nI_pos (by omega)), fun _ => ble (a := wh) (b := 2) (by omega) (by omega) (fun _ => ⟨0, Nat.zero_le _, cl_20_1 hl (by omega) hp (beq (a := s) (b := 4) (by omega) (by omega) (fun q => s59 _ (if_pos q).symm) (fun q => ⟨0, Nat.zero_le _, cl_89 hl (by omega) (s59 _ (if_neg q).symm)⟩))⟩) (fun q => absurd q (by omega))⟩)⟩⟩
theorem cl_46x (hl : l.stackTraces = false) (hd : 3 ≤ d) (hk : 1 ≤ k) {x y z : Int32} (hp : NR x 4) (hq : Q (.inr 1) (wt st dn h c L sz pl rv tr tu t b n dl ll lb ti pa tk sc r)) : am_Call l d 46 k [.ref 0, .int x, .int y, .int z] (wt st dn h c L sz pl rv tr tu t b n dl ll lb ti pa tk sc r) Q :=
  op_46 hl (by omega) (Nat.le_of_ble_eq_true rfl) (fun J hJ => hJ [] 100 _ _ _ _ _ ⟨k, Nat.le_refl _, cl_70x hl (by omega) hk hp hq⟩)
theorem cl_46y (hl : l.stackTraces = false) (hd : 3 ≤ d) (hk : 1 ≤ k) {p : Nat} {y z : Int32} (hp : p < 4) (hx : NR y 5 ∨ NR z 3) (hq : Q (.inr 2) (wt st dn h c L sz pl rv tr tu t b n dl ll lb ti pa tk sc r)) : am_Call l d 46 k [.ref 0, .int (nI p), .int y, .int z] (wt st dn h c L sz pl rv tr tu t b n dl ll lb ti pa tk sc r) Q := by
  refine op_46 hl (by omega) (Nat.le_of_ble_eq_true rfl) (fun J hJ => hJ [] 100 _ _ _ _ _ ⟨0, Nat.zero_le _, cl_70 hl (by omega) hp ?_⟩)
  rcases NR_or y (n := 5) (by omega) with ⟨s, hs, rfl⟩ | hy
  · have hz : NR z 3 := by
      rcases hx with q | q
      · exact absurd q (NR_x hs (by omega))
      · exact q
    exact ⟨fun q => absurd q (nI_pos (by omega)), fun _ => bl (a := 4) (b := s) (by omega) (by omega) (fun q => absurd q (by omega)) (fun _ => bNRl (n := 2) hz (by omega) ⟨hk, hq⟩ ⟨hk, hq⟩)⟩
  · exact bNRg (n := 4) hy (by omega) ⟨hk, hq⟩ ⟨hk, hq⟩
theorem cl_74 (hl : l.stackTraces = false) (hd : 4 ≤ d) {bd : Nat} (hst : st < 4) (hbd : bd < 43) (hdl : dl < 4) (hn : n < 2 ^ 30) (hll : ll ≤ 40) (hlb : lb < 4) (hti : ti ≤ 4) (hq : Q (.inl (some (Value.int (bI (decide (st = 1) && alw n dl ll lb ti bd))))) (wt st dn h c L sz pl rv tr tu t b n dl ll lb ti pa tk sc r)) : am_Call l d 74 k [.ref 0, .int (nI bd)] (wt st dn h c L sz pl rv tr tu t b n dl ll lb ti pa tk sc r) Q := by
  refine op_74 hl (by omega) (Nat.le_of_ble_eq_true rfl) (fun J hJ => hJ [] 100 _ _ _ _ _ (beq (a := st) (b := 1) (by omega) (by omega) (fun q => ⟨0, Nat.zero_le _, cl_5 hl (by omega) hbd hdl hn hll hlb hti (bz (fun q2 => ?_) (fun q2 => ?_))⟩) (fun q => ?_)))
  · rw [decide_eq_true q, q2] at hq
    exact ⟨by decide, hq⟩
  · rw [decide_eq_true q, q2] at hq
    exact ⟨by decide, hq⟩
  · rw [decide_eq_false q] at hq
    exact ⟨by decide, hq⟩
theorem cl_48 (hl : l.stackTraces = false) (hd : 5 ≤ d) {bd : Nat} (hst : st < 4) (hbd : bd < 43) (hdl : dl < 4) (hn : n < 2 ^ 30) (hll : ll ≤ 40) (hlb : lb < 4) (hti : ti ≤ 4) (hq : Q (.inl (some (Value.int (bI (decide (st = 1) && alw n dl ll lb ti bd))))) (wt st dn h c L sz pl rv tr tu t b n dl ll lb ti pa tk sc r)) : am_Call l d 48 k [.ref 0, .int (nI bd)] (wt st dn h c L sz pl rv tr tu t b n dl ll lb ti pa tk sc r) Q :=
  op_48 hl (by omega) (Nat.le_of_ble_eq_true rfl) (fun J hJ => hJ [] 100 _ _ _ _ _ ⟨0, Nat.zero_le _, cl_72 hl (by omega) hbd ⟨0, Nat.zero_le _, cl_74 hl (by omega) hst hbd hdl hn hll hlb hti (am_qz rfl rfl hq)⟩⟩)
theorem cl_48x (hl : l.stackTraces = false) (hd : 5 ≤ d) (hk : 1 ≤ k) {x : Int32} (hp : NR x 43) (hq : Q (.inr 2) (wt st dn h c L sz pl rv tr tu t b n dl ll lb ti pa tk sc r)) : am_Call l d 48 k [.ref 0, .int x] (wt st dn h c L sz pl rv tr tu t b n dl ll lb ti pa tk sc r) Q :=
  op_48 hl (by omega) (Nat.le_of_ble_eq_true rfl) (fun J hJ => hJ [] 100 _ _ _ _ _ ⟨k, Nat.le_refl _, cl_72x hl (by omega) hk hp hq⟩)
theorem cl_75 (hl : l.stackTraces = false) (hd : 3 ≤ d) (hst : st < 4) (hdl : dl < 4) (hn : n < 2 ^ 30) (hq : Q (.inl (some (Value.int (turnV st tu dl n)))) (wt st dn h c L sz pl rv tr tu t b n dl ll lb ti pa tk sc r)) : am_Call l d 75 k [.ref 0] (wt st dn h c L sz pl rv tr tu t b n dl ll lb ti pa tk sc r) Q := by
  refine op_75 hl (by omega) (Nat.le_of_ble_eq_true rfl) (fun J hJ => hJ [] 100 _ _ _ _ _ (beq (a := st) (b := 1) (by omega) (by omega) (fun q => ⟨0, Nat.zero_le _, cl_3 hl (by omega) hdl hn ?_⟩) (fun q => beq (a := st) (b := 2) (by omega) (by omega) (fun q2 => ?_) (fun q2 => ?_))))
  · rw [turnV, if_pos q] at hq
    exact hq
  · rw [turnV, if_neg q, if_pos q2] at hq
    exact hq
  · rw [turnV, if_neg q, if_neg q2] at hq
    exact hq
end
