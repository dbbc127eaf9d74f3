/-! contracts: the model, fifth part: contract, scores, play, questions -/
def mdF (ti lvl tr D t : Nat) : Nat → Int32 := if t < lvl then upd (fun _ => 0) (1 - D) (nI (50 * ti * (lvl - t))) else upd (fun _ => 0) D (nI (scV ti lvl tr t))
theorem sc_md {sc : Nat → Int32} {D ti lvl tr t : Nat} (hD : D < 2) : upd (upd sc 0 (sc 0 + mdF ti lvl tr D t 0)) 1 (upd sc 0 (sc 0 + mdF ti lvl tr D t 0) 1 + mdF ti lvl tr D t 1) = scN sc D ti lvl tr t := by
  have key : ∀ (E : Nat) (v : Int32), E < 2 → upd (upd sc 0 (sc 0 + upd (fun _ => 0) E v 0)) 1 (upd sc 0 (sc 0 + upd (fun _ => 0) E v 0) 1 + upd (fun _ => 0) E v 1) = upd sc E (sc E + v) := by
    intro E v hE
    funext j
    have hE2 : E = 0 ∨ E = 1 := by omega
    rcases hE2 with rfl | rfl
    · simp only [upd]
      by_cases a : j = 1
      · subst a; simp
      · by_cases b : j = 0
        · subst b; simp
        · simp [a, b]
    · simp only [upd]
      by_cases a : j = 1
      · subst a; simp
      · by_cases b : j = 0
        · subst b; simp
        · simp [a, b]
  unfold mdF scN
  by_cases h : t < lvl
  · rw [if_pos h, if_pos h]
    exact key _ _ (by omega)
  · rw [if_neg h, if_neg h]
    exact key _ _ hD
def payM (V : Nat → Nat) (tk : Nat → Nat) : Nat → Nat → Nat
  | 0 => tk
  | n + 1 => if V n = 0 then payM V tk n else pay (payM V tk n) (n % 2)
theorem payM_sum {V : Nat → Nat} {tk : Nat → Nat} {m : Nat} (h : tk 0 + tk 1 = m) : ∀ n, payM V tk n 0 + payM V tk n 1 = m
  | 0 => h
  | n + 1 => by
    rw [payM]
    split
    · exact payM_sum h n
    · exact pay_sum (Nat.mod_lt _ (by omega)) (payM_sum h n)
def uB (I : Nat → Bool) (k : Nat) (b : Bool) : Nat → Bool := fun j => if j = k then b else I j
theorem uB_up {I : Nat → Bool} {k : Nat} {b : Bool} (hk : k < 2 ^ 31) : upd (fun i => bI (I i)) (nI k).toNatClampNeg (vp_nar .boolean (bI b)) = fun i => bI (uB I k b i) := by
  rw [i_cl hk]
  funext j
  show (if j = k then vp_nar .boolean (bI b) else bI (I j)) = bI (if j = k then b else I j)
  by_cases e : j = k
  · rw [if_pos e, if_pos e]
    cases b <;> rfl
  · rw [if_neg e, if_neg e]
theorem bzx {x : Int32} {b : Bool} {A B : Prop} (e : x = bI b) (f : b = false → A) (g : b = true → B) : (x = 0 → A) ∧ (¬ x = 0 → B) := by rw [e]; exact bz f g
def b2n (b : Bool) : Nat := if b then 1 else 0
section
variable {l : Launch} {d k : Nat} {Q : am_Q} {x0 x1 x2 x3 x4 x5 x6 x7 x8 x9 x10 x11 x12 : am_E} {th st dl sz : Nat} {h : Nat → Int32} {n bq : Nat} {lv : Int32} {tr dc ti tc : Nat} {T : Nat → Nat} {ld ly : Nat} {K V : Nat → Nat} {I : Nat → Bool} {tk : Nat → Nat} {sc : Nat → Int32} {dn : Int32} {R : Nat → Nat → Nat} {e5 eo : am_E} {r : am_M} {N : Nat} {bm : Nat → Nat}
theorem cl_116 (hl : l.stackTraces = false) (hd : 5 ≤ d) (hst : st < 4) (hb : bqA bq e5 r N bm) (hnN : n ≤ N) (hN : N ≤ 1000) (hbm : ∀ j, j < n → bm j < 43) {bd : Nat} (hbd : bd < 43) (hq : Q (.inl (some (Value.int (bI (decide (st = 1) && alwM bm n bd))))) (wm x0 x1 x2 x3 x4 x5 x6 x7 x8 x9 x10 x11 x12 0 st dl sz h n bq lv tr dc ti tc T ld ly K V I tk sc dn R e5 eo r)) : am_Call l d 116 k [.ref 13, .int (nI bd)] (wm x0 x1 x2 x3 x4 x5 x6 x7 x8 x9 x10 x11 x12 th st dl sz h n bq lv tr dc ti tc T ld ly K V I tk sc dn R e5 eo r) Q := by
  refine op_116 hl (by omega) (Nat.le_of_ble_eq_true rfl) (fun J hJ => hJ [] 100 _ _ _ _ _ ⟨0, Nat.zero_le _, cl_95n (lo := 0) (hi := 42) hl (by omega) (by omega) (by omega) (by omega) (bz (fun q => absurd (of_decide_eq_false q) (by omega)) (fun _ => ⟨fun _ => beq (a := st) (b := 1) (by omega) (by omega) (fun q => ⟨0, Nat.zero_le _, cl_112 (th := 0) hl (by omega) hb hnN hN hbm hbd (bz (fun q2 => ?_) (fun q2 => ?_))⟩) (fun q => ?_), fun q => absurd rfl q⟩))⟩)
  · rw [decide_eq_true q, q2] at hq
    exact ⟨by decide, hq⟩
  · rw [decide_eq_true q, q2] at hq
    exact ⟨by decide, hq⟩
  · rw [decide_eq_false q] at hq
    exact ⟨by decide, hq⟩
theorem cl_116x (hl : l.stackTraces = false) (hd : 5 ≤ d) {x : Int32} (hx : NR x 43) (hq : ∀ v, Q (.inl (some (Value.int v))) (wm x0 x1 x2 x3 x4 x5 x6 x7 x8 x9 x10 x11 x12 1 st dl sz h n bq lv tr dc ti tc T ld ly K V I tk sc dn R e5 eo r)) : am_Call l d 116 k [.ref 13, .int x] (wm x0 x1 x2 x3 x4 x5 x6 x7 x8 x9 x10 x11 x12 th st dl sz h n bq lv tr dc ti tc T ld ly K V I tk sc dn R e5 eo r) Q :=
  op_116 hl (by omega) (Nat.le_of_ble_eq_true rfl) (fun J hJ => hJ [] 100 _ _ _ _ _ ⟨0, Nat.zero_le _, cl_95x (n := 42) hl (by omega) (by omega) hx ⟨fun _ => ⟨fun q => absurd q (by decide), fun _ => ⟨by decide, hq 0⟩⟩, fun q => absurd rfl q⟩⟩)
theorem in_m1 {j m : Nat} (hj : j < m) (hm : m < 2 ^ 31) : true = true ↔ ((0 : Int32) ≤ nI j ∧ nI j ≤ nI m - 1) := by
  rw [pk_sub1 (by omega)]
  exact ⟨fun _ => ⟨nI_pos' (by omega), nI_le (by omega) (by omega)⟩, fun _ => rfl⟩
theorem in_m1x {x : Int32} {m : Nat} (hx : NR x m) (hm : m < 2 ^ 31) : false = true ↔ ((0 : Int32) ≤ x ∧ x ≤ nI m - 1) := by
  constructor
  · intro q; cases q
  · rintro ⟨h1, h2⟩
    rcases hx with q | q
    · exact absurd (Int32.lt_of_le_of_lt h1 q) (Int32.lt_irrefl)
    · cases m with
      | zero => exact absurd (Int32.le_trans h1 h2) (by decide)
      | succ m =>
        rw [pk_sub1 (by omega)] at h2
        exact absurd (Int32.le_trans q h2) (nI_ge (by omega) (by omega))
theorem cl_117 (hl : l.stackTraces = false) (hd : 2 ≤ d) (hb : bqA bq e5 r N bm) (hnN : n ≤ N) (hN : N ≤ 1000) {j : Nat} (hj : j < n) (hq : Q (.inl (some (Value.int (nI (bm j))))) (wm x0 x1 x2 x3 x4 x5 x6 x7 x8 x9 x10 x11 x12 0 st dl sz h n bq lv tr dc ti tc T ld ly K V I tk sc dn R e5 eo r)) : am_Call l d 117 k [.ref 13, .int (nI j)] (wm x0 x1 x2 x3 x4 x5 x6 x7 x8 x9 x10 x11 x12 th st dl sz h n bq lv tr dc ti tc T ld ly K V I tk sc dn R e5 eo r) Q := by
  refine op_117 hl (by omega) (Nat.le_of_ble_eq_true rfl) (fun J hJ => hJ [24] 100 _ _ _ _ _ ⟨0, Nat.zero_le _, cl_95 (b := true) hl (by omega) (in_m1 hj (by omega)) ⟨fun q => absurd q (by decide), fun _ => ?_⟩⟩)
  exact hJ [] 100 _ _ _ _ _ (bq_ld (th := 0) hb ⟨nI_in (by omega) (by omega), am_q1 (congrArg (fun i => nI (bm i)) (i_cl (by omega))) rfl hq⟩)
set_option maxRecDepth 20000 in
theorem cl_117x (hl : l.stackTraces = false) (hd : 2 ≤ d) (hn : n ≤ 1000) {x : Int32} (hx : NR x n) (hq : Q (.inl (some (Value.int 0))) (wm x0 x1 x2 x3 x4 x5 x6 x7 x8 x9 x10 x11 x12 1 st dl sz h n bq lv tr dc ti tc T ld ly K V I tk sc dn R e5 eo r)) : am_Call l d 117 k [.ref 13, .int x] (wm x0 x1 x2 x3 x4 x5 x6 x7 x8 x9 x10 x11 x12 th st dl sz h n bq lv tr dc ti tc T ld ly K V I tk sc dn R e5 eo r) Q :=
  op_117 hl (by omega) (Nat.le_of_ble_eq_true rfl) (fun J hJ => hJ [] 100 _ _ _ _ _ ⟨0, Nat.zero_le _, cl_95 (b := false) hl (by omega) (in_m1x hx (by omega)) ⟨fun _ => ⟨0, Nat.zero_le _, cl_94 (th := 0) hl (by omega) (y := 1) rfl hq⟩, fun q => absurd rfl q⟩⟩)
theorem cl_118 (hl : l.stackTraces = false) (hd : 1 ≤ d) {wh : Nat} (hw : wh < 4) (hq : Q (.inl (some (Value.int (conM lv tr dc ti wh)))) (wm x0 x1 x2 x3 x4 x5 x6 x7 x8 x9 x10 x11 x12 th st dl sz h n bq lv tr dc ti tc T ld ly K V I tk sc dn R e5 eo r)) : am_Call l d 118 k [.ref 13, .int (nI wh)] (wm x0 x1 x2 x3 x4 x5 x6 x7 x8 x9 x10 x11 x12 th st dl sz h n bq lv tr dc ti tc T ld ly K V I tk sc dn R e5 eo r) Q := by
  refine op_118 hl (by omega) (Nat.le_of_ble_eq_true rfl) (fun J hJ => hJ [] 100 _ _ _ _ _ ⟨fun q => ?_, fun q => beq (a := wh) (b := 0) (by omega) (by omega) (fun q0 => ?_) (fun q0 => beq (a := wh) (b := 1) (by omega) (by omega) (fun q1 => ?_) (fun q1 => beq (a := wh) (b := 2) (by omega) (by omega) (fun q2 => ?_) (fun q2 => ?_)))⟩)
  · rw [conM, if_pos q] at hq
    exact hq
  · rw [conM, if_neg q, if_pos q0] at hq
    exact hq
  · rw [conM, if_neg q, if_neg q0, if_pos q1] at hq
    exact hq
  · rw [conM, if_neg q, if_neg q0, if_neg q1, if_pos q2] at hq
    exact hq
  · rw [conM, if_neg q, if_neg q0, if_neg q1, if_neg q2] at hq
    exact hq
theorem cl_119 (hl : l.stackTraces = false) (hd : 2 ≤ d) {wh : Nat} (hw : wh < 4) (hq : Q (.inl (some (Value.int (conM lv tr dc ti wh)))) (wm x0 x1 x2 x3 x4 x5 x6 x7 x8 x9 x10 x11 x12 0 st dl sz h n bq lv tr dc ti tc T ld ly K V I tk sc dn R e5 eo r)) : am_Call l d 119 k [.ref 13, .int (nI wh)] (wm x0 x1 x2 x3 x4 x5 x6 x7 x8 x9 x10 x11 x12 th st dl sz h n bq lv tr dc ti tc T ld ly K V I tk sc dn R e5 eo r) Q :=
  op_119 hl (by omega) (Nat.le_of_ble_eq_true rfl) (fun J hJ => hJ [] 100 _ _ _ _ _ ⟨0, Nat.zero_le _, cl_95n (lo := 0) (hi := 3) hl (by omega) (by omega) (by omega) (by omega) (bz (fun q => absurd (of_decide_eq_false q) (by omega)) (fun _ => ⟨0, Nat.zero_le _, cl_118 (th := 0) hl (by omega) hw hq⟩))⟩)
set_option maxRecDepth 20000 in
theorem cl_119x (hl : l.stackTraces = false) (hd : 2 ≤ d) {x : Int32} (hx : NR x 4) (hq : Q (.inl (some (Value.int 0))) (wm x0 x1 x2 x3 x4 x5 x6 x7 x8 x9 x10 x11 x12 1 st dl sz h n bq lv tr dc ti tc T ld ly K V I tk sc dn R e5 eo r)) : am_Call l d 119 k [.ref 13, .int x] (wm x0 x1 x2 x3 x4 x5 x6 x7 x8 x9 x10 x11 x12 th st dl sz h n bq lv tr dc ti tc T ld ly K V I tk sc dn R e5 eo r) Q :=
  op_119 hl (by omega) (Nat.le_of_ble_eq_true rfl) (fun J hJ => hJ [] 100 _ _ _ _ _ ⟨0, Nat.zero_le _, cl_95x (n := 3) hl (by omega) (by omega) hx ⟨fun _ => ⟨0, Nat.zero_le _, cl_94 (th := 0) hl (by omega) (y := 1) rfl hq⟩, fun q => absurd rfl q⟩⟩)
set_option maxRecDepth 20000 in
theorem cl_123 (hl : l.stackTraces = false) (hd : 1 ≤ d) (hk : 1 ≤ k) {lvl t : Nat} (hlv : lv = nI lvl) (hl8 : lvl ≤ 8) (ht : t ≤ 8) (htr : tr ≤ 4) (hti : ti ≤ 4) (hdc : dc < 4) (hq : Q (.inl (some (Value.ref (r.length + 29)))) (wm x0 x1 x2 x3 x4 x5 x6 x7 x8 x9 x10 x11 x12 th st dl sz h n bq lv tr dc ti tc T ld ly K V I tk sc dn R e5 eo (r ++ [.inl (0, 2, .inl (mdF ti lvl tr (dc % 2) t))]))) : am_Call l d 123 k [.ref 13, .int (nI t)] (wm x0 x1 x2 x3 x4 x5 x6 x7 x8 x9 x10 x11 x12 th st dl sz h n bq lv tr dc ti tc T ld ly K V I tk sc dn R e5 eo r) Q := by
  subst hlv
  obtain ⟨k', rfl⟩ : ∃ k', k = k' + 1 := ⟨k - 1, by omega⟩
  have hD : dc % 2 < 2 := Nat.mod_lt _ (by omega)
  have eD : nI dc - nI dc / 2 * 2 = nI (dc % 2) := pk_rem (d := 2) (by omega) (by omega) (by omega)
  refine op_123 hl (by omega) (Nat.le_of_ble_eq_true rfl) (fun J hJ => ?_)
  have s32 : J k' 32 [some (Value.ref 13), some (Value.int (nI t)), some (Value.ref (r.length + 29)), none] [Value.int (nI (worth tr))] (wm x0 x1 x2 x3 x4 x5 x6 x7 x8 x9 x10 x11 x12 th st dl sz h n bq (nI lvl) tr dc ti tc T ld ly K V I tk sc dn R e5 eo (r ++ [.inl (0, 2, .inl (fun _ => 0))])) := by
    refine hJ [89, 116] 100 _ _ _ _ _ (bl (a := t) (b := lvl) (by omega) (by omega) (fun g => ⟨by decide, ?_⟩) (fun g => ⟨by decide, ble (a := lvl) (b := 5) (by omega) (by omega) (fun g2 => ?_) (fun g2 => ?_)⟩))
    · have e1 : (1 : Int32) - (nI dc - nI dc / 2 * 2) = nI (1 - dc % 2) := by rw [eD]; exact pk_sub (a := 1) (by omega)
      have e2 : (50 : Int32) * nI ti * (nI lvl - nI t) = nI (50 * ti * (lvl - t)) := by rw [pk_sub (by omega), show (50 : Int32) * nI ti = nI (50 * ti) from pk_mul 50 ti, pk_mul]
      rw [mdF, if_pos g] at hq
      refine hJ [] 100 _ _ _ _ _ (tl_at ⟨vin e1 (by omega) (by omega), tl_put (am_qw ?_ hq)⟩)
      dsimp only
      rw [clx e1 (by omega), e2]
      rfl
    · have e2 : nI ti * nI lvl * nI (worth tr) + 20 * nI ti * (nI t - nI lvl) + 0 = nI (scV ti lvl tr t) := by
        rw [pk_sub (by omega), show (20 : Int32) * nI ti = nI (20 * ti) from pk_mul 20 ti, pk_mul, pk_mul, pk_mul, nI_add, show (0 : Int32) = nI 0 from rfl, nI_add, scV, if_neg (show ¬ 6 ≤ lvl by omega)]
      rw [mdF, if_neg (by omega)] at hq
      refine hJ [] 100 _ _ _ _ _ (tl_at ⟨vin eD (by omega) (by omega), tl_put (am_qw ?_ hq)⟩)
      dsimp only
      rw [clx eD (by omega), e2]
      rfl
    · have e2 : nI ti * nI lvl * nI (worth tr) + 20 * nI ti * (nI t - nI lvl) + 50 = nI (scV ti lvl tr t) := by
        rw [pk_sub (by omega), show (20 : Int32) * nI ti = nI (20 * ti) from pk_mul 20 ti, pk_mul, pk_mul, pk_mul, nI_add, show (50 : Int32) = nI 50 from rfl, nI_add, scV, if_pos (show 6 ≤ lvl by omega)]
      rw [mdF, if_neg (by omega)] at hq
      refine hJ [] 100 _ _ _ _ _ (tl_at ⟨vin eD (by omega) (by omega), tl_put (am_qw ?_ hq)⟩)
      dsimp only
      rw [clx eD (by omega), e2]
      rfl
  refine hJ [3] 100 _ _ _ _ _ ⟨2, rfl, by omega, (am_app_iff (l := r)).mpr ?_⟩
  refine hJ [32] 100 _ _ _ _ _ (ble (a := 2) (b := tr) (by omega) (by omega) (fun g => ble (a := 4) (b := tr) (by omega) (by omega) (fun g2 => ?_) (fun g2 => ?_)) (fun g => ?_))
  · rw [worth, if_pos g2] at s32
    exact s32
  · rw [worth, if_neg (by omega), if_pos g] at s32
    exact s32
  · rw [worth, if_neg (by omega), if_neg (by omega)] at s32
    exact s32
theorem cl_124 (hl : l.stackTraces = false) (hd : 2 ≤ d) (hk : 1 ≤ k) {lvl : Nat} (hlv : lv = nI lvl) (hl8 : lvl ≤ 8) (htr : tr ≤ 4) (hti : ti ≤ 4) (hdc : dc < 4) (hV : ∀ p, p < 4 → V p ≤ 100) {m : Nat} (ht : tk 0 + tk 1 = m) (hm : m ≤ 8) (hq : ∀ v, Q (.inl none) (wm x0 x1 x2 x3 x4 x5 x6 x7 x8 x9 x10 x11 x12 th 3 dl sz h n bq lv tr dc ti tc T ld ly K V I (payM V tk 4) (scN sc (dc % 2) ti lvl tr (payM V tk 4 (dc % 2))) (dn + 1) R e5 eo (r ++ [v]))) : am_Call l d 124 k [.ref 13] (wm x0 x1 x2 x3 x4 x5 x6 x7 x8 x9 x10 x11 x12 th st dl sz h n bq lv tr dc ti tc T ld ly K V I tk sc dn R e5 eo r) Q := by
  have hD : dc % 2 < 2 := Nat.mod_lt _ (by omega)
  have eD : nI dc - nI dc / 2 * 2 = nI (dc % 2) := pk_rem (d := 2) (by omega) (by omega) (by omega)
  have hts : ∀ i, payM V tk i 0 + payM V tk i 1 ≤ 8 := fun i => by rw [payM_sum ht i]; exact hm
  refine op_124 hl (by omega) (Nat.le_of_ble_eq_true rfl) (fun J hJ => ?_)
  have s77 : ∀ o, J k 77 [some (Value.ref 13), o] [] (wm x0 x1 x2 x3 x4 x5 x6 x7 x8 x9 x10 x11 x12 th 3 dl sz h n bq lv tr dc ti tc T ld ly K V I (payM V tk 4) sc (dn + 1) R e5 eo r) := by
    intro o
    have hT : payM V tk 4 (dc % 2) ≤ 8 := two_le (hts 4) hD
    refine hJ [102] 100 _ _ _ _ _ ⟨by decide, vin eD hD (by omega), 1, hk, am_ca (congrArg (fun i => [Value.ref 13, Value.int (nI (payM V tk 4 i))]) (clx eD (by omega))) (cl_123 (st := 3) hl (by omega) (Nat.le_refl _) hlv hl8 hT htr hti hdc ⟨nI_in (c := 0) (by omega) (by omega), ?_⟩)⟩
    have hq1 := hq (.inl (0, 2, .inl (mdF ti lvl tr (dc % 2) (payM V tk 4 (dc % 2)))))
    rw [← sc_md hD] at hq1
    refine hJ [114] 100 _ _ _ _ _ (tl_at ⟨nI_in (c := 0) (by omega) (by omega), nI_in (c := 0) (by omega) (by omega), nI_in (c := 1) (by omega) (by omega), ?_⟩)
    exact hJ [] 100 _ _ _ _ _ (tl_at ⟨nI_in (c := 1) (by omega) (by omega), nI_in (c := 1) (by omega) (by omega), hq1⟩)
  have hLp : ∀ j i, i + j = 4 → J k 17 [some (Value.ref 13), some (Value.int (nI i))] [] (wm x0 x1 x2 x3 x4 x5 x6 x7 x8 x9 x10 x11 x12 th 3 dl sz h n bq lv tr dc ti tc T ld ly K V I (payM V tk i) sc (dn + 1) R e5 eo r) := by
    intro j
    induction j with
    | zero =>
      intro i hi
      have : i = 4 := by omega
      subst this
      exact hJ [77] 100 _ _ _ _ _ ⟨fun _ => s77 _, fun q => absurd (by decide) q⟩
    | succ j ih =>
      intro i hi
      have hVi := hV i (by omega)
      have ecl : (nI i).toNatClampNeg = i := i_cl (by omega)
      have e2 : nI i - nI i / 2 * 2 = nI (i % 2) := pk_rem (d := 2) (by omega) (by omega) (by omega)
      have h2 : i % 2 < 2 := Nat.mod_lt _ (by omega)
      have htk8 : payM V tk i (i % 2) ≤ 8 := two_le (hts i) h2
      have s71 : J k 71 [some (Value.ref 13), some (Value.int (nI i))] [] (wm x0 x1 x2 x3 x4 x5 x6 x7 x8 x9 x10 x11 x12 th 3 dl sz h n bq lv tr dc ti tc T ld ly K V I (payM V tk (i + 1)) sc (dn + 1) R e5 eo r) := by
        refine hJ [17] 100 _ _ _ _ _ ?_
        exact am_jw (J := J) (congrArg (fun x => [some (Value.ref 13), some (Value.int x)]) (nI_1 i)) rfl rfl (ih (i + 1) (by omega))
      rw [payM] at s71
      refine hJ [45, 71] 100 _ _ _ _ _ (ble (a := 4) (b := i) (by omega) (by omega) (fun q => absurd q (by omega)) (fun _ => ⟨nI_in (by omega) (by omega), beqx (a := V i) (b := 0) (congrArg (fun i => nI (V i)) ecl) rfl (by omega) (by omega) (fun g => ?_) (fun g => ⟨by decide, vin e2 h2 (by omega), beqx (a := payM V tk i (i % 2)) (b := 0) (congrArg (fun x => nI (payM V tk i x)) (clx e2 (by omega))) rfl (by omega) (by omega) (fun g2 => ?_) (fun g2 => ?_)⟩)⟩))
      · rw [if_pos g] at s71
        exact s71
      · rw [if_neg g, pay, if_pos g2] at s71
        exact s71
      · rw [if_neg g, pay, if_neg g2] at s71
        refine hJ [57] 100 _ _ _ _ _ ⟨by decide, vin e2 h2 (by omega), vin e2 h2 (by omega), ?_⟩
        refine am_jw (J := J) (w' := (wm x0 x1 x2 x3 x4 x5 x6 x7 x8 x9 x10 x11 x12 th 3 dl sz h n bq lv tr dc ti tc T ld ly K V I (uN (payM V tk i) (i % 2) (payM V tk i (i % 2) - 1)) sc (dn + 1) R e5 eo r)) rfl rfl (by dsimp only; rw [clx e2 (by omega), pk_sub1 (by omega), uN_i]; rfl) ?_
        have e3 : (1 : Int32) - (nI i - nI i / 2 * 2) = nI (1 - i % 2) := by rw [e2]; exact pk_sub (a := 1) (by omega)
        refine hJ [71] 100 _ _ _ _ _ ⟨by decide, vin e3 (by omega) (by omega), vin e3 (by omega) (by omega), ?_⟩
        refine am_jw (J := J) rfl rfl ?_ s71
        dsimp only
        rw [clx e3 (by omega), nI_1, uN_i]
        rfl
  exact hJ [17] 100 _ _ _ _ _ (hLp 4 0 rfl)
theorem cl_126 (hl : l.stackTraces = false) (hd : 3 ≤ d) (h1 : st = 2) (h2 : ly ≠ 0) (hly : ly < 4) (hld : ld < 4) (hdl : dl < 4) (hn : n ≤ 1000) (hKl : K (ly - 1) < 32) (hV : I (ly - 1) = true → 0 < V ((ld + (ly - 1)) % 4)) (hq : Q (.inl (some (Value.int (nI (K (ly - 1)))))) (wm x0 x1 x2 x3 x4 x5 x6 x7 x8 x9 x10 x11 x12 0 st dl sz (upd h ((ld + (ly - 1)) % 4) (sAdd (h ((ld + (ly - 1)) % 4)) (K (ly - 1)))) n bq lv tr dc ti tc T ld (ly - 1) K (uN V ((ld + (ly - 1)) % 4) (V ((ld + (ly - 1)) % 4) - b2n (I (ly - 1)))) I tk sc dn R e5 eo r)) : am_Call l d 126 k [.ref 13] (wm x0 x1 x2 x3 x4 x5 x6 x7 x8 x9 x10 x11 x12 th st dl sz h n bq lv tr dc ti tc T ld ly K V I tk sc dn R e5 eo r) Q := by
  subst h1
  have hp : (ld + (ly - 1)) % 4 < 4 := Nat.mod_lt _ (by omega)
  obtain ⟨p, hpe⟩ : ∃ p, p = (ld + (ly - 1)) % 4 := ⟨_, rfl⟩
  have eclp : (nI p).toNatClampNeg = p := i_cl (by omega)
  have ecly : (nI (ly - 1)).toNatClampNeg = ly - 1 := i_cl (by omega)
  refine op_126 hl (by omega) (Nat.le_of_ble_eq_true rfl) (fun J hJ => hJ [26] 100 _ _ _ _ _ ⟨fun _ => beq (a := ly) (b := 0) (by omega) (by omega) (fun q => absurd q h2) (fun _ => ?_), fun q => absurd rfl q⟩)
  refine hJ [36] 100 _ _ _ _ _ ?_
  refine am_jw (J := J) (w' := (wm x0 x1 x2 x3 x4 x5 x6 x7 x8 x9 x10 x11 x12 0 2 dl sz h n bq lv tr dc ti tc T ld (ly - 1) K V I tk sc dn R e5 eo r)) rfl rfl (by dsimp only; rw [pk_sub1 (by omega)]; rfl) ?_
  refine hJ [40] 100 _ _ _ _ _ ⟨0, Nat.zero_le _, cl_115 (th := 0) (st := 2) (ly := ly - 1) hl (by omega) (by omega) hdl (by omega) hld (by omega) ?_⟩
  rw [show turnV 2 ((ld + (ly - 1)) % 4) dl n = nI p from by rw [hpe]; rfl]
  rw [← hpe] at hq hV
  have s65 : J k 65 [some (Value.ref 13), some (Value.int (nI p))] [Value.int (bI (I (ly - 1))), Value.int (nI (V p)), Value.int (nI p), Value.ref 18] (wm x0 x1 x2 x3 x4 x5 x6 x7 x8 x9 x10 x11 x12 0 2 dl sz h n bq lv tr dc ti tc T ld (ly - 1) K V I tk sc dn R e5 eo r) := by
    have eV : nI (V p) - bI (I (ly - 1)) = nI (V p - b2n (I (ly - 1))) := by
      cases hi : I (ly - 1) with
      | false =>
        show nI (V p) - nI 0 = nI (V p - 0)
        exact pk_sub (Nat.zero_le _)
      | true => exact pk_sub (a := V p) (b := 1) (hV hi)
    refine hJ [67] 100 _ _ _ _ _ ⟨nI_in (by omega) (by omega), ?_⟩
    refine am_jw (J := J) (w' := (wm x0 x1 x2 x3 x4 x5 x6 x7 x8 x9 x10 x11 x12 0 2 dl sz h n bq lv tr dc ti tc T ld (ly - 1) K (uN V p (V p - b2n (I (ly - 1)))) I tk sc dn R e5 eo r)) rfl rfl (by dsimp only; rw [eV, eclp, uN_i]; rfl) ?_
    refine hJ [87] 100 _ _ _ _ _ ⟨nI_in (by omega) (by omega), nI_in (by omega) (by omega), nI_in (by omega) (by omega), ?_⟩
    refine am_jw (J := J) (w' := (wm x0 x1 x2 x3 x4 x5 x6 x7 x8 x9 x10 x11 x12 0 2 dl sz (upd h p (sAdd (h p) (K (ly - 1)))) n bq lv tr dc ti tc T ld (ly - 1) K (uN V p (V p - b2n (I (ly - 1)))) I tk sc dn R e5 eo r)) rfl rfl (by dsimp only; rw [ecly, eclp]; rfl) ?_
    exact hJ [] 100 _ _ _ _ _ ⟨nI_in (by omega) (by omega), am_q1 (congrArg (fun i => nI (K i)) ecly) rfl hq⟩
  refine hJ [65] 100 _ _ _ _ _ ⟨nI_in (by omega) (by omega), nI_in (by omega) (by omega), bzx (b := I (ly - 1)) (congrArg (fun i => bI (I i)) ecly) (fun g => ?_) (fun g => ?_)⟩
  · rw [g] at s65
    exact am_jw (J := J) rfl (congrArg (fun i => [Value.int 0, Value.int (nI (V i)), Value.int (nI p), Value.ref 18]) eclp) rfl s65
  · rw [g] at s65
    exact am_jw (J := J) rfl (congrArg (fun i => [Value.int 1, Value.int (nI (V i)), Value.int (nI p), Value.ref 18]) eclp) rfl s65
set_option maxRecDepth 20000 in
theorem cl_126b (hl : l.stackTraces = false) (hd : 3 ≤ d) (hst : st < 4) (hly : ly < 4) (hx : ¬ (st = 2 ∧ ly ≠ 0)) (hq : Q (.inl (some (Value.int 0))) (wm x0 x1 x2 x3 x4 x5 x6 x7 x8 x9 x10 x11 x12 1 st dl sz h n bq lv tr dc ti tc T ld ly K V I tk sc dn R e5 eo r)) : am_Call l d 126 k [.ref 13] (wm x0 x1 x2 x3 x4 x5 x6 x7 x8 x9 x10 x11 x12 th st dl sz h n bq lv tr dc ti tc T ld ly K V I tk sc dn R e5 eo r) Q := by
  refine op_126 hl (by omega) (Nat.le_of_ble_eq_true rfl) (fun J hJ => ?_)
  have s20 : J k 20 [some (Value.ref 13), none] [] (wm x0 x1 x2 x3 x4 x5 x6 x7 x8 x9 x10 x11 x12 0 st dl sz h n bq lv tr dc ti tc T ld ly K V I tk sc dn R e5 eo r) := hJ [] 100 _ _ _ _ _ ⟨0, Nat.zero_le _, cl_94 (th := 0) hl (by omega) (y := 1) rfl hq⟩
  exact hJ [20] 100 _ _ _ _ _ (beq (a := st) (b := 2) (by omega) (by omega) (fun q => beq (a := ly) (b := 0) (by omega) (by omega) (fun _ => s20) (fun q2 => absurd ⟨q, q2⟩ hx)) (fun _ => s20))
theorem cl_127 (hl : l.stackTraces = false) (hd : 3 ≤ d) (hst : st < 4) (hly : ly < 4) (hld : ld < 4) (hdl : dl < 4) (hn : n ≤ 1000) (hK0 : ly ≠ 0 → K 0 < 32) {c : Nat} (hc : c < 32) (hq : Q (.inl (some (Value.int (bI (decide (st = 2) && (bt (h ((ld + ly) % 4)) c && rnV (h ((ld + ly) % 4)) c K ly)))))) (wm x0 x1 x2 x3 x4 x5 x6 x7 x8 x9 x10 x11 x12 0 st dl sz h n bq lv tr dc ti tc T ld ly K V I tk sc dn R e5 eo r)) : am_Call l d 127 k [.ref 13, .int (nI c)] (wm x0 x1 x2 x3 x4 x5 x6 x7 x8 x9 x10 x11 x12 th st dl sz h n bq lv tr dc ti tc T ld ly K V I tk sc dn R e5 eo r) Q := by
  have hp : (ld + ly) % 4 < 4 := Nat.mod_lt _ (by omega)
  have eclp : (nI ((ld + ly) % 4)).toNatClampNeg = (ld + ly) % 4 := i_cl (by omega)
  have eT : st = 2 → turnV st ((ld + ly) % 4) dl n = nI ((ld + ly) % 4) := fun e => by rw [e]; rfl
  refine op_127 hl (by omega) (Nat.le_of_ble_eq_true rfl) (fun J hJ => hJ [] 100 _ _ _ _ _ ⟨0, Nat.zero_le _, cl_97 hl (by omega) hc ⟨fun q => absurd q (by decide), fun _ => ⟨fun _ => beq (a := st) (b := 2) (by omega) (by omega) (fun q => ⟨0, Nat.zero_le _, cl_115 (th := 0) hl (by omega) hst hdl (by omega) hld hly ⟨0, Nat.zero_le _, am_ca (congrArg (fun x => [Value.ref 13, Value.int x, Value.int (nI c)]) (eT q)) (cl_98 (th := 0) hl (by omega) hp hc (bz (fun q2 => ?_) (fun q2 => ⟨0, Nat.zero_le _, cl_115 (th := 0) hl (by omega) hst hdl (by omega) hld hly ⟨vin (eT q) hp (by omega), 0, Nat.zero_le _, am_ca (congrArg (fun i => [Value.int (h i), Value.int (nI c), Value.ref 17, Value.int (nI ly)]) (clx (eT q) (by omega))) (cl_122 hl (by omega) (K := K) rfl hc (by omega) hK0 (bz (fun q3 => ?_) (fun q3 => ?_)))⟩⟩)))⟩⟩) (fun q => ?_), fun q => absurd rfl q⟩⟩⟩)
  · rw [decide_eq_true q, q2] at hq
    exact ⟨by decide, hq⟩
  · rw [decide_eq_true q, q2, q3] at hq
    exact ⟨by decide, hq⟩
  · rw [decide_eq_true q, q2, q3] at hq
    exact ⟨by decide, hq⟩
  · rw [decide_eq_false q] at hq
    exact ⟨by decide, hq⟩
theorem cl_127x (hl : l.stackTraces = false) (hd : 3 ≤ d) {x : Int32} (hx : NR x 32) (hq : ∀ v, Q (.inl (some (Value.int v))) (wm x0 x1 x2 x3 x4 x5 x6 x7 x8 x9 x10 x11 x12 1 st dl sz h n bq lv tr dc ti tc T ld ly K V I tk sc dn R e5 eo r)) : am_Call l d 127 k [.ref 13, .int x] (wm x0 x1 x2 x3 x4 x5 x6 x7 x8 x9 x10 x11 x12 th st dl sz h n bq lv tr dc ti tc T ld ly K V I tk sc dn R e5 eo r) Q :=
  op_127 hl (by omega) (Nat.le_of_ble_eq_true rfl) (fun J hJ => hJ [] 100 _ _ _ _ _ ⟨0, Nat.zero_le _, cl_97x hl (by omega) hx ⟨fun _ => ⟨fun q => absurd q (by decide), fun _ => ⟨by decide, hq 0⟩⟩, fun q => absurd rfl q⟩⟩)
theorem cl_128 (hl : l.stackTraces = false) (hd : 2 ≤ d) {j wh : Nat} (hj : j < tc) (htc : tc ≤ 8) (hw : wh < 6) (hq : Q (.inl (some (Value.int (nI (T (6 * j + wh)))))) (wm x0 x1 x2 x3 x4 x5 x6 x7 x8 x9 x10 x11 x12 0 st dl sz h n bq lv tr dc ti tc T ld ly K V I tk sc dn R e5 eo r)) : am_Call l d 128 k [.ref 13, .int (nI j), .int (nI wh)] (wm x0 x1 x2 x3 x4 x5 x6 x7 x8 x9 x10 x11 x12 th st dl sz h n bq lv tr dc ti tc T ld ly K V I tk sc dn R e5 eo r) Q := by
  have e : (6 : Int32) * nI j + nI wh = nI (6 * j + wh) := by rw [show (6 : Int32) * nI j = nI (6 * j) from pk_mul 6 j, nI_add]
  exact op_128 hl (by omega) (Nat.le_of_ble_eq_true rfl) (fun J hJ => hJ [] 100 _ _ _ _ _ ⟨0, Nat.zero_le _, cl_95 (b := true) hl (by omega) (in_m1 hj (by omega)) ⟨fun q => absurd q (by decide), fun _ => ⟨0, Nat.zero_le _, cl_95n (lo := 0) (hi := 5) hl (by omega) (by omega) (by omega) (by omega) (bz (fun q => absurd (of_decide_eq_false q) (by omega)) (fun _ => ⟨vin e (by omega) (by omega), am_q1 (congrArg (fun i => nI (T i)) (clx e (by omega))) rfl hq⟩))⟩⟩⟩)
set_option maxRecDepth 20000 in
theorem cl_128x (hl : l.stackTraces = false) (hd : 2 ≤ d) {x y : Int32} (htc : tc ≤ 8) (hx : NR x tc) (hq : Q (.inl (some (Value.int 0))) (wm x0 x1 x2 x3 x4 x5 x6 x7 x8 x9 x10 x11 x12 1 st dl sz h n bq lv tr dc ti tc T ld ly K V I tk sc dn R e5 eo r)) : am_Call l d 128 k [.ref 13, .int x, .int y] (wm x0 x1 x2 x3 x4 x5 x6 x7 x8 x9 x10 x11 x12 th st dl sz h n bq lv tr dc ti tc T ld ly K V I tk sc dn R e5 eo r) Q :=
  op_128 hl (by omega) (Nat.le_of_ble_eq_true rfl) (fun J hJ => hJ [] 100 _ _ _ _ _ ⟨0, Nat.zero_le _, cl_95 (b := false) hl (by omega) (in_m1x hx (by omega)) ⟨fun _ => ⟨0, Nat.zero_le _, cl_94 (th := 0) hl (by omega) (y := 1) rfl hq⟩, fun q => absurd rfl q⟩⟩)
set_option maxRecDepth 20000 in
theorem cl_128y (hl : l.stackTraces = false) (hd : 2 ≤ d) {j : Nat} {y : Int32} (hj : j < tc) (htc : tc ≤ 8) (hy : NR y 6) (hq : Q (.inl (some (Value.int 0))) (wm x0 x1 x2 x3 x4 x5 x6 x7 x8 x9 x10 x11 x12 2 st dl sz h n bq lv tr dc ti tc T ld ly K V I tk sc dn R e5 eo r)) : am_Call l d 128 k [.ref 13, .int (nI j), .int y] (wm x0 x1 x2 x3 x4 x5 x6 x7 x8 x9 x10 x11 x12 th st dl sz h n bq lv tr dc ti tc T ld ly K V I tk sc dn R e5 eo r) Q :=
  op_128 hl (by omega) (Nat.le_of_ble_eq_true rfl) (fun J hJ => hJ [] 100 _ _ _ _ _ ⟨0, Nat.zero_le _, cl_95 (b := true) hl (by omega) (in_m1 hj (by omega)) ⟨fun q => absurd q (by decide), fun _ => ⟨0, Nat.zero_le _, cl_95x (n := 5) hl (by omega) (by omega) hy ⟨fun _ => ⟨0, Nat.zero_le _, cl_94 (th := 0) hl (by omega) (y := 2) rfl hq⟩, fun q => absurd rfl q⟩⟩⟩⟩)
def nowM (st : Nat) (dn : Int32) (n dl tc ld ly tr : Nat) (K : Nat → Nat) (wh : Nat) : Int32 :=
  if wh = 0 then nI st else if wh = 1 then nI dl else if wh = 2 then turnV st ((ld + ly) % 4) dl n else if wh = 3 then nI n else if wh = 4 then nI tc else if wh = 5 then nI ly else if wh = 6 then takeV ld K tr ly else dn
theorem cl_129 (hl : l.stackTraces = false) (hd : 3 ≤ d) {wh : Nat} (hw : wh < 8) (hst : st < 4) (hdl : dl < 4) (hn : n ≤ 1000) (hld : ld < 4) (hly : ly < 4) (htr : tr ≤ 4) (hK : ∀ i, i < ly → K i < 32) (hq : Q (.inl (some (Value.int (nowM st dn n dl tc ld ly tr K wh)))) (wm x0 x1 x2 x3 x4 x5 x6 x7 x8 x9 x10 x11 x12 th st dl sz h n bq lv tr dc ti tc T ld ly K V I tk sc dn R e5 eo r)) : am_Call l d 129 k [.ref 13, .int (nI wh)] (wm x0 x1 x2 x3 x4 x5 x6 x7 x8 x9 x10 x11 x12 th st dl sz h n bq lv tr dc ti tc T ld ly K V I tk sc dn R e5 eo r) Q := by
  rw [nowM] at hq
  refine op_129 hl (by omega) (Nat.le_of_ble_eq_true rfl) (fun J hJ => hJ [] 100 _ _ _ _ _ (beq (a := wh) (b := 0) (by omega) (by omega) (fun q => ?_) (fun q0 => beq (a := wh) (b := 1) (by omega) (by omega) (fun q => ?_) (fun q1 => beq (a := wh) (b := 2) (by omega) (by omega) (fun q => ⟨0, Nat.zero_le _, cl_115 hl (by omega) hst hdl (by omega) hld hly ?_⟩) (fun q2 => beq (a := wh) (b := 3) (by omega) (by omega) (fun q => ?_) (fun q3 => beq (a := wh) (b := 4) (by omega) (by omega) (fun q => ?_) (fun q4 => beq (a := wh) (b := 5) (by omega) (by omega) (fun q => ?_) (fun q5 => beq (a := wh) (b := 6) (by omega) (by omega) (fun q => ⟨0, Nat.zero_le _, cl_121 (K := K) hl (by omega) rfl (by omega) hK hld htr ?_⟩) (fun q6 => ?_)))))))))
  · rw [if_pos q] at hq
    exact hq
  · rw [if_neg q0, if_pos q] at hq
    exact hq
  · rw [if_neg q0, if_neg q1, if_pos q] at hq
    exact hq
  · rw [if_neg q0, if_neg q1, if_neg q2, if_pos q] at hq
    exact hq
  · rw [if_neg q0, if_neg q1, if_neg q2, if_neg q3, if_pos q] at hq
    exact hq
  · rw [if_neg q0, if_neg q1, if_neg q2, if_neg q3, if_neg q4, if_pos q] at hq
    exact hq
  · rw [if_neg q0, if_neg q1, if_neg q2, if_neg q3, if_neg q4, if_neg q5, if_pos q] at hq
    exact hq
  · rw [if_neg q0, if_neg q1, if_neg q2, if_neg q3, if_neg q4, if_neg q5, if_neg q6] at hq
    exact hq
theorem cl_130 (hl : l.stackTraces = false) (hd : 4 ≤ d) {wh : Nat} (hw : wh < 8) (hst : st < 4) (hdl : dl < 4) (hn : n ≤ 1000) (hld : ld < 4) (hly : ly < 4) (htr : tr ≤ 4) (hK : ∀ i, i < ly → K i < 32) (hq : Q (.inl (some (Value.int (nowM st dn n dl tc ld ly tr K wh)))) (wm x0 x1 x2 x3 x4 x5 x6 x7 x8 x9 x10 x11 x12 0 st dl sz h n bq lv tr dc ti tc T ld ly K V I tk sc dn R e5 eo r)) : am_Call l d 130 k [.ref 13, .int (nI wh)] (wm x0 x1 x2 x3 x4 x5 x6 x7 x8 x9 x10 x11 x12 th st dl sz h n bq lv tr dc ti tc T ld ly K V I tk sc dn R e5 eo r) Q :=
  op_130 hl (by omega) (Nat.le_of_ble_eq_true rfl) (fun J hJ => hJ [] 100 _ _ _ _ _ ⟨0, Nat.zero_le _, cl_95n (lo := 0) (hi := 7) hl (by omega) (by omega) (by omega) (by omega) (bz (fun q => absurd (of_decide_eq_false q) (by omega)) (fun _ => ⟨0, Nat.zero_le _, cl_129 (th := 0) hl (by omega) hw hst hdl hn hld hly htr hK hq⟩))⟩)
set_option maxRecDepth 20000 in
theorem cl_130x (hl : l.stackTraces = false) (hd : 4 ≤ d) {x : Int32} (hx : NR x 8) (hq : Q (.inl (some (Value.int 0))) (wm x0 x1 x2 x3 x4 x5 x6 x7 x8 x9 x10 x11 x12 1 st dl sz h n bq lv tr dc ti tc T ld ly K V I tk sc dn R e5 eo r)) : am_Call l d 130 k [.ref 13, .int x] (wm x0 x1 x2 x3 x4 x5 x6 x7 x8 x9 x10 x11 x12 th st dl sz h n bq lv tr dc ti tc T ld ly K V I tk sc dn R e5 eo r) Q :=
  op_130 hl (by omega) (Nat.le_of_ble_eq_true rfl) (fun J hJ => hJ [] 100 _ _ _ _ _ ⟨0, Nat.zero_le _, cl_95x (n := 7) hl (by omega) (by omega) hx ⟨fun _ => ⟨0, Nat.zero_le _, cl_94 (th := 0) hl (by omega) (y := 1) rfl hq⟩, fun q => absurd rfl q⟩⟩)
def sideM (V tk : Nat → Nat) (sc : Nat → Int32) (s wh : Nat) : Int32 := if wh = 0 then nI (tk s) else if wh = 1 then sc s else nI ((if V s = 0 then 0 else 1) + (if V (s + 2) = 0 then 0 else 1))
theorem cl_131 (hl : l.stackTraces = false) (hd : 1 ≤ d) {s wh : Nat} (hs : s < 2) (hw : wh < 3) (hV : ∀ p, p < 4 → V p ≤ 100) (hq : Q (.inl (some (Value.int (sideM V tk sc s wh)))) (wm x0 x1 x2 x3 x4 x5 x6 x7 x8 x9 x10 x11 x12 th st dl sz h n bq lv tr dc ti tc T ld ly K V I tk sc dn R e5 eo r)) : am_Call l d 131 k [.ref 13, .int (nI s), .int (nI wh)] (wm x0 x1 x2 x3 x4 x5 x6 x7 x8 x9 x10 x11 x12 th st dl sz h n bq lv tr dc ti tc T ld ly K V I tk sc dn R e5 eo r) Q := by
  have ecl : (nI s).toNatClampNeg = s := i_cl (by omega)
  have hV0 := hV s (by omega)
  have hV2 := hV (s + 2) (by omega)
  have e2 : nI s + 2 = nI (s + 2) := nI_add s 2
  refine op_131 hl (by omega) (Nat.le_of_ble_eq_true rfl) (fun J hJ => ?_)
  rw [sideM] at hq
  refine hJ [39] 100 _ _ _ _ _ (ble (a := 2) (b := wh) (by omega) (by omega) (fun g => ⟨nI_in (by omega) (by omega), blex (a := V s) (b := 0) (congrArg (fun i => nI (V i)) ecl) rfl (by omega) (by omega) (fun g2 => ?_) (fun g2 => ?_)⟩) (fun g => beq (a := wh) (b := 0) (by omega) (by omega) (fun g2 => ⟨nI_in (by omega) (by omega), ?_⟩) (fun g2 => ⟨nI_in (by omega) (by omega), ?_⟩)))
  · rw [if_neg (by omega), if_neg (by omega), if_pos (show V s = 0 by omega)] at hq
    refine hJ [] 100 _ _ _ _ _ ⟨vin e2 (by omega) (by omega), blex (a := V (s + 2)) (b := 0) (congrArg (fun i => nI (V i)) (clx e2 (by omega))) rfl (by omega) (by omega) (fun g3 => ?_) (fun g3 => ?_)⟩
    · rw [if_pos (show V (s + 2) = 0 by omega)] at hq
      exact hq
    · rw [if_neg (show ¬ V (s + 2) = 0 by omega)] at hq
      exact hq
  · rw [if_neg (by omega), if_neg (by omega), if_neg (show ¬ V s = 0 by omega)] at hq
    refine hJ [] 100 _ _ _ _ _ ⟨vin e2 (by omega) (by omega), blex (a := V (s + 2)) (b := 0) (congrArg (fun i => nI (V i)) (clx e2 (by omega))) rfl (by omega) (by omega) (fun g3 => ?_) (fun g3 => ?_)⟩
    · rw [if_pos (show V (s + 2) = 0 by omega)] at hq
      exact hq
    · rw [if_neg (show ¬ V (s + 2) = 0 by omega)] at hq
      exact hq
  · rw [if_pos g2] at hq
    exact am_q1 (congrArg (fun i => nI (tk i)) ecl) rfl hq
  · rw [if_neg g2, if_pos (by omega)] at hq
    exact am_q1 (congrArg sc ecl) rfl hq
theorem cl_132 (hl : l.stackTraces = false) (hd : 2 ≤ d) {s wh : Nat} (hs : s < 2) (hw : wh < 3) (hV : ∀ p, p < 4 → V p ≤ 100) (hq : Q (.inl (some (Value.int (sideM V tk sc s wh)))) (wm x0 x1 x2 x3 x4 x5 x6 x7 x8 x9 x10 x11 x12 0 st dl sz h n bq lv tr dc ti tc T ld ly K V I tk sc dn R e5 eo r)) : am_Call l d 132 k [.ref 13, .int (nI s), .int (nI wh)] (wm x0 x1 x2 x3 x4 x5 x6 x7 x8 x9 x10 x11 x12 th st dl sz h n bq lv tr dc ti tc T ld ly K V I tk sc dn R e5 eo r) Q :=
  op_132 hl (by omega) (Nat.le_of_ble_eq_true rfl) (fun J hJ => hJ [] 100 _ _ _ _ _ ⟨0, Nat.zero_le _, cl_95n (lo := 0) (hi := 1) hl (by omega) (by omega) (by omega) (by omega) (bz (fun q => absurd (of_decide_eq_false q) (by omega)) (fun _ => ⟨0, Nat.zero_le _, cl_95n (lo := 0) (hi := 2) hl (by omega) (by omega) (by omega) (by omega) (bz (fun q => absurd (of_decide_eq_false q) (by omega)) (fun _ => ⟨0, Nat.zero_le _, cl_131 (th := 0) hl (by omega) hs hw hV hq⟩))⟩))⟩)
set_option maxRecDepth 20000 in
theorem cl_132x (hl : l.stackTraces = false) (hd : 2 ≤ d) {x y : Int32} (hx : NR x 2) (hq : Q (.inl (some (Value.int 0))) (wm x0 x1 x2 x3 x4 x5 x6 x7 x8 x9 x10 x11 x12 1 st dl sz h n bq lv tr dc ti tc T ld ly K V I tk sc dn R e5 eo r)) : am_Call l d 132 k [.ref 13, .int x, .int y] (wm x0 x1 x2 x3 x4 x5 x6 x7 x8 x9 x10 x11 x12 th st dl sz h n bq lv tr dc ti tc T ld ly K V I tk sc dn R e5 eo r) Q :=
  op_132 hl (by omega) (Nat.le_of_ble_eq_true rfl) (fun J hJ => hJ [] 100 _ _ _ _ _ ⟨0, Nat.zero_le _, cl_95x (n := 1) hl (by omega) (by omega) hx ⟨fun _ => ⟨0, Nat.zero_le _, cl_94 (th := 0) hl (by omega) (y := 1) rfl hq⟩, fun q => absurd rfl q⟩⟩)
set_option maxRecDepth 20000 in
theorem cl_132y (hl : l.stackTraces = false) (hd : 2 ≤ d) {s : Nat} {y : Int32} (hs : s < 2) (hy : NR y 3) (hq : Q (.inl (some (Value.int 0))) (wm x0 x1 x2 x3 x4 x5 x6 x7 x8 x9 x10 x11 x12 2 st dl sz h n bq lv tr dc ti tc T ld ly K V I tk sc dn R e5 eo r)) : am_Call l d 132 k [.ref 13, .int (nI s), .int y] (wm x0 x1 x2 x3 x4 x5 x6 x7 x8 x9 x10 x11 x12 th st dl sz h n bq lv tr dc ti tc T ld ly K V I tk sc dn R e5 eo r) Q :=
  op_132 hl (by omega) (Nat.le_of_ble_eq_true rfl) (fun J hJ => hJ [] 100 _ _ _ _ _ ⟨0, Nat.zero_le _, cl_95n (lo := 0) (hi := 1) hl (by omega) (by omega) (by omega) (by omega) (bz (fun q => absurd (of_decide_eq_false q) (by omega)) (fun _ => ⟨0, Nat.zero_le _, cl_95x (n := 2) hl (by omega) (by omega) hy ⟨fun _ => ⟨0, Nat.zero_le _, cl_94 (th := 0) hl (by omega) (y := 2) rfl hq⟩, fun q => absurd rfl q⟩⟩))⟩)
theorem cl_134 (hl : l.stackTraces = false) (hd : 2 ≤ d) (hst : st < 4) (hq : Q (.inl (some (Value.int (bI (hbp st h))))) (wm x0 x1 x2 x3 x4 x5 x6 x7 x8 x9 x10 x11 x12 th st dl sz h n bq lv tr dc ti tc T ld ly K V I tk sc dn R e5 eo r)) : am_Call l d 134 k [.ref 13] (wm x0 x1 x2 x3 x4 x5 x6 x7 x8 x9 x10 x11 x12 th st dl sz h n bq lv tr dc ti tc T ld ly K V I tk sc dn R e5 eo r) Q := by
  refine op_134 hl (by omega) (Nat.le_of_ble_eq_true rfl) (fun J hJ => ?_)
  have hL : ∀ j i (o : Bool), i + j = 4 → (o = true ↔ (st = 2 ∧ ∀ p, p < i → pc (h p) ≤ 3)) → J k 16 [some (Value.ref 13), some (Value.int (bI o)), some (Value.int (nI i))] [] (wm x0 x1 x2 x3 x4 x5 x6 x7 x8 x9 x10 x11 x12 th st dl sz h n bq lv tr dc ti tc T ld ly K V I tk sc dn R e5 eo r) := by
    intro j
    induction j with
    | zero =>
      intro i o hi ho
      have : i = 4 := by omega
      subst this
      have e : hbp st h = o := by
        have h1 : hbp st h = true ↔ o = true := by
          rw [ho]
          unfold hbp
          rw [Bool.and_eq_true, decide_eq_true_iff, le4_iff]
        cases hh : hbp st h <;> cases o <;> simp_all
      rw [e] at hq
      exact hJ [16] 100 _ _ _ _ _ ⟨fun _ => am_qz rfl rfl hq, fun q => absurd (by decide) q⟩
    | succ j ih =>
      intro i o hi ho
      have hci := pc_le (h i)
      have s40 : ∀ b : Bool, (b = true ↔ pc (h i) ≤ 3) → J k 40 [some (Value.ref 13), some (Value.int (bI o)), some (Value.int (nI i))] [Value.int (bI b), Value.int (bI o)] (wm x0 x1 x2 x3 x4 x5 x6 x7 x8 x9 x10 x11 x12 th st dl sz h n bq lv tr dc ti tc T ld ly K V I tk sc dn R e5 eo r) := by
        intro b hb
        refine hJ [16] 100 _ _ _ _ _ (am_jw (J := J) (ls' := [some (Value.ref 13), some (Value.int (bI (o && b))), some (Value.int (nI (i + 1)))]) ?_ rfl rfl (ih (i + 1) (o && b) (by omega) ?_))
        · show [some (Value.ref 13), some (Value.int (bI o &&& bI b)), some (Value.int (nI i + 1))] = _
          rw [bI_and, nI_1]
        · rw [Bool.and_eq_true, ho, hb]
          constructor
          · rintro ⟨⟨a, c⟩, e⟩
            refine ⟨a, fun q h2 => ?_⟩
            by_cases e2 : q = i
            · rw [e2]; exact e
            · exact c q (by omega)
          · rintro ⟨a, c⟩
            exact ⟨⟨a, fun q h2 => c q (by omega)⟩, c i (by omega)⟩
      exact hJ [40] 100 _ _ _ _ _ (ble (a := 4) (b := i) (by omega) (by omega) (fun q => absurd q (by omega)) (fun _ => ⟨nI_in (by omega) (by omega), 0, Nat.zero_le _, am_ca (congrArg (fun i => [Value.int (h i)]) (i_cl (by omega))) (cl_99 hl (by omega) (bl (a := 3) (b := pc (h i)) (by omega) (by omega) (fun q => s40 false ⟨fun e => (by cases e), fun e => absurd e (by omega)⟩) (fun q => s40 true ⟨fun _ => q, fun _ => rfl⟩)))⟩))
  refine hJ [16] 100 _ _ _ _ _ (beq (a := st) (b := 2) (by omega) (by omega) (fun q => hL 4 0 true rfl ⟨fun _ => ⟨q, fun p hp => absurd hp (Nat.not_lt_zero p)⟩, fun _ => rfl⟩) (fun q => hL 4 0 false rfl ⟨fun e => (by cases e), fun e => absurd e.1 q⟩))
end
