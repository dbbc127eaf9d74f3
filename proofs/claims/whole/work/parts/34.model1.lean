/-! contracts: the model (at place 13), first part -/
def cm (th st dl sz : Nat) (h : Nat → Int32) (n bq : Nat) (lv : Int32) (tr dc ti tc : Nat) (T : Nat → Nat) (ld ly : Nat) (K V : Nat → Nat) (I : Nat → Bool) (tk : Nat → Nat) (sc : Nat → Int32) (dn : Int32) (R : Nat → Nat → Nat) (e5 eo : am_E) (r : am_M) : am_M :=
  .inr (3, [.int (nI th), .int (nI st), .int (nI dl), .int (nI sz), .ref 14, .int (nI n), .ref bq, .int lv, .int (nI tr), .int (nI dc), .int (nI ti), .int (nI tc), .ref 16, .int (nI ld), .int (nI ly), .ref 17, .ref 18, .ref 19, .ref 20, .ref 21, .int dn, .ref 22]) ::
  .inl (0, 4, .inl h) :: e5 :: .inl (0, 48, .inl (fun i => nI (T i))) :: .inl (0, 4, .inl (fun i => nI (K i))) :: .inl (0, 4, .inl (fun i => nI (V i))) :: .inl (1, 4, .inl (fun i => bI (I i))) :: .inl (0, 2, .inl (fun i => nI (tk i))) :: .inl (0, 2, .inl sc) :: .inl (3, 5, .inr (.inr (am_rows 22))) ::
  .inl (0, 4, .inl (fun i => nI (R 0 i))) :: .inl (0, 4, .inl (fun i => nI (R 1 i))) :: .inl (0, 4, .inl (fun i => nI (R 2 i))) :: .inl (0, 4, .inl (fun i => nI (R 3 i))) :: .inl (0, 4, .inl (fun i => nI (R 4 i))) :: eo :: r
def wm (x0 x1 x2 x3 x4 x5 x6 x7 x8 x9 x10 x11 x12 : am_E) (th st dl sz : Nat) (h : Nat → Int32) (n bq : Nat) (lv : Int32) (tr dc ti tc : Nat) (T : Nat → Nat) (ld ly : Nat) (K V : Nat → Nat) (I : Nat → Bool) (tk : Nat → Nat) (sc : Nat → Int32) (dn : Int32) (R : Nat → Nat → Nat) (e5 eo : am_E) (r : am_M) : am_M :=
  x0 :: x1 :: x2 :: x3 :: x4 :: x5 :: x6 :: x7 :: x8 :: x9 :: x10 :: x11 :: x12 :: cm th st dl sz h n bq lv tr dc ti tc T ld ly K V I tk sc dn R e5 eo r
/-- where the model's bids lie -/
def bqA (bq : Nat) (e5 : am_E) (r : am_M) (N : Nat) (bm : Nat → Nat) : Prop := (bq = 15 ∧ e5 = .inl (0, N, .inl (fun i => nI (bm i)))) ∨ (∃ j, bq = j + 29 ∧ r[j]? = some (.inl (0, N, .inl (fun i => nI (bm i)))))
theorem ishr1 {s s' : Int32} {c : Nat} {A B : Prop} (es : s = s') (hc : c < 32) (f : bt s' c = true → A) (g : bt s' c = false → B) : ((s >>> (nI c &&& 31)) &&& 1 = 1 → A) ∧ (¬ (s >>> (nI c &&& 31)) &&& 1 = 1 → B) := by
  rw [es, s_shr hc]
  cases hb : bt s' c with
  | true => exact ⟨fun _ => f hb, fun q => absurd rfl q⟩
  | false => exact ⟨fun q => absurd q (by decide), fun _ => g hb⟩
def isLv (x : Nat) : Bool := decide (1 ≤ x ∧ x ≤ 40)
/-- the place behind the last LEVEL among the first n BIDS; 0 without one -/
def LV (b : Nat → Nat) : Nat → Nat
  | 0 => 0
  | n + 1 => if isLv (b n) then n + 1 else LV b n
def SN (b : Nat → Nat) (x : Nat) : Nat → Bool
  | 0 => false
  | n + 1 => if isLv (b n) then false else decide (b n = x) || SN b x n
def PS (b : Nat → Nat) : Nat → Nat
  | 0 => 0
  | n + 1 => if b n = 0 then PS b n + 1 else 0
def kI (m : Nat) : Int32 := if m = 0 then -1 else nI (m - 1)
theorem kI_s (m : Nat) : kI (m + 1) = nI m := rfl
theorem LV_le (b : Nat → Nat) : ∀ n, LV b n ≤ n
  | 0 => Nat.le_refl _
  | n + 1 => by
    have := LV_le b n
    rw [LV]
    split <;> omega
theorem LV_lv (b : Nat → Nat) : ∀ n, 0 < LV b n → isLv (b (LV b n - 1)) = true
  | 0, h => absurd h (Nat.lt_irrefl _)
  | n + 1, h => by
    rw [LV] at h ⊢
    cases e : isLv (b n) with
    | true => rw [if_pos rfl]; exact e
    | false =>
      rw [e, if_neg (by decide)] at h
      rw [if_neg (by decide)]
      exact LV_lv b n h
theorem LV_no (b : Nat → Nat) : ∀ n j, LV b n ≤ j → j < n → isLv (b j) = false
  | 0, j, _, h => absurd h (Nat.not_lt_zero j)
  | n + 1, j, h1, h2 => by
    rw [LV] at h1
    cases e : isLv (b n) with
    | true =>
      rw [e, if_pos rfl] at h1
      omega
    | false =>
      rw [e, if_neg (by decide)] at h1
      by_cases ej : j = n
      · rw [ej]; exact e
      · exact LV_no b n j h1 (by omega)
theorem SN_iff (b : Nat → Nat) (x : Nat) (hx : isLv x = false) : ∀ n, SN b x n = true ↔ ∃ j, LV b n ≤ j ∧ j < n ∧ b j = x
  | 0 => ⟨fun h => (by cases h), fun ⟨j, _, h, _⟩ => absurd h (Nat.not_lt_zero j)⟩
  | n + 1 => by
    have ih := SN_iff b x hx n
    rw [SN, LV]
    cases e : isLv (b n) with
    | true =>
      rw [if_pos rfl, if_pos rfl]
      exact ⟨fun h => (by cases h), fun ⟨j, h1, h2, _⟩ => absurd h2 (by omega)⟩
    | false =>
      rw [if_neg (by decide), if_neg (by decide), Bool.or_eq_true, ih, decide_eq_true_iff]
      constructor
      · rintro (h | ⟨j, h1, h2, h3⟩)
        · exact ⟨n, LV_le b n, by omega, h⟩
        · exact ⟨j, h1, by omega, h3⟩
      · rintro ⟨j, h1, h2, h3⟩
        by_cases ej : j = n
        · rw [← ej]; exact Or.inl h3
        · exact Or.inr ⟨j, h1, by omega, h3⟩
section
variable {l : Launch} {d k : Nat} {Q : am_Q} {x0 x1 x2 x3 x4 x5 x6 x7 x8 x9 x10 x11 x12 : am_E} {th st dl sz : Nat} {h : Nat → Int32} {n bq : Nat} {lv : Int32} {tr dc ti tc : Nat} {T : Nat → Nat} {ld ly : Nat} {K V : Nat → Nat} {I : Nat → Bool} {tk : Nat → Nat} {sc : Nat → Int32} {dn : Int32} {R : Nat → Nat → Nat} {e5 eo : am_E} {r : am_M} {N : Nat} {bm : Nat → Nat}
theorem bq_at (hb : bqA bq e5 r N bm) : (wm x0 x1 x2 x3 x4 x5 x6 x7 x8 x9 x10 x11 x12 th st dl sz h n bq lv tr dc ti tc T ld ly K V I tk sc dn R e5 eo r)[bq]? = some (.inl (0, N, .inl (fun i => nI (bm i)))) := by
  rcases hb with ⟨e, e2⟩ | ⟨j, e, e2⟩
  · rw [e, e2]
    rfl
  · rw [e]
    exact e2
theorem bq_ld {kk : am_E → Prop} (hb : bqA bq e5 r N bm) (hk : kk (.inl (0, N, .inl (fun i => nI (bm i))))) : am_at (wm x0 x1 x2 x3 x4 x5 x6 x7 x8 x9 x10 x11 x12 th st dl sz h n bq lv tr dc ti tc T ld ly K V I tk sc dn R e5 eo r) bq kk := am_at_iff.mpr ⟨_, bq_at hb, hk⟩
theorem cl_93 (hl : l.stackTraces = false) (hd : 1 ≤ d) (hq : Q (.inl (some (Value.int (nI th)))) (wm x0 x1 x2 x3 x4 x5 x6 x7 x8 x9 x10 x11 x12 th st dl sz h n bq lv tr dc ti tc T ld ly K V I tk sc dn R e5 eo r)) : am_Call l d 93 k [.ref 13] (wm x0 x1 x2 x3 x4 x5 x6 x7 x8 x9 x10 x11 x12 th st dl sz h n bq lv tr dc ti tc T ld ly K V I tk sc dn R e5 eo r) Q :=
  op_93 hl hd (Nat.le_of_ble_eq_true rfl) (fun J hJ => hJ [] 100 _ _ _ _ _ hq)
theorem cl_94 (hl : l.stackTraces = false) (hd : 1 ≤ d) {x : Int32} {y : Nat} (hx : x = nI y) (hq : Q (.inl (some (Value.int 0))) (wm x0 x1 x2 x3 x4 x5 x6 x7 x8 x9 x10 x11 x12 y st dl sz h n bq lv tr dc ti tc T ld ly K V I tk sc dn R e5 eo r)) : am_Call l d 94 k [.ref 13, .int x] (wm x0 x1 x2 x3 x4 x5 x6 x7 x8 x9 x10 x11 x12 th st dl sz h n bq lv tr dc ti tc T ld ly K V I tk sc dn R e5 eo r) Q := by
  subst hx
  exact op_94 hl hd (Nat.le_of_ble_eq_true rfl) (fun J hJ => hJ [] 100 _ _ _ _ _ hq)
theorem cl_98 (hl : l.stackTraces = false) (hd : 1 ≤ d) {p c : Nat} (hp : p < 4) (hc : c < 32) (hq : Q (.inl (some (Value.int (bI (bt (h p) c))))) (wm x0 x1 x2 x3 x4 x5 x6 x7 x8 x9 x10 x11 x12 th st dl sz h n bq lv tr dc ti tc T ld ly K V I tk sc dn R e5 eo r)) : am_Call l d 98 k [.ref 13, .int (nI p), .int (nI c)] (wm x0 x1 x2 x3 x4 x5 x6 x7 x8 x9 x10 x11 x12 th st dl sz h n bq lv tr dc ti tc T ld ly K V I tk sc dn R e5 eo r) Q :=
  op_98 hl hd (Nat.le_of_ble_eq_true rfl) (fun J hJ => hJ [] 100 _ _ _ _ _ ⟨nI_in (by omega) (by omega), ishr1 (congrArg h (i_cl (by omega))) hc (fun q => by rw [q] at hq; exact ⟨by decide, hq⟩) (fun q => by rw [q] at hq; exact ⟨by decide, hq⟩)⟩)
theorem cl_101 (hl : l.stackTraces = false) (hd : 1 ≤ d) (hq : Q (.inl (some (Value.int (hAll h)))) (wm x0 x1 x2 x3 x4 x5 x6 x7 x8 x9 x10 x11 x12 th st dl sz h n bq lv tr dc ti tc T ld ly K V I tk sc dn R e5 eo r)) : am_Call l d 101 k [.ref 13] (wm x0 x1 x2 x3 x4 x5 x6 x7 x8 x9 x10 x11 x12 th st dl sz h n bq lv tr dc ti tc T ld ly K V I tk sc dn R e5 eo r) Q :=
  op_101 hl hd (Nat.le_of_ble_eq_true rfl) (fun J hJ => hJ [] 100 _ _ _ _ _ ⟨nI_in (c := 0) (by omega) (by omega), nI_in (c := 1) (by omega) (by omega), nI_in (c := 2) (by omega) (by omega), nI_in (c := 3) (by omega) (by omega), hq⟩)
theorem hz4 {h' : Nat → Int32} (e : ∀ p, 4 ≤ p → h' p = h p) (z : ∀ p, p < 4 → h' p = 0) : h' = hz h 4 := by
  funext j
  by_cases hj : j < 4
  · rw [z j hj]; exact (if_pos hj).symm
  · rw [e j (by omega)]; exact (if_neg hj).symm
set_option maxRecDepth 20000 in
theorem cl_102 (hl : l.stackTraces = false) (hd : 3 ≤ d) {p : Nat} (hp : p < 4) (hq : ∀ V', (∀ p, p < 4 → V' p = 0) → Q (.inl (some (Value.int (nI st)))) (wm x0 x1 x2 x3 x4 x5 x6 x7 x8 x9 x10 x11 x12 0 0 p sz (hz h 4) 0 bq (-1) tr dc ti 0 T ld 0 K V' I (uN (uN tk 0 0) 1 0) sc dn R e5 eo r)) : am_Call l d 102 k [.ref 13, .int (nI p)] (wm x0 x1 x2 x3 x4 x5 x6 x7 x8 x9 x10 x11 x12 th st dl sz h n bq lv tr dc ti tc T ld ly K V I tk sc dn R e5 eo r) Q := by
  refine op_102 hl (by omega) (Nat.le_of_ble_eq_true rfl) (fun J hJ => ?_)
  have hL : ∀ j i V' tk', i + j = 4 → (∀ p, p < i → V' p = 0) → (i = 0 → tk' = tk) → (i = 1 → tk' = uN tk 0 0) → (2 ≤ i → tk' = uN (uN tk 0 0) 1 0) → J k 55 [some (Value.ref 13), some (Value.int (nI p)), some (Value.int (nI st)), some (Value.int (nI i))] [] (wm x0 x1 x2 x3 x4 x5 x6 x7 x8 x9 x10 x11 x12 0 0 p sz (hz h i) 0 bq (-1) tr dc ti 0 T ld 0 K V' I tk' sc dn R e5 eo r) := by
    intro j
    induction j with
    | zero =>
      intro i V' tk' hi hv e0 e1 e2
      have : i = 4 := by omega
      subst this
      rw [e2 (by omega)]
      exact hJ [55] 100 _ _ _ _ _ ⟨fun _ => hq V' hv, fun q => absurd (by decide) q⟩
    | succ j ih =>
      intro i V' tk' hi hv e0 e1 e2
      have hm := Nat.mod_lt i (show 0 < 2 by omega)
      have e22 : nI i - nI i / 2 * 2 = nI (i % 2) := pk_rem (d := 2) (by omega) (by omega) (by omega)
      refine hJ [55] 100 _ _ _ _ _ (ble (a := 4) (b := i) (by omega) (by omega) (fun q => absurd q (by omega)) (fun _ => ⟨nI_in (by omega) (by omega), nI_in (by omega) (by omega), by decide, vin e22 hm (by omega), ?_⟩))
      refine am_jw (J := J) (w' := (wm x0 x1 x2 x3 x4 x5 x6 x7 x8 x9 x10 x11 x12 0 0 p sz (hz h (i + 1)) 0 bq (-1) tr dc ti 0 T ld 0 K (uN V' i 0) I (uN tk' (i % 2) 0) sc dn R e5 eo r)) (congrArg (fun x => [some (Value.ref 13), some (Value.int (nI p)), some (Value.int (nI st)), some (Value.int x)]) (nI_1 i)) rfl ?_ (ih (i + 1) _ _ (by omega) ?_ ?_ ?_ ?_)
      · dsimp only
        rw [i_cl (by omega), clx e22 (by omega), hz_s, show (0 : Int32) = nI 0 from rfl, uN_i, uN_i]
        rfl
      · intro p2 hp2
        by_cases e : p2 = i
        · rw [e, uN_s]
        · rw [uN_n _ _ e]
          exact hv p2 (by omega)
      · intro e; omega
      · intro e
        have : i = 0 := by omega
        subst this
        rw [e0 rfl]
      · intro e
        rcases Nat.lt_or_ge i 2 with h2 | h2
        · have : i = 1 := by omega
          subst this
          rw [e1 rfl]
        · rw [e2 h2]
          funext x
          show (if x = i % 2 then 0 else if x = 1 then 0 else if x = 0 then 0 else tk x) = if x = 1 then 0 else if x = 0 then 0 else tk x
          by_cases a : x = 1
          · simp [a]
          · by_cases b : x = 0
            · simp [b]
            · rw [if_neg (by omega)]
  have := hL 4 0 V tk rfl (fun p hp => absurd hp (Nat.not_lt_zero p)) (fun _ => rfl) (fun e => absurd e (by omega)) (fun e => absurd e (by omega))
  rw [hz_0] at this
  exact hJ [55] 100 _ _ _ _ _ ⟨0, Nat.zero_le _, cl_96 hl (by omega) hp ⟨fun q => absurd q (by decide), fun _ => this⟩⟩
set_option maxRecDepth 20000 in
theorem cl_102x (hl : l.stackTraces = false) (hd : 3 ≤ d) {x : Int32} (hx : NR x 4) (hq : Q (.inl (some (Value.int 0))) (wm x0 x1 x2 x3 x4 x5 x6 x7 x8 x9 x10 x11 x12 1 st dl sz h n bq lv tr dc ti tc T ld ly K V I tk sc dn R e5 eo r)) : am_Call l d 102 k [.ref 13, .int x] (wm x0 x1 x2 x3 x4 x5 x6 x7 x8 x9 x10 x11 x12 th st dl sz h n bq lv tr dc ti tc T ld ly K V I tk sc dn R e5 eo r) Q :=
  op_102 hl (by omega) (Nat.le_of_ble_eq_true rfl) (fun J hJ => hJ [] 100 _ _ _ _ _ ⟨0, Nat.zero_le _, cl_96x hl (by omega) hx ⟨fun _ => ⟨0, Nat.zero_le _, cl_94 (th := 0) hl (by omega) (y := 1) rfl hq⟩, fun q => absurd rfl q⟩⟩)
theorem cl_109 (hl : l.stackTraces = false) (hd : 1 ≤ d) (hdl : dl < 4) (hn : n < 2 ^ 30) (hq : Q (.inl (some (Value.int (nI ((dl + n) % 4))))) (wm x0 x1 x2 x3 x4 x5 x6 x7 x8 x9 x10 x11 x12 th st dl sz h n bq lv tr dc ti tc T ld ly K V I tk sc dn R e5 eo r)) : am_Call l d 109 k [.ref 13] (wm x0 x1 x2 x3 x4 x5 x6 x7 x8 x9 x10 x11 x12 th st dl sz h n bq lv tr dc ti tc T ld ly K V I tk sc dn R e5 eo r) Q :=
  op_109 hl (by omega) (Nat.le_of_ble_eq_true rfl) (fun J hJ => hJ [] 100 _ _ _ _ _ ⟨by decide, am_q1 (by
    show (nI dl + nI n) - (nI dl + nI n) / nI 4 * nI 4 = _
    rw [nI_add, pk_rem (d := 4) (by omega) (by omega) (by omega)]) rfl hq⟩)
theorem cl_115 (hl : l.stackTraces = false) (hd : 2 ≤ d) (hst : st < 4) (hdl : dl < 4) (hn : n < 2 ^ 30) (hld : ld < 4) (hly : ly < 4) (hq : Q (.inl (some (Value.int (turnV st ((ld + ly) % 4) dl n)))) (wm x0 x1 x2 x3 x4 x5 x6 x7 x8 x9 x10 x11 x12 th st dl sz h n bq lv tr dc ti tc T ld ly K V I tk sc dn R e5 eo r)) : am_Call l d 115 k [.ref 13] (wm x0 x1 x2 x3 x4 x5 x6 x7 x8 x9 x10 x11 x12 th st dl sz h n bq lv tr dc ti tc T ld ly K V I tk sc dn R e5 eo r) Q := by
  refine op_115 hl (by omega) (Nat.le_of_ble_eq_true rfl) (fun J hJ => hJ [] 100 _ _ _ _ _ (beq (a := st) (b := 1) (by omega) (by omega) (fun q => ⟨0, Nat.zero_le _, cl_109 hl (by omega) hdl hn ?_⟩) (fun q => beq (a := st) (b := 2) (by omega) (by omega) (fun q2 => ⟨by decide, am_q1 ?_ rfl hq⟩) (fun q2 => ?_))))
  · rw [turnV, if_pos q] at hq
    exact hq
  · show (nI ld + nI ly) - (nI ld + nI ly) / nI 4 * nI 4 = _
    rw [nI_add, pk_rem (d := 4) (by omega) (by omega) (by omega), turnV, if_neg q, if_pos q2]
  · rw [turnV, if_neg q, if_neg q2] at hq
    exact hq
theorem cl_110 (hl : l.stackTraces = false) (hd : 2 ≤ d) (hb : bqA bq e5 r N bm) (hnN : n ≤ N) (hN : N ≤ 1000) (hbm : ∀ j, j < n → bm j < 43) (hq : Q (.inl (some (Value.int (kI (LV bm n))))) (wm x0 x1 x2 x3 x4 x5 x6 x7 x8 x9 x10 x11 x12 th st dl sz h n bq lv tr dc ti tc T ld ly K V I tk sc dn R e5 eo r)) : am_Call l d 110 k [.ref 13] (wm x0 x1 x2 x3 x4 x5 x6 x7 x8 x9 x10 x11 x12 th st dl sz h n bq lv tr dc ti tc T ld ly K V I tk sc dn R e5 eo r) Q := by
  refine op_110 hl (by omega) (Nat.le_of_ble_eq_true rfl) (fun J hJ => ?_)
  have hL : ∀ m, m ≤ n → LV bm m = LV bm n → J k 7 [some (Value.ref 13), some (Value.int (kI m))] [] (wm x0 x1 x2 x3 x4 x5 x6 x7 x8 x9 x10 x11 x12 th st dl sz h n bq lv tr dc ti tc T ld ly K V I tk sc dn R e5 eo r) := by
    intro m
    induction m with
    | zero =>
      intro hm e
      rw [← e] at hq
      exact hJ [7] 100 _ _ _ _ _ ⟨fun _ => hq, fun q => absurd (by decide) q⟩
    | succ m ih =>
      intro hm e
      have hbj := hbm m (by omega)
      rw [kI_s]
      refine hJ [7, 23] 100 _ _ _ _ _ ⟨fun q => absurd q (nI_pos (by omega)), fun _ => bq_ld hb ⟨nI_in (by omega) (by omega), 0, Nat.zero_le _, am_ca (congrArg (fun i => [Value.int (nI (bm i)), Value.int (nI 1), Value.int (nI 40)]) (i_cl (by omega))) (cl_95n hl (by omega) (by omega) (by omega) (by omega) ?_)⟩⟩
      refine hJ [7] 100 _ _ _ _ _ (bz (fun q => ?_) (fun q => ?_))
      · have h1 : LV bm (m + 1) = LV bm m := by rw [LV, if_neg (by rw [show isLv (bm m) = false from q]; decide)]
        refine am_jw (J := J) ?_ rfl rfl (ih (by omega) (by rw [← h1, e]))
        cases m with
        | zero => rfl
        | succ m =>
          rw [kI_s]
          show [_, some (Value.int (nI (m + 1) + (-1)))] = _
          rw [← Int32.sub_eq_add_neg, pk_sub1 (by omega)]
          rfl
      · have h1 : LV bm (m + 1) = m + 1 := by rw [LV, if_pos (show isLv (bm m) = true from q)]
        rw [← e, h1, kI_s] at hq
        exact hq
  refine hJ [7] 100 _ _ _ _ _ (am_jw (J := J) ?_ rfl rfl (hL n (Nat.le_refl _) rfl))
  cases n with
  | zero => rfl
  | succ m =>
    show [_, some (Value.int (nI (m + 1) - 1))] = _
    rw [pk_sub1 (by omega)]
    rfl
theorem cl_111 (hl : l.stackTraces = false) (hd : 3 ≤ d) (hb : bqA bq e5 r N bm) (hnN : n ≤ N) (hN : N ≤ 1000) (hbm : ∀ j, j < n → bm j < 43) {x : Nat} (hx : isLv x = false) (hx2 : x < 43) (hq : Q (.inl (some (Value.int (bI (SN bm x n))))) (wm x0 x1 x2 x3 x4 x5 x6 x7 x8 x9 x10 x11 x12 th st dl sz h n bq lv tr dc ti tc T ld ly K V I tk sc dn R e5 eo r)) : am_Call l d 111 k [.ref 13, .int (nI x)] (wm x0 x1 x2 x3 x4 x5 x6 x7 x8 x9 x10 x11 x12 th st dl sz h n bq lv tr dc ti tc T ld ly K V I tk sc dn R e5 eo r) Q := by
  refine op_111 hl (by omega) (Nat.le_of_ble_eq_true rfl) (fun J hJ => ?_)
  have hL : ∀ j i, i + j = n → LV bm n ≤ i → (∀ e, LV bm n ≤ e → e < i → ¬ bm e = x) → J k 7 [some (Value.ref 13), some (Value.int (nI x)), some (Value.int (nI i))] [] (wm x0 x1 x2 x3 x4 x5 x6 x7 x8 x9 x10 x11 x12 th st dl sz h n bq lv tr dc ti tc T ld ly K V I tk sc dn R e5 eo r) := by
    intro j
    induction j with
    | zero =>
      intro i hi hle hno
      have : i = n := by omega
      subst this
      rw [show SN bm x i = false from Bool.eq_false_iff.mpr (fun q => by
        obtain ⟨e, e1, e2, e3⟩ := (SN_iff bm x hx i).mp q
        exact hno e e1 e2 e3)] at hq
      exact hJ [7] 100 _ _ _ _ _ (ble (a := i) (b := i) (by omega) (by omega) (fun _ => ⟨by decide, hq⟩) (fun q => absurd q (by omega)))
    | succ j ih =>
      intro i hi hle hno
      have hbj := hbm i (by omega)
      refine hJ [7] 100 _ _ _ _ _ (ble (a := n) (b := i) (by omega) (by omega) (fun q => absurd q (by omega)) (fun _ => bq_ld hb ⟨nI_in (by omega) (by omega), beqx (a := bm i) (b := x) (congrArg (fun i => nI (bm i)) (i_cl (by omega))) rfl (by omega) (by omega) (fun q => ?_) (fun q => ?_)⟩))
      · rw [(SN_iff bm x hx n).mpr ⟨i, hle, by omega, q⟩] at hq
        exact ⟨by decide, hq⟩
      · refine am_jw (J := J) (congrArg (fun y => [some (Value.ref 13), some (Value.int (nI x)), some (Value.int y)]) (nI_1 i)) rfl rfl (ih (i + 1) (by omega) (by omega) (fun e e1 e2 => ?_))
        by_cases ee : e = i
        · rw [ee]; exact q
        · exact hno e e1 (by omega)
  refine hJ [5] 100 _ _ _ _ _ ⟨0, Nat.zero_le _, cl_110 hl (by omega) hb hnN hN hbm ?_⟩
  have := LV_le bm n
  refine hJ [7] 100 _ _ _ _ _ (am_jw (J := J) ?_ rfl rfl (hL (n - LV bm n) (LV bm n) (by omega) (Nat.le_refl _) (fun e e1 e2 => absurd e2 (by omega))))
  have e : kI (LV bm n) + 1 = nI (LV bm n) := by
    cases LV bm n with
    | zero => rfl
    | succ m => rw [kI_s, nI_1]
  exact congrArg (fun y => [some (Value.ref 13), some (Value.int (nI x)), some (Value.int y)]) e
end
