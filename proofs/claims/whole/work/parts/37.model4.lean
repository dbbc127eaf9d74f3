/-! contracts: the model, fourth part: bid, contract, tricks -/
theorem ar_ld {w : am_M} {q : Nat} {e : am_E} {kk : am_E → Prop} (h : w[q]? = some e) (hk : kk e) : am_at w q kk := am_at_iff.mpr ⟨e, h, hk⟩
def conM (lv : Int32) (tr dc ti wh : Nat) : Int32 := if lv = -1 then -1 else if wh = 0 then lv else if wh = 1 then nI tr else if wh = 2 then nI dc else nI ti
def rnV (s : Int32) (c : Nat) (K : Nat → Nat) (m : Nat) : Bool := if m = 0 then true else if c / 8 = K 0 / 8 then true else decide (dwn s (K 0 / 8) = 0)
theorem rnV_rs {h : Nat → Int32} {row : Nat → Nat} {m p c : Nat} (hc : c < 32) (hr : m ≠ 0 → row 0 < 32) (hb : bt (h p) c = true) : rnV (h p) c row m = bt (rsS h row m p) c := by
  unfold rnV rsS
  by_cases h0 : m = 0
  · rw [if_pos h0, if_pos h0, hb]
  · rw [if_neg h0, if_neg h0]
    have h4 : row 0 / 8 < 4 := by have := hr h0; omega
    by_cases hz : h p &&& sSuit (row 0 / 8) = 0
    · rw [if_pos hz, hb]
      split
      · rfl
      · exact decide_eq_true ((dwn_zero h4).mpr hz)
    · rw [if_neg hz, b_and, hb, bt_suit h4 hc, Bool.true_and]
      by_cases e : c / 8 = row 0 / 8
      · rw [if_pos e, decide_eq_true e]
      · rw [if_neg e, decide_eq_false e]
        exact decide_eq_false (fun q => hz ((dwn_zero h4).mp q))
section
variable {l : Launch} {d k : Nat} {Q : am_Q} {w : am_M}
theorem cl_120 (hl : l.stackTraces = false) (hd : 1 ≤ d) {a b t : Nat} (ha : a < 32) (hb : b < 32) (ht : t ≤ 4) (hq : Q (.inl (some (Value.int (bI (beatsN t a b))))) w) : am_Call l d 120 k [.int (nI a), .int (nI b), .int (nI t)] w Q := by
  refine op_120 hl hd (Nat.le_of_ble_eq_true rfl) (fun J hJ => hJ [] 100 _ _ _ _ _ ⟨by decide, by decide, beqx (a := a / 8) (b := b / 8) (pk_div (d := 8) (by omega) (by omega) (by omega)) (pk_div (d := 8) (by omega) (by omega) (by omega)) (by omega) (by omega) (fun q => ble (a := a) (b := b) (by omega) (by omega) (fun q2 => ?_) (fun q2 => ?_)) (fun q => ⟨by decide, beqx (a := a / 8) (b := t) (pk_div (d := 8) (by omega) (by omega) (by omega)) rfl (by omega) (by omega) (fun q2 => ?_) (fun q2 => ?_)⟩)⟩)
  · rw [beatsN, if_pos q, decide_eq_false (by omega)] at hq
    exact ⟨by decide, hq⟩
  · rw [beatsN, if_pos q, decide_eq_true (by omega)] at hq
    exact ⟨by decide, hq⟩
  · rw [beatsN, if_neg q, decide_eq_true q2] at hq
    exact ⟨by decide, hq⟩
  · rw [beatsN, if_neg q, decide_eq_false q2] at hq
    exact ⟨by decide, hq⟩
theorem cl_121 (hl : l.stackTraces = false) (hd : 2 ≤ d) {q m f t : Nat} {K : Nat → Nat} (hK : w[q]? = some (.inl (0, 4, .inl (fun i => nI (K i))))) (hm : m ≤ 4) (hc : ∀ i, i < m → K i < 32) (hf : f < 4) (ht : t ≤ 4) (hq : Q (.inl (some (Value.int (takeV f K t m)))) w) : am_Call l d 121 k [.ref q, .int (nI m), .int (nI f), .int (nI t)] w Q := by
  refine op_121 hl (by omega) (Nat.le_of_ble_eq_true rfl) (fun J hJ => ?_)
  have s37 : ∀ o, J k 37 [some (Value.ref q), some (Value.int (nI m)), some (Value.int (nI f)), some (Value.int (nI t)), some (Value.int (nI (BI K t m))), o] [] w := by
    intro o
    have hb : m ≠ 0 → BI K t m < 4 := by
      intro h0
      cases m with
      | zero => exact absurd rfl h0
      | succ m => have := BI_lt K t m; omega
    refine hJ [] 100 _ _ _ _ _ (beq (a := m) (b := 0) (by omega) (by omega) (fun g => ?_) (fun g => ⟨by decide, am_q1 ?_ rfl hq⟩))
    · rw [takeV, if_pos g] at hq
      exact hq
    · have := hb g
      show (nI f + nI (BI K t m)) - (nI f + nI (BI K t m)) / nI 4 * nI 4 = _
      rw [nI_add, pk_rem (d := 4) (by omega) (by omega) (by omega), takeV, if_neg g]
  by_cases h0 : m = 0
  · subst h0
    exact hJ [37] 100 _ _ _ _ _ ⟨fun _ => s37 _, fun q => absurd (by decide) q⟩
  · have hL : ∀ j i, i + 1 + j = m → J k 6 [some (Value.ref q), some (Value.int (nI m)), some (Value.int (nI f)), some (Value.int (nI t)), some (Value.int (nI (BI K t (i + 1)))), some (Value.int (nI (i + 1)))] [] w := by
      intro j
      induction j with
      | zero =>
        intro i hi
        have : m = i + 1 := by omega
        subst this
        exact hJ [37] 100 _ _ _ _ _ (ble (a := i + 1) (b := i + 1) (by omega) (by omega) (fun _ => s37 _) (fun g => absurd g (by omega)))
      | succ j ih =>
        intro i hi
        have hb := BI_lt K t i
        have eB : BI K t (i + 1 + 1) = if beatsN t (K (i + 1)) (K (BI K t (i + 1))) then i + 1 else BI K t (i + 1) := by rw [BI, if_neg (Nat.succ_ne_zero i)]
        have e1 : (nI (i + 1)).toNatClampNeg = i + 1 := i_cl (by omega)
        have e2 : (nI (BI K t (i + 1))).toNatClampNeg = BI K t (i + 1) := i_cl (by omega)
        have s31 : J k 31 [some (Value.ref q), some (Value.int (nI m)), some (Value.int (nI f)), some (Value.int (nI t)), some (Value.int (nI (BI K t (i + 1 + 1)))), some (Value.int (nI (i + 1)))] [] w :=
          hJ [6] 100 _ _ _ _ _ (am_jw (J := J) (congrArg (fun x => [some (Value.ref q), some (Value.int (nI m)), some (Value.int (nI f)), some (Value.int (nI t)), some (Value.int (nI (BI K t (i + 1 + 1)))), some (Value.int x)]) (nI_1 (i + 1))) rfl rfl (ih (i + 1) (by omega)))
        rw [eB] at s31
        refine hJ [31] 100 _ _ _ _ _ (ble (a := m) (b := i + 1) (by omega) (by omega) (fun g => absurd g (by omega)) (fun _ => ar_ld hK ⟨nI_in (by omega) (by omega), ar_ld hK ⟨nI_in (by omega) (by omega), 0, Nat.zero_le _, am_ca (as' := [Value.int (nI (K (i + 1))), Value.int (nI (K (BI K t (i + 1)))), Value.int (nI t)]) (by dsimp only; rw [e1, e2]) (cl_120 hl (by omega) (hc _ (by omega)) (hc _ (by omega)) ht (bz (fun g => ?_) (fun g => ?_)))⟩⟩))
        · rw [g] at s31
          exact s31
        · rw [g] at s31
          exact s31
    have hgo := hL (m - 1) 0 (by omega)
    exact hJ [6] 100 _ _ _ _ _ hgo
theorem cl_122 (hl : l.stackTraces = false) (hd : 1 ≤ d) {q m c : Nat} {s : Int32} {K : Nat → Nat} (hK : w[q]? = some (.inl (0, 4, .inl (fun i => nI (K i))))) (hc : c < 32) (hm : m < 2 ^ 31) (h0 : m ≠ 0 → K 0 < 32) (hq : Q (.inl (some (Value.int (bI (rnV s c K m))))) w) : am_Call l d 122 k [.int s, .int (nI c), .ref q, .int (nI m)] w Q := by
  refine op_122 hl hd (Nat.le_of_ble_eq_true rfl) (fun J hJ => hJ [4] 100 _ _ _ _ _ (beq (a := m) (b := 0) (by omega) (by omega) (fun g => ?_) (fun g => ?_)))
  · rw [rnV, if_pos g] at hq
    exact ⟨by decide, hq⟩
  · have hk := h0 g
    rw [rnV, if_neg g] at hq
    have eK : (nI (K 0)) / 8 = nI (K 0 / 8) := pk_div (d := 8) (by omega) (by omega) (by omega)
    refine hJ [17] 100 _ _ _ _ _ ⟨by decide, ar_ld hK ⟨nI_in (c := 0) (by omega) (by omega), by decide, beqx (a := c / 8) (b := K 0 / 8) (pk_div (d := 8) (by omega) (by omega) (by omega)) eK (by omega) (by omega) (fun g2 => ?_) (fun g2 => ?_)⟩⟩
    · rw [if_pos g2] at hq
      exact ⟨by decide, hq⟩
    · rw [if_neg g2] at hq
      have eD : ((s.toUInt32 >>> ((8 * (nI (K 0) / 8)).toUInt32 &&& Int32.toUInt32 31)).toInt32 &&& 255) = dwn s (K 0 / 8) := by
        rw [eK, show (8 : Int32) * nI (K 0 / 8) = nI (8 * (K 0 / 8)) from pk_mul 8 _]
        rfl
      refine hJ [32] 100 _ _ _ _ _ (ar_ld hK ⟨nI_in (c := 0) (by omega) (by omega), by decide, ?_⟩)
      refine am_jw (J := J) rfl (congrArg (fun x => [Value.int x]) eD) rfl ?_
      refine hJ [] 100 _ _ _ _ _ ⟨fun g3 => ?_, fun g3 => ?_⟩
      · rw [decide_eq_true g3] at hq
        exact ⟨by decide, hq⟩
      · rw [decide_eq_false g3] at hq
        exact ⟨by decide, hq⟩
end
section
variable {l : Launch} {d k : Nat} {Q : am_Q} {x0 x1 x2 x3 x4 x5 x6 x7 x8 x9 x10 x11 x12 : am_E} {th st dl sz : Nat} {h : Nat → Int32} {n bq : Nat} {lv : Int32} {tr dc ti tc : Nat} {T : Nat → Nat} {ld ly : Nat} {K V : Nat → Nat} {I : Nat → Bool} {tk : Nat → Nat} {sc : Nat → Int32} {dn : Int32} {R : Nat → Nat → Nat} {e5 eo : am_E} {r : am_M} {N : Nat} {bm : Nat → Nat}
theorem bq_st (hb : bqA bq e5 r N bm) (i v : Nat) : ∃ e5' r', bqA bq e5' r' N (uN bm i v) ∧ ∀ kk : am_M → Prop, kk (wm x0 x1 x2 x3 x4 x5 x6 x7 x8 x9 x10 x11 x12 th st dl sz h n bq lv tr dc ti tc T ld ly K V I tk sc dn R e5' eo r') → am_put (wm x0 x1 x2 x3 x4 x5 x6 x7 x8 x9 x10 x11 x12 th st dl sz h n bq lv tr dc ti tc T ld ly K V I tk sc dn R e5 eo r) bq (.inl (0, N, .inl (fun j => nI (uN bm i v j)))) kk := by
  rcases hb with ⟨e, e2⟩ | ⟨j, e, e2⟩
  · refine ⟨.inl (0, N, .inl (fun j => nI (uN bm i v j))), r, Or.inl ⟨e, rfl⟩, fun kk hk => ?_⟩
    subst e
    exact hk
  · have hj : j < r.length := by
      rcases Nat.lt_or_ge j r.length with q | q
      · exact q
      · rw [List.getElem?_eq_none q] at e2; cases e2
    refine ⟨e5, r.set j (.inl (0, N, .inl (fun j => nI (uN bm i v j)))), Or.inr ⟨j, e, by simp [hj]⟩, fun kk hk => ?_⟩
    subst e
    exact am_put_iff.mpr ⟨by show j + 29 < r.length + 29; omega, hk⟩
theorem bqA_app {v : am_E} (hb : bqA bq e5 r N bm) : bqA bq e5 (r ++ [v]) N bm := by
  rcases hb with ⟨e, e2⟩ | ⟨j, e, e2⟩
  · exact Or.inl ⟨e, e2⟩
  · refine Or.inr ⟨j, e, ?_⟩
    have hj : j < r.length := by
      rcases Nat.lt_or_ge j r.length with q | q
      · exact q
      · rw [List.getElem?_eq_none q] at e2; cases e2
    rw [List.getElem?_append_left hj]
    exact e2
theorem cl_114x (hl : l.stackTraces = false) (hd : 5 ≤ d) {x : Int32} (hx : NR x 43) (hq : Q (.inl (some (Value.int 0))) (wm x0 x1 x2 x3 x4 x5 x6 x7 x8 x9 x10 x11 x12 1 st dl sz h n bq lv tr dc ti tc T ld ly K V I tk sc dn R e5 eo r)) : am_Call l d 114 k [.ref 13, .int x] (wm x0 x1 x2 x3 x4 x5 x6 x7 x8 x9 x10 x11 x12 th st dl sz h n bq lv tr dc ti tc T ld ly K V I tk sc dn R e5 eo r) Q := by
  refine op_114 hl (by omega) (Nat.le_of_ble_eq_true rfl) (fun J hJ => ?_)
  have s15 : J k 15 [some (Value.ref 13), some (Value.int x), none] [] (wm x0 x1 x2 x3 x4 x5 x6 x7 x8 x9 x10 x11 x12 0 st dl sz h n bq lv tr dc ti tc T ld ly K V I tk sc dn R e5 eo r) := hJ [] 100 _ _ _ _ _ ⟨0, Nat.zero_le _, cl_94 (th := 0) hl (by omega) (y := 1) rfl hq⟩
  exact hJ [15] 100 _ _ _ _ _ ⟨0, Nat.zero_le _, cl_95x (n := 42) hl (by omega) (by omega) hx ⟨fun _ => s15, fun q => absurd rfl q⟩⟩
theorem cl_114b (hl : l.stackTraces = false) (hd : 5 ≤ d) (hst : st < 4) (hb : bqA bq e5 r N bm) (hnN : n ≤ N) (hN : N ≤ 1000) (hbm : ∀ j, j < n → bm j < 43) {bd : Nat} (hbd : bd < 43) (hx : (decide (st = 1) && alwM bm n bd) = false) (hq : Q (.inl (some (Value.int 0))) (wm x0 x1 x2 x3 x4 x5 x6 x7 x8 x9 x10 x11 x12 2 st dl sz h n bq lv tr dc ti tc T ld ly K V I tk sc dn R e5 eo r)) : am_Call l d 114 k [.ref 13, .int (nI bd)] (wm x0 x1 x2 x3 x4 x5 x6 x7 x8 x9 x10 x11 x12 th st dl sz h n bq lv tr dc ti tc T ld ly K V I tk sc dn R e5 eo r) Q := by
  refine op_114 hl (by omega) (Nat.le_of_ble_eq_true rfl) (fun J hJ => ?_)
  have s37 : J k 37 [some (Value.ref 13), some (Value.int (nI bd)), none] [] (wm x0 x1 x2 x3 x4 x5 x6 x7 x8 x9 x10 x11 x12 0 st dl sz h n bq lv tr dc ti tc T ld ly K V I tk sc dn R e5 eo r) := hJ [] 100 _ _ _ _ _ ⟨0, Nat.zero_le _, cl_94 (th := 0) hl (by omega) (y := 2) rfl hq⟩
  refine hJ [37] 100 _ _ _ _ _ ⟨0, Nat.zero_le _, cl_95n (lo := 0) (hi := 42) hl (by omega) (by omega) (by omega) (by omega) (bz (fun q => absurd (of_decide_eq_false q) (by omega)) (fun _ => beq (a := st) (b := 1) (by omega) (by omega) (fun q => ⟨0, Nat.zero_le _, cl_112 (th := 0) hl (by omega) hb hnN hN hbm hbd (bz (fun q2 => s37) (fun q2 => ?_))⟩) (fun q => s37)))⟩
  rw [decide_eq_true q, q2] at hx
  cases hx
theorem cl_114 (hl : l.stackTraces = false) (hd : 5 ≤ d) (hk : 1 ≤ k) (h1 : st = 1) (hb : bqA bq e5 r N bm) (hnN : n ≤ N) (hN : N ≤ 1000) (hN0 : 0 < N) (hn : n < 364) (hbm : ∀ j, j < n → bm j < 43) {bd : Nat} (hbd : bd < 43) (ha : alwM bm n bd = true) (hdl : dl < 4) (hly : ly = 0) (hld : ld < 4) {z : Nat} (hz : PS (uN bm n bd) (n + 1) = 3 → PS (uN bm n bd) (n + 1) < n + 1 → 0 < LV (uN bm n bd) (n + 1) ∧ isZM (uN bm n bd) (n + 1) z)
    (hA : PS (uN bm n bd) (n + 1) = n + 1 → PS (uN bm n bd) (n + 1) = 4 → ∀ bq' e5' r' N' b', bqA bq' e5' r' N' b' → n + 1 ≤ N' → N' ≤ 1000 → (∀ j, j < n + 1 → b' j = uN bm n bd j) → Q (.inl (some (Value.int (-1)))) (wm x0 x1 x2 x3 x4 x5 x6 x7 x8 x9 x10 x11 x12 0 3 dl sz h (n + 1) bq' lv tr dc ti tc T ld ly K V I tk sc dn R e5' eo r'))
    (hB : PS (uN bm n bd) (n + 1) = 3 → PS (uN bm n bd) (n + 1) < n + 1 → ∀ bq' e5' r' N' b', bqA bq' e5' r' N' b' → n + 1 ≤ N' → N' ≤ 1000 → (∀ j, j < n + 1 → b' j = uN bm n bd j) → Q (.inl (some (Value.int (nI (((dl + z) % 4 + 1) % 4))))) (wm x0 x1 x2 x3 x4 x5 x6 x7 x8 x9 x10 x11 x12 0 2 dl sz h (n + 1) bq' (nI ((uN bm n bd (LV (uN bm n bd) (n + 1) - 1) - 1) / 5 + 1)) ((uN bm n bd (LV (uN bm n bd) (n + 1) - 1) - 1) % 5) ((dl + z) % 4) (tiM (uN bm n bd) (n + 1)) tc T (((dl + z) % 4 + 1) % 4) ly K V I tk sc dn R e5' eo r'))
    (hC : ¬ (PS (uN bm n bd) (n + 1) = n + 1 ∧ PS (uN bm n bd) (n + 1) = 4) → ¬ (PS (uN bm n bd) (n + 1) = 3 ∧ PS (uN bm n bd) (n + 1) < n + 1) → ∀ bq' e5' r' N' b', bqA bq' e5' r' N' b' → n + 1 ≤ N' → N' ≤ 1000 → (∀ j, j < n + 1 → b' j = uN bm n bd j) → Q (.inl (some (Value.int (nI ((dl + (n + 1)) % 4))))) (wm x0 x1 x2 x3 x4 x5 x6 x7 x8 x9 x10 x11 x12 0 st dl sz h (n + 1) bq' lv tr dc ti tc T ld ly K V I tk sc dn R e5' eo r')) : am_Call l d 114 k [.ref 13, .int (nI bd)] (wm x0 x1 x2 x3 x4 x5 x6 x7 x8 x9 x10 x11 x12 th st dl sz h n bq lv tr dc ti tc T ld ly K V I tk sc dn R e5 eo r) Q := by
  subst h1
  subst hly
  refine op_114 hl (by omega) (Nat.le_of_ble_eq_true rfl) (fun J hJ => ?_)
  -- behind the row's growth
  have s83 : ∀ (k : Nat) (o : Option Value) (bq' : Nat) (e5' : am_E) (r' : am_M) (N' : Nat) (b' : Nat → Nat), bqA bq' e5' r' N' b' → n < N' → N' ≤ 1000 → (∀ j, j < n → b' j = bm j) → J k 83 [some (Value.ref 13), some (Value.int (nI bd)), o] [] (wm x0 x1 x2 x3 x4 x5 x6 x7 x8 x9 x10 x11 x12 0 1 dl sz h n bq' lv tr dc ti tc T ld 0 K V I tk sc dn R e5' eo r') := by
    intro k o bq' e5' r' N' b' hb' hnN' hN' hbb
    obtain ⟨e6, r6, hb6, hput⟩ := bq_st (th := 0) (st := 1) (dl := dl) (sz := sz) (h := h) (n := n + 1) (lv := lv) (tr := tr) (dc := dc) (ti := ti) (tc := tc) (T := T) (ld := ld) (ly := 0) (K := K) (V := V) (I := I) (tk := tk) (sc := sc) (dn := dn) (R := R) (eo := eo) (x0 := x0) (x1 := x1) (x2 := x2) (x3 := x3) (x4 := x4) (x5 := x5) (x6 := x6) (x7 := x7) (x8 := x8) (x9 := x9) (x10 := x10) (x11 := x11) (x12 := x12) hb' n bd
    have hag : ∀ j, j < n + 1 → uN b' n bd j = uN bm n bd j := by
      intro j hj
      show (if j = n then bd else b' j) = if j = n then bd else bm j
      by_cases e : j = n
      · rw [if_pos e, if_pos e]
      · rw [if_neg e, if_neg e, hbb j (by omega)]
    have hlt : ∀ j, j < n + 1 → uN b' n bd j < 43 := by
      intro j hj
      rw [hag j hj]
      show (if j = n then bd else bm j) < 43
      split
      · exact hbd
      · exact hbm j (by omega)
    have ePS : PS (uN b' n bd) (n + 1) = PS (uN bm n bd) (n + 1) := PS_cong hag
    have eLV : LV (uN b' n bd) (n + 1) = LV (uN bm n bd) (n + 1) := LV_cong hag
    have hPSle := PS_le (uN b' n bd) (n + 1)
    -- the passes are counted
    have s132 : J k 132 [some (Value.ref 13), some (Value.int (nI bd)), some (Value.int (nI (PS (uN b' n bd) (n + 1))))] [] (wm x0 x1 x2 x3 x4 x5 x6 x7 x8 x9 x10 x11 x12 0 1 dl sz h (n + 1) bq' lv tr dc ti tc T ld 0 K V I tk sc dn R e6 eo r6) := by
      have s150 : ¬ (PS (uN bm n bd) (n + 1) = n + 1 ∧ PS (uN bm n bd) (n + 1) = 4) → J k 150 [some (Value.ref 13), some (Value.int (nI bd)), some (Value.int (nI (PS (uN b' n bd) (n + 1))))] [] (wm x0 x1 x2 x3 x4 x5 x6 x7 x8 x9 x10 x11 x12 0 1 dl sz h (n + 1) bq' lv tr dc ti tc T ld 0 K V I tk sc dn R e6 eo r6) := by
        intro hn4
        have s171 : ¬ (PS (uN bm n bd) (n + 1) = 3 ∧ PS (uN bm n bd) (n + 1) < n + 1) → J k 171 [some (Value.ref 13), some (Value.int (nI bd)), some (Value.int (nI (PS (uN b' n bd) (n + 1))))] [] (wm x0 x1 x2 x3 x4 x5 x6 x7 x8 x9 x10 x11 x12 0 1 dl sz h (n + 1) bq' lv tr dc ti tc T ld 0 K V I tk sc dn R e6 eo r6) := by
          intro hn3
          have hq1 := hC hn4 hn3 bq' e6 r6 N' _ hb6 (by omega) hN' hag
          exact hJ [] 100 _ _ _ _ _ ⟨0, Nat.zero_le _, cl_115 (th := 0) (st := 1) (n := n + 1) (ly := 0) hl (by omega) (by omega) hdl (by omega) hld (by omega) hq1⟩
        refine hJ [171] 100 _ _ _ _ _ (ble (a := n + 1) (b := PS (uN b' n bd) (n + 1)) (by omega) (by omega) (fun g => s171 (by rw [← ePS]; omega)) (fun g => beq (a := PS (uN b' n bd) (n + 1)) (b := 3) (by omega) (by omega) (fun g2 => ?_) (fun g2 => s171 (by rw [← ePS]; omega))))
        rw [ePS] at g g2
        obtain ⟨z0, zz⟩ := hz g2 g
        have hq1 := hB g2 g bq' e6 r6 N' _ hb6 (by omega) hN' hag
        have hzz : isZM (uN b' n bd) (n + 1) z := by
          obtain ⟨z1, z2, z3, z4, z5⟩ := zz
          have hl1 := LV_le (uN bm n bd) (n + 1)
          unfold isZM
          rw [eLV, hag z z1, hag (LV (uN bm n bd) (n + 1) - 1) (by omega)]
          refine ⟨z1, z2, z3, z4, fun j hj hj2 => ?_⟩
          rw [hag j (by omega)]
          exact z5 j hj hj2
        have hl1 := LV_le (uN bm n bd) (n + 1)
        have e1 : uN b' n bd (LV (uN b' n bd) (n + 1) - 1) = uN bm n bd (LV (uN bm n bd) (n + 1) - 1) := by rw [eLV]; exact hag _ (by omega)
        have eT : tiM (uN b' n bd) (n + 1) = tiM (uN bm n bd) (n + 1) := by unfold tiM; rw [SN_cong hag, SN_cong hag]
        rw [← e1, ← eT] at hq1
        refine ⟨0, Nat.zero_le _, cl_110 (th := 0) (st := 1) (n := n + 1) (ly := 0) hl (by omega) hb6 (by omega) hN' hlt ⟨0, Nat.zero_le _, cl_113 (th := 0) (st := 1) (n := n + 1) (ly := 0) hl (by omega) hb6 (by omega) hN' hlt hdl (by rw [eLV]; exact z0) hzz ?_⟩⟩
        refine hJ [] 100 _ _ _ _ _ ⟨0, Nat.zero_le _, cl_115 (th := 0) (st := 2) (n := n + 1) (ly := 0) hl (by omega) (by omega) hdl (by omega) (Nat.mod_lt _ (by omega)) (by omega) ?_⟩
        have et : turnV 2 ((((dl + z) % 4 + 1) % 4 + 0) % 4) dl (n + 1) = nI (((dl + z) % 4 + 1) % 4) := by
          rw [turnV, if_neg (by decide), if_pos rfl]
          congr 1
          omega
        rw [et]
        exact hq1
      refine hJ [150] 100 _ _ _ _ _ (beq (a := PS (uN b' n bd) (n + 1)) (b := n + 1) (by omega) (by omega) (fun g => beq (a := PS (uN b' n bd) (n + 1)) (b := 4) (by omega) (by omega) (fun g2 => ?_) (fun g2 => s150 (by rw [← ePS]; omega))) (fun g => s150 (by rw [← ePS]; omega)))
      have hq1 := hA (by rw [← ePS]; exact g) (by rw [← ePS]; exact g2) bq' e6 r6 N' _ hb6 (by omega) hN' hag
      exact hJ [] 100 _ _ _ _ _ (ble (a := n + 1) (b := PS (uN b' n bd) (n + 1)) (by omega) (by omega) (fun _ => ⟨0, Nat.zero_le _, cl_115 (th := 0) (st := 3) (n := n + 1) (ly := 0) hl (by omega) (by omega) hdl (by omega) hld (by omega) hq1⟩) (fun g3 => absurd g3 (by omega)))
    have hLp : ∀ j i, i + j = PS (uN b' n bd) (n + 1) → J k 102 [some (Value.ref 13), some (Value.int (nI bd)), some (Value.int (nI i))] [] (wm x0 x1 x2 x3 x4 x5 x6 x7 x8 x9 x10 x11 x12 0 1 dl sz h (n + 1) bq' lv tr dc ti tc T ld 0 K V I tk sc dn R e6 eo r6) := by
      intro j
      induction j with
      | zero =>
        intro i hi
        have e : i = PS (uN b' n bd) (n + 1) := by omega
        subst e
        refine hJ [118, 132] 100 _ _ _ _ _ (ble (a := n + 1) (b := PS (uN b' n bd) (n + 1)) (by omega) (by omega) (fun _ => s132) (fun g => ?_))
        have hne := PS_e (uN b' n bd) (n + 1) g
        have ei : nI (n + 1) - 1 - nI (PS (uN b' n bd) (n + 1)) = nI (n + 1 - 1 - PS (uN b' n bd) (n + 1)) := by rw [pk_sub1 (by omega), pk_sub (by omega)]
        have hlt2 := hlt (n + 1 - 1 - PS (uN b' n bd) (n + 1)) (by omega)
        exact hJ [132] 100 _ _ _ _ _ (bq_ld hb6 ⟨vin ei (by omega) (by omega), beqx (a := uN b' n bd (n + 1 - 1 - PS (uN b' n bd) (n + 1))) (b := 0) (congrArg (fun i => nI (uN b' n bd i)) (clx ei (by omega))) rfl (by omega) (by omega) (fun g2 => absurd g2 hne) (fun _ => s132)⟩)
      | succ j ih =>
        intro i hi
        have hz0 := PS_z (uN b' n bd) (n + 1) i (by omega)
        have ei : nI (n + 1) - 1 - nI i = nI (n + 1 - 1 - i) := by rw [pk_sub1 (by omega), pk_sub (by omega)]
        have hlt2 := hlt (n + 1 - 1 - i) (by omega)
        refine hJ [118, 132] 100 _ _ _ _ _ (ble (a := n + 1) (b := i) (by omega) (by omega) (fun g => absurd g (by omega)) (fun _ => ?_))
        refine hJ [102, 132] 100 _ _ _ _ _ (bq_ld hb6 ⟨vin ei (by omega) (by omega), beqx (a := uN b' n bd (n + 1 - 1 - i)) (b := 0) (congrArg (fun i => nI (uN b' n bd i)) (clx ei (by omega))) rfl (by omega) (by omega) (fun _ => ?_) (fun g2 => absurd hz0 g2)⟩)
        exact am_jw (J := J) (congrArg (fun x => [some (Value.ref 13), some (Value.int (nI bd)), some (Value.int x)]) (nI_1 i)) rfl rfl (ih (i + 1) (by omega))
    -- the bid is put
    refine hJ [98] 100 _ _ _ _ _ ?_
    refine am_jw (J := J) (w' := (wm x0 x1 x2 x3 x4 x5 x6 x7 x8 x9 x10 x11 x12 0 1 dl sz h (n + 1) bq' lv tr dc ti tc T ld 0 K V I tk sc dn R e5' eo r')) rfl rfl (by dsimp only; rw [nI_1]; rfl) ?_
    refine hJ [100] 100 _ _ _ _ _ (bq_ld hb' ⟨nI_in (by omega) (by omega), ?_⟩)
    rw [uN_up (by omega)]
    refine hput _ (hJ [102] 100 _ _ _ _ _ (hLp _ 0 (Nat.zero_add _)))
  have s43 : J k 43 [some (Value.ref 13), some (Value.int (nI bd)), none] [] (wm x0 x1 x2 x3 x4 x5 x6 x7 x8 x9 x10 x11 x12 0 1 dl sz h n bq lv tr dc ti tc T ld 0 K V I tk sc dn R e5 eo r) := by
    refine hJ [63, 83] 100 _ _ _ _ _ (bq_ld hb (beq (a := n) (b := N) (by omega) (by omega) (fun g => ⟨2 * n, pk_mul 2 n, by omega, ?_⟩) (fun g => s83 k _ bq e5 r N bm hb (by omega) hN (fun _ _ => rfl))))
    obtain ⟨k', rfl⟩ : ∃ k', k = k' + 1 := ⟨k - 1, by omega⟩
    refine (am_app_iff (l := r)).mpr ?_
    refine hJ [75] 100 _ _ _ _ _ ?_
    have hb2 := bqA_app (v := .inl (0, 2 * n, .inl (fun _ => 0))) hb
    refine hJ [83] 100 _ _ _ _ _ (bq_ld hb2 (tl_at ⟨⟨by decide, by decide, nI_pos (by omega), ?_, ?_⟩, fun j => nI (if j < n then bm j else 0), ?_, tl_put ?_⟩))
    · rw [i_cl (by omega)]
      show 0 + n ≤ N
      omega
    · rw [i_cl (by omega)]
      show 0 + n ≤ 2 * n
      omega
    · intro j hj
      rw [i_cl (by omega)]
      show (if 0 ≤ j ∧ j < 0 + n then nI (bm (0 + (j - 0))) else 0) = nI (if j < n then bm j else 0)
      by_cases e : j < n
      · rw [if_pos ⟨Nat.zero_le _, by omega⟩, if_pos e, Nat.sub_zero, Nat.zero_add]
      · rw [if_neg (by omega), if_neg e]
        rfl
    · exact s83 k' _ (r.length + 29) e5 (r ++ [.inl (0, 2 * n, .inl (fun j => nI (if j < n then bm j else 0)))]) (2 * n) (fun j => if j < n then bm j else 0) (Or.inr ⟨r.length, rfl, by simp⟩) (by omega) (by omega) (fun j hj => if_pos hj)
  refine hJ [43] 100 _ _ _ _ _ ⟨0, Nat.zero_le _, cl_95n (lo := 0) (hi := 42) hl (by omega) (by omega) (by omega) (by omega) (bz (fun q => absurd (of_decide_eq_false q) (by omega)) (fun _ => ⟨fun _ => ⟨0, Nat.zero_le _, cl_112 (th := 0) (st := 1) (ly := 0) hl (by omega) hb hnN hN hbm hbd (bz (fun q2 => ?_) (fun q2 => s43))⟩, fun q => absurd rfl q⟩))⟩
  rw [ha] at q2
  cases q2
end
