/-! pure: what the class keeps of the bids is what the model reads off them -/
def tbd (ti : Nat) : Nat := if ti = 1 then 1 else if ti = 2 then 4 else 7
def AI (b : Nat → Nat) (n dl ll lb ti pa : Nat) : Prop :=
  (∀ j, j < n → b j < 43) ∧ ll = (if LV b n = 0 then 0 else b (LV b n - 1)) ∧ (0 < LV b n → lb = (dl + (LV b n - 1)) % 4) ∧ lb < 4 ∧ pa = PS b n ∧
  ((ti = 1 ∧ SN b 41 n = false ∧ SN b 42 n = false) ∨ (ti = 2 ∧ SN b 41 n = true ∧ SN b 42 n = false) ∨ (ti = 4 ∧ SN b 41 n = true ∧ SN b 42 n = true)) ∧
  (LV b n = 0 → PS b n = n ∧ ti = 1) ∧ (0 < LV b n → n ≤ 3 + 9 * (ll - 1) + tbd ti + pa)
theorem isLv_iff {x : Nat} : isLv x = true ↔ 1 ≤ x ∧ x ≤ 40 := by unfold isLv; exact decide_eq_true_iff
theorem isLv_no {x : Nat} : isLv x = false ↔ ¬ (1 ≤ x ∧ x ≤ 40) := by unfold isLv; exact decide_eq_false_iff_not
theorem AI_ll {b : Nat → Nat} {n dl ll lb ti pa : Nat} (h : AI b n dl ll lb ti pa) : (LV b n = 0 → ll = 0) ∧ (0 < LV b n → ll = b (LV b n - 1) ∧ 1 ≤ ll ∧ ll ≤ 40) := by
  obtain ⟨_, h2, _⟩ := h
  constructor
  · intro e
    rw [h2, if_pos e]
  · intro e
    have h3 : ll = b (LV b n - 1) := by rw [h2, if_neg (by omega)]
    have h4 := isLv_iff.mp (LV_lv b n e)
    rw [← h3] at h4
    exact ⟨h3, h4.1, h4.2⟩
theorem AI_b {b : Nat → Nat} {n dl ll lb ti pa : Nat} (h : AI b n dl ll lb ti pa) : ll ≤ 40 ∧ lb < 4 ∧ 1 ≤ ti ∧ ti ≤ 4 ∧ pa ≤ n ∧ (ll = 0 ↔ LV b n = 0) := by
  have h1 := AI_ll h
  obtain ⟨_, _, _, h4, h5, h6, _, _⟩ := h
  have h7 := PS_le b n
  refine ⟨?_, h4, ?_, ?_, by omega, ?_⟩
  · rcases Nat.eq_zero_or_pos (LV b n) with e | e
    · have := h1.1 e; omega
    · exact (h1.2 e).2.2
  · rcases h6 with ⟨e, _⟩ | ⟨e, _⟩ | ⟨e, _⟩ <;> omega
  · rcases h6 with ⟨e, _⟩ | ⟨e, _⟩ | ⟨e, _⟩ <;> omega
  · constructor
    · intro e
      rcases Nat.eq_zero_or_pos (LV b n) with e2 | e2
      · exact e2
      · have := (h1.2 e2).2.1; omega
    · exact h1.1
theorem AI_n {b : Nat → Nat} {n dl ll lb ti pa : Nat} (h : AI b n dl ll lb ti pa) (h0 : LV b n = 0 → n ≤ 4) (h1 : 0 < LV b n → pa ≤ 3) : n ≤ 364 := by
  have hb := AI_b h
  obtain ⟨_, _, _, _, _, h6, _, h8⟩ := h
  rcases Nat.eq_zero_or_pos (LV b n) with e | e
  · have := h0 e; omega
  · have a := h8 e
    have c := h1 e
    have d : tbd ti ≤ 7 := by unfold tbd; split; omega; split <;> omega
    omega
theorem AI_n2 {b : Nat → Nat} {n dl ll lb ti pa : Nat} (h : AI b n dl ll lb ti pa) (h0 : LV b n = 0 → n ≤ 3) (h1 : 0 < LV b n → pa ≤ 2) : n < 364 := by
  have hb := AI_b h
  obtain ⟨_, _, _, _, _, h6, _, h8⟩ := h
  rcases Nat.eq_zero_or_pos (LV b n) with e | e
  · have := h0 e; omega
  · have a := h8 e
    have c := h1 e
    have d : tbd ti ≤ 7 := by unfold tbd; split; omega; split <;> omega
    omega
theorem AI_alw {b : Nat → Nat} {n dl ll lb ti pa bd : Nat} (h : AI b n dl ll lb ti pa) : alw n dl ll lb ti bd = alwM b n bd := by
  have hl := AI_ll h
  have hb := AI_b h
  obtain ⟨_, _, h3, _, _, h6, _, _⟩ := h
  have hLV := LV_le b n
  unfold alw alwM
  by_cases e0 : bd = 0
  · rw [if_pos e0, if_pos e0]
  · rw [if_neg e0, if_neg e0]
    by_cases e1 : bd ≤ 40
    · rw [if_pos e1, if_pos e1]
      rcases Nat.eq_zero_or_pos (LV b n) with e | e
      · rw [if_pos e, hl.1 e]
        exact decide_eq_true (by omega)
      · rw [if_neg (by omega), (hl.2 e).1]
    · rw [if_neg e1, if_neg e1]
      rcases Nat.eq_zero_or_pos (LV b n) with e | e
      · rw [if_pos (hl.1 e), if_pos e]
      · have e2 := (hl.2 e).2.1
        rw [if_neg (show ¬ ll = 0 by omega), if_neg (show ¬ LV b n = 0 by omega)]
        have hp : decide ((dl + n) % 2 = lb % 2) = decide ((n - (LV b n - 1)) % 2 = 0) := by
          have := h3 e
          by_cases q : (dl + n) % 2 = lb % 2
          · rw [decide_eq_true q, decide_eq_true (by omega)]
          · rw [decide_eq_false q, decide_eq_false (by omega)]
        rw [hp]
        by_cases e41 : bd = 41
        · rw [if_pos e41, if_pos e41]
          rcases h6 with ⟨a, b1, c1⟩ | ⟨a, b1, c1⟩ | ⟨a, b1, c1⟩
          · rw [a, b1]; simp
          · rw [a, b1]; simp
          · rw [a, b1]; simp
        rw [if_neg e41, if_neg e41]
        rcases h6 with ⟨a, b1, c1⟩ | ⟨a, b1, c1⟩ | ⟨a, b1, c1⟩
        · rw [a, b1]; simp
        · rw [a, b1, c1]; simp
        · rw [a, b1, c1]; simp
theorem uN_lo (b : Nat → Nat) (n v : Nat) : ∀ j, j < n → uN b n v j = b j := fun j hj => uN_n _ _ (by omega)
theorem LV_u (b : Nat → Nat) (n bd : Nat) : LV (uN b n bd) (n + 1) = if isLv bd then n + 1 else LV b n := by
  rw [LV, uN_s, LV_cong (uN_lo b n bd)]
theorem PS_u (b : Nat → Nat) (n bd : Nat) : PS (uN b n bd) (n + 1) = if bd = 0 then PS b n + 1 else 0 := by
  rw [PS, uN_s, PS_cong (uN_lo b n bd)]
theorem SN_u (b : Nat → Nat) (n bd x : Nat) : SN (uN b n bd) x (n + 1) = if isLv bd then false else decide (bd = x) || SN b x n := by
  rw [SN, uN_s, SN_cong (uN_lo b n bd)]
theorem AI_step {b : Nat → Nat} {n dl ll lb ti pa bd : Nat} (h : AI b n dl ll lb ti pa) (hbd : bd < 43) (ha : alw n dl ll lb ti bd = true) (h0 : LV b n = 0 → n ≤ 3) (h2 : 0 < LV b n → pa ≤ 2) : AI (uN b n bd) (n + 1) dl (nLl ll bd) (nLb dl n lb bd) (nTi ti bd) (nPa pa bd) := by
  have hl := AI_ll h
  have hb := AI_b h
  obtain ⟨k1, k2, k3, k4, k5, k6, k7, k8⟩ := h
  have hLV := LV_le b n
  have hlt : ∀ j, j < n + 1 → uN b n bd j < 43 := by
    intro j hj
    show (if j = n then bd else b j) < 43
    split
    · exact hbd
    · exact k1 j (by omega)
  unfold alw at ha
  rcases Nat.eq_zero_or_pos bd with e0 | e0
  · -- PASS
    subst e0
    have eL : LV (uN b n 0) (n + 1) = LV b n := LV_u b n 0
    have eP : PS (uN b n 0) (n + 1) = PS b n + 1 := PS_u b n 0
    have eS : ∀ x, 40 < x → SN (uN b n 0) x (n + 1) = SN b x n := by
      intro x hx
      rw [SN_u, if_neg (by decide), decide_eq_false (by omega)]
      rfl
    have eu : 0 < LV b n → uN b n 0 (LV b n - 1) = b (LV b n - 1) := fun _ => uN_lo b n 0 _ (by omega)
    refine ⟨hlt, ?_, ?_, k4, ?_, ?_, ?_, ?_⟩
    · rw [eL]
      show ll = _
      rcases Nat.eq_zero_or_pos (LV b n) with e | e
      · rw [if_pos e]; exact hl.1 e
      · rw [if_neg (by omega), eu e]; exact (hl.2 e).1
    · rw [eL]; exact k3
    · rw [eP]
      show pa + 1 = _
      omega
    · rw [eS 41 (by omega), eS 42 (by omega)]; exact k6
    · rw [eL, eP]
      intro e
      have := k7 e
      exact ⟨by omega, this.2⟩
    · rw [eL]
      intro e
      have := k8 e
      show n + 1 ≤ 3 + 9 * (ll - 1) + tbd ti + (pa + 1)
      omega
  · rw [if_neg (by omega)] at ha
    have eP : PS (uN b n bd) (n + 1) = 0 := by rw [PS_u, if_neg (by omega)]
    have hPa : nPa pa bd = 0 := if_neg (by omega)
    by_cases e40 : bd ≤ 40
    · -- a LEVEL
      rw [if_pos e40] at ha
      have hlt' := of_decide_eq_true ha
      have hlv : isLv bd = true := isLv_iff.mpr ⟨e0, e40⟩
      have eL : LV (uN b n bd) (n + 1) = n + 1 := by rw [LV_u, if_pos hlv]
      have eS : ∀ x, SN (uN b n bd) x (n + 1) = false := fun x => by rw [SN_u, if_pos hlv]
      have h1 : nLl ll bd = bd := by unfold nLl; rw [if_neg (by omega), if_pos e40]
      have h2' : nLb dl n lb bd = (dl + n) % 4 := by unfold nLb; rw [if_neg (by omega), if_pos e40]
      have h3 : nTi ti bd = 1 := by unfold nTi; rw [if_neg (by omega), if_pos e40]
      refine ⟨hlt, ?_, ?_, ?_, ?_, ?_, ?_, ?_⟩
      · rw [eL, if_neg (by omega), h1]
        show bd = uN b n bd n
        rw [uN_s]
      · rw [eL, h2']
        intro _
        rfl
      · rw [h2']; exact Nat.mod_lt _ (by omega)
      · rw [eP, hPa]
      · exact Or.inl ⟨h3, eS _, eS _⟩
      · rw [eL]; intro e; omega
      · intro _
        rw [h1, h3, hPa]
        show n + 1 ≤ 3 + 9 * (bd - 1) + 1 + 0
        rcases Nat.eq_zero_or_pos (LV b n) with e | e
        · have := h0 e; omega
        · have a1 := k8 e
          have a2 := h2 e
          have a3 : tbd ti ≤ 7 := by unfold tbd; split; omega; split <;> omega
          have a4 := (hl.2 e).2.1
          omega
    · rw [if_neg e40] at ha
      have hlv : isLv bd = false := isLv_no.mpr (by omega)
      have hll0 : ¬ ll = 0 := by
        intro e
        rw [if_pos e] at ha
        cases ha
      rw [if_neg hll0] at ha
      have e : 0 < LV b n := by
        rcases Nat.eq_zero_or_pos (LV b n) with q | q
        · exact absurd (hl.1 q) hll0
        · exact q
      have eL : LV (uN b n bd) (n + 1) = LV b n := by rw [LV_u, if_neg (by rw [hlv]; decide)]
      have eS : ∀ x, SN (uN b n bd) x (n + 1) = (decide (bd = x) || SN b x n) := fun x => by rw [SN_u, if_neg (by rw [hlv]; decide)]
      have h1 : nLl ll bd = ll := by unfold nLl; rw [if_neg (by omega), if_neg e40]
      have h2' : nLb dl n lb bd = lb := by unfold nLb; rw [if_neg (by omega), if_neg e40]
      have eu : uN b n bd (LV b n - 1) = b (LV b n - 1) := uN_lo b n bd _ (by omega)
      have hcom : ∀ t, nTi ti bd = t → ((t = 1 ∧ SN (uN b n bd) 41 (n + 1) = false ∧ SN (uN b n bd) 42 (n + 1) = false) ∨ (t = 2 ∧ SN (uN b n bd) 41 (n + 1) = true ∧ SN (uN b n bd) 42 (n + 1) = false) ∨ (t = 4 ∧ SN (uN b n bd) 41 (n + 1) = true ∧ SN (uN b n bd) 42 (n + 1) = true)) → n + 1 ≤ 3 + 9 * (ll - 1) + tbd t + 0 → AI (uN b n bd) (n + 1) dl (nLl ll bd) (nLb dl n lb bd) (nTi ti bd) (nPa pa bd) := by
        intro t ht hS hbn
        refine ⟨hlt, ?_, ?_, ?_, ?_, ?_, ?_, ?_⟩
        · rw [eL, if_neg (by omega), h1, eu]; exact (hl.2 e).1
        · rw [eL, h2']; exact k3
        · rw [h2']; exact k4
        · rw [eP, hPa]
        · rw [ht]; exact hS
        · rw [eL]; intro q; omega
        · intro _
          rw [h1, ht, hPa]
          exact hbn
      have a1 := k8 e
      have a2 := h2 e
      by_cases e41 : bd = 41
      · rw [if_pos e41, Bool.and_eq_true] at ha
        have ha2 := of_decide_eq_true ha.2
        have ht : nTi ti bd = 2 := by unfold nTi; rw [if_neg (by omega), if_neg e40, if_pos e41]
        refine hcom 2 ht (Or.inr (Or.inl ⟨rfl, ?_, ?_⟩)) ?_
        · rw [eS, decide_eq_true e41]; rfl
        · rcases k6 with ⟨q1, q2, q3⟩ | ⟨q1, q2, q3⟩ | ⟨q1, q2, q3⟩
          · rw [eS, decide_eq_false (by omega), q3]; rfl
          · omega
          · omega
        · rw [ha2] at a1
          show n + 1 ≤ 3 + 9 * (ll - 1) + 4 + 0
          have : tbd 1 = 1 := rfl
          omega
      · rw [if_neg e41, Bool.and_eq_true] at ha
        have ha2 := of_decide_eq_true ha.2
        have e42 : bd = 42 := by omega
        have ht : nTi ti bd = 4 := by unfold nTi; rw [if_neg (by omega), if_neg e40, if_neg e41]
        refine hcom 4 ht (Or.inr (Or.inr ⟨rfl, ?_, ?_⟩)) ?_
        · rcases k6 with ⟨q1, q2, q3⟩ | ⟨q1, q2, q3⟩ | ⟨q1, q2, q3⟩
          · omega
          · rw [eS, q2, Bool.or_true]
          · omega
        · rw [eS, decide_eq_true e42]; rfl
        · rw [ha2] at a1
          show n + 1 ≤ 3 + 9 * (ll - 1) + 7 + 0
          have : tbd 2 = 4 := rfl
          omega
theorem PS_all (b : Nat → Nat) : ∀ n, PS b n = n → LV b n = 0
  | 0, _ => rfl
  | n + 1, h => by
    rw [PS] at h
    by_cases e : b n = 0
    · rw [if_pos e] at h
      rw [LV, e, if_neg (by decide)]
      exact PS_all b n (by omega)
    · rw [if_neg e] at h
      omega
theorem AI_tiM {b : Nat → Nat} {n dl ll lb ti pa : Nat} (h : AI b n dl ll lb ti pa) : tiM b n = ti := by
  obtain ⟨_, _, _, _, _, h6, _, _⟩ := h
  unfold tiM
  rcases h6 with ⟨a, b1, c1⟩ | ⟨a, b1, c1⟩ | ⟨a, b1, c1⟩
  · rw [a, b1, c1]; rfl
  · rw [a, b1, c1]; rfl
  · rw [a, c1]; rfl
theorem dcP_iff {b : Nat → Nat} {n dl ll lb ti pa k : Nat} (h : AI b n dl ll lb ti pa) (e : 0 < LV b n) : dcP b dl lb ((ll - 1) % 5) k = true ↔ (k % 2 = (LV b n - 1) % 2 ∧ isLv (b k) = true ∧ (b k - 1) % 5 = (b (LV b n - 1) - 1) % 5) := by
  have hl := AI_ll h
  obtain ⟨_, _, h3, _, _, _, _, _⟩ := h
  have h4 := h3 e
  have h5 := (hl.2 e).1
  unfold dcP
  rw [decide_eq_true_iff, isLv_iff, ← h5]
  constructor
  · rintro ⟨a, b1, c, d⟩
    exact ⟨by omega, ⟨a, b1⟩, d⟩
  · rintro ⟨a, ⟨b1, b2⟩, d⟩
    exact ⟨b1, b2, by omega, d⟩
theorem isZ_ex {b : Nat → Nat} {n dl ll lb ti pa : Nat} (h : AI b n dl ll lb ti pa) (e : 0 < LV b n) : ∃ z, isZ b n dl ll lb z := by
  have hle := LV_le b n
  have hP : dcP b dl lb ((ll - 1) % 5) (LV b n - 1) = true := (dcP_iff h e).mpr ⟨rfl, LV_lv b n e, rfl⟩
  obtain ⟨_, n2, n3, n4⟩ := nx_spec (dcP b dl lb ((ll - 1) % 5)) n 0
  have hlt : nx (dcP b dl lb ((ll - 1) % 5)) n 0 < n := by
    rcases Nat.lt_or_ge (nx (dcP b dl lb ((ll - 1) % 5)) n 0) n with q | q
    · exact q
    · have := n4 (LV b n - 1) (Nat.zero_le _) (by omega)
      rw [hP] at this
      cases this
  exact ⟨_, hlt, n3 (by omega), fun j hj => n4 j (Nat.zero_le _) hj⟩
theorem isZ_M {b : Nat → Nat} {n dl ll lb ti pa z : Nat} (h : AI b n dl ll lb ti pa) (e : 0 < LV b n) (hz : isZ b n dl ll lb z) : isZM b n z := by
  obtain ⟨z1, z2, z3⟩ := hz
  obtain ⟨a, b1, c⟩ := (dcP_iff h e).mp z2
  refine ⟨z1, a, b1, c, fun j hj hj2 q => ?_⟩
  have := z3 j hj
  rw [(dcP_iff h e).mpr ⟨hj2, q.1, q.2⟩] at this
  cases this
theorem stl_iff {ll pa : Nat} : stl ll pa = true ↔ 0 < ll ∧ 3 ≤ pa := by
  unfold stl
  rw [Bool.and_eq_true, decide_eq_true_iff, decide_eq_true_iff]
/-- how a bid ends the bidding: the class and the model see the same -/
theorem bid_end {b : Nat → Nat} {n dl ll lb ti pa : Nat} (h : AI b (n + 1) dl ll lb ti pa) (h0 : LV b (n + 1) = 0 → n ≤ 3) (h2 : 0 < LV b (n + 1) → pa ≤ 3) :
    ((decide (ll = 0) && decide (4 ≤ pa)) = true ↔ (PS b (n + 1) = n + 1 ∧ PS b (n + 1) = 4)) ∧ (stl ll pa = true ↔ (PS b (n + 1) = 3 ∧ PS b (n + 1) < n + 1)) := by
  have hb := AI_b h
  obtain ⟨_, _, _, _, h5, _, h7, _⟩ := h
  have hle := PS_le b (n + 1)
  rw [Bool.and_eq_true, decide_eq_true_iff, decide_eq_true_iff, stl_iff, hb.2.2.2.2.2]
  rcases Nat.eq_zero_or_pos (LV b (n + 1)) with e | e
  · have a := h7 e
    have c := h0 e
    have d := hb.2.2.2.2.2.mpr e
    constructor
    · constructor
      · rintro ⟨_, q⟩; omega
      · rintro ⟨_, q⟩; exact ⟨e, by omega⟩
    · constructor
      · rintro ⟨q, _⟩; omega
      · rintro ⟨_, q⟩; omega
  · have a := h2 e
    have hne : ¬ PS b (n + 1) = n + 1 := fun q => by have := PS_all b (n + 1) q; omega
    have d : ¬ ll = 0 := fun q => by have := hb.2.2.2.2.2.mp q; omega
    constructor
    · constructor
      · rintro ⟨q, _⟩; omega
      · rintro ⟨q, _⟩; exact absurd q hne
    · constructor
      · rintro ⟨_, q⟩; omega
      · rintro ⟨q, _⟩; omega
