/-! pure: bids, the class's invariant, what its calls keep (out of the whole proof) -/
def isLv (x : Nat) : Bool := decide (1 ≤ x ∧ x ≤ 40)
/-- the place behind the last LEVEL among the first n BIDS; 0 without one -/
def LV (b : Nat → Nat) : Nat → Nat
  | 0 => 0
  | n + 1 => if isLv (b n) then n + 1 else LV b n
def SN (b : Nat → Nat) (x : Nat) : Nat → Bool
  | 0 => false
  | n + 1 => if isLv (b n) then false else decide (b n = x) || SN b x n
def PS (b : Nat → Nat) : Nat → Nat
  | 0 => 0
  | n + 1 => if b n = 0 then PS b n + 1 else 0
def kI (m : Nat) : Int32 := if m = 0 then -1 else nI (m - 1)
theorem kI_s (m : Nat) : kI (m + 1) = nI m := rfl
theorem LV_le (b : Nat → Nat) : ∀ n, LV b n ≤ n
  | 0 => Nat.le_refl _
  | n + 1 => by
    have := LV_le b n
    rw [LV]
    split <;> omega
theorem LV_lv (b : Nat → Nat) : ∀ n, 0 < LV b n → isLv (b (LV b n - 1)) = true
  | 0, h => absurd h (Nat.lt_irrefl _)
  | n + 1, h => by
    rw [LV] at h ⊢
    cases e : isLv (b n) with
    | true => rw [if_pos rfl]; exact e
    | false =>
      rw [e, if_neg (by decide)] at h
      rw [if_neg (by decide)]
      exact LV_lv b n h
theorem LV_no (b : Nat → Nat) : ∀ n j, LV b n ≤ j → j < n → isLv (b j) = false
  | 0, j, _, h => absurd h (Nat.not_lt_zero j)
  | n + 1, j, h1, h2 => by
    rw [LV] at h1
    cases e : isLv (b n) with
    | true =>
      rw [e, if_pos rfl] at h1
      omega
    | false =>
      rw [e, if_neg (by decide)] at h1
      by_cases ej : j = n
      · rw [ej]; exact e
      · exact LV_no b n j h1 (by omega)
theorem SN_iff (b : Nat → Nat) (x : Nat) (hx : isLv x = false) : ∀ n, SN b x n = true ↔ ∃ j, LV b n ≤ j ∧ j < n ∧ b j = x
  | 0 => ⟨fun h => (by cases h), fun ⟨j, _, h, _⟩ => absurd h (Nat.not_lt_zero j)⟩
  | n + 1 => by
    have ih := SN_iff b x hx n
    rw [SN, LV]
    cases e : isLv (b n) with
    | true =>
      rw [if_pos rfl, if_pos rfl]
      exact ⟨fun h => (by cases h), fun ⟨j, h1, h2, _⟩ => absurd h2 (by omega)⟩
    | false =>
      rw [if_neg (by decide), if_neg (by decide), Bool.or_eq_true, ih, decide_eq_true_iff]
      constructor
      · rintro (h | ⟨j, h1, h2, h3⟩)
        · exact ⟨n, LV_le b n, by omega, h⟩
        · exact ⟨j, h1, by omega, h3⟩
      · rintro ⟨j, h1, h2, h3⟩
        by_cases ej : j = n
        · rw [← ej]; exact Or.inl h3
        · exact Or.inr ⟨j, h1, by omega, h3⟩
theorem PS_le (b : Nat → Nat) : ∀ n, PS b n ≤ n
  | 0 => Nat.le_refl _
  | n + 1 => by
    have := PS_le b n
    rw [PS]
    split <;> omega
theorem PS_z (b : Nat → Nat) : ∀ n i, i < PS b n → b (n - 1 - i) = 0
  | 0, i, h => absurd h (Nat.not_lt_zero i)
  | n + 1, i, h => by
    rw [PS] at h
    by_cases e : b n = 0
    · rw [if_pos e] at h
      cases i with
      | zero => exact e
      | succ i =>
        have := PS_z b n i (by omega)
        rw [show n + 1 - 1 - (i + 1) = n - 1 - i by omega]
        exact this
    · rw [if_neg e] at h
      omega
theorem PS_e (b : Nat → Nat) : ∀ n, PS b n < n → ¬ b (n - 1 - PS b n) = 0
  | 0, h => absurd h (Nat.not_lt_zero _)
  | n + 1, h => by
    rw [PS] at h ⊢
    by_cases e : b n = 0
    · rw [if_pos e] at h ⊢
      have := PS_e b n (by omega)
      rw [show n + 1 - 1 - (PS b n + 1) = n - 1 - PS b n by omega]
      exact this
    · rw [if_neg e]
      exact e
theorem LV_cong {b b' : Nat → Nat} : ∀ {n : Nat}, (∀ j, j < n → b j = b' j) → LV b n = LV b' n
  | 0, _ => rfl
  | n + 1, h => by rw [LV, LV, h n (by omega), LV_cong (n := n) (fun j hj => h j (by omega))]
theorem SN_cong {b b' : Nat → Nat} {x : Nat} : ∀ {n : Nat}, (∀ j, j < n → b j = b' j) → SN b x n = SN b' x n
  | 0, _ => rfl
  | n + 1, h => by rw [SN, SN, h n (by omega), SN_cong (n := n) (fun j hj => h j (by omega))]
theorem PS_cong {b b' : Nat → Nat} : ∀ {n : Nat}, (∀ j, j < n → b j = b' j) → PS b n = PS b' n
  | 0, _ => rfl
  | n + 1, h => by rw [PS, PS, h n (by omega), PS_cong (n := n) (fun j hj => h j (by omega))]
def alwM (b : Nat → Nat) (n bd : Nat) : Bool :=
  if bd = 0 then true else if bd ≤ 40 then (if LV b n = 0 then true else decide (b (LV b n - 1) < bd)) else if LV b n = 0 then false else
  if bd = 41 then (!decide ((n - (LV b n - 1)) % 2 = 0) && !SN b 41 n) else (decide ((n - (LV b n - 1)) % 2 = 0) && (SN b 41 n && !SN b 42 n))
def tiM (b : Nat → Nat) (n : Nat) : Nat := if SN b 42 n then 4 else if SN b 41 n then 2 else 1
def isZM (b : Nat → Nat) (n z : Nat) : Prop := z < n ∧ z % 2 = (LV b n - 1) % 2 ∧ isLv (b z) = true ∧ (b z - 1) % 5 = (b (LV b n - 1) - 1) % 5 ∧ ∀ j, j < z → j % 2 = (LV b n - 1) % 2 → ¬ (isLv (b j) = true ∧ (b j - 1) % 5 = (b (LV b n - 1) - 1) % 5)
theorem kI_lt0 {m : Nat} {A B : Prop} (hm : m < 2 ^ 31) (f : m = 0 → A) (g : 0 < m → B) : (kI m < 0 → A) ∧ (¬ kI m < 0 → B) := by
  cases m with
  | zero => exact ⟨fun _ => f rfl, fun q => absurd (by decide) q⟩
  | succ m => exact ⟨fun q => absurd q (nI_pos (by omega)), fun _ => g (by omega)⟩
theorem kI_ge0 {m : Nat} {A B : Prop} (hm : m < 2 ^ 31) (f : 0 < m → A) (g : m = 0 → B) : (0 ≤ kI m → A) ∧ (¬ 0 ≤ kI m → B) := by
  cases m with
  | zero => exact ⟨fun q => absurd q (by decide), fun _ => g rfl⟩
  | succ m => exact ⟨fun _ => f (by omega), fun q => absurd (nI_pos' (by omega)) q⟩
theorem kI_p {m : Nat} (h : 0 < m) : kI m = nI (m - 1) := if_neg (by omega)
/-! pure: what the class keeps of the bids is what the model reads off them -/
def tbd (ti : Nat) : Nat := if ti = 1 then 1 else if ti = 2 then 4 else 7
def AI (b : Nat → Nat) (n dl ll lb ti pa : Nat) : Prop :=
  (∀ j, j < n → b j < 43) ∧ ll = (if LV b n = 0 then 0 else b (LV b n - 1)) ∧ (0 < LV b n → lb = (dl + (LV b n - 1)) % 4) ∧ lb < 4 ∧ pa = PS b n ∧
  ((ti = 1 ∧ SN b 41 n = false ∧ SN b 42 n = false) ∨ (ti = 2 ∧ SN b 41 n = true ∧ SN b 42 n = false) ∨ (ti = 4 ∧ SN b 41 n = true ∧ SN b 42 n = true)) ∧
  (LV b n = 0 → PS b n = n ∧ ti = 1) ∧ (0 < LV b n → n ≤ 3 + 9 * (ll - 1) + tbd ti + pa)
theorem isLv_iff {x : Nat} : isLv x = true ↔ 1 ≤ x ∧ x ≤ 40 := by unfold isLv; exact decide_eq_true_iff
theorem isLv_no {x : Nat} : isLv x = false ↔ ¬ (1 ≤ x ∧ x ≤ 40) := by unfold isLv; exact decide_eq_false_iff_not
theorem AI_ll {b : Nat → Nat} {n dl ll lb ti pa : Nat} (h : AI b n dl ll lb ti pa) : (LV b n = 0 → ll = 0) ∧ (0 < LV b n → ll = b (LV b n - 1) ∧ 1 ≤ ll ∧ ll ≤ 40) := by
  obtain ⟨_, h2, _⟩ := h
  constructor
  · intro e
    rw [h2, if_pos e]
  · intro e
    have h3 : ll = b (LV b n - 1) := by rw [h2, if_neg (by omega)]
    have h4 := isLv_iff.mp (LV_lv b n e)
    rw [← h3] at h4
    exact ⟨h3, h4.1, h4.2⟩
theorem AI_b {b : Nat → Nat} {n dl ll lb ti pa : Nat} (h : AI b n dl ll lb ti pa) : ll ≤ 40 ∧ lb < 4 ∧ 1 ≤ ti ∧ ti ≤ 4 ∧ pa ≤ n ∧ (ll = 0 ↔ LV b n = 0) := by
  have h1 := AI_ll h
  obtain ⟨_, _, _, h4, h5, h6, _, _⟩ := h
  have h7 := PS_le b n
  refine ⟨?_, h4, ?_, ?_, by omega, ?_⟩
  · rcases Nat.eq_zero_or_pos (LV b n) with e | e
    · have := h1.1 e; omega
    · exact (h1.2 e).2.2
  · rcases h6 with ⟨e, _⟩ | ⟨e, _⟩ | ⟨e, _⟩ <;> omega
  · rcases h6 with ⟨e, _⟩ | ⟨e, _⟩ | ⟨e, _⟩ <;> omega
  · constructor
    · intro e
      rcases Nat.eq_zero_or_pos (LV b n) with e2 | e2
      · exact e2
      · have := (h1.2 e2).2.1; omega
    · exact h1.1
theorem AI_n {b : Nat → Nat} {n dl ll lb ti pa : Nat} (h : AI b n dl ll lb ti pa) (h0 : LV b n = 0 → n ≤ 4) (h1 : 0 < LV b n → pa ≤ 3) : n ≤ 364 := by
  have hb := AI_b h
  obtain ⟨_, _, _, _, _, h6, _, h8⟩ := h
  rcases Nat.eq_zero_or_pos (LV b n) with e | e
  · have := h0 e; omega
  · have a := h8 e
    have c := h1 e
    have d : tbd ti ≤ 7 := by unfold tbd; split; omega; split <;> omega
    omega
theorem AI_n2 {b : Nat → Nat} {n dl ll lb ti pa : Nat} (h : AI b n dl ll lb ti pa) (h0 : LV b n = 0 → n ≤ 3) (h1 : 0 < LV b n → pa ≤ 2) : n < 364 := by
  have hb := AI_b h
  obtain ⟨_, _, _, _, _, h6, _, h8⟩ := h
  rcases Nat.eq_zero_or_pos (LV b n) with e | e
  · have := h0 e; omega
  · have a := h8 e
    have c := h1 e
    have d : tbd ti ≤ 7 := by unfold tbd; split; omega; split <;> omega
    omega
theorem AI_alw {b : Nat → Nat} {n dl ll lb ti pa bd : Nat} (h : AI b n dl ll lb ti pa) : alw n dl ll lb ti bd = alwM b n bd := by
  have hl := AI_ll h
  have hb := AI_b h
  obtain ⟨_, _, h3, _, _, h6, _, _⟩ := h
  have hLV := LV_le b n
  unfold alw alwM
  by_cases e0 : bd = 0
  · rw [if_pos e0, if_pos e0]
  · rw [if_neg e0, if_neg e0]
    by_cases e1 : bd ≤ 40
    · rw [if_pos e1, if_pos e1]
      rcases Nat.eq_zero_or_pos (LV b n) with e | e
      · rw [if_pos e, hl.1 e]
        exact decide_eq_true (by omega)
      · rw [if_neg (by omega), (hl.2 e).1]
    · rw [if_neg e1, if_neg e1]
      rcases Nat.eq_zero_or_pos (LV b n) with e | e
      · rw [if_pos (hl.1 e), if_pos e]
      · have e2 := (hl.2 e).2.1
        rw [if_neg (show ¬ ll = 0 by omega), if_neg (show ¬ LV b n = 0 by omega)]
        have hp : decide ((dl + n) % 2 = lb % 2) = decide ((n - (LV b n - 1)) % 2 = 0) := by
          have := h3 e
          by_cases q : (dl + n) % 2 = lb % 2
          · rw [decide_eq_true q, decide_eq_true (by omega)]
          · rw [decide_eq_false q, decide_eq_false (by omega)]
        rw [hp]
        by_cases e41 : bd = 41
        · rw [if_pos e41, if_pos e41]
          rcases h6 with ⟨a, b1, c1⟩ | ⟨a, b1, c1⟩ | ⟨a, b1, c1⟩
          · rw [a, b1]; simp
          · rw [a, b1]; simp
          · rw [a, b1]; simp
        rw [if_neg e41, if_neg e41]
        rcases h6 with ⟨a, b1, c1⟩ | ⟨a, b1, c1⟩ | ⟨a, b1, c1⟩
        · rw [a, b1]; simp
        · rw [a, b1, c1]; simp
        · rw [a, b1, c1]; simp
theorem uN_lo (b : Nat → Nat) (n v : Nat) : ∀ j, j < n → uN b n v j = b j := fun j hj => uN_n _ _ (by omega)
theorem LV_u (b : Nat → Nat) (n bd : Nat) : LV (uN b n bd) (n + 1) = if isLv bd then n + 1 else LV b n := by
  rw [LV, uN_s, LV_cong (uN_lo b n bd)]
theorem PS_u (b : Nat → Nat) (n bd : Nat) : PS (uN b n bd) (n + 1) = if bd = 0 then PS b n + 1 else 0 := by
  rw [PS, uN_s, PS_cong (uN_lo b n bd)]
theorem SN_u (b : Nat → Nat) (n bd x : Nat) : SN (uN b n bd) x (n + 1) = if isLv bd then false else decide (bd = x) || SN b x n := by
  rw [SN, uN_s, SN_cong (uN_lo b n bd)]
theorem AI_step {b : Nat → Nat} {n dl ll lb ti pa bd : Nat} (h : AI b n dl ll lb ti pa) (hbd : bd < 43) (ha : alw n dl ll lb ti bd = true) (h0 : LV b n = 0 → n ≤ 3) (h2 : 0 < LV b n → pa ≤ 2) : AI (uN b n bd) (n + 1) dl (nLl ll bd) (nLb dl n lb bd) (nTi ti bd) (nPa pa bd) := by
  have hl := AI_ll h
  have hb := AI_b h
  obtain ⟨k1, k2, k3, k4, k5, k6, k7, k8⟩ := h
  have hLV := LV_le b n
  have hlt : ∀ j, j < n + 1 → uN b n bd j < 43 := by
    intro j hj
    show (if j = n then bd else b j) < 43
    split
    · exact hbd
    · exact k1 j (by omega)
  unfold alw at ha
  rcases Nat.eq_zero_or_pos bd with e0 | e0
  · -- PASS
    subst e0
    have eL : LV (uN b n 0) (n + 1) = LV b n := LV_u b n 0
    have eP : PS (uN b n 0) (n + 1) = PS b n + 1 := PS_u b n 0
    have eS : ∀ x, 40 < x → SN (uN b n 0) x (n + 1) = SN b x n := by
      intro x hx
      rw [SN_u, if_neg (by decide), decide_eq_false (by omega)]
      rfl
    have eu : 0 < LV b n → uN b n 0 (LV b n - 1) = b (LV b n - 1) := fun _ => uN_lo b n 0 _ (by omega)
    refine ⟨hlt, ?_, ?_, k4, ?_, ?_, ?_, ?_⟩
    · rw [eL]
      show ll = _
      rcases Nat.eq_zero_or_pos (LV b n) with e | e
      · rw [if_pos e]; exact hl.1 e
      · rw [if_neg (by omega), eu e]; exact (hl.2 e).1
    · rw [eL]; exact k3
    · rw [eP]
      show pa + 1 = _
      omega
    · rw [eS 41 (by omega), eS 42 (by omega)]; exact k6
    · rw [eL, eP]
      intro e
      have := k7 e
      exact ⟨by omega, this.2⟩
    · rw [eL]
      intro e
      have := k8 e
      show n + 1 ≤ 3 + 9 * (ll - 1) + tbd ti + (pa + 1)
      omega
  · rw [if_neg (by omega)] at ha
    have eP : PS (uN b n bd) (n + 1) = 0 := by rw [PS_u, if_neg (by omega)]
    have hPa : nPa pa bd = 0 := if_neg (by omega)
    by_cases e40 : bd ≤ 40
    · -- a LEVEL
      rw [if_pos e40] at ha
      have hlt' := of_decide_eq_true ha
      have hlv : isLv bd = true := isLv_iff.mpr ⟨e0, e40⟩
      have eL : LV (uN b n bd) (n + 1) = n + 1 := by rw [LV_u, if_pos hlv]
      have eS : ∀ x, SN (uN b n bd) x (n + 1) = false := fun x => by rw [SN_u, if_pos hlv]
      have h1 : nLl ll bd = bd := by unfold nLl; rw [if_neg (by omega), if_pos e40]
      have h2' : nLb dl n lb bd = (dl + n) % 4 := by unfold nLb; rw [if_neg (by omega), if_pos e40]
      have h3 : nTi ti bd = 1 := by unfold nTi; rw [if_neg (by omega), if_pos e40]
      refine ⟨hlt, ?_, ?_, ?_, ?_, ?_, ?_, ?_⟩
      · rw [eL, if_neg (by omega), h1]
        show bd = uN b n bd n
        rw [uN_s]
      · rw [eL, h2']
        intro _
        rfl
      · rw [h2']; exact Nat.mod_lt _ (by omega)
      · rw [eP, hPa]
      · exact Or.inl ⟨h3, eS _, eS _⟩
      · rw [eL]; intro e; omega
      · intro _
        rw [h1, h3, hPa]
        show n + 1 ≤ 3 + 9 * (bd - 1) + 1 + 0
        rcases Nat.eq_zero_or_pos (LV b n) with e | e
        · have := h0 e; omega
        · have a1 := k8 e
          have a2 := h2 e
          have a3 : tbd ti ≤ 7 := by unfold tbd; split; omega; split <;> omega
          have a4 := (hl.2 e).2.1
          omega
    · rw [if_neg e40] at ha
      have hlv : isLv bd = false := isLv_no.mpr (by omega)
      have hll0 : ¬ ll = 0 := by
        intro e
        rw [if_pos e] at ha
        cases ha
      rw [if_neg hll0] at ha
      have e : 0 < LV b n := by
        rcases Nat.eq_zero_or_pos (LV b n) with q | q
        · exact absurd (hl.1 q) hll0
        · exact q
      have eL : LV (uN b n bd) (n + 1) = LV b n := by rw [LV_u, if_neg (by rw [hlv]; decide)]
      have eS : ∀ x, SN (uN b n bd) x (n + 1) = (decide (bd = x) || SN b x n) := fun x => by rw [SN_u, if_neg (by rw [hlv]; decide)]
      have h1 : nLl ll bd = ll := by unfold nLl; rw [if_neg (by omega), if_neg e40]
      have h2' : nLb dl n lb bd = lb := by unfold nLb; rw [if_neg (by omega), if_neg e40]
      have eu : uN b n bd (LV b n - 1) = b (LV b n - 1) := uN_lo b n bd _ (by omega)
      have hcom : ∀ t, nTi ti bd = t → ((t = 1 ∧ SN (uN b n bd) 41 (n + 1) = false ∧ SN (uN b n bd) 42 (n + 1) = false) ∨ (t = 2 ∧ SN (uN b n bd) 41 (n + 1) = true ∧ SN (uN b n bd) 42 (n + 1) = false) ∨ (t = 4 ∧ SN (uN b n bd) 41 (n + 1) = true ∧ SN (uN b n bd) 42 (n + 1) = true)) → n + 1 ≤ 3 + 9 * (ll - 1) + tbd t + 0 → AI (uN b n bd) (n + 1) dl (nLl ll bd) (nLb dl n lb bd) (nTi ti bd) (nPa pa bd) := by
        intro t ht hS hbn
        refine ⟨hlt, ?_, ?_, ?_, ?_, ?_, ?_, ?_⟩
        · rw [eL, if_neg (by omega), h1, eu]; exact (hl.2 e).1
        · rw [eL, h2']; exact k3
        · rw [h2']; exact k4
        · rw [eP, hPa]
        · rw [ht]; exact hS
        · rw [eL]; intro q; omega
        · intro _
          rw [h1, ht, hPa]
          exact hbn
      have a1 := k8 e
      have a2 := h2 e
      by_cases e41 : bd = 41
      · rw [if_pos e41, Bool.and_eq_true] at ha
        have ha2 := of_decide_eq_true ha.2
        have ht : nTi ti bd = 2 := by unfold nTi; rw [if_neg (by omega), if_neg e40, if_pos e41]
        refine hcom 2 ht (Or.inr (Or.inl ⟨rfl, ?_, ?_⟩)) ?_
        · rw [eS, decide_eq_true e41]; rfl
        · rcases k6 with ⟨q1, q2, q3⟩ | ⟨q1, q2, q3⟩ | ⟨q1, q2, q3⟩
          · rw [eS, decide_eq_false (by omega), q3]; rfl
          · omega
          · omega
        · rw [ha2] at a1
          show n + 1 ≤ 3 + 9 * (ll - 1) + 4 + 0
          have : tbd 1 = 1 := rfl
          omega
      · rw [if_neg e41, Bool.and_eq_true] at ha
        have ha2 := of_decide_eq_true ha.2
        have e42 : bd = 42 := by omega
        have ht : nTi ti bd = 4 := by unfold nTi; rw [if_neg (by omega), if_neg e40, if_neg e41]
        refine hcom 4 ht (Or.inr (Or.inr ⟨rfl, ?_, ?_⟩)) ?_
        · rcases k6 with ⟨q1, q2, q3⟩ | ⟨q1, q2, q3⟩ | ⟨q1, q2, q3⟩
          · omega
          · rw [eS, q2, Bool.or_true]
          · omega
        · rw [eS, decide_eq_true e42]; rfl
        · rw [ha2] at a1
          show n + 1 ≤ 3 + 9 * (ll - 1) + 7 + 0
          have : tbd 2 = 4 := rfl
          omega
theorem PS_all (b : Nat → Nat) : ∀ n, PS b n = n → LV b n = 0
  | 0, _ => rfl
  | n + 1, h => by
    rw [PS] at h
    by_cases e : b n = 0
    · rw [if_pos e] at h
      rw [LV, e, if_neg (by decide)]
      exact PS_all b n (by omega)
    · rw [if_neg e] at h
      omega
theorem AI_tiM {b : Nat → Nat} {n dl ll lb ti pa : Nat} (h : AI b n dl ll lb ti pa) : tiM b n = ti := by
  obtain ⟨_, _, _, _, _, h6, _, _⟩ := h
  unfold tiM
  rcases h6 with ⟨a, b1, c1⟩ | ⟨a, b1, c1⟩ | ⟨a, b1, c1⟩
  · rw [a, b1, c1]; rfl
  · rw [a, b1, c1]; rfl
  · rw [a, c1]; rfl
theorem dcP_iff {b : Nat → Nat} {n dl ll lb ti pa k : Nat} (h : AI b n dl ll lb ti pa) (e : 0 < LV b n) : dcP b dl lb ((ll - 1) % 5) k = true ↔ (k % 2 = (LV b n - 1) % 2 ∧ isLv (b k) = true ∧ (b k - 1) % 5 = (b (LV b n - 1) - 1) % 5) := by
  have hl := AI_ll h
  obtain ⟨_, _, h3, _, _, _, _, _⟩ := h
  have h4 := h3 e
  have h5 := (hl.2 e).1
  unfold dcP
  rw [decide_eq_true_iff, isLv_iff, ← h5]
  constructor
  · rintro ⟨a, b1, c, d⟩
    exact ⟨by omega, ⟨a, b1⟩, d⟩
  · rintro ⟨a, ⟨b1, b2⟩, d⟩
    exact ⟨b1, b2, by omega, d⟩
theorem isZ_ex {b : Nat → Nat} {n dl ll lb ti pa : Nat} (h : AI b n dl ll lb ti pa) (e : 0 < LV b n) : ∃ z, isZ b n dl ll lb z := by
  have hle := LV_le b n
  have hP : dcP b dl lb ((ll - 1) % 5) (LV b n - 1) = true := (dcP_iff h e).mpr ⟨rfl, LV_lv b n e, rfl⟩
  obtain ⟨_, n2, n3, n4⟩ := nx_spec (dcP b dl lb ((ll - 1) % 5)) n 0
  have hlt : nx (dcP b dl lb ((ll - 1) % 5)) n 0 < n := by
    rcases Nat.lt_or_ge (nx (dcP b dl lb ((ll - 1) % 5)) n 0) n with q | q
    · exact q
    · have := n4 (LV b n - 1) (Nat.zero_le _) (by omega)
      rw [hP] at this
      cases this
  exact ⟨_, hlt, n3 (by omega), fun j hj => n4 j (Nat.zero_le _) hj⟩
theorem isZ_M {b : Nat → Nat} {n dl ll lb ti pa z : Nat} (h : AI b n dl ll lb ti pa) (e : 0 < LV b n) (hz : isZ b n dl ll lb z) : isZM b n z := by
  obtain ⟨z1, z2, z3⟩ := hz
  obtain ⟨a, b1, c⟩ := (dcP_iff h e).mp z2
  refine ⟨z1, a, b1, c, fun j hj hj2 q => ?_⟩
  have := z3 j hj
  rw [(dcP_iff h e).mpr ⟨hj2, q.1, q.2⟩] at this
  cases this
theorem stl_iff {ll pa : Nat} : stl ll pa = true ↔ 0 < ll ∧ 3 ≤ pa := by
  unfold stl
  rw [Bool.and_eq_true, decide_eq_true_iff, decide_eq_true_iff]
/-- how a bid ends the bidding: the class and the model see the same -/
theorem bid_end {b : Nat → Nat} {n dl ll lb ti pa : Nat} (h : AI b (n + 1) dl ll lb ti pa) (h0 : LV b (n + 1) = 0 → n ≤ 3) (h2 : 0 < LV b (n + 1) → pa ≤ 3) :
    ((decide (ll = 0) && decide (4 ≤ pa)) = true ↔ (PS b (n + 1) = n + 1 ∧ PS b (n + 1) = 4)) ∧ (stl ll pa = true ↔ (PS b (n + 1) = 3 ∧ PS b (n + 1) < n + 1)) := by
  have hb := AI_b h
  obtain ⟨_, _, _, _, h5, _, h7, _⟩ := h
  have hle := PS_le b (n + 1)
  rw [Bool.and_eq_true, decide_eq_true_iff, decide_eq_true_iff, stl_iff, hb.2.2.2.2.2]
  rcases Nat.eq_zero_or_pos (LV b (n + 1)) with e | e
  · have a := h7 e
    have c := h0 e
    have d := hb.2.2.2.2.2.mpr e
    constructor
    · constructor
      · rintro ⟨_, q⟩; omega
      · rintro ⟨_, q⟩; exact ⟨e, by omega⟩
    · constructor
      · rintro ⟨q, _⟩; omega
      · rintro ⟨_, q⟩; omega
  · have a := h2 e
    have hne : ¬ PS b (n + 1) = n + 1 := fun q => by have := PS_all b (n + 1) q; omega
    have d : ¬ ll = 0 := fun q => by have := hb.2.2.2.2.2.mp q; omega
    constructor
    · constructor
      · rintro ⟨q, _⟩; omega
      · rintro ⟨q, _⟩; exact absurd q hne
    · constructor
      · rintro ⟨_, q⟩; omega
      · rintro ⟨q, _⟩; omega

/-! the relation of the class and the model -/
def INV (st : Nat) (h : Nat → Int32) (c L : Nat → Nat) (sz pl : Nat) (rv : Int32) (tr tu : Nat) (b : Nat → Nat) (n dl ll lb ti pa : Nat) (tk : Nat → Nat) (z kp : Nat) : Prop :=
  (st < 4 ∧ dl < 4 ∧ AI b n dl ll lb ti pa) ∧
  (st = 0 → n = 0 ∧ pl = 0 ∧ sz = 0 ∧ ∀ p, p < 4 → pc (h p) ≤ 8) ∧
  (st = 1 → (LV b n = 0 → n ≤ 3) ∧ (0 < LV b n → pa ≤ 2) ∧ pl = 0 ∧ 0 < sz ∧ ∀ p, p < 4 → pc (h p) = sz) ∧
  (st = 2 → 0 < LV b n ∧ pa = 3 ∧ G2 h c L sz pl rv tr tu kp ∧ 0 < kp ∧ tr = (ll - 1) % 5 ∧ ∀ i, 4 * (pl / 4) ≤ i → i < pl → bt (h (who L i)) (c i) = false) ∧
  (st = 3 → ((LV b n = 0 ∧ n = 4) ∨ (0 < LV b n ∧ pa = 3)) ∧ pl % 4 = 0) ∧
  (pl / 4 ≤ sz ∧ sz ≤ 8 ∧ pl ≤ 32 ∧ tr ≤ 4 ∧ tu < 4) ∧ (∀ i, i < pl → c i < 32) ∧ (∀ j, j ≤ pl / 4 → L j < 4) ∧ (∀ i, pl ≤ i → i < 32 → bt rv i = false) ∧ tk 0 + tk 1 = pl / 4 ∧ (stl ll pa = true → isZ b n dl ll lb z)
section
variable {l : Launch} {d k : Nat} {Q : am_Q} {st : Nat} {dn : Int32} {h : Nat → Int32} {c L : Nat → Nat} {sz pl : Nat} {rv : Int32} {tr tu : Nat} {t : am_T5} {b : Nat → Nat} {n dl ll lb ti pa : Nat} {tk : Nat → Nat} {sc : Nat → Int32} {th szM bq : Nat} {lv : Int32} {trM dcM tiM tc : Nat} {T : Nat → Nat} {ldM ly : Nat} {K V : Nat → Nat} {I : Nat → Bool} {R : Nat → Nat → Nat} {e5 : am_E} {f : Nat → Int64} {r : am_M} {N : Nat} {bm : Nat → Nat} {z kp : Nat}
theorem INV_n (hI : (INV st h c L sz pl rv tr tu b n dl ll lb ti pa tk z kp)) : n ≤ 364 := by
  obtain ⟨⟨h1, h2, h3⟩, i0, i1, i2, i3, _⟩ := hI
  refine AI_n h3 (fun e => ?_) (fun e => ?_)
  · have : st = 0 ∨ st = 1 ∨ st = 2 ∨ st = 3 := by omega
    rcases this with q | q | q | q
    · have := (i0 q).1; omega
    · have := (i1 q).1 e; omega
    · have := (i2 q).1; omega
    · rcases (i3 q).1 with a | a
      · omega
      · omega
  · have : st = 0 ∨ st = 1 ∨ st = 2 ∨ st = 3 := by omega
    rcases this with q | q | q | q
    · have h4 := (i0 q).1
      have := LV_le b n
      omega
    · have := (i1 q).2.1 e; omega
    · have := (i2 q).2.1; omega
    · rcases (i3 q).1 with a | a
      · omega
      · omega
theorem INV_stl (hI : (INV st h c L sz pl rv tr tu b n dl ll lb ti pa tk z kp)) : stl ll pa = true ↔ (st = 2 ∨ (st = 3 ∧ 0 < LV b n)) := by
  obtain ⟨⟨h1, h2, h3⟩, i0, i1, i2, i3, _⟩ := hI
  have hb := (AI_b h3).2.2.2.2.2
  have hll : 0 < ll ↔ 0 < LV b n := by
    constructor
    · intro q
      rcases Nat.eq_zero_or_pos (LV b n) with e | e
      · have := hb.mpr e; omega
      · exact e
    · intro q
      rcases Nat.eq_zero_or_pos ll with e | e
      · have := hb.mp e; omega
      · exact e
  rw [stl_iff, hll]
  have : st = 0 ∨ st = 1 ∨ st = 2 ∨ st = 3 := by omega
  rcases this with q | q | q | q
  · have h4 := (i0 q).1
    have := LV_le b n
    constructor
    · rintro ⟨a, _⟩; omega
    · rintro (a | a) <;> omega
  · have h4 := (i1 q).2.1
    constructor
    · rintro ⟨a, a2⟩; have := h4 a; omega
    · rintro (a | a) <;> omega
  · have h4 := i2 q
    exact ⟨fun _ => Or.inl q, fun _ => ⟨h4.1, by omega⟩⟩
  · have h4 := (i3 q).1
    constructor
    · rintro ⟨a, _⟩; exact Or.inr ⟨q, a⟩
    · rintro (a | ⟨_, a⟩)
      · omega
      · rcases h4 with e | e
        · omega
        · exact ⟨a, by omega⟩
theorem INV_m (hI : (INV st h c L sz pl rv tr tu b n dl ll lb ti pa tk z kp)) (hm : pl % 4 ≠ 0) : st = 2 := by
  obtain ⟨⟨h1, _, _⟩, i0, i1, i2, i3, _⟩ := hI
  have : st = 0 ∨ st = 1 ∨ st = 2 ∨ st = 3 := by omega
  rcases this with q | q | q | q
  · have := (i0 q).2.1; omega
  · have := (i1 q).2.2.1; omega
  · exact q
  · have := (i3 q).2; omega
theorem INV_GA (hI : (INV st h c L sz pl rv tr tu b n dl ll lb ti pa tk z kp)) : GA st h c L sz pl rv tr tu b n dl ll lb pa z kp := by
  have hn := INV_n hI
  obtain ⟨⟨h1, h2, h3⟩, i0, i1, i2, i3, ⟨j1, j2, j3, j4, j5⟩, j6, j7, j8, j9, j10⟩ := hI
  have hb := AI_b h3
  exact ⟨h1, h2, hn, hb.1, hb.2.1, by omega, h3.1, j10, j3, j4, j5, j6, j7, fun e => ⟨(i2 e).2.2.1, (i2 e).2.2.2.1⟩⟩
end

/-! the calls that change the table: what is kept (pure) -/
theorem pc_add_le (s : Int32) {c : Nat} (hc : c < 32) : pc (sAdd s c) ≤ pc s + 1 := by
  cases hb : bt s c with
  | false => exact Nat.le_of_eq (pc_add hc hb)
  | true =>
    have : sAdd s c = s := by
      apply b_ext
      intro i hi
      rw [bt_add hc hi]
      by_cases e : i = c
      · rw [e, hb]; rfl
      · rw [decide_eq_false e, Bool.or_false]
    rw [this]
    omega
theorem dealH_pc {f s : Nat} {h : Nat → Int32} (hz : ∀ p, p < 4 → pc (h p) ≤ 0) : ∀ (n p : Nat), p < 4 → pc (dealH f s h n p) ≤ (n + 3 - p) / 4
  | 0, p, hp => Nat.le_trans (hz p hp) (Nat.zero_le _)
  | n + 1, p, hp => by
    have ih := dealH_pc (f := f) (s := s) hz n p hp
    show pc (if p = n % 4 then sAdd (dealH f s h n (n % 4)) ((f + n * s) % 32) else dealH f s h n p) ≤ _
    by_cases e : p = n % 4
    · rw [if_pos e, ← e]
      have := pc_add_le (dealH f s h n p) (c := (f + n * s) % 32) (Nat.mod_lt _ (by omega))
      omega
    · rw [if_neg e]
      omega
section
variable {st : Nat} {dn : Int32} {h : Nat → Int32} {c L : Nat → Nat} {sz pl : Nat} {rv : Int32} {tr tu : Nat} {t : am_T5} {b : Nat → Nat} {n dl ll lb ti pa : Nat} {tk : Nat → Nat} {sc : Nat → Int32} {th szM bq : Nat} {lv : Int32} {trM dcM tiM tc : Nat} {T : Nat → Nat} {ldM ly : Nat} {K V : Nat → Nat} {I : Nat → Bool} {R : Nat → Nat → Nat} {e5 : am_E} {f : Nat → Int64} {r : am_M} {N : Nat} {bm : Nat → Nat} {z kp : Nat}
theorem inv_begin (hI : (INV st h c L sz pl rv tr tu b n dl ll lb ti pa tk z kp)) {p : Nat} (hp : p < 4) : (INV 0 (hz h 4) c L 0 0 0 tr tu b 0 p 0 0 1 0 (uN (uN tk 0 0) 1 0) z kp) := by
  obtain ⟨⟨h1, h2, h3⟩, i0, i1, i2, i3, ⟨j1, j2, j3, j4, j5⟩, j6, j7, j8, j9, j10⟩ := hI
  refine ⟨⟨by omega, hp, ⟨fun j hj => absurd hj (Nat.not_lt_zero j), rfl, fun e => absurd e (Nat.lt_irrefl _), by omega, rfl, Or.inl ⟨rfl, rfl, rfl⟩, fun _ => ⟨rfl, rfl⟩, fun e => absurd e (Nat.lt_irrefl _)⟩⟩, fun _ => ⟨rfl, rfl, rfl, fun q hq => ?_⟩, fun e => absurd e (by omega), fun e => absurd e (by omega), fun e => absurd e (by omega), ⟨by omega, by omega, by omega, j4, j5⟩, fun i hi => absurd hi (Nat.not_lt_zero i), fun j hj => j7 j (by omega), fun i _ _ => b_0 i, rfl, fun e => (by cases e)⟩
  rw [show hz h 4 q = 0 from if_pos hq, pc_zero.mpr rfl]
  omega
theorem inv_h (hI : (INV st h c L sz pl rv tr tu b n dl ll lb ti pa tk z kp)) (e : st = 0) {h' : Nat → Int32} (hh : ∀ p, p < 4 → pc (h' p) ≤ 8) : (INV st h' c L sz pl rv tr tu b n dl ll lb ti pa tk z kp) := by
  obtain ⟨⟨h1, h2, h3⟩, i0, i1, i2, i3, ⟨j1, j2, j3, j4, j5⟩, j6, j7, j8, j9, j10⟩ := hI
  refine ⟨⟨h1, h2, h3⟩, fun q => ⟨(i0 q).1, (i0 q).2.1, (i0 q).2.2.1, hh⟩, fun q => by omega, fun q => by omega, i3, ⟨j1, j2, j3, j4, j5⟩, j6, j7, j8, j9, j10⟩
theorem inv_open (hI : (INV st h c L sz pl rv tr tu b n dl ll lb ti pa tk z kp)) (e : st = 0) (hr : rdy h = true) : (INV 1 h c L (pc (h 0)) pl rv tr tu b n dl ll lb ti pa tk z kp) := by
  obtain ⟨⟨h1, h2, h3⟩, i0, i1, i2, i3, ⟨j1, j2, j3, j4, j5⟩, j6, j7, j8, j9, j10⟩ := hI
  obtain ⟨a, b1, c1, d1⟩ := i0 e
  obtain ⟨r1, r2⟩ := rdy_iff.mp hr
  have h8 := d1 0 (by omega)
  refine ⟨⟨by omega, h2, h3⟩, fun q => by omega, fun _ => ⟨fun _ => by omega, fun q => ?_, b1, r2, r1⟩, fun q => by omega, fun q => by omega, ⟨by omega, h8, j3, j4, j5⟩, j6, j7, j8, j9, j10⟩
  have := LV_le b n
  omega
/-- a bid -/
theorem inv_bid (hI : (INV st h c L sz pl rv tr tu b n dl ll lb ti pa tk z kp)) (e : st = 1) {bd : Nat} (hbd : bd < 43) (ha : alw n dl ll lb ti bd = true) : AI (uN b n bd) (n + 1) dl (nLl ll bd) (nLb dl n lb bd) (nTi ti bd) (nPa pa bd) ∧ (LV (uN b n bd) (n + 1) = 0 → n ≤ 3) ∧ (0 < LV (uN b n bd) (n + 1) → nPa pa bd ≤ 3) ∧ n < 364 := by
  obtain ⟨⟨h1, h2, h3⟩, i0, i1, i2, i3, ⟨j1, j2, j3, j4, j5⟩, j6, j7, j8, j9, j10⟩ := hI
  obtain ⟨a, b1, c1, d1⟩ := i1 e
  refine ⟨AI_step h3 hbd ha a b1, fun q => ?_, fun q => ?_, AI_n2 h3 a b1⟩
  · rw [LV_u] at q
    split at q
    · omega
    · exact a q
  · rcases Nat.eq_zero_or_pos (LV b n) with q0 | q0
    · have hp := (AI_b h3).2.2.2.2.1
      have := a q0
      rcases Nat.eq_zero_or_pos bd with z0 | z0
      · subst z0
        rw [LV_u, if_neg (by decide)] at q
        omega
      · unfold nPa
        rw [if_neg (by omega)]
        omega
    · have := b1 q0
      unfold nPa
      split <;> omega
theorem inv_bidA (hI : (INV st h c L sz pl rv tr tu b n dl ll lb ti pa tk z kp)) (e : st = 1) {bd : Nat} (hbd : bd < 43) (ha : alw n dl ll lb ti bd = true) (hA : (decide (nLl ll bd = 0) && decide (4 ≤ nPa pa bd)) = true) : (INV 3 h c L sz pl rv tr tu (uN b n bd) (n + 1) dl (nLl ll bd) (nLb dl n lb bd) (nTi ti bd) (nPa pa bd) tk z kp) := by
  obtain ⟨k1, k2, k3, k4⟩ := inv_bid hI e hbd ha
  have hb := AI_b k1
  obtain ⟨⟨h1, h2, h3⟩, i0, i1, i2, i3, ⟨j1, j2, j3, j4, j5⟩, j6, j7, j8, j9, j10⟩ := hI
  rw [Bool.and_eq_true, decide_eq_true_iff, decide_eq_true_iff] at hA
  have h0 := hb.2.2.2.2.2.mp hA.1
  have hn := k2 h0
  refine ⟨⟨by omega, h2, k1⟩, fun q => by omega, fun q => by omega, fun q => by omega, fun _ => ⟨Or.inl ⟨h0, by have := hb.2.2.2.2.1; omega⟩, by have := (i1 e).2.2.1; omega⟩, ⟨j1, j2, j3, j4, j5⟩, j6, j7, j8, j9, fun q => ?_⟩
  have := (stl_t q).1
  omega
theorem inv_bidC (hI : (INV st h c L sz pl rv tr tu b n dl ll lb ti pa tk z kp)) (e : st = 1) {bd : Nat} (hbd : bd < 43) (ha : alw n dl ll lb ti bd = true) (hA : (decide (nLl ll bd = 0) && decide (4 ≤ nPa pa bd)) = false) (hB : stl (nLl ll bd) (nPa pa bd) = false) : (INV st h c L sz pl rv tr tu (uN b n bd) (n + 1) dl (nLl ll bd) (nLb dl n lb bd) (nTi ti bd) (nPa pa bd) tk z kp) := by
  obtain ⟨k1, k2, k3, k4⟩ := inv_bid hI e hbd ha
  have hb := AI_b k1
  have hpz := k1.2.2.2.2.2.2.1
  have hpe := k1.2.2.2.2.1
  obtain ⟨⟨h1, h2, h3⟩, i0, i1, i2, i3, ⟨j1, j2, j3, j4, j5⟩, j6, j7, j8, j9, j10⟩ := hI
  obtain ⟨_, _, c1, d1, d2⟩ := i1 e
  refine ⟨⟨h1, h2, k1⟩, fun q => by omega, fun _ => ⟨fun q => ?_, fun q => ?_, c1, d1, d2⟩, fun q => by omega, fun q => by omega, ⟨j1, j2, j3, j4, j5⟩, j6, j7, j8, j9, fun q => (by rw [hB] at q; cases q)⟩
  · have h0 := hb.2.2.2.2.2.mpr q
    rw [decide_eq_true h0, Bool.true_and] at hA
    have := of_decide_eq_false hA
    have := (hpz q).1
    omega
  · rcases Nat.lt_or_ge (nPa pa bd) 3 with q2 | q2
    · omega
    · have hll : 0 < nLl ll bd := by
        rcases Nat.eq_zero_or_pos (nLl ll bd) with q3 | q3
        · have := hb.2.2.2.2.2.mp q3; omega
        · exact q3
      rw [stl_iff.mpr ⟨hll, q2⟩] at hB
      cases hB
theorem inv_bidB (hI : (INV st h c L sz pl rv tr tu b n dl ll lb ti pa tk z kp)) (e : st = 1) {bd z' : Nat} (hbd : bd < 43) (ha : alw n dl ll lb ti bd = true) (hB : stl (nLl ll bd) (nPa pa bd) = true) (hz : isZ (uN b n bd) (n + 1) dl (nLl ll bd) (nLb dl n lb bd) z') : (INV 2 h c (uN L 0 (((dl + z') % 4 + 1) % 4)) sz pl rv ((nLl ll bd - 1) % 5) (((dl + z') % 4 + 1) % 4) (uN b n bd) (n + 1) dl (nLl ll bd) (nLb dl n lb bd) (nTi ti bd) (nPa pa bd) tk z' sz) := by
  obtain ⟨k1, k2, k3, k4⟩ := inv_bid hI e hbd ha
  have hb := AI_b k1
  obtain ⟨⟨h1, h2, h3⟩, i0, i1, i2, i3, ⟨j1, j2, j3, j4, j5⟩, j6, j7, j8, j9, j10⟩ := hI
  obtain ⟨_, _, c1, d1, d2⟩ := i1 e
  subst c1
  obtain ⟨s1, s2⟩ := stl_iff.mp hB
  have hLV : 0 < LV (uN b n bd) (n + 1) := by
    rcases Nat.eq_zero_or_pos (LV (uN b n bd) (n + 1)) with q | q
    · have := hb.2.2.2.2.2.mpr q; omega
    · exact q
  have hl4 : ((dl + z') % 4 + 1) % 4 < 4 := Nat.mod_lt _ (by omega)
  have hL0 : uN L 0 (((dl + z') % 4 + 1) % 4) (0 / 4) = ((dl + z') % 4 + 1) % 4 := uN_s _ _ _
  have hLj : ∀ j, j ≤ 0 / 4 → uN L 0 (((dl + z') % 4 + 1) % 4) j < 4 := fun j hj => by
    have : j = 0 := by omega
    rw [this, uN_s]
    exact hl4
  refine ⟨⟨by omega, h2, k1⟩, fun q => by omega, fun q => by omega, fun _ => ⟨hLV, by have := k3 hLV; omega, ⟨?_, by omega, j2, by omega, ?_, j6, hLj, j8⟩, d1, rfl, fun i _ hi => absurd hi (Nat.not_lt_zero i)⟩, fun q => by omega, ⟨j1, j2, j3, by omega, hl4⟩, j6, hLj, j8, j9, fun _ => hz⟩
  · unfold who
    rw [hL0]
    omega
  · intro p hp
    show pc (h p) + (if _ < 0 % 4 then 1 else 0) = sz
    rw [if_neg (Nat.not_lt_zero _)]
    exact d2 p hp
/-- a CARD is taken back -/
theorem who_lo {L : Nat → Nat} {pl : Nat} (hm : pl % 4 ≠ 0) : who L (pl - 1) = (L (pl / 4) + (pl % 4 - 1)) % 4 := by
  unfold who
  rw [show (pl - 1) / 4 = pl / 4 by omega, show (pl - 1) % 4 = pl % 4 - 1 by omega]
theorem rvK_s (rv : Int32) (L : Nat → Nat) (pl p : Nat) : rvK rv L (pl + 1) p = rvK rv L pl p + (if bt rv pl && decide (who L pl = p) then 1 else 0) := fb_ct_succ _ _
theorem inv_back (hI : (INV st h c L sz pl rv tr tu b n dl ll lb ti pa tk z kp)) (e : st = 2) (hm : pl % 4 ≠ 0) : (INV st (upd h (who L (pl - 1)) (sAdd (h (who L (pl - 1))) (c (pl - 1)))) c L sz (pl - 1) (sDel rv (pl - 1)) tr (who L (pl - 1)) b n dl ll lb ti pa tk z kp) := by
  obtain ⟨⟨h1, h2, h3⟩, i0, i1, i2, i3, ⟨j1, j2, j3, j4, j5⟩, j6, j7, j8, j9, j10⟩ := hI
  obtain ⟨a1, a2, ⟨g1, g2, g3, g4, g5, g6, g7, g8⟩, a4, a5, a6⟩ := i2 e
  have e4 : (pl - 1) / 4 = pl / 4 := by omega
  have hw4 : who L (pl - 1) < 4 := Nat.mod_lt _ (by omega)
  have hc32 := j6 (pl - 1) (by omega)
  have hnb := a6 (pl - 1) (by omega) (by omega)
  have hLp := j7 (pl / 4) (Nat.le_refl _)
  have hwho := who_lo (L := L) hm
  have hbits : ∀ i, pl - 1 ≤ i → i < 32 → bt (sDel rv (pl - 1)) i = false := by
    intro i hi h32
    rw [bt_del (by omega) h32]
    by_cases q : i = pl - 1
    · rw [decide_eq_true q]; simp
    · rw [j8 i (by omega) h32]; rfl
  refine ⟨⟨h1, h2, h3⟩, fun q => by omega, fun q => by omega, fun _ => ⟨a1, a2, ⟨rfl, by omega, g3, g4, ?_, fun i hi => g6 i (by omega), fun j hj => g7 j (by omega), hbits⟩, a4, a5, ?_⟩, fun q => by omega, ⟨by omega, j2, by omega, j4, hw4⟩, fun i hi => j6 i (by omega), fun j hj => j7 j (by omega), hbits, by rw [e4]; exact j9, j10⟩
  · intro p hp
    have hp1 := g5 p hp
    rw [e4, show (pl - 1) % 4 = pl % 4 - 1 by omega]
    by_cases q : p = who L (pl - 1)
    · rw [q, up_s, pc_add hc32 hnb, if_neg (by rw [hwho]; omega)]
      rw [q, if_pos (by rw [hwho]; omega)] at hp1
      exact hp1
    · rw [up_n _ _ q]
      rw [hwho] at q
      by_cases q2 : (p + 4 - L (pl / 4)) % 4 < pl % 4
      · rw [if_pos q2] at hp1
        rw [if_pos (by omega)]
        exact hp1
      · rw [if_neg q2] at hp1
        rw [if_neg (by omega)]
        exact hp1
  · intro i hi1 hi2
    rw [e4] at hi1
    have hne : who L i ≠ who L (pl - 1) := by
      rw [hwho]
      unfold who
      rw [show i / 4 = pl / 4 by omega]
      omega
    rw [up_n _ _ hne]
    exact a6 i (by omega) (by omega)
end

/-! playing a CARD: what is kept (pure) -/
theorem rb_lo {h : Nat → Int32} {c : Nat → Nat} {pl tu cd i : Nat} {rv : Int32} (hp : pl < 32) (hi : i < 32) (hne : i ≠ pl) : bt (pRv h c pl rv tu cd) i = bt rv i := by
  unfold pRv
  split
  · rfl
  · rw [bt_add hp hi, decide_eq_false hne, Bool.or_false]
theorem rb_at {h : Nat → Int32} {c : Nat → Nat} {pl tu cd : Nat} {rv : Int32} (hp : pl < 32) (hz : bt rv pl = false) : bt (pRv h c pl rv tu cd) pl = !bt (RC h c pl tu) cd := by
  unfold pRv
  cases hb : bt (RC h c pl tu) cd with
  | true => simpa using hz
  | false =>
    rw [if_neg (by decide), bt_add hp hp, hz]
    simp
theorem who_pL {c L : Nat → Nat} {pl tr cd i : Nat} (hi : i < pl + 1) : who (pL c L pl tr cd) i = who L i := by
  unfold who
  rw [pL_lo (show i / 4 ≤ pl / 4 by omega)]
theorem uc_lo (c : Nat → Nat) (cd : Nat) {pl i : Nat} (hi : i < pl) : uN c pl cd i = c i := uN_n _ _ (by omega)
theorem tk_sum {tk : Nat → Nat} {s m : Nat} (hs : s < 2) (h : tk 0 + tk 1 = m) : uN tk s (tk s + 1) 0 + uN tk s (tk s + 1) 1 = m + 1 := by
  have : s = 0 ∨ s = 1 := by omega
  rcases this with e | e
  · rw [e, uN_s, uN_n _ _ (by omega)]; omega
  · rw [e, uN_s, uN_n _ _ (by omega)]; omega
theorem pTk_sum {c L tk : Nat → Nat} {pl tr cd : Nat} (h : tk 0 + tk 1 = pl / 4) : pTk c L pl tr cd tk 0 + pTk c L pl tr cd tk 1 = (pl + 1) / 4 := by
  unfold pTk
  by_cases e : (pl + 1) % 4 = 0
  · rw [if_pos e, tk_sum (Nat.mod_lt _ (by omega)) h]; omega
  · rw [if_neg e, h]; omega
section
variable {st : Nat} {dn : Int32} {h : Nat → Int32} {c L : Nat → Nat} {sz pl : Nat} {rv : Int32} {tr tu : Nat} {t : am_T5} {b : Nat → Nat} {n dl ll lb ti pa : Nat} {tk : Nat → Nat} {sc : Nat → Int32} {th szM bq : Nat} {lv : Int32} {trM dcM tiM tc : Nat} {T : Nat → Nat} {ldM ly : Nat} {K V : Nat → Nat} {I : Nat → Bool} {R : Nat → Nat → Nat} {e5 : am_E} {f : Nat → Int64} {r : am_M} {N : Nat} {bm : Nat → Nat} {z kp cd : Nat}
theorem inv_pc (hI : (INV st h c L sz pl rv tr tu b n dl ll lb ti pa tk z kp)) (e : st = 2) (hc : cd < 32) (hb : bt (h tu) cd = true) : pl < 32 ∧ tu = who L pl ∧ L (pl / 4) < 4 ∧ (pl / 4) < sz ∧ sz ≤ 8 ∧ bal (upd h tu (sDel (h tu) cd)) (pL c L pl tr cd) (pl + 1) (if (pl + 1) % 4 = 0 then kp - 1 else kp) ∧ (∀ i, pl + 1 ≤ i → i < 32 → bt (pRv h c pl rv tu cd) i = false) ∧ (∀ i, i < pl + 1 → uN c pl cd i < 32) ∧ pTu c L pl tr tu cd = who (pL c L pl tr cd) (pl + 1) ∧ pTu c L pl tr tu cd < 4 := by
  obtain ⟨⟨h1, h2, h3⟩, i0, i1, i2, i3, ⟨j1, j2, j3, j4, j5⟩, j6, j7, j8, j9, j10⟩ := hI
  obtain ⟨a1, a2, ⟨g1, g2, g3, g4, g5, g6, g7, g8⟩, a4, a5, a6⟩ := i2 e
  have hp : pl < 32 := by omega
  have hL4 := j7 (pl / 4) (Nat.le_refl _)
  have hw := pTu_who (c := c) (tr := tr) (cd := cd) hL4
  refine ⟨hp, g1, hL4, by omega, j2, ?_, ?_, ?_, ?_, ?_⟩
  · rw [g1]
    rw [g1] at hb
    exact bal_step g5 hL4 hc hb
  · intro i hi h32
    rw [rb_lo hp h32 (by omega)]
    exact j8 i (by omega) h32
  · intro i hi
    show (if i = pl then cd else c i) < 32
    split
    · exact hc
    · exact j6 i (by omega)
  · rw [g1]; exact hw
  · rw [g1, hw]; exact Nat.mod_lt _ (by omega)
theorem inv_play (hI : (INV st h c L sz pl rv tr tu b n dl ll lb ti pa tk z kp)) (e : st = 2) (hc : cd < 32) (hb : bt (h tu) cd = true) (hs : (pl + 1) / 4 < sz) : (INV st (upd h tu (sDel (h tu) cd)) (uN c pl cd) (pL c L pl tr cd) sz (pl + 1) (pRv h c pl rv tu cd) tr (pTu c L pl tr tu cd) b n dl ll lb ti pa (pTk c L pl tr cd tk) z (if (pl + 1) % 4 = 0 then kp - 1 else kp)) := by
  obtain ⟨p1, p2, p3, p4, p5, p6, p7, p8, p9, p10⟩ := inv_pc hI e hc hb
  obtain ⟨⟨h1, h2, h3⟩, i0, i1, i2, i3, ⟨j1, j2, j3, j4, j5⟩, j6, j7, j8, j9, j10⟩ := hI
  obtain ⟨a1, a2, ⟨g1, g2, g3, g4, g5, g6, g7, g8⟩, a4, a5, a6⟩ := i2 e
  have hkp : sz = (pl + 1) / 4 + (if (pl + 1) % 4 = 0 then kp - 1 else kp) := by
    split <;> omega
  have hLt := pL_lt (c := c) (tr := tr) (cd := cd) j7
  refine ⟨⟨h1, h2, h3⟩, fun q => by omega, fun q => by omega, fun _ => ⟨a1, a2, ⟨p9, hkp, g3, g4, p6, p8, hLt, p7⟩, by omega, a5, ?_⟩, fun q => by omega, ⟨by omega, j2, by omega, j4, p10⟩, p8, hLt, p7, pTk_sum j9, j10⟩
  intro i hi1 hi2
  rw [who_pL hi2]
  by_cases q : i = pl
  · rw [q, ← p2, up_s, uN_s, bt_del hc hc, decide_eq_true rfl]
    simp
  · have hne : who L i ≠ tu := by
      rw [p2]
      unfold who
      rw [show i / 4 = pl / 4 by omega]
      omega
    rw [up_n _ _ hne, uc_lo _ _ (by omega)]
    exact a6 i (by omega) (by omega)
theorem inv_fin (hI : (INV st h c L sz pl rv tr tu b n dl ll lb ti pa tk z kp)) (e : st = 2) (hc : cd < 32) (hb : bt (h tu) cd = true) (hs : (pl + 1) / 4 = sz) : (INV 3 (upd h tu (sDel (h tu) cd)) (uN c pl cd) (pL c L pl tr cd) sz (pl + 1) (pRv h c pl rv tu cd) tr (pTu c L pl tr tu cd) b n dl ll lb ti pa (payN (pRv h c pl rv tu cd) (pL c L pl tr cd) (pl + 1) (pTk c L pl tr cd tk) 4) z 0) := by
  obtain ⟨p1, p2, p3, p4, p5, p6, p7, p8, p9, p10⟩ := inv_pc hI e hc hb
  obtain ⟨⟨h1, h2, h3⟩, i0, i1, i2, i3, ⟨j1, j2, j3, j4, j5⟩, j6, j7, j8, j9, j10⟩ := hI
  obtain ⟨a1, a2, ⟨g1, g2, g3, g4, g5, g6, g7, g8⟩, a4, a5, a6⟩ := i2 e
  have hLt := pL_lt (c := c) (tr := tr) (cd := cd) j7
  exact ⟨⟨by omega, h2, h3⟩, fun q => by omega, fun q => by omega, fun q => by omega, fun _ => ⟨Or.inr ⟨a1, a2⟩, by omega⟩, ⟨by omega, j2, by omega, j4, p10⟩, p8, hLt, p7, payN_sum (pTk_sum j9) 4, j10⟩
end

