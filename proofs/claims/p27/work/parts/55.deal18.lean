/-! the law's checks: what they rest on (pure) -/
theorem pc_suits (x : Int32) : pc (x &&& sSuit 0) + pc (x &&& sSuit 1) + pc (x &&& sSuit 2) + pc (x &&& sSuit 3) = pc x := by
  have hs : ∀ u, u < 4 → ∀ k, k < 32 → bt (x &&& sSuit u) k = (bt x k && decide (k / 8 = u)) := fun u hu k hk => by rw [b_and, bt_suit hu hk]
  have e : pc x = fb_ct (fun k => ((bt (x &&& sSuit 0) k || bt (x &&& sSuit 1) k) || bt (x &&& sSuit 2) k) || bt (x &&& sSuit 3) k) 32 := by
    refine fb_ct_cong (fun k hk => ?_)
    rw [hs 0 (by omega) k hk, hs 1 (by omega) k hk, hs 2 (by omega) k hk, hs 3 (by omega) k hk]
    have : k / 8 = 0 ∨ k / 8 = 1 ∨ k / 8 = 2 ∨ k / 8 = 3 := by omega
    rcases this with q | q | q | q <;> rw [q] <;> cases bt x k <;> rfl
  have hd : ∀ u v, u < 4 → v < 4 → u ≠ v → ∀ k, k < 32 → ¬ (bt (x &&& sSuit u) k = true ∧ bt (x &&& sSuit v) k = true) := by
    intro u v hu hv hn k hk ⟨a, b⟩
    rw [hs u hu k hk, Bool.and_eq_true] at a
    rw [hs v hv k hk, Bool.and_eq_true] at b
    have := of_decide_eq_true a.2
    have := of_decide_eq_true b.2
    omega
  rw [e, fb_ct_or, fb_ct_or, fb_ct_or]
  · rfl
  · exact hd 0 1 (by omega) (by omega) (by omega)
  · intro k hk ⟨a, b⟩
    rcases Bool.or_eq_true_iff.mp a with a | a
    · exact hd 0 2 (by omega) (by omega) (by omega) k hk ⟨a, b⟩
    · exact hd 1 2 (by omega) (by omega) (by omega) k hk ⟨a, b⟩
  · intro k hk ⟨a, b⟩
    rcases Bool.or_eq_true_iff.mp a with a | a
    · rcases Bool.or_eq_true_iff.mp a with a | a
      · exact hd 0 3 (by omega) (by omega) (by omega) k hk ⟨a, b⟩
      · exact hd 1 3 (by omega) (by omega) (by omega) k hk ⟨a, b⟩
    · exact hd 2 3 (by omega) (by omega) (by omega) k hk ⟨a, b⟩
theorem hv_sum (h : Nat → Int32) (p : Nat) : handV h p 0 0 + handV h p 1 0 + handV h p 2 0 + handV h p 3 0 = nI (pc (h p)) := by
  show nI (pc (h p &&& sSuit 0)) + nI (pc (h p &&& sSuit 1)) + nI (pc (h p &&& sSuit 2)) + nI (pc (h p &&& sSuit 3)) = _
  rw [nI_add, nI_add, nI_add, pc_suits]
theorem hv_41 {h : Nat → Int32} {p : Nat} (e : h p ≠ 0) : handV h p 4 1 = nI (sHi (h p)) := if_neg e
theorem hv_42 {h : Nat → Int32} {p : Nat} (e : h p ≠ 0) : handV h p 4 2 = nI (sLo (h p)) := if_neg e
theorem lo_hi {s : Int32} (e : s ≠ 0) : sLo s ≤ sHi s := by
  have h1 := (sLo_spec e).2.2 (sHi s)
  have h2 := (sHi_lt e).2.1
  by_cases q : sLo s ≤ sHi s
  · exact q
  · rw [h1 (by omega)] at h2
    cases h2
theorem bal_sum {h : Nat → Int32} {L : Nat → Nat} {pl kp : Nat} (hb : bal h L pl kp) (hL : L (pl / 4) < 4) : pc (h 0) + pc (h 1) + pc (h 2) + pc (h 3) + pl % 4 = 4 * kp := by
  have h0 := hb 0 (by omega)
  have h1 := hb 1 (by omega)
  have h2 := hb 2 (by omega)
  have h3 := hb 3 (by omega)
  have hm : pl % 4 < 4 := Nat.mod_lt _ (by omega)
  generalize L (pl / 4) = x at *
  generalize pl % 4 = m at *
  have hx : x = 0 ∨ x = 1 ∨ x = 2 ∨ x = 3 := by omega
  have hmm : m = 0 ∨ m = 1 ∨ m = 2 ∨ m = 3 := by omega
  rcases hx with rfl | rfl | rfl | rfl <;> rcases hmm with rfl | rfl | rfl | rfl <;> simp at h0 h1 h2 h3 <;> omega
section
variable {st : Nat} {h : Nat → Int32} {c L : Nat → Nat} {sz pl : Nat} {rv : Int32} {tr tu : Nat} {b : Nat → Nat} {n dl ll lb ti pa : Nat} {tk : Nat → Nat} {z kp : Nat}
theorem inv_cards (hI : (INV st h c L sz pl rv tr tu b n dl ll lb ti pa tk z kp)) (hX : XI st h sz pl b n) (h1 : 1 ≤ st) : pc (h 0) + pc (h 1) + pc (h 2) + pc (h 3) + pl % 4 + 4 * (pl / 4) = 4 * sz := by
  obtain ⟨⟨a1, a2, a3⟩, i0, i1, i2, i3, ⟨j1, j2, j3, j4, j5⟩, j6, j7, j8, j9, j10⟩ := hI
  have : st = 1 ∨ st = 2 ∨ st = 3 := by omega
  rcases this with q | q | q
  · obtain ⟨_, _, e, _, e2⟩ := i1 q
    rw [e2 0 (by omega), e2 1 (by omega), e2 2 (by omega), e2 3 (by omega), e]
    omega
  · obtain ⟨_, _, ⟨g1, g2, g3, g4, g5, g6, g7, g8⟩, _⟩ := i2 q
    have := bal_sum g5 (g7 _ (Nat.le_refl _))
    omega
  · have e := (hX q).1
    have e2 := (i3 q).2
    have := e 0 (by omega)
    have := e 1 (by omega)
    have := e 2 (by omega)
    have := e 3 (by omega)
    omega
theorem alw_lv {n dl ll lb ti bd : Nat} (h1 : 1 ≤ bd) (h2 : bd ≤ 40) : alw n dl ll lb ti bd = decide (ll < bd) := by
  unfold alw
  rw [if_neg (by omega), if_pos h2]
theorem alw_41 {n dl ll lb ti : Nat} (h : alw n dl ll lb ti 41 = true) : ti = 1 := by
  unfold alw at h
  rw [if_neg (by omega), if_neg (by omega)] at h
  by_cases e : ll = 0
  · rw [if_pos e] at h; cases h
  · rw [if_neg e, if_pos rfl, Bool.and_eq_true] at h
    exact of_decide_eq_true h.2
theorem alw_42 {n dl ll lb ti : Nat} (h : alw n dl ll lb ti 42 = true) : ti = 2 := by
  unfold alw at h
  rw [if_neg (by omega), if_neg (by omega)] at h
  by_cases e : ll = 0
  · rw [if_pos e] at h; cases h
  · rw [if_neg e, if_neg (by omega), Bool.and_eq_true] at h
    exact of_decide_eq_true h.2
theorem wg_0 {c L : Nat → Nat} {pl tr cd : Nat} (hm : pl % 4 = 0) : wgV c L pl tr cd = nI (who L pl) := by
  unfold wgV takeV who
  rw [hm]
  rfl
theorem tk_lt {f : Nat} {row : Nat → Nat} {tr m : Nat} : (m = 0 → takeV f row tr m = -1) ∧ (0 < m → ∃ x, x < 4 ∧ takeV f row tr m = nI x) := by
  unfold takeV
  refine ⟨fun e => if_pos e, fun e => ?_⟩
  rw [if_neg (by omega)]
  exact ⟨_, Nat.mod_lt _ (by omega), rfl⟩
theorem bw_le {n : Nat} {h : Nat → Int32} {c L : Nat → Nat} {pl tr cd : Nat} : bw n h c L pl tr cd ≤ (n + pl % 4 + 1) / 4 + 1 := by
  unfold bw wv
  by_cases e : pl % 4 = 3
  · rw [if_pos e]
    have := vl_le (n := n) (h := upd h ((L (pl / 4) + pl % 4) % 4) (sDel (h ((L (pl / 4) + pl % 4) % 4)) cd)) (m := 0) (row := uN (rowOf c (pl / 4)) (pl % 4) cd) (f := (L (pl / 4) + BI (uN (rowOf c (pl / 4)) (pl % 4) cd) tr 4) % 4) (t := tr) (by omega)
    omega
  · rw [if_neg e]
    have := vl_le (n := n) (h := upd h ((L (pl / 4) + pl % 4) % 4) (sDel (h ((L (pl / 4) + pl % 4) % 4)) cd)) (m := pl % 4 + 1) (row := uN (rowOf c (pl / 4)) (pl % 4) cd) (f := L (pl / 4)) (t := tr) (by omega)
    omega
theorem rev_2 (rv : Int32) (L : Nat → Nat) (pl s : Nat) : revV rv L pl s ≤ 2 := by
  unfold revV
  split <;> split <;> omega
/-- of the cards behind i: how many are right, the least and the most that one may get -/
def MM (S : Int32) (f : Nat → Int32) (i : Nat) (x y : Int32) : Prop := (fb_ct (bt S) i = 0 → x = 9 ∧ y = -1) ∧ (0 < fb_ct (bt S) i → (∃ c, c < i ∧ bt S c = true ∧ x = f c) ∧ (∃ c, c < i ∧ bt S c = true ∧ y = f c) ∧ ∀ c, c < i → bt S c = true → x ≤ f c ∧ f c ≤ y)
theorem MM_0 (S : Int32) (f : Nat → Int32) : MM S f 0 9 (-1) := ⟨fun _ => ⟨rfl, rfl⟩, fun e => absurd e (Nat.lt_irrefl _)⟩
theorem MM_no {S : Int32} {f : Nat → Int32} {i : Nat} {x y : Int32} (h : MM S f i x y) (hb : bt S i = false) : MM S f (i + 1) x y := by
  have e : fb_ct (bt S) (i + 1) = fb_ct (bt S) i := by rw [fb_ct_succ, hb]; rfl
  unfold MM
  rw [e]
  refine ⟨h.1, fun q => ?_⟩
  obtain ⟨⟨c1, a1, a2, a3⟩, ⟨c2, b1, b2, b3⟩, h3⟩ := h.2 q
  refine ⟨⟨c1, by omega, a2, a3⟩, ⟨c2, by omega, b2, b3⟩, fun c hc hcb => h3 c ?_ hcb⟩
  by_cases e2 : c = i
  · rw [e2, hb] at hcb; cases hcb
  · omega
theorem MM_yes {S : Int32} {f : Nat → Int32} {i : Nat} {x y : Int32} (h : MM S f i x y) (hb : bt S i = true) (h9 : f i ≤ 9) (h1 : -1 ≤ f i) : MM S f (i + 1) (if f i < x then f i else x) (if y < f i then f i else y) := by
  have e : fb_ct (bt S) (i + 1) = fb_ct (bt S) i + 1 := by rw [fb_ct_succ, hb]; rfl
  unfold MM
  rw [e]
  refine ⟨fun q => absurd q (by omega), fun _ => ?_⟩
  by_cases z : fb_ct (bt S) i = 0
  · obtain ⟨rfl, rfl⟩ := h.1 z
    have hx : (if f i < 9 then f i else 9) = f i := by
      split
      · rfl
      · rename_i q
        exact (Int32.le_antisymm h9 (Int32.not_lt.mp q)).symm
    have hy : (if -1 < f i then f i else -1) = f i := by
      split
      · rfl
      · rename_i q
        exact Int32.le_antisymm h1 (Int32.not_lt.mp q)
    rw [hx, hy]
    refine ⟨⟨i, by omega, hb, rfl⟩, ⟨i, by omega, hb, rfl⟩, fun c hc hcb => ?_⟩
    by_cases e2 : c = i
    · rw [e2]; exact ⟨Int32.le_refl _, Int32.le_refl _⟩
    · have := fb_ct_zero.mp z c (by omega)
      rw [this] at hcb
      cases hcb
  · obtain ⟨⟨c1, a1, a2, a3⟩, ⟨c2, b1, b2, b3⟩, h3⟩ := h.2 (by omega)
    refine ⟨?_, ?_, fun c hc hcb => ?_⟩
    · split
      · exact ⟨i, by omega, hb, rfl⟩
      · exact ⟨c1, by omega, a2, a3⟩
    · split
      · exact ⟨i, by omega, hb, rfl⟩
      · exact ⟨c2, by omega, b2, b3⟩
    · by_cases e2 : c = i
      · subst e2
        constructor
        · split
          · exact Int32.le_refl _
          · rename_i q; exact Int32.not_lt.mp q
        · split
          · exact Int32.le_refl _
          · rename_i q; exact Int32.not_lt.mp q
      · obtain ⟨u1, u2⟩ := h3 c (by omega) hcb
        constructor
        · split
          · rename_i q; exact Int32.le_trans (Int32.le_of_lt q) u1
          · exact u1
        · split
          · rename_i q; exact Int32.le_trans u2 (Int32.le_of_lt q)
          · exact u2
theorem nI_leD {a b : Nat} (ha : a < 2 ^ 31) (hb : b < 2 ^ 31) (h : nI a ≤ nI b) : a ≤ b := (Int32.ofNat_le_ofNat ha hb).mp h
end
