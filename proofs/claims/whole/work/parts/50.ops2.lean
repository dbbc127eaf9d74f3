/-! the calls that change the table: what is kept (pure) -/
theorem pc_add_le (s : Int32) {c : Nat} (hc : c < 32) : pc (sAdd s c) ≤ pc s + 1 := by
  cases hb : bt s c with
  | false => exact Nat.le_of_eq (pc_add hc hb)
  | true =>
    have : sAdd s c = s := by
      apply b_ext
      intro i hi
      rw [bt_add hc hi]
      by_cases e : i = c
      · rw [e, hb]; rfl
      · rw [decide_eq_false e, Bool.or_false]
    rw [this]
    omega
theorem dealH_pc {f s : Nat} {h : Nat → Int32} (hz : ∀ p, p < 4 → pc (h p) ≤ 0) : ∀ (n p : Nat), p < 4 → pc (dealH f s h n p) ≤ (n + 3 - p) / 4
  | 0, p, hp => Nat.le_trans (hz p hp) (Nat.zero_le _)
  | n + 1, p, hp => by
    have ih := dealH_pc (f := f) (s := s) hz n p hp
    show pc (if p = n % 4 then sAdd (dealH f s h n (n % 4)) ((f + n * s) % 32) else dealH f s h n p) ≤ _
    by_cases e : p = n % 4
    · rw [if_pos e, ← e]
      have := pc_add_le (dealH f s h n p) (c := (f + n * s) % 32) (Nat.mod_lt _ (by omega))
      omega
    · rw [if_neg e]
      omega
theorem hAll_0 {h : Nat → Int32} : hAll h = 0 ↔ le4 h 0 = true := by
  rw [le4_iff]
  unfold hAll
  rw [s_zero]
  constructor
  · intro hh p hp
    have : pc (h p) = 0 := pc_zero.mpr (s_zero.mpr (fun i hi => by
      have h1 := hh i hi
      rw [b_or, b_or, b_or] at h1
      simp only [Bool.or_eq_false_iff] at h1
      have : p = 0 ∨ p = 1 ∨ p = 2 ∨ p = 3 := by omega
      rcases this with rfl | rfl | rfl | rfl
      · exact h1.1.1.1
      · exact h1.1.1.2
      · exact h1.1.2
      · exact h1.2))
    omega
  · intro hh i hi
    have hz : ∀ p, p < 4 → bt (h p) i = false := fun p hp => by
      have h1 := hh p hp
      have h2 : h p = 0 := pc_zero.mp (by omega)
      rw [h2]
      exact b_0 i
    rw [b_or, b_or, b_or, hz 0 (by omega), hz 1 (by omega), hz 2 (by omega), hz 3 (by omega)]
    rfl
def ti_of (b : Nat → Nat) (n : Nat) : Nat := tiM b n
section
variable {st : Nat} {dn : Int32} {h : Nat → Int32} {c L : Nat → Nat} {sz pl : Nat} {rv : Int32} {tr tu : Nat} {t : am_T5} {b : Nat → Nat} {n dl ll lb ti pa : Nat} {tk : Nat → Nat} {sc : Nat → Int32} {th szM bq : Nat} {lv : Int32} {trM dcM tiM tc : Nat} {T : Nat → Nat} {ldM ly : Nat} {K V : Nat → Nat} {I : Nat → Bool} {R : Nat → Nat → Nat} {e5 : am_E} {f : Nat → Int64} {r : am_M} {N : Nat} {bm : Nat → Nat} {z kp : Nat}
theorem inv_begin (hI : (INV st h c L sz pl rv tr tu b n dl ll lb ti pa tk z kp)) {p : Nat} (hp : p < 4) : (INV 0 (hz h 4) c L 0 0 0 tr tu b 0 p 0 0 1 0 (uN (uN tk 0 0) 1 0) z kp) := by
  obtain ⟨⟨h1, h2, h3⟩, i0, i1, i2, i3, ⟨j1, j2, j3, j4, j5⟩, j6, j7, j8, j9, j10⟩ := hI
  refine ⟨⟨by omega, hp, ⟨fun j hj => absurd hj (Nat.not_lt_zero j), rfl, fun e => absurd e (Nat.lt_irrefl _), by omega, rfl, Or.inl ⟨rfl, rfl, rfl⟩, fun _ => ⟨rfl, rfl⟩, fun e => absurd e (Nat.lt_irrefl _)⟩⟩, fun _ => ⟨rfl, rfl, rfl, fun q hq => ?_⟩, fun e => absurd e (by omega), fun e => absurd e (by omega), fun e => absurd e (by omega), ⟨by omega, by omega, by omega, j4, j5⟩, fun i hi => absurd hi (Nat.not_lt_zero i), fun j hj => j7 j (by omega), fun i _ _ => b_0 i, rfl, fun e => (by cases e)⟩
  rw [show hz h 4 q = 0 from if_pos hq, pc_zero.mpr rfl]
  omega
theorem mod_begin (hI : (INV st h c L sz pl rv tr tu b n dl ll lb ti pa tk z kp)) (hM : (MOD st c L sz pl rv b n dl ll ti pa z szM bq lv trM dcM tiM tc T ldM ly K V I e5 r N bm)) {p : Nat} (hp : p < 4) {V' : Nat → Nat} (hV : ∀ p, p < 4 → V' p = 0) : (MOD 0 c L 0 0 0 b 0 p 0 1 0 z szM bq (-1) trM dcM tiM 0 T ldM 0 K V' I e5 r N bm) := by
  obtain ⟨⟨q1, q2, q3, q4, q5⟩, ⟨m2, m2b, m2c, m2d, m2e⟩, ⟨m3, m3b⟩, ⟨m4, m5, m6, m7⟩, m8, m9, m10, m11⟩ := hM
  exact ⟨⟨q1, Nat.zero_le _, q3, q4, fun j hj => absurd hj (Nat.not_lt_zero j)⟩, ⟨fun e => (by cases e), fun _ => rfl, m2c, m2d, m2e⟩, ⟨fun e => absurd rfl e, m3b⟩, ⟨rfl, rfl, m6, fun e => absurd e (by omega)⟩, fun k hk => absurd hk (Nat.not_lt_zero k), fun k hk => absurd hk (Nat.not_lt_zero k), fun p hp => by rw [hV p hp]; rfl, fun i hi => absurd hi (Nat.not_lt_zero i)⟩
theorem inv_h (hI : (INV st h c L sz pl rv tr tu b n dl ll lb ti pa tk z kp)) (e : st = 0) {h' : Nat → Int32} (hh : ∀ p, p < 4 → pc (h' p) ≤ 8) : (INV st h' c L sz pl rv tr tu b n dl ll lb ti pa tk z kp) := by
  obtain ⟨⟨h1, h2, h3⟩, i0, i1, i2, i3, ⟨j1, j2, j3, j4, j5⟩, j6, j7, j8, j9, j10⟩ := hI
  refine ⟨⟨h1, h2, h3⟩, fun q => ⟨(i0 q).1, (i0 q).2.1, (i0 q).2.2.1, hh⟩, fun q => by omega, fun q => by omega, i3, ⟨j1, j2, j3, j4, j5⟩, j6, j7, j8, j9, j10⟩
theorem inv_open (hI : (INV st h c L sz pl rv tr tu b n dl ll lb ti pa tk z kp)) (e : st = 0) (hr : rdy h = true) : (INV 1 h c L (pc (h 0)) pl rv tr tu b n dl ll lb ti pa tk z kp) := by
  obtain ⟨⟨h1, h2, h3⟩, i0, i1, i2, i3, ⟨j1, j2, j3, j4, j5⟩, j6, j7, j8, j9, j10⟩ := hI
  obtain ⟨a, b1, c1, d1⟩ := i0 e
  obtain ⟨r1, r2⟩ := rdy_iff.mp hr
  have h8 := d1 0 (by omega)
  refine ⟨⟨by omega, h2, h3⟩, fun q => by omega, fun _ => ⟨fun _ => by omega, fun q => ?_, b1, r2, r1⟩, fun q => by omega, fun q => by omega, ⟨by omega, h8, j3, j4, j5⟩, j6, j7, j8, j9, j10⟩
  have := LV_le b n
  omega
theorem mod_open (hI : (INV st h c L sz pl rv tr tu b n dl ll lb ti pa tk z kp)) (hM : (MOD st c L sz pl rv b n dl ll ti pa z szM bq lv trM dcM tiM tc T ldM ly K V I e5 r N bm)) (e : st = 0) : (MOD 1 c L (pc (h 0)) pl rv b n dl ll ti pa z (pc (h 0)) bq lv trM dcM tiM tc T ldM ly K V I e5 r N bm) := by
  obtain ⟨q, ⟨m2, m2b, m2c, m2d, m2e⟩, ⟨m3, m3b⟩, ⟨m4, m5, m6, m7⟩, m8, m9, m10, m11⟩ := hM
  have hd1 := (hI.2.1 e).2.2.2 0 (by omega)
  exact ⟨q, ⟨m2, m2b, m2c, m2d, m2e⟩, ⟨fun _ => rfl, hd1⟩, ⟨m4, m5, m6, fun e => by omega⟩, m8, m9, m10, m11⟩
/-- a bid -/
theorem inv_bid (hI : (INV st h c L sz pl rv tr tu b n dl ll lb ti pa tk z kp)) (e : st = 1) {bd : Nat} (hbd : bd < 43) (ha : alw n dl ll lb ti bd = true) : AI (uN b n bd) (n + 1) dl (nLl ll bd) (nLb dl n lb bd) (nTi ti bd) (nPa pa bd) ∧ (LV (uN b n bd) (n + 1) = 0 → n ≤ 3) ∧ (0 < LV (uN b n bd) (n + 1) → nPa pa bd ≤ 3) ∧ n < 364 := by
  obtain ⟨⟨h1, h2, h3⟩, i0, i1, i2, i3, ⟨j1, j2, j3, j4, j5⟩, j6, j7, j8, j9, j10⟩ := hI
  obtain ⟨a, b1, c1, d1⟩ := i1 e
  refine ⟨AI_step h3 hbd ha a b1, fun q => ?_, fun q => ?_, AI_n2 h3 a b1⟩
  · rw [LV_u] at q
    split at q
    · omega
    · exact a q
  · rcases Nat.eq_zero_or_pos (LV b n) with q0 | q0
    · have hp := (AI_b h3).2.2.2.2.1
      have := a q0
      rcases Nat.eq_zero_or_pos bd with z0 | z0
      · subst z0
        rw [LV_u, if_neg (by decide)] at q
        omega
      · unfold nPa
        rw [if_neg (by omega)]
        omega
    · have := b1 q0
      unfold nPa
      split <;> omega
theorem inv_bidA (hI : (INV st h c L sz pl rv tr tu b n dl ll lb ti pa tk z kp)) (e : st = 1) {bd : Nat} (hbd : bd < 43) (ha : alw n dl ll lb ti bd = true) (hA : (decide (nLl ll bd = 0) && decide (4 ≤ nPa pa bd)) = true) : (INV 3 h c L sz pl rv tr tu (uN b n bd) (n + 1) dl (nLl ll bd) (nLb dl n lb bd) (nTi ti bd) (nPa pa bd) tk z kp) := by
  obtain ⟨k1, k2, k3, k4⟩ := inv_bid hI e hbd ha
  have hb := AI_b k1
  obtain ⟨⟨h1, h2, h3⟩, i0, i1, i2, i3, ⟨j1, j2, j3, j4, j5⟩, j6, j7, j8, j9, j10⟩ := hI
  rw [Bool.and_eq_true, decide_eq_true_iff, decide_eq_true_iff] at hA
  have h0 := hb.2.2.2.2.2.mp hA.1
  have hn := k2 h0
  refine ⟨⟨by omega, h2, k1⟩, fun q => by omega, fun q => by omega, fun q => by omega, fun _ => ⟨Or.inl ⟨h0, by have := hb.2.2.2.2.1; omega⟩, by have := (i1 e).2.2.1; omega⟩, ⟨j1, j2, j3, j4, j5⟩, j6, j7, j8, j9, fun q => ?_⟩
  have := (stl_t q).1
  omega
theorem inv_bidC (hI : (INV st h c L sz pl rv tr tu b n dl ll lb ti pa tk z kp)) (e : st = 1) {bd : Nat} (hbd : bd < 43) (ha : alw n dl ll lb ti bd = true) (hA : (decide (nLl ll bd = 0) && decide (4 ≤ nPa pa bd)) = false) (hB : stl (nLl ll bd) (nPa pa bd) = false) : (INV st h c L sz pl rv tr tu (uN b n bd) (n + 1) dl (nLl ll bd) (nLb dl n lb bd) (nTi ti bd) (nPa pa bd) tk z kp) := by
  obtain ⟨k1, k2, k3, k4⟩ := inv_bid hI e hbd ha
  have hb := AI_b k1
  have hpz := k1.2.2.2.2.2.2.1
  have hpe := k1.2.2.2.2.1
  obtain ⟨⟨h1, h2, h3⟩, i0, i1, i2, i3, ⟨j1, j2, j3, j4, j5⟩, j6, j7, j8, j9, j10⟩ := hI
  obtain ⟨_, _, c1, d1, d2⟩ := i1 e
  refine ⟨⟨h1, h2, k1⟩, fun q => by omega, fun _ => ⟨fun q => ?_, fun q => ?_, c1, d1, d2⟩, fun q => by omega, fun q => by omega, ⟨j1, j2, j3, j4, j5⟩, j6, j7, j8, j9, fun q => (by rw [hB] at q; cases q)⟩
  · have h0 := hb.2.2.2.2.2.mpr q
    rw [decide_eq_true h0, Bool.true_and] at hA
    have := of_decide_eq_false hA
    have := (hpz q).1
    omega
  · rcases Nat.lt_or_ge (nPa pa bd) 3 with q2 | q2
    · omega
    · have hll : 0 < nLl ll bd := by
        rcases Nat.eq_zero_or_pos (nLl ll bd) with q3 | q3
        · have := hb.2.2.2.2.2.mp q3; omega
        · exact q3
      rw [stl_iff.mpr ⟨hll, q2⟩] at hB
      cases hB
theorem inv_bidB (hI : (INV st h c L sz pl rv tr tu b n dl ll lb ti pa tk z kp)) (e : st = 1) {bd z' : Nat} (hbd : bd < 43) (ha : alw n dl ll lb ti bd = true) (hB : stl (nLl ll bd) (nPa pa bd) = true) (hz : isZ (uN b n bd) (n + 1) dl (nLl ll bd) (nLb dl n lb bd) z') : (INV 2 h c (uN L 0 (((dl + z') % 4 + 1) % 4)) sz pl rv ((nLl ll bd - 1) % 5) (((dl + z') % 4 + 1) % 4) (uN b n bd) (n + 1) dl (nLl ll bd) (nLb dl n lb bd) (nTi ti bd) (nPa pa bd) tk z' sz) := by
  obtain ⟨k1, k2, k3, k4⟩ := inv_bid hI e hbd ha
  have hb := AI_b k1
  obtain ⟨⟨h1, h2, h3⟩, i0, i1, i2, i3, ⟨j1, j2, j3, j4, j5⟩, j6, j7, j8, j9, j10⟩ := hI
  obtain ⟨_, _, c1, d1, d2⟩ := i1 e
  subst c1
  obtain ⟨s1, s2⟩ := stl_iff.mp hB
  have hLV : 0 < LV (uN b n bd) (n + 1) := by
    rcases Nat.eq_zero_or_pos (LV (uN b n bd) (n + 1)) with q | q
    · have := hb.2.2.2.2.2.mpr q; omega
    · exact q
  have hl4 : ((dl + z') % 4 + 1) % 4 < 4 := Nat.mod_lt _ (by omega)
  have hL0 : uN L 0 (((dl + z') % 4 + 1) % 4) (0 / 4) = ((dl + z') % 4 + 1) % 4 := uN_s _ _ _
  have hLj : ∀ j, j ≤ 0 / 4 → uN L 0 (((dl + z') % 4 + 1) % 4) j < 4 := fun j hj => by
    have : j = 0 := by omega
    rw [this, uN_s]
    exact hl4
  refine ⟨⟨by omega, h2, k1⟩, fun q => by omega, fun q => by omega, fun _ => ⟨hLV, by have := k3 hLV; omega, ⟨?_, by omega, j2, by omega, ?_, j6, hLj, j8⟩, d1, rfl, fun i _ hi => absurd hi (Nat.not_lt_zero i)⟩, fun q => by omega, ⟨j1, j2, j3, by omega, hl4⟩, j6, hLj, j8, j9, fun _ => hz⟩
  · unfold who
    rw [hL0]
    omega
  · intro p hp
    show pc (h p) + (if _ < 0 % 4 then 1 else 0) = sz
    rw [if_neg (Nat.not_lt_zero _)]
    exact d2 p hp
theorem mod_bid (hI : (INV st h c L sz pl rv tr tu b n dl ll lb ti pa tk z kp)) (hM : (MOD st c L sz pl rv b n dl ll ti pa z szM bq lv trM dcM tiM tc T ldM ly K V I e5 r N bm)) (e : st = 1) {st' bd bq' N' : Nat} {e5' : am_E} {r' : am_M} {b' : Nat → Nat} (hst : st' ≠ 2) (hq : bqA bq' e5' r' N' b') (hn : n + 1 ≤ N') (hN : N' ≤ 1000) (hbb : ∀ j, j < n + 1 → b' j = uN b n bd j) (hB : stl (nLl ll bd) (nPa pa bd) = false) : (MOD st' c L sz pl rv (uN b n bd) (n + 1) dl (nLl ll bd) (nTi ti bd) (nPa pa bd) z szM bq' lv trM dcM tiM tc T ldM ly K V I e5' r' N' b') := by
  have hns : stl ll pa = false := by
    cases hs : stl ll pa with
    | false => rfl
    | true => rcases (INV_stl hI).mp hs with q | q <;> omega
  obtain ⟨⟨q1, q2, q3, q4, q5⟩, ⟨m2, m2b, m2c, m2d, m2e⟩, ⟨m3, m3b⟩, ⟨m4, m5, m6, m7⟩, m8, m9, m10, m11⟩ := hM
  exact ⟨⟨hq, hn, hN, by omega, hbb⟩, ⟨fun q => (by rw [hB] at q; cases q), fun _ => m2b hns, m2c, m2d, m2e⟩, ⟨fun _ => m3 (by omega), m3b⟩, ⟨m4, m5, m6, fun q => absurd q hst⟩, m8, m9, m10, m11⟩
theorem mod_bidB (hI : (INV st h c L sz pl rv tr tu b n dl ll lb ti pa tk z kp)) (hM : (MOD st c L sz pl rv b n dl ll ti pa z szM bq lv trM dcM tiM tc T ldM ly K V I e5 r N bm)) (e : st = 1) {bd bq' N' z' : Nat} {e5' : am_E} {r' : am_M} {b' : Nat → Nat} (hbd : bd < 43) (ha : alw n dl ll lb ti bd = true) (hq : bqA bq' e5' r' N' b') (hn : n + 1 ≤ N') (hN : N' ≤ 1000) (hbb : ∀ j, j < n + 1 → b' j = uN b n bd j) (hB : stl (nLl ll bd) (nPa pa bd) = true) : (MOD 2 c (uN L 0 (((dl + z') % 4 + 1) % 4)) sz pl rv (uN b n bd) (n + 1) dl (nLl ll bd) (nTi ti bd) (nPa pa bd) z' szM bq' (nI ((uN b n bd (LV (uN b n bd) (n + 1) - 1) - 1) / 5 + 1)) ((uN b n bd (LV (uN b n bd) (n + 1) - 1) - 1) % 5) ((dl + z') % 4) (ti_of (uN b n bd) (n + 1)) tc T (((dl + z') % 4 + 1) % 4) ly K V I e5' r' N' b') := by
  obtain ⟨k1, k2, k3, k4⟩ := inv_bid hI e hbd ha
  have hb := AI_b k1
  have hAll := AI_ll k1
  have hti := AI_tiM k1
  obtain ⟨s1, s2⟩ := stl_iff.mp hB
  have hLV : 0 < LV (uN b n bd) (n + 1) := by
    rcases Nat.eq_zero_or_pos (LV (uN b n bd) (n + 1)) with q | q
    · have := hb.2.2.2.2.2.mpr q; omega
    · exact q
  have hL := (hAll.2 hLV).1
  obtain ⟨_, _, c1, _, _⟩ := hI.2.2.1 e
  subst c1
  obtain ⟨⟨q1, q2, q3, q4, q5⟩, ⟨m2, m2b, m2c, m2d, m2e⟩, ⟨m3, m3b⟩, ⟨m4, m5, m6, m7⟩, m8, m9, m10, m11⟩ := hM
  rw [← hL, show ti_of (uN b n bd) (n + 1) = _ from hti]
  exact ⟨⟨hq, hn, hN, by omega, hbb⟩, ⟨fun _ => ⟨rfl, rfl, rfl, rfl⟩, fun q => (by rw [hB] at q; cases q), by omega, by omega, by omega⟩, ⟨fun _ => m3 (by omega), m3b⟩, ⟨m4, m5, by omega, fun _ => (uN_s L 0 _).symm⟩, m8, m9, fun p hp => by rw [m10 p hp]; rfl, fun i hi => absurd hi (Nat.not_lt_zero i)⟩
/-- a CARD is taken back -/
theorem who_lo {L : Nat → Nat} {pl : Nat} (hm : pl % 4 ≠ 0) : who L (pl - 1) = (L (pl / 4) + (pl % 4 - 1)) % 4 := by
  unfold who
  rw [show (pl - 1) / 4 = pl / 4 by omega, show (pl - 1) % 4 = pl % 4 - 1 by omega]
theorem rvK_s (rv : Int32) (L : Nat → Nat) (pl p : Nat) : rvK rv L (pl + 1) p = rvK rv L pl p + (if bt rv pl && decide (who L pl = p) then 1 else 0) := fb_ct_succ _ _
theorem inv_back (hI : (INV st h c L sz pl rv tr tu b n dl ll lb ti pa tk z kp)) (e : st = 2) (hm : pl % 4 ≠ 0) : (INV st (upd h (who L (pl - 1)) (sAdd (h (who L (pl - 1))) (c (pl - 1)))) c L sz (pl - 1) (sDel rv (pl - 1)) tr (who L (pl - 1)) b n dl ll lb ti pa tk z kp) := by
  obtain ⟨⟨h1, h2, h3⟩, i0, i1, i2, i3, ⟨j1, j2, j3, j4, j5⟩, j6, j7, j8, j9, j10⟩ := hI
  obtain ⟨a1, a2, ⟨g1, g2, g3, g4, g5, g6, g7, g8⟩, a4, a5, a6⟩ := i2 e
  have e4 : (pl - 1) / 4 = pl / 4 := by omega
  have hw4 : who L (pl - 1) < 4 := Nat.mod_lt _ (by omega)
  have hc32 := j6 (pl - 1) (by omega)
  have hnb := a6 (pl - 1) (by omega) (by omega)
  have hLp := j7 (pl / 4) (Nat.le_refl _)
  have hwho := who_lo (L := L) hm
  have hbits : ∀ i, pl - 1 ≤ i → i < 32 → bt (sDel rv (pl - 1)) i = false := by
    intro i hi h32
    rw [bt_del (by omega) h32]
    by_cases q : i = pl - 1
    · rw [decide_eq_true q]; simp
    · rw [j8 i (by omega) h32]; rfl
  refine ⟨⟨h1, h2, h3⟩, fun q => by omega, fun q => by omega, fun _ => ⟨a1, a2, ⟨rfl, by omega, g3, g4, ?_, fun i hi => g6 i (by omega), fun j hj => g7 j (by omega), hbits⟩, a4, a5, ?_⟩, fun q => by omega, ⟨by omega, j2, by omega, j4, hw4⟩, fun i hi => j6 i (by omega), fun j hj => j7 j (by omega), hbits, by rw [e4]; exact j9, j10⟩
  · intro p hp
    have hp1 := g5 p hp
    rw [e4, show (pl - 1) % 4 = pl % 4 - 1 by omega]
    by_cases q : p = who L (pl - 1)
    · rw [q, up_s, pc_add hc32 hnb, if_neg (by rw [hwho]; omega)]
      rw [q, if_pos (by rw [hwho]; omega)] at hp1
      exact hp1
    · rw [up_n _ _ q]
      rw [hwho] at q
      by_cases q2 : (p + 4 - L (pl / 4)) % 4 < pl % 4
      · rw [if_pos q2] at hp1
        rw [if_pos (by omega)]
        exact hp1
      · rw [if_neg q2] at hp1
        rw [if_neg (by omega)]
        exact hp1
  · intro i hi1 hi2
    rw [e4] at hi1
    have hne : who L i ≠ who L (pl - 1) := by
      rw [hwho]
      unfold who
      rw [show i / 4 = pl / 4 by omega]
      omega
    rw [up_n _ _ hne]
    exact a6 i (by omega) (by omega)
theorem mod_back (hI : (INV st h c L sz pl rv tr tu b n dl ll lb ti pa tk z kp)) (hM : (MOD st c L sz pl rv b n dl ll ti pa z szM bq lv trM dcM tiM tc T ldM ly K V I e5 r N bm)) (e : st = 2) (hm : pl % 4 ≠ 0) : (MOD st c L sz (pl - 1) (sDel rv (pl - 1)) b n dl ll ti pa z szM bq lv trM dcM tiM tc T ldM (ly - 1) K (uN V ((ldM + (ly - 1)) % 4) (V ((ldM + (ly - 1)) % 4) - b2n (I (ly - 1)))) I e5 r N bm) ∧ (ldM + (ly - 1)) % 4 = who L (pl - 1) ∧ K (ly - 1) = c (pl - 1) ∧ (I (ly - 1) = true → 0 < V ((ldM + (ly - 1)) % 4)) := by
  have hI' := hI
  obtain ⟨⟨h1, h2, h3⟩, i0, i1, i2, i3, ⟨j1, j2, j3, j4, j5⟩, j6, j7, j8, j9, j10⟩ := hI'
  obtain ⟨⟨q1, q2, q3, q4, q5⟩, ⟨m2, m2b, m2c, m2d, m2e⟩, ⟨m3, m3b⟩, ⟨m4, m5, m6, m7⟩, m8, m9, m10, m11⟩ := hM
  have e4 : (pl - 1) / 4 = pl / 4 := by omega
  have hwho : (ldM + (ly - 1)) % 4 = who L (pl - 1) := by rw [who_lo hm, m7 e, m5]
  have hw4 : who L (pl - 1) < 4 := Nat.mod_lt _ (by omega)
  have eK : K (ly - 1) = c (pl - 1) := by rw [m8 (ly - 1) (by omega)]; congr 1; omega
  have eI : I (ly - 1) = bt rv (pl - 1) := by rw [m9 (ly - 1) (by omega)]; congr 1; omega
  have hlow : ∀ i, i < pl - 1 → bt (sDel rv (pl - 1)) i = bt rv i := by
    intro i hi
    rw [bt_del (by omega) (by omega), decide_eq_false (by omega)]
    simp
  have hk : ∀ p, rvK rv L pl p = rvK (sDel rv (pl - 1)) L (pl - 1) p + (if bt rv (pl - 1) && decide (who L (pl - 1) = p) then 1 else 0) := by
    intro p
    have h5 := rvK_s rv L (pl - 1) p
    rw [show pl - 1 + 1 = pl by omega] at h5
    rw [h5]
    congr 1
    exact fb_ct_cong (fun i hi => by rw [hlow i hi])
  have hVp : ∀ p, p < 4 → uN V (who L (pl - 1)) (V (who L (pl - 1)) - b2n (I (ly - 1))) p = rvK (sDel rv (pl - 1)) L (pl - 1) p := by
    intro p hp
    have h6 := hk p
    rw [← m10 p hp] at h6
    show (if p = who L (pl - 1) then V (who L (pl - 1)) - b2n (I (ly - 1)) else V p) = _
    by_cases q : p = who L (pl - 1)
    · rw [if_pos q, ← q, eI]
      rw [decide_eq_true q.symm, Bool.and_true] at h6
      unfold b2n
      omega
    · rw [if_neg q]
      rw [decide_eq_false (fun g => q g.symm), Bool.and_false] at h6
      simpa using h6
  refine ⟨⟨⟨q1, q2, q3, q4, q5⟩, ⟨m2, m2b, m2c, m2d, m2e⟩, ⟨m3, m3b⟩, ⟨by omega, by omega, m6, fun q => by rw [e4]; exact m7 q⟩, fun k hk => ?_, fun k hk => ?_, fun p hp => ?_, fun i hi => ?_⟩, hwho, eK, fun q => ?_⟩
  · rw [e4]; exact m8 k (by omega)
  · rw [e4, hlow _ (by omega)]; exact m9 k (by omega)
  · rw [hwho]; exact hVp p hp
  · rw [e4] at hi; exact m11 i hi
  · have h6 := hk (who L (pl - 1))
    rw [← m10 _ hw4, ← eI, q, decide_eq_true rfl] at h6
    rw [hwho]
    simp at h6
    omega
end
