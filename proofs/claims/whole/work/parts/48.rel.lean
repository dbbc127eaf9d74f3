/-! the relation of the class and the model -/
def INV (st : Nat) (h : Nat → Int32) (c L : Nat → Nat) (sz pl : Nat) (rv : Int32) (tr tu : Nat) (b : Nat → Nat) (n dl ll lb ti pa : Nat) (tk : Nat → Nat) (z kp : Nat) : Prop :=
  (st < 4 ∧ dl < 4 ∧ AI b n dl ll lb ti pa) ∧
  (st = 0 → n = 0 ∧ pl = 0 ∧ sz = 0 ∧ ∀ p, p < 4 → pc (h p) ≤ 8) ∧
  (st = 1 → (LV b n = 0 → n ≤ 3) ∧ (0 < LV b n → pa ≤ 2) ∧ pl = 0 ∧ 0 < sz ∧ ∀ p, p < 4 → pc (h p) = sz) ∧
  (st = 2 → 0 < LV b n ∧ pa = 3 ∧ G2 h c L sz pl rv tr tu kp ∧ 0 < kp ∧ tr = (ll - 1) % 5 ∧ ∀ i, 4 * (pl / 4) ≤ i → i < pl → bt (h (who L i)) (c i) = false) ∧
  (st = 3 → ((LV b n = 0 ∧ n = 4) ∨ (0 < LV b n ∧ pa = 3)) ∧ pl % 4 = 0) ∧
  (pl / 4 ≤ sz ∧ sz ≤ 8 ∧ pl ≤ 32 ∧ tr ≤ 4 ∧ tu < 4) ∧ (∀ i, i < pl → c i < 32) ∧ (∀ j, j ≤ pl / 4 → L j < 4) ∧ (∀ i, pl ≤ i → i < 32 → bt rv i = false) ∧ tk 0 + tk 1 = pl / 4 ∧ (stl ll pa = true → isZ b n dl ll lb z)
def MOD (st : Nat) (c L : Nat → Nat) (sz pl : Nat) (rv : Int32) (b : Nat → Nat) (n dl ll ti pa z : Nat) (szM bq : Nat) (lv : Int32) (trM dcM tiM tc : Nat) (T : Nat → Nat) (ldM ly : Nat) (K V : Nat → Nat) (I : Nat → Bool) (e5 : am_E) (r : am_M) (N : Nat) (bm : Nat → Nat) : Prop :=
  (bqA bq e5 r N bm ∧ n ≤ N ∧ N ≤ 1000 ∧ 0 < N ∧ ∀ j, j < n → bm j = b j) ∧
  ((stl ll pa = true → lv = nI ((ll - 1) / 5 + 1) ∧ trM = (ll - 1) % 5 ∧ dcM = (dl + z) % 4 ∧ tiM = ti) ∧ (stl ll pa = false → lv = -1) ∧ trM ≤ 4 ∧ dcM < 4 ∧ tiM ≤ 4) ∧
  ((st ≠ 0 → szM = sz) ∧ szM ≤ 8) ∧ (tc = pl / 4 ∧ ly = pl % 4 ∧ ldM < 4 ∧ (st = 2 → ldM = L (pl / 4))) ∧
  (∀ k, k < pl % 4 → K k = c (4 * (pl / 4) + k)) ∧ (∀ k, k < pl % 4 → I k = bt rv (4 * (pl / 4) + k)) ∧ (∀ p, p < 4 → V p = rvK rv L pl p) ∧ (∀ i, i < 6 * (pl / 4) → T i = trkV c L (i / 6) (i % 6))
def eO (f : Nat → Int64) : am_E := .inl (2, 1, .inr (.inl f))
def REL (w : am_M) (th : Nat) (f : Nat → Int64) : Prop :=
  ∃ (st : Nat) (dn : Int32) (h : Nat → Int32) (c L : Nat → Nat) (sz pl : Nat) (rv : Int32) (tr tu : Nat) (t : am_T5) (b : Nat → Nat) (n dl ll lb ti pa : Nat) (tk : Nat → Nat) (sc : Nat → Int32) (szM bq : Nat) (lv : Int32) (trM dcM tiM tc : Nat) (T : Nat → Nat) (ldM ly : Nat) (K V : Nat → Nat) (I : Nat → Bool) (R : Nat → Nat → Nat) (e5 : am_E) (r : am_M) (N : Nat) (bm : Nat → Nat) (z kp : Nat),
    w = (wt st dn h c L sz pl rv tr tu t b n dl ll lb ti pa tk sc ((cm th st dl szM h n bq lv trM dcM tiM tc T ldM ly K V I tk sc dn R e5 (eO f) r))) ∧ (INV st h c L sz pl rv tr tu b n dl ll lb ti pa tk z kp) ∧ (MOD st c L sz pl rv b n dl ll ti pa z szM bq lv trM dcM tiM tc T ldM ly K V I e5 r N bm)
def ST2 (l : Launch) (d y : Nat) (as : List Value) (w1 : am_M) (kk : Nat) (cv : Int32 → Int64) : Prop := ∀ Q2 : am_Q, (∀ bb w2 f2, REL w2 kk f2 → (kk = 0 → f2 0 = cv bb) → Q2 (.inl (some (.int bb))) w2) → am_Call l d y 1 as w1 Q2
def ST1 (l : Launch) (d y y' : Nat) (as : List Value) (w : am_M) (cv : Int32 → Int64) : Prop := ∀ Q1 : am_Q, (∀ kk w1, kk < 3 → (∃ fs, w1[13]? = some (.inr (3, fs))) → ST2 l d y' (.ref 13 :: as) w1 kk cv → Q1 (.inl (some (.int (nI kk)))) w1) → am_Call l d y 1 (.ref 0 :: (as ++ [.ref 28])) w Q1
def cvI (x : Int32) : Int64 := x.toInt64
def cvZ (x : Int32) : Int64 := if x = 0 then 0 else 1
theorem out0 (f : Nat → Int64) (v : Int64) : vp_updL f 0 v 0 = v := if_pos rfl
section
variable {l : Launch} {d k : Nat} {Q : am_Q} {st : Nat} {dn : Int32} {h : Nat → Int32} {c L : Nat → Nat} {sz pl : Nat} {rv : Int32} {tr tu : Nat} {t : am_T5} {b : Nat → Nat} {n dl ll lb ti pa : Nat} {tk : Nat → Nat} {sc : Nat → Int32} {th szM bq : Nat} {lv : Int32} {trM dcM tiM tc : Nat} {T : Nat → Nat} {ldM ly : Nat} {K V : Nat → Nat} {I : Nat → Bool} {R : Nat → Nat → Nat} {e5 : am_E} {f : Nat → Int64} {r : am_M} {N : Nat} {bm : Nat → Nat} {z kp : Nat}
theorem REL_mk (hI : (INV st h c L sz pl rv tr tu b n dl ll lb ti pa tk z kp)) (hM : (MOD st c L sz pl rv b n dl ll ti pa z szM bq lv trM dcM tiM tc T ldM ly K V I e5 r N bm)) : REL (wt st dn h c L sz pl rv tr tu t b n dl ll lb ti pa tk sc ((cm th st dl szM h n bq lv trM dcM tiM tc T ldM ly K V I tk sc dn R e5 (eO f) r))) th f := ⟨st, dn, h, c, L, sz, pl, rv, tr, tu, t, b, n, dl, ll, lb, ti, pa, tk, sc, szM, bq, lv, trM, dcM, tiM, tc, T, ldM, ly, K, V, I, R, e5, r, N, bm, z, kp, rfl, hI, hM⟩
theorem INV_n (hI : (INV st h c L sz pl rv tr tu b n dl ll lb ti pa tk z kp)) : n ≤ 364 := by
  obtain ⟨⟨h1, h2, h3⟩, i0, i1, i2, i3, _⟩ := hI
  refine AI_n h3 (fun e => ?_) (fun e => ?_)
  · have : st = 0 ∨ st = 1 ∨ st = 2 ∨ st = 3 := by omega
    rcases this with q | q | q | q
    · have := (i0 q).1; omega
    · have := (i1 q).1 e; omega
    · have := (i2 q).1; omega
    · rcases (i3 q).1 with a | a
      · omega
      · omega
  · have : st = 0 ∨ st = 1 ∨ st = 2 ∨ st = 3 := by omega
    rcases this with q | q | q | q
    · have h4 := (i0 q).1
      have := LV_le b n
      omega
    · have := (i1 q).2.1 e; omega
    · have := (i2 q).2.1; omega
    · rcases (i3 q).1 with a | a
      · omega
      · omega
theorem INV_stl (hI : (INV st h c L sz pl rv tr tu b n dl ll lb ti pa tk z kp)) : stl ll pa = true ↔ (st = 2 ∨ (st = 3 ∧ 0 < LV b n)) := by
  obtain ⟨⟨h1, h2, h3⟩, i0, i1, i2, i3, _⟩ := hI
  have hb := (AI_b h3).2.2.2.2.2
  have hll : 0 < ll ↔ 0 < LV b n := by
    constructor
    · intro q
      rcases Nat.eq_zero_or_pos (LV b n) with e | e
      · have := hb.mpr e; omega
      · exact e
    · intro q
      rcases Nat.eq_zero_or_pos ll with e | e
      · have := hb.mp e; omega
      · exact e
  rw [stl_iff, hll]
  have : st = 0 ∨ st = 1 ∨ st = 2 ∨ st = 3 := by omega
  rcases this with q | q | q | q
  · have h4 := (i0 q).1
    have := LV_le b n
    constructor
    · rintro ⟨a, _⟩; omega
    · rintro (a | a) <;> omega
  · have h4 := (i1 q).2.1
    constructor
    · rintro ⟨a, a2⟩; have := h4 a; omega
    · rintro (a | a) <;> omega
  · have h4 := i2 q
    exact ⟨fun _ => Or.inl q, fun _ => ⟨h4.1, by omega⟩⟩
  · have h4 := (i3 q).1
    constructor
    · rintro ⟨a, _⟩; exact Or.inr ⟨q, a⟩
    · rintro (a | ⟨_, a⟩)
      · omega
      · rcases h4 with e | e
        · omega
        · exact ⟨a, by omega⟩
theorem INV_m (hI : (INV st h c L sz pl rv tr tu b n dl ll lb ti pa tk z kp)) (hm : pl % 4 ≠ 0) : st = 2 := by
  obtain ⟨⟨h1, _, _⟩, i0, i1, i2, i3, _⟩ := hI
  have : st = 0 ∨ st = 1 ∨ st = 2 ∨ st = 3 := by omega
  rcases this with q | q | q | q
  · have := (i0 q).2.1; omega
  · have := (i1 q).2.2.1; omega
  · exact q
  · have := (i3 q).2; omega
theorem INV_GA (hI : (INV st h c L sz pl rv tr tu b n dl ll lb ti pa tk z kp)) : GA st h c L sz pl rv tr tu b n dl ll lb pa z kp := by
  have hn := INV_n hI
  obtain ⟨⟨h1, h2, h3⟩, i0, i1, i2, i3, ⟨j1, j2, j3, j4, j5⟩, j6, j7, j8, j9, j10⟩ := hI
  have hb := AI_b h3
  exact ⟨h1, h2, hn, hb.1, hb.2.1, by omega, h3.1, j10, j3, j4, j5, j6, j7, fun e => ⟨(i2 e).2.2.1, (i2 e).2.2.2.1⟩⟩
theorem REL_GM (hI : (INV st h c L sz pl rv tr tu b n dl ll lb ti pa tk z kp)) (hM : (MOD st c L sz pl rv b n dl ll ti pa z szM bq lv trM dcM tiM tc T ldM ly K V I e5 r N bm)) : GM st h K ldM ly kp := by
  obtain ⟨⟨h1, h2, h3⟩, i0, i1, i2, i3, ⟨j1, j2, j3, j4, j5⟩, j6, j7, j8, j9, j10⟩ := hI
  obtain ⟨m1, m2, m3, ⟨m4, m5, m6, m7⟩, m8, m9, m10, m11⟩ := hM
  refine ⟨m6, by omega, ?_, fun e => ?_⟩
  · intro i hi
    rw [m8 i (by omega)]
    exact j6 _ (by omega)
  · have g := (i2 e).2.2.1
    rw [m7 e, m5]
    exact ⟨g.2.2.2.2.1, (i2 e).2.2.2.1⟩
theorem V_le (hM : (MOD st c L sz pl rv b n dl ll ti pa z szM bq lv trM dcM tiM tc T ldM ly K V I e5 r N bm)) (hp : pl ≤ 32) : ∀ p, p < 4 → V p ≤ 32 := by
  obtain ⟨m1, m2, m3, ⟨m4, m5, m6, m7⟩, m8, m9, m10, m11⟩ := hM
  intro p hp4
  rw [m10 p hp4]
  exact Nat.le_trans (fb_ct_le _ _) hp
theorem e_row (hI : (INV st h c L sz pl rv tr tu b n dl ll lb ti pa tk z kp)) (hM : (MOD st c L sz pl rv b n dl ll ti pa z szM bq lv trM dcM tiM tc T ldM ly K V I e5 r N bm)) (e : st = 2) : L (pl / 4) = ldM ∧ pl % 4 = ly ∧ ∀ k, k < ly → K k = rowOf c (pl / 4) k := by
  obtain ⟨m1, m2, m3, ⟨m4, m5, m6, m7⟩, m8, m9, m10, m11⟩ := hM
  exact ⟨(m7 e).symm, m5.symm, fun k hk => m8 k (by omega)⟩
theorem e_who (hI : (INV st h c L sz pl rv tr tu b n dl ll lb ti pa tk z kp)) (hM : (MOD st c L sz pl rv b n dl ll ti pa z szM bq lv trM dcM tiM tc T ldM ly K V I e5 r N bm)) (e : st = 2) : (ldM + ly) % 4 = tu := by
  obtain ⟨m1, m2, m3, ⟨m4, m5, m6, m7⟩, _⟩ := hM
  obtain ⟨_, _, _, i2, _⟩ := hI
  rw [(i2 e).2.2.1.1, m5, m7 e]
  rfl
theorem e_con (hI : (INV st h c L sz pl rv tr tu b n dl ll lb ti pa tk z kp)) (hM : (MOD st c L sz pl rv b n dl ll ti pa z szM bq lv trM dcM tiM tc T ldM ly K V I e5 r N bm)) (wh : Nat) : conV ll ti pa ((dl + z) % 4) wh = conM lv trM dcM tiM wh := by
  obtain ⟨m1, ⟨m2, m3, m4, m5, m6⟩, _⟩ := hM
  unfold conV conM
  cases hs : stl ll pa with
  | false =>
    rw [m3 hs]
    rfl
  | true =>
    obtain ⟨a, b1, c1, d1⟩ := m2 hs
    have hll := (stl_t hs).1
    have hb := AI_b hI.1.2.2
    rw [if_neg (by decide), a, if_neg (nI_m1 (by omega)), b1, c1, d1]
theorem e_now (hI : (INV st h c L sz pl rv tr tu b n dl ll lb ti pa tk z kp)) (hM : (MOD st c L sz pl rv b n dl ll ti pa z szM bq lv trM dcM tiM tc T ldM ly K V I e5 r N bm)) (wh : Nat) : nowV st dn c L pl tr tu n dl wh = nowM st dn n dl tc ldM ly trM K wh := by
  have hrow := e_row hI hM
  have hwho := e_who hI hM
  have hm := INV_m hI
  have hI' := hI
  have hM' := hM
  obtain ⟨⟨h1, h2, h3⟩, i0, i1, i2, i3, ⟨j1, j2, j3, j4, j5⟩, j6, j7, j8, j9, j10⟩ := hI'
  obtain ⟨m1, ⟨m2, m2b, m2c, m2d, m2e⟩, m3, ⟨m4, m5, m6, m7⟩, m8, m9, m10, m11⟩ := hM'
  unfold nowV nowM
  have e2 : turnV st tu dl n = turnV st ((ldM + ly) % 4) dl n := by
    unfold turnV
    by_cases q : st = 2
    · rw [hwho q]
    · rw [if_neg q, if_neg q]
  have e6 : takeV (L (pl / 4)) (rowOf c (pl / 4)) tr (pl % 4) = takeV ldM K trM ly := by
    by_cases q : pl % 4 = 0
    · rw [m5, takeV, takeV, if_pos q, if_pos q]
    · have q2 := hm q
      obtain ⟨a1, a2, a3⟩ := hrow q2
      have ht : tr = trM := by
        have hs := (INV_stl hI).mpr (Or.inl q2)
        rw [(i2 q2).2.2.2.2.1, (m2 hs).2.1]
      rw [a1, a2, ht, takeV, takeV, BI_cong (fun i hi => (a3 i hi).symm)]
  rw [e2, e6, m4, m5]
theorem e_side (hM : (MOD st c L sz pl rv b n dl ll ti pa z szM bq lv trM dcM tiM tc T ldM ly K V I e5 r N bm)) (s wh : Nat) (hs : s < 2) : sideV rv L pl tk sc s wh = sideM V tk sc s wh := by
  obtain ⟨m1, m2, m3, ⟨m4, m5, m6, m7⟩, m8, m9, m10, m11⟩ := hM
  unfold sideV sideM revV
  rw [m10 s (by omega), m10 (s + 2) (by omega)]
theorem e_best (hI : (INV st h c L sz pl rv tr tu b n dl ll lb ti pa tk z kp)) (hM : (MOD st c L sz pl rv b n dl ll ti pa z szM bq lv trM dcM tiM tc T ldM ly K V I e5 r N bm)) (tm : Nat) : bestV st h c L pl tm kp = bestM st h K ldM ly tm kp := by
  unfold bestV bestM
  cases hb : hbp st h with
  | false => rfl
  | true =>
    have e := (hbp_t hb).1
    obtain ⟨a1, a2, a3⟩ := e_row hI hM e
    rw [if_pos rfl, if_pos rfl, nl, bp, a1, a2]
    congr 1
    exact vl_cong (by omega) (fun p _ => rfl) (fun k hk => (a3 k hk).symm)
theorem e_tr (hI : (INV st h c L sz pl rv tr tu b n dl ll lb ti pa tk z kp)) (hM : (MOD st c L sz pl rv b n dl ll ti pa z szM bq lv trM dcM tiM tc T ldM ly K V I e5 r N bm)) (e : st = 2) : tr = trM := by
  have hs := (INV_stl hI).mpr (Or.inl e)
  obtain ⟨⟨h1, h2, h3⟩, i0, i1, i2, i3, _⟩ := hI
  obtain ⟨m1, ⟨m2, m2b, m2c, m2d, m2e⟩, _⟩ := hM
  rw [(i2 e).2.2.2.2.1, (m2 hs).2.1]
theorem e_best2 (hI : (INV st h c L sz pl rv tr tu b n dl ll lb ti pa tk z kp)) (hM : (MOD st c L sz pl rv b n dl ll ti pa z szM bq lv trM dcM tiM tc T ldM ly K V I e5 r N bm)) : bestV st h c L pl tr kp = bestM st h K ldM ly trM kp := by
  rw [e_best hI hM]
  unfold bestM
  cases hb : hbp st h with
  | false => rfl
  | true => rw [e_tr hI hM (hbp_t hb).1]
theorem e_bw (hI : (INV st h c L sz pl rv tr tu b n dl ll lb ti pa tk z kp)) (hM : (MOD st c L sz pl rv b n dl ll ti pa z szM bq lv trM dcM tiM tc T ldM ly K V I e5 r N bm)) (e : st = 2) (cd : Nat) : bw (nl pl kp - 1) h c L pl tr cd = wv (4 * kp - ly - 1) h ly K ldM trM cd := by
  obtain ⟨a1, a2, a3⟩ := e_row hI hM e
  rw [nl, bw, a1, a2, e_tr hI hM e]
  exact wv_cong (by omega) (fun k hk => (a3 k hk).symm)
theorem e_with (hI : (INV st h c L sz pl rv tr tu b n dl ll lb ti pa tk z kp)) (hM : (MOD st c L sz pl rv b n dl ll ti pa z szM bq lv trM dcM tiM tc T ldM ly K V I e5 r N bm)) (cd : Nat) : withV st h c L pl tr kp cd = withM st h K ldM ly trM kp cd := by
  unfold withV withM
  cases hb : hbp st h with
  | false => rfl
  | true => rw [if_pos rfl, if_pos rfl, e_bw hI hM (hbp_t hb).1]
theorem e_bc (hI : (INV st h c L sz pl rv tr tu b n dl ll lb ti pa tk z kp)) (hM : (MOD st c L sz pl rv b n dl ll ti pa z szM bq lv trM dcM tiM tc T ldM ly K V I e5 r N bm)) : bcV st h c L pl tr kp = bcM st h K ldM ly trM kp := by
  have hbst := e_best2 hI hM
  unfold bcV bcM
  unfold bestV bestM at hbst
  cases hb : hbp st h with
  | false => rfl
  | true =>
    have e := (hbp_t hb).1
    obtain ⟨a1, a2, a3⟩ := e_row hI hM e
    rw [hb, if_pos rfl, if_pos rfl] at hbst
    have hv : bp (nl pl kp) h c L pl tr = vl (4 * kp - ly) h ly K ldM trM := by
      rw [nl, bp, a1, a2, e_tr hI hM e]
      exact vl_cong (by omega) (fun p _ => rfl) (fun k hk => (a3 k hk).symm)
    rw [if_pos rfl, if_pos rfl]
    congr 2
    funext cd
    have hS : RC h c pl (who L pl) = rsS h K ly ((ldM + ly) % 4) := by
      have : who L pl = (ldM + ly) % 4 := by unfold who; rw [a1, a2]
      rw [this, RC_rs, a2]
      exact rsS_cong (fun h0 => (a3 0 (by omega)).symm)
    unfold bcP bcMP
    rw [hS, e_bw hI hM e, hv]
theorem e_dig (hI : (INV st h c L sz pl rv tr tu b n dl ll lb ti pa tk z kp)) (hM : (MOD st c L sz pl rv b n dl ll ti pa z szM bq lv trM dcM tiM tc T ldM ly K V I e5 r N bm)) : digV st dn h c L pl rv tr tu b n dl ll ti pa tk sc z kp = digM st dn h n dl lv trM dcM tiM tc T ldM ly K V tk sc bm kp := by
  have hM' := hM
  obtain ⟨⟨q1, q2, q3, q4, q5⟩, ⟨m2, m2b, m2c, m2d, m2e⟩, m3, ⟨m4, m5, m6, m7⟩, m8, m9, m10, m11⟩ := hM'
  unfold digV digM
  rw [fdN_c (n := 8) (fun i _ => e_now hI hM i), fdN_c (n := 4) (fun i _ => e_con hI hM i), fdN_c (n := n) (v' := fun j => nI (bm j)) (fun j hj => by rw [q5 j hj]), m4, fdN_c (n := 6 * (pl / 4)) (v' := fun i => nI (T i)) (fun i hi => by rw [m11 i hi]), fdN_c (n := 6) (v' := fun i => sideM V tk sc (i / 3) (i % 3)) (fun i hi => e_side hM _ _ (by omega)), e_best2 hI hM, e_bc hI hM]
  exact fdN_c (fun i _ => e_best hI hM i)
end
