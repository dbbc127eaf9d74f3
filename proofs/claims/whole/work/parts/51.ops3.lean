/-! playing a CARD: what is kept (pure) -/
theorem rb_lo {h : Nat → Int32} {c : Nat → Nat} {pl tu cd i : Nat} {rv : Int32} (hp : pl < 32) (hi : i < 32) (hne : i ≠ pl) : bt (pRv h c pl rv tu cd) i = bt rv i := by
  unfold pRv
  split
  · rfl
  · rw [bt_add hp hi, decide_eq_false hne, Bool.or_false]
theorem rb_at {h : Nat → Int32} {c : Nat → Nat} {pl tu cd : Nat} {rv : Int32} (hp : pl < 32) (hz : bt rv pl = false) : bt (pRv h c pl rv tu cd) pl = !bt (RC h c pl tu) cd := by
  unfold pRv
  cases hb : bt (RC h c pl tu) cd with
  | true => simpa using hz
  | false =>
    rw [if_neg (by decide), bt_add hp hp, hz]
    simp
theorem who_pL {c L : Nat → Nat} {pl tr cd i : Nat} (hi : i < pl + 1) : who (pL c L pl tr cd) i = who L i := by
  unfold who
  rw [pL_lo (show i / 4 ≤ pl / 4 by omega)]
theorem uc_lo (c : Nat → Nat) (cd : Nat) {pl i : Nat} (hi : i < pl) : uN c pl cd i = c i := uN_n _ _ (by omega)
theorem trkV_pL {c L : Nat → Nat} {pl tr cd i : Nat} (hi : i < 6 * (pl / 4)) : trkV (uN c pl cd) (pL c L pl tr cd) (i / 6) (i % 6) = trkV c L (i / 6) (i % 6) := by
  unfold trkV
  rw [pL_lo (show i / 6 ≤ pl / 4 by omega), pL_lo (show i / 6 + 1 ≤ pl / 4 by omega), uc_lo c cd (show 4 * (i / 6) + (i % 6 - 2 + 4 - L (i / 6)) % 4 < pl by omega)]
theorem tk_sum {tk : Nat → Nat} {s m : Nat} (hs : s < 2) (h : tk 0 + tk 1 = m) : uN tk s (tk s + 1) 0 + uN tk s (tk s + 1) 1 = m + 1 := by
  have : s = 0 ∨ s = 1 := by omega
  rcases this with e | e
  · rw [e, uN_s, uN_n _ _ (by omega)]; omega
  · rw [e, uN_s, uN_n _ _ (by omega)]; omega
theorem pTk_sum {c L tk : Nat → Nat} {pl tr cd : Nat} (h : tk 0 + tk 1 = pl / 4) : pTk c L pl tr cd tk 0 + pTk c L pl tr cd tk 1 = (pl + 1) / 4 := by
  unfold pTk
  by_cases e : (pl + 1) % 4 = 0
  · rw [if_pos e, tk_sum (Nat.mod_lt _ (by omega)) h]; omega
  · rw [if_neg e, h]; omega
theorem payM_N {V : Nat → Nat} {rv : Int32} {L : Nat → Nat} {pl : Nat} {tk : Nat → Nat} (h : ∀ p, p < 4 → V p = rvK rv L pl p) : ∀ n, n ≤ 4 → payM V tk n = payN rv L pl tk n
  | 0, _ => rfl
  | n + 1, hn => by rw [payM, payN, h n (by omega), payM_N h n (by omega)]
section
variable {st : Nat} {dn : Int32} {h : Nat → Int32} {c L : Nat → Nat} {sz pl : Nat} {rv : Int32} {tr tu : Nat} {t : am_T5} {b : Nat → Nat} {n dl ll lb ti pa : Nat} {tk : Nat → Nat} {sc : Nat → Int32} {th szM bq : Nat} {lv : Int32} {trM dcM tiM tc : Nat} {T : Nat → Nat} {ldM ly : Nat} {K V : Nat → Nat} {I : Nat → Bool} {R : Nat → Nat → Nat} {e5 : am_E} {f : Nat → Int64} {r : am_M} {N : Nat} {bm : Nat → Nat} {z kp cd : Nat}
theorem inv_pc (hI : (INV st h c L sz pl rv tr tu b n dl ll lb ti pa tk z kp)) (e : st = 2) (hc : cd < 32) (hb : bt (h tu) cd = true) : pl < 32 ∧ tu = who L pl ∧ L (pl / 4) < 4 ∧ (pl / 4) < sz ∧ sz ≤ 8 ∧ bal (upd h tu (sDel (h tu) cd)) (pL c L pl tr cd) (pl + 1) (if (pl + 1) % 4 = 0 then kp - 1 else kp) ∧ (∀ i, pl + 1 ≤ i → i < 32 → bt (pRv h c pl rv tu cd) i = false) ∧ (∀ i, i < pl + 1 → uN c pl cd i < 32) ∧ pTu c L pl tr tu cd = who (pL c L pl tr cd) (pl + 1) ∧ pTu c L pl tr tu cd < 4 := by
  obtain ⟨⟨h1, h2, h3⟩, i0, i1, i2, i3, ⟨j1, j2, j3, j4, j5⟩, j6, j7, j8, j9, j10⟩ := hI
  obtain ⟨a1, a2, ⟨g1, g2, g3, g4, g5, g6, g7, g8⟩, a4, a5, a6⟩ := i2 e
  have hp : pl < 32 := by omega
  have hL4 := j7 (pl / 4) (Nat.le_refl _)
  have hw := pTu_who (c := c) (tr := tr) (cd := cd) hL4
  refine ⟨hp, g1, hL4, by omega, j2, ?_, ?_, ?_, ?_, ?_⟩
  · rw [g1]
    rw [g1] at hb
    exact bal_step g5 hL4 hc hb
  · intro i hi h32
    rw [rb_lo hp h32 (by omega)]
    exact j8 i (by omega) h32
  · intro i hi
    show (if i = pl then cd else c i) < 32
    split
    · exact hc
    · exact j6 i (by omega)
  · rw [g1]; exact hw
  · rw [g1, hw]; exact Nat.mod_lt _ (by omega)
theorem inv_play (hI : (INV st h c L sz pl rv tr tu b n dl ll lb ti pa tk z kp)) (e : st = 2) (hc : cd < 32) (hb : bt (h tu) cd = true) (hs : (pl + 1) / 4 < sz) : (INV st (upd h tu (sDel (h tu) cd)) (uN c pl cd) (pL c L pl tr cd) sz (pl + 1) (pRv h c pl rv tu cd) tr (pTu c L pl tr tu cd) b n dl ll lb ti pa (pTk c L pl tr cd tk) z (if (pl + 1) % 4 = 0 then kp - 1 else kp)) := by
  obtain ⟨p1, p2, p3, p4, p5, p6, p7, p8, p9, p10⟩ := inv_pc hI e hc hb
  obtain ⟨⟨h1, h2, h3⟩, i0, i1, i2, i3, ⟨j1, j2, j3, j4, j5⟩, j6, j7, j8, j9, j10⟩ := hI
  obtain ⟨a1, a2, ⟨g1, g2, g3, g4, g5, g6, g7, g8⟩, a4, a5, a6⟩ := i2 e
  have hkp : sz = (pl + 1) / 4 + (if (pl + 1) % 4 = 0 then kp - 1 else kp) := by
    split <;> omega
  have hLt := pL_lt (c := c) (tr := tr) (cd := cd) j7
  refine ⟨⟨h1, h2, h3⟩, fun q => by omega, fun q => by omega, fun _ => ⟨a1, a2, ⟨p9, hkp, g3, g4, p6, p8, hLt, p7⟩, by omega, a5, ?_⟩, fun q => by omega, ⟨by omega, j2, by omega, j4, p10⟩, p8, hLt, p7, pTk_sum j9, j10⟩
  intro i hi1 hi2
  rw [who_pL hi2]
  by_cases q : i = pl
  · rw [q, ← p2, up_s, uN_s, bt_del hc hc, decide_eq_true rfl]
    simp
  · have hne : who L i ≠ tu := by
      rw [p2]
      unfold who
      rw [show i / 4 = pl / 4 by omega]
      omega
    rw [up_n _ _ hne, uc_lo _ _ (by omega)]
    exact a6 i (by omega) (by omega)
theorem inv_fin (hI : (INV st h c L sz pl rv tr tu b n dl ll lb ti pa tk z kp)) (e : st = 2) (hc : cd < 32) (hb : bt (h tu) cd = true) (hs : (pl + 1) / 4 = sz) : (INV 3 (upd h tu (sDel (h tu) cd)) (uN c pl cd) (pL c L pl tr cd) sz (pl + 1) (pRv h c pl rv tu cd) tr (pTu c L pl tr tu cd) b n dl ll lb ti pa (payN (pRv h c pl rv tu cd) (pL c L pl tr cd) (pl + 1) (pTk c L pl tr cd tk) 4) z 0) := by
  obtain ⟨p1, p2, p3, p4, p5, p6, p7, p8, p9, p10⟩ := inv_pc hI e hc hb
  obtain ⟨⟨h1, h2, h3⟩, i0, i1, i2, i3, ⟨j1, j2, j3, j4, j5⟩, j6, j7, j8, j9, j10⟩ := hI
  obtain ⟨a1, a2, ⟨g1, g2, g3, g4, g5, g6, g7, g8⟩, a4, a5, a6⟩ := i2 e
  have hLt := pL_lt (c := c) (tr := tr) (cd := cd) j7
  exact ⟨⟨by omega, h2, h3⟩, fun q => by omega, fun q => by omega, fun q => by omega, fun _ => ⟨Or.inr ⟨a1, a2⟩, by omega⟩, ⟨by omega, j2, by omega, j4, p10⟩, p8, hLt, p7, payN_sum (pTk_sum j9) 4, j10⟩
/-- the model's side -/
theorem mod_pc (hI : (INV st h c L sz pl rv tr tu b n dl ll lb ti pa tk z kp)) (hM : (MOD st c L sz pl rv b n dl ll ti pa z szM bq lv trM dcM tiM tc T ldM ly K V I e5 r N bm)) (e : st = 2) (hc : cd < 32) (hb : bt (h tu) cd = true) {bb : Bool} (hbb : bb = !rnV (h tu) cd K ly) : (∀ k, k < pl % 4 + 1 → uN K ly cd k = uN c pl cd (4 * (pl / 4) + k)) ∧ (∀ k, k < pl % 4 + 1 → uB I ly bb k = bt (pRv h c pl rv tu cd) (4 * (pl / 4) + k)) ∧ (∀ p, p < 4 → uN V tu (V tu + b2n bb) p = rvK (pRv h c pl rv tu cd) (pL c L pl tr cd) (pl + 1) p) ∧ (ldM + ly) % 4 = tu ∧ (ly = 3 → (ldM + BI (uN K ly cd) trM 4) % 4 = pT c L pl tr cd) := by
  have hwho := e_who hI hM e
  have htr := e_tr hI hM e
  obtain ⟨r1, r2, r3⟩ := e_row hI hM e
  obtain ⟨p1, p2, p3, p4, p5, p6, p7, p8, p9, p10⟩ := inv_pc hI e hc hb
  obtain ⟨⟨h1, h2, h3⟩, i0, i1, i2, i3, ⟨j1, j2, j3, j4, j5⟩, j6, j7, j8, j9, j10⟩ := hI
  obtain ⟨⟨q1, q2, q3, q4, q5⟩, ⟨m2, m2b, m2c, m2d, m2e⟩, ⟨m3, m3b⟩, ⟨m4, m5, m6, m7⟩, m8, m9, m10, m11⟩ := hM
  have hz := j8 pl (Nat.le_refl _) p1
  have hK : ∀ k, k < pl % 4 + 1 → uN K ly cd k = uN c pl cd (4 * (pl / 4) + k) := by
    intro k hk
    show (if k = ly then cd else K k) = if 4 * (pl / 4) + k = pl then cd else c (4 * (pl / 4) + k)
    by_cases q : k = ly
    · rw [if_pos q, if_pos (by omega)]
    · rw [if_neg q, if_neg (by omega)]
      exact m8 k (by omega)
  have hbt : bb = !bt (RC h c pl tu) cd := by
    rw [hbb, RC_rs, r2, rnV_rs hc (fun q => by rw [m8 0 (by omega)]; exact j6 _ (by omega)) hb, rsS_cong (row := K) (row' := rowOf c (pl / 4)) (fun q => m8 0 (by omega))]
  have hV : ∀ p, p < 4 → uN V tu (V tu + b2n bb) p = rvK (pRv h c pl rv tu cd) (pL c L pl tr cd) (pl + 1) p := by
    intro p hp
    have e1 : rvK (pRv h c pl rv tu cd) (pL c L pl tr cd) pl p = rvK rv L pl p := fb_ct_cong (fun i hi => by rw [rb_lo p1 (by omega) (by omega), who_pL (by omega)])
    rw [rvK_s, e1, ← m10 p hp, rb_at p1 hz, who_pL (by omega), ← p2, ← hbt]
    show (if p = tu then V tu + b2n bb else V p) = _
    by_cases q : p = tu
    · rw [if_pos q, q, decide_eq_true rfl, Bool.and_true]
      rfl
    · rw [if_neg q, decide_eq_false (fun g => q g.symm), Bool.and_false]
      simp
  refine ⟨hK, fun k hk => ?_, hV, hwho, fun q => ?_⟩
  · show (if k = ly then bb else I k) = _
    by_cases q : k = ly
    · rw [if_pos q, show 4 * (pl / 4) + k = pl by omega, rb_at p1 hz, hbt]
    · rw [if_neg q, rb_lo p1 (by omega) (by omega)]
      exact m9 k (by omega)
  · unfold pT
    rw [r1, htr]
    congr 2
    exact BI_cong (fun i hi => by rw [hK i (by omega)]; rfl)
theorem mod_play (hI : (INV st h c L sz pl rv tr tu b n dl ll lb ti pa tk z kp)) (hM : (MOD st c L sz pl rv b n dl ll ti pa z szM bq lv trM dcM tiM tc T ldM ly K V I e5 r N bm)) (e : st = 2) (hc : cd < 32) (hb : bt (h tu) cd = true) {bb : Bool} (hbb : bb = !rnV (h tu) cd K ly) (h3 : ly < 3) {tk' : Nat → Nat} : (MOD st (uN c pl cd) (pL c L pl tr cd) sz (pl + 1) (pRv h c pl rv tu cd) b n dl ll ti pa z szM bq lv trM dcM tiM tc T ldM (ly + 1) (uN K ly cd) (uN V tu (V tu + b2n bb)) (uB I ly bb) e5 r N bm) := by
  obtain ⟨k1, k2, k3, k4, k5⟩ := mod_pc hI hM e hc hb hbb
  obtain ⟨⟨q1, q2, q3, q4, q5⟩, ⟨m2, m2b, m2c, m2d, m2e⟩, ⟨m3, m3b⟩, ⟨m4, m5, m6, m7⟩, m8, m9, m10, m11⟩ := hM
  have e4 : (pl + 1) / 4 = pl / 4 := by omega
  have e5' : (pl + 1) % 4 = pl % 4 + 1 := by omega
  refine ⟨⟨q1, q2, q3, q4, q5⟩, ⟨m2, m2b, m2c, m2d, m2e⟩, ⟨m3, m3b⟩, ⟨by omega, by omega, m6, fun q => ?_⟩, ?_, ?_, k3, ?_⟩
  · rw [e4, pL_lo (Nat.le_refl _)]; exact m7 q
  · rw [e4, e5']; exact k1
  · rw [e4, e5']; exact k2
  · rw [e4]
    intro i hi
    rw [trkV_pL hi]
    exact m11 i hi
theorem mod_end (hI : (INV st h c L sz pl rv tr tu b n dl ll lb ti pa tk z kp)) (hM : (MOD st c L sz pl rv b n dl ll ti pa z szM bq lv trM dcM tiM tc T ldM ly K V I e5 r N bm)) (e : st = 2) (hc : cd < 32) (hb : bt (h tu) cd = true) {bb : Bool} (hbb : bb = !rnV (h tu) cd K ly) (h3 : ly = 3) {B st' : Nat} {T' : Nat → Nat} {r' : am_M} (hB : B = (ldM + BI (uN K ly cd) trM 4) % 4) (hst : st' = 2 ∨ st' = 3) (hq' : bqA bq e5 r' N bm) (t1 : ∀ x, x < 6 * tc → T' x = T x) (t2 : T' (6 * tc) = ldM) (t3 : T' (6 * tc + 1) = B) (t4 : ∀ e, e < 4 → T' (6 * tc + 2 + (ldM + e) % 4) = uN K ly cd e) {K' : Nat → Nat} {I' : Nat → Bool} : (MOD st' (uN c pl cd) (pL c L pl tr cd) sz (pl + 1) (pRv h c pl rv tu cd) b n dl ll ti pa z szM bq lv trM dcM tiM (tc + 1) T' B 0 K' (uN V tu (V tu + b2n bb)) I' e5 r' N bm) := by
  obtain ⟨k1, k2, k3, k4, k5⟩ := mod_pc hI hM e hc hb hbb
  obtain ⟨r1, r2, r3⟩ := e_row hI hM e
  obtain ⟨p1, p2, p3, p4, p5, p6, p7, p8, p9, p10⟩ := inv_pc hI e hc hb
  obtain ⟨⟨q1, q2, q3, q4, q5⟩, ⟨m2, m2b, m2c, m2d, m2e⟩, ⟨m3, m3b⟩, ⟨m4, m5, m6, m7⟩, m8, m9, m10, m11⟩ := hM
  have e4 : (pl + 1) / 4 = pl / 4 + 1 := by omega
  have e5' : (pl + 1) % 4 = 0 := by omega
  have hBp : B = pT c L pl tr cd := by rw [hB]; exact k5 h3
  have hLn : pL c L pl tr cd (pl / 4 + 1) = B := by
    unfold pL
    rw [if_pos e5', uN_s, hBp]
  have hLo : pL c L pl tr cd (pl / 4) = ldM := by rw [pL_lo (Nat.le_refl _)]; exact r1
  refine ⟨⟨hq', q2, q3, q4, q5⟩, ⟨m2, m2b, m2c, m2d, m2e⟩, ⟨fun _ => m3 (by omega), m3b⟩, ⟨by omega, by omega, by rw [hB]; exact Nat.mod_lt _ (by omega), fun q => ?_⟩, ?_, ?_, k3, ?_⟩
  · rw [e4, hLn]
  · rw [e5']; intro k hk; exact absurd hk (Nat.not_lt_zero k)
  · rw [e5']; intro k hk; exact absurd hk (Nat.not_lt_zero k)
  · rw [e4]
    intro i hi
    by_cases hlo : i < 6 * (pl / 4)
    · rw [trkV_pL hlo, t1 i (by omega)]
      exact m11 i hlo
    · have ei : i / 6 = pl / 4 := by omega
      rw [ei]
      unfold trkV
      rw [hLo, hLn]
      by_cases w0 : i % 6 = 0
      · rw [if_pos w0, show i = 6 * tc by omega, t2]
      · by_cases w1 : i % 6 = 1
        · rw [if_neg w0, if_pos w1, show i = 6 * tc + 1 by omega, t3]
        · rw [if_neg w0, if_neg w1]
          obtain ⟨p, hp, hip⟩ : ∃ p, p < 4 ∧ i = 6 * tc + 2 + p := ⟨i % 6 - 2, by omega, by omega⟩
          have hm : i % 6 - 2 = p := by omega
          have t5 := t4 ((p + 4 - ldM) % 4) (Nat.mod_lt _ (by omega))
          rw [show (ldM + (p + 4 - ldM) % 4) % 4 = p by omega, ← hip] at t5
          rw [t5, hm]
          exact k1 _ (by omega)
theorem fin_iff (hI : (INV st h c L sz pl rv tr tu b n dl ll lb ti pa tk z kp)) (e : st = 2) (hc : cd < 32) (hb : bt (h tu) cd = true) (h3 : pl % 4 = 3) : hAll (upd h tu (sDel (h tu) cd)) = 0 ↔ (pl + 1) / 4 = sz := by
  obtain ⟨p1, p2, p3, p4, p5, p6, p7, p8, p9, p10⟩ := inv_pc hI e hc hb
  obtain ⟨⟨h1, h2, h3'⟩, i0, i1, i2, i3, ⟨j1, j2, j3, j4, j5⟩, j6, j7, j8, j9, j10⟩ := hI
  obtain ⟨a1, a2, ⟨g1, g2, g3, g4, g5, g6, g7, g8⟩, a4, a5, a6⟩ := i2 e
  rw [if_pos (by omega)] at p6
  rw [hAll_0, le4_iff]
  have hpp : ∀ p, p < 4 → pc (upd h tu (sDel (h tu) cd) p) = kp - 1 := by
    intro p hp
    have := p6 p hp
    rw [if_neg (by omega)] at this
    exact this
  constructor
  · intro q
    have := q 0 (by omega)
    rw [hpp 0 (by omega)] at this
    omega
  · intro q p hp
    rw [hpp p hp]
    omega
end
