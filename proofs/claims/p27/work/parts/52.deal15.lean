/-! begin, deal, open, bid, as steps of the relation -/
theorem NZ_LR {dr dk S st : Nat} {w : am_M} (h : NZ dr dk S st w) : LR dr dk S st w := by
  obtain ⟨gd, gz, ld, dc, h, c, L, sz, pl, rv, tr, tu, t, b, n, dl, ll, lb, ti, pa, tk, sc, hg, e19, e20, e21, e22, Rv, Iw, Ho, Go, So, r, z, kp, rfl, hI, hX, hR, bf, lf, kf, nk, ⟨hb, hbf⟩, ⟨hla, hlf⟩, ⟨hk, hkf⟩, ht, hlen, hrow⟩ := h
  exact ⟨gd, gz, 19, 20, 21, ld, 22, dc, h, c, L, sz, pl, rv, tr, tu, t, b, n, dl, ll, lb, ti, pa, tk, sc, hg, e19, e20, e21, e22, Rv, Iw, Ho, Go, So, r, z, kp, rfl, hI, hX, hR, bf, lf, kf, nk, fun i => i, ⟨Or.inl ⟨rfl, hb⟩, hbf⟩, ⟨Or.inl ⟨rfl, hla⟩, hlf⟩, ⟨Or.inl ⟨rfl, hk⟩, hkf⟩, Or.inl ⟨rfl, ht⟩, hrow, fun i j _ _ e => e, fun i _ => ⟨by omega, by omega, by omega, by omega⟩, by omega⟩
theorem odd_32 : ∀ s, s < 32 → s % 2 = 1 → ∀ d, d < 32 → 0 < d → d * s % 32 ≠ 0 := by decide +kernel
theorem deal_ne {f s i j : Nat} (hs : s < 32) (hs1 : s % 2 = 1) (hij : j < i) (hi : i < 32) : (f + j * s) % 32 ≠ (f + i * s) % 32 := by
  intro e
  obtain ⟨dd, rfl⟩ : ∃ dd, i = j + dd := ⟨i - j, by omega⟩
  have h1 := odd_32 s hs hs1 dd (by omega) (by omega)
  have h2 : (j + dd) * s = j * s + dd * s := Nat.add_mul _ _ _
  omega
theorem deal_bt {f s : Nat} {h : Nat → Int32} (hz : ∀ p, p < 4 → h p = 0) : ∀ (i p cd : Nat), p < 4 → cd < 32 → bt (dealH f s h i p) cd = true → ∃ k, k < i ∧ (f + k * s) % 32 = cd
  | 0, p, cd, hp, hc, hb => by
    rw [show dealH f s h 0 p = 0 from hz p hp, b_0] at hb
    cases hb
  | i + 1, p, cd, hp, hc, hb => by
    have hc32 : (f + i * s) % 32 < 32 := Nat.mod_lt _ (by omega)
    have hb' : bt (if p = i % 4 then sAdd (dealH f s h i (i % 4)) ((f + i * s) % 32) else dealH f s h i p) cd = true := hb
    by_cases e : p = i % 4
    · rw [if_pos e, bt_add hc32 hc] at hb'
      rcases Bool.or_eq_true_iff.mp hb' with q | q
      · obtain ⟨k, h1, h2⟩ := deal_bt hz i (i % 4) cd (dm_lt i) hc q
        exact ⟨k, by omega, h2⟩
      · exact ⟨i, by omega, (of_decide_eq_true q).symm⟩
    · rw [if_neg e] at hb'
      obtain ⟨k, h1, h2⟩ := deal_bt hz i p cd hp hc hb'
      exact ⟨k, by omega, h2⟩
theorem deal_pc {f s : Nat} {h : Nat → Int32} (hs : s < 32) (hs1 : s % 2 = 1) (hz : ∀ p, p < 4 → h p = 0) : ∀ (i p : Nat), i ≤ 32 → p < 4 → pc (dealH f s h i p) = (i + 3 - p) / 4
  | 0, p, _, hp => by
    rw [show dealH f s h 0 p = 0 from hz p hp, pc_zero.mpr rfl]
    omega
  | i + 1, p, hi, hp => by
    have hc32 : (f + i * s) % 32 < 32 := Nat.mod_lt _ (by omega)
    show pc (if p = i % 4 then sAdd (dealH f s h i (i % 4)) ((f + i * s) % 32) else dealH f s h i p) = _
    by_cases e : p = i % 4
    · rw [if_pos e, pc_add hc32 ?_, deal_pc hs hs1 hz i (i % 4) (by omega) (dm_lt i)]
      · omega
      · cases hb : bt (dealH f s h i (i % 4)) ((f + i * s) % 32) with
        | false => rfl
        | true =>
          obtain ⟨k, h1, h2⟩ := deal_bt hz i (i % 4) _ (dm_lt i) hc32 hb
          exact absurd h2 (deal_ne hs hs1 h1 (by omega))
    · rw [if_neg e, deal_pc hs hs1 hz i p (by omega) hp]
      omega
section
variable {h : Nat → Int32} {c L : Nat → Nat} {sz pl : Nat} {rv : Int32} {tr tu : Nat} {b : Nat → Nat} {n dl ll lb ti pa : Nat} {tk : Nat → Nat} {z kp st : Nat}
/-- behind begin; behind deal each has m cards -/
def BG (dr dk S m : Nat) (w : am_M) : Prop := ∃ (gd gz bq kq tq ld lq : Nat) (dc : Int32) (h : Nat → Int32) (c L : Nat → Nat) (sz pl : Nat) (rv : Int32) (tr tu : Nat) (t : am_T5) (b : Nat → Nat) (n dl ll lb ti pa : Nat) (tk : Nat → Nat) (sc : Nat → Int32) (hg : Nat → Int32) (e19 e20 e21 e22 : am_E) (Rv Iw Ho Go So : Nat → Int32) (r : am_M) (z kp : Nat),
  w = (wd dr 0 gd gz bq kq tq ld lq dc 0 (nI dk) h c L sz pl rv tr tu t b n dl ll lb ti pa tk sc hg e19 e20 e21 e22 Rv Iw Ho Go So r) ∧ (INV 0 h c L sz pl rv tr tu b n dl ll lb ti pa tk z kp) ∧ (∀ p, p < 4 → pc (h p) = m) ∧ gd = dl ∧ ld < 4 ∧ (∀ p, p < 4 → hg p = h p) ∧ tiB b n = tfB ti ∧ (∃ a0 a1 : Nat, sc 0 = nI a0 ∧ sc 1 = nI a1 ∧ a0 + a1 = S) ∧ LFX bq kq tq lq e19 e20 e21 e22 r n pl tr 0 b c
end
theorem LFX_0 {bq kq tq lq n n' pl tr st : Nat} {e19 e20 e21 e22 : am_E} {r : am_M} {b b' c : Nat → Nat} (hn : n = n' ∧ b = b') (h : LFX bq kq tq lq e19 e20 e21 e22 r n pl tr st b c) (hst : st ≠ 2 → True) {st' : Nat} (h2 : st' ≠ 2) : LFX bq kq tq lq e19 e20 e21 e22 r n' pl tr st' b' c := by
  obtain ⟨rfl, rfl⟩ := hn
  obtain ⟨bf, lf, kf, nk, fp, h1, h2', ⟨h3, h3'⟩, h4⟩ := h
  exact ⟨bf, lf, kf, nk, fp, h1, h2', ⟨h3, fun q => absurd q h2⟩, h4⟩
section
variable {l : Launch} {d k : Nat} {Q : am_Q} {dr gs gd gz bq kq tq ld lq : Nat} {dc : Int32} {st : Nat} {dn : Int32} {h : Nat → Int32} {c L : Nat → Nat} {sz pl : Nat} {rv : Int32} {tr tu : Nat} {t : am_T5} {b : Nat → Nat} {n dl ll lb ti pa : Nat} {tk : Nat → Nat} {sc : Nat → Int32} {hg : Nat → Int32} {e19 e20 e21 e22 : am_E} {Rv Iw Ho Go So : Nat → Int32} {r : am_M}
theorem rl_begin (hl : l.stackTraces = false) (hd : 4 ≤ d) {dk S : Nat} {w : am_M} (hN : NZ dr dk S st w) (hdr : dr < 2 ^ 20) (hq : ∀ w', BG (dr + 1) dk S 0 w' → Q (.inl (some (.int 1))) w') : am_Call l d 96 (k + 4) [.ref 0] w Q := by
  obtain ⟨gd, gz, ld, dc, h, c, L, sz, pl, rv, tr, tu, t, b, n, dl, ll, lb, ti, pa, tk, sc, hg, e19, e20, e21, e22, Rv, Iw, Ho, Go, So, r, z, kp, rfl, hI, hX, ⟨f1, f2, f3, f4, f5, f6, f7⟩, bf, lf, kf, nk, ⟨hb, hbf⟩, ⟨hla, hlf⟩, ⟨hk, hkf⟩, ht, hlen, hrow⟩ := hN
  refine cl_96 hl hd (by omega) rfl hI.1.1 (fun j hg' Rv' Go' hj hz9 => hq _ ?_)
  have hp0 : ∀ p, p < 4 → hz h 4 p = 0 := fun p hp => if_pos hp
  refine ⟨j, gz, r.length + 28, r.length + 29, r.length + 30, ld, r.length + 31, dc, hz h 4, c, L, 0, 0, 0, tr, tu, t, b, 0, j, 0, 0, 1, 0, uN (uN tk 0 0) 1 0, sc, hg', e19, e20, e21, e22, Rv', Iw, Ho, Go', So, _, z, kp, rfl, inv_begin hI hj, fun p hp => by rw [hp0 p hp]; exact pc_zero.mpr rfl, rfl, f3, fun p hp => by rw [hp0 p hp]; exact hz9 p hp, rfl, f7, fun _ => 0, fun _ => 0, fun _ => 0, 0, fun i => i, ⟨Or.inr ⟨r.length, rfl, ?_⟩, fun j hj => absurd hj (Nat.not_lt_zero _)⟩, ⟨Or.inr ⟨r.length + 3, rfl, ?_⟩, fun j hj => absurd hj (Nat.not_lt_zero _)⟩, ⟨Or.inr ⟨r.length + 1, rfl, ?_⟩, fun q => absurd q (by decide)⟩, Or.inr ⟨r.length + 2, rfl, ?_⟩, fun i hi => absurd hi (Nat.not_lt_zero _), fun i j hi => absurd hi (Nat.not_lt_zero _), fun i hi => absurd hi (Nat.not_lt_zero _), by omega⟩
  · simp
  · simp
  · simp
  · have : OF (fun i => i) (0 / 4) = fun _ => none := by
      funext i
      exact if_neg (by omega)
    rw [this]
    simp
theorem rl_draw (hl : l.stackTraces = false) (hd : 2 ≤ d) {dk S m0 m : Nat} {w : am_M} (hN : BG dr dk S m0 w) (hdr : dr < 2 ^ 20) (h0 : 0 < m) (hm : m < 2 ^ 31) (hq : ∀ j w', j < m → BG (dr + 1) dk S m0 w' → Q (.inl (some (.int (nI j)))) w') : am_Call l d 93 k [.ref 0, .int (nI m)] w Q := by
  obtain ⟨gd, gz, bq, kq, tq, ld, lq, dc, h, c, L, sz, pl, rv, tr, tu, t, b, n, dl, ll, lb, ti, pa, tk, sc, hg, e19, e20, e21, e22, Rv, Iw, Ho, Go, So, r, z, kp, rfl, hF⟩ := hN
  exact cl_93 hl hd (by omega) h0 hm (fun j hj => hq j _ hj ⟨gd, gz, bq, kq, tq, ld, lq, dc, h, c, L, sz, pl, rv, tr, tu, t, b, n, dl, ll, lb, ti, pa, tk, sc, hg, e19, e20, e21, e22, Rv, Iw, Ho, Go, So, r, z, kp, rfl, hF⟩)
theorem rl_drawZ (hl : l.stackTraces = false) (hd : 2 ≤ d) {dk S m : Nat} {w : am_M} (hN : NZ dr dk S st w) (hdr : dr < 2 ^ 20) (h0 : 0 < m) (hm : m < 2 ^ 31) (hq : ∀ j w', j < m → NZ (dr + 1) dk S st w' → Q (.inl (some (.int (nI j)))) w') : am_Call l d 93 k [.ref 0, .int (nI m)] w Q := by
  obtain ⟨gd, gz, ld, dc, h, c, L, sz, pl, rv, tr, tu, t, b, n, dl, ll, lb, ti, pa, tk, sc, hg, e19, e20, e21, e22, Rv, Iw, Ho, Go, So, r, z, kp, rfl, hF⟩ := hN
  exact cl_93 hl hd (by omega) h0 hm (fun j hj => hq j _ hj ⟨gd, gz, ld, dc, h, c, L, sz, pl, rv, tr, tu, t, b, n, dl, ll, lb, ti, pa, tk, sc, hg, e19, e20, e21, e22, Rv, Iw, Ho, Go, So, r, z, kp, rfl, hF⟩)
theorem rl_deal (hl : l.stackTraces = false) (hd : 7 ≤ d) {dk S m : Nat} {w : am_M} (hN : BG dr dk S 0 w) (hdr : dr < 2 ^ 20) (hm : m < 9) (hq : ∀ w', BG (dr + 2) dk S m w' → Q (.inl (some (.int 1))) w') : am_Call l d 97 k [.ref 0, .int (nI m)] w Q := by
  obtain ⟨gd, gz, bq, kq, tq, ld, lq, dc, h, c, L, sz, pl, rv, tr, tu, t, b, n, dl, ll, lb, ti, pa, tk, sc, hg, e19, e20, e21, e22, Rv, Iw, Ho, Go, So, r, z, kp, rfl, hI, hpc, f1, f3, f5, f6, f7, hLF⟩ := hN
  have hz0 : ∀ p, p < 4 → h p = 0 := fun p hp => pc_zero.mp (hpc p hp)
  refine cl_97 hl hd (by omega) hm rfl hz0 (fun p hp => (f5 p hp).trans (hz0 p hp)) (fun f s hf hs hs1 => hq _ ?_)
  have hpm : ∀ p, p < 4 → pc (dealH f s h (4 * m) p) = m := fun p hp => by rw [deal_pc hs hs1 hz0 (4 * m) p (by omega) hp]; omega
  exact ⟨gd, gz, bq, kq, tq, ld, lq, dc, dealH f s h (4 * m), c, L, sz, pl, rv, tr, tu, t, b, n, dl, ll, lb, ti, pa, tk, sc, dealH f s hg (4 * m), e19, e20, e21, e22, Rv, Iw, Ho, Go, So, r, z, kp, rfl, inv_h hI rfl (fun p hp => by rw [hpm p hp]; omega), hpm, f1, f3, fun p hp => dealH_cong f5 _ p hp, f6, f7, hLF⟩
theorem rl_open (hl : l.stackTraces = false) (hd : 5 ≤ d) {dk S m : Nat} {w : am_M} (hN : BG dr dk S m w) (hm : 0 < m) (hq : ∀ w', LR dr dk S 1 w' → Q (.inl (some (.int 1))) w') : am_Call l d 98 k [.ref 0] w Q := by
  obtain ⟨gd, gz, bq, kq, tq, ld, lq, dc, h, c, L, sz, pl, rv, tr, tu, t, b, n, dl, ll, lb, ti, pa, tk, sc, hg, e19, e20, e21, e22, Rv, Iw, Ho, Go, So, r, z, kp, rfl, hI, hpc, f1, f3, f5, f6, f7, hLF⟩ := hN
  have hr : rdy h = true := by
    unfold rdy
    rw [hpc 0 (by omega), hpc 1 (by omega), hpc 2 (by omega), hpc 3 (by omega), decide_eq_true rfl, decide_eq_true hm]
    rfl
  refine cl_98 hl hd rfl hr (f5 0 (by omega)) (hq _ ?_)
  exact ⟨gd, pc (h 0), bq, kq, tq, ld, lq, dc, h, c, L, pc (h 0), pl, rv, tr, tu, t, b, n, dl, ll, lb, ti, pa, tk, sc, hg, e19, e20, e21, e22, Rv, Iw, Ho, Go, So, r, z, kp, rfl, inv_open hI rfl hr, fun q => absurd q (by decide), ⟨f1, rfl, f3, fun q => absurd q (by decide), f5, f6, f7⟩, LFX_0 ⟨rfl, rfl⟩ hLF (fun _ => trivial) (by decide)⟩
theorem rl_bid (hl : l.stackTraces = false) (hd : 7 ≤ d) {dk S bd : Nat} {w : am_M} (hN : NZ dr dk S 1 w) (hbd : bd < 43) (hq : ∀ w' st', (st' = 1 ∨ st' = 2 ∨ st' = 3) → LR dr dk S st' w' → Q (.inl (some (.int 1))) w') : am_Call l d 101 (k + 2) [.ref 0, .int (nI bd)] w Q := by
  have hN0 := hN
  obtain ⟨gd, gz, ld, dc, h, c, L, sz, pl, rv, tr, tu, t, b, n, dl, ll, lb, ti, pa, tk, sc, hg, e19, e20, e21, e22, Rv, Iw, Ho, Go, So, r, z, kp, rfl, hI, hX, ⟨f1, f2, f3, f4, f5, f6, f7⟩, bf, lf, kf, nk, ⟨hb, hbf⟩, ⟨hla, hlf⟩, ⟨hk, hkf⟩, ht, hlen, hrow⟩ := hN
  obtain ⟨i1, i2, i3, i4, i5⟩ := hI.2.2.1 rfl
  subst i3
  have hr0 : r = [] := List.length_eq_zero_iff.mp hlen
  subst hr0
  have hT := tiB_u b (bd := bd) f6 hbd
  have hOF : OF (fun i => i) (0 / 4) = NF (0 / 4) := rfl
  have hbf' : ∀ j, j < n + 1 → plsF bf n (nI bd) j = nI (uN b n bd j) := by
    intro j hj
    unfold plsF uN
    by_cases e : j = n
    · rw [if_pos e, if_pos e]
    · rw [if_neg e, if_neg e, if_pos (by omega), hbf j (by omega)]
  have hno : ∀ {X : Prop} (i : Nat), i < 0 / 4 → X := fun i hi => absurd hi (Nat.not_lt_zero _)
  refine cl_101 hl hd hI rfl rfl f1 f3 f6 (Or.inl ⟨rfl, hb⟩) hbf (Or.inl ⟨rfl, hla⟩) hbd (fun _ => hq _ 1 (Or.inl rfl) (NZ_LR hN0)) (fun ha hA => hq _ 3 (Or.inr (Or.inr rfl)) ?_) (fun ha hB z' f20 hz g0 g1 g2 => hq _ 2 (Or.inr (Or.inl rfl)) ?_) (fun ha hA hB => hq _ 1 (Or.inl rfl) ?_)
  · refine ⟨gd, gz, 28, 20, 21, ld, 22, dc, h, c, L, sz, 0, rv, tr, tu, t, uN b n bd, n + 1, dl, nLl ll bd, nLb dl n lb bd, nTi ti bd, nPa pa bd, tk, sc, hg, e19, e20, e21, e22, Rv, Iw, Ho, Go, So, _, z, kp, rfl, inv_bidA hI rfl hbd ha hA, fun _ => ⟨fun p hp => by rw [i5 p hp]; rfl, fun q => ?_⟩, ⟨f1, f2, f3, fun q => absurd q (by decide), f5, hT, f7⟩, plsF bf n (nI bd), lf, kf, nk, fun i => i, ⟨RA_new (r := []), hbf'⟩, ⟨Or.inl ⟨rfl, hla⟩, hlf⟩, ⟨Or.inl ⟨rfl, hk⟩, fun q => absurd q (by decide)⟩, Or.inl ⟨rfl, ht⟩, fun i hi => hno i hi, fun i j hi => hno i hi, fun i hi => hno i hi, by omega⟩
    have h0 := of_decide_eq_true (Bool.and_eq_true_iff.mp hA).1
    have := (AI_ll (inv_bid hI rfl hbd ha).1).2 q
    omega
  · refine ⟨gd, gz, 28, 29, 21, ((dl + z') % 4 + 1) % 4, 22, dc, h, c, uN L 0 (((dl + z') % 4 + 1) % 4), sz, 0, rv, (nLl ll bd - 1) % 5, ((dl + z') % 4 + 1) % 4, t, uN b n bd, n + 1, dl, nLl ll bd, nLb dl n lb bd, nTi ti bd, nPa pa bd, tk, sc, hg, e19, e20, e21, e22, Rv, Iw, Ho, Go, So, _, z', sz, rfl, inv_bidB hI rfl hbd ha hB hz, fun q => absurd q (by decide), ⟨f1, f2, dm_lt _, fun _ => (uN_s L 0 _).symm, f5, hT, f7⟩, plsF bf n (nI bd), lf, f20, 4, fun i => i, ⟨RA_app (RA_new (r := [])), hbf'⟩, ⟨Or.inl ⟨rfl, hla⟩, hlf⟩, ⟨Or.inr ⟨1, rfl, rfl⟩, fun _ => ⟨rfl, g1, _, dm_lt _, g2⟩⟩, Or.inl ⟨rfl, ht⟩, fun i hi => hno i hi, fun i j hi => hno i hi, fun i hi => hno i hi, by omega⟩
  · exact ⟨gd, gz, 28, 20, 21, ld, 22, dc, h, c, L, sz, 0, rv, tr, tu, t, uN b n bd, n + 1, dl, nLl ll bd, nLb dl n lb bd, nTi ti bd, nPa pa bd, tk, sc, hg, e19, e20, e21, e22, Rv, Iw, Ho, Go, So, _, z, kp, rfl, inv_bidC hI rfl hbd ha hA hB, fun q => absurd q (by decide), ⟨f1, f2, f3, fun q => absurd q (by decide), f5, hT, f7⟩, plsF bf n (nI bd), lf, kf, nk, fun i => i, ⟨RA_new (r := []), hbf'⟩, ⟨Or.inl ⟨rfl, hla⟩, hlf⟩, ⟨Or.inl ⟨rfl, hk⟩, fun q => absurd q (by decide)⟩, Or.inl ⟨rfl, ht⟩, fun i hi => hno i hi, fun i j hi => hno i hi, fun i hi => hno i hi, by omega⟩
end
