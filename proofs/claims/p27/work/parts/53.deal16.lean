/-! step, as a step of the relation -/
theorem FF_NF (tn v : Nat) : FF (NF tn) tn (v + 28) = OF (fun i => if i < tn then i else v) (tn + 1) := by
  funext i
  show (if i = tn then some (v + 28) else if 0 ≤ i ∧ i < 0 + tn then NF tn (0 + (i - 0)) else none) = if i < tn + 1 then some ((if i < tn then i else v) + 28) else none
  by_cases e : i = tn
  · rw [if_pos e, if_pos (by omega), if_neg (by omega)]
  · rw [if_neg e]
    by_cases e2 : i < tn
    · rw [if_pos ⟨Nat.zero_le _, by omega⟩, if_pos (by omega), if_pos e2, show 0 + (i - 0) = i by omega]
      exact if_pos e2
    · rw [if_neg (by omega), if_neg (by omega)]
theorem scV_2000 {ti lv tr t : Nat} (hti : ti ≤ 4) (hlv : lv ≤ 8) (ht : t ≤ 8) : scV ti lv tr t ≤ 2000 := by
  have h1 : ti * lv ≤ 32 := Nat.mul_le_mul hti hlv
  have hw : worth tr ≤ 40 := by unfold worth; split; omega; split <;> omega
  have h2 : ti * lv * worth tr ≤ 32 * 40 := Nat.mul_le_mul h1 hw
  have h3 : 20 * ti * (t - lv) ≤ 80 * 8 := Nat.mul_le_mul (by omega) (by omega)
  unfold scV
  split <;> omega
theorem scN_sum {sc : Nat → Int32} {D ti lv tr t a0 a1 S : Nat} (hD : D < 2) (hti : ti ≤ 4) (hlv : lv ≤ 8) (ht : t ≤ 8) (h0 : sc 0 = nI a0) (h1 : sc 1 = nI a1) (hS : a0 + a1 = S) : ∃ b0 b1 : Nat, scN sc D ti lv tr t 0 = nI b0 ∧ scN sc D ti lv tr t 1 = nI b1 ∧ S ≤ b0 + b1 ∧ b0 + b1 ≤ S + 2000 := by
  unfold scN
  by_cases q : t < lv
  · rw [if_pos q]
    have hx : 50 * ti * (lv - t) ≤ 200 * 8 := Nat.mul_le_mul (by omega) (by omega)
    obtain ⟨x, hxe⟩ : ∃ x, x = 50 * ti * (lv - t) := ⟨_, rfl⟩
    rw [← hxe] at hx ⊢
    have : D = 0 ∨ D = 1 := by omega
    rcases this with rfl | rfl
    · refine ⟨a0, a1 + x, ?_, ?_, by omega, by omega⟩
      · exact h0
      · show sc 1 + nI x = _
        rw [h1, nI_add]
    · refine ⟨a0 + x, a1, ?_, ?_, by omega, by omega⟩
      · show sc 0 + nI x = _
        rw [h0, nI_add]
      · exact h1
  · rw [if_neg q]
    have hx := scV_2000 (tr := tr) hti hlv ht
    obtain ⟨x, hxe⟩ : ∃ x, x = scV ti lv tr t := ⟨_, rfl⟩
    rw [← hxe] at hx ⊢
    have : D = 0 ∨ D = 1 := by omega
    rcases this with rfl | rfl
    · refine ⟨a0 + x, a1, ?_, ?_, by omega, by omega⟩
      · show sc 0 + nI x = _
        rw [h0, nI_add]
      · exact h1
    · refine ⟨a0, a1 + x, ?_, ?_, by omega, by omega⟩
      · exact h0
      · show sc 1 + nI x = _
        rw [h1, nI_add]
section
variable {l : Launch} {d k : Nat} {Q : am_Q} {dr gs gd gz bq kq tq ld lq : Nat} {dc : Int32} {st : Nat} {dn : Int32} {h : Nat → Int32} {c L : Nat → Nat} {sz pl : Nat} {rv : Int32} {tr tu : Nat} {t : am_T5} {b : Nat → Nat} {n dl ll lb ti pa : Nat} {tk : Nat → Nat} {sc : Nat → Int32} {hg : Nat → Int32} {e19 e20 e21 e22 : am_E} {Rv Iw Ho Go So : Nat → Int32} {r : am_M}
theorem rl_step (hl : l.stackTraces = false) (hd : 9 ≤ d) {dk S : Nat} {w : am_M} (hN : NZ dr dk S 2 w) (hdr : dr < 2 ^ 20) (hq : ∀ w' dr', dr' ≤ dr + 3 → (LR dr' dk S 2 w' ∨ ∃ S', S ≤ S' ∧ S' ≤ S + 2000 ∧ LR dr' (dk + 1) S' 3 w') → Q (.inl (some (.int 1))) w') : am_Call l d 111 (k + 5) [.ref 0] w Q := by
  obtain ⟨gd, gz, ld, dc, h, c, L, sz, pl, rv, tr, tu, t, b, n, dl, ll, lb, ti, pa, tk, sc, hg, e19, e20, e21, e22, Rv, Iw, Ho, Go, So, r, z, kp, rfl, hI, hX, ⟨f1, f2, f3, f4, f5, f6, a0, a1, s0, s1, sS⟩, bf, lf, kf, nk, ⟨hb, hbf⟩, ⟨hla, hlf⟩, ⟨hk, hkf⟩, ht, hlen, hrow⟩ := hN
  obtain ⟨rfl, hk1, cz, hcz, hk2⟩ := hkf rfl
  have f4' := f4 rfl
  have hgd4 : gd < 4 := by rw [f1]; exact hI.1.2.1
  refine op_111 hl (by omega) (Nat.le_of_ble_eq_true rfl) (fun J hJ => hJ [6] 100 _ _ _ _ _ ⟨0, Nat.zero_le _, cl_93 hl (by omega) (m := 7) (by omega) (by omega) (by omega) (fun j hj => ?_)⟩)
  -- play some card
  have h18 : ∀ (k1 : Nat) (h1 hg1 : Nat → Int32) (pl1 : Nat) (rv1 : Int32) (tu1 lq1 : Nat) (Rv1 lf1 : Nat → Int32) (r1 : am_M), (INV 2 h1 c L sz pl1 rv1 tr tu1 b n dl ll lb ti pa tk z kp) → RA 22 lq1 e22 r1 (pl1 % 4) lf1 → (∀ j, j < pl1 % 4 → lf1 j = nI (c (4 * (pl1 / 4) + j))) → (∀ p, p < 4 → hg1 p = h1 p) → pl1 / 4 = pl / 4 → (∀ i, i < pl / 4 → ∃ (n' : Nat) (f' : Nat → Int32), r1[i]? = some (.inl (0, n', .inl f'))) → pl / 4 ≤ r1.length →
      J (k1 + 4) 18 [some (.ref 0)] [] (wd (dr + 1) 2 gd gz 19 20 21 ld lq1 dc 2 (nI dk) h1 c L sz pl1 rv1 tr tu1 t b n dl ll lb ti pa tk sc hg1 e19 e20 e21 e22 Rv1 Iw Ho Go So r1) := by
    intro k1 h1 hg1 pl1 rv1 tu1 lq1 Rv1 lf1 r1 hI1 hla1 hlf1 hhg1 hp4 hrow1 hlen1
    have hI1' := hI1
    obtain ⟨⟨j1, j2, hAI⟩, i0, i1, i2, i3, ⟨y1, y2, y3, y4, y5⟩, y6, y7, y8, y9, y10⟩ := hI1'
    obtain ⟨a1', a2', ⟨g1, g2, g3, g4, g5, g6, g7, g8⟩, a4', a5', a6'⟩ := i2 rfl
    have hm4 := dm_lt pl1
    have hL4 : L (pl1 / 4) < 4 := y7 _ (Nat.le_refl _)
    have hld1 : ld = L (pl1 / 4) := by rw [hp4]; exact f4'
    have htu : tu1 = (ld + pl1 % 4) % 4 := by rw [hld1, g1]; rfl
    have hpcu : 0 < pc (h1 tu1) := by
      have := g5 tu1 y5
      rw [if_neg (by omega)] at this
      omega
    have hne : hg1 tu1 ≠ 0 := by
      rw [hhg1 tu1 y5]
      exact fun q => by rw [q, pc_zero.mpr rfl] at hpcu; omega
    obtain ⟨lc, hlc⟩ : ∃ lc : Nat → Nat, lc = fun j => c (4 * (pl1 / 4) + j) := ⟨_, rfl⟩
    have hFK : FK (NF (pl1 / 4)) (pl1 / 4) r1 := by
      intro i hi
      obtain ⟨n', f', g⟩ := hrow1 i (by omega)
      exact ⟨i, n', f', if_pos hi, g⟩
    have he21 : e21 = .inl (3, pl1 / 4, .inr (.inr (NF (pl1 / 4)))) := by rw [hp4]; exact ht
    have h33 : ∀ x, J (k1 + 4) 33 [some (.ref 0)] [.int x, .ref 0, .ref 0] (wd (dr + 1 + 1) 2 gd gz 19 20 21 ld lq1 dc 2 (nI dk) h1 c L sz pl1 rv1 tr tu1 t b n dl ll lb ti pa tk sc hg1 e19 e20 e21 e22 Rv1 Iw Ho Go So r1) := by
      intro x
      refine hJ [36] 100 _ _ _ _ _ ⟨0, Nat.zero_le _, cl_106 (p := tu1) (ln := pl1 % 4) (lc := lc) hl (by omega) rfl hgd4 f3 htu hla1 (fun j hj => by rw [hlc]; exact hlf1 j hj) (fun j hj => by rw [hlc]; exact y6 _ (by omega)) (by omega) (by omega) hne (fun cd hcd hbt => ?_)⟩
      have hbt1 : bt (h1 tu1) cd = true := by rw [← hhg1 tu1 y5]; exact hbt
      obtain ⟨p1, p2, p3, p4, p5, p6, p7, p8, p9, p10⟩ := inv_pc hI1 rfl hcd hbt1
      have hhg2 : ∀ p, p < 4 → upd hg1 tu1 (sDel (hg1 tu1) cd) p = upd h1 tu1 (sDel (h1 tu1) cd) p := by
        intro p hp
        show (if p = tu1 then sDel (hg1 tu1) cd else hg1 p) = if p = tu1 then sDel (h1 tu1) cd else h1 p
        rw [hhg1 p hp, hhg1 tu1 y5]
      refine hJ [] 100 _ _ _ _ _ ⟨4, Nat.le_add_left 4 _, cl_107 (k := 0) (cz := cz) (F := NF (pl1 / 4)) hl (by omega) hI1 rfl rfl hgd4 f2 hld1 hla1 hlf1 hhg1 (Or.inl ⟨rfl, hk⟩) hk1 hk2 hcz rfl he21 hFK hcd hbt1 (fun q4 Rv' Iw' Ho' => ⟨by decide, hq _ (dr + 1 + 1 + 1) (by omega) (Or.inl ?_)⟩) (fun q4 qs Rv' Iw' Ho' Go' f66 => ⟨by decide, hq _ (dr + 1 + 1 + 1) (by omega) (Or.inl ?_)⟩) (fun q4 qs Rv' Iw' Ho' Go' So' f66 => ⟨by decide, hq _ (dr + 1 + 1 + 1) (by omega) (Or.inr ?_)⟩)⟩
      · have hI2 := inv_play hI1 rfl hcd hbt1 (by omega)
        have ed : (pl1 + 1) / 4 = pl1 / 4 := by omega
        have em : (pl1 + 1) % 4 = pl1 % 4 + 1 := by omega
        refine ⟨gd, gz, 19, 20, 21, ld, r1.length + 28, dc, _, _, _, sz, pl1 + 1, _, tr, _, t, b, n, dl, ll, lb, ti, pa, _, sc, _, e19, e20, e21, e22, Rv', Iw', Ho', Go, So, _, z, _, rfl, hI2, fun q => absurd q (by decide), ⟨f1, f2, f3, fun _ => ?_, hhg2, f6, a0, a1, s0, s1, sS⟩, bf, plsF lf1 (pl1 % 4) (nI cd), kf, 4, fun i => i, ⟨Or.inl ⟨rfl, hb⟩, hbf⟩, ⟨?_, fun j hj => ?_⟩, ⟨Or.inl ⟨rfl, hk⟩, fun _ => ⟨rfl, hk1, cz, hcz, hk2⟩⟩, Or.inl ⟨rfl, by rw [ed]; exact he21⟩, fun i hi => ?_, fun i j _ _ e => e, fun i hi => ?_, by omega⟩
        · rw [ed, hld1]
          unfold pL
          rw [if_neg q4]
        · rw [em]
          exact RA_new
        · rw [em] at hj
          rw [ed]
          show (if j = pl1 % 4 then nI cd else if j < pl1 % 4 then lf1 j else 0) = nI (if 4 * (pl1 / 4) + j = pl1 then cd else c (4 * (pl1 / 4) + j))
          by_cases e : j = pl1 % 4
          · rw [if_pos e, if_pos (by omega)]
          · rw [if_neg e, if_pos (show j < pl1 % 4 by omega), if_neg (show ¬ 4 * (pl1 / 4) + j = pl1 by omega), hlf1 j (by omega)]
        · obtain ⟨n', f', g⟩ := hrow1 i (by omega)
          refine ⟨n', f', ?_⟩
          show (r1 ++ _)[i]? = _
          rw [List.getElem?_append_left (List.getElem?_eq_some_iff.mp g).1]
          exact g
        · show i + 28 ≠ 19 ∧ i + 28 ≠ 20 ∧ i + 28 ≠ 21 ∧ i + 28 ≠ r1.length + 28
          rw [ed] at hi
          omega
      · have hI2 := inv_play hI1 rfl hcd hbt1 qs
        have ed : (pl1 + 1) / 4 = pl1 / 4 + 1 := by omega
        refine ⟨gd, gz, 19, 20, r1.length + 30, pT c L pl1 tr cd, r1.length + 31, dc, _, _, _, sz, pl1 + 1, _, tr, _, t, b, n, dl, ll, lb, ti, pa, _, sc, _, e19, e20, e21, e22, Rv', Iw', Ho', Go', So, _, z, _, rfl, hI2, fun q => absurd q (by decide), ⟨f1, f2, dm_lt _, fun _ => ?_, hhg2, f6, a0, a1, s0, s1, sS⟩, bf, fun _ => 0, kf, 4, fun i => if i < pl1 / 4 then i else r1.length + 1, ⟨Or.inl ⟨rfl, hb⟩, hbf⟩, ⟨Or.inr ⟨r1.length + 3, rfl, ?_⟩, fun j hj => absurd hj (by omega)⟩, ⟨Or.inl ⟨rfl, hk⟩, fun _ => ⟨rfl, hk1, cz, hcz, hk2⟩⟩, Or.inr ⟨r1.length + 2, rfl, ?_⟩, fun i hi => ?_, fun i j hi hj e => ?_, fun i hi => ?_, by omega⟩
        · rw [ed]
          unfold pL
          rw [if_pos q4]
          exact (uN_s _ _ _).symm
        · rw [q4]
          simp
        · rw [ed, ← FF_NF]
          simp
        · dsimp only
          by_cases e : i < pl1 / 4
          · rw [if_pos e]
            obtain ⟨n', f', g⟩ := hrow1 i (by omega)
            have gl := (List.getElem?_eq_some_iff.mp g).1
            refine ⟨n', f', ?_⟩
            rw [List.getElem?_append_left (by simp; omega), List.getElem?_append_left (by simp; omega), List.getElem?_append_left (by simp; omega), List.getElem?_append_left gl]
            exact g
          · rw [if_neg e]
            exact ⟨6, f66, by simp⟩
        · rw [ed] at hi hj
          dsimp only at e
          by_cases e1 : i < pl1 / 4
          · by_cases e2 : j < pl1 / 4
            · rw [if_pos e1, if_pos e2] at e; exact e
            · rw [if_pos e1, if_neg e2] at e; omega
          · by_cases e2 : j < pl1 / 4
            · rw [if_neg e1, if_pos e2] at e; omega
            · omega
        · rw [ed] at hi
          dsimp only
          split
          · omega
          · omega
      · have hI2 := inv_fin hI1 rfl hcd hbt1 qs
        have ed : (pl1 + 1) / 4 = pl1 / 4 + 1 := by omega
        have hlv8 : (ll - 1) / 5 + 1 ≤ 8 := by have := (AI_b hAI).1; omega
        have hts : payN (pRv h1 c pl1 rv1 tu1 cd) (pL c L pl1 tr cd) (pl1 + 1) (pTk c L pl1 tr cd tk) 4 ((dl + z) % 4 % 2) ≤ 8 := by
          have hs2 := payN_sum (rv := pRv h1 c pl1 rv1 tu1 cd) (L := pL c L pl1 tr cd) (pl := pl1 + 1) (pTk_sum (c := c) (L := L) (tr := tr) (cd := cd) y9) 4
          have : (dl + z) % 4 % 2 = 0 ∨ (dl + z) % 4 % 2 = 1 := by omega
          rcases this with q | q <;> rw [q] <;> omega
        obtain ⟨b0, b1, w0, w1, wl, wu⟩ := scN_sum (sc := sc) (D := (dl + z) % 4 % 2) (ti := ti) (lv := (ll - 1) / 5 + 1) (tr := (ll - 1) % 5) (t := payN (pRv h1 c pl1 rv1 tu1 cd) (pL c L pl1 tr cd) (pl1 + 1) (pTk c L pl1 tr cd tk) 4 ((dl + z) % 4 % 2)) (by omega) (AI_b hAI).2.2.2.1 hlv8 hts s0 s1 sS
        have hkp : kp = 1 := by omega
        refine ⟨b0 + b1, wl, wu, gd, gz, 19, 20, r1.length + 30, pT c L pl1 tr cd, r1.length + 31, dc + 1, _, _, _, sz, pl1 + 1, _, tr, _, t, b, n, dl, ll, lb, ti, pa, _, _, _, e19, e20, e21, e22, Rv', Iw', Ho', Go', So', _, z, 0, by rw [← nI_1 dk], hI2, fun _ => ⟨fun p hp => ?_, fun _ => qs⟩, ⟨f1, f2, dm_lt _, fun q => absurd q (by decide), hhg2, f6, b0, b1, w0, w1, rfl⟩, bf, fun _ => 0, kf, 4, fun i => if i < pl1 / 4 then i else r1.length + 1, ⟨Or.inl ⟨rfl, hb⟩, hbf⟩, ⟨Or.inr ⟨r1.length + 3, rfl, ?_⟩, fun j hj => absurd hj (by omega)⟩, ⟨Or.inl ⟨rfl, hk⟩, fun q => absurd q (by decide)⟩, Or.inr ⟨r1.length + 2, rfl, ?_⟩, fun i hi => ?_, fun i j hi hj e => ?_, fun i hi => ?_, by omega⟩
        · have := p6 p hp
          rw [if_pos q4, hkp] at this
          omega
        · rw [q4]
          simp
        · rw [ed, ← FF_NF]
          simp
        · dsimp only
          by_cases e : i < pl1 / 4
          · rw [if_pos e]
            obtain ⟨n', f', g⟩ := hrow1 i (by omega)
            have gl := (List.getElem?_eq_some_iff.mp g).1
            refine ⟨n', f', ?_⟩
            rw [List.getElem?_append_left (by simp; omega), List.getElem?_append_left (by simp; omega), List.getElem?_append_left (by simp; omega), List.getElem?_append_left gl]
            exact g
          · rw [if_neg e]
            exact ⟨6, f66, by simp⟩
        · rw [ed] at hi hj
          dsimp only at e
          by_cases e1 : i < pl1 / 4
          · by_cases e2 : j < pl1 / 4
            · rw [if_pos e1, if_pos e2] at e; exact e
            · rw [if_pos e1, if_neg e2] at e; omega
          · by_cases e2 : j < pl1 / 4
            · rw [if_neg e1, if_pos e2] at e; omega
            · omega
        · rw [ed] at hi
          dsimp only
          split
          · omega
          · omega
    refine hJ [25] 100 _ _ _ _ _ ⟨0, Nat.zero_le _, cl_93 hl (by omega) (m := 5) (by omega) (by omega) (by omega) (fun j5 hj5 => ?_)⟩
    exact hJ [33] 100 _ _ _ _ _ ⟨fun _ => h33 _, fun _ => h33 _⟩
  have hlen' : pl / 4 ≤ r.length := by omega
  refine hJ [18] 100 _ _ _ _ _ ⟨fun _ => ?_, fun _ => h18 (k + 1) h hg pl rv tu 22 Rv lf r hI (Or.inl ⟨rfl, hla⟩) hlf f5 rfl hrow hlen'⟩
  by_cases hm : pl % 4 = 0
  · rw [hm] at hla
    exact ⟨0, Nat.zero_le _, cl_110z hl (by omega) (Or.inl ⟨rfl, hla⟩) ⟨fun q => absurd q (by decide), fun _ => h18 (k + 1) h hg pl rv tu 22 Rv lf r hI (Or.inl ⟨rfl, by rw [hm]; exact hla⟩) hlf f5 rfl hrow hlen'⟩⟩
  · refine ⟨1, Nat.le_add_left 1 _, cl_110 (k := 0) hl (by omega) hI rfl rfl hgd4 f4' (Or.inl ⟨rfl, hla⟩) hlf hm (fun Rv' => ⟨fun q => absurd q (by decide), fun _ => ?_⟩)⟩
    have hI2 := inv_back hI rfl hm
    have em : (pl - 1) % 4 = pl % 4 - 1 := by omega
    refine h18 k _ _ (pl - 1) _ _ (r.length + 28) Rv' lf _ hI2 (by rw [em]; exact RA_new) (fun j hj => ?_) (fun p hp => ?_) (by omega) (fun i hi => ?_) (by rw [List.length_append]; omega)
    · rw [show (pl - 1) / 4 = pl / 4 by omega]
      exact hlf j (by omega)
    · show (if p = who L (pl - 1) then sAdd (hg (who L (pl - 1))) (c (pl - 1)) else hg p) = if p = who L (pl - 1) then sAdd (h (who L (pl - 1))) (c (pl - 1)) else h p
      rw [f5 p hp, f5 (who L (pl - 1)) (Nat.mod_lt _ (by decide))]
    · obtain ⟨n', f', g⟩ := hrow i hi
      exact ⟨n', f', by rw [List.getElem?_append_left (List.getElem?_eq_some_iff.mp g).1]; exact g⟩
end
