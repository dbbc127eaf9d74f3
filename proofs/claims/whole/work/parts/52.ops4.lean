/-! the calls that change the table, class and model side by side -/
theorem tiM_cong {b b' : Nat → Nat} {n : Nat} (h : ∀ j, j < n → b j = b' j) : tiM b n = tiM b' n := by unfold tiM; rw [SN_cong h, SN_cong h]
theorem isZM_cong {b b' : Nat → Nat} {n z : Nat} (h : ∀ j, j < n → b j = b' j) (hz : isZM b' n z) : isZM b n z := by
  obtain ⟨z1, z2, z3, z4, z5⟩ := hz
  have hl1 := LV_le b' n
  unfold isZM
  rw [LV_cong h, h z z1, h (LV b' n - 1) (by omega)]
  refine ⟨z1, z2, z3, z4, fun j hj hj2 => ?_⟩
  rw [h j (by omega)]
  exact z5 j hj hj2
theorem e_alw {b bm : Nat → Nat} {n dl ll lb ti pa bd : Nat} (hA : AI b n dl ll lb ti pa) (q5 : ∀ j, j < n → bm j = b j) : alwM bm n bd = alw n dl ll lb ti bd := by
  have hLVle := LV_le b n
  rw [AI_alw hA]
  unfold alwM
  rw [LV_cong q5, SN_cong q5, SN_cong q5]
  rcases Nat.eq_zero_or_pos (LV b n) with e0 | e0
  · simp only [if_pos e0]
  · rw [q5 (LV b n - 1) (by omega)]
section
variable {l : Launch} {d : Nat} {w : am_M} {th : Nat} {f : Nat → Int64}
theorem st_begin (hl : l.stackTraces = false) (hd : 60 ≤ d) (hw : REL w th f) (x : Int32) : ST1 l d 151 102 [.int x] w cvI := by
  obtain ⟨st, dn, h, c, L, sz, pl, rv, tr, tu, t, b, n, dl, ll, lb, ti, pa, tk, sc, szM, bq, lv, trM, dcM, tiM, tc, T, ldM, ly, K, V, I, R, e5, r, N, bm, z, kp, rfl, hI, hM⟩ := hw
  intro Q1 hQ
  rcases NR_or x (n := 4) (by omega) with ⟨p, hp, rfl⟩ | hx
  · refine cl_151 hl (by omega) (fs := _) rfl (fun Q' hQ' => cl_41 hl (by omega) hp (hQ' _ _ ⟨f, rfl, ?_⟩))
    refine hQ 0 (wt 0 dn (hz h 4) c L 0 0 0 tr tu t b 0 p 0 0 1 0 (uN (uN tk 0 0) 1 0) sc ((cm th st dl szM h n bq lv trM dcM tiM tc T ldM ly K V I tk sc dn R e5 (eO (vp_updL f 0 (cvI (nI st)))) r))) (by omega) ⟨_, rfl⟩ (fun Q2 hq2 => cl_102 hl (by omega) hp (fun V' hV' => hq2 _ _ (vp_updL f 0 (cvI (nI st))) (REL_mk (inv_begin hI hp) (mod_begin hI hM hp hV')) (fun _ => out0 _ _)))
  · exact cl_151 hl (by omega) (fs := _) rfl (fun Q' hQ' => cl_41x hl (by omega) (by omega) hx (hQ' (.inr 1) _ ⟨by decide, hQ 1 _ (by omega) ⟨_, rfl⟩ (fun Q2 hq2 => cl_102x hl (by omega) hx (hq2 _ _ f (REL_mk hI hM) (fun e => absurd e (by decide))))⟩))
theorem st_deal (hl : l.stackTraces = false) (hd : 60 ≤ d) (hw : REL w th f) (x y u : Int32) : ST1 l d 152 103 [.int x, .int y, .int u] w cvI := by
  obtain ⟨st, dn, h, c, L, sz, pl, rv, tr, tu, t, b, n, dl, ll, lb, ti, pa, tk, sc, szM, bq, lv, trM, dcM, tiM, tc, T, ldM, ly, K, V, I, R, e5, r, N, bm, z, kp, rfl, hI, hM⟩ := hw
  intro Q1 hQ
  by_cases hx : (∃ f, f < 32 ∧ x = nI f) ∧ (∃ s, s < 32 ∧ s % 2 = 1 ∧ y = nI s) ∧ (∃ m, m < 9 ∧ u = nI m)
  · obtain ⟨⟨f0, hf0, rfl⟩, ⟨s0, hs0, hs1, rfl⟩, ⟨m0, hm0, rfl⟩⟩ := hx
    by_cases hs : st = 0 ∧ le4 h 0 = true
    · have hh : ∀ p, p < 4 → pc (dealH f0 s0 h (4 * m0) p) ≤ 8 := fun p hp => by
        have := dealH_pc (f := f0) (s := s0) (le4_iff.mp hs.2) (4 * m0) p hp
        omega
      refine cl_152 hl (by omega) (fs := _) rfl (fun Q' hQ' => cl_42 hl (by omega) hf0 hs0 hs1 hm0 hs.1 hs.2 (hQ' _ _ ⟨f, rfl, ?_⟩))
      refine hQ 0 (wt st dn (dealH f0 s0 h (4 * m0)) c L sz pl rv tr tu t b n dl ll lb ti pa tk sc ((cm th st dl szM h n bq lv trM dcM tiM tc T ldM ly K V I tk sc dn R e5 (eO (vp_updL f 0 (cvI (sm (dealH f0 s0 h (4 * m0) 0))))) r))) (by omega) ⟨_, rfl⟩ (fun Q2 hq2 => cl_103 hl (by omega) hf0 hs0 hs1 hm0 hs.1 (hAll_0.mpr hs.2) ?_)
      exact hq2 _ _ (vp_updL f 0 (cvI (sm (dealH f0 s0 h (4 * m0) 0)))) (REL_mk (inv_h hI hs.1 hh) hM) (fun _ => out0 _ _)
    · exact cl_152 hl (by omega) (fs := _) rfl (fun Q' hQ' => cl_42b hl (by omega) (by omega) hI.1.1 hf0 hs0 hs1 hm0 hs (hQ' (.inr 3) _ ⟨by decide, hQ 2 _ (by omega) ⟨_, rfl⟩ (fun Q2 hq2 => cl_103b hl (by omega) hI.1.1 hf0 hs0 hs1 hm0 (fun q => hs ⟨q.1, hAll_0.mp q.2⟩) (hq2 _ _ f (REL_mk hI hM) (fun e => absurd e (by decide))))⟩))
  · exact cl_152 hl (by omega) (fs := _) rfl (fun Q' hQ' => cl_42x hl (by omega) (by omega) hx (hQ' (.inr 2) _ ⟨by decide, hQ 1 _ (by omega) ⟨_, rfl⟩ (fun Q2 hq2 => cl_103x hl (by omega) hx (hq2 _ _ f (REL_mk hI hM) (fun e => absurd e (by decide))))⟩))
theorem st_give (hl : l.stackTraces = false) (hd : 60 ≤ d) (hw : REL w th f) (x y : Int32) : ST1 l d 153 104 [.int x, .int y] w cvI := by
  obtain ⟨st, dn, h, c, L, sz, pl, rv, tr, tu, t, b, n, dl, ll, lb, ti, pa, tk, sc, szM, bq, lv, trM, dcM, tiM, tc, T, ldM, ly, K, V, I, R, e5, r, N, bm, z, kp, rfl, hI, hM⟩ := hw
  intro Q1 hQ
  rcases NR_or x (n := 4) (by omega) with ⟨p, hp, rfl⟩ | hx
  · rcases NR_or y (n := 32) (by omega) with ⟨cd, hc, rfl⟩ | hy
    · by_cases hs : st = 0 ∧ pc (h p) < 8 ∧ bt (hAll h) cd = false
      · have hh : ∀ q, q < 4 → pc (upd h p (sAdd (h p) cd) q) ≤ 8 := fun q hq => by
          have h8 := (hI.2.1 hs.1).2.2.2 q hq
          show pc (if q = p then sAdd (h p) cd else h q) ≤ 8
          split
          · have := pc_add_le (h p) hc
            have := hs.2.1
            omega
          · exact h8
        refine cl_153 hl (by omega) (fs := _) rfl (fun Q' hQ' => cl_43 hl (by omega) hp hc hs.1 hs.2.1 hs.2.2 (hQ' _ _ ⟨f, rfl, ?_⟩))
        refine hQ 0 (wt st dn (upd h p (sAdd (h p) cd)) c L sz pl rv tr tu t b n dl ll lb ti pa tk sc ((cm th st dl szM h n bq lv trM dcM tiM tc T ldM ly K V I tk sc dn R e5 (eO (vp_updL f 0 (cvI (nI (pc (sAdd (h p) cd)))))) r))) (by omega) ⟨_, rfl⟩ (fun Q2 hq2 => cl_104 hl (by omega) hp hc hs.1 (by have := hs.2.1; omega) hs.2.2 ?_)
        exact hq2 _ _ (vp_updL f 0 (cvI (nI (pc (sAdd (h p) cd))))) (REL_mk (inv_h hI hs.1 hh) hM) (fun _ => out0 _ _)
      · exact cl_153 hl (by omega) (fs := _) rfl (fun Q' hQ' => cl_43b hl (by omega) (by omega) hp hc hI.1.1 hs (hQ' (.inr 3) _ ⟨by decide, hQ 2 _ (by omega) ⟨_, rfl⟩ (fun Q2 hq2 => cl_104b hl (by omega) hI.1.1 hp hc (fun q => hs ⟨q.1, by have h8 := (hI.2.1 q.1).2.2.2 p hp; have := q.2.1; omega, q.2.2⟩) (hq2 _ _ f (REL_mk hI hM) (fun e => absurd e (by decide))))⟩))
    · exact cl_153 hl (by omega) (fs := _) rfl (fun Q' hQ' => cl_43y hl (by omega) (by omega) hp hy (hQ' (.inr 1) _ ⟨by decide, hQ 1 _ (by omega) ⟨_, rfl⟩ (fun Q2 hq2 => cl_104y hl (by omega) hp hy (hq2 _ _ f (REL_mk hI hM) (fun e => absurd e (by decide))))⟩))
  · exact cl_153 hl (by omega) (fs := _) rfl (fun Q' hQ' => cl_43x hl (by omega) (by omega) hx (hQ' (.inr 1) _ ⟨by decide, hQ 1 _ (by omega) ⟨_, rfl⟩ (fun Q2 hq2 => cl_104x hl (by omega) hx (hq2 _ _ f (REL_mk hI hM) (fun e => absurd e (by decide))))⟩))
theorem st_open (hl : l.stackTraces = false) (hd : 60 ≤ d) (hw : REL w th f) : ST1 l d 154 105 [] w cvI := by
  obtain ⟨st, dn, h, c, L, sz, pl, rv, tr, tu, t, b, n, dl, ll, lb, ti, pa, tk, sc, szM, bq, lv, trM, dcM, tiM, tc, T, ldM, ly, K, V, I, R, e5, r, N, bm, z, kp, rfl, hI, hM⟩ := hw
  intro Q1 hQ
  by_cases hs : st = 0 ∧ rdy h = true
  · refine cl_154 hl (by omega) (fs := _) rfl (fun Q' hQ' => cl_44 hl (by omega) hs.1 hs.2 (hQ' _ _ ⟨f, rfl, ?_⟩))
    refine hQ 0 (wt 1 dn h c L (pc (h 0)) pl rv tr tu t b n dl ll lb ti pa tk sc ((cm th st dl szM h n bq lv trM dcM tiM tc T ldM ly K V I tk sc dn R e5 (eO (vp_updL f 0 (cvI (nI (4 * pc (h 0)))))) r))) (by omega) ⟨_, rfl⟩ (fun Q2 hq2 => cl_105 hl (by omega) hs.1 hs.2 ?_)
    exact hq2 _ _ (vp_updL f 0 (cvI (nI (4 * pc (h 0))))) (REL_mk (inv_open hI hs.1 hs.2) (mod_open hI hM hs.1)) (fun _ => out0 _ _)
  · exact cl_154 hl (by omega) (fs := _) rfl (fun Q' hQ' => cl_44b hl (by omega) (by omega) hI.1.1 hs (hQ' (.inr 3) _ ⟨by decide, hQ 1 _ (by omega) ⟨_, rfl⟩ (fun Q2 hq2 => cl_105b hl (by omega) hI.1.1 hs (hq2 _ _ f (REL_mk hI hM) (fun e => absurd e (by decide))))⟩))
theorem st_back (hl : l.stackTraces = false) (hd : 60 ≤ d) (hw : REL w th f) : ST1 l d 162 126 [] w cvI := by
  obtain ⟨st, dn, h, c, L, sz, pl, rv, tr, tu, t, b, n, dl, ll, lb, ti, pa, tk, sc, szM, bq, lv, trM, dcM, tiM, tc, T, ldM, ly, K, V, I, R, e5, r, N, bm, z, kp, rfl, hI, hM⟩ := hw
  intro Q1 hQ
  have hn := INV_n hI
  have hI' := hI
  obtain ⟨⟨h1, h2, h3⟩, i0, i1, i2, i3, ⟨j1, j2, j3, j4, j5⟩, j6, j7, j8, j9, j10⟩ := hI'
  have hM' := hM
  obtain ⟨m1, m2, m3, ⟨m4, m5, m6, m7⟩, _⟩ := hM'
  by_cases hs : st = 2 ∧ pl % 4 ≠ 0
  · obtain ⟨hM2, w1, w2, w3⟩ := mod_back hI hM hs.1 hs.2
    refine cl_162 hl (by omega) (fs := _) rfl (fun Q' hQ' => cl_52 hl (by omega) hs.1 hs.2 j3 (j7 _ (by omega)) (hQ' _ _ ⟨f, rfl, ?_⟩))
    refine hQ 0 (wt st dn (upd h (who L (pl - 1)) (sAdd (h (who L (pl - 1))) (c (pl - 1)))) c L sz (pl - 1) (sDel rv (pl - 1)) tr (who L (pl - 1)) t b n dl ll lb ti pa tk sc ((cm th st dl szM h n bq lv trM dcM tiM tc T ldM ly K V I tk sc dn R e5 (eO (vp_updL f 0 (cvI (nI (c (pl - 1)))))) r))) (by omega) ⟨_, rfl⟩ (fun Q2 hq2 => cl_126 hl (by omega) hs.1 (by have := hs.2; omega) (by omega) m6 h2 (by omega) (by rw [w2]; exact j6 _ (by have := hs.2; omega)) w3 ?_)
    rw [w1] at hM2 ⊢
    rw [w2]
    exact hq2 _ _ (vp_updL f 0 (cvI (nI (c (pl - 1))))) (REL_mk (inv_back hI hs.1 hs.2) hM2) (fun _ => out0 _ _)
  · exact cl_162 hl (by omega) (fs := _) rfl (fun Q' hQ' => cl_52x hl (by omega) (by omega) h1 hs j3 (hQ' (.inr 3) _ ⟨by decide, hQ 1 _ (by omega) ⟨_, rfl⟩ (fun Q2 hq2 => cl_126b hl (by omega) h1 (by omega) (fun q => hs ⟨q.1, by have := q.2; omega⟩) (hq2 _ _ f (REL_mk hI hM) (fun e => absurd e (by decide))))⟩))
theorem st_bid (hl : l.stackTraces = false) (hd : 60 ≤ d) (hw : REL w th f) (x : Int32) : ST1 l d 157 114 [.int x] w cvI := by
  obtain ⟨st, dn, h, c, L, sz, pl, rv, tr, tu, t, b, n, dl, ll, lb, ti, pa, tk, sc, szM, bq, lv, trM, dcM, tiM, tc, T, ldM, ly, K, V, I, R, e5, r, N, bm, z, kp, rfl, hI, hM⟩ := hw
  intro Q1 hQ
  have hn := INV_n hI
  have hb := AI_b hI.1.2.2
  have hM' := hM
  obtain ⟨⟨q1, q2, q3, q4, q5⟩, ⟨m2, m2b, m2c, m2d, m2e⟩, ⟨m3, m3b⟩, ⟨m4, m5, m6, m7⟩, _⟩ := hM'
  rcases NR_or x (n := 43) (by omega) with ⟨bd, hbd, rfl⟩ | hx
  · have e := e_alw (bd := bd) hI.1.2.2 q5
    have hbm : ∀ j, j < n → bm j < 43 := fun j hj => by rw [q5 j hj]; exact hI.1.2.2.1 j hj
    cases ha0 : (decide (st = 1) && alw n dl ll lb ti bd) with
    | false => exact cl_157 hl (by omega) (fs := _) rfl (fun Q' hQ' => cl_47b hl (by omega) (by omega) hI.1.1 hbd hI.1.2.1 (by omega) hb.1 hb.2.1 hb.2.2.2.1 ha0 (hQ' (.inr 3) _ ⟨by decide, hQ 2 _ (by omega) ⟨_, rfl⟩ (fun Q2 hq2 => cl_114b hl (by omega) hI.1.1 q1 q2 q3 hbm hbd (by rw [e]; exact ha0) (hq2 _ _ f (REL_mk hI hM) (fun e => absurd e (by decide))))⟩))
    | true =>
      rw [Bool.and_eq_true, decide_eq_true_iff] at ha0
      obtain ⟨h1, ha⟩ := ha0
      obtain ⟨k1, k2, k3, k4⟩ := inv_bid hI h1 hbd ha
      obtain ⟨eA, eB⟩ := bid_end k1 k2 k3
      have hag : ∀ j, j < n + 1 → uN bm n bd j = uN b n bd j := by
        intro j hj
        show (if j = n then bd else bm j) = if j = n then bd else b j
        by_cases e : j = n
        · rw [if_pos e, if_pos e]
        · rw [if_neg e, if_neg e, q5 j (by omega)]
      have ePS := PS_cong hag
      have eLV := LV_cong hag
      have eti := tiM_cong hag
      have hlle := LV_le (uN b n bd) (n + 1)
      have elv : uN bm n bd (LV (uN bm n bd) (n + 1) - 1) = uN b n bd (LV (uN b n bd) (n + 1) - 1) := by rw [eLV]; exact hag _ (by omega)
      have hLVs : stl (nLl ll bd) (nPa pa bd) = true → 0 < LV (uN b n bd) (n + 1) := fun q => by
        have := (AI_b k1).2.2.2.2.2
        have := (stl_iff.mp q).1
        omega
      have hzx : ∃ z', stl (nLl ll bd) (nPa pa bd) = true → isZ (uN b n bd) (n + 1) dl (nLl ll bd) (nLb dl n lb bd) z' := by
        cases hs : stl (nLl ll bd) (nPa pa bd) with
        | false => exact ⟨0, fun q => by cases q⟩
        | true =>
          obtain ⟨z', hz'⟩ := isZ_ex k1 (hLVs hs)
          exact ⟨z', fun _ => hz'⟩
      obtain ⟨z', hz'⟩ := hzx
      have hpl0 := (hI.2.2.1 h1).2.2.1
      have hzM : PS (uN bm n bd) (n + 1) = 3 → PS (uN bm n bd) (n + 1) < n + 1 → 0 < LV (uN bm n bd) (n + 1) ∧ isZM (uN bm n bd) (n + 1) z' := by
        intro a1 a2
        rw [ePS] at a1 a2
        have hs := eB.mpr ⟨a1, a2⟩
        rw [eLV]
        exact ⟨hLVs hs, isZM_cong hag (isZ_M k1 (hLVs hs) (hz' hs))⟩
      have hg : ∀ (bq' : Nat) (e5' : am_E) (r' : am_M) (N' : Nat) (b' : Nat → Nat), (∀ j, j < n + 1 → b' j = uN bm n bd j) → ∀ j, j < n + 1 → b' j = uN b n bd j := fun _ _ _ _ b' hh j hj => by rw [hh j hj, hag j hj]
      refine cl_157 hl (by omega) (fs := _) rfl (fun Q' hQ' => cl_47a (z := z') hl (by omega) h1 hbd hI.1.2.1 k4 hb.1 hb.2.1 hb.2.2.2.1 (by omega) ha hI.1.2.2.1 hz' (fun hA => hQ' _ _ ⟨f, rfl, ?_⟩) (fun hB => hQ' _ _ ⟨f, rfl, ?_⟩) (fun hA hB => hQ' _ _ ⟨f, rfl, ?_⟩))
      · obtain ⟨p1, p2⟩ := eA.mp hA
        have hns : stl (nLl ll bd) (nPa pa bd) = false := by
          cases hs : stl (nLl ll bd) (nPa pa bd) with
          | false => rfl
          | true => have := eB.mp hs; omega
        refine hQ 0 (wt 3 dn h c L sz pl rv tr tu t (uN b n bd) (n + 1) dl (nLl ll bd) (nLb dl n lb bd) (nTi ti bd) (nPa pa bd) tk sc ((cm th st dl szM h n bq lv trM dcM tiM tc T ldM ly K V I tk sc dn R e5 (eO (vp_updL f 0 (cvI (-1)))) r))) (by omega) ⟨_, rfl⟩ (fun Q2 hq2 => cl_114 (z := z') hl (by omega) (by omega) h1 q1 q2 q3 q4 k4 hbm hbd (by rw [e]; exact ha) hI.1.2.1 (by omega) m6 hzM (fun _ _ bq' e5' r' N' b' g1 g2 g3 g4 => ?_) (fun a1 _ => ?_) (fun a1 _ => ?_))
        · exact hq2 _ _ (vp_updL f 0 (cvI (-1))) (REL_mk (inv_bidA hI h1 hbd ha hA) (mod_bid hI hM h1 (by decide) g1 g2 g3 (hg bq' e5' r' N' b' g4) hns)) (fun _ => out0 _ _)
        · rw [ePS] at a1; omega
        · rw [ePS] at a1; exact absurd ⟨p1, p2⟩ a1
      · obtain ⟨p1, p2⟩ := eB.mp hB
        refine hQ 0 (wt 2 dn h c (uN L 0 (((dl + z') % 4 + 1) % 4)) sz pl rv ((nLl ll bd - 1) % 5) (((dl + z') % 4 + 1) % 4) t (uN b n bd) (n + 1) dl (nLl ll bd) (nLb dl n lb bd) (nTi ti bd) (nPa pa bd) tk sc ((cm th st dl szM h n bq lv trM dcM tiM tc T ldM ly K V I tk sc dn R e5 (eO (vp_updL f 0 (cvI (nI (((dl + z') % 4 + 1) % 4))))) r))) (by omega) ⟨_, rfl⟩ (fun Q2 hq2 => cl_114 (z := z') hl (by omega) (by omega) h1 q1 q2 q3 q4 k4 hbm hbd (by rw [e]; exact ha) hI.1.2.1 (by omega) m6 hzM (fun a1 a2 => ?_) (fun _ _ bq' e5' r' N' b' g1 g2 g3 g4 => ?_) (fun _ a1 => ?_))
        · rw [ePS] at a2; omega
        · rw [elv, eti]
          exact hq2 _ _ (vp_updL f 0 (cvI (nI (((dl + z') % 4 + 1) % 4)))) (REL_mk (inv_bidB hI h1 hbd ha hB (hz' hB)) (mod_bidB hI hM h1 hbd ha g1 g2 g3 (hg bq' e5' r' N' b' g4) hB)) (fun _ => out0 _ _)
        · rw [ePS] at a1; exact absurd ⟨p1, p2⟩ a1
      · have nA : ¬ (PS (uN b n bd) (n + 1) = n + 1 ∧ PS (uN b n bd) (n + 1) = 4) := fun q => by rw [eA.mpr q] at hA; cases hA
        have nB : ¬ (PS (uN b n bd) (n + 1) = 3 ∧ PS (uN b n bd) (n + 1) < n + 1) := fun q => by rw [eB.mpr q] at hB; cases hB
        refine hQ 0 (wt st dn h c L sz pl rv tr tu t (uN b n bd) (n + 1) dl (nLl ll bd) (nLb dl n lb bd) (nTi ti bd) (nPa pa bd) tk sc ((cm th st dl szM h n bq lv trM dcM tiM tc T ldM ly K V I tk sc dn R e5 (eO (vp_updL f 0 (cvI (nI ((dl + (n + 1)) % 4))))) r))) (by omega) ⟨_, rfl⟩ (fun Q2 hq2 => cl_114 (z := z') hl (by omega) (by omega) h1 q1 q2 q3 q4 k4 hbm hbd (by rw [e]; exact ha) hI.1.2.1 (by omega) m6 hzM (fun a1 a2 => ?_) (fun a1 a2 => ?_) (fun _ _ bq' e5' r' N' b' g1 g2 g3 g4 => ?_))
        · rw [ePS] at a1 a2; exact absurd ⟨a1, a2⟩ nA
        · rw [ePS] at a1 a2; exact absurd ⟨a1, a2⟩ nB
        · exact hq2 _ _ (vp_updL f 0 (cvI (nI ((dl + (n + 1)) % 4)))) (REL_mk (inv_bidC hI h1 hbd ha hA hB) (mod_bid hI hM h1 (by omega) g1 g2 g3 (hg bq' e5' r' N' b' g4) hB)) (fun _ => out0 _ _)
  · exact cl_157 hl (by omega) (fs := _) rfl (fun Q' hQ' => cl_47x hl (by omega) (by omega) hx (hQ' (.inr 2) _ ⟨by decide, hQ 1 _ (by omega) ⟨_, rfl⟩ (fun Q2 hq2 => cl_114x hl (by omega) hx (hq2 _ _ f (REL_mk hI hM) (fun e => absurd e (by decide))))⟩))
theorem st_play (hl : l.stackTraces = false) (hd : 60 ≤ d) (hw : REL w th f) (x : Int32) : ST1 l d 161 125 [.int x] w cvI := by
  obtain ⟨st, dn, h, c, L, sz, pl, rv, tr, tu, t, b, n, dl, ll, lb, ti, pa, tk, sc, szM, bq, lv, trM, dcM, tiM, tc, T, ldM, ly, K, V, I, R, e5, r, N, bm, z, kp, rfl, hI, hM⟩ := hw
  intro Q1 hQ
  have hn := INV_n hI
  have hb4 := AI_b hI.1.2.2
  have hVle := V_le hM hI.2.2.2.2.2.1.2.2.1
  have hI' := hI
  have hM' := hM
  obtain ⟨⟨h1, h2, h3⟩, i0, i1, i2, i3, ⟨j1, j2, j3, j4, j5⟩, j6, j7, j8, j9, j10⟩ := hI'
  obtain ⟨⟨q1, q2, q3, q4, q5⟩, ⟨m2, m2b, m2c, m2d, m2e⟩, ⟨m3, m3b⟩, ⟨m4, m5, m6, m7⟩, m8, m9, m10, m11⟩ := hM'
  rcases NR_or x (n := 32) (by omega) with ⟨cd, hc, rfl⟩ | hx
  · by_cases hs : st = 2 ∧ bt (h tu) cd = true
    · obtain ⟨e, hb⟩ := hs
      have hwho := e_who hI hM e
      obtain ⟨p1, p2, p3, p4, p5, p6, p7, p8, p9, p10⟩ := inv_pc hI e hc hb
      obtain ⟨bb, hbb⟩ : ∃ bb, bb = !rnV (h tu) cd K ly := ⟨_, rfl⟩
      obtain ⟨k1, k2, k3, k4, k5⟩ := mod_pc hI hM e hc hb hbb
      have hK : ∀ i, i < ly → K i < 32 := fun i hi => by rw [m8 i (by omega)]; exact j6 _ (by omega)
      have hb' : bt (h ((ldM + ly) % 4)) cd = true := by rw [hwho]; exact hb
      have hbb' : bb = !rnV (h ((ldM + ly) % 4)) cd K ly := by rw [hwho]; exact hbb
      by_cases h3' : ly < 3
      · have e4 : ¬ (pl + 1) % 4 = 0 := by omega
        have hs : (pl + 1) / 4 < sz := by omega
        have etk : pTk c L pl tr cd tk = tk := if_neg e4
        have eTu : pTu c L pl tr tu cd = (ldM + (ly + 1)) % 4 := by unfold pTu; rw [if_neg e4]; omega
        have hI2 := inv_play hI e hc hb hs
        have hM2 := mod_play hI hM e hc hb hbb h3' (tk' := tk)
        refine cl_161 hl (by omega) (fs := _) rfl (fun Q' hQ' => cl_51 hl (by omega) e j5 hc hb p1 j4 j6 p3 hs p5 (by omega) h2 hn (hQ' _ _ ⟨f, rfl, ?_⟩))
        rw [etk] at hI2 ⊢
        refine hQ 0 (wt st dn (upd h tu (sDel (h tu) cd)) (uN c pl cd) (pL c L pl tr cd) sz (pl + 1) (pRv h c pl rv tu cd) tr (pTu c L pl tr tu cd) t b n dl ll lb ti pa tk sc ((cm th st dl szM h n bq lv trM dcM tiM tc T ldM ly K V I tk sc dn R e5 (eO (vp_updL f 0 (cvI (nI (pTu c L pl tr tu cd))))) r))) (by omega) ⟨_, rfl⟩ (fun Q2 hq2 => cl_125 hl (by omega) e h3' m6 h2 (by omega) hc hb' (fun q => hK 0 (by omega)) hbb' ?_)
        rw [hwho]
        exact hq2 _ _ (vp_updL f 0 (cvI (nI (pTu c L pl tr tu cd)))) (REL_mk hI2 hM2) (fun _ => by rw [out0, eTu])
      · have hly : ly = 3 := by omega
        have e4 : (pl + 1) % 4 = 0 := by omega
        have hBe := (k5 hly).symm
        have hfin := fin_iff hI e hc hb (by omega)
        have etk : pTk c L pl tr cd tk = uN tk (pT c L pl tr cd % 2) (tk (pT c L pl tr cd % 2) + 1) := if_pos e4
        have eTu : pTu c L pl tr tu cd = pT c L pl tr cd := if_pos e4
        by_cases hs : (pl + 1) / 4 < sz
        · have hI2 := inv_play hI e hc hb hs
          have hne : hAll (upd h tu (sDel (h tu) cd)) ≠ 0 := fun q => by have := hfin.mp q; omega
          refine cl_161 hl (by omega) (fs := _) rfl (fun Q' hQ' => cl_51 hl (by omega) e j5 hc hb p1 j4 j6 p3 hs p5 (by omega) h2 hn (hQ' _ _ ⟨f, rfl, ?_⟩))
          rw [etk] at hI2 ⊢
          refine hQ 0 (wt st dn (upd h tu (sDel (h tu) cd)) (uN c pl cd) (pL c L pl tr cd) sz (pl + 1) (pRv h c pl rv tu cd) tr (pTu c L pl tr tu cd) t b n dl ll lb ti pa (uN tk (pT c L pl tr cd % 2) (tk (pT c L pl tr cd % 2) + 1)) sc ((cm th st dl szM h n bq lv trM dcM tiM tc T ldM ly K V I tk sc dn R e5 (eO (vp_updL f 0 (cvI (nI (pTu c L pl tr tu cd))))) r))) (by omega) ⟨_, rfl⟩ (fun Q2 hq2 => cl_125e hl (by omega) e hly m6 h2 (by omega) hc hb' hK (by omega) (by omega) (by omega) hbb' hBe (by rw [hwho]; exact hne) (fun T' t1 t2 t3 t4 => ?_))
          rw [hwho]
          exact hq2 _ _ (vp_updL f 0 (cvI (nI (pTu c L pl tr tu cd)))) (REL_mk hI2 (mod_end hI hM e hc hb hbb hly hBe (Or.inl e) q1 t1 t2 t3 t4)) (fun _ => by rw [out0, eTu])
        · have hs' : (pl + 1) / 4 = sz := by omega
          have hI2 := inv_fin hI e hc hb hs'
          have hst := (INV_stl hI).mpr (Or.inl e)
          obtain ⟨a1, a2, a3, a4⟩ := m2 hst
          have hll := stl_iff.mp hst
          have epay := payM_N (tk := pTk c L pl tr cd tk) k3 4 (Nat.le_refl _)
          refine cl_161 hl (by omega) (fs := _) rfl (fun Q' hQ' => cl_51f (z := z) (m := (pl + 1) / 4) hl (by omega) e j5 hc hb p1 j4 j6 p3 hs' p5 (by omega) (fun i hi => pL_lt j7 _ (by omega)) (pTk_sum j9) (by omega) hll.1 hb4.1 hb4.2.2.2.1 hb4.2.2.1 hb4.2.1 h2 hn hI.1.2.2.1 (j10 hst) (hQ' _ _ ⟨f, rfl, ?_⟩))
          rw [etk] at hI2 epay ⊢
          refine hQ 0 (wt 3 (dn + 1) (upd h tu (sDel (h tu) cd)) (uN c pl cd) (pL c L pl tr cd) sz (pl + 1) (pRv h c pl rv tu cd) tr (pTu c L pl tr tu cd) t b n dl ll lb ti pa (payN (pRv h c pl rv tu cd) (pL c L pl tr cd) (pl + 1) (uN tk (pT c L pl tr cd % 2) (tk (pT c L pl tr cd % 2) + 1)) 4) (scN sc ((dl + z) % 4 % 2) ti ((ll - 1) / 5 + 1) ((ll - 1) % 5) (payN (pRv h c pl rv tu cd) (pL c L pl tr cd) (pl + 1) (uN tk (pT c L pl tr cd % 2) (tk (pT c L pl tr cd % 2) + 1)) 4 ((dl + z) % 4 % 2))) ((cm th st dl szM h n bq lv trM dcM tiM tc T ldM ly K V I tk sc dn R e5 (eO (vp_updL f 0 (cvI (-1)))) r))) (by omega) ⟨_, rfl⟩ (fun Q2 hq2 => cl_125f (lvl := (ll - 1) / 5 + 1) hl (by omega) (by omega) e hly m6 h2 (by omega) hc hb' hK (by omega) (by omega) (by omega) hbb' hBe (by rw [hwho]; exact hfin.mpr hs') a1 (by omega) (by omega) m2d (fun p hp => Nat.le_trans (hVle p hp) (by omega)) (fun T' v t1 t2 t3 t4 => ?_))
          have esc : scN sc (dcM % 2) tiM ((ll - 1) / 5 + 1) trM (payM (uN V tu (V tu + b2n bb)) (uN tk (pT c L pl tr cd % 2) (tk (pT c L pl tr cd % 2) + 1)) 4 (dcM % 2)) = scN sc ((dl + z) % 4 % 2) ti ((ll - 1) / 5 + 1) ((ll - 1) % 5) (payN (pRv h c pl rv tu cd) (pL c L pl tr cd) (pl + 1) (uN tk (pT c L pl tr cd % 2) (tk (pT c L pl tr cd % 2) + 1)) 4 ((dl + z) % 4 % 2)) := by
            rw [epay, a2, a3, a4]
          rw [hwho, esc, epay]
          exact hq2 _ _ (vp_updL f 0 (cvI (-1))) (REL_mk hI2 (mod_end hI hM e hc hb hbb hly hBe (Or.inr rfl) (bqA_app q1) t1 t2 t3 t4)) (fun _ => out0 _ _)
    · exact cl_161 hl (by omega) (fs := _) rfl (fun Q' hQ' => cl_51y hl (by omega) (by omega) h1 j5 hc hs (hQ' (.inr 3) _ ⟨by decide, hQ 2 _ (by omega) ⟨_, rfl⟩ (fun Q2 hq2 => cl_125y hl (by omega) h1 (by omega) m6 h2 (by omega) hc (fun q => hs ⟨q.1, by have := e_who hI hM q.1; rw [← this]; exact q.2⟩) (hq2 _ _ f (REL_mk hI hM) (fun e => absurd e (by decide))))⟩))
  · exact cl_161 hl (by omega) (fs := _) rfl (fun Q' hQ' => cl_51x hl (by omega) (by omega) hx (hQ' (.inr 1) _ ⟨by decide, hQ 1 _ (by omega) ⟨_, rfl⟩ (fun Q2 hq2 => cl_125x hl (by omega) hx (hq2 _ _ f (REL_mk hI hM) (fun e => absurd e (by decide))))⟩))
end
