/-! the calls that change nothing, class and model side by side -/
section
variable {l : Launch} {d : Nat} {w : am_M} {th : Nat} {f : Nat → Int64}
theorem st_has (hl : l.stackTraces = false) (hd : 60 ≤ d) (hw : REL w th f) (x y : Int32) : ST1 l d 155 106 [.int x, .int y] w cvZ := by
  obtain ⟨st, dn, h, c, L, sz, pl, rv, tr, tu, t, b, n, dl, ll, lb, ti, pa, tk, sc, szM, bq, lv, trM, dcM, tiM, tc, T, ldM, ly, K, V, I, R, e5, r, N, bm, z, kp, rfl, hI, hM⟩ := hw
  intro Q1 hQ
  rcases NR_or x (n := 4) (by omega) with ⟨p, hp, rfl⟩ | hx
  · rcases NR_or y (n := 32) (by omega) with ⟨cd, hc, rfl⟩ | hy
    · refine cl_155 hl (by omega) (fs := _) rfl (fun Q' hQ' => cl_45 hl (by omega) hp hc (hQ' _ _ ⟨f, rfl, ?_⟩))
      exact hQ 0 (wt st dn h c L sz pl rv tr tu t b n dl ll lb ti pa tk sc ((cm th st dl szM h n bq lv trM dcM tiM tc T ldM ly K V I tk sc dn R e5 (eO (vp_updL f 0 (cvZ (bI (bt (h p) cd))))) r))) (by omega) ⟨_, rfl⟩ (fun Q2 hq2 => cl_106 hl (by omega) hp hc (hq2 _ _ (vp_updL f 0 (cvZ (bI (bt (h p) cd)))) (REL_mk hI hM) (fun _ => out0 _ _)))
    · exact cl_155 hl (by omega) (fs := _) rfl (fun Q' hQ' => cl_45y hl (by omega) (by omega) hp hy (hQ' (.inr 1) _ ⟨by decide, hQ 1 _ (by omega) ⟨_, rfl⟩ (fun Q2 hq2 => cl_106y hl (by omega) hp hy (fun v => hq2 _ _ f (REL_mk hI hM) (fun e => absurd e (by decide))))⟩))
  · exact cl_155 hl (by omega) (fs := _) rfl (fun Q' hQ' => cl_45x hl (by omega) (by omega) hx (hQ' (.inr 1) _ ⟨by decide, hQ 1 _ (by omega) ⟨_, rfl⟩ (fun Q2 hq2 => cl_106x hl (by omega) hx (fun v => hq2 _ _ f (REL_mk hI hM) (fun e => absurd e (by decide))))⟩))
theorem st_hand (hl : l.stackTraces = false) (hd : 60 ≤ d) (hw : REL w th f) (x y u : Int32) : ST1 l d 156 108 [.int x, .int y, .int u] w cvI := by
  obtain ⟨st, dn, h, c, L, sz, pl, rv, tr, tu, t, b, n, dl, ll, lb, ti, pa, tk, sc, szM, bq, lv, trM, dcM, tiM, tc, T, ldM, ly, K, V, I, R, e5, r, N, bm, z, kp, rfl, hI, hM⟩ := hw
  intro Q1 hQ
  rcases NR_or x (n := 4) (by omega) with ⟨p, hp, rfl⟩ | hx
  · have hbad : NR y 5 ∨ NR u 3 → am_Call l d 156 1 (.ref 0 :: ([.int (nI p), .int y, .int u] ++ [.ref 28])) (wt st dn h c L sz pl rv tr tu t b n dl ll lb ti pa tk sc ((cm th st dl szM h n bq lv trM dcM tiM tc T ldM ly K V I tk sc dn R e5 (eO f) r))) Q1 := fun hb =>
      cl_156 hl (by omega) (fs := _) rfl (fun Q' hQ' => cl_46y hl (by omega) (by omega) hp hb (hQ' (.inr 2) _ ⟨by decide, hQ 2 _ (by omega) ⟨_, rfl⟩ (fun Q2 hq2 => cl_108y hl (by omega) hp hb (hq2 _ _ f (REL_mk hI hM) (fun e => absurd e (by decide))))⟩))
    rcases NR_or y (n := 5) (by omega) with ⟨s, hs, rfl⟩ | hy
    · rcases NR_or u (n := 3) (by omega) with ⟨wh, hwh, rfl⟩ | hu
      · refine cl_156 hl (by omega) (fs := _) rfl (fun Q' hQ' => cl_46 hl (by omega) hp hs hwh (hQ' _ _ ⟨f, rfl, ?_⟩))
        exact hQ 0 (wt st dn h c L sz pl rv tr tu t b n dl ll lb ti pa tk sc ((cm th st dl szM h n bq lv trM dcM tiM tc T ldM ly K V I tk sc dn R e5 (eO (vp_updL f 0 (cvI (handV h p s wh)))) r))) (by omega) ⟨_, rfl⟩ (fun Q2 hq2 => cl_108 hl (by omega) hp hs hwh (hq2 _ _ (vp_updL f 0 (cvI (handV h p s wh))) (REL_mk hI hM) (fun _ => out0 _ _)))
      · exact hbad (Or.inr hu)
    · exact hbad (Or.inl hy)
  · exact cl_156 hl (by omega) (fs := _) rfl (fun Q' hQ' => cl_46x hl (by omega) (by omega) hx (hQ' (.inr 1) _ ⟨by decide, hQ 1 _ (by omega) ⟨_, rfl⟩ (fun Q2 hq2 => cl_108x hl (by omega) hx (hq2 _ _ f (REL_mk hI hM) (fun e => absurd e (by decide))))⟩))
theorem st_canBid (hl : l.stackTraces = false) (hd : 60 ≤ d) (hw : REL w th f) (x : Int32) : ST1 l d 158 116 [.int x] w cvZ := by
  obtain ⟨st, dn, h, c, L, sz, pl, rv, tr, tu, t, b, n, dl, ll, lb, ti, pa, tk, sc, szM, bq, lv, trM, dcM, tiM, tc, T, ldM, ly, K, V, I, R, e5, r, N, bm, z, kp, rfl, hI, hM⟩ := hw
  intro Q1 hQ
  have hn := INV_n hI
  have hb := AI_b hI.1.2.2
  have hM' := hM
  obtain ⟨⟨q1, q2, q3, q4, q5⟩, _⟩ := hM'
  have hLVle := LV_le b n
  rcases NR_or x (n := 43) (by omega) with ⟨bd, hbd, rfl⟩ | hx
  · have e : alwM bm n bd = alw n dl ll lb ti bd := by
      rw [AI_alw hI.1.2.2]
      unfold alwM
      rw [LV_cong q5, SN_cong q5, SN_cong q5]
      rcases Nat.eq_zero_or_pos (LV b n) with e0 | e0
      · simp only [if_pos e0]
      · rw [q5 (LV b n - 1) (by omega)]
    refine cl_158 hl (by omega) (fs := _) rfl (fun Q' hQ' => cl_48 hl (by omega) hI.1.1 hbd hI.1.2.1 (by omega) hb.1 hb.2.1 hb.2.2.2.1 (hQ' _ _ ⟨f, rfl, ?_⟩))
    refine hQ 0 (wt st dn h c L sz pl rv tr tu t b n dl ll lb ti pa tk sc ((cm th st dl szM h n bq lv trM dcM tiM tc T ldM ly K V I tk sc dn R e5 (eO (vp_updL f 0 (cvZ (bI (decide (st = 1) && alw n dl ll lb ti bd))))) r))) (by omega) ⟨_, rfl⟩ (fun Q2 hq2 => cl_116 hl (by omega) hI.1.1 q1 q2 q3 (fun j hj => by rw [q5 j hj]; exact hI.1.2.2.1 j hj) hbd ?_)
    rw [e]
    exact hq2 _ _ (vp_updL f 0 (cvZ (bI (decide (st = 1) && alw n dl ll lb ti bd)))) (REL_mk hI hM) (fun _ => out0 _ _)
  · exact cl_158 hl (by omega) (fs := _) rfl (fun Q' hQ' => cl_48x hl (by omega) (by omega) hx (hQ' (.inr 2) _ ⟨by decide, hQ 1 _ (by omega) ⟨_, rfl⟩ (fun Q2 hq2 => cl_116x hl (by omega) hx (fun v => hq2 _ _ f (REL_mk hI hM) (fun e => absurd e (by decide))))⟩))
theorem st_bidAt (hl : l.stackTraces = false) (hd : 60 ≤ d) (hw : REL w th f) (x : Int32) : ST1 l d 159 117 [.int x] w cvI := by
  obtain ⟨st, dn, h, c, L, sz, pl, rv, tr, tu, t, b, n, dl, ll, lb, ti, pa, tk, sc, szM, bq, lv, trM, dcM, tiM, tc, T, ldM, ly, K, V, I, R, e5, r, N, bm, z, kp, rfl, hI, hM⟩ := hw
  intro Q1 hQ
  have hn := INV_n hI
  have hM' := hM
  obtain ⟨⟨q1, q2, q3, q4, q5⟩, _⟩ := hM'
  rcases NR_or x (n := n) (by omega) with ⟨j, hj, rfl⟩ | hx
  · refine cl_159 hl (by omega) (fs := _) rfl (fun Q' hQ' => cl_49 hl (by omega) hj hn (hQ' _ _ ⟨f, rfl, ?_⟩))
    refine hQ 0 (wt st dn h c L sz pl rv tr tu t b n dl ll lb ti pa tk sc ((cm th st dl szM h n bq lv trM dcM tiM tc T ldM ly K V I tk sc dn R e5 (eO (vp_updL f 0 (cvI (nI (b j))))) r))) (by omega) ⟨_, rfl⟩ (fun Q2 hq2 => cl_117 hl (by omega) q1 q2 q3 hj ?_)
    rw [q5 j hj]
    exact hq2 _ _ (vp_updL f 0 (cvI (nI (b j)))) (REL_mk hI hM) (fun _ => out0 _ _)
  · exact cl_159 hl (by omega) (fs := _) rfl (fun Q' hQ' => cl_49x hl (by omega) (by omega) hx hn (hQ' (.inr 1) _ ⟨by decide, hQ 1 _ (by omega) ⟨_, rfl⟩ (fun Q2 hq2 => cl_117x hl (by omega) (by omega) hx (hq2 _ _ f (REL_mk hI hM) (fun e => absurd e (by decide))))⟩))
theorem st_contract (hl : l.stackTraces = false) (hd : 60 ≤ d) (hw : REL w th f) (x : Int32) : ST1 l d 160 119 [.int x] w cvI := by
  obtain ⟨st, dn, h, c, L, sz, pl, rv, tr, tu, t, b, n, dl, ll, lb, ti, pa, tk, sc, szM, bq, lv, trM, dcM, tiM, tc, T, ldM, ly, K, V, I, R, e5, r, N, bm, z, kp, rfl, hI, hM⟩ := hw
  intro Q1 hQ
  have hn := INV_n hI
  have hb := AI_b hI.1.2.2
  have hz := hI.2.2.2.2.2.2.2.2.2.2
  rcases NR_or x (n := 4) (by omega) with ⟨wh, hwh, rfl⟩ | hx
  · refine cl_160 hl (by omega) (fs := _) rfl (fun Q' hQ' => cl_50 (z := z) hl (by omega) hwh hb.1 hb.2.1 hI.1.2.1 hn (by omega) hI.1.2.2.1 hz (hQ' _ _ ⟨f, rfl, ?_⟩))
    refine hQ 0 (wt st dn h c L sz pl rv tr tu t b n dl ll lb ti pa tk sc ((cm th st dl szM h n bq lv trM dcM tiM tc T ldM ly K V I tk sc dn R e5 (eO (vp_updL f 0 (cvI (conV ll ti pa ((dl + z) % 4) wh)))) r))) (by omega) ⟨_, rfl⟩ (fun Q2 hq2 => cl_119 hl (by omega) hwh ?_)
    rw [← e_con hI hM]
    exact hq2 _ _ (vp_updL f 0 (cvI (conV ll ti pa ((dl + z) % 4) wh))) (REL_mk hI hM) (fun _ => out0 _ _)
  · exact cl_160 hl (by omega) (fs := _) rfl (fun Q' hQ' => cl_50x hl (by omega) (by omega) hx (hQ' (.inr 2) _ ⟨by decide, hQ 1 _ (by omega) ⟨_, rfl⟩ (fun Q2 hq2 => cl_119x hl (by omega) hx (hq2 _ _ f (REL_mk hI hM) (fun e => absurd e (by decide))))⟩))
theorem st_isRight (hl : l.stackTraces = false) (hd : 60 ≤ d) (hw : REL w th f) (x : Int32) : ST1 l d 163 127 [.int x] w cvZ := by
  obtain ⟨st, dn, h, c, L, sz, pl, rv, tr, tu, t, b, n, dl, ll, lb, ti, pa, tk, sc, szM, bq, lv, trM, dcM, tiM, tc, T, ldM, ly, K, V, I, R, e5, r, N, bm, z, kp, rfl, hI, hM⟩ := hw
  intro Q1 hQ
  have hn := INV_n hI
  have hG := REL_GM hI hM
  obtain ⟨g1, g2, g3, _⟩ := hG
  have hI' := hI
  obtain ⟨⟨h1, h2, h3⟩, i0, i1, i2, i3, ⟨j1, j2, j3, j4, j5⟩, j6, j7, j8, j9, j10⟩ := hI'
  rcases NR_or x (n := 32) (by omega) with ⟨cd, hc, rfl⟩ | hx
  · have e : (decide (st = 2) && bt (RC h c pl tu) cd) = (decide (st = 2) && (bt (h ((ldM + ly) % 4)) cd && rnV (h ((ldM + ly) % 4)) cd K ly)) := by
      by_cases q : st = 2
      · obtain ⟨a1, a2, a3⟩ := e_row hI hM q
        have hwho := e_who hI hM q
        rw [decide_eq_true q, Bool.true_and, Bool.true_and, ← hwho]
        have hS : RC h c pl ((ldM + ly) % 4) = rsS h K ly ((ldM + ly) % 4) := by
          rw [RC_rs, a2]
          exact rsS_cong (fun h0 => (a3 0 (by omega)).symm)
        rw [hS]
        cases hb : bt (h ((ldM + ly) % 4)) cd with
        | false =>
          cases hr : bt (rsS h K ly ((ldM + ly) % 4)) cd with
          | false => rfl
          | true => rw [rs_sub hr] at hb; cases hb
        | true => rw [rnV_rs hc (fun h0 => g3 0 (by omega)) hb, Bool.true_and]
      · rw [decide_eq_false q]
        rfl
    refine cl_163 hl (by omega) (fs := _) rfl (fun Q' hQ' => cl_53 hl (by omega) h1 hc j3 j5 (fun q => j6 _ (by omega)) (hQ' _ _ ⟨f, rfl, ?_⟩))
    refine hQ 0 (wt st dn h c L sz pl rv tr tu t b n dl ll lb ti pa tk sc ((cm th st dl szM h n bq lv trM dcM tiM tc T ldM ly K V I tk sc dn R e5 (eO (vp_updL f 0 (cvZ (bI (decide (st = 2) && bt (RC h c pl tu) cd))))) r))) (by omega) ⟨_, rfl⟩ (fun Q2 hq2 => cl_127 hl (by omega) h1 g2 g1 h2 (by omega) (fun h0 => g3 0 (by omega)) hc ?_)
    rw [← e]
    exact hq2 _ _ (vp_updL f 0 (cvZ (bI (decide (st = 2) && bt (RC h c pl tu) cd)))) (REL_mk hI hM) (fun _ => out0 _ _)
  · exact cl_163 hl (by omega) (fs := _) rfl (fun Q' hQ' => cl_53x hl (by omega) (by omega) hx (hQ' (.inr 1) _ ⟨by decide, hQ 1 _ (by omega) ⟨_, rfl⟩ (fun Q2 hq2 => cl_127x hl (by omega) hx (fun v => hq2 _ _ f (REL_mk hI hM) (fun e => absurd e (by decide))))⟩))
theorem st_trick (hl : l.stackTraces = false) (hd : 60 ≤ d) (hw : REL w th f) (x y : Int32) : ST1 l d 164 128 [.int x, .int y] w cvI := by
  obtain ⟨st, dn, h, c, L, sz, pl, rv, tr, tu, t, b, n, dl, ll, lb, ti, pa, tk, sc, szM, bq, lv, trM, dcM, tiM, tc, T, ldM, ly, K, V, I, R, e5, r, N, bm, z, kp, rfl, hI, hM⟩ := hw
  intro Q1 hQ
  have hI' := hI
  obtain ⟨⟨h1, h2, h3⟩, i0, i1, i2, i3, ⟨j1, j2, j3, j4, j5⟩, j6, j7, j8, j9, j10⟩ := hI'
  have hM' := hM
  obtain ⟨m1, m2, m3, ⟨m4, m5, m6, m7⟩, m8, m9, m10, m11⟩ := hM'
  rcases NR_or x (n := pl / 4) (by omega) with ⟨j, hj, rfl⟩ | hx
  · rcases NR_or y (n := 6) (by omega) with ⟨wh, hwh, rfl⟩ | hy
    · refine cl_164 hl (by omega) (fs := _) rfl (fun Q' hQ' => cl_54 hl (by omega) hj hwh j3 (j7 j (by omega)) (hQ' _ _ ⟨f, rfl, ?_⟩))
      refine hQ 0 (wt st dn h c L sz pl rv tr tu t b n dl ll lb ti pa tk sc ((cm th st dl szM h n bq lv trM dcM tiM tc T ldM ly K V I tk sc dn R e5 (eO (vp_updL f 0 (cvI (nI (trkV c L j wh))))) r))) (by omega) ⟨_, rfl⟩ (fun Q2 hq2 => cl_128 hl (by omega) (by omega) (by omega) hwh ?_)
      rw [m11 (6 * j + wh) (by omega), show (6 * j + wh) / 6 = j by omega, show (6 * j + wh) % 6 = wh by omega]
      exact hq2 _ _ (vp_updL f 0 (cvI (nI (trkV c L j wh)))) (REL_mk hI hM) (fun _ => out0 _ _)
    · exact cl_164 hl (by omega) (fs := _) rfl (fun Q' hQ' => cl_54y hl (by omega) (by omega) hj j3 hy (hQ' (.inr 2) _ ⟨by decide, hQ 2 _ (by omega) ⟨_, rfl⟩ (fun Q2 hq2 => cl_128y hl (by omega) (by omega) (by omega) hy (hq2 _ _ f (REL_mk hI hM) (fun e => absurd e (by decide))))⟩))
  · exact cl_164 hl (by omega) (fs := _) rfl (fun Q' hQ' => cl_54x hl (by omega) (by omega) hx j3 (hQ' (.inr 1) _ ⟨by decide, hQ 1 _ (by omega) ⟨_, rfl⟩ (fun Q2 hq2 => cl_128x hl (by omega) (by omega) (by rw [m4]; exact hx) (hq2 _ _ f (REL_mk hI hM) (fun e => absurd e (by decide))))⟩))
theorem st_now (hl : l.stackTraces = false) (hd : 60 ≤ d) (hw : REL w th f) (x : Int32) : ST1 l d 165 130 [.int x] w cvI := by
  obtain ⟨st, dn, h, c, L, sz, pl, rv, tr, tu, t, b, n, dl, ll, lb, ti, pa, tk, sc, szM, bq, lv, trM, dcM, tiM, tc, T, ldM, ly, K, V, I, R, e5, r, N, bm, z, kp, rfl, hI, hM⟩ := hw
  intro Q1 hQ
  have hn := INV_n hI
  have hG := REL_GM hI hM
  obtain ⟨g1, g2, g3, _⟩ := hG
  have hI' := hI
  obtain ⟨⟨h1, h2, h3⟩, i0, i1, i2, i3, ⟨j1, j2, j3, j4, j5⟩, j6, j7, j8, j9, j10⟩ := hI'
  have hM' := hM
  obtain ⟨m1, ⟨m2, m2b, m2c, m2d, m2e⟩, m3, ⟨m4, m5, m6, m7⟩, m8, m9, m10, m11⟩ := hM'
  rcases NR_or x (n := 8) (by omega) with ⟨wh, hwh, rfl⟩ | hx
  · refine cl_165 hl (by omega) (fs := _) rfl (fun Q' hQ' => cl_55 hl (by omega) hwh h1 h2 (by omega) j3 j4 j6 (j7 _ (Nat.le_refl _)) (hQ' _ _ ⟨f, rfl, ?_⟩))
    refine hQ 0 (wt st dn h c L sz pl rv tr tu t b n dl ll lb ti pa tk sc ((cm th st dl szM h n bq lv trM dcM tiM tc T ldM ly K V I tk sc dn R e5 (eO (vp_updL f 0 (cvI (nowV st dn c L pl tr tu n dl wh)))) r))) (by omega) ⟨_, rfl⟩ (fun Q2 hq2 => cl_130 hl (by omega) hwh h1 h2 (by omega) g1 g2 m2c g3 ?_)
    rw [← e_now hI hM]
    exact hq2 _ _ (vp_updL f 0 (cvI (nowV st dn c L pl tr tu n dl wh))) (REL_mk hI hM) (fun _ => out0 _ _)
  · exact cl_165 hl (by omega) (fs := _) rfl (fun Q' hQ' => cl_55x hl (by omega) (by omega) hx (hQ' (.inr 2) _ ⟨by decide, hQ 1 _ (by omega) ⟨_, rfl⟩ (fun Q2 hq2 => cl_130x hl (by omega) hx (hq2 _ _ f (REL_mk hI hM) (fun e => absurd e (by decide))))⟩))
theorem st_side (hl : l.stackTraces = false) (hd : 60 ≤ d) (hw : REL w th f) (x y : Int32) : ST1 l d 166 132 [.int x, .int y] w cvI := by
  obtain ⟨st, dn, h, c, L, sz, pl, rv, tr, tu, t, b, n, dl, ll, lb, ti, pa, tk, sc, szM, bq, lv, trM, dcM, tiM, tc, T, ldM, ly, K, V, I, R, e5, r, N, bm, z, kp, rfl, hI, hM⟩ := hw
  intro Q1 hQ
  have hI' := hI
  obtain ⟨⟨h1, h2, h3⟩, i0, i1, i2, i3, ⟨j1, j2, j3, j4, j5⟩, j6, j7, j8, j9, j10⟩ := hI'
  have hV := V_le hM j3
  rcases NR_or x (n := 2) (by omega) with ⟨s, hs, rfl⟩ | hx
  · rcases NR_or y (n := 3) (by omega) with ⟨wh, hwh, rfl⟩ | hy
    · refine cl_166 hl (by omega) (fs := _) rfl (fun Q' hQ' => cl_56 hl (by omega) hs hwh j3 (fun i hi => j7 _ (by omega)) (hQ' _ _ ⟨f, rfl, ?_⟩))
      refine hQ 0 (wt st dn h c L sz pl rv tr tu t b n dl ll lb ti pa tk sc ((cm th st dl szM h n bq lv trM dcM tiM tc T ldM ly K V I tk sc dn R e5 (eO (vp_updL f 0 (cvI (sideV rv L pl tk sc s wh)))) r))) (by omega) ⟨_, rfl⟩ (fun Q2 hq2 => cl_132 hl (by omega) hs hwh (fun p hp => Nat.le_trans (hV p hp) (by omega)) ?_)
      rw [← e_side hM s wh hs]
      exact hq2 _ _ (vp_updL f 0 (cvI (sideV rv L pl tk sc s wh))) (REL_mk hI hM) (fun _ => out0 _ _)
    · exact cl_166 hl (by omega) (fs := _) rfl (fun Q' hQ' => cl_56y hl (by omega) (by omega) hs hy (hQ' (.inr 2) _ ⟨by decide, hQ 2 _ (by omega) ⟨_, rfl⟩ (fun Q2 hq2 => cl_132y hl (by omega) hs hy (hq2 _ _ f (REL_mk hI hM) (fun e => absurd e (by decide))))⟩))
  · exact cl_166 hl (by omega) (fs := _) rfl (fun Q' hQ' => cl_56x hl (by omega) (by omega) hx (hQ' (.inr 1) _ ⟨by decide, hQ 1 _ (by omega) ⟨_, rfl⟩ (fun Q2 hq2 => cl_132x hl (by omega) hx (hq2 _ _ f (REL_mk hI hM) (fun e => absurd e (by decide))))⟩))
theorem st_wouldGet (hl : l.stackTraces = false) (hd : 60 ≤ d) (hw : REL w th f) (x : Int32) : ST1 l d 167 145 [.int x] w cvI := by
  obtain ⟨st, dn, h, c, L, sz, pl, rv, tr, tu, t, b, n, dl, ll, lb, ti, pa, tk, sc, szM, bq, lv, trM, dcM, tiM, tc, T, ldM, ly, K, V, I, R, e5, r, N, bm, z, kp, rfl, hI, hM⟩ := hw
  intro Q1 hQ
  have hn := INV_n hI
  have hG := REL_GM hI hM
  obtain ⟨g1, g2, g3, _⟩ := hG
  have hI' := hI
  obtain ⟨⟨h1, h2, h3⟩, i0, i1, i2, i3, ⟨j1, j2, j3, j4, j5⟩, j6, j7, j8, j9, j10⟩ := hI'
  have hM' := hM
  obtain ⟨m1, ⟨m2, m2b, m2c, m2d, m2e⟩, m3, ⟨m4, m5, m6, m7⟩, m8, m9, m10, m11⟩ := hM'
  rcases NR_or x (n := 32) (by omega) with ⟨cd, hc, rfl⟩ | hx
  · by_cases hok : st = 2 ∧ bt (h tu) cd = true
    · obtain ⟨e, hbt⟩ := hok
      obtain ⟨a1, a2, a3⟩ := e_row hI hM e
      have hwho := e_who hI hM e
      have hpl : pl < 32 := by have := (i2 e).2.2.1.2.1; have := (i2 e).2.2.2.1; omega
      refine cl_167 hl (by omega) (fs := _) rfl (fun Q' hQ' => cl_58 hl (by omega) hc e j5 hbt hpl j4 j6 (j7 _ (Nat.le_refl _)) (fun t' => hQ' _ _ ⟨f, rfl, ?_⟩))
      refine hQ 0 (wt st dn h c L sz pl rv tr tu t' b n dl ll lb ti pa tk sc ((cm th st dl szM h n bq lv trM dcM tiM tc T ldM ly K V I tk sc dn R e5 (eO (vp_updL f 0 (cvI (wgV c L pl tr cd)))) r))) (by omega) ⟨_, rfl⟩ (fun Q2 hq2 => cl_145 hl (by omega) (by omega) e g2 g1 h2 (by omega) m2c g3 hc (by rw [hwho]; exact hbt) (fun v => ?_))
      have hv : takeV ldM (uN K ly cd) trM (ly + 1) = wgV c L pl tr cd := by
        rw [wgV, a1, a2, e_tr hI hM e, takeV, takeV]
        rw [BI_cong (r1 := uN K ly cd) (r2 := rowOf (uN c pl cd) (pl / 4)) (fun i hi => ?_)]
        rw [row_uN, a2]
        show (if i = ly then cd else K i) = if i = ly then cd else rowOf c (pl / 4) i
        by_cases ei : i = ly
        · rw [if_pos ei, if_pos ei]
        · rw [if_neg ei, if_neg ei, a3 i (by omega)]
      rw [hv]
      refine hq2 _ _ (vp_updL f 0 (cvI (wgV c L pl tr cd))) (REL_mk (N := N) (bm := bm) hI ?_) (fun _ => out0 _ _)
      obtain ⟨⟨q1, q2⟩, mm⟩ := hM
      exact ⟨⟨bqA_app q1, q2⟩, mm⟩
    · refine cl_167 hl (by omega) (fs := _) rfl (fun Q' hQ' => cl_58y hl (by omega) (by omega) h1 j5 hc hok (hQ' (.inr 3) _ ⟨by decide, hQ 2 _ (by omega) ⟨_, rfl⟩ (fun Q2 hq2 => cl_145y hl (by omega) h1 g2 g1 h2 (by omega) hc ?_ (hq2 _ _ f (REL_mk hI hM) (fun e => absurd e (by decide))))⟩))
      rintro ⟨q1, q2⟩
      rw [e_who hI hM q1] at q2
      exact hok ⟨q1, q2⟩
  · exact cl_167 hl (by omega) (fs := _) rfl (fun Q' hQ' => cl_58x hl (by omega) (by omega) hx (hQ' (.inr 1) _ ⟨by decide, hQ 1 _ (by omega) ⟨_, rfl⟩ (fun Q2 hq2 => cl_145x hl (by omega) hx (hq2 _ _ f (REL_mk hI hM) (fun e => absurd e (by decide))))⟩))
theorem st_bestWith (hl : l.stackTraces = false) (hd : 60 ≤ d) (hw : REL w th f) (x : Int32) : ST1 l d 168 142 [.int x] w cvI := by
  obtain ⟨st, dn, h, c, L, sz, pl, rv, tr, tu, t, b, n, dl, ll, lb, ti, pa, tk, sc, szM, bq, lv, trM, dcM, tiM, tc, T, ldM, ly, K, V, I, R, e5, r, N, bm, z, kp, rfl, hI, hM⟩ := hw
  intro Q1 hQ
  have hn := INV_n hI
  have hG := REL_GM hI hM
  have hG' := hG
  obtain ⟨g1, g2, g3, _⟩ := hG'
  have hI' := hI
  obtain ⟨⟨h1, h2, h3⟩, i0, i1, i2, i3, ⟨j1, j2, j3, j4, j5⟩, j6, j7, j8, j9, j10⟩ := hI'
  have hM' := hM
  obtain ⟨m1, ⟨m2, m2b, m2c, m2d, m2e⟩, m3, ⟨m4, m5, m6, m7⟩, m8, m9, m10, m11⟩ := hM'
  rcases NR_or x (n := 32) (by omega) with ⟨cd, hc, rfl⟩ | hx
  · by_cases hok : st = 2 ∧ bt (h tu) cd = true
    · obtain ⟨e, hbt⟩ := hok
      have hwho := e_who hI hM e
      refine cl_168 hl (by omega) (fs := _) rfl (fun Q' hQ' => cl_60 (kp := kp) hl (by omega) hc e (i2 e).2.2.1 hbt (fun t' => hQ' _ _ ⟨f, rfl, ?_⟩))
      refine hQ 0 (wt st dn h c L sz pl rv tr tu t' b n dl ll lb ti pa tk sc ((cm th st dl szM h n bq lv trM dcM tiM tc T ldM ly K V I tk sc dn R e5 (eO (vp_updL f 0 (cvI (withV st h c L pl tr kp cd)))) r))) (by omega) ⟨_, rfl⟩ (fun Q2 hq2 => cl_142 (kp := kp) hl (by omega) e m2c h2 (by omega) hG hc (by rw [hwho]; exact hbt) (fun R' => ?_))
      rw [← e_with hI hM]
      exact hq2 _ _ (vp_updL f 0 (cvI (withV st h c L pl tr kp cd))) (REL_mk hI hM) (fun _ => out0 _ _)
    · refine cl_168 hl (by omega) (fs := _) rfl (fun Q' hQ' => cl_60y hl (by omega) (by omega) h1 j5 hc hok (hQ' (.inr 3) _ ⟨by decide, hQ 2 _ (by omega) ⟨_, rfl⟩ (fun Q2 hq2 => cl_142y hl (by omega) h1 g2 g1 h2 (by omega) hc ?_ (hq2 _ _ f (REL_mk hI hM) (fun e => absurd e (by decide))))⟩))
      rintro ⟨q1, q2⟩
      rw [e_who hI hM q1] at q2
      exact hok ⟨q1, q2⟩
  · exact cl_168 hl (by omega) (fs := _) rfl (fun Q' hQ' => cl_60x hl (by omega) (by omega) hx (hQ' (.inr 1) _ ⟨by decide, hQ 1 _ (by omega) ⟨_, rfl⟩ (fun Q2 hq2 => cl_142x hl (by omega) hx (hq2 _ _ f (REL_mk hI hM) (fun e => absurd e (by decide))))⟩))
theorem st_bestIn (hl : l.stackTraces = false) (hd : 60 ≤ d) (hw : REL w th f) (x : Int32) : ST1 l d 169 144 [.int x] w cvI := by
  obtain ⟨st, dn, h, c, L, sz, pl, rv, tr, tu, t, b, n, dl, ll, lb, ti, pa, tk, sc, szM, bq, lv, trM, dcM, tiM, tc, T, ldM, ly, K, V, I, R, e5, r, N, bm, z, kp, rfl, hI, hM⟩ := hw
  intro Q1 hQ
  have hG := REL_GM hI hM
  have hI' := hI
  obtain ⟨⟨h1, h2, h3⟩, i0, i1, i2, i3, ⟨j1, j2, j3, j4, j5⟩, j6, j7, j8, j9, j10⟩ := hI'
  rcases NR_or x (n := 5) (by omega) with ⟨tm, htm, rfl⟩ | hx
  · refine cl_169 hl (by omega) (fs := _) rfl (fun Q' hQ' => cl_62 (kp := kp) hl (by omega) htm h1 (fun e => (i2 e).2.2.1) (fun t' => hQ' _ _ ⟨f, rfl, ?_⟩))
    refine hQ 0 (wt st dn h c L sz pl rv tr tu t' b n dl ll lb ti pa tk sc ((cm th st dl szM h n bq lv trM dcM tiM tc T ldM ly K V I tk sc dn R e5 (eO (vp_updL f 0 (cvI (bestV st h c L pl tm kp)))) r))) (by omega) ⟨_, rfl⟩ (fun Q2 hq2 => cl_144 (kp := kp) hl (by omega) h1 htm hG (fun R' => ?_))
    rw [← e_best hI hM]
    exact hq2 _ _ (vp_updL f 0 (cvI (bestV st h c L pl tm kp))) (REL_mk hI hM) (fun _ => out0 _ _)
  · exact cl_169 hl (by omega) (fs := _) rfl (fun Q' hQ' => cl_62x hl (by omega) (by omega) hx (hQ' (.inr 2) _ ⟨by decide, hQ 1 _ (by omega) ⟨_, rfl⟩ (fun Q2 hq2 => cl_144x hl (by omega) hx (hq2 _ _ f (REL_mk hI hM) (fun e => absurd e (by decide))))⟩))
theorem st_wouldScore (hl : l.stackTraces = false) (hd : 60 ≤ d) (hw : REL w th f) (x : Int32) : ST1 l d 170 146 [.int x] w cvI := by
  obtain ⟨st, dn, h, c, L, sz, pl, rv, tr, tu, t, b, n, dl, ll, lb, ti, pa, tk, sc, szM, bq, lv, trM, dcM, tiM, tc, T, ldM, ly, K, V, I, R, e5, r, N, bm, z, kp, rfl, hI, hM⟩ := hw
  intro Q1 hQ
  have hn := INV_n hI
  have hb := AI_b hI.1.2.2
  have hI' := hI
  obtain ⟨⟨h1, h2, h3⟩, i0, i1, i2, i3, ⟨j1, j2, j3, j4, j5⟩, j6, j7, j8, j9, j10⟩ := hI'
  have hM' := hM
  obtain ⟨m1, ⟨m2, m2b, m2c, m2d, m2e⟩, ⟨m3, m3b⟩, ⟨m4, m5, m6, m7⟩, m8, m9, m10, m11⟩ := hM'
  rcases NR_or x (n := 9) (by omega) with ⟨fr, hf, rfl⟩ | hx
  · by_cases hok : stl ll pa = true ∧ fr ≤ sz
    · obtain ⟨hs, hfs⟩ := hok
      have hst0 : st ≠ 0 := by rcases (INV_stl hI).mp hs with e | e <;> omega
      have eM := m3 hst0
      obtain ⟨a1, a2, a3, a4⟩ := m2 hs
      refine cl_170 hl (by omega) (fs := _) rfl (fun Q' hQ' => cl_63 (z := z) hl (by omega) hf hs hfs j2 hb.1 (by omega) hb.2.1 h2 hn h3.1 (j10 hs) (hQ' _ _ ⟨f, rfl, ?_⟩))
      refine hQ 0 (wt st dn h c L sz pl rv tr tu t b n dl ll lb ti pa tk sc ((cm th st dl szM h n bq lv trM dcM tiM tc T ldM ly K V I tk sc dn R e5 (eO (vp_updL f 0 (cvI (wscV ti ((ll - 1) / 5 + 1) ((ll - 1) % 5) sz ((dl + z) % 4) fr)))) r))) (by omega) ⟨_, rfl⟩ (fun Q2 hq2 => cl_146 hl (by omega) (by omega) m3b a1 (by omega) (by omega) m2c m2e m2d (fun v => ?_))
      rw [show wscV tiM ((ll - 1) / 5 + 1) trM szM dcM fr = wscV ti ((ll - 1) / 5 + 1) ((ll - 1) % 5) sz ((dl + z) % 4) fr from by rw [a2, a3, a4, eM]]
      refine hq2 _ _ (vp_updL f 0 (cvI (wscV ti ((ll - 1) / 5 + 1) ((ll - 1) % 5) sz ((dl + z) % 4) fr))) (REL_mk (N := N) (bm := bm) hI ?_) (fun _ => out0 _ _)
      obtain ⟨⟨q1, q2⟩, mm⟩ := hM
      exact ⟨⟨bqA_app q1, q2⟩, mm⟩
    · refine cl_170 hl (by omega) (fs := _) rfl (fun Q' hQ' => cl_63y hl (by omega) (by omega) hf j2 hb.1 (by omega) hok (hQ' (.inr 3) _ ⟨by decide, hQ 2 _ (by omega) ⟨_, rfl⟩ (fun Q2 hq2 => cl_146y hl (by omega) m3b hf ?_ (hq2 _ _ f (REL_mk hI hM) (fun e => absurd e (by decide))))⟩))
      cases hs : stl ll pa with
      | false => exact Or.inl (m2b hs)
      | true =>
        have hst0 : st ≠ 0 := by rcases (INV_stl hI).mp hs with e | e <;> omega
        have eM := m3 hst0
        refine Or.inr ?_
        rw [eM]
        rcases Nat.lt_or_ge sz fr with q | q
        · exact q
        · exact absurd ⟨hs, q⟩ hok
  · exact cl_170 hl (by omega) (fs := _) rfl (fun Q' hQ' => cl_63x hl (by omega) (by omega) hx (hQ' (.inr 2) _ ⟨by decide, hQ 1 _ (by omega) ⟨_, rfl⟩ (fun Q2 hq2 => cl_146x hl (by omega) hx (hq2 _ _ f (REL_mk hI hM) (fun e => absurd e (by decide))))⟩))
end
