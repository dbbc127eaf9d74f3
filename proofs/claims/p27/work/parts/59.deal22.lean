/-! the law's checks: the best play; tricks; what is left -/
section
variable {l : Launch} {d k : Nat} {Q : am_Q} {dr gs gd gz bq kq tq ld lq : Nat} {dc : Int32} {st : Nat} {dn : Int32} {h : Nat → Int32} {c L : Nat → Nat} {sz pl : Nat} {rv : Int32} {tr tu : Nat} {t : am_T5} {b : Nat → Nat} {n dl ll lb ti pa : Nat} {tk : Nat → Nat} {sc : Nat → Int32} {hg : Nat → Int32} {e19 e20 e21 e22 : am_E} {Rv Iw Ho Go So : Nat → Int32} {r : am_M}
variable {J : am_K} {z kp tm s0 dd sp : Nat} {x7 : Int64} {x9 : Int32}
set_option maxRecDepth 20000 in
theorem lk_D2 (hl : l.stackTraces = false) (hd : 60 ≤ d) (hJ : LJ l d J) (hI : (INV 2 h c L sz pl rv tr tu b n dl ll lb ti pa tk z kp)) {x12 x13 y14 : Int32} {o : Option Value} (hM : MM (RC h c pl tu) (withV 2 h c L pl tr kp) 32 x12 x13) (hK : ∀ t y10 y11 o12 o13 o14 o15, J k 713 [some (.float 0), some (.int (nI tm)), some (.ref 0), some (.ref 1), some (.int (nI s0)), some (.int (nI dd)), some (.int (nI sp)), some (.long (x7)), none, some (.int (x9)), some (.int (y10)), some (.int (y11)), o12, o13, o14, o15] [] (wd dr gs gd gz bq kq tq ld lq dc 2 dn h c L sz pl rv tr tu t b n dl ll lb ti pa tk sc hg e19 e20 e21 e22 Rv Iw Ho Go So r)) : J k 566 [some (.float 0), some (.int (nI tm)), some (.ref 0), some (.ref 1), some (.int (nI s0)), some (.int (nI dd)), some (.int (nI sp)), some (.long (x7)), none, some (.int (x9)), some (.int (nI tu)), some (.int (nI (pc (RC h c pl tu)))), some (.int (x12)), some (.int (x13)), some (.int (y14)), o] [] (wd dr gs gd gz bq kq tq ld lq dc 2 dn h c L sz pl rv tr tu t b n dl ll lb ti pa tk sc hg e19 e20 e21 e22 Rv Iw Ho Go So r) := by
  have hn := INV_n hI
  have hns := INV_stl hI
  obtain ⟨⟨a1, a2, a3⟩, i0, i1, i2, i3, ⟨j1, j2, j3, j4, j5⟩, j6, j7, j8, j9, j10⟩ := hI
  obtain ⟨b1, b2, b3, b4, b5, b6⟩ := AI_b a3
  obtain ⟨u1, u2, hG, hk, u3, u4⟩ := i2 rfl
  have hG' := hG
  obtain ⟨g1, g2, g3, g4, g5, g6, g7, g8⟩ := hG'
  have hL4 := j7 _ (Nat.le_refl _)
  have hc0 : pl % 4 ≠ 0 → c (4 * (pl / 4)) < 32 := fun q => j6 _ (by omega)
  have hkt := bal_tu g5 hL4
  rw [← g1] at hkt
  have hne : h tu ≠ 0 := fun q => by rw [q, pc_zero.mpr rfl] at hkt; omega
  have hr0 : 0 < pc (RC h c pl tu) := Nat.pos_of_ne_zero (fun q => RC_ne (c := c) (pl := pl) hne (pc_zero.mp q))
  have hrl : pc (RC h c pl tu) ≤ pc (h tu) := pc_sub (fun i _ hb => RC_sub hb)
  have hp32 := pc_le (h tu)
  have hbm := best_mm hG hk hr0 hM
  have hGs : (2 : Nat) = 2 → G2 h c L sz pl rv tr tu kp := fun _ => hG
  refine hJ [570] 100 _ _ _ _ _ ⟨0, Nat.zero_le _, dl_59 (kp := kp) hl (by omega) (by omega) a1 hGs (fun t1 => ?_)⟩
  -- what lies behind the choice of the card
  have h681 : ∀ t1, J k 681 [some (.float 0), some (.int (nI tm)), some (.ref 0), some (.ref 1), some (.int (nI s0)), some (.int (nI dd)), some (.int (nI sp)), some (.long (x7)), none, some (.int (x9)), some (.int (nI tu)), some (.int (nI (pc (RC h c pl tu)))), some (.int (x12)), some (.int (x13)), some (.int (bestV 2 h c L pl tr kp)), o] [] (wd dr gs gd gz bq kq tq ld lq dc 2 dn h c L sz pl rv tr tu t1 b n dl ll lb ti pa tk sc hg e19 e20 e21 e22 Rv Iw Ho Go So r) := by
    intro t1
    have hL32 : ∀ i, i < pl → L (i / 4) < 4 := fun i hi => j7 _ (by omega)
    refine hJ [687] 100 _ _ _ _ _ ⟨0, Nat.zero_le _, dl_56 (s := 0) (wh := 0) hl (by omega) (by omega) (by omega) j3 hL32 ?_⟩
    refine hJ [693] 100 _ _ _ _ _ ⟨0, Nat.zero_le _, dl_56 (s := 1) (wh := 0) hl (by omega) (by omega) (by omega) j3 hL32 ?_⟩
    refine hJ [699] 100 _ _ _ _ _ ⟨0, Nat.zero_le _, dl_55 (wh := 4) hl (by omega) (by omega) a1 a2 (by omega) j3 j4 j6 hL4 ?_⟩
    have es : nI (tk 0) + nI (tk 1) = nI (pl / 4) := by rw [nI_add, j9]
    refine hJ [707] 100 _ _ _ _ _ ⟨fun _ => ⟨0, Nat.zero_le _, dl_50 (wh := 0) (z := z) hl (by omega) (by omega) b1 b2 a2 hn (by omega) a3.1 j10 ?_⟩, fun q => absurd es q⟩
    have hcv : conV ll ti pa ((dl + z) % 4) 0 = nI ((ll - 1) / 5 + 1) := by
      unfold conV
      rw [hns.mpr (Or.inl rfl)]
      rfl
    rw [hcv]
    exact hJ [713] 100 _ _ _ _ _ (ble (a := 1) (b := (ll - 1) / 5 + 1) (by omega) (by omega) (fun _ => hK _ _ _ _ _ _ _) (fun q => absurd q (by omega)))
  have h651 : ∀ t1, J k 651 [some (.float 0), some (.int (nI tm)), some (.ref 0), some (.ref 1), some (.int (nI s0)), some (.int (nI dd)), some (.int (nI sp)), some (.long (x7)), none, some (.int (x9)), some (.int (nI tu)), some (.int (nI (pc (RC h c pl tu)))), some (.int (x12)), some (.int (x13)), some (.int (bestV 2 h c L pl tr kp)), o] [] (wd dr gs gd gz bq kq tq ld lq dc 2 dn h c L sz pl rv tr tu t1 b n dl ll lb ti pa tk sc hg e19 e20 e21 e22 Rv Iw Ho Go So r) := by
    intro t1
    refine hJ [657] 100 _ _ _ _ _ ⟨0, Nat.zero_le _, dl_55 (wh := 6) hl (by omega) (by omega) a1 a2 (by omega) j3 j4 j6 hL4 ?_⟩
    have htk := tk_lt (f := L (pl / 4)) (row := rowOf c (pl / 4)) (tr := tr) (m := pl % 4)
    have e6 : nowV 2 dn c L pl tr tu n dl 6 = takeV (L (pl / 4)) (rowOf c (pl / 4)) tr (pl % 4) := rfl
    rw [e6]
    by_cases hm : pl % 4 = 0
    · rw [htk.1 hm]
      refine hJ [670] 100 _ _ _ _ _ ⟨fun q => absurd q (by decide), fun _ => ⟨0, Nat.zero_le _, dl_55 (wh := 5) hl (by omega) (by omega) a1 a2 (by omega) j3 j4 j6 hL4 ?_⟩⟩
      have e5 : nowV 2 dn c L pl tr tu n dl 5 = 0 := by
        show nI (pl % 4) = 0
        rw [hm]
        rfl
      rw [e5]
      exact hJ [681] 100 _ _ _ _ _ ⟨fun _ => ⟨fun _ => h681 t1, fun q => absurd rfl q⟩, fun q => absurd rfl q⟩
    · obtain ⟨x, hx, e⟩ := htk.2 (by omega)
      rw [e]
      refine hJ [670] 100 _ _ _ _ _ ⟨fun _ => ⟨0, Nat.zero_le _, dl_55 (wh := 5) hl (by omega) (by omega) a1 a2 (by omega) j3 j4 j6 hL4 ?_⟩, fun q => absurd (nI_pos' (by omega)) q⟩
      exact hJ [681] 100 _ _ _ _ _ ⟨fun q => absurd q (nI_ne0 (by omega) (by omega)), fun _ => ⟨fun _ => h681 t1, fun q => absurd rfl q⟩⟩
  have h609 : J k 609 [some (.float 0), some (.int (nI tm)), some (.ref 0), some (.ref 1), some (.int (nI s0)), some (.int (nI dd)), some (.int (nI sp)), some (.long (x7)), none, some (.int (x9)), some (.int (nI tu)), some (.int (nI (pc (RC h c pl tu)))), some (.int (x12)), some (.int (x13)), some (.int (bestV 2 h c L pl tr kp)), o] [] (wd dr gs gd gz bq kq tq ld lq dc 2 dn h c L sz pl rv tr tu t1 b n dl ll lb ti pa tk sc hg e19 e20 e21 e22 Rv Iw Ho Go So r) := by
    by_cases e : hbp 2 h = true
    · obtain ⟨cb, bp0, c1, c2, c3, c4, c5, c6⟩ := bc_spec hG hk e
      have hbt := RC_sub c4
      have hge : 0 ≤ bestV 2 h c L pl tr kp := by rw [c6]; exact nI_pos' (by omega)
      refine hJ [619] 100 _ _ _ _ _ ⟨fun q => absurd hge (Int32.not_le.mpr q), fun _ => ⟨0, Nat.zero_le _, dl_61 (kp := kp) hl (by omega) (by omega) a1 hGs (fun _ => hk) (fun t2 => ?_)⟩⟩
      rw [c3]
      refine hJ [622] 100 _ _ _ _ _ ⟨0, Nat.zero_le _, dl_53 (cd := cb) hl (by omega) a1 c1 j3 j5 hc0 ?_⟩
      rw [c4]
      refine hJ [630] 100 _ _ _ _ _ ⟨fun q => absurd q (by decide), fun _ => ⟨0, Nat.zero_le _, dl_61 (kp := kp) hl (by omega) (by omega) a1 hGs (fun _ => hk) (fun t3 => ?_)⟩⟩
      rw [c3]
      refine hJ [633] 100 _ _ _ _ _ ⟨0, Nat.zero_le _, dl_60 (kp := kp) hl (by omega) c1 rfl hG hbt (fun t4 => ?_)⟩
      refine hJ [638] 100 _ _ _ _ _ ⟨fun _ => ?_, fun q => absurd (c5.trans c6.symm) q⟩
      exact hJ [651] 100 _ _ _ _ _ ⟨fun _ => h651 _, fun q => absurd hge q⟩
    · have eb : bestV 2 h c L pl tr kp = -1 := if_neg e
      have ec : bcV 2 h c L pl tr kp = -1 := if_neg e
      have hlt : bestV 2 h c L pl tr kp < 0 := by rw [eb]; decide
      refine hJ [638] 100 _ _ _ _ _ ⟨fun _ => ?_, fun q => absurd hlt q⟩
      refine hJ [647] 100 _ _ _ _ _ ⟨fun q => absurd hlt (Int32.not_lt.mpr q), fun _ => ⟨0, Nat.zero_le _, dl_61 (kp := kp) hl (by omega) (by omega) a1 hGs (fun _ => hk) (fun t3 => ?_)⟩⟩
      rw [ec]
      exact hJ [651] 100 _ _ _ _ _ ⟨fun _ => h651 _, fun q => absurd rfl q⟩
  refine hJ [587] 100 _ _ _ _ _ ⟨fun q => absurd q (nI_ne0 hr0 (by omega)), fun _ => ⟨0, Nat.zero_le _, dl_46 (p := tu) (s := 4) (wh := 0) hl (by omega) j5 (by omega) (by omega) ?_⟩⟩
  have e2 : nI tu - nI tu / nI 2 * nI 2 = nI (tu % 2) := i_mod (by omega) 2 (by omega) (by omega)
  refine hJ [599, 604] 100 _ _ _ _ _ (bl (a := pc (h tu)) (b := pc (RC h c pl tu)) (by omega) (by omega) (fun q => absurd q (by omega)) (fun _ => ⟨by decide, ?_⟩))
  refine beqx (a := tu % 2) (b := 0) e2 rfl (by omega) (by omega) (fun q => ?_) (fun q => ?_)
  · rw [if_pos q] at hbm
    exact hJ [609] 100 _ _ _ _ _ ⟨fun _ => h609, fun q2 => absurd hbm q2⟩
  · rw [if_neg q] at hbm
    exact hJ [609] 100 _ _ _ _ _ ⟨fun _ => h609, fun q2 => absurd hbm q2⟩
set_option maxRecDepth 20000 in
theorem lk_D (hl : l.stackTraces = false) (hd : 60 ≤ d) (hJ : LJ l d J) (hI : (INV st h c L sz pl rv tr tu b n dl ll lb ti pa tk z kp)) {y10 y11 : Int32} (hK : ∀ t y10 y11 o12 o13 o14 o15, J k 713 [some (.float 0), some (.int (nI tm)), some (.ref 0), some (.ref 1), some (.int (nI s0)), some (.int (nI dd)), some (.int (nI sp)), some (.long (x7)), none, some (.int (x9)), some (.int (y10)), some (.int (y11)), o12, o13, o14, o15] [] (wd dr gs gd gz bq kq tq ld lq dc st dn h c L sz pl rv tr tu t b n dl ll lb ti pa tk sc hg e19 e20 e21 e22 Rv Iw Ho Go So r)) : J k 451 [some (.float 0), some (.int (nI tm)), some (.ref 0), some (.ref 1), some (.int (nI s0)), some (.int (nI dd)), some (.int (nI sp)), some (.long (x7)), none, some (.int (x9)), some (.int (y10)), some (.int (y11)), none, none, none, none] [] (wd dr gs gd gz bq kq tq ld lq dc st dn h c L sz pl rv tr tu t b n dl ll lb ti pa tk sc hg e19 e20 e21 e22 Rv Iw Ho Go So r) := by
  have hn := INV_n hI
  have hI' := hI
  obtain ⟨⟨a1, a2, a3⟩, i0, i1, i2, i3, ⟨j1, j2, j3, j4, j5⟩, j6, j7, j8, j9, j10⟩ := hI'
  have hL4 := j7 _ (Nat.le_refl _)
  refine hJ [456] 100 _ _ _ _ _ ⟨0, Nat.zero_le _, dl_55 (wh := 0) hl (by omega) (by omega) a1 a2 (by omega) j3 j4 j6 hL4 ?_⟩
  refine hJ [460, 713] 100 _ _ _ _ _ (beq (a := st) (b := 2) (by omega) (by omega) (fun e => ?_) (fun _ => hK t _ _ _ _ _ _))
  subst e
  refine hJ [465] 100 _ _ _ _ _ ⟨0, Nat.zero_le _, dl_55 (wh := 2) hl (by omega) (by omega) a1 a2 (by omega) j3 j4 j6 hL4 ?_⟩
  have hL : ∀ m i r0 t x12 x13 o, i + m = 32 → r0 = fb_ct (bt (RC h c pl tu)) i → MM (RC h c pl tu) (withV 2 h c L pl tr kp) i x12 x13 → J k 480 [some (.float 0), some (.int (nI tm)), some (.ref 0), some (.ref 1), some (.int (nI s0)), some (.int (nI dd)), some (.int (nI sp)), some (.long (x7)), none, some (.int (x9)), some (.int (nI tu)), some (.int (nI r0)), some (.int (x12)), some (.int (x13)), some (.int (nI i)), o] [] (wd dr gs gd gz bq kq tq ld lq dc 2 dn h c L sz pl rv tr tu t b n dl ll lb ti pa tk sc hg e19 e20 e21 e22 Rv Iw Ho Go So r) := by
    intro m
    induction m with
    | zero =>
      intro i r0 t x12 x13 o hi hr hM
      have hi' : i = 32 := hi
      subst hi'
      subst hr
      exact hJ [566] 100 _ _ _ _ _ ⟨fun _ => lk_D2 hl hd hJ hI hM hK, fun q => absurd (by decide) q⟩
    | succ m ih =>
      intro i r0 t x12 x13 o hi hr hM
      exact lk_D1 hl hd hJ hI (by omega) hr hM (fun t r1 x12 x13 o h1 h2 => ih (i + 1) r1 t x12 x13 o (by omega) h1 h2)
  exact hJ [480] 100 _ _ _ _ _ (hL 32 0 0 t 9 (-1) none rfl rfl (MM_0 _ _))
set_option maxRecDepth 20000 in
theorem lk_E (hl : l.stackTraces = false) (hd : 60 ≤ d) (hJ : LJ l d J) (hI : (INV st h c L sz pl rv tr tu b n dl ll lb ti pa tk z kp)) {y10 y11 : Int32} {o12 o13 o14 o15 : Option Value} (hK : ∀ y10, J k 753 [some (.float 0), some (.int (nI tm)), some (.ref 0), some (.ref 1), some (.int (nI s0)), some (.int (nI dd)), some (.int (nI sp)), some (.long (x7)), none, some (.int (x9)), some (.int (y10)), some (.int (y11)), o12, o13, o14, o15] [] (wd dr gs gd gz bq kq tq ld lq dc st dn h c L sz pl rv tr tu t b n dl ll lb ti pa tk sc hg e19 e20 e21 e22 Rv Iw Ho Go So r)) : J k 713 [some (.float 0), some (.int (nI tm)), some (.ref 0), some (.ref 1), some (.int (nI s0)), some (.int (nI dd)), some (.int (nI sp)), some (.long (x7)), none, some (.int (x9)), some (.int (y10)), some (.int (y11)), o12, o13, o14, o15] [] (wd dr gs gd gz bq kq tq ld lq dc st dn h c L sz pl rv tr tu t b n dl ll lb ti pa tk sc hg e19 e20 e21 e22 Rv Iw Ho Go So r) := by
  have hn := INV_n hI
  obtain ⟨⟨a1, a2, a3⟩, i0, i1, i2, i3, ⟨j1, j2, j3, j4, j5⟩, j6, j7, j8, j9, j10⟩ := hI
  have hL4 := j7 _ (Nat.le_refl _)
  have hL : ∀ m kk, kk + m = pl / 4 + 1 → 1 ≤ kk → J k 716 [some (.float 0), some (.int (nI tm)), some (.ref 0), some (.ref 1), some (.int (nI s0)), some (.int (nI dd)), some (.int (nI sp)), some (.long (x7)), none, some (.int (x9)), some (.int (nI kk)), some (.int (y11)), o12, o13, o14, o15] [] (wd dr gs gd gz bq kq tq ld lq dc st dn h c L sz pl rv tr tu t b n dl ll lb ti pa tk sc hg e19 e20 e21 e22 Rv Iw Ho Go So r) := by
    intro m
    induction m with
    | zero =>
      intro kk hkk h1
      refine hJ [723] 100 _ _ _ _ _ ⟨0, Nat.zero_le _, dl_55 (wh := 4) hl (by omega) (by omega) a1 a2 (by omega) j3 j4 j6 hL4 ?_⟩
      exact hJ [753] 100 _ _ _ _ _ (ble (a := pl / 4) (b := kk) (by omega) (by omega) (fun _ => hK _) (fun q => absurd q (by omega)))
    | succ m ih =>
      intro kk hkk h1
      have e1 : nI kk + 1 = nI (kk + 1) := nI_add kk 1
      have e2 : nI kk - 1 = nI (kk - 1) := pk_sub (b := 1) (by omega)
      refine hJ [723] 100 _ _ _ _ _ ⟨0, Nat.zero_le _, dl_55 (wh := 4) hl (by omega) (by omega) a1 a2 (by omega) j3 j4 j6 hL4 ?_⟩
      refine hJ [753, 726] 100 _ _ _ _ _ (ble (a := pl / 4) (b := kk) (by omega) (by omega) (fun _ => hK _) (fun q => ?_))
      refine hJ [733] 100 _ _ _ _ _ ⟨0, Nat.zero_le _, dl_54 (j := kk) (wh := 0) hl (by omega) (by omega) (by omega) j3 (j7 _ (by omega)) ?_⟩
      have e3 : ∀ {Q : am_Q} {w : am_M}, am_Call l d 54 0 [.ref 1, .int (nI (kk - 1)), .int (nI 1)] w Q → am_Call l d 54 0 [.ref 1, .int (nI kk - 1), .int 1] w Q := by
        intro Q w hq
        rw [e2]
        exact hq
      refine hJ [742] 100 _ _ _ _ _ ⟨0, Nat.zero_le _, e3 (dl_54 (j := kk - 1) (wh := 1) hl (by omega) (by omega) (by omega) j3 (j7 _ (by omega)) ?_)⟩
      have et : nI (trkV c L kk 0) = nI (trkV c L (kk - 1) 1) := by
        show nI (L kk) = nI (L (kk - 1 + 1))
        rw [Nat.sub_add_cancel h1]
      have hnx : J k 716 [some (.float 0), some (.int (nI tm)), some (.ref 0), some (.ref 1), some (.int (nI s0)), some (.int (nI dd)), some (.int (nI sp)), some (.long (x7)), none, some (.int (x9)), some (.int (nI kk + 1)), some (.int (y11)), o12, o13, o14, o15] [] (wd dr gs gd gz bq kq tq ld lq dc st dn h c L sz pl rv tr tu t b n dl ll lb ti pa tk sc hg e19 e20 e21 e22 Rv Iw Ho Go So r) := by
        rw [e1]
        exact ih (kk + 1) (by omega) (by omega)
      exact hJ [716] 100 _ _ _ _ _ ⟨fun _ => hnx, fun q => absurd et q⟩
  exact hJ [716] 100 _ _ _ _ _ (hL (pl / 4) 1 (by omega) (Nat.le_refl _))
set_option maxRecDepth 20000 in
theorem lk_F (hl : l.stackTraces = false) (hd : 60 ≤ d) (hJ : LJ l d J) (hI : (INV st h c L sz pl rv tr tu b n dl ll lb ti pa tk z kp)) {S : Nat} (hS : ∃ a0 a1 : Nat, sc 0 = nI a0 ∧ sc 1 = nI a1 ∧ a0 + a1 = S) (hs0 : s0 ≤ S) (hSb : S < 2 ^ 31) {y10 y11 : Int32} {o12 o13 o14 o15 : Option Value} (hK : ∀ t x7, J k 803 [some (.float 0), some (.int (nI tm)), some (.ref 0), some (.ref 1), some (.int (nI s0)), some (.int (nI dd)), some (.int (nI sp)), some (.long (x7)), none, some (.int (x9)), some (.int (y10)), some (.int (y11)), o12, o13, o14, o15] [] (wd dr gs gd gz bq kq tq ld lq dc st dn h c L sz pl rv tr tu t b n dl ll lb ti pa tk sc hg e19 e20 e21 e22 Rv Iw Ho Go So r)) : J k 753 [some (.float 0), some (.int (nI tm)), some (.ref 0), some (.ref 1), some (.int (nI s0)), some (.int (nI dd)), some (.int (nI sp)), some (.long (digV st dn h c L pl rv tr tu b n dl ll ti pa tk sc z kp)), none, some (.int (x9)), some (.int (y10)), some (.int (y11)), o12, o13, o14, o15] [] (wd dr gs gd gz bq kq tq ld lq dc st dn h c L sz pl rv tr tu t b n dl ll lb ti pa tk sc hg e19 e20 e21 e22 Rv Iw Ho Go So r) := by
  have hGA := INV_GA hI
  obtain ⟨⟨a1, a2, a3⟩, i0, i1, i2, i3, ⟨j1, j2, j3, j4, j5⟩, j6, j7, j8, j9, j10⟩ := hI
  have hL32 : ∀ i, i < pl → L (i / 4) < 4 := fun i hi => j7 _ (by omega)
  obtain ⟨v0, v1, ev0, ev1, evS⟩ := hS
  have es : sc 0 + sc 1 = nI S := by rw [ev0, ev1, nI_add, evS]
  refine hJ [759] 100 _ _ _ _ _ ⟨0, Nat.zero_le _, dl_56 (s := 0) (wh := 1) hl (by omega) (by omega) (by omega) j3 hL32 ?_⟩
  refine hJ [765] 100 _ _ _ _ _ ⟨0, Nat.zero_le _, dl_56 (s := 1) (wh := 1) hl (by omega) (by omega) (by omega) j3 hL32 ?_⟩
  have hns : ¬ sc 0 + sc 1 < nI s0 := by rw [es]; exact Int32.not_lt.mpr (nI_le hs0 hSb)
  refine hJ [777] 100 _ _ _ _ _ ⟨fun q => absurd q hns, fun _ => ⟨0, Nat.zero_le _, dl_56 (s := 0) (wh := 2) hl (by omega) (by omega) (by omega) j3 hL32 ?_⟩⟩
  have r0 := rev_2 rv L pl 0
  have r1 := rev_2 rv L pl 1
  refine hJ [787] 100 _ _ _ _ _ (bl (a := 2) (b := revV rv L pl 0) (by omega) (by omega) (fun q => absurd q (by omega)) (fun _ => ⟨0, Nat.zero_le _, dl_56 (s := 1) (wh := 2) hl (by omega) (by omega) (by omega) j3 hL32 ?_⟩))
  refine hJ [795] 100 _ _ _ _ _ (bl (a := 2) (b := revV rv L pl 1) (by omega) (by omega) (fun q => absurd q (by omega)) (fun _ => ⟨0, Nat.zero_le _, dl_64 hl (by omega) hGA (fun t' => ?_)⟩))
  have hlc : lg_cmp (digV st dn h c L pl rv tr tu b n dl ll ti pa tk sc z kp) (digV st dn h c L pl rv tr tu b n dl ll ti pa tk sc z kp) = 0 := by
    unfold lg_cmp
    simp [Int64.lt_irrefl]
  exact hJ [803] 100 _ _ _ _ _ ⟨fun _ => hK _ _, fun q => absurd hlc q⟩
end
