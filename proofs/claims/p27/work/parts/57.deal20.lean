/-! the law's checks: while bidding -/
section
variable {l : Launch} {d k : Nat} {Q : am_Q} {dr gs gd gz bq kq tq ld lq : Nat} {dc : Int32} {st : Nat} {dn : Int32} {h : Nat → Int32} {c L : Nat → Nat} {sz pl : Nat} {rv : Int32} {tr tu : Nat} {t : am_T5} {b : Nat → Nat} {n dl ll lb ti pa : Nat} {tk : Nat → Nat} {sc : Nat → Int32} {hg : Nat → Int32} {e19 e20 e21 e22 : am_E} {Rv Iw Ho Go So : Nat → Int32} {r : am_M}
variable {J : am_K} {z kp tm s0 dd sp : Nat} {x7 : Int64} {x9 : Int32}
set_option maxRecDepth 20000 in
theorem lk_C (hl : l.stackTraces = false) (hd : 60 ≤ d) (hJ : LJ l d J) (hI : (INV st h c L sz pl rv tr tu b n dl ll lb ti pa tk z kp)) {y10 y11 : Int32} (hK : ∀ t y10 y11, J k 451 [some (.float 0), some (.int (nI tm)), some (.ref 0), some (.ref 1), some (.int (nI s0)), some (.int (nI dd)), some (.int (nI sp)), some (.long (x7)), none, some (.int (x9)), some (.int (y10)), some (.int (y11)), none, none, none, none] [] (wd dr gs gd gz bq kq tq ld lq dc st dn h c L sz pl rv tr tu t b n dl ll lb ti pa tk sc hg e19 e20 e21 e22 Rv Iw Ho Go So r)) : J k 333 [some (.float 0), some (.int (nI tm)), some (.ref 0), some (.ref 1), some (.int (nI s0)), some (.int (nI dd)), some (.int (nI sp)), some (.long (x7)), none, some (.int (x9)), some (.int (y10)), some (.int (y11)), none, none, none, none] [] (wd dr gs gd gz bq kq tq ld lq dc st dn h c L sz pl rv tr tu t b n dl ll lb ti pa tk sc hg e19 e20 e21 e22 Rv Iw Ho Go So r) := by
  have hn := INV_n hI
  have hns := INV_stl hI
  have hI' := hI
  obtain ⟨⟨a1, a2, a3⟩, i0, i1, i2, i3, ⟨j1, j2, j3, j4, j5⟩, j6, j7, j8, j9, j10⟩ := hI'
  obtain ⟨b1, b2, b3, b4, b5, b6⟩ := AI_b a3
  have hL4 := j7 _ (Nat.le_refl _)
  refine hJ [338] 100 _ _ _ _ _ ⟨0, Nat.zero_le _, dl_55 (wh := 0) hl (by omega) (by omega) a1 a2 (by omega) j3 j4 j6 hL4 ?_⟩
  refine hJ [342, 451] 100 _ _ _ _ _ (beq (a := st) (b := 1) (by omega) (by omega) (fun e => ?_) (fun _ => hK t _ _))
  subst e
  have hcan : ∀ {Q : am_Q} (f : Nat), 1 ≤ f → f ≤ 40 → Q (.inl (some (.int (bI (decide (ll < f)))))) (wd dr gs gd gz bq kq tq ld lq dc 1 dn h c L sz pl rv tr tu t b n dl ll lb ti pa tk sc hg e19 e20 e21 e22 Rv Iw Ho Go So r) → am_Call l d 48 0 [.ref 1, .int (nI f)] (wd dr gs gd gz bq kq tq ld lq dc 1 dn h c L sz pl rv tr tu t b n dl ll lb ti pa tk sc hg e19 e20 e21 e22 Rv Iw Ho Go So r) Q := by
    intro Q f h1 h2 hq
    refine dl_48 hl (by omega) a1 (by omega) a2 (by omega) b1 b2 b4 ?_
    rw [alw_lv h1 h2]
    exact hq
  have h406 : ∀ y10 y11, J k 406 [some (.float 0), some (.int (nI tm)), some (.ref 0), some (.ref 1), some (.int (nI s0)), some (.int (nI dd)), some (.int (nI sp)), some (.long (x7)), none, some (.int (x9)), some (.int (y10)), some (.int (y11)), none, none, none, none] [] (wd dr gs gd gz bq kq tq ld lq dc 1 dn h c L sz pl rv tr tu t b n dl ll lb ti pa tk sc hg e19 e20 e21 e22 Rv Iw Ho Go So r) := by
    intro y10 y11
    refine hJ [411] 100 _ _ _ _ _ ⟨0, Nat.zero_le _, dl_48 (bd := 0) hl (by omega) a1 (by omega) a2 (by omega) b1 b2 b4 ?_⟩
    refine hJ [420] 100 _ _ _ _ _ ⟨fun q => absurd q (show ¬ bI (decide (1 = 1) && alw n dl ll lb ti 0) = 0 from by rw [show alw n dl ll lb ti 0 = true from rfl]; decide), fun _ => ⟨0, Nat.zero_le _, dl_48 (bd := 41) hl (by omega) a1 (by omega) a2 (by omega) b1 b2 b4 ?_⟩⟩
    have h432 : J k 432 [some (.float 0), some (.int (nI tm)), some (.ref 0), some (.ref 1), some (.int (nI s0)), some (.int (nI dd)), some (.int (nI sp)), some (.long (x7)), none, some (.int (x9)), some (.int (y10)), some (.int (y11)), none, none, none, none] [] (wd dr gs gd gz bq kq tq ld lq dc 1 dn h c L sz pl rv tr tu t b n dl ll lb ti pa tk sc hg e19 e20 e21 e22 Rv Iw Ho Go So r) := by
      refine hJ [437] 100 _ _ _ _ _ ⟨0, Nat.zero_le _, dl_50 (wh := 1) (z := z) hl (by omega) (by omega) b1 b2 a2 hn (by omega) a3.1 j10 ?_⟩
      have hst : stl ll pa = false := by
        cases e : stl ll pa with
        | false => rfl
        | true => rcases hns.mp e with q | q <;> omega
      have hcv : conV ll ti pa ((dl + z) % 4) 1 = -1 := if_pos hst
      rw [hcv]
      refine hJ [445] 100 _ _ _ _ _ ⟨fun _ => ⟨0, Nat.zero_le _, dl_59 (kp := kp) hl (by omega) (by omega) a1 (fun e => absurd e (by decide)) (fun t' => ?_)⟩, fun q => absurd rfl q⟩
      exact hJ [451] 100 _ _ _ _ _ ⟨fun _ => hK _ _ _, fun q => absurd rfl q⟩
    refine hJ [432, 423] 100 _ _ _ _ _ (bzx (b := alw n dl ll lb ti 41) rfl (fun _ => h432) (fun q => ?_))
    refine hJ [429] 100 _ _ _ _ _ ⟨0, Nat.zero_le _, dl_48 (bd := 42) hl (by omega) a1 (by omega) a2 (by omega) b1 b2 b4 ?_⟩
    refine hJ [432] 100 _ _ _ _ _ (bzx (b := alw n dl ll lb ti 42) rfl (fun _ => h432) (fun q2 => ?_))
    have := alw_41 q
    have := alw_42 q2
    omega
  have h370 : ∀ m g, g + m = 41 → 1 ≤ g → J k 370 [some (.float 0), some (.int (nI tm)), some (.ref 0), some (.ref 1), some (.int (nI s0)), some (.int (nI dd)), some (.int (nI sp)), some (.long (x7)), none, some (.int (x9)), some (.int (nI (ll + 1))), some (.int (nI g)), none, none, none, none] [] (wd dr gs gd gz bq kq tq ld lq dc 1 dn h c L sz pl rv tr tu t b n dl ll lb ti pa tk sc hg e19 e20 e21 e22 Rv Iw Ho Go So r) := by
    intro m
    induction m with
    | zero =>
      intro g hgm h1
      exact hJ [406] 100 _ _ _ _ _ (bl (a := 40) (b := g) (by omega) (by omega) (fun _ => h406 _ _) (fun q => absurd q (by omega)))
    | succ m ih =>
      intro g hgm h1
      have e1 : nI g + 1 = nI (g + 1) := nI_add g 1
      have hnx : J k 400 [some (.float 0), some (.int (nI tm)), some (.ref 0), some (.ref 1), some (.int (nI s0)), some (.int (nI dd)), some (.int (nI sp)), some (.long (x7)), none, some (.int (x9)), some (.int (nI (ll + 1))), some (.int (nI g)), none, none, none, none] [] (wd dr gs gd gz bq kq tq ld lq dc 1 dn h c L sz pl rv tr tu t b n dl ll lb ti pa tk sc hg e19 e20 e21 e22 Rv Iw Ho Go So r) := by
        have hny : J k 370 [some (.float 0), some (.int (nI tm)), some (.ref 0), some (.ref 1), some (.int (nI s0)), some (.int (nI dd)), some (.int (nI sp)), some (.long (x7)), none, some (.int (x9)), some (.int (nI (ll + 1))), some (.int (nI g + 1)), none, none, none, none] [] (wd dr gs gd gz bq kq tq ld lq dc 1 dn h c L sz pl rv tr tu t b n dl ll lb ti pa tk sc hg e19 e20 e21 e22 Rv Iw Ho Go So r) := by
          rw [e1]
          exact ih (g + 1) (by omega) (by omega)
        exact hJ [370] 100 _ _ _ _ _ hny
      refine hJ [383] 100 _ _ _ _ _ (bl (a := 40) (b := g) (by omega) (by omega) (fun q => absurd q (by omega)) (fun _ => ⟨0, Nat.zero_le _, hcan g h1 (by omega) ?_⟩))
      refine hJ [400] 100 _ _ _ _ _ (bl (a := g) (b := ll + 1) (by omega) (by omega) (fun q => ⟨fun _ => hnx, fun q2 => absurd ?_ q2⟩) (fun q => ⟨fun _ => hnx, fun q2 => absurd ?_ q2⟩))
      · rw [decide_eq_false (by omega)]; rfl
      · rw [decide_eq_true (by omega)]; rfl
  have h367 : ∀ y11, J k 367 [some (.float 0), some (.int (nI tm)), some (.ref 0), some (.ref 1), some (.int (nI s0)), some (.int (nI dd)), some (.int (nI sp)), some (.long (x7)), none, some (.int (x9)), some (.int (nI (ll + 1))), some (.int (y11)), none, none, none, none] [] (wd dr gs gd gz bq kq tq ld lq dc 1 dn h c L sz pl rv tr tu t b n dl ll lb ti pa tk sc hg e19 e20 e21 e22 Rv Iw Ho Go So r) := fun y11 => hJ [370] 100 _ _ _ _ _ (h370 40 1 rfl (Nat.le_refl _))
  have h345 : ∀ m f y11, f + m = ll + 1 → 1 ≤ f → J k 345 [some (.float 0), some (.int (nI tm)), some (.ref 0), some (.ref 1), some (.int (nI s0)), some (.int (nI dd)), some (.int (nI sp)), some (.long (x7)), none, some (.int (x9)), some (.int (nI f)), some (.int (y11)), none, none, none, none] [] (wd dr gs gd gz bq kq tq ld lq dc 1 dn h c L sz pl rv tr tu t b n dl ll lb ti pa tk sc hg e19 e20 e21 e22 Rv Iw Ho Go So r) := by
    intro m
    induction m with
    | zero =>
      intro f y11 hf h1
      have hf' : f = ll + 1 := hf
      subst hf'
      refine hJ [358, 367] 100 _ _ _ _ _ (bl (a := 40) (b := ll + 1) (by omega) (by omega) (fun _ => h367 _) (fun q => ⟨0, Nat.zero_le _, hcan (ll + 1) h1 (by omega) ?_⟩))
      rw [decide_eq_true (by omega)]
      exact hJ [367] 100 _ _ _ _ _ ⟨fun q => absurd q (by decide), fun _ => h367 _⟩
    | succ m ih =>
      intro f y11 hf h1
      have e1 : nI f + 1 = nI (f + 1) := nI_add f 1
      refine hJ [358] 100 _ _ _ _ _ (bl (a := 40) (b := f) (by omega) (by omega) (fun q => absurd q (by omega)) (fun _ => ⟨0, Nat.zero_le _, hcan f h1 (by omega) ?_⟩))
      rw [decide_eq_false (by omega)]
      have hnx : J k 345 [some (.float 0), some (.int (nI tm)), some (.ref 0), some (.ref 1), some (.int (nI s0)), some (.int (nI dd)), some (.int (nI sp)), some (.long (x7)), none, some (.int (x9)), some (.int (nI f + 1)), some (.int (y11)), none, none, none, none] [] (wd dr gs gd gz bq kq tq ld lq dc 1 dn h c L sz pl rv tr tu t b n dl ll lb ti pa tk sc hg e19 e20 e21 e22 Rv Iw Ho Go So r) := by
        rw [e1]
        exact ih (f + 1) y11 (by omega) (by omega)
      exact hJ [345] 100 _ _ _ _ _ ⟨fun _ => hnx, fun q => absurd rfl q⟩
  exact hJ [345] 100 _ _ _ _ _ (h345 ll 1 _ (by omega) (Nat.le_refl _))
end
