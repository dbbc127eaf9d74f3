/-! contracts: the class's search for the best play -/
theorem upd_back {h : Nat → Int32} {p cd : Nat} (hc : cd < 32) (hb : bt (h p) cd = true) : upd (upd h p (sDel (h p) cd)) p (sAdd (upd h p (sDel (h p) cd) p) cd) = h := by
  funext j
  show (if j = p then sAdd (upd h p (sDel (h p) cd) p) cd else if j = p then sDel (h p) cd else h j) = h j
  by_cases e : j = p
  · rw [if_pos e, up_s, s_del_add hc hb, e]
  · rw [if_neg e, if_neg e]
theorem pL_lo {c L : Nat → Nat} {pl tr cd j : Nat} (hj : j ≤ pl / 4) : pL c L pl tr cd j = L j := by
  unfold pL
  split
  · exact uN_n _ _ (by omega)
  · rfl
theorem pL_lt {c L : Nat → Nat} {pl tr cd : Nat} (hL : ∀ j, j ≤ pl / 4 → L j < 4) : ∀ j, j ≤ (pl + 1) / 4 → pL c L pl tr cd j < 4 := by
  intro j hj
  by_cases h : j ≤ pl / 4
  · rw [pL_lo h]
    exact hL j h
  · have e : (pl + 1) % 4 = 0 := by omega
    rw [pL, if_pos e, show j = pl / 4 + 1 by omega, uN_s]
    exact Nat.mod_lt _ (by omega)
theorem sm_ne {s : Int32} (h : s ≠ 0) : sm s = nI (sLo s) := if_neg h
theorem pRv_right {h : Nat → Int32} {c : Nat → Nat} {pl tu cd : Nat} {rv : Int32} (hb : bt (RC h c pl tu) cd = true) : pRv h c pl rv tu cd = rv := by rw [pRv, hb]; rfl
theorem pTu_who {c L : Nat → Nat} {pl tr cd : Nat} (hL : L (pl / 4) < 4) : pTu c L pl tr (who L pl) cd = who (pL c L pl tr cd) (pl + 1) := by
  unfold pTu who pL
  by_cases e : (pl + 1) % 4 = 0
  · rw [if_pos e, if_pos e, e, show (pl + 1) / 4 = pl / 4 + 1 by omega, uN_s]
    have := Nat.mod_lt (L (pl / 4) + BI (rowOf (uN c pl cd) (pl / 4)) tr 4) (show 0 < 4 by omega)
    have e2 : pT c L pl tr cd < 4 := this
    omega
  · rw [if_neg e, if_neg e, show (pl + 1) / 4 = pl / 4 by omega]
    omega
section
variable {l : Launch} {x0 x1 x2 x3 x4 : am_E} {sz tr : Nat} {rv : Int32} {r : am_M}
theorem cl_82 (hl : l.stackTraces = false) (htr : tr ≤ 4) (hs8 : sz ≤ 8) : ∀ (n : Nat) {d k : Nat} {Q : am_Q} {h : Nat → Int32} {c L : Nat → Nat} {pl need dpt kp : Nat}, n + 7 ≤ d → n + pl % 4 = 4 * kp → sz = pl / 4 + kp → kp ≤ 3 → bal h L pl kp → (∀ i, i < pl → c i < 32) → (∀ j, j ≤ pl / 4 → L j < 4) → (∀ i, pl ≤ i → i < 32 → bt rv i = false) → n ≤ dpt → dpt ≤ 100 → need ≤ 4 →
    (∀ c' L', (∀ i, i < pl → c' i = c i) → (∀ j, j ≤ pl / 4 → L' j = L j) → Q (.inl (some (Value.int (bI (decide (need ≤ bp n h c L pl tr)))))) (wc5 x0 x1 x2 x3 x4 h c' L' sz pl rv tr (who L pl) r)) → am_Call l d 82 k [.ref 5, .int (nI need), .int (nI dpt)] (wc5 x0 x1 x2 x3 x4 h c L sz pl rv tr (who L pl) r) Q := by
  intro n
  induction n with
  | zero =>
    intro d k Q h c L pl need dpt kp hd hn hs hk3 hb hc hL hrv hdp hdp2 hnd hq
    have hqq := hq c L (fun _ _ => rfl) (fun _ _ => rfl)
    have ek : kp = 0 := by omega
    refine op_82 hl (by omega) (Nat.le_of_ble_eq_true rfl) (fun J hJ => hJ [] 100 _ _ _ _ _ (bl (a := 0) (b := need) (by omega) (by omega) (fun q => ⟨0, Nat.zero_le _, cl_29_5 hl (by omega) (by omega) (by omega) (bl (a := sz - pl / 4) (b := need) (by omega) (by omega) (fun q2 => ?_) (fun q2 => absurd q2 (by omega)))⟩) (fun q => ?_)))
    · rw [show decide (need ≤ bp 0 h c L pl tr) = false from decide_eq_false (by show ¬ need ≤ 0; omega)] at hqq
      exact ⟨by decide, hqq⟩
    · rw [show decide (need ≤ bp 0 h c L pl tr) = true from decide_eq_true (by show need ≤ 0; omega)] at hqq
      exact ⟨by decide, hqq⟩
  | succ n ih =>
    intro d k Q h c L pl need dpt kp hd hn hs hk3 hb hc hL hrv hdp hdp2 hnd hq
    have hLp := hL (pl / 4) (Nat.le_refl _)
    have hpl : pl < 32 := by omega
    have htu4 : who L pl < 4 := Nat.mod_lt _ (by omega)
    have hqq := hq c L (fun _ _ => rfl) (fun _ _ => rfl)
    have hpcu := bal_tu hb hLp
    have hune : h (who L pl) ≠ 0 := fun e => by rw [pc_zero.mpr e] at hpcu; omega
    have hSne : RC h c pl (who L pl) ≠ 0 := RC_ne hune
    have hS3 : pc (RC h c pl (who L pl)) ≤ 3 := Nat.le_trans (pc_sub (fun i _ q => RC_sub q)) (by omega)
    refine op_82 hl (by omega) (Nat.le_of_ble_eq_true rfl) (fun J hJ => hJ [20] 100 _ _ _ _ _ (bl (a := 0) (b := need) (by omega) (by omega) (fun q => ⟨0, Nat.zero_le _, cl_29_5 hl (by omega) (by omega) (by omega) (bl (a := sz - pl / 4) (b := need) (by omega) (by omega) (fun q2 => ?_) (fun q2 => bl (a := 0) (b := dpt) (by omega) (by omega) (fun _ => ?_) (fun q3 => absurd q3 (by omega))))⟩) (fun q => ?_)))
    · have := vl_le (n := n + 1) (h := h) (m := pl % 4) (row := rowOf c (pl / 4)) (f := L (pl / 4)) (t := tr) (Nat.mod_lt _ (by omega))
      rw [show decide (need ≤ bp (n + 1) h c L pl tr) = false from decide_eq_false (by show ¬ need ≤ vl (n + 1) h (pl % 4) (rowOf c (pl / 4)) (L (pl / 4)) tr; omega)] at hqq
      exact ⟨by decide, hqq⟩
    · -- the loop
      have hL45 : ∀ (j i : Nat) (X : Int32) (cc LL : Nat → Nat) (o6 o7 o8 : Option Value), i + j = 3 → pc X ≤ j → (∀ e, e < 32 → bt X e = true → bt (RC h c pl (who L pl)) e = true) → (∀ e, e < 32 → bt (RC h c pl (who L pl)) e = true → bt X e = false → decide (need ≤ bw n h c L pl tr e) = !decide (who L pl % 2 = 0)) → (∀ i, i < pl → cc i = c i) → (∀ j, j ≤ pl / 4 → LL j = L j) →
          J k 45 [some (Value.ref 5), some (Value.int (nI need)), some (Value.int (nI dpt)), some (Value.int (bI (decide (who L pl % 2 = 0)))), some (Value.int X), some (Value.int (nI i)), o6, o7, o8] [] (wc5 x0 x1 x2 x3 x4 h cc LL sz pl rv tr (who L pl) r) := by
        intro j
        have hend : ∀ (i : Nat) (X : Int32) (cc LL : Nat → Nat) (o6 o7 o8 : Option Value), X = 0 → (∀ e, e < 32 → bt (RC h c pl (who L pl)) e = true → bt X e = false → decide (need ≤ bw n h c L pl tr e) = !decide (who L pl % 2 = 0)) → (∀ i, i < pl → cc i = c i) → (∀ j, j ≤ pl / 4 → LL j = L j) →
            J k 115 [some (Value.ref 5), some (Value.int (nI need)), some (Value.int (nI dpt)), some (Value.int (bI (decide (who L pl % 2 = 0)))), some (Value.int X), some (Value.int (nI i)), o6, o7, o8] [] (wc5 x0 x1 x2 x3 x4 h cc LL sz pl rv tr (who L pl) r) := by
          intro i X cc LL o6 o7 o8 hX hx hcc hLL
          have hv : decide (need ≤ bp (n + 1) h c L pl tr) = !decide (who L pl % 2 = 0) := by
            rw [bp_s]
            exact opF_all hSne (fun e e1 e2 => hx e e1 e2 (by rw [hX]; exact b_0 e))
          have hq1 := hq cc LL hcc hLL
          rw [hv] at hq1
          refine hJ [] 100 _ _ _ _ _ (bz (fun q => ?_) (fun q => ?_))
          · rw [q] at hq1
            exact ⟨by decide, hq1⟩
          · rw [q] at hq1
            exact ⟨by decide, hq1⟩
        induction j with
        | zero =>
          intro i X cc LL o6 o7 o8 hi hX hsub hx hcc hLL
          have hX0 : X = 0 := pc_zero.mp (by omega)
          have : i = 3 := by omega
          subst this
          exact hJ [115] 100 _ _ _ _ _ ⟨fun _ => hend 3 X cc LL _ _ _ hX0 hx hcc hLL, fun q => absurd (by decide) q⟩
        | succ j ihj =>
          intro i X cc LL o6 o7 o8 hi hX hsub hx hcc hLL
          refine hJ [56, 115] 100 _ _ _ _ _ (ble (a := 3) (b := i) (by omega) (by omega) (fun q => absurd q (by omega)) (fun _ => ⟨fun q => hend i X cc LL _ _ _ q hx hcc hLL, fun hXne => ?_⟩))
          obtain ⟨hlo, hlob, _⟩ := sLo_spec hXne
          obtain ⟨cd, hcd⟩ : ∃ cd, cd = sLo X := ⟨_, rfl⟩
          rw [← hcd] at hlo hlob
          have hSb := hsub cd hlo hlob
          have hRC : RC h cc pl (who LL pl) = RC h c pl (who L pl) := by
            have hw : who LL pl = who L pl := by unfold who; rw [hLL _ (Nat.le_refl _)]
            rw [hw]
            unfold RC
            by_cases e0 : pl % 4 = 0
            · rw [if_pos e0, if_pos e0]
            · rw [if_neg e0, if_neg e0, hcc _ (by omega)]
          have hwho : who LL pl = who L pl := by unfold who; rw [hLL _ (Nat.le_refl _)]
          have hbth : bt (h (who L pl)) cd = true := RC_sub hSb
          have hbwc : bw n h cc LL pl tr cd = bw n h c L pl tr cd := bw_cong hcc (hLL _ (Nat.le_refl _))
          have hbws := bw_step n h cc LL pl tr cd
          rw [hbwc] at hbws
          refine hJ [63] 100 _ _ _ _ _ ⟨0, Nat.zero_le _, cl_90 hl (by omega) ?_⟩
          rw [sm_ne hXne, ← hcd]
          refine hJ [81] 100 _ _ _ _ _ ⟨0, Nat.zero_le _, cl_88 hl (by omega) ⟨0, Nat.zero_le _, cl_37_5 hl (by omega) hlo hpl htu4 htr (fun i hi => by rw [hcc i hi]; exact hc i hi) (by rw [hLL _ (Nat.le_refl _)]; exact hLp) ?_⟩⟩
          have hrvR : pRv h cc pl rv (who L pl) cd = rv := pRv_right (by rw [← hwho, hRC]; rw [hwho] at *; exact hSb)
          rw [hrvR]
          -- what comes with the CARD
          have s81 : ∀ g, g = gotV cc LL pl tr cd → J k 81 [some (Value.ref 5), some (Value.int (nI need)), some (Value.int (nI dpt)), some (Value.int (bI (decide (who L pl % 2 = 0)))), some (Value.int (sDel X cd)), some (Value.int (nI i)), some (Value.int (nI cd)), o7, o8] [Value.int (nI g)] (wc5 x0 x1 x2 x3 x4 (upd h (who L pl) (sDel (h (who L pl)) cd)) (uN cc pl cd) (pL cc LL pl tr cd) sz (pl + 1) rv tr (pTu cc LL pl tr (who L pl) cd) r) := by
            intro g hg
            have hLLt : ∀ j, j ≤ pl / 4 → LL j < 4 := fun j hj => by rw [hLL j hj]; exact hL j hj
            have hg1 : g ≤ 1 := by rw [hg]; unfold gotV; split <;> omega
            have hbalL : bal h LL pl kp := by
              intro p hp
              rw [hLL _ (Nat.le_refl _)]
              exact hb p hp
            have hbal2 := bal_step (c := cc) (tr := tr) hbalL (hLLt _ (Nat.le_refl _)) hlo (by rw [hwho]; exact hbth)
            rw [hwho] at hbal2
            have htw : pTu cc LL pl tr (who L pl) cd = who (pL cc LL pl tr cd) (pl + 1) := by rw [← hwho]; exact pTu_who (hLLt _ (Nat.le_refl _))
            rw [htw]
            refine hJ [96] 100 _ _ _ _ _ ⟨0, Nat.zero_le _, am_ca (as' := [Value.ref 5, Value.int (nI (need - g)), Value.int (nI (dpt - 1))]) ?_ (ih (kp := if (pl + 1) % 4 = 0 then kp - 1 else kp) (by omega) ?_ ?_ ?_ hbal2 ?_ (pL_lt hLLt) ?_ (by omega) (by omega) (by omega) ?_)⟩
            · show [Value.ref 5, Value.int (nI need - nI g), Value.int (nI dpt - 1)] = _
              rw [pk_sub (by omega), pk_sub1 (by omega)]
            · split <;> omega
            · split <;> omega
            · split <;> omega
            · intro i hi
              show (if i = pl then cd else cc i) < 32
              split
              · exact hlo
              · rw [hcc i (by omega)]
                exact hc i (by omega)
            · intro i h1 h2
              exact hrv i (by omega) h2
            · intro c2 L2 hc2 hL2
              -- taken back
              have hwL2 : who L2 (pl + 1 - 1) = who L pl := by
                show who L2 pl = _
                unfold who
                rw [hL2 (pl / 4) (by omega), pL_lo (Nat.le_refl _), hLL _ (Nat.le_refl _)]
              have hc2pl : c2 (pl + 1 - 1) = cd := by
                show c2 pl = cd
                rw [hc2 pl (by omega), uN_s]
              have hT : decide (need - g ≤ bp n (upd h (who L pl) (sDel (h (who L pl)) cd)) (uN cc pl cd) (pL cc LL pl tr cd) (pl + 1) tr) = decide (need ≤ bw n h c L pl tr cd) := by
                rw [hbws, hwho, ← hg]
                by_cases e : need - g ≤ bp n (upd h (who L pl) (sDel (h (who L pl)) cd)) (uN cc pl cd) (pL cc LL pl tr cd) (pl + 1) tr
                · rw [decide_eq_true e, decide_eq_true (by omega)]
                · rw [decide_eq_false e, decide_eq_false (by omega)]
              rw [hT]
              refine hJ [101] 100 _ _ _ _ _ ⟨0, Nat.zero_le _, cl_38_5 hl (by omega) (by omega) (by omega) (by show L2 (pl / 4) < 4; rw [hL2 (pl / 4) (by omega), pL_lo (Nat.le_refl _)]; exact hLLt _ (Nat.le_refl _)) ?_⟩
              rw [hwL2, hc2pl, upd_back hlo hbth, show sDel rv (pl + 1 - 1) = rv from s_del_id hpl (hrv pl (Nat.le_refl _) hpl)]
              have hcc2 : ∀ i, i < pl → c2 i = c i := fun i hi => by rw [hc2 i (by omega), uN_n _ _ (by omega), hcc i hi]
              have hLL2 : ∀ j, j ≤ pl / 4 → L2 j = L j := fun j hj => by rw [hL2 j (by omega), pL_lo hj, hLL j hj]
              have hq1 := hq c2 L2 hcc2 hLL2
              have s109 : decide (need ≤ bw n h c L pl tr cd) = !decide (who L pl % 2 = 0) → ∀ o7 o8, J k 109 [some (Value.ref 5), some (Value.int (nI need)), some (Value.int (nI dpt)), some (Value.int (bI (decide (who L pl % 2 = 0)))), some (Value.int (sDel X cd)), some (Value.int (nI i)), some (Value.int (nI cd)), o7, o8] [] (wc5 x0 x1 x2 x3 x4 h c2 L2 sz pl rv tr (who L pl) r) := by
                intro hne o7 o8
                refine hJ [45] 100 _ _ _ _ _ ?_
                refine am_jw (J := J) (congrArg (fun x => [some (Value.ref 5), some (Value.int (nI need)), some (Value.int (nI dpt)), some (Value.int (bI (decide (who L pl % 2 = 0)))), some (Value.int (sDel X cd)), some (Value.int x), some (Value.int (nI cd)), o7, o8]) (nI_1 i)) rfl rfl (ihj (i + 1) (sDel X cd) c2 L2 _ _ _ (by omega) (by have := pc_del hlo hlob; omega) ?_ ?_ hcc2 hLL2)
                · intro e e1 e2
                  rw [bt_del hlo e1, Bool.and_eq_true] at e2
                  exact hsub e e1 e2.1
                · intro e e1 e2 e3
                  by_cases ee : e = cd
                  · rw [ee]; exact hne
                  · refine hx e e1 e2 ?_
                    rw [bt_del hlo e1] at e3
                    simpa [ee] using e3
              refine hJ [109] 100 _ _ _ _ _ ?_
              by_cases hgw : decide (need ≤ bw n h c L pl tr cd) = decide (who L pl % 2 = 0)
              · refine ⟨fun _ => am_qz rfl rfl ?_, fun q => absurd (by rw [hgw]) q⟩
                rw [bp_s, opF_ex hlo hSb hgw] at hq1
                exact hq1
              · refine ⟨fun q => absurd (bI_e.mp q) hgw, fun _ => s109 ?_ _ _⟩
                cases h1 : decide (need ≤ bw n h c L pl tr cd) <;> cases h2 : decide (who L pl % 2 = 0) <;> first | rfl | (rw [h1, h2] at hgw; exact absurd rfl hgw)
          unfold pRet
          by_cases e4 : (pl + 1) % 4 = 0
          · rw [if_pos e4]
            refine ⟨0, Nat.zero_le _, cl_83 hl (by omega) (Nat.mod_lt _ (by omega)) (s81 _ ?_)⟩
            rw [gotV, if_pos e4]
          · rw [if_neg e4]
            refine ⟨0, Nat.zero_le _, cl_83m hl (by omega) (s81 0 ?_)⟩
            rw [gotV, if_neg e4]
      have s35 : J k 35 [some (Value.ref 5), some (Value.int (nI need)), some (Value.int (nI dpt)), none, none, none, none, none, none] [Value.int (bI (decide (who L pl % 2 = 0)))] (wc5 x0 x1 x2 x3 x4 h c L sz pl rv tr (who L pl) r) := by
        refine hJ [45] 100 _ _ _ _ _ ⟨0, Nat.zero_le _, cl_36_5 hl (by omega) (by omega) htu4 (fun q => hc _ (by omega)) ?_⟩
        exact hL45 3 0 _ c L _ _ _ rfl hS3 (fun e _ q => q) (fun e _ q1 q2 => by rw [q1] at q2; cases q2) (fun _ _ => rfl) (fun _ _ => rfl)
      refine hJ [35] 100 _ _ _ _ _ ⟨0, Nat.zero_le _, cl_84 hl (by omega) (by omega) (beq (a := who L pl % 2) (b := 0) (by omega) (by omega) (fun q => ?_) (fun q => ?_))⟩
      · rw [decide_eq_true q] at s35
        exact s35
      · rw [decide_eq_false q] at s35
        exact s35
    · rw [show decide (need ≤ bp (n + 1) h c L pl tr) = true from decide_eq_true (by omega)] at hqq
      exact ⟨by decide, hqq⟩
end
