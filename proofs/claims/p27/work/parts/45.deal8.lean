/-! Deal: mustFollow, isRight, taker, any, worth -/
theorem kI_leI {a b : Nat} (ha : a < 2 ^ 31) (hb : b < 2 ^ 31) : kI a ≤ kI b ↔ a ≤ b := by
  cases a with
  | zero =>
    cases b with
    | zero => exact ⟨fun _ => Nat.le_refl _, fun _ => by decide⟩
    | succ b => exact ⟨fun _ => Nat.zero_le _, fun _ => Int32.le_trans (show (-1 : Int32) ≤ 0 by decide) (Int32.not_lt.mp (nI_pos (n := b) (by omega)))⟩
  | succ a =>
    cases b with
    | zero =>
      refine ⟨fun q => ?_, fun q => by omega⟩
      have h1 : nI a ≤ -1 := q
      exact absurd (Int32.lt_of_le_of_lt h1 (show (-1 : Int32) < 0 by decide)) (nI_pos (by omega))
    | succ b =>
      rw [kI_s, kI_s, nI_leI (by omega) (by omega)]
      omega
theorem bkle {x y : Int32} {a b : Nat} {A B : Prop} (ex : x = kI a) (ey : y = kI b) (ha : a < 2 ^ 31) (hb : b < 2 ^ 31) (f : a ≤ b → A) (g : b < a → B) : (x ≤ y → A) ∧ (¬ x ≤ y → B) := by
  rw [ex, ey]
  exact ⟨fun q => f ((kI_leI ha hb).mp q), fun q => g (Nat.not_le.mp (fun q2 => q ((kI_leI ha hb).mpr q2)))⟩
theorem kI_max {x y : Int32} {a b : Nat} (ex : x = kI a) (ey : y = kI b) (ha : a < 2 ^ 31) (hb : b < 2 ^ 31) : (if x < y then y else x) = kI (if a < b then b else a) := by
  rw [ex, ey]
  by_cases h : a < b
  · rw [if_pos h, if_pos (Int32.not_le.mp (fun q => by have := (kI_leI hb ha).mp q; omega))]
  · rw [if_neg h, if_neg (Int32.not_lt.mpr ((kI_leI hb ha).mpr (by omega)))]
/-- what a card counts in a trick, by the trump and the first card; 0: nothing -/
def iN (tm c0 cd : Nat) : Nat := if cd / 8 = tm then 101 + cd else if cd / 8 = c0 / 8 then cd + 1 else 0
theorem iN_beats {tm c0 a b : Nat} (ha : a < 32) (hb : b < 32) (h : 0 < iN tm c0 b) : iN tm c0 a ≤ iN tm c0 b ↔ beatsN tm a b = false := by
  unfold iN at h ⊢
  unfold beatsN
  by_cases e : a / 8 = b / 8
  · rw [if_pos e, decide_eq_false_iff_not]
    by_cases e1 : a / 8 = tm
    · rw [if_pos e1, if_pos (by omega)]; omega
    · have e1' : ¬ b / 8 = tm := by omega
      rw [if_neg e1, if_neg e1']
      rw [if_neg e1'] at h
      by_cases e2 : a / 8 = c0 / 8
      · rw [if_pos e2, if_pos (by omega)]; omega
      · rw [if_neg (show ¬ b / 8 = c0 / 8 by omega)] at h
        omega
  · rw [if_neg e, decide_eq_false_iff_not]
    by_cases e1 : a / 8 = tm
    · rw [if_pos e1, if_neg (show ¬ b / 8 = tm by omega)]
      rw [if_neg (show ¬ b / 8 = tm by omega)] at h
      by_cases e2 : b / 8 = c0 / 8
      · rw [if_pos e2]; omega
      · rw [if_neg e2] at h; omega
    · rw [if_neg e1]
      refine ⟨fun _ => e1, fun _ => ?_⟩
      by_cases e2 : a / 8 = c0 / 8
      · rw [if_pos e2]
        by_cases e3 : b / 8 = tm
        · rw [if_pos e3]; omega
        · rw [if_neg e3, if_neg (by omega)] at h; omega
      · rw [if_neg e2]; exact Nat.zero_le _
theorem BI_iN (row : Nat → Nat) (tm : Nat) : ∀ m, 0 < iN tm (row 0) (row (BI row tm (m + 1)))
  | 0 => by
    show 0 < iN tm (row 0) (row 0)
    unfold iN
    split
    · omega
    · rw [if_pos rfl]; omega
  | m + 1 => by
    have h := BI_iN row tm m
    rw [BI, if_neg (by omega)]
    cases hb : beatsN tm (row (m + 1)) (row (BI row tm (m + 1))) with
    | false => exact h
    | true =>
      rw [if_pos rfl]
      unfold beatsN at hb
      unfold iN at h ⊢
      by_cases e : row (m + 1) / 8 = row (BI row tm (m + 1)) / 8
      · rw [e]
        by_cases e1 : row (BI row tm (m + 1)) / 8 = tm
        · rw [if_pos e1]; omega
        · rw [if_neg e1]
          rw [if_neg e1] at h
          by_cases e2 : row (BI row tm (m + 1)) / 8 = row 0 / 8
          · rw [if_pos e2]; omega
          · rw [if_neg e2] at h; omega
      · rw [if_neg e] at hb
        rw [if_pos (of_decide_eq_true hb)]; omega
/-- how the place of the best goes on, and what it counts -/
theorem BI_next {row : Nat → Nat} {tm m : Nat} (h : ∀ i, i < m + 2 → row i < 32) : (iN tm (row 0) (row (m + 1)) ≤ iN tm (row 0) (row (BI row tm (m + 1))) → BI row tm (m + 2) = BI row tm (m + 1)) ∧ (iN tm (row 0) (row (BI row tm (m + 1))) < iN tm (row 0) (row (m + 1)) → BI row tm (m + 2) = m + 1) := by
  have hb := iN_beats (tm := tm) (c0 := row 0) (h (m + 1) (by omega)) (h (BI row tm (m + 1)) (by have := BI_lt row tm m; omega)) (BI_iN row tm m)
  have e : BI row tm (m + 2) = if beatsN tm (row (m + 1)) (row (BI row tm (m + 1))) then m + 1 else BI row tm (m + 1) := by
    rw [BI, if_neg (by omega)]
  constructor
  · intro q
    rw [e, hb.mp q]; rfl
  · intro q
    have : beatsN tm (row (m + 1)) (row (BI row tm (m + 1))) = true := by
      cases hc : beatsN tm (row (m + 1)) (row (BI row tm (m + 1))) with
      | true => rfl
      | false => have := hb.mpr hc; omega
    rw [e, this]; rfl
def bN (row : Nat → Nat) (tm k : Nat) : Nat := if k = 0 then 0 else BI row tm k + 1
def wN (row : Nat → Nat) (tm k : Nat) : Nat := if k = 0 then 0 else iN tm (row 0) (row (BI row tm k))
theorem iN_lt {tm c0 cd : Nat} (h : cd < 32) : iN tm c0 cd < 200 := by
  unfold iN
  split
  · omega
  · split <;> omega
theorem bN_step {row : Nat → Nat} {tm k : Nat} (h : ∀ i, i < k + 1 → row i < 32) : (iN tm (row 0) (row k) ≤ wN row tm k → bN row tm (k + 1) = bN row tm k ∧ wN row tm (k + 1) = wN row tm k) ∧ (wN row tm k < iN tm (row 0) (row k) → bN row tm (k + 1) = k + 1 ∧ wN row tm (k + 1) = iN tm (row 0) (row k)) := by
  cases k with
  | zero =>
    have := BI_iN row tm 0
    constructor
    · intro q
      have q' : iN tm (row 0) (row 0) ≤ 0 := q
      have : 0 < iN tm (row 0) (row 0) := this
      omega
    · intro _
      exact ⟨rfl, rfl⟩
  | succ m =>
    have e := BI_next (tm := tm) (m := m) h
    constructor
    · intro q
      have := e.1 q
      exact ⟨by show BI row tm (m + 2) + 1 = BI row tm (m + 1) + 1; rw [this], by show iN tm (row 0) (row (BI row tm (m + 2))) = _; rw [this]; rfl⟩
    · intro q
      have := e.2 q
      exact ⟨by show BI row tm (m + 2) + 1 = m + 1 + 1; rw [this], by show iN tm (row 0) (row (BI row tm (m + 2))) = _; rw [this]⟩
section
variable {l : Launch} {d k : Nat} {Q : am_Q} {dr gs gd gz bq kq tq ld lq : Nat} {dc : Int32} {st : Nat} {dn : Int32} {h : Nat → Int32} {c L : Nat → Nat} {sz pl : Nat} {rv : Int32} {tr tu : Nat} {t : am_T5} {b : Nat → Nat} {n dl ll lb ti pa : Nat} {tk : Nat → Nat} {sc : Nat → Int32} {hg : Nat → Int32} {e19 e20 e21 e22 : am_E} {Rv Iw Ho Go So : Nat → Int32} {r : am_M}
theorem cl_103 (hl : l.stackTraces = false) (hd : 1 ≤ d) {p ln : Nat} {lc : Nat → Nat} {lf : Nat → Int32} (hp : p < 4) (hla : RA 22 lq e22 r ln lf) (hlf : ∀ j, j < ln → lf j = nI (lc j)) (hlc : ∀ j, j < ln → lc j < 32) (hln : ln ≤ 4) (hq : Q (.inl (some (.int (bI (!decide (ln = 0) && !decide (hg p &&& sSuit (lc 0 / 8) = 0)))))) (wd dr gs gd gz bq kq tq ld lq dc st dn h c L sz pl rv tr tu t b n dl ll lb ti pa tk sc hg e19 e20 e21 e22 Rv Iw Ho Go So r)) : am_Call l d 103 k [.ref 0, .int (nI p)] (wd dr gs gd gz bq kq tq ld lq dc st dn h c L sz pl rv tr tu t b n dl ll lb ti pa tk sc hg e19 e20 e21 e22 Rv Iw Ho Go So r) Q := by
  have hLA : (wd dr gs gd gz bq kq tq ld lq dc st dn h c L sz pl rv tr tu t b n dl ll lb ti pa tk sc hg e19 e20 e21 e22 Rv Iw Ho Go So r)[lq]? = some (.inl (0, ln, .inl lf)) := LA_at hla
  refine op_103 hl hd (Nat.le_of_ble_eq_true rfl) (fun J hJ => ?_)
  by_cases h0 : ln = 0
  · subst h0
    exact hJ [] 100 _ _ _ _ _ (ay (q := lq) hLA ⟨fun _ => ⟨by decide, hq⟩, fun q => absurd rfl q⟩)
  · have hu : lc 0 / 8 < 4 := by have := hlc 0 (by omega); omega
    have e0 : lf (Int32.toNatClampNeg 0) = nI (lc 0) := hlf 0 (by omega)
    have ed : lf (Int32.toNatClampNeg 0) / 8 = nI (lc 0 / 8) := by
      rw [e0]
      exact pk_div (d := 8) (by have := hlc 0 (by omega); omega) (by omega) (by omega)
    rw [decide_eq_false h0, Bool.not_false, Bool.true_and] at hq
    have hL : ∀ m i, i + m = 32 → (∀ j, j < i → ¬ (bt (hg p) j = true ∧ j / 8 = lc 0 / 8)) → J k 12 [some (.ref 0), some (.int (nI p)), some (.int (nI i))] [] (wd dr gs gd gz bq kq tq ld lq dc st dn h c L sz pl rv tr tu t b n dl ll lb ti pa tk sc hg e19 e20 e21 e22 Rv Iw Ho Go So r) := by
      intro m
      induction m with
      | zero =>
        intro i hi hno
        have : i = 32 := by omega
        subst this
        have hz : hg p &&& sSuit (lc 0 / 8) = 0 := s_zero.mpr (fun j hj => by
          rw [b_and, bt_suit hu hj]
          cases hb : bt (hg p) j with
          | false => rfl
          | true => exact decide_eq_false (fun q => hno j hj ⟨hb, q⟩))
        rw [decide_eq_true hz] at hq
        exact hJ [12] 100 _ _ _ _ _ ⟨fun _ => ⟨by decide, hq⟩, fun q => absurd (by decide) q⟩
      | succ m ih =>
        intro i hi hno
        have hnx : ¬ (bt (hg p) i = true ∧ i / 8 = lc 0 / 8) → J k 12 [some (.ref 0), some (.int (nI p)), some (.int (nI i + 1))] [] (wd dr gs gd gz bq kq tq ld lq dc st dn h c L sz pl rv tr tu t b n dl ll lb ti pa tk sc hg e19 e20 e21 e22 Rv Iw Ho Go So r) := fun q => by
          have h2 := ih (i + 1) (by omega) (fun j hj => by
            by_cases e : j = i
            · rw [e]; exact q
            · exact hno j (by omega))
          rw [← nI_1 i] at h2
          exact h2
        refine hJ [12] 100 _ _ _ _ _ (ble (a := 32) (b := i) (by omega) (by omega) (fun q => absurd q (by omega)) (fun _ => ⟨nI_in hp (by omega), 14 + 1 + p, rows_at hp, ay (q := 14 + 1 + p) (has_at hp) ⟨nI_in (by omega) (by omega), bzx (zb_at (by omega)) (fun hb => hnx (fun q => by rw [hb] at q; cases q.1)) (fun hb => ⟨by decide, ay (q := lq) hLA ⟨nI_in (c := 0) (by omega) (by omega), by decide, beqx (a := i / 8) (b := lc 0 / 8) (pk_div (d := 8) (by omega) (by omega) (by omega)) ed (by omega) (by omega) (fun q => ⟨by decide, ?_⟩) (fun q => hnx (fun q2 => q q2.2))⟩⟩)⟩⟩))
        have hz : ¬ hg p &&& sSuit (lc 0 / 8) = 0 := fun z => by
          have := s_zero.mp z i (by omega)
          rw [b_and, bt_suit hu (by omega), hb, decide_eq_true q] at this
          cases this
        rw [decide_eq_false hz] at hq
        exact hq
    exact hJ [12] 100 _ _ _ _ _ (ay (q := lq) hLA ⟨fun q => absurd ((nI_eq (a := ln) (b := 0) (by omega) (by omega)).mp q) h0, fun _ => hL 32 0 rfl (fun j hj => absurd hj (Nat.not_lt_zero _))⟩)
theorem cl_104 (hl : l.stackTraces = false) (hd : 2 ≤ d) {p cd ln : Nat} {lc : Nat → Nat} {lf : Nat → Int32} (hp : p < 4) (hcd : cd < 32) (hla : RA 22 lq e22 r ln lf) (hlf : ∀ j, j < ln → lf j = nI (lc j)) (hlc : ∀ j, j < ln → lc j < 32) (hln : ln ≤ 4) (hq : Q (.inl (some (.int (bI (bt (rsS hg lc ln p) cd))))) (wd dr gs gd gz bq kq tq ld lq dc st dn h c L sz pl rv tr tu t b n dl ll lb ti pa tk sc hg e19 e20 e21 e22 Rv Iw Ho Go So r)) : am_Call l d 104 k [.ref 0, .int (nI p), .int (nI cd)] (wd dr gs gd gz bq kq tq ld lq dc st dn h c L sz pl rv tr tu t b n dl ll lb ti pa tk sc hg e19 e20 e21 e22 Rv Iw Ho Go So r) Q := by
  have hLA : (wd dr gs gd gz bq kq tq ld lq dc st dn h c L sz pl rv tr tu t b n dl ll lb ti pa tk sc hg e19 e20 e21 e22 Rv Iw Ho Go So r)[lq]? = some (.inl (0, ln, .inl lf)) := LA_at hla
  have hR : bt (rsS hg lc ln p) cd = (bt (hg p) cd && (!(!decide (ln = 0) && !decide (hg p &&& sSuit (lc 0 / 8) = 0)) || decide (cd / 8 = lc 0 / 8))) := by
    unfold rsS
    by_cases h0 : ln = 0
    · rw [if_pos h0, decide_eq_true h0]; simp
    · rw [if_neg h0, decide_eq_false h0]
      by_cases h1 : hg p &&& sSuit (lc 0 / 8) = 0
      · rw [if_pos h1, decide_eq_true h1]; simp
      · rw [if_neg h1, decide_eq_false h1, b_and, bt_suit (by have := hlc 0 (by omega); omega) hcd]; rfl
  rw [hR] at hq
  refine op_104 hl (by omega) (Nat.le_of_ble_eq_true rfl) (fun J hJ => hJ [16] 100 _ _ _ _ _ ⟨nI_in hp (by omega), 14 + 1 + p, rows_at hp, ay (q := 14 + 1 + p) (has_at hp) ⟨nI_in hcd (by omega), bzx (zb_at (by omega)) (fun hb => ⟨by decide, ?_⟩) (fun hb => ⟨0, Nat.zero_le _, cl_103 hl (by omega) hp hla hlf hlc hln ?_⟩)⟩⟩)
  · rw [hb] at hq
    exact hq
  · rw [hb, Bool.true_and] at hq
    cases hm : (!decide (ln = 0) && !decide (hg p &&& sSuit (lc 0 / 8) = 0)) with
    | false =>
      rw [hm] at hq
      exact hJ [] 100 _ _ _ _ _ ⟨fun _ => ⟨by decide, hq⟩, fun q => absurd rfl q⟩
    | true =>
      rw [hm] at hq
      have h0 : ¬ ln = 0 := fun e => by rw [e] at hm; cases hm
      have h32 := hlc 0 (by omega)
      have ed : lf (Int32.toNatClampNeg 0) / 8 = nI (lc 0 / 8) := by
        rw [show lf (Int32.toNatClampNeg 0) = nI (lc 0) from hlf 0 (by omega)]
        exact pk_div (d := 8) (by omega) (by omega) (by omega)
      refine hJ [] 100 _ _ _ _ _ ⟨fun q => absurd q (by decide), fun _ => ⟨by decide, ay (q := lq) hLA ⟨nI_in (c := 0) (by omega) (by omega), by decide, beqx (a := cd / 8) (b := lc 0 / 8) (pk_div (d := 8) (by omega) (by omega) (by omega)) ed (by omega) (by omega) (fun q => ⟨by decide, ?_⟩) (fun q => ⟨by decide, ?_⟩)⟩⟩⟩
      · rw [decide_eq_true q] at hq
        exact hq
      · rw [decide_eq_false q] at hq
        exact hq
theorem cl_105 (hl : l.stackTraces = false) (hd : 1 ≤ d) {q tm : Nat} {lc : Nat → Nat} {lf : Nat → Int32} (hw : (wd dr gs gd gz bq kq tq ld lq dc st dn h c L sz pl rv tr tu t b n dl ll lb ti pa tk sc hg e19 e20 e21 e22 Rv Iw Ho Go So r)[q]? = some (.inl (0, 4, .inl lf))) (hlf : ∀ j, j < 4 → lf j = nI (lc j)) (hlc : ∀ j, j < 4 → lc j < 32) (htm : tm ≤ 4) (hld : ld < 4) (hq : Q (.inl (some (.int (nI ((ld + BI lc tm 4) % 4))))) (wd dr gs gd gz bq kq tq ld lq dc st dn h c L sz pl rv tr tu t b n dl ll lb ti pa tk sc hg e19 e20 e21 e22 Rv Iw Ho Go So r)) : am_Call l d 105 k [.ref 0, .ref q, .int (nI tm)] (wd dr gs gd gz bq kq tq ld lq dc st dn h c L sz pl rv tr tu t b n dl ll lb ti pa tk sc hg e19 e20 e21 e22 Rv Iw Ho Go So r) Q := by
  refine op_105 hl hd (Nat.le_of_ble_eq_true rfl) (fun J hJ => ?_)
  have hB3 : BI lc tm 4 ≤ 3 := BI_lt lc tm 3
  have hL : ∀ m i o, i + m = 4 → J k 8 [some (.ref 0), some (.ref q), some (.int (nI tm)), some (.int (kI (bN lc tm i))), some (.int (kI (wN lc tm i))), some (.int (nI i)), o] [] (wd dr gs gd gz bq kq tq ld lq dc st dn h c L sz pl rv tr tu t b n dl ll lb ti pa tk sc hg e19 e20 e21 e22 Rv Iw Ho Go So r) := by
    intro m
    induction m with
    | zero =>
      intro i o hi
      have : i = 4 := by omega
      subst this
      have e : (nI ld + nI (BI lc tm 4)) - (nI ld + nI (BI lc tm 4)) / 4 * 4 = nI ((ld + BI lc tm 4) % 4) := by
        rw [nI_add]
        exact pk_rem (d := 4) (by omega) (by omega) (by omega)
      refine hJ [8] 100 _ _ _ _ _ (ay (q := q) hw ⟨fun _ => kI_ge0 (by show BI lc tm 4 + 1 < _; omega) (fun _ => ⟨by decide, ?_⟩) (fun q2 => absurd q2 (by show ¬ BI lc tm 4 + 1 = 0; omega)), fun q2 => absurd (by decide) q2⟩)
      exact am_q1 e rfl hq
    | succ m ih =>
      intro i o hi
      have hci := hlc i (by omega)
      have hc0 := hlc 0 (by omega)
      have e : lf (nI i).toNatClampNeg = nI (lc i) := by rw [i_cl (by omega)]; exact hlf i (by omega)
      have ed : lf (nI i).toNatClampNeg / 8 = nI (lc i / 8) := by rw [e]; exact pk_div (d := 8) (by omega) (by omega) (by omega)
      have ed0 : lf (Int32.toNatClampNeg 0) / 8 = nI (lc 0 / 8) := by
        rw [show lf (Int32.toNatClampNeg 0) = nI (lc 0) from hlf 0 (by omega)]
        exact pk_div (d := 8) (by omega) (by omega) (by omega)
      have hin : vp_in (nI i) 4 := nI_in (by omega) (by omega)
      have hst := bN_step (tm := tm) (k := i) (fun j hj => hlc j (by omega))
      have hi200 := iN_lt (tm := tm) (c0 := lc 0) hci
      have hw200 : wN lc tm i < 200 := by
        unfold wN
        split
        · omega
        · exact iN_lt (hlc _ (by
            cases i with
            | zero => omega
            | succ i => have := BI_lt lc tm i; omega))
      have hmx : (if wN lc tm i < iN tm (lc 0) (lc i) then iN tm (lc 0) (lc i) else wN lc tm i) = wN lc tm (i + 1) := by
        by_cases q2 : wN lc tm i < iN tm (lc 0) (lc i)
        · rw [if_pos q2, (hst.2 q2).2]
        · rw [if_neg q2, (hst.1 (by omega)).2]
      have h60 : ∀ x, x = kI (iN tm (lc 0) (lc i)) → J k 60 [some (.ref 0), some (.ref q), some (.int (nI tm)), some (.int (kI (bN lc tm i))), some (.int (kI (wN lc tm i))), some (.int (nI i)), o] [.int x] (wd dr gs gd gz bq kq tq ld lq dc st dn h c L sz pl rv tr tu t b n dl ll lb ti pa tk sc hg e19 e20 e21 e22 Rv Iw Ho Go So r) := by
        intro x hx
        have hm := kI_max (x := kI (wN lc tm i)) (y := x) (a := wN lc tm i) (b := iN tm (lc 0) (lc i)) rfl hx (by omega) (by omega)
        rw [hmx] at hm
        have h2 := ih (i + 1) (some (.int x)) (by omega)
        refine hJ [8] 100 _ _ _ _ _ (bkle (a := iN tm (lc 0) (lc i)) (b := wN lc tm i) hx rfl (by omega) (by omega) (fun q2 => ?_) (fun q2 => ?_))
        · rw [(hst.1 q2).1, ← hm, ← nI_1 i] at h2
          exact h2
        · rw [(hst.2 q2).1, kI_s, ← hm, ← nI_1 i] at h2
          exact h2
      refine hJ [8, 60] 100 _ _ _ _ _ (ay (q := q) hw (ble (a := 4) (b := i) (by omega) (by omega) (fun q2 => absurd q2 (by omega)) (fun _ => ay (q := q) hw ⟨hin, by decide, beqx (a := lc i / 8) (b := tm) ed rfl (by omega) (by omega) (fun q2 => ay (q := q) hw ⟨hin, h60 _ ?_⟩) (fun q2 => ay (q := q) hw ⟨hin, by decide, ay (q := q) hw ⟨nI_in (c := 0) (by omega) (by omega), by decide, beqx (a := lc i / 8) (b := lc 0 / 8) ed ed0 (by omega) (by omega) (fun q3 => ay (q := q) hw ⟨hin, h60 _ ?_⟩) (fun q3 => h60 _ ?_)⟩⟩)⟩)))
      · rw [iN, if_pos q2, show 101 + lc i = (100 + lc i) + 1 by omega, kI_s, e]
        exact nI_add 100 _
      · rw [iN, if_neg q2, if_pos q3, kI_s]
        exact e
      · rw [iN, if_neg q2, if_neg q3]
        rfl
  exact hJ [8] 100 _ _ _ _ _ (hL 4 0 none rfl)
theorem cl_109 (hl : l.stackTraces = false) (hd : 1 ≤ d) {x : Int32} {kf : Nat → Int32} (hk : RA 20 kq e20 r 4 kf) (hq : ∀ v, Q (.inl (some (.int v))) (wd dr gs gd gz bq kq tq ld lq dc st dn h c L sz pl rv tr tu t b n dl ll lb ti pa tk sc hg e19 e20 e21 e22 Rv Iw Ho Go So r)) : am_Call l d 109 k [.ref 0, .int x] (wd dr gs gd gz bq kq tq ld lq dc st dn h c L sz pl rv tr tu t b n dl ll lb ti pa tk sc hg e19 e20 e21 e22 Rv Iw Ho Go So r) Q := by
  have hKA : (wd dr gs gd gz bq kq tq ld lq dc st dn h c L sz pl rv tr tu t b n dl ll lb ti pa tk sc hg e19 e20 e21 e22 Rv Iw Ho Go So r)[kq]? = some (.inl (0, 4, .inl kf)) := RA_at hk rfl
  have i0 : vp_in 0 4 := nI_in (c := 0) (by omega) (by omega)
  have i1 : vp_in 1 4 := nI_in (c := 1) (by omega) (by omega)
  have i3 : vp_in 3 4 := nI_in (c := 3) (by omega) (by omega)
  refine op_109 hl hd (Nat.le_of_ble_eq_true rfl) (fun J hJ => ?_)
  have h32 : ∀ v o3, J k 32 [some (.ref 0), some (.int x), none, o3] [.int v] (wd dr gs gd gz bq kq tq ld lq dc st dn h c L sz pl rv tr tu t b n dl ll lb ti pa tk sc hg e19 e20 e21 e22 Rv Iw Ho Go So r) := fun v o3 =>
    hJ [] 100 _ _ _ _ _ (ay (q := kq) hKA ⟨i0, fun _ => ay (q := kq) hKA ⟨i3, ay (q := kq) hKA ⟨i0, ay (q := kq) hKA ⟨i0, fun _ => hq _, fun _ => hq _⟩⟩⟩, fun _ => ay (q := kq) hKA ⟨i3, hq _⟩⟩)
  exact hJ [32] 100 _ _ _ _ _ (ay (q := kq) hKA ⟨i1, fun _ => ay (q := kq) hKA ⟨i1, fun _ => h32 _ _, fun _ => h32 _ _⟩, fun _ => h32 _ _⟩)
end
