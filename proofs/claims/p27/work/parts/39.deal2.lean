/-! Deal: count, turn, begin, deal, open -/
section
variable {l : Launch} {d k : Nat} {Q : am_Q} {dr gs gd gz bq kq tq ld lq : Nat} {dc : Int32} {st : Nat} {dn : Int32} {h : Nat → Int32} {c L : Nat → Nat} {sz pl : Nat} {rv : Int32} {tr tu : Nat} {t : am_T5} {b : Nat → Nat} {n dl ll lb ti pa : Nat} {tk : Nat → Nat} {sc : Nat → Int32} {hg : Nat → Int32} {e19 e20 e21 e22 : am_E} {Rv Iw Ho Go So : Nat → Int32} {r : am_M}
theorem cl_95 (hl : l.stackTraces = false) (hd : 1 ≤ d) {p : Nat} (hp : p < 4) (hq : Q (.inl (some (.int (nI (pc (hg p)))))) (wd dr gs gd gz bq kq tq ld lq dc st dn h c L sz pl rv tr tu t b n dl ll lb ti pa tk sc hg e19 e20 e21 e22 Rv Iw Ho Go So r)) : am_Call l d 95 k [.ref 0, .int (nI p)] (wd dr gs gd gz bq kq tq ld lq dc st dn h c L sz pl rv tr tu t b n dl ll lb ti pa tk sc hg e19 e20 e21 e22 Rv Iw Ho Go So r) Q := by
  refine op_95 hl hd (Nat.le_of_ble_eq_true rfl) (fun J hJ => ?_)
  have hL : ∀ m i o, i + m = 32 → J k 16 [some (.ref 0), some (.int (nI p)), some (.int (nI (fb_ct (bt (hg p)) i))), some (.ref (14 + 1 + p)), some (.int (nI 32)), some (.int (nI i)), o] [] (wd dr gs gd gz bq kq tq ld lq dc st dn h c L sz pl rv tr tu t b n dl ll lb ti pa tk sc hg e19 e20 e21 e22 Rv Iw Ho Go So r) := by
    intro m
    induction m with
    | zero =>
      intro i o hi
      have : i = 32 := by omega
      subst this
      exact hJ [16] 100 _ _ _ _ _ ⟨fun _ => hq, fun q => absurd (by decide) q⟩
    | succ m ih =>
      intro i o hi
      refine hJ [16] 100 _ _ _ _ _ (ble (a := 32) (b := i) (by omega) (by omega) (fun q => absurd q (by omega)) (fun _ => ay (has_at hp) ⟨nI_in (by omega) (by omega), bzx (zb_at (by omega)) (fun hb => ?_) (fun hb => ?_)⟩))
      · have h2 := ih (i + 1) (some (.int (zb (hg p) (nI i).toNatClampNeg))) (by omega)
        have e : nI (fb_ct (bt (hg p)) i) + 0 = nI (fb_ct (bt (hg p)) (i + 1)) := by
          rw [fb_ct_succ, hb]
          exact nI_add _ 0
        rw [← e, ← nI_1 i] at h2
        exact h2
      · have h2 := ih (i + 1) (some (.int (zb (hg p) (nI i).toNatClampNeg))) (by omega)
        have e : nI (fb_ct (bt (hg p)) i) + 1 = nI (fb_ct (bt (hg p)) (i + 1)) := by
          rw [fb_ct_succ, hb]
          exact nI_add _ 1
        rw [← e, ← nI_1 i] at h2
        exact h2
  exact hJ [16] 100 _ _ _ _ _ ⟨nI_in hp (by omega), 14 + 1 + p, rows_at hp, ay (has_at hp) (hL 32 0 none rfl)⟩
theorem cl_100 (hl : l.stackTraces = false) (hd : 1 ≤ d) (hgs : gs < 4) (hgd : gd < 4) (hld : ld < 4) {bn ln : Nat} {bf lf : Nat → Int32} (hb : gs = 1 → (wd dr gs gd gz bq kq tq ld lq dc st dn h c L sz pl rv tr tu t b n dl ll lb ti pa tk sc hg e19 e20 e21 e22 Rv Iw Ho Go So r)[bq]? = some (.inl (0, bn, .inl bf))) (hb2 : bn ≤ 1000) (hy : gs = 2 → (wd dr gs gd gz bq kq tq ld lq dc st dn h c L sz pl rv tr tu t b n dl ll lb ti pa tk sc hg e19 e20 e21 e22 Rv Iw Ho Go So r)[lq]? = some (.inl (0, ln, .inl lf))) (hy2 : ln ≤ 1000) (hq : Q (.inl (some (.int (turnV gs ((ld + ln) % 4) gd bn)))) (wd dr gs gd gz bq kq tq ld lq dc st dn h c L sz pl rv tr tu t b n dl ll lb ti pa tk sc hg e19 e20 e21 e22 Rv Iw Ho Go So r)) : am_Call l d 100 k [.ref 0] (wd dr gs gd gz bq kq tq ld lq dc st dn h c L sz pl rv tr tu t b n dl ll lb ti pa tk sc hg e19 e20 e21 e22 Rv Iw Ho Go So r) Q := by
  unfold turnV at hq
  refine op_100 hl hd (Nat.le_of_ble_eq_true rfl) (fun J hJ => hJ [] 100 _ _ _ _ _ (beq (a := gs) (b := 1) (by omega) (by omega) (fun e => ay (q := bq) (hb e) ⟨by decide, am_q1 ?_ rfl hq⟩) (fun e => beq (a := gs) (b := 2) (by omega) (by omega) (fun e2 => ay (q := lq) (hy e2) ⟨by decide, am_q1 ?_ rfl hq⟩) (fun e2 => am_q1 ?_ rfl hq))))
  · rw [if_pos e]
    show nI gd + nI bn - (nI gd + nI bn) / 4 * 4 = _
    rw [nI_add]
    exact pk_rem (d := 4) (by omega) (by omega) (by omega)
  · rw [if_neg e, if_pos e2]
    show nI ld + nI ln - (nI ld + nI ln) / 4 * 4 = _
    rw [nI_add]
    exact pk_rem (d := 4) (by omega) (by omega) (by omega)
  · rw [if_neg e, if_neg e2]
end
