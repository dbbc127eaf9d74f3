/-! Deal: end -/
/-- the row of tricks, one more -/
def FF (F : Nat → Option Nat) (tn v : Nat) : Nat → Option Nat := va_up (va_cpy F (fun _ => none) 0 0 tn) tn (some v)
theorem FF_lo {F : Nat → Option Nat} {tn v i : Nat} (h : i < tn) : FF F tn v i = F i := by
  show (if i = tn then some v else if 0 ≤ i ∧ i < 0 + tn then F (0 + (i - 0)) else none) = F i
  rw [if_neg (by omega), if_pos ⟨Nat.zero_le _, by omega⟩]
  simp
theorem FF_hi {F : Nat → Option Nat} {tn v : Nat} : FF F tn v tn = some v := if_pos rfl
/-- each trick's row lies among the rows behind -/
def FK (F : Nat → Option Nat) (tn : Nat) (r : am_M) : Prop := ∀ i, i < tn → ∃ (j n' : Nat) (f' : Nat → Int32), F i = some (j + 28) ∧ r[j]? = some (.inl (0, n', .inl f'))
theorem FK_app {F : Nat → Option Nat} {tn : Nat} {r : am_M} {v : am_E} (h : FK F tn r) : FK F tn (r ++ [v]) := by
  intro i hi
  obtain ⟨j, n', f', h1, h2⟩ := h i hi
  exact ⟨j, n', f', h1, by rw [List.getElem?_append_left (List.getElem?_eq_some_iff.mp h2).1]; exact h2⟩
theorem lk0 {r : am_M} {a b : am_E} : ((r ++ [a]) ++ [b])[r.length]? = some a := by
  rw [List.getElem?_append_left (by simp)]
  simp
section
variable {l : Launch} {d k : Nat} {Q : am_Q} {dr gs gd gz bq kq tq ld lq : Nat} {dc : Int32} {st : Nat} {dn : Int32} {h : Nat → Int32} {c L : Nat → Nat} {sz pl : Nat} {rv : Int32} {tr tu : Nat} {t : am_T5} {b : Nat → Nat} {n dl ll lb ti pa : Nat} {tk : Nat → Nat} {sc : Nat → Int32} {hg : Nat → Int32} {e19 e20 e21 e22 : am_E} {Rv Iw Ho Go So : Nat → Int32} {r : am_M}
theorem tl_at2 {u v : am_E} : (wd dr gs gd gz bq kq tq ld lq dc st dn h c L sz pl rv tr tu t b n dl ll lb ti pa tk sc hg e19 e20 e21 e22 Rv Iw Ho Go So ((r ++ [u]) ++ [v]))[r.length + 28]? = some u := lk0 (r := r)
theorem tl_at3 {u v : am_E} : (wd dr gs gd gz bq kq tq ld lq dc st dn h c L sz pl rv tr tu t b n dl ll lb ti pa tk sc hg e19 e20 e21 e22 Rv Iw Ho Go So ((r ++ [u]) ++ [v]))[r.length + 29]? = some v := by
  show ((r ++ [u]) ++ [v])[r.length + 1]? = some v
  rw [List.getElem?_append_right (by simp)]
  simp
theorem tl_put3 {u v v' : am_E} {kk : am_M → Prop} (hk : kk (wd dr gs gd gz bq kq tq ld lq dc st dn h c L sz pl rv tr tu t b n dl ll lb ti pa tk sc hg e19 e20 e21 e22 Rv Iw Ho Go So ((r ++ [u]) ++ [v']))) : am_put (wd dr gs gd gz bq kq tq ld lq dc st dn h c L sz pl rv tr tu t b n dl ll lb ti pa tk sc hg e19 e20 e21 e22 Rv Iw Ho Go So ((r ++ [u]) ++ [v])) (r.length + 29) v' kk := by
  have := tl_put (r := r ++ [u]) (v := v) (v' := v') (kk := kk) hk
  rw [List.length_append] at this
  exact this
theorem tl_at4 {u v x : am_E} : (wd dr gs gd gz bq kq tq ld lq dc st dn h c L sz pl rv tr tu t b n dl ll lb ti pa tk sc hg e19 e20 e21 e22 Rv Iw Ho Go So (((r ++ [u]) ++ [v]) ++ [x]))[r.length + 29]? = some v := by
  show (((r ++ [u]) ++ [v]) ++ [x])[r.length + 1]? = some v
  rw [List.getElem?_append_left (by simp), List.getElem?_append_right (by simp)]
  simp
theorem cl_108 (hl : l.stackTraces = false) (hd : 2 ≤ d) {tm cz tn : Nat} {lc : Nat → Nat} {lf kf : Nat → Int32} {F : Nat → Option Nat} (hld : ld < 4) (hla : RA 22 lq e22 r 4 lf) (hlf : ∀ j, j < 4 → lf j = nI (lc j)) (hlc : ∀ j, j < 4 → lc j < 32) (hk : RA 20 kq e20 r 4 kf) (hk1 : kf 1 = nI tm) (htm : tm ≤ 4) (hk2 : kf 2 = nI cz) (hcz : cz < 4) (htq : tq = 21) (he21 : e21 = .inl (3, tn, .inr (.inr F))) (hF : FK F tn r) (htn : tn < 100) (hgz : gz < 100)
    (hq1 : tn + 1 < gz → ∀ f6 Go', Q (.inl none) (wd dr gs gd gz bq kq (r.length + 29) ((ld + BI lc tm 4) % 4) (r.length + 30) dc st dn h c L sz pl rv tr tu t b n dl ll lb ti pa tk sc hg e19 e20 e21 e22 Rv Iw Ho Go' So (((r ++ [.inl (0, 6, .inl f6)]) ++ [.inl (3, tn + 1, .inr (.inr (FF F tn (r.length + 28))))]) ++ [eZ0])))
    (hq2 : gz ≤ tn + 1 → ∀ f6 Go' So', Q (.inl none) (wd dr 3 gd gz bq kq (r.length + 29) ((ld + BI lc tm 4) % 4) (r.length + 30) (dc + 1) st dn h c L sz pl rv tr tu t b n dl ll lb ti pa tk sc hg e19 e20 e21 e22 Rv Iw Ho Go' So' (((r ++ [.inl (0, 6, .inl f6)]) ++ [.inl (3, tn + 1, .inr (.inr (FF F tn (r.length + 28))))]) ++ [eZ0]))) : am_Call l d 108 (k + 3) [.ref 0] (wd dr gs gd gz bq kq tq ld lq dc st dn h c L sz pl rv tr tu t b n dl ll lb ti pa tk sc hg e19 e20 e21 e22 Rv Iw Ho Go So r) Q := by
  subst htq
  subst he21
  have hby : (ld + BI lc tm 4) % 4 < 4 := dm_lt _
  have i1 : vp_in 1 4 := nI_in (c := 1) (by omega) (by omega)
  have i2 : vp_in 2 4 := nI_in (c := 2) (by omega) (by omega)
  refine op_108 hl (by omega) (Nat.le_of_ble_eq_true rfl) (fun J hJ => hJ [14] 100 _ _ _ _ _ (ay (q := kq) (RA_at hk rfl) ⟨i1, 0, Nat.zero_le _, am_ca (congrArg (fun v => [Value.ref 0, .ref lq, .int v]) hk1) (cl_105 (lc := lc) hl (by omega) (LA_at hla) hlf hlc htm hld ?_)⟩))
  obtain ⟨by', hby'⟩ : ∃ q, q = (ld + BI lc tm 4) % 4 := ⟨_, rfl⟩
  rw [← hby'] at hby hq1 hq2 ⊢
  -- behind the score
  have h154 : gz ≤ tn + 1 → ∀ f6 Gx (u2 u3 : Nat) o4, J k 154 [some (.ref 0), some (.int (nI by')), some (.ref u2), some (.ref u3), o4] [] (wd dr gs gd gz bq kq (r.length + 29) by' (r.length + 30) dc st dn h c L sz pl rv tr tu t b n dl ll lb ti pa tk sc hg e19 e20 (.inl (3, tn, .inr (.inr F))) e22 Rv Iw Ho Gx So (((r ++ [.inl (0, 6, .inl f6)]) ++ [.inl (3, tn + 1, .inr (.inr (FF F tn (r.length + 28))))]) ++ [eZ0])) := by
    intro hgt f6 Gx u2 u3 o4
    have hR : ∀ v : am_E, RA 20 kq e20 (((r ++ [.inl (0, 6, .inl f6)]) ++ [.inl (3, tn + 1, .inr (.inr (FF F tn (r.length + 28))))]) ++ [eZ0]) 4 kf := fun _ => RA_app (RA_app (RA_app hk))
    have h172 : ∀ m p Gy, p + m = 4 → J k 172 [some (.ref 0), some (.int (nI by')), some (.ref u2), some (.ref u3), some (.int (nI p))] [] (wd dr 3 gd gz bq kq (r.length + 29) by' (r.length + 30) (dc + 1) st dn h c L sz pl rv tr tu t b n dl ll lb ti pa tk sc hg e19 e20 (.inl (3, tn, .inr (.inr F))) e22 Rv Iw Ho Gy So (((r ++ [.inl (0, 6, .inl f6)]) ++ [.inl (3, tn + 1, .inr (.inr (FF F tn (r.length + 28))))]) ++ [eZ0])) := by
      intro m
      induction m with
      | zero =>
        intro p Gy hp
        have : p = 4 := by omega
        subst this
        have ec : kf (Int32.toNatClampNeg 2) - kf (Int32.toNatClampNeg 2) / 2 * 2 = nI (cz % 2) := by
          rw [show kf (Int32.toNatClampNeg 2) = nI cz from hk2]
          exact pk_rem (d := 2) (by omega) (by omega) (by omega)
        have ec2 : 1 - (kf (Int32.toNatClampNeg 2) - kf (Int32.toNatClampNeg 2) / 2 * 2) = nI (1 - cz % 2) := by
          rw [ec]
          exact pk_sub (a := 1) (by omega)
        have h287 : ∀ x (s : Nat) v, x = nI s → s < 2 → J k 287 [some (.ref 0), some (.int (nI by')), some (.ref u2), some (.ref u3), some (.int v)] [.int x, .ref 27] (wd dr 3 gd gz bq kq (r.length + 29) by' (r.length + 30) (dc + 1) st dn h c L sz pl rv tr tu t b n dl ll lb ti pa tk sc hg e19 e20 (.inl (3, tn, .inr (.inr F))) e22 Rv Iw Ho Gy So (((r ++ [.inl (0, 6, .inl f6)]) ++ [.inl (3, tn + 1, .inr (.inr (FF F tn (r.length + 28))))]) ++ [eZ0])) := by
          intro x s v hx hs
          exact hJ [] 100 _ _ _ _ _ ⟨vin hx hs (by omega), vin hx hs (by omega), hq2 hgt _ _ _⟩
        refine hJ [255] 100 _ _ _ _ _ ⟨fun _ => ay (q := kq) (RA_at (hR eZ0) rfl) ⟨i2, by decide, vin ec (by omega) (by omega), 0, Nat.zero_le _, cl_109 hl (by omega) (hR eZ0) (fun v => ?_)⟩, fun q => absurd (by decide) q⟩
        exact hJ [287] 100 _ _ _ _ _ ⟨fun _ => ay (q := kq) (RA_at (hR eZ0) rfl) ⟨i2, by decide, h287 _ _ _ ec2 (by omega)⟩, fun _ => ay (q := kq) (RA_at (hR eZ0) rfl) ⟨i2, by decide, h287 _ _ _ ec (by omega)⟩⟩
      | succ m ih =>
        intro p Gy hp
        have e2 : nI p - nI p / 2 * 2 = nI (p % 2) := pk_rem (d := 2) (by omega) (by omega) (by omega)
        have e3 : 1 - (nI p - nI p / 2 * 2) = nI (1 - p % 2) := by
          rw [e2]
          exact pk_sub (a := 1) (by omega)
        have h232 : ∀ Gz, J k 232 [some (.ref 0), some (.int (nI by')), some (.ref u2), some (.ref u3), some (.int (nI p))] [] (wd dr 3 gd gz bq kq (r.length + 29) by' (r.length + 30) (dc + 1) st dn h c L sz pl rv tr tu t b n dl ll lb ti pa tk sc hg e19 e20 (.inl (3, tn, .inr (.inr F))) e22 Rv Iw Ho Gz So (((r ++ [.inl (0, 6, .inl f6)]) ++ [.inl (3, tn + 1, .inr (.inr (FF F tn (r.length + 28))))]) ++ [eZ0])) := by
          intro Gz
          have h2 := ih (p + 1) Gz (by omega)
          rw [← nI_1 p] at h2
          exact hJ [172] 100 _ _ _ _ _ h2
        exact hJ [172, 232] 100 _ _ _ _ _ (ble (a := 4) (b := p) (by omega) (by omega) (fun q => absurd q (by omega)) (fun _ => ⟨nI_in (by omega) (by omega), fun _ => h232 _, fun _ => ⟨by decide, vin e2 (by omega) (by omega), fun _ => ⟨by decide, vin e2 (by omega) (by omega), vin e2 (by omega) (by omega), by decide, vin e3 (by omega) (by omega), vin e3 (by omega) (by omega), h232 _⟩, fun _ => h232 _⟩⟩))
    exact hJ [172] 100 _ _ _ _ _ (h172 4 0 Gx rfl)
  -- behind the row of the trick
  have h78 : ∀ f6 o3, J (k + 2) 78 [some (.ref 0), some (.int (nI by')), some (.ref (r.length + 28)), o3, none] [] (wd dr gs gd gz bq kq 21 ld lq dc st dn h c L sz pl rv tr tu t b n dl ll lb ti pa tk sc hg e19 e20 (.inl (3, tn, .inr (.inr F))) e22 Rv Iw Ho Go So (r ++ [.inl (0, 6, .inl f6)])) := by
    intro f6 o3
    refine hJ [88] 100 _ _ _ _ _ ⟨tn + 1, nI_1 tn, by omega, az ?_⟩
    show J (k + 1) 88 _ [.ref ((r ++ [(.inl (0, 6, .inl f6) : am_E)]).length + 28)] (wd dr gs gd gz bq kq 21 ld lq dc st dn h c L sz pl rv tr tu t b n dl ll lb ti pa tk sc hg e19 e20 (.inl (3, tn, .inr (.inr F))) e22 Rv Iw Ho Go So ((r ++ [.inl (0, 6, .inl f6)]) ++ [.inl (3, tn + 1, .inr (.inr (fun _ => none)))]))
    rw [List.length_append]
    have e21 : nI by' - nI by' / 2 * 2 = nI (by' % 2) := pk_rem (d := 2) (by omega) (by omega) (by omega)
    refine hJ [104] 100 _ _ _ _ _ (ay (q := r.length + 29) tl_at3 ⟨⟨by decide, by decide, nI_pos (by omega), ?_, ?_⟩, ?_, tl_put3 ?_⟩)
    · rw [i_cl (by omega)]
      show 0 + tn ≤ tn
      omega
    · rw [i_cl (by omega)]
      show 0 + tn ≤ tn + 1
      omega
    · intro i hi y hy
      rw [i_cl (by omega)] at hi
      have hy' : F i = some y := by
        have := hy
        rw [show Int32.toNatClampNeg 0 + i = i by show 0 + i = i; omega] at this
        exact this
      obtain ⟨j, n', f', g1, g2⟩ := FK_app (v := .inl (3, tn + 1, .inr (.inr (fun _ => none)))) (FK_app (v := .inl (0, 6, .inl f6)) hF) i hi
      rw [g1] at hy'
      cases hy'
      exact ⟨n', f', g2⟩
    · rw [i_cl (by omega)]
      refine hJ [112] 100 _ _ _ _ _ (ay (q := r.length + 29) tl_at3 (ay (q := r.length + 28) tl_at2 ⟨nI_in (by omega) (by omega), tl_put3 ?_⟩))
      rw [i_cl (by omega)]
      refine hJ [138] 100 _ _ _ _ _ ⟨by decide, vin e21 (by omega) (by omega), vin e21 (by omega) (by omega), 0, rfl, by omega, az ?_⟩
      show J k 138 _ [.ref (((r ++ [(.inl (0, 6, .inl f6) : am_E)]) ++ [(.inl (3, tn + 1, .inr (.inr (FF F tn (r.length + 28)))) : am_E)]).length + 28), .ref 0] (wd dr gs gd gz bq kq (r.length + 29) by' lq dc st dn h c L sz pl rv tr tu t b n dl ll lb ti pa tk sc hg e19 e20 (.inl (3, tn, .inr (.inr F))) e22 Rv Iw Ho (upd Go (nI by' - nI by' / 2 * 2).toNatClampNeg (Go (nI by' - nI by' / 2 * 2).toNatClampNeg + 1)) So (((r ++ [.inl (0, 6, .inl f6)]) ++ [.inl (3, tn + 1, .inr (.inr (FF F tn (r.length + 28))))]) ++ [eZ0]))
      rw [List.length_append, List.length_append]
      refine hJ [154] 100 _ _ _ _ _ (ay (q := r.length + 29) tl_at4 (ble (a := gz) (b := tn + 1) (by omega) (by omega) (fun q => h154 q _ _ _ _ _) (fun q => hq1 q _ _)))
  -- the trick's row
  have h49 : ∀ m i f6, i + m = 4 → J (k + 2) 49 [some (.ref 0), some (.int (nI by')), some (.ref (r.length + 28)), some (.int (nI i)), none] [] (wd dr gs gd gz bq kq 21 ld lq dc st dn h c L sz pl rv tr tu t b n dl ll lb ti pa tk sc hg e19 e20 (.inl (3, tn, .inr (.inr F))) e22 Rv Iw Ho Go So (r ++ [.inl (0, 6, .inl f6)])) := by
    intro m
    induction m with
    | zero =>
      intro i f6 hi
      have : i = 4 := by omega
      subst this
      exact hJ [49, 78] 100 _ _ _ _ _ ⟨fun _ => h78 f6 _, fun q => absurd (by decide) q⟩
    | succ m ih =>
      intro i f6 hi
      have e : 2 + ((nI ld + nI i) - (nI ld + nI i) / 4 * 4) = nI (2 + (ld + i) % 4) := by
        rw [nI_add, show nI (ld + i) - nI (ld + i) / 4 * 4 = nI ((ld + i) % 4) from pk_rem (d := 4) (by omega) (by omega) (by omega)]
        exact nI_add 2 _
      have hm4 := dm_lt (ld + i)
      refine hJ [49] 100 _ _ _ _ _ (ble (a := 4) (b := i) (by omega) (by omega) (fun q => absurd q (by omega)) (fun _ => ⟨by decide, ay (q := lq) (LA_at (RA_app hla)) ⟨nI_in (by omega) (by omega), ay (q := r.length + 28) tl_at ⟨vin e (by omega) (by omega), tl_put ?_⟩⟩⟩))
      have h2 := ih (i + 1) (upd f6 (2 + ((nI ld + nI i) - (nI ld + nI i) / 4 * 4)).toNatClampNeg (lf (nI i).toNatClampNeg)) (by omega)
      rw [← nI_1 i] at h2
      exact h2
  refine hJ [19] 100 _ _ _ _ _ ⟨6, rfl, by omega, az ?_⟩
  show J (k + 2) 19 _ [.ref (r.length + 28)] (wd dr gs gd gz bq kq 21 ld lq dc st dn h c L sz pl rv tr tu t b n dl ll lb ti pa tk sc hg e19 e20 (.inl (3, tn, .inr (.inr F))) e22 Rv Iw Ho Go So (r ++ [.inl (0, 6, .inl (fun _ => 0))]))
  have j0 : vp_in 0 6 := nI_in (c := 0) (by omega) (by omega)
  have j1 : vp_in 1 6 := nI_in (c := 1) (by omega) (by omega)
  have j2 : vp_in 2 6 := nI_in (c := 2) (by omega) (by omega)
  have j3 : vp_in 3 6 := nI_in (c := 3) (by omega) (by omega)
  have j4 : vp_in 4 6 := nI_in (c := 4) (by omega) (by omega)
  have j5 : vp_in 5 6 := nI_in (c := 5) (by omega) (by omega)
  refine hJ [26] 100 _ _ _ _ _ (ay (q := r.length + 28) tl_at ⟨j0, tl_put ?_⟩)
  refine hJ [30] 100 _ _ _ _ _ (ay (q := r.length + 28) tl_at ⟨j1, tl_put ?_⟩)
  refine hJ [34] 100 _ _ _ _ _ (ay (q := r.length + 28) tl_at ⟨j2, tl_put ?_⟩)
  refine hJ [38] 100 _ _ _ _ _ (ay (q := r.length + 28) tl_at ⟨j3, tl_put ?_⟩)
  refine hJ [42] 100 _ _ _ _ _ (ay (q := r.length + 28) tl_at ⟨j4, tl_put ?_⟩)
  refine hJ [46] 100 _ _ _ _ _ (ay (q := r.length + 28) tl_at ⟨j5, tl_put ?_⟩)
  exact hJ [49] 100 _ _ _ _ _ (h49 4 0 _ rfl)
end
