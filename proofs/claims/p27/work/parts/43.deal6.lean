/-! Deal: conclude -/
theorem kI_st {m : Nat} (h : 0 < m) : kI m = nI (m - 1) := kI_p h
theorem nI_m2 {q : Nat} (h : 2 ≤ q) : nI q + (-2) = nI (q - 2) := by
  have e : nI q + (-2) = nI q - nI 2 := by rw [Int32.sub_eq_add_neg]; rfl
  rw [e]
  exact pk_sub h
/-- a level of the trump of the last one -/
def PD (b : Nat → Nat) (la j : Nat) : Prop := isLv (b j) = true ∧ (b j - 1) % 5 = (b la - 1) % 5
section
variable {l : Launch} {d k : Nat} {Q : am_Q} {dr gs gd gz bq kq tq ld lq : Nat} {dc : Int32} {st : Nat} {dn : Int32} {h : Nat → Int32} {c L : Nat → Nat} {sz pl : Nat} {rv : Int32} {tr tu : Nat} {t : am_T5} {b : Nat → Nat} {n dl ll lb ti pa : Nat} {tk : Nat → Nat} {sc : Nat → Int32} {hg : Nat → Int32} {e19 e20 e21 e22 : am_E} {Rv Iw Ho Go So : Nat → Int32} {r : am_M}
theorem cl_102 (hl : l.stackTraces = false) (hd : 1 ≤ d) {bg : Nat → Nat} {bn : Nat} {bf : Nat → Int32} (hb : RA 19 bq e19 r bn bf) (hbf : ∀ j, j < bn → bf j = nI (bg j)) (hb43 : ∀ j, j < bn → bg j < 43) (hbn : bn ≤ 1000) (hgd : gd < 4)
    (hA : LV bg bn = 0 → PS bg bn = 4 → Q (.inl none) (wd dr 3 gd gz bq kq tq ld lq dc st dn h c L sz pl rv tr tu t b n dl ll lb ti pa tk sc hg e19 e20 e21 e22 Rv Iw Ho Go So r)) (hB : LV bg bn = 0 → PS bg bn ≠ 4 → Q (.inl none) (wd dr gs gd gz bq kq tq ld lq dc st dn h c L sz pl rv tr tu t b n dl ll lb ti pa tk sc hg e19 e20 e21 e22 Rv Iw Ho Go So r)) (hC : 0 < LV bg bn → PS bg bn < 3 → Q (.inl none) (wd dr gs gd gz bq kq tq ld lq dc st dn h c L sz pl rv tr tu t b n dl ll lb ti pa tk sc hg e19 e20 e21 e22 Rv Iw Ho Go So r))
    (hD : 0 < LV bg bn → 3 ≤ PS bg bn → ∀ z0 f20, isZM bg bn z0 → f20 0 = nI ((bg (LV bg bn - 1) - 1) / 5 + 1) → f20 1 = nI ((bg (LV bg bn - 1) - 1) % 5) → f20 2 = nI ((gd + z0) % 4) → f20 3 = nI (tcB bg bn) → Q (.inl none) (wd dr 2 gd gz bq (r.length + 28) tq (((gd + z0) % 4 + 1) % 4) lq dc st dn h c L sz pl rv tr tu t b n dl ll lb ti pa tk sc hg e19 e20 e21 e22 Rv Iw Ho Go So (r ++ [.inl (0, 4, .inl f20)]))) : am_Call l d 102 (k + 1) [.ref 0] (wd dr gs gd gz bq kq tq ld lq dc st dn h c L sz pl rv tr tu t b n dl ll lb ti pa tk sc hg e19 e20 e21 e22 Rv Iw Ho Go So r) Q := by
  have hBA : (wd dr gs gd gz bq kq tq ld lq dc st dn h c L sz pl rv tr tu t b n dl ll lb ti pa tk sc hg e19 e20 e21 e22 Rv Iw Ho Go So r)[bq]? = some (.inl (0, bn, .inl bf)) := BA_at hb
  have hLV := LV_le bg bn
  have hPS := PS_le bg bn
  refine op_102 hl (by omega) (Nat.le_of_ble_eq_true rfl) (fun J hJ => ?_)
  -- behind the last level
  have h114 : ∀ o4 o5 o6, 0 < LV bg bn → 3 ≤ PS bg bn → J (k + 1) 114 [some (.ref 0), some (.int (nI (PS bg bn))), some (.int (kI (LV bg bn))), some (.int (nI (tcB bg bn))), o4, o5, o6] [] (wd dr gs gd gz bq kq tq ld lq dc st dn h c L sz pl rv tr tu t b n dl ll lb ti pa tk sc hg e19 e20 e21 e22 Rv Iw Ho Go So r) := by
    intro o4 o5 o6 h0 h3
    have hlv := isLv_iff.mp (LV_lv bg bn h0)
    obtain ⟨la, hla⟩ : ∃ la, la = LV bg bn - 1 := ⟨_, rfl⟩
    rw [← hla] at hlv
    have hin : ∀ j, j ≤ la → vp_in (nI j) bn := fun j hj => nI_in (by omega) (by omega)
    have eb : ∀ j, j ≤ la → bf (nI j).toNatClampNeg = nI (bg j) := fun j hj => by rw [i_cl (by omega)]; exact hbf j (by omega)
    have e5 : ∀ j, j ≤ la → bf (nI j).toNatClampNeg + 4 - (bf (nI j).toNatClampNeg + 4) / 5 * 5 = nI ((bg j + 4) % 5) := fun j hj => by
      have h43 := hb43 j (by omega)
      rw [eb j hj]
      exact (congrArg (fun x : Int32 => x - x / 5 * 5) (nI_add (bg j) 4)).trans (pk_rem (d := 5) (by omega) (by omega) (by omega))
    have hd5 : ∀ j, (j % 2 = la % 2 ∧ isLv (bg j) = true ∧ (bg j + 4) % 5 = (bg la + 4) % 5) → PD bg la j := fun j h => ⟨h.2.1, by have := isLv_iff.mp h.2.1; have := h.2.2; omega⟩
    -- behind the search
    have hfin : ∀ z0 x, isZM bg bn z0 → J (k + 1) 185 [some (.ref 0), some (.int (nI (PS bg bn))), some (.int (nI la)), some (.int (nI (tcB bg bn))), some (.int (nI ((bg la + 4) % 5))), some (.int (nI z0)), x] [] (wd dr gs gd gz bq kq tq ld lq dc st dn h c L sz pl rv tr tu t b n dl ll lb ti pa tk sc hg e19 e20 e21 e22 Rv Iw Ho Go So r) := by
      intro z0 x hz
      have hz' := hz
      obtain ⟨z1, z2, z3, z4, z5⟩ := hz'
      refine hJ [188] 100 _ _ _ _ _ ⟨4, rfl, by omega, az ?_⟩
      show J k 188 _ [.ref (r.length + 28)] (wd dr gs gd gz bq kq tq ld lq dc st dn h c L sz pl rv tr tu t b n dl ll lb ti pa tk sc hg e19 e20 e21 e22 Rv Iw Ho Go So (r ++ [.inl (0, 4, .inl (fun _ => 0))]))
      have hBA2 : ∀ v : am_E, (wd dr gs gd gz bq kq tq ld lq dc st dn h c L sz pl rv tr tu t b n dl ll lb ti pa tk sc hg e19 e20 e21 e22 Rv Iw Ho Go So (r ++ [v]))[bq]? = some (.inl (0, bn, .inl bf)) := fun v => BA_at (RA_app hb)
      have hT : ∀ v : am_E, (wd dr gs gd gz bq kq tq ld lq dc st dn h c L sz pl rv tr tu t b n dl ll lb ti pa tk sc hg e19 e20 e21 e22 Rv Iw Ho Go So (r ++ [v]))[r.length + 28]? = some v := fun v => tl_at
      have e6 : (nI gd + nI z0) - (nI gd + nI z0) / 4 * 4 = nI ((gd + z0) % 4) := by
        rw [nI_add]
        exact pk_rem (d := 4) (by omega) (by omega) (by omega)
      refine hJ [201] 100 _ _ _ _ _ (ay (q := bq) (hBA2 _) ⟨hin la (by omega), by decide, ay (q := r.length + 28) (hT _) ⟨nI_in (c := 0) (by omega) (by omega), tl_put ?_⟩⟩)
      refine hJ [206] 100 _ _ _ _ _ (ay (q := r.length + 28) (hT _) ⟨nI_in (c := 1) (by omega) (by omega), tl_put ?_⟩)
      refine hJ [218] 100 _ _ _ _ _ ⟨by decide, ay (q := r.length + 28) (hT _) ⟨nI_in (c := 2) (by omega) (by omega), tl_put ?_⟩⟩
      refine hJ [222] 100 _ _ _ _ _ (ay (q := r.length + 28) (hT _) ⟨nI_in (c := 3) (by omega) (by omega), tl_put ?_⟩)
      refine hJ [] 100 _ _ _ _ _ (ay (q := r.length + 28) (hT _) ⟨nI_in (c := 2) (by omega) (by omega), by decide, ?_⟩)
      have h43 := hb43 la (by omega)
      have g0 : (bf (nI la).toNatClampNeg + 4) / 5 = nI ((bg la - 1) / 5 + 1) := by
        rw [eb la (by omega)]
        refine (congrArg (fun x : Int32 => x / 5) (nI_add (bg la) 4)).trans ((pk_div (d := 5) (by omega) (by omega) (by omega)).trans (congrArg nI ?_))
        omega
      have g1 : nI ((bg la + 4) % 5) = nI ((bg la - 1) % 5) := congrArg nI (by omega)
      have hq := hD h0 h3 z0 (upd (upd (upd (upd (fun _ => 0) 0 ((bf (nI la).toNatClampNeg + 4) / 5)) 1 (nI ((bg la + 4) % 5))) 2 ((nI gd + nI z0) - (nI gd + nI z0) / 4 * 4)) 3 (nI (tcB bg bn))) hz (by rw [← hla]; exact g0) (by rw [← hla]; exact g1) e6 rfl
      have e7 : ((nI gd + nI z0) - (nI gd + nI z0) / 4 * 4 + 1) - ((nI gd + nI z0) - (nI gd + nI z0) / 4 * 4 + 1) / 4 * 4 = nI (((gd + z0) % 4 + 1) % 4) := by
        rw [e6, nI_1]
        exact pk_rem (d := 4) (by omega) (by omega) (by omega)
      unfold wd at hq
      rw [← e7] at hq
      exact hq
    -- the search for the first one
    have hloop : ∀ m q z0, q < m → q ≤ la → q % 2 = la % 2 → z0 ≤ la → z0 % 2 = la % 2 → PD bg la z0 → (∀ j, q < j → j < z0 → j % 2 = la % 2 → ¬ PD bg la j) → J (k + 1) 132 [some (.ref 0), some (.int (nI (PS bg bn))), some (.int (nI la)), some (.int (nI (tcB bg bn))), some (.int (nI ((bg la + 4) % 5))), some (.int (nI z0)), some (.int (nI q))] [] (wd dr gs gd gz bq kq tq ld lq dc st dn h c L sz pl rv tr tu t b n dl ll lb ti pa tk sc hg e19 e20 e21 e22 Rv Iw Ho Go So r) := by
      intro m
      induction m with
      | zero => intro q z0 h; omega
      | succ m ih =>
        intro q z0 hqm hq hq2 hz hz2 hzp hno
        -- one step down
        have hdn : ∀ z1, z1 ≤ la → z1 % 2 = la % 2 → PD bg la z1 → (∀ j, q ≤ j → j < z1 → j % 2 = la % 2 → ¬ PD bg la j) → J (k + 1) 132 [some (.ref 0), some (.int (nI (PS bg bn))), some (.int (nI la)), some (.int (nI (tcB bg bn))), some (.int (nI ((bg la + 4) % 5))), some (.int (nI z1)), some (.int (nI q + (-2)))] [] (wd dr gs gd gz bq kq tq ld lq dc st dn h c L sz pl rv tr tu t b n dl ll lb ti pa tk sc hg e19 e20 e21 e22 Rv Iw Ho Go So r) := by
          intro z1 h1 h2 h4 h5
          by_cases hq3 : 2 ≤ q
          · rw [nI_m2 hq3]
            refine ih (q - 2) z1 (by omega) (by omega) (by omega) h1 h2 h4 (fun j hj1 hj2 hj3 => ?_)
            exact h5 j (by omega) hj2 hj3
          · have hx : nI q + (-2) < 0 := by
              have : q = 0 ∨ q = 1 := by omega
              rcases this with e | e <;> subst e <;> decide
            refine hJ [132, 185] 100 _ _ _ _ _ ⟨fun _ => hfin z1 _ ⟨by omega, by rw [← hla]; exact h2, h4.1, by rw [← hla]; exact h4.2, fun j hj hj2 => ?_⟩, fun q2 => absurd hx q2⟩
            rw [← hla] at hj2 ⊢
            exact h5 j (by omega) hj hj2
        have hno' : ¬ PD bg la q → ∀ j, q ≤ j → j < z0 → j % 2 = la % 2 → ¬ PD bg la j := fun hp j h1 h2 h4 => by
          by_cases e : j = q
          · rw [e]; exact hp
          · exact hno j (by omega) h2 h4
        have hbq := hb43 q (by omega)
        have hbl := hb43 la (by omega)
        have sk : ¬ PD bg la q → J (k + 1) 132 [some (.ref 0), some (.int (nI (PS bg bn))), some (.int (nI la)), some (.int (nI (tcB bg bn))), some (.int (nI ((bg la + 4) % 5))), some (.int (nI z0)), some (.int (nI q + (-2)))] [] (wd dr gs gd gz bq kq tq ld lq dc st dn h c L sz pl rv tr tu t b n dl ll lb ti pa tk sc hg e19 e20 e21 e22 Rv Iw Ho Go So r) := fun hp => hdn z0 hz hz2 hzp (hno' hp)
        refine hJ [132] 100 _ _ _ _ _ ⟨fun q2 => absurd q2 (nI_pos (by omega)), fun _ => ay (q := bq) hBA ⟨hin q hq, blex (a := bg q) (b := 0) (eb q hq) rfl (by omega) (by omega) (fun q2 => sk (fun hp => ?_)) (fun q2 => ay (q := bq) hBA ⟨hin q hq, blex (a := 41) (b := bg q) rfl (eb q hq) (by omega) (by omega) (fun q3 => sk (fun hp => ?_)) (fun q3 => ay (q := bq) hBA ⟨hin q hq, by decide, beqx (a := (bg q + 4) % 5) (b := (bg la + 4) % 5) (e5 q hq) rfl (by omega) (by omega) (fun q4 => ?_) (fun q4 => sk (fun hp => ?_))⟩)⟩)⟩⟩
        · have := isLv_iff.mp hp.1; omega
        · have := isLv_iff.mp hp.1; omega
        · refine hdn q hq hq2 (hd5 q ⟨hq2, isLv_iff.mpr (by omega), q4⟩) (fun j h1 h2 => by omega)
        · have := hp.2
          have := isLv_iff.mp hp.1
          omega
    have h9 := hloop (la + 1) la la (by omega) (by omega) rfl (by omega) rfl ⟨isLv_iff.mpr hlv, rfl⟩ (fun j h1 h2 => by omega)
    rw [← e5 la (by omega)] at h9
    rw [kI_st h0, ← hla]
    exact hJ [132] 100 _ _ _ _ _ (ay (q := bq) hBA ⟨hin la (by omega), by decide, h9⟩)
  have h90 : ∀ o4 o5 o6, J (k + 1) 90 [some (.ref 0), some (.int (nI (PS bg bn))), some (.int (kI (LV bg bn))), some (.int (nI (tcB bg bn))), o4, o5, o6] [] (wd dr gs gd gz bq kq tq ld lq dc st dn h c L sz pl rv tr tu t b n dl ll lb ti pa tk sc hg e19 e20 e21 e22 Rv Iw Ho Go So r) := by
    intro o4 o5 o6
    have h104 : 0 < LV bg bn → J (k + 1) 104 [some (.ref 0), some (.int (nI (PS bg bn))), some (.int (kI (LV bg bn))), some (.int (nI (tcB bg bn))), o4, o5, o6] [] (wd dr gs gd gz bq kq tq ld lq dc st dn h c L sz pl rv tr tu t b n dl ll lb ti pa tk sc hg e19 e20 e21 e22 Rv Iw Ho Go So r) := fun h0 =>
      hJ [104, 114] 100 _ _ _ _ _ (kI_lt0 (by omega) (fun q => absurd q (by omega)) (fun _ => ble (a := 3) (b := PS bg bn) (by omega) (by omega) (fun q => h114 o4 o5 o6 h0 q) (fun q => hC h0 q)))
    refine hJ [90, 104] 100 _ _ _ _ _ (kI_ge0 (by omega) (fun q => h104 q) (fun q => beq (a := PS bg bn) (b := 4) (by omega) (by omega) (fun q2 => ?_) (fun q2 => ?_)))
    · exact hJ [] 100 _ _ _ _ _ (kI_lt0 (by omega) (fun _ => hA q q2) (fun q3 => absurd q3 (by omega)))
    · exact hJ [] 100 _ _ _ _ _ (kI_lt0 (by omega) (fun _ => hB q q2) (fun q3 => absurd q3 (by omega)))
  have hL : ∀ m i o5 o6, i + m = bn → J (k + 1) 9 [some (.ref 0), some (.int (nI (PS bg i))), some (.int (kI (LV bg i))), some (.int (nI (tcB bg i))), some (.int (nI i)), o5, o6] [] (wd dr gs gd gz bq kq tq ld lq dc st dn h c L sz pl rv tr tu t b n dl ll lb ti pa tk sc hg e19 e20 e21 e22 Rv Iw Ho Go So r) := by
    intro m
    induction m with
    | zero =>
      intro i o5 o6 hi
      have : i = bn := by omega
      subst this
      exact hJ [9, 90] 100 _ _ _ _ _ (ay (q := bq) hBA (ble (a := i) (b := i) (by omega) (by omega) (fun _ => h90 _ _ _) (fun q => absurd q (by omega))))
    | succ m ih =>
      intro i o5 o6 hi
      have hv := hb43 i (by omega)
      have e : bf (nI i).toNatClampNeg = nI (bg i) := by rw [i_cl (by omega)]; exact hbf i (by omega)
      have ex : ∀ ps lv tc : Int32, ps = nI (PS bg (i + 1)) → lv = kI (LV bg (i + 1)) → tc = nI (tcB bg (i + 1)) → J (k + 1) 9 [some (.ref 0), some (.int ps), some (.int lv), some (.int tc), some (.int (nI i + 1)), o5, o6] [] (wd dr gs gd gz bq kq tq ld lq dc st dn h c L sz pl rv tr tu t b n dl ll lb ti pa tk sc hg e19 e20 e21 e22 Rv Iw Ho Go So r) := by
        intro ps lv tc h1 h2 h3
        have h4 := ih (i + 1) o5 o6 (by omega)
        rw [← h1, ← h2, ← h3, ← nI_1 i] at h4
        exact h4
      have hin : vp_in (nI i) bn := nI_in (by omega) (by omega)
      have hno : ¬ isLv (bg i) = true → LV bg (i + 1) = LV bg i := fun q => by rw [LV, if_neg q]
      by_cases c0 : bg i = 0
      · refine hJ [9] 100 _ _ _ _ _ (ay (q := bq) hBA (ble (a := bn) (b := i) (by omega) (by omega) (fun q => absurd q (by omega)) (fun _ => ay (q := bq) hBA ⟨hin, beqx (a := bg i) (b := 0) e rfl (by omega) (by omega) (fun _ => ay (q := bq) hBA ⟨hin, blex (a := bg i) (b := 40) e rfl (by omega) (by omega) (fun _ => ay (q := bq) hBA ⟨hin, blx (a := bg i) (b := 1) e rfl (by omega) (by omega) (fun _ => ex _ _ _ ?_ ?_ ?_) (fun q => absurd q (by omega))⟩) (fun q => absurd q (by omega))⟩) (fun q => absurd c0 q)⟩)))
        · rw [PS, if_pos c0]; exact nI_1 _
        · rw [hno (by rw [isLv_iff]; omega)]
        · rw [tcB, if_pos c0]
      · by_cases c1 : bg i ≤ 40
        · refine hJ [9] 100 _ _ _ _ _ (ay (q := bq) hBA (ble (a := bn) (b := i) (by omega) (by omega) (fun q => absurd q (by omega)) (fun _ => ay (q := bq) hBA ⟨hin, beqx (a := bg i) (b := 0) e rfl (by omega) (by omega) (fun q => absurd q c0) (fun _ => ay (q := bq) hBA ⟨hin, blex (a := bg i) (b := 40) e rfl (by omega) (by omega) (fun _ => ay (q := bq) hBA ⟨hin, blx (a := bg i) (b := 1) e rfl (by omega) (by omega) (fun q => absurd q (by omega)) (fun _ => ay (q := bq) hBA ⟨hin, blex (a := bg i) (b := 40) e rfl (by omega) (by omega) (fun _ => ex _ _ _ ?_ ?_ ?_) (fun q => absurd q (by omega))⟩)⟩) (fun q => absurd q (by omega))⟩)⟩)))
          · rw [PS, if_neg c0]; rfl
          · rw [LV, if_pos (isLv_iff.mpr (by omega)), kI_s]
          · rw [tcB, if_neg c0, if_neg (by omega)]; rfl
        · refine hJ [9] 100 _ _ _ _ _ (ay (q := bq) hBA (ble (a := bn) (b := i) (by omega) (by omega) (fun q => absurd q (by omega)) (fun _ => ay (q := bq) hBA ⟨hin, beqx (a := bg i) (b := 0) e rfl (by omega) (by omega) (fun q => absurd q c0) (fun _ => ay (q := bq) hBA ⟨hin, blex (a := bg i) (b := 40) e rfl (by omega) (by omega) (fun q => absurd q (by omega)) (fun _ => ay (q := bq) hBA ⟨hin, blx (a := bg i) (b := 1) e rfl (by omega) (by omega) (fun q => absurd q (by omega)) (fun _ => ay (q := bq) hBA ⟨hin, blex (a := bg i) (b := 40) e rfl (by omega) (by omega) (fun q => absurd q (by omega)) (fun _ => ex _ _ _ ?_ ?_ ?_)⟩)⟩)⟩)⟩)))
          · rw [PS, if_neg c0]; rfl
          · rw [hno (by rw [isLv_iff]; omega)]
          · rw [tcB, if_neg c0, if_pos (by omega)]
            exact pk_mul _ 2
  exact hJ [9] 100 _ _ _ _ _ (hL bn 0 none none (by omega))
end
