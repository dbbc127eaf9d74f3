/-! Deal: any, end -/
theorem rsS_ne {h : Nat → Int32} {row : Nat → Nat} {m p : Nat} (hz : h p ≠ 0) : rsS h row m p ≠ 0 := by
  unfold rsS
  split
  · exact hz
  · split
    · exact hz
    · rename_i q
      exact q
theorem rsS_in {h : Nat → Int32} {row : Nat → Nat} {m p cd : Nat} (hb : bt (rsS h row m p) cd = true) : bt (h p) cd = true := by
  unfold rsS at hb
  split at hb
  · exact hb
  · split at hb
    · exact hb
    · rw [b_and] at hb
      exact (Bool.and_eq_true_iff.mp hb).1
theorem nI_dec {a : Nat} (h : 0 < a) : nI a + (-1) = nI (a - 1) := by
  have e : nI a + (-1) = nI a - 1 := (Int32.sub_eq_add_neg ..).symm
  rw [e]
  exact pk_sub1 h
section
variable {l : Launch} {d k : Nat} {Q : am_Q} {dr gs gd gz bq kq tq ld lq : Nat} {dc : Int32} {st : Nat} {dn : Int32} {h : Nat → Int32} {c L : Nat → Nat} {sz pl : Nat} {rv : Int32} {tr tu : Nat} {t : am_T5} {b : Nat → Nat} {n dl ll lb ti pa : Nat} {tk : Nat → Nat} {sc : Nat → Int32} {hg : Nat → Int32} {e19 e20 e21 e22 : am_E} {Rv Iw Ho Go So : Nat → Int32} {r : am_M}
theorem cl_106 (hl : l.stackTraces = false) (hd : 3 ≤ d) {x : Int32} {p ln : Nat} {lc : Nat → Nat} {lf : Nat → Int32} (hgs : gs = 2) (hgd : gd < 4) (hld : ld < 4) (hpp : p = (ld + ln) % 4) (hla : RA 22 lq e22 r ln lf) (hlf : ∀ j, j < ln → lf j = nI (lc j)) (hlc : ∀ j, j < ln → lc j < 32) (hln : ln ≤ 4) (hdr : dr < 2 ^ 30) (hne : hg p ≠ 0) (hq : ∀ cd, cd < 32 → bt (hg p) cd = true → Q (.inl (some (.int (nI cd)))) (wd (dr + 1) gs gd gz bq kq tq ld lq dc st dn h c L sz pl rv tr tu t b n dl ll lb ti pa tk sc hg e19 e20 e21 e22 Rv Iw Ho Go So r)) : am_Call l d 106 k [.ref 0, .int x] (wd dr gs gd gz bq kq tq ld lq dc st dn h c L sz pl rv tr tu t b n dl ll lb ti pa tk sc hg e19 e20 e21 e22 Rv Iw Ho Go So r) Q := by
  subst hgs
  have hp : p < 4 := by rw [hpp]; exact dm_lt _
  obtain ⟨S, hS⟩ : ∃ S, S = if x = 0 then hg p else rsS hg lc ln p := ⟨_, rfl⟩
  have hSne : S ≠ 0 := by
    rw [hS]
    split
    · exact hne
    · exact rsS_ne hne
  have hSin : ∀ cd, bt S cd = true → bt (hg p) cd = true := by
    intro cd hb
    rw [hS] at hb
    split at hb
    · exact hb
    · exact rsS_in hb
  have hpos : 0 < pc S := Nat.pos_of_ne_zero (fun q => hSne (pc_zero.mp q))
  have hpl := pc_le S
  refine op_106 hl (by omega) (Nat.le_of_ble_eq_true rfl) (fun J hJ => hJ [4] 100 _ _ _ _ _ ⟨0, Nat.zero_le _, cl_100 (bn := 0) (ln := ln) (bf := fun _ => 0) (lf := lf) hl (by omega) (by omega) hgd hld (fun q => absurd q (by decide)) (by omega) (fun _ => LA_at hla) (by omega) ?_⟩)
  have et : turnV 2 ((ld + ln) % 4) gd 0 = nI p := by rw [hpp]; rfl
  rw [et]
  -- the second loop, behind the draw
  have h75 : ∀ j, j < pc S → ∀ m i, i + m = 32 → fb_ct (bt S) i ≤ j → J k 75 [some (.ref 0), some (.int x), some (.int (nI p)), some (.int (nI (pc S))), some (.int (nI (j - fb_ct (bt S) i))), some (.int (nI i))] [] (wd (dr + 1) 2 gd gz bq kq tq ld lq dc st dn h c L sz pl rv tr tu t b n dl ll lb ti pa tk sc hg e19 e20 e21 e22 Rv Iw Ho Go So r) := by
    intro j hj m
    induction m with
    | zero =>
      intro i hi hct
      have : i = 32 := by omega
      subst this
      have : fb_ct (bt S) 32 ≤ j := hct
      have : pc S ≤ j := this
      omega
    | succ m ih =>
      intro i hi hct
      have hi31 : i < 2 ^ 31 := by omega
      have hno : bt S i = false → J k 122 [some (.ref 0), some (.int x), some (.int (nI p)), some (.int (nI (pc S))), some (.int (nI (j - fb_ct (bt S) i))), some (.int (nI i))] [] (wd (dr + 1) 2 gd gz bq kq tq ld lq dc st dn h c L sz pl rv tr tu t b n dl ll lb ti pa tk sc hg e19 e20 e21 e22 Rv Iw Ho Go So r) := by
        intro hb
        have e : fb_ct (bt S) (i + 1) = fb_ct (bt S) i := by rw [fb_ct_succ, hb]; rfl
        have h2 := ih (i + 1) (by omega) (by omega)
        rw [e, ← nI_1 i] at h2
        exact hJ [75] 100 _ _ _ _ _ h2
      have hyes : bt S i = true → J k 111 [some (.ref 0), some (.int x), some (.int (nI p)), some (.int (nI (pc S))), some (.int (nI (j - fb_ct (bt S) i))), some (.int (nI i))] [] (wd (dr + 1) 2 gd gz bq kq tq ld lq dc st dn h c L sz pl rv tr tu t b n dl ll lb ti pa tk sc hg e19 e20 e21 e22 Rv Iw Ho Go So r) := by
        intro hb
        have e : fb_ct (bt S) (i + 1) = fb_ct (bt S) i + 1 := by rw [fb_ct_succ, hb]; rfl
        refine hJ [75] 100 _ _ _ _ _ (beq (a := j - fb_ct (bt S) i) (b := 0) (by omega) (by omega) (fun _ => hq i (by omega) (hSin i hb)) (fun q => ?_))
        have h2 := ih (i + 1) (by omega) (by omega)
        rw [e, show j - (fb_ct (bt S) i + 1) = j - fb_ct (bt S) i - 1 by omega, ← nI_dec (by omega), ← nI_1 i] at h2
        exact h2
      refine hJ [111, 122] 100 _ _ _ _ _ (ble (a := 32) (b := i) (by omega) (by omega) (fun q => absurd q (by omega)) (fun _ => ⟨fun q => ?_, fun q => ?_⟩))
      · have hS' : S = hg p := by rw [hS, if_pos q]
        rw [hS'] at hno hyes
        rw [← hS'] at hno hyes
        exact ⟨nI_in hp (by omega), 14 + 1 + p, rows_at hp, ay (q := 14 + 1 + p) (has_at hp) ⟨nI_in (by omega) (by omega), bzx (b := bt S i) ((zb_at hi31).trans (by rw [hS'])) hno hyes⟩⟩
      · have hS' : S = rsS hg lc ln p := by rw [hS, if_neg q]
        refine ⟨0, Nat.zero_le _, cl_104 hl (by omega) hp (by omega) hla hlf hlc hln ?_⟩
        rw [← hS']
        exact bz hno hyes
  -- the first loop
  have h10 : ∀ m i o, i + m = 32 → J k 10 [some (.ref 0), some (.int x), some (.int (nI p)), some (.int (nI (fb_ct (bt S) i))), some (.int (nI i)), o] [] (wd dr 2 gd gz bq kq tq ld lq dc st dn h c L sz pl rv tr tu t b n dl ll lb ti pa tk sc hg e19 e20 e21 e22 Rv Iw Ho Go So r) := by
    intro m
    induction m with
    | zero =>
      intro i o hi
      have : i = 32 := by omega
      subst this
      refine hJ [70] 100 _ _ _ _ _ ⟨fun _ => ⟨0, Nat.zero_le _, cl_93 hl (by omega) (m := pc S) (by omega) hpos (by omega) (fun j hj => ?_)⟩, fun q => absurd (by decide) q⟩
      exact hJ [75] 100 _ _ _ _ _ (h75 j hj 32 0 rfl (Nat.zero_le _))
    | succ m ih =>
      intro i o hi
      have h57 : ∀ v, v = bI (bt S i) → J k 57 [some (.ref 0), some (.int x), some (.int (nI p)), some (.int (nI (fb_ct (bt S) i))), some (.int (nI i)), o] [.int v, .int (nI (fb_ct (bt S) i))] (wd dr 2 gd gz bq kq tq ld lq dc st dn h c L sz pl rv tr tu t b n dl ll lb ti pa tk sc hg e19 e20 e21 e22 Rv Iw Ho Go So r) := by
        intro v hv
        have e : nI (fb_ct (bt S) i) + v = nI (fb_ct (bt S) (i + 1)) := by
          rw [hv, fb_ct_succ]
          cases bt S i
          · exact nI_add _ 0
          · exact nI_add _ 1
        have h2 := ih (i + 1) o (by omega)
        rw [← e, ← nI_1 i] at h2
        exact hJ [10] 100 _ _ _ _ _ h2
      have f0 : bt S i = false → J k 57 [some (.ref 0), some (.int x), some (.int (nI p)), some (.int (nI (fb_ct (bt S) i))), some (.int (nI i)), o] [.int 0, .int (nI (fb_ct (bt S) i))] (wd dr 2 gd gz bq kq tq ld lq dc st dn h c L sz pl rv tr tu t b n dl ll lb ti pa tk sc hg e19 e20 e21 e22 Rv Iw Ho Go So r) := fun hb => h57 0 (by rw [hb]; rfl)
      have f1 : bt S i = true → J k 57 [some (.ref 0), some (.int x), some (.int (nI p)), some (.int (nI (fb_ct (bt S) i))), some (.int (nI i)), o] [.int 1, .int (nI (fb_ct (bt S) i))] (wd dr 2 gd gz bq kq tq ld lq dc st dn h c L sz pl rv tr tu t b n dl ll lb ti pa tk sc hg e19 e20 e21 e22 Rv Iw Ho Go So r) := fun hb => h57 1 (by rw [hb]; rfl)
      refine hJ [57] 100 _ _ _ _ _ (ble (a := 32) (b := i) (by omega) (by omega) (fun q => absurd q (by omega)) (fun _ => ⟨fun q => ?_, fun q => ?_⟩))
      · have hS' : S = hg p := by rw [hS, if_pos q]
        exact ⟨nI_in hp (by omega), 14 + 1 + p, rows_at hp, ay (q := 14 + 1 + p) (has_at hp) ⟨nI_in (by omega) (by omega), bzx (b := bt S i) ((zb_at (by omega)).trans (by rw [hS'])) f0 f1⟩⟩
      · have hS' : S = rsS hg lc ln p := by rw [hS, if_neg q]
        refine ⟨0, Nat.zero_le _, cl_104 hl (by omega) hp (by omega) hla hlf hlc hln ?_⟩
        rw [← hS']
        exact bz f0 f1
  exact hJ [10] 100 _ _ _ _ _ (h10 32 0 none rfl)
end
