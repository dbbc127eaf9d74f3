/-! Deal: back -/
section
variable {l : Launch} {d k : Nat} {Q : am_Q} {dr gs gd gz bq kq tq ld lq : Nat} {dc : Int32} {st : Nat} {dn : Int32} {h : Nat → Int32} {c L : Nat → Nat} {sz pl : Nat} {rv : Int32} {tr tu : Nat} {t : am_T5} {b : Nat → Nat} {n dl ll lb ti pa : Nat} {tk : Nat → Nat} {sc : Nat → Int32} {hg : Nat → Int32} {e19 e20 e21 e22 : am_E} {Rv Iw Ho Go So : Nat → Int32} {r : am_M}
variable {z kp : Nat}
theorem cl_110z (hl : l.stackTraces = false) (hd : 6 ≤ d) {lf : Nat → Int32} (hla : RA 22 lq e22 r 0 lf) (hq : Q (.inl (some (.int 1))) (wd dr gs gd gz bq kq tq ld lq dc st dn h c L sz pl rv tr tu t b n dl ll lb ti pa tk sc hg e19 e20 e21 e22 Rv Iw Ho Go So r)) : am_Call l d 110 k [.ref 0] (wd dr gs gd gz bq kq tq ld lq dc st dn h c L sz pl rv tr tu t b n dl ll lb ti pa tk sc hg e19 e20 e21 e22 Rv Iw Ho Go So r) Q :=
  op_110 hl (by omega) (Nat.le_of_ble_eq_true rfl) (fun J hJ => hJ [] 100 _ _ _ _ _ (ay (q := lq) (LA_at hla) ⟨fun _ => ⟨by decide, hq⟩, fun q => absurd rfl q⟩))
theorem cl_110 (hl : l.stackTraces = false) (hd : 6 ≤ d) {lf : Nat → Int32} (hI : (INV st h c L sz pl rv tr tu b n dl ll lb ti pa tk z kp)) (h2 : st = 2) (hgs : gs = 2) (hgd : gd < 4) (hld : ld = L (pl / 4)) (hla : RA 22 lq e22 r (pl % 4) lf) (hlf : ∀ j, j < pl % 4 → lf j = nI (c (4 * (pl / 4) + j))) (hm : pl % 4 ≠ 0)
    (hq : ∀ Rv', Q (.inl (some (.int 1))) (wd dr gs gd gz bq kq tq ld (r.length + 28) dc st dn (upd h (who L (pl - 1)) (sAdd (h (who L (pl - 1))) (c (pl - 1)))) c L sz (pl - 1) (sDel rv (pl - 1)) tr (who L (pl - 1)) t b n dl ll lb ti pa tk sc (upd hg (who L (pl - 1)) (sAdd (hg (who L (pl - 1))) (c (pl - 1)))) e19 e20 e21 e22 Rv' Iw Ho Go So (r ++ [.inl (0, pl % 4 - 1, .inl lf)]))) : am_Call l d 110 (k + 1) [.ref 0] (wd dr gs gd gz bq kq tq ld lq dc st dn h c L sz pl rv tr tu t b n dl ll lb ti pa tk sc hg e19 e20 e21 e22 Rv Iw Ho Go So r) Q := by
  have hI' := hI
  obtain ⟨⟨h1, h2', h3⟩, i0, i1, i2, i3, ⟨j1, j2, j3, j4, j5⟩, j6, j7, j8, j9, j10⟩ := hI'
  have hm4 := dm_lt pl
  have hL4 : L (pl / 4) < 4 := j7 _ (Nat.le_refl _)
  have hwl := who_lo (L := L) hm
  obtain ⟨m, hm'⟩ : ∃ m, pl % 4 = m + 1 := ⟨pl % 4 - 1, by omega⟩
  have hm1 : m < 4 := by omega
  have hcd : lf (nI (m + 1) - 1).toNatClampNeg = nI (c (pl - 1)) := by
    rw [pk_sub1 (by omega), i_cl (by omega), hlf _ (by omega)]
    congr 2
    omega
  have hc32 : c (pl - 1) < 32 := j6 _ (by omega)
  have hw4 : who L (pl - 1) < 4 := dm_lt _
  have htn : (ld + m) % 4 = who L (pl - 1) := by rw [hwl, hld, hm']; rfl
  have e1 : nI (m + 1) - 1 = nI m := pk_sub1 (by omega)
  rw [hm'] at hla hq
  have em : m + 1 - 1 = m := by omega
  rw [em] at hq
  subst hgs
  refine op_110 hl (by omega) (Nat.le_of_ble_eq_true rfl) (fun J hJ => hJ [32] 100 _ _ _ _ _ (ay (q := lq) (LA_at hla) ⟨fun q => absurd ((nI_eq (a := m + 1) (b := 0) (by omega) (by omega)).mp q) (by omega), fun _ => ay (q := lq) (LA_at hla) (ay (q := lq) (LA_at hla) ⟨vin e1 (by omega) (by omega), ay (q := lq) (LA_at hla) ⟨m, e1, by omega, az ?_⟩⟩)⟩))
  show J k 32 [some (.ref 0), some (.int (lf (nI (m + 1) - 1).toNatClampNeg)), none, none] [.ref (r.length + 28)] (wd dr 2 gd gz bq kq tq ld lq dc st dn h c L sz pl rv tr tu t b n dl ll lb ti pa tk sc hg e19 e20 e21 e22 Rv Iw Ho Go So (r ++ [.inl (0, m, .inl (fun _ => 0))]))
  rw [hcd]
  refine hJ [54] 100 _ _ _ _ _ (ay (q := r.length + 28) tl_at (ay (q := lq) (LA_at (RA_app hla)) (ay (q := r.length + 28) tl_at ⟨⟨by decide, by decide, nI_pos (by omega), ?_, ?_⟩, lf, fun j hj => ?_, tl_put ⟨0, Nat.zero_le _, cl_100 (lq := r.length + 28) (bn := 0) (ln := m) (bf := fun _ => 0) (lf := lf) hl (by omega) (by omega) hgd (by omega) (fun q => absurd q (by decide)) (by omega) (fun _ => LA_at RA_new) (by omega) ?_⟩⟩)))
  · rw [i_cl (by omega)]
    show 0 + m ≤ m + 1
    omega
  · rw [i_cl (by omega)]
    show 0 + m ≤ m
    omega
  · rw [i_cl (by omega)]
    exact cpy_all hj
  · have et : turnV 2 ((ld + m) % 4) gd 0 = nI (who L (pl - 1)) := by rw [htn]; rfl
    rw [et]
    refine hJ [] 100 _ _ _ _ _ ⟨nI_in hw4 (by omega), 14 + 1 + who L (pl - 1), rows_at hw4, ay (q := 14 + 1 + who L (pl - 1)) (has_at hw4) ⟨nI_in hc32 (by omega), has_put hw4 (zb_add hc32) (ay (q := r.length + 28) (tl_at (hg := upd hg (who L (pl - 1)) (sAdd (hg (who L (pl - 1))) (c (pl - 1))))) ⟨nI_in (by omega) (by omega), nI_in hw4 (by omega), 0, Nat.zero_le _, dl_52 hl (by omega) h2 hm j3 (j7 _ (by omega)) ⟨fun _ => ⟨by decide, hq _⟩, fun q => absurd rfl q⟩⟩)⟩⟩
end
