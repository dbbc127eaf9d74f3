/-! Deal: play -/
section
variable {l : Launch} {d k : Nat} {Q : am_Q} {dr gs gd gz bq kq tq ld lq : Nat} {dc : Int32} {st : Nat} {dn : Int32} {h : Nat → Int32} {c L : Nat → Nat} {sz pl : Nat} {rv : Int32} {tr tu : Nat} {t : am_T5} {b : Nat → Nat} {n dl ll lb ti pa : Nat} {tk : Nat → Nat} {sc : Nat → Int32} {hg : Nat → Int32} {e19 e20 e21 e22 : am_E} {Rv Iw Ho Go So : Nat → Int32} {r : am_M}
variable {z kp : Nat}
theorem cl_107 (hl : l.stackTraces = false) (hd : 8 ≤ d) {cd cz : Nat} {lf kf : Nat → Int32} {F : Nat → Option Nat} (hI : (INV st h c L sz pl rv tr tu b n dl ll lb ti pa tk z kp)) (h2 : st = 2) (hgs : gs = 2) (hgd : gd < 4) (hgz : gz = sz) (hld : ld = L (pl / 4)) (hla : RA 22 lq e22 r (pl % 4) lf) (hlf : ∀ j, j < pl % 4 → lf j = nI (c (4 * (pl / 4) + j))) (hhg : ∀ p, p < 4 → hg p = h p) (hk : RA 20 kq e20 r 4 kf) (hk1 : kf 1 = nI tr) (hk2 : kf 2 = nI cz) (hcz : cz < 4) (htq : tq = 21) (he21 : e21 = .inl (3, pl / 4, .inr (.inr F))) (hF : FK F (pl / 4) r) (hcd : cd < 32) (hbt : bt (h tu) cd = true)
    (hq1 : (pl + 1) % 4 ≠ 0 → ∀ Rv' Iw' Ho', Q (.inl (some (.int 1))) (wd dr gs gd gz bq kq tq ld (r.length + 28) dc st dn (upd h tu (sDel (h tu) cd)) (uN c pl cd) (pL c L pl tr cd) sz (pl + 1) (pRv h c pl rv tu cd) tr (pTu c L pl tr tu cd) t b n dl ll lb ti pa (pTk c L pl tr cd tk) sc (upd hg tu (sDel (hg tu) cd)) e19 e20 e21 e22 Rv' Iw' Ho' Go So (r ++ [.inl (0, pl % 4 + 1, .inl (plsF lf (pl % 4) (nI cd)))])))
    (hq2 : (pl + 1) % 4 = 0 → (pl + 1) / 4 < sz → ∀ Rv' Iw' Ho' Go' f6, Q (.inl (some (.int 1))) (wd dr gs gd gz bq kq (r.length + 30) (pT c L pl tr cd) (r.length + 31) dc st dn (upd h tu (sDel (h tu) cd)) (uN c pl cd) (pL c L pl tr cd) sz (pl + 1) (pRv h c pl rv tu cd) tr (pTu c L pl tr tu cd) t b n dl ll lb ti pa (pTk c L pl tr cd tk) sc (upd hg tu (sDel (hg tu) cd)) e19 e20 e21 e22 Rv' Iw' Ho' Go' So ((((r ++ [.inl (0, pl % 4 + 1, .inl (plsF lf (pl % 4) (nI cd)))]) ++ [.inl (0, 6, .inl f6)]) ++ [.inl (3, pl / 4 + 1, .inr (.inr (FF F (pl / 4) (r.length + 29))))]) ++ [eZ0])))
    (hq3 : (pl + 1) % 4 = 0 → (pl + 1) / 4 = sz → ∀ Rv' Iw' Ho' Go' So' f6, Q (.inl (some (.int 1))) (wd dr 3 gd gz bq kq (r.length + 30) (pT c L pl tr cd) (r.length + 31) (dc + 1) 3 (dn + 1) (upd h tu (sDel (h tu) cd)) (uN c pl cd) (pL c L pl tr cd) sz (pl + 1) (pRv h c pl rv tu cd) tr (pTu c L pl tr tu cd) t b n dl ll lb ti pa (payN (pRv h c pl rv tu cd) (pL c L pl tr cd) (pl + 1) (pTk c L pl tr cd tk) 4) (scN sc ((dl + z) % 4 % 2) ti ((ll - 1) / 5 + 1) ((ll - 1) % 5) (payN (pRv h c pl rv tu cd) (pL c L pl tr cd) (pl + 1) (pTk c L pl tr cd tk) 4 ((dl + z) % 4 % 2))) (upd hg tu (sDel (hg tu) cd)) e19 e20 e21 e22 Rv' Iw' Ho' Go' So' ((((r ++ [.inl (0, pl % 4 + 1, .inl (plsF lf (pl % 4) (nI cd)))]) ++ [.inl (0, 6, .inl f6)]) ++ [.inl (3, pl / 4 + 1, .inr (.inr (FF F (pl / 4) (r.length + 29))))]) ++ [eZ0]))) : am_Call l d 107 (k + 4) [.ref 0, .int (nI cd)] (wd dr gs gd gz bq kq tq ld lq dc st dn h c L sz pl rv tr tu t b n dl ll lb ti pa tk sc hg e19 e20 e21 e22 Rv Iw Ho Go So r) Q := by
  have hn := INV_n hI
  have hb4 := AI_b hI.1.2.2
  have hI' := hI
  obtain ⟨⟨h1, h2', h3⟩, i0, i1, i2, i3, ⟨j1, j2, j3, j4, j5⟩, j6, j7, j8, j9, j10⟩ := hI'
  obtain ⟨p1, p2, p3, p4, p5, p6, p7, p8, p9, p10⟩ := inv_pc hI h2 hcd hbt
  have hL4 : L (pl / 4) < 4 := p3
  obtain ⟨lc, hlc⟩ : ∃ lc : Nat → Nat, lc = fun j => c (4 * (pl / 4) + j) := ⟨_, rfl⟩
  have hlf' : ∀ j, j < pl % 4 → lf j = nI (lc j) := fun j hj => by rw [hlc]; exact hlf j hj
  have hlc32 : ∀ j, j < pl % 4 → lc j < 32 := fun j hj => by rw [hlc]; exact j6 _ (by omega)
  have hm4 := dm_lt pl
  have hwho : (ld + pl % 4) % 4 = tu := by rw [hld, p2]; rfl
  have hbtg : bt (hg tu) cd = true := by rw [hhg tu j5]; exact hbt
  have inL : vp_in (nI (pl % 4)) 4 := nI_in hm4 (by omega)
  have inT : vp_in (nI tu) 4 := nI_in j5 (by omega)
  subst hgs
  refine op_107 hl (by omega) (Nat.le_of_ble_eq_true rfl) (fun J hJ => hJ [5] 100 _ _ _ _ _ ⟨0, Nat.zero_le _, cl_100 (bn := 0) (ln := pl % 4) (bf := fun _ => 0) (lf := lf) hl (by omega) (by omega) hgd (by omega) (fun q => absurd q (by decide)) (by omega) (fun _ => LA_at hla) (by omega) ?_⟩)
  have et : turnV 2 ((ld + pl % 4) % 4) gd 0 = nI tu := by rw [hwho]; rfl
  rw [et]
  -- behind the card
  have h73 : ∀ Rx Ix Hx, J (k + 4) 73 [some (.ref 0), some (.int (nI cd)), some (.int (nI tu))] [] (wd dr 2 gd gz bq kq tq ld lq dc st dn h c L sz pl rv tr tu t b n dl ll lb ti pa tk sc (upd hg tu (sDel (hg tu) cd)) e19 e20 e21 e22 Rx Ix Hx Go So r) := by
    intro Rx Ix Hx
    refine hJ [82] 100 _ _ _ _ _ ⟨1, Nat.le_add_left 1 _, cl_94 (k := 0) hl (by omega) (LA_at hla) (by omega) ?_⟩
    show J (k + 3) 82 [some (.ref 0), some (.int (nI cd)), some (.int (nI tu))] [.ref (r.length + 28), .ref 0] (wd dr 2 gd gz bq kq tq ld lq dc st dn h c L sz pl rv tr tu t b n dl ll lb ti pa tk sc (upd hg tu (sDel (hg tu) cd)) e19 e20 e21 e22 Rx Ix Hx Go So (r ++ [.inl (0, pl % 4 + 1, .inl (plsF lf (pl % 4) (nI cd)))]))
    by_cases h4 : (pl + 1) % 4 = 0
    · have hl3 : pl % 4 = 3 := by omega
      have hlf4 : ∀ j, j < 4 → plsF lf (pl % 4) (nI cd) j = nI (uN lc (pl % 4) cd j) := by
        intro j hj
        unfold plsF uN
        by_cases e : j = pl % 4
        · rw [if_pos e, if_pos e]
        · rw [if_neg e, if_neg e, if_pos (by omega), hlf' j (by omega)]
      have hlc4 : ∀ j, j < 4 → uN lc (pl % 4) cd j < 32 := by
        intro j hj
        unfold uN
        split
        · exact hcd
        · exact hlc32 j (by omega)
      have hRow : ∀ i, i < 4 → uN lc (pl % 4) cd i = rowOf (uN c pl cd) (pl / 4) i := by
        intro i hi
        show (if i = pl % 4 then cd else lc i) = (if 4 * (pl / 4) + i = pl then cd else c (4 * (pl / 4) + i))
        by_cases e : i = pl % 4
        · rw [if_pos e, if_pos (by omega)]
        · rw [if_neg e, if_neg (by omega), hlc]
      have hby : (ld + BI (uN lc (pl % 4) cd) tr 4) % 4 = pT c L pl tr cd := by
        rw [BI_cong hRow, hld]; rfl
      have hLAn : ∀ u, RA 22 (r.length + 28) e22 (r ++ [.inl (0, pl % 4 + 1, .inl u)]) 4 u := fun u => by
        rw [hl3]
        exact RA_new
      have hpT4 : pT c L pl tr cd < 4 := dm_lt _
      have eTu : pTu c L pl tr tu cd = pT c L pl tr cd := if_pos h4
      refine hJ [98] 100 _ _ _ _ _ (ay (q := r.length + 28) tl_at (beq (a := pl % 4 + 1) (b := 4) (by omega) (by omega) (fun _ => ⟨3, Nat.le_add_left 3 _, cl_108 (k := 0) (tm := tr) (cz := cz) (lc := uN lc (pl % 4) cd) hl (by omega) (by omega) (hLAn _) hlf4 hlc4 (RA_app hk) hk1 j4 hk2 hcz htq he21 (FK_app hF) (by omega) (by omega) (fun q f6 Gx => ?_) (fun q f6 Gx Sx => ?_)⟩) (fun q => absurd (by omega) q)))
      · rw [hby, List.length_append]
        have hs : (pl + 1) / 4 < sz := by omega
        refine hJ [106] 100 _ _ _ _ _ ⟨0, Nat.zero_le _, dl_51 hl (by omega) h2 j5 hcd hbt p1 j4 j6 hL4 hs p5 (by omega) h2' hn ?_⟩
        refine hJ [] 100 _ _ _ _ _ ⟨0, Nat.zero_le _, cl_100 (bn := 0) (ln := 0) (bf := fun _ => 0) (lf := fun _ => 0) hl (by omega) (by omega) hgd hpT4 (fun q => absurd q (by decide)) (by omega) (fun _ => LA_at ?_) (by omega) ⟨fun _ => ⟨by decide, hq2 h4 hs _ _ _ _ _⟩, fun q => absurd ?_ q⟩⟩
        · exact Or.inr ⟨r.length + 3, rfl, by simp⟩
        · show nI (pTu c L pl tr tu cd) = nI ((pT c L pl tr cd + 0) % 4)
          rw [eTu]
          congr 1
          omega
      · rw [hby, List.length_append]
        have hs : (pl + 1) / 4 = sz := by omega
        have hstl := (INV_stl hI).mpr (Or.inl h2)
        refine hJ [106] 100 _ _ _ _ _ ⟨0, Nat.zero_le _, dl_51f (z := z) (m := (pl + 1) / 4) hl (by omega) h2 j5 hcd hbt p1 j4 j6 hL4 hs p5 (by omega) (fun i hi => pL_lt j7 _ (by omega)) (pTk_sum j9) (by omega) (stl_iff.mp hstl).1 hb4.1 hb4.2.2.2.1 hb4.2.2.1 hb4.2.1 h2' hn h3.1 (j10 hstl) ?_⟩
        exact hJ [] 100 _ _ _ _ _ ⟨0, Nat.zero_le _, cl_100 (bn := 0) (ln := 0) (bf := fun _ => 0) (lf := fun _ => 0) hl (by omega) (by omega) hgd hpT4 (fun q => absurd q (by decide)) (by omega) (fun q => absurd q (by decide)) (by omega) ⟨fun _ => ⟨by decide, hq3 h4 hs _ _ _ _ _ _⟩, fun q => absurd rfl q⟩⟩
    · have hs : (pl + 1) / 4 < sz := by omega
      have eTu : pTu c L pl tr tu cd = (ld + (pl % 4 + 1)) % 4 := by unfold pTu; rw [if_neg h4]; omega
      refine hJ [106] 100 _ _ _ _ _ (ay (q := r.length + 28) tl_at (beq (a := pl % 4 + 1) (b := 4) (by omega) (by omega) (fun q => absurd q (by omega)) (fun _ => ⟨0, Nat.zero_le _, dl_51 hl (by omega) h2 j5 hcd hbt p1 j4 j6 hL4 hs p5 (by omega) h2' hn ?_⟩)))
      refine hJ [] 100 _ _ _ _ _ ⟨0, Nat.zero_le _, cl_100 (bn := 0) (ln := pl % 4 + 1) (bf := fun _ => 0) (lf := plsF lf (pl % 4) (nI cd)) hl (by omega) (by omega) hgd (by omega) (fun q => absurd q (by decide)) (by omega) (fun _ => LA_at RA_new) (by omega) ⟨fun _ => ⟨by decide, hq1 h4 _ _ _⟩, fun q => absurd ?_ q⟩⟩
      rw [eTu]
      rfl
  have h29 : ∀ Ix, J (k + 4) 29 [some (.ref 0), some (.int (nI cd)), some (.int (nI tu))] [] (wd dr 2 gd gz bq kq tq ld lq dc st dn h c L sz pl rv tr tu t b n dl ll lb ti pa tk sc hg e19 e20 e21 e22 Rv Ix Ho Go So r) := by
    intro Ix
    refine hJ [73] 100 _ _ _ _ _ (ay (q := lq) (LA_at hla) ⟨inT, inL, inT, ay (q := lq) (LA_at hla) ⟨inL, inT, inT, 14 + 1 + tu, rows_at j5, ay (q := 14 + 1 + tu) (has_at j5) ⟨nI_in hcd (by omega), has_put j5 (zb_del hcd) (h73 _ _ _)⟩⟩⟩)
  refine hJ [20] 100 _ _ _ _ _ (ay (q := lq) (LA_at hla) ⟨0, Nat.zero_le _, cl_104 (lc := lc) hl (by omega) j5 hcd hla hlf' hlc32 (by omega) ?_⟩)
  exact hJ [29] 100 _ _ _ _ _ ⟨fun _ => ⟨inL, h29 _⟩, fun _ => ⟨inL, h29 _⟩⟩
end
