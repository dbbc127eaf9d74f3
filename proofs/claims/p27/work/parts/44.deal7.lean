/-! Deal: bid -/
section
variable {l : Launch} {d k : Nat} {Q : am_Q} {dr gs gd gz bq kq tq ld lq : Nat} {dc : Int32} {st : Nat} {dn : Int32} {h : Nat → Int32} {c L : Nat → Nat} {sz pl : Nat} {rv : Int32} {tr tu : Nat} {t : am_T5} {b : Nat → Nat} {n dl ll lb ti pa : Nat} {tk : Nat → Nat} {sc : Nat → Int32} {hg : Nat → Int32} {e19 e20 e21 e22 : am_E} {Rv Iw Ho Go So : Nat → Int32} {r : am_M}
variable {z kp : Nat}
theorem cl_101 (hl : l.stackTraces = false) (hd : 7 ≤ d) {bd : Nat} {bf lf : Nat → Int32} (hI : (INV st h c L sz pl rv tr tu b n dl ll lb ti pa tk z kp)) (h1 : st = 1) (hgs : gs = 1) (hgd : gd = dl) (hld : ld < 4) (hT : tiB b n = tfB ti) (hb : RA 19 bq e19 r n bf) (hbf : ∀ j, j < n → bf j = nI (b j)) (hla : RA 22 lq e22 r 0 lf) (hbd : bd < 43)
    (hN : alw n dl ll lb ti bd = false → Q (.inl (some (.int 1))) (wd dr gs gd gz bq kq tq ld lq dc st dn h c L sz pl rv tr tu t b n dl ll lb ti pa tk sc hg e19 e20 e21 e22 Rv Iw Ho Go So r))
    (hA : alw n dl ll lb ti bd = true → (decide (nLl ll bd = 0) && decide (4 ≤ nPa pa bd)) = true → Q (.inl (some (.int 1))) (wd dr 3 gd gz (r.length + 28) kq tq ld lq dc 3 dn h c L sz pl rv tr tu t (uN b n bd) (n + 1) dl (nLl ll bd) (nLb dl n lb bd) (nTi ti bd) (nPa pa bd) tk sc hg e19 e20 e21 e22 Rv Iw Ho Go So (r ++ [.inl (0, n + 1, .inl (plsF bf n (nI bd)))])))
    (hB : alw n dl ll lb ti bd = true → stl (nLl ll bd) (nPa pa bd) = true → ∀ z' f20, isZ (uN b n bd) (n + 1) dl (nLl ll bd) (nLb dl n lb bd) z' → f20 0 = nI ((nLl ll bd - 1) / 5 + 1) → f20 1 = nI ((nLl ll bd - 1) % 5) → f20 2 = nI ((dl + z') % 4) → Q (.inl (some (.int 1))) (wd dr 2 gd gz (r.length + 28) (r.length + 29) tq (((dl + z') % 4 + 1) % 4) lq dc 2 dn h c (uN L 0 (((dl + z') % 4 + 1) % 4)) sz pl rv ((nLl ll bd - 1) % 5) (((dl + z') % 4 + 1) % 4) t (uN b n bd) (n + 1) dl (nLl ll bd) (nLb dl n lb bd) (nTi ti bd) (nPa pa bd) tk sc hg e19 e20 e21 e22 Rv Iw Ho Go So ((r ++ [.inl (0, n + 1, .inl (plsF bf n (nI bd)))]) ++ [.inl (0, 4, .inl f20)])))
    (hC : alw n dl ll lb ti bd = true → (decide (nLl ll bd = 0) && decide (4 ≤ nPa pa bd)) = false → stl (nLl ll bd) (nPa pa bd) = false → Q (.inl (some (.int 1))) (wd dr gs gd gz (r.length + 28) kq tq ld lq dc st dn h c L sz pl rv tr tu t (uN b n bd) (n + 1) dl (nLl ll bd) (nLb dl n lb bd) (nTi ti bd) (nPa pa bd) tk sc hg e19 e20 e21 e22 Rv Iw Ho Go So (r ++ [.inl (0, n + 1, .inl (plsF bf n (nI bd)))]))) : am_Call l d 101 (k + 2) [.ref 0, .int (nI bd)] (wd dr gs gd gz bq kq tq ld lq dc st dn h c L sz pl rv tr tu t b n dl ll lb ti pa tk sc hg e19 e20 e21 e22 Rv Iw Ho Go So r) Q := by
  have hn := INV_n hI
  have hI' := hI
  obtain ⟨⟨i1, i2, hAI⟩, _, _, _, _, _⟩ := hI'
  have hAb := AI_b hAI
  have hb43 := hAI.1
  subst h1
  subst hgs
  subst hgd
  refine op_101 hl (by omega) (Nat.le_of_ble_eq_true rfl) (fun J hJ => hJ [5] 100 _ _ _ _ _ ⟨0, Nat.zero_le _, cl_99 (bg := b) hl (by omega) rfl hb hbf hb43 (by omega) hbd ?_⟩)
  rw [alwD_eq hAI hT hbd]
  cases ha : alw n gd ll lb ti bd with
  | false => exact hJ [] 100 _ _ _ _ _ ⟨1, by omega, dl_47b (k := 1) hl (by omega) (Nat.le_refl _) (by omega) hbd i2 (by omega) hAb.1 hAb.2.1 hAb.2.2.2.1 (by rw [ha]; rfl) ⟨fun _ => ⟨by decide, hN ha⟩, fun q => absurd rfl q⟩⟩
  | true =>
    obtain ⟨k1, k2, k3, k4⟩ := inv_bid hI rfl hbd ha
    obtain ⟨eA, eB⟩ := bid_end k1 k2 k3
    have hAb1 := AI_b k1
    have hll1 := AI_ll k1
    have hPA := PS_all (uN b n bd) (n + 1)
    have hPL := PS_le (uN b n bd) (n + 1)
    have ePa : nPa pa bd = PS (uN b n bd) (n + 1) := k1.2.2.2.2.1
    have hLV0 : LV (uN b n bd) (n + 1) = 0 → PS (uN b n bd) (n + 1) = n + 1 := fun q => (k1.2.2.2.2.2.2.1 q).1
    have hLVs : stl (nLl ll bd) (nPa pa bd) = true → 0 < LV (uN b n bd) (n + 1) := fun q => by
      have := hAb1.2.2.2.2.2
      have := (stl_iff.mp q).1
      omega
    have hzx : ∃ z', stl (nLl ll bd) (nPa pa bd) = true → isZ (uN b n bd) (n + 1) gd (nLl ll bd) (nLb gd n lb bd) z' := by
      cases hs : stl (nLl ll bd) (nPa pa bd) with
      | false => exact ⟨0, fun q => by cases q⟩
      | true =>
        obtain ⟨z', hz'⟩ := isZ_ex k1 (hLVs hs)
        exact ⟨z', fun _ => hz'⟩
    obtain ⟨z', hz'⟩ := hzx
    have hbf' : ∀ j, j < n + 1 → plsF bf n (nI bd) j = nI (uN b n bd j) := by
      intro j hj
      unfold plsF uN
      by_cases e : j = n
      · rw [if_pos e, if_pos e]
      · rw [if_neg e, if_neg e, if_pos (by omega), hbf j (by omega)]
    refine hJ [14] 100 _ _ _ _ _ ⟨0, Nat.zero_le _, dl_47a (z := z') hl (by omega) rfl hbd i2 k4 hAb.1 hAb.2.1 hAb.2.2.2.1 (by omega) ha hb43 hz' (fun cA => ?_) (fun cB => ?_) (fun cA cB => ?_)⟩
    · obtain ⟨p1, p2⟩ := eA.mp cA
      refine hJ [30] 100 _ _ _ _ _ ⟨fun q => absurd q (by decide), fun _ => ⟨1, Nat.le_add_left 1 _, cl_94 (k := 0) hl (by omega) (BA_at hb) (by omega) ?_⟩⟩
      show J (k + 1) 30 [some (.ref 0), some (.int (nI bd)), some (.int 1), some (.int (-1))] [.ref (r.length + 28), .ref 0] (wd dr 1 gd gz bq kq tq ld lq dc 3 dn h c L sz pl rv tr tu t (uN b n bd) (n + 1) gd (nLl ll bd) (nLb gd n lb bd) (nTi ti bd) (nPa pa bd) tk sc hg e19 e20 e21 e22 Rv Iw Ho Go So (r ++ [.inl (0, n + 1, .inl (plsF bf n (nI bd)))]))
      refine hJ [37] 100 _ _ _ _ _ ⟨1, Nat.le_add_left 1 _, cl_102 (k := 0) (bg := uN b n bd) (bn := n + 1) hl (by omega) RA_new hbf' k1.1 (by omega) i2 (fun q1 q2 => ?_) (fun q1 q2 => absurd p2 q2) (fun q1 q2 => absurd (hPA p1) (by omega)) (fun q1 q2 => absurd (hPA p1) (by omega))⟩
      exact hJ [] 100 _ _ _ _ _ ⟨0, Nat.zero_le _, cl_100 (bn := n + 1) (ln := 0) (bf := plsF bf n (nI bd)) (lf := lf) hl (by omega) (by omega) i2 hld (fun q => absurd q (by decide)) (by omega) (fun q => absurd q (by decide)) (by omega) ⟨fun _ => ⟨by decide, hA ha cA⟩, fun q => absurd rfl q⟩⟩
    · obtain ⟨p1, p2⟩ := eB.mp cB
      have hz2 := hz' cB
      have hzM := isZ_M k1 (hLVs cB) hz2
      have hlt4 : ((gd + z') % 4 + 1) % 4 < 4 := dm_lt _
      refine hJ [30] 100 _ _ _ _ _ ⟨fun q => absurd q (by decide), fun _ => ⟨1, Nat.le_add_left 1 _, cl_94 (k := 0) hl (by omega) (BA_at hb) (by omega) ?_⟩⟩
      show J (k + 1) 30 [some (.ref 0), some (.int (nI bd)), some (.int 1), some (.int (nI (((gd + z') % 4 + 1) % 4)))] [.ref (r.length + 28), .ref 0] (wd dr 1 gd gz bq kq tq ld lq dc 2 dn h c (uN L 0 (((gd + z') % 4 + 1) % 4)) sz pl rv ((nLl ll bd - 1) % 5) (((gd + z') % 4 + 1) % 4) t (uN b n bd) (n + 1) gd (nLl ll bd) (nLb gd n lb bd) (nTi ti bd) (nPa pa bd) tk sc hg e19 e20 e21 e22 Rv Iw Ho Go So (r ++ [.inl (0, n + 1, .inl (plsF bf n (nI bd)))]))
      refine hJ [37] 100 _ _ _ _ _ ⟨1, Nat.le_add_left 1 _, cl_102 (k := 0) (bg := uN b n bd) (bn := n + 1) hl (by omega) RA_new hbf' k1.1 (by omega) i2 (fun q1 q2 => absurd (hLVs cB) (by omega)) (fun q1 q2 => absurd (hLVs cB) (by omega)) (fun q1 q2 => absurd p1 (by omega)) (fun q1 q2 z0 f20 g0 g1 g2 g3 g4 => ?_)⟩
      have ez : z0 = z' := isZM_uniq g0 hzM
      subst ez
      have elv : uN b n bd (LV (uN b n bd) (n + 1) - 1) = nLl ll bd := (hll1.2 q1).1.symm
      rw [elv] at g1 g2
      have hq := hB ha cB z0 f20 hz2 g1 g2 g3
      rw [show r.length + 29 = (r ++ [Sum.inl (0, n + 1, Sum.inl (plsF bf n (nI bd)))] : am_M).length + 28 from by rw [List.length_append]; show r.length + 29 = r.length + 1 + 28; omega] at hq
      refine hJ [] 100 _ _ _ _ _ ⟨0, Nat.zero_le _, cl_100 (bn := n + 1) (ln := 0) (bf := plsF bf n (nI bd)) (lf := lf) hl (by omega) (by omega) i2 hlt4 (fun q => absurd q (by decide)) (by omega) (fun _ => LA_at (RA_app (RA_app hla))) (by omega) ⟨fun _ => ⟨by decide, hq⟩, fun q => absurd ?_ q⟩⟩
      show nI (((gd + z0) % 4 + 1) % 4) = nI ((((gd + z0) % 4 + 1) % 4 + 0) % 4)
      congr 1
      omega
    · have nA : ¬ (PS (uN b n bd) (n + 1) = n + 1 ∧ PS (uN b n bd) (n + 1) = 4) := fun q => by rw [eA.mpr q] at cA; cases cA
      have nB : ¬ (PS (uN b n bd) (n + 1) = 3 ∧ PS (uN b n bd) (n + 1) < n + 1) := fun q => by rw [eB.mpr q] at cB; cases cB
      have hq := hC ha cA cB
      refine hJ [30] 100 _ _ _ _ _ ⟨fun q => absurd q (by decide), fun _ => ⟨1, Nat.le_add_left 1 _, cl_94 (k := 0) hl (by omega) (BA_at hb) (by omega) ?_⟩⟩
      show J (k + 1) 30 [some (.ref 0), some (.int (nI bd)), some (.int 1), some (.int (nI ((gd + (n + 1)) % 4)))] [.ref (r.length + 28), .ref 0] (wd dr 1 gd gz bq kq tq ld lq dc 1 dn h c L sz pl rv tr tu t (uN b n bd) (n + 1) gd (nLl ll bd) (nLb gd n lb bd) (nTi ti bd) (nPa pa bd) tk sc hg e19 e20 e21 e22 Rv Iw Ho Go So (r ++ [.inl (0, n + 1, .inl (plsF bf n (nI bd)))]))
      have ht : ∀ k', J k' 37 [some (.ref 0), some (.int (nI bd)), some (.int 1), some (.int (nI ((gd + (n + 1)) % 4)))] [] (wd dr 1 gd gz (r.length + 28) kq tq ld lq dc 1 dn h c L sz pl rv tr tu t (uN b n bd) (n + 1) gd (nLl ll bd) (nLb gd n lb bd) (nTi ti bd) (nPa pa bd) tk sc hg e19 e20 e21 e22 Rv Iw Ho Go So (r ++ [.inl (0, n + 1, .inl (plsF bf n (nI bd)))])) := fun k' =>
        hJ [] 100 _ _ _ _ _ ⟨0, Nat.zero_le _, cl_100 (bn := n + 1) (ln := 0) (bf := plsF bf n (nI bd)) (lf := lf) hl (by omega) (by omega) i2 hld (fun _ => BA_at RA_new) (by omega) (fun q => absurd q (by decide)) (by omega) ⟨fun _ => ⟨by decide, hq⟩, fun q => absurd rfl q⟩⟩
      refine hJ [37] 100 _ _ _ _ _ ⟨1, Nat.le_add_left 1 _, cl_102 (k := 0) (bg := uN b n bd) (bn := n + 1) hl (by omega) RA_new hbf' k1.1 (by omega) i2 (fun q1 q2 => ?_) (fun q1 q2 => ht _) (fun q1 q2 => ht _) (fun q1 q2 z0 f20 g0 g1 g2 g3 g4 => ?_)⟩
      · exact absurd ⟨hLV0 q1, q2⟩ nA
      · have := k3 q1
        have hlt : ¬ PS (uN b n bd) (n + 1) = n + 1 := fun q => by have := hPA q; omega
        exact absurd ⟨by omega, by omega⟩ nB
end
