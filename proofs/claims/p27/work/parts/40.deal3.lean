/-! Deal: begin, deal, open -/
section
variable {l : Launch} {d k : Nat} {Q : am_Q} {dr gs gd gz bq kq tq ld lq : Nat} {dc : Int32} {st : Nat} {dn : Int32} {h : Nat → Int32} {c L : Nat → Nat} {sz pl : Nat} {rv : Int32} {tr tu : Nat} {t : am_T5} {b : Nat → Nat} {n dl ll lb ti pa : Nat} {tk : Nat → Nat} {sc : Nat → Int32} {hg : Nat → Int32} {e19 e20 e21 e22 : am_E} {Rv Iw Ho Go So : Nat → Int32} {r : am_M}
theorem cl_96 (hl : l.stackTraces = false) (hd : 4 ≤ d) (hdr : dr < 2 ^ 31) (he : gs = st) (hst : st < 4) (hq : ∀ j hg' Rv' Go', j < 4 → (∀ p, p < 4 → hg' p = 0) → Q (.inl (some (.int 1))) (wd (dr + 1) 0 j gz (r.length + 28) (r.length + 29) (r.length + 30) ld (r.length + 31) dc 0 dn (hz h 4) c L 0 0 0 tr tu t b 0 j 0 0 1 0 (uN (uN tk 0 0) 1 0) sc hg' e19 e20 e21 e22 Rv' Iw Ho Go' So ((((r ++ [eZ0]) ++ [eZ0]) ++ [eT0]) ++ [eZ0]))) : am_Call l d 96 (k + 4) [.ref 0] (wd dr gs gd gz bq kq tq ld lq dc st dn h c L sz pl rv tr tu t b n dl ll lb ti pa tk sc hg e19 e20 e21 e22 Rv Iw Ho Go So r) Q := by
  refine op_96 hl (by omega) (Nat.le_of_ble_eq_true rfl) (fun J hJ => hJ [11] 100 _ _ _ _ _ ⟨0, Nat.zero_le _, cl_93 hl (by omega) (m := 4) hdr (by omega) (by omega) (fun j hj => ?_)⟩)
  have hO : ∀ m p (hx Rx Gx : Nat → Int32) o, p + m = 4 → (∀ q, q < p → hx q = 0) → J (k + 4) 21 [some (.ref 0), some (.int (nI gs)), some (.int (nI p)), o] [] (wd (dr + 1) 0 j gz bq kq tq ld lq dc st dn h c L sz pl rv tr tu t b n dl ll lb ti pa tk sc hx e19 e20 e21 e22 Rx Iw Ho Gx So r) := by
    intro m
    induction m with
    | zero =>
      intro p hx Rx Gx o hp hz0
      have : p = 4 := by omega
      subst this
      have e1 : ∀ rr : am_M, (wd (dr + 1) 0 j gz bq kq tq ld lq dc st dn h c L sz pl rv tr tu t b n dl ll lb ti pa tk sc hx e19 e20 e21 e22 Rx Iw Ho Gx So rr).length = rr.length + 28 := fun rr => rfl
      refine hJ [75] 100 _ _ _ _ _ ⟨fun _ => ⟨0, rfl, by omega, az ?_⟩, fun q => absurd (by decide) q⟩
      show J (k + 3) 75 _ [.ref (r.length + 28), .ref 0] (wd (dr + 1) 0 j gz bq kq tq ld lq dc st dn h c L sz pl rv tr tu t b n dl ll lb ti pa tk sc hx e19 e20 e21 e22 Rx Iw Ho Gx So (r ++ [eZ0]))
      refine hJ [82] 100 _ _ _ _ _ ⟨0, rfl, by omega, az ?_⟩
      show J (k + 2) 82 _ [.ref ((r ++ [eZ0]).length + 28), .ref 0] (wd (dr + 1) 0 j gz (r.length + 28) kq tq ld lq dc st dn h c L sz pl rv tr tu t b n dl ll lb ti pa tk sc hx e19 e20 e21 e22 Rx Iw Ho Gx So ((r ++ [eZ0]) ++ [eZ0]))
      rw [List.length_append]
      refine hJ [90] 100 _ _ _ _ _ ⟨0, rfl, by omega, az ?_⟩
      show J (k + 1) 90 _ [.ref (((r ++ [eZ0]) ++ [eZ0]).length + 28), .ref 0] (wd (dr + 1) 0 j gz (r.length + 28) (r.length + [eZ0].length + 28) tq ld lq dc st dn h c L sz pl rv tr tu t b n dl ll lb ti pa tk sc hx e19 e20 e21 e22 Rx Iw Ho Gx So (((r ++ [eZ0]) ++ [eZ0]) ++ [eT0]))
      rw [List.length_append, List.length_append]
      refine hJ [97] 100 _ _ _ _ _ ⟨0, rfl, by omega, az ?_⟩
      show J k 97 _ [.ref ((((r ++ [eZ0]) ++ [eZ0]) ++ [eT0]).length + 28), .ref 0] (wd (dr + 1) 0 j gz (r.length + 28) (r.length + [eZ0].length + 28) (r.length + [eZ0].length + [eZ0].length + 28) ld lq dc st dn h c L sz pl rv tr tu t b n dl ll lb ti pa tk sc hx e19 e20 e21 e22 Rx Iw Ho Gx So ((((r ++ [eZ0]) ++ [eZ0]) ++ [eT0]) ++ [eZ0]))
      rw [List.length_append, List.length_append, List.length_append]
      refine hJ [] 100 _ _ _ _ _ ⟨0, Nat.zero_le _, dl_41 hl (by omega) hj ⟨fun q => ⟨by decide, ?_⟩, fun q => absurd (by rw [he]) q⟩⟩
      exact hq j hx Rx Gx hj hz0
    | succ m ih =>
      intro p hx Rx Gx o hp hz0
      have hI : ∀ m2 cx (hy : Nat → Int32), cx + m2 = 32 → (∀ q, q < p → hy q = 0) → (∀ i, i < cx → bt (hy p) i = false) → J (k + 4) 28 [some (.ref 0), some (.int (nI gs)), some (.int (nI p)), some (.int (nI cx))] [] (wd (dr + 1) 0 j gz bq kq tq ld lq dc st dn h c L sz pl rv tr tu t b n dl ll lb ti pa tk sc hy e19 e20 e21 e22 Rx Iw Ho Gx So r) := by
        intro m2
        induction m2 with
        | zero =>
          intro cx hy hc hz1 hb
          have : cx = 32 := by omega
          subst this
          have e2 : nI p / 2 = nI (p / 2) := pk_div (d := 2) (by omega) (by omega) (by omega)
          have h2 := ih (p + 1) hy (upd Rx (nI p).toNatClampNeg 0) (upd Gx (nI p / 2).toNatClampNeg 0) (some (.int (nI 32))) (by omega) (fun q hq => by
            by_cases e : q = p
            · rw [e]; exact s_zero.mpr hb
            · exact hz1 q (by omega))
          rw [← nI_1 p] at h2
          exact hJ [21] 100 _ _ _ _ _ ⟨fun _ => ⟨nI_in (by omega) (by omega), by decide, vin e2 (by omega) (by omega), h2⟩, fun q => absurd (by decide) q⟩
        | succ m2 ih2 =>
          intro cx hy hc hz1 hb
          refine hJ [28] 100 _ _ _ _ _ (ble (a := 32) (b := cx) (by omega) (by omega) (fun q => absurd q (by omega)) (fun _ => ⟨nI_in (by omega) (by omega), 14 + 1 + p, rows_at (by omega), ay (q := 14 + 1 + p) (has_at (by omega)) ⟨nI_in (by omega) (by omega), has_put (by omega) (zb_del (by omega)) ?_⟩⟩))
          have h2 := ih2 (cx + 1) (upd hy p (sDel (hy p) cx)) (by omega) (fun q hq => by rw [up_n _ _ (by omega)]; exact hz1 q hq) (fun i hi => by
            rw [up_s, bt_del (by omega) (by omega)]
            by_cases e : i = cx
            · rw [e]; simp
            · rw [hb i (by omega)]; rfl)
          rw [← nI_1 cx] at h2
          exact h2
      exact hJ [28] 100 _ _ _ _ _ (ble (a := 4) (b := p) (by omega) (by omega) (fun q => absurd q (by omega)) (fun _ => hI 32 0 hx rfl hz0 (fun i hi => absurd hi (Nat.not_lt_zero _))))
  exact hJ [21] 100 _ _ _ _ _ (hO 4 0 hg Rv Go none rfl (fun q hq => absurd hq (Nat.not_lt_zero _)))
end
