/-! Deal: deal, open -/
theorem sm_add (s : Int32) {c : Nat} (hc : c < 32) : sm (sAdd s c) = if s = 0 ∨ c < sLo s then nI c else sm s := by
  have hb : bt (sAdd s c) c = true := by rw [bt_add hc hc]; simp
  have hne : sAdd s c ≠ 0 := fun e => by rw [e, b_0] at hb; cases hb
  rw [sm, if_neg hne]
  by_cases h0 : s = 0
  · rw [if_pos (Or.inl h0)]
    congr 1
    refine nx_uniq (Nat.zero_le _) (by omega) hb (fun j _ hj => ?_)
    rw [bt_add hc (by omega), h0, b_0, decide_eq_false (by omega)]
    rfl
  · obtain ⟨g1, g2, g3⟩ := sLo_spec h0
    by_cases h1 : c < sLo s
    · rw [if_pos (Or.inr h1)]
      congr 1
      refine nx_uniq (Nat.zero_le _) (by omega) hb (fun j _ hj => ?_)
      rw [bt_add hc (by omega), g3 j (by omega), decide_eq_false (by omega)]
      rfl
    · rw [if_neg (by rintro (q | q) <;> contradiction), sm, if_neg h0]
      congr 1
      refine nx_uniq (Nat.zero_le _) (by omega) ?_ (fun j _ hj => ?_)
      · rw [bt_add hc g1, g2]; rfl
      · rw [bt_add hc (by omega), g3 j hj, decide_eq_false (by omega)]
        rfl
theorem dealH_cong {f s : Nat} {h g : Nat → Int32} (e : ∀ p, p < 4 → g p = h p) : ∀ n p, p < 4 → dealH f s g n p = dealH f s h n p
  | 0, p, hp => e p hp
  | n + 1, p, hp => by
    show (if p = n % 4 then _ else _) = (if p = n % 4 then _ else _)
    rw [dealH_cong e n _ (dm_lt n), dealH_cong e n p hp]
theorem le4_z {h : Nat → Int32} (hz : ∀ p, p < 4 → h p = 0) : le4 h 0 = true := by
  have : ∀ p, p < 4 → pc (h p) ≤ 0 := fun p hp => by rw [hz p hp]; exact Nat.le_of_eq (pc_zero.mpr rfl)
  exact le4_iff.mpr this
section
variable {l : Launch} {d k : Nat} {Q : am_Q} {dr gs gd gz bq kq tq ld lq : Nat} {dc : Int32} {st : Nat} {dn : Int32} {h : Nat → Int32} {c L : Nat → Nat} {sz pl : Nat} {rv : Int32} {tr tu : Nat} {t : am_T5} {b : Nat → Nat} {n dl ll lb ti pa : Nat} {tk : Nat → Nat} {sc : Nat → Int32} {hg : Nat → Int32} {e19 e20 e21 e22 : am_E} {Rv Iw Ho Go So : Nat → Int32} {r : am_M}
theorem cl_97 (hl : l.stackTraces = false) (hd : 7 ≤ d) {m : Nat} (hdr : dr < 2 ^ 30) (hm : m < 9) (h1 : st = 0) (hh : ∀ p, p < 4 → h p = 0) (hgz : ∀ p, p < 4 → hg p = 0) (hq : ∀ f s, f < 32 → s < 32 → s % 2 = 1 → Q (.inl (some (.int 1))) (wd (dr + 1 + 1) gs gd gz bq kq tq ld lq dc st dn (dealH f s h (4 * m)) c L sz pl rv tr tu t b n dl ll lb ti pa tk sc (dealH f s hg (4 * m)) e19 e20 e21 e22 Rv Iw Ho Go So r)) : am_Call l d 97 k [.ref 0, .int (nI m)] (wd dr gs gd gz bq kq tq ld lq dc st dn h c L sz pl rv tr tu t b n dl ll lb ti pa tk sc hg e19 e20 e21 e22 Rv Iw Ho Go So r) Q := by
  refine op_97 hl (by omega) (Nat.le_of_ble_eq_true rfl) (fun J hJ => hJ [6] 100 _ _ _ _ _ ⟨0, Nat.zero_le _, cl_93 hl (by omega) (m := 32) (by omega) (by omega) (by omega) (fun f hf => ?_)⟩)
  refine hJ [15] 100 _ _ _ _ _ ⟨0, Nat.zero_le _, cl_93 hl (by omega) (m := 16) (by omega) (by omega) (by omega) (fun s0 hs0 => ?_)⟩
  obtain ⟨s, hs⟩ : ∃ s, s = 1 + 2 * s0 := ⟨_, rfl⟩
  have e3 : (1 : Int32) + 2 * nI s0 = nI s := by
    rw [hs]
    show nI 1 + nI 2 * nI s0 = _
    rw [pk_mul, nI_add]
  have hL : ∀ m2 i o, i + m2 = 4 * m → J k 24 [some (.ref 0), some (.int (nI m)), some (.int (nI f)), some (.int (nI s)), some (.int (sm (dealH f s hg i 0))), some (.int (nI i)), o] [] (wd (dr + 1 + 1) gs gd gz bq kq tq ld lq dc st dn h c L sz pl rv tr tu t b n dl ll lb ti pa tk sc (dealH f s hg i) e19 e20 e21 e22 Rv Iw Ho Go So r) := by
    intro m2
    induction m2 with
    | zero =>
      intro i o hi
      have : i = 4 * m := by omega
      subst this
      have he : sm (dealH f s h (4 * m) 0) = sm (dealH f s hg (4 * m) 0) := by rw [dealH_cong (fun p hp => (hgz p hp).trans (hh p hp).symm) (4 * m) 0 (by omega)]
      refine hJ [24] 100 _ _ _ _ _ (blex (a := 4 * m) (b := 4 * m) (pk_mul 4 m) rfl (by omega) (by omega) (fun _ => ⟨0, Nat.zero_le _, dl_42 hl (by omega) hf (by omega) (by omega) hm h1 (le4_z hh) ⟨fun q => ⟨by decide, ?_⟩, fun q => absurd he q⟩⟩) (fun q => absurd q (by omega)))
      exact hq f s hf (by omega) (by omega)
    | succ m2 ih =>
      intro i o hi
      have hi36 : i < 36 := by omega
      have his : i * s ≤ 36 * 32 := Nat.mul_le_mul (by omega) (by omega)
      have e4 : nI i - nI i / 4 * 4 = nI (i % 4) := pk_rem (d := 4) (by omega) (by omega) (by omega)
      have e5 : (nI f + nI i * nI s) - (nI f + nI i * nI s) / 32 * 32 = nI ((f + i * s) % 32) := by
        rw [pk_mul, nI_add]
        exact pk_rem (d := 32) (by omega) (by omega) (by omega)
      have hc32 : (f + i * s) % 32 < 32 := Nat.mod_lt _ (by omega)
      have hm4 := dm_lt i
      have hS : dealH f s hg (i + 1) = upd (dealH f s hg i) (i % 4) (sAdd (dealH f s hg i (i % 4)) ((f + i * s) % 32)) := rfl
      have ex : ∀ (lv : Int32), lv = sm (dealH f s hg (i + 1) 0) → J k 24 [some (.ref 0), some (.int (nI m)), some (.int (nI f)), some (.int (nI s)), some (.int lv), some (.int (nI i + 1)), some (.int ((nI f + nI i * nI s) - (nI f + nI i * nI s) / 32 * 32))] [] (wd (dr + 1 + 1) gs gd gz bq kq tq ld lq dc st dn h c L sz pl rv tr tu t b n dl ll lb ti pa tk sc (upd (dealH f s hg i) (i % 4) (sAdd (dealH f s hg i (i % 4)) ((f + i * s) % 32))) e19 e20 e21 e22 Rv Iw Ho Go So r) := by
        intro lv hlv
        have h2 := ih (i + 1) (some (.int ((nI f + nI i * nI s) - (nI f + nI i * nI s) / 32 * 32))) (by omega)
        rw [← hlv, ← nI_1 i] at h2
        exact h2
      refine hJ [24] 100 _ _ _ _ _ (blex (a := 4 * m) (b := i) (pk_mul 4 m) rfl (by omega) (by omega) (fun q => absurd q (by omega)) (fun _ => ⟨by decide, by decide, vin e4 hm4 (by omega), 14 + 1 + i % 4, (congrArg (fun z : Int32 => am_rows 14 z.toNatClampNeg) e4).trans (rows_at hm4), ay (q := 14 + 1 + i % 4) (has_at hm4) ⟨vin e5 hc32 (by omega), has_put hm4 ((congrArg (fun z : Int32 => upd (zb (dealH f s hg i (i % 4))) z.toNatClampNeg 1) e5).trans (zb_add hc32)) ⟨by decide, beqx (a := i % 4) (b := 0) e4 rfl (by omega) (by omega) (fun q => ?_) (fun q => ?_)⟩⟩⟩))
      · have hS0 : dealH f s hg (i + 1) 0 = sAdd (dealH f s hg i 0) ((f + i * s) % 32) := by
          rw [hS, q]
          exact up_s _ _ _
        have hsm := sm_add (dealH f s hg i 0) hc32
        rw [← hS0] at hsm
        by_cases h0 : dealH f s hg i 0 = 0
        · rw [if_pos (Or.inl h0)] at hsm
          refine ⟨fun _ => ex _ (by rw [hsm]; exact e5), fun q2 => absurd ?_ q2⟩
          rw [h0]
          decide
        · obtain ⟨g1, g2, g3⟩ := sLo_spec h0
          have hlo : sm (dealH f s hg i 0) = nI (sLo (dealH f s hg i 0)) := sm_ne h0
          refine ⟨fun q2 => absurd q2 (by rw [hlo]; exact nI_pos (by omega)), fun _ => blex (a := sLo (dealH f s hg i 0)) (b := (f + i * s) % 32) hlo e5 (by omega) (by omega) (fun q3 => ex _ ?_) (fun q3 => ex _ ?_)⟩
          · rw [hsm, if_neg (by rintro (q4 | q4) <;> first | contradiction | omega)]
          · rw [hsm, if_pos (Or.inr q3)]
            exact e5
      · refine ex _ ?_
        rw [hS, up_n _ _ (by omega)]
  have h0 := hL (4 * m) 0 none (by omega)
  have e6 : sm (dealH f s hg 0 0) = -1 := by
    show sm (hg 0) = -1
    rw [hgz 0 (by omega)]
    decide
  rw [e6, ← e3] at h0
  exact hJ [24] 100 _ _ _ _ _ h0
theorem cl_98 (hl : l.stackTraces = false) (hd : 5 ≤ d) (h1 : st = 0) (h2 : rdy h = true) (h3 : hg 0 = h 0) (hq : Q (.inl (some (.int 1))) (wd dr 1 gd (pc (h 0)) bq kq tq ld lq dc 1 dn h c L (pc (h 0)) pl rv tr tu t b n dl ll lb ti pa tk sc hg e19 e20 e21 e22 Rv Iw Ho Go So r)) : am_Call l d 98 k [.ref 0] (wd dr gs gd gz bq kq tq ld lq dc st dn h c L sz pl rv tr tu t b n dl ll lb ti pa tk sc hg e19 e20 e21 e22 Rv Iw Ho Go So r) Q := by
  refine op_98 hl (by omega) (Nat.le_of_ble_eq_true rfl) (fun J hJ => hJ [6] 100 _ _ _ _ _ ⟨0, Nat.zero_le _, cl_95 hl (by omega) (p := 0) (by omega) ?_⟩)
  rw [h3]
  exact hJ [] 100 _ _ _ _ _ ⟨0, Nat.zero_le _, dl_44 (gs := 1) (gz := pc (h 0)) hl (by omega) h1 h2 ⟨fun _ => ⟨by decide, hq⟩, fun q => absurd (pk_mul 4 _).symm q⟩⟩
end
