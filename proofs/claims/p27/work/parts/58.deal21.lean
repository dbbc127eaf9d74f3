/-! the law's checks: while cards are played -/
section
variable {h : Nat → Int32} {c L : Nat → Nat} {sz pl : Nat} {rv : Int32} {tr tu kp : Nat}
theorem wt_bd (hG : G2 h c L sz pl rv tr tu kp) (hk : 0 < kp) (cd : Nat) : withV 2 h c L pl tr kp cd ≤ 9 ∧ -1 ≤ withV 2 h c L pl tr kp cd := by
  obtain ⟨g1, g2, g3, g4, g5, g6, g7, g8⟩ := hG
  unfold withV
  by_cases e : hbp 2 h = true
  · rw [if_pos e]
    have hk3 := bal_k3 g5 (g7 _ (Nat.le_refl _)) (hbp_t e).2
    have := bw_le (n := nl pl kp - 1) (h := h) (c := c) (L := L) (pl := pl) (tr := tr) (cd := cd)
    unfold nl at this ⊢
    have hb : bw (4 * kp - pl % 4 - 1) h c L pl tr cd ≤ 9 := by omega
    exact ⟨nI_le (b := 9) hb (by decide), Int32.le_trans (by decide) (nI_pos' (by omega))⟩
  · rw [if_neg e]
    exact ⟨by decide, by decide⟩
theorem best_mm {x y : Int32} (hG : G2 h c L sz pl rv tr tu kp) (hk : 0 < kp) (h0 : 0 < pc (RC h c pl tu)) (hM : MM (RC h c pl tu) (withV 2 h c L pl tr kp) 32 x y) : bestV 2 h c L pl tr kp = if tu % 2 = 0 then y else x := by
  obtain ⟨g1, g2, g3, g4, g5, g6, g7, g8⟩ := hG
  obtain ⟨⟨c1, a1, a2, a3⟩, ⟨c2, b1, b2, b3⟩, h3⟩ := hM.2 h0
  by_cases e : hbp 2 h = true
  · have hf : ∀ cd, withV 2 h c L pl tr kp cd = nI (bw (nl pl kp - 1) h c L pl tr cd) := fun cd => if_pos e
    have hk3 := bal_k3 g5 (g7 _ (Nat.le_refl _)) (hbp_t e).2
    have hb9 : ∀ cd, bw (nl pl kp - 1) h c L pl tr cd ≤ 9 := by
      intro cd
      have := bw_le (n := nl pl kp - 1) (h := h) (c := c) (L := L) (pl := pl) (tr := tr) (cd := cd)
      unfold nl at this ⊢
      omega
    have hnl : 0 < nl pl kp := by unfold nl; omega
    obtain ⟨m, hm⟩ : ∃ m, nl pl kp = m + 1 := ⟨nl pl kp - 1, by omega⟩
    rw [bestV, if_pos e]
    rw [hm] at hf hb9 ⊢
    rw [Nat.add_sub_cancel] at hf hb9
    rw [bp_s, ← g1]
    obtain ⟨bb, hb⟩ := opF_some (p := tu) (v := bw m h c L pl tr) a1 a2
    obtain ⟨c3, d1, d2, d3⟩ := opF_mem hb
    have hbd := opF_bd hb
    rw [hb]
    show nI bb = _
    by_cases hp : tu % 2 = 0
    · rw [if_pos hp]
      have u1 := (h3 c3 d1 d2).2
      have u2 := hbd c2 b1 b2
      rw [if_pos hp] at u2
      rw [hf] at u1 b3
      rw [d3]
      refine Int32.le_antisymm u1 ?_
      rw [b3, ← d3]
      exact nI_le u2 (by rw [d3]; have := hb9 c3; omega)
    · rw [if_neg hp]
      have u1 := (h3 c3 d1 d2).1
      have u2 := hbd c1 a1 a2
      rw [if_neg hp] at u2
      rw [hf] at u1 a3
      rw [d3]
      refine Int32.le_antisymm ?_ u1
      rw [a3, ← d3]
      exact nI_le u2 (by have := hb9 c1; omega)
  · have hf : ∀ cd, withV 2 h c L pl tr kp cd = -1 := fun cd => if_neg e
    rw [bestV, if_neg e, a3, b3, hf, hf]
    split <;> rfl
theorem bc_spec (hG : G2 h c L sz pl rv tr tu kp) (hk : 0 < kp) (e : hbp 2 h = true) : ∃ cb bp0, cb < 32 ∧ bp0 < 100 ∧ bcV 2 h c L pl tr kp = nI cb ∧ bt (RC h c pl tu) cb = true ∧ withV 2 h c L pl tr kp cb = nI bp0 ∧ bestV 2 h c L pl tr kp = nI bp0 := by
  obtain ⟨g1, g2, g3, g4, g5, g6, g7, g8⟩ := hG
  have hnl : 0 < nl pl kp := by unfold nl; omega
  have hkt := bal_tu g5 (g7 _ (Nat.le_refl _))
  have hne : h (who L pl) ≠ 0 := fun q => by rw [q, pc_zero.mpr rfl] at hkt; omega
  obtain ⟨cd, d1, d2⟩ := bc_ex (tr := tr) (kp := kp) (RC_ne (c := c) hne) hnl
  obtain ⟨n1, n2, n3, n4⟩ := nx_spec (bcP h c L pl tr kp) 32 0
  have hlt : nx (bcP h c L pl tr kp) 32 0 < 32 := by
    by_cases q : nx (bcP h c L pl tr kp) 32 0 < 32
    · exact q
    · have := n4 cd (Nat.zero_le _) (by omega)
      rw [d2] at this
      cases this
  have hp := n3 (by omega)
  obtain ⟨x, hx⟩ : ∃ x, x = nx (bcP h c L pl tr kp) 32 0 := ⟨_, rfl⟩
  rw [← hx] at hp hlt
  have hp' := hp
  unfold bcP at hp'
  rw [Bool.and_eq_true] at hp'
  have hle := bp_k (h := h) (c := c) (L := L) (tr := tr) (kp := kp) (pl := pl) (fun _ => hk)
  refine ⟨x, bp (nl pl kp) h c L pl tr, hlt, by omega, by rw [hx]; exact if_pos e, by rw [g1]; exact hp'.1, ?_, if_pos e⟩
  rw [withV, if_pos e, of_decide_eq_true hp'.2]
end
section
variable {l : Launch} {d k : Nat} {Q : am_Q} {dr gs gd gz bq kq tq ld lq : Nat} {dc : Int32} {st : Nat} {dn : Int32} {h : Nat → Int32} {c L : Nat → Nat} {sz pl : Nat} {rv : Int32} {tr tu : Nat} {t : am_T5} {b : Nat → Nat} {n dl ll lb ti pa : Nat} {tk : Nat → Nat} {sc : Nat → Int32} {hg : Nat → Int32} {e19 e20 e21 e22 : am_E} {Rv Iw Ho Go So : Nat → Int32} {r : am_M}
variable {J : am_K} {z kp tm s0 dd sp : Nat} {x7 : Int64} {x9 : Int32}
set_option maxRecDepth 20000 in
theorem lk_D1 (hl : l.stackTraces = false) (hd : 60 ≤ d) (hJ : LJ l d J) (hI : (INV 2 h c L sz pl rv tr tu b n dl ll lb ti pa tk z kp)) {i r0 : Nat} {x12 x13 : Int32} {o : Option Value} (hi : i < 32) (hr0 : r0 = fb_ct (bt (RC h c pl tu)) i) (hM : MM (RC h c pl tu) (withV 2 h c L pl tr kp) i x12 x13) (hK : ∀ t r1 x12 x13 o, r1 = fb_ct (bt (RC h c pl tu)) (i + 1) → MM (RC h c pl tu) (withV 2 h c L pl tr kp) (i + 1) x12 x13 → J k 480 [some (.float 0), some (.int (nI tm)), some (.ref 0), some (.ref 1), some (.int (nI s0)), some (.int (nI dd)), some (.int (nI sp)), some (.long (x7)), none, some (.int (x9)), some (.int (nI tu)), some (.int (nI r1)), some (.int (x12)), some (.int (x13)), some (.int (nI (i + 1))), o] [] (wd dr gs gd gz bq kq tq ld lq dc 2 dn h c L sz pl rv tr tu t b n dl ll lb ti pa tk sc hg e19 e20 e21 e22 Rv Iw Ho Go So r)) : J k 480 [some (.float 0), some (.int (nI tm)), some (.ref 0), some (.ref 1), some (.int (nI s0)), some (.int (nI dd)), some (.int (nI sp)), some (.long (x7)), none, some (.int (x9)), some (.int (nI tu)), some (.int (nI r0)), some (.int (x12)), some (.int (x13)), some (.int (nI i)), o] [] (wd dr gs gd gz bq kq tq ld lq dc 2 dn h c L sz pl rv tr tu t b n dl ll lb ti pa tk sc hg e19 e20 e21 e22 Rv Iw Ho Go So r) := by
  have hn := INV_n hI
  obtain ⟨⟨a1, a2, a3⟩, i0, i1, i2, i3, ⟨j1, j2, j3, j4, j5⟩, j6, j7, j8, j9, j10⟩ := hI
  obtain ⟨u1, u2, hG, hk, u3, u4⟩ := i2 rfl
  have hG' := hG
  obtain ⟨g1, g2, g3, g4, g5, g6, g7, g8⟩ := hG'
  have hL4 := j7 _ (Nat.le_refl _)
  have e1 : nI i + 1 = nI (i + 1) := nI_add i 1
  have hc0 : pl % 4 ≠ 0 → c (4 * (pl / 4)) < 32 := fun q => j6 _ (by omega)
  have hnx : ∀ t' r1 x12 x13 o, r1 = fb_ct (bt (RC h c pl tu)) (i + 1) → MM (RC h c pl tu) (withV 2 h c L pl tr kp) (i + 1) x12 x13 → J k 560 [some (.float 0), some (.int (nI tm)), some (.ref 0), some (.ref 1), some (.int (nI s0)), some (.int (nI dd)), some (.int (nI sp)), some (.long (x7)), none, some (.int (x9)), some (.int (nI tu)), some (.int (nI r1)), some (.int (x12)), some (.int (x13)), some (.int (nI i)), o] [] (wd dr gs gd gz bq kq tq ld lq dc 2 dn h c L sz pl rv tr tu t' b n dl ll lb ti pa tk sc hg e19 e20 e21 e22 Rv Iw Ho Go So r) := by
    intro t' r1 y12 y13 o h1 h2
    have := hK t' r1 y12 y13 o h1 h2
    rw [← e1] at this
    exact hJ [480] 100 _ _ _ _ _ this
  refine hJ [493] 100 _ _ _ _ _ (ble (a := 32) (b := i) (by omega) (by omega) (fun q => absurd q (by omega)) (fun _ => ⟨0, Nat.zero_le _, dl_53 (cd := i) hl (by omega) a1 hi j3 j5 hc0 ?_⟩))
  refine hJ [560, 499] 100 _ _ _ _ _ (bzx (b := bt (RC h c pl tu) i) rfl (fun hb => hnx t r0 x12 x13 o (by rw [fb_ct_succ, hb]; exact hr0) (MM_no hM hb)) (fun hb => ?_))
  have hbt := RC_sub hb
  have e2 : nI r0 + 1 = nI (r0 + 1) := nI_add r0 1
  have hpl : pl < 32 := by omega
  refine hJ [510] 100 _ _ _ _ _ ⟨0, Nat.zero_le _, dl_45 hl (by omega) j5 hi ?_⟩
  rw [hbt]
  refine hJ [519] 100 _ _ _ _ _ ⟨fun q => absurd q (by decide), fun _ => ⟨0, Nat.zero_le _, dl_58 hl (by omega) hi rfl j5 hbt hpl j4 j6 hL4 (fun t1 => ?_)⟩⟩
  have h534 : ∀ t1, J k 534 [some (.float 0), some (.int (nI tm)), some (.ref 0), some (.ref 1), some (.int (nI s0)), some (.int (nI dd)), some (.int (nI sp)), some (.long (x7)), none, some (.int (x9)), some (.int (nI tu)), some (.int (nI r0 + 1)), some (.int (x12)), some (.int (x13)), some (.int (nI i)), o] [] (wd dr gs gd gz bq kq tq ld lq dc 2 dn h c L sz pl rv tr tu t1 b n dl ll lb ti pa tk sc hg e19 e20 e21 e22 Rv Iw Ho Go So r) := by
    intro t1
    refine hJ [540] 100 _ _ _ _ _ ⟨0, Nat.zero_le _, dl_60 (kp := kp) hl (by omega) hi rfl hG hbt (fun t2 => ?_)⟩
    obtain ⟨w1, w2⟩ := wt_bd hG hk i
    have := hnx t2 (r0 + 1) _ _ (some (.int (withV 2 h c L pl tr kp i))) (by rw [fb_ct_succ, hb, hr0]; rfl) (MM_yes hM hb w1 w2)
    rw [← e2] at this
    exact hJ [560] 100 _ _ _ _ _ this
  refine hJ [534, 524] 100 _ _ _ _ _ ⟨fun _ => h534 t1, fun q => ?_⟩
  have hm : pl % 4 ≠ 0 := fun e => q (by rw [wg_0 e, g1])
  refine hJ [529] 100 _ _ _ _ _ ⟨0, Nat.zero_le _, dl_55 (wh := 5) hl (by omega) (by omega) a1 a2 (by omega) j3 j4 j6 hL4 ?_⟩
  exact hJ [534] 100 _ _ _ _ _ ⟨fun q2 => absurd q2 (nI_ne0 (by omega) (by omega)), fun _ => h534 t1⟩
end
