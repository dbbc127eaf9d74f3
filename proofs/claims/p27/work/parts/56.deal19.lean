/-! the law's checks, piece by piece: the hands -/
abbrev LJ (l : Launch) (d : Nat) (J : am_K) : Prop := ∀ (stop : List Nat) (n k pc : Nat) (ls : am_L) (st : am_S) (w : am_M), am_run (tb_L (am_Call l d) Q_L) J stop n k pc ls st w → J k pc ls st w
section
variable {l : Launch} {d k : Nat} {Q : am_Q} {dr gs gd gz bq kq tq ld lq : Nat} {dc : Int32} {st : Nat} {dn : Int32} {h : Nat → Int32} {c L : Nat → Nat} {sz pl : Nat} {rv : Int32} {tr tu : Nat} {t : am_T5} {b : Nat → Nat} {n dl ll lb ti pa : Nat} {tk : Nat → Nat} {sc : Nat → Int32} {hg : Nat → Int32} {e19 e20 e21 e22 : am_E} {Rv Iw Ho Go So : Nat → Int32} {r : am_M}
variable {J : am_K} {z kp tm s0 dd sp : Nat} {x7 : Int64}
set_option maxRecDepth 20000 in
theorem lk_A1 (hl : l.stackTraces = false) (hd : 60 ≤ d) (hJ : LJ l d J) {p a : Nat} {o : Option Value} (hp : p < 4) (ha : a ≤ 1000) (hK : J k 178 [some (.float 0), some (.int (nI tm)), some (.ref 0), some (.ref 1), some (.int (nI s0)), some (.int (nI dd)), some (.int (nI sp)), some (.long (x7)), none, some (.int (nI (a + pc (h p)))), some (.int (nI (p + 1))), some (.int (nI (pc (h p)))), none, none, none, none] [] (wd dr gs gd gz bq kq tq ld lq dc st dn h c L sz pl rv tr tu t b n dl ll lb ti pa tk sc hg e19 e20 e21 e22 Rv Iw Ho Go So r)) : J k 178 [some (.float 0), some (.int (nI tm)), some (.ref 0), some (.ref 1), some (.int (nI s0)), some (.int (nI dd)), some (.int (nI sp)), some (.long (x7)), none, some (.int (nI a)), some (.int (nI p)), o, none, none, none, none] [] (wd dr gs gd gz bq kq tq ld lq dc st dn h c L sz pl rv tr tu t b n dl ll lb ti pa tk sc hg e19 e20 e21 e22 Rv Iw Ho Go So r) := by
  have e1 : nI p + 1 = nI (p + 1) := nI_add p 1
  have hpc := pc_le (h p)
  have e2 : nI a + nI (pc (h p)) = nI (a + pc (h p)) := nI_add _ _
  have hK' : J k 178 [some (.float 0), some (.int (nI tm)), some (.ref 0), some (.ref 1), some (.int (nI s0)), some (.int (nI dd)), some (.int (nI sp)), some (.long (x7)), none, some (.int (nI a + nI (pc (h p)))), some (.int (nI p + 1)), some (.int (nI (pc (h p)))), none, none, none, none] [] (wd dr gs gd gz bq kq tq ld lq dc st dn h c L sz pl rv tr tu t b n dl ll lb ti pa tk sc hg e19 e20 e21 e22 Rv Iw Ho Go So r) := by rw [e1, e2]; exact hK
  refine hJ [192] 100 _ _ _ _ _ (ble (a := 4) (b := p) (by omega) (by omega) (fun q => absurd q (by omega)) (fun _ => ⟨0, Nat.zero_le _, dl_46 (p := p) (s := 4) (wh := 0) hl (by omega) hp (by omega) (by omega) ?_⟩))
  show J k 192 [some (.float 0), some (.int (nI tm)), some (.ref 0), some (.ref 1), some (.int (nI s0)), some (.int (nI dd)), some (.int (nI sp)), some (.long (x7)), none, some (.int (nI a)), some (.int (nI p)), o, none, none, none, none] [.int (nI (pc (h p)))] (wd dr gs gd gz bq kq tq ld lq dc st dn h c L sz pl rv tr tu t b n dl ll lb ti pa tk sc hg e19 e20 e21 e22 Rv Iw Ho Go So r)
  refine hJ [209] 100 _ _ _ _ _ ⟨0, Nat.zero_le _, dl_46 (p := p) (s := 0) (wh := 0) hl (by omega) hp (by omega) (by omega) ?_⟩
  refine hJ [217] 100 _ _ _ _ _ ⟨0, Nat.zero_le _, dl_46 (p := p) (s := 1) (wh := 0) hl (by omega) hp (by omega) (by omega) ?_⟩
  refine hJ [226] 100 _ _ _ _ _ ⟨0, Nat.zero_le _, dl_46 (p := p) (s := 2) (wh := 0) hl (by omega) hp (by omega) (by omega) ?_⟩
  refine hJ [235] 100 _ _ _ _ _ ⟨0, Nat.zero_le _, dl_46 (p := p) (s := 3) (wh := 0) hl (by omega) hp (by omega) (by omega) ?_⟩
  refine hJ [241] 100 _ _ _ _ _ ⟨fun _ => ?_, fun q => absurd (hv_sum h p) q⟩
  refine hJ [178, 246] 100 _ _ _ _ _ ⟨fun _ => hK', fun q => ?_⟩
  have hne : h p ≠ 0 := fun q2 => q (by rw [q2, pc_zero.mpr rfl]; decide)
  obtain ⟨s1, s2, s3⟩ := sHi_lt hne
  have h41 := hv_41 hne
  have h42 := hv_42 hne
  have hlo := lo_hi hne
  refine hJ [257] 100 _ _ _ _ _ ⟨0, Nat.zero_le _, dl_46 (p := p) (s := 4) (wh := 1) hl (by omega) hp (by omega) (by omega) ?_⟩
  rw [h41]
  refine hJ [260] 100 _ _ _ _ _ ⟨0, Nat.zero_le _, dl_45 (p := p) hl (by omega) hp s1 ?_⟩
  rw [s2]
  refine hJ [271] 100 _ _ _ _ _ ⟨fun q => absurd q (by decide), fun _ => ⟨0, Nat.zero_le _, dl_46 (p := p) (s := 4) (wh := 2) hl (by omega) hp (by omega) (by omega) ?_⟩⟩
  rw [h42]
  refine hJ [279] 100 _ _ _ _ _ ⟨0, Nat.zero_le _, dl_46 (p := p) (s := 4) (wh := 1) hl (by omega) hp (by omega) (by omega) ?_⟩
  rw [h41]
  exact hJ [178] 100 _ _ _ _ _ ⟨fun _ => hK', fun q => absurd (nI_le hlo (by omega)) q⟩
set_option maxRecDepth 20000 in
theorem lk_A (hl : l.stackTraces = false) (hd : 60 ≤ d) (hJ : LJ l d J) (hI : (INV st h c L sz pl rv tr tu b n dl ll lb ti pa tk z kp)) (hK : ∀ t y, J k 290 [some (.float 0), some (.int (nI tm)), some (.ref 0), some (.ref 1), some (.int (nI s0)), some (.int (nI dd)), some (.int (nI sp)), some (.long (digV st dn h c L pl rv tr tu b n dl ll ti pa tk sc z kp)), none, some (.int (nI (pc (h 0) + pc (h 1) + pc (h 2) + pc (h 3)))), some (.int (nI 4)), some (.int (y)), none, none, none, none] [] (wd dr gs gd gz bq kq tq ld lq dc st dn h c L sz pl rv tr tu t b n dl ll lb ti pa tk sc hg e19 e20 e21 e22 Rv Iw Ho Go So r)) : J k 166 [some (.float 0), some (.int (nI tm)), some (.ref 0), some (.ref 1), some (.int (nI s0)), some (.int (nI dd)), some (.int (nI sp)), none, none, none, none, none, none, none, none, none] [] (wd dr gs gd gz bq kq tq ld lq dc st dn h c L sz pl rv tr tu t b n dl ll lb ti pa tk sc hg e19 e20 e21 e22 Rv Iw Ho Go So r) := by
  refine hJ [178] 100 _ _ _ _ _ ⟨0, Nat.zero_le _, dl_64 hl (by omega) (INV_GA hI) (fun t' => ?_)⟩
  have hp0 := pc_le (h 0)
  have hp1 := pc_le (h 1)
  have hp2 := pc_le (h 2)
  have hp3 := pc_le (h 3)
  refine lk_A1 (p := 0) (a := 0) hl hd hJ (by omega) (by omega) ?_
  rw [Nat.zero_add]
  refine lk_A1 (p := 1) hl hd hJ (by omega) (by omega) ?_
  refine lk_A1 (p := 2) hl hd hJ (by omega) (by omega) ?_
  refine lk_A1 (p := 3) hl hd hJ (by omega) (by omega) ?_
  exact hJ [290] 100 _ _ _ _ _ ⟨fun _ => hK _ _, fun q => absurd (by decide) q⟩
set_option maxRecDepth 20000 in
theorem lk_B (hl : l.stackTraces = false) (hd : 60 ≤ d) (hJ : LJ l d J) (hI : (INV st h c L sz pl rv tr tu b n dl ll lb ti pa tk z kp)) (hX : XI st h sz pl b n) (h1 : 1 ≤ st) (hgz : gz = sz) {y10 y11 : Int32} (hK : J k 333 [some (.float 0), some (.int (nI tm)), some (.ref 0), some (.ref 1), some (.int (nI s0)), some (.int (nI dd)), some (.int (nI sp)), some (.long (x7)), none, some (.int (nI (pc (h 0) + pc (h 1) + pc (h 2) + pc (h 3)))), some (.int (y10)), some (.int (y11)), none, none, none, none] [] (wd dr gs gd gz bq kq tq ld lq dc st dn h c L sz pl rv tr tu t b n dl ll lb ti pa tk sc hg e19 e20 e21 e22 Rv Iw Ho Go So r)) : J k 290 [some (.float 0), some (.int (nI tm)), some (.ref 0), some (.ref 1), some (.int (nI s0)), some (.int (nI dd)), some (.int (nI sp)), some (.long (x7)), none, some (.int (nI (pc (h 0) + pc (h 1) + pc (h 2) + pc (h 3)))), some (.int (y10)), some (.int (y11)), none, none, none, none] [] (wd dr gs gd gz bq kq tq ld lq dc st dn h c L sz pl rv tr tu t b n dl ll lb ti pa tk sc hg e19 e20 e21 e22 Rv Iw Ho Go So r) := by
  have hcs := inv_cards hI hX h1
  have hn := INV_n hI
  obtain ⟨⟨a1, a2, a3⟩, i0, i1, i2, i3, ⟨j1, j2, j3, j4, j5⟩, j6, j7, j8, j9, j10⟩ := hI
  have hL4 := j7 _ (Nat.le_refl _)
  refine hJ [297] 100 _ _ _ _ _ ⟨0, Nat.zero_le _, dl_55 (wh := 5) hl (by omega) (by omega) a1 a2 (by omega) j3 j4 j6 hL4 ?_⟩
  refine hJ [304] 100 _ _ _ _ _ ⟨0, Nat.zero_le _, dl_55 (wh := 4) hl (by omega) (by omega) a1 a2 (by omega) j3 j4 j6 hL4 ?_⟩
  have e1 : nI (pc (h 0) + pc (h 1) + pc (h 2) + pc (h 3)) + nI (pl % 4) + 4 * nI (pl / 4) = 4 * nI gz := by
    rw [show (4 : Int32) = nI 4 from rfl, pk_mul, pk_mul, nI_add, nI_add, hgz, ← hcs]
  have e2 : nI (pl / 4) * 4 ≤ 4 * nI gz := by
    rw [show (4 : Int32) = nI 4 from rfl, pk_mul, pk_mul]
    exact nI_le (by omega) (by omega)
  refine hJ [320] 100 _ _ _ _ _ ⟨fun _ => ⟨0, Nat.zero_le _, dl_55 (wh := 4) hl (by omega) (by omega) a1 a2 (by omega) j3 j4 j6 hL4 ?_⟩, fun q => absurd e1 q⟩
  exact hJ [333] 100 _ _ _ _ _ ⟨fun _ => hK, fun q => absurd e2 q⟩
end
