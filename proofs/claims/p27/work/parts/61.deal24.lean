/-! the law: the end of a deal, its deals, its times -/
theorem fq_ord {x : Jvm.FP.Core.Datum} (h : x ≠ .nan) : Jvm.FP.Core.order x x = some .eq := by
  cases x with
  | nan => exact absurd rfl h
  | inf s => simp [Jvm.FP.Core.order]
  | fin s c q => simp [Jvm.FP.Core.order]
theorem fq_nn {x : UInt64} (h : vf_n64 x) : Jvm.FP.Core.decode Jvm.FP.Core.b64 x.toNat ≠ .nan := by
  unfold vf_n64 at h
  rw [UInt64.le_iff_toNat_le, UInt64.toNat_and, show (0x7fffffffffffffff : UInt64).toNat = 2 ^ 63 - 1 by decide, Nat.and_two_pow_sub_one_eq_mod, show (0x7ff0000000000000 : UInt64).toNat = 2047 * 4503599627370496 by decide] at h
  show (if x.toNat / 4503599627370496 % 2048 = 2047 then (if x.toNat % 4503599627370496 = 0 then _ else _) else if x.toNat / 4503599627370496 % 2048 = 0 then _ else _) ≠ _
  by_cases e : x.toNat / 4503599627370496 % 2048 = 2047
  · rw [if_pos e, if_pos (by omega)]
    exact fun q => by cases q
  · rw [if_neg e]
    split
    · exact fun q => by cases q
    · exact fun q => by cases q
theorem fq_self {x : UInt64} (h : vf_n64 x) : Op.cmpValue (FP.dcmp x x) .l = 0 := by
  have : FP.dcmp x x = some .eq := fq_ord (fq_nn h)
  rw [this]
  rfl
section
variable {l : Launch} {d k : Nat} {Q : am_Q} {dr gs gd gz bq kq tq ld lq : Nat} {dc : Int32} {st : Nat} {dn : Int32} {h : Nat → Int32} {c L : Nat → Nat} {sz pl : Nat} {rv : Int32} {tr tu : Nat} {t : am_T5} {b : Nat → Nat} {n dl ll lb ti pa : Nat} {tk : Nat → Nat} {sc : Nat → Int32} {hg : Nat → Int32} {e19 e20 e21 e22 : am_E} {Rv Iw Ho Go So : Nat → Int32} {r : am_M}
variable {J : am_K} {z kp tm s0 dd sp : Nat}
set_option maxRecDepth 20000 in
theorem lk_end (hl : l.stackTraces = false) (hd : 60 ≤ d) (hJ : LJ l d J) {dk S : Nat} {w : am_M} (hN : NZ dr dk S st w) (hs0 : s0 ≤ S) (hSb : S < 2 ^ 31) (hdk : dk ≤ dd + 1) (hdd : dd < 9) (hK : ∀ w, NZ dr dk S st w → J k 34 [some (.float 0), some (.int (nI tm)), some (.ref 0), some (.ref 1), some (.int (nI S)), some (.int (nI (dd + 1))), some (.int (nI S)), none, none, none, none, none, none, none, none, none] [] w) : J k 809 [some (.float 0), some (.int (nI tm)), some (.ref 0), some (.ref 1), some (.int (nI s0)), some (.int (nI dd)), some (.int (nI sp)), none, none, none, none, none, none, none, none, none] [] w := by
  have hN0 := hN
  obtain ⟨gd, gz, ld, dc, h, c, L, sz, pl, rv, tr, tu, t, b, n, dl, ll, lb, ti, pa, tk, sc, hg, e19, e20, e21, e22, Rv, Iw, Ho, Go, So, r, z, kp, rfl, hI, hX, ⟨f1, f2, f3, f4, f5, f6, ⟨v0, v1, ev0, ev1, evS⟩⟩, hF⟩ := hN
  have hn := INV_n hI
  have hns := INV_stl hI
  obtain ⟨⟨a1, a2, a3⟩, i0, i1, i2, i3, ⟨j1, j2, j3, j4, j5⟩, j6, j7, j8, j9, j10⟩ := hI
  obtain ⟨b1, b2, b3, b4, b5, b6⟩ := AI_b a3
  have hL4 := j7 _ (Nat.le_refl _)
  have hL32 : ∀ i, i < pl → L (i / 4) < 4 := fun i hi => j7 _ (by omega)
  have es : sc 0 + sc 1 = nI S := by rw [ev0, ev1, nI_add, evS]
  have ed : nI dd + 1 = nI (dd + 1) := nI_add dd 1
  have h911 : J k 911 [some (.float 0), some (.int (nI tm)), some (.ref 0), some (.ref 1), some (.int (nI s0)), some (.int (nI dd)), some (.int (sc 0 + sc 1)), none, none, none, none, none, none, none, none, none] [] (wd dr st gd gz 19 20 21 ld 22 dc st (nI dk) h c L sz pl rv tr tu t b n dl ll lb ti pa tk sc hg e19 e20 e21 e22 Rv Iw Ho Go So r) := by
    have := hK _ hN0
    rw [← ed, ← es] at this
    exact hJ [34] 100 _ _ _ _ _ this
  refine hJ [815] 100 _ _ _ _ _ ⟨0, Nat.zero_le _, dl_56 (s := 0) (wh := 1) hl (by omega) (by omega) (by omega) j3 hL32 ?_⟩
  refine hJ [821] 100 _ _ _ _ _ ⟨0, Nat.zero_le _, dl_56 (s := 1) (wh := 1) hl (by omega) (by omega) (by omega) j3 hL32 ?_⟩
  have hlt : ¬ sc 0 + sc 1 < nI s0 := by rw [es]; exact Int32.not_lt.mpr (nI_le hs0 hSb)
  have h7 : ∀ {Q : am_Q}, Q (.inl (some (.int (nI dk)))) (wd dr st gd gz 19 20 21 ld 22 dc st (nI dk) h c L sz pl rv tr tu t b n dl ll lb ti pa tk sc hg e19 e20 e21 e22 Rv Iw Ho Go So r) → am_Call l d 55 0 [.ref 1, .int 7] (wd dr st gd gz 19 20 21 ld 22 dc st (nI dk) h c L sz pl rv tr tu t b n dl ll lb ti pa tk sc hg e19 e20 e21 e22 Rv Iw Ho Go So r) Q := fun hq => dl_55 (wh := 7) hl (by omega) (by omega) a1 a2 (by omega) j3 j4 j6 hL4 hq
  refine hJ [837] 100 _ _ _ _ _ ⟨fun q => absurd q hlt, fun _ => ⟨0, Nat.zero_le _, h7 ?_⟩⟩
  have hgt : ¬ nI dd + 1 < nI dk := by rw [ed]; exact Int32.not_lt.mpr (nI_le hdk (by omega))
  refine hJ [850] 100 _ _ _ _ _ ⟨fun q => absurd q hgt, fun _ => ⟨0, Nat.zero_le _, h7 ?_⟩⟩
  have h872 : J k 872 [some (.float 0), some (.int (nI tm)), some (.ref 0), some (.ref 1), some (.int (nI s0)), some (.int (nI dd)), some (.int (sc 0 + sc 1)), none, none, none, none, none, none, none, none, none] [] (wd dr st gd gz 19 20 21 ld 22 dc st (nI dk) h c L sz pl rv tr tu t b n dl ll lb ti pa tk sc hg e19 e20 e21 e22 Rv Iw Ho Go So r) := by
    refine hJ [877] 100 _ _ _ _ _ ⟨0, Nat.zero_le _, dl_55 (wh := 0) hl (by omega) (by omega) a1 a2 (by omega) j3 j4 j6 hL4 ?_⟩
    refine hJ [881, 911] 100 _ _ _ _ _ (beq (a := st) (b := 3) (by omega) (by omega) (fun e => ?_) (fun _ => h911))
    refine hJ [886] 100 _ _ _ _ _ ⟨0, Nat.zero_le _, dl_50 (wh := 0) (z := z) hl (by omega) (by omega) b1 b2 a2 hn (by omega) a3.1 j10 ?_⟩
    refine hJ [889, 911] 100 _ _ _ _ _ ⟨fun _ => h911, fun q => ?_⟩
    have hst : stl ll pa = true := by
      cases e2 : stl ll pa with
      | true => rfl
      | false =>
        have : conV ll ti pa ((dl + z) % 4) 0 = -1 := if_pos e2
        rw [this] at q
        exact absurd (by decide) q
    have hLV : 0 < LV b n := by rcases hns.mp hst with q2 | q2 <;> omega
    have hpz := (hX e).2 hLV
    refine hJ [895] 100 _ _ _ _ _ ⟨0, Nat.zero_le _, dl_56 (s := 0) (wh := 0) hl (by omega) (by omega) (by omega) j3 hL32 ?_⟩
    refine hJ [901] 100 _ _ _ _ _ ⟨0, Nat.zero_le _, dl_56 (s := 1) (wh := 0) hl (by omega) (by omega) (by omega) j3 hL32 ?_⟩
    have eg : nI (tk 0) + nI (tk 1) = nI gz := by rw [nI_add, j9, f2, hpz]
    exact hJ [911] 100 _ _ _ _ _ ⟨fun _ => h911, fun q => absurd eg q⟩
  refine hJ [853, 872] 100 _ _ _ _ _ ⟨fun _ => h872, fun q => ?_⟩
  have hne : nI dk ≠ 0 := fun e => q (by rw [e]; decide)
  have hv := fq_ddiv (sc 0 + sc 1) (nI dk) hne
  refine hJ [857] 100 _ _ _ _ _ ⟨0, Nat.zero_le _, dl_57 hl (by omega) ?_⟩
  rw [mnV, if_neg hne]
  refine hJ [866] 100 _ _ _ _ _ ⟨0, Nat.zero_le _, h7 ?_⟩
  exact hJ [872] 100 _ _ _ _ _ ⟨hv, ⟨fun _ => h872, fun q2 => absurd (fq_self hv) q2⟩⟩
set_option maxRecDepth 20000 in
theorem lk_deals (hl : l.stackTraces = false) (hd : 60 ≤ d) (hJ : LJ l d J) (hGC : am_GC J) {kE : Nat} (hE : ∀ k w (s0 : Nat) (y6 : Option Value), kE ≤ k → J k 921 [some (.float 0), some (.int (nI tm)), some (.ref 0), some (.ref 1), some (.int (nI s0)), some (.int (nI 3)), y6, none, none, none, none, none, none, none, none, none] [] w) : ∀ (m dd k dr dk S st : Nat) (y6 : Option Value) (w : am_M), dd + m = 3 → kE + 174 * m ≤ k → dr + 106 * m ≤ 1000 → S ≤ 2000 * dk → dk ≤ dd → NZ dr dk S st w → J k 34 [some (.float 0), some (.int (nI tm)), some (.ref 0), some (.ref 1), some (.int (nI S)), some (.int (nI dd)), y6, none, none, none, none, none, none, none, none, none] [] w := by
  intro m
  induction m with
  | zero =>
    intro dd k dr dk S st y6 w hdd hk hdr hS hdk hN
    have hdd' : dd = 3 := hdd
    subst hdd'
    exact hJ [921] 100 _ _ _ _ _ ⟨fun _ => hE _ _ _ _ (by omega), fun q => absurd (by decide) q⟩
  | succ m ih =>
    intro dd k dr dk S st y6 w hdd hk hdr hS hdk hN
    obtain ⟨k4, rfl⟩ : ∃ k4, k = k4 + 4 := ⟨k - 4, by omega⟩
    have hN0 := hN
    obtain ⟨gd, gz, ld, dc, h, c, L, sz, pl, rv, tr, tu, t, b, n, dl, ll, lb, ti, pa, tk, sc, hg, e19, e20, e21, e22, Rv, Iw, Ho, Go, So, r, z, kp, rfl, hI, hX, hR, hF⟩ := hN
    refine hJ [44] 100 _ _ _ _ _ (ble (a := 3) (b := dd) (by omega) (by omega) (fun q => absurd q (by omega)) (fun _ => ⟨4, by omega, rl_begin (k := 0) hl (by omega) hN0 (by omega) (fun w1 hB1 => ?_)⟩))
    have hB1' := hB1
    obtain ⟨gd, gz, bq, kq, tq, ld, lq, dc, h, c, L, sz, pl, rv, tr, tu, t, b, n, dl, ll, lb, ti, pa, tk, sc, hg, e19, e20, e21, e22, Rv, Iw, Ho, Go, So, r, z, kp, rfl, _⟩ := hB1
    refine hJ [54] 100 _ _ _ _ _ ⟨fun q => absurd q (by decide), fun _ => ⟨0, Nat.zero_le _, rl_draw (m := 5) hl (by omega) hB1' (by omega) (by omega) (by omega) (fun j w2 hj hB2 => ?_)⟩⟩
    have hB2' := hB2
    obtain ⟨gd, gz, bq, kq, tq, ld, lq, dc, h, c, L, sz, pl, rv, tr, tu, t, b, n, dl, ll, lb, ti, pa, tk, sc, hg, e19, e20, e21, e22, Rv, Iw, Ho, Go, So, r, z, kp, rfl, _⟩ := hB2
    have e1 : 1 + nI j = nI (1 + j) := nI_add 1 j
    have hdl : ∀ {Q : am_Q} {w : am_M}, am_Call l d 97 0 [.ref 0, .int (nI (1 + j))] w Q → am_Call l d 97 0 [.ref 0, .int (1 + nI j)] w Q := by
      intro Q w hq
      rw [e1]
      exact hq
    refine hJ [58] 100 _ _ _ _ _ ⟨0, Nat.zero_le _, hdl (rl_deal (m := 1 + j) hl (by omega) hB2' (by omega) (by omega) (fun w3 hB3 => ?_))⟩
    have hB3' := hB3
    obtain ⟨gd, gz, bq, kq, tq, ld, lq, dc, h, c, L, sz, pl, rv, tr, tu, t, b, n, dl, ll, lb, ti, pa, tk, sc, hg, e19, e20, e21, e22, Rv, Iw, Ho, Go, So, r, z, kp, rfl, _⟩ := hB3
    refine hJ [65] 100 _ _ _ _ _ ⟨fun q => absurd q (by decide), fun _ => ⟨0, Nat.zero_le _, rl_open hl (by omega) hB3' (by omega) (fun w4 hw4 => ?_)⟩⟩
    refine hJ [73] 100 _ _ _ _ _ ⟨fun q => absurd q (by decide), fun _ => ?_⟩
    refine lk_gc (s0 := S) (sp := 0) hGC (o7 := none) (o8 := none) (o9 := none) (o10 := none) (o11 := none) (o12 := none) (o13 := none) (o14 := none) (o15 := none) hw4 (fun w5 hN5 => ?_)
    refine lk_steps (kE := kE + 174 * m) (drE := 1000 - 106 * m) hl hd hJ hGC (by omega) (by omega) ?_ 34 0 _ _ dk S 1 w5 rfl (by omega) (by omega) (Nat.le_refl _) hS (by omega) (fun _ => by omega) (Nat.le_refl _) hN5
    intro k' dr' dk' S' st' w' sp' hk' hdr' hs0' hS' hdk' hst' hN'
    refine lk_end hl hd hJ hN' hs0' (by omega) hdk' (by omega) (fun w6 hN6 => ?_)
    exact ih (dd + 1) k' dr' dk' S' st' (some (.int (nI S'))) w6 (by omega) hk' (by omega) hS' hdk' hN6
end
