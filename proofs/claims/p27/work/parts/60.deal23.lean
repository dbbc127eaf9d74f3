/-! the law: its steps -/
section
variable {l : Launch} {d k : Nat} {Q : am_Q} {dr gs gd gz bq kq tq ld lq : Nat} {dc : Int32} {st : Nat} {dn : Int32} {h : Nat → Int32} {c L : Nat → Nat} {sz pl : Nat} {rv : Int32} {tr tu : Nat} {t : am_T5} {b : Nat → Nat} {n dl ll lb ti pa : Nat} {tk : Nat → Nat} {sc : Nat → Int32} {hg : Nat → Int32} {e19 e20 e21 e22 : am_E} {Rv Iw Ho Go So : Nat → Int32} {r : am_M}
variable {J : am_K} {z kp tm s0 dd sp : Nat}
theorem lk_chk (hl : l.stackTraces = false) (hd : 60 ≤ d) (hJ : LJ l d J) {dk S : Nat} {w : am_M} (hN : NZ dr dk S st w) (h1 : 1 ≤ st) (hs0 : s0 ≤ S) (hSb : S < 2 ^ 31) (hK : ∀ w x7 x9 y10 y11 o12 o13 o14 o15, NZ dr dk S st w → J k 803 [some (.float 0), some (.int (nI tm)), some (.ref 0), some (.ref 1), some (.int (nI s0)), some (.int (nI dd)), some (.int (nI sp)), some (.long (x7)), none, some (.int (x9)), some (.int (y10)), some (.int (y11)), o12, o13, o14, o15] [] w) : J k 166 [some (.float 0), some (.int (nI tm)), some (.ref 0), some (.ref 1), some (.int (nI s0)), some (.int (nI dd)), some (.int (nI sp)), none, none, none, none, none, none, none, none, none] [] w := by
  obtain ⟨gd, gz, ld, dc, h, c, L, sz, pl, rv, tr, tu, t, b, n, dl, ll, lb, ti, pa, tk, sc, hg, e19, e20, e21, e22, Rv, Iw, Ho, Go, So, r, z, kp, rfl, hI, hX, hR, hF⟩ := hN
  have hR' := hR
  obtain ⟨f1, f2, f3, f4, f5, f6, f7⟩ := hR'
  refine lk_A hl hd hJ hI (fun t1 y1 => lk_B hl hd hJ hI hX h1 f2 (lk_C hl hd hJ hI (fun t2 y2 y3 => lk_D hl hd hJ hI (fun t3 y4 y5 o12 o13 o14 o15 => lk_E hl hd hJ hI (fun y6 => lk_F hl hd hJ hI f7 hs0 hSb (fun t4 x7 => hK _ _ _ _ _ _ _ _ _ ?_))))))
  exact ⟨gd, gz, ld, dc, h, c, L, sz, pl, rv, tr, tu, t4, b, n, dl, ll, lb, ti, pa, tk, sc, hg, e19, e20, e21, e22, Rv, Iw, Ho, Go, So, r, z, kp, rfl, hI, hX, hR, hF⟩
theorem wl_sub {o7 o8 o9 o10 o11 o12 o13 o14 o15 : Option Value} : ∀ (j : Nat) (v : Value), [some (.float 0), some (.int (nI tm)), some (.ref 0), some (.ref 1), some (.int (nI s0)), some (.int (nI dd)), some (.int (nI sp)), none, none, none, none, none, none, none, none, none][j]? = some (some v) → [some (.float 0), some (.int (nI tm)), some (.ref 0), some (.ref 1), some (.int (nI s0)), some (.int (nI dd)), some (.int (nI sp)), o7, o8, o9, o10, o11, o12, o13, o14, o15][j]? = some (some v) := by
    intro j v hv
    match j, hv with
    | 0, hv => exact hv
    | 1, hv => exact hv
    | 2, hv => exact hv
    | 3, hv => exact hv
    | 4, hv => exact hv
    | 5, hv => exact hv
    | 6, hv => exact hv
    | 7, hv => cases hv
    | 8, hv => cases hv
    | 9, hv => cases hv
    | 10, hv => cases hv
    | 11, hv => cases hv
    | 12, hv => cases hv
    | 13, hv => cases hv
    | 14, hv => cases hv
    | 15, hv => cases hv
    | j + 16, hv => cases hv
theorem wl_ok : ∀ v, some v ∈ [some (.float 0), some (.int (nI tm)), some (.ref 0), some (.ref 1), some (.int (nI s0)), some (.int (nI dd)), some (.int (nI sp)), none, none, none, none, none, none, none, none, none] → ok2 v := by
    intro v hv
    simp only [List.mem_cons, Option.some.injEq, List.not_mem_nil, or_false] at hv
    rcases hv with rfl | rfl | rfl | rfl | rfl | rfl | rfl | hv
    · trivial
    · trivial
    · exact (by decide : (0 : Nat) < 2)
    · exact (by decide : (1 : Nat) < 2)
    · trivial
    · trivial
    · trivial
    · simp at hv
/-- at a loop's head: what nobody names any more is left out -/
theorem lk_gc (hGC : am_GC J) {pc0 dk S : Nat} {w : am_M} {o7 o8 o9 o10 o11 o12 o13 o14 o15 : Option Value} (hw : LR dr dk S st w) (hN : ∀ w', NZ dr dk S st w' → J k pc0 [some (.float 0), some (.int (nI tm)), some (.ref 0), some (.ref 1), some (.int (nI s0)), some (.int (nI dd)), some (.int (nI sp)), none, none, none, none, none, none, none, none, none] [] w') : J k pc0 [some (.float 0), some (.int (nI tm)), some (.ref 0), some (.ref 1), some (.int (nI s0)), some (.int (nI dd)), some (.int (nI sp)), o7, o8, o9, o10, o11, o12, o13, o14, o15] [] w :=
  gc_go (ls' := [some (.float 0), some (.int (nI tm)), some (.ref 0), some (.ref 1), some (.int (nI s0)), some (.int (nI dd)), some (.int (nI sp)), none, none, none, none, none, none, none, none, none]) hGC rfl wl_sub wl_ok hN hw
set_option maxRecDepth 20000 in
/-- behind a step: the checks, or none -/
theorem lk_135 (hl : l.stackTraces = false) (hd : 60 ≤ d) (hJ : LJ l d J) (hGC : am_GC J) {dk S : Nat} {w : am_M} (hw : LR dr dk S st w) (h1 : 1 ≤ st) (hs0 : s0 ≤ S) (hSb : S < 2 ^ 31) (hsp : sp < 34) (hK : ∀ w, NZ dr dk S st w → J k 73 [some (.float 0), some (.int (nI tm)), some (.ref 0), some (.ref 1), some (.int (nI s0)), some (.int (nI dd)), some (.int (nI (sp + 1))), none, none, none, none, none, none, none, none, none] [] w) : J k 135 [some (.float 0), some (.int (nI tm)), some (.ref 0), some (.ref 1), some (.int (nI s0)), some (.int (nI dd)), some (.int (nI sp)), none, none, none, none, none, none, none, none, none] [] w := by
  have e1 : nI sp + 1 = nI (sp + 1) := nI_add sp 1
  refine lk_gc hGC (o7 := none) (o8 := none) (o9 := none) (o10 := none) (o11 := none) (o12 := none) (o13 := none) (o14 := none) (o15 := none) hw (fun w hN => ?_)
  have h803 : ∀ w o7 o9 o10 o11 o12 o13 o14 o15, NZ dr dk S st w → J k 803 [some (.float 0), some (.int (nI tm)), some (.ref 0), some (.ref 1), some (.int (nI s0)), some (.int (nI dd)), some (.int (nI sp)), o7, none, o9, o10, o11, o12, o13, o14, o15] [] w := by
    intro w o7 o9 o10 o11 o12 o13 o14 o15 hN
    have : J k 73 [some (.float 0), some (.int (nI tm)), some (.ref 0), some (.ref 1), some (.int (nI s0)), some (.int (nI dd)), some (.int (nI sp + 1)), o7, none, o9, o10, o11, o12, o13, o14, o15] [] w := by
      rw [e1]
      exact lk_gc (sp := sp + 1) (o8 := none) hGC (NZ_LR hN) hK
    exact hJ [73] 100 _ _ _ _ _ this
  have h166 : ∀ w, NZ dr dk S st w → J k 166 [some (.float 0), some (.int (nI tm)), some (.ref 0), some (.ref 1), some (.int (nI s0)), some (.int (nI dd)), some (.int (nI sp)), none, none, none, none, none, none, none, none, none] [] w := fun w hN => lk_chk hl hd hJ hN h1 hs0 hSb (fun w x7 x9 y10 y11 o12 o13 o14 o15 hN => h803 w _ _ _ _ _ _ _ _ hN)
  have hN0 := hN
  obtain ⟨gd, gz, ld, dc, h, c, L, sz, pl, rv, tr, tu, t, b, n, dl, ll, lb, ti, pa, tk, sc, hg, e19, e20, e21, e22, Rv, Iw, Ho, Go, So, r, z, kp, rfl, hI, hX, ⟨f1, f2, f3, f4, f5, f6, f7⟩, bf, lf, kf, nk, ⟨hb, hbf⟩, ⟨hla, hlf⟩, ⟨hk, hkf⟩, ht, hlen, hrow⟩ := hN
  have hst := hI.1.1
  have hdl := hI.1.2.1
  have hnb := INV_n hI
  have e4 : nI sp - nI sp / nI 4 * nI 4 = nI (sp % 4) := i_mod (by omega) 4 (by omega) (by omega)
  refine hJ [143, 803] 100 _ _ _ _ _ ⟨by decide, beqx (a := sp % 4) (b := 3) e4 rfl (by omega) (by omega) (fun _ => ?_) (fun _ => h803 _ _ _ _ _ _ _ _ _ hN0)⟩
  refine hJ [151, 166] 100 _ _ _ _ _ (beq (a := st) (b := 2) (by omega) (by omega) (fun e => ?_) (fun _ => h166 _ hN0))
  subst e
  refine hJ [156] 100 _ _ _ _ _ ⟨0, Nat.zero_le _, cl_100 (bn := n) (ln := pl % 4) (bf := bf) (lf := lf) hl (by omega) (by omega) (by omega) f3 (fun _ => by rw [hb]; rfl) (by omega) (fun _ => by rw [hla]; rfl) (by omega) ?_⟩
  refine hJ [159] 100 _ _ _ _ _ ⟨0, Nat.zero_le _, cl_95 (p := (ld + pl % 4) % 4) hl (by omega) (by omega) ?_⟩
  have hp32 := pc_le (hg ((ld + pl % 4) % 4))
  exact hJ [803, 166] 100 _ _ _ _ _ (beq (a := pc (hg ((ld + pl % 4) % 4))) (b := 3) (by omega) (by omega) (fun _ => h803 _ _ _ _ _ _ _ _ _ hN0) (fun _ => h166 _ hN0))
set_option maxRecDepth 20000 in
theorem lk_steps (hl : l.stackTraces = false) (hd : 60 ≤ d) (hJ : LJ l d J) (hGC : am_GC J) {kE drE : Nat} (hdrE : drE < 2 ^ 20) (hdd : dd < 9) (hE : ∀ k dr dk S st w (sp : Nat), kE ≤ k → dr ≤ drE → s0 ≤ S → S ≤ 2000 * dk → dk ≤ dd + 1 → 1 ≤ st → NZ dr dk S st w → J k 809 [some (.float 0), some (.int (nI tm)), some (.ref 0), some (.ref 1), some (.int (nI s0)), some (.int (nI dd)), some (.int (nI sp)), none, none, none, none, none, none, none, none, none] [] w) : ∀ (m sp k dr dk S st : Nat) (w : am_M), sp + m = 34 → kE + 5 * m ≤ k → dr + 3 * m ≤ drE → s0 ≤ S → S ≤ 2000 * dk → dk ≤ dd + 1 → (st ≠ 3 → dk ≤ dd) → 1 ≤ st → NZ dr dk S st w → J k 73 [some (.float 0), some (.int (nI tm)), some (.ref 0), some (.ref 1), some (.int (nI s0)), some (.int (nI dd)), some (.int (nI sp)), none, none, none, none, none, none, none, none, none] [] w := by
  intro m
  induction m with
  | zero =>
    intro sp k dr dk S st w hsp hk hdr hs0 hS hdk hdk3 h1 hN
    have hsp' : sp = 34 := hsp
    subst hsp'
    exact hJ [809] 100 _ _ _ _ _ ⟨fun _ => hE _ _ _ _ _ _ _ (by omega) (by omega) hs0 hS hdk h1 hN, fun q => absurd (by decide) q⟩
  | succ m ih =>
    intro sp k dr dk S st w hsp hk hdr hs0 hS hdk hdk3 h1 hN
    have hN0 := hN
    obtain ⟨gd, gz, ld, dc, h, c, L, sz, pl, rv, tr, tu, t, b, n, dl, ll, lb, ti, pa, tk, sc, hg, e19, e20, e21, e22, Rv, Iw, Ho, Go, So, r, z, kp, rfl, hI, hX, hR, hF⟩ := hN
    have hst := hI.1.1
    obtain ⟨k5, rfl⟩ : ∃ k5, k = k5 + 5 := ⟨k - 5, by omega⟩
    refine hJ [809, 88] 100 _ _ _ _ _ (ble (a := 34) (b := sp) (by omega) (by omega) (fun q => absurd q (by omega)) (fun _ => ble (a := 3) (b := st) (by omega) (by omega) (fun _ => hE _ _ _ _ _ _ _ (by omega) (by omega) hs0 hS hdk h1 hN0) (fun q => ?_)))
    have hd3 := hdk3 (by omega)
    refine hJ [96, 126] 100 _ _ _ _ _ (beq (a := st) (b := 1) (by omega) (by omega) (fun e => ?_) (fun e => ?_))
    · subst e
      have hbid : ∀ (dr' bd : Nat) (w : am_M), dr' ≤ dr + 2 → bd < 43 → NZ dr' dk S 1 w → J (k5 + 5) 117 [some (.float 0), some (.int (nI tm)), some (.ref 0), some (.ref 1), some (.int (nI s0)), some (.int (nI dd)), some (.int (nI sp)), none, none, none, none, none, none, none, none, none] [.int (nI bd), .ref 0] w := by
        intro dr' bd w hdr' hbd hN
        have hN0 := hN
        obtain ⟨gd, gz, ld, dc, h, c, L, sz, pl, rv, tr, tu, t, b, n, dl, ll, lb, ti, pa, tk, sc, hg, e19, e20, e21, e22, Rv, Iw, Ho, Go, So, r, z, kp, rfl, hI, hX, hR, hF⟩ := hN
        refine hJ [120] 100 _ _ _ _ _ ⟨2, by omega, rl_bid (k := 0) hl (by omega) hN0 hbd (fun w' st' hst' hw' => ?_)⟩
        refine hJ [135] 100 _ _ _ _ _ ⟨fun q => absurd q (by decide), fun _ => ?_⟩
        exact lk_135 hl hd hJ hGC hw' (by omega) hs0 (by omega) (by omega) (fun w hN => ih (sp + 1) _ dr' dk S st' w (by omega) (by omega) (by omega) hs0 hS hdk (fun _ => hd3) (by omega) hN)
      refine hJ [102] 100 _ _ _ _ _ ⟨0, Nat.zero_le _, rl_drawZ (m := 3) hl (by omega) hN0 (by omega) (by omega) (by omega) (fun j w' hj hN1 => ?_)⟩
      refine hJ [117, 109] 100 _ _ _ _ _ (ble (a := j) (b := 0) (by omega) (by omega) (fun _ => ?_) (fun _ => hbid (dr + 1) 0 w' (by omega) (by omega) hN1))
      have hN2 := hN1
      obtain ⟨gd, gz, ld, dc, h, c, L, sz, pl, rv, tr, tu, t, b, n, dl, ll, lb, ti, pa, tk, sc, hg, e19, e20, e21, e22, Rv, Iw, Ho, Go, So, r, z, kp, rfl, hI, hX, hR, hF⟩ := hN1
      refine hJ [116] 100 _ _ _ _ _ ⟨0, Nat.zero_le _, rl_drawZ (m := 42) hl (by omega) hN2 (by omega) (by omega) (by omega) (fun j2 w2 hj2 hN3 => ?_)⟩
      have e1 : 1 + nI j2 = nI (1 + j2) := nI_add 1 j2
      have := hbid (dr + 1 + 1) (1 + j2) w2 (by omega) (by omega) hN3
      rw [← e1] at this
      exact hJ [117] 100 _ _ _ _ _ this
    · have e2 : st = 2 := by omega
      subst e2
      refine hJ [130] 100 _ _ _ _ _ ⟨5, by omega, rl_step (k := 0) hl (by omega) hN0 (by omega) (fun w' dr' hdr' hw' => ?_)⟩
      refine hJ [135] 100 _ _ _ _ _ ⟨fun q => absurd q (by decide), fun _ => ?_⟩
      rcases hw' with hw' | ⟨S', hS1, hS2, hw'⟩
      · exact lk_135 hl hd hJ hGC hw' (by omega) hs0 (by omega) (by omega) (fun w hN => ih (sp + 1) _ dr' dk S 2 w (by omega) (by omega) (by omega) hs0 hS hdk (fun _ => hd3) (by omega) hN)
      · exact lk_135 hl hd hJ hGC hw' (by omega) (by omega) (by omega) (by omega) (fun w hN => ih (sp + 1) _ dr' (dk + 1) S' 3 w (by omega) (by omega) (by omega) (by omega) (by omega) (by omega) (fun q => absurd rfl q) (by omega) hN)
end
