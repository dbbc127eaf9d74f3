/-! the law, case by case (printed out of part 44's table) -/
theorem lg_self (x : Int64) : lg_cmp x x = 0 := by
  unfold lg_cmp
  simp [Int64.lt_irrefl]
theorem lg_I {f2 : Nat → Int64} {bb : Int32} (h : f2 0 = cvI bb) : lg_cmp (f2 (Int32.toNatClampNeg 0)) bb.toInt64 = 0 := by
  rw [show Int32.toNatClampNeg 0 = 0 from rfl, h]
  exact lg_self _
theorem lg_Z0 {f2 : Nat → Int64} {bb : Int32} (h : f2 0 = cvZ bb) (e : bb = 0) : lg_cmp (f2 (Int32.toNatClampNeg 0)) 0 = 0 := by
  rw [show Int32.toNatClampNeg 0 = 0 from rfl, h, cvZ, if_pos e]
  exact lg_self _
theorem lg_Z1 {f2 : Nat → Int64} {bb : Int32} (h : f2 0 = cvZ bb) (e : ¬ bb = 0) : lg_cmp (f2 (Int32.toNatClampNeg 0)) 1 = 0 := by
  rw [show Int32.toNatClampNeg 0 = 0 from rfl, h, cvZ, if_neg e]
  exact lg_self _
theorem k3_0 {kk : Nat} (h : kk < 3) (e : nI kk = 0) : kk = 0 := (by decide +kernel : ∀ x, x < 3 → nI x = 0 → x = 0) kk h e
theorem lg_eq {x y : Int64} (h : x = y) : lg_cmp x y = 0 := by rw [h]; exact lg_self _
section
variable {l : Launch} {d L i k : Nat} {xs : Nat → Int32} {J : am_K} {w : am_M} {th : Nat} {f : Nat → Int64} {o5 o6 o7 o8 : Option Value}
set_option maxRecDepth 20000 in
theorem lc_0 (hl : l.stackTraces = false) (hd : 60 ≤ d) (hL : L ≤ 2048) (hJ : ∀ (stop : List Nat) (n k pc : Nat) (ls : am_L) (st : am_S) (w : am_M), am_run (tb_L L xs (am_Call l d) Q_L) J stop n k pc ls st w → J k pc ls st w) (hi : i + 4 ≤ L) (hk : 2 ≤ k) (hw : REL w th f) (hnext : ∀ (k2 : Nat) (w2 : am_M) (th2 : Nat) (f2 : Nat → Int64) (p5 p6 p7 p8 : Option Value), k - 2 ≤ k2 → REL w2 th2 f2 → J k2 1442 [some Value.null, some (Value.ref 0), some (Value.ref 13), some (Value.ref 28), some (Value.int (nI i)), p5, p6, p7, p8] [] w2) : J k 148 [some Value.null, some (Value.ref 0), some (Value.ref 13), some (Value.ref 28), some (Value.int (nI i)), o5, o6, o7, o8] [] w := by
  have e1 : nI i + 1 = nI (i + 1) := nI_add i 1
  refine hJ [159] 100 _ _ _ _ _ ⟨vin e1 (by omega) (by omega), ⟨1, by omega, st_begin hl hd hw (xs (nI i + 1).toNatClampNeg) _ (fun kk w1 hkk h13 h2 => ?_)⟩⟩
  obtain ⟨fs, h13⟩ := h13
  refine hJ [171] 100 _ _ _ _ _ ⟨vin e1 (by omega) (by omega), (ar_ld h13 ⟨1, by omega, h2 _ (fun bb w2 f2 hw2 hf2 => ?_)⟩)⟩
  obtain ⟨st, dn, h, c, L0, sz, pl, rv, tr, tu, t, b, n, dl, ll, lb, ti, pa, tk, sc, szM, bq, lv, trM, dcM, tiM, tc, T, ldM, ly, K, V, I, R, e5, r, N, bm, z, kp, rfl, hI, hM⟩ := hw2
  have hn := fun (k2 : Nat) (hk2 : k - 2 ≤ k2) (p5 p6 : Option Value) => hnext k2 _ kk f2 p5 p6 o7 o8 hk2 (REL_mk (th := kk) (f := f2) (dn := dn) (t := t) (sc := sc) (R := R) hI hM)
  exact hJ [1442] 100 _ _ _ _ _ ⟨0, Nat.zero_le _, cl_93 hl (by omega) ⟨fun _ => ⟨fun q => ⟨nI_in (c := 0) (by omega) (by omega), ⟨fun _ => hn _ (by omega) _ _, fun q2 => absurd (lg_I (hf2 (k3_0 hkk q))) q2⟩⟩, fun _ => hn _ (by omega) _ _⟩, fun q => absurd rfl q⟩⟩
set_option maxRecDepth 20000 in
theorem lc_1 (hl : l.stackTraces = false) (hd : 60 ≤ d) (hL : L ≤ 2048) (hJ : ∀ (stop : List Nat) (n k pc : Nat) (ls : am_L) (st : am_S) (w : am_M), am_run (tb_L L xs (am_Call l d) Q_L) J stop n k pc ls st w → J k pc ls st w) (hi : i + 4 ≤ L) (hk : 2 ≤ k) (hw : REL w th f) (hnext : ∀ (k2 : Nat) (w2 : am_M) (th2 : Nat) (f2 : Nat → Int64) (p5 p6 p7 p8 : Option Value), k - 2 ≤ k2 → REL w2 th2 f2 → J k2 1442 [some Value.null, some (Value.ref 0), some (Value.ref 13), some (Value.ref 28), some (Value.int (nI i)), p5, p6, p7, p8] [] w2) : J k 204 [some Value.null, some (Value.ref 0), some (Value.ref 13), some (Value.ref 28), some (Value.int (nI i)), o5, o6, o7, o8] [] w := by
  have e1 : nI i + 1 = nI (i + 1) := nI_add i 1
  have e2 : nI i + 2 = nI (i + 2) := nI_add i 2
  have e3 : nI i + 3 = nI (i + 3) := nI_add i 3
  refine hJ [227] 100 _ _ _ _ _ ⟨vin e1 (by omega) (by omega), ⟨vin e2 (by omega) (by omega), ⟨vin e3 (by omega) (by omega), ⟨1, by omega, st_deal hl hd hw (xs (nI i + 1).toNatClampNeg) (xs (nI i + 2).toNatClampNeg) (xs (nI i + 3).toNatClampNeg) _ (fun kk w1 hkk h13 h2 => ?_)⟩⟩⟩⟩
  obtain ⟨fs, h13⟩ := h13
  refine hJ [251] 100 _ _ _ _ _ ⟨vin e1 (by omega) (by omega), ⟨vin e2 (by omega) (by omega), ⟨vin e3 (by omega) (by omega), (ar_ld h13 ⟨1, by omega, h2 _ (fun bb w2 f2 hw2 hf2 => ?_)⟩)⟩⟩⟩
  obtain ⟨st, dn, h, c, L0, sz, pl, rv, tr, tu, t, b, n, dl, ll, lb, ti, pa, tk, sc, szM, bq, lv, trM, dcM, tiM, tc, T, ldM, ly, K, V, I, R, e5, r, N, bm, z, kp, rfl, hI, hM⟩ := hw2
  have hn := fun (k2 : Nat) (hk2 : k - 2 ≤ k2) (p5 p6 : Option Value) => hnext k2 _ kk f2 p5 p6 o7 o8 hk2 (REL_mk (th := kk) (f := f2) (dn := dn) (t := t) (sc := sc) (R := R) hI hM)
  exact hJ [1442] 100 _ _ _ _ _ ⟨0, Nat.zero_le _, cl_93 hl (by omega) ⟨fun _ => ⟨fun q => ⟨nI_in (c := 0) (by omega) (by omega), ⟨fun _ => hn _ (by omega) _ _, fun q2 => absurd (lg_I (hf2 (k3_0 hkk q))) q2⟩⟩, fun _ => hn _ (by omega) _ _⟩, fun q => absurd rfl q⟩⟩
set_option maxRecDepth 20000 in
theorem lc_2 (hl : l.stackTraces = false) (hd : 60 ≤ d) (hL : L ≤ 2048) (hJ : ∀ (stop : List Nat) (n k pc : Nat) (ls : am_L) (st : am_S) (w : am_M), am_run (tb_L L xs (am_Call l d) Q_L) J stop n k pc ls st w → J k pc ls st w) (hi : i + 4 ≤ L) (hk : 2 ≤ k) (hw : REL w th f) (hnext : ∀ (k2 : Nat) (w2 : am_M) (th2 : Nat) (f2 : Nat → Int64) (p5 p6 p7 p8 : Option Value), k - 2 ≤ k2 → REL w2 th2 f2 → J k2 1442 [some Value.null, some (Value.ref 0), some (Value.ref 13), some (Value.ref 28), some (Value.int (nI i)), p5, p6, p7, p8] [] w2) : J k 284 [some Value.null, some (Value.ref 0), some (Value.ref 13), some (Value.ref 28), some (Value.int (nI i)), o5, o6, o7, o8] [] w := by
  have e1 : nI i + 1 = nI (i + 1) := nI_add i 1
  have e2 : nI i + 2 = nI (i + 2) := nI_add i 2
  refine hJ [301] 100 _ _ _ _ _ ⟨vin e1 (by omega) (by omega), ⟨vin e2 (by omega) (by omega), ⟨1, by omega, st_give hl hd hw (xs (nI i + 1).toNatClampNeg) (xs (nI i + 2).toNatClampNeg) _ (fun kk w1 hkk h13 h2 => ?_)⟩⟩⟩
  obtain ⟨fs, h13⟩ := h13
  refine hJ [319] 100 _ _ _ _ _ ⟨vin e1 (by omega) (by omega), ⟨vin e2 (by omega) (by omega), (ar_ld h13 ⟨1, by omega, h2 _ (fun bb w2 f2 hw2 hf2 => ?_)⟩)⟩⟩
  obtain ⟨st, dn, h, c, L0, sz, pl, rv, tr, tu, t, b, n, dl, ll, lb, ti, pa, tk, sc, szM, bq, lv, trM, dcM, tiM, tc, T, ldM, ly, K, V, I, R, e5, r, N, bm, z, kp, rfl, hI, hM⟩ := hw2
  have hn := fun (k2 : Nat) (hk2 : k - 2 ≤ k2) (p5 p6 : Option Value) => hnext k2 _ kk f2 p5 p6 o7 o8 hk2 (REL_mk (th := kk) (f := f2) (dn := dn) (t := t) (sc := sc) (R := R) hI hM)
  exact hJ [1442] 100 _ _ _ _ _ ⟨0, Nat.zero_le _, cl_93 hl (by omega) ⟨fun _ => ⟨fun q => ⟨nI_in (c := 0) (by omega) (by omega), ⟨fun _ => hn _ (by omega) _ _, fun q2 => absurd (lg_I (hf2 (k3_0 hkk q))) q2⟩⟩, fun _ => hn _ (by omega) _ _⟩, fun q => absurd rfl q⟩⟩
set_option maxRecDepth 20000 in
theorem lc_3 (hl : l.stackTraces = false) (hd : 60 ≤ d) (hL : L ≤ 2048) (hJ : ∀ (stop : List Nat) (n k pc : Nat) (ls : am_L) (st : am_S) (w : am_M), am_run (tb_L L xs (am_Call l d) Q_L) J stop n k pc ls st w → J k pc ls st w) (hi : i + 4 ≤ L) (hk : 2 ≤ k) (hw : REL w th f) (hnext : ∀ (k2 : Nat) (w2 : am_M) (th2 : Nat) (f2 : Nat → Int64) (p5 p6 p7 p8 : Option Value), k - 2 ≤ k2 → REL w2 th2 f2 → J k2 1442 [some Value.null, some (Value.ref 0), some (Value.ref 13), some (Value.ref 28), some (Value.int (nI i)), p5, p6, p7, p8] [] w2) : J k 352 [some Value.null, some (Value.ref 0), some (Value.ref 13), some (Value.ref 28), some (Value.int (nI i)), o5, o6, o7, o8] [] w := by
  refine hJ [357] 100 _ _ _ _ _ ⟨1, by omega, st_open hl hd hw  _ (fun kk w1 hkk h13 h2 => ?_)⟩
  obtain ⟨fs, h13⟩ := h13
  refine hJ [363] 100 _ _ _ _ _ (ar_ld h13 ⟨1, by omega, h2 _ (fun bb w2 f2 hw2 hf2 => ?_)⟩)
  obtain ⟨st, dn, h, c, L0, sz, pl, rv, tr, tu, t, b, n, dl, ll, lb, ti, pa, tk, sc, szM, bq, lv, trM, dcM, tiM, tc, T, ldM, ly, K, V, I, R, e5, r, N, bm, z, kp, rfl, hI, hM⟩ := hw2
  have hn := fun (k2 : Nat) (hk2 : k - 2 ≤ k2) (p5 p6 : Option Value) => hnext k2 _ kk f2 p5 p6 o7 o8 hk2 (REL_mk (th := kk) (f := f2) (dn := dn) (t := t) (sc := sc) (R := R) hI hM)
  exact hJ [1442] 100 _ _ _ _ _ ⟨0, Nat.zero_le _, cl_93 hl (by omega) ⟨fun _ => ⟨fun q => ⟨nI_in (c := 0) (by omega) (by omega), ⟨fun _ => hn _ (by omega) _ _, fun q2 => absurd (lg_I (hf2 (k3_0 hkk q))) q2⟩⟩, fun _ => hn _ (by omega) _ _⟩, fun q => absurd rfl q⟩⟩
set_option maxRecDepth 20000 in
theorem lc_4 (hl : l.stackTraces = false) (hd : 60 ≤ d) (hL : L ≤ 2048) (hJ : ∀ (stop : List Nat) (n k pc : Nat) (ls : am_L) (st : am_S) (w : am_M), am_run (tb_L L xs (am_Call l d) Q_L) J stop n k pc ls st w → J k pc ls st w) (hi : i + 4 ≤ L) (hk : 2 ≤ k) (hw : REL w th f) (hnext : ∀ (k2 : Nat) (w2 : am_M) (th2 : Nat) (f2 : Nat → Int64) (p5 p6 p7 p8 : Option Value), k - 2 ≤ k2 → REL w2 th2 f2 → J k2 1442 [some Value.null, some (Value.ref 0), some (Value.ref 13), some (Value.ref 28), some (Value.int (nI i)), p5, p6, p7, p8] [] w2) : J k 396 [some Value.null, some (Value.ref 0), some (Value.ref 13), some (Value.ref 28), some (Value.int (nI i)), o5, o6, o7, o8] [] w := by
  have e1 : nI i + 1 = nI (i + 1) := nI_add i 1
  have e2 : nI i + 2 = nI (i + 2) := nI_add i 2
  refine hJ [413] 100 _ _ _ _ _ ⟨vin e1 (by omega) (by omega), ⟨vin e2 (by omega) (by omega), ⟨1, by omega, st_has hl hd hw (xs (nI i + 1).toNatClampNeg) (xs (nI i + 2).toNatClampNeg) _ (fun kk w1 hkk h13 h2 => ?_)⟩⟩⟩
  obtain ⟨fs, h13⟩ := h13
  refine hJ [431] 100 _ _ _ _ _ ⟨vin e1 (by omega) (by omega), ⟨vin e2 (by omega) (by omega), (ar_ld h13 ⟨1, by omega, h2 _ (fun bb w2 f2 hw2 hf2 => ?_)⟩)⟩⟩
  obtain ⟨st, dn, h, c, L0, sz, pl, rv, tr, tu, t, b, n, dl, ll, lb, ti, pa, tk, sc, szM, bq, lv, trM, dcM, tiM, tc, T, ldM, ly, K, V, I, R, e5, r, N, bm, z, kp, rfl, hI, hM⟩ := hw2
  have hn := fun (k2 : Nat) (hk2 : k - 2 ≤ k2) (p5 p6 : Option Value) => hnext k2 _ kk f2 p5 p6 o7 o8 hk2 (REL_mk (th := kk) (f := f2) (dn := dn) (t := t) (sc := sc) (R := R) hI hM)
  exact hJ [1442] 100 _ _ _ _ _ ⟨0, Nat.zero_le _, cl_93 hl (by omega) ⟨fun _ => ⟨fun q => ⟨nI_in (c := 0) (by omega) (by omega), ⟨fun q0 => ⟨fun _ => hn _ (by omega) _ _, fun q2 => absurd (lg_Z0 (hf2 (k3_0 hkk q)) q0) q2⟩, fun q0 => ⟨fun _ => hn _ (by omega) _ _, fun q2 => absurd (lg_Z1 (hf2 (k3_0 hkk q)) q0) q2⟩⟩⟩, fun _ => hn _ (by omega) _ _⟩, fun q => absurd rfl q⟩⟩
set_option maxRecDepth 20000 in
theorem lc_5 (hl : l.stackTraces = false) (hd : 60 ≤ d) (hL : L ≤ 2048) (hJ : ∀ (stop : List Nat) (n k pc : Nat) (ls : am_L) (st : am_S) (w : am_M), am_run (tb_L L xs (am_Call l d) Q_L) J stop n k pc ls st w → J k pc ls st w) (hi : i + 4 ≤ L) (hk : 2 ≤ k) (hw : REL w th f) (hnext : ∀ (k2 : Nat) (w2 : am_M) (th2 : Nat) (f2 : Nat → Int64) (p5 p6 p7 p8 : Option Value), k - 2 ≤ k2 → REL w2 th2 f2 → J k2 1442 [some Value.null, some (Value.ref 0), some (Value.ref 13), some (Value.ref 28), some (Value.int (nI i)), p5, p6, p7, p8] [] w2) : J k 471 [some Value.null, some (Value.ref 0), some (Value.ref 13), some (Value.ref 28), some (Value.int (nI i)), o5, o6, o7, o8] [] w := by
  have e1 : nI i + 1 = nI (i + 1) := nI_add i 1
  have e2 : nI i + 2 = nI (i + 2) := nI_add i 2
  have e3 : nI i + 3 = nI (i + 3) := nI_add i 3
  refine hJ [494] 100 _ _ _ _ _ ⟨vin e1 (by omega) (by omega), ⟨vin e2 (by omega) (by omega), ⟨vin e3 (by omega) (by omega), ⟨1, by omega, st_hand hl hd hw (xs (nI i + 1).toNatClampNeg) (xs (nI i + 2).toNatClampNeg) (xs (nI i + 3).toNatClampNeg) _ (fun kk w1 hkk h13 h2 => ?_)⟩⟩⟩⟩
  obtain ⟨fs, h13⟩ := h13
  refine hJ [518] 100 _ _ _ _ _ ⟨vin e1 (by omega) (by omega), ⟨vin e2 (by omega) (by omega), ⟨vin e3 (by omega) (by omega), (ar_ld h13 ⟨1, by omega, h2 _ (fun bb w2 f2 hw2 hf2 => ?_)⟩)⟩⟩⟩
  obtain ⟨st, dn, h, c, L0, sz, pl, rv, tr, tu, t, b, n, dl, ll, lb, ti, pa, tk, sc, szM, bq, lv, trM, dcM, tiM, tc, T, ldM, ly, K, V, I, R, e5, r, N, bm, z, kp, rfl, hI, hM⟩ := hw2
  have hn := fun (k2 : Nat) (hk2 : k - 2 ≤ k2) (p5 p6 : Option Value) => hnext k2 _ kk f2 p5 p6 o7 o8 hk2 (REL_mk (th := kk) (f := f2) (dn := dn) (t := t) (sc := sc) (R := R) hI hM)
  exact hJ [1442] 100 _ _ _ _ _ ⟨0, Nat.zero_le _, cl_93 hl (by omega) ⟨fun _ => ⟨fun q => ⟨nI_in (c := 0) (by omega) (by omega), ⟨fun _ => hn _ (by omega) _ _, fun q2 => absurd (lg_I (hf2 (k3_0 hkk q))) q2⟩⟩, fun _ => hn _ (by omega) _ _⟩, fun q => absurd rfl q⟩⟩
set_option maxRecDepth 20000 in
theorem lc_6 (hl : l.stackTraces = false) (hd : 60 ≤ d) (hL : L ≤ 2048) (hJ : ∀ (stop : List Nat) (n k pc : Nat) (ls : am_L) (st : am_S) (w : am_M), am_run (tb_L L xs (am_Call l d) Q_L) J stop n k pc ls st w → J k pc ls st w) (hi : i + 4 ≤ L) (hk : 2 ≤ k) (hw : REL w th f) (hnext : ∀ (k2 : Nat) (w2 : am_M) (th2 : Nat) (f2 : Nat → Int64) (p5 p6 p7 p8 : Option Value), k - 2 ≤ k2 → REL w2 th2 f2 → J k2 1442 [some Value.null, some (Value.ref 0), some (Value.ref 13), some (Value.ref 28), some (Value.int (nI i)), p5, p6, p7, p8] [] w2) : J k 551 [some Value.null, some (Value.ref 0), some (Value.ref 13), some (Value.ref 28), some (Value.int (nI i)), o5, o6, o7, o8] [] w := by
  have e1 : nI i + 1 = nI (i + 1) := nI_add i 1
  refine hJ [562] 100 _ _ _ _ _ ⟨vin e1 (by omega) (by omega), ⟨1, by omega, st_bid hl hd hw (xs (nI i + 1).toNatClampNeg) _ (fun kk w1 hkk h13 h2 => ?_)⟩⟩
  obtain ⟨fs, h13⟩ := h13
  refine hJ [574] 100 _ _ _ _ _ ⟨vin e1 (by omega) (by omega), (ar_ld h13 ⟨1, by omega, h2 _ (fun bb w2 f2 hw2 hf2 => ?_)⟩)⟩
  obtain ⟨st, dn, h, c, L0, sz, pl, rv, tr, tu, t, b, n, dl, ll, lb, ti, pa, tk, sc, szM, bq, lv, trM, dcM, tiM, tc, T, ldM, ly, K, V, I, R, e5, r, N, bm, z, kp, rfl, hI, hM⟩ := hw2
  have hn := fun (k2 : Nat) (hk2 : k - 2 ≤ k2) (p5 p6 : Option Value) => hnext k2 _ kk f2 p5 p6 o7 o8 hk2 (REL_mk (th := kk) (f := f2) (dn := dn) (t := t) (sc := sc) (R := R) hI hM)
  exact hJ [1442] 100 _ _ _ _ _ ⟨0, Nat.zero_le _, cl_93 hl (by omega) ⟨fun _ => ⟨fun q => ⟨nI_in (c := 0) (by omega) (by omega), ⟨fun _ => hn _ (by omega) _ _, fun q2 => absurd (lg_I (hf2 (k3_0 hkk q))) q2⟩⟩, fun _ => hn _ (by omega) _ _⟩, fun q => absurd rfl q⟩⟩
set_option maxRecDepth 20000 in
theorem lc_7 (hl : l.stackTraces = false) (hd : 60 ≤ d) (hL : L ≤ 2048) (hJ : ∀ (stop : List Nat) (n k pc : Nat) (ls : am_L) (st : am_S) (w : am_M), am_run (tb_L L xs (am_Call l d) Q_L) J stop n k pc ls st w → J k pc ls st w) (hi : i + 4 ≤ L) (hk : 2 ≤ k) (hw : REL w th f) (hnext : ∀ (k2 : Nat) (w2 : am_M) (th2 : Nat) (f2 : Nat → Int64) (p5 p6 p7 p8 : Option Value), k - 2 ≤ k2 → REL w2 th2 f2 → J k2 1442 [some Value.null, some (Value.ref 0), some (Value.ref 13), some (Value.ref 28), some (Value.int (nI i)), p5, p6, p7, p8] [] w2) : J k 607 [some Value.null, some (Value.ref 0), some (Value.ref 13), some (Value.ref 28), some (Value.int (nI i)), o5, o6, o7, o8] [] w := by
  have e1 : nI i + 1 = nI (i + 1) := nI_add i 1
  refine hJ [618] 100 _ _ _ _ _ ⟨vin e1 (by omega) (by omega), ⟨1, by omega, st_canBid hl hd hw (xs (nI i + 1).toNatClampNeg) _ (fun kk w1 hkk h13 h2 => ?_)⟩⟩
  obtain ⟨fs, h13⟩ := h13
  refine hJ [630] 100 _ _ _ _ _ ⟨vin e1 (by omega) (by omega), (ar_ld h13 ⟨1, by omega, h2 _ (fun bb w2 f2 hw2 hf2 => ?_)⟩)⟩
  obtain ⟨st, dn, h, c, L0, sz, pl, rv, tr, tu, t, b, n, dl, ll, lb, ti, pa, tk, sc, szM, bq, lv, trM, dcM, tiM, tc, T, ldM, ly, K, V, I, R, e5, r, N, bm, z, kp, rfl, hI, hM⟩ := hw2
  have hn := fun (k2 : Nat) (hk2 : k - 2 ≤ k2) (p5 p6 : Option Value) => hnext k2 _ kk f2 p5 p6 o7 o8 hk2 (REL_mk (th := kk) (f := f2) (dn := dn) (t := t) (sc := sc) (R := R) hI hM)
  exact hJ [1442] 100 _ _ _ _ _ ⟨0, Nat.zero_le _, cl_93 hl (by omega) ⟨fun _ => ⟨fun q => ⟨nI_in (c := 0) (by omega) (by omega), ⟨fun q0 => ⟨fun _ => hn _ (by omega) _ _, fun q2 => absurd (lg_Z0 (hf2 (k3_0 hkk q)) q0) q2⟩, fun q0 => ⟨fun _ => hn _ (by omega) _ _, fun q2 => absurd (lg_Z1 (hf2 (k3_0 hkk q)) q0) q2⟩⟩⟩, fun _ => hn _ (by omega) _ _⟩, fun q => absurd rfl q⟩⟩
set_option maxRecDepth 20000 in
theorem lc_8 (hl : l.stackTraces = false) (hd : 60 ≤ d) (hL : L ≤ 2048) (hJ : ∀ (stop : List Nat) (n k pc : Nat) (ls : am_L) (st : am_S) (w : am_M), am_run (tb_L L xs (am_Call l d) Q_L) J stop n k pc ls st w → J k pc ls st w) (hi : i + 4 ≤ L) (hk : 2 ≤ k) (hw : REL w th f) (hnext : ∀ (k2 : Nat) (w2 : am_M) (th2 : Nat) (f2 : Nat → Int64) (p5 p6 p7 p8 : Option Value), k - 2 ≤ k2 → REL w2 th2 f2 → J k2 1442 [some Value.null, some (Value.ref 0), some (Value.ref 13), some (Value.ref 28), some (Value.int (nI i)), p5, p6, p7, p8] [] w2) : J k 670 [some Value.null, some (Value.ref 0), some (Value.ref 13), some (Value.ref 28), some (Value.int (nI i)), o5, o6, o7, o8] [] w := by
  have e1 : nI i + 1 = nI (i + 1) := nI_add i 1
  refine hJ [681] 100 _ _ _ _ _ ⟨vin e1 (by omega) (by omega), ⟨1, by omega, st_bidAt hl hd hw (xs (nI i + 1).toNatClampNeg) _ (fun kk w1 hkk h13 h2 => ?_)⟩⟩
  obtain ⟨fs, h13⟩ := h13
  refine hJ [693] 100 _ _ _ _ _ ⟨vin e1 (by omega) (by omega), (ar_ld h13 ⟨1, by omega, h2 _ (fun bb w2 f2 hw2 hf2 => ?_)⟩)⟩
  obtain ⟨st, dn, h, c, L0, sz, pl, rv, tr, tu, t, b, n, dl, ll, lb, ti, pa, tk, sc, szM, bq, lv, trM, dcM, tiM, tc, T, ldM, ly, K, V, I, R, e5, r, N, bm, z, kp, rfl, hI, hM⟩ := hw2
  have hn := fun (k2 : Nat) (hk2 : k - 2 ≤ k2) (p5 p6 : Option Value) => hnext k2 _ kk f2 p5 p6 o7 o8 hk2 (REL_mk (th := kk) (f := f2) (dn := dn) (t := t) (sc := sc) (R := R) hI hM)
  exact hJ [1442] 100 _ _ _ _ _ ⟨0, Nat.zero_le _, cl_93 hl (by omega) ⟨fun _ => ⟨fun q => ⟨nI_in (c := 0) (by omega) (by omega), ⟨fun _ => hn _ (by omega) _ _, fun q2 => absurd (lg_I (hf2 (k3_0 hkk q))) q2⟩⟩, fun _ => hn _ (by omega) _ _⟩, fun q => absurd rfl q⟩⟩
set_option maxRecDepth 20000 in
theorem lc_9 (hl : l.stackTraces = false) (hd : 60 ≤ d) (hL : L ≤ 2048) (hJ : ∀ (stop : List Nat) (n k pc : Nat) (ls : am_L) (st : am_S) (w : am_M), am_run (tb_L L xs (am_Call l d) Q_L) J stop n k pc ls st w → J k pc ls st w) (hi : i + 4 ≤ L) (hk : 2 ≤ k) (hw : REL w th f) (hnext : ∀ (k2 : Nat) (w2 : am_M) (th2 : Nat) (f2 : Nat → Int64) (p5 p6 p7 p8 : Option Value), k - 2 ≤ k2 → REL w2 th2 f2 → J k2 1442 [some Value.null, some (Value.ref 0), some (Value.ref 13), some (Value.ref 28), some (Value.int (nI i)), p5, p6, p7, p8] [] w2) : J k 726 [some Value.null, some (Value.ref 0), some (Value.ref 13), some (Value.ref 28), some (Value.int (nI i)), o5, o6, o7, o8] [] w := by
  have e1 : nI i + 1 = nI (i + 1) := nI_add i 1
  refine hJ [737] 100 _ _ _ _ _ ⟨vin e1 (by omega) (by omega), ⟨1, by omega, st_contract hl hd hw (xs (nI i + 1).toNatClampNeg) _ (fun kk w1 hkk h13 h2 => ?_)⟩⟩
  obtain ⟨fs, h13⟩ := h13
  refine hJ [749] 100 _ _ _ _ _ ⟨vin e1 (by omega) (by omega), (ar_ld h13 ⟨1, by omega, h2 _ (fun bb w2 f2 hw2 hf2 => ?_)⟩)⟩
  obtain ⟨st, dn, h, c, L0, sz, pl, rv, tr, tu, t, b, n, dl, ll, lb, ti, pa, tk, sc, szM, bq, lv, trM, dcM, tiM, tc, T, ldM, ly, K, V, I, R, e5, r, N, bm, z, kp, rfl, hI, hM⟩ := hw2
  have hn := fun (k2 : Nat) (hk2 : k - 2 ≤ k2) (p5 p6 : Option Value) => hnext k2 _ kk f2 p5 p6 o7 o8 hk2 (REL_mk (th := kk) (f := f2) (dn := dn) (t := t) (sc := sc) (R := R) hI hM)
  exact hJ [1442] 100 _ _ _ _ _ ⟨0, Nat.zero_le _, cl_93 hl (by omega) ⟨fun _ => ⟨fun q => ⟨nI_in (c := 0) (by omega) (by omega), ⟨fun _ => hn _ (by omega) _ _, fun q2 => absurd (lg_I (hf2 (k3_0 hkk q))) q2⟩⟩, fun _ => hn _ (by omega) _ _⟩, fun q => absurd rfl q⟩⟩
set_option maxRecDepth 20000 in
theorem lc_10 (hl : l.stackTraces = false) (hd : 60 ≤ d) (hL : L ≤ 2048) (hJ : ∀ (stop : List Nat) (n k pc : Nat) (ls : am_L) (st : am_S) (w : am_M), am_run (tb_L L xs (am_Call l d) Q_L) J stop n k pc ls st w → J k pc ls st w) (hi : i + 4 ≤ L) (hk : 2 ≤ k) (hw : REL w th f) (hnext : ∀ (k2 : Nat) (w2 : am_M) (th2 : Nat) (f2 : Nat → Int64) (p5 p6 p7 p8 : Option Value), k - 2 ≤ k2 → REL w2 th2 f2 → J k2 1442 [some Value.null, some (Value.ref 0), some (Value.ref 13), some (Value.ref 28), some (Value.int (nI i)), p5, p6, p7, p8] [] w2) : J k 782 [some Value.null, some (Value.ref 0), some (Value.ref 13), some (Value.ref 28), some (Value.int (nI i)), o5, o6, o7, o8] [] w := by
  have e1 : nI i + 1 = nI (i + 1) := nI_add i 1
  refine hJ [793] 100 _ _ _ _ _ ⟨vin e1 (by omega) (by omega), ⟨1, by omega, st_play hl hd hw (xs (nI i + 1).toNatClampNeg) _ (fun kk w1 hkk h13 h2 => ?_)⟩⟩
  obtain ⟨fs, h13⟩ := h13
  refine hJ [805] 100 _ _ _ _ _ ⟨vin e1 (by omega) (by omega), (ar_ld h13 ⟨1, by omega, h2 _ (fun bb w2 f2 hw2 hf2 => ?_)⟩)⟩
  obtain ⟨st, dn, h, c, L0, sz, pl, rv, tr, tu, t, b, n, dl, ll, lb, ti, pa, tk, sc, szM, bq, lv, trM, dcM, tiM, tc, T, ldM, ly, K, V, I, R, e5, r, N, bm, z, kp, rfl, hI, hM⟩ := hw2
  have hn := fun (k2 : Nat) (hk2 : k - 2 ≤ k2) (p5 p6 : Option Value) => hnext k2 _ kk f2 p5 p6 o7 o8 hk2 (REL_mk (th := kk) (f := f2) (dn := dn) (t := t) (sc := sc) (R := R) hI hM)
  exact hJ [1442] 100 _ _ _ _ _ ⟨0, Nat.zero_le _, cl_93 hl (by omega) ⟨fun _ => ⟨fun q => ⟨nI_in (c := 0) (by omega) (by omega), ⟨fun _ => hn _ (by omega) _ _, fun q2 => absurd (lg_I (hf2 (k3_0 hkk q))) q2⟩⟩, fun _ => hn _ (by omega) _ _⟩, fun q => absurd rfl q⟩⟩
set_option maxRecDepth 20000 in
theorem lc_11 (hl : l.stackTraces = false) (hd : 60 ≤ d) (hL : L ≤ 2048) (hJ : ∀ (stop : List Nat) (n k pc : Nat) (ls : am_L) (st : am_S) (w : am_M), am_run (tb_L L xs (am_Call l d) Q_L) J stop n k pc ls st w → J k pc ls st w) (hi : i + 4 ≤ L) (hk : 2 ≤ k) (hw : REL w th f) (hnext : ∀ (k2 : Nat) (w2 : am_M) (th2 : Nat) (f2 : Nat → Int64) (p5 p6 p7 p8 : Option Value), k - 2 ≤ k2 → REL w2 th2 f2 → J k2 1442 [some Value.null, some (Value.ref 0), some (Value.ref 13), some (Value.ref 28), some (Value.int (nI i)), p5, p6, p7, p8] [] w2) : J k 838 [some Value.null, some (Value.ref 0), some (Value.ref 13), some (Value.ref 28), some (Value.int (nI i)), o5, o6, o7, o8] [] w := by
  refine hJ [843] 100 _ _ _ _ _ ⟨1, by omega, st_back hl hd hw  _ (fun kk w1 hkk h13 h2 => ?_)⟩
  obtain ⟨fs, h13⟩ := h13
  refine hJ [849] 100 _ _ _ _ _ (ar_ld h13 ⟨1, by omega, h2 _ (fun bb w2 f2 hw2 hf2 => ?_)⟩)
  obtain ⟨st, dn, h, c, L0, sz, pl, rv, tr, tu, t, b, n, dl, ll, lb, ti, pa, tk, sc, szM, bq, lv, trM, dcM, tiM, tc, T, ldM, ly, K, V, I, R, e5, r, N, bm, z, kp, rfl, hI, hM⟩ := hw2
  have hn := fun (k2 : Nat) (hk2 : k - 2 ≤ k2) (p5 p6 : Option Value) => hnext k2 _ kk f2 p5 p6 o7 o8 hk2 (REL_mk (th := kk) (f := f2) (dn := dn) (t := t) (sc := sc) (R := R) hI hM)
  exact hJ [1442] 100 _ _ _ _ _ ⟨0, Nat.zero_le _, cl_93 hl (by omega) ⟨fun _ => ⟨fun q => ⟨nI_in (c := 0) (by omega) (by omega), ⟨fun _ => hn _ (by omega) _ _, fun q2 => absurd (lg_I (hf2 (k3_0 hkk q))) q2⟩⟩, fun _ => hn _ (by omega) _ _⟩, fun q => absurd rfl q⟩⟩
set_option maxRecDepth 20000 in
theorem lc_12 (hl : l.stackTraces = false) (hd : 60 ≤ d) (hL : L ≤ 2048) (hJ : ∀ (stop : List Nat) (n k pc : Nat) (ls : am_L) (st : am_S) (w : am_M), am_run (tb_L L xs (am_Call l d) Q_L) J stop n k pc ls st w → J k pc ls st w) (hi : i + 4 ≤ L) (hk : 2 ≤ k) (hw : REL w th f) (hnext : ∀ (k2 : Nat) (w2 : am_M) (th2 : Nat) (f2 : Nat → Int64) (p5 p6 p7 p8 : Option Value), k - 2 ≤ k2 → REL w2 th2 f2 → J k2 1442 [some Value.null, some (Value.ref 0), some (Value.ref 13), some (Value.ref 28), some (Value.int (nI i)), p5, p6, p7, p8] [] w2) : J k 882 [some Value.null, some (Value.ref 0), some (Value.ref 13), some (Value.ref 28), some (Value.int (nI i)), o5, o6, o7, o8] [] w := by
  have e1 : nI i + 1 = nI (i + 1) := nI_add i 1
  refine hJ [893] 100 _ _ _ _ _ ⟨vin e1 (by omega) (by omega), ⟨1, by omega, st_isRight hl hd hw (xs (nI i + 1).toNatClampNeg) _ (fun kk w1 hkk h13 h2 => ?_)⟩⟩
  obtain ⟨fs, h13⟩ := h13
  refine hJ [905] 100 _ _ _ _ _ ⟨vin e1 (by omega) (by omega), (ar_ld h13 ⟨1, by omega, h2 _ (fun bb w2 f2 hw2 hf2 => ?_)⟩)⟩
  obtain ⟨st, dn, h, c, L0, sz, pl, rv, tr, tu, t, b, n, dl, ll, lb, ti, pa, tk, sc, szM, bq, lv, trM, dcM, tiM, tc, T, ldM, ly, K, V, I, R, e5, r, N, bm, z, kp, rfl, hI, hM⟩ := hw2
  have hn := fun (k2 : Nat) (hk2 : k - 2 ≤ k2) (p5 p6 : Option Value) => hnext k2 _ kk f2 p5 p6 o7 o8 hk2 (REL_mk (th := kk) (f := f2) (dn := dn) (t := t) (sc := sc) (R := R) hI hM)
  exact hJ [1442] 100 _ _ _ _ _ ⟨0, Nat.zero_le _, cl_93 hl (by omega) ⟨fun _ => ⟨fun q => ⟨nI_in (c := 0) (by omega) (by omega), ⟨fun q0 => ⟨fun _ => hn _ (by omega) _ _, fun q2 => absurd (lg_Z0 (hf2 (k3_0 hkk q)) q0) q2⟩, fun q0 => ⟨fun _ => hn _ (by omega) _ _, fun q2 => absurd (lg_Z1 (hf2 (k3_0 hkk q)) q0) q2⟩⟩⟩, fun _ => hn _ (by omega) _ _⟩, fun q => absurd rfl q⟩⟩
set_option maxRecDepth 20000 in
theorem lc_13 (hl : l.stackTraces = false) (hd : 60 ≤ d) (hL : L ≤ 2048) (hJ : ∀ (stop : List Nat) (n k pc : Nat) (ls : am_L) (st : am_S) (w : am_M), am_run (tb_L L xs (am_Call l d) Q_L) J stop n k pc ls st w → J k pc ls st w) (hi : i + 4 ≤ L) (hk : 2 ≤ k) (hw : REL w th f) (hnext : ∀ (k2 : Nat) (w2 : am_M) (th2 : Nat) (f2 : Nat → Int64) (p5 p6 p7 p8 : Option Value), k - 2 ≤ k2 → REL w2 th2 f2 → J k2 1442 [some Value.null, some (Value.ref 0), some (Value.ref 13), some (Value.ref 28), some (Value.int (nI i)), p5, p6, p7, p8] [] w2) : J k 945 [some Value.null, some (Value.ref 0), some (Value.ref 13), some (Value.ref 28), some (Value.int (nI i)), o5, o6, o7, o8] [] w := by
  have e1 : nI i + 1 = nI (i + 1) := nI_add i 1
  have e2 : nI i + 2 = nI (i + 2) := nI_add i 2
  refine hJ [962] 100 _ _ _ _ _ ⟨vin e1 (by omega) (by omega), ⟨vin e2 (by omega) (by omega), ⟨1, by omega, st_trick hl hd hw (xs (nI i + 1).toNatClampNeg) (xs (nI i + 2).toNatClampNeg) _ (fun kk w1 hkk h13 h2 => ?_)⟩⟩⟩
  obtain ⟨fs, h13⟩ := h13
  refine hJ [980] 100 _ _ _ _ _ ⟨vin e1 (by omega) (by omega), ⟨vin e2 (by omega) (by omega), (ar_ld h13 ⟨1, by omega, h2 _ (fun bb w2 f2 hw2 hf2 => ?_)⟩)⟩⟩
  obtain ⟨st, dn, h, c, L0, sz, pl, rv, tr, tu, t, b, n, dl, ll, lb, ti, pa, tk, sc, szM, bq, lv, trM, dcM, tiM, tc, T, ldM, ly, K, V, I, R, e5, r, N, bm, z, kp, rfl, hI, hM⟩ := hw2
  have hn := fun (k2 : Nat) (hk2 : k - 2 ≤ k2) (p5 p6 : Option Value) => hnext k2 _ kk f2 p5 p6 o7 o8 hk2 (REL_mk (th := kk) (f := f2) (dn := dn) (t := t) (sc := sc) (R := R) hI hM)
  exact hJ [1442] 100 _ _ _ _ _ ⟨0, Nat.zero_le _, cl_93 hl (by omega) ⟨fun _ => ⟨fun q => ⟨nI_in (c := 0) (by omega) (by omega), ⟨fun _ => hn _ (by omega) _ _, fun q2 => absurd (lg_I (hf2 (k3_0 hkk q))) q2⟩⟩, fun _ => hn _ (by omega) _ _⟩, fun q => absurd rfl q⟩⟩
set_option maxRecDepth 20000 in
theorem lc_14 (hl : l.stackTraces = false) (hd : 60 ≤ d) (hL : L ≤ 2048) (hJ : ∀ (stop : List Nat) (n k pc : Nat) (ls : am_L) (st : am_S) (w : am_M), am_run (tb_L L xs (am_Call l d) Q_L) J stop n k pc ls st w → J k pc ls st w) (hi : i + 4 ≤ L) (hk : 2 ≤ k) (hw : REL w th f) (hnext : ∀ (k2 : Nat) (w2 : am_M) (th2 : Nat) (f2 : Nat → Int64) (p5 p6 p7 p8 : Option Value), k - 2 ≤ k2 → REL w2 th2 f2 → J k2 1442 [some Value.null, some (Value.ref 0), some (Value.ref 13), some (Value.ref 28), some (Value.int (nI i)), p5, p6, p7, p8] [] w2) : J k 1013 [some Value.null, some (Value.ref 0), some (Value.ref 13), some (Value.ref 28), some (Value.int (nI i)), o5, o6, o7, o8] [] w := by
  have e1 : nI i + 1 = nI (i + 1) := nI_add i 1
  refine hJ [1024] 100 _ _ _ _ _ ⟨vin e1 (by omega) (by omega), ⟨1, by omega, st_now hl hd hw (xs (nI i + 1).toNatClampNeg) _ (fun kk w1 hkk h13 h2 => ?_)⟩⟩
  obtain ⟨fs, h13⟩ := h13
  refine hJ [1036] 100 _ _ _ _ _ ⟨vin e1 (by omega) (by omega), (ar_ld h13 ⟨1, by omega, h2 _ (fun bb w2 f2 hw2 hf2 => ?_)⟩)⟩
  obtain ⟨st, dn, h, c, L0, sz, pl, rv, tr, tu, t, b, n, dl, ll, lb, ti, pa, tk, sc, szM, bq, lv, trM, dcM, tiM, tc, T, ldM, ly, K, V, I, R, e5, r, N, bm, z, kp, rfl, hI, hM⟩ := hw2
  have hn := fun (k2 : Nat) (hk2 : k - 2 ≤ k2) (p5 p6 : Option Value) => hnext k2 _ kk f2 p5 p6 o7 o8 hk2 (REL_mk (th := kk) (f := f2) (dn := dn) (t := t) (sc := sc) (R := R) hI hM)
  exact hJ [1442] 100 _ _ _ _ _ ⟨0, Nat.zero_le _, cl_93 hl (by omega) ⟨fun _ => ⟨fun q => ⟨nI_in (c := 0) (by omega) (by omega), ⟨fun _ => hn _ (by omega) _ _, fun q2 => absurd (lg_I (hf2 (k3_0 hkk q))) q2⟩⟩, fun _ => hn _ (by omega) _ _⟩, fun q => absurd rfl q⟩⟩
set_option maxRecDepth 20000 in
theorem lc_15 (hl : l.stackTraces = false) (hd : 60 ≤ d) (hL : L ≤ 2048) (hJ : ∀ (stop : List Nat) (n k pc : Nat) (ls : am_L) (st : am_S) (w : am_M), am_run (tb_L L xs (am_Call l d) Q_L) J stop n k pc ls st w → J k pc ls st w) (hi : i + 4 ≤ L) (hk : 2 ≤ k) (hw : REL w th f) (hnext : ∀ (k2 : Nat) (w2 : am_M) (th2 : Nat) (f2 : Nat → Int64) (p5 p6 p7 p8 : Option Value), k - 2 ≤ k2 → REL w2 th2 f2 → J k2 1442 [some Value.null, some (Value.ref 0), some (Value.ref 13), some (Value.ref 28), some (Value.int (nI i)), p5, p6, p7, p8] [] w2) : J k 1069 [some Value.null, some (Value.ref 0), some (Value.ref 13), some (Value.ref 28), some (Value.int (nI i)), o5, o6, o7, o8] [] w := by
  have e1 : nI i + 1 = nI (i + 1) := nI_add i 1
  have e2 : nI i + 2 = nI (i + 2) := nI_add i 2
  refine hJ [1086] 100 _ _ _ _ _ ⟨vin e1 (by omega) (by omega), ⟨vin e2 (by omega) (by omega), ⟨1, by omega, st_side hl hd hw (xs (nI i + 1).toNatClampNeg) (xs (nI i + 2).toNatClampNeg) _ (fun kk w1 hkk h13 h2 => ?_)⟩⟩⟩
  obtain ⟨fs, h13⟩ := h13
  refine hJ [1104] 100 _ _ _ _ _ ⟨vin e1 (by omega) (by omega), ⟨vin e2 (by omega) (by omega), (ar_ld h13 ⟨1, by omega, h2 _ (fun bb w2 f2 hw2 hf2 => ?_)⟩)⟩⟩
  obtain ⟨st, dn, h, c, L0, sz, pl, rv, tr, tu, t, b, n, dl, ll, lb, ti, pa, tk, sc, szM, bq, lv, trM, dcM, tiM, tc, T, ldM, ly, K, V, I, R, e5, r, N, bm, z, kp, rfl, hI, hM⟩ := hw2
  have hn := fun (k2 : Nat) (hk2 : k - 2 ≤ k2) (p5 p6 : Option Value) => hnext k2 _ kk f2 p5 p6 o7 o8 hk2 (REL_mk (th := kk) (f := f2) (dn := dn) (t := t) (sc := sc) (R := R) hI hM)
  exact hJ [1442] 100 _ _ _ _ _ ⟨0, Nat.zero_le _, cl_93 hl (by omega) ⟨fun _ => ⟨fun q => ⟨nI_in (c := 0) (by omega) (by omega), ⟨fun _ => hn _ (by omega) _ _, fun q2 => absurd (lg_I (hf2 (k3_0 hkk q))) q2⟩⟩, fun _ => hn _ (by omega) _ _⟩, fun q => absurd rfl q⟩⟩
set_option maxRecDepth 20000 in
theorem lc_16 (hl : l.stackTraces = false) (hd : 60 ≤ d) (hL : L ≤ 2048) (hJ : ∀ (stop : List Nat) (n k pc : Nat) (ls : am_L) (st : am_S) (w : am_M), am_run (tb_L L xs (am_Call l d) Q_L) J stop n k pc ls st w → J k pc ls st w) (hi : i + 4 ≤ L) (hk : 2 ≤ k) (hw : REL w th f) (hnext : ∀ (k2 : Nat) (w2 : am_M) (th2 : Nat) (f2 : Nat → Int64) (p5 p6 p7 p8 : Option Value), k - 2 ≤ k2 → REL w2 th2 f2 → J k2 1442 [some Value.null, some (Value.ref 0), some (Value.ref 13), some (Value.ref 28), some (Value.int (nI i)), p5, p6, p7, p8] [] w2) : J k 1137 [some Value.null, some (Value.ref 0), some (Value.ref 13), some (Value.ref 28), some (Value.int (nI i)), o5, o6, o7, o8] [] w := by
  obtain ⟨st, dn, h, c, L0, sz, pl, rv, tr, tu, t, b, n, dl, ll, lb, ti, pa, tk, sc, szM, bq, lv, trM, dcM, tiM, tc, T, ldM, ly, K, V, I, R, e5, r, N, bm, z, kp, rfl, hI, hM⟩ := hw
  have hM' := hM
  obtain ⟨⟨q1, q2, q3, q4, q5⟩, ⟨m2, m2b, m2c, m2d, m2e⟩, ⟨m3, m3b⟩, ⟨m4, m5, m6, m7⟩, _⟩ := hM'
  have hI' := hI
  obtain ⟨⟨h1, h2, h3⟩, i0, i1, i2, i3, ⟨j1, j2, j3, j4, j5⟩, _⟩ := hI'
  have hn0 := INV_n hI
  refine hJ [1141] 100 _ _ _ _ _ ⟨0, Nat.zero_le _, cl_57 hl (by omega) ?_⟩
  exact hJ [1442] 100 _ _ _ _ _ ⟨0, Nat.zero_le _, cl_133 hl (by omega) ⟨fun _ => hnext _ _ _ _ _ _ _ _ (by omega) (REL_mk (th := 0) hI hM), fun q => ⟨fun q1 => absurd q1 q, fun _ => ⟨fun q1 => absurd q1 q, fun _ => hnext _ _ _ _ _ _ _ _ (by omega) (REL_mk (th := 0) hI hM)⟩⟩⟩⟩
set_option maxRecDepth 20000 in
theorem lc_17 (hl : l.stackTraces = false) (hd : 60 ≤ d) (hL : L ≤ 2048) (hJ : ∀ (stop : List Nat) (n k pc : Nat) (ls : am_L) (st : am_S) (w : am_M), am_run (tb_L L xs (am_Call l d) Q_L) J stop n k pc ls st w → J k pc ls st w) (hi : i + 4 ≤ L) (hk : 2 ≤ k) (hw : REL w th f) (hnext : ∀ (k2 : Nat) (w2 : am_M) (th2 : Nat) (f2 : Nat → Int64) (p5 p6 p7 p8 : Option Value), k - 2 ≤ k2 → REL w2 th2 f2 → J k2 1442 [some Value.null, some (Value.ref 0), some (Value.ref 13), some (Value.ref 28), some (Value.int (nI i)), p5, p6, p7, p8] [] w2) : J k 1178 [some Value.null, some (Value.ref 0), some (Value.ref 13), some (Value.ref 28), some (Value.int (nI i)), o5, o6, o7, o8] [] w := by
  have e1 : nI i + 1 = nI (i + 1) := nI_add i 1
  refine hJ [1189] 100 _ _ _ _ _ ⟨vin e1 (by omega) (by omega), ⟨1, by omega, st_wouldGet hl hd hw (xs (nI i + 1).toNatClampNeg) _ (fun kk w1 hkk h13 h2 => ?_)⟩⟩
  obtain ⟨fs, h13⟩ := h13
  refine hJ [1201] 100 _ _ _ _ _ ⟨vin e1 (by omega) (by omega), (ar_ld h13 ⟨1, by omega, h2 _ (fun bb w2 f2 hw2 hf2 => ?_)⟩)⟩
  obtain ⟨st, dn, h, c, L0, sz, pl, rv, tr, tu, t, b, n, dl, ll, lb, ti, pa, tk, sc, szM, bq, lv, trM, dcM, tiM, tc, T, ldM, ly, K, V, I, R, e5, r, N, bm, z, kp, rfl, hI, hM⟩ := hw2
  have hn := fun (k2 : Nat) (hk2 : k - 2 ≤ k2) (p5 p6 : Option Value) => hnext k2 _ kk f2 p5 p6 o7 o8 hk2 (REL_mk (th := kk) (f := f2) (dn := dn) (t := t) (sc := sc) (R := R) hI hM)
  exact hJ [1442] 100 _ _ _ _ _ ⟨0, Nat.zero_le _, cl_93 hl (by omega) ⟨fun _ => ⟨fun q => ⟨nI_in (c := 0) (by omega) (by omega), ⟨fun _ => hn _ (by omega) _ _, fun q2 => absurd (lg_I (hf2 (k3_0 hkk q))) q2⟩⟩, fun _ => hn _ (by omega) _ _⟩, fun q => absurd rfl q⟩⟩
set_option maxRecDepth 20000 in
theorem lc_18 (hl : l.stackTraces = false) (hd : 60 ≤ d) (hL : L ≤ 2048) (hJ : ∀ (stop : List Nat) (n k pc : Nat) (ls : am_L) (st : am_S) (w : am_M), am_run (tb_L L xs (am_Call l d) Q_L) J stop n k pc ls st w → J k pc ls st w) (hi : i + 4 ≤ L) (hk : 2 ≤ k) (hw : REL w th f) (hnext : ∀ (k2 : Nat) (w2 : am_M) (th2 : Nat) (f2 : Nat → Int64) (p5 p6 p7 p8 : Option Value), k - 2 ≤ k2 → REL w2 th2 f2 → J k2 1442 [some Value.null, some (Value.ref 0), some (Value.ref 13), some (Value.ref 28), some (Value.int (nI i)), p5, p6, p7, p8] [] w2) : J k 1234 [some Value.null, some (Value.ref 0), some (Value.ref 13), some (Value.ref 28), some (Value.int (nI i)), o5, o6, o7, o8] [] w := by
  obtain ⟨st, dn, h, c, L0, sz, pl, rv, tr, tu, t, b, n, dl, ll, lb, ti, pa, tk, sc, szM, bq, lv, trM, dcM, tiM, tc, T, ldM, ly, K, V, I, R, e5, r, N, bm, z, kp, rfl, hI, hM⟩ := hw
  have hM' := hM
  obtain ⟨⟨q1, q2, q3, q4, q5⟩, ⟨m2, m2b, m2c, m2d, m2e⟩, ⟨m3, m3b⟩, ⟨m4, m5, m6, m7⟩, _⟩ := hM'
  have hI' := hI
  obtain ⟨⟨h1, h2, h3⟩, i0, i1, i2, i3, ⟨j1, j2, j3, j4, j5⟩, _⟩ := hI'
  have hn0 := INV_n hI
  refine hJ [1238] 100 _ _ _ _ _ ⟨0, Nat.zero_le _, cl_59 hl (by omega) (by omega) h1 (fun e => (i2 e).2.2.1) (fun t' => ?_)⟩
  refine hJ [1442] 100 _ _ _ _ _ ⟨0, Nat.zero_le _, cl_141 hl (by omega) h1 m2c (REL_GM hI hM) (fun R' => ?_)⟩
  exact ⟨fun _ => hnext _ _ _ _ _ _ _ _ (by omega) (REL_mk (th := 0) (t := t') (R := R') hI hM), fun q => absurd (e_best2 hI hM) q⟩
set_option maxRecDepth 20000 in
theorem lc_19 (hl : l.stackTraces = false) (hd : 60 ≤ d) (hL : L ≤ 2048) (hJ : ∀ (stop : List Nat) (n k pc : Nat) (ls : am_L) (st : am_S) (w : am_M), am_run (tb_L L xs (am_Call l d) Q_L) J stop n k pc ls st w → J k pc ls st w) (hi : i + 4 ≤ L) (hk : 2 ≤ k) (hw : REL w th f) (hnext : ∀ (k2 : Nat) (w2 : am_M) (th2 : Nat) (f2 : Nat → Int64) (p5 p6 p7 p8 : Option Value), k - 2 ≤ k2 → REL w2 th2 f2 → J k2 1442 [some Value.null, some (Value.ref 0), some (Value.ref 13), some (Value.ref 28), some (Value.int (nI i)), p5, p6, p7, p8] [] w2) : J k 1247 [some Value.null, some (Value.ref 0), some (Value.ref 13), some (Value.ref 28), some (Value.int (nI i)), o5, o6, o7, o8] [] w := by
  have e1 : nI i + 1 = nI (i + 1) := nI_add i 1
  refine hJ [1258] 100 _ _ _ _ _ ⟨vin e1 (by omega) (by omega), ⟨1, by omega, st_bestWith hl hd hw (xs (nI i + 1).toNatClampNeg) _ (fun kk w1 hkk h13 h2 => ?_)⟩⟩
  obtain ⟨fs, h13⟩ := h13
  refine hJ [1270] 100 _ _ _ _ _ ⟨vin e1 (by omega) (by omega), (ar_ld h13 ⟨1, by omega, h2 _ (fun bb w2 f2 hw2 hf2 => ?_)⟩)⟩
  obtain ⟨st, dn, h, c, L0, sz, pl, rv, tr, tu, t, b, n, dl, ll, lb, ti, pa, tk, sc, szM, bq, lv, trM, dcM, tiM, tc, T, ldM, ly, K, V, I, R, e5, r, N, bm, z, kp, rfl, hI, hM⟩ := hw2
  have hn := fun (k2 : Nat) (hk2 : k - 2 ≤ k2) (p5 p6 : Option Value) => hnext k2 _ kk f2 p5 p6 o7 o8 hk2 (REL_mk (th := kk) (f := f2) (dn := dn) (t := t) (sc := sc) (R := R) hI hM)
  exact hJ [1442] 100 _ _ _ _ _ ⟨0, Nat.zero_le _, cl_93 hl (by omega) ⟨fun _ => ⟨fun q => ⟨nI_in (c := 0) (by omega) (by omega), ⟨fun _ => hn _ (by omega) _ _, fun q2 => absurd (lg_I (hf2 (k3_0 hkk q))) q2⟩⟩, fun _ => hn _ (by omega) _ _⟩, fun q => absurd rfl q⟩⟩
set_option maxRecDepth 20000 in
theorem lc_20 (hl : l.stackTraces = false) (hd : 60 ≤ d) (hL : L ≤ 2048) (hJ : ∀ (stop : List Nat) (n k pc : Nat) (ls : am_L) (st : am_S) (w : am_M), am_run (tb_L L xs (am_Call l d) Q_L) J stop n k pc ls st w → J k pc ls st w) (hi : i + 4 ≤ L) (hk : 2 ≤ k) (hw : REL w th f) (hnext : ∀ (k2 : Nat) (w2 : am_M) (th2 : Nat) (f2 : Nat → Int64) (p5 p6 p7 p8 : Option Value), k - 2 ≤ k2 → REL w2 th2 f2 → J k2 1442 [some Value.null, some (Value.ref 0), some (Value.ref 13), some (Value.ref 28), some (Value.int (nI i)), p5, p6, p7, p8] [] w2) : J k 1303 [some Value.null, some (Value.ref 0), some (Value.ref 13), some (Value.ref 28), some (Value.int (nI i)), o5, o6, o7, o8] [] w := by
  obtain ⟨st, dn, h, c, L0, sz, pl, rv, tr, tu, t, b, n, dl, ll, lb, ti, pa, tk, sc, szM, bq, lv, trM, dcM, tiM, tc, T, ldM, ly, K, V, I, R, e5, r, N, bm, z, kp, rfl, hI, hM⟩ := hw
  have hM' := hM
  obtain ⟨⟨q1, q2, q3, q4, q5⟩, ⟨m2, m2b, m2c, m2d, m2e⟩, ⟨m3, m3b⟩, ⟨m4, m5, m6, m7⟩, _⟩ := hM'
  have hI' := hI
  obtain ⟨⟨h1, h2, h3⟩, i0, i1, i2, i3, ⟨j1, j2, j3, j4, j5⟩, _⟩ := hI'
  have hn0 := INV_n hI
  refine hJ [1307] 100 _ _ _ _ _ ⟨0, Nat.zero_le _, cl_61 hl (by omega) (by omega) h1 (fun e => (i2 e).2.2.1) (fun e => (i2 e).2.2.2.1) (fun t' => ?_)⟩
  refine hJ [1442] 100 _ _ _ _ _ ⟨0, Nat.zero_le _, cl_143 hl (by omega) h1 m2c h2 (by omega) (REL_GM hI hM) (fun R' => ?_)⟩
  exact ⟨fun _ => hnext _ _ _ _ _ _ _ _ (by omega) (REL_mk (th := 0) (t := t') (R := R') hI hM), fun q => absurd (e_bc hI hM) q⟩
set_option maxRecDepth 20000 in
theorem lc_21 (hl : l.stackTraces = false) (hd : 60 ≤ d) (hL : L ≤ 2048) (hJ : ∀ (stop : List Nat) (n k pc : Nat) (ls : am_L) (st : am_S) (w : am_M), am_run (tb_L L xs (am_Call l d) Q_L) J stop n k pc ls st w → J k pc ls st w) (hi : i + 4 ≤ L) (hk : 2 ≤ k) (hw : REL w th f) (hnext : ∀ (k2 : Nat) (w2 : am_M) (th2 : Nat) (f2 : Nat → Int64) (p5 p6 p7 p8 : Option Value), k - 2 ≤ k2 → REL w2 th2 f2 → J k2 1442 [some Value.null, some (Value.ref 0), some (Value.ref 13), some (Value.ref 28), some (Value.int (nI i)), p5, p6, p7, p8] [] w2) : J k 1316 [some Value.null, some (Value.ref 0), some (Value.ref 13), some (Value.ref 28), some (Value.int (nI i)), o5, o6, o7, o8] [] w := by
  have e1 : nI i + 1 = nI (i + 1) := nI_add i 1
  refine hJ [1327] 100 _ _ _ _ _ ⟨vin e1 (by omega) (by omega), ⟨1, by omega, st_bestIn hl hd hw (xs (nI i + 1).toNatClampNeg) _ (fun kk w1 hkk h13 h2 => ?_)⟩⟩
  obtain ⟨fs, h13⟩ := h13
  refine hJ [1339] 100 _ _ _ _ _ ⟨vin e1 (by omega) (by omega), (ar_ld h13 ⟨1, by omega, h2 _ (fun bb w2 f2 hw2 hf2 => ?_)⟩)⟩
  obtain ⟨st, dn, h, c, L0, sz, pl, rv, tr, tu, t, b, n, dl, ll, lb, ti, pa, tk, sc, szM, bq, lv, trM, dcM, tiM, tc, T, ldM, ly, K, V, I, R, e5, r, N, bm, z, kp, rfl, hI, hM⟩ := hw2
  have hn := fun (k2 : Nat) (hk2 : k - 2 ≤ k2) (p5 p6 : Option Value) => hnext k2 _ kk f2 p5 p6 o7 o8 hk2 (REL_mk (th := kk) (f := f2) (dn := dn) (t := t) (sc := sc) (R := R) hI hM)
  exact hJ [1442] 100 _ _ _ _ _ ⟨0, Nat.zero_le _, cl_93 hl (by omega) ⟨fun _ => ⟨fun q => ⟨nI_in (c := 0) (by omega) (by omega), ⟨fun _ => hn _ (by omega) _ _, fun q2 => absurd (lg_I (hf2 (k3_0 hkk q))) q2⟩⟩, fun _ => hn _ (by omega) _ _⟩, fun q => absurd rfl q⟩⟩
set_option maxRecDepth 20000 in
theorem lc_22 (hl : l.stackTraces = false) (hd : 60 ≤ d) (hL : L ≤ 2048) (hJ : ∀ (stop : List Nat) (n k pc : Nat) (ls : am_L) (st : am_S) (w : am_M), am_run (tb_L L xs (am_Call l d) Q_L) J stop n k pc ls st w → J k pc ls st w) (hi : i + 4 ≤ L) (hk : 2 ≤ k) (hw : REL w th f) (hnext : ∀ (k2 : Nat) (w2 : am_M) (th2 : Nat) (f2 : Nat → Int64) (p5 p6 p7 p8 : Option Value), k - 2 ≤ k2 → REL w2 th2 f2 → J k2 1442 [some Value.null, some (Value.ref 0), some (Value.ref 13), some (Value.ref 28), some (Value.int (nI i)), p5, p6, p7, p8] [] w2) : J k 1372 [some Value.null, some (Value.ref 0), some (Value.ref 13), some (Value.ref 28), some (Value.int (nI i)), o5, o6, o7, o8] [] w := by
  have e1 : nI i + 1 = nI (i + 1) := nI_add i 1
  refine hJ [1383] 100 _ _ _ _ _ ⟨vin e1 (by omega) (by omega), ⟨1, by omega, st_wouldScore hl hd hw (xs (nI i + 1).toNatClampNeg) _ (fun kk w1 hkk h13 h2 => ?_)⟩⟩
  obtain ⟨fs, h13⟩ := h13
  refine hJ [1395] 100 _ _ _ _ _ ⟨vin e1 (by omega) (by omega), (ar_ld h13 ⟨1, by omega, h2 _ (fun bb w2 f2 hw2 hf2 => ?_)⟩)⟩
  obtain ⟨st, dn, h, c, L0, sz, pl, rv, tr, tu, t, b, n, dl, ll, lb, ti, pa, tk, sc, szM, bq, lv, trM, dcM, tiM, tc, T, ldM, ly, K, V, I, R, e5, r, N, bm, z, kp, rfl, hI, hM⟩ := hw2
  have hn := fun (k2 : Nat) (hk2 : k - 2 ≤ k2) (p5 p6 : Option Value) => hnext k2 _ kk f2 p5 p6 o7 o8 hk2 (REL_mk (th := kk) (f := f2) (dn := dn) (t := t) (sc := sc) (R := R) hI hM)
  exact hJ [1442] 100 _ _ _ _ _ ⟨0, Nat.zero_le _, cl_93 hl (by omega) ⟨fun _ => ⟨fun q => ⟨nI_in (c := 0) (by omega) (by omega), ⟨fun _ => hn _ (by omega) _ _, fun q2 => absurd (lg_I (hf2 (k3_0 hkk q))) q2⟩⟩, fun _ => hn _ (by omega) _ _⟩, fun q => absurd rfl q⟩⟩
set_option maxRecDepth 20000 in
theorem lc_23 (hl : l.stackTraces = false) (hd : 60 ≤ d) (hL : L ≤ 2048) (hJ : ∀ (stop : List Nat) (n k pc : Nat) (ls : am_L) (st : am_S) (w : am_M), am_run (tb_L L xs (am_Call l d) Q_L) J stop n k pc ls st w → J k pc ls st w) (hi : i + 4 ≤ L) (hk : 2 ≤ k) (hw : REL w th f) (hnext : ∀ (k2 : Nat) (w2 : am_M) (th2 : Nat) (f2 : Nat → Int64) (p5 p6 p7 p8 : Option Value), k - 2 ≤ k2 → REL w2 th2 f2 → J k2 1442 [some Value.null, some (Value.ref 0), some (Value.ref 13), some (Value.ref 28), some (Value.int (nI i)), p5, p6, p7, p8] [] w2) : J k 1428 [some Value.null, some (Value.ref 0), some (Value.ref 13), some (Value.ref 28), some (Value.int (nI i)), o5, o6, o7, o8] [] w := by
  obtain ⟨st, dn, h, c, L0, sz, pl, rv, tr, tu, t, b, n, dl, ll, lb, ti, pa, tk, sc, szM, bq, lv, trM, dcM, tiM, tc, T, ldM, ly, K, V, I, R, e5, r, N, bm, z, kp, rfl, hI, hM⟩ := hw
  have hM' := hM
  obtain ⟨⟨q1, q2, q3, q4, q5⟩, ⟨m2, m2b, m2c, m2d, m2e⟩, ⟨m3, m3b⟩, ⟨m4, m5, m6, m7⟩, _⟩ := hM'
  have hI' := hI
  obtain ⟨⟨h1, h2, h3⟩, i0, i1, i2, i3, ⟨j1, j2, j3, j4, j5⟩, _⟩ := hI'
  have hn0 := INV_n hI
  refine hJ [1432] 100 _ _ _ _ _ ⟨0, Nat.zero_le _, cl_64 hl (by omega) (INV_GA hI) (fun t' => ?_)⟩
  refine hJ [1442] 100 _ _ _ _ _ ⟨0, Nat.zero_le _, cl_147 hl (by omega) h1 m2c h2 (REL_GM hI hM) (fun p hp => Nat.le_trans (V_le hM j3 p hp) (by omega)) (by omega) q1 q2 q3 (fun R' => ?_)⟩
  exact ⟨fun _ => hnext _ _ _ _ _ _ _ _ (by omega) (REL_mk (th := 0) (t := t') (R := R') hI hM), fun q => absurd (lg_eq (e_dig hI hM)) q⟩
end
section
variable {l : Launch} {d L : Nat} {xs : Nat → Int32} {J : am_K}
set_option maxRecDepth 20000 in
theorem law_loop (hl : l.stackTraces = false) (hd : 60 ≤ d) (hL : L ≤ 2048) (h4 : 4 ≤ L) (hJ : ∀ (stop : List Nat) (n k pc : Nat) (ls : am_L) (st : am_S) (w : am_M), am_run (tb_L L xs (am_Call l d) Q_L) J stop n k pc ls st w → J k pc ls st w) : ∀ (j i k : Nat) (w : am_M) (th : Nat) (f : Nat → Int64) (o5 o6 o7 o8 : Option Value), i ≤ L → L < i + 4 * j + 4 → 2 * j ≤ k → REL w th f → J k 23 [some Value.null, some (Value.ref 0), some (Value.ref 13), some (Value.ref 28), some (Value.int (nI i)), o5, o6, o7, o8] [] w := by
  intro j
  induction j with
  | zero =>
    intro i k w th f o5 o6 o7 o8 hi hj hk hw
    exact hJ [] 100 _ _ _ _ _ (blx (a := L - 4) (b := i) (pk_sub h4) rfl (by omega) (by omega) (fun _ => rfl) (fun q => absurd q (by omega)))
  | succ j ih =>
    intro i k w th f o5 o6 o7 o8 hi hj hk hw
    refine hJ [32] 100 _ _ _ _ _ (blx (a := L - 4) (b := i) (pk_sub h4) rfl (by omega) (by omega) (fun _ => rfl) (fun q => ?_))
    have hi4 : i + 4 ≤ L := by omega
    have hnext : ∀ (k2 : Nat) (w2 : am_M) (th2 : Nat) (f2 : Nat → Int64) (p5 p6 p7 p8 : Option Value), k - 2 ≤ k2 → REL w2 th2 f2 → J k2 1442 [some Value.null, some (Value.ref 0), some (Value.ref 13), some (Value.ref 28), some (Value.int (nI i)), p5, p6, p7, p8] [] w2 := by
      intro k2 w2 th2 f2 p5 p6 p7 p8 hk2 hw2
      refine hJ [23] 100 _ _ _ _ _ ?_
      refine am_jw (J := J) (congrArg (fun x => [some Value.null, some (Value.ref 0), some (Value.ref 13), some (Value.ref 28), some (Value.int x), p5, p6, p7, p8]) (nI_add i 4)) rfl rfl ?_
      exact ih (i + 4) k2 w2 th2 f2 p5 p6 p7 p8 hi4 (by omega) (by omega) hw2
    exact hJ [148, 204, 284, 352, 396, 471, 551, 607, 670, 726, 782, 838, 882, 945, 1013, 1069, 1137, 1178, 1234, 1247, 1303, 1316, 1372, 1428, 1442] 100 _ _ _ _ _ ⟨nI_in (by omega) (by omega), ⟨fun _ => lc_0 hl hd hL hJ hi4 (by omega) hw hnext, fun _ => ⟨fun _ => lc_1 hl hd hL hJ hi4 (by omega) hw hnext, fun _ => ⟨fun _ => lc_2 hl hd hL hJ hi4 (by omega) hw hnext, fun _ => ⟨fun _ => lc_3 hl hd hL hJ hi4 (by omega) hw hnext, fun _ => ⟨fun _ => lc_4 hl hd hL hJ hi4 (by omega) hw hnext, fun _ => ⟨fun _ => lc_5 hl hd hL hJ hi4 (by omega) hw hnext, fun _ => ⟨fun _ => lc_6 hl hd hL hJ hi4 (by omega) hw hnext, fun _ => ⟨fun _ => lc_7 hl hd hL hJ hi4 (by omega) hw hnext, fun _ => ⟨fun _ => lc_8 hl hd hL hJ hi4 (by omega) hw hnext, fun _ => ⟨fun _ => lc_9 hl hd hL hJ hi4 (by omega) hw hnext, fun _ => ⟨fun _ => lc_10 hl hd hL hJ hi4 (by omega) hw hnext, fun _ => ⟨fun _ => lc_11 hl hd hL hJ hi4 (by omega) hw hnext, fun _ => ⟨fun _ => lc_12 hl hd hL hJ hi4 (by omega) hw hnext, fun _ => ⟨fun _ => lc_13 hl hd hL hJ hi4 (by omega) hw hnext, fun _ => ⟨fun _ => lc_14 hl hd hL hJ hi4 (by omega) hw hnext, fun _ => ⟨fun _ => lc_15 hl hd hL hJ hi4 (by omega) hw hnext, fun _ => ⟨fun _ => lc_16 hl hd hL hJ hi4 (by omega) hw hnext, fun _ => ⟨fun _ => lc_17 hl hd hL hJ hi4 (by omega) hw hnext, fun _ => ⟨fun _ => lc_18 hl hd hL hJ hi4 (by omega) hw hnext, fun _ => ⟨fun _ => lc_19 hl hd hL hJ hi4 (by omega) hw hnext, fun _ => ⟨fun _ => lc_20 hl hd hL hJ hi4 (by omega) hw hnext, fun _ => ⟨fun _ => lc_21 hl hd hL hJ hi4 (by omega) hw hnext, fun _ => ⟨fun _ => lc_22 hl hd hL hJ hi4 (by omega) hw hnext, fun _ => ⟨fun _ => lc_23 hl hd hL hJ hi4 (by omega) hw hnext, fun _ => hnext k w th f o5 o6 o7 o8 (by omega) hw⟩⟩⟩⟩⟩⟩⟩⟩⟩⟩⟩⟩⟩⟩⟩⟩⟩⟩⟩⟩⟩⟩⟩⟩⟩
-- the worlds as they are made
set_option maxRecDepth 40000 in
theorem REL_0 : REL (wt 0 0 (fun _ => 0) zN zN 0 0 0 4 0 t0 zN 0 0 0 0 1 0 zN (fun _ => 0) (cm0 ++ [eO (fun _ => 0)])) 0 (fun _ => 0) := by
  refine ⟨0, 0, fun _ => 0, zN, zN, 0, 0, 0, 4, 0, t0, zN, 0, 0, 0, 0, 1, 0, zN, fun _ => 0, 0, 15, -1, 0, 0, 0, 0, zN, 0, 0, zN, zN, fun _ => false, fun _ _ => 0, .inl (0, 32, .inl (fun i => nI (zN i))), [], 32, zN, 0, 0, rfl, ?_, ?_⟩
  · refine ⟨⟨by omega, by omega, ⟨fun j hj => absurd hj (Nat.not_lt_zero j), rfl, fun e => absurd e (Nat.lt_irrefl _), by omega, rfl, Or.inl ⟨rfl, rfl, rfl⟩, fun _ => ⟨rfl, rfl⟩, fun e => absurd e (Nat.lt_irrefl _)⟩⟩, fun _ => ⟨rfl, rfl, rfl, fun q hq => ?_⟩, fun e => absurd e (by omega), fun e => absurd e (by omega), fun e => absurd e (by omega), ⟨by omega, by omega, by omega, by omega, by omega⟩, fun i hi => absurd hi (Nat.not_lt_zero i), fun j hj => (by decide : (0 : Nat) < 4), fun i _ _ => b_0 i, rfl, fun e => (by cases e)⟩
    show pc 0 ≤ 8
    rw [pc_zero.mpr rfl]
    omega
  · exact ⟨⟨Or.inl ⟨rfl, rfl⟩, by omega, by omega, by omega, fun j hj => absurd hj (Nat.not_lt_zero j)⟩, ⟨fun e => (by cases e), fun _ => rfl, by omega, by omega, by omega⟩, ⟨fun e => absurd rfl e, by omega⟩, ⟨rfl, rfl, by omega, fun e => absurd e (by omega)⟩, fun k hk => absurd hk (Nat.not_lt_zero k), fun k hk => absurd hk (Nat.not_lt_zero k), fun p hp => rfl, fun i hi => absurd hi (Nat.not_lt_zero i)⟩
set_option maxRecDepth 40000 in
theorem law_run (hl : l.stackTraces = false) (hd : 60 ≤ d) (hL : L ≤ 2048) (hJ : ∀ (stop : List Nat) (n k pc : Nat) (ls : am_L) (st : am_S) (w : am_M), am_run (tb_L L xs (am_Call l d) Q_L) J stop n k pc ls st w → J k pc ls st w) (k : Nat) (hk : 1100 ≤ k) : J (k + 30) 0 [some Value.null, none, none, none, none, none, none, none, none] [] [] := by
  refine hJ [7] 100 _ _ _ _ _ ⟨12, by omega, cl_40 hl (by omega) ?_⟩
  refine hJ [15] 100 _ _ _ _ _ ⟨14, by omega, cl_92 hl (by omega) ?_⟩
  refine hJ [23] 100 _ _ _ _ _ ⟨1, rfl, by omega, ?_⟩
  by_cases h4 : 4 ≤ L
  · exact law_loop hl hd hL h4 hJ (L / 4) 0 _ _ 0 (fun _ => 0) _ _ _ _ (by omega) (by omega) (by omega) REL_0
  · have h : L = 0 ∨ L = 1 ∨ L = 2 ∨ L = 3 := by omega
    have hneg : nI L - 4 < nI 0 := by rcases h with rfl | rfl | rfl | rfl <;> decide
    exact hJ [] 100 _ _ _ _ _ ⟨fun _ => rfl, fun q => absurd hneg q⟩
end
