/-! from a world as it lies to the same in order -/
def ok2 (v : Value) : Prop := match v with
  | .ref q => q < 2
  | _ => True
section
variable {l : Launch} {d k : Nat} {Q : am_Q} {dr gs gd gz bq kq tq ld lq : Nat} {dc : Int32} {st : Nat} {dn : Int32} {h : Nat → Int32} {c L : Nat → Nat} {sz pl : Nat} {rv : Int32} {tr tu : Nat} {t : am_T5} {b : Nat → Nat} {n dl ll lb ti pa : Nat} {tk : Nat → Nat} {sc : Nat → Int32} {hg : Nat → Int32} {e19 e20 e21 e22 : am_E} {Rv Iw Ho Go So : Nat → Int32} {r : am_M}
theorem gc_go {J : am_K} (hGC : am_GC J) {pc0 : Nat} {ls ls' : am_L} {dr dk S st : Nat} {w : am_M} (hle : ls'.length = ls.length) (hsub : ∀ (j : Nat) (v : Value), ls'[j]? = some (some v) → ls[j]? = some (some v)) (hls : ∀ v, some v ∈ ls' → ok2 v) (hN : ∀ w', NZ dr dk S st w' → J k pc0 ls' [] w') (hw : LR dr dk S st w) : J k pc0 ls [] w := by
  obtain ⟨gd, gz, bq, kq, tq, ld, lq, dc, h, c, L, sz, pl, rv, tr, tu, t, b, n, dl, ll, lb, ti, pa, tk, sc, hg, e19, e20, e21, e22, Rv, Iw, Ho, Go, So, r, z, kp, rfl, hI, hX, hR, bf, lf, kf, nk, fp, ⟨hb, hbf⟩, ⟨hla, hlf⟩, ⟨hk, hkf⟩, ht, hrow, hinj, hne, hdis⟩ := hw
  obtain ⟨r', hr'⟩ : ∃ r' : am_M, r' = (List.range (pl / 4)).map (fun i => (r[fp i]?).getD eZ0) := ⟨_, rfl⟩
  have hlen : r'.length = pl / 4 := by rw [hr', List.length_map, List.length_range]
  have hat : ∀ i, i < pl / 4 → ∃ (n' : Nat) (f' : Nat → Int32), r[fp i]? = some (.inl (0, n', .inl f')) ∧ r'[i]? = some (.inl (0, n', .inl f')) := by
    intro i hi
    obtain ⟨n', f', h1⟩ := hrow i hi
    refine ⟨n', f', h1, ?_⟩
    rw [hr', List.getElem?_map, List.getElem?_range hi]
    show some ((r[fp i]?).getD eZ0) = _
    rw [h1]
    rfl
  have hq19 : bq = 19 ∨ 28 ≤ bq := by rcases hb with ⟨q, _⟩ | ⟨j, q, _⟩ <;> omega
  have hq20 : kq = 20 ∨ 28 ≤ kq := by rcases hk with ⟨q, _⟩ | ⟨j, q, _⟩ <;> omega
  have hq21 : tq = 21 ∨ 28 ≤ tq := by rcases ht with ⟨q, _⟩ | ⟨j, q, _⟩ <;> omega
  have hq22 : lq = 22 ∨ 28 ≤ lq := by rcases hla with ⟨q, _⟩ | ⟨j, q, _⟩ <;> omega
  have hnew : NZ dr dk S st (wd dr st gd gz 19 20 21 ld 22 dc st (nI dk) h c L sz pl rv tr tu t b n dl ll lb ti pa tk sc hg (.inl (0, n, .inl bf)) (.inl (0, nk, .inl kf)) (.inl (3, pl / 4, .inr (.inr (NF (pl / 4))))) (.inl (0, pl % 4, .inl lf)) Rv Iw Ho Go So r') :=
    ⟨gd, gz, ld, dc, h, c, L, sz, pl, rv, tr, tu, t, b, n, dl, ll, lb, ti, pa, tk, sc, hg, _, _, _, _, Rv, Iw, Ho, Go, So, r', z, kp, rfl, hI, hX, hR, bf, lf, kf, nk, ⟨rfl, hbf⟩, ⟨rfl, hlf⟩, ⟨rfl, hkf⟩, rfl, hlen, fun i hi => by
      obtain ⟨n', f', _, h2⟩ := hat i hi
      exact ⟨n', f', h2⟩⟩
  have hL28 : (wd dr st gd gz 19 20 21 ld 22 dc st (nI dk) h c L sz pl rv tr tu t b n dl ll lb ti pa tk sc hg (.inl (0, n, .inl bf)) (.inl (0, nk, .inl kf)) (.inl (3, pl / 4, .inr (.inr (NF (pl / 4))))) (.inl (0, pl % 4, .inl lf)) Rv Iw Ho Go So r').length = 28 + pl / 4 := by
    show r'.length + 28 = _
    omega
  have hmem : ∀ e ∈ r', ∃ (n' : Nat) (f' : Nat → Int32), e = .inl (0, n', .inl f') := by
    intro e he
    obtain ⟨i, hi⟩ := List.getElem?_of_mem he
    have hil := (List.getElem?_eq_some_iff.mp hi).1
    obtain ⟨n', f', _, h2⟩ := hat i (by omega)
    rw [h2] at hi
    cases hi
    exact ⟨n', f', rfl⟩
  refine hGC k pc0 ls ls' _ _ (roM bq kq tq lq fp) ?_ ?_ hle ?_ ?_ ?_ (hN _ hnew)
  · intro j e he
    match j, he with
    | 0, he => cases he; rfl
    | 1, he => cases he; rfl
    | 2, he => cases he; rfl
    | 3, he => cases he; rfl
    | 4, he => cases he; rfl
    | 5, he => cases he; rfl
    | 6, he => cases he; rfl
    | 7, he => cases he; rfl
    | 8, he => cases he; rfl
    | 9, he => cases he; rfl
    | 10, he => cases he; rfl
    | 11, he => cases he; rfl
    | 12, he => cases he; rfl
    | 13, he => cases he; rfl
    | 14, he =>
      cases he
      show some (Sum.inl (4, 4, Sum.inr (Sum.inr (am_rows 14)))) = some (Sum.inl (4, 4, Sum.inr (Sum.inr (fun j => (am_rows 14 j).map (roM bq kq tq lq fp)))))
      rw [roM_rows]
    | 15, he => cases he; rfl
    | 16, he => cases he; rfl
    | 17, he => cases he; rfl
    | 18, he => cases he; rfl
    | 19, he => cases he; exact RA_at hb rfl
    | 20, he => cases he; exact RA_at hk rfl
    | 21, he =>
      cases he
      show (wd dr st gd gz bq kq tq ld lq dc st (nI dk) h c L sz pl rv tr tu t b n dl ll lb ti pa tk sc hg e19 e20 e21 e22 Rv Iw Ho Go So r)[tq]? = some (Sum.inl (3, pl / 4, Sum.inr (Sum.inr (fun i => (NF (pl / 4) i).map (roM bq kq tq lq fp)))))
      rw [roM_F]
      rcases ht with ⟨rfl, rfl⟩ | ⟨j, rfl, h2⟩
      · rfl
      · exact h2
    | 22, he => cases he; exact RA_at hla rfl
    | 23, he => cases he; rfl
    | 24, he => cases he; rfl
    | 25, he => cases he; rfl
    | 26, he => cases he; rfl
    | 27, he => cases he; rfl
    | i + 28, he =>
      have he' : r'[i]? = some e := he
      have hil := (List.getElem?_eq_some_iff.mp he').1
      obtain ⟨n', f', h1, h2⟩ := hat i (by omega)
      rw [h2] at he'
      cases he'
      rw [roM_28]
      exact h1
  · rw [hL28]
    exact roM_inj hq19 hq20 hq21 hq22 hinj hne hdis
  · intro j v hv
    have := hls v (List.mem_of_getElem? hv)
    rw [hsub j v hv]
    cases v with
    | ref q =>
      have hq2 : q < 2 := this
      match q, hq2 with
      | 0, _ => rfl
      | 1, _ => rfl
    | _ => rfl
  · intro e he
    have := wd_we (tn := pl / 4) hmem hlen.symm e he
    rw [hlen] at this
    rw [hL28]
    exact this
  · intro v hv
    rw [hL28]
    have := hls v hv
    cases v with
    | ref q =>
      have hq2 : q < 2 := this
      exact Nat.lt_of_lt_of_le hq2 (by omega)
    | _ => trivial
end
