/-! Deal: rows at places that change; canBid, conclude -/
/-- a row of ints: at its first place z, or among the rows behind -/
def RA (z q : Nat) (e : am_E) (r : am_M) (nn : Nat) (f : Nat → Int32) : Prop := (q = z ∧ e = .inl (0, nn, .inl f)) ∨ ∃ j, q = j + 28 ∧ r[j]? = some (.inl (0, nn, .inl f))
theorem RA_app {z q : Nat} {e v : am_E} {r : am_M} {nn : Nat} {f : Nat → Int32} (h : RA z q e r nn f) : RA z q e (r ++ [v]) nn f := by
  rcases h with h | ⟨j, h1, h2⟩
  · exact Or.inl h
  · exact Or.inr ⟨j, h1, by rw [List.getElem?_append_left (List.getElem?_eq_some_iff.mp h2).1]; exact h2⟩
theorem RA_new {z : Nat} {e : am_E} {r : am_M} {nn : Nat} {f : Nat → Int32} : RA z (r.length + 28) e (r ++ [.inl (0, nn, .inl f)]) nn f := Or.inr ⟨r.length, rfl, by simp⟩
def lvB (b : Nat → Nat) : Nat → Nat
  | 0 => 0
  | n + 1 => if isLv (b n) then b n else lvB b n
def siB (b : Nat → Nat) : Nat → Int32
  | 0 => -1
  | n + 1 => if isLv (b n) then nI (n % 2) else siB b n
def tiB (b : Nat → Nat) : Nat → Nat
  | 0 => 1
  | n + 1 => if b n = 0 then tiB b n else if 40 < b n then b n - 39 else 1
def tcB (b : Nat → Nat) : Nat → Nat
  | 0 => 1
  | n + 1 => if b n = 0 then tcB b n else if 40 < b n then tcB b n * 2 else 1
def alwD (b : Nat → Nat) (n bd : Nat) : Bool :=
  if bd = 41 then decide (0 < lvB b n) && (!decide (siB b n = nI (n % 2)) && decide (tiB b n = 1)) else
  if bd = 42 then decide (0 < lvB b n) && (decide (siB b n = nI (n % 2)) && decide (tiB b n = 2)) else decide (bd = 0) || decide (lvB b n < bd)
theorem lvB_LV (b : Nat → Nat) : ∀ n, lvB b n = if LV b n = 0 then 0 else b (LV b n - 1)
  | 0 => rfl
  | n + 1 => by
    rw [lvB, LV]
    by_cases h : isLv (b n) = true
    · rw [if_pos h, if_pos h, if_neg (by omega)]
      rfl
    · rw [if_neg h, if_neg h, lvB_LV b n]
theorem siB_LV (b : Nat → Nat) : ∀ n, siB b n = if LV b n = 0 then -1 else nI ((LV b n - 1) % 2)
  | 0 => rfl
  | n + 1 => by
    rw [siB, LV]
    by_cases h : isLv (b n) = true
    · rw [if_pos h, if_pos h, if_neg (by omega)]
      rfl
    · rw [if_neg h, if_neg h, siB_LV b n]
theorem tiB_le {b : Nat → Nat} : ∀ n, (∀ j, j < n → b j < 43) → tiB b n ≤ 3
  | 0, _ => Nat.le_of_ble_eq_true rfl
  | n + 1, h => by
    have h1 := h n (by omega)
    have := tiB_le (b := b) n (fun j hj => h j (by omega))
    rw [tiB]
    split
    · exact this
    · split <;> omega
def tfB (ti : Nat) : Nat := if ti = 1 then 1 else if ti = 2 then 2 else 3
theorem alwD_eq {b : Nat → Nat} {n dl ll lb ti pa bd : Nat} (h : AI b n dl ll lb ti pa) (hT : tiB b n = tfB ti) (hbd : bd < 43) : alwD b n bd = alw n dl ll lb ti bd := by
  rw [AI_alw h]
  have hl := LV_le b n
  have hA := h
  obtain ⟨_, _, _, _, _, h6, _, _⟩ := h
  have hv := lvB_LV b n
  have hs := siB_LV b n
  have hpar : ¬ LV b n = 0 → decide (siB b n = nI (n % 2)) = decide ((n - (LV b n - 1)) % 2 = 0) := by
    intro e0
    rw [hs, if_neg e0]
    by_cases q : (n - (LV b n - 1)) % 2 = 0
    · rw [decide_eq_true q, decide_eq_true ((nI_eq (by omega) (by omega)).mpr (by omega))]
    · rw [decide_eq_false q, decide_eq_false (fun q2 => q (by have := (nI_eq (by omega) (by omega)).mp q2; omega))]
  have h41 : decide (tiB b n = 1) = !SN b 41 n := by
    rw [hT]
    unfold tfB
    rcases h6 with ⟨a, b1, c1⟩ | ⟨a, b1, c1⟩ | ⟨a, b1, c1⟩ <;> rw [a, b1] <;> rfl
  have h42 : decide (tiB b n = 2) = (SN b 41 n && !SN b 42 n) := by
    rw [hT]
    unfold tfB
    rcases h6 with ⟨a, b1, c1⟩ | ⟨a, b1, c1⟩ | ⟨a, b1, c1⟩ <;> rw [a, b1, c1] <;> rfl
  have hpos : decide (0 < lvB b n) = !decide (LV b n = 0) := by
    rw [hv]
    by_cases e0 : LV b n = 0
    · rw [if_pos e0, decide_eq_true e0]; rfl
    · have h0 := (AI_ll hA).2 (by omega)
      rw [if_neg e0, decide_eq_false e0, decide_eq_true (show 0 < b (LV b n - 1) by omega)]; rfl
  unfold alwD alwM
  by_cases e1 : bd = 41
  · subst e1
    show (decide (0 < lvB b n) && (!decide (siB b n = nI (n % 2)) && decide (tiB b n = 1))) = (if LV b n = 0 then false else (!decide ((n - (LV b n - 1)) % 2 = 0) && !SN b 41 n))
    rw [hpos, h41]
    by_cases e0 : LV b n = 0
    · rw [if_pos e0, decide_eq_true e0]; rfl
    · rw [if_neg e0, decide_eq_false e0, hpar e0]; rfl
  · by_cases e2 : bd = 42
    · subst e2
      show (decide (0 < lvB b n) && (decide (siB b n = nI (n % 2)) && decide (tiB b n = 2))) = (if LV b n = 0 then false else (decide ((n - (LV b n - 1)) % 2 = 0) && (SN b 41 n && !SN b 42 n)))
      rw [hpos, h42]
      by_cases e0 : LV b n = 0
      · rw [if_pos e0, decide_eq_true e0]; rfl
      · rw [if_neg e0, decide_eq_false e0, hpar e0]; rfl
    · rw [if_neg e1, if_neg e2]
      by_cases e3 : bd = 0
      · rw [if_pos e3, decide_eq_true e3]; rfl
      · rw [if_neg e3, if_pos (by omega), decide_eq_false e3, Bool.false_or, hv]
        by_cases e0 : LV b n = 0
        · rw [if_pos e0, if_pos e0]
          exact decide_eq_true (by omega)
        · rw [if_neg e0, if_neg e0]
theorem tiB_u (b : Nat → Nat) {n bd ti : Nat} (h : tiB b n = tfB ti) (hbd : bd < 43) : tiB (uN b n bd) (n + 1) = tfB (nTi ti bd) := by
  have hc : ∀ m, m ≤ n → tiB (uN b n bd) m = tiB b m := by
    intro m
    induction m with
    | zero => intro _; rfl
    | succ m ih =>
      intro hm
      rw [tiB, tiB, uN_lo b n bd m (by omega), ih (by omega)]
  rw [tiB, uN_s, hc n (Nat.le_refl _), h]
  unfold nTi tfB
  by_cases e0 : bd = 0
  · rw [if_pos e0, if_pos e0]
  · rw [if_neg e0, if_neg e0]
    by_cases e1 : bd ≤ 40
    · rw [if_neg (by omega), if_pos e1]; rfl
    · rw [if_pos (by omega), if_neg e1]
      by_cases e2 : bd = 41
      · subst e2; rfl
      · have : bd = 42 := by omega
        subst this; rfl
theorem tcB_u (b : Nat → Nat) {n dl ll lb bd ti : Nat} (h : tcB b n = ti) (hbd : bd < 43) (ha : alw n dl ll lb ti bd = true) : tcB (uN b n bd) (n + 1) = nTi ti bd := by
  have hc : ∀ m, m ≤ n → tcB (uN b n bd) m = tcB b m := by
    intro m
    induction m with
    | zero => intro _; rfl
    | succ m ih =>
      intro hm
      rw [tcB, tcB, uN_lo b n bd m (by omega), ih (by omega)]
  rw [tcB, uN_s, hc n (Nat.le_refl _), h]
  unfold nTi
  unfold alw at ha
  by_cases e0 : bd = 0
  · rw [if_pos e0, if_pos e0]
  · rw [if_neg e0] at ha
    rw [if_neg e0, if_neg e0]
    by_cases e1 : bd ≤ 40
    · rw [if_neg (by omega), if_pos e1]
    · rw [if_neg e1] at ha
      rw [if_pos (by omega), if_neg e1]
      by_cases el : ll = 0
      · rw [if_pos el] at ha; cases ha
      · rw [if_neg el] at ha
        by_cases e2 : bd = 41
        · rw [if_pos e2] at ha ⊢
          have := of_decide_eq_true (Bool.and_eq_true_iff.mp ha).2
          omega
        · rw [if_neg e2] at ha ⊢
          have := of_decide_eq_true (Bool.and_eq_true_iff.mp ha).2
          omega
theorem isZM_uniq {b : Nat → Nat} {n z z' : Nat} (h : isZM b n z) (h' : isZM b n z') : z = z' := by
  obtain ⟨a1, a2, a3, a4, a5⟩ := h
  obtain ⟨b1, b2, b3, b4, b5⟩ := h'
  rcases Nat.lt_trichotomy z z' with e | e | e
  · exact absurd ⟨a3, a4⟩ (b5 z e a2)
  · exact e
  · exact absurd ⟨b3, b4⟩ (a5 z' e b2)
section
variable {l : Launch} {d k : Nat} {Q : am_Q} {dr gs gd gz bq kq tq ld lq : Nat} {dc : Int32} {st : Nat} {dn : Int32} {h : Nat → Int32} {c L : Nat → Nat} {sz pl : Nat} {rv : Int32} {tr tu : Nat} {t : am_T5} {b : Nat → Nat} {n dl ll lb ti pa : Nat} {tk : Nat → Nat} {sc : Nat → Int32} {hg : Nat → Int32} {e19 e20 e21 e22 : am_E} {Rv Iw Ho Go So : Nat → Int32} {r : am_M}
theorem RA_at {z q nn : Nat} {e : am_E} {f : Nat → Int32} (hR : RA z q e r nn f) (hz : (wd dr gs gd gz bq kq tq ld lq dc st dn h c L sz pl rv tr tu t b n dl ll lb ti pa tk sc hg e19 e20 e21 e22 Rv Iw Ho Go So r)[z]? = some e) : (wd dr gs gd gz bq kq tq ld lq dc st dn h c L sz pl rv tr tu t b n dl ll lb ti pa tk sc hg e19 e20 e21 e22 Rv Iw Ho Go So r)[q]? = some (.inl (0, nn, .inl f)) := by
  rcases hR with ⟨rfl, rfl⟩ | ⟨j, rfl, h2⟩
  · exact hz
  · exact h2
theorem BA_at {nn : Nat} {f : Nat → Int32} (hR : RA 19 bq e19 r nn f) : (wd dr gs gd gz bq kq tq ld lq dc st dn h c L sz pl rv tr tu t b n dl ll lb ti pa tk sc hg e19 e20 e21 e22 Rv Iw Ho Go So r)[bq]? = some (.inl (0, nn, .inl f)) := RA_at hR rfl
theorem LA_at {nn : Nat} {f : Nat → Int32} (hR : RA 22 lq e22 r nn f) : (wd dr gs gd gz bq kq tq ld lq dc st dn h c L sz pl rv tr tu t b n dl ll lb ti pa tk sc hg e19 e20 e21 e22 Rv Iw Ho Go So r)[lq]? = some (.inl (0, nn, .inl f)) := RA_at hR rfl
theorem tl_at {v : am_E} : (wd dr gs gd gz bq kq tq ld lq dc st dn h c L sz pl rv tr tu t b n dl ll lb ti pa tk sc hg e19 e20 e21 e22 Rv Iw Ho Go So (r ++ [v]))[r.length + 28]? = some v := by
  show (r ++ [v])[r.length]? = some v
  simp
theorem tl_put {v v' : am_E} {kk : am_M → Prop} (hk : kk (wd dr gs gd gz bq kq tq ld lq dc st dn h c L sz pl rv tr tu t b n dl ll lb ti pa tk sc hg e19 e20 e21 e22 Rv Iw Ho Go So (r ++ [v']))) : am_put (wd dr gs gd gz bq kq tq ld lq dc st dn h c L sz pl rv tr tu t b n dl ll lb ti pa tk sc hg e19 e20 e21 e22 Rv Iw Ho Go So (r ++ [v])) (r.length + 28) v' kk := by
  refine ap ?_ ?_
  · show r.length + 28 < (r ++ [v]).length + 28
    simp
  · have : (wd dr gs gd gz bq kq tq ld lq dc st dn h c L sz pl rv tr tu t b n dl ll lb ti pa tk sc hg e19 e20 e21 e22 Rv Iw Ho Go So (r ++ [v])).set (r.length + 28) v' = (wd dr gs gd gz bq kq tq ld lq dc st dn h c L sz pl rv tr tu t b n dl ll lb ti pa tk sc hg e19 e20 e21 e22 Rv Iw Ho Go So (r ++ [v'])) := by
      show (wd dr gs gd gz bq kq tq ld lq dc st dn h c L sz pl rv tr tu t b n dl ll lb ti pa tk sc hg e19 e20 e21 e22 Rv Iw Ho Go So ((r ++ [v]).set r.length v')) = _
      congr 1
      simp
    rw [this]
    exact hk
theorem cl_99 (hl : l.stackTraces = false) (hd : 1 ≤ d) {bg : Nat → Nat} {bn bd : Nat} {bf : Nat → Int32} (hgs : gs = 1) (hb : RA 19 bq e19 r bn bf) (hbf : ∀ j, j < bn → bf j = nI (bg j)) (hb43 : ∀ j, j < bn → bg j < 43) (hbn : bn ≤ 1000) (hbd : bd < 43) (hq : Q (.inl (some (.int (bI (alwD bg bn bd))))) (wd dr gs gd gz bq kq tq ld lq dc st dn h c L sz pl rv tr tu t b n dl ll lb ti pa tk sc hg e19 e20 e21 e22 Rv Iw Ho Go So r)) : am_Call l d 99 k [.ref 0, .int (nI bd)] (wd dr gs gd gz bq kq tq ld lq dc st dn h c L sz pl rv tr tu t b n dl ll lb ti pa tk sc hg e19 e20 e21 e22 Rv Iw Ho Go So r) Q := by
  subst hgs
  have hB : (wd dr 1 gd gz bq kq tq ld lq dc st dn h c L sz pl rv tr tu t b n dl ll lb ti pa tk sc hg e19 e20 e21 e22 Rv Iw Ho Go So r)[bq]? = some (.inl (0, bn, .inl bf)) := BA_at hb
  refine op_99 hl (by omega) (Nat.le_of_ble_eq_true rfl) (fun J hJ => ?_)
  have hbm : nI bn - nI bn / 2 * 2 = nI (bn % 2) := pk_rem (d := 2) (by omega) (by omega) (by omega)
  have hti : tiB bg bn ≤ 3 := tiB_le bn hb43
  have hlv : lvB bg bn ≤ 40 := by
    rw [lvB_LV]
    split
    · omega
    · rename_i e0
      have := isLv_iff.mp (LV_lv bg bn (by omega))
      omega
  have hend : ∀ o, J k 102 [some (.ref 0), some (.int (nI bd)), some (.int (nI (bn % 2))), some (.int (nI (lvB bg bn))), some (.int (siB bg bn)), some (.int (nI (tiB bg bn))), o] [] (wd dr 1 gd gz bq kq tq ld lq dc st dn h c L sz pl rv tr tu t b n dl ll lb ti pa tk sc hg e19 e20 e21 e22 Rv Iw Ho Go So r) := by
    intro o
    have f0 : ∀ {x : Bool}, alwD bg bn bd = x → (x = false → Q (.inl (some (.int 0))) (wd dr 1 gd gz bq kq tq ld lq dc st dn h c L sz pl rv tr tu t b n dl ll lb ti pa tk sc hg e19 e20 e21 e22 Rv Iw Ho Go So r)) ∧ (x = true → Q (.inl (some (.int 1))) (wd dr 1 gd gz bq kq tq ld lq dc st dn h c L sz pl rv tr tu t b n dl ll lb ti pa tk sc hg e19 e20 e21 e22 Rv Iw Ho Go So r)) := by
      intro x hx
      rw [hx] at hq
      exact ⟨fun e => by rw [e] at hq; exact hq, fun e => by rw [e] at hq; exact hq⟩
    refine hJ [] 100 _ _ _ _ _ (beq (a := bd) (b := 41) (by omega) (by omega) (fun e => ?_) (fun e => beq (a := bd) (b := 42) (by omega) (by omega) (fun e2 => ?_) (fun e2 => beq (a := bd) (b := 0) (by omega) (by omega) (fun e3 => ⟨by decide, (f0 (x := true) ?_).2 rfl⟩) (fun e3 => ble (a := bd) (b := lvB bg bn) (by omega) (by omega) (fun e4 => ⟨by decide, (f0 (x := false) ?_).1 rfl⟩) (fun e4 => ⟨by decide, (f0 (x := true) ?_).2 rfl⟩)))))
    · have ea : alwD bg bn bd = (decide (0 < lvB bg bn) && (!decide (siB bg bn = nI (bn % 2)) && decide (tiB bg bn = 1))) := if_pos e
      refine ble (a := lvB bg bn) (b := 0) (by omega) (by omega) (fun q1 => ⟨by decide, (f0 (x := false) ?_).1 rfl⟩) (fun q1 => ⟨fun q2 => ⟨by decide, (f0 (x := false) ?_).1 rfl⟩, fun q2 => beq (a := tiB bg bn) (b := 1) (by omega) (by omega) (fun q3 => ⟨by decide, (f0 (x := true) ?_).2 rfl⟩) (fun q3 => ⟨by decide, (f0 (x := false) ?_).1 rfl⟩)⟩)
      · rw [ea, decide_eq_false (by omega)]; rfl
      · rw [ea, decide_eq_true q2]; simp
      · rw [ea, decide_eq_true q1, decide_eq_false q2, decide_eq_true q3]; rfl
      · rw [ea, decide_eq_false q3]; simp
    · have ea : alwD bg bn bd = (decide (0 < lvB bg bn) && (decide (siB bg bn = nI (bn % 2)) && decide (tiB bg bn = 2))) := by rw [alwD, if_neg e, if_pos e2]
      refine ble (a := lvB bg bn) (b := 0) (by omega) (by omega) (fun q1 => ⟨by decide, (f0 (x := false) ?_).1 rfl⟩) (fun q1 => ⟨fun q2 => beq (a := tiB bg bn) (b := 2) (by omega) (by omega) (fun q3 => ⟨by decide, (f0 (x := true) ?_).2 rfl⟩) (fun q3 => ⟨by decide, (f0 (x := false) ?_).1 rfl⟩), fun q2 => ⟨by decide, (f0 (x := false) ?_).1 rfl⟩⟩)
      · rw [ea, decide_eq_false (by omega)]; rfl
      · rw [ea, decide_eq_true q1, decide_eq_true q2, decide_eq_true q3]; rfl
      · rw [ea, decide_eq_false q3]; simp
      · rw [ea, decide_eq_false q2]; simp
    · rw [alwD, if_neg e, if_neg e2, decide_eq_true e3]; rfl
    · rw [alwD, if_neg e, if_neg e2, decide_eq_false e3, decide_eq_false (by omega)]; rfl
    · rw [alwD, if_neg e, if_neg e2, decide_eq_true e4]; simp
  have hL : ∀ m i, i + m = bn → J k 29 [some (.ref 0), some (.int (nI bd)), some (.int (nI (bn % 2))), some (.int (nI (lvB bg i))), some (.int (siB bg i)), some (.int (nI (tiB bg i))), some (.int (nI i))] [] (wd dr 1 gd gz bq kq tq ld lq dc st dn h c L sz pl rv tr tu t b n dl ll lb ti pa tk sc hg e19 e20 e21 e22 Rv Iw Ho Go So r) := by
    intro m
    induction m with
    | zero =>
      intro i hi
      have : i = bn := by omega
      subst this
      exact hJ [29, 102] 100 _ _ _ _ _ (ay (q := bq) hB (ble (a := i) (b := i) (by omega) (by omega) (fun _ => hend _) (fun q => absurd q (by omega))))
    | succ m ih =>
      intro i hi
      have hv := hb43 i (by omega)
      have e : bf (nI i).toNatClampNeg = nI (bg i) := by rw [i_cl (by omega)]; exact hbf i (by omega)
      have e2 : nI i - nI i / 2 * 2 = nI (i % 2) := pk_rem (d := 2) (by omega) (by omega) (by omega)
      have ex : ∀ lv sd tm : Int32, lv = nI (lvB bg (i + 1)) → sd = siB bg (i + 1) → tm = nI (tiB bg (i + 1)) → J k 29 [some (.ref 0), some (.int (nI bd)), some (.int (nI (bn % 2))), some (.int lv), some (.int sd), some (.int tm), some (.int (nI i + 1))] [] (wd dr 1 gd gz bq kq tq ld lq dc st dn h c L sz pl rv tr tu t b n dl ll lb ti pa tk sc hg e19 e20 e21 e22 Rv Iw Ho Go So r) := by
        intro lv sd tm h1 h2 h3
        have h4 := ih (i + 1) (by omega)
        rw [← h1, ← h2, ← h3, ← nI_1 i] at h4
        exact h4
      have hin : vp_in (nI i) bn := nI_in (by omega) (by omega)
      refine hJ [29] 100 _ _ _ _ _ (ay (q := bq) hB (ble (a := bn) (b := i) (by omega) (by omega) (fun q => absurd q (by omega)) (fun _ => ay (q := bq) hB ⟨hin, beqx (a := bg i) (b := 0) e rfl (by omega) (by omega) (fun q => ex _ _ _ ?_ ?_ ?_) (fun q => ay (q := bq) hB ⟨hin, blex (a := bg i) (b := 40) e rfl (by omega) (by omega) (fun q2 => ay (q := bq) hB ⟨hin, by decide, ex _ _ _ ?_ ?_ ?_⟩) (fun q2 => ay (q := bq) hB ⟨hin, ex _ _ _ ?_ ?_ ?_⟩)⟩)⟩)))
      · rw [lvB, if_neg (by rw [isLv_iff]; omega)]
      · rw [siB, if_neg (by rw [isLv_iff]; omega)]
      · rw [tiB, if_pos q]
      · rw [lvB, if_pos (isLv_iff.mpr (by omega))]; exact e
      · rw [siB, if_pos (isLv_iff.mpr (by omega))]; exact e2
      · rw [tiB, if_neg q, if_neg (by omega)]; rfl
      · rw [lvB, if_neg (by rw [isLv_iff]; omega)]
      · rw [siB, if_neg (by rw [isLv_iff]; omega)]
      · rw [tiB, if_neg q, if_pos (by omega)]
        show bf (nI i).toNatClampNeg - 39 = _
        rw [e]
        exact pk_sub (b := 39) (by omega)
  have h0 := hL bn 0 (by omega)
  rw [← hbm] at h0
  exact hJ [29] 100 _ _ _ _ _ ⟨fun _ => ay (q := bq) hB ⟨by decide, h0⟩, fun q => absurd rfl q⟩
end
