/-! the relation of the Deal and its table; what nobody names any more is left out -/
def NF (tn : Nat) : Nat → Option Nat := fun i => if i < tn then some (i + 28) else none
def OF (fp : Nat → Nat) (tn : Nat) : Nat → Option Nat := fun i => if i < tn then some (fp i + 28) else none
def TA (q : Nat) (e : am_E) (r : am_M) (tn : Nat) (F : Nat → Option Nat) : Prop := (q = 21 ∧ e = .inl (3, tn, .inr (.inr F))) ∨ ∃ j, q = j + 28 ∧ r[j]? = some (.inl (3, tn, .inr (.inr F)))
def XI (st : Nat) (h : Nat → Int32) (sz pl : Nat) (b : Nat → Nat) (n : Nat) : Prop := st = 3 → (∀ p, p < 4 → pc (h p) + pl / 4 = sz) ∧ (0 < LV b n → pl / 4 = sz)
def RF (gd gz ld st dl sz pl : Nat) (L : Nat → Nat) (hg h : Nat → Int32) (b : Nat → Nat) (n ti : Nat) (sc : Nat → Int32) (S : Nat) : Prop :=
  gd = dl ∧ gz = sz ∧ ld < 4 ∧ (st = 2 → ld = L (pl / 4)) ∧ (∀ p, p < 4 → hg p = h p) ∧ tiB b n = tfB ti ∧ ∃ a0 a1 : Nat, sc 0 = nI a0 ∧ sc 1 = nI a1 ∧ a0 + a1 = S
/-- the rows that change, wherever they lie -/
def LFX (bq kq tq lq : Nat) (e19 e20 e21 e22 : am_E) (r : am_M) (n pl tr st : Nat) (b c : Nat → Nat) : Prop :=
  ∃ (bf lf kf : Nat → Int32) (nk : Nat) (fp : Nat → Nat), (RA 19 bq e19 r n bf ∧ ∀ j, j < n → bf j = nI (b j)) ∧ (RA 22 lq e22 r (pl % 4) lf ∧ ∀ j, j < pl % 4 → lf j = nI (c (4 * (pl / 4) + j))) ∧ (RA 20 kq e20 r nk kf ∧ (st = 2 → nk = 4 ∧ kf 1 = nI tr ∧ ∃ cz, cz < 4 ∧ kf 2 = nI cz)) ∧ TA tq e21 r (pl / 4) (OF fp (pl / 4)) ∧
    (∀ i, i < pl / 4 → ∃ (n' : Nat) (f' : Nat → Int32), r[fp i]? = some (.inl (0, n', .inl f'))) ∧ (∀ i j, i < pl / 4 → j < pl / 4 → fp i = fp j → i = j) ∧ (∀ i, i < pl / 4 → fp i + 28 ≠ bq ∧ fp i + 28 ≠ kq ∧ fp i + 28 ≠ tq ∧ fp i + 28 ≠ lq) ∧ (bq ≠ kq ∧ bq ≠ tq ∧ bq ≠ lq ∧ kq ≠ tq ∧ kq ≠ lq ∧ tq ≠ lq)
/-- the same, each at its own place -/
def NFX (e19 e20 e21 e22 : am_E) (r : am_M) (n pl tr st : Nat) (b c : Nat → Nat) : Prop :=
  ∃ (bf lf kf : Nat → Int32) (nk : Nat), (e19 = .inl (0, n, .inl bf) ∧ ∀ j, j < n → bf j = nI (b j)) ∧ (e22 = .inl (0, pl % 4, .inl lf) ∧ ∀ j, j < pl % 4 → lf j = nI (c (4 * (pl / 4) + j))) ∧ (e20 = .inl (0, nk, .inl kf) ∧ (st = 2 → nk = 4 ∧ kf 1 = nI tr ∧ ∃ cz, cz < 4 ∧ kf 2 = nI cz)) ∧ e21 = .inl (3, pl / 4, .inr (.inr (NF (pl / 4)))) ∧ r.length = pl / 4 ∧ ∀ i, i < pl / 4 → ∃ (n' : Nat) (f' : Nat → Int32), r[i]? = some (.inl (0, n', .inl f'))
section
variable {h : Nat → Int32} {c L : Nat → Nat} {sz pl : Nat} {rv : Int32} {tr tu : Nat} {b : Nat → Nat} {n dl ll lb ti pa : Nat} {tk : Nat → Nat} {z kp st : Nat}
def LR (dr dk S st : Nat) (w : am_M) : Prop := ∃ (gd gz bq kq tq ld lq : Nat) (dc : Int32) (h : Nat → Int32) (c L : Nat → Nat) (sz pl : Nat) (rv : Int32) (tr tu : Nat) (t : am_T5) (b : Nat → Nat) (n dl ll lb ti pa : Nat) (tk : Nat → Nat) (sc : Nat → Int32) (hg : Nat → Int32) (e19 e20 e21 e22 : am_E) (Rv Iw Ho Go So : Nat → Int32) (r : am_M) (z kp : Nat),
  w = (wd dr st gd gz bq kq tq ld lq dc st (nI dk) h c L sz pl rv tr tu t b n dl ll lb ti pa tk sc hg e19 e20 e21 e22 Rv Iw Ho Go So r) ∧ (INV st h c L sz pl rv tr tu b n dl ll lb ti pa tk z kp) ∧ XI st h sz pl b n ∧ RF gd gz ld st dl sz pl L hg h b n ti sc S ∧ LFX bq kq tq lq e19 e20 e21 e22 r n pl tr st b c
def NZ (dr dk S st : Nat) (w : am_M) : Prop := ∃ (gd gz ld : Nat) (dc : Int32) (h : Nat → Int32) (c L : Nat → Nat) (sz pl : Nat) (rv : Int32) (tr tu : Nat) (t : am_T5) (b : Nat → Nat) (n dl ll lb ti pa : Nat) (tk : Nat → Nat) (sc : Nat → Int32) (hg : Nat → Int32) (e19 e20 e21 e22 : am_E) (Rv Iw Ho Go So : Nat → Int32) (r : am_M) (z kp : Nat),
  w = (wd dr st gd gz 19 20 21 ld 22 dc st (nI dk) h c L sz pl rv tr tu t b n dl ll lb ti pa tk sc hg e19 e20 e21 e22 Rv Iw Ho Go So r) ∧ (INV st h c L sz pl rv tr tu b n dl ll lb ti pa tk z kp) ∧ XI st h sz pl b n ∧ RF gd gz ld st dl sz pl L hg h b n ti sc S ∧ NFX e19 e20 e21 e22 r n pl tr st b c
end
/-- the places of the rows, as they lie -/
def roM (bq kq tq lq : Nat) (fp : Nat → Nat) : Nat → Nat := fun j => if j = 19 then bq else if j = 20 then kq else if j = 21 then tq else if j = 22 then lq else if j < 28 then j else fp (j - 28) + 28
theorem roM_28 {bq kq tq lq i : Nat} {fp : Nat → Nat} : roM bq kq tq lq fp (i + 28) = fp i + 28 := by
  unfold roM
  rw [if_neg (by omega), if_neg (by omega), if_neg (by omega), if_neg (by omega), if_neg (by omega), show i + 28 - 28 = i by omega]
theorem roM_rows {bq kq tq lq : Nat} {fp : Nat → Nat} : (fun j => (am_rows 14 j).map (roM bq kq tq lq fp)) = am_rows 14 := by
  funext j
  unfold am_rows
  by_cases hj : j < 4
  · rw [if_pos hj]
    show some (roM bq kq tq lq fp (14 + 1 + j)) = _
    unfold roM
    rw [if_neg (by omega), if_neg (by omega), if_neg (by omega), if_neg (by omega), if_pos (by omega)]
  · rw [if_neg hj]
    rfl
theorem roM_F {bq kq tq lq tn : Nat} {fp : Nat → Nat} : (fun i => (NF tn i).map (roM bq kq tq lq fp)) = OF fp tn := by
  funext i
  unfold NF OF
  by_cases hi : i < tn
  · rw [if_pos hi, if_pos hi]
    show some _ = some _
    rw [roM_28]
  · rw [if_neg hi, if_neg hi]
    rfl
theorem roM_inj {bq kq tq lq tn : Nat} {fp : Nat → Nat} (hb : bq = 19 ∨ 28 ≤ bq) (hk : kq = 20 ∨ 28 ≤ kq) (ht : tq = 21 ∨ 28 ≤ tq) (hl : lq = 22 ∨ 28 ≤ lq) (h1 : ∀ i j, i < tn → j < tn → fp i = fp j → i = j) (h2 : ∀ i, i < tn → fp i + 28 ≠ bq ∧ fp i + 28 ≠ kq ∧ fp i + 28 ≠ tq ∧ fp i + 28 ≠ lq) (h3 : bq ≠ kq ∧ bq ≠ tq ∧ bq ≠ lq ∧ kq ≠ tq ∧ kq ≠ lq ∧ tq ≠ lq) : ∀ i j, i < 28 + tn → j < 28 + tn → roM bq kq tq lq fp i = roM bq kq tq lq fp j → i = j := by
  have hv : ∀ i, i < 28 + tn → (i = 19 ∧ roM bq kq tq lq fp i = bq) ∨ (i = 20 ∧ roM bq kq tq lq fp i = kq) ∨ (i = 21 ∧ roM bq kq tq lq fp i = tq) ∨ (i = 22 ∧ roM bq kq tq lq fp i = lq) ∨ (i < 28 ∧ i ≠ 19 ∧ i ≠ 20 ∧ i ≠ 21 ∧ i ≠ 22 ∧ roM bq kq tq lq fp i = i) ∨ (∃ m, i = m + 28 ∧ m < tn ∧ roM bq kq tq lq fp i = fp m + 28) := by
    intro i hi
    by_cases c1 : i = 19
    · exact Or.inl ⟨c1, by subst c1; rfl⟩
    by_cases c2 : i = 20
    · exact Or.inr (Or.inl ⟨c2, by subst c2; rfl⟩)
    by_cases c3 : i = 21
    · exact Or.inr (Or.inr (Or.inl ⟨c3, by subst c3; rfl⟩))
    by_cases c4 : i = 22
    · exact Or.inr (Or.inr (Or.inr (Or.inl ⟨c4, by subst c4; rfl⟩)))
    by_cases c5 : i < 28
    · exact Or.inr (Or.inr (Or.inr (Or.inr (Or.inl ⟨c5, c1, c2, c3, c4, by unfold roM; rw [if_neg c1, if_neg c2, if_neg c3, if_neg c4, if_pos c5]⟩))))
    · obtain ⟨m, rfl⟩ : ∃ m, i = m + 28 := ⟨i - 28, by omega⟩
      exact Or.inr (Or.inr (Or.inr (Or.inr (Or.inr ⟨m, rfl, by omega, roM_28⟩))))
  intro i j hi hj e
  rcases hv i hi with ⟨a, a'⟩ | ⟨a, a'⟩ | ⟨a, a'⟩ | ⟨a, a'⟩ | ⟨a, a1, a2, a3, a4, a'⟩ | ⟨m, a, am, a'⟩
  all_goals rcases hv j hj with ⟨b, b'⟩ | ⟨b, b'⟩ | ⟨b, b'⟩ | ⟨b, b'⟩ | ⟨b, b1, b2, b3, b4, b'⟩ | ⟨m', b, bm, b'⟩
  all_goals rw [a', b'] at e
  all_goals first
    | omega
    | (have := h2 m am; omega)
    | (have := h2 m' bm; omega)
    | (have := h1 m m' am bm (by omega); omega)
section
variable {l : Launch} {d k : Nat} {Q : am_Q} {dr gs gd gz bq kq tq ld lq : Nat} {dc : Int32} {st : Nat} {dn : Int32} {h : Nat → Int32} {c L : Nat → Nat} {sz pl : Nat} {rv : Int32} {tr tu : Nat} {t : am_T5} {b : Nat → Nat} {n dl ll lb ti pa : Nat} {tk : Nat → Nat} {sc : Nat → Int32} {hg : Nat → Int32} {e19 e20 e21 e22 : am_E} {Rv Iw Ho Go So : Nat → Int32} {r : am_M}
theorem wd_we {bf lf kf : Nat → Int32} {n1 n2 n3 tn : Nat} (hr : ∀ e ∈ r, ∃ (n' : Nat) (f' : Nat → Int32), e = .inl (0, n', .inl f')) (htn : tn = r.length) : ∀ e ∈ (wd dr gs gd gz 19 20 21 ld 22 dc st dn h c L sz pl rv tr tu t b n dl ll lb ti pa tk sc hg (.inl (0, n1, .inl bf)) (.inl (0, n2, .inl kf)) (.inl (3, tn, .inr (.inr (NF tn)))) (.inl (0, n3, .inl lf)) Rv Iw Ho Go So r), am_we (28 + r.length) e := by
  intro e he
  unfold wd at he
  simp only [List.mem_cons] at he
  have hrow : am_we (28 + r.length) (.inl (4, 4, .inr (.inr (am_rows 14)))) := by
    intro j q hj
    unfold am_rows at hj
    split at hj
    · cases hj; omega
    · cases hj
  have hnf : am_we (28 + r.length) (.inl (3, tn, .inr (.inr (NF tn)))) := by
    intro j q hj
    unfold NF at hj
    split at hj
    · cases hj; omega
    · cases hj
  have hobj : ∀ (cc : Nat) (fs : List Value), (∀ v ∈ fs, am_wv 28 v) → am_we (28 + r.length) (.inr (cc, fs)) := fun cc fs hf v hv => am_wv_le (by omega) (hf v hv)
  rcases he with rfl | rfl | rfl | rfl | rfl | rfl | rfl | rfl | rfl | rfl | rfl | rfl | rfl | rfl | rfl | rfl | rfl | rfl | rfl | rfl | rfl | rfl | rfl | rfl | rfl | rfl | rfl | rfl | he
  all_goals first
    | exact hrow
    | exact hnf
    | trivial
    | (refine hobj _ _ (fun v hv => ?_); simp only [List.mem_cons, List.not_mem_nil, or_false] at hv; rcases hv with rfl | rfl | rfl | rfl | rfl | rfl | rfl | rfl | rfl | rfl | rfl | rfl | rfl | rfl | rfl | rfl | rfl | rfl <;> first | trivial | exact Nat.le_of_ble_eq_true rfl)
    | (refine hobj _ _ (fun v hv => ?_); simp only [List.mem_cons, List.not_mem_nil, or_false] at hv; rcases hv with rfl | rfl | rfl | rfl | rfl | rfl | rfl | rfl <;> first | trivial | exact Nat.le_of_ble_eq_true rfl)
    | (refine hobj _ _ (fun v hv => ?_); simp only [List.mem_cons, List.not_mem_nil, or_false] at hv; rcases hv with rfl | rfl | rfl | rfl | rfl | rfl | rfl <;> first | trivial | exact Nat.le_of_ble_eq_true rfl)
    | (obtain ⟨n', f', rfl⟩ := hr e he; trivial)
end
