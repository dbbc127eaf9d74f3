/-! pure: the best play, as a number -/
def rsS (h : Nat → Int32) (row : Nat → Nat) (m p : Nat) : Int32 := if m = 0 then h p else if h p &&& sSuit (row 0 / 8) = 0 then h p else h p &&& sSuit (row 0 / 8)
def opt2 (p b v : Nat) : Nat := if p % 2 = 0 then (if b < v then v else b) else (if v < b then v else b)
def opF (p : Nat) (S : Int32) (v : Nat → Nat) : Nat → Option Nat
  | 0 => none
  | n + 1 => if bt S n then some (match opF p S v n with
      | none => v n
      | some b => opt2 p b (v n)) else opF p S v n
def vl : Nat → (Nat → Int32) → Nat → (Nat → Nat) → Nat → Nat → Nat
  | 0, _, _, _, _, _ => 0
  | n + 1, h, m, row, f, t => (opF ((f + m) % 4) (rsS h row m ((f + m) % 4)) (fun c =>
      if m = 3 then (1 - (f + BI (uN row m c) t 4) % 4 % 2) + vl n (upd h ((f + m) % 4) (sDel (h ((f + m) % 4)) c)) 0 (uN row m c) ((f + BI (uN row m c) t 4) % 4) t
      else vl n (upd h ((f + m) % 4) (sDel (h ((f + m) % 4)) c)) (m + 1) (uN row m c) f t) 32).getD 0
def wv (n : Nat) (h : Nat → Int32) (m : Nat) (row : Nat → Nat) (f t c : Nat) : Nat :=
  if m = 3 then (1 - (f + BI (uN row m c) t 4) % 4 % 2) + vl n (upd h ((f + m) % 4) (sDel (h ((f + m) % 4)) c)) 0 (uN row m c) ((f + BI (uN row m c) t 4) % 4) t
  else vl n (upd h ((f + m) % 4) (sDel (h ((f + m) % 4)) c)) (m + 1) (uN row m c) f t
theorem vl_s (n : Nat) (h : Nat → Int32) (m : Nat) (row : Nat → Nat) (f t : Nat) : vl (n + 1) h m row f t = (opF ((f + m) % 4) (rsS h row m ((f + m) % 4)) (wv n h m row f t) 32).getD 0 := rfl
theorem opF_s (p : Nat) (S : Int32) (v : Nat → Nat) (n : Nat) : opF p S v (n + 1) = if bt S n then some (match opF p S v n with
      | none => v n
      | some b => opt2 p b (v n)) else opF p S v n := rfl
theorem opF_cong {p : Nat} {S : Int32} {v v' : Nat → Nat} : ∀ {n : Nat}, (∀ c, c < n → bt S c = true → v c = v' c) → opF p S v n = opF p S v' n
  | 0, _ => rfl
  | n + 1, h => by
    rw [opF_s, opF_s, opF_cong (n := n) (fun c h1 h2 => h c (by omega) h2)]
    cases hb : bt S n with
    | true => rw [h n (by omega) hb]
    | false => rfl
theorem opF_none {p : Nat} {S : Int32} {v : Nat → Nat} : ∀ {n : Nat}, (∀ c, c < n → bt S c = false) → opF p S v n = none
  | 0, _ => rfl
  | n + 1, h => by
    rw [opF_s, h n (by omega), opF_none (fun c hc => h c (by omega))]
    rfl
theorem opF_mem {p : Nat} {S : Int32} {v : Nat → Nat} : ∀ {n b : Nat}, opF p S v n = some b → ∃ c, c < n ∧ bt S c = true ∧ b = v c
  | 0, b, h => by cases h
  | n + 1, b, h => by
    rw [opF_s] at h
    cases hb : bt S n with
    | false =>
      rw [hb] at h
      obtain ⟨c, h1, h2⟩ := opF_mem (n := n) h
      exact ⟨c, by omega, h2⟩
    | true =>
      rw [hb] at h
      cases ho : opF p S v n with
      | none =>
        rw [ho] at h
        cases h
        exact ⟨n, by omega, hb, rfl⟩
      | some b0 =>
        rw [ho] at h
        obtain ⟨c, h1, h2, h3⟩ := opF_mem (n := n) ho
        cases h
        show ∃ c, c < n + 1 ∧ bt S c = true ∧ opt2 p b0 (v n) = v c
        unfold opt2
        split
        · split
          · exact ⟨n, by omega, hb, rfl⟩
          · exact ⟨c, by omega, h2, h3⟩
        · split
          · exact ⟨n, by omega, hb, rfl⟩
          · exact ⟨c, by omega, h2, h3⟩
theorem opF_some {p : Nat} {S : Int32} {v : Nat → Nat} : ∀ {n c : Nat}, c < n → bt S c = true → ∃ b, opF p S v n = some b
  | 0, c, h, _ => absurd h (Nat.not_lt_zero c)
  | n + 1, c, h, hb => by
    rw [opF_s]
    by_cases e : c = n
    · subst e
      rw [hb]
      exact ⟨_, rfl⟩
    · obtain ⟨b, h1⟩ := opF_some (n := n) (p := p) (v := v) (by omega) hb
      cases hbn : bt S n with
      | true => exact ⟨_, rfl⟩
      | false => exact ⟨b, h1⟩
theorem opF_bd {p : Nat} {S : Int32} {v : Nat → Nat} : ∀ {n b : Nat}, opF p S v n = some b → ∀ c, c < n → bt S c = true → if p % 2 = 0 then v c ≤ b else b ≤ v c
  | 0, b, h, c, hc, _ => absurd hc (Nat.not_lt_zero c)
  | n + 1, b, h, c, hc, hbc => by
    rw [opF_s] at h
    cases hb : bt S n with
    | false =>
      rw [hb] at h
      have hcn : c < n := by
        by_cases e : c = n
        · rw [e, hb] at hbc; cases hbc
        · omega
      exact opF_bd (n := n) h c hcn hbc
    | true =>
      rw [hb] at h
      cases ho : opF p S v n with
      | none =>
        rw [ho] at h
        cases h
        by_cases e : c = n
        · subst e
          show if p % 2 = 0 then v c ≤ v c else v c ≤ v c
          split <;> exact Nat.le_refl _
        · obtain ⟨b2, h2⟩ := opF_some (p := p) (v := v) (n := n) (by omega) hbc
          rw [ho] at h2
          cases h2
      | some b0 =>
        rw [ho] at h
        cases h
        show if p % 2 = 0 then v c ≤ opt2 p b0 (v n) else opt2 p b0 (v n) ≤ v c
        have ih := opF_bd (n := n) ho c
        unfold opt2
        by_cases hp : p % 2 = 0
        · rw [if_pos hp, if_pos hp]
          rw [if_pos hp] at ih
          by_cases e : c = n
          · subst e
            split <;> omega
          · have := ih (by omega) hbc
            split <;> omega
        · rw [if_neg hp, if_neg hp]
          rw [if_neg hp] at ih
          by_cases e : c = n
          · subst e
            split <;> omega
          · have := ih (by omega) hbc
            split <;> omega
theorem opF_all {p need : Nat} {S : Int32} {v : Nat → Nat} (hne : S ≠ 0) (hx : ∀ c, c < 32 → bt S c = true → decide (need ≤ v c) = !decide (p % 2 = 0)) : decide (need ≤ (opF p S v 32).getD 0) = !decide (p % 2 = 0) := by
  obtain ⟨h1, h2, _⟩ := sLo_spec hne
  obtain ⟨b, hb⟩ := opF_some (p := p) (v := v) h1 h2
  obtain ⟨c, c1, c2, c3⟩ := opF_mem hb
  rw [hb]
  show decide (need ≤ b) = _
  rw [c3]
  exact hx c c1 c2
theorem opF_ex {p need : Nat} {S : Int32} {v : Nat → Nat} {c : Nat} (hc : c < 32) (hcb : bt S c = true) (hx : decide (need ≤ v c) = decide (p % 2 = 0)) : decide (need ≤ (opF p S v 32).getD 0) = decide (p % 2 = 0) := by
  obtain ⟨b, hb⟩ := opF_some (p := p) (v := v) hc hcb
  have h := opF_bd hb c hc hcb
  rw [hb]
  show decide (need ≤ b) = _
  by_cases hp : p % 2 = 0
  · rw [if_pos hp] at h
    rw [decide_eq_true hp] at hx ⊢
    have := of_decide_eq_true hx
    exact decide_eq_true (by omega)
  · rw [if_neg hp] at h
    rw [decide_eq_false hp] at hx ⊢
    have := of_decide_eq_false hx
    exact decide_eq_false (by omega)
theorem vl_cong {t : Nat} : ∀ {n : Nat} {h h' : Nat → Int32} {m : Nat} {row row' : Nat → Nat} {f : Nat}, m < 4 → (∀ p, p < 4 → h p = h' p) → (∀ k, k < m → row k = row' k) → vl n h m row f t = vl n h' m row' f t
  | 0, _, _, _, _, _, _, _, _, _ => rfl
  | n + 1, h, h', m, row, row', f, hm, hh, hr => by
    have hp : (f + m) % 4 < 4 := Nat.mod_lt _ (by omega)
    have e1 : rsS h row m ((f + m) % 4) = rsS h' row' m ((f + m) % 4) := by
      unfold rsS
      rw [hh _ hp]
      by_cases h0 : m = 0
      · rw [if_pos h0, if_pos h0]
      · rw [if_neg h0, if_neg h0, hr 0 (by omega)]
    have hu : ∀ c p, p < 4 → upd h ((f + m) % 4) (sDel (h ((f + m) % 4)) c) p = upd h' ((f + m) % 4) (sDel (h' ((f + m) % 4)) c) p := by
      intro c p hp4
      show (if p = (f + m) % 4 then _ else h p) = if p = (f + m) % 4 then _ else h' p
      rw [hh p hp4, hh _ hp]
    have hw : ∀ c k, k < m + 1 → uN row m c k = uN row' m c k := by
      intro c k hk
      show (if k = m then c else row k) = if k = m then c else row' k
      by_cases e : k = m
      · rw [if_pos e, if_pos e]
      · rw [if_neg e, if_neg e, hr k (by omega)]
    have e2 : wv n h m row f t = wv n h' m row' f t := by
      funext c
      unfold wv
      by_cases h3 : m = 3
      · rw [if_pos h3, if_pos h3]
        have eb : BI (uN row m c) t 4 = BI (uN row' m c) t 4 := BI_cong (fun i hi => hw c i (by omega))
        rw [eb, vl_cong (n := n) (m := 0) (by omega) (hu c) (fun k hk => absurd hk (Nat.not_lt_zero k)) (row := uN row m c) (row' := uN row' m c)]
      · rw [if_neg h3, if_neg h3]
        exact vl_cong (n := n) (by omega) (hu c) (hw c)
    rw [vl_s, vl_s, e1, e2]
theorem vl_le {t : Nat} : ∀ {n : Nat} {h : Nat → Int32} {m : Nat} {row : Nat → Nat} {f : Nat}, m < 4 → vl n h m row f t ≤ (n + m) / 4
  | 0, _, _, _, _, _ => Nat.zero_le _
  | n + 1, h, m, row, f, hm => by
    rw [vl_s]
    cases ho : opF ((f + m) % 4) (rsS h row m ((f + m) % 4)) (wv n h m row f t) 32 with
    | none => exact Nat.zero_le _
    | some b =>
      obtain ⟨c, h1, h2, h3⟩ := opF_mem ho
      show b ≤ _
      rw [h3, wv]
      by_cases e3 : m = 3
      · rw [if_pos e3]
        have := vl_le (n := n) (h := upd h ((f + m) % 4) (sDel (h ((f + m) % 4)) c)) (m := 0) (row := uN row m c) (f := (f + BI (uN row m c) t 4) % 4) (t := t) (by omega)
        omega
      · rw [if_neg e3]
        have := vl_le (n := n) (h := upd h ((f + m) % 4) (sDel (h ((f + m) % 4)) c)) (m := m + 1) (row := uN row m c) (f := f) (t := t) (by omega)
        omega
/-- the best play from where the CARDS are -/
def bp (n : Nat) (h : Nat → Int32) (c L : Nat → Nat) (pl tr : Nat) : Nat := vl n h (pl % 4) (rowOf c (pl / 4)) (L (pl / 4)) tr
def bw (n : Nat) (h : Nat → Int32) (c L : Nat → Nat) (pl tr cd : Nat) : Nat := wv n h (pl % 4) (rowOf c (pl / 4)) (L (pl / 4)) tr cd
def gotV (c L : Nat → Nat) (pl tr cd : Nat) : Nat := if (pl + 1) % 4 = 0 then 1 - pT c L pl tr cd % 2 else 0
theorem RC_rs (h : Nat → Int32) (c : Nat → Nat) (pl tu : Nat) : RC h c pl tu = rsS h (rowOf c (pl / 4)) (pl % 4) tu := rfl
theorem bp_s (n : Nat) (h : Nat → Int32) (c L : Nat → Nat) (pl tr : Nat) : bp (n + 1) h c L pl tr = (opF (who L pl) (RC h c pl (who L pl)) (bw n h c L pl tr) 32).getD 0 := rfl
theorem row_uN (c : Nat → Nat) (pl cd : Nat) : rowOf (uN c pl cd) (pl / 4) = uN (rowOf c (pl / 4)) (pl % 4) cd := by
  funext k
  show (if 4 * (pl / 4) + k = pl then cd else c (4 * (pl / 4) + k)) = if k = pl % 4 then cd else c (4 * (pl / 4) + k)
  by_cases e : k = pl % 4
  · rw [if_pos e, if_pos (by omega)]
  · rw [if_neg e, if_neg (by omega)]
theorem bw_step (n : Nat) (h : Nat → Int32) (c L : Nat → Nat) (pl tr cd : Nat) : bw n h c L pl tr cd = gotV c L pl tr cd + bp n (upd h (who L pl) (sDel (h (who L pl)) cd)) (uN c pl cd) (pL c L pl tr cd) (pl + 1) tr := by
  unfold bw wv bp gotV pL
  by_cases e : (pl + 1) % 4 = 0
  · have e3 : pl % 4 = 3 := by omega
    have e4 : (pl + 1) / 4 = pl / 4 + 1 := by omega
    have hpT : pT c L pl tr cd = (L (pl / 4) + BI (uN (rowOf c (pl / 4)) (pl % 4) cd) tr 4) % 4 := by rw [pT, row_uN]
    rw [if_pos e3, if_pos e, if_pos e, e, e4, uN_s, ← hpT]
    congr 1
    exact vl_cong (by omega) (fun p hp => rfl) (fun k hk => absurd hk (Nat.not_lt_zero k))
  · have e4 : (pl + 1) / 4 = pl / 4 := by omega
    have e5 : (pl + 1) % 4 = pl % 4 + 1 := by omega
    rw [if_neg (by omega), if_neg e, if_neg e, e4, e5, Nat.zero_add, row_uN]
    rfl
theorem bp_cong {n : Nat} {h : Nat → Int32} {c c' L L' : Nat → Nat} {pl tr : Nat} (hc : ∀ i, i < pl → c i = c' i) (hL : L (pl / 4) = L' (pl / 4)) : bp n h c L pl tr = bp n h c' L' pl tr := by
  unfold bp
  rw [hL]
  exact vl_cong (Nat.mod_lt _ (by omega)) (fun p hp => rfl) (fun k hk => hc _ (by omega))
theorem bw_cong {n : Nat} {h : Nat → Int32} {c c' L L' : Nat → Nat} {pl tr cd : Nat} (hc : ∀ i, i < pl → c i = c' i) (hL : L (pl / 4) = L' (pl / 4)) : bw n h c L pl tr cd = bw n h c' L' pl tr cd := by
  have hcc : ∀ i, i < pl + 1 → uN c pl cd i = uN c' pl cd i := by
    intro i hi
    show (if i = pl then cd else c i) = if i = pl then cd else c' i
    by_cases e : i = pl
    · rw [if_pos e, if_pos e]
    · rw [if_neg e, if_neg e, hc i (by omega)]
  have hB : ∀ t, (pl + 1) % 4 = 0 → BI (rowOf (uN c pl cd) (pl / 4)) t 4 = BI (rowOf (uN c' pl cd) (pl / 4)) t 4 := fun t e => BI_cong (fun i hi => hcc _ (by omega))
  have hw : who L pl = who L' pl := by unfold who; rw [hL]
  have hT : (pl + 1) % 4 = 0 → pT c L pl tr cd = pT c' L' pl tr cd := fun e => by unfold pT; rw [hB tr e, hL]
  rw [bw_step, bw_step, hw]
  congr 1
  · unfold gotV
    by_cases e : (pl + 1) % 4 = 0
    · rw [if_pos e, if_pos e, hT e]
    · rw [if_neg e, if_neg e]
  · refine bp_cong hcc ?_
    unfold pL
    by_cases e : (pl + 1) % 4 = 0
    · rw [if_pos e, if_pos e, hT e, show (pl + 1) / 4 = pl / 4 + 1 by omega, uN_s, uN_s]
    · rw [if_neg e, if_neg e, show (pl + 1) / 4 = pl / 4 by omega, hL]
/-- each PLAYER has as many CARDS as TRICKS are left, but for the one that lies -/
def bal (h : Nat → Int32) (L : Nat → Nat) (pl kp : Nat) : Prop := ∀ p, p < 4 → pc (h p) + (if (p + 4 - L (pl / 4)) % 4 < pl % 4 then 1 else 0) = kp
theorem bal_tu {h : Nat → Int32} {L : Nat → Nat} {pl kp : Nat} (hb : bal h L pl kp) (hL : L (pl / 4) < 4) : pc (h (who L pl)) = kp := by
  have := hb (who L pl) (Nat.mod_lt _ (by omega))
  rw [if_neg (by unfold who; omega)] at this
  exact this
theorem bal_step {h : Nat → Int32} {c L : Nat → Nat} {pl kp tr cd : Nat} (hb : bal h L pl kp) (hL : L (pl / 4) < 4) (hcd : cd < 32) (hbt : bt (h (who L pl)) cd = true) : bal (upd h (who L pl) (sDel (h (who L pl)) cd)) (pL c L pl tr cd) (pl + 1) (if (pl + 1) % 4 = 0 then kp - 1 else kp) := by
  intro p hp
  have hpc := pc_del hcd hbt
  have htu := bal_tu hb hL
  have h1 := hb p hp
  have hwho : who L pl = (L (pl / 4) + pl % 4) % 4 := rfl
  by_cases e : (pl + 1) % 4 = 0
  · rw [if_pos e, e, if_neg (Nat.not_lt_zero _)]
    by_cases ep : p = who L pl
    · rw [ep, up_s]; omega
    · rw [up_n _ _ ep]
      rw [if_pos (by omega)] at h1
      omega
  · rw [if_neg e]
    have e4 : (pl + 1) / 4 = pl / 4 := by omega
    have e5 : (pl + 1) % 4 = pl % 4 + 1 := by omega
    rw [e4, e5, pL, if_neg e]
    by_cases ep : p = who L pl
    · rw [ep, up_s, if_pos (by omega)]; omega
    · rw [up_n _ _ ep]
      by_cases e6 : (p + 4 - L (pl / 4)) % 4 < pl % 4
      · rw [if_pos e6] at h1
        rw [if_pos (by omega)]
        exact h1
      · rw [if_neg e6] at h1
        rw [if_neg (by omega)]
        exact h1
theorem RC_sub {h : Nat → Int32} {c : Nat → Nat} {pl tu cd : Nat} (hb : bt (RC h c pl tu) cd = true) : bt (h tu) cd = true := by
  unfold RC at hb
  split at hb
  · exact hb
  · split at hb
    · exact hb
    · rw [b_and, Bool.and_eq_true] at hb
      exact hb.1
theorem RC_ne {h : Nat → Int32} {c : Nat → Nat} {pl tu : Nat} (hb : h tu ≠ 0) : RC h c pl tu ≠ 0 := by
  unfold RC
  split
  · exact hb
  · split
    · exact hb
    · assumption
theorem pc_sub {x y : Int32} (h : ∀ i, i < 32 → bt x i = true → bt y i = true) : pc x ≤ pc y := fb_ct_sub h
