/-! contracts: the model, seventh part: its search -/
theorem upd_xor {h : Nat → Int32} {p c : Nat} (hc : c < 32) (hb : bt (h p) c = true) : upd (upd h p (sDel (h p) c)) p (upd h p (sDel (h p) c) p ^^^ ((1 : Int32) <<< (nI c &&& 31))) = h := by
  rw [up_s, s_xor2 hc hb]
  funext j
  show (if j = p then h p else if j = p then sDel (h p) c else h j) = h j
  by_cases e : j = p
  · rw [if_pos e, e]
  · rw [if_neg e, if_neg e]
theorem rsS_cong {h : Nat → Int32} {row row' : Nat → Nat} {m p : Nat} (hr : m ≠ 0 → row 0 = row' 0) : rsS h row m p = rsS h row' m p := by
  unfold rsS
  by_cases h0 : m = 0
  · rw [if_pos h0, if_pos h0]
  · rw [if_neg h0, if_neg h0, hr h0]
theorem enc_opt {b v p : Nat} : nI (opt2 p b v) = if p % 2 = 0 then (if b < v then nI v else nI b) else (if v < b then nI v else nI b) := by
  unfold opt2
  split
  · split <;> rfl
  · split <;> rfl
section
variable {l : Launch} {x0 x1 x2 x3 x4 x5 x6 x7 x8 x9 x10 x11 x12 : am_E} {th st dl sz : Nat} {n bq : Nat} {lv : Int32} {tr dc ti tc : Nat} {T : Nat → Nat} {ld ly : Nat} {K V : Nat → Nat} {I : Nat → Bool} {tk : Nat → Nat} {sc : Nat → Int32} {dn : Int32} {e5 eo : am_E} {r : am_M}
theorem cl_135 (hl : l.stackTraces = false) {g : Nat}
    (hR : ∀ (d k : Nat) (Q : am_Q) (h : Nat → Int32) (R : Nat → Nat → Nat) (deep m f t kp : Nat), 2 * g + 8 ≤ d → g + m = 4 * kp → deep + kp ≤ 4 → m < 4 → f < 4 → t ≤ 4 → bal2 h f m kp → (∀ i, i < m → R deep i < 32) → (∀ R', (∀ j, j < deep → R' j = R j) → (∀ i, i < m → R' deep i = R deep i) → Q (.inl (some (Value.int (nI (vl g h m (R deep) f t))))) (wm x0 x1 x2 x3 x4 x5 x6 x7 x8 x9 x10 x11 x12 th st dl sz h n bq lv tr dc ti tc T ld ly K V I tk sc dn R' e5 eo r)) → am_Call l d 136 k [.ref 13, .int (nI deep), .int (nI m), .int (nI f), .int (nI t)] (wm x0 x1 x2 x3 x4 x5 x6 x7 x8 x9 x10 x11 x12 th st dl sz h n bq lv tr dc ti tc T ld ly K V I tk sc dn R e5 eo r) Q)
    {d k : Nat} {Q : am_Q} {h : Nat → Int32} {R : Nat → Nat → Nat} {deep m f t kp c : Nat} (hd : 2 * g + 9 ≤ d) (hn : g + 1 + m = 4 * kp) (hdp : deep + kp ≤ 4) (hm : m < 4) (hf : f < 4) (ht : t ≤ 4) (hb : bal2 h f m kp) (hK : ∀ i, i < m → R deep i < 32) (hc : c < 32) (hbt : bt (h ((f + m) % 4)) c = true)
    (hq : ∀ R', (∀ j, j < deep → R' j = R j) → (∀ i, i < m → R' deep i = R deep i) → Q (.inl (some (Value.int (nI (wv g h m (R deep) f t c))))) (wm x0 x1 x2 x3 x4 x5 x6 x7 x8 x9 x10 x11 x12 th st dl sz h n bq lv tr dc ti tc T ld ly K V I tk sc dn R' e5 eo r)) : am_Call l d 135 k [.ref 13, .int (nI deep), .int (nI m), .int (nI f), .int (nI t), .int (nI c)] (wm x0 x1 x2 x3 x4 x5 x6 x7 x8 x9 x10 x11 x12 th st dl sz h n bq lv tr dc ti tc T ld ly K V I tk sc dn R e5 eo r) Q := by
  have hp4 : (f + m) % 4 < 4 := Nat.mod_lt _ (by omega)
  obtain ⟨p, hp⟩ : ∃ p, p = (f + m) % 4 := ⟨_, rfl⟩
  have hp4' : p < 4 := by rw [hp]; exact hp4
  have eclp : (nI p).toNatClampNeg = p := i_cl (by omega)
  have eclm : (nI m).toNatClampNeg = m := i_cl (by omega)
  have ep : (nI f + nI m) - (nI f + nI m) / 4 * 4 = nI p := by
    rw [nI_add, hp]
    exact pk_rem (d := 4) (by omega) (by omega) (by omega)
  have hbs : ∀ B, bal2 (upd h p (sDel (h p) c)) (if m = 3 then B else f) (if m = 3 then 0 else m + 1) (if m = 3 then kp - 1 else kp) := fun B => by rw [hp]; exact bal2_step hb hf hm hc hbt
  have hd5 : deep < 5 := by omega
  rw [← hp] at hbt
  refine op_135 hl (by omega) (Nat.le_of_ble_eq_true rfl) (fun J hJ => ?_)
  have s90 : ∀ (told : Nat) (o8 : Option Value) (R' : Nat → Nat → Nat), told = wv g h m (R deep) f t c → (∀ j, j < deep → R' j = R j) → (∀ i, i < m → R' deep i = R deep i) → J k 90 [some (Value.ref 13), some (Value.int (nI deep)), some (Value.int (nI m)), some (Value.int (nI f)), some (Value.int (nI t)), some (Value.int (nI c)), some (Value.int (nI p)), some (Value.int (nI told)), o8] [] (wm x0 x1 x2 x3 x4 x5 x6 x7 x8 x9 x10 x11 x12 th st dl sz (upd h p (sDel (h p) c)) n bq lv tr dc ti tc T ld ly K V I tk sc dn R' e5 eo r) := by
    intro told o8 R' e1 e2 e3
    have hq1 := hq R' e2 e3
    rw [← e1] at hq1
    refine hJ [104] 100 _ _ _ _ _ ⟨nI_in (by omega) (by omega), nI_in (by omega) (by omega), ?_⟩
    refine am_jw (J := J) (w' := (wm x0 x1 x2 x3 x4 x5 x6 x7 x8 x9 x10 x11 x12 th st dl sz h n bq lv tr dc ti tc T ld ly K V I tk sc dn R' e5 eo r)) rfl rfl (by dsimp only; rw [eclp, upd_xor hc hbt]; rfl) ?_
    exact hJ [] 100 _ _ _ _ _ hq1
  refine hJ [5] 100 _ _ _ _ _ ⟨by decide, ?_⟩
  refine am_jw (J := J) rfl (congrArg (fun x => [Value.int x]) ep) rfl ?_
  refine hJ [21] 100 _ _ _ _ _ ⟨nI_in (by omega) (by omega), nI_in (by omega) (by omega), ?_⟩
  refine am_jw (J := J) (w' := (wm x0 x1 x2 x3 x4 x5 x6 x7 x8 x9 x10 x11 x12 th st dl sz (upd h p (sDel (h p) c)) n bq lv tr dc ti tc T ld ly K V I tk sc dn R e5 eo r)) rfl rfl (by dsimp only; rw [eclp, s_xor hc hbt]; rfl) ?_
  refine hJ [27] 100 _ _ _ _ _ ⟨nI_in (by omega) (by omega), ?_⟩
  refine am_jw (J := J) rfl (congrArg (fun x => [Value.ref x]) (rows_i hd5)) rfl ?_
  refine hJ [31] 100 _ _ _ _ _ (ar_ld (row_at hd5) ⟨nI_in (by omega) (by omega), ?_⟩)
  rw [uN_up (by omega)]
  refine row_st hd5 ?_
  have hR1 : ∀ j, j < deep → uR R deep m c j = R j := fun j hj => uR_n R m c (by omega)
  have hRd : uR R deep m c deep = uN (R deep) m c := uR_s R deep m c
  have hR32 : ∀ i, i < m + 1 → uR R deep m c deep i < 32 := by
    intro i hi
    rw [hRd]
    show (if i = m then c else R deep i) < 32
    split
    · exact hc
    · exact hK i (by omega)
  by_cases h3 : m = 3
  · -- the TRICK ends
    obtain ⟨B, hB⟩ : ∃ B, B = (f + BI (uN (R deep) m c) t 4) % 4 := ⟨_, rfl⟩
    have hB4 : B < 4 := by rw [hB]; exact Nat.mod_lt _ (by omega)
    have hw : wv g h m (R deep) f t c = 1 - B % 2 + vl g (upd h p (sDel (h p) c)) 0 (uN (R deep) m c) B t := by
      unfold wv
      rw [if_pos h3, ← hB, ← hp]
    have e2 : nI B - nI B / 2 * 2 = nI (B % 2) := pk_rem (d := 2) (by omega) (by omega) (by omega)
    refine hJ [54] 100 _ _ _ _ _ (blex (a := 4) (b := m + 1) rfl (nI_1 m) (by omega) (by omega) (fun _ => ?_) (fun q => absurd q (by omega)))
    refine hJ [60] 100 _ _ _ _ _ ⟨nI_in (by omega) (by omega), ?_⟩
    refine am_jw (J := J) rfl (congrArg (fun x => [Value.ref x]) (rows_i hd5)) rfl ?_
    refine hJ [67] 100 _ _ _ _ _ ⟨0, Nat.zero_le _, cl_121 (m := 4) (K := uR R deep m c deep) hl (by omega) (row_at hd5) (by omega) (fun i hi => hR32 i (by omega)) hf ht ?_⟩
    rw [hRd, show takeV f (uN (R deep) m c) t 4 = nI B from by rw [hB]; rfl]
    have hbs2 := hbs B
    rw [if_pos h3, if_pos h3, if_pos h3] at hbs2
    refine hJ [90] 100 _ _ _ _ _ ⟨by decide, 0, Nat.zero_le _, am_ca (as' := [Value.ref 13, Value.int (nI (deep + 1)), Value.int (nI 0), Value.int (nI B), Value.int (nI t)]) ?_ (hR _ _ _ _ (uR R deep m c) (deep + 1) 0 B t (kp - 1) (by omega) (by omega) (by omega) (by omega) hB4 ht hbs2 (fun i hi => absurd hi (Nat.not_lt_zero i)) (fun R' r1 r2 => ?_))⟩
    · dsimp only
      rw [nI_1]
      rfl
    · refine am_jw (J := J) ?_ rfl rfl (s90 (1 - B % 2 + vl g (upd h p (sDel (h p) c)) 0 (uR R deep m c (deep + 1)) B t) (some (Value.int (nI B))) R' ?_ ?_ ?_)
      · have e5' : (1 : Int32) - (nI B - nI B / 2 * 2) + nI (vl g (upd h p (sDel (h p) c)) 0 (uR R deep m c (deep + 1)) B t) = nI (1 - B % 2 + vl g (upd h p (sDel (h p) c)) 0 (uR R deep m c (deep + 1)) B t) := by
          rw [e2, show (1 : Int32) - nI (B % 2) = nI (1 - B % 2) from pk_sub (a := 1) (by omega), nI_add]
        dsimp only
        rw [e5']
        rfl
      · rw [hw]
        congr 1
        exact vl_cong (by omega) (fun p _ => rfl) (fun k hk => absurd hk (Nat.not_lt_zero k))
      · intro j hj
        rw [r1 j (by omega), hR1 j hj]
      · intro i hi
        rw [r1 deep (by omega), hRd, uN_n _ _ (by omega)]
  · have hw : wv g h m (R deep) f t c = vl g (upd h p (sDel (h p) c)) (m + 1) (uR R deep m c deep) f t := by
      unfold wv
      rw [if_neg h3, ← hp, hRd]
    have hbs2 := hbs 0
    rw [if_neg h3, if_neg h3, if_neg h3] at hbs2
    refine hJ [90] 100 _ _ _ _ _ (blex (a := 4) (b := m + 1) rfl (nI_1 m) (by omega) (by omega) (fun q => absurd q (by omega)) (fun _ => ⟨0, Nat.zero_le _, am_ca (as' := [Value.ref 13, Value.int (nI deep), Value.int (nI (m + 1)), Value.int (nI f), Value.int (nI t)]) ?_ (hR _ _ _ _ (uR R deep m c) deep (m + 1) f t kp (by omega) (by omega) hdp (by omega) hf ht hbs2 hR32 (fun R' r1 r2 => ?_))⟩))
    · dsimp only
      rw [nI_1]
    · refine s90 (vl g (upd h p (sDel (h p) c)) (m + 1) (uR R deep m c deep) f t) none R' hw.symm ?_ ?_
      · intro j hj
        rw [r1 j hj, hR1 j hj]
      · intro i hi
        rw [r2 i (by omega), hRd, uN_n _ _ (by omega)]
theorem cl_136 (hl : l.stackTraces = false) : ∀ (g d k : Nat) (Q : am_Q) (h : Nat → Int32) (R : Nat → Nat → Nat) (deep m f t kp : Nat), 2 * g + 8 ≤ d → g + m = 4 * kp → deep + kp ≤ 4 → m < 4 → f < 4 → t ≤ 4 → bal2 h f m kp → (∀ i, i < m → R deep i < 32) → (∀ R', (∀ j, j < deep → R' j = R j) → (∀ i, i < m → R' deep i = R deep i) → Q (.inl (some (Value.int (nI (vl g h m (R deep) f t))))) (wm x0 x1 x2 x3 x4 x5 x6 x7 x8 x9 x10 x11 x12 th st dl sz h n bq lv tr dc ti tc T ld ly K V I tk sc dn R' e5 eo r)) → am_Call l d 136 k [.ref 13, .int (nI deep), .int (nI m), .int (nI f), .int (nI t)] (wm x0 x1 x2 x3 x4 x5 x6 x7 x8 x9 x10 x11 x12 th st dl sz h n bq lv tr dc ti tc T ld ly K V I tk sc dn R e5 eo r) Q := by
  intro g
  induction g with
  | zero =>
    intro d k Q h R deep m f t kp hd hn hdp hm hf ht hb hK hq
    have hp4 : (f + m) % 4 < 4 := Nat.mod_lt _ (by omega)
    have eclp : (nI ((f + m) % 4)).toNatClampNeg = (f + m) % 4 := i_cl (by omega)
    have ep : (nI f + nI m) - (nI f + nI m) / 4 * 4 = nI ((f + m) % 4) := by
      rw [nI_add]
      exact pk_rem (d := 4) (by omega) (by omega) (by omega)
    have hpc := bal2_tu hb hf hm
    have hz : h ((f + m) % 4) = 0 := pc_zero.mp (by omega)
    have hnx : nx (bt (h ((f + m) % 4))) (32 - 0) 0 = 32 := nx_none (fun j _ _ => by rw [hz]; exact b_0 j)
    refine op_136 hl (by omega) (Nat.le_of_ble_eq_true rfl) (fun J hJ => ?_)
    refine hJ [5] 100 _ _ _ _ _ ⟨by decide, ?_⟩
    refine am_jw (J := J) rfl (congrArg (fun x => [Value.int x]) ep) rfl ?_
    refine hJ [21] 100 _ _ _ _ _ ⟨nI_in (by omega) (by omega), 0, Nat.zero_le _, am_ca (congrArg (fun i => [Value.int (h i), Value.int (nI 0)]) eclp) (cl_100 (i := 0) hl (by omega) (by omega) ?_)⟩
    rw [hnx]
    exact hJ [] 100 _ _ _ _ _ ⟨fun _ => ⟨fun _ => hq R (fun _ _ => rfl) (fun _ _ => rfl), fun q => absurd rfl q⟩, fun q => absurd (by decide) q⟩
  | succ g ih =>
    intro d k Q h R deep m f t kp hd hn hdp hm hf ht hb hK hq
    have hp4 : (f + m) % 4 < 4 := Nat.mod_lt _ (by omega)
    obtain ⟨p, hp⟩ : ∃ p, p = (f + m) % 4 := ⟨_, rfl⟩
    have hp4' : p < 4 := by rw [hp]; exact hp4
    have eclp : (nI p).toNatClampNeg = p := i_cl (by omega)
    have ep : (nI f + nI m) - (nI f + nI m) / 4 * 4 = nI p := by
      rw [nI_add, hp]
      exact pk_rem (d := 4) (by omega) (by omega) (by omega)
    have hd5 : deep < 5 := by omega
    have hvl : vl (g + 1) h m (R deep) f t = (opF p (rsS h (R deep) m p) (wv g h m (R deep) f t) 32).getD 0 := by rw [vl_s, ← hp]
    have hwl : ∀ c, wv g h m (R deep) f t c ≤ 100 := fun c => by
      have := wv_le (n := g) (h := h) (m := m) (row := R deep) (f := f) (t := t) (c := c) hm
      omega
    have hob : ∀ i b, opF p (rsS h (R deep) m p) (wv g h m (R deep) f t) i = some b → b ≤ 100 := fun i b e => by
      obtain ⟨c, _, _, c3⟩ := opF_mem e
      rw [c3]
      exact hwl c
    refine op_136 hl (by omega) (Nat.le_of_ble_eq_true rfl) (fun J hJ => ?_)
    have hL : ∀ j i (R' : Nat → Nat → Nat) (o8 : Option Value), 32 - i = j → i ≤ 32 → (∀ j, j < deep → R' j = R j) → (∀ i, i < m → R' deep i = R deep i) → J k 23 [some (Value.ref 13), some (Value.int (nI deep)), some (Value.int (nI m)), some (Value.int (nI f)), some (Value.int (nI t)), some (Value.int (nI p)), some (Value.int (encO (opF p (rsS h (R deep) m p) (wv g h m (R deep) f t) i))), some (Value.int (nI (nx (bt (h p)) (32 - i) i))), o8] [] (wm x0 x1 x2 x3 x4 x5 x6 x7 x8 x9 x10 x11 x12 th st dl sz h n bq lv tr dc ti tc T ld ly K V I tk sc dn R' e5 eo r) := by
      intro j
      induction j using Nat.strongRecOn with
      | _ j ihj =>
        intro i R' o8 hj hi hr1 hr2
        obtain ⟨n1, n2, n3, n4⟩ := nx_spec (bt (h p)) (32 - i) i
        obtain ⟨c, hc⟩ : ∃ c, c = nx (bt (h p)) (32 - i) i := ⟨_, rfl⟩
        rw [← hc] at n1 n2 n3 n4
        rw [← hc]
        have hskip : opF p (rsS h (R deep) m p) (wv g h m (R deep) f t) c = opF p (rsS h (R deep) m p) (wv g h m (R deep) f t) i := by
          have := opF_skip (p := p) (S := rsS h (R deep) m p) (v := wv g h m (R deep) f t) (i := i) (j := c - i) (fun e e1 e2 => Bool.eq_false_iff.mpr (fun q => by
            have h1 := rs_sub q
            rw [n4 e e1 (by omega)] at h1
            cases h1))
          rw [show i + (c - i) = c by omega] at this
          exact this
        refine hJ [30, 124] 100 _ _ _ _ _ (ble (a := 32) (b := c) (by omega) (by omega) (fun q => ?_) (fun q => ?_))
        · -- the end
          have hc32 : c = 32 := by omega
          have hq1 := hq R' hr1 hr2
          rw [hvl, ← hc32, hskip] at hq1
          cases ho : opF p (rsS h (R deep) m p) (wv g h m (R deep) f t) i with
          | none =>
            rw [ho] at hq1
            exact hJ [] 100 _ _ _ _ _ ⟨fun _ => hq1, fun q => absurd rfl q⟩
          | some b =>
            rw [ho] at hq1
            have hb100 := hob i b ho
            exact hJ [] 100 _ _ _ _ _ ⟨fun q => absurd q (nI_m1 (by omega)), fun _ => hq1⟩
        · have hcb : bt (h p) c = true := n3 (by omega)
          have hS' : rsS h (R' deep) m p = rsS h (R deep) m p := rsS_cong (fun h0 => hr2 0 (by omega))
          have hrn := rnV_rs (h := h) (row := R' deep) (m := m) (p := p) q (fun h0 => by rw [hr2 0 (by omega)]; exact hK 0 (by omega)) hcb
          rw [hS'] at hrn
          -- onto the next
          have s105 : ∀ (R2 : Nat → Nat → Nat) (o8 : Option Value) (e : Int32), e = encO (opF p (rsS h (R deep) m p) (wv g h m (R deep) f t) (c + 1)) → (∀ j, j < deep → R2 j = R j) → (∀ i, i < m → R2 deep i = R deep i) → J k 105 [some (Value.ref 13), some (Value.int (nI deep)), some (Value.int (nI m)), some (Value.int (nI f)), some (Value.int (nI t)), some (Value.int (nI p)), some (Value.int e), some (Value.int (nI c)), o8] [] (wm x0 x1 x2 x3 x4 x5 x6 x7 x8 x9 x10 x11 x12 th st dl sz h n bq lv tr dc ti tc T ld ly K V I tk sc dn R2 e5 eo r) := by
            intro R2 o8 e he h1 h2
            rw [he]
            refine hJ [23] 100 _ _ _ _ _ ⟨nI_in (by omega) (by omega), 0, Nat.zero_le _, am_ca (as' := [Value.int (h p), Value.int (nI (c + 1))]) (by dsimp only; rw [eclp, nI_1]) (cl_100 hl (by omega) (by omega) ?_)⟩
            exact ihj (32 - (c + 1)) (by omega) (c + 1) R2 o8 rfl (by omega) h1 h2
          refine hJ [45] 100 _ _ _ _ _ ⟨nI_in (by omega) (by omega), nI_in (by omega) (by omega), ?_⟩
          refine am_jw (J := J) (st' := [Value.ref (23 + deep), Value.int (nI c), Value.int (h p)]) rfl (by rw [eclp, rows_i hd5]) rfl ?_
          refine hJ [55, 105] 100 _ _ _ _ _ ⟨0, Nat.zero_le _, cl_122 hl (by omega) (K := R' deep) (row_at hd5) q (by omega) (fun h0 => by rw [hr2 0 (by omega)]; exact hK 0 (by omega)) ?_⟩
          rw [hrn]
          refine bz (fun g0 => ?_) (fun g0 => ?_)
          · refine s105 R' o8 _ ?_ hr1 hr2
            rw [opF_s, g0, ← hskip]
            rfl
          · have hwc : wv g h m (R' deep) f t c = wv g h m (R deep) f t c := wv_cong hm hr2
            refine hJ [105] 100 _ _ _ _ _ ⟨0, Nat.zero_le _, cl_135 hl ih (by omega) (by omega) hdp hm hf ht hb (fun i hi => by rw [hr2 i hi]; exact hK i hi) q (by rw [← hp]; exact hcb) (fun R2 r1 r2 => ?_)⟩
            rw [hwc]
            have hr1' : ∀ j, j < deep → R2 j = R j := fun j hj => by rw [r1 j hj, hr1 j hj]
            have hr2' : ∀ i, i < m → R2 deep i = R deep i := fun i hi => by rw [r2 i hi, hr2 i hi]
            have hw1 := hwl c
            have e2 : nI p - nI p / 2 * 2 = nI (p % 2) := pk_rem (d := 2) (by omega) (by omega) (by omega)
            cases ho : opF p (rsS h (R deep) m p) (wv g h m (R deep) f t) i with
            | none =>
              have he : encO (opF p (rsS h (R deep) m p) (wv g h m (R deep) f t) (c + 1)) = nI (wv g h m (R deep) f t c) := by
                rw [opF_s, g0, hskip, ho]
                rfl
              exact ⟨fun _ => s105 R2 _ _ he.symm hr1' hr2', fun q => absurd rfl q⟩
            | some b =>
              have hb100 := hob i b ho
              have he : encO (opF p (rsS h (R deep) m p) (wv g h m (R deep) f t) (c + 1)) = nI (opt2 p b (wv g h m (R deep) f t c)) := by
                rw [opF_s, g0, hskip, ho]
                rfl
              rw [enc_opt] at he
              refine ⟨fun q => absurd q (nI_m1 (by omega)), fun _ => ⟨by decide, beqx (a := p % 2) (b := 0) e2 rfl (by omega) (by omega) (fun g2 => ?_) (fun g2 => ?_)⟩⟩
              · refine s105 R2 _ _ ?_ hr1' hr2'
                rw [he, if_pos g2]
                show (if nI b < nI (wv g h m (R deep) f t c) then _ else _) = _
                by_cases hlt : b < wv g h m (R deep) f t c
                · rw [if_pos hlt, if_pos (nI_lt hlt (by omega))]
                · rw [if_neg hlt, if_neg (nI_nlt (by omega) (by omega))]
                  rfl
              · refine s105 R2 _ _ ?_ hr1' hr2'
                rw [he, if_neg g2]
                show (if nI (wv g h m (R deep) f t c) < nI b then _ else _) = _
                by_cases hlt : wv g h m (R deep) f t c < b
                · rw [if_pos hlt, if_pos (nI_lt hlt (by omega))]
                · rw [if_neg hlt, if_neg (nI_nlt (by omega) (by omega))]
                  rfl
    refine hJ [5] 100 _ _ _ _ _ ⟨by decide, ?_⟩
    refine am_jw (J := J) rfl (congrArg (fun x => [Value.int x]) ep) rfl ?_
    refine hJ [23] 100 _ _ _ _ _ ⟨nI_in (by omega) (by omega), 0, Nat.zero_le _, am_ca (congrArg (fun i => [Value.int (h i), Value.int (nI 0)]) eclp) (cl_100 (i := 0) hl (by omega) (by omega) (hL 32 0 R none rfl (by omega) (fun _ _ => rfl) (fun _ _ => rfl)))⟩
end
