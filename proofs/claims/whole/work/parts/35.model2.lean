/-! contracts: the model, second part: cards given, bids -/
theorem ishrN {s s' : Int32} {c : Nat} (es : s = s') (hc : c < 32) : (s >>> (nI c &&& 31)) &&& 1 = bI (bt s' c) := by rw [es, s_shr hc]; rfl
theorem dealH_0 (f s : Nat) (h : Nat → Int32) : dealH f s h 0 = h := rfl
/-- the cards of a suit, moved down -/
def dwn (x : Int32) (s : Nat) : Int32 := ((x.toUInt32 >>> ((nI (8 * s)).toUInt32 &&& Int32.toUInt32 31)).toInt32) &&& 255
theorem bt_dwn {x : Int32} {s : Nat} (hs : s < 4) (i : Nat) : bt (dwn x s) i = (bt x (8 * s + i) && decide (i < 8)) := by
  rw [dwn, b_and, b_ushr (8 * s) (by omega), b_255]
theorem bt_dwn2 {x : Int32} {s : Nat} (hs : s < 4) {i : Nat} (hi : i < 8) : bt (dwn x s) i = bt (x &&& sSuit s) (8 * s + i) := by
  rw [bt_dwn hs, b_and, bt_suit hs (by omega), decide_eq_true hi, decide_eq_true (by omega)]
theorem bt_ssuit {x : Int32} {s j : Nat} (hs : s < 4) (hj : j < 32) (hn : ¬ j / 8 = s) : bt (x &&& sSuit s) j = false := by
  rw [b_and, bt_suit hs hj, decide_eq_false hn, Bool.and_false]
theorem dwn_zero {x : Int32} {s : Nat} (hs : s < 4) : dwn x s = 0 ↔ x &&& sSuit s = 0 := by
  rw [s_zero, s_zero]
  constructor
  · intro h j hj
    by_cases e : j / 8 = s
    · have := h (j - 8 * s) (by omega)
      rw [bt_dwn2 hs (by omega), show 8 * s + (j - 8 * s) = j by omega] at this
      exact this
    · exact bt_ssuit hs hj e
  · intro h j hj
    by_cases e : j < 8
    · rw [bt_dwn2 hs e]
      exact h _ (by omega)
    · rw [bt_dwn hs, decide_eq_false e, Bool.and_false]
theorem dwn_pc {x : Int32} {s : Nat} (hs : s < 4) : pc (dwn x s) = pc (x &&& sSuit s) := by
  have h1 : pc (dwn x s) = fb_ct (bt (dwn x s)) 8 := by
    have := fb_ct_split (bt (dwn x s)) 8 24
    rw [show fb_ct (fun k => bt (dwn x s) (8 + k)) 24 = 0 from fb_ct_zero.mpr (fun k hk => by rw [bt_dwn hs, decide_eq_false (by omega), Bool.and_false])] at this
    exact this
  have h2 : pc (x &&& sSuit s) = fb_ct (fun k => bt (x &&& sSuit s) (8 * s + k)) 8 := by
    have a := fb_ct_split (bt (x &&& sSuit s)) (8 * s) (32 - 8 * s)
    rw [show 8 * s + (32 - 8 * s) = 32 by omega] at a
    have b := fb_ct_split (fun k => bt (x &&& sSuit s) (8 * s + k)) 8 (24 - 8 * s)
    rw [show 8 + (24 - 8 * s) = 32 - 8 * s by omega] at b
    rw [show fb_ct (bt (x &&& sSuit s)) (8 * s) = 0 from fb_ct_zero.mpr (fun k hk => bt_ssuit hs (by omega) (by omega))] at a
    rw [show fb_ct (fun k => bt (x &&& sSuit s) (8 * s + (8 + k))) (24 - 8 * s) = 0 from fb_ct_zero.mpr (fun k hk => bt_ssuit hs (by omega) (by omega))] at b
    unfold pc
    omega
  rw [h1, h2]
  exact fb_ct_cong (fun k hk => bt_dwn2 hs hk)
theorem dwn_lo {x : Int32} {s : Nat} (hs : s < 4) (h0 : dwn x s ≠ 0) : sLo (x &&& sSuit s) = 8 * s + sLo (dwn x s) := by
  obtain ⟨h1, h2, h3⟩ := sLo_spec h0
  have h8 : sLo (dwn x s) < 8 := by
    rcases Nat.lt_or_ge (sLo (dwn x s)) 8 with q | q
    · exact q
    · rw [bt_dwn hs, decide_eq_false (by omega), Bool.and_false] at h2
      cases h2
  refine nx_uniq (Nat.zero_le _) (by omega) ?_ (fun j _ hj => ?_)
  · rw [← bt_dwn2 hs h8]; exact h2
  · by_cases e : j / 8 = s
    · have := h3 (j - 8 * s) (by omega)
      rw [bt_dwn2 hs (by omega), show 8 * s + (j - 8 * s) = j by omega] at this
      exact this
    · exact bt_ssuit hs (by omega) e
theorem dwn_hi {x : Int32} {s : Nat} (hs : s < 4) (h0 : dwn x s ≠ 0) : sHi (x &&& sSuit s) = 8 * s + sHi (dwn x s) := by
  obtain ⟨h1, h2, h3⟩ := sHi_lt h0
  have h8 : sHi (dwn x s) < 8 := by
    rcases Nat.lt_or_ge (sHi (dwn x s)) 8 with q | q
    · exact q
    · rw [bt_dwn hs, decide_eq_false (by omega), Bool.and_false] at h2
      cases h2
  refine gx_uniq (by omega) ?_ (fun j hj hj2 => ?_)
  · rw [← bt_dwn2 hs h8]; exact h2
  · by_cases e : j / 8 = s
    · have := h3 (j - 8 * s) (by omega) (by omega)
      rw [bt_dwn2 hs (by omega), show 8 * s + (j - 8 * s) = j by omega] at this
      exact this
    · exact bt_ssuit hs hj2 e
section
variable {l : Launch} {d k : Nat} {Q : am_Q} {x0 x1 x2 x3 x4 x5 x6 x7 x8 x9 x10 x11 x12 : am_E} {th st dl sz : Nat} {h : Nat → Int32} {n bq : Nat} {lv : Int32} {tr dc ti tc : Nat} {T : Nat → Nat} {ld ly : Nat} {K V : Nat → Nat} {I : Nat → Bool} {tk : Nat → Nat} {sc : Nat → Int32} {dn : Int32} {R : Nat → Nat → Nat} {e5 eo : am_E} {r : am_M} {N : Nat} {bm : Nat → Nat}
theorem cl_107 (hl : l.stackTraces = false) (hd : 2 ≤ d) {p s wh : Nat} (hp : p < 4) (hs : s < 5) (hw : wh < 3) (hq : Q (.inl (some (Value.int (handV h p s wh)))) (wm x0 x1 x2 x3 x4 x5 x6 x7 x8 x9 x10 x11 x12 th st dl sz h n bq lv tr dc ti tc T ld ly K V I tk sc dn R e5 eo r)) : am_Call l d 107 k [.ref 13, .int (nI p), .int (nI s), .int (nI wh)] (wm x0 x1 x2 x3 x4 x5 x6 x7 x8 x9 x10 x11 x12 th st dl sz h n bq lv tr dc ti tc T ld ly K V I tk sc dn R e5 eo r) Q := by
  refine op_107 hl (by omega) (Nat.le_of_ble_eq_true rfl) (fun J hJ => ?_)
  obtain ⟨y, hy⟩ : ∃ y, y = if s = 4 then h p else dwn (h p) s := ⟨_, rfl⟩
  have hy0 : y = 0 ↔ handA h p s = 0 := by
    rw [hy, handA]
    by_cases e : s = 4
    · rw [if_pos e, if_pos e]
    · rw [if_neg e, if_neg e]
      exact dwn_zero (by omega)
  have hyp : pc y = pc (handA h p s) := by
    rw [hy, handA]
    by_cases e : s = 4
    · rw [if_pos e, if_pos e]
    · rw [if_neg e, if_neg e]
      exact dwn_pc (by omega)
  have hyl : y ≠ 0 → sLo (handA h p s) = (if s = 4 then 0 else 8 * s) + sLo y := by
    intro h0
    rw [hy] at h0
    rw [hy, handA]
    by_cases e : s = 4
    · rw [if_pos e, if_pos e, if_pos e, Nat.zero_add]
    · rw [if_neg e] at h0
      rw [if_neg e, if_neg e, if_neg e]
      exact dwn_lo (by omega) h0
  have hyh : y ≠ 0 → sHi (handA h p s) = (if s = 4 then 0 else 8 * s) + sHi y := by
    intro h0
    rw [hy] at h0
    rw [hy, handA]
    by_cases e : s = 4
    · rw [if_pos e, if_pos e, if_pos e, Nat.zero_add]
    · rw [if_neg e] at h0
      rw [if_neg e, if_neg e, if_neg e]
      exact dwn_hi (by omega) h0
  have s89 : ∀ its, its < 32 → Q (.inl (some (Value.int (nI ((if s = 4 then 0 else 8 * s) + its))))) (wm x0 x1 x2 x3 x4 x5 x6 x7 x8 x9 x10 x11 x12 th st dl sz h n bq lv tr dc ti tc T ld ly K V I tk sc dn R e5 eo r) → J k 89 [some (Value.ref 13), some (Value.int (nI p)), some (Value.int (nI s)), some (Value.int (nI wh)), some (Value.int y), some (Value.int (nI its))] [] (wm x0 x1 x2 x3 x4 x5 x6 x7 x8 x9 x10 x11 x12 th st dl sz h n bq lv tr dc ti tc T ld ly K V I tk sc dn R e5 eo r) := by
    intro its hits hqq
    refine hJ [] 100 _ _ _ _ _ (beq (a := s) (b := 4) (by omega) (by omega) (fun q => ?_) (fun q => am_q1 ?_ rfl hqq))
    · rw [if_pos q, Nat.zero_add] at hqq
      exact hqq
    · show nI 8 * nI s + nI its = _
      rw [pk_mul, nI_add, if_neg q]
  have s29 : J k 29 [some (Value.ref 13), some (Value.int (nI p)), some (Value.int (nI s)), some (Value.int (nI wh)), none, none] [Value.int y] (wm x0 x1 x2 x3 x4 x5 x6 x7 x8 x9 x10 x11 x12 th st dl sz h n bq lv tr dc ti tc T ld ly K V I tk sc dn R e5 eo r) := by
    rw [handV] at hq
    refine hJ [48] 100 _ _ _ _ _ (beq (a := wh) (b := 0) (by omega) (by omega) (fun q => ⟨0, Nat.zero_le _, cl_99 hl (by omega) ?_⟩) (fun q => ⟨fun q0 => ?_, fun q0 => ?_⟩))
    · rw [if_pos q, ← hyp] at hq
      exact hq
    · have hz := hy0.mp q0
      rw [if_neg q, hz] at hq
      have : (if wh = 1 then gr 0 else sm 0) = -1 := by split <;> rfl
      rw [this] at hq
      exact hq
    · have hz : handA h p s ≠ 0 := fun e => q0 (hy0.mpr e)
      obtain ⟨l1, l2, l3⟩ := sLo_spec q0
      rw [if_neg q] at hq
      refine hJ [54] 100 _ _ _ _ _ ⟨0, Nat.zero_le _, cl_100 (i := 0) hl (by omega) (by omega) ?_⟩
      by_cases hw1 : wh = 1
      · rw [if_pos hw1] at hq
        -- the loop
        have hLp : ∀ j its, its + j = 32 → its < 32 → bt y its = true → J k 56 [some (Value.ref 13), some (Value.int (nI p)), some (Value.int (nI s)), some (Value.int (nI wh)), some (Value.int y), some (Value.int (nI its))] [] (wm x0 x1 x2 x3 x4 x5 x6 x7 x8 x9 x10 x11 x12 th st dl sz h n bq lv tr dc ti tc T ld ly K V I tk sc dn R e5 eo r) := by
          intro j
          induction j using Nat.strongRecOn with
          | _ j ih =>
            intro its hj hits hb
            obtain ⟨n1, n2, n3, n4⟩ := nx_spec (bt y) (32 - (its + 1)) (its + 1)
            refine hJ [70, 89] 100 _ _ _ _ _ (beq (a := wh) (b := 1) (by omega) (by omega) (fun _ => ⟨0, Nat.zero_le _, am_ca (congrArg (fun x => [Value.int y, Value.int x]) (nI_1 its)) (cl_100 hl (by omega) (by omega) ?_)⟩) (fun q2 => absurd hw1 q2))
            refine hJ [56, 89] 100 _ _ _ _ _ (ble (a := 32) (b := nx (bt y) (32 - (its + 1)) (its + 1)) (by omega) (by omega) (fun g => ?_) (fun g => ?_))
            · have e : sHi y = its := gx_uniq hits hb (fun j hj1 hj2 => n4 j (by omega) (by omega))
              refine s89 its hits ?_
              rw [gr, if_neg hz, hyh q0, e] at hq
              exact hq
            · refine ⟨0, Nat.zero_le _, am_ca (congrArg (fun x => [Value.int y, Value.int x]) (nI_1 its)) (cl_100 hl (by omega) (by omega) ?_)⟩
              exact (ih (32 - nx (bt y) (32 - (its + 1)) (its + 1)) (by omega) _ (by omega) (by omega) (n3 (by omega)))
        exact hJ [56] 100 _ _ _ _ _ (hLp (32 - sLo y) (sLo y) (by omega) l1 l2)
      · rw [if_neg hw1, sm, if_neg hz, hyl q0] at hq
        exact hJ [89] 100 _ _ _ _ _ (beq (a := wh) (b := 1) (by omega) (by omega) (fun q2 => absurd q2 hw1) (fun _ => s89 (sLo y) l1 hq))
  refine hJ [29] 100 _ _ _ _ _ (beq (a := s) (b := 4) (by omega) (by omega) (fun q => ⟨nI_in hp (by omega), ?_⟩) (fun q => ⟨nI_in hp (by omega), ?_⟩))
  · rw [hy, if_pos q] at s29
    rw [hy, if_pos q] at *
    exact am_jw (J := J) rfl (congrArg (fun i => [Value.int (h i)]) (i_cl (by omega))) rfl s29
  · refine am_jw (J := J) rfl ?_ rfl s29
    rw [hy, if_neg q, dwn, ← pk_mul]
    show [Value.int (((h (nI p).toNatClampNeg).toUInt32 >>> ((nI 8 * nI s).toUInt32 &&& Int32.toUInt32 31)).toInt32 &&& 255)] = _
    rw [i_cl (by omega)]
theorem cl_108 (hl : l.stackTraces = false) (hd : 4 ≤ d) {p s wh : Nat} (hp : p < 4) (hs : s < 5) (hw : wh < 3) (hq : Q (.inl (some (Value.int (handV h p s wh)))) (wm x0 x1 x2 x3 x4 x5 x6 x7 x8 x9 x10 x11 x12 0 st dl sz h n bq lv tr dc ti tc T ld ly K V I tk sc dn R e5 eo r)) : am_Call l d 108 k [.ref 13, .int (nI p), .int (nI s), .int (nI wh)] (wm x0 x1 x2 x3 x4 x5 x6 x7 x8 x9 x10 x11 x12 th st dl sz h n bq lv tr dc ti tc T ld ly K V I tk sc dn R e5 eo r) Q :=
  op_108 hl (by omega) (Nat.le_of_ble_eq_true rfl) (fun J hJ => hJ [] 100 _ _ _ _ _ ⟨0, Nat.zero_le _, cl_96 hl (by omega) hp ⟨fun q => absurd q (by decide), fun _ => ⟨0, Nat.zero_le _, cl_95n (lo := 0) (hi := 4) hl (by omega) (by omega) (by omega) (by omega) (bz (fun q => absurd (of_decide_eq_false q) (by omega)) (fun _ => ⟨0, Nat.zero_le _, cl_95n (lo := 0) (hi := 2) hl (by omega) (by omega) (by omega) (by omega) (bz (fun q => absurd (of_decide_eq_false q) (by omega)) (fun _ => ⟨0, Nat.zero_le _, cl_107 (th := 0) hl (by omega) hp hs hw hq⟩))⟩))⟩⟩⟩)
set_option maxRecDepth 20000 in
theorem cl_108x (hl : l.stackTraces = false) (hd : 4 ≤ d) {x y z : Int32} (hx : NR x 4) (hq : Q (.inl (some (Value.int 0))) (wm x0 x1 x2 x3 x4 x5 x6 x7 x8 x9 x10 x11 x12 1 st dl sz h n bq lv tr dc ti tc T ld ly K V I tk sc dn R e5 eo r)) : am_Call l d 108 k [.ref 13, .int x, .int y, .int z] (wm x0 x1 x2 x3 x4 x5 x6 x7 x8 x9 x10 x11 x12 th st dl sz h n bq lv tr dc ti tc T ld ly K V I tk sc dn R e5 eo r) Q :=
  op_108 hl (by omega) (Nat.le_of_ble_eq_true rfl) (fun J hJ => hJ [] 100 _ _ _ _ _ ⟨0, Nat.zero_le _, cl_96x hl (by omega) hx ⟨fun _ => ⟨0, Nat.zero_le _, cl_94 (th := 0) hl (by omega) (y := 1) rfl hq⟩, fun q => absurd rfl q⟩⟩)
set_option maxRecDepth 20000 in
theorem cl_108y (hl : l.stackTraces = false) (hd : 4 ≤ d) {p : Nat} {y z : Int32} (hp : p < 4) (hx : NR y 5 ∨ NR z 3) (hq : Q (.inl (some (Value.int 0))) (wm x0 x1 x2 x3 x4 x5 x6 x7 x8 x9 x10 x11 x12 2 st dl sz h n bq lv tr dc ti tc T ld ly K V I tk sc dn R e5 eo r)) : am_Call l d 108 k [.ref 13, .int (nI p), .int y, .int z] (wm x0 x1 x2 x3 x4 x5 x6 x7 x8 x9 x10 x11 x12 th st dl sz h n bq lv tr dc ti tc T ld ly K V I tk sc dn R e5 eo r) Q := by
  refine op_108 hl (by omega) (Nat.le_of_ble_eq_true rfl) (fun J hJ => hJ [18] 100 _ _ _ _ _ ⟨0, Nat.zero_le _, cl_96 hl (by omega) hp ⟨fun q => absurd q (by decide), fun _ => ?_⟩⟩)
  rcases NR_or y (n := 5) (by omega) with ⟨s, hs, rfl⟩ | hy
  · have hz : NR z 3 := by
      rcases hx with q | q
      · exact absurd q (NR_x hs (by omega))
      · exact q
    exact hJ [] 100 _ _ _ _ _ ⟨0, Nat.zero_le _, cl_95n (lo := 0) (hi := 4) hl (by omega) (by omega) (by omega) (by omega) (bz (fun q => absurd (of_decide_eq_false q) (by omega)) (fun _ => ⟨0, Nat.zero_le _, cl_95x (n := 2) hl (by omega) (by omega) hz ⟨fun _ => ⟨0, Nat.zero_le _, cl_94 (th := 0) hl (by omega) (y := 2) rfl hq⟩, fun q => absurd rfl q⟩⟩))⟩
  · exact hJ [] 100 _ _ _ _ _ ⟨0, Nat.zero_le _, cl_95x (n := 4) hl (by omega) (by omega) hy ⟨fun _ => ⟨0, Nat.zero_le _, cl_94 (th := 0) hl (by omega) (y := 2) rfl hq⟩, fun q => absurd rfl q⟩⟩
theorem cl_104 (hl : l.stackTraces = false) (hd : 3 ≤ d) {p c : Nat} (hp : p < 4) (hc : c < 32) (h1 : st = 0) (h2 : ¬ pc (h p) = 8) (h3 : bt (hAll h) c = false) (hq : Q (.inl (some (Value.int (nI (pc (sAdd (h p) c)))))) (wm x0 x1 x2 x3 x4 x5 x6 x7 x8 x9 x10 x11 x12 0 st dl sz (upd h p (sAdd (h p) c)) n bq lv tr dc ti tc T ld ly K V I tk sc dn R e5 eo r)) : am_Call l d 104 k [.ref 13, .int (nI p), .int (nI c)] (wm x0 x1 x2 x3 x4 x5 x6 x7 x8 x9 x10 x11 x12 th st dl sz h n bq lv tr dc ti tc T ld ly K V I tk sc dn R e5 eo r) Q := by
  subst h1
  have ecl : (nI p).toNatClampNeg = p := i_cl (by omega)
  have e : pc (upd h p (sAdd (h p) c) p) = pc (sAdd (h p) c) := by rw [up_s]
  refine op_104 hl (by omega) (Nat.le_of_ble_eq_true rfl) (fun J hJ => hJ [64] 100 _ _ _ _ _ ⟨0, Nat.zero_le _, cl_96 hl (by omega) hp ⟨fun q => absurd q (by decide), fun _ => ⟨0, Nat.zero_le _, cl_97 hl (by omega) hc ⟨fun q => absurd q (by decide), fun _ => ⟨fun _ => ⟨nI_in hp (by omega), 0, Nat.zero_le _, am_ca (congrArg (fun i => [Value.int (h i)]) ecl) (cl_99 hl (by omega) (beq (a := pc (h p)) (b := 8) (by have := pc_le (h p); omega) (by omega) (fun q => absurd q h2) (fun _ => ⟨0, Nat.zero_le _, cl_101 (th := 0) hl (by omega) (ishr1 rfl hc (fun q => by rw [h3] at q; cases q) (fun _ => ?_))⟩)))⟩, fun q => absurd rfl q⟩⟩⟩⟩⟩)
  refine hJ [76] 100 _ _ _ _ _ ⟨nI_in hp (by omega), nI_in hp (by omega), ?_⟩
  refine am_jw (J := J) (w' := (wm x0 x1 x2 x3 x4 x5 x6 x7 x8 x9 x10 x11 x12 0 0 dl sz (upd h p (sAdd (h p) c)) n bq lv tr dc ti tc T ld ly K V I tk sc dn R e5 eo r)) rfl rfl ?_ ?_
  · dsimp only
    rw [ecl]
    rfl
  · exact hJ [] 100 _ _ _ _ _ ⟨nI_in hp (by omega), 0, Nat.zero_le _, am_ca (congrArg (fun i => [Value.int (upd h p (sAdd (h p) c) i)]) ecl) (cl_99 hl (by omega) (by rw [e]; exact hq))⟩
set_option maxRecDepth 20000 in
theorem cl_104b (hl : l.stackTraces = false) (hd : 3 ≤ d) {p c : Nat} (hst : st < 4) (hp : p < 4) (hc : c < 32) (hx : ¬ (st = 0 ∧ ¬ pc (h p) = 8 ∧ bt (hAll h) c = false)) (hq : Q (.inl (some (Value.int 0))) (wm x0 x1 x2 x3 x4 x5 x6 x7 x8 x9 x10 x11 x12 2 st dl sz h n bq lv tr dc ti tc T ld ly K V I tk sc dn R e5 eo r)) : am_Call l d 104 k [.ref 13, .int (nI p), .int (nI c)] (wm x0 x1 x2 x3 x4 x5 x6 x7 x8 x9 x10 x11 x12 th st dl sz h n bq lv tr dc ti tc T ld ly K V I tk sc dn R e5 eo r) Q := by
  have ecl : (nI p).toNatClampNeg = p := i_cl (by omega)
  refine op_104 hl (by omega) (Nat.le_of_ble_eq_true rfl) (fun J hJ => ?_)
  have s58 : J k 58 [some (Value.ref 13), some (Value.int (nI p)), some (Value.int (nI c))] [] (wm x0 x1 x2 x3 x4 x5 x6 x7 x8 x9 x10 x11 x12 0 st dl sz h n bq lv tr dc ti tc T ld ly K V I tk sc dn R e5 eo r) := hJ [] 100 _ _ _ _ _ ⟨0, Nat.zero_le _, cl_94 (th := 0) hl (by omega) (y := 2) rfl hq⟩
  refine hJ [58] 100 _ _ _ _ _ ⟨0, Nat.zero_le _, cl_96 hl (by omega) hp ⟨fun q => absurd q (by decide), fun _ => ⟨0, Nat.zero_le _, cl_97 hl (by omega) hc ⟨fun q => absurd q (by decide), fun _ => beq (a := st) (b := 0) (by omega) (by omega) (fun q0 => ⟨nI_in hp (by omega), 0, Nat.zero_le _, am_ca (congrArg (fun i => [Value.int (h i)]) ecl) (cl_99 hl (by omega) (beq (a := pc (h p)) (b := 8) (by have := pc_le (h p); omega) (by omega) (fun q => s58) (fun q8 => ⟨0, Nat.zero_le _, cl_101 (th := 0) hl (by omega) (ishr1 rfl hc (fun q => s58) (fun q => absurd ⟨q0, q8, q⟩ hx))⟩)))⟩) (fun q => s58)⟩⟩⟩⟩
set_option maxRecDepth 20000 in
theorem cl_104x (hl : l.stackTraces = false) (hd : 3 ≤ d) {x y : Int32} (hx : NR x 4) (hq : Q (.inl (some (Value.int 0))) (wm x0 x1 x2 x3 x4 x5 x6 x7 x8 x9 x10 x11 x12 1 st dl sz h n bq lv tr dc ti tc T ld ly K V I tk sc dn R e5 eo r)) : am_Call l d 104 k [.ref 13, .int x, .int y] (wm x0 x1 x2 x3 x4 x5 x6 x7 x8 x9 x10 x11 x12 th st dl sz h n bq lv tr dc ti tc T ld ly K V I tk sc dn R e5 eo r) Q :=
  op_104 hl (by omega) (Nat.le_of_ble_eq_true rfl) (fun J hJ => hJ [] 100 _ _ _ _ _ ⟨0, Nat.zero_le _, cl_96x hl (by omega) hx ⟨fun _ => ⟨0, Nat.zero_le _, cl_94 (th := 0) hl (by omega) (y := 1) rfl hq⟩, fun q => absurd rfl q⟩⟩)
set_option maxRecDepth 20000 in
theorem cl_104y (hl : l.stackTraces = false) (hd : 3 ≤ d) {p : Nat} {y : Int32} (hp : p < 4) (hx : NR y 32) (hq : Q (.inl (some (Value.int 0))) (wm x0 x1 x2 x3 x4 x5 x6 x7 x8 x9 x10 x11 x12 1 st dl sz h n bq lv tr dc ti tc T ld ly K V I tk sc dn R e5 eo r)) : am_Call l d 104 k [.ref 13, .int (nI p), .int y] (wm x0 x1 x2 x3 x4 x5 x6 x7 x8 x9 x10 x11 x12 th st dl sz h n bq lv tr dc ti tc T ld ly K V I tk sc dn R e5 eo r) Q :=
  op_104 hl (by omega) (Nat.le_of_ble_eq_true rfl) (fun J hJ => hJ [] 100 _ _ _ _ _ ⟨0, Nat.zero_le _, cl_96 hl (by omega) hp ⟨fun q => absurd q (by decide), fun _ => ⟨0, Nat.zero_le _, cl_97x hl (by omega) hx ⟨fun _ => ⟨0, Nat.zero_le _, cl_94 (th := 0) hl (by omega) (y := 1) rfl hq⟩, fun q => absurd rfl q⟩⟩⟩⟩)
theorem cl_106 (hl : l.stackTraces = false) (hd : 3 ≤ d) {p c : Nat} (hp : p < 4) (hc : c < 32) (hq : Q (.inl (some (Value.int (bI (bt (h p) c))))) (wm x0 x1 x2 x3 x4 x5 x6 x7 x8 x9 x10 x11 x12 0 st dl sz h n bq lv tr dc ti tc T ld ly K V I tk sc dn R e5 eo r)) : am_Call l d 106 k [.ref 13, .int (nI p), .int (nI c)] (wm x0 x1 x2 x3 x4 x5 x6 x7 x8 x9 x10 x11 x12 th st dl sz h n bq lv tr dc ti tc T ld ly K V I tk sc dn R e5 eo r) Q :=
  op_106 hl (by omega) (Nat.le_of_ble_eq_true rfl) (fun J hJ => hJ [] 100 _ _ _ _ _ ⟨0, Nat.zero_le _, cl_96 hl (by omega) hp ⟨fun q => absurd q (by decide), fun _ => ⟨0, Nat.zero_le _, cl_97 hl (by omega) hc ⟨fun q => absurd q (by decide), fun _ => ⟨fun _ => ⟨0, Nat.zero_le _, cl_98 (th := 0) hl (by omega) hp hc (bz (fun q => by rw [q] at hq; exact ⟨by decide, hq⟩) (fun q => by rw [q] at hq; exact ⟨by decide, hq⟩))⟩, fun q => absurd rfl q⟩⟩⟩⟩⟩)
theorem cl_106x (hl : l.stackTraces = false) (hd : 3 ≤ d) {x y : Int32} (hx : NR x 4) (hq : ∀ v, Q (.inl (some (Value.int v))) (wm x0 x1 x2 x3 x4 x5 x6 x7 x8 x9 x10 x11 x12 1 st dl sz h n bq lv tr dc ti tc T ld ly K V I tk sc dn R e5 eo r)) : am_Call l d 106 k [.ref 13, .int x, .int y] (wm x0 x1 x2 x3 x4 x5 x6 x7 x8 x9 x10 x11 x12 th st dl sz h n bq lv tr dc ti tc T ld ly K V I tk sc dn R e5 eo r) Q :=
  op_106 hl (by omega) (Nat.le_of_ble_eq_true rfl) (fun J hJ => hJ [] 100 _ _ _ _ _ ⟨0, Nat.zero_le _, cl_96x hl (by omega) hx ⟨fun _ => ⟨fun q => absurd q (by decide), fun _ => ⟨by decide, hq 0⟩⟩, fun q => absurd rfl q⟩⟩)
theorem cl_106y (hl : l.stackTraces = false) (hd : 3 ≤ d) {p : Nat} {y : Int32} (hp : p < 4) (hx : NR y 32) (hq : ∀ v, Q (.inl (some (Value.int v))) (wm x0 x1 x2 x3 x4 x5 x6 x7 x8 x9 x10 x11 x12 1 st dl sz h n bq lv tr dc ti tc T ld ly K V I tk sc dn R e5 eo r)) : am_Call l d 106 k [.ref 13, .int (nI p), .int y] (wm x0 x1 x2 x3 x4 x5 x6 x7 x8 x9 x10 x11 x12 th st dl sz h n bq lv tr dc ti tc T ld ly K V I tk sc dn R e5 eo r) Q :=
  op_106 hl (by omega) (Nat.le_of_ble_eq_true rfl) (fun J hJ => hJ [] 100 _ _ _ _ _ ⟨0, Nat.zero_le _, cl_96 hl (by omega) hp ⟨fun q => absurd q (by decide), fun _ => ⟨0, Nat.zero_le _, cl_97x hl (by omega) hx ⟨fun _ => ⟨fun q => absurd q (by decide), fun _ => ⟨by decide, hq 0⟩⟩, fun q => absurd rfl q⟩⟩⟩⟩)
end
