/-! contracts: the class's calls over the search -/
theorem bal_km {h : Nat → Int32} {L : Nat → Nat} {pl kp : Nat} (hb : bal h L pl kp) (hL : L (pl / 4) < 4) (hm : pl % 4 ≠ 0) : 0 < kp := by
  have := hb (L (pl / 4)) hL
  rw [if_pos (by omega)] at this
  omega
theorem bal_k3 {h : Nat → Int32} {L : Nat → Nat} {pl kp : Nat} (hb : bal h L pl kp) (hL : L (pl / 4) < 4) (h3 : le4 h 3 = true) : kp ≤ 3 := by
  have := bal_tu hb hL
  have := le4_iff.mp h3 (who L pl) (Nat.mod_lt _ (by omega))
  omega
def G2 (h : Nat → Int32) (c L : Nat → Nat) (sz pl : Nat) (rv : Int32) (tr tu kp : Nat) : Prop :=
  tu = who L pl ∧ sz = pl / 4 + kp ∧ sz ≤ 8 ∧ tr ≤ 4 ∧ bal h L pl kp ∧ (∀ i, i < pl → c i < 32) ∧ (∀ j, j ≤ pl / 4 → L j < 4) ∧ (∀ i, pl ≤ i → i < 32 → bt rv i = false)
def nl (pl kp : Nat) : Nat := 4 * kp - pl % 4
def hbp (st : Nat) (h : Nat → Int32) : Bool := decide (st = 2) && le4 h 3
def bestV (st : Nat) (h : Nat → Int32) (c L : Nat → Nat) (pl tm kp : Nat) : Int32 := if hbp st h = true then nI (bp (nl pl kp) h c L pl tm) else -1
def withV (st : Nat) (h : Nat → Int32) (c L : Nat → Nat) (pl tr kp cd : Nat) : Int32 := if hbp st h = true then nI (bw (nl pl kp - 1) h c L pl tr cd) else -1
def bcP (h : Nat → Int32) (c L : Nat → Nat) (pl tr kp : Nat) (cd : Nat) : Bool := bt (RC h c pl (who L pl)) cd && decide (bw (nl pl kp - 1) h c L pl tr cd = bp (nl pl kp) h c L pl tr)
def bcV (st : Nat) (h : Nat → Int32) (c L : Nat → Nat) (pl tr kp : Nat) : Int32 := if hbp st h = true then nI (nx (bcP h c L pl tr kp) 32 0) else -1
def wgV (c L : Nat → Nat) (pl tr cd : Nat) : Int32 := takeV (L (pl / 4)) (rowOf (uN c pl cd) (pl / 4)) tr (pl % 4 + 1)
theorem hbp_t {st : Nat} {h : Nat → Int32} (e : hbp st h = true) : st = 2 ∧ le4 h 3 = true := by
  unfold hbp at e
  rw [Bool.and_eq_true, decide_eq_true_iff] at e
  exact e
theorem bp_k {h : Nat → Int32} {c L : Nat → Nat} {pl tr kp : Nat} (hk : pl % 4 ≠ 0 → 0 < kp) : bp (nl pl kp) h c L pl tr ≤ kp := by
  have := vl_le (n := nl pl kp) (h := h) (m := pl % 4) (row := rowOf c (pl / 4)) (f := L (pl / 4)) (t := tr) (Nat.mod_lt _ (by omega))
  have e : (nl pl kp + pl % 4) / 4 = kp := by
    unfold nl
    by_cases h0 : pl % 4 = 0
    · omega
    · have := hk h0
      omega
  rw [e] at this
  exact this
/-- of the CARDS that may be played rightly one is best -/
theorem bc_ex {h : Nat → Int32} {c L : Nat → Nat} {pl tr kp : Nat} (hne : RC h c pl (who L pl) ≠ 0) (hn : 0 < nl pl kp) : ∃ cd, cd < 32 ∧ bcP h c L pl tr kp cd = true := by
  obtain ⟨m, hm⟩ : ∃ m, nl pl kp = m + 1 := ⟨nl pl kp - 1, by omega⟩
  obtain ⟨h1, h2, _⟩ := sLo_spec hne
  obtain ⟨b, hb⟩ := opF_some (p := who L pl) (v := bw m h c L pl tr) h1 h2
  obtain ⟨cd, c1, c2, c3⟩ := opF_mem hb
  refine ⟨cd, c1, ?_⟩
  unfold bcP
  rw [Bool.and_eq_true]
  refine ⟨c2, decide_eq_true ?_⟩
  rw [hm, bp_s, hb]
  show bw m h c L pl tr cd = b
  rw [c3]
section
variable {l : Launch} {x0 x1 x2 x3 x4 : am_E} {sz tr : Nat} {rv : Int32} {r : am_M} {d k : Nat} {Q : am_Q} {h : Nat → Int32} {c L : Nat → Nat} {pl kp : Nat}
theorem cl_81 (hl : l.stackTraces = false) (hd : 20 ≤ d) (htr : tr ≤ 4) (hs8 : sz ≤ 8) (hs : sz = pl / 4 + kp) (hk3 : kp ≤ 3) (hkm : pl % 4 ≠ 0 → 0 < kp) (hb : bal h L pl kp) (hc : ∀ i, i < pl → c i < 32) (hL : ∀ j, j ≤ pl / 4 → L j < 4) (hrv : ∀ i, pl ≤ i → i < 32 → bt rv i = false)
    (hq : ∀ c' L', (∀ i, i < pl → c' i = c i) → (∀ j, j ≤ pl / 4 → L' j = L j) → Q (.inl (some (Value.int (nI (bp (nl pl kp) h c L pl tr))))) (wc5 x0 x1 x2 x3 x4 h c' L' sz pl rv tr (who L pl) r)) : am_Call l d 81 k [.ref 5] (wc5 x0 x1 x2 x3 x4 h c L sz pl rv tr (who L pl) r) Q := by
  have hvk := bp_k (h := h) (c := c) (L := L) (tr := tr) hkm
  have hnk : nl pl kp + pl % 4 = 4 * kp := by
    unfold nl
    by_cases h0 : pl % 4 = 0
    · omega
    · have := hkm h0
      omega
  refine op_81 hl (by omega) (Nat.le_of_ble_eq_true rfl) (fun J hJ => ?_)
  have hLp : ∀ (j i : Nat) (cc LL : Nat → Nat), i + 1 + j = 4 → i ≤ bp (nl pl kp) h c L pl tr → (∀ i, i < pl → cc i = c i) → (∀ j, j ≤ pl / 4 → LL j = L j) → J k 4 [some (Value.ref 5), some (Value.int (nI i)), some (Value.int (nI (i + 1)))] [] (wc5 x0 x1 x2 x3 x4 h cc LL sz pl rv tr (who L pl) r) := by
    intro j
    induction j with
    | zero =>
      intro i cc LL hi hv hcc hLL
      have e : i = 3 := by omega
      subst e
      have hq1 := hq cc LL hcc hLL
      rw [show bp (nl pl kp) h c L pl tr = 3 by omega] at hq1
      exact hJ [4] 100 _ _ _ _ _ ⟨fun _ => hq1, fun q => absurd (by decide) q⟩
    | succ j ih =>
      intro i cc LL hi hv hcc hLL
      have hw : who LL pl = who L pl := by unfold who; rw [hLL _ (Nat.le_refl _)]
      have hbc : bp (nl pl kp) h cc LL pl tr = bp (nl pl kp) h c L pl tr := bp_cong hcc (hLL _ (Nat.le_refl _))
      have hbal : bal h LL pl kp := by
        intro p hp
        rw [hLL _ (Nat.le_refl _)]
        exact hb p hp
      rw [← hw]
      refine hJ [4] 100 _ _ _ _ _ (bl (a := 3) (b := i + 1) (by omega) (by omega) (fun q => absurd q (by omega)) (fun _ => ⟨0, Nat.zero_le _, cl_82 hl htr hs8 (nl pl kp) (dpt := 12) (by omega) hnk hs hk3 hbal (fun i hi => by rw [hcc i hi]; exact hc i hi) (fun j hj => by rw [hLL j hj]; exact hL j hj) hrv (by omega) (by omega) (by omega) (fun c2 L2 hc2 hL2 => ?_)⟩))
      have hcc2 : ∀ i, i < pl → c2 i = c i := fun i hi => by rw [hc2 i hi, hcc i hi]
      have hLL2 : ∀ j, j ≤ pl / 4 → L2 j = L j := fun j hj => by rw [hL2 j hj, hLL j hj]
      rw [hw, hbc]
      refine bz (fun q => ?_) (fun q => ?_)
      · have hq1 := hq c2 L2 hcc2 hLL2
        have := of_decide_eq_false q
        rw [show bp (nl pl kp) h c L pl tr = i by omega] at hq1
        exact hq1
      · refine am_jw (J := J) (congrArg (fun x => [some (Value.ref 5), some (Value.int (nI (i + 1))), some (Value.int x)]) (nI_1 (i + 1))) rfl rfl (ih (i + 1) c2 L2 (by omega) (of_decide_eq_true q) hcc2 hLL2)
  exact hJ [4] 100 _ _ _ _ _ (hLp 3 0 c L rfl (Nat.zero_le _) (fun _ _ => rfl) (fun _ _ => rfl))
end
section
variable {l : Launch} {d k : Nat} {Q : am_Q} {st : Nat} {dn : Int32} {h : Nat → Int32} {c L : Nat → Nat} {sz pl tr tu : Nat} {rv : Int32} {t : am_T5} {b : Nat → Nat} {n dl ll lb ti pa : Nat} {tk : Nat → Nat} {sc : Nat → Int32} {r : am_M} {kp : Nat}
theorem cl_62 (hl : l.stackTraces = false) (hd : 21 ≤ d) {tm : Nat} (htm : tm < 5) (hst : st < 4) (hG : st = 2 → G2 h c L sz pl rv tr tu kp) (hq : ∀ t', Q (.inl (some (Value.int (bestV st h c L pl tm kp)))) (wt st dn h c L sz pl rv tr tu t' b n dl ll lb ti pa tk sc r)) : am_Call l d 62 k [.ref 0, .int (nI tm)] (wt st dn h c L sz pl rv tr tu t b n dl ll lb ti pa tk sc r) Q := by
  refine op_62 hl (by omega) (Nat.le_of_ble_eq_true rfl) (fun J hJ => hJ [28] 100 _ _ _ _ _ ⟨fun q => absurd q (nI_pos (by omega)), fun _ => bl (a := tm) (b := 5) (by omega) (by omega) (fun _ => ⟨0, Nat.zero_le _, cl_79 hl (by omega) hst (bz (fun q => ?_) (fun q => ?_))⟩) (fun q => absurd htm (by omega))⟩)
  · have hq1 := hq t
    rw [bestV, if_neg (by rw [show hbp st h = false from q]; decide)] at hq1
    exact hq1
  · obtain ⟨h1, h2⟩ := hbp_t q
    obtain ⟨g1, g2, g3, g4, g5, g6, g7, g8⟩ := hG h1
    have hkm := bal_km g5 (g7 _ (Nat.le_refl _))
    refine hJ [] 100 _ _ _ _ _ ⟨0, Nat.zero_le _, cl_18 hl (by omega) ⟨0, Nat.zero_le _, am_cwd (w' := (wt st dn h c L sz pl rv tr tu ((h, c, L, sz, pl, rv, tm, who L pl)) b n dl ll lb ti pa tk sc r)) (by rw [g1]; rfl) (cl_81 (h := h) (c := c) (L := L) (sz := sz) (pl := pl) (rv := rv) (tr := tm) hl (by omega) (by omega) g3 g2 (bal_k3 g5 (g7 _ (Nat.le_refl _)) h2) hkm g5 g6 g7 g8 (fun c2 L2 hc2 hL2 => ?_))⟩⟩
    have hq1 := hq (h, c2, L2, sz, pl, rv, tm, who L pl)
    rw [bestV, if_pos (show hbp st h = true from q)] at hq1
    exact hq1
theorem cl_62x (hl : l.stackTraces = false) (hd : 21 ≤ d) (hk : 1 ≤ k) {x : Int32} (hx : NR x 5) (hq : Q (.inr 2) (wt st dn h c L sz pl rv tr tu t b n dl ll lb ti pa tk sc r)) : am_Call l d 62 k [.ref 0, .int x] (wt st dn h c L sz pl rv tr tu t b n dl ll lb ti pa tk sc r) Q :=
  op_62 hl (by omega) (Nat.le_of_ble_eq_true rfl) (fun J hJ => hJ [] 100 _ _ _ _ _ (bNRt (n := 5) hx ⟨hk, hq⟩ ⟨hk, hq⟩))
theorem cl_59 (hl : l.stackTraces = false) (hd : 22 ≤ d) (htr : tr < 5) (hst : st < 4) (hG : st = 2 → G2 h c L sz pl rv tr tu kp) (hq : ∀ t', Q (.inl (some (Value.int (bestV st h c L pl tr kp)))) (wt st dn h c L sz pl rv tr tu t' b n dl ll lb ti pa tk sc r)) : am_Call l d 59 k [.ref 0] (wt st dn h c L sz pl rv tr tu t b n dl ll lb ti pa tk sc r) Q :=
  op_59 hl (by omega) (Nat.le_of_ble_eq_true rfl) (fun J hJ => hJ [] 100 _ _ _ _ _ ⟨0, Nat.zero_le _, cl_62 hl (by omega) htr hst hG hq⟩)
theorem cl_80 (hl : l.stackTraces = false) (hd : 21 ≤ d) {cd : Nat} (hcd : cd < 32) (hG : G2 h c L sz pl rv tr tu kp) (h3 : le4 h 3 = true) (hbt : bt (h tu) cd = true) (hq : ∀ t', Q (.inl (some (Value.int (nI (bw (nl pl kp - 1) h c L pl tr cd))))) (wt st dn h c L sz pl rv tr tu t' b n dl ll lb ti pa tk sc r)) : am_Call l d 80 k [.ref 0, .int (nI cd)] (wt st dn h c L sz pl rv tr tu t b n dl ll lb ti pa tk sc r) Q := by
  obtain ⟨g1, g2, g3, g4, g5, g6, g7, g8⟩ := hG
  have hLp := g7 _ (Nat.le_refl _)
  have htu4 : tu < 4 := by rw [g1]; exact Nat.mod_lt _ (by omega)
  have hk0 : 0 < kp := by
    have := bal_tu g5 hLp
    rw [← g1] at this
    have h2 : 0 < pc (h tu) := pc_pos.mpr ⟨cd, hcd, hbt⟩
    omega
  have hk3 := bal_k3 g5 hLp h3
  have hbs := bal_step (c := c) (tr := tr) g5 hLp hcd (by rw [← g1]; exact hbt)
  rw [← g1] at hbs
  have htw : pTu c L pl tr tu cd = who (pL c L pl tr cd) (pl + 1) := by rw [g1]; exact pTu_who hLp
  refine op_80 hl (by omega) (Nat.le_of_ble_eq_true rfl) (fun J hJ => hJ [22] 100 _ _ _ _ _ ⟨0, Nat.zero_le _, cl_18 hl (by omega) ⟨0, Nat.zero_le _, cl_37_5 hl (by omega) hcd (by omega) htu4 g4 g6 hLp ?_⟩⟩)
  have s22 : ∀ g, g = gotV c L pl tr cd → J k 22 [some (Value.ref 0), some (Value.int (nI cd)), none] [Value.int (nI g)] (wt st dn h c L sz pl rv tr tu ((upd h tu (sDel (h tu) cd), uN c pl cd, pL c L pl tr cd, sz, pl + 1, pRv h c pl rv tu cd, tr, pTu c L pl tr tu cd)) b n dl ll lb ti pa tk sc r) := by
    intro g hg
    have hnl : nl (pl + 1) (if (pl + 1) % 4 = 0 then kp - 1 else kp) = nl pl kp - 1 := by
      unfold nl
      split <;> omega
    rw [htw]
    refine hJ [] 100 _ _ _ _ _ ⟨0, Nat.zero_le _, cl_81 (h := upd h tu (sDel (h tu) cd)) (c := uN c pl cd) (L := pL c L pl tr cd) (sz := sz) (pl := pl + 1) (rv := pRv h c pl rv tu cd) (tr := tr) (kp := if (pl + 1) % 4 = 0 then kp - 1 else kp) hl (by omega) g4 g3 (by split <;> omega) (by split <;> omega) (by intro q; split <;> omega) hbs ?_ (pL_lt g7) ?_ (fun c2 L2 hc2 hL2 => ?_)⟩
    · intro i hi
      show (if i = pl then cd else c i) < 32
      split
      · exact hcd
      · exact g6 i (by omega)
    · intro i h1 h2
      unfold pRv
      split
      · exact g8 i (by omega) h2
      · rw [bt_add (by omega) h2, g8 i (by omega) h2, decide_eq_false (by omega)]
        rfl
    · have hq1 := hq (upd h tu (sDel (h tu) cd), c2, L2, sz, pl + 1, pRv h c pl rv tu cd, tr, who (pL c L pl tr cd) (pl + 1))
      refine am_q1 ?_ rfl hq1
      show nI g + nI _ = _
      rw [nI_add, hnl, bw_step, ← hg, ← g1]
  unfold pRet
  by_cases e4 : (pl + 1) % 4 = 0
  · rw [if_pos e4]
    refine ⟨0, Nat.zero_le _, cl_83 hl (by omega) (Nat.mod_lt _ (by omega)) (s22 _ ?_)⟩
    rw [gotV, if_pos e4]
  · rw [if_neg e4]
    refine ⟨0, Nat.zero_le _, cl_83m hl (by omega) (s22 0 ?_)⟩
    rw [gotV, if_neg e4]
theorem cl_60 (hl : l.stackTraces = false) (hd : 22 ≤ d) {cd : Nat} (hcd : cd < 32) (h1 : st = 2) (hG : G2 h c L sz pl rv tr tu kp) (hbt : bt (h tu) cd = true) (hq : ∀ t', Q (.inl (some (Value.int (withV st h c L pl tr kp cd)))) (wt st dn h c L sz pl rv tr tu t' b n dl ll lb ti pa tk sc r)) : am_Call l d 60 k [.ref 0, .int (nI cd)] (wt st dn h c L sz pl rv tr tu t b n dl ll lb ti pa tk sc r) Q := by
  have htu4 : tu < 4 := by rw [hG.1]; exact Nat.mod_lt _ (by omega)
  refine op_60 hl (by omega) (Nat.le_of_ble_eq_true rfl) (fun J hJ => hJ [] 100 _ _ _ _ _ ⟨0, Nat.zero_le _, cl_71 hl (by omega) hcd ⟨0, Nat.zero_le _, cl_73 hl (by omega) h1 htu4 hcd hbt ⟨0, Nat.zero_le _, cl_79 hl (by omega) (by omega) (bz (fun q => ?_) (fun q => ⟨0, Nat.zero_le _, cl_80 hl (by omega) hcd hG (hbp_t q).2 hbt (fun t' => ?_)⟩))⟩⟩⟩)
  · have hq1 := hq t
    rw [withV, if_neg (by rw [show hbp st h = false from q]; decide)] at hq1
    exact hq1
  · have hq1 := hq t'
    rw [withV, if_pos (show hbp st h = true from q)] at hq1
    exact hq1
theorem cl_60x (hl : l.stackTraces = false) (hd : 22 ≤ d) (hk : 1 ≤ k) {x : Int32} (hx : NR x 32) (hq : Q (.inr 1) (wt st dn h c L sz pl rv tr tu t b n dl ll lb ti pa tk sc r)) : am_Call l d 60 k [.ref 0, .int x] (wt st dn h c L sz pl rv tr tu t b n dl ll lb ti pa tk sc r) Q :=
  op_60 hl (by omega) (Nat.le_of_ble_eq_true rfl) (fun J hJ => hJ [] 100 _ _ _ _ _ ⟨k, Nat.le_refl _, cl_71x hl (by omega) hk hx hq⟩)
theorem cl_60y (hl : l.stackTraces = false) (hd : 22 ≤ d) (hk : 1 ≤ k) {cd : Nat} (hst : st < 4) (ht : tu < 4) (hcd : cd < 32) (hx : ¬ (st = 2 ∧ bt (h tu) cd = true)) (hq : Q (.inr 3) (wt st dn h c L sz pl rv tr tu t b n dl ll lb ti pa tk sc r)) : am_Call l d 60 k [.ref 0, .int (nI cd)] (wt st dn h c L sz pl rv tr tu t b n dl ll lb ti pa tk sc r) Q :=
  op_60 hl (by omega) (Nat.le_of_ble_eq_true rfl) (fun J hJ => hJ [] 100 _ _ _ _ _ ⟨0, Nat.zero_le _, cl_71 hl (by omega) hcd ⟨k, Nat.le_refl _, cl_73x hl (by omega) hk hst ht hcd hx hq⟩⟩)
theorem cl_58 (hl : l.stackTraces = false) (hd : 6 ≤ d) {cd : Nat} (hcd : cd < 32) (h1 : st = 2) (ht : tu < 4) (hbt : bt (h tu) cd = true) (hp : pl < 32) (htr : tr ≤ 4) (hc : ∀ i, i < pl → c i < 32) (hL : L (pl / 4) < 4) (hq : ∀ t', Q (.inl (some (Value.int (wgV c L pl tr cd)))) (wt st dn h c L sz pl rv tr tu t' b n dl ll lb ti pa tk sc r)) : am_Call l d 58 k [.ref 0, .int (nI cd)] (wt st dn h c L sz pl rv tr tu t b n dl ll lb ti pa tk sc r) Q := by
  have hLp : pL c L pl tr cd (pl / 4) = L (pl / 4) := pL_lo (Nat.le_refl _)
  refine op_58 hl (by omega) (Nat.le_of_ble_eq_true rfl) (fun J hJ => hJ [29] 100 _ _ _ _ _ ⟨0, Nat.zero_le _, cl_71 hl (by omega) hcd ⟨0, Nat.zero_le _, cl_73 hl (by omega) h1 ht hcd hbt ⟨0, Nat.zero_le _, cl_18 hl (by omega) ⟨0, Nat.zero_le _, cl_37_5 hl (by omega) hcd hp ht htr hc hL ?_⟩⟩⟩⟩)
  have s29 : J k 29 [some (Value.ref 0), some (Value.int (nI cd))] [] (wt st dn h c L sz pl rv tr tu ((upd h tu (sDel (h tu) cd), uN c pl cd, pL c L pl tr cd, sz, pl + 1, pRv h c pl rv tu cd, tr, pTu c L pl tr tu cd)) b n dl ll lb ti pa tk sc r) := by
    refine hJ [] 100 _ _ _ _ _ ⟨0, Nat.zero_le _, cl_27_1 hl (by omega) (by omega) ⟨0, Nat.zero_le _, cl_28_1 hl (by omega) (by omega) ⟨0, Nat.zero_le _, am_ca (congrArg (fun x => [Value.ref 5, Value.int (nI (pl / 4)), Value.int x]) (nI_1 (pl % 4))) (cl_34_5 (h := upd h tu (sDel (h tu) cd)) (c := uN c pl cd) (L := pL c L pl tr cd) (sz := sz) (pl := pl + 1) (rv := pRv h c pl rv tu cd) (tr := tr) (tu := pTu c L pl tr tu cd) hl (by omega) (by omega) (by omega) (by omega) (fun i hi => ?_) htr (by rw [hLp]; exact hL) ?_)⟩⟩⟩
    · show (if 4 * (pl / 4) + i = pl then cd else c (4 * (pl / 4) + i)) < 32
      split
      · exact hcd
      · exact hc _ (by omega)
    · have hq1 := hq (upd h tu (sDel (h tu) cd), uN c pl cd, pL c L pl tr cd, sz, pl + 1, pRv h c pl rv tu cd, tr, pTu c L pl tr tu cd)
      rw [wgV, ← hLp] at hq1
      exact hq1
  exact s29
theorem cl_58x (hl : l.stackTraces = false) (hd : 6 ≤ d) (hk : 1 ≤ k) {x : Int32} (hx : NR x 32) (hq : Q (.inr 1) (wt st dn h c L sz pl rv tr tu t b n dl ll lb ti pa tk sc r)) : am_Call l d 58 k [.ref 0, .int x] (wt st dn h c L sz pl rv tr tu t b n dl ll lb ti pa tk sc r) Q :=
  op_58 hl (by omega) (Nat.le_of_ble_eq_true rfl) (fun J hJ => hJ [] 100 _ _ _ _ _ ⟨k, Nat.le_refl _, cl_71x hl (by omega) hk hx hq⟩)
theorem cl_58y (hl : l.stackTraces = false) (hd : 6 ≤ d) (hk : 1 ≤ k) {cd : Nat} (hst : st < 4) (ht : tu < 4) (hcd : cd < 32) (hx : ¬ (st = 2 ∧ bt (h tu) cd = true)) (hq : Q (.inr 3) (wt st dn h c L sz pl rv tr tu t b n dl ll lb ti pa tk sc r)) : am_Call l d 58 k [.ref 0, .int (nI cd)] (wt st dn h c L sz pl rv tr tu t b n dl ll lb ti pa tk sc r) Q :=
  op_58 hl (by omega) (Nat.le_of_ble_eq_true rfl) (fun J hJ => hJ [] 100 _ _ _ _ _ ⟨0, Nat.zero_le _, cl_71 hl (by omega) hcd ⟨k, Nat.le_refl _, cl_73x hl (by omega) hk hst ht hcd hx hq⟩⟩)
theorem cl_61 (hl : l.stackTraces = false) (hd : 23 ≤ d) (htr : tr < 5) (hst : st < 4) (hG : st = 2 → G2 h c L sz pl rv tr tu kp) (hk0 : st = 2 → 0 < kp) (hq : ∀ t', Q (.inl (some (Value.int (bcV st h c L pl tr kp)))) (wt st dn h c L sz pl rv tr tu t' b n dl ll lb ti pa tk sc r)) : am_Call l d 61 k [.ref 0] (wt st dn h c L sz pl rv tr tu t b n dl ll lb ti pa tk sc r) Q := by
  refine op_61 hl (by omega) (Nat.le_of_ble_eq_true rfl) (fun J hJ => hJ [9] 100 _ _ _ _ _ ⟨0, Nat.zero_le _, cl_79 hl (by omega) hst (bz (fun q => ?_) (fun q => ?_))⟩)
  · have hq1 := hq t
    rw [bcV, if_neg (by rw [show hbp st h = false from q]; decide)] at hq1
    exact hq1
  · have hbq : hbp st h = true := q
    obtain ⟨h1, h3⟩ := hbp_t hbq
    have hGG := hG h1
    obtain ⟨g1, g2, g3, g4, g5, g6, g7, g8⟩ := hGG
    have hLp := g7 _ (Nat.le_refl _)
    have hkp := hk0 h1
    have hk3 := bal_k3 g5 hLp h3
    have htu4 : tu < 4 := by rw [g1]; exact Nat.mod_lt _ (by omega)
    have hpcu := bal_tu g5 hLp
    have hune : h (who L pl) ≠ 0 := fun e => by rw [pc_zero.mpr e] at hpcu; omega
    have hSne : RC h c pl (who L pl) ≠ 0 := RC_ne hune
    have hS3 : pc (RC h c pl (who L pl)) ≤ 3 := Nat.le_trans (pc_sub (fun i _ q => RC_sub q)) (by omega)
    have hnl : 0 < nl pl kp := by unfold nl; omega
    obtain ⟨cx, hcx, hcxb⟩ := bc_ex (tr := tr) hSne hnl
    have hbest : bestV st h c L pl tr kp = nI (bp (nl pl kp) h c L pl tr) := if_pos hbq
    have hbpk : bp (nl pl kp) h c L pl tr ≤ kp := bp_k (fun _ => hkp)
    have hbwk : ∀ cd, bw (nl pl kp - 1) h c L pl tr cd ≤ 100 := by
      intro cd
      rw [bw_step]
      have h5 := vl_le (n := nl pl kp - 1) (h := upd h (who L pl) (sDel (h (who L pl)) cd)) (m := (pl + 1) % 4) (row := rowOf (uN c pl cd) ((pl + 1) / 4)) (f := pL c L pl tr cd ((pl + 1) / 4)) (t := tr) (Nat.mod_lt _ (by omega))
      have h6 : gotV c L pl tr cd ≤ 1 := by unfold gotV; split <;> omega
      have h7 : nl pl kp ≤ 12 := by unfold nl; omega
      unfold bp
      omega
    refine hJ [21] 100 _ _ _ _ _ ⟨0, Nat.zero_le _, cl_62 hl (by omega) htr hst hG (fun t1 => ?_)⟩
    rw [hbest]
    refine hJ [31] 100 _ _ _ _ _ ⟨0, Nat.zero_le _, cl_36_1 hl (by omega) (by omega) htu4 (fun q => g6 _ (by omega)) ?_⟩
    have hLoop : ∀ (j i : Nat) (X : Int32) (t2 : am_T5) (o4 : Option Value), i + j = 8 → pc X ≤ j → (∀ e, e < 32 → bt X e = true → bt (RC h c pl (who L pl)) e = true) → (∀ e, e < 32 → bt (RC h c pl (who L pl)) e = true → bt X e = false → bcP h c L pl tr kp e = false) → J k 31 [some (Value.ref 0), some (Value.int (nI (bp (nl pl kp) h c L pl tr))), some (Value.int X), some (Value.int (nI i)), o4] [] (wt st dn h c L sz pl rv tr tu t2 b n dl ll lb ti pa tk sc r) := by
      intro j
      induction j with
      | zero =>
        intro i X t2 o4 hi hX hsub hx
        have hX0 : X = 0 := pc_zero.mp (by omega)
        have hcS : bt (RC h c pl (who L pl)) cx = true := by unfold bcP at hcxb; rw [Bool.and_eq_true] at hcxb; exact hcxb.1
        have := hx cx hcx hcS (by rw [hX0]; exact b_0 _)
        rw [hcxb] at this
        cases this
      | succ j ih =>
        intro i X t2 o4 hi hX hsub hx
        have hcS : bt (RC h c pl (who L pl)) cx = true := by unfold bcP at hcxb; rw [Bool.and_eq_true] at hcxb; exact hcxb.1
        have hXne : X ≠ 0 := by
          intro e
          have := hx cx hcx hcS (by rw [e]; exact b_0 _)
          rw [hcxb] at this
          cases this
        obtain ⟨hlo, hlob, hlon⟩ := sLo_spec hXne
        obtain ⟨cd, hcd⟩ : ∃ cd, cd = sLo X := ⟨_, rfl⟩
        rw [← hcd] at hlo hlob hlon
        have hSb := hsub cd hlo hlob
        refine hJ [47] 100 _ _ _ _ _ (ble (a := 8) (b := i) (by omega) (by omega) (fun q => absurd q (by omega)) (fun _ => ⟨fun q => absurd q hXne, fun _ => ⟨0, Nat.zero_le _, cl_90 hl (by omega) ?_⟩⟩))
        rw [sm_ne hXne, ← hcd]
        refine hJ [60] 100 _ _ _ _ _ ⟨0, Nat.zero_le _, cl_80 hl (by omega) hlo ⟨g1, g2, g3, g4, g5, g6, g7, g8⟩ h3 (by rw [g1]; exact RC_sub hSb) (fun t3 => beq (a := bw (nl pl kp - 1) h c L pl tr cd) (b := bp (nl pl kp) h c L pl tr) (by have := hbwk cd; omega) (by omega) (fun q => ?_) (fun q => ?_))⟩
        · have hP : bcP h c L pl tr kp cd = true := by unfold bcP; rw [Bool.and_eq_true]; exact ⟨hSb, decide_eq_true q⟩
          have e : nx (bcP h c L pl tr kp) 32 0 = cd := nx_uniq (Nat.zero_le _) (by omega) hP (fun e _ he => by
            cases hbe : bt (RC h c pl (who L pl)) e with
            | false => unfold bcP; rw [hbe]; rfl
            | true => exact hx e (by omega) hbe (hlon e he))
          have hq1 := hq t3
          rw [bcV, if_pos hbq, e] at hq1
          exact hq1
        · refine hJ [31] 100 _ _ _ _ _ ⟨0, Nat.zero_le _, cl_88 hl (by omega) ?_⟩
          refine am_jw (J := J) (congrArg (fun x => [some (Value.ref 0), some (Value.int (nI (bp (nl pl kp) h c L pl tr))), some (Value.int (sDel X cd)), some (Value.int x), some (Value.int (nI cd))]) (nI_1 i)) rfl rfl (ih (i + 1) (sDel X cd) t3 _ (by omega) (by have := pc_del hlo hlob; omega) ?_ ?_)
          · intro e e1 e2
            rw [bt_del hlo e1, Bool.and_eq_true] at e2
            exact hsub e e1 e2.1
          · intro e e1 e2 e3
            by_cases ee : e = cd
            · rw [ee]
              unfold bcP
              rw [decide_eq_false q, Bool.and_false]
            · refine hx e e1 e2 ?_
              rw [bt_del hlo e1] at e3
              simpa [ee] using e3
    have hgo := hLoop 8 0 (RC h c pl (who L pl)) t1 none rfl (by omega) (fun e _ q => q) (fun e _ q1 q2 => by rw [q1] at q2; cases q2)
    rw [g1]
    rw [g1] at hgo
    exact hgo
end
