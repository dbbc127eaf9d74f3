/-! contracts: the model, eighth part: calls over its search, digest -/
def uR0 (R : Nat → Nat → Nat) (K : Nat → Nat) : Nat → Nat → Nat := fun j => if j = 0 then K else R j
def bestM (st : Nat) (h : Nat → Int32) (K : Nat → Nat) (ld ly t kp : Nat) : Int32 := if hbp st h = true then nI (vl (4 * kp - ly) h ly K ld t) else -1
def bcMP (h : Nat → Int32) (K : Nat → Nat) (ld ly t kp : Nat) (c : Nat) : Bool := bt (rsS h K ly ((ld + ly) % 4)) c && decide (wv (4 * kp - ly - 1) h ly K ld t c = vl (4 * kp - ly) h ly K ld t)
def bcM (st : Nat) (h : Nat → Int32) (K : Nat → Nat) (ld ly t kp : Nat) : Int32 := if hbp st h = true then nI (nx (bcMP h K ld ly t kp) 32 0) else -1
def withM (st : Nat) (h : Nat → Int32) (K : Nat → Nat) (ld ly t kp c : Nat) : Int32 := if hbp st h = true then nI (wv (4 * kp - ly - 1) h ly K ld t c) else -1
theorem bcM_ex {h : Nat → Int32} {K : Nat → Nat} {ld ly t kp : Nat} (hne : rsS h K ly ((ld + ly) % 4) ≠ 0) (hn : 0 < 4 * kp - ly) : ∃ cd, cd < 32 ∧ bcMP h K ld ly t kp cd = true := by
  obtain ⟨m, hm⟩ : ∃ m, 4 * kp - ly = m + 1 := ⟨4 * kp - ly - 1, by omega⟩
  obtain ⟨h1, h2, _⟩ := sLo_spec hne
  obtain ⟨b, hb⟩ := opF_some (p := (ld + ly) % 4) (v := wv m h ly K ld t) h1 h2
  obtain ⟨cd, c1, c2, c3⟩ := opF_mem hb
  refine ⟨cd, c1, ?_⟩
  unfold bcMP
  rw [Bool.and_eq_true]
  refine ⟨c2, decide_eq_true ?_⟩
  rw [hm, vl_s, hb]
  show wv m h ly K ld t cd = b
  rw [c3]
theorem rsS_ne {h : Nat → Int32} {row : Nat → Nat} {m p : Nat} (hb : h p ≠ 0) : rsS h row m p ≠ 0 := by
  unfold rsS
  split
  · exact hb
  · split
    · exact hb
    · assumption
theorem ws_md {ti lvl tr sz dc f : Nat} : mdF ti lvl tr (dc % 2) (if dc % 2 = 0 then f else sz - f) 0 - mdF ti lvl tr (dc % 2) (if dc % 2 = 0 then f else sz - f) 1 = wscV ti lvl tr sz dc f := by
  unfold wscV mdF scF
  have h2 : dc % 2 = 0 ∨ dc % 2 = 1 := by omega
  rcases h2 with e | e
  · rw [e, if_pos rfl, if_pos rfl]
    by_cases h : f < lvl
    · rw [if_pos h, if_pos h]
      simp only [upd]
      simp
    · rw [if_neg h, if_neg h]
      simp only [upd]
      simp
  · have e10 : ¬ (1 : Nat) = 0 := by decide
    rw [e]
    simp only [if_neg e10]
    by_cases h : sz - f < lvl
    · rw [if_pos h, if_pos h]
      simp only [upd]
      simp
    · rw [if_neg h, if_neg h]
      simp only [upd]
      simp
def GM (st : Nat) (h : Nat → Int32) (K : Nat → Nat) (ld ly kp : Nat) : Prop := ld < 4 ∧ ly < 4 ∧ (∀ i, i < ly → K i < 32) ∧ (st = 2 → bal2 h ld ly kp ∧ 0 < kp)
theorem GM_k {st : Nat} {h : Nat → Int32} {K : Nat → Nat} {ld ly kp : Nat} (hG : GM st h K ld ly kp) (hb : hbp st h = true) : bal2 h ld ly kp ∧ 0 < kp ∧ kp ≤ 3 ∧ pc (h ((ld + ly) % 4)) = kp := by
  obtain ⟨g1, g2, _, g4⟩ := hG
  obtain ⟨b1, b2⟩ := hbp_t hb
  obtain ⟨a1, a2⟩ := g4 b1
  have h1 := bal2_tu a1 g1 g2
  have h2 := le4_iff.mp b2 ((ld + ly) % 4) (Nat.mod_lt _ (by omega))
  exact ⟨a1, a2, by omega, h1⟩
def mnV (dn : Int32) (sc : Nat → Int32) : UInt64 := if dn = 0 then 0 else FP.ddiv (FP.i2d (sc 0 + sc 1)) (FP.i2d dn)
def digM (st : Nat) (dn : Int32) (h : Nat → Int32) (n dl : Nat) (lv : Int32) (tr dc ti tc : Nat) (T : Nat → Nat) (ld ly : Nat) (K V tk : Nat → Nat) (sc : Nat → Int32) (bm : Nat → Nat) (kp : Nat) : Int64 :=
  fdN (mx (mx (fdN (fdN (fdN (fdN (fdN (fdN 968 (nowM st dn n dl tc ld ly tr K) 8) (conM lv tr dc ti) 4) (fun j => nI (bm j)) n) (fun i => nI (T i)) (6 * tc)) (fun i => sideM V tk sc (i / 3) (i % 3)) 6) (fun i => handV h (i / 15) (i / 3 % 5) (i % 3)) 60) (bestM st h K ld ly tr kp)) (bcM st h K ld ly tr kp)) (fun t => bestM st h K ld ly t kp) 5
section
variable {l : Launch} {d k : Nat} {Q : am_Q} {x0 x1 x2 x3 x4 x5 x6 x7 x8 x9 x10 x11 x12 : am_E} {th st dl sz : Nat} {h : Nat → Int32} {n bq : Nat} {lv : Int32} {tr dc ti tc : Nat} {T : Nat → Nat} {ld ly : Nat} {K V : Nat → Nat} {I : Nat → Bool} {tk : Nat → Nat} {sc : Nat → Int32} {dn : Int32} {R : Nat → Nat → Nat} {e5 eo : am_E} {r : am_M} {N : Nat} {bm : Nat → Nat} {kp : Nat}
set_option maxRecDepth 20000 in
theorem cl_137 (hl : l.stackTraces = false) (hd : 1 ≤ d) (hq : Q (.inl none) (wm x0 x1 x2 x3 x4 x5 x6 x7 x8 x9 x10 x11 x12 th st dl sz h n bq lv tr dc ti tc T ld ly K V I tk sc dn (uR0 R K) e5 eo r)) : am_Call l d 137 k [.ref 13] (wm x0 x1 x2 x3 x4 x5 x6 x7 x8 x9 x10 x11 x12 th st dl sz h n bq lv tr dc ti tc T ld ly K V I tk sc dn R e5 eo r) Q :=
  op_137 hl hd (Nat.le_of_ble_eq_true rfl) (fun J hJ => hJ [] 100 _ _ _ _ _ ⟨nI_in (c := 0) (by omega) (by omega), ⟨by decide, by decide, by decide, by decide, by decide⟩, (fun i => nI (K i)), fun j hj => cpy_x (n := 4) (by decide +kernel) hj, hq⟩)
theorem cl_138 (hl : l.stackTraces = false) (hd : 36 ≤ d) (hst : st < 4) {t : Nat} (ht : t ≤ 4) (hG : GM st h K ld ly kp) (hq : ∀ R', Q (.inl (some (Value.int (bestM st h K ld ly t kp)))) (wm x0 x1 x2 x3 x4 x5 x6 x7 x8 x9 x10 x11 x12 th st dl sz h n bq lv tr dc ti tc T ld ly K V I tk sc dn R' e5 eo r)) : am_Call l d 138 k [.ref 13, .int (nI t)] (wm x0 x1 x2 x3 x4 x5 x6 x7 x8 x9 x10 x11 x12 th st dl sz h n bq lv tr dc ti tc T ld ly K V I tk sc dn R e5 eo r) Q := by
  refine op_138 hl (by omega) (Nat.le_of_ble_eq_true rfl) (fun J hJ => hJ [] 100 _ _ _ _ _ ⟨0, Nat.zero_le _, cl_137 hl (by omega) ⟨0, Nat.zero_le _, cl_134 (R := uR0 R K) hl (by omega) hst (bz (fun q => ?_) (fun q => ?_))⟩⟩)
  · have hq1 := hq (uR0 R K)
    rw [bestM, if_neg (by rw [q]; decide)] at hq1
    exact hq1
  · obtain ⟨a1, a2, a3, a4⟩ := GM_k hG q
    obtain ⟨g1, g2, g3, _⟩ := hG
    refine ⟨0, Nat.zero_le _, cl_136 hl (4 * kp - ly) _ _ _ _ (uR0 R K) 0 ly ld t kp (by omega) (by omega) (by omega) g2 g1 ht a1 g3 (fun R' _ _ => ?_)⟩
    have hq1 := hq R'
    rw [bestM, if_pos q] at hq1
    exact hq1
theorem cl_139 (hl : l.stackTraces = false) (hd : 36 ≤ d) (hb : hbp st h = true) (hG : GM st h K ld ly kp) (htr : tr ≤ 4) {c : Nat} (hc : c < 32) (hbt : bt (h ((ld + ly) % 4)) c = true) (hq : ∀ R', Q (.inl (some (Value.int (nI (wv (4 * kp - ly - 1) h ly K ld tr c))))) (wm x0 x1 x2 x3 x4 x5 x6 x7 x8 x9 x10 x11 x12 th st dl sz h n bq lv tr dc ti tc T ld ly K V I tk sc dn R' e5 eo r)) : am_Call l d 139 k [.ref 13, .int (nI c)] (wm x0 x1 x2 x3 x4 x5 x6 x7 x8 x9 x10 x11 x12 th st dl sz h n bq lv tr dc ti tc T ld ly K V I tk sc dn R e5 eo r) Q := by
  obtain ⟨a1, a2, a3, a4⟩ := GM_k hG hb
  obtain ⟨g1, g2, g3, _⟩ := hG
  refine op_139 hl (by omega) (Nat.le_of_ble_eq_true rfl) (fun J hJ => hJ [] 100 _ _ _ _ _ ⟨0, Nat.zero_le _, cl_137 hl (by omega) ⟨0, Nat.zero_le _, cl_135 (R := uR0 R K) (deep := 0) (kp := kp) hl (cl_136 hl (4 * kp - ly - 1)) (by omega) (by omega) (by omega) g2 g1 htr a1 g3 hc hbt (fun R' _ _ => hq R')⟩⟩)
theorem cl_140 (hl : l.stackTraces = false) (hd : 38 ≤ d) (hst : st < 4) (htr : tr ≤ 4) (hdl : dl < 4) (hn : n ≤ 1000) (hG : GM st h K ld ly kp) (hq : ∀ R', Q (.inl (some (Value.int (bcM st h K ld ly tr kp)))) (wm x0 x1 x2 x3 x4 x5 x6 x7 x8 x9 x10 x11 x12 th st dl sz h n bq lv tr dc ti tc T ld ly K V I tk sc dn R' e5 eo r)) : am_Call l d 140 k [.ref 13] (wm x0 x1 x2 x3 x4 x5 x6 x7 x8 x9 x10 x11 x12 th st dl sz h n bq lv tr dc ti tc T ld ly K V I tk sc dn R e5 eo r) Q := by
  have hG' := hG
  obtain ⟨g1, g2, g3, _⟩ := hG'
  refine op_140 hl (by omega) (Nat.le_of_ble_eq_true rfl) (fun J hJ => hJ [9] 100 _ _ _ _ _ ⟨0, Nat.zero_le _, cl_138 hl (by omega) hst htr hG (fun R1 => ?_)⟩)
  cases hb : hbp st h with
  | false =>
    have hq1 := hq R1
    rw [bcM, if_neg (by rw [hb]; decide)] at hq1
    rw [bestM, if_neg (by rw [hb]; decide)]
    exact hJ [] 100 _ _ _ _ _ ⟨fun q => absurd q (by decide), fun _ => ⟨fun _ => hq1, fun q => absurd rfl q⟩⟩
  | true =>
    obtain ⟨a1, a2, a3, a4⟩ := GM_k hG hb
    have hst2 := (hbp_t hb).1
    have hp4 : (ld + ly) % 4 < 4 := Nat.mod_lt _ (by omega)
    have eclp : (nI ((ld + ly) % 4)).toNatClampNeg = (ld + ly) % 4 := i_cl (by omega)
    have eT : turnV st ((ld + ly) % 4) dl n = nI ((ld + ly) % 4) := by rw [hst2]; rfl
    have hune : h ((ld + ly) % 4) ≠ 0 := fun e => by rw [pc_zero.mpr e] at a4; omega
    obtain ⟨cx, hcx, hcxb⟩ := bcM_ex (K := K) (t := tr) (kp := kp) (rsS_ne (row := K) (m := ly) hune) (by omega)
    have hvk : vl (4 * kp - ly) h ly K ld tr ≤ 100 := Nat.le_trans (vl_le g2) (by omega)
    rw [bestM, if_pos hb]
    have hL : ∀ j i R', i + j = 32 → (∀ e, e < i → bcMP h K ld ly tr kp e = false) → J k 11 [some (Value.ref 13), some (Value.int (nI (vl (4 * kp - ly) h ly K ld tr))), some (Value.int (nI i))] [] (wm x0 x1 x2 x3 x4 x5 x6 x7 x8 x9 x10 x11 x12 th st dl sz h n bq lv tr dc ti tc T ld ly K V I tk sc dn R' e5 eo r) := by
      intro j
      induction j with
      | zero =>
        intro i R' hi hno
        have := hno cx (by omega)
        rw [hcxb] at this
        cases this
      | succ j ih =>
        intro i R' hi hno
        have s69 : ∀ R2, bcMP h K ld ly tr kp i = false → J k 69 [some (Value.ref 13), some (Value.int (nI (vl (4 * kp - ly) h ly K ld tr))), some (Value.int (nI i))] [] (wm x0 x1 x2 x3 x4 x5 x6 x7 x8 x9 x10 x11 x12 th st dl sz h n bq lv tr dc ti tc T ld ly K V I tk sc dn R2 e5 eo r) := by
          intro R2 hf
          refine hJ [11] 100 _ _ _ _ _ (am_jw (J := J) (congrArg (fun x => [some (Value.ref 13), some (Value.int (nI (vl (4 * kp - ly) h ly K ld tr))), some (Value.int x)]) (nI_1 i)) rfl rfl (ih (i + 1) R2 (by omega) (fun e he => ?_)))
          by_cases ee : e = i
          · rw [ee]; exact hf
          · exact hno e (by omega)
        refine hJ [34, 69] 100 _ _ _ _ _ (ble (a := 32) (b := i) (by omega) (by omega) (fun q => absurd q (by omega)) (fun _ => ⟨fun q => absurd q (nI_m1 (by omega)), fun _ => ⟨0, Nat.zero_le _, cl_115 (R := R') hl (by omega) hst hdl (by omega) g1 g2 ⟨0, Nat.zero_le _, am_ca (congrArg (fun x => [Value.ref 13, Value.int x, Value.int (nI i)]) eT) (cl_98 (R := R') hl (by omega) hp4 (by omega) (bz (fun q => s69 R' ?_) (fun q => ?_)))⟩⟩⟩))
        · unfold bcMP
          rw [show bt (rsS h K ly ((ld + ly) % 4)) i = false from Bool.eq_false_iff.mpr (fun q2 => by rw [rs_sub q2] at q; cases q)]
          rfl
        · have hrn := rnV_rs (h := h) (row := K) (m := ly) (p := (ld + ly) % 4) (show i < 32 by omega) (fun h0 => g3 0 (by omega)) q
          refine hJ [58, 69] 100 _ _ _ _ _ ⟨0, Nat.zero_le _, cl_115 (R := R') hl (by omega) hst hdl (by omega) g1 g2 ⟨vin eT hp4 (by omega), 0, Nat.zero_le _, am_ca (congrArg (fun x => [Value.int (h x), Value.int (nI i), Value.ref 17, Value.int (nI ly)]) (clx eT (by omega))) (cl_122 hl (by omega) (K := K) rfl (by omega) (by omega) (fun h0 => g3 0 (by omega)) ?_)⟩⟩
          rw [hrn]
          refine bz (fun q2 => s69 R' ?_) (fun q2 => ?_)
          · unfold bcMP
            rw [q2]
            rfl
          · have hwk : wv (4 * kp - ly - 1) h ly K ld tr i ≤ 100 := Nat.le_trans (wv_le g2) (by omega)
            refine hJ [69] 100 _ _ _ _ _ ⟨0, Nat.zero_le _, cl_139 (R := R') hl (by omega) hb hG htr (by omega) q (fun R2 => beq (a := wv (4 * kp - ly - 1) h ly K ld tr i) (b := vl (4 * kp - ly) h ly K ld tr) (by omega) (by omega) (fun q3 => ?_) (fun q3 => s69 R2 ?_))⟩
            · have hP : bcMP h K ld ly tr kp i = true := by unfold bcMP; rw [q2, decide_eq_true q3]; rfl
              have e : nx (bcMP h K ld ly tr kp) 32 0 = i := nx_uniq (Nat.zero_le _) (by omega) hP (fun e _ he => hno e he)
              have hq1 := hq R2
              rw [bcM, if_pos hb, e] at hq1
              exact hq1
            · unfold bcMP
              rw [decide_eq_false q3, Bool.and_false]
    exact hJ [11] 100 _ _ _ _ _ (hL 32 0 R1 rfl (fun e he => absurd he (Nat.not_lt_zero e)))
theorem cl_141 (hl : l.stackTraces = false) (hd : 37 ≤ d) (hst : st < 4) (htr : tr ≤ 4) (hG : GM st h K ld ly kp) (hq : ∀ R', Q (.inl (some (Value.int (bestM st h K ld ly tr kp)))) (wm x0 x1 x2 x3 x4 x5 x6 x7 x8 x9 x10 x11 x12 0 st dl sz h n bq lv tr dc ti tc T ld ly K V I tk sc dn R' e5 eo r)) : am_Call l d 141 k [.ref 13] (wm x0 x1 x2 x3 x4 x5 x6 x7 x8 x9 x10 x11 x12 th st dl sz h n bq lv tr dc ti tc T ld ly K V I tk sc dn R e5 eo r) Q :=
  op_141 hl (by omega) (Nat.le_of_ble_eq_true rfl) (fun J hJ => hJ [] 100 _ _ _ _ _ ⟨0, Nat.zero_le _, cl_138 (th := 0) hl (by omega) hst htr hG hq⟩)
theorem cl_143 (hl : l.stackTraces = false) (hd : 39 ≤ d) (hst : st < 4) (htr : tr ≤ 4) (hdl : dl < 4) (hn : n ≤ 1000) (hG : GM st h K ld ly kp) (hq : ∀ R', Q (.inl (some (Value.int (bcM st h K ld ly tr kp)))) (wm x0 x1 x2 x3 x4 x5 x6 x7 x8 x9 x10 x11 x12 0 st dl sz h n bq lv tr dc ti tc T ld ly K V I tk sc dn R' e5 eo r)) : am_Call l d 143 k [.ref 13] (wm x0 x1 x2 x3 x4 x5 x6 x7 x8 x9 x10 x11 x12 th st dl sz h n bq lv tr dc ti tc T ld ly K V I tk sc dn R e5 eo r) Q :=
  op_143 hl (by omega) (Nat.le_of_ble_eq_true rfl) (fun J hJ => hJ [] 100 _ _ _ _ _ ⟨0, Nat.zero_le _, cl_140 (th := 0) hl (by omega) hst htr hdl hn hG hq⟩)
theorem cl_144 (hl : l.stackTraces = false) (hd : 37 ≤ d) (hst : st < 4) {t : Nat} (ht : t < 5) (hG : GM st h K ld ly kp) (hq : ∀ R', Q (.inl (some (Value.int (bestM st h K ld ly t kp)))) (wm x0 x1 x2 x3 x4 x5 x6 x7 x8 x9 x10 x11 x12 0 st dl sz h n bq lv tr dc ti tc T ld ly K V I tk sc dn R' e5 eo r)) : am_Call l d 144 k [.ref 13, .int (nI t)] (wm x0 x1 x2 x3 x4 x5 x6 x7 x8 x9 x10 x11 x12 th st dl sz h n bq lv tr dc ti tc T ld ly K V I tk sc dn R e5 eo r) Q :=
  op_144 hl (by omega) (Nat.le_of_ble_eq_true rfl) (fun J hJ => hJ [] 100 _ _ _ _ _ ⟨0, Nat.zero_le _, cl_95n (lo := 0) (hi := 4) hl (by omega) (by omega) (by omega) (by omega) (bz (fun q => absurd (of_decide_eq_false q) (by omega)) (fun _ => ⟨0, Nat.zero_le _, cl_138 (th := 0) hl (by omega) hst (by omega) hG hq⟩))⟩)
set_option maxRecDepth 20000 in
theorem cl_144x (hl : l.stackTraces = false) (hd : 37 ≤ d) {x : Int32} (hx : NR x 5) (hq : Q (.inl (some (Value.int 0))) (wm x0 x1 x2 x3 x4 x5 x6 x7 x8 x9 x10 x11 x12 1 st dl sz h n bq lv tr dc ti tc T ld ly K V I tk sc dn R e5 eo r)) : am_Call l d 144 k [.ref 13, .int x] (wm x0 x1 x2 x3 x4 x5 x6 x7 x8 x9 x10 x11 x12 th st dl sz h n bq lv tr dc ti tc T ld ly K V I tk sc dn R e5 eo r) Q :=
  op_144 hl (by omega) (Nat.le_of_ble_eq_true rfl) (fun J hJ => hJ [] 100 _ _ _ _ _ ⟨0, Nat.zero_le _, cl_95x (n := 4) hl (by omega) (by omega) hx ⟨fun _ => ⟨0, Nat.zero_le _, cl_94 (th := 0) hl (by omega) (y := 1) rfl hq⟩, fun q => absurd rfl q⟩⟩)
theorem cl_142 (hl : l.stackTraces = false) (hd : 38 ≤ d) (h1 : st = 2) (htr : tr ≤ 4) (hdl : dl < 4) (hn : n ≤ 1000) (hG : GM st h K ld ly kp) {c : Nat} (hc : c < 32) (hbt : bt (h ((ld + ly) % 4)) c = true) (hq : ∀ R', Q (.inl (some (Value.int (withM st h K ld ly tr kp c)))) (wm x0 x1 x2 x3 x4 x5 x6 x7 x8 x9 x10 x11 x12 0 st dl sz h n bq lv tr dc ti tc T ld ly K V I tk sc dn R' e5 eo r)) : am_Call l d 142 k [.ref 13, .int (nI c)] (wm x0 x1 x2 x3 x4 x5 x6 x7 x8 x9 x10 x11 x12 th st dl sz h n bq lv tr dc ti tc T ld ly K V I tk sc dn R e5 eo r) Q := by
  have hp4 : (ld + ly) % 4 < 4 := Nat.mod_lt _ (by omega)
  have eT : turnV st ((ld + ly) % 4) dl n = nI ((ld + ly) % 4) := by rw [h1]; rfl
  refine op_142 hl (by omega) (Nat.le_of_ble_eq_true rfl) (fun J hJ => hJ [44] 100 _ _ _ _ _ ⟨0, Nat.zero_le _, cl_97 hl (by omega) hc ⟨fun q => absurd q (by decide), fun _ => beq (a := st) (b := 2) (by omega) (by omega) (fun _ => ⟨0, Nat.zero_le _, cl_115 (th := 0) hl (by omega) (by omega) hdl (by omega) hG.1 hG.2.1 ⟨0, Nat.zero_le _, am_ca (congrArg (fun x => [Value.ref 13, Value.int x, Value.int (nI c)]) eT) (cl_98 (th := 0) hl (by omega) hp4 hc (bz (fun q => ?_) (fun _ => ?_)))⟩⟩) (fun q => absurd h1 q)⟩⟩)
  · rw [hbt] at q
    cases q
  · refine hJ [] 100 _ _ _ _ _ ⟨0, Nat.zero_le _, cl_134 (th := 0) hl (by omega) (by omega) (bz (fun q => ?_) (fun q => ⟨0, Nat.zero_le _, cl_139 (th := 0) hl (by omega) q hG htr hc hbt (fun R' => ?_)⟩))⟩
    · have hq1 := hq R
      rw [withM, if_neg (by rw [q]; decide)] at hq1
      exact hq1
    · have hq1 := hq R'
      rw [withM, if_pos q] at hq1
      exact hq1
set_option maxRecDepth 20000 in
theorem cl_142x (hl : l.stackTraces = false) (hd : 38 ≤ d) {x : Int32} (hx : NR x 32) (hq : Q (.inl (some (Value.int 0))) (wm x0 x1 x2 x3 x4 x5 x6 x7 x8 x9 x10 x11 x12 1 st dl sz h n bq lv tr dc ti tc T ld ly K V I tk sc dn R e5 eo r)) : am_Call l d 142 k [.ref 13, .int x] (wm x0 x1 x2 x3 x4 x5 x6 x7 x8 x9 x10 x11 x12 th st dl sz h n bq lv tr dc ti tc T ld ly K V I tk sc dn R e5 eo r) Q :=
  op_142 hl (by omega) (Nat.le_of_ble_eq_true rfl) (fun J hJ => hJ [] 100 _ _ _ _ _ ⟨0, Nat.zero_le _, cl_97x hl (by omega) hx ⟨fun _ => ⟨0, Nat.zero_le _, cl_94 (th := 0) hl (by omega) (y := 1) rfl hq⟩, fun q => absurd rfl q⟩⟩)
theorem cl_142y (hl : l.stackTraces = false) (hd : 38 ≤ d) (hst : st < 4) (hly : ly < 4) (hld : ld < 4) (hdl : dl < 4) (hn : n ≤ 1000) {c : Nat} (hc : c < 32) (hx : ¬ (st = 2 ∧ bt (h ((ld + ly) % 4)) c = true)) (hq : Q (.inl (some (Value.int 0))) (wm x0 x1 x2 x3 x4 x5 x6 x7 x8 x9 x10 x11 x12 2 st dl sz h n bq lv tr dc ti tc T ld ly K V I tk sc dn R e5 eo r)) : am_Call l d 142 k [.ref 13, .int (nI c)] (wm x0 x1 x2 x3 x4 x5 x6 x7 x8 x9 x10 x11 x12 th st dl sz h n bq lv tr dc ti tc T ld ly K V I tk sc dn R e5 eo r) Q := by
  have hp : (ld + ly) % 4 < 4 := Nat.mod_lt _ (by omega)
  refine op_142 hl (by omega) (Nat.le_of_ble_eq_true rfl) (fun J hJ => ?_)
  have s38 : J k 38 [some (Value.ref 13), some (Value.int (nI c))] [] (wm x0 x1 x2 x3 x4 x5 x6 x7 x8 x9 x10 x11 x12 0 st dl sz h n bq lv tr dc ti tc T ld ly K V I tk sc dn R e5 eo r) := hJ [] 100 _ _ _ _ _ ⟨0, Nat.zero_le _, cl_94 (th := 0) hl (by omega) (y := 2) rfl hq⟩
  exact hJ [38] 100 _ _ _ _ _ ⟨0, Nat.zero_le _, cl_97 hl (by omega) hc ⟨fun q => absurd q (by decide), fun _ => beq (a := st) (b := 2) (by omega) (by omega) (fun q => ⟨0, Nat.zero_le _, cl_115 (th := 0) hl (by omega) hst hdl (by omega) hld hly ⟨0, Nat.zero_le _, am_ca (congrArg (fun x => [Value.ref 13, Value.int x, Value.int (nI c)]) (show turnV st ((ld + ly) % 4) dl n = nI ((ld + ly) % 4) from by rw [q]; rfl)) (cl_98 (th := 0) hl (by omega) hp hc (bz (fun _ => s38) (fun g => absurd ⟨q, g⟩ hx)))⟩⟩) (fun _ => s38)⟩⟩
set_option maxRecDepth 20000 in
theorem cl_145x (hl : l.stackTraces = false) (hd : 4 ≤ d) {x : Int32} (hx : NR x 32) (hq : Q (.inl (some (Value.int 0))) (wm x0 x1 x2 x3 x4 x5 x6 x7 x8 x9 x10 x11 x12 1 st dl sz h n bq lv tr dc ti tc T ld ly K V I tk sc dn R e5 eo r)) : am_Call l d 145 k [.ref 13, .int x] (wm x0 x1 x2 x3 x4 x5 x6 x7 x8 x9 x10 x11 x12 th st dl sz h n bq lv tr dc ti tc T ld ly K V I tk sc dn R e5 eo r) Q :=
  op_145 hl (by omega) (Nat.le_of_ble_eq_true rfl) (fun J hJ => hJ [] 100 _ _ _ _ _ ⟨0, Nat.zero_le _, cl_97x hl (by omega) hx ⟨fun _ => ⟨0, Nat.zero_le _, cl_94 (th := 0) hl (by omega) (y := 1) rfl hq⟩, fun q => absurd rfl q⟩⟩)
theorem cl_145y (hl : l.stackTraces = false) (hd : 4 ≤ d) (hst : st < 4) (hly : ly < 4) (hld : ld < 4) (hdl : dl < 4) (hn : n ≤ 1000) {c : Nat} (hc : c < 32) (hx : ¬ (st = 2 ∧ bt (h ((ld + ly) % 4)) c = true)) (hq : Q (.inl (some (Value.int 0))) (wm x0 x1 x2 x3 x4 x5 x6 x7 x8 x9 x10 x11 x12 2 st dl sz h n bq lv tr dc ti tc T ld ly K V I tk sc dn R e5 eo r)) : am_Call l d 145 k [.ref 13, .int (nI c)] (wm x0 x1 x2 x3 x4 x5 x6 x7 x8 x9 x10 x11 x12 th st dl sz h n bq lv tr dc ti tc T ld ly K V I tk sc dn R e5 eo r) Q := by
  have hp : (ld + ly) % 4 < 4 := Nat.mod_lt _ (by omega)
  refine op_145 hl (by omega) (Nat.le_of_ble_eq_true rfl) (fun J hJ => ?_)
  have s38 : J k 38 [some (Value.ref 13), some (Value.int (nI c)), none] [] (wm x0 x1 x2 x3 x4 x5 x6 x7 x8 x9 x10 x11 x12 0 st dl sz h n bq lv tr dc ti tc T ld ly K V I tk sc dn R e5 eo r) := hJ [] 100 _ _ _ _ _ ⟨0, Nat.zero_le _, cl_94 (th := 0) hl (by omega) (y := 2) rfl hq⟩
  exact hJ [38] 100 _ _ _ _ _ ⟨0, Nat.zero_le _, cl_97 hl (by omega) hc ⟨fun q => absurd q (by decide), fun _ => beq (a := st) (b := 2) (by omega) (by omega) (fun q => ⟨0, Nat.zero_le _, cl_115 (th := 0) hl (by omega) hst hdl (by omega) hld hly ⟨0, Nat.zero_le _, am_ca (congrArg (fun x => [Value.ref 13, Value.int x, Value.int (nI c)]) (show turnV st ((ld + ly) % 4) dl n = nI ((ld + ly) % 4) from by rw [q]; rfl)) (cl_98 (th := 0) hl (by omega) hp hc (bz (fun _ => s38) (fun g => absurd ⟨q, g⟩ hx)))⟩⟩) (fun _ => s38)⟩⟩
theorem cl_145 (hl : l.stackTraces = false) (hd : 4 ≤ d) (hk : 1 ≤ k) (h1 : st = 2) (hly : ly < 4) (hld : ld < 4) (hdl : dl < 4) (hn : n ≤ 1000) (htr : tr ≤ 4) (hK : ∀ i, i < ly → K i < 32) {c : Nat} (hc : c < 32) (hbt : bt (h ((ld + ly) % 4)) c = true) (hq : ∀ v, Q (.inl (some (Value.int (takeV ld (uN K ly c) tr (ly + 1))))) (wm x0 x1 x2 x3 x4 x5 x6 x7 x8 x9 x10 x11 x12 0 st dl sz h n bq lv tr dc ti tc T ld ly K V I tk sc dn R e5 eo (r ++ [v]))) : am_Call l d 145 k [.ref 13, .int (nI c)] (wm x0 x1 x2 x3 x4 x5 x6 x7 x8 x9 x10 x11 x12 th st dl sz h n bq lv tr dc ti tc T ld ly K V I tk sc dn R e5 eo r) Q := by
  obtain ⟨k', rfl⟩ : ∃ k', k = k' + 1 := ⟨k - 1, by omega⟩
  have hp4 : (ld + ly) % 4 < 4 := Nat.mod_lt _ (by omega)
  have eT : turnV st ((ld + ly) % 4) dl n = nI ((ld + ly) % 4) := by rw [h1]; rfl
  have ecly : (nI ly).toNatClampNeg = ly := i_cl (by omega)
  refine op_145 hl (by omega) (Nat.le_of_ble_eq_true rfl) (fun J hJ => hJ [44] 100 _ _ _ _ _ ⟨0, Nat.zero_le _, cl_97 hl (by omega) hc ⟨fun q => absurd q (by decide), fun _ => beq (a := st) (b := 2) (by omega) (by omega) (fun _ => ⟨0, Nat.zero_le _, cl_115 (th := 0) hl (by omega) (by omega) hdl (by omega) hld hly ⟨0, Nat.zero_le _, am_ca (congrArg (fun x => [Value.ref 13, Value.int x, Value.int (nI c)]) eT) (cl_98 (th := 0) hl (by omega) hp4 hc (bz (fun q => ?_) (fun _ => ?_)))⟩⟩) (fun q => absurd h1 q)⟩⟩)
  · rw [hbt] at q
    cases q
  · refine hJ [47] 100 _ _ _ _ _ ⟨4, rfl, by omega, (am_app_iff (l := r)).mpr ?_⟩
    refine hJ [59] 100 _ _ _ _ _ ?_
    have hcy : ∀ j, j < 4 → va_cpy (fun i => nI (K i)) (fun _ => 0) (Int32.toNatClampNeg 0) (Int32.toNatClampNeg 0) (nI ly).toNatClampNeg j = nI (if j < ly then K j else 0) := by
      intro j hj
      rw [ecly]
      show (if 0 ≤ j ∧ j < 0 + ly then nI (K (0 + (j - 0))) else 0) = nI (if j < ly then K j else 0)
      by_cases e : j < ly
      · rw [if_pos ⟨Nat.zero_le _, by omega⟩, if_pos e, Nat.sub_zero, Nat.zero_add]
      · rw [if_neg (by omega), if_neg e]
        rfl
    refine hJ [68] 100 _ _ _ _ _ (tl_at (r := r) ⟨⟨by decide, by decide, nI_pos (by omega), ?_, ?_⟩, fun j => nI (if j < ly then K j else 0), hcy, tl_put ?_⟩)
    · rw [ecly]; show 0 + ly ≤ 4; omega
    · rw [ecly]; show 0 + ly ≤ 4; omega
    refine hJ [69] 100 _ _ _ _ _ (tl_at (r := r) ⟨nI_in (by omega) (by omega), tl_put ?_⟩)
    have hagree : ∀ i, i < ly + 1 → uN (fun j => if j < ly then K j else 0) ly c i = uN K ly c i := by
      intro i hi
      show (if i = ly then c else if i < ly then K i else 0) = if i = ly then c else K i
      by_cases e : i = ly
      · rw [if_pos e, if_pos e]
      · rw [if_neg e, if_neg e, if_pos (by omega)]
    have hlt : ∀ i, i < ly + 1 → uN (fun j => if j < ly then K j else 0) ly c i < 32 := by
      intro i hi
      rw [hagree i hi]
      show (if i = ly then c else K i) < 32
      split
      · exact hc
      · exact hK i (by omega)
    refine am_jw (J := J) (w' := (wm x0 x1 x2 x3 x4 x5 x6 x7 x8 x9 x10 x11 x12 0 st dl sz h n bq lv tr dc ti tc T ld ly K V I tk sc dn R e5 eo (r ++ [.inl (0, 4, .inl (fun i => nI (uN (fun j => if j < ly then K j else 0) ly c i)))]))) rfl rfl (by rw [uN_up (f := fun j => if j < ly then K j else 0) (by omega)]; rfl) ?_
    refine hJ [] 100 _ _ _ _ _ ⟨0, Nat.zero_le _, am_ca (as' := [Value.ref (r.length + 29), Value.int (nI (ly + 1)), Value.int (nI ld), Value.int (nI tr)]) (by dsimp only; rw [nI_1]) (cl_121 (K := uN (fun j => if j < ly then K j else 0) ly c) hl (by omega) ?_ (by omega) hlt hld htr ?_)⟩
    · show (r ++ [_])[r.length]? = _
      simp
    · have e : takeV ld (uN (fun j => if j < ly then K j else 0) ly c) tr (ly + 1) = takeV ld (uN K ly c) tr (ly + 1) := by
        rw [takeV, takeV, BI_cong hagree]
      rw [e]
      exact hq _
theorem cl_146x (hl : l.stackTraces = false) (hd : 2 ≤ d) {x : Int32} (hx : NR x 9) (hq : Q (.inl (some (Value.int 0))) (wm x0 x1 x2 x3 x4 x5 x6 x7 x8 x9 x10 x11 x12 1 st dl sz h n bq lv tr dc ti tc T ld ly K V I tk sc dn R e5 eo r)) : am_Call l d 146 k [.ref 13, .int x] (wm x0 x1 x2 x3 x4 x5 x6 x7 x8 x9 x10 x11 x12 th st dl sz h n bq lv tr dc ti tc T ld ly K V I tk sc dn R e5 eo r) Q := by
  refine op_146 hl (by omega) (Nat.le_of_ble_eq_true rfl) (fun J hJ => ?_)
  have s15 : J k 15 [some (Value.ref 13), some (Value.int x), none] [] (wm x0 x1 x2 x3 x4 x5 x6 x7 x8 x9 x10 x11 x12 0 st dl sz h n bq lv tr dc ti tc T ld ly K V I tk sc dn R e5 eo r) := hJ [] 100 _ _ _ _ _ ⟨0, Nat.zero_le _, cl_94 (th := 0) hl (by omega) (y := 1) rfl hq⟩
  exact hJ [15] 100 _ _ _ _ _ ⟨0, Nat.zero_le _, cl_95x (n := 8) hl (by omega) (by omega) hx ⟨fun _ => s15, fun q => absurd rfl q⟩⟩
theorem cl_146y (hl : l.stackTraces = false) (hd : 2 ≤ d) (hsz : sz ≤ 8) {f : Nat} (hf : f < 9) (hx : lv = -1 ∨ sz < f) (hq : Q (.inl (some (Value.int 0))) (wm x0 x1 x2 x3 x4 x5 x6 x7 x8 x9 x10 x11 x12 2 st dl sz h n bq lv tr dc ti tc T ld ly K V I tk sc dn R e5 eo r)) : am_Call l d 146 k [.ref 13, .int (nI f)] (wm x0 x1 x2 x3 x4 x5 x6 x7 x8 x9 x10 x11 x12 th st dl sz h n bq lv tr dc ti tc T ld ly K V I tk sc dn R e5 eo r) Q := by
  refine op_146 hl (by omega) (Nat.le_of_ble_eq_true rfl) (fun J hJ => ?_)
  have s37 : J k 37 [some (Value.ref 13), some (Value.int (nI f)), none] [] (wm x0 x1 x2 x3 x4 x5 x6 x7 x8 x9 x10 x11 x12 0 st dl sz h n bq lv tr dc ti tc T ld ly K V I tk sc dn R e5 eo r) := hJ [] 100 _ _ _ _ _ ⟨0, Nat.zero_le _, cl_94 (th := 0) hl (by omega) (y := 2) rfl hq⟩
  refine hJ [37] 100 _ _ _ _ _ ⟨0, Nat.zero_le _, cl_95n (lo := 0) (hi := 8) hl (by omega) (by omega) (by omega) (by omega) (bz (fun q => absurd (of_decide_eq_false q) (by omega)) (fun _ => ⟨fun _ => s37, fun q => ble (a := f) (b := sz) (by omega) (by omega) (fun q2 => ?_) (fun _ => s37)⟩))⟩
  rcases hx with e | e
  · exact absurd e q
  · exact absurd e (by omega)
theorem cl_146 (hl : l.stackTraces = false) (hd : 2 ≤ d) (hk : 1 ≤ k) (hsz : sz ≤ 8) {lvl f : Nat} (hlv : lv = nI lvl) (hl8 : lvl ≤ 8) (hf : f ≤ sz) (htr : tr ≤ 4) (hti : ti ≤ 4) (hdc : dc < 4) (hq : ∀ v, Q (.inl (some (Value.int (wscV ti lvl tr sz dc f)))) (wm x0 x1 x2 x3 x4 x5 x6 x7 x8 x9 x10 x11 x12 0 st dl sz h n bq lv tr dc ti tc T ld ly K V I tk sc dn R e5 eo (r ++ [v]))) : am_Call l d 146 k [.ref 13, .int (nI f)] (wm x0 x1 x2 x3 x4 x5 x6 x7 x8 x9 x10 x11 x12 th st dl sz h n bq lv tr dc ti tc T ld ly K V I tk sc dn R e5 eo r) Q := by
  have e2 : nI dc - nI dc / 2 * 2 = nI (dc % 2) := pk_rem (d := 2) (by omega) (by omega) (by omega)
  refine op_146 hl (by omega) (Nat.le_of_ble_eq_true rfl) (fun J hJ => ?_)
  have s63 : ∀ t, t = (if dc % 2 = 0 then f else sz - f) → J k 63 [some (Value.ref 13), some (Value.int (nI f)), none] [Value.int (nI t), Value.ref 13] (wm x0 x1 x2 x3 x4 x5 x6 x7 x8 x9 x10 x11 x12 0 st dl sz h n bq lv tr dc ti tc T ld ly K V I tk sc dn R e5 eo r) := by
    intro t ht
    have ht8 : t ≤ 8 := by rw [ht]; split <;> omega
    refine hJ [69] 100 _ _ _ _ _ ⟨1, hk, cl_123 (th := 0) hl (by omega) (Nat.le_refl _) hlv hl8 ht8 htr hti hdc ?_⟩
    refine hJ [72] 100 _ _ _ _ _ (tl_at (r := r) ⟨nI_in (c := 0) (by omega) (by omega), ?_⟩)
    refine hJ [] 100 _ _ _ _ _ (tl_at (r := r) ⟨nI_in (c := 1) (by omega) (by omega), ?_⟩)
    have hq1 := hq (.inl (0, 2, .inl (mdF ti lvl tr (dc % 2) t)))
    rw [← ws_md, ← ht] at hq1
    exact hq1
  refine hJ [63] 100 _ _ _ _ _ ⟨0, Nat.zero_le _, cl_95n (lo := 0) (hi := 8) hl (by omega) (by omega) (by omega) (by omega) (bz (fun q => absurd (of_decide_eq_false q) (by omega)) (fun _ => ⟨fun q => absurd (hlv.symm.trans q) (nI_m1 (by omega)), fun _ => ble (a := f) (b := sz) (by omega) (by omega) (fun _ => ⟨by decide, beqx (a := dc % 2) (b := 0) e2 rfl (by omega) (by omega) (fun q => s63 f (if_pos q).symm) (fun q => ?_)⟩) (fun q => absurd q (by omega))⟩))⟩
  exact am_jw (J := J) rfl (congrArg (fun x => [Value.int x, Value.ref 13]) (show nI sz - nI f = nI (sz - f) from pk_sub hf)) rfl (s63 (sz - f) (if_neg q).symm)
theorem cl_133 (hl : l.stackTraces = false) (hd : 1 ≤ d) (hq : Q (.inl (some (Value.double (mnV dn sc)))) (wm x0 x1 x2 x3 x4 x5 x6 x7 x8 x9 x10 x11 x12 0 st dl sz h n bq lv tr dc ti tc T ld ly K V I tk sc dn R e5 eo r)) : am_Call l d 133 k [.ref 13] (wm x0 x1 x2 x3 x4 x5 x6 x7 x8 x9 x10 x11 x12 th st dl sz h n bq lv tr dc ti tc T ld ly K V I tk sc dn R e5 eo r) Q := by
  refine op_133 hl (by omega) (Nat.le_of_ble_eq_true rfl) (fun J hJ => hJ [] 100 _ _ _ _ _ ⟨fun q => ?_, fun q => ⟨nI_in (c := 0) (by omega) (by omega), nI_in (c := 1) (by omega) (by omega), fq_ddiv _ _ q, ?_⟩⟩)
  · rw [mnV, if_pos q] at hq
    exact hq
  · rw [mnV, if_neg q] at hq
    exact hq
end
