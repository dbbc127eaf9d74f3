/-! contracts: the model, sixth part: play; the best play -/
theorem wv_cong {n : Nat} {h : Nat → Int32} {m : Nat} {row row' : Nat → Nat} {f t c : Nat} (hm : m < 4) (hr : ∀ k, k < m → row k = row' k) : wv n h m row f t c = wv n h m row' f t c := by
  have hw : ∀ k, k < m + 1 → uN row m c k = uN row' m c k := by
    intro k hk
    show (if k = m then c else row k) = if k = m then c else row' k
    by_cases e : k = m
    · rw [if_pos e, if_pos e]
    · rw [if_neg e, if_neg e, hr k (by omega)]
  unfold wv
  by_cases h3 : m = 3
  · rw [if_pos h3, if_pos h3]
    have eb : BI (uN row m c) t 4 = BI (uN row' m c) t 4 := BI_cong (fun i hi => hw i (by omega))
    rw [eb, vl_cong (n := n) (m := 0) (by omega) (fun p _ => rfl) (fun k hk => absurd hk (Nat.not_lt_zero k)) (row := uN row m c) (row' := uN row' m c)]
  · rw [if_neg h3, if_neg h3]
    exact vl_cong (n := n) (by omega) (fun p _ => rfl) hw
theorem wv_le {n : Nat} {h : Nat → Int32} {m : Nat} {row : Nat → Nat} {f t c : Nat} (hm : m < 4) : wv n h m row f t c ≤ n + 4 := by
  unfold wv
  split
  · have := vl_le (n := n) (h := upd h ((f + m) % 4) (sDel (h ((f + m) % 4)) c)) (m := 0) (row := uN row m c) (f := (f + BI (uN row m c) t 4) % 4) (t := t) (by omega)
    omega
  · have := vl_le (n := n) (h := upd h ((f + m) % 4) (sDel (h ((f + m) % 4)) c)) (m := m + 1) (row := uN row m c) (f := f) (t := t) (by omega)
    omega
def uR (R : Nat → Nat → Nat) (deep m c : Nat) : Nat → Nat → Nat := fun j => if j = deep then uN (R j) m c else R j
theorem uR_s (R : Nat → Nat → Nat) (deep m c : Nat) : uR R deep m c deep = uN (R deep) m c := if_pos rfl
theorem uR_n (R : Nat → Nat → Nat) (m c : Nat) {deep j : Nat} (h : j ≠ deep) : uR R deep m c j = R j := if_neg h
def bal2 (h : Nat → Int32) (f m kp : Nat) : Prop := ∀ p, p < 4 → pc (h p) + (if (p + 4 - f) % 4 < m then 1 else 0) = kp
theorem bal2_tu {h : Nat → Int32} {f m kp : Nat} (hb : bal2 h f m kp) (hf : f < 4) (hm : m < 4) : pc (h ((f + m) % 4)) = kp := by
  have := hb ((f + m) % 4) (Nat.mod_lt _ (by omega))
  rw [if_neg (by omega)] at this
  exact this
theorem bal2_step {h : Nat → Int32} {f m kp cd B : Nat} (hb : bal2 h f m kp) (hf : f < 4) (hm : m < 4) (hcd : cd < 32) (hbt : bt (h ((f + m) % 4)) cd = true) : bal2 (upd h ((f + m) % 4) (sDel (h ((f + m) % 4)) cd)) (if m = 3 then B else f) (if m = 3 then 0 else m + 1) (if m = 3 then kp - 1 else kp) := by
  intro p hp
  have hpc := pc_del hcd hbt
  have htu := bal2_tu hb hf hm
  have h1 := hb p hp
  by_cases e : m = 3
  · rw [if_pos e, if_pos e, if_pos e, if_neg (Nat.not_lt_zero _)]
    by_cases ep : p = (f + m) % 4
    · rw [ep, up_s]; omega
    · rw [up_n _ _ ep]
      rw [if_pos (by omega)] at h1
      omega
  · rw [if_neg e, if_neg e, if_neg e]
    by_cases ep : p = (f + m) % 4
    · rw [ep, up_s, if_pos (by omega)]; omega
    · rw [up_n _ _ ep]
      by_cases e6 : (p + 4 - f) % 4 < m
      · rw [if_pos e6] at h1
        rw [if_pos (by omega)]
        exact h1
      · rw [if_neg e6] at h1
        rw [if_neg (by omega)]
        exact h1
def encO (o : Option Nat) : Int32 := match o with
  | none => -1
  | some b => nI b
theorem rs_sub {h : Nat → Int32} {row : Nat → Nat} {m p c : Nat} (hb : bt (rsS h row m p) c = true) : bt (h p) c = true := by
  unfold rsS at hb
  split at hb
  · exact hb
  · split at hb
    · exact hb
    · rw [b_and, Bool.and_eq_true] at hb
      exact hb.1
theorem opF_skip {p : Nat} {S : Int32} {v : Nat → Nat} {i : Nat} : ∀ {j : Nat}, (∀ c, i ≤ c → c < i + j → bt S c = false) → opF p S v (i + j) = opF p S v i
  | 0, _ => rfl
  | j + 1, h => by
    rw [show i + (j + 1) = (i + j) + 1 by omega, opF_s, h (i + j) (by omega) (by omega)]
    exact opF_skip (j := j) (fun c h1 h2 => h c h1 (by omega))
theorem nI_m1 {b : Nat} (hb : b < 2 ^ 31) : ¬ nI b = -1 := fun e => nI_pos hb (by rw [e]; decide)
theorem rows_i {i : Nat} (hi : i < 5) : am_rows 22 (nI i).toNatClampNeg = 23 + i := by
  rw [i_cl (by omega)]
  show (if i < 5 then 22 + 1 + i else 22) = 23 + i
  rw [if_pos hi]
section
variable {l : Launch} {d k : Nat} {Q : am_Q} {x0 x1 x2 x3 x4 x5 x6 x7 x8 x9 x10 x11 x12 : am_E} {th st dl sz : Nat} {h : Nat → Int32} {n bq : Nat} {lv : Int32} {tr dc ti tc : Nat} {T : Nat → Nat} {ld ly : Nat} {K V : Nat → Nat} {I : Nat → Bool} {tk : Nat → Nat} {sc : Nat → Int32} {dn : Int32} {R : Nat → Nat → Nat} {e5 eo : am_E} {r : am_M} {N : Nat} {bm : Nat → Nat}
theorem row_at {i : Nat} (hi : i < 5) : (wm x0 x1 x2 x3 x4 x5 x6 x7 x8 x9 x10 x11 x12 th st dl sz h n bq lv tr dc ti tc T ld ly K V I tk sc dn R e5 eo r)[23 + i]? = some (.inl (0, 4, .inl (fun j => nI (R i j)))) := by
  have : i = 0 ∨ i = 1 ∨ i = 2 ∨ i = 3 ∨ i = 4 := by omega
  rcases this with rfl | rfl | rfl | rfl | rfl <;> rfl
theorem row_st {i m c : Nat} (hi : i < 5) {kk : am_M → Prop} (hk : kk (wm x0 x1 x2 x3 x4 x5 x6 x7 x8 x9 x10 x11 x12 th st dl sz h n bq lv tr dc ti tc T ld ly K V I tk sc dn (uR R i m c) e5 eo r)) : am_put (wm x0 x1 x2 x3 x4 x5 x6 x7 x8 x9 x10 x11 x12 th st dl sz h n bq lv tr dc ti tc T ld ly K V I tk sc dn R e5 eo r) (23 + i) (.inl (0, 4, .inl (fun j => nI (uN (R i) m c j)))) kk := by
  have : i = 0 ∨ i = 1 ∨ i = 2 ∨ i = 3 ∨ i = 4 := by omega
  rcases this with rfl | rfl | rfl | rfl | rfl <;> exact hk
theorem cl_125a (hl : l.stackTraces = false) (hd : 4 ≤ d) (h1 : st = 2) (hly : ly < 4) (hld : ld < 4) (hdl : dl < 4) (hn : n ≤ 1000) {c : Nat} (hc : c < 32) (hb : bt (h ((ld + ly) % 4)) c = true) (hK0 : ly ≠ 0 → K 0 < 32) {b : Bool} (hbb : b = !rnV (h ((ld + ly) % 4)) c K ly)
    (hok : ∀ J : am_K, (∀ (stop : List Nat) (n k pc : Nat) (ls : am_L) (st : am_S) (w : am_M), am_run (tb_125 (am_Call l (d - 1)) Q) J stop n k pc ls st w → J k pc ls st w) → J k 139 [some (Value.ref 13), some (Value.int (nI c)), some (Value.int (nI ((ld + ly) % 4))), none, none] [] (wm x0 x1 x2 x3 x4 x5 x6 x7 x8 x9 x10 x11 x12 0 st dl sz (upd h ((ld + ly) % 4) (sDel (h ((ld + ly) % 4)) c)) n bq lv tr dc ti tc T ld (ly + 1) (uN K ly c) (uN V ((ld + ly) % 4) (V ((ld + ly) % 4) + b2n b)) (uB I ly b) tk sc dn R e5 eo r)) : am_Call l d 125 k [.ref 13, .int (nI c)] (wm x0 x1 x2 x3 x4 x5 x6 x7 x8 x9 x10 x11 x12 th st dl sz h n bq lv tr dc ti tc T ld ly K V I tk sc dn R e5 eo r) Q := by
  subst h1
  have hp : (ld + ly) % 4 < 4 := Nat.mod_lt _ (by omega)
  have eclp : (nI ((ld + ly) % 4)).toNatClampNeg = (ld + ly) % 4 := i_cl (by omega)
  have ecly : (nI ly).toNatClampNeg = ly := i_cl (by omega)
  refine op_125 hl (by omega) (Nat.le_of_ble_eq_true rfl) (fun J hJ => ?_)
  have s110 : J k 110 [some (Value.ref 13), some (Value.int (nI c)), some (Value.int (nI ((ld + ly) % 4))), none, none] [] (wm x0 x1 x2 x3 x4 x5 x6 x7 x8 x9 x10 x11 x12 0 2 dl sz h n bq lv tr dc ti tc T ld ly K (uN V ((ld + ly) % 4) (V ((ld + ly) % 4) + b2n b)) (uB I ly b) tk sc dn R e5 eo r) := by
    refine hJ [122] 100 _ _ _ _ _ ⟨nI_in (by omega) (by omega), nI_in (by omega) (by omega), ?_⟩
    refine am_jw (J := J) (w' := (wm x0 x1 x2 x3 x4 x5 x6 x7 x8 x9 x10 x11 x12 0 2 dl sz (upd h ((ld + ly) % 4) (sDel (h ((ld + ly) % 4)) c)) n bq lv tr dc ti tc T ld ly K (uN V ((ld + ly) % 4) (V ((ld + ly) % 4) + b2n b)) (uB I ly b) tk sc dn R e5 eo r)) rfl rfl (by dsimp only; rw [eclp, s_xor hc hb]; rfl) ?_
    refine hJ [139] 100 _ _ _ _ _ ⟨nI_in (by omega) (by omega), ?_⟩
    refine am_jw (J := J) rfl rfl ?_ (hok J hJ)
    dsimp only
    rw [ecly, uN_i, nI_1]
    rfl
  have s83 : J k 83 [some (Value.ref 13), some (Value.int (nI c)), some (Value.int (nI ((ld + ly) % 4))), none, none] [Value.int (bI b), Value.int (nI ly), Value.ref 19] (wm x0 x1 x2 x3 x4 x5 x6 x7 x8 x9 x10 x11 x12 0 2 dl sz h n bq lv tr dc ti tc T ld ly K V I tk sc dn R e5 eo r) := by
    refine hJ [84] 100 _ _ _ _ _ ⟨nI_in (by omega) (by omega), ?_⟩
    refine am_jw (J := J) (w' := (wm x0 x1 x2 x3 x4 x5 x6 x7 x8 x9 x10 x11 x12 0 2 dl sz h n bq lv tr dc ti tc T ld ly K V (uB I ly b) tk sc dn R e5 eo r)) rfl rfl (by rw [uB_up (by omega)]; rfl) ?_
    have s108 : J k 108 [some (Value.ref 13), some (Value.int (nI c)), some (Value.int (nI ((ld + ly) % 4))), none, none] [Value.int (nI (b2n b)), Value.int (nI (V ((ld + ly) % 4))), Value.int (nI ((ld + ly) % 4)), Value.ref 18] (wm x0 x1 x2 x3 x4 x5 x6 x7 x8 x9 x10 x11 x12 0 2 dl sz h n bq lv tr dc ti tc T ld ly K V (uB I ly b) tk sc dn R e5 eo r) := by
      refine hJ [110] 100 _ _ _ _ _ ⟨nI_in (by omega) (by omega), ?_⟩
      refine am_jw (J := J) rfl rfl ?_ s110
      dsimp only
      rw [eclp, nI_add, uN_i]
      rfl
    have eI : (fun i => bI (uB I ly b i)) (nI ly).toNatClampNeg = bI b := by
      show bI (uB I ly b (nI ly).toNatClampNeg) = bI b
      rw [ecly]
      exact congrArg bI (if_pos rfl)
    refine hJ [108] 100 _ _ _ _ _ ⟨nI_in (by omega) (by omega), nI_in (by omega) (by omega), bzx (b := b) eI (fun g => ?_) (fun g => ?_)⟩
    · rw [g] at s108
      rw [g]
      exact am_jw (J := J) rfl (congrArg (fun i => [Value.int (nI 0), Value.int (nI (V i)), Value.int (nI ((ld + ly) % 4)), Value.ref 18]) eclp) rfl s108
    · rw [g] at s108
      rw [g]
      exact am_jw (J := J) rfl (congrArg (fun i => [Value.int (nI 1), Value.int (nI (V i)), Value.int (nI ((ld + ly) % 4)), Value.ref 18]) eclp) rfl s108
  have s44 : J k 44 [some (Value.ref 13), some (Value.int (nI c)), none, none, none] [] (wm x0 x1 x2 x3 x4 x5 x6 x7 x8 x9 x10 x11 x12 0 2 dl sz h n bq lv tr dc ti tc T ld ly K V I tk sc dn R e5 eo r) := by
    refine hJ [48] 100 _ _ _ _ _ ⟨0, Nat.zero_le _, cl_115 (th := 0) (st := 2) hl (by omega) (by omega) hdl (by omega) hld hly ?_⟩
    rw [show turnV 2 ((ld + ly) % 4) dl n = nI ((ld + ly) % 4) from rfl]
    refine hJ [83] 100 _ _ _ _ _ ⟨nI_in (by omega) (by omega), 0, Nat.zero_le _, am_ca (congrArg (fun i => [Value.int (h i), Value.int (nI c), Value.ref 17, Value.int (nI ly)]) eclp) (cl_122 hl (by omega) (K := K) rfl hc (by omega) hK0 (bz (fun g => ?_) (fun g => ?_)))⟩
    · rw [g] at hbb
      rw [hbb] at s83
      exact s83
    · rw [g] at hbb
      rw [hbb] at s83
      exact s83
  refine hJ [44] 100 _ _ _ _ _ ⟨0, Nat.zero_le _, cl_97 hl (by omega) hc ⟨fun q => absurd q (by decide), fun _ => ⟨fun _ => ⟨0, Nat.zero_le _, cl_115 (th := 0) (st := 2) hl (by omega) (by omega) hdl (by omega) hld hly ⟨0, Nat.zero_le _, am_ca (congrArg (fun x => [Value.ref 13, Value.int x, Value.int (nI c)]) (show turnV 2 ((ld + ly) % 4) dl n = nI ((ld + ly) % 4) from rfl)) (cl_98 (th := 0) (st := 2) hl (by omega) hp hc (bz (fun g => ?_) (fun _ => s44)))⟩⟩, fun q => absurd rfl q⟩⟩⟩
  rw [hb] at g
  cases g
set_option maxRecDepth 20000 in
theorem cl_125x (hl : l.stackTraces = false) (hd : 4 ≤ d) {x : Int32} (hx : NR x 32) (hq : Q (.inl (some (Value.int 0))) (wm x0 x1 x2 x3 x4 x5 x6 x7 x8 x9 x10 x11 x12 1 st dl sz h n bq lv tr dc ti tc T ld ly K V I tk sc dn R e5 eo r)) : am_Call l d 125 k [.ref 13, .int x] (wm x0 x1 x2 x3 x4 x5 x6 x7 x8 x9 x10 x11 x12 th st dl sz h n bq lv tr dc ti tc T ld ly K V I tk sc dn R e5 eo r) Q := by
  refine op_125 hl (by omega) (Nat.le_of_ble_eq_true rfl) (fun J hJ => ?_)
  have s12 : J k 12 [some (Value.ref 13), some (Value.int x), none, none, none] [] (wm x0 x1 x2 x3 x4 x5 x6 x7 x8 x9 x10 x11 x12 0 st dl sz h n bq lv tr dc ti tc T ld ly K V I tk sc dn R e5 eo r) := hJ [] 100 _ _ _ _ _ ⟨0, Nat.zero_le _, cl_94 (th := 0) hl (by omega) (y := 1) rfl hq⟩
  exact hJ [12] 100 _ _ _ _ _ ⟨0, Nat.zero_le _, cl_97x hl (by omega) hx ⟨fun _ => s12, fun q => absurd rfl q⟩⟩
theorem cl_125y (hl : l.stackTraces = false) (hd : 4 ≤ d) (hst : st < 4) (hly : ly < 4) (hld : ld < 4) (hdl : dl < 4) (hn : n ≤ 1000) {c : Nat} (hc : c < 32) (hx : ¬ (st = 2 ∧ bt (h ((ld + ly) % 4)) c = true)) (hq : Q (.inl (some (Value.int 0))) (wm x0 x1 x2 x3 x4 x5 x6 x7 x8 x9 x10 x11 x12 2 st dl sz h n bq lv tr dc ti tc T ld ly K V I tk sc dn R e5 eo r)) : am_Call l d 125 k [.ref 13, .int (nI c)] (wm x0 x1 x2 x3 x4 x5 x6 x7 x8 x9 x10 x11 x12 th st dl sz h n bq lv tr dc ti tc T ld ly K V I tk sc dn R e5 eo r) Q := by
  have hp : (ld + ly) % 4 < 4 := Nat.mod_lt _ (by omega)
  refine op_125 hl (by omega) (Nat.le_of_ble_eq_true rfl) (fun J hJ => ?_)
  have s38 : J k 38 [some (Value.ref 13), some (Value.int (nI c)), none, none, none] [] (wm x0 x1 x2 x3 x4 x5 x6 x7 x8 x9 x10 x11 x12 0 st dl sz h n bq lv tr dc ti tc T ld ly K V I tk sc dn R e5 eo r) := hJ [] 100 _ _ _ _ _ ⟨0, Nat.zero_le _, cl_94 (th := 0) hl (by omega) (y := 2) rfl hq⟩
  exact hJ [38] 100 _ _ _ _ _ ⟨0, Nat.zero_le _, cl_97 hl (by omega) hc ⟨fun q => absurd q (by decide), fun _ => beq (a := st) (b := 2) (by omega) (by omega) (fun q => ⟨0, Nat.zero_le _, cl_115 (th := 0) hl (by omega) hst hdl (by omega) hld hly ⟨0, Nat.zero_le _, am_ca (congrArg (fun x => [Value.ref 13, Value.int x, Value.int (nI c)]) (show turnV st ((ld + ly) % 4) dl n = nI ((ld + ly) % 4) from by rw [q]; rfl)) (cl_98 (th := 0) hl (by omega) hp hc (bz (fun _ => s38) (fun g => absurd ⟨q, g⟩ hx)))⟩⟩) (fun _ => s38)⟩⟩
theorem cl_125 (hl : l.stackTraces = false) (hd : 4 ≤ d) (h1 : st = 2) (hly : ly < 3) (hld : ld < 4) (hdl : dl < 4) (hn : n ≤ 1000) {c : Nat} (hc : c < 32) (hb : bt (h ((ld + ly) % 4)) c = true) (hK0 : ly ≠ 0 → K 0 < 32) {b : Bool} (hbb : b = !rnV (h ((ld + ly) % 4)) c K ly)
    (hq : Q (.inl (some (Value.int (nI ((ld + (ly + 1)) % 4))))) (wm x0 x1 x2 x3 x4 x5 x6 x7 x8 x9 x10 x11 x12 0 st dl sz (upd h ((ld + ly) % 4) (sDel (h ((ld + ly) % 4)) c)) n bq lv tr dc ti tc T ld (ly + 1) (uN K ly c) (uN V ((ld + ly) % 4) (V ((ld + ly) % 4) + b2n b)) (uB I ly b) tk sc dn R e5 eo r)) : am_Call l d 125 k [.ref 13, .int (nI c)] (wm x0 x1 x2 x3 x4 x5 x6 x7 x8 x9 x10 x11 x12 th st dl sz h n bq lv tr dc ti tc T ld ly K V I tk sc dn R e5 eo r) Q := by
  refine cl_125a hl hd h1 (by omega) hld hdl hn hc hb hK0 hbb (fun J hJ => hJ [] 100 _ _ _ _ _ (ble (a := 4) (b := ly + 1) (by omega) (by omega) (fun g => absurd g (by omega)) (fun _ => ⟨0, Nat.zero_le _, cl_115 (th := 0) (ly := ly + 1) hl (by omega) (by omega) hdl (by omega) hld (by omega) ?_⟩)))
  rw [show turnV st ((ld + (ly + 1)) % 4) dl n = nI ((ld + (ly + 1)) % 4) from by rw [h1]; rfl]
  exact hq
/-- behind a TRICK's end -/
theorem cl_125b (hl : l.stackTraces = false) (hd : 4 ≤ d) (h1 : st = 2) (hly : ly = 3) (hld : ld < 4) (hdl : dl < 4) (hn : n ≤ 1000) {c : Nat} (hc : c < 32) (hb : bt (h ((ld + ly) % 4)) c = true) (hK : ∀ i, i < ly → K i < 32) (htr : tr ≤ 4) (htc : tc < 8) (htk : tk 0 + tk 1 ≤ 8) {b : Bool} (hbb : b = !rnV (h ((ld + ly) % 4)) c K ly) {B : Nat} (hB : B = (ld + BI (uN K ly c) tr 4) % 4)
    (hok : ∀ J : am_K, (∀ (stop : List Nat) (n k pc : Nat) (ls : am_L) (st : am_S) (w : am_M), am_run (tb_125 (am_Call l (d - 1)) Q) J stop n k pc ls st w → J k pc ls st w) → ∀ T' o4, (∀ x, x < 6 * tc → T' x = T x) → T' (6 * tc) = ld → T' (6 * tc + 1) = B → (∀ e, e < 4 → T' (6 * tc + 2 + (ld + e) % 4) = uN K ly c e) → J k 278 [some (Value.ref 13), some (Value.int (nI c)), some (Value.int (nI ((ld + ly) % 4))), some (Value.int (nI B)), o4] [] (wm x0 x1 x2 x3 x4 x5 x6 x7 x8 x9 x10 x11 x12 0 st dl sz (upd h ((ld + ly) % 4) (sDel (h ((ld + ly) % 4)) c)) n bq lv tr dc ti (tc + 1) T' B 0 (uN K ly c) (uN V ((ld + ly) % 4) (V ((ld + ly) % 4) + b2n b)) (uB I ly b) (uN tk (B % 2) (tk (B % 2) + 1)) sc dn R e5 eo r)) : am_Call l d 125 k [.ref 13, .int (nI c)] (wm x0 x1 x2 x3 x4 x5 x6 x7 x8 x9 x10 x11 x12 th st dl sz h n bq lv tr dc ti tc T ld ly K V I tk sc dn R e5 eo r) Q := by
  have hB4 : B < 4 := by rw [hB]; exact Nat.mod_lt _ (by omega)
  have hB2 : B % 2 < 2 := Nat.mod_lt _ (by omega)
  have hK' : ∀ i, i < 4 → uN K ly c i < 32 := by
    intro i hi
    show (if i = ly then c else K i) < 32
    split
    · exact hc
    · exact hK i (by omega)
  have e6 : (6 : Int32) * nI tc = nI (6 * tc) := pk_mul 6 tc
  have e61 : (6 : Int32) * nI tc + 1 = nI (6 * tc + 1) := by rw [e6, nI_1]
  refine cl_125a hl hd h1 (by omega) hld hdl hn hc hb (fun _ => hK 0 (by omega)) hbb (fun J hJ => ?_)
  refine hJ [152] 100 _ _ _ _ _ (ble (a := 4) (b := ly + 1) (by omega) (by omega) (fun _ => ?_) (fun g => absurd g (by omega)))
  refine hJ [168] 100 _ _ _ _ _ ⟨0, Nat.zero_le _, cl_121 (m := 4) (K := uN K ly c) hl (by omega) rfl (by omega) hK' hld htr ?_⟩
  rw [show takeV ld (uN K ly c) tr 4 = nI B from by rw [hB]; rfl]
  refine hJ [185] 100 _ _ _ _ _ ⟨vin e6 (by omega) (by omega), ?_⟩
  refine am_jw (J := J) (w' := (wm x0 x1 x2 x3 x4 x5 x6 x7 x8 x9 x10 x11 x12 0 st dl sz (upd h ((ld + ly) % 4) (sDel (h ((ld + ly) % 4)) c)) n bq lv tr dc ti tc (uN T (6 * tc) ld) ld (ly + 1) (uN K ly c) (uN V ((ld + ly) % 4) (V ((ld + ly) % 4) + b2n b)) (uB I ly b) tk sc dn R e5 eo r)) rfl rfl (by dsimp only; rw [clx e6 (by omega), uN_i]; rfl) ?_
  refine hJ [200] 100 _ _ _ _ _ ⟨vin e61 (by omega) (by omega), ?_⟩
  refine am_jw (J := J) (w' := (wm x0 x1 x2 x3 x4 x5 x6 x7 x8 x9 x10 x11 x12 0 st dl sz (upd h ((ld + ly) % 4) (sDel (h ((ld + ly) % 4)) c)) n bq lv tr dc ti tc (uN (uN T (6 * tc) ld) (6 * tc + 1) B) ld (ly + 1) (uN K ly c) (uN V ((ld + ly) % 4) (V ((ld + ly) % 4) + b2n b)) (uB I ly b) tk sc dn R e5 eo r)) rfl rfl (by dsimp only; rw [clx e61 (by omega), uN_i]; rfl) ?_
  have hL : ∀ j i T', i + j = 4 → (∀ x, x < 6 * tc → T' x = T x) → T' (6 * tc) = ld → T' (6 * tc + 1) = B → (∀ e, e < i → T' (6 * tc + 2 + (ld + e) % 4) = uN K ly c e) → J k 203 [some (Value.ref 13), some (Value.int (nI c)), some (Value.int (nI ((ld + ly) % 4))), some (Value.int (nI B)), some (Value.int (nI i))] [] (wm x0 x1 x2 x3 x4 x5 x6 x7 x8 x9 x10 x11 x12 0 st dl sz (upd h ((ld + ly) % 4) (sDel (h ((ld + ly) % 4)) c)) n bq lv tr dc ti tc T' ld (ly + 1) (uN K ly c) (uN V ((ld + ly) % 4) (V ((ld + ly) % 4) + b2n b)) (uB I ly b) tk sc dn R e5 eo r) := by
    intro j
    induction j with
    | zero =>
      intro i T' hi t1 t2 t3 t4
      have : i = 4 := by omega
      subst this
      have e2 : nI B - nI B / 2 * 2 = nI (B % 2) := pk_rem (d := 2) (by omega) (by omega) (by omega)
      refine hJ [246] 100 _ _ _ _ _ ⟨fun _ => ?_, fun q => absurd (by decide) q⟩
      refine hJ [268] 100 _ _ _ _ _ ⟨by decide, vin e2 hB2 (by omega), vin e2 hB2 (by omega), ?_⟩
      refine am_jw (J := J) (w' := (wm x0 x1 x2 x3 x4 x5 x6 x7 x8 x9 x10 x11 x12 0 st dl sz (upd h ((ld + ly) % 4) (sDel (h ((ld + ly) % 4)) c)) n bq lv tr dc ti (tc + 1) T' ld (ly + 1) (uN K ly c) (uN V ((ld + ly) % 4) (V ((ld + ly) % 4) + b2n b)) (uB I ly b) (uN tk (B % 2) (tk (B % 2) + 1)) sc dn R e5 eo r)) rfl rfl (by dsimp only; rw [clx e2 (by omega), nI_1, nI_1, uN_i]; rfl) ?_
      exact hJ [278] 100 _ _ _ _ _ (hok J hJ T' _ t1 t2 t3 t4)
    | succ j ih =>
      intro i T' hi t1 t2 t3 t4
      have ei : (6 : Int32) * nI tc + 2 + ((nI ld + nI i) - (nI ld + nI i) / 4 * 4) = nI (6 * tc + 2 + (ld + i) % 4) := by
        rw [e6, show nI (6 * tc) + 2 = nI (6 * tc + 2) from nI_add _ 2, nI_add, show nI (ld + i) - nI (ld + i) / 4 * 4 = nI ((ld + i) % 4) from pk_rem (d := 4) (by omega) (by omega) (by omega), nI_add]
      have ecl : (nI i).toNatClampNeg = i := i_cl (by omega)
      refine hJ [203] 100 _ _ _ _ _ (ble (a := 4) (b := i) (by omega) (by omega) (fun q => absurd q (by omega)) (fun _ => ⟨by decide, nI_in (by omega) (by omega), vin ei (by omega) (by omega), ?_⟩))
      refine am_jw (J := J) (congrArg (fun x => [some (Value.ref 13), some (Value.int (nI c)), some (Value.int (nI ((ld + ly) % 4))), some (Value.int (nI B)), some (Value.int x)]) (nI_1 i)) rfl ?_ (ih (i + 1) (uN T' (6 * tc + 2 + (ld + i) % 4) (uN K ly c i)) (by omega) ?_ ?_ ?_ ?_)
      · dsimp only
        rw [clx ei (by omega), ecl, uN_i]
        rfl
      · intro x hx
        rw [uN_n _ _ (by omega)]
        exact t1 x hx
      · rw [uN_n _ _ (by omega)]
        exact t2
      · rw [uN_n _ _ (by omega)]
        exact t3
      · intro e he
        by_cases ee : e = i
        · rw [ee, uN_s]
        · rw [uN_n _ _ (by omega)]
          exact t4 e (by omega)
  refine hJ [203] 100 _ _ _ _ _ (hL 4 0 _ rfl ?_ ?_ ?_ (fun e he => absurd he (Nat.not_lt_zero e)))
  · intro x hx
    rw [uN_n _ _ (by omega), uN_n _ _ (by omega)]
  · rw [uN_n _ _ (by omega), uN_s]
  · rw [uN_s]
theorem cl_125e (hl : l.stackTraces = false) (hd : 4 ≤ d) (h1 : st = 2) (hly : ly = 3) (hld : ld < 4) (hdl : dl < 4) (hn : n ≤ 1000) {c : Nat} (hc : c < 32) (hb : bt (h ((ld + ly) % 4)) c = true) (hK : ∀ i, i < ly → K i < 32) (htr : tr ≤ 4) (htc : tc < 8) (htk : tk 0 + tk 1 ≤ 8) {b : Bool} (hbb : b = !rnV (h ((ld + ly) % 4)) c K ly) {B : Nat} (hB : B = (ld + BI (uN K ly c) tr 4) % 4) (hne : hAll (upd h ((ld + ly) % 4) (sDel (h ((ld + ly) % 4)) c)) ≠ 0)
    (hq : ∀ T', (∀ x, x < 6 * tc → T' x = T x) → T' (6 * tc) = ld → T' (6 * tc + 1) = B → (∀ e, e < 4 → T' (6 * tc + 2 + (ld + e) % 4) = uN K ly c e) → Q (.inl (some (Value.int (nI B)))) (wm x0 x1 x2 x3 x4 x5 x6 x7 x8 x9 x10 x11 x12 0 st dl sz (upd h ((ld + ly) % 4) (sDel (h ((ld + ly) % 4)) c)) n bq lv tr dc ti (tc + 1) T' B 0 (uN K ly c) (uN V ((ld + ly) % 4) (V ((ld + ly) % 4) + b2n b)) (uB I ly b) (uN tk (B % 2) (tk (B % 2) + 1)) sc dn R e5 eo r)) : am_Call l d 125 k [.ref 13, .int (nI c)] (wm x0 x1 x2 x3 x4 x5 x6 x7 x8 x9 x10 x11 x12 th st dl sz h n bq lv tr dc ti tc T ld ly K V I tk sc dn R e5 eo r) Q := by
  have hB4 : B < 4 := by rw [hB]; exact Nat.mod_lt _ (by omega)
  refine cl_125b hl hd h1 hly hld hdl hn hc hb hK htr htc htk hbb hB (fun J hJ T' o4 t1 t2 t3 t4 => hJ [] 100 _ _ _ _ _ ⟨0, Nat.zero_le _, cl_101 (th := 0) (ly := 0) hl (by omega) ⟨fun g => absurd g hne, fun _ => ⟨0, Nat.zero_le _, cl_115 (th := 0) (ly := 0) hl (by omega) (by omega) hdl (by omega) hB4 (by omega) ?_⟩⟩⟩)
  rw [show turnV st ((B + 0) % 4) dl n = nI B from by rw [h1]; show nI ((B + 0) % 4) = nI B; congr 1; omega]
  exact hq T' t1 t2 t3 t4
theorem cl_125f (hl : l.stackTraces = false) (hd : 4 ≤ d) (hk : 1 ≤ k) (h1 : st = 2) (hly : ly = 3) (hld : ld < 4) (hdl : dl < 4) (hn : n ≤ 1000) {c : Nat} (hc : c < 32) (hb : bt (h ((ld + ly) % 4)) c = true) (hK : ∀ i, i < ly → K i < 32) (htr : tr ≤ 4) (htc : tc < 8) (htk : tk 0 + tk 1 ≤ 7) {b : Bool} (hbb : b = !rnV (h ((ld + ly) % 4)) c K ly) {B : Nat} (hB : B = (ld + BI (uN K ly c) tr 4) % 4) (hne : hAll (upd h ((ld + ly) % 4) (sDel (h ((ld + ly) % 4)) c)) = 0) {lvl : Nat} (hlv : lv = nI lvl) (hl8 : lvl ≤ 8) (hti : ti ≤ 4) (hdc : dc < 4) (hV : ∀ p, p < 4 → V p ≤ 99)
    (hq : ∀ T' v, (∀ x, x < 6 * tc → T' x = T x) → T' (6 * tc) = ld → T' (6 * tc + 1) = B → (∀ e, e < 4 → T' (6 * tc + 2 + (ld + e) % 4) = uN K ly c e) → Q (.inl (some (Value.int (-1)))) (wm x0 x1 x2 x3 x4 x5 x6 x7 x8 x9 x10 x11 x12 0 3 dl sz (upd h ((ld + ly) % 4) (sDel (h ((ld + ly) % 4)) c)) n bq lv tr dc ti (tc + 1) T' B 0 (uN K ly c) (uN V ((ld + ly) % 4) (V ((ld + ly) % 4) + b2n b)) (uB I ly b) (payM (uN V ((ld + ly) % 4) (V ((ld + ly) % 4) + b2n b)) (uN tk (B % 2) (tk (B % 2) + 1)) 4) (scN sc (dc % 2) ti lvl tr (payM (uN V ((ld + ly) % 4) (V ((ld + ly) % 4) + b2n b)) (uN tk (B % 2) (tk (B % 2) + 1)) 4 (dc % 2))) (dn + 1) R e5 eo (r ++ [v]))) : am_Call l d 125 k [.ref 13, .int (nI c)] (wm x0 x1 x2 x3 x4 x5 x6 x7 x8 x9 x10 x11 x12 th st dl sz h n bq lv tr dc ti tc T ld ly K V I tk sc dn R e5 eo r) Q := by
  have hB4 : B < 4 := by rw [hB]; exact Nat.mod_lt _ (by omega)
  have hV' : ∀ p, p < 4 → uN V ((ld + ly) % 4) (V ((ld + ly) % 4) + b2n b) p ≤ 100 := by
    intro p hp
    have h2 : b2n b ≤ 1 := by unfold b2n; split <;> omega
    have h3 := hV ((ld + ly) % 4) (Nat.mod_lt _ (by omega))
    show (if p = (ld + ly) % 4 then V ((ld + ly) % 4) + b2n b else V p) ≤ 100
    split
    · omega
    · have := hV p hp; omega
  have hsum : uN tk (B % 2) (tk (B % 2) + 1) 0 + uN tk (B % 2) (tk (B % 2) + 1) 1 = tk 0 + tk 1 + 1 := by
    have : B % 2 = 0 ∨ B % 2 = 1 := by omega
    rcases this with e | e
    · rw [e, uN_s, uN_n _ _ (by omega)]; omega
    · rw [e, uN_s, uN_n _ _ (by omega)]; omega
  refine cl_125b hl hd h1 hly hld hdl hn hc hb hK htr htc (by omega) hbb hB (fun J hJ T' o4 t1 t2 t3 t4 => hJ [] 100 _ _ _ _ _ ⟨0, Nat.zero_le _, cl_101 (th := 0) (ly := 0) hl (by omega) ⟨fun g => ⟨1, hk, cl_124 (th := 0) (ly := 0) hl (by omega) (Nat.le_refl _) hlv hl8 htr hti hdc hV' hsum (by omega) (fun v => ⟨0, Nat.zero_le _, cl_115 (th := 0) (st := 3) (ly := 0) hl (by omega) (by omega) hdl (by omega) hB4 (by omega) (hq T' v t1 t2 t3 t4)⟩)⟩, fun g => absurd hne g⟩⟩)
end
