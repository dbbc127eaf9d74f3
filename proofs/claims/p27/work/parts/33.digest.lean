/-! contracts: the class's digest -/
def mx (d : Int64) (v : Int32) : Int64 := d * 31 + v.toInt64
def fdN (d : Int64) (v : Nat → Int32) : Nat → Int64
  | 0 => d
  | n + 1 => mx (fdN d v n) (v n)
theorem fdN_s {d : Int64} {v : Nat → Int32} {n m : Nat} {x : Int32} (hm : m = n + 1) (e : v n = x) : mx (fdN d v n) x = fdN d v m := by rw [← e, hm]; rfl
theorem fdN_c {d : Int64} {v v' : Nat → Int32} : ∀ {n : Nat}, (∀ i, i < n → v i = v' i) → fdN d v n = fdN d v' n
  | 0, _ => rfl
  | n + 1, h => by
    show mx (fdN d v n) (v n) = mx (fdN d v' n) (v' n)
    rw [fdN_c (n := n) (fun i hi => h i (by omega)), h n (by omega)]
def GA (st : Nat) (h : Nat → Int32) (c L : Nat → Nat) (sz pl : Nat) (rv : Int32) (tr tu : Nat) (b : Nat → Nat) (n dl ll lb pa z kp : Nat) : Prop :=
  st < 4 ∧ dl < 4 ∧ n ≤ 364 ∧ ll ≤ 40 ∧ lb < 4 ∧ pa < 2 ^ 29 ∧ (∀ j, j < n → b j < 43) ∧ (stl ll pa = true → isZ b n dl ll lb z) ∧ pl ≤ 32 ∧ tr ≤ 4 ∧ tu < 4 ∧ (∀ i, i < pl → c i < 32) ∧ (∀ j, j ≤ pl / 4 → L j < 4) ∧ (st = 2 → G2 h c L sz pl rv tr tu kp ∧ 0 < kp)
def digV (st : Nat) (dn : Int32) (h : Nat → Int32) (c L : Nat → Nat) (pl : Nat) (rv : Int32) (tr tu : Nat) (b : Nat → Nat) (n dl ll ti pa : Nat) (tk : Nat → Nat) (sc : Nat → Int32) (z kp : Nat) : Int64 :=
  fdN (mx (mx (fdN (fdN (fdN (fdN (fdN (fdN 968 (nowV st dn c L pl tr tu n dl) 8) (conV ll ti pa ((dl + z) % 4)) 4) (fun j => nI (b j)) n) (fun i => nI (trkV c L (i / 6) (i % 6))) (6 * (pl / 4))) (fun i => sideV rv L pl tk sc (i / 3) (i % 3)) 6) (fun i => handV h (i / 15) (i / 3 % 5) (i % 3)) 60) (bestV st h c L pl tr kp)) (bcV st h c L pl tr kp)) (fun tm => bestV st h c L pl tm kp) 5
section
variable {l : Launch} {d k : Nat} {Q : am_Q} {st : Nat} {dn : Int32} {h : Nat → Int32} {c L : Nat → Nat} {sz pl tr tu : Nat} {rv : Int32} {t : am_T5} {b : Nat → Nat} {n dl ll lb ti pa : Nat} {tk : Nat → Nat} {sc : Nat → Int32} {r : am_M} {z kp : Nat}
theorem cl_66 (hl : l.stackTraces = false) (hd : 5 ≤ d) {x : Int64} (hp : pl ≤ 32) (hL : ∀ j, j ≤ pl / 4 → L j < 4) (hq : Q (.inl (some (Value.long (fdN x (fun i => nI (trkV c L (i / 6) (i % 6))) (6 * (pl / 4)))))) (wt st dn h c L sz pl rv tr tu t b n dl ll lb ti pa tk sc r)) : am_Call l d 66 k [.ref 0, .long x] (wt st dn h c L sz pl rv tr tu t b n dl ll lb ti pa tk sc r) Q := by
  obtain ⟨v, hv⟩ : ∃ v : Nat → Int32, v = fun i => nI (trkV c L (i / 6) (i % 6)) := ⟨_, rfl⟩
  rw [← hv] at hq
  refine op_66 hl (by omega) (Nat.le_of_ble_eq_true rfl) (fun J hJ => ?_)
  have hO : ∀ m i o, i + m = pl / 4 → J k 5 [some (Value.ref 0), some (Value.long x), none, some (Value.long (fdN x v (6 * i))), none, some (Value.int (nI i)), o] [] (wt st dn h c L sz pl rv tr tu t b n dl ll lb ti pa tk sc r) := by
    intro m
    induction m with
    | zero =>
      intro i o hi
      have : i = pl / 4 := by omega
      subst this
      exact hJ [5] 100 _ _ _ _ _ ⟨0, Nat.zero_le _, cl_27_1 hl (by omega) hp (ble (a := pl / 4) (b := pl / 4) (by omega) (by omega) (fun _ => hq) (fun q => absurd q (by omega)))⟩
    | succ m ih =>
      intro i o hi
      have hI : ∀ w e, e + w = 6 → J k 20 [some (Value.ref 0), some (Value.long x), none, some (Value.long (fdN x v (6 * i + e))), none, some (Value.int (nI i)), some (Value.int (nI e))] [] (wt st dn h c L sz pl rv tr tu t b n dl ll lb ti pa tk sc r) := by
        intro w
        induction w with
        | zero =>
          intro e he
          have : e = 6 := by omega
          subst this
          refine hJ [5] 100 _ _ _ _ _ ⟨fun _ => ?_, fun q => absurd (by decide) q⟩
          exact am_jw (J := J) (congrArg (fun y => [some (Value.ref 0), some (Value.long x), none, some (Value.long (fdN x v (6 * i + 6))), none, some (Value.int y), some (Value.int (nI 6))]) (nI_1 i)) rfl rfl (ih (i + 1) _ (by omega))
        | succ w ihw =>
          intro e he
          refine hJ [20] 100 _ _ _ _ _ (bl (a := 5) (b := e) (by omega) (by omega) (fun q => absurd q (by omega)) (fun _ => ⟨0, Nat.zero_le _, cl_54 hl (by omega) (by omega) (by omega) hp (hL i (by omega)) ⟨0, Nat.zero_le _, cl_65 hl (by omega) ?_⟩⟩))
          refine am_jw (J := J) ?_ rfl rfl (ihw (e + 1) (by omega))
          have h1 : mx (fdN x v (6 * i + e)) (nI (trkV c L i e)) = fdN x v (6 * i + (e + 1)) := fdN_s (by omega) (by rw [hv]; show nI (trkV c L ((6 * i + e) / 6) ((6 * i + e) % 6)) = _; rw [show (6 * i + e) / 6 = i by omega, show (6 * i + e) % 6 = e by omega])
          rw [← h1, ← nI_1]
          rfl
      exact hJ [20] 100 _ _ _ _ _ ⟨0, Nat.zero_le _, cl_27_1 hl (by omega) hp (ble (a := pl / 4) (b := i) (by omega) (by omega) (fun q => absurd q (by omega)) (fun _ => hI 6 0 rfl))⟩
  exact hJ [5] 100 _ _ _ _ _ (hO (pl / 4) 0 none (by omega))
theorem cl_67 (hl : l.stackTraces = false) (hd : 7 ≤ d) {x : Int64} (hp : pl ≤ 32) (hL : ∀ i, i < pl → L (i / 4) < 4) (hq : Q (.inl (some (Value.long (fdN x (fun i => sideV rv L pl tk sc (i / 3) (i % 3)) 6)))) (wt st dn h c L sz pl rv tr tu t b n dl ll lb ti pa tk sc r)) : am_Call l d 67 k [.ref 0, .long x] (wt st dn h c L sz pl rv tr tu t b n dl ll lb ti pa tk sc r) Q := by
  obtain ⟨v, hv⟩ : ∃ v : Nat → Int32, v = fun i => sideV rv L pl tk sc (i / 3) (i % 3) := ⟨_, rfl⟩
  rw [← hv] at hq
  refine op_67 hl (by omega) (Nat.le_of_ble_eq_true rfl) (fun J hJ => ?_)
  have hO : ∀ m i o, i + m = 2 → J k 5 [some (Value.ref 0), some (Value.long x), none, some (Value.long (fdN x v (3 * i))), none, some (Value.int (nI i)), o] [] (wt st dn h c L sz pl rv tr tu t b n dl ll lb ti pa tk sc r) := by
    intro m
    induction m with
    | zero =>
      intro i o hi
      have : i = 2 := by omega
      subst this
      exact hJ [5] 100 _ _ _ _ _ ⟨fun _ => hq, fun q => absurd (by decide) q⟩
    | succ m ih =>
      intro i o hi
      have hI : ∀ w e, e + w = 3 → J k 14 [some (Value.ref 0), some (Value.long x), none, some (Value.long (fdN x v (3 * i + e))), none, some (Value.int (nI i)), some (Value.int (nI e))] [] (wt st dn h c L sz pl rv tr tu t b n dl ll lb ti pa tk sc r) := by
        intro w
        induction w with
        | zero =>
          intro e he
          have : e = 3 := by omega
          subst this
          refine hJ [5] 100 _ _ _ _ _ ⟨fun _ => ?_, fun q => absurd (by decide) q⟩
          exact am_jw (J := J) (congrArg (fun y => [some (Value.ref 0), some (Value.long x), none, some (Value.long (fdN x v (3 * i + 3))), none, some (Value.int y), some (Value.int (nI 3))]) (nI_1 i)) rfl rfl (ih (i + 1) _ (by omega))
        | succ w ihw =>
          intro e he
          refine hJ [14] 100 _ _ _ _ _ (bl (a := 2) (b := e) (by omega) (by omega) (fun q => absurd q (by omega)) (fun _ => ⟨0, Nat.zero_le _, cl_56 hl (by omega) (by omega) (by omega) hp hL ⟨0, Nat.zero_le _, cl_65 hl (by omega) ?_⟩⟩))
          refine am_jw (J := J) ?_ rfl rfl (ihw (e + 1) (by omega))
          have h1 : mx (fdN x v (3 * i + e)) (sideV rv L pl tk sc i e) = fdN x v (3 * i + (e + 1)) := fdN_s (by omega) (by rw [hv]; show sideV rv L pl tk sc ((3 * i + e) / 3) ((3 * i + e) % 3) = _; rw [show (3 * i + e) / 3 = i by omega, show (3 * i + e) % 3 = e by omega])
          rw [← h1, ← nI_1]
          rfl
      exact hJ [14] 100 _ _ _ _ _ (bl (a := 1) (b := i) (by omega) (by omega) (fun q => absurd q (by omega)) (fun _ => hI 3 0 rfl))
  exact hJ [5] 100 _ _ _ _ _ (hO 2 0 none (by omega))
theorem cl_68 (hl : l.stackTraces = false) (hd : 7 ≤ d) {x : Int64} (hq : Q (.inl (some (Value.long (fdN x (fun i => handV h (i / 15) (i / 3 % 5) (i % 3)) 60)))) (wt st dn h c L sz pl rv tr tu t b n dl ll lb ti pa tk sc r)) : am_Call l d 68 k [.ref 0, .long x] (wt st dn h c L sz pl rv tr tu t b n dl ll lb ti pa tk sc r) Q := by
  obtain ⟨v, hv⟩ : ∃ v : Nat → Int32, v = fun i => handV h (i / 15) (i / 3 % 5) (i % 3) := ⟨_, rfl⟩
  rw [← hv] at hq
  refine op_68 hl (by omega) (Nat.le_of_ble_eq_true rfl) (fun J hJ => ?_)
  have hO : ∀ m i o o2, i + m = 4 → J k 5 [some (Value.ref 0), some (Value.long x), none, some (Value.long (fdN x v (15 * i))), none, some (Value.int (nI i)), o, o2] [] (wt st dn h c L sz pl rv tr tu t b n dl ll lb ti pa tk sc r) := by
    intro m
    induction m with
    | zero =>
      intro i o o2 hi
      have : i = 4 := by omega
      subst this
      exact hJ [5] 100 _ _ _ _ _ ⟨fun _ => hq, fun q => absurd (by decide) q⟩
    | succ m ih =>
      intro i o o2 hi
      have hM : ∀ m2 s o2, s + m2 = 5 → J k 14 [some (Value.ref 0), some (Value.long x), none, some (Value.long (fdN x v (15 * i + 3 * s))), none, some (Value.int (nI i)), some (Value.int (nI s)), o2] [] (wt st dn h c L sz pl rv tr tu t b n dl ll lb ti pa tk sc r) := by
        intro m2
        induction m2 with
        | zero =>
          intro s o2 hs
          have : s = 5 := by omega
          subst this
          refine hJ [5] 100 _ _ _ _ _ ⟨fun _ => ?_, fun q => absurd (by decide) q⟩
          exact am_jw (J := J) (congrArg (fun y => [some (Value.ref 0), some (Value.long x), none, some (Value.long (fdN x v (15 * i + 15))), none, some (Value.int y), some (Value.int (nI 5)), o2]) (nI_1 i)) rfl rfl (ih (i + 1) _ _ (by omega))
        | succ m2 ihm =>
          intro s o2 hs
          have hI : ∀ w e, e + w = 3 → J k 23 [some (Value.ref 0), some (Value.long x), none, some (Value.long (fdN x v (15 * i + 3 * s + e))), none, some (Value.int (nI i)), some (Value.int (nI s)), some (Value.int (nI e))] [] (wt st dn h c L sz pl rv tr tu t b n dl ll lb ti pa tk sc r) := by
            intro w
            induction w with
            | zero =>
              intro e he
              have : e = 3 := by omega
              subst this
              refine hJ [14] 100 _ _ _ _ _ ⟨fun _ => ?_, fun q => absurd (by decide) q⟩
              exact am_jw (J := J) (congrArg (fun y => [some (Value.ref 0), some (Value.long x), none, some (Value.long (fdN x v (15 * i + 3 * s + 3))), none, some (Value.int (nI i)), some (Value.int y), some (Value.int (nI 3))]) (nI_1 s)) rfl rfl (ihm (s + 1) _ (by omega))
            | succ w ihw =>
              intro e he
              refine hJ [23] 100 _ _ _ _ _ (bl (a := 2) (b := e) (by omega) (by omega) (fun q => absurd q (by omega)) (fun _ => ⟨0, Nat.zero_le _, cl_46 hl (by omega) (by omega) (by omega) (by omega) ⟨0, Nat.zero_le _, cl_65 hl (by omega) ?_⟩⟩))
              refine am_jw (J := J) ?_ rfl rfl (ihw (e + 1) (by omega))
              have h1 : mx (fdN x v (15 * i + 3 * s + e)) (handV h i s e) = fdN x v (15 * i + 3 * s + (e + 1)) := fdN_s (by omega) (by rw [hv]; show handV h ((15 * i + 3 * s + e) / 15) ((15 * i + 3 * s + e) / 3 % 5) ((15 * i + 3 * s + e) % 3) = _; rw [show (15 * i + 3 * s + e) / 15 = i by omega, show (15 * i + 3 * s + e) / 3 % 5 = s by omega, show (15 * i + 3 * s + e) % 3 = e by omega])
              rw [← h1, ← nI_1]
              rfl
          exact hJ [23] 100 _ _ _ _ _ (bl (a := 4) (b := s) (by omega) (by omega) (fun q => absurd q (by omega)) (fun _ => hI 3 0 rfl))
      exact hJ [14] 100 _ _ _ _ _ (ble (a := 4) (b := i) (by omega) (by omega) (fun q => absurd q (by omega)) (fun _ => hM 5 0 _ rfl))
  exact hJ [5] 100 _ _ _ _ _ (hO 4 0 none none (by omega))
theorem cl_64 (hl : l.stackTraces = false) (hd : 25 ≤ d) (hGA : GA st h c L sz pl rv tr tu b n dl ll lb pa z kp) (hq : ∀ t', Q (.inl (some (Value.long (digV st dn h c L pl rv tr tu b n dl ll ti pa tk sc z kp)))) (wt st dn h c L sz pl rv tr tu t' b n dl ll lb ti pa tk sc r)) : am_Call l d 64 k [.ref 0] (wt st dn h c L sz pl rv tr tu t b n dl ll lb ti pa tk sc r) Q := by
  obtain ⟨g1, g2, g3, g4, g5, g6, g7, g8, g9, g10, g11, g12, g13, g14⟩ := hGA
  have hLL : ∀ i, i < pl → L (i / 4) < 4 := fun i hi => g13 _ (by omega)
  have hG2 : st = 2 → G2 h c L sz pl rv tr tu kp := fun e => (g14 e).1
  unfold digV at hq
  refine op_64 hl (by omega) (Nat.le_of_ble_eq_true rfl) (fun J hJ => ?_)
  obtain ⟨d1, hd1⟩ : ∃ d1, d1 = fdN 968 (nowV st dn c L pl tr tu n dl) 8 := ⟨_, rfl⟩
  obtain ⟨d2, hd2⟩ : ∃ d2, d2 = fdN d1 (conV ll ti pa ((dl + z) % 4)) 4 := ⟨_, rfl⟩
  obtain ⟨d3, hd3⟩ : ∃ d3, d3 = fdN d2 (fun j => nI (b j)) n := ⟨_, rfl⟩
  obtain ⟨d4, hd4⟩ : ∃ d4, d4 = fdN d3 (fun i => nI (trkV c L (i / 6) (i % 6))) (6 * (pl / 4)) := ⟨_, rfl⟩
  obtain ⟨d5, hd5⟩ : ∃ d5, d5 = fdN d4 (fun i => sideV rv L pl tk sc (i / 3) (i % 3)) 6 := ⟨_, rfl⟩
  obtain ⟨d6, hd6⟩ : ∃ d6, d6 = fdN d5 (fun i => handV h (i / 15) (i / 3 % 5) (i % 3)) 60 := ⟨_, rfl⟩
  obtain ⟨d7, hd7⟩ : ∃ d7, d7 = mx (mx d6 (bestV st h c L pl tr kp)) (bcV st h c L pl tr kp) := ⟨_, rfl⟩
  rw [← hd1, ← hd2, ← hd3, ← hd4, ← hd5, ← hd6, ← hd7] at hq
  -- bestIn
  have h121 : ∀ m i t', i + m = 5 → J k 121 [some (Value.ref 0), some (Value.long (fdN d7 (fun tm => bestV st h c L pl tm kp) i)), none, some (Value.int (nI i))] [] (wt st dn h c L sz pl rv tr tu t' b n dl ll lb ti pa tk sc r) := by
    intro m
    induction m with
    | zero =>
      intro i t' hi
      have : i = 5 := by omega
      subst this
      exact hJ [121] 100 _ _ _ _ _ ⟨fun _ => hq t', fun q => absurd (by decide) q⟩
    | succ m ih =>
      intro i t' hi
      refine hJ [121] 100 _ _ _ _ _ (ble (a := 5) (b := i) (by omega) (by omega) (fun q => absurd q (by omega)) (fun _ => ⟨0, Nat.zero_le _, cl_62 hl (by omega) (by omega) g1 hG2 (fun t2 => ⟨0, Nat.zero_le _, cl_65 hl (by omega) ?_⟩)⟩))
      refine am_jw (J := J) ?_ rfl rfl (ih (i + 1) t2 (by omega))
      rw [← nI_1]
      rfl
  -- from the tricks on
  have h83 : ∀ o, J k 83 [some (Value.ref 0), some (Value.long d3), none, o] [] (wt st dn h c L sz pl rv tr tu t b n dl ll lb ti pa tk sc r) := by
    intro o
    refine hJ [89] 100 _ _ _ _ _ ⟨0, Nat.zero_le _, cl_66 hl (by omega) g9 g13 ?_⟩
    rw [← hd4]
    refine hJ [95] 100 _ _ _ _ _ ⟨0, Nat.zero_le _, cl_67 hl (by omega) g9 hLL ?_⟩
    rw [← hd5]
    refine hJ [101] 100 _ _ _ _ _ ⟨0, Nat.zero_le _, cl_68 hl (by omega) ?_⟩
    rw [← hd6]
    refine hJ [110] 100 _ _ _ _ _ ⟨0, Nat.zero_le _, cl_59 hl (by omega) (by omega) g1 hG2 (fun t1 => ⟨0, Nat.zero_le _, cl_65 hl (by omega) ?_⟩)⟩
    refine hJ [119] 100 _ _ _ _ _ ⟨0, Nat.zero_le _, cl_61 hl (by omega) (by omega) g1 hG2 (fun e => (g14 e).2) (fun t2 => ⟨0, Nat.zero_le _, cl_65 hl (by omega) ?_⟩)⟩
    have := h121 5 0 t2 rfl
    rw [hd7] at this
    exact hJ [121] 100 _ _ _ _ _ this
  have h53 : ∀ m i, i + m = n → J k 53 [some (Value.ref 0), some (Value.long (fdN d2 (fun j => nI (b j)) i)), none, some (Value.int (nI i))] [] (wt st dn h c L sz pl rv tr tu t b n dl ll lb ti pa tk sc r) := by
    intro m
    induction m with
    | zero =>
      intro i hi
      have : i = n := by omega
      subst this
      have := h83 (some (Value.int (nI i)))
      rw [hd3] at this
      exact hJ [83] 100 _ _ _ _ _ (ble (a := i) (b := i) (by omega) (by omega) (fun _ => this) (fun q => absurd q (by omega)))
    | succ m ih =>
      intro i hi
      refine hJ [53] 100 _ _ _ _ _ (ble (a := n) (b := i) (by omega) (by omega) (fun q => absurd q (by omega)) (fun _ => ⟨0, Nat.zero_le _, cl_4 hl (by omega) (by omega) g3 ⟨0, Nat.zero_le _, cl_65 hl (by omega) ?_⟩⟩))
      refine am_jw (J := J) ?_ rfl rfl (ih (i + 1) (by omega))
      rw [← nI_1]
      rfl
  have h30 : ∀ m i, i + m = 4 → J k 30 [some (Value.ref 0), some (Value.long (fdN d1 (conV ll ti pa ((dl + z) % 4)) i)), none, some (Value.int (nI i))] [] (wt st dn h c L sz pl rv tr tu t b n dl ll lb ti pa tk sc r) := by
    intro m
    induction m with
    | zero =>
      intro i hi
      have : i = 4 := by omega
      subst this
      rw [← hd2]
      exact hJ [53] 100 _ _ _ _ _ ⟨fun _ => h53 n 0 (by omega), fun q => absurd (by decide) q⟩
    | succ m ih =>
      intro i hi
      refine hJ [30] 100 _ _ _ _ _ (bl (a := 3) (b := i) (by omega) (by omega) (fun q => absurd q (by omega)) (fun _ => ⟨0, Nat.zero_le _, cl_50 hl (by omega) (by omega) g4 g5 g2 g3 (by omega) g7 g8 ⟨0, Nat.zero_le _, cl_65 hl (by omega) ?_⟩⟩))
      refine am_jw (J := J) ?_ rfl rfl (ih (i + 1) (by omega))
      rw [← nI_1]
      rfl
  have h6 : ∀ m i, i + m = 8 → J k 6 [some (Value.ref 0), some (Value.long (fdN 968 (nowV st dn c L pl tr tu n dl) i)), none, some (Value.int (nI i))] [] (wt st dn h c L sz pl rv tr tu t b n dl ll lb ti pa tk sc r) := by
    intro m
    induction m with
    | zero =>
      intro i hi
      have : i = 8 := by omega
      subst this
      rw [← hd1]
      exact hJ [30] 100 _ _ _ _ _ ⟨fun _ => h30 4 0 (by omega), fun q => absurd (by decide) q⟩
    | succ m ih =>
      intro i hi
      refine hJ [6] 100 _ _ _ _ _ (bl (a := 7) (b := i) (by omega) (by omega) (fun q => absurd q (by omega)) (fun _ => ⟨0, Nat.zero_le _, cl_55 hl (by omega) (by omega) g1 g2 (by omega) g9 g10 g12 (g13 _ (Nat.le_refl _)) ⟨0, Nat.zero_le _, cl_65 hl (by omega) ?_⟩⟩))
      refine am_jw (J := J) ?_ rfl rfl (ih (i + 1) (by omega))
      rw [← nI_1]
      rfl
  exact hJ [6] 100 _ _ _ _ _ (h6 8 0 rfl)
end
