/-! contracts: the class's Cards (at places 1 and 5) -/
def uN (f : Nat → Nat) (k v : Nat) : Nat → Nat := fun j => if j = k then v else f j
theorem uN_i (f : Nat → Nat) (k v : Nat) : upd (fun i => nI (f i)) k (nI v) = fun i => nI (uN f k v i) := by
  funext j
  show (if j = k then nI v else nI (f j)) = nI (if j = k then v else f j)
  split <;> rfl
theorem uN_z (f : Nat → Nat) (v : Nat) : upd (fun i => nI (f i)) (Int32.toNatClampNeg 0) (nI v) = fun i => nI (uN f 0 v i) := uN_i f 0 v
theorem clx {x : Int32} {c : Nat} (e : x = nI c) (h : c < 2 ^ 31) : x.toNatClampNeg = c := by rw [e, i_cl h]
theorem vin {x : Int32} {c N : Nat} (e : x = nI c) (h : c < N) (hN : N < 2 ^ 31) : vp_in x N := by rw [e]; exact nI_in h hN
theorem uN_gx {f : Nat → Nat} {x : Int32} {k v : Nat} (e : x = nI k) (h : k < 2 ^ 31) : upd (fun i => nI (f i)) x.toNatClampNeg (nI v) = fun i => nI (uN f k v i) := by rw [clx e h, uN_i]
theorem blx {x y : Int32} {a b : Nat} {A B : Prop} (ex : x = nI a) (ey : y = nI b) (ha : a < 2 ^ 31) (hb : b < 2 ^ 31) (f : a < b → A) (g : b ≤ a → B) : (x < y → A) ∧ (¬ x < y → B) := by rw [ex, ey]; exact bl ha hb f g
theorem blex {x y : Int32} {a b : Nat} {A B : Prop} (ex : x = nI a) (ey : y = nI b) (ha : a < 2 ^ 31) (hb : b < 2 ^ 31) (f : a ≤ b → A) (g : b < a → B) : (x ≤ y → A) ∧ (¬ x ≤ y → B) := by rw [ex, ey]; exact ble ha hb f g
theorem beqx {x y : Int32} {a b : Nat} {A B : Prop} (ex : x = nI a) (ey : y = nI b) (ha : a < 2 ^ 31) (hb : b < 2 ^ 31) (f : a = b → A) (g : ¬ a = b → B) : (x = y → A) ∧ (¬ x = y → B) := by rw [ex, ey]; exact beq ha hb f g
theorem uN_s (f : Nat → Nat) (k v : Nat) : uN f k v k = v := if_pos rfl
theorem uN_n (f : Nat → Nat) (v : Nat) {j k : Nat} (h : j ≠ k) : uN f k v j = f j := if_neg h
theorem up_s (f : Nat → Int32) (k : Nat) (v : Int32) : upd f k v k = v := if_pos rfl
theorem up_n (f : Nat → Int32) (v : Int32) {j k : Nat} (h : j ≠ k) : upd f k v j = f j := if_neg h
theorem uN_up {f : Nat → Nat} {k v : Nat} (hk : k < 2 ^ 31) : upd (fun i => nI (f i)) (nI k).toNatClampNeg (nI v) = fun i => nI (uN f k v i) := by rw [i_cl hk, uN_i]
theorem c_and3 {p : Nat} (hp : p < 4) : (nI p &&& 3).toNatClampNeg = p := by rw [i_and3 (by omega), i_cl (by omega)]; omega
theorem v_and3 {p : Nat} (hp : p < 4) : vp_in (nI p &&& 3) 4 := by rw [i_and3 (by omega)]; exact nI_in (by omega) (by omega)
theorem am_ca {l : Launch} {d y k : Nat} {as as' : List Value} {w : am_M} {Q : am_Q} (e : as = as') (h : am_Call l d y k as' w Q) : am_Call l d y k as w Q := by rw [e]; exact h
theorem am_cwd {l : Launch} {d y k : Nat} {as : List Value} {w w' : am_M} {Q : am_Q} (e : w = w') (h : am_Call l d y k as w' Q) : am_Call l d y k as w Q := by rw [e]; exact h
theorem am_jw {J : am_K} {k pc : Nat} {ls ls' : am_L} {st st' : am_S} {w w' : am_M} (h1 : ls = ls') (h3 : st = st') (h2 : w = w') (h : J k pc ls' st' w') : J k pc ls st w := by rw [h1, h3, h2]; exact h
theorem bz {b : Bool} {A B : Prop} (f : b = false → A) (g : b = true → B) : (bI b = 0 → A) ∧ (¬ bI b = 0 → B) :=
  ⟨fun c => f (bI_0.mp c), fun c => g (by cases b with | true => rfl | false => exact absurd rfl c)⟩
theorem bnb (b : Bool) : narrow .boolean (.int (bI b)) = .int (bI b) := by cases b <;> decide
theorem am_qz {Q : am_Q} {w w' : am_M} {x : Int32} {b : Bool} (hx : x = bI b) (hw : w = w') (h : Q (.inl (some (Value.int (bI b)))) w') : narrow .boolean (.int x) = .int x ∧ Q (.inl (some (Value.int x))) w := by rw [hx, hw]; exact ⟨bnb b, h⟩
theorem cpy_all {f g : Nat → Int32} {n j : Nat} (h : j < n) : va_cpy f g 0 0 n j = f j := by
  unfold va_cpy
  rw [if_pos ⟨Nat.zero_le _, by omega⟩]
  simp
def cc1 (h : Nat → Int32) (c L : Nat → Nat) (sz pl : Nat) (rv : Int32) (tr tu : Nat) (r : am_M) : am_M :=
  .inr (1, [.ref 2, .ref 3, .ref 4, .int (nI sz), .int (nI pl), .int rv, .int (nI tr), .int (nI tu)]) :: .inl (0, 4, .inl h) :: .inl (0, 32, .inl (fun i => nI (c i))) :: .inl (0, 9, .inl (fun i => nI (L i))) :: r
def cc5 (h : Nat → Int32) (c L : Nat → Nat) (sz pl : Nat) (rv : Int32) (tr tu : Nat) (r : am_M) : am_M :=
  .inr (1, [.ref 6, .ref 7, .ref 8, .int (nI sz), .int (nI pl), .int rv, .int (nI tr), .int (nI tu)]) :: .inl (0, 4, .inl h) :: .inl (0, 32, .inl (fun i => nI (c i))) :: .inl (0, 9, .inl (fun i => nI (L i))) :: r
def wc1 (x0 : am_E) (h : Nat → Int32) (c L : Nat → Nat) (sz pl : Nat) (rv : Int32) (tr tu : Nat) (r : am_M) : am_M := x0 :: cc1 h c L sz pl rv tr tu r
def wc5 (x0 x1 x2 x3 x4 : am_E) (h : Nat → Int32) (c L : Nat → Nat) (sz pl : Nat) (rv : Int32) (tr tu : Nat) (r : am_M) : am_M := x0 :: x1 :: x2 :: x3 :: x4 :: cc5 h c L sz pl rv tr tu r
def hz (h : Nat → Int32) (n : Nat) : Nat → Int32 := fun j => if j < n then 0 else h j
theorem hz_s (h : Nat → Int32) (n : Nat) : upd (hz h n) n 0 = hz h (n + 1) := by
  funext j
  show (if j = n then 0 else if j < n then 0 else h j) = if j < n + 1 then 0 else h j
  by_cases h1 : j = n
  · rw [if_pos h1, if_pos (by omega)]
  · rw [if_neg h1]
    by_cases h2 : j < n
    · rw [if_pos h2, if_pos (by omega)]
    · rw [if_neg h2, if_neg (by omega)]
theorem hz_0 (h : Nat → Int32) : hz h 0 = h := by
  funext j
  exact if_neg (Nat.not_lt_zero j)
def beatsN (tr a b : Nat) : Bool := if a / 8 = b / 8 then decide (b < a) else decide (a / 8 = tr)
def BI (row : Nat → Nat) (tr : Nat) : Nat → Nat
  | 0 => 0
  | m + 1 => if m = 0 then 0 else if beatsN tr (row m) (row (BI row tr m)) then m else BI row tr m
theorem BI_lt (row : Nat → Nat) (tr : Nat) : ∀ m, BI row tr (m + 1) ≤ m
  | 0 => Nat.le_refl _
  | m + 1 => by
    have := BI_lt row tr m
    rw [BI]
    split
    · omega
    · split <;> omega
theorem BI_cong {r1 r2 : Nat → Nat} {tr : Nat} : ∀ {m : Nat}, (∀ i, i < m → r1 i = r2 i) → BI r1 tr m = BI r2 tr m
  | 0, _ => rfl
  | m + 1, h => by
    have e := BI_cong (tr := tr) (m := m) (fun i hi => h i (by omega))
    rw [BI, BI]
    by_cases hm : m = 0
    · rw [if_pos hm, if_pos hm]
    · rw [if_neg hm, if_neg hm, e, h m (by omega), h (BI r2 tr m) (by
        cases m with
        | zero => exact absurd rfl hm
        | succ m => have := BI_lt r2 tr m; omega)]
def takeV (f : Nat) (row : Nat → Nat) (tr m : Nat) : Int32 := if m = 0 then -1 else nI ((f + BI row tr m) % 4)
def topV (row : Nat → Nat) (tr m : Nat) : Int32 := if m = 0 then -1 else nI (row (BI row tr m))
def RC (h : Nat → Int32) (c : Nat → Nat) (pl tu : Nat) : Int32 := if pl % 4 = 0 then h tu else if h tu &&& sSuit (c (4 * (pl / 4)) / 8) = 0 then h tu else h tu &&& sSuit (c (4 * (pl / 4)) / 8)
def rowOf (c : Nat → Nat) (j : Nat) : Nat → Nat := fun k => c (4 * j + k)
def pT (c L : Nat → Nat) (pl tr cd : Nat) : Nat := (L (pl / 4) + BI (rowOf (uN c pl cd) (pl / 4)) tr 4) % 4
def pTu (c L : Nat → Nat) (pl tr tu cd : Nat) : Nat := if (pl + 1) % 4 = 0 then pT c L pl tr cd else (tu + 1) % 4
def pL (c L : Nat → Nat) (pl tr cd : Nat) : Nat → Nat := if (pl + 1) % 4 = 0 then uN L (pl / 4 + 1) (pT c L pl tr cd) else L
def pRet (c L : Nat → Nat) (pl tr cd : Nat) : Int32 := if (pl + 1) % 4 = 0 then nI (pT c L pl tr cd) else -1
def pRv (h : Nat → Int32) (c : Nat → Nat) (pl : Nat) (rv : Int32) (tu cd : Nat) : Int32 := if bt (RC h c pl tu) cd then rv else sAdd rv pl
def who (L : Nat → Nat) (i : Nat) : Nat := (L (i / 4) + i % 4) % 4
theorem m_sub3 : ∀ p, p < 4 → ∀ q, q < 4 → (nI p - nI q) &&& 3 = nI ((p + 4 - q) % 4) := by decide +kernel
section
variable {l : Launch} {d k : Nat} {Q : am_Q} {x0 x1 x2 x3 x4 : am_E} {h : Nat → Int32} {c L : Nat → Nat} {sz pl tr tu : Nat} {rv : Int32} {r : am_M}
theorem cl_20_1 (hl : l.stackTraces = false) (hd : 1 ≤ d) {p : Nat} (hp : p < 4) (hq : Q (.inl (some (Value.int (h p)))) (wc1 x0 h c L sz pl rv tr tu r)) : am_Call l d 20 k [.ref 1, .int (nI p)] (wc1 x0 h c L sz pl rv tr tu r) Q :=
  op_20 hl hd (Nat.le_of_ble_eq_true rfl) (fun J hJ => hJ [] 100 _ _ _ _ _ ⟨v_and3 hp, am_q1 (congrArg h (c_and3 hp)) rfl hq⟩)
theorem cl_21_1 (hl : l.stackTraces = false) (hd : 2 ≤ d) {p : Nat} (hp : p < 4) (hq : Q (.inl (some (Value.int (nI (pc (h p)))))) (wc1 x0 h c L sz pl rv tr tu r)) : am_Call l d 21 k [.ref 1, .int (nI p)] (wc1 x0 h c L sz pl rv tr tu r) Q :=
  op_21 hl (by omega) (Nat.le_of_ble_eq_true rfl) (fun J hJ => hJ [] 100 _ _ _ _ _ ⟨0, Nat.zero_le _, cl_20_1 hl (by omega) hp ⟨0, Nat.zero_le _, cl_150 hl (by omega) hq⟩⟩)
theorem cl_22_1 (hl : l.stackTraces = false) (hd : 2 ≤ d) {p cd : Nat} (hp : p < 4) (hq : Q (.inl none) (wc1 x0 (upd h p (sAdd (h p) cd)) c L sz pl rv tr tu r)) : am_Call l d 22 k [.ref 1, .int (nI p), .int (nI cd)] (wc1 x0 h c L sz pl rv tr tu r) Q :=
  op_22 hl (by omega) (Nat.le_of_ble_eq_true rfl) (fun J hJ => hJ [] 100 _ _ _ _ _ ⟨0, Nat.zero_le _, cl_20_1 hl (by omega) hp ⟨0, Nat.zero_le _, cl_87 hl (by omega) ⟨v_and3 hp, am_qw (congrArg (fun i => (wc1 x0 (upd h i (sAdd (h p) cd)) c L sz pl rv tr tu r)) (c_and3 hp)) hq⟩⟩⟩)
theorem cl_17_1 (hl : l.stackTraces = false) (hd : 1 ≤ d) (hq : Q (.inl none) (wc1 x0 (hz h 4) c L 0 0 0 tr tu r)) : am_Call l d 17 k [.ref 1] (wc1 x0 h c L sz pl rv tr tu r) Q := by
  refine op_17 hl hd (Nat.le_of_ble_eq_true rfl) (fun J hJ => ?_)
  have hL : ∀ n i, i + n = 4 → J k 2 [some (Value.ref 1), some (Value.int (nI i))] [] (wc1 x0 (hz h i) c L sz pl rv tr tu r) := by
    intro n
    induction n with
    | zero =>
      intro i hi
      have : i = 4 := by omega
      subst this
      exact hJ [2] 100 _ _ _ _ _ ⟨fun _ => hq, fun q => absurd (by decide) q⟩
    | succ n ih =>
      intro i hi
      refine hJ [2] 100 _ _ _ _ _ (ble (a := 4) (b := i) (by omega) (by omega) (fun q => absurd q (by omega)) (fun _ => ⟨nI_in (by omega) (by omega), ?_⟩))
      exact am_jw (J := J) (congrArg (fun x => [some (Value.ref 1), some (Value.int x)]) (nI_1 i)) rfl (congrArg (fun f => (wc1 x0 f c L sz pl rv tr tu r)) (by rw [i_cl (by omega), hz_s])) (ih (i + 1) (by omega))
  have := hL 4 0 rfl
  rw [hz_0] at this
  exact hJ [2] 100 _ _ _ _ _ this
theorem cl_19_1 (hl : l.stackTraces = false) (hd : 1 ≤ d) {ld t : Nat} (hq : Q (.inl none) (wc1 x0 h c (uN L 0 ld) sz pl rv t ld r)) : am_Call l d 19 k [.ref 1, .int (nI ld), .int (nI t)] (wc1 x0 h c L sz pl rv tr tu r) Q :=
  op_19 hl hd (Nat.le_of_ble_eq_true rfl) (fun J hJ => hJ [] 100 _ _ _ _ _ ⟨nI_in (c := 0) (by omega) (by omega), am_qw (by rw [uN_z]; rfl) hq⟩)
theorem cl_20_5 (hl : l.stackTraces = false) (hd : 1 ≤ d) {p : Nat} (hp : p < 4) (hq : Q (.inl (some (Value.int (h p)))) (wc5 x0 x1 x2 x3 x4 h c L sz pl rv tr tu r)) : am_Call l d 20 k [.ref 5, .int (nI p)] (wc5 x0 x1 x2 x3 x4 h c L sz pl rv tr tu r) Q :=
  op_20 hl hd (Nat.le_of_ble_eq_true rfl) (fun J hJ => hJ [] 100 _ _ _ _ _ ⟨v_and3 hp, am_q1 (congrArg h (c_and3 hp)) rfl hq⟩)
theorem cl_21_5 (hl : l.stackTraces = false) (hd : 2 ≤ d) {p : Nat} (hp : p < 4) (hq : Q (.inl (some (Value.int (nI (pc (h p)))))) (wc5 x0 x1 x2 x3 x4 h c L sz pl rv tr tu r)) : am_Call l d 21 k [.ref 5, .int (nI p)] (wc5 x0 x1 x2 x3 x4 h c L sz pl rv tr tu r) Q :=
  op_21 hl (by omega) (Nat.le_of_ble_eq_true rfl) (fun J hJ => hJ [] 100 _ _ _ _ _ ⟨0, Nat.zero_le _, cl_20_5 hl (by omega) hp ⟨0, Nat.zero_le _, cl_150 hl (by omega) hq⟩⟩)
theorem cl_22_5 (hl : l.stackTraces = false) (hd : 2 ≤ d) {p cd : Nat} (hp : p < 4) (hq : Q (.inl none) (wc5 x0 x1 x2 x3 x4 (upd h p (sAdd (h p) cd)) c L sz pl rv tr tu r)) : am_Call l d 22 k [.ref 5, .int (nI p), .int (nI cd)] (wc5 x0 x1 x2 x3 x4 h c L sz pl rv tr tu r) Q :=
  op_22 hl (by omega) (Nat.le_of_ble_eq_true rfl) (fun J hJ => hJ [] 100 _ _ _ _ _ ⟨0, Nat.zero_le _, cl_20_5 hl (by omega) hp ⟨0, Nat.zero_le _, cl_87 hl (by omega) ⟨v_and3 hp, am_qw (congrArg (fun i => (wc5 x0 x1 x2 x3 x4 (upd h i (sAdd (h p) cd)) c L sz pl rv tr tu r)) (c_and3 hp)) hq⟩⟩⟩)
theorem cl_17_5 (hl : l.stackTraces = false) (hd : 1 ≤ d) (hq : Q (.inl none) (wc5 x0 x1 x2 x3 x4 (hz h 4) c L 0 0 0 tr tu r)) : am_Call l d 17 k [.ref 5] (wc5 x0 x1 x2 x3 x4 h c L sz pl rv tr tu r) Q := by
  refine op_17 hl hd (Nat.le_of_ble_eq_true rfl) (fun J hJ => ?_)
  have hL : ∀ n i, i + n = 4 → J k 2 [some (Value.ref 5), some (Value.int (nI i))] [] (wc5 x0 x1 x2 x3 x4 (hz h i) c L sz pl rv tr tu r) := by
    intro n
    induction n with
    | zero =>
      intro i hi
      have : i = 4 := by omega
      subst this
      exact hJ [2] 100 _ _ _ _ _ ⟨fun _ => hq, fun q => absurd (by decide) q⟩
    | succ n ih =>
      intro i hi
      refine hJ [2] 100 _ _ _ _ _ (ble (a := 4) (b := i) (by omega) (by omega) (fun q => absurd q (by omega)) (fun _ => ⟨nI_in (by omega) (by omega), ?_⟩))
      exact am_jw (J := J) (congrArg (fun x => [some (Value.ref 5), some (Value.int x)]) (nI_1 i)) rfl (congrArg (fun f => (wc5 x0 x1 x2 x3 x4 f c L sz pl rv tr tu r)) (by rw [i_cl (by omega), hz_s])) (ih (i + 1) (by omega))
  have := hL 4 0 rfl
  rw [hz_0] at this
  exact hJ [2] 100 _ _ _ _ _ this
theorem cl_19_5 (hl : l.stackTraces = false) (hd : 1 ≤ d) {ld t : Nat} (hq : Q (.inl none) (wc5 x0 x1 x2 x3 x4 h c (uN L 0 ld) sz pl rv t ld r)) : am_Call l d 19 k [.ref 5, .int (nI ld), .int (nI t)] (wc5 x0 x1 x2 x3 x4 h c L sz pl rv tr tu r) Q :=
  op_19 hl hd (Nat.le_of_ble_eq_true rfl) (fun J hJ => hJ [] 100 _ _ _ _ _ ⟨nI_in (c := 0) (by omega) (by omega), am_qw (by rw [uN_z]; rfl) hq⟩)
theorem cl_25_1 (hl : l.stackTraces = false) (hd : 3 ≤ d) {m : Nat} {b : Bool} (hm : m < 2 ^ 31) (hb : b = true ↔ ∀ p, p < 4 → pc (h p) ≤ m) (hq : Q (.inl (some (Value.int (bI b)))) (wc1 x0 h c L sz pl rv tr tu r)) : am_Call l d 25 k [.ref 1, .int (nI m)] (wc1 x0 h c L sz pl rv tr tu r) Q := by
  refine op_25 hl (by omega) (Nat.le_of_ble_eq_true rfl) (fun J hJ => ?_)
  have hL : ∀ n i, i + n = 4 → (∀ p, p < i → pc (h p) ≤ m) → J k 2 [some (Value.ref 1), some (Value.int (nI m)), some (Value.int (nI i))] [] (wc1 x0 h c L sz pl rv tr tu r) := by
    intro n
    induction n with
    | zero =>
      intro i hi hp
      have : i = 4 := by omega
      subst this
      rw [hb.mpr hp] at hq
      exact hJ [2] 100 _ _ _ _ _ ⟨fun _ => ⟨by decide, hq⟩, fun q => absurd (by decide) q⟩
    | succ n ih =>
      intro i hi hp
      have h32 := pc_le (h i)
      refine hJ [2] 100 _ _ _ _ _ (ble (a := 4) (b := i) (by omega) (by omega) (fun q => absurd q (by omega)) (fun _ => ⟨0, Nat.zero_le _, cl_21_1 hl (by omega) (by omega) (ble (a := pc (h i)) (b := m) (by omega) (by omega) (fun q => ?_) (fun q => ?_))⟩))
      · exact am_jw (J := J) (congrArg (fun x => [some (Value.ref 1), some (Value.int (nI m)), some (Value.int x)]) (nI_1 i)) rfl rfl (ih (i + 1) (by omega) (fun p h1 => by
          by_cases e : p = i
          · rw [e]; exact q
          · exact hp p (by omega)))
      · have e : b = false := Bool.eq_false_iff.mpr (fun q2 => absurd (hb.mp q2 i (by omega)) (by omega))
        rw [e] at hq
        exact ⟨by decide, hq⟩
  exact hJ [2] 100 _ _ _ _ _ (hL 4 0 rfl (fun p hp => absurd hp (Nat.not_lt_zero p)))
theorem cl_24_1 (hl : l.stackTraces = false) (hd : 4 ≤ d) {b : Bool} (hb : b = true ↔ ∀ p, p < 4 → pc (h p) ≤ 0) (hq : Q (.inl (some (Value.int (bI b)))) (wc1 x0 h c L sz pl rv tr tu r)) : am_Call l d 24 k [.ref 1] (wc1 x0 h c L sz pl rv tr tu r) Q :=
  op_24 hl (by omega) (Nat.le_of_ble_eq_true rfl) (fun J hJ => hJ [] 100 _ _ _ _ _ ⟨0, Nat.zero_le _, cl_25_1 (m := 0) hl (by omega) (by omega) hb (am_qz rfl rfl hq)⟩)
theorem cl_26_1 (hl : l.stackTraces = false) (hd : 3 ≤ d) {b : Bool} (hb : b = true ↔ (∀ p, p < 4 → pc (h p) = pc (h 0)) ∧ 0 < pc (h 0)) (hq : Q (.inl (some (Value.int (bI b)))) (wc1 x0 h c L sz pl rv tr tu r)) : am_Call l d 26 k [.ref 1] (wc1 x0 h c L sz pl rv tr tu r) Q := by
  refine op_26 hl (by omega) (Nat.le_of_ble_eq_true rfl) (fun J hJ => ?_)
  have h0 := pc_le (h 0)
  have hL : ∀ n i, i + n = 4 → (∀ p, p < i → pc (h p) = pc (h 0)) → J k 2 [some (Value.ref 1), some (Value.int (nI i))] [] (wc1 x0 h c L sz pl rv tr tu r) := by
    intro n
    induction n with
    | zero =>
      intro i hi hp
      have : i = 4 := by omega
      subst this
      refine hJ [2] 100 _ _ _ _ _ ⟨fun _ => ⟨0, Nat.zero_le _, cl_21_1 (p := 0) hl (by omega) (by omega) (ble (a := pc (h 0)) (b := 0) (by omega) (by omega) (fun q => ?_) (fun q => ?_))⟩, fun q => absurd (by decide) q⟩
      · rw [show b = false from Bool.eq_false_iff.mpr (fun q2 => absurd (hb.mp q2).2 (by omega))] at hq
        exact ⟨by decide, hq⟩
      · rw [hb.mpr ⟨hp, q⟩] at hq
        exact ⟨by decide, hq⟩
    | succ n ih =>
      intro i hi hp
      have h32 := pc_le (h i)
      refine hJ [2] 100 _ _ _ _ _ (ble (a := 4) (b := i) (by omega) (by omega) (fun q => absurd q (by omega)) (fun _ => ⟨0, Nat.zero_le _, cl_21_1 hl (by omega) (by omega) ⟨0, Nat.zero_le _, cl_21_1 (p := 0) hl (by omega) (by omega) (beq (a := pc (h i)) (b := pc (h 0)) (by omega) (by omega) (fun q => ?_) (fun q => ?_))⟩⟩))
      · exact am_jw (J := J) (congrArg (fun x => [some (Value.ref 1), some (Value.int x)]) (nI_1 i)) rfl rfl (ih (i + 1) (by omega) (fun p h1 => by
          by_cases e : p = i
          · rw [e]; exact q
          · exact hp p (by omega)))
      · rw [show b = false from Bool.eq_false_iff.mpr (fun q2 => q ((hb.mp q2).1 i (by omega)))] at hq
        exact ⟨by decide, hq⟩
  exact hJ [2] 100 _ _ _ _ _ (hL 3 1 rfl (fun p hp => by rw [show p = 0 by omega]))
theorem cl_27_1 (hl : l.stackTraces = false) (hd : 1 ≤ d) (hp : pl ≤ 32) (hq : Q (.inl (some (Value.int (nI (pl / 4))))) (wc1 x0 h c L sz pl rv tr tu r)) : am_Call l d 27 k [.ref 1] (wc1 x0 h c L sz pl rv tr tu r) Q :=
  op_27 hl hd (Nat.le_of_ble_eq_true rfl) (fun J hJ => hJ [] 100 _ _ _ _ _ ⟨by decide, am_q1 (pk_div (d := 4) (by omega) (by omega) (by omega)) rfl hq⟩)
theorem cl_28_1 (hl : l.stackTraces = false) (hd : 1 ≤ d) (hp : pl ≤ 32) (hq : Q (.inl (some (Value.int (nI (pl % 4))))) (wc1 x0 h c L sz pl rv tr tu r)) : am_Call l d 28 k [.ref 1] (wc1 x0 h c L sz pl rv tr tu r) Q :=
  op_28 hl hd (Nat.le_of_ble_eq_true rfl) (fun J hJ => hJ [] 100 _ _ _ _ _ ⟨by decide, am_q1 (pk_rem (d := 4) (by omega) (by omega) (by omega)) rfl hq⟩)
theorem cl_29_1 (hl : l.stackTraces = false) (hd : 2 ≤ d) (hp : pl ≤ 32) (hs : pl / 4 ≤ sz) (hq : Q (.inl (some (Value.int (nI (sz - pl / 4))))) (wc1 x0 h c L sz pl rv tr tu r)) : am_Call l d 29 k [.ref 1] (wc1 x0 h c L sz pl rv tr tu r) Q :=
  op_29 hl (by omega) (Nat.le_of_ble_eq_true rfl) (fun J hJ => hJ [] 100 _ _ _ _ _ ⟨0, Nat.zero_le _, cl_27_1 hl (by omega) hp (am_q1 (pk_sub hs) rfl hq)⟩)
theorem cl_30_1 (hl : l.stackTraces = false) (hd : 1 ≤ d) {x : Int32} {j : Nat} (hx : x = nI j) (hj : j < 9) (hq : Q (.inl (some (Value.int (nI (L j))))) (wc1 x0 h c L sz pl rv tr tu r)) : am_Call l d 30 k [.ref 1, .int x] (wc1 x0 h c L sz pl rv tr tu r) Q := by
  subst hx
  exact op_30 hl hd (Nat.le_of_ble_eq_true rfl) (fun J hJ => hJ [] 100 _ _ _ _ _ ⟨fun q => absurd q (nI_pos (by omega)), fun _ => ble (a := 9) (b := j) (by omega) (by omega) (fun q => absurd q (by omega)) (fun _ => ⟨nI_in hj (by omega), am_q1 (congrArg (fun i => nI (L i)) (i_cl (by omega))) rfl hq⟩)⟩)
theorem cl_31_1 (hl : l.stackTraces = false) (hd : 1 ≤ d) {x : Int32} {j : Nat} (hx : x = nI j) (hj : j < 32) (hq : Q (.inl (some (Value.int (nI (c j))))) (wc1 x0 h c L sz pl rv tr tu r)) : am_Call l d 31 k [.ref 1, .int x] (wc1 x0 h c L sz pl rv tr tu r) Q := by
  subst hx
  exact op_31 hl hd (Nat.le_of_ble_eq_true rfl) (fun J hJ => hJ [] 100 _ _ _ _ _ ⟨fun q => absurd q (nI_pos (by omega)), fun _ => ble (a := 32) (b := j) (by omega) (by omega) (fun q => absurd q (by omega)) (fun _ => ⟨nI_in hj (by omega), am_q1 (congrArg (fun i => nI (c i)) (i_cl (by omega))) rfl hq⟩)⟩)
theorem cl_32_1 (hl : l.stackTraces = false) (hd : 2 ≤ d) {j : Nat} (hj : j < 32) (hL : L (j / 4) < 4) (hq : Q (.inl (some (Value.int (nI (who L j))))) (wc1 x0 h c L sz pl rv tr tu r)) : am_Call l d 32 k [.ref 1, .int (nI j)] (wc1 x0 h c L sz pl rv tr tu r) Q :=
  op_32 hl (by omega) (Nat.le_of_ble_eq_true rfl) (fun J hJ => hJ [] 100 _ _ _ _ _ ⟨by decide, 0, Nat.zero_le _, cl_30_1 hl (by omega) (pk_div (d := 4) (by omega) (by omega) (by omega)) (by omega) ⟨by decide, am_q1 (by
    show (nI (L (j / 4)) + (nI j - nI j / nI 4 * nI 4)) &&& 3 = _
    rw [pk_rem (d := 4) (by omega) (by omega) (by omega), nI_add, i_and3 (by omega)]
    rfl) rfl hq⟩⟩)
theorem cl_33_1 (hl : l.stackTraces = false) (hd : 2 ≤ d) {j p : Nat} (hj : j < 8) (hp : p < 4) (hL : L j < 4) (hq : Q (.inl (some (Value.int (nI (c (4 * j + (p + 4 - L j) % 4)))))) (wc1 x0 h c L sz pl rv tr tu r)) : am_Call l d 33 k [.ref 1, .int (nI j), .int (nI p)] (wc1 x0 h c L sz pl rv tr tu r) Q :=
  op_33 hl (by omega) (Nat.le_of_ble_eq_true rfl) (fun J hJ => hJ [] 100 _ _ _ _ _ ⟨0, Nat.zero_le _, cl_30_1 hl (by omega) rfl (by omega) ⟨0, Nat.zero_le _, cl_31_1 hl (by omega) (by
    show nI 4 * nI j + ((nI p - nI (L j)) &&& 3) = _
    rw [m_sub3 p hp _ hL, pk_mul, nI_add]) (by omega) hq⟩⟩)
theorem cl_35_1 (hl : l.stackTraces = false) (hd : 1 ≤ d) {a b : Nat} (ha : a < 32) (hb : b < 32) (ht : tr ≤ 4) (hq : Q (.inl (some (Value.int (bI (beatsN tr a b))))) (wc1 x0 h c L sz pl rv tr tu r)) : am_Call l d 35 k [.ref 1, .int (nI a), .int (nI b)] (wc1 x0 h c L sz pl rv tr tu r) Q := by
  refine op_35 hl hd (Nat.le_of_ble_eq_true rfl) (fun J hJ => hJ [4] 100 _ _ _ _ _ ⟨by decide, ?_⟩)
  have e1 : nI a / 8 = nI (a / 8) := pk_div (d := 8) (by omega) (by omega) (by omega)
  have e2 : nI b / 8 = nI (b / 8) := pk_div (d := 8) (by omega) (by omega) (by omega)
  refine am_jw (J := J) rfl (congrArg (fun x => [Value.int x]) e1) rfl ?_
  refine hJ [10] 100 _ _ _ _ _ ⟨by decide, ?_⟩
  refine am_jw (J := J) rfl (congrArg (fun x => [Value.int x, Value.int (nI (a / 8))]) e2) rfl ?_
  refine hJ [] 100 _ _ _ _ _ (beq (a := a / 8) (b := b / 8) (by omega) (by omega) (fun q => ble (a := a) (b := b) (by omega) (by omega) (fun q2 => ?_) (fun q2 => ?_)) (fun q => beq (a := a / 8) (b := tr) (by omega) (by omega) (fun q2 => ?_) (fun q2 => ?_)))
  · rw [beatsN, if_pos q, decide_eq_false (by omega)] at hq
    exact ⟨by decide, hq⟩
  · rw [beatsN, if_pos q, decide_eq_true (by omega)] at hq
    exact ⟨by decide, hq⟩
  · rw [beatsN, if_neg q, decide_eq_true q2] at hq
    exact ⟨by decide, hq⟩
  · rw [beatsN, if_neg q, decide_eq_false q2] at hq
    exact ⟨by decide, hq⟩
theorem cl_34_1 (hl : l.stackTraces = false) (hd : 2 ≤ d) {j m : Nat} (hj : 4 * j + m ≤ 32) (hj8 : j < 9) (hm : m ≤ 4) (hc : ∀ i, i < m → c (4 * j + i) < 32) (ht : tr ≤ 4) (hL : L j < 4) (hq : Q (.inl (some (Value.int (takeV (L j) (rowOf c j) tr m)))) (wc1 x0 h c L sz pl rv tr tu r)) : am_Call l d 34 k [.ref 1, .int (nI j), .int (nI m)] (wc1 x0 h c L sz pl rv tr tu r) Q := by
  refine op_34 hl (by omega) (Nat.le_of_ble_eq_true rfl) (fun J hJ => ?_)
  have hL : ∀ n i o, i + n = m → J k 8 [some (Value.ref 1), some (Value.int (nI j)), some (Value.int (nI m)), some (Value.int (takeV (L j) (rowOf c j) tr i)), some (Value.int (topV (rowOf c j) tr i)), some (Value.int (nI i)), o] [] (wc1 x0 h c L sz pl rv tr tu r) := by
    intro n
    induction n with
    | zero =>
      intro i o hi
      have : i = m := by omega
      subst this
      exact hJ [8] 100 _ _ _ _ _ (ble (a := i) (b := i) (by omega) (by omega) (fun _ => hq) (fun q => absurd q (by omega)))
    | succ n ih =>
      intro i o hi
      have hci := hc i (by omega)
      refine hJ [24] 100 _ _ _ _ _ (ble (a := m) (b := i) (by omega) (by omega) (fun q => absurd q (by omega)) (fun _ => ⟨0, Nat.zero_le _, cl_31_1 (j := 4 * j + i) hl (by omega) (by
        show nI 4 * nI j + nI i = _
        rw [pk_mul, nI_add]) (by omega) ?_⟩))
      have s57 : ∀ f t : Int32, f = takeV (L j) (rowOf c j) tr (i + 1) → t = topV (rowOf c j) tr (i + 1) → J k 57 [some (Value.ref 1), some (Value.int (nI j)), some (Value.int (nI m)), some (Value.int f), some (Value.int t), some (Value.int (nI i)), some (Value.int (nI (c (4 * j + i))))] [] (wc1 x0 h c L sz pl rv tr tu r) := by
        intro f t e1 e2
        rw [e1, e2]
        refine hJ [8] 100 _ _ _ _ _ ?_
        exact am_jw (J := J) (congrArg (fun x => [some (Value.ref 1), some (Value.int (nI j)), some (Value.int (nI m)), some (Value.int (takeV (L j) (rowOf c j) tr (i + 1))), some (Value.int (topV (rowOf c j) tr (i + 1))), some (Value.int x), some (Value.int (nI (c (4 * j + i))))]) (nI_1 i)) rfl rfl (ih (i + 1) (some (Value.int (nI (c (4 * j + i))))) (by omega))
      have s42 : BI (rowOf c j) tr (i + 1) = i → J k 42 [some (Value.ref 1), some (Value.int (nI j)), some (Value.int (nI m)), some (Value.int (takeV (L j) (rowOf c j) tr i)), some (Value.int (topV (rowOf c j) tr i)), some (Value.int (nI i)), some (Value.int (nI (c (4 * j + i))))] [] (wc1 x0 h c L sz pl rv tr tu r) := by
        intro e
        refine hJ [57] 100 _ _ _ _ _ ⟨0, Nat.zero_le _, cl_30_1 hl (by omega) rfl (by omega) (s57 _ _ ?_ ?_)⟩
        · show (nI (L j) + nI i) &&& 3 = _
          rw [nI_add, i_and3 (by omega), takeV, if_neg (Nat.succ_ne_zero i), e]
        · rw [topV, if_neg (Nat.succ_ne_zero i), e]
          rfl
      refine hJ [42, 57] 100 _ _ _ _ _ ?_
      by_cases hi0 : i = 0
      · subst hi0
        exact ⟨fun _ => s42 rfl, fun q => absurd rfl q⟩
      · have ht0 : takeV (L j) (rowOf c j) tr i = nI ((L j + BI (rowOf c j) tr i) % 4) := if_neg hi0
        have hb : BI (rowOf c j) tr i < i := by
          cases i with
          | zero => exact absurd rfl hi0
          | succ i => have := BI_lt (rowOf c j) tr i; omega
        have ht1 : topV (rowOf c j) tr i = nI (c (4 * j + BI (rowOf c j) tr i)) := if_neg hi0
        refine ⟨fun q => ?_, fun _ => ⟨0, Nat.zero_le _, am_ca (congrArg (fun x => [Value.ref 1, Value.int (nI (c (4 * j + i))), Value.int x]) ht1) (cl_35_1 hl (by omega) hci (hc _ (by omega)) ht (bz (fun q => ?_) (fun q => ?_)))⟩⟩
        · rw [ht0] at q
          exact absurd q ((by decide +kernel : ∀ x, x < 4 → ¬ nI x = -1) _ (Nat.mod_lt _ (by omega)))
        · refine s57 _ _ ?_ ?_
          · rw [takeV, takeV, if_neg hi0, if_neg (Nat.succ_ne_zero i), BI, if_neg hi0, show beatsN tr (rowOf c j i) (rowOf c j (BI (rowOf c j) tr i)) = false from q]
            rfl
          · rw [topV, topV, if_neg hi0, if_neg (Nat.succ_ne_zero i), BI, if_neg hi0, show beatsN tr (rowOf c j i) (rowOf c j (BI (rowOf c j) tr i)) = false from q]
            rfl
        · refine s42 ?_
          rw [BI, if_neg hi0, show beatsN tr (rowOf c j i) (rowOf c j (BI (rowOf c j) tr i)) = true from q]
          rfl
  exact hJ [8] 100 _ _ _ _ _ (hL m 0 none (by omega))
theorem cl_36_1 (hl : l.stackTraces = false) (hd : 2 ≤ d) (hp : pl ≤ 32) (ht : tu < 4) (hc : pl % 4 ≠ 0 → c (4 * (pl / 4)) < 32) (hq : Q (.inl (some (Value.int (RC h c pl tu)))) (wc1 x0 h c L sz pl rv tr tu r)) : am_Call l d 36 k [.ref 1] (wc1 x0 h c L sz pl rv tr tu r) Q := by
  refine op_36 hl (by omega) (Nat.le_of_ble_eq_true rfl) (fun J hJ => hJ [18] 100 _ _ _ _ _ ⟨0, Nat.zero_le _, cl_20_1 hl (by omega) ht ⟨0, Nat.zero_le _, cl_28_1 hl (by omega) hp (beq (a := pl % 4) (b := 0) (by omega) (by omega) (fun q => ?_) (fun q => ?_))⟩⟩)
  · rw [RC, if_pos q] at hq
    exact hq
  · rw [RC, if_neg q] at hq
    have hcc := hc q
    refine hJ [] 100 _ _ _ _ _ ⟨0, Nat.zero_le _, cl_27_1 hl (by omega) hp ⟨0, Nat.zero_le _, cl_31_1 hl (by omega) (pk_mul 4 (pl / 4)) (by omega) ⟨by decide, 0, Nat.zero_le _, am_ca (congrArg (fun x => [Value.int x]) (pk_div (d := 8) (by omega) (by omega) (by omega))) (cl_89 hl (by omega) ⟨fun q2 => ?_, fun q2 => ?_⟩)⟩⟩⟩
    · rw [if_pos q2] at hq
      exact hq
    · rw [if_neg q2] at hq
      exact hq
theorem cl_37_1 (hl : l.stackTraces = false) (hd : 3 ≤ d) {cd : Nat} (hcd : cd < 32) (hp : pl < 32) (ht : tu < 4) (htr : tr ≤ 4) (hc : ∀ i, i < pl → c i < 32) (hL : L (pl / 4) < 4) (hq : Q (.inl (some (Value.int (pRet c L pl tr cd)))) (wc1 x0 (upd h tu (sDel (h tu) cd)) (uN c pl cd) (pL c L pl tr cd) sz (pl + 1) (pRv h c pl rv tu cd) tr (pTu c L pl tr tu cd) r)) : am_Call l d 37 k [.ref 1, .int (nI cd)] (wc1 x0 h c L sz pl rv tr tu r) Q := by
  refine op_37 hl (by omega) (Nat.le_of_ble_eq_true rfl) (fun J hJ => ?_)
  have s52 : J k 52 [some (Value.ref 1), some (Value.int (nI cd)), some (Value.int (nI (pl / 4)))] [] (wc1 x0 h c L sz pl (pRv h c pl rv tu cd) tr tu r) := by
    refine hJ [95] 100 _ _ _ _ _ ⟨0, Nat.zero_le _, cl_20_1 hl (by omega) ht ⟨0, Nat.zero_le _, cl_88 hl (by omega) ⟨v_and3 ht, nI_in (by omega) (by omega), ?_⟩⟩⟩
    refine am_jw (J := J) (w' := (wc1 x0 (upd h tu (sDel (h tu) cd)) (uN c pl cd) L sz (pl + 1) (pRv h c pl rv tu cd) tr tu r)) rfl rfl ?_ ?_
    · dsimp only
      rw [c_and3 ht, i_cl (by omega), uN_i, nI_1]
      rfl
    · refine hJ [] 100 _ _ _ _ _ ⟨0, Nat.zero_le _, cl_28_1 hl (by omega) (by omega) (beq (a := (pl + 1) % 4) (b := 0) (by omega) (by omega) (fun q => ?_) (fun q => ?_))⟩
      · have hlt := Nat.mod_lt (L (pl / 4) + BI (rowOf (uN c pl cd) (pl / 4)) tr 4) (show 0 < 4 by omega)
        refine ⟨0, Nat.zero_le _, cl_34_1 (j := pl / 4) (m := 4) hl (by omega) (by omega) (by omega) (by omega) (fun i hi => ?_) htr hL ?_⟩
        · unfold uN
          split
          · exact hcd
          · exact hc _ (by omega)
        · rw [show takeV (L (pl / 4)) (rowOf (uN c pl cd) (pl / 4)) tr 4 = nI (pT c L pl tr cd) from rfl]
          rw [pRet, pL, pTu, if_pos q, if_pos q, if_pos q] at hq
          refine ⟨fun q2 => absurd q2 (nI_pos (by omega)), fun _ => blex (a := 9) (b := pl / 4 + 1) rfl (nI_1 _) (by omega) (by omega) (fun q2 => absurd q2 (by omega)) (fun _ => ⟨vin (nI_1 _) (by omega) (by omega), am_qw ?_ hq⟩)⟩
          rw [uN_gx (nI_1 (pl / 4)) (by omega)]
          rfl
      · refine ⟨0, Nat.zero_le _, cl_85 hl (by omega) (by omega) ?_⟩
        rw [pRet, pL, pTu, if_neg q, if_neg q, if_neg q] at hq
        exact hq
  refine hJ [52] 100 _ _ _ _ _ ⟨fun q => absurd q (nI_pos (by omega)), fun _ => bl (a := pl) (b := 32) (by omega) (by omega) (fun _ => ⟨0, Nat.zero_le _, cl_27_1 hl (by omega) (by omega) ⟨0, Nat.zero_le _, cl_36_1 hl (by omega) (by omega) ht (fun q => hc _ (by omega)) ⟨0, Nat.zero_le _, cl_86 hl (by omega) hcd (bz (fun q => ?_) (fun q => ?_))⟩⟩⟩) (fun q => absurd q (by omega))⟩
  · refine ⟨0, Nat.zero_le _, cl_87 hl (by omega) ?_⟩
    rw [pRv, q] at s52
    exact s52
  · rw [pRv, q] at s52
    exact s52
theorem cl_38_1 (hl : l.stackTraces = false) (hd : 3 ≤ d) (hp0 : 0 < pl) (hp : pl ≤ 32) (hL : L ((pl - 1) / 4) < 4) (hq : Q (.inl (some (Value.int (nI (c (pl - 1)))))) (wc1 x0 (upd h (who L (pl - 1)) (sAdd (h (who L (pl - 1))) (c (pl - 1)))) c L sz (pl - 1) (sDel rv (pl - 1)) tr (who L (pl - 1)) r)) : am_Call l d 38 k [.ref 1] (wc1 x0 h c L sz pl rv tr tu r) Q := by
  have hw : who L (pl - 1) < 4 := Nat.mod_lt _ (by omega)
  refine op_38 hl (by omega) (Nat.le_of_ble_eq_true rfl) (fun J hJ => hJ [19] 100 _ _ _ _ _ ⟨fun _ => ?_, fun q => absurd (nI_lt hp0 (by omega)) q⟩)
  refine am_jw (J := J) (w' := (wc1 x0 h c L sz (pl - 1) rv tr tu r)) rfl rfl ?_ ?_
  · dsimp only
    rw [show nI pl - 1 = nI (pl - 1) from pk_sub hp0]
    rfl
  · exact hJ [] 100 _ _ _ _ _ ⟨0, Nat.zero_le _, cl_31_1 hl (by omega) rfl (by omega) ⟨0, Nat.zero_le _, cl_32_1 hl (by omega) (by omega) hL ⟨0, Nat.zero_le _, cl_22_1 hl (by omega) hw ⟨0, Nat.zero_le _, cl_88 hl (by omega) hq⟩⟩⟩⟩
theorem cl_39_1 (hl : l.stackTraces = false) (hd : 3 ≤ d) {p : Nat} {b : Bool} (hp4 : p < 4) (hp : pl ≤ 32) (hL : ∀ i, i < pl → L (i / 4) < 4) (hb : b = true ↔ ∃ i, i < pl ∧ bt rv i = true ∧ who L i = p) (hq : Q (.inl (some (Value.int (bI b)))) (wc1 x0 h c L sz pl rv tr tu r)) : am_Call l d 39 k [.ref 1, .int (nI p)] (wc1 x0 h c L sz pl rv tr tu r) Q := by
  refine op_39 hl (by omega) (Nat.le_of_ble_eq_true rfl) (fun J hJ => ?_)
  have hL : ∀ n i, i + n = pl → (∀ j, j < i → ¬ (bt rv j = true ∧ who L j = p)) → J k 2 [some (Value.ref 1), some (Value.int (nI p)), some (Value.int (nI i))] [] (wc1 x0 h c L sz pl rv tr tu r) := by
    intro n
    induction n with
    | zero =>
      intro i hi hn
      have : i = pl := by omega
      subst this
      rw [show b = false from Bool.eq_false_iff.mpr (fun q2 => by
        obtain ⟨j, h1, h2⟩ := hb.mp q2
        exact hn j h1 h2)] at hq
      exact hJ [2] 100 _ _ _ _ _ (ble (a := i) (b := i) (by omega) (by omega) (fun _ => ⟨by decide, hq⟩) (fun q => absurd q (by omega)))
    | succ n ih =>
      intro i hi hn
      have hgo : ¬ (bt rv i = true ∧ who L i = p) → J k 32 [some (Value.ref 1), some (Value.int (nI p)), some (Value.int (nI i))] [] (wc1 x0 h c L sz pl rv tr tu r) := by
        intro hni
        refine hJ [2] 100 _ _ _ _ _ ?_
        exact am_jw (J := J) (congrArg (fun x => [some (Value.ref 1), some (Value.int (nI p)), some (Value.int x)]) (nI_1 i)) rfl rfl (ih (i + 1) (by omega) (fun j h1 => by
          by_cases e : j = i
          · rw [e]; exact hni
          · exact hn j (by omega)))
      have hw : who L i < 4 := Nat.mod_lt _ (by omega)
      refine hJ [32] 100 _ _ _ _ _ (ble (a := pl) (b := i) (by omega) (by omega) (fun q => absurd q (by omega)) (fun _ => ⟨0, Nat.zero_le _, cl_86 hl (by omega) (by omega) (bz (fun q => hgo (fun q2 => by rw [q] at q2; cases q2.1)) (fun q => ⟨0, Nat.zero_le _, cl_32_1 hl (by omega) (by omega) (hL i (by omega)) (beq (a := who L i) (b := p) (by omega) (by omega) (fun q2 => ?_) (fun q2 => hgo (fun q3 => q2 q3.2)))⟩))⟩))
      rw [hb.mpr ⟨i, by omega, q, q2⟩] at hq
      exact ⟨by decide, hq⟩
  exact hJ [2] 100 _ _ _ _ _ (hL pl 0 (by omega) (fun j hj => absurd hj (Nat.not_lt_zero j)))
theorem cl_25_5 (hl : l.stackTraces = false) (hd : 3 ≤ d) {m : Nat} {b : Bool} (hm : m < 2 ^ 31) (hb : b = true ↔ ∀ p, p < 4 → pc (h p) ≤ m) (hq : Q (.inl (some (Value.int (bI b)))) (wc5 x0 x1 x2 x3 x4 h c L sz pl rv tr tu r)) : am_Call l d 25 k [.ref 5, .int (nI m)] (wc5 x0 x1 x2 x3 x4 h c L sz pl rv tr tu r) Q := by
  refine op_25 hl (by omega) (Nat.le_of_ble_eq_true rfl) (fun J hJ => ?_)
  have hL : ∀ n i, i + n = 4 → (∀ p, p < i → pc (h p) ≤ m) → J k 2 [some (Value.ref 5), some (Value.int (nI m)), some (Value.int (nI i))] [] (wc5 x0 x1 x2 x3 x4 h c L sz pl rv tr tu r) := by
    intro n
    induction n with
    | zero =>
      intro i hi hp
      have : i = 4 := by omega
      subst this
      rw [hb.mpr hp] at hq
      exact hJ [2] 100 _ _ _ _ _ ⟨fun _ => ⟨by decide, hq⟩, fun q => absurd (by decide) q⟩
    | succ n ih =>
      intro i hi hp
      have h32 := pc_le (h i)
      refine hJ [2] 100 _ _ _ _ _ (ble (a := 4) (b := i) (by omega) (by omega) (fun q => absurd q (by omega)) (fun _ => ⟨0, Nat.zero_le _, cl_21_5 hl (by omega) (by omega) (ble (a := pc (h i)) (b := m) (by omega) (by omega) (fun q => ?_) (fun q => ?_))⟩))
      · exact am_jw (J := J) (congrArg (fun x => [some (Value.ref 5), some (Value.int (nI m)), some (Value.int x)]) (nI_1 i)) rfl rfl (ih (i + 1) (by omega) (fun p h1 => by
          by_cases e : p = i
          · rw [e]; exact q
          · exact hp p (by omega)))
      · have e : b = false := Bool.eq_false_iff.mpr (fun q2 => absurd (hb.mp q2 i (by omega)) (by omega))
        rw [e] at hq
        exact ⟨by decide, hq⟩
  exact hJ [2] 100 _ _ _ _ _ (hL 4 0 rfl (fun p hp => absurd hp (Nat.not_lt_zero p)))
theorem cl_24_5 (hl : l.stackTraces = false) (hd : 4 ≤ d) {b : Bool} (hb : b = true ↔ ∀ p, p < 4 → pc (h p) ≤ 0) (hq : Q (.inl (some (Value.int (bI b)))) (wc5 x0 x1 x2 x3 x4 h c L sz pl rv tr tu r)) : am_Call l d 24 k [.ref 5] (wc5 x0 x1 x2 x3 x4 h c L sz pl rv tr tu r) Q :=
  op_24 hl (by omega) (Nat.le_of_ble_eq_true rfl) (fun J hJ => hJ [] 100 _ _ _ _ _ ⟨0, Nat.zero_le _, cl_25_5 (m := 0) hl (by omega) (by omega) hb (am_qz rfl rfl hq)⟩)
theorem cl_26_5 (hl : l.stackTraces = false) (hd : 3 ≤ d) {b : Bool} (hb : b = true ↔ (∀ p, p < 4 → pc (h p) = pc (h 0)) ∧ 0 < pc (h 0)) (hq : Q (.inl (some (Value.int (bI b)))) (wc5 x0 x1 x2 x3 x4 h c L sz pl rv tr tu r)) : am_Call l d 26 k [.ref 5] (wc5 x0 x1 x2 x3 x4 h c L sz pl rv tr tu r) Q := by
  refine op_26 hl (by omega) (Nat.le_of_ble_eq_true rfl) (fun J hJ => ?_)
  have h0 := pc_le (h 0)
  have hL : ∀ n i, i + n = 4 → (∀ p, p < i → pc (h p) = pc (h 0)) → J k 2 [some (Value.ref 5), some (Value.int (nI i))] [] (wc5 x0 x1 x2 x3 x4 h c L sz pl rv tr tu r) := by
    intro n
    induction n with
    | zero =>
      intro i hi hp
      have : i = 4 := by omega
      subst this
      refine hJ [2] 100 _ _ _ _ _ ⟨fun _ => ⟨0, Nat.zero_le _, cl_21_5 (p := 0) hl (by omega) (by omega) (ble (a := pc (h 0)) (b := 0) (by omega) (by omega) (fun q => ?_) (fun q => ?_))⟩, fun q => absurd (by decide) q⟩
      · rw [show b = false from Bool.eq_false_iff.mpr (fun q2 => absurd (hb.mp q2).2 (by omega))] at hq
        exact ⟨by decide, hq⟩
      · rw [hb.mpr ⟨hp, q⟩] at hq
        exact ⟨by decide, hq⟩
    | succ n ih =>
      intro i hi hp
      have h32 := pc_le (h i)
      refine hJ [2] 100 _ _ _ _ _ (ble (a := 4) (b := i) (by omega) (by omega) (fun q => absurd q (by omega)) (fun _ => ⟨0, Nat.zero_le _, cl_21_5 hl (by omega) (by omega) ⟨0, Nat.zero_le _, cl_21_5 (p := 0) hl (by omega) (by omega) (beq (a := pc (h i)) (b := pc (h 0)) (by omega) (by omega) (fun q => ?_) (fun q => ?_))⟩⟩))
      · exact am_jw (J := J) (congrArg (fun x => [some (Value.ref 5), some (Value.int x)]) (nI_1 i)) rfl rfl (ih (i + 1) (by omega) (fun p h1 => by
          by_cases e : p = i
          · rw [e]; exact q
          · exact hp p (by omega)))
      · rw [show b = false from Bool.eq_false_iff.mpr (fun q2 => q ((hb.mp q2).1 i (by omega)))] at hq
        exact ⟨by decide, hq⟩
  exact hJ [2] 100 _ _ _ _ _ (hL 3 1 rfl (fun p hp => by rw [show p = 0 by omega]))
theorem cl_27_5 (hl : l.stackTraces = false) (hd : 1 ≤ d) (hp : pl ≤ 32) (hq : Q (.inl (some (Value.int (nI (pl / 4))))) (wc5 x0 x1 x2 x3 x4 h c L sz pl rv tr tu r)) : am_Call l d 27 k [.ref 5] (wc5 x0 x1 x2 x3 x4 h c L sz pl rv tr tu r) Q :=
  op_27 hl hd (Nat.le_of_ble_eq_true rfl) (fun J hJ => hJ [] 100 _ _ _ _ _ ⟨by decide, am_q1 (pk_div (d := 4) (by omega) (by omega) (by omega)) rfl hq⟩)
theorem cl_28_5 (hl : l.stackTraces = false) (hd : 1 ≤ d) (hp : pl ≤ 32) (hq : Q (.inl (some (Value.int (nI (pl % 4))))) (wc5 x0 x1 x2 x3 x4 h c L sz pl rv tr tu r)) : am_Call l d 28 k [.ref 5] (wc5 x0 x1 x2 x3 x4 h c L sz pl rv tr tu r) Q :=
  op_28 hl hd (Nat.le_of_ble_eq_true rfl) (fun J hJ => hJ [] 100 _ _ _ _ _ ⟨by decide, am_q1 (pk_rem (d := 4) (by omega) (by omega) (by omega)) rfl hq⟩)
theorem cl_29_5 (hl : l.stackTraces = false) (hd : 2 ≤ d) (hp : pl ≤ 32) (hs : pl / 4 ≤ sz) (hq : Q (.inl (some (Value.int (nI (sz - pl / 4))))) (wc5 x0 x1 x2 x3 x4 h c L sz pl rv tr tu r)) : am_Call l d 29 k [.ref 5] (wc5 x0 x1 x2 x3 x4 h c L sz pl rv tr tu r) Q :=
  op_29 hl (by omega) (Nat.le_of_ble_eq_true rfl) (fun J hJ => hJ [] 100 _ _ _ _ _ ⟨0, Nat.zero_le _, cl_27_5 hl (by omega) hp (am_q1 (pk_sub hs) rfl hq)⟩)
theorem cl_30_5 (hl : l.stackTraces = false) (hd : 1 ≤ d) {x : Int32} {j : Nat} (hx : x = nI j) (hj : j < 9) (hq : Q (.inl (some (Value.int (nI (L j))))) (wc5 x0 x1 x2 x3 x4 h c L sz pl rv tr tu r)) : am_Call l d 30 k [.ref 5, .int x] (wc5 x0 x1 x2 x3 x4 h c L sz pl rv tr tu r) Q := by
  subst hx
  exact op_30 hl hd (Nat.le_of_ble_eq_true rfl) (fun J hJ => hJ [] 100 _ _ _ _ _ ⟨fun q => absurd q (nI_pos (by omega)), fun _ => ble (a := 9) (b := j) (by omega) (by omega) (fun q => absurd q (by omega)) (fun _ => ⟨nI_in hj (by omega), am_q1 (congrArg (fun i => nI (L i)) (i_cl (by omega))) rfl hq⟩)⟩)
theorem cl_31_5 (hl : l.stackTraces = false) (hd : 1 ≤ d) {x : Int32} {j : Nat} (hx : x = nI j) (hj : j < 32) (hq : Q (.inl (some (Value.int (nI (c j))))) (wc5 x0 x1 x2 x3 x4 h c L sz pl rv tr tu r)) : am_Call l d 31 k [.ref 5, .int x] (wc5 x0 x1 x2 x3 x4 h c L sz pl rv tr tu r) Q := by
  subst hx
  exact op_31 hl hd (Nat.le_of_ble_eq_true rfl) (fun J hJ => hJ [] 100 _ _ _ _ _ ⟨fun q => absurd q (nI_pos (by omega)), fun _ => ble (a := 32) (b := j) (by omega) (by omega) (fun q => absurd q (by omega)) (fun _ => ⟨nI_in hj (by omega), am_q1 (congrArg (fun i => nI (c i)) (i_cl (by omega))) rfl hq⟩)⟩)
theorem cl_32_5 (hl : l.stackTraces = false) (hd : 2 ≤ d) {j : Nat} (hj : j < 32) (hL : L (j / 4) < 4) (hq : Q (.inl (some (Value.int (nI (who L j))))) (wc5 x0 x1 x2 x3 x4 h c L sz pl rv tr tu r)) : am_Call l d 32 k [.ref 5, .int (nI j)] (wc5 x0 x1 x2 x3 x4 h c L sz pl rv tr tu r) Q :=
  op_32 hl (by omega) (Nat.le_of_ble_eq_true rfl) (fun J hJ => hJ [] 100 _ _ _ _ _ ⟨by decide, 0, Nat.zero_le _, cl_30_5 hl (by omega) (pk_div (d := 4) (by omega) (by omega) (by omega)) (by omega) ⟨by decide, am_q1 (by
    show (nI (L (j / 4)) + (nI j - nI j / nI 4 * nI 4)) &&& 3 = _
    rw [pk_rem (d := 4) (by omega) (by omega) (by omega), nI_add, i_and3 (by omega)]
    rfl) rfl hq⟩⟩)
theorem cl_33_5 (hl : l.stackTraces = false) (hd : 2 ≤ d) {j p : Nat} (hj : j < 8) (hp : p < 4) (hL : L j < 4) (hq : Q (.inl (some (Value.int (nI (c (4 * j + (p + 4 - L j) % 4)))))) (wc5 x0 x1 x2 x3 x4 h c L sz pl rv tr tu r)) : am_Call l d 33 k [.ref 5, .int (nI j), .int (nI p)] (wc5 x0 x1 x2 x3 x4 h c L sz pl rv tr tu r) Q :=
  op_33 hl (by omega) (Nat.le_of_ble_eq_true rfl) (fun J hJ => hJ [] 100 _ _ _ _ _ ⟨0, Nat.zero_le _, cl_30_5 hl (by omega) rfl (by omega) ⟨0, Nat.zero_le _, cl_31_5 hl (by omega) (by
    show nI 4 * nI j + ((nI p - nI (L j)) &&& 3) = _
    rw [m_sub3 p hp _ hL, pk_mul, nI_add]) (by omega) hq⟩⟩)
theorem cl_35_5 (hl : l.stackTraces = false) (hd : 1 ≤ d) {a b : Nat} (ha : a < 32) (hb : b < 32) (ht : tr ≤ 4) (hq : Q (.inl (some (Value.int (bI (beatsN tr a b))))) (wc5 x0 x1 x2 x3 x4 h c L sz pl rv tr tu r)) : am_Call l d 35 k [.ref 5, .int (nI a), .int (nI b)] (wc5 x0 x1 x2 x3 x4 h c L sz pl rv tr tu r) Q := by
  refine op_35 hl hd (Nat.le_of_ble_eq_true rfl) (fun J hJ => hJ [4] 100 _ _ _ _ _ ⟨by decide, ?_⟩)
  have e1 : nI a / 8 = nI (a / 8) := pk_div (d := 8) (by omega) (by omega) (by omega)
  have e2 : nI b / 8 = nI (b / 8) := pk_div (d := 8) (by omega) (by omega) (by omega)
  refine am_jw (J := J) rfl (congrArg (fun x => [Value.int x]) e1) rfl ?_
  refine hJ [10] 100 _ _ _ _ _ ⟨by decide, ?_⟩
  refine am_jw (J := J) rfl (congrArg (fun x => [Value.int x, Value.int (nI (a / 8))]) e2) rfl ?_
  refine hJ [] 100 _ _ _ _ _ (beq (a := a / 8) (b := b / 8) (by omega) (by omega) (fun q => ble (a := a) (b := b) (by omega) (by omega) (fun q2 => ?_) (fun q2 => ?_)) (fun q => beq (a := a / 8) (b := tr) (by omega) (by omega) (fun q2 => ?_) (fun q2 => ?_)))
  · rw [beatsN, if_pos q, decide_eq_false (by omega)] at hq
    exact ⟨by decide, hq⟩
  · rw [beatsN, if_pos q, decide_eq_true (by omega)] at hq
    exact ⟨by decide, hq⟩
  · rw [beatsN, if_neg q, decide_eq_true q2] at hq
    exact ⟨by decide, hq⟩
  · rw [beatsN, if_neg q, decide_eq_false q2] at hq
    exact ⟨by decide, hq⟩
theorem cl_34_5 (hl : l.stackTraces = false) (hd : 2 ≤ d) {j m : Nat} (hj : 4 * j + m ≤ 32) (hj8 : j < 9) (hm : m ≤ 4) (hc : ∀ i, i < m → c (4 * j + i) < 32) (ht : tr ≤ 4) (hL : L j < 4) (hq : Q (.inl (some (Value.int (takeV (L j) (rowOf c j) tr m)))) (wc5 x0 x1 x2 x3 x4 h c L sz pl rv tr tu r)) : am_Call l d 34 k [.ref 5, .int (nI j), .int (nI m)] (wc5 x0 x1 x2 x3 x4 h c L sz pl rv tr tu r) Q := by
  refine op_34 hl (by omega) (Nat.le_of_ble_eq_true rfl) (fun J hJ => ?_)
  have hL : ∀ n i o, i + n = m → J k 8 [some (Value.ref 5), some (Value.int (nI j)), some (Value.int (nI m)), some (Value.int (takeV (L j) (rowOf c j) tr i)), some (Value.int (topV (rowOf c j) tr i)), some (Value.int (nI i)), o] [] (wc5 x0 x1 x2 x3 x4 h c L sz pl rv tr tu r) := by
    intro n
    induction n with
    | zero =>
      intro i o hi
      have : i = m := by omega
      subst this
      exact hJ [8] 100 _ _ _ _ _ (ble (a := i) (b := i) (by omega) (by omega) (fun _ => hq) (fun q => absurd q (by omega)))
    | succ n ih =>
      intro i o hi
      have hci := hc i (by omega)
      refine hJ [24] 100 _ _ _ _ _ (ble (a := m) (b := i) (by omega) (by omega) (fun q => absurd q (by omega)) (fun _ => ⟨0, Nat.zero_le _, cl_31_5 (j := 4 * j + i) hl (by omega) (by
        show nI 4 * nI j + nI i = _
        rw [pk_mul, nI_add]) (by omega) ?_⟩))
      have s57 : ∀ f t : Int32, f = takeV (L j) (rowOf c j) tr (i + 1) → t = topV (rowOf c j) tr (i + 1) → J k 57 [some (Value.ref 5), some (Value.int (nI j)), some (Value.int (nI m)), some (Value.int f), some (Value.int t), some (Value.int (nI i)), some (Value.int (nI (c (4 * j + i))))] [] (wc5 x0 x1 x2 x3 x4 h c L sz pl rv tr tu r) := by
        intro f t e1 e2
        rw [e1, e2]
        refine hJ [8] 100 _ _ _ _ _ ?_
        exact am_jw (J := J) (congrArg (fun x => [some (Value.ref 5), some (Value.int (nI j)), some (Value.int (nI m)), some (Value.int (takeV (L j) (rowOf c j) tr (i + 1))), some (Value.int (topV (rowOf c j) tr (i + 1))), some (Value.int x), some (Value.int (nI (c (4 * j + i))))]) (nI_1 i)) rfl rfl (ih (i + 1) (some (Value.int (nI (c (4 * j + i))))) (by omega))
      have s42 : BI (rowOf c j) tr (i + 1) = i → J k 42 [some (Value.ref 5), some (Value.int (nI j)), some (Value.int (nI m)), some (Value.int (takeV (L j) (rowOf c j) tr i)), some (Value.int (topV (rowOf c j) tr i)), some (Value.int (nI i)), some (Value.int (nI (c (4 * j + i))))] [] (wc5 x0 x1 x2 x3 x4 h c L sz pl rv tr tu r) := by
        intro e
        refine hJ [57] 100 _ _ _ _ _ ⟨0, Nat.zero_le _, cl_30_5 hl (by omega) rfl (by omega) (s57 _ _ ?_ ?_)⟩
        · show (nI (L j) + nI i) &&& 3 = _
          rw [nI_add, i_and3 (by omega), takeV, if_neg (Nat.succ_ne_zero i), e]
        · rw [topV, if_neg (Nat.succ_ne_zero i), e]
          rfl
      refine hJ [42, 57] 100 _ _ _ _ _ ?_
      by_cases hi0 : i = 0
      · subst hi0
        exact ⟨fun _ => s42 rfl, fun q => absurd rfl q⟩
      · have ht0 : takeV (L j) (rowOf c j) tr i = nI ((L j + BI (rowOf c j) tr i) % 4) := if_neg hi0
        have hb : BI (rowOf c j) tr i < i := by
          cases i with
          | zero => exact absurd rfl hi0
          | succ i => have := BI_lt (rowOf c j) tr i; omega
        have ht1 : topV (rowOf c j) tr i = nI (c (4 * j + BI (rowOf c j) tr i)) := if_neg hi0
        refine ⟨fun q => ?_, fun _ => ⟨0, Nat.zero_le _, am_ca (congrArg (fun x => [Value.ref 5, Value.int (nI (c (4 * j + i))), Value.int x]) ht1) (cl_35_5 hl (by omega) hci (hc _ (by omega)) ht (bz (fun q => ?_) (fun q => ?_)))⟩⟩
        · rw [ht0] at q
          exact absurd q ((by decide +kernel : ∀ x, x < 4 → ¬ nI x = -1) _ (Nat.mod_lt _ (by omega)))
        · refine s57 _ _ ?_ ?_
          · rw [takeV, takeV, if_neg hi0, if_neg (Nat.succ_ne_zero i), BI, if_neg hi0, show beatsN tr (rowOf c j i) (rowOf c j (BI (rowOf c j) tr i)) = false from q]
            rfl
          · rw [topV, topV, if_neg hi0, if_neg (Nat.succ_ne_zero i), BI, if_neg hi0, show beatsN tr (rowOf c j i) (rowOf c j (BI (rowOf c j) tr i)) = false from q]
            rfl
        · refine s42 ?_
          rw [BI, if_neg hi0, show beatsN tr (rowOf c j i) (rowOf c j (BI (rowOf c j) tr i)) = true from q]
          rfl
  exact hJ [8] 100 _ _ _ _ _ (hL m 0 none (by omega))
theorem cl_36_5 (hl : l.stackTraces = false) (hd : 2 ≤ d) (hp : pl ≤ 32) (ht : tu < 4) (hc : pl % 4 ≠ 0 → c (4 * (pl / 4)) < 32) (hq : Q (.inl (some (Value.int (RC h c pl tu)))) (wc5 x0 x1 x2 x3 x4 h c L sz pl rv tr tu r)) : am_Call l d 36 k [.ref 5] (wc5 x0 x1 x2 x3 x4 h c L sz pl rv tr tu r) Q := by
  refine op_36 hl (by omega) (Nat.le_of_ble_eq_true rfl) (fun J hJ => hJ [18] 100 _ _ _ _ _ ⟨0, Nat.zero_le _, cl_20_5 hl (by omega) ht ⟨0, Nat.zero_le _, cl_28_5 hl (by omega) hp (beq (a := pl % 4) (b := 0) (by omega) (by omega) (fun q => ?_) (fun q => ?_))⟩⟩)
  · rw [RC, if_pos q] at hq
    exact hq
  · rw [RC, if_neg q] at hq
    have hcc := hc q
    refine hJ [] 100 _ _ _ _ _ ⟨0, Nat.zero_le _, cl_27_5 hl (by omega) hp ⟨0, Nat.zero_le _, cl_31_5 hl (by omega) (pk_mul 4 (pl / 4)) (by omega) ⟨by decide, 0, Nat.zero_le _, am_ca (congrArg (fun x => [Value.int x]) (pk_div (d := 8) (by omega) (by omega) (by omega))) (cl_89 hl (by omega) ⟨fun q2 => ?_, fun q2 => ?_⟩)⟩⟩⟩
    · rw [if_pos q2] at hq
      exact hq
    · rw [if_neg q2] at hq
      exact hq
theorem cl_37_5 (hl : l.stackTraces = false) (hd : 3 ≤ d) {cd : Nat} (hcd : cd < 32) (hp : pl < 32) (ht : tu < 4) (htr : tr ≤ 4) (hc : ∀ i, i < pl → c i < 32) (hL : L (pl / 4) < 4) (hq : Q (.inl (some (Value.int (pRet c L pl tr cd)))) (wc5 x0 x1 x2 x3 x4 (upd h tu (sDel (h tu) cd)) (uN c pl cd) (pL c L pl tr cd) sz (pl + 1) (pRv h c pl rv tu cd) tr (pTu c L pl tr tu cd) r)) : am_Call l d 37 k [.ref 5, .int (nI cd)] (wc5 x0 x1 x2 x3 x4 h c L sz pl rv tr tu r) Q := by
  refine op_37 hl (by omega) (Nat.le_of_ble_eq_true rfl) (fun J hJ => ?_)
  have s52 : J k 52 [some (Value.ref 5), some (Value.int (nI cd)), some (Value.int (nI (pl / 4)))] [] (wc5 x0 x1 x2 x3 x4 h c L sz pl (pRv h c pl rv tu cd) tr tu r) := by
    refine hJ [95] 100 _ _ _ _ _ ⟨0, Nat.zero_le _, cl_20_5 hl (by omega) ht ⟨0, Nat.zero_le _, cl_88 hl (by omega) ⟨v_and3 ht, nI_in (by omega) (by omega), ?_⟩⟩⟩
    refine am_jw (J := J) (w' := (wc5 x0 x1 x2 x3 x4 (upd h tu (sDel (h tu) cd)) (uN c pl cd) L sz (pl + 1) (pRv h c pl rv tu cd) tr tu r)) rfl rfl ?_ ?_
    · dsimp only
      rw [c_and3 ht, i_cl (by omega), uN_i, nI_1]
      rfl
    · refine hJ [] 100 _ _ _ _ _ ⟨0, Nat.zero_le _, cl_28_5 hl (by omega) (by omega) (beq (a := (pl + 1) % 4) (b := 0) (by omega) (by omega) (fun q => ?_) (fun q => ?_))⟩
      · have hlt := Nat.mod_lt (L (pl / 4) + BI (rowOf (uN c pl cd) (pl / 4)) tr 4) (show 0 < 4 by omega)
        refine ⟨0, Nat.zero_le _, cl_34_5 (j := pl / 4) (m := 4) hl (by omega) (by omega) (by omega) (by omega) (fun i hi => ?_) htr hL ?_⟩
        · unfold uN
          split
          · exact hcd
          · exact hc _ (by omega)
        · rw [show takeV (L (pl / 4)) (rowOf (uN c pl cd) (pl / 4)) tr 4 = nI (pT c L pl tr cd) from rfl]
          rw [pRet, pL, pTu, if_pos q, if_pos q, if_pos q] at hq
          refine ⟨fun q2 => absurd q2 (nI_pos (by omega)), fun _ => blex (a := 9) (b := pl / 4 + 1) rfl (nI_1 _) (by omega) (by omega) (fun q2 => absurd q2 (by omega)) (fun _ => ⟨vin (nI_1 _) (by omega) (by omega), am_qw ?_ hq⟩)⟩
          rw [uN_gx (nI_1 (pl / 4)) (by omega)]
          rfl
      · refine ⟨0, Nat.zero_le _, cl_85 hl (by omega) (by omega) ?_⟩
        rw [pRet, pL, pTu, if_neg q, if_neg q, if_neg q] at hq
        exact hq
  refine hJ [52] 100 _ _ _ _ _ ⟨fun q => absurd q (nI_pos (by omega)), fun _ => bl (a := pl) (b := 32) (by omega) (by omega) (fun _ => ⟨0, Nat.zero_le _, cl_27_5 hl (by omega) (by omega) ⟨0, Nat.zero_le _, cl_36_5 hl (by omega) (by omega) ht (fun q => hc _ (by omega)) ⟨0, Nat.zero_le _, cl_86 hl (by omega) hcd (bz (fun q => ?_) (fun q => ?_))⟩⟩⟩) (fun q => absurd q (by omega))⟩
  · refine ⟨0, Nat.zero_le _, cl_87 hl (by omega) ?_⟩
    rw [pRv, q] at s52
    exact s52
  · rw [pRv, q] at s52
    exact s52
theorem cl_38_5 (hl : l.stackTraces = false) (hd : 3 ≤ d) (hp0 : 0 < pl) (hp : pl ≤ 32) (hL : L ((pl - 1) / 4) < 4) (hq : Q (.inl (some (Value.int (nI (c (pl - 1)))))) (wc5 x0 x1 x2 x3 x4 (upd h (who L (pl - 1)) (sAdd (h (who L (pl - 1))) (c (pl - 1)))) c L sz (pl - 1) (sDel rv (pl - 1)) tr (who L (pl - 1)) r)) : am_Call l d 38 k [.ref 5] (wc5 x0 x1 x2 x3 x4 h c L sz pl rv tr tu r) Q := by
  have hw : who L (pl - 1) < 4 := Nat.mod_lt _ (by omega)
  refine op_38 hl (by omega) (Nat.le_of_ble_eq_true rfl) (fun J hJ => hJ [19] 100 _ _ _ _ _ ⟨fun _ => ?_, fun q => absurd (nI_lt hp0 (by omega)) q⟩)
  refine am_jw (J := J) (w' := (wc5 x0 x1 x2 x3 x4 h c L sz (pl - 1) rv tr tu r)) rfl rfl ?_ ?_
  · dsimp only
    rw [show nI pl - 1 = nI (pl - 1) from pk_sub hp0]
    rfl
  · exact hJ [] 100 _ _ _ _ _ ⟨0, Nat.zero_le _, cl_31_5 hl (by omega) rfl (by omega) ⟨0, Nat.zero_le _, cl_32_5 hl (by omega) (by omega) hL ⟨0, Nat.zero_le _, cl_22_5 hl (by omega) hw ⟨0, Nat.zero_le _, cl_88 hl (by omega) hq⟩⟩⟩⟩
theorem cl_39_5 (hl : l.stackTraces = false) (hd : 3 ≤ d) {p : Nat} {b : Bool} (hp4 : p < 4) (hp : pl ≤ 32) (hL : ∀ i, i < pl → L (i / 4) < 4) (hb : b = true ↔ ∃ i, i < pl ∧ bt rv i = true ∧ who L i = p) (hq : Q (.inl (some (Value.int (bI b)))) (wc5 x0 x1 x2 x3 x4 h c L sz pl rv tr tu r)) : am_Call l d 39 k [.ref 5, .int (nI p)] (wc5 x0 x1 x2 x3 x4 h c L sz pl rv tr tu r) Q := by
  refine op_39 hl (by omega) (Nat.le_of_ble_eq_true rfl) (fun J hJ => ?_)
  have hL : ∀ n i, i + n = pl → (∀ j, j < i → ¬ (bt rv j = true ∧ who L j = p)) → J k 2 [some (Value.ref 5), some (Value.int (nI p)), some (Value.int (nI i))] [] (wc5 x0 x1 x2 x3 x4 h c L sz pl rv tr tu r) := by
    intro n
    induction n with
    | zero =>
      intro i hi hn
      have : i = pl := by omega
      subst this
      rw [show b = false from Bool.eq_false_iff.mpr (fun q2 => by
        obtain ⟨j, h1, h2⟩ := hb.mp q2
        exact hn j h1 h2)] at hq
      exact hJ [2] 100 _ _ _ _ _ (ble (a := i) (b := i) (by omega) (by omega) (fun _ => ⟨by decide, hq⟩) (fun q => absurd q (by omega)))
    | succ n ih =>
      intro i hi hn
      have hgo : ¬ (bt rv i = true ∧ who L i = p) → J k 32 [some (Value.ref 5), some (Value.int (nI p)), some (Value.int (nI i))] [] (wc5 x0 x1 x2 x3 x4 h c L sz pl rv tr tu r) := by
        intro hni
        refine hJ [2] 100 _ _ _ _ _ ?_
        exact am_jw (J := J) (congrArg (fun x => [some (Value.ref 5), some (Value.int (nI p)), some (Value.int x)]) (nI_1 i)) rfl rfl (ih (i + 1) (by omega) (fun j h1 => by
          by_cases e : j = i
          · rw [e]; exact hni
          · exact hn j (by omega)))
      have hw : who L i < 4 := Nat.mod_lt _ (by omega)
      refine hJ [32] 100 _ _ _ _ _ (ble (a := pl) (b := i) (by omega) (by omega) (fun q => absurd q (by omega)) (fun _ => ⟨0, Nat.zero_le _, cl_86 hl (by omega) (by omega) (bz (fun q => hgo (fun q2 => by rw [q] at q2; cases q2.1)) (fun q => ⟨0, Nat.zero_le _, cl_32_5 hl (by omega) (by omega) (hL i (by omega)) (beq (a := who L i) (b := p) (by omega) (by omega) (fun q2 => ?_) (fun q2 => hgo (fun q3 => q2 q3.2)))⟩))⟩))
      rw [hb.mpr ⟨i, by omega, q, q2⟩] at hq
      exact ⟨by decide, hq⟩
  exact hJ [2] 100 _ _ _ _ _ (hL pl 0 (by omega) (fun j hj => absurd hj (Nat.not_lt_zero j)))
theorem cpy_x {f g : Nat → Int32} {x : Int32} {n j : Nat} (e : x.toNatClampNeg = n) (h : j < n) : va_cpy f g (Int32.toNatClampNeg 0) (Int32.toNatClampNeg 0) x.toNatClampNeg j = f j := by
  rw [e, show Int32.toNatClampNeg 0 = 0 by decide +kernel]
  exact cpy_all h
set_option maxRecDepth 20000 in
theorem cl_18 (hl : l.stackTraces = false) (hd : 1 ≤ d) {h' : Nat → Int32} {c' L' : Nat → Nat} {sz' pl' tr' tu' : Nat} {rv' : Int32} (hq : Q (.inl none) (wc1 x0 h c L sz pl rv tr tu (cc5 h c L sz pl rv tr tu r))) : am_Call l d 18 k [.ref 5, .ref 1] (wc1 x0 h c L sz pl rv tr tu (cc5 h' c' L' sz' pl' rv' tr' tu' r)) Q :=
  op_18 hl hd (Nat.le_of_ble_eq_true rfl) (fun J hJ => hJ [] 100 _ _ _ _ _ ⟨⟨by decide +kernel, by decide +kernel, by decide +kernel, by decide +kernel, by decide +kernel⟩, h, fun j hj => cpy_x (n := 4) (by decide +kernel) hj, ⟨by decide +kernel, by decide +kernel, by decide +kernel, by decide +kernel, by decide +kernel⟩, (fun i => nI (c i)), fun j hj => cpy_x (n := 32) (by decide +kernel) hj, ⟨by decide +kernel, by decide +kernel, by decide +kernel, by decide +kernel, by decide +kernel⟩, (fun i => nI (L i)), fun j hj => cpy_x (n := 9) (by decide +kernel) hj, hq⟩)
end
