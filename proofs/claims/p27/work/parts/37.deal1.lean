/-! the law's Deal (at place 0), its table (at place 1): its world; calls of the table; the small methods -/
def zb (s : Int32) : Nat → Int32 := fun i => bI (bt s i)
def dq (hg : Nat → Int32) (e19 e20 e21 e22 : am_E) (Rv Iw Ho Go So : Nat → Int32) (r : am_M) : am_M :=
  .inl (4, 4, .inr (.inr (am_rows 14))) :: .inl (1, 32, .inl (zb (hg 0))) :: .inl (1, 32, .inl (zb (hg 1))) :: .inl (1, 32, .inl (zb (hg 2))) :: .inl (1, 32, .inl (zb (hg 3))) :: e19 :: e20 :: e21 :: e22 :: .inl (1, 4, .inl Rv) :: .inl (1, 4, .inl Iw) :: .inl (1, 4, .inl Ho) :: .inl (0, 2, .inl Go) :: .inl (0, 2, .inl So) :: r
def wdc (dr gs gd gz bq kq tq ld lq : Nat) (dc : Int32) : am_E := .inr (3, [.ref 1, .float 0, .int (nI dr), .int (nI gs), .int (nI gd), .int (nI gz), .ref 14, .ref bq, .ref kq, .ref tq, .int (nI ld), .ref lq, .ref 23, .ref 24, .ref 25, .ref 26, .ref 27, .int dc])
def wd (dr gs gd gz bq kq tq ld lq : Nat) (dc : Int32) (st : Nat) (dn : Int32) (h : Nat → Int32) (c L : Nat → Nat) (sz pl : Nat) (rv : Int32) (tr tu : Nat) (t : am_T5) (b : Nat → Nat) (n dl ll lb ti pa : Nat) (tk : Nat → Nat) (sc : Nat → Int32) (hg : Nat → Int32) (e19 e20 e21 e22 : am_E) (Rv Iw Ho Go So : Nat → Int32) (r : am_M) : am_M :=
  .inr (3, [.ref 1, .float 0, .int (nI dr), .int (nI gs), .int (nI gd), .int (nI gz), .ref 14, .ref bq, .ref kq, .ref tq, .int (nI ld), .ref lq, .ref 23, .ref 24, .ref 25, .ref 26, .ref 27, .int dc]) ::
  .inr (2, [.ref 2, .ref 6, .ref 10, .ref 12, .ref 13, .int (nI st), .int dn]) ::
  .inr (1, [.ref 3, .ref 4, .ref 5, .int (nI sz), .int (nI pl), .int rv, .int (nI tr), .int (nI tu)]) :: .inl (0, 4, .inl h) :: .inl (0, 32, .inl (fun i => nI (c i))) :: .inl (0, 9, .inl (fun i => nI (L i))) ::
  .inr (1, [.ref 7, .ref 8, .ref 9, .int (nI t.2.2.2.1), .int (nI t.2.2.2.2.1), .int t.2.2.2.2.2.1, .int (nI t.2.2.2.2.2.2.1), .int (nI t.2.2.2.2.2.2.2)]) :: .inl (0, 4, .inl t.1) :: .inl (0, 32, .inl (fun i => nI (t.2.1 i))) :: .inl (0, 9, .inl (fun i => nI (t.2.2.1 i))) ::
  .inr (0, [.ref 11, .int (nI n), .int (nI dl), .int (nI ll), .int (nI lb), .int (nI ti), .int (nI pa)]) :: .inl (0, 364, .inl (fun i => nI (b i))) :: .inl (0, 2, .inl (fun i => nI (tk i))) :: .inl (0, 2, .inl sc) ::
  .inl (4, 4, .inr (.inr (am_rows 14))) :: .inl (1, 32, .inl (zb (hg 0))) :: .inl (1, 32, .inl (zb (hg 1))) :: .inl (1, 32, .inl (zb (hg 2))) :: .inl (1, 32, .inl (zb (hg 3))) :: e19 :: e20 :: e21 :: e22 :: .inl (1, 4, .inl Rv) :: .inl (1, 4, .inl Iw) :: .inl (1, 4, .inl Ho) :: .inl (0, 2, .inl Go) :: .inl (0, 2, .inl So) :: r
abbrev eZ0 : am_E := .inl (0, 0, .inl (fun _ => 0))
abbrev eT0 : am_E := .inl (3, 0, .inr (.inr (fun _ => none)))
theorem ay {w : am_M} {q : Nat} {e : am_E} {kk : am_E → Prop} (h : w[q]? = some e) (hk : kk e) : am_at w q kk := am_at_iff.mpr ⟨e, h, hk⟩
theorem az {w : am_M} {v : am_E} {kk : Nat → am_M → Prop} (h : kk w.length (w ++ [v])) : am_app w v kk := am_app_iff.mpr h
theorem ap {w : am_M} {q : Nat} {v : am_E} {kk : am_M → Prop} (h : q < w.length) (hk : kk (w.set q v)) : am_put w q v kk := am_put_iff.mpr ⟨h, hk⟩
theorem bzx {x : Int32} {b : Bool} {A B : Prop} (e : x = bI b) (f : b = false → A) (g : b = true → B) : (x = 0 → A) ∧ (¬ x = 0 → B) := by rw [e]; exact bz f g
theorem rows_at {q p : Nat} (hp : p < 4) : am_rows q (nI p).toNatClampNeg = some (q + 1 + p) := by
  rw [i_cl (by omega), am_rows, if_pos hp]
theorem zb_at {s : Int32} {c : Nat} (hc : c < 2 ^ 31) : zb s (nI c).toNatClampNeg = bI (bt s c) := by rw [i_cl hc]; rfl
theorem zb_add {s : Int32} {c : Nat} (hc : c < 32) : upd (zb s) (nI c).toNatClampNeg 1 = zb (sAdd s c) := by
  rw [i_cl (by omega)]
  funext j
  show (if j = c then (1 : Int32) else bI (bt s j)) = bI (bt (sAdd s c) j)
  by_cases hj : j < 32
  · rw [bt_add hc hj]
    by_cases e : j = c
    · rw [if_pos e, decide_eq_true e, Bool.or_true]; rfl
    · rw [if_neg e, decide_eq_false e, Bool.or_false]
  · rw [if_neg (by omega), b_big (by omega), b_big (by omega)]
theorem zb_del {s : Int32} {c : Nat} (hc : c < 32) : upd (zb s) (nI c).toNatClampNeg 0 = zb (sDel s c) := by
  rw [i_cl (by omega)]
  funext j
  show (if j = c then (0 : Int32) else bI (bt s j)) = bI (bt (sDel s c) j)
  by_cases hj : j < 32
  · rw [bt_del hc hj]
    by_cases e : j = c
    · rw [if_pos e, decide_eq_true e, Bool.not_true, Bool.and_false]; rfl
    · rw [if_neg e, decide_eq_false e, Bool.not_false, Bool.and_true]
  · rw [if_neg (by omega), b_big (by omega), b_big (by omega)]
theorem dm_lt (q : Nat) : q % 4 < 4 := Nat.mod_lt _ (by omega)
theorem wv_r {n i : Nat} (h : i < n) : am_wv n (.ref i) := h
section
variable {l : Launch} {d k : Nat} {Q : am_Q} {dr gs gd gz bq kq tq ld lq : Nat} {dc : Int32} {st : Nat} {dn : Int32} {h : Nat → Int32} {c L : Nat → Nat} {sz pl : Nat} {rv : Int32} {tr tu : Nat} {t : am_T5} {b : Nat → Nat} {n dl ll lb ti pa : Nat} {tk : Nat → Nat} {sc : Nat → Int32} {hg : Nat → Int32} {e19 e20 e21 e22 : am_E} {Rv Iw Ho Go So : Nat → Int32} {r : am_M}
theorem wt_we : ∀ e ∈ (wt st dn h c L sz pl rv tr tu t b n dl ll lb ti pa tk sc []), am_we 13 e := by
  intro e he
  simp only [wt, cc1, cc5t, cc5, ca9, List.mem_cons, List.not_mem_nil, or_false] at he
  rcases he with rfl | rfl | rfl | rfl | rfl | rfl | rfl | rfl | rfl | rfl | rfl | rfl | rfl <;> first | trivial | (intro v hv; simp only [List.mem_cons, List.not_mem_nil, or_false] at hv; rcases hv with rfl | rfl | rfl | rfl | rfl | rfl | rfl | rfl <;> first | trivial | exact Nat.le_of_ble_eq_true rfl)
/-- a call of the table, seen from the Deal -/
theorem wd_call {y : Nat} {a : List Value} (ha : ∀ v ∈ a, am_wv 13 v) (hc : am_Call l d y k a (wt st dn h c L sz pl rv tr tu t b n dl ll lb ti pa tk sc []) (fun o w1 => w1.length = 13 ∧ Q (am_pO (fun j => j + 1) o) (wdc dr gs gd gz bq kq tq ld lq dc :: (w1.map (am_pE (fun j => j + 1)) ++ (dq hg e19 e20 e21 e22 Rv Iw Ho Go So r))))) : am_Call l d y k (a.map (am_pV (fun j => j + 1))) (wd dr gs gd gz bq kq tq ld lq dc st dn h c L sz pl rv tr tu t b n dl ll lb ti pa tk sc hg e19 e20 e21 e22 Rv Iw Ho Go So r) Q :=
  am_frame (p := [wdc dr gs gd gz bq kq tq ld lq dc]) (q := (dq hg e19 e20 e21 e22 Rv Iw Ho Go So r)) (wS := (wt st dn h c L sz pl rv tr tu t b n dl ll lb ti pa tk sc [])) ha wt_we hc
theorem wv_1 : ∀ v ∈ [Value.ref 0], am_wv 13 v := fun v hv => by cases List.mem_singleton.mp hv; exact Nat.le_of_ble_eq_true rfl
theorem wv_c {a : List Value} {x : Int32} (h : ∀ v ∈ a, am_wv 13 v) : ∀ v ∈ (Value.int x :: a), am_wv 13 v := List.forall_mem_cons.mpr ⟨trivial, h⟩
theorem wv_0 : ∀ v ∈ ([] : List Value), am_wv 13 v := fun v hv => absurd hv List.not_mem_nil
theorem wv_f {a : List Value} (h : ∀ v ∈ a, am_wv 13 v) : ∀ v ∈ (Value.ref 0 :: a), am_wv 13 v := List.forall_mem_cons.mpr ⟨Nat.le_of_ble_eq_true rfl, h⟩
theorem has_at {p : Nat} (hp : p < 4) : (wd dr gs gd gz bq kq tq ld lq dc st dn h c L sz pl rv tr tu t b n dl ll lb ti pa tk sc hg e19 e20 e21 e22 Rv Iw Ho Go So r)[14 + 1 + p]? = some (.inl (1, 32, .inl (zb (hg p)))) := by
  have : p = 0 ∨ p = 1 ∨ p = 2 ∨ p = 3 := by omega
  rcases this with rfl | rfl | rfl | rfl <;> rfl
theorem has_put {p : Nat} {s : Int32} {g : Nat → Int32} {kk : am_M → Prop} (hp : p < 4) (e : g = zb s) (hk : kk (wd dr gs gd gz bq kq tq ld lq dc st dn h c L sz pl rv tr tu t b n dl ll lb ti pa tk sc (upd hg p s) e19 e20 e21 e22 Rv Iw Ho Go So r)) : am_put (wd dr gs gd gz bq kq tq ld lq dc st dn h c L sz pl rv tr tu t b n dl ll lb ti pa tk sc hg e19 e20 e21 e22 Rv Iw Ho Go So r) (14 + 1 + p) (.inl (1, 32, .inl g)) kk := by
  subst e
  have : p = 0 ∨ p = 1 ∨ p = 2 ∨ p = 3 := by omega
  rcases this with rfl | rfl | rfl | rfl <;> exact hk
theorem land_max (x : Int32) : ∃ a, a < 2 ^ 31 ∧ x &&& 2147483647 = nI a := by
  refine nI_of (fun q => ?_)
  have h1 := Int32.lt_iff_toInt_lt.mp q
  have h2 : (x &&& 2147483647).toBitVec.msb = false := by
    rw [Int32.toBitVec_and, BitVec.msb_and]
    have : (2147483647 : Int32).toBitVec.msb = false := by decide
    rw [this, Bool.and_false]
  have h3 : 0 ≤ (x &&& 2147483647).toBitVec.toInt := BitVec.toInt_nonneg_of_msb_false h2
  have h4 : (0 : Int32).toInt = 0 := by decide
  rw [h4] at h1
  exact absurd h1 (Int.not_lt.mpr h3)
theorem cl_112 {w : am_M} (hl : l.stackTraces = false) (hd : 1 ≤ d) {x : Int32} {m : Nat} (h0 : 0 < m) (hm : m < 2 ^ 31) (hq : ∀ j, j < m → Q (.inl (some (.int (nI j)))) w) : am_Call l d 112 k [.int x, .int (nI m)] w Q := by
  obtain ⟨a, ha, e⟩ := land_max x
  refine op_112 hl hd (Nat.le_of_ble_eq_true rfl) (fun J hJ => hJ [] 100 _ _ _ _ _ ⟨fun q => ?_, ?_⟩)
  · have : m = 0 := (nI_eq hm (by omega)).mp q
    omega
  · refine am_q1 (y := nI (a % m)) ?_ rfl (hq _ (Nat.mod_lt _ h0))
    show (x &&& 2147483647) - (x &&& 2147483647) / nI m * nI m = nI (a % m)
    rw [e]
    exact pk_rem ha h0 hm
theorem cl_113 {w : am_M} (hl : l.stackTraces = false) (hd : 1 ≤ d) {f : UInt32} {i : Nat} (hi : i < 2 ^ 31) (hq : ∀ x, Q (.inl (some (.int x))) w) : am_Call l d 113 k [.float f, .int (nI i)] w Q :=
  op_113 hl hd (Nat.le_of_ble_eq_true rfl) (fun L xs hL J hJ => hJ [] 100 _ _ _ _ _ (ble (a := L) (b := i) (by omega) hi (fun _ => hq _) (fun q => ⟨nI_in q (by omega), hq _⟩)))
theorem cl_93 (hl : l.stackTraces = false) (hd : 2 ≤ d) {m : Nat} (hdr : dr < 2 ^ 31) (h0 : 0 < m) (hm : m < 2 ^ 31) (hq : ∀ j, j < m → Q (.inl (some (.int (nI j)))) (wd (dr + 1) gs gd gz bq kq tq ld lq dc st dn h c L sz pl rv tr tu t b n dl ll lb ti pa tk sc hg e19 e20 e21 e22 Rv Iw Ho Go So r)) : am_Call l d 93 k [.ref 0, .int (nI m)] (wd dr gs gd gz bq kq tq ld lq dc st dn h c L sz pl rv tr tu t b n dl ll lb ti pa tk sc hg e19 e20 e21 e22 Rv Iw Ho Go So r) Q := by
  refine op_93 hl (by omega) (Nat.le_of_ble_eq_true rfl) (fun J hJ => hJ [14] 100 _ _ _ _ _ ⟨by decide, 0, Nat.zero_le _, am_ca (congrArg (fun x => [Value.float 0, Value.int x]) (pk_rem (d := 24) hdr (by omega) (by omega))) (cl_113 hl (by omega) (by have := Nat.mod_lt dr (show 0 < 24 by omega); omega) (fun x => ?_))⟩)
  refine hJ [] 100 _ _ _ _ _ ⟨by decide, by decide, 0, Nat.zero_le _, cl_112 hl (by omega) h0 hm (fun j hj => ?_)⟩
  have h1 := hq j hj
  unfold wd at h1
  rw [← nI_1 dr] at h1
  exact h1
def plsF (f : Nat → Int32) (n : Nat) (v : Int32) : Nat → Int32 := fun j => if j = n then v else if j < n then f j else 0
theorem cl_94 {w : am_M} (hl : l.stackTraces = false) (hd : 1 ≤ d) {q n : Nat} {f : Nat → Int32} {v : Int32} (hw : w[q]? = some (.inl (0, n, .inl f))) (hn : n ≤ 1000) (hq : Q (.inl (some (.ref w.length))) (w ++ [.inl (0, n + 1, .inl (plsF f n v))])) : am_Call l d 94 (k + 1) [.ref q, .int v] w Q := by
  have hwq : ∀ e : am_E, (w ++ [e])[q]? = some (.inl (0, n, .inl f)) := fun e => by
    rw [List.getElem?_append_left (List.getElem?_eq_some_iff.mp hw).1]
    exact hw
  have hwl : ∀ e : am_E, (w ++ [e])[w.length]? = some e := fun e => by simp
  have hset : ∀ e e' : am_E, (w ++ [e]).set w.length e' = w ++ [e'] := fun e e' => by simp
  refine op_94 hl (by omega) (Nat.le_of_ble_eq_true rfl) (fun J hJ => hJ [7] 100 _ _ _ _ _ (ay hw ⟨n + 1, nI_1 n, by omega, az ?_⟩))
  have g : (fun j => if j < n then f j else 0) = fun j => if j < n then f j else (0 : Int32) := rfl
  refine hJ [16] 100 _ _ _ _ _ (ay (hwq _) (ay (hwq _) (ay (hwl _) ⟨⟨by decide, by decide, nI_pos (by omega), ?_, ?_⟩, fun j => if j < n then f j else 0, fun j hj => ?_, ap (by simp) ?_⟩)))
  · rw [i_cl (by omega)]
    show 0 + n ≤ n
    omega
  · rw [i_cl (by omega)]
    show 0 + n ≤ n + 1
    omega
  · rw [i_cl (by omega)]
    show (if 0 ≤ j ∧ j < 0 + n then f (0 + (j - 0)) else 0) = if j < n then f j else 0
    by_cases e : j < n
    · rw [if_pos ⟨Nat.zero_le _, by omega⟩, if_pos e]
      simp
    · rw [if_neg (by omega), if_neg e]
  · rw [hset]
    refine hJ [] 100 _ _ _ _ _ (ay (hwq _) (ay (hwl _) ⟨nI_in (by omega) (by omega), ap (by simp) ?_⟩))
    rw [hset]
    refine am_qw ?_ hq
    have : upd (fun j => if j < n then f j else 0) (nI n).toNatClampNeg v = plsF f n v := by
      rw [i_cl (by omega)]
      rfl
    rw [this]
end
