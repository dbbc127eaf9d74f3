/-! AM's meaning over the machine: its worlds as cells of the heap, its places as frames; a call as a contract. -/
/-- the law's script -/
def am_sb (cA : Nat → ClassId) : Value := .ref (cA 9)
def am_tys (cA : Nat → ClassId) : List (ClassId × FieldType) := [(cA 0, .int), (cA 1, .boolean), (cA 2, .byte), (cA 3, .array .int), (cA 4, .array .boolean)]
def am_tr (ad : Nat → Nat) (nb : Value) (v : Value) : Value := match v with
  | .ref k => .ref (ad k)
  | .float _ => nb
  | v => v
def am_tE (cA : Nat → ClassId) (ad : Nat → Nat) (e : am_E) : va_E := match e with
  | .inl (t, n, .inl f) => .inl (cA t, n, .inl f)
  | .inl (t, n, .inr (.inl f)) => .inl (cA t, n, .inr (.inl f))
  | .inl (t, n, .inr (.inr f)) => .inl (cA t, n, .inr (.inr (.inr (.inr (fun j => (f j).map ad)))))
  | .inr (ci, fs) => .inr (ci, fs.map (am_tr ad (am_sb cA)))
def am_ws (cA : Nat → ClassId) (ad : Nat → Nat) (w : am_M) : va_W := w.mapIdx (fun i e => (ad i, am_tE cA ad e))
/-- a value's references are places of a world of n cells -/
def am_wv (n : Nat) (v : Value) : Prop := match v with
  | .ref k => k < n
  | _ => True
def am_we (n : Nat) (e : am_E) : Prop := match e with
  | .inl (_, _, .inr (.inr f)) => ∀ j r, f j = some r → r < n
  | .inl _ => True
  | .inr (_, fs) => ∀ v ∈ fs, am_wv n v
theorem am_wv_le {n n' : Nat} (h : n ≤ n') {v : Value} (hv : am_wv n v) : am_wv n' v := by
  cases v <;> first | trivial | exact Nat.lt_of_lt_of_le hv h
theorem am_we_le {n n' : Nat} (h : n ≤ n') {e : am_E} (he : am_we n e) : am_we n' e := by
  rcases e with ⟨t, k, f | f | f⟩ | ⟨c, fs⟩
  · trivial
  · trivial
  · exact fun j r hr => Nat.lt_of_lt_of_le (he j r hr) h
  · exact fun v hv => am_wv_le h (he v hv)
theorem am_tr_cat {ad : Nat → Nat} {nb v : Value} (hnb : nb.category = 1) : (am_tr ad nb v).category = v.category := by
  cases v <;> first | rfl | exact hnb
theorem am_tr_ext {ad ad' : Nat → Nat} {nb v : Value} {n : Nat} (h : ∀ j, j < n → ad' j = ad j) (hv : am_wv n v) : am_tr ad' nb v = am_tr ad nb v := by
  cases v <;> first | rfl | exact congrArg Value.ref (h _ hv)
theorem am_tE_ext {cA : Nat → ClassId} {ad ad' : Nat → Nat} {e : am_E} {n : Nat} (h : ∀ j, j < n → ad' j = ad j) (he : am_we n e) : am_tE cA ad' e = am_tE cA ad e := by
  rcases e with ⟨t, k, f | f | f⟩ | ⟨c, fs⟩
  · rfl
  · rfl
  · show Sum.inl (cA t, k, _) = Sum.inl (cA t, k, _)
    have : (fun j => (f j).map ad') = (fun j => (f j).map ad) := funext fun j => by
      cases hf : f j with
      | none => rfl
      | some r => exact congrArg some (h _ (he j r hf))
    rw [this]
  · show Sum.inr (c, fs.map (am_tr ad' (am_sb cA))) = Sum.inr (c, fs.map (am_tr ad (am_sb cA)))
    rw [List.map_congr_left (fun v hv => am_tr_ext h (he v hv))]
theorem am_ws_at (cA : Nat → ClassId) (ad : Nat → Nat) {w : am_M} {i : Nat} {e : am_E} (h : w[i]? = some e) : (am_ws cA ad w)[i]? = some (ad i, am_tE cA ad e) := by
  simp [am_ws, h]
theorem am_ws_len (cA : Nat → ClassId) (ad : Nat → Nat) (w : am_M) : (am_ws cA ad w).length = w.length := by simp [am_ws]
theorem am_ws_of {cA : Nat → ClassId} {ad : Nat → Nat} {w : am_M} {i : Nat} {q : Nat × va_E} (h : (am_ws cA ad w)[i]? = some q) : ∃ e, w[i]? = some e ∧ q = (ad i, am_tE cA ad e) := by
  simp only [am_ws, List.getElem?_mapIdx, Option.map_eq_some_iff] at h
  obtain ⟨e, h1, h2⟩ := h
  exact ⟨e, h1, h2.symm⟩
theorem am_ws_set (cA : Nat → ClassId) (ad : Nat → Nat) (w : am_M) (i : Nat) (e : am_E) : am_ws cA ad (w.set i e) = (am_ws cA ad w).set i (ad i, am_tE cA ad e) := by
  apply List.ext_getElem?
  intro j
  by_cases h : i = j
  · subst h
    by_cases hl : i < w.length
    · rw [am_ws_at cA ad (List.getElem?_set_self hl), List.getElem?_set_self (by rw [am_ws_len]; exact hl)]
    · rw [List.getElem?_eq_none (by rw [am_ws_len, List.length_set]; omega), List.getElem?_eq_none (by rw [List.length_set, am_ws_len]; omega)]
  · rw [List.getElem?_set_ne h]
    simp [am_ws, List.getElem?_set_ne h]
theorem am_ws_ext {cA : Nat → ClassId} {ad ad' : Nat → Nat} {w : am_M} {n : Nat} (hn : w.length ≤ n) (h : ∀ j, j < n → ad' j = ad j) (hw : ∀ e ∈ w, am_we n e) : am_ws cA ad' w = am_ws cA ad w := by
  apply List.ext_getElem?
  intro j
  cases hj : w[j]? with
  | none =>
    have hl := List.getElem?_eq_none_iff.mp hj
    rw [List.getElem?_eq_none (by rw [am_ws_len]; omega), List.getElem?_eq_none (by rw [am_ws_len]; omega)]
  | some e =>
    have hl := (List.getElem?_eq_some_iff.mp hj).1
    rw [am_ws_at cA ad' hj, am_ws_at cA ad hj, h j (by omega), am_tE_ext h (hw e (List.mem_of_getElem? hj))]
theorem am_ws_app (cA : Nat → ClassId) (ad : Nat → Nat) (w : am_M) (e : am_E) : am_ws cA ad (w ++ [e]) = am_ws cA ad w ++ [(ad w.length, am_tE cA ad e)] := by
  simp [am_ws, List.mapIdx_append]
/-- the law's script is there, and nobody writes it -/
def am_Scr (cA : Nat → ClassId) (A : Nat → Prop) (U : State) : Prop := ∃ (L : Nat) (xs : Nat → Int32), L ≤ 260 ∧ va_X (cA 9) L xs U U.heap ∧ cA 9 < U.heap.size ∧ ¬ A (cA 9)
-- what every method's start says of the tables
def am_G (D : va_G) (cA : Nat → ClassId) (A : Nat → Prop) (U : State) : Prop :=
  va_K D vwCl (am_tys cA) U ∧ (∀ q ∈ am_nestF, va_Nw (.fieldLinkNest q.1 q.2.1 q.2.2.1 q.2.2.2.1 q.2.2.2.2.1 q.2.2.2.2.2) U) ∧ (∀ q ∈ am_nestM, va_Nw (.methodLinkNest q.1 q.2.1 q.2.2.1 q.2.2.2) U) ∧
  vx_Zq Bundle.tN "UNASSIGNED_STACK" Bundle.steD A U U.heap ∧ vx_Zq Bundle.tN "SUPPRESSED_SENTINEL" Bundle.listD A U U.heap ∧ (∀ q ∈ am_strs, ∃ sa : Nat, vk_R q.1 q.2.1 q.2.2 sa U) ∧ (va_AOA .int U ∧ va_AOA .boolean U ∧ am_Scr cA A U) ∧ (∀ q ∈ am_xs, va_Nc q.1 q.2 U) ∧ (∀ q ∈ am_decls, va_Nw (.declares q) U) ∧ (∀ q ∈ am_casts, va_Nw (.castable q q) U)
theorem am_over {ty : FieldType} {U : State} (h : va_AOA ty U) :
    ∃ comp c k, U.vm.findClass (FieldType.array ty).toString = some comp ∧ (U.vm.classes.findIdx? fun x => match x.kind with | .array component _ => component == comp | _ => false) = some c ∧ U.vm.classes[c]? = some k ∧ k.kind = .array comp (.array ty) ∧
      U.vm.findClass ("[" ++ (FieldType.array ty).toString) = some c := by
  unfold va_AOA Cond.before Cond.holds at h
  simp only [Cond.value, beq_iff_eq] at h
  cases hc : U.vm.findClass (FieldType.array ty).toString with
  | none => simp [hc] at h
  | some comp =>
    simp only [hc, Option.bind_some, Option.bind_eq_some_iff, Option.map_eq_some_iff] at h
    obtain ⟨c, hi, k, hk, hb⟩ := h
    obtain ⟨hlt, hp, -⟩ := Array.findIdx?_eq_some_iff_getElem.mp hi
    have hkk : U.vm.classes[c] = k := (Array.getElem?_eq_some_iff.mp hk).2
    rw [hkk] at hp
    cases hkind : k.kind with
    | array component ty' =>
      rw [hkind] at hb hp
      simp at hb hp
      exact ⟨comp, c, k, rfl, hi, hk, by rw [hkind, hp, hb.1], hb.2⟩
    | _ => rw [hkind] at hb; simp at hb
theorem va_AOA.moved {ty : FieldType} {u U : State} (hvm : u.vm.Alike U.vm) (h : va_AOA ty u) : va_AOA ty U := by
  obtain ⟨comp, c, k, h1, h2, h3, h4, h5⟩ := am_over h
  obtain ⟨k', hk', he⟩ := hvm.2.2 _ _ h3
  have hi : (U.vm.classes.findIdx? fun (x : Class) => match x.kind with | .array component _ => component == comp | _ => false) = some c := by
    refine (va_idx_bare U.vm comp).symm.trans ?_
    first | rw [hvm.bare_eq] | rw [← hvm.bare_eq]
    exact (va_idx_bare u.vm comp).trans h2
  have hkind : k'.kind = .array comp (.array ty) := by rw [he]; exact h4
  have f1 : U.vm.findClass (FieldType.array ty).toString = some comp := by rw [hvm.findClass]; exact h1
  have f2 : U.vm.findClass ("[" ++ (FieldType.array ty).toString) = some c := by rw [hvm.findClass]; exact h5
  unfold va_AOA Cond.before Cond.holds
  simp only [Cond.value]
  rw [f1, Option.bind_some]
  refine (congrArg (fun o : Option Nat => (o.bind (fun c => (U.vm.classes[c]?).map fun (k : Class) => match k.kind with | .array _ ty' => decide (ty' = FieldType.array ty) && decide (U.vm.findClass ("[" ++ (FieldType.array ty).toString) = some c) | _ => false) == some true)) hi).trans ?_
  simp [hk', hkind, f2]
theorem am_Scr.to {cA : Nat → ClassId} {A A' : Nat → Prop} {s U : State} (h : am_Scr cA A s) (hal : s.vm.Alike U.vm) (hk : ∀ a : Nat, a < s.heap.size → ¬ A a → U.heap[a]? = s.heap[a]?) (hA : ∀ q, A' q → A q) : am_Scr cA A' U := by
  obtain ⟨L, xs, h1, h2, h3, h4⟩ := h
  have h5 := hk _ h3 h4
  refine ⟨L, xs, h1, (h2.moved hal).kept h5, ?_, fun q => h4 (hA _ q)⟩
  obtain ⟨scr, g, -⟩ := h2
  rw [g] at h5
  exact (Array.getElem?_eq_some_iff.mp h5).1
theorem am_G.to {D : va_G} {cA : Nat → ClassId} {A A' : Nat → Prop} {s U : State} (h : am_G D cA A s) (hW : s.WarmedH U.vm) (hk : ∀ a : Nat, a < s.heap.size → ¬ A a → U.heap[a]? = s.heap[a]?) (hA : ∀ q, A' q → A q) : am_G D cA A' U := by
  obtain ⟨h1, h2, h3, h4, h5, h6, h7, h8, h9, h10⟩ := h
  exact ⟨va_K.moved hW.alike h1, fun q hq => va_Nw.warmF hW (h2 q hq), fun q hq => va_Nw.warmM hW (h3 q hq), ((h4.moved hW.alike).kept hk).narrow hA, ((h5.moved hW.alike).kept hk).narrow hA,
    fun q hq => by obtain ⟨sa, ha⟩ := h6 q hq; exact ⟨sa, vk_R.warm hW ha⟩, ⟨h7.1.moved hW.alike, h7.2.1.moved hW.alike, h7.2.2.to hW.alike hk hA⟩, fun q hq => (h8 q hq).moved hW.alike, fun q hq => va_Nw.warmD hW (h9 q hq), fun q hq => va_Nw.warmC hW (h10 q hq)⟩
theorem am_G.same {D : va_G} {cA : Nat → ClassId} {A : Nat → Prop} {s U : State} (h : am_G D cA A s) (hv : s.vm = U.vm) (hh : U.heap = s.heap) : am_G D cA A U :=
  am_G.to h (by rw [← hv]; exact State.WarmedH.refl s) (fun a _ _ => by rw [hh]) (fun _ h => h)
/-- what has come of a world w at ad, behind a method -/
def am_U (D : va_G) (cA : Nat → ClassId) (ad : Nat → Nat) (w : am_M) (A : Nat → Prop) (ad' : Nat → Nat) (w' : am_M) (H : Heap) : Prop :=
  va_P D vwCl (am_ws cA ad' w') H ∧ va_D A (am_ws cA ad' w') ∧ (∀ e ∈ w', am_we w'.length e) ∧ w.length ≤ w'.length ∧ ∀ j, j < w.length → ad' j = ad j
def am_pre (D : va_G) (cA : Nat → ClassId) (ad : Nat → Nat) (w : am_M) (sz : Nat) : State → Prop := fun U =>
  U.heap.size = sz ∧ va_P D vwCl (am_ws cA ad w) U.heap ∧ va_D (fun _ => True) (am_ws cA ad w) ∧ am_G D cA (va_A (am_ws cA ad w) sz) U
def am_post (D : va_G) (cA : Nat → ClassId) (ad : Nat → Nat) (w : am_M) (A : Nat → Prop) (Q : am_Q) : Array Value → State → Outcome → State → Prop := fun _ st o t =>
  (∃ (v : Option Value) (w' : am_M) (ad' : Nat → Nat), o = .returned (v.map (am_tr ad' (am_sb cA))) ∧ Q (.inl v) w' ∧ (∀ x, v = some x → am_wv w'.length x ∧ am_nn x = true) ∧ am_U D cA ad w A ad' w' t.heap) ∧ va_F A st t
def am_px (D : va_G) (cA : Nat → ClassId) (ad : Nat → Nat) (w : am_M) (A : Nat → Prop) (Q : am_Q) : String → State → State → Prop := fun E st t =>
  (∃ (x : Nat) (w' : am_M) (ad' : Nat → Nat), E = am_xn x ∧ Q (.inr x) w' ∧ am_U D cA ad w A ad' w' t.heap) ∧ va_F A st t
def am_room (d k : Nat) : Room := { frames := d + 8, cells := k, slots := 1100 * k, locals := 64 * (d + 8) }
def am_wsd (y : Nat) : List Cond := am_cw y :: am_tab
def am_Met (l : Launch) (d y k : Nat) (a : List Value) (w : am_M) (Q : am_Q) (D : va_G) (cA : Nat → ClassId) (ad : Nat → Nat) (sz : Nat) : Prop :=
  vx_Met l (am_nm y) (am_wsd y) (am_room d k) (va_Pc (a.map (am_tr ad (am_sb cA))) (am_pre D cA ad w sz)) (am_post D cA ad w (va_A (am_ws cA ad w) sz) Q) (am_px D cA ad w (va_A (am_ws cA ad w) sz) Q) k (1100 * k) (va_A (am_ws cA ad w) sz)
def am_Call (l : Launch) (d : Nat) : am_C := fun y k a w Q =>
  (∀ v ∈ a, am_wv w.length v) → (∀ e ∈ w, am_we w.length e) → ∀ (D : va_G) (cA : Nat → ClassId) (ad : Nat → Nat) (sz : Nat), am_Met l d y k a w Q D cA ad sz
theorem am_blind {D : va_G} {cA : Nat → ClassId} {ad : Nat → Nat} {w : am_M} {sz : Nat} {av : List Value} : FrameBlind (va_Pc av (am_pre D cA ad w sz)) := by
  intro a U g mk h
  obtain ⟨h1, h2, h3, h4, h5⟩ := h
  exact ⟨h1, h2, h3, h4, h5.same rfl rfl⟩
-- the locals as the kit has them
def am_ents (ad : Nat → Nat) (nb : Value) : Nat → am_L → List (Nat × Value)
  | _, [] => []
  | i, o :: l => match o with
    | none => am_ents ad nb (i + 1) l
    | some v => (i, am_tr ad nb v) :: am_ents ad nb (i + 1) l
theorem am_ents_iff {ad : Nat → Nat} {nb : Value} : ∀ {l : am_L} {i : Nat} {q : Nat × Value}, q ∈ am_ents ad nb i l ↔ ∃ j v, l[j]? = some (some v) ∧ q = (i + j, am_tr ad nb v)
  | [], i, q => by simp [am_ents]
  | none :: l, i, q => by
    simp only [am_ents]
    rw [am_ents_iff]
    constructor
    · rintro ⟨j, v, h1, h2⟩
      exact ⟨j + 1, v, by simpa using h1, by rw [h2, show i + 1 + j = i + (j + 1) by omega]⟩
    · rintro ⟨j, v, h1, h2⟩
      cases j with
      | zero => simp at h1
      | succ j => exact ⟨j, v, by simpa using h1, by rw [h2, show i + 1 + j = i + (j + 1) by omega]⟩
  | some u :: l, i, q => by
    simp only [am_ents, List.mem_cons]
    rw [am_ents_iff]
    constructor
    · rintro (h | ⟨j, v, h1, h2⟩)
      · exact ⟨0, u, rfl, h⟩
      · exact ⟨j + 1, v, by simpa using h1, by rw [h2, show i + 1 + j = i + (j + 1) by omega]⟩
    · rintro ⟨j, v, h1, h2⟩
      cases j with
      | zero =>
        simp at h1
        subst h1
        exact Or.inl h2
      | succ j => exact Or.inr ⟨j, v, by simpa using h1, by rw [h2, show i + 1 + j = i + (j + 1) by omega]⟩
theorem am_set_iff : ∀ {l : am_L} {i : Nat} {v : Value} {k : am_L → Prop}, am_set l i v k → i < l.length ∧ (∀ j o, j + 1 = i → l[j]? = some o → am_c2 o = false) ∧ k (l.set i (some v))
  | [], i, v, k, h => by cases i <;> exact h.elim
  | o :: l, 0, v, k, h => ⟨by simp, fun j o h => by omega, h⟩
  | o :: l, i + 1, v, k, h => by
    have h' : (bif Nat.beq i 0 && am_c2 o then False else am_set l i v (fun l' => k (o :: l'))) := h
    cases hc : (Nat.beq i 0 && am_c2 o) with
    | true => rw [hc] at h'; exact h'.elim
    | false =>
      rw [hc] at h'
      obtain ⟨h1, h2, h3⟩ := am_set_iff (l := l) (i := i) (v := v) (k := fun l' => k (o :: l')) h'
      refine ⟨by simp; exact h1, fun j o' hj ho => ?_, h3⟩
      cases j with
      | zero =>
        simp at ho
        subst ho
        have : i = 0 := by omega
        subst this
        simpa using hc
      | succ j => exact h2 j o' (by omega) (by simpa using ho)
theorem am_set2_iff : ∀ {l : am_L} {i : Nat} {v : Value} {k : am_L → Prop}, am_set2 l i v k → i + 1 < l.length ∧ (∀ j o, j + 1 = i → l[j]? = some o → am_c2 o = false) ∧ k ((l.set i (some v)).set (i + 1) none)
  | [], i, v, k, h => by cases i <;> exact h.elim
  | [o], 0, v, k, h => h.elim
  | o :: o' :: l, 0, v, k, h => ⟨by simp, fun j o h => by omega, h⟩
  | o :: l, i + 1, v, k, h => by
    have h' : (bif Nat.beq i 0 && am_c2 o then False else am_set2 l i v (fun l' => k (o :: l'))) := by
      cases l <;> exact h
    cases hc : (Nat.beq i 0 && am_c2 o) with
    | true => rw [hc] at h'; exact h'.elim
    | false =>
      rw [hc] at h'
      obtain ⟨h1, h2, h3⟩ := am_set2_iff (l := l) (i := i) (v := v) (k := fun l' => k (o :: l')) h'
      refine ⟨by simp; exact h1, fun j o' hj ho => ?_, h3⟩
      cases j with
      | zero =>
        simp at ho
        subst ho
        have : i = 0 := by omega
        subst this
        simpa using hc
      | succ j => exact h2 j o' (by omega) (by simpa using ho)
theorem am_c2_cat {ad : Nat → Nat} {nb v : Value} (hnb : nb.category = 1) (h : am_c2 (some v) = false) : ¬ (am_tr ad nb v).category = 2 := by
  rw [am_tr_cat hnb]
  cases v <;> first | (cases h; done) | (intro q; cases q)
theorem lv_less {ls : Array Slot} {nL : Nat} {l l' : List (Nat × Value)} (h : lv_has ls nL l) (hs : ∀ q ∈ l', q ∈ l) : lv_has ls nL l' := ⟨h.1, h.2.1, fun q hq => h.2.2 q (hs q hq)⟩
/-- behind a store of one slot -/
theorem am_ents_set {ad : Nat → Nat} {nb v : Value} {l : am_L} {i nL : Nat} {ls : Array Slot} (hnb : nb.category = 1) (hi : i < l.length) (hc : ∀ j o, j + 1 = i → l[j]? = some o → am_c2 o = false)
    (h : lv_has ls nL ((i, am_tr ad nb v) :: (am_ents ad nb 0 l).filter (fun q => !(q.1 == i) && !(q.1 + 1 == i && q.2.category == 2)))) : lv_has ls nL (am_ents ad nb 0 (l.set i (some v))) := by
  refine lv_less h fun q hq => ?_
  obtain ⟨j, u, h1, h2⟩ := am_ents_iff.mp hq
  by_cases hj : i = j
  · subst hj
    rw [List.getElem?_set_self hi] at h1
    cases h1
    exact List.mem_cons.mpr (Or.inl (by rw [h2, Nat.zero_add]))
  · rw [List.getElem?_set_ne hj] at h1
    refine List.mem_cons.mpr (Or.inr (List.mem_filter.mpr ⟨am_ents_iff.mpr ⟨j, u, h1, h2⟩, ?_⟩))
    subst h2
    simp only [Nat.zero_add, Bool.and_eq_true, Bool.not_eq_true', beq_eq_false_iff_ne, ne_eq, Bool.and_eq_false_iff]
    refine ⟨fun q => hj q.symm, ?_⟩
    by_cases hk : j + 1 = i
    · exact Or.inr (am_c2_cat hnb (hc j _ hk h1))
    · exact Or.inl hk
theorem am_ents_set2 {ad : Nat → Nat} {nb v : Value} {l : am_L} {i nL : Nat} {ls : Array Slot} (hnb : nb.category = 1) (hi : i + 1 < l.length) (hc : ∀ j o, j + 1 = i → l[j]? = some o → am_c2 o = false)
    (h : lv_has ls nL ((i, am_tr ad nb v) :: (am_ents ad nb 0 l).filter (fun q => !(q.1 == i) && (!(q.1 == i + 1) && !(q.1 + 1 == i && q.2.category == 2))))) : lv_has ls nL (am_ents ad nb 0 ((l.set i (some v)).set (i + 1) none)) := by
  refine lv_less h fun q hq => ?_
  obtain ⟨j, u, h1, h2⟩ := am_ents_iff.mp hq
  by_cases hj2 : i + 1 = j
  · subst hj2
    rw [List.getElem?_set_self (by rw [List.length_set]; exact hi)] at h1
    cases h1
  · rw [List.getElem?_set_ne hj2] at h1
    by_cases hj : i = j
    · subst hj
      rw [List.getElem?_set_self (by omega)] at h1
      cases h1
      exact List.mem_cons.mpr (Or.inl (by rw [h2, Nat.zero_add]))
    · rw [List.getElem?_set_ne hj] at h1
      refine List.mem_cons.mpr (Or.inr (List.mem_filter.mpr ⟨am_ents_iff.mpr ⟨j, u, h1, h2⟩, ?_⟩))
      subst h2
      simp only [Nat.zero_add, Bool.and_eq_true, Bool.not_eq_true', beq_eq_false_iff_ne, ne_eq, Bool.and_eq_false_iff]
      refine ⟨fun q => hj q.symm, fun q => hj2 q.symm, ?_⟩
      by_cases hk : j + 1 = i
      · exact Or.inr (am_c2_cat hnb (hc j _ hk h1))
      · exact Or.inl hk
theorem am_wl_set {n : Nat} {l : am_L} {i : Nat} {o : Option Value} (h : ∀ u, some u ∈ l → am_wv n u) (hv : ∀ v, o = some v → am_wv n v) : ∀ u, some u ∈ l.set i o → am_wv n u := by
  intro u hu
  rcases List.mem_or_eq_of_mem_set hu with h1 | h1
  · exact h u h1
  · exact hv u h1.symm
-- a frame's place
def am_rel (D : va_G) (cA : Nat → ClassId) (A : Nat → Prop) (n0 : Nat) (ad0 : Nat → Nat) (H0 : Heap) (ad : Nat → Nat) (w : am_M) (H : Heap) (locs : List Loc) : Prop :=
  va_P D vwCl (am_ws cA ad w) H ∧ va_D A (am_ws cA ad w) ∧ va_S A H0 H locs ∧ (∀ e ∈ w, am_we w.length e) ∧ n0 ≤ w.length ∧ ∀ j, j < n0 → ad j = ad0 j
def am_J (p : Program) (l : Launch) (e : Env) (R : Room) (s : State) (m : MethodId) (args : Array Value) (below : List Frame) (meth : Method) (c : Code) (D : va_G) (cA : Nat → ClassId) (A : Nat → Prop) (Z : State → Prop) (nb : Value) (nL n0 : Nat) (ad0 : Nat → Nat) : am_K := fun k pc ls st w =>
  ∀ (ad : Nat → Nat) (H : Heap) (locs : List Loc) (cells slots : Nat) (lsA : Array Slot), am_rel D cA A n0 ad0 s.heap ad w H locs → (∀ v, some v ∈ ls → am_wv w.length v) → (∀ v ∈ st, am_wv w.length v) → ls.length = nL → lv_has lsA nL (am_ents ad nb 0 ls) →
    cells + k ≤ R.cells → slots + 1100 * k ≤ R.slots → W p l e R s m args below meth c H locs cells slots Z (F0 m pc lsA (st.map (am_tr ad nb)))
def am_ctx (p : Program) (l : Launch) (R : Room) (s : State) (m : MethodId) (args : Array Value) (meth : Method) (c : Code) (cc : ByteArray) (nL : Nat) (own : String) (D : va_G) (cA : Nat → ClassId) (A : Nat → Prop) (nb : Value) (d : Nat) : Prop :=
  p.tables.exec = Jvm.exec ∧ c.code = cc ∧ c.maxLocals = nL ∧ s.vm.findClass own = some m.cls ∧ (∀ w ∈ am_tab, w.before args s = true) ∧ am_G D cA A s ∧ (∀ q, s.heap.size ≤ q → A q) ∧ meth.locks = false ∧ l.stackTraces = false ∧ d + 8 ≤ R.frames ∧ 64 * (d + 8) ≤ R.locals ∧ nb.category = 1
