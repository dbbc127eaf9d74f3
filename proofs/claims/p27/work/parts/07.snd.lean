/-! every instruction of AM means what the machine does -/
theorem am_ci {n : Nat} {x : Int32} {st : am_S} (h : ∀ v ∈ st, am_wv n v) : ∀ v ∈ (Value.int x :: st), am_wv n v := List.forall_mem_cons.mpr ⟨trivial, h⟩
theorem am_cl {n : Nat} {x : Int64} {st : am_S} (h : ∀ v ∈ st, am_wv n v) : ∀ v ∈ (Value.long x :: st), am_wv n v := List.forall_mem_cons.mpr ⟨trivial, h⟩
theorem am_cd {n : Nat} {x : UInt64} {st : am_S} (h : ∀ v ∈ st, am_wv n v) : ∀ v ∈ (Value.double x :: st), am_wv n v := List.forall_mem_cons.mpr ⟨trivial, h⟩
theorem am_cf {n : Nat} {x : UInt32} {st : am_S} (h : ∀ v ∈ st, am_wv n v) : ∀ v ∈ (Value.float x :: st), am_wv n v := List.forall_mem_cons.mpr ⟨trivial, h⟩
theorem am_cr {n x : Nat} {st : am_S} (hx : x < n) (h : ∀ v ∈ st, am_wv n v) : ∀ v ∈ (Value.ref x :: st), am_wv n v := List.forall_mem_cons.mpr ⟨hx, h⟩
theorem am_top {n x : Nat} {st : am_S} (h : ∀ v ∈ (Value.ref x :: st), am_wv n v) : x < n := (List.forall_mem_cons.mp h).1
theorem am_tl {n : Nat} {u : Value} {st : am_S} (h : ∀ v ∈ (u :: st), am_wv n v) : ∀ v ∈ st, am_wv n v := (List.forall_mem_cons.mp h).2
theorem am_hd {n x : Nat} {st : am_S} (h : ∀ v ∈ (Value.ref x :: st), am_wv n v) : x < n := (List.forall_mem_cons.mp h).1
theorem am_lget {ad : Nat → Nat} {nb v : Value} {ls : am_L} {i nL : Nat} {lsA : Array Slot} (h : lv_has lsA nL (am_ents ad nb 0 ls)) (hi : ls[i]? = some (some v)) : lsA[i]? = some (.val (am_tr ad nb v)) :=
  h.2.2 (i, am_tr ad nb v) (am_ents_iff.mpr ⟨i, v, hi, by rw [Nat.zero_add]⟩)
theorem am_ents_ext {ad ad' : Nat → Nat} {nb : Value} {n : Nat} (h : ∀ j, j < n → ad' j = ad j) : ∀ {ls : am_L} {i : Nat}, (∀ v, some v ∈ ls → am_wv n v) → am_ents ad' nb i ls = am_ents ad nb i ls
  | [], _, _ => rfl
  | none :: l, i, hl => am_ents_ext h (ls := l) (i := i + 1) (fun v hv => hl v (List.mem_cons_of_mem _ hv))
  | some v :: l, i, hl => by
    show (i, am_tr ad' nb v) :: am_ents ad' nb (i + 1) l = (i, am_tr ad nb v) :: am_ents ad nb (i + 1) l
    rw [am_tr_ext h (hl v List.mem_cons_self), am_ents_ext h (fun v hv => hl v (List.mem_cons_of_mem _ hv))]
theorem am_map_ext {ad ad' : Nat → Nat} {nb : Value} {n : Nat} (h : ∀ j, j < n → ad' j = ad j) {st : am_S} (hs : ∀ v ∈ st, am_wv n v) : st.map (am_tr ad' nb) = st.map (am_tr ad nb) := List.map_congr_left fun v hv => am_tr_ext h (hs v hv)
theorem am_cat_map {ad : Nat → Nat} {nb : Value} (hnb : nb.category = 1) (st : am_S) : ((st.map (am_tr ad nb)).map fun v => v.category).sum = am_cat st := by
  rw [am_cat_eq, List.map_map]
  exact congrArg List.sum (List.map_congr_left fun v _ => am_tr_cat hnb)
section AMS
variable {p : Program} {l : Launch} {e : Env} {R : Room} {s : State} {m : MethodId} {args : Array Value} {below : List Frame} {meth : Method} {c : Code} {D : va_G} {cA : Nat → ClassId} {A : Nat → Prop} {Z : State → Prop} {nL n0 : Nat} {ad0 : Nat → Nat} {cc : ByteArray} {own : String} {d pc n t : Nat}
theorem am_rel.set {ad : Nat → Nat} {w : am_M} {H H1 : Heap} {locs locs1 : List Loc} (hr : am_rel D cA A n0 ad0 s.heap ad w H locs) {i : Nat} {e1 : am_E} (h1 : va_P D vwCl ((am_ws cA ad w).set i (ad i, am_tE cA ad e1)) H1) (h2 : va_D A ((am_ws cA ad w).set i (ad i, am_tE cA ad e1))) (h3 : va_S A s.heap H1 locs1) (he : am_we w.length e1) : am_rel D cA A n0 ad0 s.heap ad (w.set i e1) H1 locs1 := by
  refine ⟨by rw [am_ws_set]; exact h1, by rw [am_ws_set]; exact h2, h3, fun x hx => ?_, by rw [List.length_set]; exact hr.2.2.2.2.1, hr.2.2.2.2.2⟩
  rw [List.length_set]
  rcases List.mem_or_eq_of_mem_set hx with h | h
  · exact hr.2.2.2.1 x h
  · rw [h]; exact he
def am_ad (ad : Nat → Nat) (n q : Nat) : Nat → Nat := fun j => if j = n then q else ad j
theorem am_ad_lt {ad : Nat → Nat} {n q j : Nat} (h : j < n) : am_ad ad n q j = ad j := if_neg (by omega)
theorem am_ad_n {ad : Nat → Nat} {n q : Nat} : am_ad ad n q n = q := if_pos rfl
theorem am_rel.push {ad : Nat → Nat} {w : am_M} {H H1 : Heap} {locs locs1 : List Loc} (hr : am_rel D cA A n0 ad0 s.heap ad w H locs) {q : Nat} {e1 : am_E} {e2 : va_E} (hE : am_tE cA (am_ad ad w.length q) e1 = e2) (h1 : va_P D vwCl (am_ws cA ad w ++ [(q, e2)]) H1) (h2 : va_D A (am_ws cA ad w ++ [(q, e2)])) (h3 : va_S A s.heap H1 locs1) (he : am_we (w.length + 1) e1) : am_rel D cA A n0 ad0 s.heap (am_ad ad w.length q) (w ++ [e1]) H1 locs1 := by
  have hw : am_ws cA (am_ad ad w.length q) (w ++ [e1]) = am_ws cA ad w ++ [(q, e2)] := by
    rw [am_ws_app, am_ws_ext (Nat.le_refl _) (fun j hj => am_ad_lt hj) hr.2.2.2.1, am_ad_n, hE]
  refine ⟨by rw [hw]; exact h1, by rw [hw]; exact h2, h3, fun x hx => ?_, ?_, fun j hj => ?_⟩
  · rw [List.length_append]
    rcases List.mem_append.mp hx with h | h
    · exact am_we_le (by simp) (hr.2.2.2.1 x h)
    · rw [List.mem_singleton.mp h]; exact he
  · rw [List.length_append]; exact Nat.le_trans hr.2.2.2.2.1 (by simp)
  · rw [am_ad_lt (Nat.lt_of_lt_of_le hj hr.2.2.2.2.1)]; exact hr.2.2.2.2.2 j hj
theorem am_const_snd {v : Value} (hv : ∀ ad nb, am_tr ad nb v = v) (hw : ∀ n, am_wv n v) (row : ∀ (H : Heap) (locs : List Loc) (cells slots : Nat) (ls : Array Slot) (rest : List Value), W p l e R s m args below meth c H locs cells slots Z (F0 m n ls (v :: rest)) → W p l e R s m args below meth c H locs cells slots Z (F0 m pc ls rest)) : am_snd (am_J p l e R s m args below meth c D cA A Z (am_sb cA) nL n0 ad0) (am_const v n) pc := by
  intro K hK k ls st w h ad H locs cells slots lsA hr hl hs hn hh hc1 hc2
  refine row _ _ _ _ _ _ ?_
  have h1 := hK _ _ _ _ _ h ad H locs cells slots lsA hr hl (List.forall_mem_cons.mpr ⟨hw _, hs⟩) hn hh hc1 hc2
  rw [List.map_cons, hv] at h1
  exact h1
theorem am_constI_snd {x : Int32} (row : ∀ (H : Heap) (locs : List Loc) (cells slots : Nat) (ls : Array Slot) (rest : List Value), W p l e R s m args below meth c H locs cells slots Z (F0 m n ls (.int x :: rest)) → W p l e R s m args below meth c H locs cells slots Z (F0 m pc ls rest)) : am_snd (am_J p l e R s m args below meth c D cA A Z (am_sb cA) nL n0 ad0) (am_const (.int x) n) pc := am_const_snd (fun _ _ => rfl) (fun _ => trivial) row
theorem am_constL_snd {x : Int64} (row : ∀ (H : Heap) (locs : List Loc) (cells slots : Nat) (ls : Array Slot) (rest : List Value), W p l e R s m args below meth c H locs cells slots Z (F0 m n ls (.long x :: rest)) → W p l e R s m args below meth c H locs cells slots Z (F0 m pc ls rest)) : am_snd (am_J p l e R s m args below meth c D cA A Z (am_sb cA) nL n0 ad0) (am_const (.long x) n) pc := am_const_snd (fun _ _ => rfl) (fun _ => trivial) row
theorem am_constD_snd {x : UInt64} (row : ∀ (H : Heap) (locs : List Loc) (cells slots : Nat) (ls : Array Slot) (rest : List Value), W p l e R s m args below meth c H locs cells slots Z (F0 m n ls (.double x :: rest)) → W p l e R s m args below meth c H locs cells slots Z (F0 m pc ls rest)) : am_snd (am_J p l e R s m args below meth c D cA A Z (am_sb cA) nL n0 ad0) (am_const (.double x) n) pc := am_const_snd (fun _ _ => rfl) (fun _ => trivial) row
theorem am_goto_snd (row : ∀ (H : Heap) (locs : List Loc) (cells slots : Nat) (ls : Array Slot) (rest : List Value), W p l e R s m args below meth c H locs cells slots Z (F0 m t ls rest) → W p l e R s m args below meth c H locs cells slots Z (F0 m pc ls rest)) : am_snd (am_J p l e R s m args below meth c D cA A Z (am_sb cA) nL n0 ad0) (am_goto t) pc := by
  intro K hK k ls st w h ad H locs cells slots lsA hr hl hs hn hh hc1 hc2
  exact row _ _ _ _ _ _ (hK _ _ _ _ _ h ad H locs cells slots lsA hr hl hs hn hh hc1 hc2)
theorem am_iload_snd {i : Nat} (row : ∀ (H : Heap) (locs : List Loc) (cells slots : Nat) (ls : Array Slot) (rest : List Value) (x : Int32), ls[i]? = some (.val (.int x)) → W p l e R s m args below meth c H locs cells slots Z (F0 m n ls (.int x :: rest)) → W p l e R s m args below meth c H locs cells slots Z (F0 m pc ls rest)) : am_snd (am_J p l e R s m args below meth c D cA A Z (am_sb cA) nL n0 ad0) (am_iload i n) pc := by
  intro K hK k ls st w h ad H locs cells slots lsA hr hl hs hn hh hc1 hc2
  replace h := am_at_iff.mp h
  obtain ⟨v, hv, h⟩ := h
  split at h
  · rename_i x
    exact row _ _ _ _ _ _ x (am_lget hh hv) (hK _ _ _ _ _ h ad H locs cells slots lsA hr hl (am_ci hs) hn hh hc1 hc2)
  · exact h.elim
theorem am_lload_snd {i : Nat} (row : ∀ (H : Heap) (locs : List Loc) (cells slots : Nat) (ls : Array Slot) (rest : List Value) (x : Int64), ls[i]? = some (.val (.long x)) → W p l e R s m args below meth c H locs cells slots Z (F0 m n ls (.long x :: rest)) → W p l e R s m args below meth c H locs cells slots Z (F0 m pc ls rest)) : am_snd (am_J p l e R s m args below meth c D cA A Z (am_sb cA) nL n0 ad0) (am_lload i n) pc := by
  intro K hK k ls st w h ad H locs cells slots lsA hr hl hs hn hh hc1 hc2
  replace h := am_at_iff.mp h
  obtain ⟨v, hv, h⟩ := h
  split at h
  · rename_i x
    exact row _ _ _ _ _ _ x (am_lget hh hv) (hK _ _ _ _ _ h ad H locs cells slots lsA hr hl (am_cl hs) hn hh hc1 hc2)
  · exact h.elim
theorem am_dload_snd {i : Nat} (row : ∀ (H : Heap) (locs : List Loc) (cells slots : Nat) (ls : Array Slot) (rest : List Value) (x : UInt64), ls[i]? = some (.val (.double x)) → W p l e R s m args below meth c H locs cells slots Z (F0 m n ls (.double x :: rest)) → W p l e R s m args below meth c H locs cells slots Z (F0 m pc ls rest)) : am_snd (am_J p l e R s m args below meth c D cA A Z (am_sb cA) nL n0 ad0) (am_dload i n) pc := by
  intro K hK k ls st w h ad H locs cells slots lsA hr hl hs hn hh hc1 hc2
  replace h := am_at_iff.mp h
  obtain ⟨v, hv, h⟩ := h
  split at h
  · rename_i x
    exact row _ _ _ _ _ _ x (am_lget hh hv) (hK _ _ _ _ _ h ad H locs cells slots lsA hr hl (am_cd hs) hn hh hc1 hc2)
  · exact h.elim
theorem am_aload_snd {i : Nat} (row : ∀ (H : Heap) (locs : List Loc) (cells slots : Nat) (ls : Array Slot) (rest : List Value) (x : Nat), ls[i]? = some (.val (.ref x)) → W p l e R s m args below meth c H locs cells slots Z (F0 m n ls (.ref x :: rest)) → W p l e R s m args below meth c H locs cells slots Z (F0 m pc ls rest)) : am_snd (am_J p l e R s m args below meth c D cA A Z (am_sb cA) nL n0 ad0) (am_aload i n) pc := by
  intro K hK k ls st w h ad H locs cells slots lsA hr hl hs hn hh hc1 hc2
  replace h := am_at_iff.mp h
  obtain ⟨v, hv, h⟩ := h
  split at h
  · rename_i x
    exact row _ _ _ _ _ _ (ad x) (am_lget hh hv) (hK _ _ _ _ _ h ad H locs cells slots lsA hr hl (am_cr (hl _ (List.mem_of_getElem? hv)) hs) hn hh hc1 hc2)
  · rename_i x
    exact row _ _ _ _ _ _ (cA 9) (am_lget hh hv) (hK _ _ _ _ _ h ad H locs cells slots lsA hr hl (am_cf hs) hn hh hc1 hc2)
  · exact h.elim
theorem am_istore_snd {i : Nat} (hnb : (am_sb cA).category = 1) (row : ∀ (H : Heap) (locs : List Loc) (cells slots : Nat) (ls : Array Slot) (rest : List Value) (x : Int32) (lv : List (Nat × Value)), lv_has ls nL lv → i < nL → (∀ ls' : Array Slot, lv_has ls' nL ((i, Value.int x) :: lv.filter (fun q => !(q.1 == i) && !(q.1 + 1 == i && q.2.category == 2))) → W p l e R s m args below meth c H locs cells slots Z (F0 m n ls' rest)) → W p l e R s m args below meth c H locs cells slots Z (F0 m pc ls (.int x :: rest))) : am_snd (am_J p l e R s m args below meth c D cA A Z (am_sb cA) nL n0 ad0) (am_istore i n) pc := by
  intro K hK k ls st w h ad H locs cells slots lsA hr hl hs hn hh hc1 hc2
  dsimp only [am_istore] at h
  split at h
  · rename_i x st'
    obtain ⟨h1, h2, h3⟩ := am_set_iff h
    refine row _ _ _ _ _ _ (x) _ hh (by omega) (fun ls' hls => ?_)
    exact hK _ _ _ _ _ h3 ad H locs cells slots ls' hr (am_wl_set hl (fun v hv => by cases hv; trivial)) (am_tl hs) (by simp only [List.length_set]; exact hn) (am_ents_set (v := .int x) hnb h1 h2 hls) hc1 hc2
  · exact h.elim
theorem am_astore_snd {i : Nat} (hnb : (am_sb cA).category = 1) (row : ∀ (H : Heap) (locs : List Loc) (cells slots : Nat) (ls : Array Slot) (rest : List Value) (x : Nat) (lv : List (Nat × Value)), lv_has ls nL lv → i < nL → (∀ ls' : Array Slot, lv_has ls' nL ((i, Value.ref x) :: lv.filter (fun q => !(q.1 == i) && !(q.1 + 1 == i && q.2.category == 2))) → W p l e R s m args below meth c H locs cells slots Z (F0 m n ls' rest)) → W p l e R s m args below meth c H locs cells slots Z (F0 m pc ls (.ref x :: rest))) : am_snd (am_J p l e R s m args below meth c D cA A Z (am_sb cA) nL n0 ad0) (am_astore i n) pc := by
  intro K hK k ls st w h ad H locs cells slots lsA hr hl hs hn hh hc1 hc2
  dsimp only [am_astore] at h
  split at h
  · rename_i x st'
    obtain ⟨h1, h2, h3⟩ := am_set_iff h
    refine row _ _ _ _ _ _ (ad x) _ hh (by omega) (fun ls' hls => ?_)
    exact hK _ _ _ _ _ h3 ad H locs cells slots ls' hr (am_wl_set hl (fun v hv => by cases hv; exact am_hd hs)) (am_tl hs) (by simp only [List.length_set]; exact hn) (am_ents_set (v := .ref x) hnb h1 h2 hls) hc1 hc2
  · exact h.elim
theorem am_lstore_snd {i : Nat} (hnb : (am_sb cA).category = 1) (row : ∀ (H : Heap) (locs : List Loc) (cells slots : Nat) (ls : Array Slot) (rest : List Value) (x : Int64) (lv : List (Nat × Value)), lv_has ls nL lv → i + 1 < nL → (∀ ls' : Array Slot, lv_has ls' nL ((i, Value.long x) :: lv.filter (fun q => !(q.1 == i) && (!(q.1 == i + 1) && !(q.1 + 1 == i && q.2.category == 2)))) → W p l e R s m args below meth c H locs cells slots Z (F0 m n ls' rest)) → W p l e R s m args below meth c H locs cells slots Z (F0 m pc ls (.long x :: rest))) : am_snd (am_J p l e R s m args below meth c D cA A Z (am_sb cA) nL n0 ad0) (am_lstore i n) pc := by
  intro K hK k ls st w h ad H locs cells slots lsA hr hl hs hn hh hc1 hc2
  dsimp only [am_lstore] at h
  split at h
  · rename_i x st'
    obtain ⟨h1, h2, h3⟩ := am_set2_iff h
    refine row _ _ _ _ _ _ (x) _ hh (by omega) (fun ls' hls => ?_)
    exact hK _ _ _ _ _ h3 ad H locs cells slots ls' hr (am_wl_set (am_wl_set hl (fun v hv => by cases hv; trivial)) (fun v hv => nomatch hv)) (am_tl hs) (by simp only [List.length_set]; exact hn) (am_ents_set2 (v := .long x) hnb h1 h2 hls) hc1 hc2
  · exact h.elim
theorem am_dstore_snd {i : Nat} (hnb : (am_sb cA).category = 1) (row : ∀ (H : Heap) (locs : List Loc) (cells slots : Nat) (ls : Array Slot) (rest : List Value) (x : UInt64) (lv : List (Nat × Value)), lv_has ls nL lv → i + 1 < nL → (∀ ls' : Array Slot, lv_has ls' nL ((i, Value.double x) :: lv.filter (fun q => !(q.1 == i) && (!(q.1 == i + 1) && !(q.1 + 1 == i && q.2.category == 2)))) → W p l e R s m args below meth c H locs cells slots Z (F0 m n ls' rest)) → W p l e R s m args below meth c H locs cells slots Z (F0 m pc ls (.double x :: rest))) : am_snd (am_J p l e R s m args below meth c D cA A Z (am_sb cA) nL n0 ad0) (am_dstore i n) pc := by
  intro K hK k ls st w h ad H locs cells slots lsA hr hl hs hn hh hc1 hc2
  dsimp only [am_dstore] at h
  split at h
  · rename_i x st'
    obtain ⟨h1, h2, h3⟩ := am_set2_iff h
    refine row _ _ _ _ _ _ (x) _ hh (by omega) (fun ls' hls => ?_)
    exact hK _ _ _ _ _ h3 ad H locs cells slots ls' hr (am_wl_set (am_wl_set hl (fun v hv => by cases hv; trivial)) (fun v hv => nomatch hv)) (am_tl hs) (by simp only [List.length_set]; exact hn) (am_ents_set2 (v := .double x) hnb h1 h2 hls) hc1 hc2
  · exact h.elim
theorem am_iinc_snd {i : Nat} {x0 : Int} {x9 : Int32} (hx9 : Int32.ofInt x0 = x9) (hnb : (am_sb cA).category = 1) (hx : p.tables.exec = Jvm.exec) (hb : c.code = cc) (hdg : decode cc pc = .ok (.iinc i x0, 3)) (hpc : pc + 3 = n) : am_snd (am_J p l e R s m args below meth c D cA A Z (am_sb cA) nL n0 ad0) (am_iinc i x9 n) pc := by
  subst hpc
  subst hx9
  intro K hK k ls st w h ad H locs cells slots lsA hr hl hs hn hh hc1 hc2
  replace h := am_at_iff.mp h
  obtain ⟨v, hv, h⟩ := h
  split at h
  · rename_i x
    obtain ⟨h1, h2, h3⟩ := am_set_iff h
    obtain ⟨j, hj⟩ := List.getElem?_of_mem (am_ents_iff (ad := ad) (nb := am_sb cA) (i := 0) (q := (i, Value.int x)) |>.mpr ⟨i, _, hv, by rw [Nat.zero_add]; rfl⟩)
    refine lv_iinc hx hb hdg hh (k := j) hj rfl (by omega) rfl (fun ls' hls => ?_)
    exact hK _ _ _ _ _ h3 ad H locs cells slots ls' hr (am_wl_set hl (fun v hv => by cases hv; trivial)) hs (by simp only [List.length_set]; exact hn) (am_ents_set (v := .int _) hnb h1 h2 hls) hc1 hc2
  · exact h.elim
theorem am_bin_snd {f : Int32 → Int32 → Int32} (row : ∀ (H : Heap) (locs : List Loc) (cells slots : Nat) (ls : Array Slot) (rest : List Value) (x y : Int32), W p l e R s m args below meth c H locs cells slots Z (F0 m n ls (.int (f x y) :: rest)) → W p l e R s m args below meth c H locs cells slots Z (F0 m pc ls (.int y :: .int x :: rest))) : am_snd (am_J p l e R s m args below meth c D cA A Z (am_sb cA) nL n0 ad0) (am_bin f n) pc := by
  intro K hK k ls st w h ad H locs cells slots lsA hr hl hs hn hh hc1 hc2
  dsimp only [am_bin] at h
  split at h
  · rename_i y x st'
    exact row _ _ _ _ _ _ x y (hK _ _ _ _ _ h ad H locs cells slots lsA hr hl (am_ci (am_tl (am_tl hs))) hn hh hc1 hc2)
  · exact h.elim
theorem am_dv_snd {f : Int32 → Int32 → Int32} (row : ∀ (H : Heap) (locs : List Loc) (cells slots : Nat) (ls : Array Slot) (rest : List Value) (x y : Int32), ¬ y = 0 → W p l e R s m args below meth c H locs cells slots Z (F0 m n ls (.int (f x y) :: rest)) → W p l e R s m args below meth c H locs cells slots Z (F0 m pc ls (.int y :: .int x :: rest))) : am_snd (am_J p l e R s m args below meth c D cA A Z (am_sb cA) nL n0 ad0) (am_dv f n) pc := by
  intro K hK k ls st w h ad H locs cells slots lsA hr hl hs hn hh hc1 hc2
  dsimp only [am_dv] at h
  split at h
  · rename_i y x st'
    exact row _ _ _ _ _ _ x y h.1 (hK _ _ _ _ _ h.2 ad H locs cells slots lsA hr hl (am_ci (am_tl (am_tl hs))) hn hh hc1 hc2)
  · exact h.elim
theorem am_lbin_snd {f : Int64 → Int64 → Int64} (row : ∀ (H : Heap) (locs : List Loc) (cells slots : Nat) (ls : Array Slot) (rest : List Value) (x y : Int64), W p l e R s m args below meth c H locs cells slots Z (F0 m n ls (.long (f x y) :: rest)) → W p l e R s m args below meth c H locs cells slots Z (F0 m pc ls (.long y :: .long x :: rest))) : am_snd (am_J p l e R s m args below meth c D cA A Z (am_sb cA) nL n0 ad0) (am_lbin f n) pc := by
  intro K hK k ls st w h ad H locs cells slots lsA hr hl hs hn hh hc1 hc2
  dsimp only [am_lbin] at h
  split at h
  · rename_i y x st'
    exact row _ _ _ _ _ _ x y (hK _ _ _ _ _ h ad H locs cells slots lsA hr hl (am_cl (am_tl (am_tl hs))) hn hh hc1 hc2)
  · exact h.elim
theorem am_lcmp_snd (row : ∀ (H : Heap) (locs : List Loc) (cells slots : Nat) (ls : Array Slot) (rest : List Value) (x y : Int64), W p l e R s m args below meth c H locs cells slots Z (F0 m n ls (.int (lg_cmp x y) :: rest)) → W p l e R s m args below meth c H locs cells slots Z (F0 m pc ls (.long y :: .long x :: rest))) : am_snd (am_J p l e R s m args below meth c D cA A Z (am_sb cA) nL n0 ad0) (am_lcmp n) pc := by
  intro K hK k ls st w h ad H locs cells slots lsA hr hl hs hn hh hc1 hc2
  dsimp only [am_lcmp] at h
  split at h
  · rename_i y x st'
    exact row _ _ _ _ _ _ x y (hK _ _ _ _ _ h ad H locs cells slots lsA hr hl (am_ci (am_tl (am_tl hs))) hn hh hc1 hc2)
  · exact h.elim
theorem am_dcmp_snd {o : CmpOp} (row : ∀ (H : Heap) (locs : List Loc) (cells slots : Nat) (ls : Array Slot) (rest : List Value) (x y : UInt64), W p l e R s m args below meth c H locs cells slots Z (F0 m n ls (.int (Op.cmpValue (FP.dcmp x y) o) :: rest)) → W p l e R s m args below meth c H locs cells slots Z (F0 m pc ls (.double y :: .double x :: rest))) : am_snd (am_J p l e R s m args below meth c D cA A Z (am_sb cA) nL n0 ad0) (am_dcmp o n) pc := by
  intro K hK k ls st w h ad H locs cells slots lsA hr hl hs hn hh hc1 hc2
  dsimp only [am_dcmp] at h
  split at h
  · rename_i y x st'
    exact row _ _ _ _ _ _ x y (hK _ _ _ _ _ h ad H locs cells slots lsA hr hl (am_ci (am_tl (am_tl hs))) hn hh hc1 hc2)
  · exact h.elim
theorem am_ddiv_snd (row : ∀ (H : Heap) (locs : List Loc) (cells slots : Nat) (ls : Array Slot) (rest : List Value) (x y : UInt64), vf_n64 (FP.ddiv x y) → W p l e R s m args below meth c H locs cells slots Z (F0 m n ls (.double (FP.ddiv x y) :: rest)) → W p l e R s m args below meth c H locs cells slots Z (F0 m pc ls (.double y :: .double x :: rest))) : am_snd (am_J p l e R s m args below meth c D cA A Z (am_sb cA) nL n0 ad0) (am_ddiv n) pc := by
  intro K hK k ls st w h ad H locs cells slots lsA hr hl hs hn hh hc1 hc2
  dsimp only [am_ddiv] at h
  split at h
  · rename_i y x st'
    exact row _ _ _ _ _ _ x y h.1 (hK _ _ _ _ _ h.2 ad H locs cells slots lsA hr hl (am_cd (am_tl (am_tl hs))) hn hh hc1 hc2)
  · exact h.elim
theorem am_un_snd {f : Int32 → Int32} (row : ∀ (H : Heap) (locs : List Loc) (cells slots : Nat) (ls : Array Slot) (rest : List Value) (x : Int32), W p l e R s m args below meth c H locs cells slots Z (F0 m n ls (.int (f x) :: rest)) → W p l e R s m args below meth c H locs cells slots Z (F0 m pc ls (.int x :: rest))) : am_snd (am_J p l e R s m args below meth c D cA A Z (am_sb cA) nL n0 ad0) (am_un f n) pc := by
  intro K hK k ls st w h ad H locs cells slots lsA hr hl hs hn hh hc1 hc2
  dsimp only [am_un] at h
  split at h
  · rename_i x st'
    exact row _ _ _ _ _ _ x (hK _ _ _ _ _ h ad H locs cells slots lsA hr hl (am_ci (am_tl hs)) hn hh hc1 hc2)
  · exact h.elim
theorem am_i2l_snd (row : ∀ (H : Heap) (locs : List Loc) (cells slots : Nat) (ls : Array Slot) (rest : List Value) (x : Int32), W p l e R s m args below meth c H locs cells slots Z (F0 m n ls (.long x.toInt64 :: rest)) → W p l e R s m args below meth c H locs cells slots Z (F0 m pc ls (.int x :: rest))) : am_snd (am_J p l e R s m args below meth c D cA A Z (am_sb cA) nL n0 ad0) (am_i2l n) pc := by
  intro K hK k ls st w h ad H locs cells slots lsA hr hl hs hn hh hc1 hc2
  dsimp only [am_i2l] at h
  split at h
  · rename_i x st'
    exact row _ _ _ _ _ _ x (hK _ _ _ _ _ h ad H locs cells slots lsA hr hl (am_cl (am_tl hs)) hn hh hc1 hc2)
  · exact h.elim
theorem am_i2d_snd (row : ∀ (H : Heap) (locs : List Loc) (cells slots : Nat) (ls : Array Slot) (rest : List Value) (x : Int32), W p l e R s m args below meth c H locs cells slots Z (F0 m n ls (.double (FP.i2d x) :: rest)) → W p l e R s m args below meth c H locs cells slots Z (F0 m pc ls (.int x :: rest))) : am_snd (am_J p l e R s m args below meth c D cA A Z (am_sb cA) nL n0 ad0) (am_i2d n) pc := by
  intro K hK k ls st w h ad H locs cells slots lsA hr hl hs hn hh hc1 hc2
  dsimp only [am_i2d] at h
  split at h
  · rename_i x st'
    exact row _ _ _ _ _ _ x (hK _ _ _ _ _ h ad H locs cells slots lsA hr hl (am_cd (am_tl hs)) hn hh hc1 hc2)
  · exact h.elim
theorem am_if_snd {f : Int32 → Prop} (row : ∀ (H : Heap) (locs : List Loc) (cells slots : Nat) (ls : Array Slot) (rest : List Value) (x : Int32), (f x → W p l e R s m args below meth c H locs cells slots Z (F0 m t ls rest)) → (¬ f x → W p l e R s m args below meth c H locs cells slots Z (F0 m n ls rest)) → W p l e R s m args below meth c H locs cells slots Z (F0 m pc ls (.int x :: rest))) : am_snd (am_J p l e R s m args below meth c D cA A Z (am_sb cA) nL n0 ad0) (am_if f t n) pc := by
  intro K hK k ls st w h ad H locs cells slots lsA hr hl hs hn hh hc1 hc2
  dsimp only [am_if] at h
  split at h
  · rename_i x st'
    exact row _ _ _ _ _ _ x (fun q => hK _ _ _ _ _ (h.1 q) ad H locs cells slots lsA hr hl (am_tl hs) hn hh hc1 hc2) (fun q => hK _ _ _ _ _ (h.2 q) ad H locs cells slots lsA hr hl (am_tl hs) hn hh hc1 hc2)
  · exact h.elim
theorem am_cmp_snd {f : Int32 → Int32 → Prop} (row : ∀ (H : Heap) (locs : List Loc) (cells slots : Nat) (ls : Array Slot) (rest : List Value) (x y : Int32), (f x y → W p l e R s m args below meth c H locs cells slots Z (F0 m t ls rest)) → (¬ f x y → W p l e R s m args below meth c H locs cells slots Z (F0 m n ls rest)) → W p l e R s m args below meth c H locs cells slots Z (F0 m pc ls (.int y :: .int x :: rest))) : am_snd (am_J p l e R s m args below meth c D cA A Z (am_sb cA) nL n0 ad0) (am_cmp f t n) pc := by
  intro K hK k ls st w h ad H locs cells slots lsA hr hl hs hn hh hc1 hc2
  dsimp only [am_cmp] at h
  split at h
  · rename_i y x st'
    exact row _ _ _ _ _ _ x y (fun q => hK _ _ _ _ _ (h.1 q) ad H locs cells slots lsA hr hl (am_tl (am_tl hs)) hn hh hc1 hc2) (fun q => hK _ _ _ _ _ (h.2 q) ad H locs cells slots lsA hr hl (am_tl (am_tl hs)) hn hh hc1 hc2)
  · exact h.elim
theorem am_sw_mono {K K' : Nat → Prop} (hK : ∀ t, K t → K' t) {x : Int32} {dd : Nat} : ∀ {ts : List (Int32 × Nat)}, am_sw K x dd ts → am_sw K' x dd ts
  | [], h => hK _ h
  | (v, t) :: ts, h => ⟨fun q => hK _ (h.1 q), fun q => am_sw_mono hK (h.2 q)⟩
theorem am_switch_snd {ts : List (Int32 × Nat)} {dd : Nat} (row : ∀ (H : Heap) (locs : List Loc) (cells slots : Nat) (ls : Array Slot) (rest : List Value) (x : Int32), am_sw (fun t => W p l e R s m args below meth c H locs cells slots Z (F0 m t ls rest)) x dd ts → W p l e R s m args below meth c H locs cells slots Z (F0 m pc ls (.int x :: rest))) : am_snd (am_J p l e R s m args below meth c D cA A Z (am_sb cA) nL n0 ad0) (am_switch ts dd) pc := by
  intro K hK k ls st w h ad H locs cells slots lsA hr hl hs hn hh hc1 hc2
  dsimp only [am_switch] at h
  split at h
  · rename_i x st'
    exact row _ _ _ _ _ _ x (am_sw_mono (fun t q => hK _ _ _ _ _ q ad H locs cells slots lsA hr hl (am_tl hs) hn hh hc1 hc2) h)
  · exact h.elim
theorem am_dup_snd (row : ∀ (H : Heap) (locs : List Loc) (cells slots : Nat) (ls : Array Slot) (rest : List Value) (v : Value), v.category = 1 → W p l e R s m args below meth c H locs cells slots Z (F0 m n ls (v :: v :: rest)) → W p l e R s m args below meth c H locs cells slots Z (F0 m pc ls (v :: rest))) : am_snd (am_J p l e R s m args below meth c D cA A Z (am_sb cA) nL n0 ad0) (am_dup n) pc := by
  intro K hK k ls st w h ad H locs cells slots lsA hr hl hs hn hh hc1 hc2
  dsimp only [am_dup] at h
  split at h
  · rename_i x st'
    exact row _ _ _ _ _ _ (.int x) rfl (hK _ _ _ _ _ h ad H locs cells slots lsA hr hl (am_ci hs) hn hh hc1 hc2)
  · rename_i x st'
    exact row _ _ _ _ _ _ (.ref (ad x)) rfl (hK _ _ _ _ _ h ad H locs cells slots lsA hr hl (am_cr (am_hd hs) hs) hn hh hc1 hc2)
  · exact h.elim
theorem am_dup_x1_snd (row : ∀ (H : Heap) (locs : List Loc) (cells slots : Nat) (ls : Array Slot) (rest : List Value) (v u : Value), v.category = 1 → u.category = 1 → W p l e R s m args below meth c H locs cells slots Z (F0 m n ls (v :: u :: v :: rest)) → W p l e R s m args below meth c H locs cells slots Z (F0 m pc ls (v :: u :: rest))) : am_snd (am_J p l e R s m args below meth c D cA A Z (am_sb cA) nL n0 ad0) (am_dup_x1 n) pc := by
  intro K hK k ls st w h ad H locs cells slots lsA hr hl hs hn hh hc1 hc2
  dsimp only [am_dup_x1] at h
  split at h
  · rename_i x y st'
    exact row _ _ _ _ _ _ (.int x) (.ref (ad y)) rfl rfl (hK _ _ _ _ _ h ad H locs cells slots lsA hr hl (am_ci (am_cr (am_hd (am_tl hs)) (am_ci (am_tl (am_tl hs))))) hn hh hc1 hc2)
  · exact h.elim
theorem am_dup2_snd (row : ∀ (H : Heap) (locs : List Loc) (cells slots : Nat) (ls : Array Slot) (rest : List Value) (v u : Value), v.category = 1 → u.category = 1 → W p l e R s m args below meth c H locs cells slots Z (F0 m n ls (v :: u :: v :: u :: rest)) → W p l e R s m args below meth c H locs cells slots Z (F0 m pc ls (v :: u :: rest))) : am_snd (am_J p l e R s m args below meth c D cA A Z (am_sb cA) nL n0 ad0) (am_dup2 n) pc := by
  intro K hK k ls st w h ad H locs cells slots lsA hr hl hs hn hh hc1 hc2
  dsimp only [am_dup2] at h
  split at h
  · rename_i x y st'
    exact row _ _ _ _ _ _ (.int x) (.ref (ad y)) rfl rfl (hK _ _ _ _ _ h ad H locs cells slots lsA hr hl (am_ci (am_cr (am_hd (am_tl hs)) hs)) hn hh hc1 hc2)
  · exact h.elim
theorem am_pop_snd (row : ∀ (H : Heap) (locs : List Loc) (cells slots : Nat) (ls : Array Slot) (rest : List Value) (v : Value), v.category = 1 → W p l e R s m args below meth c H locs cells slots Z (F0 m n ls rest) → W p l e R s m args below meth c H locs cells slots Z (F0 m pc ls (v :: rest))) : am_snd (am_J p l e R s m args below meth c D cA A Z (am_sb cA) nL n0 ad0) (am_pop n) pc := by
  intro K hK k ls st w h ad H locs cells slots lsA hr hl hs hn hh hc1 hc2
  dsimp only [am_pop] at h
  split at h
  · rename_i x st'
    exact row _ _ _ _ _ _ (.int x) rfl (hK _ _ _ _ _ h ad H locs cells slots lsA hr hl (am_tl hs) hn hh hc1 hc2)
  · exact h.elim
theorem am_getf_snd (hc : (am_ctx p l R s m args meth c cc nL own D cA A (am_sb cA) d)) {C : String} {T : u_T} {N ci j idx : Nat} (hcl : vwCl[ci]? = some (C, T, N)) (hin : ∀ w ∈ u_ws C T N, w ∈ am_tab) (hj : j < N) (hlink : Cond.fieldLink own idx (T j).1 (T j).2.1 (T j).2.2.1 ∈ am_tab) (hdg : decode cc pc = .ok (.getfield idx, 3)) (hpc : pc + 3 = n) : am_snd (am_J p l e R s m args below meth c D cA A Z (am_sb cA) nL n0 ad0) (am_getf ci j n) pc := by
  subst hpc
  intro K hK k ls st w h ad H locs cells slots lsA hr hl hs hn hh hc1 hc2
  dsimp only [am_getf] at h
  split at h
  · rename_i q st'
    replace h := am_at_iff.mp h
    obtain ⟨e0, he, h⟩ := h
    split at h
    · rename_i c0 fs
      cases hb : Nat.beq c0 ci with
      | false => rw [hb] at h; exact h.elim
      | true =>
        rw [hb] at h
        replace h := am_at_iff.mp h
        obtain ⟨v, hv, h⟩ := h
        have hci := Nat.eq_of_beq_eq_true hb
        subst hci
        have hw := am_ws_at cA ad he
        have hwv : am_wv w.length v := hr.2.2.2.1 _ (List.mem_of_getElem? he) v (List.mem_of_getElem? hv)
        have hfv : (fs.map (am_tr ad (am_sb cA)))[j]? = some (am_tr ad (am_sb cA) v) := by rw [List.getElem?_map, hv]; rfl
        refine va_get (D := D) (cl := vwCl) (ci := c0) (C := C) (T := T) (N := N) (v := am_tr ad (am_sb cA) v) hc.1 hc.2.1 hc.2.2.2.2.1 hin hc.2.2.2.1 hc.2.2.2.2.2.1.1 hr.1 q hw hcl j hj (hc.2.2.2.2.1 _ hlink) (fun _ h => h) hfv hdg ?_
        split at h
        · exact hK _ _ _ _ _ h ad H locs cells slots lsA hr hl (am_ci (am_tl hs)) hn hh hc1 hc2
        · exact hK _ _ _ _ _ h ad H locs cells slots lsA hr hl (am_cr hwv (am_tl hs)) hn hh hc1 hc2
        · exact hK _ _ _ _ _ h ad H locs cells slots lsA hr hl (am_cf (am_tl hs)) hn hh hc1 hc2
        · exact h.elim
    · exact h.elim
  · exact h.elim
theorem am_getfN_snd (hc : (am_ctx p l R s m args meth c cc nL own D cA A (am_sb cA) d)) {C : String} {T : u_T} {N ci j idx : Nat} (hcl : vwCl[ci]? = some (C, T, N)) (hin : ∀ w ∈ u_ws C T N, w ∈ am_tab) (hj : j < N) (host : String) (hlink : (own, idx, (T j).1, (T j).2.1, (T j).2.2.1, host) ∈ am_nestF) (hdg : decode cc pc = .ok (.getfield idx, 3)) (hpc : pc + 3 = n) : am_snd (am_J p l e R s m args below meth c D cA A Z (am_sb cA) nL n0 ad0) (am_getf ci j n) pc := by
  subst hpc
  intro K hK k ls st w h ad H locs cells slots lsA hr hl hs hn hh hc1 hc2
  dsimp only [am_getf] at h
  split at h
  · rename_i q st'
    replace h := am_at_iff.mp h
    obtain ⟨e0, he, h⟩ := h
    split at h
    · rename_i c0 fs
      cases hb : Nat.beq c0 ci with
      | false => rw [hb] at h; exact h.elim
      | true =>
        rw [hb] at h
        replace h := am_at_iff.mp h
        obtain ⟨v, hv, h⟩ := h
        have hci := Nat.eq_of_beq_eq_true hb
        subst hci
        have hw := am_ws_at cA ad he
        have hwv : am_wv w.length v := hr.2.2.2.1 _ (List.mem_of_getElem? he) v (List.mem_of_getElem? hv)
        have hfv : (fs.map (am_tr ad (am_sb cA)))[j]? = some (am_tr ad (am_sb cA) v) := by rw [List.getElem?_map, hv]; rfl
        refine va_getN (D := D) (cl := vwCl) (ci := c0) (C := C) (T := T) (N := N) (v := am_tr ad (am_sb cA) v) hc.1 hc.2.1 hc.2.2.2.2.1 hin hc.2.2.2.1 hc.2.2.2.2.2.1.1 hr.1 q hw hcl j hj ((hc.2.2.2.2.2.1.2.1 _ hlink).use rfl) (fun _ h => h) hfv hdg ?_
        split at h
        · exact hK _ _ _ _ _ h ad H locs cells slots lsA hr hl (am_ci (am_tl hs)) hn hh hc1 hc2
        · exact hK _ _ _ _ _ h ad H locs cells slots lsA hr hl (am_cr hwv (am_tl hs)) hn hh hc1 hc2
        · exact hK _ _ _ _ _ h ad H locs cells slots lsA hr hl (am_cf (am_tl hs)) hn hh hc1 hc2
        · exact h.elim
    · exact h.elim
  · exact h.elim
theorem am_putfi_snd (hc : (am_ctx p l R s m args meth c cc nL own D cA A (am_sb cA) d)) {C : String} {T : u_T} {N ci j idx : Nat} {ty0 : FieldType} (hcl : vwCl[ci]? = some (C, T, N)) (hin : ∀ w ∈ u_ws C T N, w ∈ am_tab) (tys : Nat → FieldType) (htys : ∀ k, k < N → parseFieldDescriptor (T k).2.2.1 = some (tys k)) (hnm : ∀ a, a < N → ∀ b, b < N → a ≠ b → (T a).2.1 ≠ (T b).2.1) (hj : j < N) (hlink : Cond.fieldLink own idx (T j).1 (T j).2.1 (T j).2.2.1 ∈ am_tab) (hfin : (T j).2.2.2 = false) (hpt : parseFieldDescriptor (T j).2.2.1 = some ty0) (hnar : ∀ a : Int32, narrow ty0 (.int a) = .int a) (hfit : ∀ a : Int32, fits ty0 (.int a) = true) (hdg : decode cc pc = .ok (.putfield idx, 3)) (hpc : pc + 3 = n) : am_snd (am_J p l e R s m args below meth c D cA A Z (am_sb cA) nL n0 ad0) (am_putfi ci j n) pc := by
  subst hpc
  intro K hK k ls st w h ad H locs cells slots lsA hr hl hs hn hh hc1 hc2
  dsimp only [am_putfi] at h
  split at h
  · rename_i x q st'
    replace h := am_at_iff.mp h
    obtain ⟨e0, he, h⟩ := h
    split at h
    · rename_i c0 fs
      cases hb : Nat.beq c0 ci with
      | false => rw [hb] at h; exact h.elim
      | true =>
        rw [hb] at h
        replace h := am_put_iff.mp h
        obtain ⟨hjl, h⟩ := h
        replace h := am_put_iff.mp h
        obtain ⟨hql, h⟩ := h
        have hci := Nat.eq_of_beq_eq_true hb
        subst hci
        have hw := am_ws_at cA ad he
        have hfs := hr.2.2.2.1 _ (List.mem_of_getElem? he)
        have hE : am_tE cA ad (.inr (c0, fs.set j (.int x))) = .inr (c0, (fs.map (am_tr ad (am_sb cA))).set j (.int x)) := by
          show Sum.inr (c0, (fs.set j (.int x)).map (am_tr ad (am_sb cA))) = _
          rw [List.map_set]; rfl
        refine va_put (D := D) (cl := vwCl) (ci := c0) (C := C) (T := T) (N := N) (v := .int x) (ty := ty0) hc.1 hc.2.1 hc.2.2.2.2.1 hin tys htys hnm hc.2.2.2.1 hc.2.2.2.2.2.1.1 hr.1 hr.2.1 hr.2.2.1 q hw hcl j hj (hc.2.2.2.2.1 _ hlink) (fun _ h => h) hfin hpt (hnar (x)) (hfit (x)) (by rw [List.length_map]; exact hjl) hdg (fun H1 locs1 hP1 hD1 hS1 => ?_)
        rw [← hE] at hP1 hD1
        refine hK _ _ _ _ _ h ad H1 locs1 cells slots lsA (hr.set hP1 hD1 hS1 (fun v hv => ?_)) (by rw [List.length_set]; exact hl) (by rw [List.length_set]; exact am_tl (am_tl hs)) hn hh hc1 hc2
        rcases List.mem_or_eq_of_mem_set hv with h9 | h9
        · exact hfs v h9
        · rw [h9]; exact trivial
    · exact h.elim
  · exact h.elim
theorem am_putfiN_snd (hc : (am_ctx p l R s m args meth c cc nL own D cA A (am_sb cA) d)) {C : String} {T : u_T} {N ci j idx : Nat} {ty0 : FieldType} (hcl : vwCl[ci]? = some (C, T, N)) (hin : ∀ w ∈ u_ws C T N, w ∈ am_tab) (tys : Nat → FieldType) (htys : ∀ k, k < N → parseFieldDescriptor (T k).2.2.1 = some (tys k)) (hnm : ∀ a, a < N → ∀ b, b < N → a ≠ b → (T a).2.1 ≠ (T b).2.1) (hj : j < N) (host : String) (hlink : (own, idx, (T j).1, (T j).2.1, (T j).2.2.1, host) ∈ am_nestF) (hfin : (T j).2.2.2 = false) (hpt : parseFieldDescriptor (T j).2.2.1 = some ty0) (hnar : ∀ a : Int32, narrow ty0 (.int a) = .int a) (hfit : ∀ a : Int32, fits ty0 (.int a) = true) (hdg : decode cc pc = .ok (.putfield idx, 3)) (hpc : pc + 3 = n) : am_snd (am_J p l e R s m args below meth c D cA A Z (am_sb cA) nL n0 ad0) (am_putfi ci j n) pc := by
  subst hpc
  intro K hK k ls st w h ad H locs cells slots lsA hr hl hs hn hh hc1 hc2
  dsimp only [am_putfi] at h
  split at h
  · rename_i x q st'
    replace h := am_at_iff.mp h
    obtain ⟨e0, he, h⟩ := h
    split at h
    · rename_i c0 fs
      cases hb : Nat.beq c0 ci with
      | false => rw [hb] at h; exact h.elim
      | true =>
        rw [hb] at h
        replace h := am_put_iff.mp h
        obtain ⟨hjl, h⟩ := h
        replace h := am_put_iff.mp h
        obtain ⟨hql, h⟩ := h
        have hci := Nat.eq_of_beq_eq_true hb
        subst hci
        have hw := am_ws_at cA ad he
        have hfs := hr.2.2.2.1 _ (List.mem_of_getElem? he)
        have hE : am_tE cA ad (.inr (c0, fs.set j (.int x))) = .inr (c0, (fs.map (am_tr ad (am_sb cA))).set j (.int x)) := by
          show Sum.inr (c0, (fs.set j (.int x)).map (am_tr ad (am_sb cA))) = _
          rw [List.map_set]; rfl
        refine va_putN (D := D) (cl := vwCl) (ci := c0) (C := C) (T := T) (N := N) (v := .int x) (ty := ty0) hc.1 hc.2.1 hc.2.2.2.2.1 hin tys htys hnm hc.2.2.2.1 hc.2.2.2.2.2.1.1 hr.1 hr.2.1 hr.2.2.1 q hw hcl j hj ((hc.2.2.2.2.2.1.2.1 _ hlink).use rfl) (fun _ h => h) hfin hpt (hnar (x)) (hfit (x)) (by rw [List.length_map]; exact hjl) hdg (fun H1 locs1 hP1 hD1 hS1 => ?_)
        rw [← hE] at hP1 hD1
        refine hK _ _ _ _ _ h ad H1 locs1 cells slots lsA (hr.set hP1 hD1 hS1 (fun v hv => ?_)) (by rw [List.length_set]; exact hl) (by rw [List.length_set]; exact am_tl (am_tl hs)) hn hh hc1 hc2
        rcases List.mem_or_eq_of_mem_set hv with h9 | h9
        · exact hfs v h9
        · rw [h9]; exact trivial
    · exact h.elim
  · exact h.elim
theorem am_putfiF_snd (hc : (am_ctx p l R s m args meth c cc nL own D cA A (am_sb cA) d)) {C : String} {T : u_T} {N ci j idx : Nat} {ty0 : FieldType} (hcl : vwCl[ci]? = some (C, T, N)) (hin : ∀ w ∈ u_ws C T N, w ∈ am_tab) (tys : Nat → FieldType) (htys : ∀ k, k < N → parseFieldDescriptor (T k).2.2.1 = some (tys k)) (hnm : ∀ a, a < N → ∀ b, b < N → a ≠ b → (T a).2.1 ≠ (T b).2.1) (hj : j < N) (hlink : Cond.fieldLink own idx (T j).1 (T j).2.1 (T j).2.2.1 ∈ am_tab) (hfin : (T j).2.2.2 = true) (hinit : meth.name = "<init>") (hdecl : (T j).1 = own) (hpt : parseFieldDescriptor (T j).2.2.1 = some ty0) (hnar : ∀ a : Int32, narrow ty0 (.int a) = .int a) (hfit : ∀ a : Int32, fits ty0 (.int a) = true) (hdg : decode cc pc = .ok (.putfield idx, 3)) (hpc : pc + 3 = n) : am_snd (am_J p l e R s m args below meth c D cA A Z (am_sb cA) nL n0 ad0) (am_putfi ci j n) pc := by
  subst hpc
  intro K hK k ls st w h ad H locs cells slots lsA hr hl hs hn hh hc1 hc2
  dsimp only [am_putfi] at h
  split at h
  · rename_i x q st'
    replace h := am_at_iff.mp h
    obtain ⟨e0, he, h⟩ := h
    split at h
    · rename_i c0 fs
      cases hb : Nat.beq c0 ci with
      | false => rw [hb] at h; exact h.elim
      | true =>
        rw [hb] at h
        replace h := am_put_iff.mp h
        obtain ⟨hjl, h⟩ := h
        replace h := am_put_iff.mp h
        obtain ⟨hql, h⟩ := h
        have hci := Nat.eq_of_beq_eq_true hb
        subst hci
        have hw := am_ws_at cA ad he
        have hfs := hr.2.2.2.1 _ (List.mem_of_getElem? he)
        have hE : am_tE cA ad (.inr (c0, fs.set j (.int x))) = .inr (c0, (fs.map (am_tr ad (am_sb cA))).set j (.int x)) := by
          show Sum.inr (c0, (fs.set j (.int x)).map (am_tr ad (am_sb cA))) = _
          rw [List.map_set]; rfl
        refine va_putF (D := D) (cl := vwCl) (ci := c0) (C := C) (T := T) (N := N) (v := .int x) (ty := ty0) hc.1 hc.2.1 hc.2.2.2.2.1 hin tys htys hnm hc.2.2.2.1 hc.2.2.2.2.2.1.1 hr.1 hr.2.1 hr.2.2.1 q hw hcl j hj (hc.2.2.2.2.1 _ hlink) (fun _ h => h) hfin hinit hdecl hpt (hnar (x)) (hfit (x)) (by rw [List.length_map]; exact hjl) hdg (fun H1 locs1 hP1 hD1 hS1 => ?_)
        rw [← hE] at hP1 hD1
        refine hK _ _ _ _ _ h ad H1 locs1 cells slots lsA (hr.set hP1 hD1 hS1 (fun v hv => ?_)) (by rw [List.length_set]; exact hl) (by rw [List.length_set]; exact am_tl (am_tl hs)) hn hh hc1 hc2
        rcases List.mem_or_eq_of_mem_set hv with h9 | h9
        · exact hfs v h9
        · rw [h9]; exact trivial
    · exact h.elim
  · exact h.elim
theorem am_putfr_snd (hc : (am_ctx p l R s m args meth c cc nL own D cA A (am_sb cA) d)) {C : String} {T : u_T} {N ci j idx : Nat} {ty0 : FieldType} (hcl : vwCl[ci]? = some (C, T, N)) (hin : ∀ w ∈ u_ws C T N, w ∈ am_tab) (tys : Nat → FieldType) (htys : ∀ k, k < N → parseFieldDescriptor (T k).2.2.1 = some (tys k)) (hnm : ∀ a, a < N → ∀ b, b < N → a ≠ b → (T a).2.1 ≠ (T b).2.1) (hj : j < N) (hlink : Cond.fieldLink own idx (T j).1 (T j).2.1 (T j).2.2.1 ∈ am_tab) (hfin : (T j).2.2.2 = false) (hpt : parseFieldDescriptor (T j).2.2.1 = some ty0) (hnar : ∀ a : Nat, narrow ty0 (.ref a) = .ref a) (hfit : ∀ a : Nat, fits ty0 (.ref a) = true) (hdg : decode cc pc = .ok (.putfield idx, 3)) (hpc : pc + 3 = n) : am_snd (am_J p l e R s m args below meth c D cA A Z (am_sb cA) nL n0 ad0) (am_putfr ci j n) pc := by
  subst hpc
  intro K hK k ls st w h ad H locs cells slots lsA hr hl hs hn hh hc1 hc2
  dsimp only [am_putfr] at h
  split at h
  · rename_i x q st'
    replace h := am_at_iff.mp h
    obtain ⟨e0, he, h⟩ := h
    split at h
    · rename_i c0 fs
      cases hb : Nat.beq c0 ci with
      | false => rw [hb] at h; exact h.elim
      | true =>
        rw [hb] at h
        replace h := am_put_iff.mp h
        obtain ⟨hjl, h⟩ := h
        replace h := am_put_iff.mp h
        obtain ⟨hql, h⟩ := h
        have hci := Nat.eq_of_beq_eq_true hb
        subst hci
        have hw := am_ws_at cA ad he
        have hfs := hr.2.2.2.1 _ (List.mem_of_getElem? he)
        have hE : am_tE cA ad (.inr (c0, fs.set j (.ref x))) = .inr (c0, (fs.map (am_tr ad (am_sb cA))).set j (.ref (ad x))) := by
          show Sum.inr (c0, (fs.set j (.ref x)).map (am_tr ad (am_sb cA))) = _
          rw [List.map_set]; rfl
        refine va_put (D := D) (cl := vwCl) (ci := c0) (C := C) (T := T) (N := N) (v := .ref (ad x)) (ty := ty0) hc.1 hc.2.1 hc.2.2.2.2.1 hin tys htys hnm hc.2.2.2.1 hc.2.2.2.2.2.1.1 hr.1 hr.2.1 hr.2.2.1 q hw hcl j hj (hc.2.2.2.2.1 _ hlink) (fun _ h => h) hfin hpt (hnar (ad x)) (hfit (ad x)) (by rw [List.length_map]; exact hjl) hdg (fun H1 locs1 hP1 hD1 hS1 => ?_)
        rw [← hE] at hP1 hD1
        refine hK _ _ _ _ _ h ad H1 locs1 cells slots lsA (hr.set hP1 hD1 hS1 (fun v hv => ?_)) (by rw [List.length_set]; exact hl) (by rw [List.length_set]; exact am_tl (am_tl hs)) hn hh hc1 hc2
        rcases List.mem_or_eq_of_mem_set hv with h9 | h9
        · exact hfs v h9
        · rw [h9]; exact am_hd hs
    · exact h.elim
  · exact h.elim
theorem am_putfrF_snd (hc : (am_ctx p l R s m args meth c cc nL own D cA A (am_sb cA) d)) {C : String} {T : u_T} {N ci j idx : Nat} {ty0 : FieldType} (hcl : vwCl[ci]? = some (C, T, N)) (hin : ∀ w ∈ u_ws C T N, w ∈ am_tab) (tys : Nat → FieldType) (htys : ∀ k, k < N → parseFieldDescriptor (T k).2.2.1 = some (tys k)) (hnm : ∀ a, a < N → ∀ b, b < N → a ≠ b → (T a).2.1 ≠ (T b).2.1) (hj : j < N) (hlink : Cond.fieldLink own idx (T j).1 (T j).2.1 (T j).2.2.1 ∈ am_tab) (hfin : (T j).2.2.2 = true) (hinit : meth.name = "<init>") (hdecl : (T j).1 = own) (hpt : parseFieldDescriptor (T j).2.2.1 = some ty0) (hnar : ∀ a : Nat, narrow ty0 (.ref a) = .ref a) (hfit : ∀ a : Nat, fits ty0 (.ref a) = true) (hdg : decode cc pc = .ok (.putfield idx, 3)) (hpc : pc + 3 = n) : am_snd (am_J p l e R s m args below meth c D cA A Z (am_sb cA) nL n0 ad0) (am_putfr ci j n) pc := by
  subst hpc
  intro K hK k ls st w h ad H locs cells slots lsA hr hl hs hn hh hc1 hc2
  dsimp only [am_putfr] at h
  split at h
  · rename_i x q st'
    replace h := am_at_iff.mp h
    obtain ⟨e0, he, h⟩ := h
    split at h
    · rename_i c0 fs
      cases hb : Nat.beq c0 ci with
      | false => rw [hb] at h; exact h.elim
      | true =>
        rw [hb] at h
        replace h := am_put_iff.mp h
        obtain ⟨hjl, h⟩ := h
        replace h := am_put_iff.mp h
        obtain ⟨hql, h⟩ := h
        have hci := Nat.eq_of_beq_eq_true hb
        subst hci
        have hw := am_ws_at cA ad he
        have hfs := hr.2.2.2.1 _ (List.mem_of_getElem? he)
        have hE : am_tE cA ad (.inr (c0, fs.set j (.ref x))) = .inr (c0, (fs.map (am_tr ad (am_sb cA))).set j (.ref (ad x))) := by
          show Sum.inr (c0, (fs.set j (.ref x)).map (am_tr ad (am_sb cA))) = _
          rw [List.map_set]; rfl
        refine va_putF (D := D) (cl := vwCl) (ci := c0) (C := C) (T := T) (N := N) (v := .ref (ad x)) (ty := ty0) hc.1 hc.2.1 hc.2.2.2.2.1 hin tys htys hnm hc.2.2.2.1 hc.2.2.2.2.2.1.1 hr.1 hr.2.1 hr.2.2.1 q hw hcl j hj (hc.2.2.2.2.1 _ hlink) (fun _ h => h) hfin hinit hdecl hpt (hnar (ad x)) (hfit (ad x)) (by rw [List.length_map]; exact hjl) hdg (fun H1 locs1 hP1 hD1 hS1 => ?_)
        rw [← hE] at hP1 hD1
        refine hK _ _ _ _ _ h ad H1 locs1 cells slots lsA (hr.set hP1 hD1 hS1 (fun v hv => ?_)) (by rw [List.length_set]; exact hl) (by rw [List.length_set]; exact am_tl (am_tl hs)) hn hh hc1 hc2
        rcases List.mem_or_eq_of_mem_set hv with h9 | h9
        · exact hfs v h9
        · rw [h9]; exact am_hd hs
    · exact h.elim
  · exact h.elim
theorem am_putfsF_snd (hc : (am_ctx p l R s m args meth c cc nL own D cA A (am_sb cA) d)) {C : String} {T : u_T} {N ci j idx : Nat} {ty0 : FieldType} (hcl : vwCl[ci]? = some (C, T, N)) (hin : ∀ w ∈ u_ws C T N, w ∈ am_tab) (tys : Nat → FieldType) (htys : ∀ k, k < N → parseFieldDescriptor (T k).2.2.1 = some (tys k)) (hnm : ∀ a, a < N → ∀ b, b < N → a ≠ b → (T a).2.1 ≠ (T b).2.1) (hj : j < N) (hlink : Cond.fieldLink own idx (T j).1 (T j).2.1 (T j).2.2.1 ∈ am_tab) (hfin : (T j).2.2.2 = true) (hinit : meth.name = "<init>") (hdecl : (T j).1 = own) (hpt : parseFieldDescriptor (T j).2.2.1 = some ty0) (hnar : ∀ a : Nat, narrow ty0 (.ref a) = .ref a) (hfit : ∀ a : Nat, fits ty0 (.ref a) = true) (hdg : decode cc pc = .ok (.putfield idx, 3)) (hpc : pc + 3 = n) : am_snd (am_J p l e R s m args below meth c D cA A Z (am_sb cA) nL n0 ad0) (am_putfs ci j n) pc := by
  subst hpc
  intro K hK k ls st w h ad H locs cells slots lsA hr hl hs hn hh hc1 hc2
  dsimp only [am_putfs] at h
  split at h
  · rename_i x q st'
    replace h := am_at_iff.mp h
    obtain ⟨e0, he, h⟩ := h
    split at h
    · rename_i c0 fs
      cases hb : Nat.beq c0 ci with
      | false => rw [hb] at h; exact h.elim
      | true =>
        rw [hb] at h
        replace h := am_put_iff.mp h
        obtain ⟨hjl, h⟩ := h
        replace h := am_put_iff.mp h
        obtain ⟨hql, h⟩ := h
        have hci := Nat.eq_of_beq_eq_true hb
        subst hci
        have hw := am_ws_at cA ad he
        have hfs := hr.2.2.2.1 _ (List.mem_of_getElem? he)
        have hE : am_tE cA ad (.inr (c0, fs.set j (.float x))) = .inr (c0, (fs.map (am_tr ad (am_sb cA))).set j (am_sb cA)) := by
          show Sum.inr (c0, (fs.set j (.float x)).map (am_tr ad (am_sb cA))) = _
          rw [List.map_set]; rfl
        refine va_putF (D := D) (cl := vwCl) (ci := c0) (C := C) (T := T) (N := N) (v := am_sb cA) (ty := ty0) hc.1 hc.2.1 hc.2.2.2.2.1 hin tys htys hnm hc.2.2.2.1 hc.2.2.2.2.2.1.1 hr.1 hr.2.1 hr.2.2.1 q hw hcl j hj (hc.2.2.2.2.1 _ hlink) (fun _ h => h) hfin hinit hdecl hpt (hnar (cA 9)) (hfit (cA 9)) (by rw [List.length_map]; exact hjl) hdg (fun H1 locs1 hP1 hD1 hS1 => ?_)
        rw [← hE] at hP1 hD1
        refine hK _ _ _ _ _ h ad H1 locs1 cells slots lsA (hr.set hP1 hD1 hS1 (fun v hv => ?_)) (by rw [List.length_set]; exact hl) (by rw [List.length_set]; exact am_tl (am_tl hs)) hn hh hc1 hc2
        rcases List.mem_or_eq_of_mem_set hv with h9 | h9
        · exact hfs v h9
        · rw [h9]; exact trivial
    · exact h.elim
  · exact h.elim
theorem am_iald0_snd (hc : (am_ctx p l R s m args meth c cc nL own D cA A (am_sb cA) d)) (hdg : decode cc pc = .ok (.iaload, 1)) (hpc : pc + 1 = n) : am_snd (am_J p l e R s m args below meth c D cA A Z (am_sb cA) nL n0 ad0) (am_iald 0 n) pc := by
  subst hpc
  intro K hK k ls st w h ad H locs cells slots lsA hr hl hs hn hh hc1 hc2
  dsimp only [am_iald] at h
  split at h
  · rename_i i q st'
    replace h := am_at_iff.mp h
    obtain ⟨e0, he, h⟩ := h
    split at h
    · rename_i u N f
      cases hb : Nat.beq u 0 with
      | false => rw [hb] at h; exact h.elim
      | true =>
        rw [hb] at h
        have hu := Nat.eq_of_beq_eq_true hb
        subst hu
        exact va_iald hc.1 hc.2.1 hc.2.2.2.2.2.1.1 hr.1 q 0 (am_ws_at cA ad he) rfl h.1 hdg (hK _ _ _ _ _ h.2 ad H locs cells slots lsA hr hl (am_ci (am_tl (am_tl hs))) hn hh hc1 hc2)
    · exact h.elim
  · exact h.elim
theorem am_iald1_snd (hc : (am_ctx p l R s m args meth c cc nL own D cA A (am_sb cA) d)) (hdg : decode cc pc = .ok (.baload, 1)) (hpc : pc + 1 = n) : am_snd (am_J p l e R s m args below meth c D cA A Z (am_sb cA) nL n0 ad0) (am_iald 1 n) pc := by
  subst hpc
  intro K hK k ls st w h ad H locs cells slots lsA hr hl hs hn hh hc1 hc2
  dsimp only [am_iald] at h
  split at h
  · rename_i i q st'
    replace h := am_at_iff.mp h
    obtain ⟨e0, he, h⟩ := h
    split at h
    · rename_i u N f
      cases hb : Nat.beq u 1 with
      | false => rw [hb] at h; exact h.elim
      | true =>
        rw [hb] at h
        have hu := Nat.eq_of_beq_eq_true hb
        subst hu
        exact va_zald hc.1 hc.2.1 hc.2.2.2.2.2.1.1 hr.1 q 1 (am_ws_at cA ad he) rfl h.1 hdg (hK _ _ _ _ _ h.2 ad H locs cells slots lsA hr hl (am_ci (am_tl (am_tl hs))) hn hh hc1 hc2)
    · exact h.elim
  · exact h.elim
theorem am_iast_snd (hc : (am_ctx p l R s m args meth c cc nL own D cA A (am_sb cA) d)) (hdg : decode cc pc = .ok (.iastore, 1)) (hpc : pc + 1 = n) : am_snd (am_J p l e R s m args below meth c D cA A Z (am_sb cA) nL n0 ad0) (am_iast n) pc := by
  subst hpc
  intro K hK k ls st w h ad H locs cells slots lsA hr hl hs hn hh hc1 hc2
  dsimp only [am_iast] at h
  split at h
  · rename_i x i q st'
    replace h := am_at_iff.mp h
    obtain ⟨e0, he, h⟩ := h
    split at h
    · rename_i u N f
      cases hb : Nat.beq u 0 with
      | false => rw [hb] at h; exact h.elim
      | true =>
        rw [hb] at h
        have hu := Nat.eq_of_beq_eq_true hb
        subst hu
        obtain ⟨h1, h⟩ := h
        replace h := am_put_iff.mp h
        obtain ⟨hql, h⟩ := h
        refine va_iast hc.1 hc.2.1 hc.2.2.2.2.2.1.1 hr.1 hr.2.1 hr.2.2.1 q 0 (am_ws_at cA ad he) rfl h1 hdg (fun H1 locs1 hP1 hD1 hS1 => ?_)
        exact hK _ _ _ _ _ h ad H1 locs1 cells slots lsA (hr.set (e1 := .inl (0, N, .inl (upd f i.toNatClampNeg x))) hP1 hD1 hS1 trivial) (by rw [List.length_set]; exact hl) (by rw [List.length_set]; exact am_tl (am_tl (am_tl hs))) hn hh hc1 hc2
    · exact h.elim
  · exact h.elim
theorem am_zast_snd (hc : (am_ctx p l R s m args meth c cc nL own D cA A (am_sb cA) d)) (hdg : decode cc pc = .ok (.bastore, 1)) (hpc : pc + 1 = n) : am_snd (am_J p l e R s m args below meth c D cA A Z (am_sb cA) nL n0 ad0) (am_zast n) pc := by
  subst hpc
  intro K hK k ls st w h ad H locs cells slots lsA hr hl hs hn hh hc1 hc2
  dsimp only [am_zast] at h
  split at h
  · rename_i x i q st'
    replace h := am_at_iff.mp h
    obtain ⟨e0, he, h⟩ := h
    split at h
    · rename_i u N f
      cases hb : Nat.beq u 1 with
      | false => rw [hb] at h; exact h.elim
      | true =>
        rw [hb] at h
        have hu := Nat.eq_of_beq_eq_true hb
        subst hu
        obtain ⟨h1, h⟩ := h
        replace h := am_put_iff.mp h
        obtain ⟨hql, h⟩ := h
        refine va_zast hc.1 hc.2.1 hc.2.2.2.2.2.1.1 hr.1 hr.2.1 hr.2.2.1 q 1 (am_ws_at cA ad he) rfl h1 hdg (fun H1 locs1 hP1 hD1 hS1 => ?_)
        exact hK _ _ _ _ _ h ad H1 locs1 cells slots lsA (hr.set (e1 := .inl (1, N, .inl (upd f i.toNatClampNeg (vp_nar .boolean x)))) hP1 hD1 hS1 trivial) (by rw [List.length_set]; exact hl) (by rw [List.length_set]; exact am_tl (am_tl (am_tl hs))) hn hh hc1 hc2
    · exact h.elim
  · exact h.elim
theorem va_aldA {cl : List vw_C} {tys : List (ClassId × FieldType)} {ws : va_W} {a q0 t0 N : Nat} {cI : ClassId} {ty : FieldType} {f : Nat → Option Nat} {H : Heap} {locs : List Loc} {cells slots : Nat} {ls : Array Slot} {rest : List Value} (hexec : p.tables.exec = Jvm.exec) (hb : c.code = cc) (hK : va_K D cl tys s) (hP : va_P D cl ws H) (ha : ws[q0]? = some (a, .inl (cI, N, .inr (.inr (.inr (.inr f)))))) (ht : tys[t0]? = some (cI, .array ty)) {i : Int32} (hin : vp_in i N) (hdg : decode cc pc = .ok (.aaload, 1))
    (kk : W p l e R s m args below meth c H locs cells slots Z (F0 m (pc + 1) ls (va_rf (f i.toNatClampNeg) :: rest))) : W p l e R s m args below meth c H locs cells slots Z (F0 m pc ls (.int i :: .ref a :: rest)) := by
  have hlt : i.toNatClampNeg < N := Nat.not_le.mp fun q => hin (Or.inr q)
  exact W.aald (v := va_rf (f i.toNatClampNeg)) (ty := .array ty) hexec hb (hP q0 _ ha) ((hK.2 t0 _ ht).1 N (fun j => va_rf (f j))) rfl (fun q => by cases q) (by show ¬ (i < 0 ∨ (arrV _ _ _).slots.size ≤ _); rw [arrV_size]; exact hin) (by show (arrV _ _ _).slots[_]? = _; rw [arrV_read _ _ hlt]) rfl rfl hdg kk
theorem am_aald_snd (hc : (am_ctx p l R s m args meth c cc nL own D cA A (am_sb cA) d)) {t : Nat} {ty : FieldType} (htt : ∀ cA, (am_tys cA)[t]? = some (cA t, .array ty)) (hdg : decode cc pc = .ok (.aaload, 1)) (hpc : pc + 1 = n) : am_snd (am_J p l e R s m args below meth c D cA A Z (am_sb cA) nL n0 ad0) (am_aald t n) pc := by
  subst hpc
  intro K hK k ls st w h ad H locs cells slots lsA hr hl hs hn hh hc1 hc2
  dsimp only [am_aald] at h
  split at h
  · rename_i i q st'
    replace h := am_at_iff.mp h
    obtain ⟨e0, he, h⟩ := h
    split at h
    · rename_i u N f
      cases hb : Nat.beq u t with
      | false => rw [hb] at h; exact h.elim
      | true =>
        rw [hb] at h
        have hu := Nat.eq_of_beq_eq_true hb
        subst hu
        obtain ⟨h1, r, hf, h⟩ := h
        have hrl : r < w.length := hr.2.2.2.1 _ (List.mem_of_getElem? he) _ r hf
        refine va_aldA (q0 := q) (t0 := u) (f := fun j => (f j).map ad) hc.1 hc.2.1 hc.2.2.2.2.2.1.1 hr.1 (am_ws_at cA ad he) (htt cA) h1 hdg ?_
        have k1 := hK _ _ _ _ _ h ad H locs cells slots lsA hr hl (am_cr hrl (am_tl (am_tl hs))) hn hh hc1 hc2
        have e9 : va_rf ((f i.toNatClampNeg).map ad) = am_tr ad (am_sb cA) (.ref r) := by rw [hf]; rfl
        show W _ _ _ _ _ _ _ _ _ _ _ _ _ _ _ (F0 _ _ _ (va_rf ((f i.toNatClampNeg).map ad) :: _))
        rw [e9]
        exact k1
    · exact h.elim
  · exact h.elim
theorem am_alen_snd (hc : (am_ctx p l R s m args meth c cc nL own D cA A (am_sb cA) d)) (hdg : decode cc pc = .ok (.arraylength, 1)) (hpc : pc + 1 = n) : am_snd (am_J p l e R s m args below meth c D cA A Z (am_sb cA) nL n0 ad0) (am_alen n) pc := by
  subst hpc
  intro K hK k ls st w h ad H locs cells slots lsA hr hl hs hn hh hc1 hc2
  dsimp only [am_alen] at h
  split at h
  · rename_i q st'
    replace h := am_at_iff.mp h
    obtain ⟨e0, he, h⟩ := h
    split at h
    · rename_i u N z
      cases hb : Nat.ble u 3 with
      | false => rw [hb] at h; exact h.elim
      | true =>
        rw [hb] at h
        have hu := Nat.le_of_ble_eq_true hb
        have k1 := hK _ _ _ _ _ h ad H locs cells slots lsA hr hl (am_ci (am_tl hs)) hn hh hc1 hc2
        have hu4 : u = 0 ∨ u = 1 ∨ u = 2 ∨ u = 3 := by omega
        rcases z with f | f | f
        · rcases hu4 with rfl | rfl | rfl | rfl
          · exact va_alen hc.1 hc.2.1 hc.2.2.2.2.2.1.1 hr.1 q 0 (am_ws_at cA ad he) rfl rfl hdg k1
          · exact va_alen hc.1 hc.2.1 hc.2.2.2.2.2.1.1 hr.1 q 1 (am_ws_at cA ad he) rfl rfl hdg k1
          · exact va_alen hc.1 hc.2.1 hc.2.2.2.2.2.1.1 hr.1 q 2 (am_ws_at cA ad he) rfl rfl hdg k1
          · exact va_alen hc.1 hc.2.1 hc.2.2.2.2.2.1.1 hr.1 q 3 (am_ws_at cA ad he) rfl rfl hdg k1
        · rcases hu4 with rfl | rfl | rfl | rfl
          · exact va_alen hc.1 hc.2.1 hc.2.2.2.2.2.1.1 hr.1 q 0 (am_ws_at cA ad he) rfl rfl hdg k1
          · exact va_alen hc.1 hc.2.1 hc.2.2.2.2.2.1.1 hr.1 q 1 (am_ws_at cA ad he) rfl rfl hdg k1
          · exact va_alen hc.1 hc.2.1 hc.2.2.2.2.2.1.1 hr.1 q 2 (am_ws_at cA ad he) rfl rfl hdg k1
          · exact va_alen hc.1 hc.2.1 hc.2.2.2.2.2.1.1 hr.1 q 3 (am_ws_at cA ad he) rfl rfl hdg k1
        · rcases hu4 with rfl | rfl | rfl | rfl
          · exact va_alen hc.1 hc.2.1 hc.2.2.2.2.2.1.1 hr.1 q 0 (am_ws_at cA ad he) rfl rfl hdg k1
          · exact va_alen hc.1 hc.2.1 hc.2.2.2.2.2.1.1 hr.1 q 1 (am_ws_at cA ad he) rfl rfl hdg k1
          · exact va_alen hc.1 hc.2.1 hc.2.2.2.2.2.1.1 hr.1 q 2 (am_ws_at cA ad he) rfl rfl hdg k1
          · exact va_alen hc.1 hc.2.1 hc.2.2.2.2.2.1.1 hr.1 q 3 (am_ws_at cA ad he) rfl rfl hdg k1
    · exact h.elim
  · exact h.elim
theorem am_sld_snd (hc : (am_ctx p l R s m args meth c cc nL own D cA A (am_sb cA) d)) {L : Nat} {xs : Nat → Int32} (hX : va_X (cA 9) L xs s s.heap) (hbl : cA 9 < s.heap.size) (hbA : ¬ A (cA 9)) (hdg : decode cc pc = .ok (.iaload, 1)) (hpc : pc + 1 = n) : am_snd (am_J p l e R s m args below meth c D cA A Z (am_sb cA) nL n0 ad0) (am_sld L xs n) pc := by
  subst hpc
  intro K hK k ls st w h ad H locs cells slots lsA hr hl hs hn hh hc1 hc2
  dsimp only [am_sld] at h
  split at h
  · rename_i i st'
    exact va_sld hc.1 hc.2.1 hX hbl hbA hr.2.2.1 h.1 hdg (hK _ _ _ _ _ h.2 ad H locs cells slots lsA hr hl (am_ci (am_tl (am_tl hs))) hn hh hc1 hc2)
  · exact h.elim
theorem am_slen_snd (hc : (am_ctx p l R s m args meth c cc nL own D cA A (am_sb cA) d)) {L : Nat} {xs : Nat → Int32} (hX : va_X (cA 9) L xs s s.heap) (hbl : cA 9 < s.heap.size) (hbA : ¬ A (cA 9)) (hdg : decode cc pc = .ok (.arraylength, 1)) (hpc : pc + 1 = n) : am_snd (am_J p l e R s m args below meth c D cA A Z (am_sb cA) nL n0 ad0) (am_slen L n) pc := by
  subst hpc
  intro K hK k ls st w h ad H locs cells slots lsA hr hl hs hn hh hc1 hc2
  dsimp only [am_slen] at h
  split at h
  · exact va_slen hc.1 hc.2.1 hX hbl hbA hr.2.2.1 hdg (hK _ _ _ _ _ h ad H locs cells slots lsA hr hl (am_ci (am_tl hs)) hn hh hc1 hc2)
  · exact h.elim
theorem am_pay_iff {k : Nat} {K : Nat → Prop} (h : am_pay k K) : ∃ k', k = k' + 1 ∧ K k' := by
  cases k with
  | zero => exact h.elim
  | succ k => exact ⟨k, rfl, h⟩
theorem am_newi_snd (hc : (am_ctx p l R s m args meth c cc nL own D cA A (am_sb cA) d)) (harr : Cond.arrayClass .int ∈ am_tab) (hdg : decode cc pc = .ok (.newarray .int, 2)) (hpc : pc + 2 = n) : am_snd (am_J p l e R s m args below meth c D cA A Z (am_sb cA) nL n0 ad0) (am_newi n) pc := by
  subst hpc
  intro K hK k ls st w h ad H locs cells slots lsA hr hl hs hn hh hc1 hc2
  dsimp only [am_newi] at h
  split at h
  · rename_i x st'
    obtain ⟨N, rfl, hN, h⟩ := h
    replace h := am_pay_iff h
    obtain ⟨k', rfl, h⟩ := h
    replace h := am_app_iff.mp h
    have hN31 : N < 2 ^ 31 := by omega
    refine va_newa (atype := .int) (a0 := (N, .inl (fun _ => 0))) (N' := N) hc.1 hc.2.1 (hc.2.2.2.2.1 _ harr) rfl hc.2.2.2.2.2.1.1 hr.1 hr.2.1 hr.2.2.1 hc.2.2.2.2.2.2.1 (fun _ => rfl) (nI_pos hN31) (nI_clamp hN31) (by show N * 4 ≤ 536870912; omega) (by omega) (by omega) hdg (fun q cI H1 hK1 hP1 hD1 hS1 => ?_)
    have hcI : cI = cA 0 := by
      have g1 := (hK1.2 5 (cI, .int) rfl).2
      have g2 := (hc.2.2.2.2.2.1.1.2 0 (cA 0, .int) rfl).2
      exact Option.some.inj (g1.symm.trans g2)
    subst hcI
    have hext : ∀ j, j < w.length → am_ad ad w.length q j = ad j := fun j hj => am_ad_lt hj
    have k1 := hK _ _ _ _ _ h (am_ad ad w.length q) H1 locs (cells + 1) (slots + N) lsA (hr.push (e1 := .inl (0, N, .inl (fun _ => 0))) rfl hP1 hD1 hS1 trivial) (fun v hv => am_wv_le (by simp) (hl v hv)) (am_cr (by simp) (fun v hv => am_wv_le (by simp) (am_tl hs v hv))) hn (by rw [am_ents_ext hext hl]; exact hh) (by omega) (by omega)
    rw [List.map_cons, am_map_ext hext (am_tl hs)] at k1
    have e9 : am_tr (am_ad ad w.length q) (am_sb cA) (.ref w.length) = .ref q := congrArg Value.ref am_ad_n
    rw [e9] at k1
    exact k1
  · exact h.elim
theorem am_newz_snd (hc : (am_ctx p l R s m args meth c cc nL own D cA A (am_sb cA) d)) (harr : Cond.arrayClass .boolean ∈ am_tab) (hdg : decode cc pc = .ok (.newarray .boolean, 2)) (hpc : pc + 2 = n) : am_snd (am_J p l e R s m args below meth c D cA A Z (am_sb cA) nL n0 ad0) (am_newz n) pc := by
  subst hpc
  intro K hK k ls st w h ad H locs cells slots lsA hr hl hs hn hh hc1 hc2
  dsimp only [am_newz] at h
  split at h
  · rename_i x st'
    obtain ⟨N, rfl, hN, h⟩ := h
    replace h := am_pay_iff h
    obtain ⟨k', rfl, h⟩ := h
    replace h := am_app_iff.mp h
    have hN31 : N < 2 ^ 31 := by omega
    refine va_newa (atype := .boolean) (a0 := (N, .inl (fun _ => 0))) (N' := N) hc.1 hc.2.1 (hc.2.2.2.2.1 _ harr) rfl hc.2.2.2.2.2.1.1 hr.1 hr.2.1 hr.2.2.1 hc.2.2.2.2.2.2.1 (fun _ => rfl) (nI_pos hN31) (nI_clamp hN31) (by show N * 1 ≤ 536870912; omega) (by omega) (by omega) hdg (fun q cI H1 hK1 hP1 hD1 hS1 => ?_)
    have hcI : cI = cA 1 := by
      have g1 := (hK1.2 5 (cI, .boolean) rfl).2
      have g2 := (hc.2.2.2.2.2.1.1.2 1 (cA 1, .boolean) rfl).2
      exact Option.some.inj (g1.symm.trans g2)
    subst hcI
    have hext : ∀ j, j < w.length → am_ad ad w.length q j = ad j := fun j hj => am_ad_lt hj
    have k1 := hK _ _ _ _ _ h (am_ad ad w.length q) H1 locs (cells + 1) (slots + N) lsA (hr.push (e1 := .inl (1, N, .inl (fun _ => 0))) rfl hP1 hD1 hS1 trivial) (fun v hv => am_wv_le (by simp) (hl v hv)) (am_cr (by simp) (fun v hv => am_wv_le (by simp) (am_tl hs v hv))) hn (by rw [am_ents_ext hext hl]; exact hh) (by omega) (by omega)
    rw [List.map_cons, am_map_ext hext (am_tl hs)] at k1
    have e9 : am_tr (am_ad ad w.length q) (am_sb cA) (.ref w.length) = .ref q := congrArg Value.ref am_ad_n
    rw [e9] at k1
    exact k1
  · exact h.elim
/-- what the tables say of int[][]: its rows' class -/
theorem am_rowsK (hK : va_K D vwCl (am_tys cA) s) (ha : va_AOA .int s) : ∃ k, s.vm.classes[cA 3]? = some k ∧ k.kind = .array (cA 0) (.array .int) := by
  obtain ⟨comp, c, k, h1, h2, h3, h4, h5⟩ := am_over ha
  have g3 : s.vm.findClass ("[" ++ (FieldType.array .int).toString) = some (cA 3) := (hK.2 3 (cA 3, .array .int) rfl).2
  have g0 : s.vm.findClass (FieldType.array .int).toString = some (cA 0) := (hK.2 0 (cA 0, .int) rfl).2
  cases Option.some.inj (h5.symm.trans g3)
  cases Option.some.inj (h1.symm.trans g0)
  exact ⟨k, h3, h4⟩
theorem am_asg (vm : Vm) (c : ClassId) : vm.assignable c c = true := by
  have h : ∀ n, vm.assignableAux (n + 1) c c = true := fun n => by rw [Vm.assignableAux, beq_self_eq_true, Bool.true_or]
  exact h 255
theorem am_newr_snd (hc : (am_ctx p l R s m args meth c cc nL own D cA A (am_sb cA) d)) {idx : Nat} (hlink : Cond.classLink own idx "[I" ∈ am_tab) (hdg : decode cc pc = .ok (.anewarray idx, 3)) (hpc : pc + 3 = n) : am_snd (am_J p l e R s m args below meth c D cA A Z (am_sb cA) nL n0 ad0) (am_newr n) pc := by
  subst hpc
  intro K hK k ls st w h ad H locs cells slots lsA hr hl hs hn hh hc1 hc2
  dsimp only [am_newr] at h
  split at h
  · rename_i x st'
    obtain ⟨N, rfl, hN, h⟩ := h
    replace h := am_pay_iff h
    obtain ⟨k', rfl, h⟩ := h
    replace h := am_app_iff.mp h
    have hN31 : N < 2 ^ 31 := by omega
    have hG := hc.2.2.2.2.2.1
    have hcl : (nI N).toNatClampNeg = N := nI_clamp hN31
    refine W.anewA (t := .int) hc.1 hc.2.1 hc.2.2.2.1 (hc.2.2.2.2.1 _ hlink) (hG.2.2.2.2.2.2.1.1.use) rfl hdg rfl (nI_pos hN31) (by rw [hcl]; omega) (by omega) (by rw [hcl]; omega) (fun cI kI comp f1 f2 f3 f4 => ?_)
    rw [hcl]
    have hcI : cI = cA 3 := by
      have g2 := (hG.1.2 3 (cA 3, .array .int) rfl).2
      exact Option.some.inj (f1.symm.trans g2)
    subst hcI
    generalize hH1 : H.push ({ cls := cA 3, slots := Array.replicate N .null, vm := .none } : Cell) = H1
    have z1 : H1.size = H.size + 1 := by rw [← hH1, Array.size_push]
    have e1 : H1[H.size]? = some (arrV (cA 3) N (fun _ => .null)) := by rw [← hH1, Array.getElem?_push_size, ← arrV_new]
    have o1 : ∀ q : Nat, q < H.size → H1[q]? = H[q]? := fun q hq => by rw [← hH1, Array.getElem?_push, if_neg (Nat.ne_of_lt hq)]
    have hk : ∀ (k : Nat) (x : Nat × va_E), (am_ws cA ad w)[k]? = some x → H1[x.1]? = H[x.1]? := fun k x hx => o1 x.1 ((hr.1 k x hx).lt)
    have hP1 : va_P D vwCl (am_ws cA ad w ++ [(H.size, .inl (cA 3, N, .inr (.inr (.inr (.inr (fun _ => none))))))]) H1 := (hr.1.kept hk).app (fun k x hx => by
      have hz : k < 1 := (List.getElem?_eq_some_iff.mp hx).1
      rw [show k = 0 by omega] at hx
      cases hx
      show H1[H.size]? = some (vp_cell _ _)
      rw [vp_cell_q]
      exact e1)
    have hS := hr.2.2.1
    have hD1 : va_D A (am_ws cA ad w ++ [(H.size, .inl (cA 3, N, .inr (.inr (.inr (.inr (fun _ => none))))))]) := hr.2.1.push hr.1 rfl (hc.2.2.2.2.2.2.1 _ hS.1)
    have hS1 : va_S A s.heap H1 locs := ⟨Nat.le_trans hS.1 (by omega), fun x h1 h2 => (o1 x (Nat.lt_of_lt_of_le h1 hS.1)).trans (hS.2.1 x h1 h2), hS.2.2⟩
    have hext : ∀ j, j < w.length → am_ad ad w.length H.size j = ad j := fun j hj => am_ad_lt hj
    have k1 := hK _ _ _ _ _ h (am_ad ad w.length H.size) H1 locs (cells + 1) (slots + N) lsA (hr.push (e1 := .inl (3, N, .inr (.inr (fun _ => none)))) rfl hP1 hD1 hS1 (fun j r hjr => by cases hjr)) (fun v hv => am_wv_le (by simp) (hl v hv)) (am_cr (by simp) (fun v hv => am_wv_le (by simp) (am_tl hs v hv))) hn (by rw [am_ents_ext hext hl]; exact hh) (by omega) (by omega)
    rw [List.map_cons, am_map_ext hext (am_tl hs)] at k1
    have e9 : am_tr (am_ad ad w.length H.size) (am_sb cA) (.ref w.length) = .ref H.size := congrArg Value.ref am_ad_n
    rw [e9] at k1
    exact k1
  · exact h.elim
theorem am_aast_snd (hc : (am_ctx p l R s m args meth c cc nL own D cA A (am_sb cA) d)) (hdg : decode cc pc = .ok (.aastore, 1)) (hpc : pc + 1 = n) : am_snd (am_J p l e R s m args below meth c D cA A Z (am_sb cA) nL n0 ad0) (am_aast n) pc := by
  subst hpc
  intro K hK k ls st w h ad H locs cells slots lsA hr hl hs hn hh hc1 hc2
  dsimp only [am_aast] at h
  split at h
  · rename_i x i q st'
    replace h := am_at_iff.mp h
    obtain ⟨e0, he, h⟩ := h
    split at h
    · rename_i u N f
      replace h := am_at_iff.mp h
      obtain ⟨e2, he2, h⟩ := h
      split at h
      · rename_i u2 N2 g
        cases hb : (Nat.beq u 3 && Nat.beq u2 0) with
        | false => rw [hb] at h; exact h.elim
        | true =>
          rw [hb] at h
          simp only [Bool.and_eq_true] at hb
          have hu := Nat.eq_of_beq_eq_true hb.1
          have hu2 := Nat.eq_of_beq_eq_true hb.2
          subst hu
          subst hu2
          obtain ⟨hin, h⟩ := h
          replace h := am_put_iff.mp h
          obtain ⟨hql, h⟩ := h
          have hlt : i.toNatClampNeg < N := Nat.not_le.mp fun q => hin (Or.inr q)
          have h0 : ¬ i < 0 := fun q => hin (Or.inl q)
          have hG := hc.2.2.2.2.2.1
          obtain ⟨k3, hk3, hkind⟩ := am_rowsK hG.1 hG.2.2.2.2.2.2.1.1
          have g0 : s.vm.findClass (FieldType.array .int).toString = some (cA 0) := (hG.1.2 0 (cA 0, .int) rfl).2
          obtain ⟨k0, hk0, -⟩ := Vm.findClass_spec g0
          have hcell : H[ad q]? = some (vp_cell (cA 3) (N, .inr (.inr (.inr (.inr (fun j => (f j).map ad)))))) := hr.1 q _ (am_ws_at cA ad he)
          have hcv : H[ad x]? = some (vp_cell (cA 0) (N2, .inl g)) := hr.1 x _ (am_ws_at cA ad he2)
          refine W.aast hc.1 hc.2.1 hcell (fun q h => by cases h) (fun h => by cases h) hk3 hkind rfl hk0 ⟨h0, by show _ < (arrV _ _ _).slots.size; rw [arrV_size]; exact hlt⟩ hcv (fun q h => by cases h) hk0 (am_asg _ _) rfl rfl hdg fun H1 e1 z1 oq => ?_
          have hE : va_at D vwCl (ad q, am_tE cA ad (.inl (3, N, .inr (.inr (va_up f i.toNatClampNeg (some x)))))) H1 := by
            show H1[ad q]? = some (vp_cell _ _)
            rw [e1]
            rw [vp_cell_q, vp_cell_q, arrV_store]
            congr 2
            funext j
            by_cases hj : j = i.toNatClampNeg
            · subst hj
              simp [updV, va_up, va_rf]
            · simp [updV, va_up, hj]
          have hP1 := hr.1.set hr.2.1 (am_ws_at cA ad he) hE oq
          have hD1 := hr.2.1.set (e := am_tE cA ad (.inl (3, N, .inr (.inr (va_up f i.toNatClampNeg (some x)))))) (am_ws_at cA ad he)
          have hS1 := hr.2.2.1.put (k := i.toNatClampNeg) z1 oq (hr.2.1.2 q _ (am_ws_at cA ad he))
          have hxl : x < w.length := am_top hs
          refine hK _ _ _ _ _ h ad H1 _ cells slots lsA (hr.set hP1 hD1 hS1 (fun j r hjr => ?_)) (by rw [List.length_set]; exact hl) (by rw [List.length_set]; exact am_tl (am_tl (am_tl hs))) hn hh hc1 hc2
          unfold va_up at hjr
          split at hjr
          · cases hjr; exact hxl
          · exact hr.2.2.2.1 _ (List.mem_of_getElem? he) _ r hjr
      · exact h.elim
    · exact h.elim
  · exact h.elim
theorem am_new_snd (hc : (am_ctx p l R s m args meth c cc nL own D cA A (am_sb cA) d)) {C : String} {T : u_T} {N ci idx : Nat} {fs : List Value} (hcl : vwCl[ci]? = some (C, T, N)) (hin : ∀ w ∈ u_ws C T N, w ∈ am_tab) (tys : Nat → FieldType) (htys : ∀ k, k < N → parseFieldDescriptor (T k).2.2.1 = some (tys k)) (hlink : Cond.classLink own idx C ∈ am_tab) (hinst : Cond.instantiable C N ∈ am_tab) (hini : Cond.initialized C ∈ am_tab) (hfs : ∀ j, j < N → defaultValue (tys j) = vp_V fs j) (hN : N ≤ 1100) (hfs1 : ∀ ad, fs.map (am_tr ad (am_sb cA)) = fs) (hfs2 : ∀ n, ∀ v ∈ fs, am_wv n v) (hdg : decode cc pc = .ok (.new idx, 3)) (hpc : pc + 3 = n) : am_snd (am_J p l e R s m args below meth c D cA A Z (am_sb cA) nL n0 ad0) (am_new ci fs n) pc := by
  subst hpc
  intro K hK k ls st w h ad H locs cells slots lsA hr hl hs hn hh hc1 hc2
  replace h := am_pay_iff h
  obtain ⟨k', rfl, h⟩ := h
  replace h := am_app_iff.mp h
  refine va_new (D := D) (cl := vwCl) (ci := ci) (fs := fs) (C := C) (T := T) (N := N) hc.1 hc.2.1 hc.2.2.2.2.1 hin tys htys hc.2.2.2.1 (hc.2.2.2.2.1 _ hlink) (hc.2.2.2.2.1 _ hinst) (hc.2.2.2.2.1 _ hini) hc.2.2.2.2.2.1.1 hr.1 hr.2.1 hr.2.2.1 hc.2.2.2.2.2.2.1 hcl hfs (by omega) (by omega) hdg (fun q H1 hP1 hD1 hS1 => ?_)
  have hext : ∀ j, j < w.length → am_ad ad w.length q j = ad j := fun j hj => am_ad_lt hj
  have k1 := hK _ _ _ _ _ h (am_ad ad w.length q) H1 locs (cells + 1) (slots + N) lsA (hr.push (e1 := .inr (ci, fs)) (by show Sum.inr (ci, fs.map _) = _; rw [hfs1]) hP1 hD1 hS1 (hfs2 _)) (fun v hv => am_wv_le (by simp) (hl v hv)) (am_cr (by simp) (fun v hv => am_wv_le (by simp) (hs v hv))) hn (by rw [am_ents_ext hext hl]; exact hh) (by omega) (by omega)
  rw [List.map_cons, am_map_ext hext hs] at k1
  have e9 : am_tr (am_ad ad w.length q) (am_sb cA) (.ref w.length) = .ref q := congrArg Value.ref am_ad_n
  rw [e9] at k1
  exact k1
theorem arrV_same {cI : ClassId} {N : Nat} {f g : Nat → Value} (h : ∀ j, j < N → f j = g j) : arrV cI N f = arrV cI N g := by
  have : (fun j : Fin N => f j.val) = (fun j : Fin N => g j.val) := funext fun j => h j.val j.isLt
  unfold arrV
  rw [this]
theorem am_cell_same {cA : ClassId} {n : Nat} {f g : Nat → Int32} (h : ∀ j, j < n → f j = g j) : vp_cell cA (n, .inl f) = vp_cell cA (n, .inl g) := by
  rw [vp_cell_i, vp_cell_i]
  exact arrV_same (fun j hj => by rw [h j hj])
theorem am_P_same {D : va_G} {cl : List vw_C} {ws : va_W} {i a : Nat} {e e' : va_E} {H : Heap} (he : ∀ H, va_at D cl (a, e) H → va_at D cl (a, e') H) (h : va_P D cl (ws.set i (a, e)) H) : va_P D cl (ws.set i (a, e')) H := by
  intro k q hk
  by_cases hi : i = k
  · subst hi
    by_cases hl : i < ws.length
    · rw [List.getElem?_set_self hl] at hk
      cases hk
      exact he _ (h i _ (List.getElem?_set_self hl))
    · rw [List.getElem?_eq_none (by rw [List.length_set]; omega)] at hk
      cases hk
  · rw [List.getElem?_set_ne hi] at hk
    exact h k q (by rw [List.getElem?_set_ne hi]; exact hk)
theorem am_D_at {ws : va_W} {i a : Nat} {e e' : va_E} {k : Nat} {q : Nat × va_E} (hk : (ws.set i (a, e'))[k]? = some q) : ∃ q' : Nat × va_E, (ws.set i (a, e))[k]? = some q' ∧ q'.1 = q.1 := by
  by_cases hi : i = k
  · subst hi
    by_cases hl : i < ws.length
    · rw [List.getElem?_set_self hl] at hk
      cases hk
      exact ⟨_, List.getElem?_set_self hl, rfl⟩
    · rw [List.getElem?_eq_none (by rw [List.length_set]; omega)] at hk
      cases hk
  · rw [List.getElem?_set_ne hi] at hk
    exact ⟨q, by rw [List.getElem?_set_ne hi]; exact hk, rfl⟩
theorem am_D_same {A : Nat → Prop} {ws : va_W} {i a : Nat} {e e' : va_E} (h : va_D A (ws.set i (a, e))) : va_D A (ws.set i (a, e')) := by
  refine ⟨fun j k p q hj hk hpq => ?_, fun k q hk => ?_⟩
  · obtain ⟨p', hp, ep⟩ := am_D_at (e := e) hj
    obtain ⟨q', hq, eq⟩ := am_D_at (e := e) hk
    exact h.1 j k p' q' hp hq (by rw [ep, eq, hpq])
  · obtain ⟨q', hq, eq⟩ := am_D_at (e := e) hk
    rw [← eq]
    exact h.2 k q' hq
theorem am_copy_snd (hc : (am_ctx p l R s m args meth c cc nL own D cA A (am_sb cA) d)) {idx : Nat} (hlink : Cond.methodLink own idx arraycopyName ∈ am_tab) (hnat : Cond.native arraycopyName ∈ am_tab) (hstat : Cond.static arraycopyName ∈ am_tab) (hini : Cond.initialized "java/lang/System" ∈ am_tab) (hdg : decode cc pc = .ok (.invokestatic idx, 3)) (hpc : pc + 3 = n) : am_snd (am_J p l e R s m args below meth c D cA A Z (am_sb cA) nL n0 ad0) (am_copy n) pc := by
  subst hpc
  intro K hK k ls st w h ad H locs cells slots lsA hr hl hs hn hh hc1 hc2
  dsimp only [am_copy] at h
  split at h
  · rename_i c0 dp b sp a st'
    replace h := am_at_iff.mp h
    obtain ⟨e0, he, h⟩ := h
    split at h
    · rename_i u N f
      replace h := am_at_iff.mp h
      obtain ⟨e2, he2, h⟩ := h
      split at h
      · rename_i u2 N2 g
        cases hb : (Nat.beq u 0 && (Nat.beq u2 0 && Nat.ble (am_cat st') 8)) with
        | false => rw [hb] at h; exact h.elim
        | true =>
          rw [hb] at h
          simp only [Bool.and_eq_true] at hb
          obtain ⟨b1, b2, b3⟩ := hb
          have hu := Nat.eq_of_beq_eq_true b1
          have hu2 := Nat.eq_of_beq_eq_true b2
          have hcat := Nat.le_of_ble_eq_true b3
          subst hu
          subst hu2
          obtain ⟨⟨g1, g2, g3, g4, g5⟩, g', hg, h⟩ := h
          replace h := am_put_iff.mp h
          obtain ⟨hql, h⟩ := h
          refine va_copyi (ty := .int) hc.1 hc.2.1 (by rw [hc.2.2.1]; exact hh.1.symm) hc.2.2.2.1 (hc.2.2.2.2.1 _ hlink) (hc.2.2.2.2.1 _ hnat) (hc.2.2.2.2.1 _ hstat) (hc.2.2.2.2.1 _ hini) hc.2.2.2.2.2.1.1 hr.1 hr.2.1 hr.2.2.1 a b 0 0 (am_ws_at cA ad he) (am_ws_at cA ad he2) rfl rfl rfl g1 g2 g3 g4 g5 (fun _ _ => rfl) (by have := hc.2.2.2.2.2.2.2.2.2.1; omega) (by
            have h64 := hc.2.2.2.2.2.2.2.2.2.2.1
            rw [am_cat_map hc.2.2.2.2.2.2.2.2.2.2.2]
            have : nativeFrameWords "java/lang/System" "arraycopy" 5 ≤ 40 := by decide +kernel
            omega) hdg (fun H1 locs1 hP1 hD1 hS1 => ?_)
          exact hK _ _ _ _ _ h ad H1 locs1 cells slots lsA (hr.set (e1 := .inl (0, N2, .inl g')) (am_P_same (e := .inl (cA 0, N2, .inl (va_cpy f g sp.toNatClampNeg dp.toNatClampNeg c0.toNatClampNeg))) (fun H h => h.trans (congrArg some (am_cell_same hg))) hP1) (am_D_same (e := .inl (cA 0, N2, .inl (va_cpy f g sp.toNatClampNeg dp.toNatClampNeg c0.toNatClampNeg))) hD1) hS1 trivial) (by rw [List.length_set]; exact hl) (by rw [List.length_set]; exact am_tl (am_tl (am_tl (am_tl (am_tl hs))))) hn hh hc1 hc2
      · exact h.elim
    · exact h.elim
  · exact h.elim
theorem am_max_snd (hc : (am_ctx p l R s m args meth c cc nL own D cA A (am_sb cA) d)) {idx : Nat} (hlink : Cond.methodLink own idx Lib.Math.max.name ∈ am_tab) (hstat : Cond.static Lib.Math.max.name ∈ am_tab) (hini : Cond.initialized "java/lang/Math" ∈ am_tab) (hcode : Cond.code Lib.Math.max.name Lib.Math.max.code 2 (some .int) ∈ am_tab) (hdg : decode cc pc = .ok (.invokestatic idx, 3)) (hpc : pc + 3 = n) : am_snd (am_J p l e R s m args below meth c D cA A Z (am_sb cA) nL n0 ad0) (am_max n) pc := by
  subst hpc
  intro K hK k ls st w h ad H locs cells slots lsA hr hl hs hn hh hc1 hc2
  dsimp only [am_max] at h
  split at h
  · rename_i y x st'
    cases hb : Nat.ble (am_cat st') 8 with
    | false => rw [hb] at h; exact h.elim
    | true =>
      rw [hb] at h
      have hcat := Nat.le_of_ble_eq_true hb
      exact va_mmax hc.1 hc.2.1 (by rw [hc.2.2.1]; exact hh.1.symm) hc.2.2.2.1 (hc.2.2.2.2.1 _ hlink) (hc.2.2.2.2.1 _ hstat) (hc.2.2.2.2.1 _ hini) (hc.2.2.2.2.1 _ hcode) (by have := hc.2.2.2.2.2.2.2.2.2.1; omega) (by have h64 := hc.2.2.2.2.2.2.2.2.2.2.1; rw [am_cat_map hc.2.2.2.2.2.2.2.2.2.2.2]; omega) (by omega) (by omega) hdg (hK _ _ _ _ _ h ad H locs cells slots lsA hr hl (am_ci (am_tl (am_tl hs))) hn hh hc1 hc2)
  · exact h.elim
theorem am_min_snd (hc : (am_ctx p l R s m args meth c cc nL own D cA A (am_sb cA) d)) {idx : Nat} (hlink : Cond.methodLink own idx Lib.Math.min.name ∈ am_tab) (hstat : Cond.static Lib.Math.min.name ∈ am_tab) (hini : Cond.initialized "java/lang/Math" ∈ am_tab) (hcode : Cond.code Lib.Math.min.name Lib.Math.min.code 2 (some .int) ∈ am_tab) (hdg : decode cc pc = .ok (.invokestatic idx, 3)) (hpc : pc + 3 = n) : am_snd (am_J p l e R s m args below meth c D cA A Z (am_sb cA) nL n0 ad0) (am_min n) pc := by
  subst hpc
  intro K hK k ls st w h ad H locs cells slots lsA hr hl hs hn hh hc1 hc2
  dsimp only [am_min] at h
  split at h
  · rename_i y x st'
    cases hb : Nat.ble (am_cat st') 8 with
    | false => rw [hb] at h; exact h.elim
    | true =>
      rw [hb] at h
      have hcat := Nat.le_of_ble_eq_true hb
      exact va_mmin hc.1 hc.2.1 (by rw [hc.2.2.1]; exact hh.1.symm) hc.2.2.2.1 (hc.2.2.2.2.1 _ hlink) (hc.2.2.2.2.1 _ hstat) (hc.2.2.2.2.1 _ hini) (hc.2.2.2.2.1 _ hcode) (by have := hc.2.2.2.2.2.2.2.2.2.1; omega) (by have h64 := hc.2.2.2.2.2.2.2.2.2.2.1; rw [am_cat_map hc.2.2.2.2.2.2.2.2.2.2.2]; omega) (by omega) (by omega) hdg (hK _ _ _ _ _ h ad H locs cells slots lsA hr hl (am_ci (am_tl (am_tl hs))) hn hh hc1 hc2)
  · exact h.elim
theorem am_copyR_snd (hc : (am_ctx p l R s m args meth c cc nL own D cA A (am_sb cA) d)) {idx : Nat} (hlink : Cond.methodLink own idx arraycopyName ∈ am_tab) (hnat : Cond.native arraycopyName ∈ am_tab) (hstat : Cond.static arraycopyName ∈ am_tab) (hini : Cond.initialized "java/lang/System" ∈ am_tab) (hdg : decode cc pc = .ok (.invokestatic idx, 3)) (hpc : pc + 3 = n) : am_snd (am_J p l e R s m args below meth c D cA A Z (am_sb cA) nL n0 ad0) (am_copyR n) pc := by
  subst hpc
  intro K hK k ls st w h ad H locs cells slots lsA hr hl hs hn hh hc1 hc2
  dsimp only [am_copyR] at h
  split at h
  · rename_i c0 dp b sp a st'
    replace h := am_at_iff.mp h
    obtain ⟨e0, he, h⟩ := h
    split at h
    · rename_i u N f
      replace h := am_at_iff.mp h
      obtain ⟨e2, he2, h⟩ := h
      split at h
      · rename_i u2 N2 g
        cases hb : (Nat.beq u 3 && (Nat.beq u2 3 && Nat.ble (am_cat st') 8)) with
        | false => rw [hb] at h; exact h.elim
        | true =>
          rw [hb] at h
          simp only [Bool.and_eq_true] at hb
          obtain ⟨b1, b2, b3⟩ := hb
          have hu := Nat.eq_of_beq_eq_true b1
          have hu2 := Nat.eq_of_beq_eq_true b2
          have hcat := Nat.le_of_ble_eq_true b3
          subst hu
          subst hu2
          obtain ⟨⟨g1, g2, g3, g4, g5⟩, hel, h⟩ := h
          replace h := am_put_iff.mp h
          obtain ⟨hql, h⟩ := h
          have nn : ∀ z : Int32, ¬ z < 0 → z.toInt = (z.toNatClampNeg : Int) := by
            intro z hz
            have hz0 : (0 : Int) ≤ z.toInt := by
              have := Int32.not_lt.mp hz
              simpa using Int32.le_iff_toInt_le.mp this
            show z.toInt = ((z.toInt.toNat : Nat) : Int)
            omega
          have hG := hc.2.2.2.2.2.1
          obtain ⟨k3, hk3, hkind⟩ := am_rowsK hG.1 hG.2.2.2.2.2.2.1.1
          have g0 : s.vm.findClass (FieldType.array .int).toString = some (cA 0) := (hG.1.2 0 (cA 0, .int) rfl).2
          obtain ⟨k0, hk0, -⟩ := Vm.findClass_spec g0
          have hca : H[ad a]? = some (vp_cell (cA 3) (N, .inr (.inr (.inr (.inr (fun j => (f j).map ad)))))) := hr.1 a _ (am_ws_at cA ad he)
          have hcb : H[ad b]? = some (vp_cell (cA 3) (N2, .inr (.inr (.inr (.inr (fun j => (g j).map ad)))))) := hr.1 b _ (am_ws_at cA ad he2)
          have hfr := hc.2.2.2.2.2.2.2.2.2.1
          have hlo := hc.2.2.2.2.2.2.2.2.2.2.1
          have h40 : nativeFrameWords "java/lang/System" "arraycopy" 5 ≤ 40 := by decide +kernel
          intro T hT X
          obtain ⟨vm', X', step⟩ := X.arraycopy hc.1 hc.2.2.2.1 (hc.2.2.2.2.1 _ hlink) (hc.2.2.2.2.1 _ hnat) (hc.2.2.2.2.1 _ hstat) (hc.2.2.2.2.1 _ hini) (src := ad a) (dst := ad b) (cs := vp_cell (cA 3) (N, .inr (.inr (.inr (.inr (fun j => (f j).map ad)))))) (cd := vp_cell (cA 3) (N2, .inr (.inr (.inr (.inr (fun j => (g j).map ad)))))) (srcPos := sp) (destPos := dp) (n := c0) (by rw [hT]; exact hca) (by rw [hT]; exact hcb)
            (fun _ h => by cases h) (fun _ h => by cases h) (fun h => by cases h) (fun h => by cases h) hk3 hk3 hkind hkind rfl g1 g2 g3
            (by rw [nn sp g1, nn c0 g3]; show ¬ _ > ((arrV (cA 3) N (fun j => va_rf ((f j).map ad))).slots.size : Int); rw [arrV_size]; omega)
            (by rw [nn dp g2, nn c0 g3]; show ¬ _ > ((arrV (cA 3) N2 (fun j => va_rf ((g j).map ad))).slots.size : Int); rw [arrV_size]; omega)
            (fun vm₁ hal i hi => by
              have e : (vp_cell (cA 3) (N, .inr (.inr (.inr (.inr (fun j => (f j).map ad)))))).slots.getD (sp.toNatClampNeg + i) .null = va_rf ((f (sp.toNatClampNeg + i)).map ad) := by
                show (arrV (cA 3) N (fun j => va_rf ((f j).map ad))).slots.getD _ _ = _
                rw [Array.getD_eq_getD_getElem?, arrV_read _ _ (by omega)]
                rfl
              rw [e]
              cases hy : f (sp.toNatClampNeg + i) with
              | none => exact ⟨rfl, trivial⟩
              | some y =>
                obtain ⟨n', hh', hw⟩ := hel i hi y hy
                have hcy : H[ad y]? = some (vp_cell (cA 0) (n', .inl hh')) := hr.1 y _ (am_ws_at cA ad hw)
                obtain ⟨kC', hkC', -⟩ := hal.2.2 _ _ hk0
                refine ⟨rfl, _, (show T.heap[ad y]? = some _ by rw [hT]; exact hcy), (fun q h => by cases h), ⟨kC', hkC'⟩, ?_, am_asg _ _⟩
                exact ⟨kC', hkC'⟩)
            (g := F0 m pc lsA (.int c0 :: .int dp :: .ref (ad b) :: .int sp :: .ref (ad a) :: st'.map (am_tr ad (am_sb cA)))) rfl (by rw [hc.2.2.1]; exact hh.1) (rest := st'.map (am_tr ad (am_sb cA))) rfl (by rw [hc.2.1]; exact hdg) (by omega) (by show 2 * 0 + _ + _ ≤ _; rw [am_cat_map hc.2.2.2.2.2.2.2.2.2.2.2]; omega)
          have e1 : copied (vp_cell (cA 3) (N, .inr (.inr (.inr (.inr (fun j => (f j).map ad)))))) (vp_cell (cA 3) (N2, .inr (.inr (.inr (.inr (fun j => (g j).map ad)))))) sp dp c0 = vp_cell (cA 3) (N2, .inr (.inr (.inr (.inr (fun j => (va_cpy f g sp.toNatClampNeg dp.toNatClampNeg c0.toNatClampNeg j).map ad))))) := by
            rw [vp_cell_q, vp_cell_q, vp_cell_q]
            refine (va_copied (fun z : Option Nat => va_rf z) (cA 3) (cA 3) (fun j => (f j).map ad) (fun j => (g j).map ad) g4).trans (arrV_same fun j _ => ?_)
            unfold va_cpy
            split <;> rfl
          rw [e1] at X' step
          have hbl : ad b < H.size := (Array.getElem?_eq_some_iff.mp hcb).1
          generalize hC : vp_cell (cA 3) (N2, .inr (.inr (.inr (.inr (fun j => (va_cpy f g sp.toNatClampNeg dp.toNatClampNeg c0.toNatClampNeg j).map ad))))) = CC at X' step
          have hheap : ((T.setVm vm').setCell (ad b) CC).heap = H.setIfInBounds (ad b) CC := by rw [← hT]; rfl
          have oq : ∀ q : Nat, q ≠ ad b → (H.setIfInBounds (ad b) CC)[q]? = H[q]? := fun q hq => by simp [Array.getElem?_setIfInBounds, Ne.symm hq]
          have hE : va_at D vwCl (ad b, am_tE cA ad (.inl (3, N2, .inr (.inr (va_cpy f g sp.toNatClampNeg dp.toNatClampNeg c0.toNatClampNeg))))) (H.setIfInBounds (ad b) CC) := by
            show (H.setIfInBounds (ad b) CC)[ad b]? = some (vp_cell (cA 3) (N2, .inr (.inr (.inr (.inr (fun j => (va_cpy f g sp.toNatClampNeg dp.toNatClampNeg c0.toNatClampNeg j).map ad))))))
            rw [hC]
            simp [Array.getElem?_setIfInBounds, hbl]
          have hP1 := hr.1.set hr.2.1 (am_ws_at cA ad he2) hE oq
          have hD1 := hr.2.1.set (e := am_tE cA ad (.inl (3, N2, .inr (.inr (va_cpy f g sp.toNatClampNeg dp.toNatClampNeg c0.toNatClampNeg))))) (am_ws_at cA ad he2)
          obtain ⟨t, a1, b1⟩ := hK _ _ _ _ _ h ad _ _ cells slots lsA (hr.set hP1 hD1 ⟨by simp; exact hr.2.2.1.1, fun q g1 g2 => by
              rw [oq q (fun e => g2 (by rw [e]; exact hr.2.1.2 b _ (am_ws_at cA ad he2)))]
              exact hr.2.2.1.2.1 q g1 g2, fun q hq => by
              rcases List.mem_append.mp hq with h | h
              · exact hr.2.2.1.2.2 q h
              · obtain ⟨z, -, hz⟩ := List.mem_map.mp h
                rw [← hz]
                exact hr.2.1.2 b _ (am_ws_at cA ad he2)⟩ (fun j r hjr => by
              unfold va_cpy at hjr
              split at hjr
              · exact hr.2.2.2.1 _ (List.mem_of_getElem? he) _ r hjr
              · exact hr.2.2.2.1 _ (List.mem_of_getElem? he2) _ r hjr)) (by rw [List.length_set]; exact hl) (by rw [List.length_set]; exact am_tl (am_tl (am_tl (am_tl (am_tl hs))))) hn hh hc1 hc2 _ hheap X'
          exact ⟨t, step t a1, b1⟩
      · exact h.elim
    · exact h.elim
  · exact h.elim
theorem am_abs_snd (hc : (am_ctx p l R s m args meth c cc nL own D cA A (am_sb cA) d)) {idx : Nat} (hlink : Cond.methodLink own idx Lib.Math.abs.name ∈ am_tab) (hstat : Cond.static Lib.Math.abs.name ∈ am_tab) (hini : Cond.initialized "java/lang/Math" ∈ am_tab) (hcode : Cond.code Lib.Math.abs.name Lib.Math.abs.code 1 (some .int) ∈ am_tab) (hdg : decode cc pc = .ok (.invokestatic idx, 3)) (hpc : pc + 3 = n) : am_snd (am_J p l e R s m args below meth c D cA A Z (am_sb cA) nL n0 ad0) (am_abs n) pc := by
  subst hpc
  intro K hK k ls st w h ad H locs cells slots lsA hr hl hs hn hh hc1 hc2
  dsimp only [am_abs] at h
  split at h
  · rename_i x st'
    cases hb : Nat.ble (am_cat st') 8 with
    | false => rw [hb] at h; exact h.elim
    | true =>
      rw [hb] at h
      have hcat := Nat.le_of_ble_eq_true hb
      exact va_mabs hc.1 hc.2.1 (by rw [hc.2.2.1]; exact hh.1.symm) hc.2.2.2.1 (hc.2.2.2.2.1 _ hlink) (hc.2.2.2.2.1 _ hstat) (hc.2.2.2.2.1 _ hini) (hc.2.2.2.2.1 _ hcode) (by have := hc.2.2.2.2.2.2.2.2.2.1; omega) (by have h64 := hc.2.2.2.2.2.2.2.2.2.2.1; rw [am_cat_map hc.2.2.2.2.2.2.2.2.2.2.2]; omega) (by omega) (by omega) hdg (hK _ _ _ _ _ h ad H locs cells slots lsA hr hl (am_ci (am_tl hs)) hn hh hc1 hc2)
  · exact h.elim
theorem am_init_snd (hc : (am_ctx p l R s m args meth c cc nL own D cA A (am_sb cA) d)) {idx : Nat} (hlink : Cond.methodLink own idx Lib.objectInit ∈ am_tab) (hinst : Cond.instanceMethod Lib.objectInit ∈ am_tab) (hcode : Cond.code Lib.objectInit ⟨#[0xb1]⟩ 1 none ∈ am_tab) (hdg : decode cc pc = .ok (.invokespecial idx, 3)) (hpc : pc + 3 = n) : am_snd (am_J p l e R s m args below meth c D cA A Z (am_sb cA) nL n0 ad0) (am_init n) pc := by
  subst hpc
  intro K hK k ls st w h ad H locs cells slots lsA hr hl hs hn hh hc1 hc2
  dsimp only [am_init] at h
  split at h
  · rename_i q st'
    cases hb : Nat.ble (am_cat st') 8 with
    | false => rw [hb] at h; exact h.elim
    | true =>
      rw [hb] at h
      have hcat := Nat.le_of_ble_eq_true hb
      exact W.objInit hc.1 hc.2.1 hc.2.2.2.1 (hc.2.2.2.2.1 _ hlink) (hc.2.2.2.2.1 _ hinst) (hc.2.2.2.2.1 _ hcode) rfl (by rw [hc.2.2.1]; exact hh.1) rfl hdg (by have := hc.2.2.2.2.2.2.2.2.2.1; omega) (by have h64 := hc.2.2.2.2.2.2.2.2.2.2.1; show 2 * 0 + ((st'.map (am_tr ad (am_sb cA))).map fun v => v.category).sum + 12 ≤ _; rw [am_cat_map hc.2.2.2.2.2.2.2.2.2.2.2]; omega) (hK _ _ _ _ _ h ad H locs cells slots lsA hr hl (am_tl hs) hn hh hc1 hc2)
  · exact h.elim
end AMS
