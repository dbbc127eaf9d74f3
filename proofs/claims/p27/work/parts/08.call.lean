/-! calls, throws, returns of AM over the machine; and a contract out of a body -/
section AMC
variable {p : Program} {l : Launch} {e : Env} {R : Room} {s : State} {m : MethodId} {args : Array Value} {below : List Frame} {meth : Method} {c : Code} {D : va_G} {cA : Nat → ClassId} {A : Nat → Prop} {Z : State → Prop} {nL n0 : Nat} {ad0 : Nat → Nat} {cc : ByteArray} {own : String} {d pc n t : Nat}
/-- a handler's word: what is thrown here, with the number x, is dealt with -/
def am_hs (p : Program) (l : Launch) (e : Env) (R : Room) (s : State) (m : MethodId) (args : Array Value) (below : List Frame) (meth : Method) (c : Code) (D : va_G) (cA : Nat → ClassId) (A : Nat → Prop) (Z : State → Prop) (nb : Value) (nL n0 : Nat) (ad0 : Nat → Nat) (K : am_K) (Hd : am_K → Nat → Nat → am_L → am_M → Prop) (pc : Nat) : Prop :=
  ∀ (x k : Nat) (ls : am_L) (w : am_M), Hd K x k ls w → ∀ (ad : Nat → Nat) (H : Heap) (locs : List Loc) (cells slots : Nat) (lsA : Array Slot) (rest : List Value) (q : Addr) (ce : Cell), am_rel D cA A n0 ad0 s.heap ad w H locs → (∀ v, some v ∈ ls → am_wv w.length v) → ls.length = nL → lv_has lsA nL (am_ents ad nb 0 ls) →
    cells + k ≤ R.cells → slots + 1100 * k ≤ R.slots → H[q]? = some ce → ce.vm = .none → s.vm.findClass (am_xn x) = some ce.cls → vx_W p l e R s m args below meth c H locs cells slots Z (F0 m pc lsA rest) q
theorem am_rel.behind {ad ad' : Nat → Nat} {w w' : am_M} {H H1 : Heap} {locs locs1 : List Loc} (hr : am_rel D cA A n0 ad0 s.heap ad w H locs) (hU : am_U D cA ad w (va_A (am_ws cA ad w) H.size) ad' w' H1) (hS : va_S A s.heap H1 locs1) (hF : ∀ q, va_A (am_ws cA ad w) H.size q → A q) : am_rel D cA A n0 ad0 s.heap ad' w' H1 locs1 := by
  obtain ⟨h1, h2, h3, h4, h5⟩ := hU
  exact ⟨h1, h2.weaken (fun k q _ h => hF q.1 h), hS, h3, Nat.le_trans hr.2.2.2.2.1 h4, fun j hj => (h5 j (Nat.lt_of_lt_of_le hj hr.2.2.2.2.1)).trans (hr.2.2.2.2.2 j hj)⟩
theorem am_free {ad : Nat → Nat} {w : am_M} {H : Heap} {locs : List Loc} (hr : am_rel D cA A n0 ad0 s.heap ad w H locs) (hA : ∀ q, s.heap.size ≤ q → A q) : ∀ q, va_A (am_ws cA ad w) H.size q → A q := by
  intro q h
  rcases h with ⟨k, e, h⟩ | h
  · exact hr.2.1.2 k (q, e) h
  · exact hA q (Nat.le_trans hr.2.2.1.1 h)
/-- behind any call -/
theorem am_back {y b : Nat} {as : List Value} {w : am_M} {QQ : am_Q} {K : am_K} {Hd : am_K → Nat → Nat → am_L → am_M → Prop} (hA : ∀ q, s.heap.size ≤ q → A q) (hHd : am_hs p l e R s m args below meth c D cA A Z (am_sb cA) nL n0 ad0 K Hd pc) (hK : ∀ k pc ls st w, K k pc ls st w → (am_J p l e R s m args below meth c D cA A Z (am_sb cA) nL n0 ad0) k pc ls st w)
    {k : Nat} {ls : am_L} {st' : am_S} {ad : Nat → Nat} {H : Heap} {locs : List Loc} {cells slots : Nat} {lsA : Array Slot} {a : Array Value} {st0 : List Value} (hr : am_rel D cA A n0 ad0 s.heap ad w H locs) (hl : ∀ v, some v ∈ ls → am_wv w.length v) (hs : ∀ v ∈ st', am_wv w.length v) (hn : ls.length = nL) (hh : lv_has lsA nL (am_ents ad (am_sb cA) 0 ls)) (hb : b ≤ k) (hc1 : cells + k ≤ R.cells) (hc2 : slots + 1100 * k ≤ R.slots)
    (hQQ : QQ = fun o w' => match o with
      | .inl none => K (k - b) (pc + 3) ls st' w'
      | .inl (some v) => K (k - b) (pc + 3) ls (v :: st') w'
      | .inr x => Hd K x (k - b) ls w')
    (hrun : vx_Run p l e R s m args below meth c H locs cells slots b (1100 * b) (F0 m pc lsA st0) (st'.map (am_tr ad (am_sb cA))) (am_post D cA ad w (va_A (am_ws cA ad w) H.size) QQ a) (am_px D cA ad w (va_A (am_ws cA ad w) H.size) QQ) (va_A (am_ws cA ad w) H.size)) :
    W p l e R s m args below meth c H locs cells slots Z (F0 m pc lsA st0) := by
  have hF := am_free hr hA
  intro T hT X
  rcases hrun T hT X with ⟨v, st₀, t, T', L, h0, X', hL, e1, e2, ⟨⟨v', w', ad', hv, hq, hwv, hU⟩, hFr⟩, st⟩ | ⟨q, st₀, t, T', L, E, ce, h0, X', hL, e1, e2, ⟨⟨x, w', ad', hE, hq, hU⟩, hFr⟩, hce, hcv, hcl, st⟩
  · cases hv
    obtain ⟨k1, k2, k3⟩ := vx_keep h0 e1 hr.2.2.1 (fun q _ h => hF q h) hF hL hFr
    rw [← e1] at hU
    have hr' := hr.behind hU k3 hF
    obtain ⟨-, -, -, hle, hext⟩ := id hU
    have hls : ∀ v, some v ∈ ls → am_wv w'.length v := fun v hv => am_wv_le hle (hl v hv)
    have hst : ∀ v ∈ st', am_wv w'.length v := fun v hv => am_wv_le hle (hs v hv)
    have hhl : lv_has lsA nL (am_ents ad' (am_sb cA) 0 ls) := by rw [am_ents_ext hext hl]; exact hh
    rw [hQQ] at hq
    cases v' with
    | none =>
      have k4 := hK _ _ _ _ _ hq ad' T'.heap (locs ++ L) (cells + b) (slots + 1100 * b) lsA hr' hls hst hn hhl (by omega) (by omega)
      rw [am_map_ext hext hs] at k4
      obtain ⟨t2, a1, b1⟩ := k4 T' rfl X'
      exact ⟨t2, st t2 a1, b1⟩
    | some u =>
      have k4 := hK _ _ _ _ _ hq ad' T'.heap (locs ++ L) (cells + b) (slots + 1100 * b) lsA hr' hls (List.forall_mem_cons.mpr ⟨(hwv u rfl).1, hst⟩) hn hhl (by omega) (by omega)
      rw [List.map_cons, am_map_ext hext hs] at k4
      obtain ⟨t2, a1, b1⟩ := k4 T' rfl X'
      exact ⟨t2, st t2 a1, b1⟩
  · obtain ⟨k1, k2, k3⟩ := vx_keep h0 e1 hr.2.2.1 (fun q _ h => hF q h) hF hL hFr
    rw [← e1] at hU
    have hr' := hr.behind hU k3 hF
    obtain ⟨-, -, -, hle, hext⟩ := id hU
    have hls : ∀ v, some v ∈ ls → am_wv w'.length v := fun v hv => am_wv_le hle (hl v hv)
    have hhl : lv_has lsA nL (am_ents ad' (am_sb cA) 0 ls) := by rw [am_ents_ext hext hl]; exact hh
    rw [hQQ] at hq
    obtain ⟨t2, a1, b1⟩ := hHd x _ ls w' hq ad' T'.heap (locs ++ L) (cells + b) (slots + 1100 * b) lsA (st'.map (am_tr ad (am_sb cA))) q ce hr' hls hn hhl (by omega) (by omega) (by rw [e1]; exact hce) hcv (by rw [← hE]; exact hcl) T' rfl X'
    exact ⟨t2, st.trans a1, b1⟩
theorem am_rfr {R : Room} {d b : Nat} (h : d + 1 + 8 ≤ R.frames) : (am_room d b).frames + 1 ≤ R.frames := by
  unfold am_room
  omega
set_option maxRecDepth 20000 in
theorem am_rlo {R : Room} {d b maxL : Nat} (hm : maxL ≤ 40) (h : 64 * (d + 1 + 8) ≤ R.locals) : 8 + (maxL + 11) + (am_room d b).locals ≤ R.locals := by
  have key : ∀ L : Nat, 64 * (d + 1 + 8) ≤ L → 8 + (maxL + 11) + 64 * (d + 8) ≤ L := fun L h => by omega
  exact key _ h
theorem am_goodIn {y : Nat} (hcw : am_cw y ∈ am_tab) : GoodIn am_tab (am_wsd y) := by
  intro w hw
  have hm : w ∈ am_tab := by
    rcases List.mem_cons.mp hw with h | h
    · rw [h]; exact hcw
    · exact h
  exact ⟨hm, good_of_word (List.mem_filter.mp hm).2⟩
theorem am_preU {ad : Nat → Nat} {w : am_M} {H : Heap} {locs : List Loc} (hr : am_rel D cA A n0 ad0 s.heap ad w H locs) (hG : am_G D cA A s) (hA : ∀ q, s.heap.size ≤ q → A q) (U : State) (hU : U.heap = H) (hW : s.WarmedH U.vm) : am_pre D cA ad w H.size U := by
  refine ⟨by rw [hU], by rw [hU]; exact hr.1, hr.2.1.weaken (fun _ _ _ _ => trivial), hG.to hW (fun a h1 h2 => by rw [hU]; exact hr.2.2.1.2.1 a h1 h2) (am_free hr hA)⟩
theorem am_invS_snd (hc : (am_ctx p l R s m args meth c cc nL own D cA A (am_sb cA) (d + 1))) {Hd : am_K → Nat → Nat → am_L → am_M → Prop} (hHd : ∀ K : am_K, (∀ k pc ls st w, K k pc ls st w → (am_J p l e R s m args below meth c D cA A Z (am_sb cA) nL n0 ad0) k pc ls st w) → am_hs p l e R s m args below meth c D cA A Z (am_sb cA) nL n0 ad0 K Hd pc) {y a : Nat} {x : MethodName} {bytes : ByteArray} {maxL idx : Nat} {ret : Option FieldType} (hy : am_nm y = x) (hcw : am_cw y = Cond.code x bytes maxL ret) (hcm : am_cw y ∈ am_tab) (hml : maxL ≤ 40) (hini : Cond.initialized x.cls ∈ am_tab) (hlink : Cond.methodLink own idx x ∈ am_tab) (hstat : Cond.static x ∈ am_tab) (hd : x.cls ≠ "java/lang/invoke/MethodHandle" ∧ x.cls ≠ "java/lang/invoke/VarHandle" ∧ (parseMethodDescriptor x.desc).map (fun d => d.parameters.length) = some a) (hdg : decode cc pc = .ok (.invokestatic idx, 3)) (hpc : pc + 3 = n) : am_snd (am_J p l e R s m args below meth c D cA A Z (am_sb cA) nL n0 ad0) (fun K => am_inv (am_Call l d) (Hd K) y a n K) pc := by
  subst hpc
  intro K hK k ls st w h ad H locs cells slots lsA hr hl hs hn hh hc1 hc2
  dsimp only [am_inv] at h
  obtain ⟨as, st', hst, hlen, hnn, h⟩ := am_take_iff h
  rw [List.append_nil] at h
  cases hbl : Nat.ble (am_cat st') 8 with
  | false => rw [hbl] at h; exact h.elim
  | true =>
  rw [hbl] at h
  have hcat := Nat.le_of_ble_eq_true hbl
  obtain ⟨b, hbk, h⟩ := h
  have hsA : ∀ v ∈ as, am_wv w.length v := fun v hv => hs v (by rw [hst]; exact List.mem_append_left _ (List.mem_reverse.mpr hv))
  have hsR : ∀ v ∈ st', am_wv w.length v := fun v hv => hs v (by rw [hst]; exact List.mem_append_right _ hv)
  have hM := h hsA hr.2.2.2.1 D cA ad H.size
  have hstk : st.map (am_tr ad (am_sb cA)) = (as.map (am_tr ad (am_sb cA))).reverse ++ st'.map (am_tr ad (am_sb cA)) := by
    rw [hst, List.map_append, List.map_reverse]
  have hfr := hc.2.2.2.2.2.2.2.2.2.1
  have hlo := hc.2.2.2.2.2.2.2.2.2.2.1
  have hcatm : (((st'.map (am_tr ad (am_sb cA)))).map fun v => v.category).sum ≤ 8 := by rw [am_cat_map hc.2.2.2.2.2.2.2.2.2.2.2]; exact hcat
  subst hy
  have cb := callB_of (ws := am_wsd y) (ws' := am_tab) (rm := am_room d b) (R := R) (mc := b) (ms := 1100 * b) a hc.2.2.2.2.1 (am_goodIn hcm) (by rw [am_wsd, hcw]) rfl rfl (hc.2.2.2.2.1 _ hini) (hc.2.2.2.2.1 _ hlink) hd ⟨am_rfr hfr, am_rlo hml hlo⟩
  rw [hstk]
  refine am_back (y := y) (as := as) hc.2.2.2.2.2.2.1 (hHd K hK) hK hr hl hsR hn hh hbk hc1 hc2 rfl (vx_runS (g := F0 m pc lsA _) (As := as.map (am_tr ad (am_sb cA))) ⟨hc.1, hc.2.1, hc.2.2.1, hc.2.2.2.1, hc.2.2.2.2.1⟩ hM ⟨cb, hc.2.2.2.2.1 _ hstat⟩ ⟨am_blind, fun U hU hW => ⟨rfl, am_preU hr hc.2.2.2.2.2.1 hc.2.2.2.2.2.2.1 U hU hW⟩⟩ rfl (by rw [List.length_map]; exact hlen) hh.1 rfl (lv_room hcatm) hdg ⟨by omega, by omega⟩)
theorem am_invSN_snd (hc : (am_ctx p l R s m args meth c cc nL own D cA A (am_sb cA) (d + 1))) {Hd : am_K → Nat → Nat → am_L → am_M → Prop} (hHd : ∀ K : am_K, (∀ k pc ls st w, K k pc ls st w → (am_J p l e R s m args below meth c D cA A Z (am_sb cA) nL n0 ad0) k pc ls st w) → am_hs p l e R s m args below meth c D cA A Z (am_sb cA) nL n0 ad0 K Hd pc) {y a : Nat} {x : MethodName} {bytes : ByteArray} {maxL idx : Nat} {ret : Option FieldType} (hy : am_nm y = x) (hcw : am_cw y = Cond.code x bytes maxL ret) (hcm : am_cw y ∈ am_tab) (hml : maxL ≤ 40) (hini : Cond.initialized x.cls ∈ am_tab) (host : String) (hlink : (own, idx, x, host) ∈ am_nestM) (hstat : Cond.static x ∈ am_tab) (hd : x.cls ≠ "java/lang/invoke/MethodHandle" ∧ x.cls ≠ "java/lang/invoke/VarHandle" ∧ (parseMethodDescriptor x.desc).map (fun d => d.parameters.length) = some a) (hdg : decode cc pc = .ok (.invokestatic idx, 3)) (hpc : pc + 3 = n) : am_snd (am_J p l e R s m args below meth c D cA A Z (am_sb cA) nL n0 ad0) (fun K => am_inv (am_Call l d) (Hd K) y a n K) pc := by
  subst hpc
  intro K hK k ls st w h ad H locs cells slots lsA hr hl hs hn hh hc1 hc2
  dsimp only [am_inv] at h
  obtain ⟨as, st', hst, hlen, hnn, h⟩ := am_take_iff h
  rw [List.append_nil] at h
  cases hbl : Nat.ble (am_cat st') 8 with
  | false => rw [hbl] at h; exact h.elim
  | true =>
  rw [hbl] at h
  have hcat := Nat.le_of_ble_eq_true hbl
  obtain ⟨b, hbk, h⟩ := h
  have hsA : ∀ v ∈ as, am_wv w.length v := fun v hv => hs v (by rw [hst]; exact List.mem_append_left _ (List.mem_reverse.mpr hv))
  have hsR : ∀ v ∈ st', am_wv w.length v := fun v hv => hs v (by rw [hst]; exact List.mem_append_right _ hv)
  have hM := h hsA hr.2.2.2.1 D cA ad H.size
  have hstk : st.map (am_tr ad (am_sb cA)) = (as.map (am_tr ad (am_sb cA))).reverse ++ st'.map (am_tr ad (am_sb cA)) := by
    rw [hst, List.map_append, List.map_reverse]
  have hfr := hc.2.2.2.2.2.2.2.2.2.1
  have hlo := hc.2.2.2.2.2.2.2.2.2.2.1
  have hcatm : (((st'.map (am_tr ad (am_sb cA)))).map fun v => v.category).sum ≤ 8 := by rw [am_cat_map hc.2.2.2.2.2.2.2.2.2.2.2]; exact hcat
  subst hy
  have cb := va_cnB (ws := am_wsd y) (ws' := am_tab) (rm := am_room d b) (R := R) (mc := b) (ms := 1100 * b) (host := host) a hc.2.2.2.2.1 (am_goodIn hcm) (by rw [am_wsd, hcw]) rfl rfl (hc.2.2.2.2.2.1.2.2.1 _ hlink) (hc.2.2.2.2.1 _ hini) hd ⟨am_rfr hfr, am_rlo hml hlo⟩
  rw [hstk]
  refine am_back (y := y) (as := as) hc.2.2.2.2.2.2.1 (hHd K hK) hK hr hl hsR hn hh hbk hc1 hc2 rfl (vx_runSN (g := F0 m pc lsA _) (As := as.map (am_tr ad (am_sb cA))) ⟨hc.1, hc.2.1, hc.2.2.1, hc.2.2.2.1, hc.2.2.2.2.1⟩ hM ⟨cb, hc.2.2.2.2.1 _ hstat, trivial⟩ ⟨am_blind, fun U hU hW => ⟨rfl, am_preU hr hc.2.2.2.2.2.1 hc.2.2.2.2.2.2.1 U hU hW⟩⟩ rfl (by rw [List.length_map]; exact hlen) hh.1 rfl (lv_room hcatm) hdg ⟨by omega, by omega⟩)
theorem am_invSX_snd (hc : (am_ctx p l R s m args meth c cc nL own D cA A (am_sb cA) (d + 1))) {Hd : am_K → Nat → Nat → am_L → am_M → Prop} (hHd : ∀ K : am_K, (∀ k pc ls st w, K k pc ls st w → (am_J p l e R s m args below meth c D cA A Z (am_sb cA) nL n0 ad0) k pc ls st w) → am_hs p l e R s m args below meth c D cA A Z (am_sb cA) nL n0 ad0 K Hd pc) {y a : Nat} {hhT : List (Nat × Nat × Nat × Nat)} {x : MethodName} {bytes : ByteArray} {maxL idx : Nat} {ret : Option FieldType} (hy : am_nm y = x) (hcw : am_cw y = Cond.codeWith x bytes maxL ret hhT) (hcm : am_cw y ∈ am_tab) (hml : maxL ≤ 40) (hini : Cond.initialized x.cls ∈ am_tab) (hlink : Cond.methodLink own idx x ∈ am_tab) (hstat : Cond.static x ∈ am_tab) (hd : x.cls ≠ "java/lang/invoke/MethodHandle" ∧ x.cls ≠ "java/lang/invoke/VarHandle" ∧ (parseMethodDescriptor x.desc).map (fun d => d.parameters.length) = some a) (hdg : decode cc pc = .ok (.invokestatic idx, 3)) (hpc : pc + 3 = n) : am_snd (am_J p l e R s m args below meth c D cA A Z (am_sb cA) nL n0 ad0) (fun K => am_inv (am_Call l d) (Hd K) y a n K) pc := by
  subst hpc
  intro K hK k ls st w h ad H locs cells slots lsA hr hl hs hn hh hc1 hc2
  dsimp only [am_inv] at h
  obtain ⟨as, st', hst, hlen, hnn, h⟩ := am_take_iff h
  rw [List.append_nil] at h
  cases hbl : Nat.ble (am_cat st') 8 with
  | false => rw [hbl] at h; exact h.elim
  | true =>
  rw [hbl] at h
  have hcat := Nat.le_of_ble_eq_true hbl
  obtain ⟨b, hbk, h⟩ := h
  have hsA : ∀ v ∈ as, am_wv w.length v := fun v hv => hs v (by rw [hst]; exact List.mem_append_left _ (List.mem_reverse.mpr hv))
  have hsR : ∀ v ∈ st', am_wv w.length v := fun v hv => hs v (by rw [hst]; exact List.mem_append_right _ hv)
  have hM := h hsA hr.2.2.2.1 D cA ad H.size
  have hstk : st.map (am_tr ad (am_sb cA)) = (as.map (am_tr ad (am_sb cA))).reverse ++ st'.map (am_tr ad (am_sb cA)) := by
    rw [hst, List.map_append, List.map_reverse]
  have hfr := hc.2.2.2.2.2.2.2.2.2.1
  have hlo := hc.2.2.2.2.2.2.2.2.2.2.1
  have hcatm : (((st'.map (am_tr ad (am_sb cA)))).map fun v => v.category).sum ≤ 8 := by rw [am_cat_map hc.2.2.2.2.2.2.2.2.2.2.2]; exact hcat
  subst hy
  have hG := am_goodIn hcm
  have cb : vx_CSW R s args own idx (am_nm y) bytes maxL ret hhT (am_wsd y) (am_room d b) b (1100 * b) a := by
    refine ⟨⟨rfl, rfl, am_rfr hfr, am_rlo hml hlo, pay_in hc.2.2.2.2.1 hG, by rw [am_wsd, hcw]; exact List.mem_cons_self⟩, ?_, hc.2.2.2.2.1 _ hini, ⟨hd.1, hd.2.1⟩, fun sig h => ?_, hc.2.2.2.2.1 _ hlink, hc.2.2.2.2.1 _ hstat⟩
    · have := hc.2.2.2.2.1 _ hcm
      rwa [hcw] at this
    · have h2 := hd.2.2
      rw [h] at h2
      exact (Option.some.inj h2).symm
  rw [hstk]
  refine am_back (y := y) (as := as) hc.2.2.2.2.2.2.1 (hHd K hK) hK hr hl hsR hn hh hbk hc1 hc2 rfl (vx_runSX (g := F0 m pc lsA _) (As := as.map (am_tr ad (am_sb cA))) ⟨hc.1, hc.2.1, hc.2.2.1, hc.2.2.2.1, hc.2.2.2.2.1⟩ hM cb ⟨am_blind, fun U hU hW => ⟨rfl, am_preU hr hc.2.2.2.2.2.1 hc.2.2.2.2.2.2.1 U hU hW⟩⟩ rfl (by rw [List.length_map]; exact hlen) hh.1 rfl (lv_room hcatm) hdg ⟨by omega, by omega⟩)
theorem am_invV_snd (hc : (am_ctx p l R s m args meth c cc nL own D cA A (am_sb cA) (d + 1))) {Hd : am_K → Nat → Nat → am_L → am_M → Prop} (hHd : ∀ K : am_K, (∀ k pc ls st w, K k pc ls st w → (am_J p l e R s m args below meth c D cA A Z (am_sb cA) nL n0 ad0) k pc ls st w) → am_hs p l e R s m args below meth c D cA A Z (am_sb cA) nL n0 ad0 K Hd pc) {y a ci : Nat} {T : u_T} {N : Nat} {x : MethodName} {bytes : ByteArray} {maxL idx : Nat} {ret : Option FieldType} (hy : am_nm y = x) (hcw : am_cw y = Cond.code x bytes maxL ret) (hcm : am_cw y ∈ am_tab) (hml : maxL ≤ 40) (hcl : vwCl[ci]? = some (x.cls, T, N)) (hini : Cond.initialized x.cls ∈ am_tab) (hlink : Cond.methodLink own idx x ∈ am_tab) (hinst : Cond.instanceMethod x ∈ am_tab) (hsel : Cond.selects x.cls x x ∈ am_tab) (hd : x.cls ≠ "java/lang/invoke/MethodHandle" ∧ x.cls ≠ "java/lang/invoke/VarHandle" ∧ (parseMethodDescriptor x.desc).map (fun d => d.parameters.length) = some a) (hdg : decode cc pc = .ok (.invokevirtual idx, 3)) (hpc : pc + 3 = n) : am_snd (am_J p l e R s m args below meth c D cA A Z (am_sb cA) nL n0 ad0) (fun K => am_invR (am_Call l d) (Hd K) y ci (a + 1) n K) pc := by
  subst hpc
  intro K hK k ls st w h ad H locs cells slots lsA hr hl hs hn hh hc1 hc2
  dsimp only [am_invR] at h
  obtain ⟨as, st', hst, hlen, hnn, h⟩ := am_take_iff h
  rw [List.append_nil] at h
  cases hbl : Nat.ble (am_cat st') 8 with
  | false => rw [hbl] at h; exact h.elim
  | true =>
  rw [hbl] at h
  have hcat := Nat.le_of_ble_eq_true hbl
  replace h := am_rc_iff h
  obtain ⟨⟨q0, as1, fs, hasq, hq0⟩, h⟩ := h
  subst hasq
  obtain ⟨b, hbk, h⟩ := h
  have hsA : ∀ v ∈ (Value.ref q0 :: as1), am_wv w.length v := fun v hv => hs v (by rw [hst]; exact List.mem_append_left _ (List.mem_reverse.mpr hv))
  have hsR : ∀ v ∈ st', am_wv w.length v := fun v hv => hs v (by rw [hst]; exact List.mem_append_right _ hv)
  have hM := h hsA hr.2.2.2.1 D cA ad H.size
  have hstk : st.map (am_tr ad (am_sb cA)) = ((Value.ref q0 :: as1).map (am_tr ad (am_sb cA))).reverse ++ st'.map (am_tr ad (am_sb cA)) := by
    rw [hst, List.map_append, List.map_reverse]
  have hfr := hc.2.2.2.2.2.2.2.2.2.1
  have hlo := hc.2.2.2.2.2.2.2.2.2.2.1
  have hcatm : (((st'.map (am_tr ad (am_sb cA)))).map fun v => v.category).sum ≤ 8 := by rw [am_cat_map hc.2.2.2.2.2.2.2.2.2.2.2]; exact hcat
  subst hy
  have cb := callB_of (ws := am_wsd y) (ws' := am_tab) (rm := am_room d b) (R := R) (mc := b) (ms := 1100 * b) a hc.2.2.2.2.1 (am_goodIn hcm) (by rw [am_wsd, hcw]) rfl rfl (hc.2.2.2.2.1 _ hini) (hc.2.2.2.2.1 _ hlink) hd ⟨am_rfr hfr, am_rlo hml hlo⟩
  rw [hstk]
  refine am_back (y := y) (as := .ref q0 :: as1) hc.2.2.2.2.2.2.1 (hHd K hK) hK hr hl hsR hn hh hbk hc1 hc2 rfl (vx_runV (g := F0 m pc lsA _) (b := ad q0) (As := as1.map (am_tr ad (am_sb cA))) ⟨hc.1, hc.2.1, hc.2.2.1, hc.2.2.2.1, hc.2.2.2.2.1⟩ hM ⟨cb, hc.2.2.2.2.1 _ hinst, hc.2.2.2.2.1 _ hsel⟩ ⟨am_blind, va_recv hc.2.2.2.2.2.1.1 hr.1 hcl (am_ws_at cA ad hq0), fun U hU hW => ⟨rfl, am_preU hr hc.2.2.2.2.2.1 hc.2.2.2.2.2.2.1 U hU hW⟩⟩ rfl (by rw [List.length_map]; simpa using hlen) hh.1 (by show List.reverse (_ :: _) ++ _ = _; rw [List.reverse_cons, List.append_assoc]; rfl) (lv_room hcatm) hdg ⟨by omega, by omega⟩)
theorem am_invI_snd (hc : (am_ctx p l R s m args meth c cc nL own D cA A (am_sb cA) (d + 1))) {Hd : am_K → Nat → Nat → am_L → am_M → Prop} (hHd : ∀ K : am_K, (∀ k pc ls st w, K k pc ls st w → (am_J p l e R s m args below meth c D cA A Z (am_sb cA) nL n0 ad0) k pc ls st w) → am_hs p l e R s m args below meth c D cA A Z (am_sb cA) nL n0 ad0 K Hd pc) {y a : Nat} {x : MethodName} {bytes : ByteArray} {maxL idx : Nat} (hy : am_nm y = x) (hcw : am_cw y = Cond.code x bytes maxL none) (hcm : am_cw y ∈ am_tab) (hml : maxL ≤ 40) (hnm : x.name = "<init>") (hini : Cond.initialized x.cls ∈ am_tab) (hlink : Cond.methodLink own idx x ∈ am_tab) (hinst : Cond.instanceMethod x ∈ am_tab) (hd : x.cls ≠ "java/lang/invoke/MethodHandle" ∧ x.cls ≠ "java/lang/invoke/VarHandle" ∧ (parseMethodDescriptor x.desc).map (fun d => d.parameters.length) = some a) (hdg : decode cc pc = .ok (.invokespecial idx, 3)) (hpc : pc + 3 = n) : am_snd (am_J p l e R s m args below meth c D cA A Z (am_sb cA) nL n0 ad0) (fun K => am_invJ (am_Call l d) (Hd K) y (a + 1) n K) pc := by
  subst hpc
  intro K hK k ls st w h ad H locs cells slots lsA hr hl hs hn hh hc1 hc2
  dsimp only [am_invJ] at h
  obtain ⟨as, st', hst, hlen, hnn, h⟩ := am_take_iff h
  rw [List.append_nil] at h
  cases hbl : Nat.ble (am_cat st') 8 with
  | false => rw [hbl] at h; exact h.elim
  | true =>
  rw [hbl] at h
  have hcat := Nat.le_of_ble_eq_true hbl
  replace h := am_rj_iff h
  obtain ⟨⟨q0, as1, hasq⟩, h⟩ := h
  subst hasq
  obtain ⟨b, hbk, h⟩ := h
  have hsA : ∀ v ∈ (Value.ref q0 :: as1), am_wv w.length v := fun v hv => hs v (by rw [hst]; exact List.mem_append_left _ (List.mem_reverse.mpr hv))
  have hsR : ∀ v ∈ st', am_wv w.length v := fun v hv => hs v (by rw [hst]; exact List.mem_append_right _ hv)
  have hM := h hsA hr.2.2.2.1 D cA ad H.size
  have hstk : st.map (am_tr ad (am_sb cA)) = ((Value.ref q0 :: as1).map (am_tr ad (am_sb cA))).reverse ++ st'.map (am_tr ad (am_sb cA)) := by
    rw [hst, List.map_append, List.map_reverse]
  have hfr := hc.2.2.2.2.2.2.2.2.2.1
  have hlo := hc.2.2.2.2.2.2.2.2.2.2.1
  have hcatm : (((st'.map (am_tr ad (am_sb cA)))).map fun v => v.category).sum ≤ 8 := by rw [am_cat_map hc.2.2.2.2.2.2.2.2.2.2.2]; exact hcat
  subst hy
  have cb := callB_of (ws := am_wsd y) (ws' := am_tab) (rm := am_room d b) (R := R) (mc := b) (ms := 1100 * b) a hc.2.2.2.2.1 (am_goodIn hcm) (by rw [am_wsd, hcw]) rfl rfl (hc.2.2.2.2.1 _ hini) (hc.2.2.2.2.1 _ hlink) hd ⟨am_rfr hfr, am_rlo hml hlo⟩
  rw [hstk]
  refine am_back (y := y) (as := .ref q0 :: as1) hc.2.2.2.2.2.2.1 (hHd K hK) hK hr hl hsR hn hh hbk hc1 hc2 rfl (vx_runI (g := F0 m pc lsA _) (b := ad q0) (As := as1.map (am_tr ad (am_sb cA))) ⟨hc.1, hc.2.1, hc.2.2.1, hc.2.2.2.1, hc.2.2.2.2.1⟩ hM ⟨cb, hnm, hc.2.2.2.2.1 _ hinst⟩ ⟨am_blind, fun U hU hW => ⟨rfl, am_preU hr hc.2.2.2.2.2.1 hc.2.2.2.2.2.2.1 U hU hW⟩⟩ rfl (by rw [List.length_map]; simpa using hlen) hh.1 (by show List.reverse (_ :: _) ++ _ = _; rw [List.reverse_cons, List.append_assoc]; rfl) (lv_room hcatm) hdg ⟨by omega, by omega⟩)
theorem am_invIN_snd (hc : (am_ctx p l R s m args meth c cc nL own D cA A (am_sb cA) (d + 1))) {Hd : am_K → Nat → Nat → am_L → am_M → Prop} (hHd : ∀ K : am_K, (∀ k pc ls st w, K k pc ls st w → (am_J p l e R s m args below meth c D cA A Z (am_sb cA) nL n0 ad0) k pc ls st w) → am_hs p l e R s m args below meth c D cA A Z (am_sb cA) nL n0 ad0 K Hd pc) {y a : Nat} {x : MethodName} {bytes : ByteArray} {maxL idx : Nat} (hy : am_nm y = x) (hcw : am_cw y = Cond.code x bytes maxL none) (hcm : am_cw y ∈ am_tab) (hml : maxL ≤ 40) (hnm : x.name = "<init>") (hini : Cond.initialized x.cls ∈ am_tab) (host : String) (hlink : (own, idx, x, host) ∈ am_nestM) (hinst : Cond.instanceMethod x ∈ am_tab) (hd : x.cls ≠ "java/lang/invoke/MethodHandle" ∧ x.cls ≠ "java/lang/invoke/VarHandle" ∧ (parseMethodDescriptor x.desc).map (fun d => d.parameters.length) = some a) (hdg : decode cc pc = .ok (.invokespecial idx, 3)) (hpc : pc + 3 = n) : am_snd (am_J p l e R s m args below meth c D cA A Z (am_sb cA) nL n0 ad0) (fun K => am_invJ (am_Call l d) (Hd K) y (a + 1) n K) pc := by
  subst hpc
  intro K hK k ls st w h ad H locs cells slots lsA hr hl hs hn hh hc1 hc2
  dsimp only [am_invJ] at h
  obtain ⟨as, st', hst, hlen, hnn, h⟩ := am_take_iff h
  rw [List.append_nil] at h
  cases hbl : Nat.ble (am_cat st') 8 with
  | false => rw [hbl] at h; exact h.elim
  | true =>
  rw [hbl] at h
  have hcat := Nat.le_of_ble_eq_true hbl
  replace h := am_rj_iff h
  obtain ⟨⟨q0, as1, hasq⟩, h⟩ := h
  subst hasq
  obtain ⟨b, hbk, h⟩ := h
  have hsA : ∀ v ∈ (Value.ref q0 :: as1), am_wv w.length v := fun v hv => hs v (by rw [hst]; exact List.mem_append_left _ (List.mem_reverse.mpr hv))
  have hsR : ∀ v ∈ st', am_wv w.length v := fun v hv => hs v (by rw [hst]; exact List.mem_append_right _ hv)
  have hM := h hsA hr.2.2.2.1 D cA ad H.size
  have hstk : st.map (am_tr ad (am_sb cA)) = ((Value.ref q0 :: as1).map (am_tr ad (am_sb cA))).reverse ++ st'.map (am_tr ad (am_sb cA)) := by
    rw [hst, List.map_append, List.map_reverse]
  have hfr := hc.2.2.2.2.2.2.2.2.2.1
  have hlo := hc.2.2.2.2.2.2.2.2.2.2.1
  have hcatm : (((st'.map (am_tr ad (am_sb cA)))).map fun v => v.category).sum ≤ 8 := by rw [am_cat_map hc.2.2.2.2.2.2.2.2.2.2.2]; exact hcat
  subst hy
  have cb := va_cnB (ws := am_wsd y) (ws' := am_tab) (rm := am_room d b) (R := R) (mc := b) (ms := 1100 * b) (host := host) a hc.2.2.2.2.1 (am_goodIn hcm) (by rw [am_wsd, hcw]) rfl rfl (hc.2.2.2.2.2.1.2.2.1 _ hlink) (hc.2.2.2.2.1 _ hini) hd ⟨am_rfr hfr, am_rlo hml hlo⟩
  rw [hstk]
  refine am_back (y := y) (as := .ref q0 :: as1) hc.2.2.2.2.2.2.1 (hHd K hK) hK hr hl hsR hn hh hbk hc1 hc2 rfl (vx_runIN (g := F0 m pc lsA _) (b := ad q0) (As := as1.map (am_tr ad (am_sb cA))) ⟨hc.1, hc.2.1, hc.2.2.1, hc.2.2.2.1, hc.2.2.2.2.1⟩ hM ⟨cb, hnm, hc.2.2.2.2.1 _ hinst⟩ ⟨am_blind, fun U hU hW => ⟨rfl, am_preU hr hc.2.2.2.2.2.1 hc.2.2.2.2.2.2.1 U hU hW⟩⟩ rfl (by rw [List.length_map]; simpa using hlen) hh.1 (by show List.reverse (_ :: _) ++ _ = _; rw [List.reverse_cons, List.append_assoc]; rfl) (lv_room hcatm) hdg ⟨by omega, by omega⟩)
theorem am_no_hs {Q : am_Q} {w0 : am_M} {mc ms : Nat} {K : am_K} (hZ : Z = vx_MQ below (am_post D cA ad0 w0 A Q) (am_px D cA ad0 w0 A Q) args s mc ms A) (hn0 : n0 = w0.length) (hmc : R.cells = mc) (hms : R.slots = ms) (hlocks : meth.locks = false) (hout : ∀ x ∈ c.exceptionTable.toList, False) : am_hs p l e R s m args below meth c D cA A Z (am_sb cA) nL n0 ad0 K (am_no Q) pc := by
  intro x k ls w h ad H locs cells slots lsA rest q ce hr hl hn hh hc1 hc2 hce hcv hcl
  subst hZ
  subst hn0
  refine vx_out (fun x hx => (hout x hx).elim) hlocks hce hcv hcl (fun t ht hal => ⟨⟨x, w, ad, rfl, h, by rw [ht]; exact hr.1, hr.2.1, hr.2.2.2.1, hr.2.2.2.2.1, hr.2.2.2.2.2⟩, hr.2.2.1.F ht⟩) hr.2.2.1.2.2 (by omega) (by omega)
theorem am_ents_clr {ad : Nat → Nat} {u : Value} {l : am_L} {i : Nat} {ls : Array Slot} (hnb : (am_sb cA).category = 1) (hc : ∀ j o, j + 1 = i → l[j]? = some o → am_c2 o = false)
    (h : lv_has ls nL ((i, u) :: (am_ents ad (am_sb cA) 0 l).filter (fun q => !(q.1 == i) && !(q.1 + 1 == i && q.2.category == 2)))) : lv_has ls nL (am_ents ad (am_sb cA) 0 (l.set i none)) := by
  refine lv_less h fun q hq => ?_
  obtain ⟨j, v, h1, h2⟩ := am_ents_iff.mp hq
  by_cases hj : i = j
  · subst hj
    by_cases hi : i < l.length
    · rw [List.getElem?_set_self hi] at h1
      cases h1
    · rw [List.getElem?_eq_none (by rw [List.length_set]; omega)] at h1
      cases h1
  · rw [List.getElem?_set_ne hj] at h1
    refine List.mem_cons.mpr (Or.inr (List.mem_filter.mpr ⟨am_ents_iff.mpr ⟨j, v, h1, h2⟩, ?_⟩))
    subst h2
    simp only [Nat.zero_add, Bool.and_eq_true, Bool.not_eq_true', beq_eq_false_iff_ne, ne_eq, Bool.and_eq_false_iff]
    refine ⟨fun q => hj q.symm, ?_⟩
    by_cases hk : j + 1 = i
    · exact Or.inr (am_c2_cat hnb (hc j _ hk h1))
    · exact Or.inl hk
/-- the rows of a method's table, the ones tried last first: what am_hdl says of the rows behind 'pre' -/
theorem am_hd_hs0 {K : am_K} : am_hs p l e R s m args below meth c D cA A Z (am_sb cA) nL n0 ad0 K (am_hdl []) pc := by
  intro x k ls w h
  exact h.elim
theorem am_hd_hs (hc : (am_ctx p l R s m args meth c cc nL own D cA A (am_sb cA) d)) {K : am_K} (hK : ∀ k pc ls st w, K k pc ls st w → (am_J p l e R s m args below meth c D cA A Z (am_sb cA) nL n0 ad0) k pc ls st w) {r : List (Nat × Nat × Nat)} {x0 i : Nat} (pre : List ExceptionTableEntry) (z : ExceptionTableEntry) (suf : List ExceptionTableEntry) (hsplit : c.exceptionTable.toList = pre ++ z :: suf)
    (hpre : ∀ y ∈ pre, covers y pc = false ∨ (y.catchType ≠ 0 ∧ ∃ x1 : Nat, Cond.classLink own y.catchType (am_xn x1) ∈ am_tab ∧ (am_xn x0, am_xn x1) ∈ am_xs)) (hcov : covers z pc = true) (h0 : z.catchType ≠ 0) (hlink : Cond.classLink own z.catchType (am_xn x0) ∈ am_tab) (hcast : am_xn x0 ∈ am_casts)
    (row : ∀ (H : Heap) (locs : List Loc) (cells slots : Nat) (ls : Array Slot) (rest : List Value) (x : Nat) (lv : List (Nat × Value)), lv_has ls nL lv → i < nL → (∀ ls' : Array Slot, lv_has ls' nL ((i, Value.ref x) :: lv.filter (fun q => !(q.1 == i) && !(q.1 + 1 == i && q.2.category == 2))) → W p l e R s m args below meth c H locs cells slots Z (F0 m t ls' rest)) → W p l e R s m args below meth c H locs cells slots Z (F0 m z.handlerPc ls (.ref x :: rest)))
    (hrest : am_hs p l e R s m args below meth c D cA A Z (am_sb cA) nL n0 ad0 K (am_hdl r) pc) : am_hs p l e R s m args below meth c D cA A Z (am_sb cA) nL n0 ad0 K (am_hdl ((x0, i, t) :: r)) pc := by
  intro x k ls w h ad H locs cells slots lsA rest q ce hr hl hn hh hc1 hc2 hce hcv hcl
  have h' : (bif Nat.beq x x0 then am_set ls i .null (fun ls' => K k t (ls'.set i none) [] w) else am_hdl r K x k ls w) := h
  cases hb : Nat.beq x x0 with
  | false =>
    rw [hb] at h'
    exact hrest x k ls w h' ad H locs cells slots lsA rest q ce hr hl hn hh hc1 hc2 hce hcv hcl
  | true =>
    rw [hb] at h'
    have hx0 := Nat.eq_of_beq_eq_true hb
    subst hx0
    obtain ⟨g1, g2, g3⟩ := am_set_iff h'
    rw [List.set_set] at g3
    refine vx_catch hc.2.2.2.1 pre z suf hsplit (fun y hy => ?_) hcov h0 (hc.2.2.2.2.1 _ hlink) ((hc.2.2.2.2.2.1.2.2.2.2.2.2.2.2.2 _ hcast).use rfl) hce hcv hcl ?_
    · rcases hpre y hy with h9 | ⟨a1, x1, a2, a3⟩
      · exact Or.inl h9
      exact Or.inr ⟨a1, _, hc.2.2.2.2.1 _ a2, hc.2.2.2.2.2.1.2.2.2.2.2.2.2.1 _ a3⟩
    · refine row _ _ _ _ _ _ q _ hh (by omega) (fun ls' hls => ?_)
      exact hK _ _ _ _ _ g3 ad H locs cells slots ls' hr (am_wl_set hl (fun v hv => nomatch hv)) (fun v hv => absurd hv List.not_mem_nil) (by rw [List.length_set]; exact hn) (am_ents_clr hc.2.2.2.2.2.2.2.2.2.2.2 g2 hls) hc1 hc2
theorem am_iret_snd {Q : am_Q} {w0 : am_M} {mc ms : Nat} (hx : p.tables.exec = Jvm.exec) (hb : c.code = cc) (hZ : Z = vx_MQ below (am_post D cA ad0 w0 A Q) (am_px D cA ad0 w0 A Q) args s mc ms A) (hn0 : n0 = w0.length) (hmc : R.cells = mc) (hms : R.slots = ms) (hlocks : meth.locks = false) (hret : meth.sig.returnType = some .int) (hdg : decode cc pc = .ok (.ireturn, 1)) : am_snd (am_J p l e R s m args below meth c D cA A Z (am_sb cA) nL n0 ad0) (am_iret Q) pc := by
  intro K hK k ls st w h ad H locs cells slots lsA hr hl hs hn hh hc1 hc2
  dsimp only [am_iret] at h
  split at h
  · skip
    rename_i x
    subst hZ
    subst hn0
    refine W.widen (k := mc) (n := ms) (by omega) (by omega) (vx_ret ?_)
    exact W.iret hx hb hret (fun t ht hW => ⟨⟨some (.int x), w, ad, rfl, h, (fun u hu => by cases hu; exact ⟨trivial, rfl⟩), by rw [ht]; exact hr.1, hr.2.1, hr.2.2.2.1, hr.2.2.2.2.1, hr.2.2.2.2.2⟩, hr.2.2.1.F ht⟩) hr.2.2.1.2.2 hdg hlocks
  · exact h.elim
theorem am_lret_snd {Q : am_Q} {w0 : am_M} {mc ms : Nat} (hx : p.tables.exec = Jvm.exec) (hb : c.code = cc) (hZ : Z = vx_MQ below (am_post D cA ad0 w0 A Q) (am_px D cA ad0 w0 A Q) args s mc ms A) (hn0 : n0 = w0.length) (hmc : R.cells = mc) (hms : R.slots = ms) (hlocks : meth.locks = false) (hret : meth.sig.returnType = some .long) (hdg : decode cc pc = .ok (.lreturn, 1)) : am_snd (am_J p l e R s m args below meth c D cA A Z (am_sb cA) nL n0 ad0) (am_lret Q) pc := by
  intro K hK k ls st w h ad H locs cells slots lsA hr hl hs hn hh hc1 hc2
  dsimp only [am_lret] at h
  split at h
  · skip
    rename_i x
    subst hZ
    subst hn0
    refine W.widen (k := mc) (n := ms) (by omega) (by omega) (vx_ret ?_)
    exact W.lret hx hb hret (fun t ht hW => ⟨⟨some (.long x), w, ad, rfl, h, (fun u hu => by cases hu; exact ⟨trivial, rfl⟩), by rw [ht]; exact hr.1, hr.2.1, hr.2.2.2.1, hr.2.2.2.2.1, hr.2.2.2.2.2⟩, hr.2.2.1.F ht⟩) hr.2.2.1.2.2 hdg hlocks
  · exact h.elim
theorem am_dret_snd {Q : am_Q} {w0 : am_M} {mc ms : Nat} (hx : p.tables.exec = Jvm.exec) (hb : c.code = cc) (hZ : Z = vx_MQ below (am_post D cA ad0 w0 A Q) (am_px D cA ad0 w0 A Q) args s mc ms A) (hn0 : n0 = w0.length) (hmc : R.cells = mc) (hms : R.slots = ms) (hlocks : meth.locks = false) (hret : meth.sig.returnType = some .double) (hdg : decode cc pc = .ok (.dreturn, 1)) : am_snd (am_J p l e R s m args below meth c D cA A Z (am_sb cA) nL n0 ad0) (am_dret Q) pc := by
  intro K hK k ls st w h ad H locs cells slots lsA hr hl hs hn hh hc1 hc2
  dsimp only [am_dret] at h
  split at h
  · skip
    rename_i x
    subst hZ
    subst hn0
    refine W.widen (k := mc) (n := ms) (by omega) (by omega) (vx_ret ?_)
    exact W.dret hx hb hret (fun t ht hW => ⟨⟨some (.double x), w, ad, rfl, h, (fun u hu => by cases hu; exact ⟨trivial, rfl⟩), by rw [ht]; exact hr.1, hr.2.1, hr.2.2.2.1, hr.2.2.2.2.1, hr.2.2.2.2.2⟩, hr.2.2.1.F ht⟩) hr.2.2.1.2.2 hdg hlocks
  · exact h.elim
theorem am_vret_snd {Q : am_Q} {w0 : am_M} {mc ms : Nat} (hx : p.tables.exec = Jvm.exec) (hb : c.code = cc) (hZ : Z = vx_MQ below (am_post D cA ad0 w0 A Q) (am_px D cA ad0 w0 A Q) args s mc ms A) (hn0 : n0 = w0.length) (hmc : R.cells = mc) (hms : R.slots = ms) (hlocks : meth.locks = false) (hret : meth.sig.returnType = none) (hdg : decode cc pc = .ok (.return_, 1)) : am_snd (am_J p l e R s m args below meth c D cA A Z (am_sb cA) nL n0 ad0) (am_vret Q) pc := by
  intro K hK k ls st w h ad H locs cells slots lsA hr hl hs hn hh hc1 hc2
  dsimp only [am_vret] at h
  split at h
  · skip
    subst hZ
    subst hn0
    refine W.widen (k := mc) (n := ms) (by omega) (by omega) (vx_ret ?_)
    exact W.vret hx hb hret (fun t ht hW => ⟨⟨none, w, ad, rfl, h, (fun u hu => nomatch hu), by rw [ht]; exact hr.1, hr.2.1, hr.2.2.2.1, hr.2.2.2.2.1, hr.2.2.2.2.2⟩, hr.2.2.1.F ht⟩) hr.2.2.1.2.2 hdg hlocks
  · exact h.elim
theorem am_zret_snd {Q : am_Q} {w0 : am_M} {mc ms : Nat} (hx : p.tables.exec = Jvm.exec) (hb : c.code = cc) (hZ : Z = vx_MQ below (am_post D cA ad0 w0 A Q) (am_px D cA ad0 w0 A Q) args s mc ms A) (hn0 : n0 = w0.length) (hmc : R.cells = mc) (hms : R.slots = ms) (hlocks : meth.locks = false) (hret : meth.sig.returnType = some .boolean) (hdg : decode cc pc = .ok (.ireturn, 1)) : am_snd (am_J p l e R s m args below meth c D cA A Z (am_sb cA) nL n0 ad0) (am_zret Q) pc := by
  intro K hK k ls st w h ad H locs cells slots lsA hr hl hs hn hh hc1 hc2
  dsimp only [am_zret] at h
  split at h
  · rename_i x
    subst hZ
    subst hn0
    refine W.widen (k := mc) (n := ms) (by omega) (by omega) (vx_ret ?_)
    exact W.zret hx hb hret h.1 (fun t ht hW => ⟨⟨some (.int x), w, ad, rfl, h.2, (fun u hu => by cases hu; exact ⟨trivial, rfl⟩), by rw [ht]; exact hr.1, hr.2.1, hr.2.2.2.1, hr.2.2.2.2.1, hr.2.2.2.2.2⟩, hr.2.2.1.F ht⟩) hr.2.2.1.2.2 hdg hlocks
  · exact h.elim
theorem am_aret_snd {Q : am_Q} {w0 : am_M} {mc ms : Nat} {rt : FieldType} (hx : p.tables.exec = Jvm.exec) (hb : c.code = cc) (hZ : Z = vx_MQ below (am_post D cA ad0 w0 A Q) (am_px D cA ad0 w0 A Q) args s mc ms A) (hn0 : n0 = w0.length) (hmc : R.cells = mc) (hms : R.slots = ms) (hlocks : meth.locks = false) (hret : meth.sig.returnType = some (.array rt)) (hdg : decode cc pc = .ok (.areturn, 1)) : am_snd (am_J p l e R s m args below meth c D cA A Z (am_sb cA) nL n0 ad0) (am_aret Q) pc := by
  intro K hK k ls st w h ad H locs cells slots lsA hr hl hs hn hh hc1 hc2
  dsimp only [am_aret] at h
  split at h
  · rename_i x
    subst hZ
    subst hn0
    refine W.widen (k := mc) (n := ms) (by omega) (by omega) (vx_ret ?_)
    exact W.aret (v := .ref (ad x)) hx hb hret (Or.inr ⟨_, rfl⟩) (Or.inr ⟨_, rfl⟩) (fun t ht hW => ⟨⟨some (.ref x), w, ad, rfl, h, (fun u hu => by cases hu; exact ⟨am_top hs, rfl⟩), by rw [ht]; exact hr.1, hr.2.1, hr.2.2.2.1, hr.2.2.2.2.1, hr.2.2.2.2.2⟩, hr.2.2.1.F ht⟩) hr.2.2.1.2.2 hdg hlocks
  · exact h.elim
theorem am_throw_snd {Q : am_Q} {w0 : am_M} {mc ms x ik is ic : Nat} {text : String} (hc : (am_ctx p l R s m args meth c cc nL own D cA A (am_sb cA) d)) (hZ : Z = vx_MQ below (am_post D cA ad0 w0 A Q) (am_px D cA ad0 w0 A Q) args s mc ms A) (hn0 : n0 = w0.length) (hmc : R.cells = mc) (hms : R.slots = ms) (hout : ∀ x ∈ c.exceptionTable.toList, False) (hfit : Bundle.fit (am_xn x) = true) (hk : Cond.classLink own ik (am_xn x) ∈ am_tab) (hini : Cond.initialized (am_xn x) ∈ am_tab) (hstr : (own, is, text) ∈ am_strs) (hgw : ∀ w ∈ (vx_atS own ic (am_xn x) ["java/lang/RuntimeException", "java/lang/Exception"]).filter goodWord, w ∈ am_tab) (hbw : ∀ w ∈ (vx_atS own ic (am_xn x) ["java/lang/RuntimeException", "java/lang/Exception"]).filter (fun w => !goodWord w), w ∈ am_decls.map Cond.declares ++ am_casts.map (fun q => Cond.castable q q)) (hgood : ∀ w ∈ Cond.classLink own ik (am_xn x) :: Cond.initialized (am_xn x) :: vx_atS own ic (am_xn x) ["java/lang/RuntimeException", "java/lang/Exception"], vx_ot w = true)
    (d0 : decode cc pc = .ok (.new ik, 3)) (d3 : decode cc (pc + 3) = .ok (.dup, 1)) (d4 : decode cc (pc + 4) = .ok (.ldc is, 2)) (d6 : decode cc (pc + 6) = .ok (.invokespecial ic, 3)) (d9 : decode cc (pc + 9) = .ok (.athrow, 1)) : am_snd (am_J p l e R s m args below meth c D cA A Z (am_sb cA) nL n0 ad0) (am_throw Q x) pc := by
  intro K hK k ls st w h ad H locs cells slots lsA hr hl hs hn hh hc1 hc2
  dsimp only [am_throw] at h
  cases hbl : Nat.ble (am_cat st) 8 with
  | false => rw [hbl] at h; exact h.elim
  | true =>
  rw [hbl] at h
  have hcat := Nat.le_of_ble_eq_true hbl
  obtain ⟨h1, h⟩ := h
  have hfr := hc.2.2.2.2.2.2.2.2.2.1
  have hlo := hc.2.2.2.2.2.2.2.2.2.2.1
  have hG := hc.2.2.2.2.2.1
  have hat : ∀ w ∈ vx_atS own ic (am_xn x) ["java/lang/RuntimeException", "java/lang/Exception"], w.before args s = true := vx_hat (fun w hw => hc.2.2.2.2.1 _ (hgw w hw)) hbw (fun w hw => by
    rcases List.mem_append.mp hw with hw | hw
    · obtain ⟨q, hq, rfl⟩ := List.mem_map.mp hw
      exact (hG.2.2.2.2.2.2.2.2.1 q hq).use rfl
    · obtain ⟨q, hq, rfl⟩ := List.mem_map.mp hw
      exact (hG.2.2.2.2.2.2.2.2.2 q hq).use rfl)
  obtain ⟨sa, hsa⟩ := hG.2.2.2.2.2.1 _ hstr
  subst hZ
  subst hn0
  refine vx_throwS (names := ["java/lang/RuntimeException", "java/lang/Exception"]) hc.1 hc.2.1 hc.2.2.2.2.2.2.2.2.1 hc.2.2.2.1 hfit (by decide +kernel) (hc.2.2.2.2.1 _ hk) (hc.2.2.2.2.1 _ hini) hsa hat hgood hG.2.2.2.1 hG.2.2.2.2.1 hr.2.2.1 (by rw [hc.2.2.1]; exact hh.1) d0 d3 d4 d6 d9 (fun x hx => (hout x hx).elim) (by show 2 + 3 < _; omega) (by rw [am_cat_map hc.2.2.2.2.2.2.2.2.2.2.2]; show am_cat st + (13 * (2 + 1) + 43) ≤ _; omega) (by omega) (by omega) hc.2.2.2.2.2.2.2.1 (fun t hal hsz hkept => ?_) hr.2.2.1.2.2 (by omega) (by omega)
  refine ⟨⟨x, w, ad, rfl, h, hr.1.kept (fun k q hq => hkept q.1 (hr.1 k q hq).lt), hr.2.1, hr.2.2.2.1, hr.2.2.2.2.1, hr.2.2.2.2.2⟩, Nat.le_trans hr.2.2.1.1 hsz, fun q h1 h2 => (hkept q (Nat.lt_of_lt_of_le h1 hr.2.2.1.1)).trans (hr.2.2.1.2.1 q h1 h2)⟩
theorem am_throwW_snd {Q : am_Q} {w0 : am_M} {mc ms x ik is ic : Nat} {text : String} (hc : (am_ctx p l R s m args meth c cc nL own D cA A (am_sb cA) d)) (hZ : Z = vx_MQ below (am_post D cA ad0 w0 A Q) (am_px D cA ad0 w0 A Q) args s mc ms A) (hn0 : n0 = w0.length) (hmc : R.cells = mc) (hms : R.slots = ms) (hout : ∀ x ∈ c.exceptionTable.toList, False) (hfit : Bundle.fit (am_xn x) = true) (hk : Cond.classLink own ik (am_xn x) ∈ am_tab) (hini : Cond.initialized (am_xn x) ∈ am_tab) (hstr : (own, is, text) ∈ am_strs) (hgw : ∀ w ∈ (vx_atS own ic (am_xn x) ["java/lang/RuntimeException", "java/lang/Exception"]).filter goodWord, w ∈ am_tab) (hbw : ∀ w ∈ (vx_atS own ic (am_xn x) ["java/lang/RuntimeException", "java/lang/Exception"]).filter (fun w => !goodWord w), w ∈ am_decls.map Cond.declares ++ am_casts.map (fun q => Cond.castable q q)) (hgood : ∀ w ∈ Cond.classLink own ik (am_xn x) :: Cond.initialized (am_xn x) :: vx_atS own ic (am_xn x) ["java/lang/RuntimeException", "java/lang/Exception"], vx_ot w = true)
    (d0 : decode cc pc = .ok (.new ik, 3)) (d3 : decode cc (pc + 3) = .ok (.dup, 1)) (d4 : decode cc (pc + 4) = .ok (.ldc_w is, 3)) (d6 : decode cc (pc + 7) = .ok (.invokespecial ic, 3)) (d9 : decode cc (pc + 10) = .ok (.athrow, 1)) : am_snd (am_J p l e R s m args below meth c D cA A Z (am_sb cA) nL n0 ad0) (am_throw Q x) pc := by
  intro K hK k ls st w h ad H locs cells slots lsA hr hl hs hn hh hc1 hc2
  dsimp only [am_throw] at h
  cases hbl : Nat.ble (am_cat st) 8 with
  | false => rw [hbl] at h; exact h.elim
  | true =>
  rw [hbl] at h
  have hcat := Nat.le_of_ble_eq_true hbl
  obtain ⟨h1, h⟩ := h
  have hfr := hc.2.2.2.2.2.2.2.2.2.1
  have hlo := hc.2.2.2.2.2.2.2.2.2.2.1
  have hG := hc.2.2.2.2.2.1
  have hat : ∀ w ∈ vx_atS own ic (am_xn x) ["java/lang/RuntimeException", "java/lang/Exception"], w.before args s = true := vx_hat (fun w hw => hc.2.2.2.2.1 _ (hgw w hw)) hbw (fun w hw => by
    rcases List.mem_append.mp hw with hw | hw
    · obtain ⟨q, hq, rfl⟩ := List.mem_map.mp hw
      exact (hG.2.2.2.2.2.2.2.2.1 q hq).use rfl
    · obtain ⟨q, hq, rfl⟩ := List.mem_map.mp hw
      exact (hG.2.2.2.2.2.2.2.2.2 q hq).use rfl)
  obtain ⟨sa, hsa⟩ := hG.2.2.2.2.2.1 _ hstr
  subst hZ
  subst hn0
  refine vx_throwSW (names := ["java/lang/RuntimeException", "java/lang/Exception"]) hc.1 hc.2.1 hc.2.2.2.2.2.2.2.2.1 hc.2.2.2.1 hfit (by decide +kernel) (hc.2.2.2.2.1 _ hk) (hc.2.2.2.2.1 _ hini) hsa hat hgood hG.2.2.2.1 hG.2.2.2.2.1 hr.2.2.1 (by rw [hc.2.2.1]; exact hh.1) d0 d3 d4 d6 d9 (fun x hx => (hout x hx).elim) (by show 2 + 3 < _; omega) (by rw [am_cat_map hc.2.2.2.2.2.2.2.2.2.2.2]; show am_cat st + (13 * (2 + 1) + 43) ≤ _; omega) (by omega) (by omega) hc.2.2.2.2.2.2.2.1 (fun t hal hsz hkept => ?_) hr.2.2.1.2.2 (by omega) (by omega)
  refine ⟨⟨x, w, ad, rfl, h, hr.1.kept (fun k q hq => hkept q.1 (hr.1 k q hq).lt), hr.2.1, hr.2.2.2.1, hr.2.2.2.2.1, hr.2.2.2.2.2⟩, Nat.le_trans hr.2.2.1.1 hsz, fun q h1 h2 => (hkept q (Nat.lt_of_lt_of_le h1 hr.2.2.1.1)).trans (hr.2.2.1.2.1 q h1 h2)⟩
theorem va_D.like {A : Nat → Prop} {ws ws' : va_W} (h : ws'.map (fun q => q.1) = ws.map (fun q => q.1)) (hD : va_D A ws) : va_D A ws' := by
  have key : ∀ (i : Nat) (p : Nat × va_E), ws'[i]? = some p → ∃ q : Nat × va_E, ws[i]? = some q ∧ q.1 = p.1 := by
    intro i p hp
    have h1 : (ws'.map (fun q => q.1))[i]? = some p.1 := by rw [List.getElem?_map, hp]; rfl
    rw [h, List.getElem?_map] at h1
    cases hq : ws[i]? with
    | none => rw [hq] at h1; cases h1
    | some q => rw [hq] at h1; exact ⟨q, rfl, Option.some.inj h1⟩
  refine ⟨fun i j p q hp hq hpq => ?_, fun k q hq => ?_⟩
  · obtain ⟨p1, a1, a2⟩ := key i p hp
    obtain ⟨q1, b1, b2⟩ := key j q hq
    exact hD.1 i j p1 q1 a1 b1 (by rw [a2, b2]; exact hpq)
  · obtain ⟨q1, b1, b2⟩ := key k q hq
    rw [← b2]
    exact hD.2 k q1 b1
/-- the places behind new boolean[4][32] -/
def am_ad4 (ad : Nat → Nat) (n q : Nat) (r : Nat → Nat) : Nat → Nat := fun j => if j = n then q else if n < j ∧ j < n + 5 then r (j - (n + 1)) else ad j
theorem am_mna_snd (hc : (am_ctx p l R s m args meth c cc nL own D cA A (am_sb cA) d)) {idx : Nat} (hlink : Cond.classLink own idx "[[Z" ∈ am_tab) (harr : Cond.arrayClass .boolean ∈ am_tab) (hdg : decode cc pc = .ok (.multianewarray idx 2, 4)) (hpc : pc + 4 = n) : am_snd (am_J p l e R s m args below meth c D cA A Z (am_sb cA) nL n0 ad0) (am_mna n) pc := by
  subst hpc
  intro K hK k ls st w h ad H locs cells slots lsA hr hl hs hn hh hc1 hc2
  dsimp only [am_mna] at h
  split at h
  · rename_i y x st'
    obtain ⟨rfl, rfl, h6, h⟩ := h
    have hG := hc.2.2.2.2.2.1
    have g2 : s.vm.findClass (FieldType.array .boolean).toString = some (cA 1) := (hG.1.2 1 (cA 1, .boolean) rfl).2
    refine va_mna (X := am_ws cA ad w) (L := []) (f := fun _ => .inr (0, [])) (ty := .boolean) (cy := cA 1) (N' := 4) (K' := 32) (z := (32, .inl (fun _ => 0))) hc.1 hc.2.1 hc.2.2.2.1 (hc.2.2.2.2.1 _ hlink) hG.2.2.2.2.2.2.1.2.1 (hc.2.2.2.2.1 _ harr) g2 hG.1 (by show va_P _ _ (_ ++ []) _; rw [List.append_nil]; exact hr.1) (by show va_D _ (_ ++ []); rw [List.append_nil]; exact hr.2.1) hr.2.2.1 hc.2.2.2.2.2.2.1 (by decide) (by decide) (by decide) (by decide) (by decide) (by decide) (by decide) rfl rfl (by omega) (by omega) (fun c => arrV_new c 32 (.int 0)) hdg (fun q r cI H1 hinj hnot hK1 hP1 hD1 hS1 => ?_)
    have hcI : cI = cA 4 := by
      have g1 := (hK1.2 5 (cI, .array .boolean) rfl).2
      have g3 := (hG.1.2 4 (cA 4, .array .boolean) rfl).2
      exact Option.some.inj (g1.symm.trans g3)
    subst hcI
    have hext : ∀ j, j < w.length → am_ad4 ad w.length q r j = ad j := fun j hj => by
      unfold am_ad4
      rw [if_neg (by omega), if_neg (by omega)]
    have hq0 : am_ad4 ad w.length q r w.length = q := if_pos rfl
    have hrow : ∀ i, i < 4 → am_ad4 ad w.length q r (w.length + 1 + i) = r i := fun i hi => by
      unfold am_ad4
      rw [if_neg (by omega), if_pos (by omega), show w.length + 1 + i - (w.length + 1) = i by omega]
    have hpl : va_pl ([] ++ (List.range 4).map r) (vr_up (fun _ => (.inr (0, []) : va_E)) ((List.range 4).map r) (.inl (cA 1, (32, .inl (fun _ => 0))))) = [(r 0, .inl (cA 1, (32, .inl (fun _ => 0)))), (r 1, .inl (cA 1, (32, .inl (fun _ => 0)))), (r 2, .inl (cA 1, (32, .inl (fun _ => 0)))), (r 3, .inl (cA 1, (32, .inl (fun _ => 0))))] := by
      have hl5 : List.range 4 = [0, 1, 2, 3] := rfl
      rw [hl5]
      simp [va_pl, vr_up]
    rw [hpl] at hP1 hD1
    have hws : am_ws cA (am_ad4 ad w.length q r) (w ++ [.inl (4, 4, .inr (.inr (am_rows w.length))), .inl (1, 32, .inl (fun _ => 0)), .inl (1, 32, .inl (fun _ => 0)), .inl (1, 32, .inl (fun _ => 0)), .inl (1, 32, .inl (fun _ => 0))]) = (am_ws cA ad w ++ [(q, am_tE cA (am_ad4 ad w.length q r) (.inl (4, 4, .inr (.inr (am_rows w.length)))))]) ++ [(r 0, .inl (cA 1, (32, .inl (fun _ => 0)))), (r 1, .inl (cA 1, (32, .inl (fun _ => 0)))), (r 2, .inl (cA 1, (32, .inl (fun _ => 0)))), (r 3, .inl (cA 1, (32, .inl (fun _ => 0))))] := by
      rw [← am_ws_ext (Nat.le_refl _) hext hr.2.2.2.1]
      simp only [am_ws, List.mapIdx_append, List.append_assoc]
      congr 1
      simp only [List.mapIdx_cons, List.mapIdx_nil, Nat.zero_add, List.cons_append, List.nil_append]
      rw [hq0]
      have e0 := hrow 0 (by omega)
      have e1 := hrow 1 (by omega)
      have e2 := hrow 2 (by omega)
      have e3 := hrow 3 (by omega)
      rw [show (1 : Nat) + w.length = w.length + 1 + 0 by omega, show (1 + 1 : Nat) + w.length = w.length + 1 + 1 by omega, show (1 + 1 + 1 : Nat) + w.length = w.length + 1 + 2 by omega, show (1 + 1 + 1 + 1 : Nat) + w.length = w.length + 1 + 3 by omega, e0, e1, e2, e3]
      rfl
    have hcell : ∀ Hx : Heap, va_at D vwCl (q, .inl (cA 4, 4, .inr (.inr (.inr (.inr (fun i => if i < 4 then some (r i) else none)))))) Hx → va_at D vwCl (q, am_tE cA (am_ad4 ad w.length q r) (.inl (4, 4, .inr (.inr (am_rows w.length))))) Hx := by
      intro Hx hx
      refine Eq.trans hx (congrArg some ?_)
      show arrV (cA 4) 4 (fun j => va_rf (if j < 4 then some (r j) else none)) = arrV (cA 4) 4 (fun j => va_rf ((am_rows w.length j).map (am_ad4 ad w.length q r)))
      refine arrV_same fun j hj => ?_
      show va_rf (if j < 4 then some (r j) else none) = va_rf ((am_rows w.length j).map (am_ad4 ad w.length q r))
      rw [if_pos hj, am_rows, if_pos hj, Option.map_some, hrow j hj]
    have hlen : (w ++ [.inl (4, 4, .inr (.inr (am_rows w.length))), .inl (1, 32, .inl (fun _ => 0)), .inl (1, 32, .inl (fun _ => 0)), .inl (1, 32, .inl (fun _ => 0)), .inl (1, 32, .inl (fun _ => 0))] : am_M).length = w.length + 5 := by simp
    have k1 := hK _ _ _ _ _ h (am_ad4 ad w.length q r) H1 locs (cells + 1 + 4) (slots + 4 + 4 * 32) lsA ⟨?_, ?_, hS1, fun e he => ?_, by rw [hlen]; have := hr.2.2.2.2.1; omega, fun j hj => (hext j (Nat.lt_of_lt_of_le hj hr.2.2.2.2.1)).trans (hr.2.2.2.2.2 j hj)⟩ (fun v hv => am_wv_le (by rw [hlen]; omega) (hl v hv)) (am_cr (by rw [hlen]; omega) (fun v hv => am_wv_le (by rw [hlen]; omega) (am_tl (am_tl hs) v hv))) hn (by rw [am_ents_ext hext hl]; exact hh) (by omega) (by omega)
    · rw [List.map_cons, am_map_ext hext (am_tl (am_tl hs))] at k1
      have e9 : am_tr (am_ad4 ad w.length q r) (am_sb cA) (.ref w.length) = .ref q := congrArg Value.ref hq0
      rw [e9] at k1
      exact k1
    · rw [hws]
      rw [List.append_assoc] at hP1 ⊢
      intro i z hz
      by_cases hi : i = (am_ws cA ad w).length
      · subst hi
        rw [List.getElem?_append_right (Nat.le_refl _), Nat.sub_self] at hz
        cases hz
        refine hcell _ (hP1 (am_ws cA ad w).length _ ?_)
        rw [List.getElem?_append_right (Nat.le_refl _), Nat.sub_self]
        rfl
      · refine hP1 i z ?_
        by_cases hi2 : i < (am_ws cA ad w).length
        · rw [List.getElem?_append_left hi2] at hz ⊢
          exact hz
        · rw [List.getElem?_append_right (by omega)] at hz ⊢
          obtain ⟨j, hj⟩ : ∃ j, i - (am_ws cA ad w).length = j + 1 := ⟨i - (am_ws cA ad w).length - 1, by omega⟩
          rw [hj] at hz ⊢
          exact hz
    · rw [hws]
      refine va_D.like ?_ hD1
      simp only [List.map_append, List.map_cons, List.map_nil]
    · rw [hlen]
      rcases List.mem_append.mp he with he | he
      · exact am_we_le (by omega) (hr.2.2.2.1 e he)
      · simp only [List.mem_cons, List.not_mem_nil, or_false] at he
        rcases he with rfl | rfl | rfl | rfl | rfl
        · intro j r hjr
          unfold am_rows at hjr
          split at hjr
          · cases hjr; omega
          · cases hjr
        · trivial
        · trivial
        · trivial
        · trivial
  · exact h.elim
theorem am_invVX_snd (hc : (am_ctx p l R s m args meth c cc nL own D cA A (am_sb cA) (d + 1))) {Hd : am_K → Nat → Nat → am_L → am_M → Prop} (hHd : ∀ K : am_K, (∀ k pc ls st w, K k pc ls st w → (am_J p l e R s m args below meth c D cA A Z (am_sb cA) nL n0 ad0) k pc ls st w) → am_hs p l e R s m args below meth c D cA A Z (am_sb cA) nL n0 ad0 K Hd pc) {y a ci : Nat} {hhT : List (Nat × Nat × Nat × Nat)} {T : u_T} {N : Nat} {x : MethodName} {bytes : ByteArray} {maxL idx : Nat} {ret : Option FieldType} (hy : am_nm y = x) (hcw : am_cw y = Cond.codeWith x bytes maxL ret hhT) (hcm : am_cw y ∈ am_tab) (hml : maxL ≤ 40) (hcl : vwCl[ci]? = some (x.cls, T, N)) (hini : Cond.initialized x.cls ∈ am_tab) (hlink : Cond.methodLink own idx x ∈ am_tab) (hinst : Cond.instanceMethod x ∈ am_tab) (hsel : Cond.selects x.cls x x ∈ am_tab) (hd : x.cls ≠ "java/lang/invoke/MethodHandle" ∧ x.cls ≠ "java/lang/invoke/VarHandle" ∧ (parseMethodDescriptor x.desc).map (fun d => d.parameters.length) = some a) (hdg : decode cc pc = .ok (.invokevirtual idx, 3)) (hpc : pc + 3 = n) : am_snd (am_J p l e R s m args below meth c D cA A Z (am_sb cA) nL n0 ad0) (fun K => am_invR (am_Call l d) (Hd K) y ci (a + 1) n K) pc := by
  subst hpc
  intro K hK k ls st w h ad H locs cells slots lsA hr hl hs hn hh hc1 hc2
  dsimp only [am_invR] at h
  obtain ⟨as, st', hst, hlen, hnn, h⟩ := am_take_iff h
  rw [List.append_nil] at h
  cases hbl : Nat.ble (am_cat st') 8 with
  | false => rw [hbl] at h; exact h.elim
  | true =>
  rw [hbl] at h
  have hcat := Nat.le_of_ble_eq_true hbl
  replace h := am_rc_iff h
  obtain ⟨⟨q0, as1, fs, hasq, hq0⟩, h⟩ := h
  subst hasq
  obtain ⟨b, hbk, h⟩ := h
  have hsA : ∀ v ∈ (Value.ref q0 :: as1), am_wv w.length v := fun v hv => hs v (by rw [hst]; exact List.mem_append_left _ (List.mem_reverse.mpr hv))
  have hsR : ∀ v ∈ st', am_wv w.length v := fun v hv => hs v (by rw [hst]; exact List.mem_append_right _ hv)
  have hM := h hsA hr.2.2.2.1 D cA ad H.size
  have hstk : st.map (am_tr ad (am_sb cA)) = ((Value.ref q0 :: as1).map (am_tr ad (am_sb cA))).reverse ++ st'.map (am_tr ad (am_sb cA)) := by
    rw [hst, List.map_append, List.map_reverse]
  have hfr := hc.2.2.2.2.2.2.2.2.2.1
  have hlo := hc.2.2.2.2.2.2.2.2.2.2.1
  have hcatm : (((st'.map (am_tr ad (am_sb cA)))).map fun v => v.category).sum ≤ 8 := by rw [am_cat_map hc.2.2.2.2.2.2.2.2.2.2.2]; exact hcat
  subst hy
  have hG := am_goodIn hcm
  have cb : vx_CVW R s args own (am_nm y).cls idx (am_nm y) bytes maxL ret hhT (am_wsd y) (am_room d b) b (1100 * b) a := by
    refine ⟨⟨rfl, rfl, am_rfr hfr, am_rlo hml hlo, pay_in hc.2.2.2.2.1 hG, by rw [am_wsd, hcw]; exact List.mem_cons_self⟩, ?_, hc.2.2.2.2.1 _ hini, ⟨hd.1, hd.2.1⟩, fun sig h => ?_, hc.2.2.2.2.1 _ hlink, hc.2.2.2.2.1 _ hinst, hc.2.2.2.2.1 _ hsel⟩
    · have := hc.2.2.2.2.1 _ hcm
      rwa [hcw] at this
    · have h2 := hd.2.2
      rw [h] at h2
      exact (Option.some.inj h2).symm
  rw [hstk]
  refine am_back (y := y) (as := .ref q0 :: as1) hc.2.2.2.2.2.2.1 (hHd K hK) hK hr hl hsR hn hh hbk hc1 hc2 rfl (vx_runVX (g := F0 m pc lsA _) (b := ad q0) (As := as1.map (am_tr ad (am_sb cA))) ⟨hc.1, hc.2.1, hc.2.2.1, hc.2.2.2.1, hc.2.2.2.2.1⟩ hM cb ⟨am_blind, va_recv hc.2.2.2.2.2.1.1 hr.1 hcl (am_ws_at cA ad hq0), fun U hU hW => ⟨rfl, am_preU hr hc.2.2.2.2.2.1 hc.2.2.2.2.2.2.1 U hU hW⟩⟩ rfl (by rw [List.length_map]; simpa using hlen) hh.1 (by show List.reverse (_ :: _) ++ _ = _; rw [List.reverse_cons, List.append_assoc]; rfl) (lv_room hcatm) hdg ⟨by omega, by omega⟩)

end AMC
