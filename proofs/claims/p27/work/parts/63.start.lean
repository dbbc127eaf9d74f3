/-! the law's entry (printed: the words by their places) -/
section
variable {b : Nat} {s : State}
theorem ws_of (hts : ∀ w ∈ lw_tbl, w.before #[Value.ref b] s = true) {w : Cond} {i : Nat} (h : tables_1[i]? = some w) : w.before #[Value.ref b] s = true := hts w (am_t1 h)
theorem nw_of (hts : ∀ w ∈ lw_tbl, w.before #[Value.ref b] s = true) {w : Cond} (i : Nat) (h : tables_1[i]? = some w) (ht : w.onTables = true) : va_Nw w s := va_tabs ht rfl (hts w (am_t1 h))
theorem str_of (hts : ∀ w ∈ lw_tbl, w.before #[Value.ref b] s = true) {own tx : String} {k : Nat} (i : Nat) (h : tables_1[i]? = some (Cond.stringRef own k tx)) (hx : (Cond.exactly (Term.string own k) "java/lang/String").before #[Value.ref b] s = true) : ∃ sa : Nat, vk_R own k tx sa s := by
  obtain ⟨a, c, cell, kk, h1, _⟩ := Cond.exactly_spec hx
  exact ⟨a, vk_R.of (hts _ (am_t1 h)) h1⟩
theorem arr_of {ty : FieldType} (h : (Cond.arrayClass ty).before #[Value.ref b] s = true) : ∃ c, ArrOfT s c ty ∧ s.vm.findClass ("[" ++ ty.toString) = some c := by
  obtain ⟨c, kk, comp, h1, h2, h3⟩ := Cond.arrayClass_spec h
  exact ⟨c, fun n z => ⟨(fun k h => by cases h), kk, h2, comp, h3⟩, h1⟩
theorem over_of {ty : FieldType} (h : va_AOA ty s) : ∃ c, ArrOfT s c (.array ty) ∧ s.vm.findClass ("[" ++ (FieldType.array ty).toString) = some c := by
  obtain ⟨comp, c, kk, h1, h2, h3, h4, h5⟩ := am_over h
  exact ⟨c, fun n z => ⟨(fun k h => by cases h), kk, h3, comp, h4⟩, h5⟩
theorem g_nestF (hts : ∀ w ∈ lw_tbl, w.before #[Value.ref b] s = true) : ∀ q ∈ am_nestF, va_Nw (.fieldLinkNest q.1 q.2.1 q.2.2.1 q.2.2.2.1 q.2.2.2.2.1 q.2.2.2.2.2) s := List.forall_mem_cons.mpr ⟨nw_of hts 434 (by decide +kernel) rfl, List.forall_mem_cons.mpr ⟨nw_of hts 438 (by decide +kernel) rfl, List.forall_mem_cons.mpr ⟨nw_of hts 440 (by decide +kernel) rfl, List.forall_mem_cons.mpr ⟨nw_of hts 467 (by decide +kernel) rfl, List.forall_mem_cons.mpr ⟨nw_of hts 469 (by decide +kernel) rfl, List.forall_mem_cons.mpr ⟨nw_of hts 473 (by decide +kernel) rfl, fun _ h => absurd h List.not_mem_nil⟩⟩⟩⟩⟩⟩
theorem g_nestM (hts : ∀ w ∈ lw_tbl, w.before #[Value.ref b] s = true) : ∀ q ∈ am_nestM, va_Nw (.methodLinkNest q.1 q.2.1 q.2.2.1 q.2.2.2) s := List.forall_mem_cons.mpr ⟨nw_of hts 172 (by decide +kernel) rfl, List.forall_mem_cons.mpr ⟨nw_of hts 226 (by decide +kernel) rfl, List.forall_mem_cons.mpr ⟨nw_of hts 273 (by decide +kernel) rfl, List.forall_mem_cons.mpr ⟨nw_of hts 318 (by decide +kernel) rfl, List.forall_mem_cons.mpr ⟨nw_of hts 321 (by decide +kernel) rfl, List.forall_mem_cons.mpr ⟨nw_of hts 324 (by decide +kernel) rfl, List.forall_mem_cons.mpr ⟨nw_of hts 426 (by decide +kernel) rfl, List.forall_mem_cons.mpr ⟨nw_of hts 461 (by decide +kernel) rfl, List.forall_mem_cons.mpr ⟨nw_of hts 579 (by decide +kernel) rfl, List.forall_mem_cons.mpr ⟨nw_of hts 583 (by decide +kernel) rfl, fun _ h => absurd h List.not_mem_nil⟩⟩⟩⟩⟩⟩⟩⟩⟩⟩
theorem g_strs (hts : ∀ w ∈ lw_tbl, w.before #[Value.ref b] s = true) (hgv : (Jvm.Cond.and given_1 narrow_1).before #[Value.ref b] s = true) : ∀ q ∈ am_strs, ∃ sa : Nat, vk_R q.1 q.2.1 q.2.2 sa s :=
  have hs := flat_of_before _ hgv
  List.forall_mem_cons.mpr ⟨str_of hts 64 (by decide +kernel) (hs _ (by decide +kernel)), List.forall_mem_cons.mpr ⟨str_of hts 97 (by decide +kernel) (hs _ (by decide +kernel)), List.forall_mem_cons.mpr ⟨str_of hts 118 (by decide +kernel) (hs _ (by decide +kernel)), List.forall_mem_cons.mpr ⟨str_of hts 154 (by decide +kernel) (hs _ (by decide +kernel)), List.forall_mem_cons.mpr ⟨str_of hts 179 (by decide +kernel) (hs _ (by decide +kernel)), List.forall_mem_cons.mpr ⟨str_of hts 232 (by decide +kernel) (hs _ (by decide +kernel)), List.forall_mem_cons.mpr ⟨str_of hts 264 (by decide +kernel) (hs _ (by decide +kernel)), List.forall_mem_cons.mpr ⟨str_of hts 299 (by decide +kernel) (hs _ (by decide +kernel)), List.forall_mem_cons.mpr ⟨str_of hts 336 (by decide +kernel) (hs _ (by decide +kernel)), List.forall_mem_cons.mpr ⟨str_of hts 616 (by decide +kernel) (hs _ (by decide +kernel)), List.forall_mem_cons.mpr ⟨str_of hts 622 (by decide +kernel) (hs _ (by decide +kernel)), List.forall_mem_cons.mpr ⟨str_of hts 637 (by decide +kernel) (hs _ (by decide +kernel)), List.forall_mem_cons.mpr ⟨str_of hts 656 (by decide +kernel) (hs _ (by decide +kernel)), List.forall_mem_cons.mpr ⟨str_of hts 695 (by decide +kernel) (hs _ (by decide +kernel)), fun _ h => absurd h List.not_mem_nil⟩⟩⟩⟩⟩⟩⟩⟩⟩⟩⟩⟩⟩⟩
theorem g_decls (hts : ∀ w ∈ lw_tbl, w.before #[Value.ref b] s = true) : ∀ q ∈ am_decls, va_Nw (.declares q) s := List.forall_mem_cons.mpr ⟨nw_of hts 24 (by decide +kernel) rfl, List.forall_mem_cons.mpr ⟨nw_of hts 25 (by decide +kernel) rfl, List.forall_mem_cons.mpr ⟨nw_of hts 26 (by decide +kernel) rfl, List.forall_mem_cons.mpr ⟨nw_of hts 27 (by decide +kernel) rfl, List.forall_mem_cons.mpr ⟨nw_of hts 28 (by decide +kernel) rfl, List.forall_mem_cons.mpr ⟨nw_of hts 29 (by decide +kernel) rfl, fun _ h => absurd h List.not_mem_nil⟩⟩⟩⟩⟩⟩
theorem g_casts (hts : ∀ w ∈ lw_tbl, w.before #[Value.ref b] s = true) : ∀ q ∈ am_casts, va_Nw (.castable q q) s := List.forall_mem_cons.mpr ⟨nw_of hts 23 (by decide +kernel) rfl, List.forall_mem_cons.mpr ⟨nw_of hts 111 (by decide +kernel) rfl, List.forall_mem_cons.mpr ⟨nw_of hts 292 (by decide +kernel) rfl, fun _ h => absurd h List.not_mem_nil⟩⟩⟩
theorem g_xs (hgv : (Jvm.Cond.and given_1 narrow_1).before #[Value.ref b] s = true) : ∀ q ∈ am_xs, va_Nc q.1 q.2 s :=
  have hs := flat_of_before _ hgv
  fun _ h => absurd h List.not_mem_nil
theorem g_K (hts : ∀ w ∈ lw_tbl, w.before #[Value.ref b] s = true) (ha : va_AOA .int s) (hz : va_AOA .boolean s) : ∃ (D : va_G) (cA : Nat → ClassId), cA 9 = b ∧ va_K D vwCl (am_tys cA) s := by
  obtain ⟨c0, iS0, hK0⟩ := u_known (n := 7) (fun w hw => hts w (List.mem_filter.mp hw).1) inX0 (ws_of hts (i := 460) (by decide +kernel))
  obtain ⟨c1, iS1, hK1⟩ := u_known (n := 8) (fun w hw => hts w (List.mem_filter.mp hw).1) inX1 (ws_of hts (i := 224) (by decide +kernel))
  obtain ⟨c2, iS2, hK2⟩ := u_known (n := 7) (fun w hw => hts w (List.mem_filter.mp hw).1) inX2 (ws_of hts (i := 158) (by decide +kernel))
  obtain ⟨c3, iS3, hK3⟩ := u_known (n := 18) (fun w hw => hts w (List.mem_filter.mp hw).1) inX3 (ws_of hts (i := 415) (by decide +kernel))
  obtain ⟨a0, hA0, hB0⟩ := arr_of (ws_of hts (w := .arrayClass .int) (i := 458) (by decide +kernel))
  obtain ⟨a1, hA1, hB1⟩ := arr_of (ws_of hts (w := .arrayClass .boolean) (i := 574) (by decide +kernel))
  obtain ⟨a2, hA2, hB2⟩ := arr_of (ws_of hts (w := .arrayClass .byte) (i := 90) (by decide +kernel))
  obtain ⟨a3, hA3, hB3⟩ := over_of ha
  obtain ⟨a4, hA4, hB4⟩ := over_of hz
  refine ⟨(fun k => if k = 0 then c0 else if k = 1 then c1 else if k = 2 then c2 else c3, fun k => if k = 0 then iS0 else if k = 1 then iS1 else if k = 2 then iS2 else iS3), fun k => if k = 0 then a0 else if k = 1 then a1 else if k = 2 then a2 else if k = 3 then a3 else if k = 4 then a4 else b, rfl, ?_, ?_⟩
  · intro k q hq
    match k, hq with
    | 0, hq => cases hq; exact hK0
    | 1, hq => cases hq; exact hK1
    | 2, hq => cases hq; exact hK2
    | 3, hq => cases hq; exact hK3
    | k + 4, hq => simp [vwCl] at hq
  · intro k q hq
    match k, hq with
    | 0, hq => cases hq; exact ⟨hA0, hB0⟩
    | 1, hq => cases hq; exact ⟨hA1, hB1⟩
    | 2, hq => cases hq; exact ⟨hA2, hB2⟩
    | 3, hq => cases hq; exact ⟨hA3, hB3⟩
    | 4, hq => cases hq; exact ⟨hA4, hB4⟩
    | k + 5, hq => simp [am_tys] at hq
theorem g_all (hts : ∀ w ∈ lw_tbl, w.before #[Value.ref b] s = true) (hgv : (Jvm.Cond.and given_1 narrow_1).before #[Value.ref b] s = true) {L : Nat} {xs : Nat → Int32} (hL : L ≤ 260) (hX : va_X b L xs s s.heap) (hbl : b < s.heap.size) : ∃ (D : va_G) (cA : Nat → ClassId), cA 9 = b ∧ am_G D cA (fun q => s.heap.size ≤ q) s := by
  have hs := flat_of_before _ hgv
  have ha : va_AOA .int s := hts (.arrayOver (.array .int)) (am_t1 (i := 515) (by decide +kernel))
  have hz : va_AOA .boolean s := hts (.arrayOver (.array .boolean)) (am_t1 (i := 513) (by decide +kernel))
  obtain ⟨D, cA, h9, hK⟩ := g_K hts ha hz
  have hscr : am_Scr cA (fun q => s.heap.size ≤ q) s := ⟨L, xs, hL, by rw [h9]; exact hX, by rw [h9]; exact hbl, by rw [h9]; exact Nat.not_le.mpr hbl⟩
  exact ⟨D, cA, h9, hK, g_nestF hts, g_nestM hts, vx_Zqof (ws_of hts (i := 50) (by decide +kernel)) (ws_of hts (i := 5) (by decide +kernel)) (hs _ (by decide +kernel)) (fun a ha => Nat.not_le.mpr ha), vx_Zqof (ws_of hts (i := 52) (by decide +kernel)) (ws_of hts (i := 5) (by decide +kernel)) (hs _ (by decide +kernel)) (fun a ha => Nat.not_le.mpr ha), g_strs hts hgv, ⟨ha, hz, hscr⟩, g_xs hgv, g_decls hts, g_casts hts⟩
end
theorem nt_of {l : Launch} (h : l.flags = flags0) : l.stackTraces = false := by
  unfold Launch.stackTraces
  rw [h]
  decide +kernel
/-- from the entry, for every script of at most 260 ints, the law comes to its end with true -/
theorem whole_start {p : Program} {e : Env} {s : State} {m : MethodId} {below : List Frame} {meth : Method} {c : Code} (l : Launch) (hflags : l.flags = flags0) {b L : Nat} {xs : Nat → Int32} (hL : L ≤ 260) (C0 : lw_At p s m meth c b L xs) : W p l e room_1 s m #[Value.ref b] below meth c s.heap [] 0 0 (lw_Z below #[Value.ref b] s) (entryFrame m ([Value.ref b] : List Value).toArray 16) := by
  obtain ⟨hx, hb, hr, hml, hown, hts, hX, hbl, hlocks, hgv⟩ := C0
  have hl := nt_of hflags
  obtain ⟨D, cA, h9, hG⟩ := g_all hts hgv hL hX hbl
  have hsb : am_sb cA = Value.ref b := by rw [am_sb, h9]
  have hc : am_ctx p l room_1 s m #[Value.ref b] meth c cL_law 16 "PepperboxTableLaw" D cA (fun q => s.heap.size ≤ q) (am_sb cA) (100 + 1) :=
    ⟨hx, hb, hml, hown, fun w hw => hts w (List.mem_filter.mp hw).1, hG, fun q h => h, hlocks, hl, Nat.le_of_ble_eq_true rfl, Nat.le_of_ble_eq_true rfl, rfl⟩
  have hJ := law_run (d := 100) hl (Nat.le_of_ble_eq_true rfl) (fun stop n => am_run_snd (sn_L (e := e) (below := below) (ad0 := fun _ => 0) hc hr) stop n) am_gc (k := 1800) (Nat.le_refl _)
  rw [lg_entry_eq]
  have hent := am_entL_has (ad := fun _ => 0) (nb := am_sb cA) (a := [Value.float 0]) (nL := 16) rfl (Nat.le_of_ble_eq_true rfl)
  rw [show [Value.float 0].map (am_tr (fun _ => 0) (am_sb cA)) = [Value.ref b] from by rw [← hsb]; rfl] at hent
  exact hJ (fun _ => 0) s.heap [] 0 0 _ ⟨fun k q h => by simp [am_ws] at h, ⟨fun i j p q h => by simp [am_ws] at h, fun k q h => by simp [am_ws] at h⟩, va_S.rf, fun e he => absurd he List.not_mem_nil, Nat.le_refl _, fun _ _ => rfl⟩ (fun v hv => am_ent_mem (nL := 16) (a := [Value.float 0]) hv |> fun hm => by simp at hm; rw [hm]; trivial) (fun v hv => absurd hv List.not_mem_nil) rfl hent (Nat.le_of_ble_eq_true rfl) (Nat.le_of_ble_eq_true rfl)
