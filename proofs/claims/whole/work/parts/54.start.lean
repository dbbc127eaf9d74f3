/-! the law's entry (printed: the words by their places) -/
section
variable {b : Nat} {s : State}
theorem ws_of (hts : ∀ w ∈ lw_tbl, w.before #[Value.ref b] s = true) {w : Cond} {i : Nat} (h : tables_1[i]? = some w) : w.before #[Value.ref b] s = true := hts w (am_t1 h)
theorem nw_of (hts : ∀ w ∈ lw_tbl, w.before #[Value.ref b] s = true) {w : Cond} (i : Nat) (h : tables_1[i]? = some w) (ht : w.onTables = true) : va_Nw w s := va_tabs ht rfl (hts w (am_t1 h))
theorem str_of (hts : ∀ w ∈ lw_tbl, w.before #[Value.ref b] s = true) {own tx : String} {k : Nat} (i : Nat) (h : tables_1[i]? = some (Cond.stringRef own k tx)) (hx : (Cond.exactly (Term.string own k) "java/lang/String").before #[Value.ref b] s = true) : ∃ sa : Nat, vk_R own k tx sa s := by
  obtain ⟨a, c, cell, kk, h1, _⟩ := Cond.exactly_spec hx
  exact ⟨a, vk_R.of (hts _ (am_t1 h)) h1⟩
theorem arr_of {ty : FieldType} (h : (Cond.arrayClass ty).before #[Value.ref b] s = true) : ∃ c, ArrOfT s c ty ∧ s.vm.findClass ("[" ++ ty.toString) = some c := by
  obtain ⟨c, kk, comp, h1, h2, h3⟩ := Cond.arrayClass_spec h
  exact ⟨c, fun n z => ⟨(fun k h => by cases h), kk, h2, comp, h3⟩, h1⟩
theorem over_of {ty : FieldType} (h : va_AOA ty s) : ∃ c, ArrOfT s c (.array ty) ∧ s.vm.findClass ("[" ++ (FieldType.array ty).toString) = some c := by
  obtain ⟨comp, c, kk, h1, h2, h3, h4, h5⟩ := am_over h
  exact ⟨c, fun n z => ⟨(fun k h => by cases h), kk, h3, comp, h4⟩, h5⟩
theorem g_nestF (hts : ∀ w ∈ lw_tbl, w.before #[Value.ref b] s = true) : ∀ q ∈ am_nestF, va_Nw (.fieldLinkNest q.1 q.2.1 q.2.2.1 q.2.2.2.1 q.2.2.2.2.1 q.2.2.2.2.2) s := List.forall_mem_cons.mpr ⟨nw_of hts 32 (by decide +kernel) rfl, List.forall_mem_cons.mpr ⟨nw_of hts 36 (by decide +kernel) rfl, List.forall_mem_cons.mpr ⟨nw_of hts 38 (by decide +kernel) rfl, List.forall_mem_cons.mpr ⟨nw_of hts 65 (by decide +kernel) rfl, List.forall_mem_cons.mpr ⟨nw_of hts 67 (by decide +kernel) rfl, List.forall_mem_cons.mpr ⟨nw_of hts 71 (by decide +kernel) rfl, fun _ h => absurd h List.not_mem_nil⟩⟩⟩⟩⟩⟩
theorem g_nestM (hts : ∀ w ∈ lw_tbl, w.before #[Value.ref b] s = true) : ∀ q ∈ am_nestM, va_Nw (.methodLinkNest q.1 q.2.1 q.2.2.1 q.2.2.2) s := List.forall_mem_cons.mpr ⟨nw_of hts 24 (by decide +kernel) rfl, List.forall_mem_cons.mpr ⟨nw_of hts 59 (by decide +kernel) rfl, List.forall_mem_cons.mpr ⟨nw_of hts 248 (by decide +kernel) rfl, List.forall_mem_cons.mpr ⟨nw_of hts 266 (by decide +kernel) rfl, List.forall_mem_cons.mpr ⟨nw_of hts 269 (by decide +kernel) rfl, List.forall_mem_cons.mpr ⟨nw_of hts 272 (by decide +kernel) rfl, List.forall_mem_cons.mpr ⟨nw_of hts 273 (by decide +kernel) rfl, List.forall_mem_cons.mpr ⟨nw_of hts 367 (by decide +kernel) rfl, fun _ h => absurd h List.not_mem_nil⟩⟩⟩⟩⟩⟩⟩⟩
theorem g_strs (hts : ∀ w ∈ lw_tbl, w.before #[Value.ref b] s = true) (hgv : (Jvm.Cond.and given_1 narrow_1).before #[Value.ref b] s = true) : ∀ q ∈ am_strs, ∃ sa : Nat, vk_R q.1 q.2.1 q.2.2 sa s :=
  have hs := flat_of_before _ hgv
  List.forall_mem_cons.mpr ⟨str_of hts 163 (by decide +kernel) (hs _ (by decide +kernel)), List.forall_mem_cons.mpr ⟨str_of hts 320 (by decide +kernel) (hs _ (by decide +kernel)), List.forall_mem_cons.mpr ⟨str_of hts 387 (by decide +kernel) (hs _ (by decide +kernel)), List.forall_mem_cons.mpr ⟨str_of hts 407 (by decide +kernel) (hs _ (by decide +kernel)), List.forall_mem_cons.mpr ⟨str_of hts 427 (by decide +kernel) (hs _ (by decide +kernel)), List.forall_mem_cons.mpr ⟨str_of hts 428 (by decide +kernel) (hs _ (by decide +kernel)), List.forall_mem_cons.mpr ⟨str_of hts 468 (by decide +kernel) (hs _ (by decide +kernel)), List.forall_mem_cons.mpr ⟨str_of hts 483 (by decide +kernel) (hs _ (by decide +kernel)), List.forall_mem_cons.mpr ⟨str_of hts 501 (by decide +kernel) (hs _ (by decide +kernel)), List.forall_mem_cons.mpr ⟨str_of hts 507 (by decide +kernel) (hs _ (by decide +kernel)), List.forall_mem_cons.mpr ⟨str_of hts 519 (by decide +kernel) (hs _ (by decide +kernel)), List.forall_mem_cons.mpr ⟨str_of hts 542 (by decide +kernel) (hs _ (by decide +kernel)), List.forall_mem_cons.mpr ⟨str_of hts 552 (by decide +kernel) (hs _ (by decide +kernel)), List.forall_mem_cons.mpr ⟨str_of hts 584 (by decide +kernel) (hs _ (by decide +kernel)), List.forall_mem_cons.mpr ⟨str_of hts 600 (by decide +kernel) (hs _ (by decide +kernel)), List.forall_mem_cons.mpr ⟨str_of hts 624 (by decide +kernel) (hs _ (by decide +kernel)), List.forall_mem_cons.mpr ⟨str_of hts 669 (by decide +kernel) (hs _ (by decide +kernel)), List.forall_mem_cons.mpr ⟨str_of hts 670 (by decide +kernel) (hs _ (by decide +kernel)), fun _ h => absurd h List.not_mem_nil⟩⟩⟩⟩⟩⟩⟩⟩⟩⟩⟩⟩⟩⟩⟩⟩⟩⟩
theorem g_decls (hts : ∀ w ∈ lw_tbl, w.before #[Value.ref b] s = true) : ∀ q ∈ am_decls, va_Nw (.declares q) s := List.forall_mem_cons.mpr ⟨nw_of hts 125 (by decide +kernel) rfl, List.forall_mem_cons.mpr ⟨nw_of hts 126 (by decide +kernel) rfl, List.forall_mem_cons.mpr ⟨nw_of hts 127 (by decide +kernel) rfl, List.forall_mem_cons.mpr ⟨nw_of hts 128 (by decide +kernel) rfl, List.forall_mem_cons.mpr ⟨nw_of hts 129 (by decide +kernel) rfl, List.forall_mem_cons.mpr ⟨nw_of hts 130 (by decide +kernel) rfl, fun _ h => absurd h List.not_mem_nil⟩⟩⟩⟩⟩⟩
theorem g_casts (hts : ∀ w ∈ lw_tbl, w.before #[Value.ref b] s = true) : ∀ q ∈ am_casts, va_Nw (.castable q q) s := List.forall_mem_cons.mpr ⟨nw_of hts 380 (by decide +kernel) rfl, List.forall_mem_cons.mpr ⟨nw_of hts 124 (by decide +kernel) rfl, List.forall_mem_cons.mpr ⟨nw_of hts 476 (by decide +kernel) rfl, fun _ h => absurd h List.not_mem_nil⟩⟩⟩
theorem g_xs (hgv : (Jvm.Cond.and given_1 narrow_1).before #[Value.ref b] s = true) : ∀ q ∈ am_xs, va_Nc q.1 q.2 s :=
  have hs := flat_of_before _ hgv
  List.forall_mem_cons.mpr ⟨va_Nc.of (hs _ (by decide +kernel)), List.forall_mem_cons.mpr ⟨va_Nc.of (hs _ (by decide +kernel)), List.forall_mem_cons.mpr ⟨va_Nc.of (hs _ (by decide +kernel)), List.forall_mem_cons.mpr ⟨va_Nc.of (hs _ (by decide +kernel)), List.forall_mem_cons.mpr ⟨va_Nc.of (hs _ (by decide +kernel)), List.forall_mem_cons.mpr ⟨va_Nc.of (hs _ (by decide +kernel)), fun _ h => absurd h List.not_mem_nil⟩⟩⟩⟩⟩⟩
theorem g_K (hts : ∀ w ∈ lw_tbl, w.before #[Value.ref b] s = true) (ha : va_AOA .int s) : ∃ (D : va_G) (cA : Nat → ClassId), va_K D vwCl (am_tys cA) s := by
  obtain ⟨c0, iS0, hK0⟩ := u_known (n := 7) (fun w hw => hts w (List.mem_filter.mp hw).1) inX0 (ws_of hts (i := 58) (by decide +kernel))
  obtain ⟨c1, iS1, hK1⟩ := u_known (n := 8) (fun w hw => hts w (List.mem_filter.mp hw).1) inX1 (ws_of hts (i := 23) (by decide +kernel))
  obtain ⟨c2, iS2, hK2⟩ := u_known (n := 7) (fun w hw => hts w (List.mem_filter.mp hw).1) inX2 (ws_of hts (i := 15) (by decide +kernel))
  obtain ⟨c3, iS3, hK3⟩ := u_known (n := 22) (fun w hw => hts w (List.mem_filter.mp hw).1) inX3 (ws_of hts (i := 672) (by decide +kernel))
  obtain ⟨a0, hA0, hB0⟩ := arr_of (ws_of hts (w := .arrayClass .int) (i := 56) (by decide +kernel))
  obtain ⟨a1, hA1, hB1⟩ := arr_of (ws_of hts (w := .arrayClass .boolean) (i := 746) (by decide +kernel))
  obtain ⟨a2, hA2, hB2⟩ := arr_of (ws_of hts (w := .arrayClass .long) (i := 968) (by decide +kernel))
  obtain ⟨a3, hA3, hB3⟩ := over_of ha
  refine ⟨(fun k => if k = 0 then c0 else if k = 1 then c1 else if k = 2 then c2 else c3, fun k => if k = 0 then iS0 else if k = 1 then iS1 else if k = 2 then iS2 else iS3), fun k => if k = 0 then a0 else if k = 1 then a1 else if k = 2 then a2 else a3, ?_, ?_⟩
  · intro k q hq
    match k, hq with
    | 0, hq => cases hq; exact hK0
    | 1, hq => cases hq; exact hK1
    | 2, hq => cases hq; exact hK2
    | 3, hq => cases hq; exact hK3
    | k + 4, hq => simp [vwCl] at hq
  · intro k q hq
    match k, hq with
    | 0, hq => cases hq; exact ⟨hA0, hB0⟩
    | 1, hq => cases hq; exact ⟨hA1, hB1⟩
    | 2, hq => cases hq; exact ⟨hA2, hB2⟩
    | 3, hq => cases hq; exact ⟨hA3, hB3⟩
    | k + 4, hq => simp [am_tys] at hq
theorem g_all (hts : ∀ w ∈ lw_tbl, w.before #[Value.ref b] s = true) (hgv : (Jvm.Cond.and given_1 narrow_1).before #[Value.ref b] s = true) : ∃ (D : va_G) (cA : Nat → ClassId), am_G D cA (fun q => s.heap.size ≤ q) s := by
  have hs := flat_of_before _ hgv
  have ha : va_AOA .int s := hts (.arrayOver (.array .int)) (am_t1 (i := 678) (by decide +kernel))
  obtain ⟨D, cA, hK⟩ := g_K hts ha
  exact ⟨D, cA, hK, g_nestF hts, g_nestM hts, vx_Zqof (ws_of hts (i := 149) (by decide +kernel)) (ws_of hts (i := 5) (by decide +kernel)) (hs _ (by decide +kernel)) (fun a ha => Nat.not_le.mpr ha), vx_Zqof (ws_of hts (i := 151) (by decide +kernel)) (ws_of hts (i := 5) (by decide +kernel)) (hs _ (by decide +kernel)) (fun a ha => Nat.not_le.mpr ha), g_strs hts hgv, ha, g_xs hgv, g_decls hts, g_casts hts⟩
end
theorem nt_of {l : Launch} (h : l.flags = flags0) : l.stackTraces = false := by
  unfold Launch.stackTraces
  rw [h]
  decide +kernel
/-- from the entry, for every script of at most 2048 ints, the law comes to its end with true -/
theorem whole_start {p : Program} {e : Env} {s : State} {m : MethodId} {below : List Frame} {meth : Method} {c : Code} (l : Launch) (hflags : l.flags = flags0) {b L : Nat} {xs : Nat → Int32} (hL : L ≤ 2048) (C0 : lw_At p s m meth c b L xs) : W p l e room_1 s m #[Value.ref b] below meth c s.heap [] 0 0 (lw_Z below #[Value.ref b] s) (entryFrame m ([Value.ref b] : List Value).toArray 9) := by
  obtain ⟨hx, hb, hr, hml, hown, hts, hX, hbl, hlocks, hgv⟩ := C0
  have hl := nt_of hflags
  obtain ⟨D, cA, hG⟩ := g_all hts hgv
  have hc : am_ctx p l room_1 s m #[Value.ref b] meth c cL_law 9 "PepperboxTableLaw" D cA (fun q => s.heap.size ≤ q) (.ref b) (100 + 1) :=
    ⟨hx, hb, hml, hown, fun w hw => hts w (List.mem_filter.mp hw).1, hG, fun q h => h, hlocks, hl, Nat.le_of_ble_eq_true rfl, Nat.le_of_ble_eq_true rfl, rfl⟩
  have hJ := law_run (L := L) (xs := xs) (d := 100) hl (Nat.le_of_ble_eq_true rfl) hL (fun stop n => am_run_snd (sn_L (e := e) (below := below) (ad0 := fun _ => 0) hc hX hbl (Nat.not_le.mpr hbl) (by omega) hr) stop n) 1100 (Nat.le_refl _)
  rw [lg_entry_eq]
  have hent := am_entL_has (ad := fun _ => 0) (nb := Value.ref b) (a := [Value.null]) (nL := 9) rfl (Nat.le_of_ble_eq_true rfl)
  exact hJ (fun _ => 0) s.heap [] 0 0 _ ⟨fun k q h => by simp [am_ws] at h, ⟨fun i j p q h => by simp [am_ws] at h, fun k q h => by simp [am_ws] at h⟩, va_S.rf, fun e he => absurd he List.not_mem_nil, Nat.le_refl _, fun _ _ => rfl⟩ (fun v hv => am_ent_mem (nL := 9) (a := [Value.null]) hv |> fun hm => by simp at hm; rw [hm]; trivial) (fun v hv => absurd hv List.not_mem_nil) rfl hent (Nat.le_of_ble_eq_true rfl) (Nat.le_of_ble_eq_true rfl)
