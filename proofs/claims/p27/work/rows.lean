section
-- ===== PART A: goes FIRST, ahead of the names: the tables' words, and 'selects' of the private methods out of them =====
/-- a private method of a class that the tables say can be made, by its rows of tables_1 -/
def lw_okq (q : MethodName × Nat) : Prop := (q.1.cls ≠ "java/lang/invoke/MethodHandle" ∧ q.1.cls ≠ "java/lang/invoke/VarHandle") ∧ Cond.instantiable q.1.cls q.2 ∈ tables_1 ∧ Cond.privateMethod q.1 ∈ tables_1 ∧ Cond.instanceMethod q.1 ∈ tables_1
theorem lw_p0 : lw_okq (⟨"java/lang/Throwable", "fillInStackTrace", "(I)Ljava/lang/Throwable;"⟩, 6) := ⟨⟨by decide +kernel, by decide +kernel⟩, List.mem_of_getElem? (i := 62) (by decide +kernel), List.mem_of_getElem? (i := 60) (by decide +kernel), List.mem_of_getElem? (i := 61) (by decide +kernel)⟩
theorem lw_p1 : lw_okq (⟨"PepperboxTable", "isBidAllowed", "(I)Z"⟩, 7) := ⟨⟨by decide +kernel, by decide +kernel⟩, List.mem_of_getElem? (i := 158) (by decide +kernel), List.mem_of_getElem? (i := 156) (by decide +kernel), List.mem_of_getElem? (i := 157) (by decide +kernel)⟩
theorem lw_p2 : lw_okq (⟨"PepperboxTable$Cards", "playedAt", "(I)I"⟩, 8) := ⟨⟨by decide +kernel, by decide +kernel⟩, List.mem_of_getElem? (i := 224) (by decide +kernel), List.mem_of_getElem? (i := 222) (by decide +kernel), List.mem_of_getElem? (i := 223) (by decide +kernel)⟩
theorem lw_p3 : lw_okq (⟨"PepperboxTable", "turnNow", "()I"⟩, 7) := ⟨⟨by decide +kernel, by decide +kernel⟩, List.mem_of_getElem? (i := 158) (by decide +kernel), List.mem_of_getElem? (i := 247) (by decide +kernel), List.mem_of_getElem? (i := 248) (by decide +kernel)⟩
theorem lw_p4 : lw_okq (⟨"PepperboxTable$Cards", "beats", "(II)Z"⟩, 8) := ⟨⟨by decide +kernel, by decide +kernel⟩, List.mem_of_getElem? (i := 224) (by decide +kernel), List.mem_of_getElem? (i := 257) (by decide +kernel), List.mem_of_getElem? (i := 258) (by decide +kernel)⟩
theorem lw_p5 : lw_okq (⟨"PepperboxTable", "revokersOf", "(I)I"⟩, 7) := ⟨⟨by decide +kernel, by decide +kernel⟩, List.mem_of_getElem? (i := 158) (by decide +kernel), List.mem_of_getElem? (i := 266) (by decide +kernel), List.mem_of_getElem? (i := 267) (by decide +kernel)⟩
theorem lw_p6 : lw_okq (⟨"PepperboxTable$Cards", "playerAt", "(I)I"⟩, 8) := ⟨⟨by decide +kernel, by decide +kernel⟩, List.mem_of_getElem? (i := 224) (by decide +kernel), List.mem_of_getElem? (i := 275) (by decide +kernel), List.mem_of_getElem? (i := 276) (by decide +kernel)⟩
theorem lw_p7 : lw_okq (⟨"PepperboxTable", "checkPlayable", "(I)V"⟩, 7) := ⟨⟨by decide +kernel, by decide +kernel⟩, List.mem_of_getElem? (i := 158) (by decide +kernel), List.mem_of_getElem? (i := 287) (by decide +kernel), List.mem_of_getElem? (i := 288) (by decide +kernel)⟩
theorem lw_p8 : lw_okq (⟨"PepperboxTable", "hasBestPlay", "()Z"⟩, 7) := ⟨⟨by decide +kernel, by decide +kernel⟩, List.mem_of_getElem? (i := 158) (by decide +kernel), List.mem_of_getElem? (i := 338) (by decide +kernel), List.mem_of_getElem? (i := 339) (by decide +kernel)⟩
theorem lw_p9 : lw_okq (⟨"PepperboxTable", "bestBehind", "(I)I"⟩, 7) := ⟨⟨by decide +kernel, by decide +kernel⟩, List.mem_of_getElem? (i := 158) (by decide +kernel), List.mem_of_getElem? (i := 378) (by decide +kernel), List.mem_of_getElem? (i := 379) (by decide +kernel)⟩
theorem lw_p10 : lw_okq (⟨"PepperboxTable", "mixTricks", "(J)J"⟩, 7) := ⟨⟨by decide +kernel, by decide +kernel⟩, List.mem_of_getElem? (i := 158) (by decide +kernel), List.mem_of_getElem? (i := 398) (by decide +kernel), List.mem_of_getElem? (i := 399) (by decide +kernel)⟩
theorem lw_p11 : lw_okq (⟨"PepperboxTable", "mixSides", "(J)J"⟩, 7) := ⟨⟨by decide +kernel, by decide +kernel⟩, List.mem_of_getElem? (i := 158) (by decide +kernel), List.mem_of_getElem? (i := 403) (by decide +kernel), List.mem_of_getElem? (i := 404) (by decide +kernel)⟩
theorem lw_p12 : lw_okq (⟨"PepperboxTable", "mixHands", "(J)J"⟩, 7) := ⟨⟨by decide +kernel, by decide +kernel⟩, List.mem_of_getElem? (i := 158) (by decide +kernel), List.mem_of_getElem? (i := 408) (by decide +kernel), List.mem_of_getElem? (i := 409) (by decide +kernel)⟩
theorem lw_p13 : lw_okq (⟨"PepperboxTable$Auction", "addCall", "(I)V"⟩, 7) := ⟨⟨by decide +kernel, by decide +kernel⟩, List.mem_of_getElem? (i := 460) (by decide +kernel), List.mem_of_getElem? (i := 662) (by decide +kernel), List.mem_of_getElem? (i := 663) (by decide +kernel)⟩
theorem lw_p14 : lw_okq (⟨"PepperboxTableLaw$Deal", "conclude", "()V"⟩, 18) := ⟨⟨by decide +kernel, by decide +kernel⟩, List.mem_of_getElem? (i := 415) (by decide +kernel), List.mem_of_getElem? (i := 679) (by decide +kernel), List.mem_of_getElem? (i := 680) (by decide +kernel)⟩
theorem lw_p15 : lw_okq (⟨"PepperboxTableLaw$Deal", "end", "()V"⟩, 18) := ⟨⟨by decide +kernel, by decide +kernel⟩, List.mem_of_getElem? (i := 415) (by decide +kernel), List.mem_of_getElem? (i := 713) (by decide +kernel), List.mem_of_getElem? (i := 714) (by decide +kernel)⟩
def lw_privs_1 : List (MethodName × Nat) := [(⟨"java/lang/Throwable", "fillInStackTrace", "(I)Ljava/lang/Throwable;"⟩, 6), (⟨"PepperboxTable", "isBidAllowed", "(I)Z"⟩, 7), (⟨"PepperboxTable$Cards", "playedAt", "(I)I"⟩, 8), (⟨"PepperboxTable", "turnNow", "()I"⟩, 7), (⟨"PepperboxTable$Cards", "beats", "(II)Z"⟩, 8), (⟨"PepperboxTable", "revokersOf", "(I)I"⟩, 7), (⟨"PepperboxTable$Cards", "playerAt", "(I)I"⟩, 8), (⟨"PepperboxTable", "checkPlayable", "(I)V"⟩, 7), (⟨"PepperboxTable", "hasBestPlay", "()Z"⟩, 7), (⟨"PepperboxTable", "bestBehind", "(I)I"⟩, 7), (⟨"PepperboxTable", "mixTricks", "(J)J"⟩, 7), (⟨"PepperboxTable", "mixSides", "(J)J"⟩, 7), (⟨"PepperboxTable", "mixHands", "(J)J"⟩, 7), (⟨"PepperboxTable$Auction", "addCall", "(I)V"⟩, 7), (⟨"PepperboxTableLaw$Deal", "conclude", "()V"⟩, 18), (⟨"PepperboxTableLaw$Deal", "end", "()V"⟩, 18)]
theorem lw_r1 : ∀ q ∈ lw_privs_1, lw_okq q := List.forall_mem_cons.mpr ⟨lw_p0, List.forall_mem_cons.mpr ⟨lw_p1, List.forall_mem_cons.mpr ⟨lw_p2, List.forall_mem_cons.mpr ⟨lw_p3, List.forall_mem_cons.mpr ⟨lw_p4, List.forall_mem_cons.mpr ⟨lw_p5, List.forall_mem_cons.mpr ⟨lw_p6, List.forall_mem_cons.mpr ⟨lw_p7, List.forall_mem_cons.mpr ⟨lw_p8, List.forall_mem_cons.mpr ⟨lw_p9, List.forall_mem_cons.mpr ⟨lw_p10, List.forall_mem_cons.mpr ⟨lw_p11, List.forall_mem_cons.mpr ⟨lw_p12, List.forall_mem_cons.mpr ⟨lw_p13, List.forall_mem_cons.mpr ⟨lw_p14, List.forall_mem_cons.mpr ⟨lw_p15, fun _ h => absurd h List.not_mem_nil⟩⟩⟩⟩⟩⟩⟩⟩⟩⟩⟩⟩⟩⟩⟩⟩
theorem lw_p16 : lw_okq (⟨"PepperboxTable", "finishDeal", "()V"⟩, 7) := ⟨⟨by decide +kernel, by decide +kernel⟩, List.mem_of_getElem? (i := 158) (by decide +kernel), List.mem_of_getElem? (i := 735) (by decide +kernel), List.mem_of_getElem? (i := 736) (by decide +kernel)⟩
theorem lw_p17 : lw_okq (⟨"PepperboxTable", "payForRevoke", "(I)V"⟩, 7) := ⟨⟨by decide +kernel, by decide +kernel⟩, List.mem_of_getElem? (i := 158) (by decide +kernel), List.mem_of_getElem? (i := 739) (by decide +kernel), List.mem_of_getElem? (i := 740) (by decide +kernel)⟩
def lw_privs_2 : List (MethodName × Nat) := [(⟨"PepperboxTable", "finishDeal", "()V"⟩, 7), (⟨"PepperboxTable", "payForRevoke", "(I)V"⟩, 7)]
theorem lw_r2 : ∀ q ∈ lw_privs_2, lw_okq q := List.forall_mem_cons.mpr ⟨lw_p16, List.forall_mem_cons.mpr ⟨lw_p17, fun _ h => absurd h List.not_mem_nil⟩⟩
def lw_privs : List (MethodName × Nat) := lw_privs_1 ++ (lw_privs_2)
def lw_tbl : List Cond := k2_sels lw_privs ++ tables_1
theorem lw_privs_ok : ∀ q ∈ lw_privs, lw_okq q := by
  show ∀ q ∈ lw_privs_1 ++ (lw_privs_2), lw_okq q
  exact List.forall_mem_append.mpr ⟨lw_r1, lw_r2⟩
/-- the streams that the claim lets the run draw from -/
abbrev lw_cs : List Choice := [Jvm.Choice.named "NaN.bits"]
theorem lw_bits : nanBits ∈ lw_cs := by first | decide | exact List.mem_cons_self | simp [lw_cs, nanBits]
/-! ===== BEGIN words of one list among another's, by their places ===== -/
theorem goodIn_r {big : List Cond} (ws : List Cond) (ps : List Nat) (hp : ws = ps.filterMap (fun i => big[i]?)) (h : ws.all goodWord = true) : GoodIn big ws := by
  intro w hw
  have h1 := List.all_eq_true.mp h w hw
  rw [hp] at hw
  obtain ⟨i, -, hi⟩ := List.mem_filterMap.mp hw
  have hm : w ∈ big := by first | exact List.mem_of_getElem? hi | exact List.getElem?_mem hi
  exact ⟨hm, good_of_word h1⟩
theorem goodIn_app {big a b : List Cond} (ha : GoodIn big a) (hb : GoodIn big b) : GoodIn big (a ++ b) := fun w h => (List.mem_append.mp h).elim (ha w) (hb w)
theorem goodIn_ca {big a b : List Cond} {c : Cond} (ha : GoodIn big (c :: a)) (hb : GoodIn big b) : GoodIn big (c :: (a ++ b)) := fun w h => (List.mem_cons.mp h).elim (fun e => ha w (List.mem_cons.mpr (Or.inl e))) (fun h => (List.mem_append.mp h).elim (fun h => ha w (List.mem_cons.mpr (Or.inr h))) (hb w))
theorem goodIn_sub {big ws : List Cond} (hm : ∀ w ∈ ws, w ∈ big) (h : ws.all goodWord = true) : GoodIn big ws := fun w hw => ⟨hm w hw, good_of_word (List.all_eq_true.mp h w hw)⟩
/-! ===== END ===== -/

/-! ===== BEGIN new T[n][m]: the outer array a place, the inner ones among the pooled ===== -/
/-- f, but v at every address of l -/
def vr_up {α : Type} (f : Nat → α) (l : List Nat) (v : α) : Nat → α := fun a => if a ∈ l then v else f a
theorem vr_up_in {α : Type} {f : Nat → α} {l : List Nat} {v : α} {a : Nat} (h : a ∈ l) : vr_up f l v a = v := if_pos h
theorem vr_up_ne {α : Type} {f : Nat → α} {l : List Nat} {v : α} {a : Nat} (h : a ∉ l) : vr_up f l v a = f a := if_neg h
theorem vr_rows {L l : List Nat} {f : Nat → va_E} {e : va_E} (h : ∀ a, a ∈ l → a ∉ L) : va_pl L f ++ l.map (fun a => (a, e)) = va_pl (L ++ l) (vr_up f l e) := by
  unfold va_pl
  rw [List.map_append]
  congr 1
  · apply List.map_congr_left
    intro a ha
    rw [vr_up_ne (fun q => h a q ha)]
  · apply List.map_congr_left
    intro a ha
    rw [vr_up_in ha]
theorem vr_lay {X rows : va_W} {x : Nat × va_E} {pl : va_W} {D : va_G} {cl : List vw_C} {H : Heap} (hP : va_P D cl (((X ++ pl) ++ [x]) ++ rows) H) : va_P D cl ((X ++ [x]) ++ (pl ++ rows)) H := by
  rw [List.append_assoc (X ++ pl)] at hP
  have h := va_P.swap hP
  rw [← List.append_assoc X] at h
  have h2 := va_P.swap h
  rw [List.append_assoc (X ++ [x])] at h2
  exact h2
theorem vr_layD {X rows : va_W} {x : Nat × va_E} {pl : va_W} {A : Nat → Prop} (hD : va_D A (((X ++ pl) ++ [x]) ++ rows)) : va_D A ((X ++ [x]) ++ (pl ++ rows)) := by
  rw [List.append_assoc (X ++ pl)] at hD
  have h := va_D.swap hD
  rw [← List.append_assoc X] at h
  have h2 := va_D.swap h
  rw [List.append_assoc (X ++ [x])] at h2
  exact h2
theorem vr_outer (c : ClassId) (N h0 : Nat) : ∀ i : Nat, Jvm.Free.Multi.outerC c N h0 i = arrV c N (fun j => va_rf (if j < i then some (h0 + 1 + j) else none))
  | 0 => by
    show ({ cls := c, slots := Array.replicate N .null, vm := .none } : Cell) = _
    rw [arrV_new]
    refine congrArg (arrV c N) (funext fun j => ?_)
    simp [va_rf]
  | i + 1 => by
    show (Jvm.Free.Multi.outerC c N h0 i).setSlot i (.ref (h0 + 1 + i)) = _
    rw [vr_outer c N h0 i, arrV_store]
    refine congrArg (arrV c N) (funext fun j => ?_)
    by_cases e : j = i
    · subst e
      simp [updV, va_rf]
    · by_cases h : j < i
      · simp [updV, e, h, Nat.lt_succ_of_lt h]
      · simp [updV, e, h, show ¬ j < i + 1 by omega]
/-- the words of an array of arrays: its class stands over that of its rows -/
def va_AOA (ty : FieldType) (U : State) : Prop := (Cond.arrayOver (.array ty)).before #[] U = true
theorem va_AOA.use {ty : FieldType} {A : Array Value} {U : State} (h : va_AOA ty U) : (Cond.arrayOver (.array ty)).before A U = true := h
section VGM
variable {p : Program} {l : Launch} {e : Env} {R : Room} {s : State} {m : MethodId} {args : Array Value} {below : List Frame} {meth : Method} {c : Code} {H : Heap} {locs : List Loc} {cells slots : Nat} {Q : State → Prop}
variable {cc : ByteArray} {pc : Nat} {ls : Array Slot} {rest : List Value} {D : va_G} {cl : List vw_C} {A : Nat → Prop} {a : Nat} {tys : List (ClassId × FieldType)} {ws : va_W} {H0 : Heap}
theorem va_mna {X : va_W} {L : List Nat} {f : Nat → va_E} {cc : ByteArray} (hexec : p.tables.exec = Jvm.exec) (hb : c.code = cc) {own : String} {index : Nat} {ty : FieldType} {cy : ClassId} (hown : s.vm.findClass own = some m.cls) (hclink : (Cond.classLink own index ("[" ++ (FieldType.array ty).toString)).before args s = true) (hover : va_AOA ty s) (harr : (Cond.arrayClass ty).before args s = true) (hcy : s.vm.findClass (FieldType.array ty).toString = some cy)
    (hK : va_K D cl tys s) (hP : va_P D cl (X ++ va_pl L f) H) (hD : va_D A (X ++ va_pl L f)) (hS : va_S A H0 H locs) (hA : ∀ q, H0.size ≤ q → A q) {n k : Int32} {N' K' : Nat} {z : vp_A} (hn : ¬ n < 0) (hk : ¬ k < 0) (hN : n.toNatClampNeg = N') (hM : k.toNatClampNeg = K')
    (hb1 : N' * 4 ≤ 536870912) (hb2 : K' * componentBytes ty ≤ 536870912) (hb3 : K' ≤ 536870912) (hdf : fits ty (defaultValue ty) = true) (hdd : (defaultValue ty).isDefault = true) (hcells : cells + (1 + N') ≤ R.cells) (hslots : slots + (N' + N' * K') ≤ R.slots) (hz : ∀ c : ClassId, Jvm.Free.Multi.innerC c K' (defaultValue ty) = vp_cell c z) (hdg : decode cc pc = .ok (.multianewarray index 2, 4))
    (kk : ∀ (q : Nat) (r : Nat → Nat) (cA : ClassId) (H1 : Heap), (∀ i j : Nat, i < N' → j < N' → r i = r j → i = j) → (∀ i : Nat, i < N' → r i ∉ L) → va_K D cl (tys ++ [(cA, .array ty)]) s →
      va_P D cl ((X ++ [(q, .inl (cA, N', .inr (.inr (.inr (.inr (fun i => if i < N' then some (r i) else none))))))]) ++ va_pl (L ++ (List.range N').map r) (vr_up f ((List.range N').map r) (.inl (cy, z)))) H1 → va_D A ((X ++ [(q, .inl (cA, N', .inr (.inr (.inr (.inr (fun i => if i < N' then some (r i) else none))))))]) ++ va_pl (L ++ (List.range N').map r) (vr_up f ((List.range N').map r) (.inl (cy, z)))) → va_S A H0 H1 locs →
      W p l e R s m args below meth c H1 locs (cells + 1 + N') (slots + N' + N' * K') Q (F0 m (pc + 4) ls (.ref q :: rest))) : W p l e R s m args below meth c H locs cells slots Q (F0 m pc ls (.int k :: .int n :: rest)) := by
  subst hN
  subst hM
  intro T hT Xs
  obtain ⟨vm₁, cA, comp, -, fA, fC, hO, -, X', step⟩ := Xs.multianewarray2F hexec hown hclink (va_AOA.use hover) harr (g := F0 m pc ls (.int k :: .int n :: rest)) rfl (by rw [hb]; exact hdg) rfl hn hk hb1 hb2 hb3 hdf hdd hcells hslots
  have ec : some cy = some comp := hcy.symm.trans fC
  cases ec
  generalize hF : Jvm.Free.Multi.fill (T.setVm vm₁) cA cy n.toNatClampNeg k.toNatClampNeg (defaultValue ty) n.toNatClampNeg = F at X' step
  have hTh : (T.setVm vm₁).heap = H := hT
  obtain ⟨f1, f2, -, -⟩ := Jvm.Free.Multi.fill_facts (T.setVm vm₁) cA cy n.toNatClampNeg k.toNatClampNeg (defaultValue ty) n.toNatClampNeg
  rw [hF, hTh] at f1 f2
  have hold : ∀ x : Nat, x < H.size → F.heap[x]? = H[x]? := fun x hx => by
    have := Jvm.Free.Multi.fill_old (T.setVm vm₁) cA cy n.toNatClampNeg k.toNatClampNeg (defaultValue ty) (a := x) (by rw [hTh]; exact hx) n.toNatClampNeg
    rw [hF, hTh] at this
    exact this
  have hrow : ∀ j : Nat, j < n.toNatClampNeg → F.heap[H.size + 1 + j]? = some (vp_cell cy z) := fun j hj => by
    have := Jvm.Free.Multi.fill_inner (T.setVm vm₁) cA cy n.toNatClampNeg k.toNatClampNeg (defaultValue ty) n.toNatClampNeg j hj
    rw [hF, hTh, hz] at this
    exact this
  have hout : Jvm.Free.Multi.outerC cA n.toNatClampNeg H.size n.toNatClampNeg = vp_cell cA (n.toNatClampNeg, .inr (.inr (.inr (.inr (fun i => if i < n.toNatClampNeg then some (H.size + 1 + i) else none))))) := by
    rw [vp_cell_q]
    exact vr_outer cA n.toNatClampNeg H.size n.toNatClampNeg
  rw [hout] at f2
  have hlt : ∀ a, a ∈ L → a < H.size := fun a ha => by
    obtain ⟨k9, hk9⟩ := va_pl_get (X := X) (f := f) ha
    exact (hP k9 _ hk9).lt
  have hnl : ∀ i : Nat, i < n.toNatClampNeg → H.size + 1 + i ∉ L := fun i _ h => by
    have := hlt _ h
    omega
  have hnm : ∀ a, a ∈ (List.range n.toNatClampNeg).map (fun i => H.size + 1 + i) → a ∉ L := fun a ha h => by
    obtain ⟨i, -, rfl⟩ := List.mem_map.mp ha
    have := hlt _ h
    omega
  have hP0 : va_P D cl (X ++ va_pl L f) F.heap := hP.kept (fun k9 x hx => hold x.1 ((hP k9 x hx).lt))
  have hP1 : va_P D cl ((X ++ va_pl L f) ++ [(H.size, .inl (cA, n.toNatClampNeg, .inr (.inr (.inr (.inr (fun i => if i < n.toNatClampNeg then some (H.size + 1 + i) else none))))))]) F.heap := hP0.app (fun k9 x hx => by
    have h0 : k9 < 1 := (List.getElem?_eq_some_iff.mp hx).1
    rw [show k9 = 0 by omega] at hx
    cases hx
    exact f2)
  have hP2 : va_P D cl (((X ++ va_pl L f) ++ [(H.size, .inl (cA, n.toNatClampNeg, .inr (.inr (.inr (.inr (fun i => if i < n.toNatClampNeg then some (H.size + 1 + i) else none))))))]) ++ ((List.range n.toNatClampNeg).map (fun i => H.size + 1 + i)).map (fun a => (a, .inl (cy, z)))) F.heap := hP1.app (fun k9 x hx => by
    obtain ⟨a, ha, rfl⟩ := List.mem_map.mp (List.mem_of_getElem? hx)
    obtain ⟨i, hi, rfl⟩ := List.mem_map.mp ha
    exact hrow i (List.mem_range.mp hi))
  have hD2 : va_D A (((X ++ va_pl L f) ++ [(H.size, .inl (cA, n.toNatClampNeg, .inr (.inr (.inr (.inr (fun i => if i < n.toNatClampNeg then some (H.size + 1 + i) else none))))))]) ++ ((List.range n.toNatClampNeg).map (fun i => H.size + 1 + i)).map (fun a => (a, .inl (cy, z)))) := by
    have hD1 := hD.push (e := .inl (cA, n.toNatClampNeg, .inr (.inr (.inr (.inr (fun i => if i < n.toNatClampNeg then some (H.size + 1 + i) else none)))))) hP rfl (hA _ hS.1)
    generalize hW1 : (X ++ va_pl L f) ++ [(H.size, .inl (cA, n.toNatClampNeg, .inr (.inr (.inr (.inr (fun i => if i < n.toNatClampNeg then some (H.size + 1 + i) else none))))))] = W1 at hD1 hP1 ⊢
    have hle : ∀ (k9 : Nat) (x : Nat × va_E), W1[k9]? = some x → x.1 ≤ H.size := fun k9 x hx => by
      rw [← hW1] at hx
      by_cases hl : k9 < (X ++ va_pl L f).length
      · rw [List.getElem?_append_left hl] at hx
        exact Nat.le_of_lt ((hP k9 x hx).lt)
      · rw [List.getElem?_append_right (by omega)] at hx
        have h0 : k9 - (X ++ va_pl L f).length < 1 := (List.getElem?_eq_some_iff.mp hx).1
        rw [show k9 - (X ++ va_pl L f).length = 0 by omega] at hx
        cases hx
        exact Nat.le_refl _
    have hr : ∀ (k9 : Nat) (x : Nat × va_E), (((List.range n.toNatClampNeg).map (fun i => H.size + 1 + i)).map (fun a => ((a, .inl (cy, z)) : Nat × va_E)))[k9]? = some x → x.1 = H.size + 1 + k9 := fun k9 x hx => by
      rw [List.getElem?_map, List.getElem?_map] at hx
      by_cases h9 : k9 < n.toNatClampNeg
      · rw [List.getElem?_range h9] at hx
        cases hx
        rfl
      · have hn0 : (List.range n.toNatClampNeg)[k9]? = none := List.getElem?_eq_none (by rw [List.length_range]; omega)
        rw [hn0] at hx
        cases hx
    refine ⟨fun i j x y hi hj hxy => ?_, fun k9 x hx => ?_⟩
    · by_cases h1 : i < W1.length <;> by_cases h2 : j < W1.length
      · rw [List.getElem?_append_left h1] at hi
        rw [List.getElem?_append_left h2] at hj
        exact hD1.1 i j x y hi hj hxy
      · rw [List.getElem?_append_left h1] at hi
        rw [List.getElem?_append_right (by omega)] at hj
        have := hle _ _ hi
        have := hr _ _ hj
        omega
      · rw [List.getElem?_append_right (by omega)] at hi
        rw [List.getElem?_append_left h2] at hj
        have := hle _ _ hj
        have := hr _ _ hi
        omega
      · rw [List.getElem?_append_right (by omega)] at hi hj
        have := hr _ _ hi
        have := hr _ _ hj
        omega
    · by_cases h1 : k9 < W1.length
      · rw [List.getElem?_append_left h1] at hx
        exact hD1.2 k9 x hx
      · rw [List.getElem?_append_right (by omega)] at hx
        have := hr _ _ hx
        exact hA _ (by have := hS.1; omega)
  have hAr : ArrOfT s cA (.array ty) := fun N9 z9 => by
    obtain ⟨-, k9, hk9, cm9, hkk9⟩ := (hO 0 0 0).1
    exact ⟨(fun q hq => by cases hq), k9, hk9, cm9, hkk9⟩
  have hK2 : va_K D cl (tys ++ [(cA, .array ty)]) s := ⟨hK.1, fun k9 x hx => by
    by_cases hl : k9 < tys.length
    · rw [List.getElem?_append_left hl] at hx
      exact hK.2 k9 x hx
    · rw [List.getElem?_append_right (by omega)] at hx
      have h0 : k9 - tys.length < 1 := (List.getElem?_eq_some_iff.mp hx).1
      rw [show k9 - tys.length = 0 by omega] at hx
      cases hx
      exact ⟨hAr, fA⟩⟩
  obtain ⟨t, a1, b1⟩ := kk H.size (fun i => H.size + 1 + i) cA F.heap (fun i j _ _ h => by have h9 : H.size + 1 + i = H.size + 1 + j := h; omega) hnl hK2 (by rw [← vr_rows hnm]; exact vr_lay hP2) (by rw [← vr_rows hnm]; exact vr_layD hD2) ⟨by rw [f1]; have := hS.1; omega, fun x h1 h2 => (hold x (Nat.lt_of_lt_of_le h1 hS.1)).trans (hS.2.1 x h1 h2), hS.2.2⟩ F rfl X'
  refine ⟨t, step t ?_, b1⟩
  have e : T.heap.size = H.size := by rw [hT]
  rw [e]
  exact a1
end VGM
/-! ===== END ===== -/

/-! ===== BEGIN exceptions that leave a method, and their catching by the caller (launches without stack traces) ===== -/
section VXA
/-! The laws vx_back, vx_callV, vx_callS, vx_callSW, vx_throw0, vx_throwS follow proofs of the library, with one case more: JvmDerived/Free/Laws.lean (Back.of_free), Shelf42/LK1.lean (callV, callS), Shelf/KitTraced.lean (throwNew0V, throwNewS). -/
/-- where a method has thrown q: the class by its name, the cell, what was written, the world -/
def vx_T (XC : String → State → State → Prop) (st : State) (q : Addr) (t : State) (mc ms : Nat) (free : Addr → Prop) : Prop :=
  ∃ (E : String) (ce : Cell) (L : List Loc), XC E st t ∧ t.heap[q]? = some ce ∧ ce.vm = .none ∧ st.vm.findClass E = some ce.cls ∧ st.WarmedH t.vm ∧ st.sameButNew ({ t with vm := st.vm } : State) L mc ms ∧ ∀ z ∈ L, free z.base
def vx_Q (Qc : Array Value → State → Outcome → State → Prop) (XC : String → State → State → Prop) (mc ms : Nat) (free : Addr → Prop) : Array Value → State → Outcome → State → Prop := fun a st o t =>
  (Qc a st o t ∧ ∃ L, FrameEnd st o t L mc ms ∧ ∀ q ∈ L, free q.base) ∨ ∃ q, o = .threw q ∧ vx_T XC st q t mc ms free
/-- a callee that returns or throws -/
def vx_Met (l : Launch) (y : MethodName) (ws : List Cond) (rm : Room) (Pc : Array Value → State → Prop) (Qc : Array Value → State → Outcome → State → Prop) (XC : String → State → State → Prop) (mc ms : Nat) (free : Addr → Prop) : Prop :=
  MetFree l y (headSpec ws rm) Pc (fun _ _ _ _ _ => True) (vx_Q Qc XC mc ms free)
def vx_Post (XC : String → State → State → Prop) (mc ms : Nat) (free : Addr → Prop) : Pt → Array Value → Addr → Pt → Prop := fun A a q B =>
  ∃ (g : JFrame) (mk : MethodId) (t : State) (L : List Loc) (E : String) (ce : Cell), B.U.heap = t.heap ∧ B.U.vm = t.vm ∧ XC E (A.U.calling g mk a) t ∧ t.heap[q]? = some ce ∧ ce.vm = .none ∧ A.U.vm.findClass E = some ce.cls ∧ B.locs = A.locs ++ L ∧ (∀ z ∈ L, free z.base) ∧ B.cells = A.cells + mc ∧ B.slots = A.slots + ms
def vx_Back (l : Launch) (R : Room) (p : Program) (e : Env) (below : List Frame) (s : State) (sargs : Array Value) (y : MethodName) (len W9 : Nat)
    (Pre : Pt → Array Value → Prop) (Post : Pt → Array Value → Option Value → Pt → Prop) (PostX : Pt → Array Value → Addr → Pt → Prop) : Prop :=
  ∀ (m : MethodId) (meth : Method) (c : Code) (A : Pt) (g : JFrame) (ig : Instr) (mk : MethodId) (a : Array Value),
    Stand p l e R s m sargs below meth c A.U A.locs A.cells A.slots → g.method = m → g.locals.size = c.maxLocals → decode c.code g.pc = .ok (ig, len) →
    2 * g.monitorRoom + (g.stack.map fun v => v.category).sum ≤ W9 → A.U.methodNamed? y = some mk → Pre A a →
    (∃ (v : Option Value) (B : Pt), Stand p l e R s m sargs below meth c B.U B.locs B.cells B.slots ∧ Post A a v B ∧
      Steps p.tables e below (doInvoke e (A.U.setTop g) [] mk a).1 (B.U.setTop { g with pc := g.pc + len, stack := v.toList ++ g.stack })) ∨
    (∃ (q : Addr) (B : Pt), Stand p l e R s m sargs below meth c B.U B.locs B.cells B.slots ∧ PostX A a q B ∧
      Steps p.tables e below (doInvoke e (A.U.setTop g) [] mk a).1 ((B.U.setTop g).pushFrame (.throwing q)))
section Payer
variable {l : Launch} {R : Room} {p : Program} {e : Env} {below : List Frame} {s : State} {sargs : Array Value} {y : MethodName} {len W9 : Nat}
theorem vx_back {ws : List Cond} {rm : Room} {Pc : Array Value → State → Prop} {Qc : Array Value → State → Outcome → State → Prop} {XC : String → State → State → Prop} {mc ms : Nat} {free : Addr → Prop} {bytes : ByteArray} {maxL : Nat} {ret : Option FieldType}
    (hM : vx_Met l y ws rm Pc Qc XC mc ms free) (hblind : FrameBlind Pc) (hrc : rm.cells = mc) (hrs : rm.slots = ms)
    (hframes : rm.frames + 1 ≤ R.frames) (hlocals : W9 + (maxL + 11) + rm.locals ≤ R.locals)
    (hws : ∀ w ∈ ws, ∀ a' U, s.WarmedH U.vm → w.before a' U = true) (hcode : Cond.code y bytes maxL ret ∈ ws) (hinit : ∀ a' U, s.WarmedH U.vm → (Cond.initialized y.cls).before a' U = true) :
    vx_Back l R p e below s sargs y len W9 (PreOf R mc ms Pc) (PostOf Qc mc ms free) (vx_Post XC mc ms free) := by
  intro m meth c A g ig mk a X hg hsize hdg hW hn hp
  have h1 : (headSpec ws rm).pre.before a A.U = true := atoms_intro fun w hw => hws w hw _ _ X.warmed
  have h2 : (Cond.code y bytes maxL ret).before a A.U = true := hws _ hcode _ _ X.warmed
  have h3 : (Cond.initialized y.cls).before a A.U = true := hinit _ _ X.warmed
  have h4 : A.cells + (headSpec ws rm).room.cells ≤ R.cells := by rw [show (headSpec ws rm).room.cells = mc from hrc]; exact hp.1
  have h5 : A.slots + (headSpec ws rm).room.slots ≤ R.slots := by rw [show (headSpec ws rm).room.slots = ms from hrs]; exact hp.2.1
  have hPc : Pc a (A.U.calling g mk a) := hblind _ _ _ _ hp.2.2
  obtain ⟨U, Ls, c0, s0⟩ := A
  dsimp only [Pt.U, Pt.locs, Pt.cells, Pt.slots] at h1 h2 h3 h4 h5 X hn hPc ⊢
  obtain ⟨methY, cY, hmY, hcY, -, hlY, -, -, -, -⟩ := Cond.code_spec hn h2
  obtain ⟨kY, hkY, -⟩ := className_of_methodNamed hn
  have hinitY : kY.init = .initialized := Cond.initialized_spec (findClass_of_methodNamed hn) hkY h3
  have h : At U g.method c below := by rw [hg]; exact X.here
  have hlocals9 : W9 + (maxL + 11) + (headSpec ws rm).room.locals ≤ R.locals := hlocals
  have happ : (headSpec ws rm).appliesLoose y e.platform (U.calling g mk a) = true :=
    Spec.appliesLoose_calling (g := g) h hdg hn hkY hinitY
      (X.room_calling (g := g) (R' := (headSpec ws rm).room) hsize hmY hcY hframes (by rw [hlY]; omega) h4 h5) h1
  obtain ⟨mid, hmid⟩ := h.above
  have hfr : (U.setTop g).frames = (.java g :: mid) ++ below := by rw [State.frames_setTop' g h.top, hmid]; rfl
  obtain ⟨o, s₂, hsteps, -, hend, hq⟩ := Steps.callFree hM p X.admits X.cas X.clock (acts := []) hfr happ hPc trivial
  have hq' : vx_Q Qc XC mc ms free a (U.calling g mk a) o s₂ := hq
  rw [State.frames_setTop' g h.top] at hend
  obtain ⟨g₀, hg0⟩ := Option.isSome_iff_exists.mp h.top
  obtain ⟨r, hr⟩ := State.topJava?_eq_some.mp hg0
  have hr' : (({ U with heap := s₂.heap, slotsUsed := s₂.slotsUsed } : State).setVm s₂.vm).frames = .java g₀ :: r := hr
  rcases hq' with ⟨hqc, L, hfe, hL⟩ | ⟨q, rfl, E, ce, L, hx, hce, hcv, hcl, hW₂, hsm, hL⟩
  · obtain ⟨⟨v, rfl⟩, hW₂, e2, q2, q3, q4, q5, q6⟩ := id hfe
    have e3 : s₂ = ({ (U.calling g mk a).setFrames s₂.frames with heap := s₂.heap, slotsUsed := s₂.slotsUsed } : State).setVm s₂.vm := by
      have : s₂ = ({ s₂ with vm := (U.calling g mk a).vm } : State).setVm s₂.vm := rfl
      rw [e2] at this
      exact this
    obtain ⟨c₂, i₂, len₂, hc₂, hd₂, hf₂⟩ := hend
    have hW' : U.WarmedH s₂.vm := hW₂
    have hcc : c₂ = c := by
      have h1 : s₂.code? g.method = U.code? g.method := by
        rw [State.code?_eq, State.code?_eq, hW'.alike.method?]
      exact Option.some.inj (hc₂.symm.trans (h1.trans h.code))
    subst hcc
    have hlen : len₂ = len := by rw [hdg] at hd₂; cases hd₂; rfl
    subst hlen
    have hs₂ : s₂ = (({ U with heap := s₂.heap, slotsUsed := s₂.slotsUsed } : State).setVm s₂.vm).setTop { g with pc := g.pc + len₂, stack := v.toList ++ g.stack } := by
      refine e3.trans ?_
      rw [hf₂, State.calling_eq h.top, State.setFrames_setFrames, State.setTop_of_frames _ hr', hr]
      rfl
    have hsame : U.sameButNew ({ U with heap := s₂.heap, slotsUsed := s₂.slotsUsed } : State) L mc ms := by
      refine ⟨?_, q2, q3, q4, q5, q6⟩
      obtain ⟨t, ht, -⟩ := State.frames_cons hr
      show ({ U with heap := s₂.heap, slotsUsed := s₂.slotsUsed } : State) = { U.setFrames U.frames with heap := s₂.heap, slotsUsed := s₂.slotsUsed }
      rw [State.setFrames_self ht]
    subst hg
    refine Or.inl ⟨v, ⟨(({ U with heap := s₂.heap, slotsUsed := s₂.slotsUsed } : State).setVm s₂.vm), Ls ++ L, c0 + mc, s0 + ms⟩,
      ⟨X.admits, X.cas, X.clock, X.frames, X.room, X.hears, X.method, X.code, (X.here.setHeapUsed s₂.heap s₂.slotsUsed).setVm hW'.alike, X.tail, State.WarmedH.trans X.warmed hW', X.limits, X.bytes, X.same.trans (hsame.setVm s.vm)⟩,
      ⟨g, mk, s₂, L, rfl, rfl, hqc, rfl, hL, rfl, rfl⟩, ?_⟩
    show Steps p.tables e below _ ((({ U with heap := s₂.heap, slotsUsed := s₂.slotsUsed } : State).setVm s₂.vm).setTop { g with pc := g.pc + len₂, stack := v.toList ++ g.stack })
    rw [← hs₂]
    exact hsteps
  · obtain ⟨e2, q2, q3, q4, q5, q6⟩ := id hsm
    have e3 : s₂ = ({ (U.calling g mk a).setFrames s₂.frames with heap := s₂.heap, slotsUsed := s₂.slotsUsed } : State).setVm s₂.vm := by
      have : s₂ = ({ s₂ with vm := (U.calling g mk a).vm } : State).setVm s₂.vm := rfl
      rw [e2] at this
      exact this
    have hf₂ : s₂.frames = .throwing q :: .java g :: U.frames.tail := hend
    have hW' : U.WarmedH s₂.vm := hW₂
    have hs₂ : s₂ = ((({ U with heap := s₂.heap, slotsUsed := s₂.slotsUsed } : State).setVm s₂.vm).setTop g).pushFrame (.throwing q) := by
      refine e3.trans ?_
      rw [hf₂, State.calling_eq h.top, State.setFrames_setFrames, State.pushFrame, State.frames_setTop _ hr', State.setTop_of_frames _ hr', State.setFrames_setFrames, hr]
      rfl
    have hsame : U.sameButNew ({ U with heap := s₂.heap, slotsUsed := s₂.slotsUsed } : State) L mc ms := by
      refine ⟨?_, q2, q3, q4, q5, q6⟩
      obtain ⟨t, ht, -⟩ := State.frames_cons hr
      show ({ U with heap := s₂.heap, slotsUsed := s₂.slotsUsed } : State) = { U.setFrames U.frames with heap := s₂.heap, slotsUsed := s₂.slotsUsed }
      rw [State.setFrames_self ht]
    subst hg
    refine Or.inr ⟨q, ⟨(({ U with heap := s₂.heap, slotsUsed := s₂.slotsUsed } : State).setVm s₂.vm), Ls ++ L, c0 + mc, s0 + ms⟩,
      ⟨X.admits, X.cas, X.clock, X.frames, X.room, X.hears, X.method, X.code, (X.here.setHeapUsed s₂.heap s₂.slotsUsed).setVm hW'.alike, X.tail, State.WarmedH.trans X.warmed hW', X.limits, X.bytes, X.same.trans (hsame.setVm s.vm)⟩,
      ⟨g, mk, s₂, L, E, ce, rfl, rfl, hx, hce, hcv, hcl, rfl, hL, rfl, rfl⟩, ?_⟩
    show Steps p.tables e below _ (((({ U with heap := s₂.heap, slotsUsed := s₂.slotsUsed } : State).setVm s₂.vm).setTop g).pushFrame (.throwing q))
    rw [← hs₂]
    exact hsteps
end Payer
section Calls
variable {p : Program} {l : Launch} {e : Env} {R : Room} {s : State} {m : MethodId} {args : Array Value} {below : List Frame} {meth : Method} {c : Code} {T : State} {locs : List Loc} {cells slots : Nat}
theorem vx_callV (X : Stand p l e R s m args below meth c T locs cells slots) (hexec : p.tables.exec = Jvm.exec) {own C : String} {index : Nat} {y : MethodName} {bytes : ByteArray} {maxL : Nat} {ret : Option FieldType}
    (hown : s.vm.findClass own = some m.cls) (hlink : (Cond.methodLink own index y).before args s = true) (hinst : (Cond.instanceMethod y).before args s = true) (hsel : (Cond.selects C y y).before args s = true)
    (hcode : (Cond.code y bytes maxL ret).before args s = true) (hy : y.cls ≠ "java/lang/invoke/MethodHandle" ∧ y.cls ≠ "java/lang/invoke/VarHandle")
    {W9 : Nat} {Pre : Pt → Array Value → Prop} {Post : Pt → Array Value → Option Value → Pt → Prop} {PostX : Pt → Array Value → Addr → Pt → Prop} (hK : vx_Back l R p e below s args y 3 W9 Pre Post PostX)
    {b : Addr} {cellB : Cell} (hcell : T.heap[b]? = some cellB) (hobj : cellB.vm.isStatics = false) (hcls : s.vm.findClass C = some cellB.cls)
    {g : JFrame} (hg : g.method = m) (hsize : g.locals.size = c.maxLocals) {argsL rest : List Value} (hlen : ∀ sig, parseMethodDescriptor y.desc = some sig → argsL.length = sig.parameters.length)
    (hstack : g.stack = argsL.reverse ++ .ref b :: rest) (hW : 2 * g.monitorRoom + (rest.map fun v => v.category).sum ≤ W9) (hdg : decode c.code g.pc = .ok (.invokevirtual index, 3))
    (hpre : ∀ vm₁, s.WarmedH vm₁ → Pre ⟨T.setVm vm₁, locs, cells, slots⟩ (Value.ref b :: argsL).toArray) :
    (∃ (v : Option Value) (vm₁ : Vm) (B : Pt), s.WarmedH vm₁ ∧ Stand p l e R s m args below meth c B.U B.locs B.cells B.slots ∧ Post ⟨T.setVm vm₁, locs, cells, slots⟩ (Value.ref b :: argsL).toArray v B ∧
      ∀ target, Steps p.tables e below (B.U.setTop { g with pc := g.pc + 3, stack := v.toList ++ rest }) target → Steps p.tables e below (T.setTop g) target) ∨
    (∃ (q : Addr) (vm₁ : Vm) (B : Pt), s.WarmedH vm₁ ∧ Stand p l e R s m args below meth c B.U B.locs B.cells B.slots ∧ PostX ⟨T.setVm vm₁, locs, cells, slots⟩ (Value.ref b :: argsL).toArray q B ∧
      Steps p.tables e below (T.setTop g) ((B.U.setTop { g with stack := rest }).pushFrame (.throwing q))) := by
  obtain ⟨mk, methM, hnamed, hmethM, hstM, habM⟩ := Cond.instanceMethod_spec hinst
  obtain ⟨methM', cM, hmethM', -, -, -, -, -, -, hsigM⟩ := Cond.code_spec hnamed hcode
  cases hmethM.symm.trans hmethM'
  obtain ⟨c2, r2, m2, q1, q2, q3, q4, kP, hkP, hkPi⟩ := Cond.selects_spec hsel
  cases hcls.symm.trans q1
  cases (State.methodFound?_of_named hnamed hy).symm.trans q2
  cases hnamed.symm.trans q3
  have hselP : selectMethod e.platform s.vm cellB.cls mk = .method mk := by rw [Launch.admits_selectMethod X.admits]; exact q4
  obtain ⟨vm₁, X₁, hstep₁⟩ := X.invokevirtual hexec hown hlink hnamed hmethM hstM hkP hkPi hy (a := b) (cell := cellB) hcell
    (fun z h => by rw [h] at hobj; cases hobj) hselP hmethM habM hkP hkPi (g := g) hg (argsL := argsL) (rest := rest) (hlen _ hsigM) hstack hdg
  rcases hK m meth c ⟨T.setVm vm₁, locs, cells, slots⟩ { g with stack := rest } (.invokevirtual index) mk (Value.ref b :: argsL).toArray X₁ hg hsize hdg hW (X₁.named hnamed) (hpre vm₁ X₁.warmed) with ⟨v, B, X', hpost, hsteps⟩ | ⟨q, B, X', hpost, hsteps⟩
  · exact Or.inl ⟨v, vm₁, B, X₁.warmed, X', hpost, fun target h => hstep₁ _ fun acts => by rw [doInvoke_state]; exact hsteps.trans h⟩
  · exact Or.inr ⟨q, vm₁, B, X₁.warmed, X', hpost, hstep₁ _ fun acts => by rw [doInvoke_state]; exact hsteps⟩
theorem vx_callS (X : Stand p l e R s m args below meth c T locs cells slots) (hexec : p.tables.exec = Jvm.exec) {own : String} {index : Nat} {y : MethodName} {bytes : ByteArray} {maxL : Nat} {ret : Option FieldType}
    (hown : s.vm.findClass own = some m.cls) (hlink : (Cond.methodLink own index y).before args s = true) (hstat : (Cond.static y).before args s = true) (hinit : (Cond.initialized y.cls).before args s = true)
    (hcode : (Cond.code y bytes maxL ret).before args s = true) (hy : y.cls ≠ "java/lang/invoke/MethodHandle" ∧ y.cls ≠ "java/lang/invoke/VarHandle")
    {W9 : Nat} {Pre : Pt → Array Value → Prop} {Post : Pt → Array Value → Option Value → Pt → Prop} {PostX : Pt → Array Value → Addr → Pt → Prop} (hK : vx_Back l R p e below s args y 3 W9 Pre Post PostX)
    {g : JFrame} (hg : g.method = m) (hsize : g.locals.size = c.maxLocals) {argsL rest : List Value} (hlen : ∀ sig, parseMethodDescriptor y.desc = some sig → argsL.length = sig.parameters.length)
    (hstack : g.stack = argsL.reverse ++ rest) (hW : 2 * g.monitorRoom + (rest.map fun v => v.category).sum ≤ W9) (hdg : decode c.code g.pc = .ok (.invokestatic index, 3))
    (hpre : ∀ vm₁, s.WarmedH vm₁ → Pre ⟨T.setVm vm₁, locs, cells, slots⟩ argsL.toArray) :
    (∃ (v : Option Value) (vm₁ : Vm) (B : Pt), s.WarmedH vm₁ ∧ Stand p l e R s m args below meth c B.U B.locs B.cells B.slots ∧ Post ⟨T.setVm vm₁, locs, cells, slots⟩ argsL.toArray v B ∧
      ∀ target, Steps p.tables e below (B.U.setTop { g with pc := g.pc + 3, stack := v.toList ++ rest }) target → Steps p.tables e below (T.setTop g) target) ∨
    (∃ (q : Addr) (vm₁ : Vm) (B : Pt), s.WarmedH vm₁ ∧ Stand p l e R s m args below meth c B.U B.locs B.cells B.slots ∧ PostX ⟨T.setVm vm₁, locs, cells, slots⟩ argsL.toArray q B ∧
      Steps p.tables e below (T.setTop g) ((B.U.setTop { g with stack := rest }).pushFrame (.throwing q))) := by
  obtain ⟨mk, hnamed⟩ := Cond.code_named hcode
  obtain ⟨methM, cM, hmethM, -, -, -, -, -, -, hsigM⟩ := Cond.code_spec hnamed hcode
  have hstatic : methM.isStatic = true := Cond.static_spec hnamed hmethM hstat
  obtain ⟨kP, hkP, -⟩ := className_of_methodNamed hnamed
  have hinitP : kP.init = .initialized := Cond.initialized_spec (findClass_of_methodNamed hnamed) hkP hinit
  obtain ⟨vm₁, X₁, hstep₁⟩ := X.invokestatic hexec hown hlink hnamed hmethM hstatic hkP hinitP hy (g := g) hg (argsL := argsL) (rest := rest) (hlen _ hsigM) hstack hdg
  rcases hK m meth c ⟨T.setVm vm₁, locs, cells, slots⟩ { g with stack := rest } (.invokestatic index) mk argsL.toArray X₁ hg hsize hdg hW (X₁.named hnamed) (hpre vm₁ X₁.warmed) with ⟨v, B, X', hpost, hsteps⟩ | ⟨q, B, X', hpost, hsteps⟩
  · exact Or.inl ⟨v, vm₁, B, X₁.warmed, X', hpost, fun target h => hstep₁ _ fun acts => by rw [doInvoke_state]; exact hsteps.trans h⟩
  · exact Or.inr ⟨q, vm₁, B, X₁.warmed, X', hpost, hstep₁ _ fun acts => by rw [doInvoke_state]; exact hsteps⟩
end Calls
theorem vx_cls {s : State} {T : State} {vm₁ : Vm} {E : String} {k : ClassId} (hW : s.WarmedH vm₁) (h : (T.setVm vm₁).vm.findClass E = some k) : s.vm.findClass E = some k := by
  have h1 : vm₁.findClass E = some k := h
  rw [hW.alike.findClass] at h1
  exact h1
/-- the method's frame g, with q thrown over it -/
def vx_W (p : Program) (l : Launch) (e : Env) (R : Room) (s : State) (m : MethodId) (args : Array Value) (below : List Frame) (meth : Method) (c : Code) (H : Heap) (locs : List Loc) (cells slots : Nat) (Q : State → Prop) (g : JFrame) (q : Addr) : Prop :=
  ∀ T : State, T.heap = H → Stand p l e R s m args below meth c T locs cells slots → ∃ t, Steps p.tables e below ((T.setTop g).pushFrame (.throwing q)) t ∧ Q t
def vx_Run (p : Program) (l : Launch) (e : Env) (R : Room) (s : State) (m : MethodId) (args : Array Value) (below : List Frame) (meth : Method) (c : Code) (H : Heap) (locs : List Loc) (cells slots mc ms : Nat) (g : JFrame) (rest : List Value) (Qa : State → Outcome → State → Prop) (XC : String → State → State → Prop) (free : Addr → Prop) : Prop :=
  ∀ T : State, T.heap = H → Stand p l e R s m args below meth c T locs cells slots →
    (∃ (v : Option Value) (st₀ t T' : State) (L : List Loc), st₀.heap = H ∧ Stand p l e R s m args below meth c T' (locs ++ L) (cells + mc) (slots + ms) ∧ (∀ q ∈ L, free q.base) ∧ T'.heap = t.heap ∧ T'.vm = t.vm ∧ Qa st₀ (.returned v) t ∧
      Goes p e below T g T' { g with pc := g.pc + 3, stack := v.toList ++ rest }) ∨
    (∃ (q : Addr) (st₀ t T' : State) (L : List Loc) (E : String) (ce : Cell), st₀.heap = H ∧ Stand p l e R s m args below meth c T' (locs ++ L) (cells + mc) (slots + ms) ∧ (∀ z ∈ L, free z.base) ∧ T'.heap = t.heap ∧ T'.vm = t.vm ∧ XC E st₀ t ∧ t.heap[q]? = some ce ∧ ce.vm = .none ∧ s.vm.findClass E = some ce.cls ∧
      Steps p.tables e below (T.setTop g) ((T'.setTop { g with stack := rest }).pushFrame (.throwing q)))
def vx_X {S : Type} (px : S → Prop) (B : String → S → State → Prop) (A : Nat → Prop) : String → State → State → Prop := fun E st t => ∃ u : S, px u ∧ B E u t ∧ va_F A st t
section Runs
variable {p : Program} {l : Launch} {e : Env} {R : Room} {s : State} {m : MethodId} {args : Array Value} {below : List Frame} {meth : Method} {c : Code} {H : Heap} {locs : List Loc} {cells slots : Nat}
variable {y : MethodName} {bytes cc : ByteArray} {maxL nL mc ms n index : Nat} {ret : Option FieldType} {ws : List Cond} {rm : Room} {Pc : Array Value → State → Prop} {Qc : Array Value → State → Outcome → State → Prop} {XC : String → State → State → Prop} {free : Addr → Prop} {Ts : List Cond} {own C : String} {b : Addr} {As rest : List Value} {g : JFrame}
theorem vx_callBack (cb : CallB R s args own index y bytes maxL ret ws rm mc ms n) (hM : vx_Met l y ws rm Pc Qc XC mc ms free) (hbl : FrameBlind Pc) : vx_Back l R p e below s args y 3 8 (PreOf R mc ms Pc) (PostOf Qc mc ms free) (vx_Post XC mc ms free) := by
  obtain ⟨hrc, hrs, hfr, hlo, hws, hcw, -, hini, -⟩ := cb
  exact vx_back (bytes := bytes) (maxL := maxL) (ret := ret) hM hbl hrc hrs hfr hlo hws hcw (fun a' U hW => word_at hW (Or.inl (by first | rfl | simp [Cond.onTables, Cond.keeps, Cond.steady])) hini)
theorem vx_runV (S : CallFix p m c cc nL s args Ts own) (hM : vx_Met l y ws rm Pc Qc XC mc ms free) (cw : CallW R s args own C index y bytes maxL ret ws rm mc ms n) (hp : PreV s H C b Pc As)
    (hg : g.method = m) (hn : As.length = n) (hsize : g.locals.size = nL) (hstack : g.stack = As.reverse ++ .ref b :: rest) (hW : 2 * g.monitorRoom + (rest.map fun v => v.category).sum ≤ 8) (hdg : decode cc g.pc = .ok (.invokevirtual index, 3)) (hf : cells + mc ≤ R.cells ∧ slots + ms ≤ R.slots) :
    vx_Run p l e R s m args below meth c H locs cells slots mc ms g rest (Qc (Value.ref b :: As).toArray) XC free := by
  have hK : vx_Back l R p e below s args y 3 8 (PreOf R mc ms Pc) (PostOf Qc mc ms free) (vx_Post XC mc ms free) := vx_callBack cw.1 hM hp.1
  obtain ⟨⟨-, -, -, -, -, -, hcode, -, hy, hlen, hl⟩, hin, hse⟩ := cw
  obtain ⟨hx, hb, hml, ho, -⟩ := S
  obtain ⟨-, ⟨cellB, hcB, hoB, hclB⟩, hPc⟩ := hp
  intro T hT X
  rcases vx_callV X hx (C := C) (bytes := bytes) (maxL := maxL) (ret := ret) ho hl hin hse hcode hy hK (by rw [hT]; exact hcB) hoB hclB hg (hsize.trans hml.symm) (argsL := As) (rest := rest) (fun sig h => hn.trans (hlen sig h)) hstack hW (by rw [hb]; exact hdg)
    (fun vm₁ hW₁ => ⟨hf.1, hf.2, hPc (T.setVm vm₁) hT hW₁⟩) with ⟨v, vm₁, ⟨U', l2, c2, s2⟩, hW₁, X', ⟨g', mk, t, L, e1, e2, hq, h1, hL, h2, h3⟩, st⟩ | ⟨q, vm₁, ⟨U', l2, c2, s2⟩, hW₁, X', ⟨g', mk, t, L, E, ce, e1, e2, hq, hce, hcv, hcl, h1, hL, h2, h3⟩, st⟩
  · dsimp only [Pt.U, Pt.locs, Pt.cells, Pt.slots] at X' e1 e2 h1 h2 h3 st
    subst h1; subst h2; subst h3
    exact Or.inl ⟨v, (T.setVm vm₁).calling g' mk (Value.ref b :: As).toArray, t, U', L, hT, X', hL, e1, e2, hq, st⟩
  · dsimp only [Pt.U, Pt.locs, Pt.cells, Pt.slots] at X' e1 e2 h1 h2 h3 st hcl
    subst h1; subst h2; subst h3
    exact Or.inr ⟨q, (T.setVm vm₁).calling g' mk (Value.ref b :: As).toArray, t, U', L, E, ce, hT, X', hL, e1, e2, hq, hce, hcv, vx_cls hW₁ hcl, st⟩
theorem vx_runS (S : CallFix p m c cc nL s args Ts own) (hM : vx_Met l y ws rm Pc Qc XC mc ms free) (cw : CallB R s args own index y bytes maxL ret ws rm mc ms n ∧ (Cond.static y).before args s = true) (hp : PreS s H Pc As)
    (hg : g.method = m) (hn : As.length = n) (hsize : g.locals.size = nL) (hstack : g.stack = As.reverse ++ rest) (hW : 2 * g.monitorRoom + (rest.map fun v => v.category).sum ≤ 8) (hdg : decode cc g.pc = .ok (.invokestatic index, 3)) (hf : cells + mc ≤ R.cells ∧ slots + ms ≤ R.slots) :
    vx_Run p l e R s m args below meth c H locs cells slots mc ms g rest (Qc As.toArray) XC free := by
  have hK : vx_Back l R p e below s args y 3 8 (PreOf R mc ms Pc) (PostOf Qc mc ms free) (vx_Post XC mc ms free) := vx_callBack cw.1 hM hp.1
  obtain ⟨⟨-, -, -, -, -, -, hcode, hini, hy, hlen, hl⟩, hstt⟩ := cw
  obtain ⟨hx, hb, hml, ho, -⟩ := S
  intro T hT X
  rcases vx_callS X hx (bytes := bytes) (maxL := maxL) (ret := ret) ho hl hstt hini hcode hy hK hg (hsize.trans hml.symm) (argsL := As) (rest := rest) (fun sig h => hn.trans (hlen sig h)) hstack hW (by rw [hb]; exact hdg)
    (fun vm₁ hW₁ => ⟨hf.1, hf.2, hp.2 (T.setVm vm₁) hT hW₁⟩) with ⟨v, vm₁, ⟨U', l2, c2, s2⟩, hW₁, X', ⟨g', mk, t, L, e1, e2, hq, h1, hL, h2, h3⟩, st⟩ | ⟨q, vm₁, ⟨U', l2, c2, s2⟩, hW₁, X', ⟨g', mk, t, L, E, ce, e1, e2, hq, hce, hcv, hcl, h1, hL, h2, h3⟩, st⟩
  · dsimp only [Pt.U, Pt.locs, Pt.cells, Pt.slots] at X' e1 e2 h1 h2 h3 st
    subst h1; subst h2; subst h3
    exact Or.inl ⟨v, (T.setVm vm₁).calling g' mk As.toArray, t, U', L, hT, X', hL, e1, e2, hq, st⟩
  · dsimp only [Pt.U, Pt.locs, Pt.cells, Pt.slots] at X' e1 e2 h1 h2 h3 st hcl
    subst h1; subst h2; subst h3
    exact Or.inr ⟨q, (T.setVm vm₁).calling g' mk As.toArray, t, U', L, E, ce, hT, X', hL, e1, e2, hq, hce, hcv, vx_cls hW₁ hcl, st⟩
end Runs
section Rows
variable {p : Program} {l : Launch} {e : Env} {R : Room} {s : State} {m : MethodId} {args : Array Value} {below : List Frame} {meth : Method} {c : Code} {H : Heap} {locs : List Loc} {cells slots : Nat} {Q : State → Prop}
variable {mc ms : Nat} {free : Addr → Prop} {A0 A1 : Nat → Prop} {H0 : Heap} {a : Array Value} {pc : Nat} {ls : Array Slot} {st0 rest : List Value}
theorem vx_keep {st₀ t T' : State} {L : List Loc} (h0 : st₀.heap = H) (e1 : T'.heap = t.heap) (hS : va_S A0 H0 H locs) (hA : ∀ q, q < H.size → A1 q → A0 q) (hf : ∀ q, free q → A0 q) (hL : ∀ q ∈ L, free q.base) (hF : va_F A1 st₀ t) :
    H.size ≤ T'.heap.size ∧ (∀ q : Nat, q < H.size → ¬ A1 q → T'.heap[q]? = H[q]?) ∧ va_S A0 H0 T'.heap (locs ++ L) := by
  obtain ⟨hz, hk⟩ := hF
  rw [h0] at hz hk
  exact ⟨by rw [e1]; exact hz, fun q h1 h2 => by rw [e1]; exact hk q h1 h2,
    ⟨Nat.le_trans hS.1 (by rw [e1]; exact hz), fun q h1 h2 => by rw [e1, hk q (Nat.lt_of_lt_of_le h1 hS.1) (fun z => h2 (hA q (Nat.lt_of_lt_of_le h1 hS.1) z))]; exact hS.2.1 q h1 h2, fun q hq => by
      rcases List.mem_append.mp hq with h | h
      · exact hS.2.2 q h
      · exact hf _ (hL q h)⟩⟩
theorem vx_calli {S SX : Type} {post : Int32 → S → Prop} {px : SX → Prop} {B : S → State → Prop} {BX : String → SX → State → Prop} {AX : Nat → Prop} (hr : vx_Run p l e R s m args below meth c H locs cells slots mc ms (F0 m pc ls st0) rest (va_Qi post B A1 a) (vx_X px BX AX) free) (hS : va_S A0 H0 H locs) (hA : ∀ q, q < H.size → A1 q → A0 q) (hf : ∀ q, free q → A0 q) (hAX : ∀ q, q < H.size → AX q → A0 q)
    (kx : ∀ (E : String) (ce : Cell) (q9 : Addr) (u : SX) (t : State) (H1 : Heap) (locs1 : List Loc), t.heap = H1 → s.vm.Alike t.vm → px u → BX E u t → H.size ≤ H1.size → (∀ q : Nat, q < H.size → ¬ AX q → H1[q]? = H[q]?) → va_S A0 H0 H1 locs1 → H1[q9]? = some ce → ce.vm = .none → s.vm.findClass E = some ce.cls → vx_W p l e R s m args below meth c H1 locs1 (cells + mc) (slots + ms) Q (F0 m pc ls rest) q9)
    (kk : ∀ (r : Int32) (u : S) (t : State) (H1 : Heap) (locs1 : List Loc), t.heap = H1 → s.vm.Alike t.vm → post r u → B u t → H.size ≤ H1.size → (∀ q : Nat, q < H.size → ¬ A1 q → H1[q]? = H[q]?) → va_S A0 H0 H1 locs1 → W p l e R s m args below meth c H1 locs1 (cells + mc) (slots + ms) Q (F0 m (pc + 3) ls (.int r :: rest))) : W p l e R s m args below meth c H locs cells slots Q (F0 m pc ls st0) := by
  intro T hT X
  rcases hr T hT X with ⟨v, st₀, t, T', L, h0, X', hL, e1, e2, ⟨⟨r, u, hv, hp, hb⟩, hF⟩, st⟩ | ⟨q, st₀, t, T', L, E, ce, h0, X', hL, e1, e2, ⟨u, hp, hb, hF⟩, hce, hcv, hcl, st⟩
  · cases hv
    obtain ⟨k1, k2, k3⟩ := vx_keep h0 e1 hS hA hf hL hF
    obtain ⟨t2, a1, b1⟩ := kk r u t T'.heap (locs ++ L) e1.symm (by rw [← e2]; exact X'.warmed.alike) hp hb k1 k2 k3 T' rfl X'
    exact ⟨t2, st t2 a1, b1⟩
  · obtain ⟨k1, k2, k3⟩ := vx_keep h0 e1 hS hAX hf hL hF
    obtain ⟨t2, a1, b1⟩ := kx E ce q u t T'.heap (locs ++ L) e1.symm (by rw [← e2]; exact X'.warmed.alike) hp hb k1 k2 k3 (by rw [e1]; exact hce) hcv hcl T' rfl X'
    exact ⟨t2, st.trans a1, b1⟩
theorem vx_calll {S SX : Type} {post : Int64 → S → Prop} {px : SX → Prop} {B : S → State → Prop} {BX : String → SX → State → Prop} {AX : Nat → Prop} (hr : vx_Run p l e R s m args below meth c H locs cells slots mc ms (F0 m pc ls st0) rest (va_Ql post B A1 a) (vx_X px BX AX) free) (hS : va_S A0 H0 H locs) (hA : ∀ q, q < H.size → A1 q → A0 q) (hf : ∀ q, free q → A0 q) (hAX : ∀ q, q < H.size → AX q → A0 q)
    (kx : ∀ (E : String) (ce : Cell) (q9 : Addr) (u : SX) (t : State) (H1 : Heap) (locs1 : List Loc), t.heap = H1 → s.vm.Alike t.vm → px u → BX E u t → H.size ≤ H1.size → (∀ q : Nat, q < H.size → ¬ AX q → H1[q]? = H[q]?) → va_S A0 H0 H1 locs1 → H1[q9]? = some ce → ce.vm = .none → s.vm.findClass E = some ce.cls → vx_W p l e R s m args below meth c H1 locs1 (cells + mc) (slots + ms) Q (F0 m pc ls rest) q9)
    (kk : ∀ (r : Int64) (u : S) (t : State) (H1 : Heap) (locs1 : List Loc), t.heap = H1 → s.vm.Alike t.vm → post r u → B u t → H.size ≤ H1.size → (∀ q : Nat, q < H.size → ¬ A1 q → H1[q]? = H[q]?) → va_S A0 H0 H1 locs1 → W p l e R s m args below meth c H1 locs1 (cells + mc) (slots + ms) Q (F0 m (pc + 3) ls (.long r :: rest))) : W p l e R s m args below meth c H locs cells slots Q (F0 m pc ls st0) := by
  intro T hT X
  rcases hr T hT X with ⟨v, st₀, t, T', L, h0, X', hL, e1, e2, ⟨⟨r, u, hv, hp, hb⟩, hF⟩, st⟩ | ⟨q, st₀, t, T', L, E, ce, h0, X', hL, e1, e2, ⟨u, hp, hb, hF⟩, hce, hcv, hcl, st⟩
  · cases hv
    obtain ⟨k1, k2, k3⟩ := vx_keep h0 e1 hS hA hf hL hF
    obtain ⟨t2, a1, b1⟩ := kk r u t T'.heap (locs ++ L) e1.symm (by rw [← e2]; exact X'.warmed.alike) hp hb k1 k2 k3 T' rfl X'
    exact ⟨t2, st t2 a1, b1⟩
  · obtain ⟨k1, k2, k3⟩ := vx_keep h0 e1 hS hAX hf hL hF
    obtain ⟨t2, a1, b1⟩ := kx E ce q u t T'.heap (locs ++ L) e1.symm (by rw [← e2]; exact X'.warmed.alike) hp hb k1 k2 k3 (by rw [e1]; exact hce) hcv hcl T' rfl X'
    exact ⟨t2, st.trans a1, b1⟩
theorem vx_callf {S SX : Type} {post : UInt32 → S → Prop} {px : SX → Prop} {B : S → State → Prop} {BX : String → SX → State → Prop} {AX : Nat → Prop} (hr : vx_Run p l e R s m args below meth c H locs cells slots mc ms (F0 m pc ls st0) rest (va_Qf post B A1 a) (vx_X px BX AX) free) (hS : va_S A0 H0 H locs) (hA : ∀ q, q < H.size → A1 q → A0 q) (hf : ∀ q, free q → A0 q) (hAX : ∀ q, q < H.size → AX q → A0 q)
    (kx : ∀ (E : String) (ce : Cell) (q9 : Addr) (u : SX) (t : State) (H1 : Heap) (locs1 : List Loc), t.heap = H1 → s.vm.Alike t.vm → px u → BX E u t → H.size ≤ H1.size → (∀ q : Nat, q < H.size → ¬ AX q → H1[q]? = H[q]?) → va_S A0 H0 H1 locs1 → H1[q9]? = some ce → ce.vm = .none → s.vm.findClass E = some ce.cls → vx_W p l e R s m args below meth c H1 locs1 (cells + mc) (slots + ms) Q (F0 m pc ls rest) q9)
    (kk : ∀ (r : UInt32) (u : S) (t : State) (H1 : Heap) (locs1 : List Loc), t.heap = H1 → s.vm.Alike t.vm → post r u → B u t → H.size ≤ H1.size → (∀ q : Nat, q < H.size → ¬ A1 q → H1[q]? = H[q]?) → va_S A0 H0 H1 locs1 → W p l e R s m args below meth c H1 locs1 (cells + mc) (slots + ms) Q (F0 m (pc + 3) ls (.float r :: rest))) : W p l e R s m args below meth c H locs cells slots Q (F0 m pc ls st0) := by
  intro T hT X
  rcases hr T hT X with ⟨v, st₀, t, T', L, h0, X', hL, e1, e2, ⟨⟨r, u, hv, hp, hb⟩, hF⟩, st⟩ | ⟨q, st₀, t, T', L, E, ce, h0, X', hL, e1, e2, ⟨u, hp, hb, hF⟩, hce, hcv, hcl, st⟩
  · cases hv
    obtain ⟨k1, k2, k3⟩ := vx_keep h0 e1 hS hA hf hL hF
    obtain ⟨t2, a1, b1⟩ := kk r u t T'.heap (locs ++ L) e1.symm (by rw [← e2]; exact X'.warmed.alike) hp hb k1 k2 k3 T' rfl X'
    exact ⟨t2, st t2 a1, b1⟩
  · obtain ⟨k1, k2, k3⟩ := vx_keep h0 e1 hS hAX hf hL hF
    obtain ⟨t2, a1, b1⟩ := kx E ce q u t T'.heap (locs ++ L) e1.symm (by rw [← e2]; exact X'.warmed.alike) hp hb k1 k2 k3 (by rw [e1]; exact hce) hcv hcl T' rfl X'
    exact ⟨t2, st.trans a1, b1⟩
theorem vx_calld {S SX : Type} {post : UInt64 → S → Prop} {px : SX → Prop} {B : S → State → Prop} {BX : String → SX → State → Prop} {AX : Nat → Prop} (hr : vx_Run p l e R s m args below meth c H locs cells slots mc ms (F0 m pc ls st0) rest (va_Qd post B A1 a) (vx_X px BX AX) free) (hS : va_S A0 H0 H locs) (hA : ∀ q, q < H.size → A1 q → A0 q) (hf : ∀ q, free q → A0 q) (hAX : ∀ q, q < H.size → AX q → A0 q)
    (kx : ∀ (E : String) (ce : Cell) (q9 : Addr) (u : SX) (t : State) (H1 : Heap) (locs1 : List Loc), t.heap = H1 → s.vm.Alike t.vm → px u → BX E u t → H.size ≤ H1.size → (∀ q : Nat, q < H.size → ¬ AX q → H1[q]? = H[q]?) → va_S A0 H0 H1 locs1 → H1[q9]? = some ce → ce.vm = .none → s.vm.findClass E = some ce.cls → vx_W p l e R s m args below meth c H1 locs1 (cells + mc) (slots + ms) Q (F0 m pc ls rest) q9)
    (kk : ∀ (r : UInt64) (u : S) (t : State) (H1 : Heap) (locs1 : List Loc), t.heap = H1 → s.vm.Alike t.vm → post r u → B u t → H.size ≤ H1.size → (∀ q : Nat, q < H.size → ¬ A1 q → H1[q]? = H[q]?) → va_S A0 H0 H1 locs1 → W p l e R s m args below meth c H1 locs1 (cells + mc) (slots + ms) Q (F0 m (pc + 3) ls (.double r :: rest))) : W p l e R s m args below meth c H locs cells slots Q (F0 m pc ls st0) := by
  intro T hT X
  rcases hr T hT X with ⟨v, st₀, t, T', L, h0, X', hL, e1, e2, ⟨⟨r, u, hv, hp, hb⟩, hF⟩, st⟩ | ⟨q, st₀, t, T', L, E, ce, h0, X', hL, e1, e2, ⟨u, hp, hb, hF⟩, hce, hcv, hcl, st⟩
  · cases hv
    obtain ⟨k1, k2, k3⟩ := vx_keep h0 e1 hS hA hf hL hF
    obtain ⟨t2, a1, b1⟩ := kk r u t T'.heap (locs ++ L) e1.symm (by rw [← e2]; exact X'.warmed.alike) hp hb k1 k2 k3 T' rfl X'
    exact ⟨t2, st t2 a1, b1⟩
  · obtain ⟨k1, k2, k3⟩ := vx_keep h0 e1 hS hAX hf hL hF
    obtain ⟨t2, a1, b1⟩ := kx E ce q u t T'.heap (locs ++ L) e1.symm (by rw [← e2]; exact X'.warmed.alike) hp hb k1 k2 k3 (by rw [e1]; exact hce) hcv hcl T' rfl X'
    exact ⟨t2, st.trans a1, b1⟩
theorem vx_callv {S SX : Type} {post : S → Prop} {px : SX → Prop} {B : S → State → Prop} {BX : String → SX → State → Prop} {AX : Nat → Prop} (hr : vx_Run p l e R s m args below meth c H locs cells slots mc ms (F0 m pc ls st0) rest (va_Qv post B A1 a) (vx_X px BX AX) free) (hS : va_S A0 H0 H locs) (hA : ∀ q, q < H.size → A1 q → A0 q) (hf : ∀ q, free q → A0 q) (hAX : ∀ q, q < H.size → AX q → A0 q)
    (kx : ∀ (E : String) (ce : Cell) (q9 : Addr) (u : SX) (t : State) (H1 : Heap) (locs1 : List Loc), t.heap = H1 → s.vm.Alike t.vm → px u → BX E u t → H.size ≤ H1.size → (∀ q : Nat, q < H.size → ¬ AX q → H1[q]? = H[q]?) → va_S A0 H0 H1 locs1 → H1[q9]? = some ce → ce.vm = .none → s.vm.findClass E = some ce.cls → vx_W p l e R s m args below meth c H1 locs1 (cells + mc) (slots + ms) Q (F0 m pc ls rest) q9)
    (kk : ∀ (u : S) (t : State) (H1 : Heap) (locs1 : List Loc), t.heap = H1 → s.vm.Alike t.vm → post u → B u t → H.size ≤ H1.size → (∀ q : Nat, q < H.size → ¬ A1 q → H1[q]? = H[q]?) → va_S A0 H0 H1 locs1 → W p l e R s m args below meth c H1 locs1 (cells + mc) (slots + ms) Q (F0 m (pc + 3) ls (rest))) : W p l e R s m args below meth c H locs cells slots Q (F0 m pc ls st0) := by
  intro T hT X
  rcases hr T hT X with ⟨v, st₀, t, T', L, h0, X', hL, e1, e2, ⟨⟨u, hv, hp, hb⟩, hF⟩, st⟩ | ⟨q, st₀, t, T', L, E, ce, h0, X', hL, e1, e2, ⟨u, hp, hb, hF⟩, hce, hcv, hcl, st⟩
  · cases hv
    obtain ⟨k1, k2, k3⟩ := vx_keep h0 e1 hS hA hf hL hF
    obtain ⟨t2, a1, b1⟩ := kk u t T'.heap (locs ++ L) e1.symm (by rw [← e2]; exact X'.warmed.alike) hp hb k1 k2 k3 T' rfl X'
    exact ⟨t2, st t2 a1, b1⟩
  · obtain ⟨k1, k2, k3⟩ := vx_keep h0 e1 hS hAX hf hL hF
    obtain ⟨t2, a1, b1⟩ := kx E ce q u t T'.heap (locs ++ L) e1.symm (by rw [← e2]; exact X'.warmed.alike) hp hb k1 k2 k3 (by rw [e1]; exact hce) hcv hcl T' rfl X'
    exact ⟨t2, st.trans a1, b1⟩
/-- caught by the row x of this method's table; the rows ahead don't take it -/
theorem vx_catch {own name : String} {E : String} {ce : Cell} {q : Addr} (hown : s.vm.findClass own = some m.cls) (pre : List ExceptionTableEntry) (x : ExceptionTableEntry) (suf : List ExceptionTableEntry) (hsplit : c.exceptionTable.toList = pre ++ x :: suf)
    (hpass : ∀ z ∈ pre, covers z pc = false ∨ (z.catchType ≠ 0 ∧ ∃ nm : String, (Cond.classLink own z.catchType nm).before args s = true ∧ va_Nc E nm s)) (hx : covers x pc = true) (h0 : x.catchType ≠ 0)
    (hlink : (Cond.classLink own x.catchType name).before args s = true) (hcast : (Cond.castable E name).before args s = true) (hcell : H[q]? = some ce) (hv : ce.vm = .none) (hcl : s.vm.findClass E = some ce.cls)
    (kk : W p l e R s m args below meth c H locs cells slots Q (F0 m x.handlerPc ls [.ref q])) : vx_W p l e R s m args below meth c H locs cells slots Q (F0 m pc ls rest) q := by
  intro T hT X
  have hpl : e.platform.magicAccessors = ({} : Platform).magicAccessors := by rw [X.admits.platform]
  obtain ⟨c3, c4, hc3, hc4, hasg⟩ := Cond.castable_spec hcast
  cases Option.some.inj (hc3.symm.trans hcl)
  obtain ⟨c5, hc5, hcl5⟩ := Cond.classLink_spec hown hlink e.platform hpl
  cases Option.some.inj (hc4.symm.trans hc5)
  obtain ⟨vm', X', st⟩ := X.thenCaughtThrough q (g := F0 m pc ls rest) rfl (Steps.refl _) (by rw [hT]; exact hcell) (by rw [hv]; rfl) (by obtain ⟨k9, h9, -⟩ := Vm.findClass_spec hcl; exact ⟨k9, h9⟩) pre x suf hsplit
    (fun z hz => by
      rcases hpass z hz with h | ⟨hz0, nm, hl1, hn1⟩
      · exact Or.inl h
      · obtain ⟨c6, hc6, hcl6⟩ := Cond.classLink_spec hown hl1 e.platform hpl
        obtain ⟨a8, b8, h1, h2, h3⟩ := hn1
        cases Option.some.inj (h1.symm.trans hcl)
        cases Option.some.inj (h2.symm.trans hc6)
        exact Or.inr ⟨hz0, _, hcl6, h3⟩) hx (Or.inr ⟨h0, c4, hcl5, hasg⟩)
  obtain ⟨t, a1, b1⟩ := kk (T.setVm vm') hT X'
  exact ⟨t, st.trans a1, b1⟩
end Rows
section Ends
variable {p : Program} {l : Launch} {e : Env} {R : Room} {s : State} {m : MethodId} {args : Array Value} {below : List Frame} {meth : Method} {c : Code} {H : Heap} {locs : List Loc} {cells slots : Nat} {Q : State → Prop}
variable {mc ms : Nat} {free : Addr → Prop} {A0 A1 : Nat → Prop} {H0 : Heap} {a : Array Value} {ls : Array Slot} {st0 rest : List Value}
variable {Qc : Array Value → State → Outcome → State → Prop} {XC : String → State → State → Prop}
/-- what a body that may throw owes at its end -/
def vx_MQ (below : List Frame) (Qc : Array Value → State → Outcome → State → Prop) (XC : String → State → State → Prop) (a : Array Value) (s : State) (mc ms : Nat) (free : Addr → Prop) : State → Prop := fun t =>
  ∃ o, t.status = .running ∧ Ended t below o ∧ vx_Q Qc XC mc ms free a s o t
theorem vx_ret {g : JFrame} {mc ms : Nat} (k : W p l e R s m args below meth c H locs cells slots (MQ below Qc args s mc ms free) g) : W p l e R s m args below meth c H locs cells slots (vx_MQ below Qc XC args s mc ms free) g := by
  intro T hT X
  obtain ⟨t, a1, o, b1, b2, b3, b4⟩ := k T hT X
  exact ⟨t, a1, o, b1, b2, Or.inl ⟨b3, b4⟩⟩
/-- not caught here: it goes on to the caller -/
theorem vx_widen {g : JFrame} {q : Addr} {k n : Nat} (h1 : cells ≤ k) (h2 : slots ≤ n) (kk : vx_W p l e R s m args below meth c H locs k n Q g q) : vx_W p l e R s m args below meth c H locs cells slots Q g q := fun T hT X => kk T hT (stand_widen X h1 h2)
theorem vx_out {pc : Nat} {E : String} {ce : Cell} {q : Addr} {mc ms : Nat} (hout : ∀ x ∈ c.exceptionTable.toList, covers x pc = false) (hlocks : meth.locks = false) (hcell : H[q]? = some ce) (hv : ce.vm = .none) (hcl : s.vm.findClass E = some ce.cls)
    (hx : ∀ t : State, t.heap = H → s.vm.Alike t.vm → XC E s t) (hf : ∀ z ∈ locs, free z.base) (hc : cells ≤ mc) (hs : slots ≤ ms) :
    vx_W p l e R s m args below meth c H locs cells slots (vx_MQ below Qc XC args s mc ms free) (F0 m pc ls rest) q := by
  intro T hT X
  obtain ⟨st1, hrun, hend, hW, hsm⟩ := X.leaveThrown q (g := F0 m pc ls rest) rfl rfl rfl hout hlocks
  have hcell9 : (T.setFrames (.throwing q :: below)).heap[q]? = some ce := by
    show T.heap[q]? = some ce
    rw [hT]; exact hcell
  exact ⟨_, st1, .threw q, hrun, hend, Or.inr ⟨q, rfl, E, ce, locs, hx _ hT hW.alike, hcell9, hv, hcl, hW, hsm.mono hc hs, hf⟩⟩
theorem vx_frame {U : State} {k n : Nat} (h : s.sameButNew ({ U with vm := s.vm } : State) locs k n) : s.heap.size ≤ U.heap.size ∧ ∀ q : Nat, q < s.heap.size → (∀ z ∈ locs, z.base ≠ q) → U.heap[q]? = s.heap[q]? := by
  obtain ⟨-, h2, -, -, -, h6⟩ := h
  refine ⟨h2, fun q hq hz => ?_⟩
  obtain ⟨c9, e1, e2, e3, e4⟩ := h6 q _ (Array.getElem?_eq_getElem hq)
  have hs : c9.slots = (s.heap[q]).slots := Array.ext_getElem? fun i => e4 i fun hm => hz _ hm rfl
  have h9 : c9 = s.heap[q] := by
    rw [hs] at e2
    exact e2
  have e5 : U.heap[q]? = some c9 := e1
  rw [e5, h9, Array.getElem?_eq_getElem hq]
/-- the words of a throw but the four that speak of the heap -/
def vx_no (w : Cond) : Bool := decide (w ≠ .isRef (.static Bundle.tN "UNASSIGNED_STACK" Bundle.steD)) && decide (w ≠ .isRef (.static Bundle.tN "SUPPRESSED_SENTINEL" Bundle.listD)) && decide (w ≠ .laysStatic Bundle.tN "UNASSIGNED_STACK" Bundle.steD) && decide (w ≠ .laysStatic Bundle.tN "SUPPRESSED_SENTINEL" Bundle.listD)
def vx_at0 (own : String) (ic : Nat) (X : String) (names : List String) : List Cond := (Bundle.ownAtoms0 own ic X names).filter vx_no
def vx_atS (own : String) (ic : Nat) (X : String) (names : List String) : List Cond := (Bundle.ownAtoms own ic X names).filter vx_no
/-- a word that the tables alone decide, or a good one -/
def vx_ot (w : Cond) : Bool := w.onTables || goodWord w
theorem vx_ot_at {args a' : Array Value} {s U : State} {w : Cond} (hW : s.WarmedH U.vm) (hvm : s.vm = U.vm) (hg : vx_ot w = true) (h : w.before args s = true) : w.before a' U = true := by
  simp only [vx_ot, Bool.or_eq_true] at hg
  rcases hg with hg | hg
  · exact va_tabs hg hvm h
  · exact word_at hW (good_of_word hg) h
/-- a list's words: the good ones out of the method's own list, the others by premises of their own -/
theorem vx_hat {args : Array Value} {s : State} {L B : List Cond} (h1 : ∀ w ∈ L.filter goodWord, w.before args s = true) (h2 : ∀ w ∈ L.filter (fun w => !goodWord w), w ∈ B) (h3 : ∀ w ∈ B, w.before args s = true) : ∀ w ∈ L, w.before args s = true := by
  intro w hw
  by_cases g : goodWord w = true
  · exact h1 w (List.mem_filter.mpr ⟨hw, g⟩)
  · refine h3 w (h2 w (List.mem_filter.mpr ⟨hw, ?_⟩))
    show (!goodWord w) = true
    cases hgw : goodWord w
    · rfl
    · exact absurd hgw g
theorem vx_c {args : Array Value} {s : State} {w : Cond} {B : List Cond} (h : w.before args s = true) (t : ∀ w ∈ B, w.before args s = true) : ∀ w' ∈ w :: B, w'.before args s = true := fun w' h' => (List.mem_cons.mp h').elim (fun e => by rw [e]; exact h) (t w')
theorem vx_n {args : Array Value} {s : State} : ∀ w ∈ ([] : List Cond), w.before args s = true := fun _ h => nomatch h
theorem vx_own {args : Array Value} {s : State} {L : List Cond} (h1 : ∀ w ∈ L.filter vx_no, w.before args s = true)
    (hU : (Cond.isRef (.static Bundle.tN "UNASSIGNED_STACK" Bundle.steD)).before args s = true) (hN : (Cond.isRef (.static Bundle.tN "SUPPRESSED_SENTINEL" Bundle.listD)).before args s = true)
    (lU : (Cond.laysStatic Bundle.tN "UNASSIGNED_STACK" Bundle.steD).before args s = true) (lN : (Cond.laysStatic Bundle.tN "SUPPRESSED_SENTINEL" Bundle.listD).before args s = true) : ∀ w ∈ L, w.before args s = true := by
  intro w hw
  by_cases e1 : w = .isRef (.static Bundle.tN "UNASSIGNED_STACK" Bundle.steD)
  · rw [e1]; exact hU
  · by_cases e2 : w = .isRef (.static Bundle.tN "SUPPRESSED_SENTINEL" Bundle.listD)
    · rw [e2]; exact hN
    · by_cases e3 : w = .laysStatic Bundle.tN "UNASSIGNED_STACK" Bundle.steD
      · rw [e3]; exact lU
      · by_cases e4 : w = .laysStatic Bundle.tN "SUPPRESSED_SENTINEL" Bundle.listD
        · rw [e4]; exact lN
        · exact h1 w (List.mem_filter.mpr ⟨hw, by unfold vx_no; rw [decide_eq_true e1, decide_eq_true e2, decide_eq_true e3, decide_eq_true e4]; rfl⟩)
/-- where a static field lies, its class's statics cell in H -/
def vx_L (C n d : String) (A : Nat → Prop) (U : State) (H : Heap) : Prop := ∃ (c : ClassId) (k : Class) (i : Nat) (f : Field) (a : Nat) (cell : Cell), U.vm.findClass C = some c ∧ U.fieldFound? C n d = some (c, k, i, f) ∧ f.isStatic = true ∧ k.statics = some a ∧ H[a]? = some cell ∧ cell.vm.isStatics = true ∧ cell.cls = c ∧ f.slot < cell.slots.size ∧ k.staticTypes[f.slot]? = some f.type ∧ ¬ A a
theorem vx_L.moved {C n d : String} {A : Nat → Prop} {u U : State} {H : Heap} (hvm : u.vm.Alike U.vm) (h : vx_L C n d A u H) : vx_L C n d A U H := by
  obtain ⟨c, k, i, f, a, cell, h1, h2, h3, h4, h5, h6, h7, h8, h9, h10⟩ := h
  obtain ⟨k', hi', he⟩ := State.fieldFound?_setVm hvm h2
  exact ⟨c, k', i, f, a, cell, by rw [hvm.findClass]; exact h1, hi', h3, by rw [he]; exact h4, h5, h6, h7, h8, by rw [he]; exact h9, h10⟩
theorem vx_L.kept {C n d : String} {A : Nat → Prop} {U : State} {H H1 : Heap} (h : vx_L C n d A U H) (hq : ∀ a : Nat, a < H.size → ¬ A a → H1[a]? = H[a]?) : vx_L C n d A U H1 := by
  obtain ⟨c, k, i, f, a, cell, h1, h2, h3, h4, h5, h6, h7, h8, h9, h10⟩ := h
  exact ⟨c, k, i, f, a, cell, h1, h2, h3, h4, by rw [hq a (Array.getElem?_eq_some_iff.mp h5).1 h10]; exact h5, h6, h7, h8, h9, h10⟩
theorem vx_L.narrow {C n d : String} {A B : Nat → Prop} {U : State} {H : Heap} (h : vx_L C n d A U H) (hAB : ∀ q, B q → A q) : vx_L C n d B U H := by
  obtain ⟨c, k, i, f, a, cell, h1, h2, h3, h4, h5, h6, h7, h8, h9, h10⟩ := h
  exact ⟨c, k, i, f, a, cell, h1, h2, h3, h4, h5, h6, h7, h8, h9, fun z => h10 (hAB _ z)⟩
theorem vx_L.word {C n d : String} {A : Nat → Prop} {s : State} {args : Array Value} (h : vx_L C n d A s s.heap) : (Cond.laysStatic C n d).before args s = true := by
  obtain ⟨c, k, i, f, a, cell, h1, h2, h3, h4, h5, h6, h7, h8, h9, -⟩ := h
  show (Cond.laysStatic C n d).holds args s none s [] = true
  exact Cond.laysStatic_of h1 h2 h3 h4 h5 h6 h7 h8 h9
/-- .. and what it holds: null or some reference -/
def vx_Zq (C n d : String) (A : Nat → Prop) (U : State) (H : Heap) : Prop := va_Zq C n d A U H ∧ vx_L C n d A U H
theorem vx_Zq.moved {C n d : String} {A : Nat → Prop} {u U : State} {H : Heap} (hvm : u.vm.Alike U.vm) (h : vx_Zq C n d A u H) : vx_Zq C n d A U H := ⟨va_Zq.moved hvm h.1, vx_L.moved hvm h.2⟩
theorem vx_Zq.kept {C n d : String} {A : Nat → Prop} {U : State} {H H1 : Heap} (h : vx_Zq C n d A U H) (hq : ∀ a : Nat, a < H.size → ¬ A a → H1[a]? = H[a]?) : vx_Zq C n d A U H1 := ⟨va_Zq.kept h.1 hq, vx_L.kept h.2 hq⟩
theorem vx_Zq.narrow {C n d : String} {A B : Nat → Prop} {U : State} {H : Heap} (h : vx_Zq C n d A U H) (hAB : ∀ q, B q → A q) : vx_Zq C n d B U H := ⟨va_Zq.narrow h.1 hAB, vx_L.narrow h.2 hAB⟩
theorem vx_Zqof {args : Array Value} {s : State} {C n d : String} {A : Nat → Prop} (hl : (Cond.laysStatic C n d).before args s = true) (hini : (Cond.initialized C).before args s = true) (h : (Cond.isRef (.static C n d)).before args s = true) (hA : ∀ a : Nat, a < s.heap.size → ¬ A a) : vx_Zq C n d A s s.heap := by
  refine ⟨va_Zqof hl hini h hA, ?_⟩
  obtain ⟨c, k, i, f, a, cell, h1, h2, h3, h4, h5, h6, h7, h8, h9⟩ := Cond.laysStatic_spec hl
  exact ⟨c, k, i, f, a, cell, h1, h2, h3, h4, h5, h6, h7, h8, h9, hA a (Array.getElem?_eq_some_iff.mp h5).1⟩
theorem vx_isRef {C n d : String} {v : Value} {A : Nat → Prop} {s : State} {args : Array Value} (h : va_Z C n d v A s s.heap) (hv : v.isRef = true) : (Cond.isRef (.static C n d)).before args s = true := by
  obtain ⟨cf, kf, fi, f, a, cell, h1, h2, h3, h4, h5, h6, h7, -⟩ := h
  have he : (Term.static C n d).eval args s none [] s = some v := by
    simp [Term.eval, State.fieldNamed?, h1, h2, h4, h5, h6, h7]
  simp only [Cond.before, Cond.holds, Cond.value, he]
  cases v <;> simp_all [Value.isRef]
theorem vx_isRefq {C n d : String} {A : Nat → Prop} {s : State} {args : Array Value} (h : va_Zq C n d A s s.heap) : (Cond.isRef (.static C n d)).before args s = true := by
  rcases h with h | ⟨t, h⟩
  · exact vx_isRef h rfl
  · exact vx_isRef h rfl
/-- the same frame, seen from here: as if the method were called anew in this heap -/
theorem vx_rebase {T : State} (X : Stand p l e R s m args below meth c T locs cells slots) {R' : Room} (hf : R'.frames ≤ R.frames) (hl : R'.locals ≤ R.locals) (hc : cells + R'.cells ≤ R.cells) (hs : slots + R'.slots ≤ R.slots) :
    Stand p l e R' ((T.setVm s.vm).setFrames (.invoking m args :: below)) m args below meth c T [] 0 0 := by
  have htop : (T.setVm s.vm).topJava?.isSome := X.here.top
  have hF : ((T.setVm s.vm).setFrames (.invoking m args :: below)).frames = .invoking m args :: below := State.frames_setFrames _ (State.cur_lt_of_top htop)
  obtain ⟨g₀, hg0⟩ := Option.isSome_iff_exists.mp htop
  obtain ⟨r, hr⟩ := State.topJava?_eq_some.mp hg0
  have hl9 : e.platform.stackLimits (T.setVm s.vm).me = e.platform.stackLimits s.me := X.limits
  have hb9 : (T.setVm s.vm).me.stackBytes = s.me.stackBytes := X.bytes
  refine ⟨X.admits, X.cas, X.clock, hF, ?_, X.hears, X.method, X.code, X.here, X.tail, X.warmed, ?_, ?_, ?_⟩
  · have h := X.room
    have hU : ((T.setVm s.vm).setFrames (.invoking m args :: below)).localsInUse = s.localsInUse := by
      rw [State.localsInUse_invoking hF (meth := meth) (c := c) X.method X.code, State.localsInUse_invoking X.frames X.method X.code]
    simp only [State.hasRoom, Bool.and_eq_true, decide_eq_true_eq] at h ⊢
    obtain ⟨⟨⟨⟨h1, h2, h3, h4, h5, h6⟩, h7⟩, h8⟩, h9⟩ := h
    rw [X.frames, List.length_cons] at h2 h3
    have q1 := X.heapSize
    have q2 := X.used
    simp only [hF, hU, List.length_cons, State.stackLimits_setFrames, State.stackBytes_setFrames, hl9, hb9]
    refine ⟨⟨⟨⟨by omega, by omega, by omega, by omega, by omega, h6⟩, ?_⟩, ?_⟩, X.book⟩
    · show T.heap.size + R'.cells ≤ e.platform.maxCells
      omega
    · show T.slotsUsed + R'.slots ≤ e.platform.maxSlots
      omega
  · rw [State.stackLimits_setFrames]; rfl
  · rw [State.stackBytes_setFrames]; rfl
  · refine ⟨?_, Nat.le_refl _, Nat.le_refl _, ?_, ?_, fun a c9 h9 => ⟨c9, h9, rfl, rfl, fun _ _ => rfl⟩⟩
    · obtain ⟨t, ht, -⟩ := State.frames_cons hr
      show T.setVm s.vm = { ((T.setVm s.vm).setFrames (.invoking m args :: below)).setFrames (T.setVm s.vm).frames with heap := T.heap, slotsUsed := T.slotsUsed }
      rw [State.setFrames_setFrames, State.setFrames_self ht]
      rfl
    · show T.slotsUsed = T.slotsUsed + ((T.heap.toList.drop T.heap.size).map (·.slots.size)).sum
      rw [List.drop_eq_nil_of_le (Nat.le_of_eq Array.length_toList)]
      rfl
    · show ((T.heap.toList.drop T.heap.size).map (·.slots.size)).sum ≤ 0
      rw [List.drop_eq_nil_of_le (Nat.le_of_eq Array.length_toList)]
      exact Nat.le_refl _
/-- 'throw new E()': new; dup; invokespecial; athrow -/
theorem vx_throw0 {cc : ByteArray} {pc : Nat} (hexec : p.tables.exec = Jvm.exec) (hb : c.code = cc) (hl : l.stackTraces = false) {own cls : String} {names : List String} {ik ic mc ms : Nat} {A : Nat → Prop}
    (hown : s.vm.findClass own = some m.cls) (hcls : Bundle.fit cls = true) (hnames : ∀ n ∈ names, Bundle.fit n = true)
    (hk : (Cond.classLink own ik cls).before args s = true) (hini : (Cond.initialized cls).before args s = true) (hat : ∀ w ∈ vx_at0 own ic cls names, w.before args s = true)
    (hgood : ∀ w ∈ Cond.classLink own ik cls :: Cond.initialized cls :: vx_at0 own ic cls names, vx_ot w = true)
    (hU : vx_Zq Bundle.tN "UNASSIGNED_STACK" Bundle.steD A s s.heap) (hN : vx_Zq Bundle.tN "SUPPRESSED_SENTINEL" Bundle.listD A s s.heap) (hS : va_S A s.heap H locs) (hsize : ls.size = c.maxLocals)
    (d0 : decode cc pc = .ok (.new ik, 3)) (d3 : decode cc (pc + 3) = .ok (.dup, 1)) (d4 : decode cc (pc + 4) = .ok (.invokespecial ic, 3)) (d7 : decode cc (pc + 7) = .ok (.athrow, 1))
    (hout : ∀ x ∈ c.exceptionTable.toList, covers x (pc + 7) = false)
    (hRframes : names.length + 3 < R.frames) (hRlocals : (rest.map fun v => v.category).sum + (13 * (names.length + 1) + 42) ≤ R.locals) (hRcells : cells + 1 ≤ R.cells) (hRslots : slots + 6 ≤ R.slots) (hlocks : meth.locks = false)
    (hx : ∀ t : State, s.vm.Alike t.vm → H.size ≤ t.heap.size → (∀ q : Nat, q < H.size → t.heap[q]? = H[q]?) → XC cls s t)
    (hf : ∀ z ∈ locs, free z.base) (hc : cells + 1 ≤ mc) (hs : slots + 6 ≤ ms) :
    W p l e R s m args below meth c H locs cells slots (vx_MQ below Qc XC args s mc ms free) (F0 m pc ls rest) := by
  intro T hT X
  have htr : e.platform.stackTraces = false := (show e.platform.stackTraces = l.stackTraces by rw [X.admits.platform]).trans hl
  have Y := vx_rebase X (R' := { frames := R.frames, locals := R.locals, cells := 1, slots := 6 }) (Nat.le_refl _) (Nat.le_refl _) hRcells hRslots
  obtain ⟨s', hA⟩ : ∃ z, z = (T.setVm s.vm).setFrames (.invoking m args :: below) := ⟨_, rfl⟩
  rw [← hA] at Y
  have hvm : s'.vm = s.vm := by rw [hA]; rfl
  have hhp : s'.heap = H := by rw [hA]; exact hT
  have hW0 : s.WarmedH s'.vm := by rw [hvm]; exact State.WarmedH.refl s
  have hat' : ∀ w ∈ vx_at0 own ic cls names, w.before args s' = true := fun w hw => vx_ot_at hW0 hvm.symm (hgood w (List.mem_cons_of_mem _ (List.mem_cons_of_mem _ hw))) (hat w hw)
  have hk' : (Cond.classLink own ik cls).before args s' = true := vx_ot_at hW0 hvm.symm (hgood _ List.mem_cons_self) hk
  have hini' : (Cond.initialized cls).before args s' = true := vx_ot_at hW0 hvm.symm (hgood _ (List.mem_cons_of_mem _ List.mem_cons_self)) hini
  have hU' : vx_Zq Bundle.tN "UNASSIGNED_STACK" Bundle.steD A s' s'.heap := by rw [hhp]; exact vx_Zq.moved hW0.alike (hU.kept hS.2.1)
  have hN' : vx_Zq Bundle.tN "SUPPRESSED_SENTINEL" Bundle.listD A s' s'.heap := by rw [hhp]; exact vx_Zq.moved hW0.alike (hN.kept hS.2.1)
  have h : ∀ w ∈ Bundle.ownAtoms0 own ic cls names, w.before args s' = true := vx_own hat' (vx_isRefq hU'.1) (vx_isRefq hN'.1) hU'.2.word hN'.2.word
  have hown' : s'.vm.findClass own = some m.cls := by rw [hvm]; exact hown
  have hins : (Cond.instantiable cls 6).before args s' = true := h _ (by simp [Bundle.ownAtoms0])
  obtain ⟨vm₁, cX, kX, hfX, hkX, -, -, X₁, st1⟩ := Y.newCold hexec (own := own) (C := cls) (index := ik) (n := 6) hown' hk' hins hini'
    (g := F0 m pc ls rest) rfl (by rw [hb]; exact d0) (Nat.le_refl _) (Nat.le_refl _)
  generalize hT1 : (T.setVm vm₁).pushCell { cls := cX, slots := kX.instanceTypes.map defaultValue, vm := .none } = T1 at X₁ st1
  have hcat : (Value.ref T.heap.size).category = 1 := rfl
  have hcellA : T1.heap[T.heap.size]? = some (freshCell cX kX) := by rw [← hT1]; exact State.heap_pushCell_size _ _
  have d3' : decode c.code (pc + 3) = .ok (.dup, 1) := by rw [hb]; exact d3
  obtain ⟨U, hsteps, hrun, hend, hW, hsame, ce, hce, hO⟩ := X₁.ctorThrow0 hexec htr (own := own) (cls := cls) (names := names) (ic := ic) hown' hcls hnames h (fun x hx => nomatch hx) hfX hkX hcellA (by rw [hhp, hT]; exact Nat.le_refl _)
    (g := { method := m, pc := pc + 4, locals := ls, stack := .ref T.heap.size :: .ref T.heap.size :: rest, locked := none }) rfl hsize rfl rfl (rest := rest) rfl
    (by rw [hb]; exact d4) (by rw [hb]; exact d7) hout hRframes (by simp only [List.map_cons, List.sum_cons, hcat]; omega) hlocks
  obtain ⟨f1, f2⟩ := vx_frame hsame
  rw [hhp] at f1 f2
  have hWs : s.WarmedH U.vm := State.WarmedH.trans hW0 hW
  have hcl : s.vm.findClass cls = some ce.cls := by
    have h9 := hO.cls
    rw [hvm] at h9
    exact h9
  have hall : s.sameButNew ({ U with vm := s.vm } : State) locs mc ms := by
    subst hA
    obtain ⟨e1, e2⟩ := hsame
    rw [State.setFrames_setFrames] at e1
    have h2 : (T.setVm s.vm).sameButNew ({ U with vm := s.vm } : State) [] (0 + 1) (0 + 6) := ⟨e1, e2⟩
    have h3 := X.same.trans h2
    rw [List.append_nil] at h3
    exact h3.mono hc hs
  refine ⟨U, ?_, .threw T.heap.size, hrun, hend, Or.inr ⟨T.heap.size, rfl, cls, ce, locs, hx U hWs.alike f1 (fun q hq => f2 q hq (fun z hz => nomatch hz)), hce, hO.vm, hcl, hWs, hall, hf⟩⟩
  refine st1 _ ?_
  show Steps p.tables e below (T1.setTop { method := m, pc := pc + 3, locals := ls, stack := .ref T.heap.size :: rest, locked := none }) _
  jvm_step X₁.here [X₁.here.top, hexec, d3', Value.category]
  exact hsteps
/-- 'throw new E("text")': new; dup; ldc; invokespecial; athrow -/
theorem vx_throwS {cc : ByteArray} {pc : Nat} (hexec : p.tables.exec = Jvm.exec) (hb : c.code = cc) (hl : l.stackTraces = false) {own cls text : String} {names : List String} {ik is ic mc ms sa : Nat} {A : Nat → Prop}
    (hown : s.vm.findClass own = some m.cls) (hcls : Bundle.fit cls = true) (hnames : ∀ n ∈ names, Bundle.fit n = true)
    (hk : (Cond.classLink own ik cls).before args s = true) (hini : (Cond.initialized cls).before args s = true) (hstr : vk_R own is text sa s) (hat : ∀ w ∈ vx_atS own ic cls names, w.before args s = true)
    (hgood : ∀ w ∈ Cond.classLink own ik cls :: Cond.initialized cls :: vx_atS own ic cls names, vx_ot w = true)
    (hU : vx_Zq Bundle.tN "UNASSIGNED_STACK" Bundle.steD A s s.heap) (hN : vx_Zq Bundle.tN "SUPPRESSED_SENTINEL" Bundle.listD A s s.heap) (hS : va_S A s.heap H locs) (hsize : ls.size = c.maxLocals)
    (d0 : decode cc pc = .ok (.new ik, 3)) (d3 : decode cc (pc + 3) = .ok (.dup, 1)) (d4 : decode cc (pc + 4) = .ok (.ldc is, 2)) (d6 : decode cc (pc + 6) = .ok (.invokespecial ic, 3)) (d9 : decode cc (pc + 9) = .ok (.athrow, 1))
    (hout : ∀ x ∈ c.exceptionTable.toList, covers x (pc + 9) = false)
    (hRframes : names.length + 3 < R.frames) (hRlocals : (rest.map fun v => v.category).sum + (13 * (names.length + 1) + 43) ≤ R.locals) (hRcells : cells + 1 ≤ R.cells) (hRslots : slots + 6 ≤ R.slots) (hlocks : meth.locks = false)
    (hx : ∀ t : State, s.vm.Alike t.vm → H.size ≤ t.heap.size → (∀ q : Nat, q < H.size → t.heap[q]? = H[q]?) → XC cls s t)
    (hf : ∀ z ∈ locs, free z.base) (hc : cells + 1 ≤ mc) (hs : slots + 6 ≤ ms) :
    W p l e R s m args below meth c H locs cells slots (vx_MQ below Qc XC args s mc ms free) (F0 m pc ls rest) := by
  intro T hT X
  have htr : e.platform.stackTraces = false := (show e.platform.stackTraces = l.stackTraces by rw [X.admits.platform]).trans hl
  have Y := vx_rebase X (R' := { frames := R.frames, locals := R.locals, cells := 1, slots := 6 }) (Nat.le_refl _) (Nat.le_refl _) hRcells hRslots
  obtain ⟨s', hA⟩ : ∃ z, z = (T.setVm s.vm).setFrames (.invoking m args :: below) := ⟨_, rfl⟩
  rw [← hA] at Y
  have hvm : s'.vm = s.vm := by rw [hA]; rfl
  have hhp : s'.heap = H := by rw [hA]; exact hT
  have hW0 : s.WarmedH s'.vm := by rw [hvm]; exact State.WarmedH.refl s
  have hat' : ∀ w ∈ vx_atS own ic cls names, w.before args s' = true := fun w hw => vx_ot_at hW0 hvm.symm (hgood w (List.mem_cons_of_mem _ (List.mem_cons_of_mem _ hw))) (hat w hw)
  have hk' : (Cond.classLink own ik cls).before args s' = true := vx_ot_at hW0 hvm.symm (hgood _ List.mem_cons_self) hk
  have hini' : (Cond.initialized cls).before args s' = true := vx_ot_at hW0 hvm.symm (hgood _ (List.mem_cons_of_mem _ List.mem_cons_self)) hini
  have hU' : vx_Zq Bundle.tN "UNASSIGNED_STACK" Bundle.steD A s' s'.heap := by rw [hhp]; exact vx_Zq.moved hW0.alike (hU.kept hS.2.1)
  have hN' : vx_Zq Bundle.tN "SUPPRESSED_SENTINEL" Bundle.listD A s' s'.heap := by rw [hhp]; exact vx_Zq.moved hW0.alike (hN.kept hS.2.1)
  have h : ∀ w ∈ Bundle.ownAtoms own ic cls names, w.before args s' = true := vx_own hat' (vx_isRefq hU'.1) (vx_isRefq hN'.1) hU'.2.word hN'.2.word
  have hown' : s'.vm.findClass own = some m.cls := by rw [hvm]; exact hown
  have hins : (Cond.instantiable cls 6).before args s' = true := h _ (by simp [Bundle.ownAtoms])
  obtain ⟨vm₁, cX, kX, hfX, hkX, -, -, X₁, st1⟩ := Y.newCold hexec (own := own) (C := cls) (index := ik) (n := 6) hown' hk' hins hini'
    (g := F0 m pc ls rest) rfl (by rw [hb]; exact d0) (Nat.le_refl _) (Nat.le_refl _)
  generalize hT1 : (T.setVm vm₁).pushCell { cls := cX, slots := kX.instanceTypes.map defaultValue, vm := .none } = T1 at X₁ st1
  have hcat : (Value.ref T.heap.size).category = 1 := rfl
  have hcellA : T1.heap[T.heap.size]? = some (freshCell cX kX) := by rw [← hT1]; exact State.heap_pushCell_size _ _
  have d3' : decode c.code (pc + 3) = .ok (.dup, 1) := by rw [hb]; exact d3
  have d4' : decode c.code (pc + 4) = .ok (.ldc is, 2) := by rw [hb]; exact d4
  have hstr' : vk_R own is text sa s' := vk_R.warm hW0 hstr
  obtain ⟨U, hsteps, hrun, hend, hW, hsame, ce, hce, hO⟩ := X₁.ctorThrowS hexec htr (own := own) (cls := cls) (names := names) (ic := ic) hown' hcls hnames h (fun x hx => nomatch hx) hfX hkX hcellA (by rw [hhp, hT]; exact Nat.le_refl _) (msg := .ref sa) rfl
    (g := { method := m, pc := pc + 6, locals := ls, stack := .ref sa :: .ref T.heap.size :: .ref T.heap.size :: rest, locked := none }) rfl hsize rfl rfl (rest := rest) rfl
    (by rw [hb]; exact d6) (by rw [hb]; exact d9) hout hRframes (by simp only [List.map_cons, List.sum_cons, hcat]; omega) hlocks
  obtain ⟨f1, f2⟩ := vx_frame hsame
  rw [hhp] at f1 f2
  have hWs : s.WarmedH U.vm := State.WarmedH.trans hW0 hW
  have hcl : s.vm.findClass cls = some ce.cls := by
    have h9 := hO.cls
    rw [hvm] at h9
    exact h9
  have hall : s.sameButNew ({ U with vm := s.vm } : State) locs mc ms := by
    subst hA
    obtain ⟨e1, e2⟩ := hsame
    rw [State.setFrames_setFrames] at e1
    have h2 : (T.setVm s.vm).sameButNew ({ U with vm := s.vm } : State) [] (0 + 1) (0 + 6) := ⟨e1, e2⟩
    have h3 := X.same.trans h2
    rw [List.append_nil] at h3
    exact h3.mono hc hs
  refine ⟨U, ?_, .threw T.heap.size, hrun, hend, Or.inr ⟨T.heap.size, rfl, cls, ce, locs, hx U hWs.alike f1 (fun q hq => f2 q hq (fun z hz => nomatch hz)), hce, hO.vm, hcl, hWs, hall, hf⟩⟩
  refine st1 _ ?_
  show Steps p.tables e below (T1.setTop { method := m, pc := pc + 3, locals := ls, stack := .ref T.heap.size :: rest, locked := none }) _
  jvm_step X₁.here [X₁.here.top, hexec, d3', Value.category]
  exact X₁.ldcString hexec (own := own) (text := text) (index := is) (a := sa) hown' hstr'.1 hstr'.2
    (g := { method := m, pc := pc + 4, locals := ls, stack := .ref T.heap.size :: .ref T.heap.size :: rest, locked := none }) rfl d4' _ hsteps
/-- 'throw new E("text")', the text by a wide index -/
theorem vx_throwSW {cc : ByteArray} {pc : Nat} (hexec : p.tables.exec = Jvm.exec) (hb : c.code = cc) (hl : l.stackTraces = false) {own cls text : String} {names : List String} {ik is ic mc ms sa : Nat} {A : Nat → Prop}
    (hown : s.vm.findClass own = some m.cls) (hcls : Bundle.fit cls = true) (hnames : ∀ n ∈ names, Bundle.fit n = true)
    (hk : (Cond.classLink own ik cls).before args s = true) (hini : (Cond.initialized cls).before args s = true) (hstr : vk_R own is text sa s) (hat : ∀ w ∈ vx_atS own ic cls names, w.before args s = true)
    (hgood : ∀ w ∈ Cond.classLink own ik cls :: Cond.initialized cls :: vx_atS own ic cls names, vx_ot w = true)
    (hU : vx_Zq Bundle.tN "UNASSIGNED_STACK" Bundle.steD A s s.heap) (hN : vx_Zq Bundle.tN "SUPPRESSED_SENTINEL" Bundle.listD A s s.heap) (hS : va_S A s.heap H locs) (hsize : ls.size = c.maxLocals)
    (d0 : decode cc pc = .ok (.new ik, 3)) (d3 : decode cc (pc + 3) = .ok (.dup, 1)) (d4 : decode cc (pc + 4) = .ok (.ldc_w is, 3)) (d7 : decode cc (pc + 7) = .ok (.invokespecial ic, 3)) (d10 : decode cc (pc + 10) = .ok (.athrow, 1))
    (hout : ∀ x ∈ c.exceptionTable.toList, covers x (pc + 10) = false)
    (hRframes : names.length + 3 < R.frames) (hRlocals : (rest.map fun v => v.category).sum + (13 * (names.length + 1) + 43) ≤ R.locals) (hRcells : cells + 1 ≤ R.cells) (hRslots : slots + 6 ≤ R.slots) (hlocks : meth.locks = false)
    (hx : ∀ t : State, s.vm.Alike t.vm → H.size ≤ t.heap.size → (∀ q : Nat, q < H.size → t.heap[q]? = H[q]?) → XC cls s t)
    (hf : ∀ z ∈ locs, free z.base) (hc : cells + 1 ≤ mc) (hs : slots + 6 ≤ ms) :
    W p l e R s m args below meth c H locs cells slots (vx_MQ below Qc XC args s mc ms free) (F0 m pc ls rest) := by
  intro T hT X
  have htr : e.platform.stackTraces = false := (show e.platform.stackTraces = l.stackTraces by rw [X.admits.platform]).trans hl
  have Y := vx_rebase X (R' := { frames := R.frames, locals := R.locals, cells := 1, slots := 6 }) (Nat.le_refl _) (Nat.le_refl _) hRcells hRslots
  obtain ⟨s', hA⟩ : ∃ z, z = (T.setVm s.vm).setFrames (.invoking m args :: below) := ⟨_, rfl⟩
  rw [← hA] at Y
  have hvm : s'.vm = s.vm := by rw [hA]; rfl
  have hhp : s'.heap = H := by rw [hA]; exact hT
  have hW0 : s.WarmedH s'.vm := by rw [hvm]; exact State.WarmedH.refl s
  have hat' : ∀ w ∈ vx_atS own ic cls names, w.before args s' = true := fun w hw => vx_ot_at hW0 hvm.symm (hgood w (List.mem_cons_of_mem _ (List.mem_cons_of_mem _ hw))) (hat w hw)
  have hk' : (Cond.classLink own ik cls).before args s' = true := vx_ot_at hW0 hvm.symm (hgood _ List.mem_cons_self) hk
  have hini' : (Cond.initialized cls).before args s' = true := vx_ot_at hW0 hvm.symm (hgood _ (List.mem_cons_of_mem _ List.mem_cons_self)) hini
  have hU' : vx_Zq Bundle.tN "UNASSIGNED_STACK" Bundle.steD A s' s'.heap := by rw [hhp]; exact vx_Zq.moved hW0.alike (hU.kept hS.2.1)
  have hN' : vx_Zq Bundle.tN "SUPPRESSED_SENTINEL" Bundle.listD A s' s'.heap := by rw [hhp]; exact vx_Zq.moved hW0.alike (hN.kept hS.2.1)
  have h : ∀ w ∈ Bundle.ownAtoms own ic cls names, w.before args s' = true := vx_own hat' (vx_isRefq hU'.1) (vx_isRefq hN'.1) hU'.2.word hN'.2.word
  have hown' : s'.vm.findClass own = some m.cls := by rw [hvm]; exact hown
  have hins : (Cond.instantiable cls 6).before args s' = true := h _ (by simp [Bundle.ownAtoms])
  obtain ⟨vm₁, cX, kX, hfX, hkX, -, -, X₁, st1⟩ := Y.newCold hexec (own := own) (C := cls) (index := ik) (n := 6) hown' hk' hins hini'
    (g := F0 m pc ls rest) rfl (by rw [hb]; exact d0) (Nat.le_refl _) (Nat.le_refl _)
  generalize hT1 : (T.setVm vm₁).pushCell { cls := cX, slots := kX.instanceTypes.map defaultValue, vm := .none } = T1 at X₁ st1
  have hcat : (Value.ref T.heap.size).category = 1 := rfl
  have hcellA : T1.heap[T.heap.size]? = some (freshCell cX kX) := by rw [← hT1]; exact State.heap_pushCell_size _ _
  have d3' : decode c.code (pc + 3) = .ok (.dup, 1) := by rw [hb]; exact d3
  have d4' : decode c.code (pc + 4) = .ok (.ldc_w is, 3) := by rw [hb]; exact d4
  have hstr' : vk_R own is text sa s' := vk_R.warm hW0 hstr
  obtain ⟨U, hsteps, hrun, hend, hW, hsame, ce, hce, hO⟩ := X₁.ctorThrowS hexec htr (own := own) (cls := cls) (names := names) (ic := ic) hown' hcls hnames h (fun x hx => nomatch hx) hfX hkX hcellA (by rw [hhp, hT]; exact Nat.le_refl _) (msg := .ref sa) rfl
    (g := { method := m, pc := pc + 7, locals := ls, stack := .ref sa :: .ref T.heap.size :: .ref T.heap.size :: rest, locked := none }) rfl hsize rfl rfl (rest := rest) rfl
    (by rw [hb]; exact d7) (by rw [hb]; exact d10) hout hRframes (by simp only [List.map_cons, List.sum_cons, hcat]; omega) hlocks
  obtain ⟨f1, f2⟩ := vx_frame hsame
  rw [hhp] at f1 f2
  have hWs : s.WarmedH U.vm := State.WarmedH.trans hW0 hW
  have hcl : s.vm.findClass cls = some ce.cls := by
    have h9 := hO.cls
    rw [hvm] at h9
    exact h9
  have hall : s.sameButNew ({ U with vm := s.vm } : State) locs mc ms := by
    subst hA
    obtain ⟨e1, e2⟩ := hsame
    rw [State.setFrames_setFrames] at e1
    have h2 : (T.setVm s.vm).sameButNew ({ U with vm := s.vm } : State) [] (0 + 1) (0 + 6) := ⟨e1, e2⟩
    have h3 := X.same.trans h2
    rw [List.append_nil] at h3
    exact h3.mono hc hs
  refine ⟨U, ?_, .threw T.heap.size, hrun, hend, Or.inr ⟨T.heap.size, rfl, cls, ce, locs, hx U hWs.alike f1 (fun q hq => f2 q hq (fun z hz => nomatch hz)), hce, hO.vm, hcl, hWs, hall, hf⟩⟩
  refine st1 _ ?_
  show Steps p.tables e below (T1.setTop { method := m, pc := pc + 3, locals := ls, stack := .ref T.heap.size :: rest, locked := none }) _
  jvm_step X₁.here [X₁.here.top, hexec, d3', Value.category]
  exact X₁.ldcStringW hexec (own := own) (text := text) (index := is) (a := sa) hown' hstr'.1 hstr'.2
    (g := { method := m, pc := pc + 4, locals := ls, stack := .ref T.heap.size :: .ref T.heap.size :: rest, locked := none }) rfl d4' _ hsteps
end Ends
section Bodies
variable {l : Launch}
theorem vx_ofW {y : MethodName} {ws ws' : List Cond} {rm : Room} {Pc : Array Value → State → Prop} {Qc : Array Value → State → Outcome → State → Prop} {XC : String → State → State → Prop} {mc ms : Nat} {free : Addr → Prop} {cc : ByteArray} {maxL : Nat} {ret : Option FieldType}
    (hy : plainName y.cls = true) (hw : ws = Cond.code y cc maxL ret :: ws')
    (body : ∀ p e s m args below meth c s₁, BodyLoose p l y (headSpec ws rm) cc maxL ret e s m args below meth c s₁ → c.maxLocals = maxL → (∀ x ∈ c.exceptionTable.toList, False) → Pc args s →
      W p l e (headSpec ws rm).room s m args below meth c s.heap [] 0 0 (vx_MQ below Qc XC args s mc ms free) (entryFrame m args maxL)) : vx_Met l y ws rm Pc Qc XC mc ms free := by
  refine MetFree.of_bodyS (code := cc) (maxLocals := maxL) (ret := ret) hy ?_ ?_
  · intro args s m h hn
    obtain ⟨meth, c, h1, h2, h3, h4, h5, h6, -, -⟩ := Cond.code_spec hn (atoms_spec (ws := ws) h _ (by rw [hw]; exact List.mem_cons_self))
    exact ⟨meth, c, h1, h2, h3, h4, h5, h6⟩
  · intro p e s m args below meth c s₁ B hml hP _
    have hh0 : s₁.heap = s.heap := by rw [B.state]; rfl
    have ht : ∀ x ∈ c.exceptionTable.toList, False := by
      obtain ⟨meth9, c9, h1, h2, -, -, -, -, h7, -⟩ := Cond.code_spec B.named (atoms_spec (ws := ws) B.pre _ (by rw [hw]; exact List.mem_cons_self))
      cases Option.some.inj (h1.symm.trans B.method)
      cases Option.some.inj (h2.symm.trans (Stand.of_body B).code)
      intro x hx
      rw [Array.isEmpty_iff.mp h7] at hx
      cases hx
    obtain ⟨t, a1, o, b1, b2, b3⟩ := body p e s m args below meth c s₁ B hml ht hP s₁ hh0 (Stand.of_body B)
    exact ⟨t, o, a1, b1, b2, b3⟩
/-- the table of a body with handlers -/
theorem vx_table {p : Program} {x y : MethodName} {S : Spec} {cc bytes : ByteArray} {maxL maxL' : Nat} {ret ret' : Option FieldType} {e : Env} {s s₁ : State} {m : MethodId} {args : Array Value} {below : List Frame} {meth : Method} {c : Code} {hh : List (Nat × Nat × Nat × Nat)}
    (B : BodyLoose p l y S cc maxL ret e s m args below meth c s₁) (h : (Cond.codeWith y bytes maxL' ret' hh).before args s = true) : c.exceptionTable.toList = tableOf hh := by
  obtain ⟨m9, meth9, c9, hn9, h1, h2, -, -, h6, -⟩ := Cond.codeWith_spec h
  cases Option.some.inj (hn9.symm.trans B.named)
  cases Option.some.inj (h1.symm.trans B.method)
  cases Option.some.inj (h2.symm.trans (Stand.of_body B).code)
  rw [← h6, table_eq]
end Bodies
end VXA
/-! ===== END ===== -/
/-! ===== BEGIN a static call of a method with an exception table ===== -/
section VXS
variable {p : Program} {l : Launch} {e : Env} {R : Room} {s : State} {m : MethodId} {args : Array Value} {below : List Frame} {meth : Method} {c : Code} {T : State} {H : Heap} {locs : List Loc} {cells slots : Nat}
abbrev vx_CSW (R : Room) (s : State) (args : Array Value) (own : String) (index : Nat) (y : MethodName) (bytes : ByteArray) (maxL : Nat) (ret : Option FieldType) (hh : List (Nat × Nat × Nat × Nat)) (ws : List Cond) (rm : Room) (mc ms n : Nat) : Prop :=
  (rm.cells = mc ∧ rm.slots = ms ∧ rm.frames + 1 ≤ R.frames ∧ 8 + (maxL + 11) + rm.locals ≤ R.locals ∧ (∀ w ∈ ws, ∀ (a' : Array Value) (U : State), s.WarmedH U.vm → w.before a' U = true) ∧ Cond.codeWith y bytes maxL ret hh ∈ ws) ∧
  (Cond.codeWith y bytes maxL ret hh).before args s = true ∧ (Cond.initialized y.cls).before args s = true ∧ (y.cls ≠ "java/lang/invoke/MethodHandle" ∧ y.cls ≠ "java/lang/invoke/VarHandle") ∧
  (∀ sig, parseMethodDescriptor y.desc = some sig → n = sig.parameters.length) ∧ (Cond.methodLink own index y).before args s = true ∧ (Cond.static y).before args s = true
theorem vx_cwSW {own : String} {index maxL mc ms : Nat} {y : MethodName} {bytes : ByteArray} {ret : Option FieldType} {hh : List (Nat × Nat × Nat × Nat)} {Ts ws ws' : List Cond} {rm : Room} (n : Nat) (ht : ∀ w ∈ Ts, w.before args s = true) (hT : GoodIn Ts (va_wsS own index y ws)) (hw : ws = Cond.codeWith y bytes maxL ret hh :: ws') (hrc : rm.cells = mc) (hrs : rm.slots = ms)
    (hd : y.cls ≠ "java/lang/invoke/MethodHandle" ∧ y.cls ≠ "java/lang/invoke/VarHandle" ∧ (parseMethodDescriptor y.desc).map (fun d => d.parameters.length) = some n) (hR : rm.frames + 1 ≤ R.frames ∧ 8 + (maxL + 11) + rm.locals ≤ R.locals) :
    vx_CSW R s args own index y bytes maxL ret hh ws rm mc ms n := by
  have ok : ∀ w ∈ va_wsS own index y ws, w.before args s = true := fun w h => ht w (hT w h).1
  have hG : GoodIn Ts ws := fun w h => hT w (by unfold va_wsS; exact List.mem_append_right _ h)
  have hc : Cond.codeWith y bytes maxL ret hh ∈ ws := by rw [hw]; exact List.mem_cons_self
  refine ⟨⟨hrc, hrs, hR.1, hR.2, pay_in ht hG, hc⟩, ht _ (hG _ hc).1, ok _ (by simp [va_wsS]), ⟨hd.1, hd.2.1⟩, fun sig h => ?_, ok _ (by simp [va_wsS]), ok _ (by simp [va_wsS])⟩
  have h2 := hd.2.2
  rw [h] at h2
  exact (Option.some.inj h2).symm
theorem vx_callSW (X : Stand p l e R s m args below meth c T locs cells slots) (hexec : p.tables.exec = Jvm.exec) {own : String} {index : Nat} {y : MethodName} {bytes : ByteArray} {maxL : Nat} {ret : Option FieldType} {hh : List (Nat × Nat × Nat × Nat)}
    (hown : s.vm.findClass own = some m.cls) (hlink : (Cond.methodLink own index y).before args s = true) (hstat : (Cond.static y).before args s = true) (hinit : (Cond.initialized y.cls).before args s = true)
    (hcode : (Cond.codeWith y bytes maxL ret hh).before args s = true) (hy : y.cls ≠ "java/lang/invoke/MethodHandle" ∧ y.cls ≠ "java/lang/invoke/VarHandle")
    {W9 : Nat} {Pre : Pt → Array Value → Prop} {Post : Pt → Array Value → Option Value → Pt → Prop} (hK : Back l R p e below s args y 3 W9 Pre Post)
    {g : JFrame} (hg : g.method = m) (hsize : g.locals.size = c.maxLocals) {argsL rest : List Value} (hlen : ∀ sig, parseMethodDescriptor y.desc = some sig → argsL.length = sig.parameters.length)
    (hstack : g.stack = argsL.reverse ++ rest) (hW : 2 * g.monitorRoom + (rest.map fun v => v.category).sum ≤ W9) (hdg : decode c.code g.pc = .ok (.invokestatic index, 3))
    (hpre : ∀ vm₁, s.WarmedH vm₁ → Pre ⟨T.setVm vm₁, locs, cells, slots⟩ argsL.toArray) :
    ∃ (v : Option Value) (vm₁ : Vm) (B : Pt), s.WarmedH vm₁ ∧ Stand p l e R s m args below meth c B.U B.locs B.cells B.slots ∧ Post ⟨T.setVm vm₁, locs, cells, slots⟩ argsL.toArray v B ∧
      ∀ target, Steps p.tables e below (B.U.setTop { g with pc := g.pc + 3, stack := v.toList ++ rest }) target → Steps p.tables e below (T.setTop g) target := by
  obtain ⟨mk, methM, cM, hnamed, hmethM, -, -, -, -, -, -, hsigM⟩ := Cond.codeWith_spec hcode
  have hstatic : methM.isStatic = true := Cond.static_spec hnamed hmethM hstat
  obtain ⟨kP, hkP, -⟩ := className_of_methodNamed hnamed
  have hinitP : kP.init = .initialized := Cond.initialized_spec (findClass_of_methodNamed hnamed) hkP hinit
  obtain ⟨vm₁, X₁, hstep₁⟩ := X.invokestatic hexec hown hlink hnamed hmethM hstatic hkP hinitP hy (g := g) hg (argsL := argsL) (rest := rest) (hlen _ hsigM) hstack hdg
  obtain ⟨v, B, X', hpost, hsteps⟩ := hK m meth c ⟨T.setVm vm₁, locs, cells, slots⟩ { g with stack := rest } (.invokestatic index) mk argsL.toArray X₁ hg hsize hdg hW (X₁.named hnamed) (hpre vm₁ X₁.warmed)
  exact ⟨v, vm₁, B, X₁.warmed, X', hpost, fun target h => hstep₁ _ fun acts => by rw [doInvoke_state]; exact hsteps.trans h⟩
theorem vx_runSW {y : MethodName} {bytes cc : ByteArray} {maxL nL mc ms n index : Nat} {ret : Option FieldType} {hh : List (Nat × Nat × Nat × Nat)} {ws : List Cond} {rm : Room} {Pc : Array Value → State → Prop} {Qc : Array Value → State → Outcome → State → Prop} {free : Addr → Prop} {Ts : List Cond} {own : String} {As rest : List Value} {g : JFrame}
    (S : CallFix p m c cc nL s args Ts own) (hM : Met l y ws rm Pc Qc mc ms free) (cw : vx_CSW R s args own index y bytes maxL ret hh ws rm mc ms n) (hp : PreS s H Pc As)
    (hg : g.method = m) (hn : As.length = n) (hsize : g.locals.size = nL) (hstack : g.stack = As.reverse ++ rest) (hW : 2 * g.monitorRoom + (rest.map fun v => v.category).sum ≤ 8) (hdg : decode cc g.pc = .ok (.invokestatic index, 3)) (hf : cells + mc ≤ R.cells ∧ slots + ms ≤ R.slots) :
    va_Run p l e R s m args below meth c H locs cells slots mc ms g rest (Qc As.toArray) (free) := by
  obtain ⟨⟨hrc, hrs, hfr, hlo, hws, hcw⟩, hcode, hini, hy, hlen, hl, hstt⟩ := cw
  have hK : Back l R p e below s args y 3 8 (PreOf R mc ms Pc) (PostOf Qc mc ms free) := va_backW (hh := hh) (bytes := bytes) (maxL := maxL) (ret := ret) hM hp.1 hrc hrs hfr hlo hws hcw (fun a' U hW => word_at hW (Or.inl (by first | rfl | simp [Cond.onTables, Cond.keeps, Cond.steady])) hini)
  obtain ⟨hx, hb, hml, ho, -⟩ := S
  intro T hT X
  obtain ⟨v, vm₁, ⟨U', l2, c2, s2⟩, hW₁, X', ⟨g', mk, t, L, e1, e2, hq, h1, hL, h2, h3⟩, st⟩ := vx_callSW X hx (hh := hh) (bytes := bytes) (maxL := maxL) (ret := ret) ho hl hstt hini hcode hy hK hg (hsize.trans hml.symm) (argsL := As) (rest := rest) (fun sig h => hn.trans (hlen sig h)) hstack hW (by rw [hb]; exact hdg)
    (fun vm₁ hW₁ => ⟨hf.1, hf.2, hp.2 (T.setVm vm₁) hT hW₁⟩)
  dsimp only [Pt.U, Pt.locs, Pt.cells, Pt.slots] at X' e1 e2 h1 h2 h3 st
  subst h1; subst h2; subst h3
  exact ⟨v, (T.setVm vm₁).calling g' mk As.toArray, t, U', L, hT, X', hL, e1, e2, hq, st⟩
/-- not caught here, past rows that name other classes: it goes on to the caller -/
theorem vx_outP {p : Program} {l : Launch} {e : Env} {R : Room} {s : State} {m : MethodId} {args : Array Value} {below : List Frame} {meth : Method} {c : Code} {H : Heap} {locs : List Loc} {cells slots : Nat} {free : Addr → Prop} {ls : Array Slot} {rest : List Value} {Qc : Array Value → State → Outcome → State → Prop} {XC : String → State → State → Prop}
    {pc : Nat} {own E : String} {ce : Cell} {q : Addr} {mc ms : Nat} (hown : s.vm.findClass own = some m.cls) (hlocks : meth.locks = false)
    (hpass : ∀ z ∈ c.exceptionTable.toList, covers z pc = false ∨ (z.catchType ≠ 0 ∧ ∃ nm : String, (Cond.classLink own z.catchType nm).before args s = true ∧ va_Nc E nm s)) (hcell : H[q]? = some ce) (hv : ce.vm = .none) (hcl : s.vm.findClass E = some ce.cls)
    (hx : ∀ t : State, t.heap = H → s.vm.Alike t.vm → XC E s t) (hf : ∀ z ∈ locs, free z.base) (hc : cells ≤ mc) (hs : slots ≤ ms) :
    vx_W p l e R s m args below meth c H locs cells slots (vx_MQ below Qc XC args s mc ms free) (F0 m pc ls rest) q := by
  intro T hT X
  have hpl : e.platform.magicAccessors = ({} : Platform).magicAccessors := by rw [X.admits.platform]
  obtain ⟨vm', hW', X', st⟩ := X.outThrough hlocks q (g := F0 m pc ls rest) rfl rfl rfl (cell := ce) (by rw [hT]; exact hcell) (by rw [hv]; rfl)
    (by obtain ⟨k9, h9, -⟩ := Vm.findClass_spec hcl; exact ⟨k9, h9⟩) (fun z hz => by
      rcases hpass z hz with h | ⟨hz0, nm, hl1, hn1⟩
      · exact Or.inl h
      · obtain ⟨c6, hc6, hcl6⟩ := Cond.classLink_spec hown hl1 e.platform hpl
        obtain ⟨a8, b8, h1, h2, h3⟩ := hn1
        cases Option.some.inj (h1.symm.trans hcl)
        cases Option.some.inj (h2.symm.trans hc6)
        exact Or.inr ⟨hz0, _, hcl6, h3⟩)
  obtain ⟨g₀, hfr⟩ := X'.frames_eq
  have hcell9 : ((T.setVm vm').setFrames (.throwing q :: below)).heap[q]? = some ce := by
    show T.heap[q]? = some ce
    rw [hT]; exact hcell
  have hend : Ended ((T.setVm vm').setFrames (.throwing q :: below)) below (.threw q) := State.frames_setFrames _ (State.cur_lt_of_frames hfr)
  refine ⟨(T.setVm vm').setFrames (.throwing q :: below), ?_, .threw q, X'.here.running, hend, Or.inr ⟨q, rfl, E, ce, locs, hx _ hT (X'.ends _).1.alike, hcell9, hv, hcl, (X'.ends _).1, (X'.ends _).2.mono hc hs, hf⟩⟩
  rw [X.pushThrowing_eq]
  exact st
/-- a thing of a world lies in the heap -/
theorem vx_lt {D : va_G} {cl : List vw_C} {ws : va_W} {H1 : Heap} (h : va_P D cl ws H1) {k : Nat} {q : Nat × va_E} (hk : ws[k]? = some q) : q.1 < H1.size := (h k q hk).lt
end VXS
/-! ===== END ===== -/
/-! ===== BEGIN methods with a table of their own: called by a name, returning or throwing ===== -/
section VXH
/-! vx_backW, vx_callVX, vx_callSX, vx_callVW, vx_runVW, vx_runVX, vx_runSX, vx_ofWH follow the same proofs as their sisters above (Free/Laws.lean, Shelf42/LK1.lean); vx_outP calls Shelf42/NT130.lean (outThrough). -/
section
variable {l : Launch} {R : Room} {p : Program} {e : Env} {below : List Frame} {s : State} {sargs : Array Value} {y : MethodName} {len W9 : Nat}
theorem vx_backW {ws : List Cond} {rm : Room} {Pc : Array Value → State → Prop} {Qc : Array Value → State → Outcome → State → Prop} {XC : String → State → State → Prop} {mc ms : Nat} {free : Addr → Prop} {bytes : ByteArray} {maxL : Nat} {ret : Option FieldType} {hh : List (Nat × Nat × Nat × Nat)}
    (hM : vx_Met l y ws rm Pc Qc XC mc ms free) (hblind : FrameBlind Pc) (hrc : rm.cells = mc) (hrs : rm.slots = ms)
    (hframes : rm.frames + 1 ≤ R.frames) (hlocals : W9 + (maxL + 11) + rm.locals ≤ R.locals)
    (hws : ∀ w ∈ ws, ∀ a' U, s.WarmedH U.vm → w.before a' U = true) (hcode : Cond.codeWith y bytes maxL ret hh ∈ ws) (hinit : ∀ a' U, s.WarmedH U.vm → (Cond.initialized y.cls).before a' U = true) :
    vx_Back l R p e below s sargs y len W9 (PreOf R mc ms Pc) (PostOf Qc mc ms free) (vx_Post XC mc ms free) := by
  intro m meth c A g ig mk a X hg hsize hdg hW hn hp
  have h1 : (headSpec ws rm).pre.before a A.U = true := atoms_intro fun w hw => hws w hw _ _ X.warmed
  have h2 : (Cond.codeWith y bytes maxL ret hh).before a A.U = true := hws _ hcode _ _ X.warmed
  have h3 : (Cond.initialized y.cls).before a A.U = true := hinit _ _ X.warmed
  have h4 : A.cells + (headSpec ws rm).room.cells ≤ R.cells := by rw [show (headSpec ws rm).room.cells = mc from hrc]; exact hp.1
  have h5 : A.slots + (headSpec ws rm).room.slots ≤ R.slots := by rw [show (headSpec ws rm).room.slots = ms from hrs]; exact hp.2.1
  have hPc : Pc a (A.U.calling g mk a) := hblind _ _ _ _ hp.2.2
  obtain ⟨U, Ls, c0, s0⟩ := A
  dsimp only [Pt.U, Pt.locs, Pt.cells, Pt.slots] at h1 h2 h3 h4 h5 X hn hPc ⊢
  obtain ⟨m9, methY, cY, hn9, hmY, hcY, -, hlY, -⟩ := Cond.codeWith_spec h2
  cases Option.some.inj (hn9.symm.trans hn)
  obtain ⟨kY, hkY, -⟩ := className_of_methodNamed hn
  have hinitY : kY.init = .initialized := Cond.initialized_spec (findClass_of_methodNamed hn) hkY h3
  have h : At U g.method c below := by rw [hg]; exact X.here
  have hlocals9 : W9 + (maxL + 11) + (headSpec ws rm).room.locals ≤ R.locals := hlocals
  have happ : (headSpec ws rm).appliesLoose y e.platform (U.calling g mk a) = true :=
    Spec.appliesLoose_calling (g := g) h hdg hn hkY hinitY
      (X.room_calling (g := g) (R' := (headSpec ws rm).room) hsize hmY hcY hframes (by rw [hlY]; omega) h4 h5) h1
  obtain ⟨mid, hmid⟩ := h.above
  have hfr : (U.setTop g).frames = (.java g :: mid) ++ below := by rw [State.frames_setTop' g h.top, hmid]; rfl
  obtain ⟨o, s₂, hsteps, -, hend, hq⟩ := Steps.callFree hM p X.admits X.cas X.clock (acts := []) hfr happ hPc trivial
  have hq' : vx_Q Qc XC mc ms free a (U.calling g mk a) o s₂ := hq
  rw [State.frames_setTop' g h.top] at hend
  obtain ⟨g₀, hg0⟩ := Option.isSome_iff_exists.mp h.top
  obtain ⟨r, hr⟩ := State.topJava?_eq_some.mp hg0
  have hr' : (({ U with heap := s₂.heap, slotsUsed := s₂.slotsUsed } : State).setVm s₂.vm).frames = .java g₀ :: r := hr
  rcases hq' with ⟨hqc, L, hfe, hL⟩ | ⟨q, rfl, E, ce, L, hx, hce, hcv, hcl, hW₂, hsm, hL⟩
  · obtain ⟨⟨v, rfl⟩, hW₂, e2, q2, q3, q4, q5, q6⟩ := id hfe
    have e3 : s₂ = ({ (U.calling g mk a).setFrames s₂.frames with heap := s₂.heap, slotsUsed := s₂.slotsUsed } : State).setVm s₂.vm := by
      have : s₂ = ({ s₂ with vm := (U.calling g mk a).vm } : State).setVm s₂.vm := rfl
      rw [e2] at this
      exact this
    obtain ⟨c₂, i₂, len₂, hc₂, hd₂, hf₂⟩ := hend
    have hW' : U.WarmedH s₂.vm := hW₂
    have hcc : c₂ = c := by
      have h1 : s₂.code? g.method = U.code? g.method := by
        rw [State.code?_eq, State.code?_eq, hW'.alike.method?]
      exact Option.some.inj (hc₂.symm.trans (h1.trans h.code))
    subst hcc
    have hlen : len₂ = len := by rw [hdg] at hd₂; cases hd₂; rfl
    subst hlen
    have hs₂ : s₂ = (({ U with heap := s₂.heap, slotsUsed := s₂.slotsUsed } : State).setVm s₂.vm).setTop { g with pc := g.pc + len₂, stack := v.toList ++ g.stack } := by
      refine e3.trans ?_
      rw [hf₂, State.calling_eq h.top, State.setFrames_setFrames, State.setTop_of_frames _ hr', hr]
      rfl
    have hsame : U.sameButNew ({ U with heap := s₂.heap, slotsUsed := s₂.slotsUsed } : State) L mc ms := by
      refine ⟨?_, q2, q3, q4, q5, q6⟩
      obtain ⟨t, ht, -⟩ := State.frames_cons hr
      show ({ U with heap := s₂.heap, slotsUsed := s₂.slotsUsed } : State) = { U.setFrames U.frames with heap := s₂.heap, slotsUsed := s₂.slotsUsed }
      rw [State.setFrames_self ht]
    subst hg
    refine Or.inl ⟨v, ⟨(({ U with heap := s₂.heap, slotsUsed := s₂.slotsUsed } : State).setVm s₂.vm), Ls ++ L, c0 + mc, s0 + ms⟩,
      ⟨X.admits, X.cas, X.clock, X.frames, X.room, X.hears, X.method, X.code, (X.here.setHeapUsed s₂.heap s₂.slotsUsed).setVm hW'.alike, X.tail, State.WarmedH.trans X.warmed hW', X.limits, X.bytes, X.same.trans (hsame.setVm s.vm)⟩,
      ⟨g, mk, s₂, L, rfl, rfl, hqc, rfl, hL, rfl, rfl⟩, ?_⟩
    show Steps p.tables e below _ ((({ U with heap := s₂.heap, slotsUsed := s₂.slotsUsed } : State).setVm s₂.vm).setTop { g with pc := g.pc + len₂, stack := v.toList ++ g.stack })
    rw [← hs₂]
    exact hsteps
  · obtain ⟨e2, q2, q3, q4, q5, q6⟩ := id hsm
    have e3 : s₂ = ({ (U.calling g mk a).setFrames s₂.frames with heap := s₂.heap, slotsUsed := s₂.slotsUsed } : State).setVm s₂.vm := by
      have : s₂ = ({ s₂ with vm := (U.calling g mk a).vm } : State).setVm s₂.vm := rfl
      rw [e2] at this
      exact this
    have hf₂ : s₂.frames = .throwing q :: .java g :: U.frames.tail := hend
    have hW' : U.WarmedH s₂.vm := hW₂
    have hs₂ : s₂ = ((({ U with heap := s₂.heap, slotsUsed := s₂.slotsUsed } : State).setVm s₂.vm).setTop g).pushFrame (.throwing q) := by
      refine e3.trans ?_
      rw [hf₂, State.calling_eq h.top, State.setFrames_setFrames, State.pushFrame, State.frames_setTop _ hr', State.setTop_of_frames _ hr', State.setFrames_setFrames, hr]
      rfl
    have hsame : U.sameButNew ({ U with heap := s₂.heap, slotsUsed := s₂.slotsUsed } : State) L mc ms := by
      refine ⟨?_, q2, q3, q4, q5, q6⟩
      obtain ⟨t, ht, -⟩ := State.frames_cons hr
      show ({ U with heap := s₂.heap, slotsUsed := s₂.slotsUsed } : State) = { U.setFrames U.frames with heap := s₂.heap, slotsUsed := s₂.slotsUsed }
      rw [State.setFrames_self ht]
    subst hg
    refine Or.inr ⟨q, ⟨(({ U with heap := s₂.heap, slotsUsed := s₂.slotsUsed } : State).setVm s₂.vm), Ls ++ L, c0 + mc, s0 + ms⟩,
      ⟨X.admits, X.cas, X.clock, X.frames, X.room, X.hears, X.method, X.code, (X.here.setHeapUsed s₂.heap s₂.slotsUsed).setVm hW'.alike, X.tail, State.WarmedH.trans X.warmed hW', X.limits, X.bytes, X.same.trans (hsame.setVm s.vm)⟩,
      ⟨g, mk, s₂, L, E, ce, rfl, rfl, hx, hce, hcv, hcl, rfl, hL, rfl, rfl⟩, ?_⟩
    show Steps p.tables e below _ (((({ U with heap := s₂.heap, slotsUsed := s₂.slotsUsed } : State).setVm s₂.vm).setTop g).pushFrame (.throwing q))
    rw [← hs₂]
    exact hsteps
end
variable {p : Program} {l : Launch} {e : Env} {R : Room} {s : State} {m : MethodId} {args : Array Value} {below : List Frame} {meth : Method} {c : Code} {T : State} {H : Heap} {locs : List Loc} {cells slots : Nat}
theorem vx_callVX (X : Stand p l e R s m args below meth c T locs cells slots) (hexec : p.tables.exec = Jvm.exec) {own C : String} {index : Nat} {y : MethodName} {bytes : ByteArray} {maxL : Nat} {ret : Option FieldType} {hh : List (Nat × Nat × Nat × Nat)}
    (hown : s.vm.findClass own = some m.cls) (hlink : (Cond.methodLink own index y).before args s = true) (hinst : (Cond.instanceMethod y).before args s = true) (hsel : (Cond.selects C y y).before args s = true)
    (hcode : (Cond.codeWith y bytes maxL ret hh).before args s = true) (hy : y.cls ≠ "java/lang/invoke/MethodHandle" ∧ y.cls ≠ "java/lang/invoke/VarHandle")
    {W9 : Nat} {Pre : Pt → Array Value → Prop} {Post : Pt → Array Value → Option Value → Pt → Prop} {PostX : Pt → Array Value → Addr → Pt → Prop} (hK : vx_Back l R p e below s args y 3 W9 Pre Post PostX)
    {b : Addr} {cellB : Cell} (hcell : T.heap[b]? = some cellB) (hobj : cellB.vm.isStatics = false) (hcls : s.vm.findClass C = some cellB.cls)
    {g : JFrame} (hg : g.method = m) (hsize : g.locals.size = c.maxLocals) {argsL rest : List Value} (hlen : ∀ sig, parseMethodDescriptor y.desc = some sig → argsL.length = sig.parameters.length)
    (hstack : g.stack = argsL.reverse ++ .ref b :: rest) (hW : 2 * g.monitorRoom + (rest.map fun v => v.category).sum ≤ W9) (hdg : decode c.code g.pc = .ok (.invokevirtual index, 3))
    (hpre : ∀ vm₁, s.WarmedH vm₁ → Pre ⟨T.setVm vm₁, locs, cells, slots⟩ (Value.ref b :: argsL).toArray) :
    (∃ (v : Option Value) (vm₁ : Vm) (B : Pt), s.WarmedH vm₁ ∧ Stand p l e R s m args below meth c B.U B.locs B.cells B.slots ∧ Post ⟨T.setVm vm₁, locs, cells, slots⟩ (Value.ref b :: argsL).toArray v B ∧
      ∀ target, Steps p.tables e below (B.U.setTop { g with pc := g.pc + 3, stack := v.toList ++ rest }) target → Steps p.tables e below (T.setTop g) target) ∨
    (∃ (q : Addr) (vm₁ : Vm) (B : Pt), s.WarmedH vm₁ ∧ Stand p l e R s m args below meth c B.U B.locs B.cells B.slots ∧ PostX ⟨T.setVm vm₁, locs, cells, slots⟩ (Value.ref b :: argsL).toArray q B ∧
      Steps p.tables e below (T.setTop g) ((B.U.setTop { g with stack := rest }).pushFrame (.throwing q))) := by
  obtain ⟨mk, methM, hnamed, hmethM, hstM, habM⟩ := Cond.instanceMethod_spec hinst
  obtain ⟨m8, methM', cM, hn8, hmethM', -, -, -, -, -, -, hsigM⟩ := Cond.codeWith_spec hcode
  cases Option.some.inj (hn8.symm.trans hnamed)
  cases hmethM.symm.trans hmethM'
  obtain ⟨c2, r2, m2, q1, q2, q3, q4, kP, hkP, hkPi⟩ := Cond.selects_spec hsel
  cases hcls.symm.trans q1
  cases (State.methodFound?_of_named hnamed hy).symm.trans q2
  cases hnamed.symm.trans q3
  have hselP : selectMethod e.platform s.vm cellB.cls mk = .method mk := by rw [Launch.admits_selectMethod X.admits]; exact q4
  obtain ⟨vm₁, X₁, hstep₁⟩ := X.invokevirtual hexec hown hlink hnamed hmethM hstM hkP hkPi hy (a := b) (cell := cellB) hcell
    (fun z h => by rw [h] at hobj; cases hobj) hselP hmethM habM hkP hkPi (g := g) hg (argsL := argsL) (rest := rest) (hlen _ hsigM) hstack hdg
  rcases hK m meth c ⟨T.setVm vm₁, locs, cells, slots⟩ { g with stack := rest } (.invokevirtual index) mk (Value.ref b :: argsL).toArray X₁ hg hsize hdg hW (X₁.named hnamed) (hpre vm₁ X₁.warmed) with ⟨v, B, X', hpost, hsteps⟩ | ⟨q, B, X', hpost, hsteps⟩
  · exact Or.inl ⟨v, vm₁, B, X₁.warmed, X', hpost, fun target h => hstep₁ _ fun acts => by rw [doInvoke_state]; exact hsteps.trans h⟩
  · exact Or.inr ⟨q, vm₁, B, X₁.warmed, X', hpost, hstep₁ _ fun acts => by rw [doInvoke_state]; exact hsteps⟩
theorem vx_callSX (X : Stand p l e R s m args below meth c T locs cells slots) (hexec : p.tables.exec = Jvm.exec) {own : String} {index : Nat} {y : MethodName} {bytes : ByteArray} {maxL : Nat} {ret : Option FieldType} {hh : List (Nat × Nat × Nat × Nat)}
    (hown : s.vm.findClass own = some m.cls) (hlink : (Cond.methodLink own index y).before args s = true) (hstat : (Cond.static y).before args s = true) (hinit : (Cond.initialized y.cls).before args s = true)
    (hcode : (Cond.codeWith y bytes maxL ret hh).before args s = true) (hy : y.cls ≠ "java/lang/invoke/MethodHandle" ∧ y.cls ≠ "java/lang/invoke/VarHandle")
    {W9 : Nat} {Pre : Pt → Array Value → Prop} {Post : Pt → Array Value → Option Value → Pt → Prop} {PostX : Pt → Array Value → Addr → Pt → Prop} (hK : vx_Back l R p e below s args y 3 W9 Pre Post PostX)
    {g : JFrame} (hg : g.method = m) (hsize : g.locals.size = c.maxLocals) {argsL rest : List Value} (hlen : ∀ sig, parseMethodDescriptor y.desc = some sig → argsL.length = sig.parameters.length)
    (hstack : g.stack = argsL.reverse ++ rest) (hW : 2 * g.monitorRoom + (rest.map fun v => v.category).sum ≤ W9) (hdg : decode c.code g.pc = .ok (.invokestatic index, 3))
    (hpre : ∀ vm₁, s.WarmedH vm₁ → Pre ⟨T.setVm vm₁, locs, cells, slots⟩ argsL.toArray) :
    (∃ (v : Option Value) (vm₁ : Vm) (B : Pt), s.WarmedH vm₁ ∧ Stand p l e R s m args below meth c B.U B.locs B.cells B.slots ∧ Post ⟨T.setVm vm₁, locs, cells, slots⟩ argsL.toArray v B ∧
      ∀ target, Steps p.tables e below (B.U.setTop { g with pc := g.pc + 3, stack := v.toList ++ rest }) target → Steps p.tables e below (T.setTop g) target) ∨
    (∃ (q : Addr) (vm₁ : Vm) (B : Pt), s.WarmedH vm₁ ∧ Stand p l e R s m args below meth c B.U B.locs B.cells B.slots ∧ PostX ⟨T.setVm vm₁, locs, cells, slots⟩ argsL.toArray q B ∧
      Steps p.tables e below (T.setTop g) ((B.U.setTop { g with stack := rest }).pushFrame (.throwing q))) := by
  obtain ⟨mk, methM, cM, hnamed, hmethM, -, -, -, -, -, -, hsigM⟩ := Cond.codeWith_spec hcode
  have hstatic : methM.isStatic = true := Cond.static_spec hnamed hmethM hstat
  obtain ⟨kP, hkP, -⟩ := className_of_methodNamed hnamed
  have hinitP : kP.init = .initialized := Cond.initialized_spec (findClass_of_methodNamed hnamed) hkP hinit
  obtain ⟨vm₁, X₁, hstep₁⟩ := X.invokestatic hexec hown hlink hnamed hmethM hstatic hkP hinitP hy (g := g) hg (argsL := argsL) (rest := rest) (hlen _ hsigM) hstack hdg
  rcases hK m meth c ⟨T.setVm vm₁, locs, cells, slots⟩ { g with stack := rest } (.invokestatic index) mk argsL.toArray X₁ hg hsize hdg hW (X₁.named hnamed) (hpre vm₁ X₁.warmed) with ⟨v, B, X', hpost, hsteps⟩ | ⟨q, B, X', hpost, hsteps⟩
  · exact Or.inl ⟨v, vm₁, B, X₁.warmed, X', hpost, fun target h => hstep₁ _ fun acts => by rw [doInvoke_state]; exact hsteps.trans h⟩
  · exact Or.inr ⟨q, vm₁, B, X₁.warmed, X', hpost, hstep₁ _ fun acts => by rw [doInvoke_state]; exact hsteps⟩
theorem vx_callVW (X : Stand p l e R s m args below meth c T locs cells slots) (hexec : p.tables.exec = Jvm.exec) {own C : String} {index : Nat} {y : MethodName} {bytes : ByteArray} {maxL : Nat} {ret : Option FieldType} {hh : List (Nat × Nat × Nat × Nat)}
    (hown : s.vm.findClass own = some m.cls) (hlink : (Cond.methodLink own index y).before args s = true) (hinst : (Cond.instanceMethod y).before args s = true) (hsel : (Cond.selects C y y).before args s = true)
    (hcode : (Cond.codeWith y bytes maxL ret hh).before args s = true) (hy : y.cls ≠ "java/lang/invoke/MethodHandle" ∧ y.cls ≠ "java/lang/invoke/VarHandle")
    {W9 : Nat} {Pre : Pt → Array Value → Prop} {Post : Pt → Array Value → Option Value → Pt → Prop} (hK : Back l R p e below s args y 3 W9 Pre Post)
    {b : Addr} {cellB : Cell} (hcell : T.heap[b]? = some cellB) (hobj : cellB.vm.isStatics = false) (hcls : s.vm.findClass C = some cellB.cls)
    {g : JFrame} (hg : g.method = m) (hsize : g.locals.size = c.maxLocals) {argsL rest : List Value} (hlen : ∀ sig, parseMethodDescriptor y.desc = some sig → argsL.length = sig.parameters.length)
    (hstack : g.stack = argsL.reverse ++ .ref b :: rest) (hW : 2 * g.monitorRoom + (rest.map fun v => v.category).sum ≤ W9) (hdg : decode c.code g.pc = .ok (.invokevirtual index, 3))
    (hpre : ∀ vm₁, s.WarmedH vm₁ → Pre ⟨T.setVm vm₁, locs, cells, slots⟩ (Value.ref b :: argsL).toArray) :
    ∃ (v : Option Value) (vm₁ : Vm) (B : Pt), s.WarmedH vm₁ ∧ Stand p l e R s m args below meth c B.U B.locs B.cells B.slots ∧ Post ⟨T.setVm vm₁, locs, cells, slots⟩ (Value.ref b :: argsL).toArray v B ∧
      ∀ target, Steps p.tables e below (B.U.setTop { g with pc := g.pc + 3, stack := v.toList ++ rest }) target → Steps p.tables e below (T.setTop g) target := by
  obtain ⟨mk, methM, hnamed, hmethM, hstM, habM⟩ := Cond.instanceMethod_spec hinst
  obtain ⟨m8, methM', cM, hn8, hmethM', -, -, -, -, -, -, hsigM⟩ := Cond.codeWith_spec hcode
  cases Option.some.inj (hn8.symm.trans hnamed)
  cases hmethM.symm.trans hmethM'
  obtain ⟨c2, r2, m2, q1, q2, q3, q4, kP, hkP, hkPi⟩ := Cond.selects_spec hsel
  cases hcls.symm.trans q1
  cases (State.methodFound?_of_named hnamed hy).symm.trans q2
  cases hnamed.symm.trans q3
  have hselP : selectMethod e.platform s.vm cellB.cls mk = .method mk := by rw [Launch.admits_selectMethod X.admits]; exact q4
  obtain ⟨vm₁, X₁, hstep₁⟩ := X.invokevirtual hexec hown hlink hnamed hmethM hstM hkP hkPi hy (a := b) (cell := cellB) hcell
    (fun z h => by rw [h] at hobj; cases hobj) hselP hmethM habM hkP hkPi (g := g) hg (argsL := argsL) (rest := rest) (hlen _ hsigM) hstack hdg
  obtain ⟨v, B, X', hpost, hsteps⟩ := hK m meth c ⟨T.setVm vm₁, locs, cells, slots⟩ { g with stack := rest } (.invokevirtual index) mk (Value.ref b :: argsL).toArray X₁ hg hsize hdg hW (X₁.named hnamed) (hpre vm₁ X₁.warmed)
  exact ⟨v, vm₁, B, X₁.warmed, X', hpost, fun target h => hstep₁ _ fun acts => by rw [doInvoke_state]; exact hsteps.trans h⟩
abbrev vx_CVW (R : Room) (s : State) (args : Array Value) (own C : String) (index : Nat) (y : MethodName) (bytes : ByteArray) (maxL : Nat) (ret : Option FieldType) (hh : List (Nat × Nat × Nat × Nat)) (ws : List Cond) (rm : Room) (mc ms n : Nat) : Prop :=
  (rm.cells = mc ∧ rm.slots = ms ∧ rm.frames + 1 ≤ R.frames ∧ 8 + (maxL + 11) + rm.locals ≤ R.locals ∧ (∀ w ∈ ws, ∀ (a' : Array Value) (U : State), s.WarmedH U.vm → w.before a' U = true) ∧ Cond.codeWith y bytes maxL ret hh ∈ ws) ∧
  (Cond.codeWith y bytes maxL ret hh).before args s = true ∧ (Cond.initialized y.cls).before args s = true ∧ (y.cls ≠ "java/lang/invoke/MethodHandle" ∧ y.cls ≠ "java/lang/invoke/VarHandle") ∧
  (∀ sig, parseMethodDescriptor y.desc = some sig → n = sig.parameters.length) ∧ (Cond.methodLink own index y).before args s = true ∧ (Cond.instanceMethod y).before args s = true ∧ (Cond.selects C y y).before args s = true
theorem vx_cwVW {own C : String} {index maxL mc ms : Nat} {y : MethodName} {bytes : ByteArray} {ret : Option FieldType} {hh : List (Nat × Nat × Nat × Nat)} {Ts ws ws' : List Cond} {rm : Room} (n : Nat) (ht : ∀ w ∈ Ts, w.before args s = true) (hT : GoodIn Ts (wsV own index C y ws)) (hw : ws = Cond.codeWith y bytes maxL ret hh :: ws') (hrc : rm.cells = mc) (hrs : rm.slots = ms)
    (hd : y.cls = C ∧ y.cls ≠ "java/lang/invoke/MethodHandle" ∧ y.cls ≠ "java/lang/invoke/VarHandle" ∧ (parseMethodDescriptor y.desc).map (fun d => d.parameters.length) = some n) (hR : rm.frames + 1 ≤ R.frames ∧ 8 + (maxL + 11) + rm.locals ≤ R.locals) :
    vx_CVW R s args own C index y bytes maxL ret hh ws rm mc ms n := by
  obtain ⟨hC, hd⟩ := hd
  subst hC
  have ok : ∀ w ∈ wsV own index y.cls y ws, w.before args s = true := fun w h => ht w (hT w h).1
  have hG : GoodIn Ts ws := fun w h => hT w (by unfold wsV; exact List.mem_append_right _ h)
  have hc : Cond.codeWith y bytes maxL ret hh ∈ ws := by rw [hw]; exact List.mem_cons_self
  refine ⟨⟨hrc, hrs, hR.1, hR.2, pay_in ht hG, hc⟩, ht _ (hG _ hc).1, ok _ (by simp [wsV]), ⟨hd.1, hd.2.1⟩, fun sig h => ?_, ok _ (by simp [wsV]), ok _ (by simp [wsV]), ok _ (by simp [wsV])⟩
  have h2 := hd.2.2
  rw [h] at h2
  exact (Option.some.inj h2).symm
theorem vx_runVW {y : MethodName} {bytes cc : ByteArray} {maxL nL mc ms n index : Nat} {ret : Option FieldType} {hh : List (Nat × Nat × Nat × Nat)} {ws : List Cond} {rm : Room} {Pc : Array Value → State → Prop} {Qc : Array Value → State → Outcome → State → Prop} {free : Addr → Prop} {Ts : List Cond} {own C : String} {b : Addr} {As rest : List Value} {g : JFrame}
    (S : CallFix p m c cc nL s args Ts own) (hM : Met l y ws rm Pc Qc mc ms free) (cw : vx_CVW R s args own C index y bytes maxL ret hh ws rm mc ms n) (hp : PreV s H C b Pc As)
    (hg : g.method = m) (hn : As.length = n) (hsize : g.locals.size = nL) (hstack : g.stack = As.reverse ++ .ref b :: rest) (hW : 2 * g.monitorRoom + (rest.map fun v => v.category).sum ≤ 8) (hdg : decode cc g.pc = .ok (.invokevirtual index, 3)) (hf : cells + mc ≤ R.cells ∧ slots + ms ≤ R.slots) :
    va_Run p l e R s m args below meth c H locs cells slots mc ms g rest (Qc (Value.ref b :: As).toArray) free := by
  obtain ⟨⟨hrc, hrs, hfr, hlo, hws, hcw⟩, hcode, hini, hy, hlen, hl, hin, hse⟩ := cw
  have hK : Back l R p e below s args y 3 8 (PreOf R mc ms Pc) (PostOf Qc mc ms free) := va_backW (hh := hh) (bytes := bytes) (maxL := maxL) (ret := ret) hM hp.1 hrc hrs hfr hlo hws hcw (fun a' U hW => word_at hW (Or.inl (by first | rfl | simp [Cond.onTables, Cond.keeps, Cond.steady])) hini)
  obtain ⟨hx, hb, hml, ho, -⟩ := S
  obtain ⟨-, ⟨cellB, hcB, hoB, hclB⟩, hPc⟩ := hp
  intro T hT X
  obtain ⟨v, vm₁, ⟨U', l2, c2, s2⟩, hW₁, X', ⟨g', mk, t, L, e1, e2, hq, h1, hL, h2, h3⟩, st⟩ := vx_callVW X hx (C := C) (hh := hh) (bytes := bytes) (maxL := maxL) (ret := ret) ho hl hin hse hcode hy hK (by rw [hT]; exact hcB) hoB hclB hg (hsize.trans hml.symm) (argsL := As) (rest := rest) (fun sig h => hn.trans (hlen sig h)) hstack hW (by rw [hb]; exact hdg)
    (fun vm₁ hW₁ => ⟨hf.1, hf.2, hPc (T.setVm vm₁) hT hW₁⟩)
  dsimp only [Pt.U, Pt.locs, Pt.cells, Pt.slots] at X' e1 e2 h1 h2 h3 st
  subst h1; subst h2; subst h3
  exact ⟨v, (T.setVm vm₁).calling g' mk (Value.ref b :: As).toArray, t, U', L, hT, X', hL, e1, e2, hq, st⟩
section
variable {y : MethodName} {bytes cc : ByteArray} {maxL nL mc ms n index : Nat} {ret : Option FieldType} {ws : List Cond} {rm : Room} {Pc : Array Value → State → Prop} {Qc : Array Value → State → Outcome → State → Prop} {XC : String → State → State → Prop} {free : Addr → Prop} {Ts : List Cond} {own C : String} {b : Addr} {As rest : List Value} {g : JFrame}
theorem vx_runVX {hh : List (Nat × Nat × Nat × Nat)} (S : CallFix p m c cc nL s args Ts own) (hM : vx_Met l y ws rm Pc Qc XC mc ms free) (cw : vx_CVW R s args own C index y bytes maxL ret hh ws rm mc ms n) (hp : PreV s H C b Pc As)
    (hg : g.method = m) (hn : As.length = n) (hsize : g.locals.size = nL) (hstack : g.stack = As.reverse ++ .ref b :: rest) (hW : 2 * g.monitorRoom + (rest.map fun v => v.category).sum ≤ 8) (hdg : decode cc g.pc = .ok (.invokevirtual index, 3)) (hf : cells + mc ≤ R.cells ∧ slots + ms ≤ R.slots) :
    vx_Run p l e R s m args below meth c H locs cells slots mc ms g rest (Qc (Value.ref b :: As).toArray) XC free := by
  obtain ⟨⟨hrc, hrs, hfr, hlo, hws, hcw⟩, hcode, hini, hy, hlen, hl, hin, hse⟩ := cw
  have hK : vx_Back l R p e below s args y 3 8 (PreOf R mc ms Pc) (PostOf Qc mc ms free) (vx_Post XC mc ms free) := vx_backW (hh := hh) (bytes := bytes) (maxL := maxL) (ret := ret) hM hp.1 hrc hrs hfr hlo hws hcw (fun a' U hW => word_at hW (Or.inl (by first | rfl | simp [Cond.onTables, Cond.keeps, Cond.steady])) hini)
  obtain ⟨hx, hb, hml, ho, -⟩ := S
  obtain ⟨-, ⟨cellB, hcB, hoB, hclB⟩, hPc⟩ := hp
  intro T hT X
  rcases vx_callVX X hx (C := C) (hh := hh) (bytes := bytes) (maxL := maxL) (ret := ret) ho hl hin hse hcode hy hK (by rw [hT]; exact hcB) hoB hclB hg (hsize.trans hml.symm) (argsL := As) (rest := rest) (fun sig h => hn.trans (hlen sig h)) hstack hW (by rw [hb]; exact hdg)
    (fun vm₁ hW₁ => ⟨hf.1, hf.2, hPc (T.setVm vm₁) hT hW₁⟩) with ⟨v, vm₁, ⟨U', l2, c2, s2⟩, hW₁, X', ⟨g', mk, t, L, e1, e2, hq, h1, hL, h2, h3⟩, st⟩ | ⟨q, vm₁, ⟨U', l2, c2, s2⟩, hW₁, X', ⟨g', mk, t, L, E, ce, e1, e2, hq, hce, hcv, hcl, h1, hL, h2, h3⟩, st⟩
  · dsimp only [Pt.U, Pt.locs, Pt.cells, Pt.slots] at X' e1 e2 h1 h2 h3 st
    subst h1; subst h2; subst h3
    exact Or.inl ⟨v, (T.setVm vm₁).calling g' mk (Value.ref b :: As).toArray, t, U', L, hT, X', hL, e1, e2, hq, st⟩
  · dsimp only [Pt.U, Pt.locs, Pt.cells, Pt.slots] at X' e1 e2 h1 h2 h3 st hcl
    subst h1; subst h2; subst h3
    exact Or.inr ⟨q, (T.setVm vm₁).calling g' mk (Value.ref b :: As).toArray, t, U', L, E, ce, hT, X', hL, e1, e2, hq, hce, hcv, vx_cls hW₁ hcl, st⟩
theorem vx_runSX {hh : List (Nat × Nat × Nat × Nat)} (S : CallFix p m c cc nL s args Ts own) (hM : vx_Met l y ws rm Pc Qc XC mc ms free) (cw : vx_CSW R s args own index y bytes maxL ret hh ws rm mc ms n) (hp : PreS s H Pc As)
    (hg : g.method = m) (hn : As.length = n) (hsize : g.locals.size = nL) (hstack : g.stack = As.reverse ++ rest) (hW : 2 * g.monitorRoom + (rest.map fun v => v.category).sum ≤ 8) (hdg : decode cc g.pc = .ok (.invokestatic index, 3)) (hf : cells + mc ≤ R.cells ∧ slots + ms ≤ R.slots) :
    vx_Run p l e R s m args below meth c H locs cells slots mc ms g rest (Qc As.toArray) XC free := by
  obtain ⟨⟨hrc, hrs, hfr, hlo, hws, hcw⟩, hcode, hini, hy, hlen, hl, hstt⟩ := cw
  have hK : vx_Back l R p e below s args y 3 8 (PreOf R mc ms Pc) (PostOf Qc mc ms free) (vx_Post XC mc ms free) := vx_backW (hh := hh) (bytes := bytes) (maxL := maxL) (ret := ret) hM hp.1 hrc hrs hfr hlo hws hcw (fun a' U hW => word_at hW (Or.inl (by first | rfl | simp [Cond.onTables, Cond.keeps, Cond.steady])) hini)
  obtain ⟨hx, hb, hml, ho, -⟩ := S
  intro T hT X
  rcases vx_callSX X hx (hh := hh) (bytes := bytes) (maxL := maxL) (ret := ret) ho hl hstt hini hcode hy hK hg (hsize.trans hml.symm) (argsL := As) (rest := rest) (fun sig h => hn.trans (hlen sig h)) hstack hW (by rw [hb]; exact hdg)
    (fun vm₁ hW₁ => ⟨hf.1, hf.2, hp.2 (T.setVm vm₁) hT hW₁⟩) with ⟨v, vm₁, ⟨U', l2, c2, s2⟩, hW₁, X', ⟨g', mk, t, L, e1, e2, hq, h1, hL, h2, h3⟩, st⟩ | ⟨q, vm₁, ⟨U', l2, c2, s2⟩, hW₁, X', ⟨g', mk, t, L, E, ce, e1, e2, hq, hce, hcv, hcl, h1, hL, h2, h3⟩, st⟩
  · dsimp only [Pt.U, Pt.locs, Pt.cells, Pt.slots] at X' e1 e2 h1 h2 h3 st
    subst h1; subst h2; subst h3
    exact Or.inl ⟨v, (T.setVm vm₁).calling g' mk As.toArray, t, U', L, hT, X', hL, e1, e2, hq, st⟩
  · dsimp only [Pt.U, Pt.locs, Pt.cells, Pt.slots] at X' e1 e2 h1 h2 h3 st hcl
    subst h1; subst h2; subst h3
    exact Or.inr ⟨q, (T.setVm vm₁).calling g' mk As.toArray, t, U', L, E, ce, hT, X', hL, e1, e2, hq, hce, hcv, vx_cls hW₁ hcl, st⟩
end
end VXH
theorem vx_ofWH {l : Launch} {y : MethodName} {ws ws' : List Cond} {rm : Room} {Pc : Array Value → State → Prop} {Qc : Array Value → State → Outcome → State → Prop} {XC : String → State → State → Prop} {mc ms : Nat} {free : Addr → Prop} {cc : ByteArray} {maxL : Nat} {ret : Option FieldType} {hh : List (Nat × Nat × Nat × Nat)}
    (hy : plainName y.cls = true) (hw : ws = Cond.codeWith y cc maxL ret hh :: ws')
    (body : ∀ p e s m args below meth c s₁, BodyLoose p l y (headSpec ws rm) cc maxL ret e s m args below meth c s₁ → c.maxLocals = maxL → Pc args s →
      W p l e (headSpec ws rm).room s m args below meth c s.heap [] 0 0 (vx_MQ below Qc XC args s mc ms free) (entryFrame m args maxL)) : vx_Met l y ws rm Pc Qc XC mc ms free := by
  refine MetFree.of_bodyS (code := cc) (maxLocals := maxL) (ret := ret) hy ?_ ?_
  · intro args s m h hn
    obtain ⟨m9, meth, c, hn9, h1, h2, h3, h4, -, h5, h6, -⟩ := Cond.codeWith_spec (atoms_spec (ws := ws) h _ (by rw [hw]; exact List.mem_cons_self))
    cases hn.symm.trans hn9
    exact ⟨meth, c, h1, h2, h3, h4, h5, h6⟩
  · intro p e s m args below meth c s₁ B hml hP _
    have hh0 : s₁.heap = s.heap := by rw [B.state]; rfl
    obtain ⟨t, a1, o, b1, b2, b3⟩ := body p e s m args below meth c s₁ B hml hP s₁ hh0 (Stand.of_body B)
    exact ⟨t, o, a1, b1, b2, b3⟩
/-! ===== END ===== -/
end
section
def RX0 : String := "PepperboxTable$Auction"
def TX0 : u_T := fun k => match k with
  | 0 => ("PepperboxTable$Auction", "bids", "[I", true)
  | 1 => ("PepperboxTable$Auction", "count", "I", false)
  | 2 => ("PepperboxTable$Auction", "dealer", "I", false)
  | 3 => ("PepperboxTable$Auction", "lastLevel", "I", false)
  | 4 => ("PepperboxTable$Auction", "lastBidder", "I", false)
  | 5 => ("PepperboxTable$Auction", "times", "I", false)
  | _ => ("PepperboxTable$Auction", "passes", "I", false)
def tyX0 : Nat → FieldType := fun k => match k with
  | 0 => .array .int
  | 1 => .int
  | 2 => .int
  | 3 => .int
  | 4 => .int
  | 5 => .int
  | _ => .int
theorem nmX0 : ∀ a, a < 7 → ∀ b, b < 7 → a ≠ b → (TX0 a).2.1 ≠ (TX0 b).2.1 := by decide +kernel
theorem tyX0_ok : ∀ k, k < 7 → parseFieldDescriptor (TX0 k).2.2.1 = some (tyX0 k) := by decide +kernel
abbrev cX0_init : ByteArray := prog_2_method_1_code
def yX0_init : MethodName := ⟨RX0, "<init>", "()V"⟩
abbrev cX0_clear : ByteArray := prog_2_method_2_code
def yX0_clear : MethodName := ⟨RX0, "clear", "(I)V"⟩
abbrev cX0_bidderAt : ByteArray := prog_2_method_3_code
def yX0_bidderAt : MethodName := ⟨RX0, "bidderAt", "(I)I"⟩
abbrev cX0_turn : ByteArray := prog_2_method_4_code
def yX0_turn : MethodName := ⟨RX0, "turn", "()I"⟩
abbrev cX0_at : ByteArray := prog_2_method_5_code
def yX0_at : MethodName := ⟨RX0, "at", "(I)I"⟩
abbrev cX0_allows : ByteArray := prog_2_method_6_code
def yX0_allows : MethodName := ⟨RX0, "allows", "(I)Z"⟩
abbrev cX0_add : ByteArray := prog_2_method_7_code
def yX0_add : MethodName := ⟨RX0, "add", "(I)V"⟩
abbrev cX0_addCall : ByteArray := prog_2_method_8_code
def yX0_addCall : MethodName := ⟨RX0, "addCall", "(I)V"⟩
abbrev cX0_isPassedOut : ByteArray := prog_2_method_9_code
def yX0_isPassedOut : MethodName := ⟨RX0, "isPassedOut", "()Z"⟩
abbrev cX0_isSettled : ByteArray := prog_2_method_10_code
def yX0_isSettled : MethodName := ⟨RX0, "isSettled", "()Z"⟩
abbrev cX0_level : ByteArray := prog_2_method_11_code
def yX0_level : MethodName := ⟨RX0, "level", "()I"⟩
abbrev cX0_trump : ByteArray := prog_2_method_12_code
def yX0_trump : MethodName := ⟨RX0, "trump", "()I"⟩
abbrev cX0_trumpOf : ByteArray := prog_2_method_13_code
def yX0_trumpOf : MethodName := ⟨RX0, "trumpOf", "(I)I"⟩
abbrev cX0_declarer : ByteArray := prog_2_method_14_code
def yX0_declarer : MethodName := ⟨RX0, "declarer", "()I"⟩
abbrev cX0_scoreFor : ByteArray := prog_2_method_15_code
def yX0_scoreFor : MethodName := ⟨RX0, "scoreFor", "(I)I"⟩
abbrev cX0_worthOf : ByteArray := prog_2_method_16_code
def yX0_worthOf : MethodName := ⟨RX0, "worthOf", "(I)I"⟩
def RX1 : String := "PepperboxTable$Cards"
def TX1 : u_T := fun k => match k with
  | 0 => ("PepperboxTable$Cards", "hands", "[I", true)
  | 1 => ("PepperboxTable$Cards", "playedCards", "[I", true)
  | 2 => ("PepperboxTable$Cards", "leaders", "[I", true)
  | 3 => ("PepperboxTable$Cards", "size", "I", false)
  | 4 => ("PepperboxTable$Cards", "played", "I", false)
  | 5 => ("PepperboxTable$Cards", "revokes", "I", false)
  | 6 => ("PepperboxTable$Cards", "trump", "I", false)
  | _ => ("PepperboxTable$Cards", "turn", "I", false)
def tyX1 : Nat → FieldType := fun k => match k with
  | 0 => .array .int
  | 1 => .array .int
  | 2 => .array .int
  | 3 => .int
  | 4 => .int
  | 5 => .int
  | 6 => .int
  | _ => .int
theorem nmX1 : ∀ a, a < 8 → ∀ b, b < 8 → a ≠ b → (TX1 a).2.1 ≠ (TX1 b).2.1 := by decide +kernel
theorem tyX1_ok : ∀ k, k < 8 → parseFieldDescriptor (TX1 k).2.2.1 = some (tyX1 k) := by decide +kernel
abbrev cX1_init : ByteArray := prog_3_method_1_code
def yX1_init : MethodName := ⟨RX1, "<init>", "()V"⟩
abbrev cX1_clear : ByteArray := prog_3_method_2_code
def yX1_clear : MethodName := ⟨RX1, "clear", "()V"⟩
abbrev cX1_copyFrom : ByteArray := prog_3_method_3_code
def yX1_copyFrom : MethodName := ⟨RX1, "copyFrom", "(LPepperboxTable$Cards;)V"⟩
abbrev cX1_start : ByteArray := prog_3_method_4_code
def yX1_start : MethodName := ⟨RX1, "start", "(II)V"⟩
abbrev cX1_heldBy : ByteArray := prog_3_method_5_code
def yX1_heldBy : MethodName := ⟨RX1, "heldBy", "(I)I"⟩
abbrev cX1_count : ByteArray := prog_3_method_6_code
def yX1_count : MethodName := ⟨RX1, "count", "(I)I"⟩
abbrev cX1_add : ByteArray := prog_3_method_7_code
def yX1_add : MethodName := ⟨RX1, "add", "(II)V"⟩
abbrev cX1_areAllEmpty : ByteArray := prog_3_method_9_code
def yX1_areAllEmpty : MethodName := ⟨RX1, "areAllEmpty", "()Z"⟩
abbrev cX1_areAtMost : ByteArray := prog_3_method_10_code
def yX1_areAtMost : MethodName := ⟨RX1, "areAtMost", "(I)Z"⟩
abbrev cX1_areReady : ByteArray := prog_3_method_11_code
def yX1_areReady : MethodName := ⟨RX1, "areReady", "()Z"⟩
abbrev cX1_ended : ByteArray := prog_3_method_12_code
def yX1_ended : MethodName := ⟨RX1, "ended", "()I"⟩
abbrev cX1_lying : ByteArray := prog_3_method_13_code
def yX1_lying : MethodName := ⟨RX1, "lying", "()I"⟩
abbrev cX1_tricksLeft : ByteArray := prog_3_method_14_code
def yX1_tricksLeft : MethodName := ⟨RX1, "tricksLeft", "()I"⟩
abbrev cX1_leaderOf : ByteArray := prog_3_method_15_code
def yX1_leaderOf : MethodName := ⟨RX1, "leaderOf", "(I)I"⟩
abbrev cX1_playedAt : ByteArray := prog_3_method_16_code
def yX1_playedAt : MethodName := ⟨RX1, "playedAt", "(I)I"⟩
abbrev cX1_playerAt : ByteArray := prog_3_method_17_code
def yX1_playerAt : MethodName := ⟨RX1, "playerAt", "(I)I"⟩
abbrev cX1_cardIn : ByteArray := prog_3_method_18_code
def yX1_cardIn : MethodName := ⟨RX1, "cardIn", "(II)I"⟩
abbrev cX1_takerOf : ByteArray := prog_3_method_19_code
def yX1_takerOf : MethodName := ⟨RX1, "takerOf", "(II)I"⟩
abbrev cX1_beats : ByteArray := prog_3_method_20_code
def yX1_beats : MethodName := ⟨RX1, "beats", "(II)Z"⟩
abbrev cX1_rightCards : ByteArray := prog_3_method_21_code
def yX1_rightCards : MethodName := ⟨RX1, "rightCards", "()I"⟩
abbrev cX1_put : ByteArray := prog_3_method_22_code
def yX1_put : MethodName := ⟨RX1, "put", "(I)I"⟩
abbrev cX1_takeBack : ByteArray := prog_3_method_23_code
def yX1_takeBack : MethodName := ⟨RX1, "takeBack", "()I"⟩
abbrev cX1_hasRevoked : ByteArray := prog_3_method_24_code
def yX1_hasRevoked : MethodName := ⟨RX1, "hasRevoked", "(I)Z"⟩
def RX2 : String := "PepperboxTable"
def TX2 : u_T := fun k => match k with
  | 0 => ("PepperboxTable", "cards", "LPepperboxTable$Cards;", true)
  | 1 => ("PepperboxTable", "trial", "LPepperboxTable$Cards;", true)
  | 2 => ("PepperboxTable", "auction", "LPepperboxTable$Auction;", true)
  | 3 => ("PepperboxTable", "taken", "[I", true)
  | 4 => ("PepperboxTable", "scores", "[I", true)
  | 5 => ("PepperboxTable", "state", "I", false)
  | _ => ("PepperboxTable", "dealsOver", "I", false)
def tyX2 : Nat → FieldType := fun k => match k with
  | 0 => .object "PepperboxTable$Cards"
  | 1 => .object "PepperboxTable$Cards"
  | 2 => .object "PepperboxTable$Auction"
  | 3 => .array .int
  | 4 => .array .int
  | 5 => .int
  | _ => .int
theorem nmX2 : ∀ a, a < 7 → ∀ b, b < 7 → a ≠ b → (TX2 a).2.1 ≠ (TX2 b).2.1 := by decide +kernel
theorem tyX2_ok : ∀ k, k < 7 → parseFieldDescriptor (TX2 k).2.2.1 = some (tyX2 k) := by decide +kernel
abbrev cX2_init : ByteArray := prog_1_method_1_code
def yX2_init : MethodName := ⟨RX2, "<init>", "()V"⟩
abbrev cX2_begin : ByteArray := prog_1_method_2_code
def yX2_begin : MethodName := ⟨RX2, "begin", "(I)I"⟩
abbrev cX2_deal : ByteArray := prog_1_method_3_code
def yX2_deal : MethodName := ⟨RX2, "deal", "(III)I"⟩
abbrev cX2_open : ByteArray := prog_1_method_5_code
def yX2_open : MethodName := ⟨RX2, "open", "()I"⟩
abbrev cX2_has : ByteArray := prog_1_method_6_code
def yX2_has : MethodName := ⟨RX2, "has", "(II)Z"⟩
abbrev cX2_hand : ByteArray := prog_1_method_7_code
def yX2_hand : MethodName := ⟨RX2, "hand", "(III)I"⟩
abbrev cX2_bid : ByteArray := prog_1_method_8_code
def yX2_bid : MethodName := ⟨RX2, "bid", "(I)I"⟩
abbrev cX2_canBid : ByteArray := prog_1_method_9_code
def yX2_canBid : MethodName := ⟨RX2, "canBid", "(I)Z"⟩
abbrev cX2_contract : ByteArray := prog_1_method_11_code
def yX2_contract : MethodName := ⟨RX2, "contract", "(I)I"⟩
abbrev cX2_play : ByteArray := prog_1_method_12_code
def yX2_play : MethodName := ⟨RX2, "play", "(I)I"⟩
abbrev cX2_back : ByteArray := prog_1_method_13_code
def yX2_back : MethodName := ⟨RX2, "back", "()I"⟩
abbrev cX2_isRight : ByteArray := prog_1_method_14_code
def yX2_isRight : MethodName := ⟨RX2, "isRight", "(I)Z"⟩
abbrev cX2_trick : ByteArray := prog_1_method_15_code
def yX2_trick : MethodName := ⟨RX2, "trick", "(II)I"⟩
abbrev cX2_now : ByteArray := prog_1_method_16_code
def yX2_now : MethodName := ⟨RX2, "now", "(I)I"⟩
abbrev cX2_side : ByteArray := prog_1_method_17_code
def yX2_side : MethodName := ⟨RX2, "side", "(II)I"⟩
abbrev cX2_meanScore : ByteArray := prog_1_method_18_code
def yX2_meanScore : MethodName := ⟨RX2, "meanScore", "()D"⟩
abbrev cX2_wouldGet : ByteArray := prog_1_method_19_code
def yX2_wouldGet : MethodName := ⟨RX2, "wouldGet", "(I)I"⟩
abbrev cX2_best : ByteArray := prog_1_method_20_code
def yX2_best : MethodName := ⟨RX2, "best", "()I"⟩
abbrev cX2_bestWith : ByteArray := prog_1_method_21_code
def yX2_bestWith : MethodName := ⟨RX2, "bestWith", "(I)I"⟩
abbrev cX2_bestCard : ByteArray := prog_1_method_22_code
def yX2_bestCard : MethodName := ⟨RX2, "bestCard", "()I"⟩
abbrev cX2_bestIn : ByteArray := prog_1_method_23_code
def yX2_bestIn : MethodName := ⟨RX2, "bestIn", "(I)I"⟩
abbrev cX2_digest : ByteArray := prog_1_method_25_code
def yX2_digest : MethodName := ⟨RX2, "digest", "()J"⟩
abbrev cX2_mix : ByteArray := prog_1_method_26_code
def yX2_mix : MethodName := ⟨RX2, "mix", "(JI)J"⟩
abbrev cX2_mixTricks : ByteArray := prog_1_method_27_code
def yX2_mixTricks : MethodName := ⟨RX2, "mixTricks", "(J)J"⟩
abbrev cX2_mixSides : ByteArray := prog_1_method_28_code
def yX2_mixSides : MethodName := ⟨RX2, "mixSides", "(J)J"⟩
abbrev cX2_mixHands : ByteArray := prog_1_method_29_code
def yX2_mixHands : MethodName := ⟨RX2, "mixHands", "(J)J"⟩
abbrev cX2_isCard : ByteArray := prog_1_method_30_code
def yX2_isCard : MethodName := ⟨RX2, "isCard", "(I)Z"⟩
abbrev cX2_checkPlayer : ByteArray := prog_1_method_31_code
def yX2_checkPlayer : MethodName := ⟨RX2, "checkPlayer", "(I)V"⟩
abbrev cX2_checkCard : ByteArray := prog_1_method_32_code
def yX2_checkCard : MethodName := ⟨RX2, "checkCard", "(I)V"⟩
abbrev cX2_checkBid : ByteArray := prog_1_method_33_code
def yX2_checkBid : MethodName := ⟨RX2, "checkBid", "(I)V"⟩
abbrev cX2_checkPlayable : ByteArray := prog_1_method_34_code
def yX2_checkPlayable : MethodName := ⟨RX2, "checkPlayable", "(I)V"⟩
abbrev cX2_isBidAllowed : ByteArray := prog_1_method_35_code
def yX2_isBidAllowed : MethodName := ⟨RX2, "isBidAllowed", "(I)Z"⟩
abbrev cX2_turnNow : ByteArray := prog_1_method_36_code
def yX2_turnNow : MethodName := ⟨RX2, "turnNow", "()I"⟩
abbrev cX2_revokersOf : ByteArray := prog_1_method_37_code
def yX2_revokersOf : MethodName := ⟨RX2, "revokersOf", "(I)I"⟩
abbrev cX2_finishDeal : ByteArray := prog_1_method_38_code
def yX2_finishDeal : MethodName := ⟨RX2, "finishDeal", "()V"⟩
abbrev cX2_payForRevoke : ByteArray := prog_1_method_39_code
def yX2_payForRevoke : MethodName := ⟨RX2, "payForRevoke", "(I)V"⟩
abbrev cX2_hasBestPlay : ByteArray := prog_1_method_40_code
def yX2_hasBestPlay : MethodName := ⟨RX2, "hasBestPlay", "()Z"⟩
abbrev cX2_bestBehind : ByteArray := prog_1_method_41_code
def yX2_bestBehind : MethodName := ⟨RX2, "bestBehind", "(I)I"⟩
abbrev cX2_mostOfSide0 : ByteArray := prog_1_method_42_code
def yX2_mostOfSide0 : MethodName := ⟨RX2, "mostOfSide0", "(LPepperboxTable$Cards;)I"⟩
abbrev cX2_doesSide0Get : ByteArray := prog_1_method_43_code
def yX2_doesSide0Get : MethodName := ⟨RX2, "doesSide0Get", "(LPepperboxTable$Cards;II)Z"⟩
abbrev cX2_countForSide0 : ByteArray := prog_1_method_44_code
def yX2_countForSide0 : MethodName := ⟨RX2, "countForSide0", "(I)I"⟩
abbrev cX2_sideOf : ByteArray := prog_1_method_45_code
def yX2_sideOf : MethodName := ⟨RX2, "sideOf", "(I)I"⟩
abbrev cX2_nextOf : ByteArray := prog_1_method_46_code
def yX2_nextOf : MethodName := ⟨RX2, "nextOf", "(I)I"⟩
abbrev cX2_contains : ByteArray := prog_1_method_47_code
def yX2_contains : MethodName := ⟨RX2, "contains", "(II)Z"⟩
abbrev cX2_with : ByteArray := prog_1_method_48_code
def yX2_with : MethodName := ⟨RX2, "with", "(II)I"⟩
abbrev cX2_without : ByteArray := prog_1_method_49_code
def yX2_without : MethodName := ⟨RX2, "without", "(II)I"⟩
abbrev cX2_wholeSuit : ByteArray := prog_1_method_50_code
def yX2_wholeSuit : MethodName := ⟨RX2, "wholeSuit", "(I)I"⟩
abbrev cX2_smallest : ByteArray := prog_1_method_51_code
def yX2_smallest : MethodName := ⟨RX2, "smallest", "(I)I"⟩
abbrev cX2_greatest : ByteArray := prog_1_method_52_code
def yX2_greatest : MethodName := ⟨RX2, "greatest", "(I)I"⟩
def RX3 : String := "PepperboxTableLaw$Deal"
def TX3 : u_T := fun k => match k with
  | 0 => ("PepperboxTableLaw$Deal", "m", "LPepperboxTable;", true)
  | 1 => ("PepperboxTableLaw$Deal", "s", "[I", true)
  | 2 => ("PepperboxTableLaw$Deal", "draws", "I", false)
  | 3 => ("PepperboxTableLaw$Deal", "state", "I", false)
  | 4 => ("PepperboxTableLaw$Deal", "dealer", "I", false)
  | 5 => ("PepperboxTableLaw$Deal", "size", "I", false)
  | 6 => ("PepperboxTableLaw$Deal", "has", "[[Z", true)
  | 7 => ("PepperboxTableLaw$Deal", "bids", "[I", false)
  | 8 => ("PepperboxTableLaw$Deal", "contract", "[I", false)
  | 9 => ("PepperboxTableLaw$Deal", "tricks", "[[I", false)
  | 10 => ("PepperboxTableLaw$Deal", "leader", "I", false)
  | 11 => ("PepperboxTableLaw$Deal", "lies", "[I", false)
  | 12 => ("PepperboxTableLaw$Deal", "hasRevoke", "[Z", true)
  | 13 => ("PepperboxTableLaw$Deal", "isWrong", "[Z", false)
  | 14 => ("PepperboxTableLaw$Deal", "hadOne", "[Z", false)
  | 15 => ("PepperboxTableLaw$Deal", "got", "[I", true)
  | 16 => ("PepperboxTableLaw$Deal", "score", "[I", true)
  | _ => ("PepperboxTableLaw$Deal", "deals", "I", false)
def tyX3 : Nat → FieldType := fun k => match k with
  | 0 => .object "PepperboxTable"
  | 1 => .array .int
  | 2 => .int
  | 3 => .int
  | 4 => .int
  | 5 => .int
  | 6 => .array (.array .boolean)
  | 7 => .array .int
  | 8 => .array .int
  | 9 => .array (.array .int)
  | 10 => .int
  | 11 => .array .int
  | 12 => .array .boolean
  | 13 => .array .boolean
  | 14 => .array .boolean
  | 15 => .array .int
  | 16 => .array .int
  | _ => .int
theorem nmX3 : ∀ a, a < 18 → ∀ b, b < 18 → a ≠ b → (TX3 a).2.1 ≠ (TX3 b).2.1 := by decide +kernel
theorem tyX3_ok : ∀ k, k < 18 → parseFieldDescriptor (TX3 k).2.2.1 = some (tyX3 k) := by decide +kernel
abbrev cX3_init : ByteArray := prog_5_method_1_code
def yX3_init : MethodName := ⟨RX3, "<init>", "([II)V"⟩
abbrev cX3_draw : ByteArray := prog_5_method_2_code
def yX3_draw : MethodName := ⟨RX3, "draw", "(I)I"⟩
abbrev cX3_plus : ByteArray := prog_5_method_3_code
def yX3_plus : MethodName := ⟨RX3, "plus", "([II)[I"⟩
abbrev cX3_count : ByteArray := prog_5_method_4_code
def yX3_count : MethodName := ⟨RX3, "count", "(I)I"⟩
abbrev cX3_begin : ByteArray := prog_5_method_5_code
def yX3_begin : MethodName := ⟨RX3, "begin", "()Z"⟩
abbrev cX3_deal : ByteArray := prog_5_method_6_code
def yX3_deal : MethodName := ⟨RX3, "deal", "(I)Z"⟩
abbrev cX3_open : ByteArray := prog_5_method_7_code
def yX3_open : MethodName := ⟨RX3, "open", "()Z"⟩
abbrev cX3_canBid : ByteArray := prog_5_method_8_code
def yX3_canBid : MethodName := ⟨RX3, "canBid", "(I)Z"⟩
abbrev cX3_turn : ByteArray := prog_5_method_9_code
def yX3_turn : MethodName := ⟨RX3, "turn", "()I"⟩
abbrev cX3_bid : ByteArray := prog_5_method_10_code
def yX3_bid : MethodName := ⟨RX3, "bid", "(I)Z"⟩
abbrev cX3_conclude : ByteArray := prog_5_method_11_code
def yX3_conclude : MethodName := ⟨RX3, "conclude", "()V"⟩
abbrev cX3_mustFollow : ByteArray := prog_5_method_13_code
def yX3_mustFollow : MethodName := ⟨RX3, "mustFollow", "(I)Z"⟩
abbrev cX3_isRight : ByteArray := prog_5_method_14_code
def yX3_isRight : MethodName := ⟨RX3, "isRight", "(II)Z"⟩
abbrev cX3_taker : ByteArray := prog_5_method_15_code
def yX3_taker : MethodName := ⟨RX3, "taker", "([II)I"⟩
abbrev cX3_any : ByteArray := prog_5_method_16_code
def yX3_any : MethodName := ⟨RX3, "any", "(Z)I"⟩
abbrev cX3_play : ByteArray := prog_5_method_17_code
def yX3_play : MethodName := ⟨RX3, "play", "(I)Z"⟩
abbrev cX3_end : ByteArray := prog_5_method_18_code
def yX3_end : MethodName := ⟨RX3, "end", "()V"⟩
abbrev cX3_worth : ByteArray := prog_5_method_19_code
def yX3_worth : MethodName := ⟨RX3, "worth", "(I)I"⟩
abbrev cX3_back : ByteArray := prog_5_method_20_code
def yX3_back : MethodName := ⟨RX3, "back", "()Z"⟩
abbrev cX3_step : ByteArray := prog_5_method_21_code
def yX3_step : MethodName := ⟨RX3, "step", "()Z"⟩
def RX4 : String := "PepperboxTableModel"
def TX4 : u_T := fun k => match k with
  | _ => ("", "", "", false)
def tyX4 : Nat → FieldType := fun k => match k with
  | _ => .int
theorem nmX4 : ∀ a, a < 0 → ∀ b, b < 0 → a ≠ b → (TX4 a).2.1 ≠ (TX4 b).2.1 := by decide +kernel
theorem tyX4_ok : ∀ k, k < 0 → parseFieldDescriptor (TX4 k).2.2.1 = some (tyX4 k) := by decide +kernel
def RJ6 : String := "java/lang/Integer"
def TJ6 : u_T := fun k => match k with
  | _ => ("", "", "", false)
def tyJ6 : Nat → FieldType := fun k => match k with
  | _ => .int
theorem nmJ6 : ∀ a, a < 0 → ∀ b, b < 0 → a ≠ b → (TJ6 a).2.1 ≠ (TJ6 b).2.1 := by decide +kernel
theorem tyJ6_ok : ∀ k, k < 0 → parseFieldDescriptor (TJ6 k).2.2.1 = some (tyJ6 k) := by decide +kernel
abbrev cJ6_numberOfLeadingZeros_0f7a4 : ByteArray := prog_11_method_47_code
def yJ6_numberOfLeadingZeros_0f7a4 : MethodName := ⟨RJ6, "numberOfLeadingZeros", "(I)I"⟩
abbrev cJ6_numberOfTrailingZeros_0f7a4 : ByteArray := prog_11_method_48_code
def yJ6_numberOfTrailingZeros_0f7a4 : MethodName := ⟨RJ6, "numberOfTrailingZeros", "(I)I"⟩
abbrev cJ6_bitCount_0f7a4 : ByteArray := prog_11_method_49_code
def yJ6_bitCount_0f7a4 : MethodName := ⟨RJ6, "bitCount", "(I)I"⟩
def RJ9 : String := "java/lang/Math"
def TJ9 : u_T := fun k => match k with
  | _ => ("", "", "", false)
def tyJ9 : Nat → FieldType := fun k => match k with
  | _ => .int
theorem nmJ9 : ∀ a, a < 0 → ∀ b, b < 0 → a ≠ b → (TJ9 a).2.1 ≠ (TJ9 b).2.1 := by decide +kernel
theorem tyJ9_ok : ∀ k, k < 0 → parseFieldDescriptor (TJ9 k).2.2.1 = some (tyJ9 k) := by decide +kernel
abbrev cJ9_abs_0f7a4 : ByteArray := prog_12_method_59_code
def yJ9_abs_0f7a4 : MethodName := ⟨RJ9, "abs", "(I)I"⟩
abbrev cJ9_max_7cf53 : ByteArray := prog_12_method_65_code
def yJ9_max_7cf53 : MethodName := ⟨RJ9, "max", "(II)I"⟩
abbrev cJ9_min_7cf53 : ByteArray := prog_12_method_69_code
def yJ9_min_7cf53 : MethodName := ⟨RJ9, "min", "(II)I"⟩
def RJ0 : String := "java/lang/String"
def TJ0 : u_T := fun k => match k with
  | _ => ("", "", "", false)
def tyJ0 : Nat → FieldType := fun k => match k with
  | _ => .int
theorem nmJ0 : ∀ a, a < 0 → ∀ b, b < 0 → a ≠ b → (TJ0 a).2.1 ≠ (TJ0 b).2.1 := by decide +kernel
theorem tyJ0_ok : ∀ k, k < 0 → parseFieldDescriptor (TJ0 k).2.2.1 = some (tyJ0 k) := by decide +kernel
def RJ10 : String := "java/lang/System"
def TJ10 : u_T := fun k => match k with
  | _ => ("", "", "", false)
def tyJ10 : Nat → FieldType := fun k => match k with
  | _ => .int
theorem nmJ10 : ∀ a, a < 0 → ∀ b, b < 0 → a ≠ b → (TJ10 a).2.1 ≠ (TJ10 b).2.1 := by decide +kernel
theorem tyJ10_ok : ∀ k, k < 0 → parseFieldDescriptor (TJ10 k).2.2.1 = some (tyJ10 k) := by decide +kernel
def RL : String := "PepperboxTableLaw"
abbrev cL_below : ByteArray := method_2_code
def yL_below : MethodName := ⟨RL, "below", "(II)I"⟩
abbrev cL_cell : ByteArray := method_3_code
def yL_cell : MethodName := ⟨RL, "cell", "([II)I"⟩
abbrev cL_law : ByteArray := code
def yL_law : MethodName := ⟨RL, "law", "([I)Z"⟩
theorem dX0_init_0 : decode cX0_init 0 = .ok (.aload_n 0, 1) := by decide +kernel
theorem dX0_init_1 : decode cX0_init 1 = .ok (.invokespecial 3, 3) := by decide +kernel
theorem dX0_init_4 : decode cX0_init 4 = .ok (.aload_n 0, 1) := by decide +kernel
theorem dX0_init_5 : decode cX0_init 5 = .ok (.sipush 364, 3) := by decide +kernel
theorem dX0_init_8 : decode cX0_init 8 = .ok (.newarray .int, 2) := by decide +kernel
theorem dX0_init_10 : decode cX0_init 10 = .ok (.putfield 9, 3) := by decide +kernel
theorem dX0_init_13 : decode cX0_init 13 = .ok (.aload_n 0, 1) := by decide +kernel
theorem dX0_init_14 : decode cX0_init 14 = .ok (.iconst 0, 1) := by decide +kernel
theorem dX0_init_15 : decode cX0_init 15 = .ok (.putfield 15, 3) := by decide +kernel
theorem dX0_init_18 : decode cX0_init 18 = .ok (.aload_n 0, 1) := by decide +kernel
theorem dX0_init_19 : decode cX0_init 19 = .ok (.iconst 0, 1) := by decide +kernel
theorem dX0_init_20 : decode cX0_init 20 = .ok (.putfield 19, 3) := by decide +kernel
theorem dX0_init_23 : decode cX0_init 23 = .ok (.aload_n 0, 1) := by decide +kernel
theorem dX0_init_24 : decode cX0_init 24 = .ok (.iconst 0, 1) := by decide +kernel
theorem dX0_init_25 : decode cX0_init 25 = .ok (.putfield 22, 3) := by decide +kernel
theorem dX0_init_28 : decode cX0_init 28 = .ok (.aload_n 0, 1) := by decide +kernel
theorem dX0_init_29 : decode cX0_init 29 = .ok (.iconst 0, 1) := by decide +kernel
theorem dX0_init_30 : decode cX0_init 30 = .ok (.putfield 25, 3) := by decide +kernel
theorem dX0_init_33 : decode cX0_init 33 = .ok (.aload_n 0, 1) := by decide +kernel
theorem dX0_init_34 : decode cX0_init 34 = .ok (.iconst 1, 1) := by decide +kernel
theorem dX0_init_35 : decode cX0_init 35 = .ok (.putfield 28, 3) := by decide +kernel
theorem dX0_init_38 : decode cX0_init 38 = .ok (.aload_n 0, 1) := by decide +kernel
theorem dX0_init_39 : decode cX0_init 39 = .ok (.iconst 0, 1) := by decide +kernel
theorem dX0_init_40 : decode cX0_init 40 = .ok (.putfield 31, 3) := by decide +kernel
theorem dX0_init_43 : decode cX0_init 43 = .ok (.return_, 1) := by decide +kernel
theorem dX0_clear_0 : decode cX0_clear 0 = .ok (.aload_n 0, 1) := by decide +kernel
theorem dX0_clear_1 : decode cX0_clear 1 = .ok (.iconst 0, 1) := by decide +kernel
theorem dX0_clear_2 : decode cX0_clear 2 = .ok (.putfield 15, 3) := by decide +kernel
theorem dX0_clear_5 : decode cX0_clear 5 = .ok (.aload_n 0, 1) := by decide +kernel
theorem dX0_clear_6 : decode cX0_clear 6 = .ok (.iload_n 1, 1) := by decide +kernel
theorem dX0_clear_7 : decode cX0_clear 7 = .ok (.putfield 19, 3) := by decide +kernel
theorem dX0_clear_10 : decode cX0_clear 10 = .ok (.aload_n 0, 1) := by decide +kernel
theorem dX0_clear_11 : decode cX0_clear 11 = .ok (.iconst 0, 1) := by decide +kernel
theorem dX0_clear_12 : decode cX0_clear 12 = .ok (.putfield 22, 3) := by decide +kernel
theorem dX0_clear_15 : decode cX0_clear 15 = .ok (.aload_n 0, 1) := by decide +kernel
theorem dX0_clear_16 : decode cX0_clear 16 = .ok (.iconst 0, 1) := by decide +kernel
theorem dX0_clear_17 : decode cX0_clear 17 = .ok (.putfield 25, 3) := by decide +kernel
theorem dX0_clear_20 : decode cX0_clear 20 = .ok (.aload_n 0, 1) := by decide +kernel
theorem dX0_clear_21 : decode cX0_clear 21 = .ok (.iconst 1, 1) := by decide +kernel
theorem dX0_clear_22 : decode cX0_clear 22 = .ok (.putfield 28, 3) := by decide +kernel
theorem dX0_clear_25 : decode cX0_clear 25 = .ok (.aload_n 0, 1) := by decide +kernel
theorem dX0_clear_26 : decode cX0_clear 26 = .ok (.iconst 0, 1) := by decide +kernel
theorem dX0_clear_27 : decode cX0_clear 27 = .ok (.putfield 31, 3) := by decide +kernel
theorem dX0_clear_30 : decode cX0_clear 30 = .ok (.return_, 1) := by decide +kernel
theorem dX0_bidderAt_0 : decode cX0_bidderAt 0 = .ok (.aload_n 0, 1) := by decide +kernel
theorem dX0_bidderAt_1 : decode cX0_bidderAt 1 = .ok (.getfield 19, 3) := by decide +kernel
theorem dX0_bidderAt_4 : decode cX0_bidderAt 4 = .ok (.iload_n 1, 1) := by decide +kernel
theorem dX0_bidderAt_5 : decode cX0_bidderAt 5 = .ok (.iadd, 1) := by decide +kernel
theorem dX0_bidderAt_6 : decode cX0_bidderAt 6 = .ok (.iconst 3, 1) := by decide +kernel
theorem dX0_bidderAt_7 : decode cX0_bidderAt 7 = .ok (.iand, 1) := by decide +kernel
theorem dX0_bidderAt_8 : decode cX0_bidderAt 8 = .ok (.ireturn, 1) := by decide +kernel
theorem dX0_turn_0 : decode cX0_turn 0 = .ok (.aload_n 0, 1) := by decide +kernel
theorem dX0_turn_1 : decode cX0_turn 1 = .ok (.aload_n 0, 1) := by decide +kernel
theorem dX0_turn_2 : decode cX0_turn 2 = .ok (.getfield 15, 3) := by decide +kernel
theorem dX0_turn_5 : decode cX0_turn 5 = .ok (.invokevirtual 34, 3) := by decide +kernel
theorem dX0_turn_8 : decode cX0_turn 8 = .ok (.ireturn, 1) := by decide +kernel
theorem dX0_at_0 : decode cX0_at 0 = .ok (.iload_n 1, 1) := by decide +kernel
theorem dX0_at_1 : decode cX0_at 1 = .ok (.ifCond .lt 29, 3) := by decide +kernel
theorem dX0_at_4 : decode cX0_at 4 = .ok (.iload_n 1, 1) := by decide +kernel
theorem dX0_at_5 : decode cX0_at 5 = .ok (.aload_n 0, 1) := by decide +kernel
theorem dX0_at_6 : decode cX0_at 6 = .ok (.getfield 15, 3) := by decide +kernel
theorem dX0_at_9 : decode cX0_at 9 = .ok (.if_icmp .ge 21, 3) := by decide +kernel
theorem dX0_at_12 : decode cX0_at 12 = .ok (.iload_n 1, 1) := by decide +kernel
theorem dX0_at_13 : decode cX0_at 13 = .ok (.aload_n 0, 1) := by decide +kernel
theorem dX0_at_14 : decode cX0_at 14 = .ok (.getfield 9, 3) := by decide +kernel
theorem dX0_at_17 : decode cX0_at 17 = .ok (.arraylength, 1) := by decide +kernel
theorem dX0_at_18 : decode cX0_at 18 = .ok (.if_icmp .ge 12, 3) := by decide +kernel
theorem dX0_at_21 : decode cX0_at 21 = .ok (.aload_n 0, 1) := by decide +kernel
theorem dX0_at_22 : decode cX0_at 22 = .ok (.getfield 9, 3) := by decide +kernel
theorem dX0_at_25 : decode cX0_at 25 = .ok (.iload_n 1, 1) := by decide +kernel
theorem dX0_at_26 : decode cX0_at 26 = .ok (.iaload, 1) := by decide +kernel
theorem dX0_at_27 : decode cX0_at 27 = .ok (.goto 4, 3) := by decide +kernel
theorem dX0_at_30 : decode cX0_at 30 = .ok (.iconst (-1), 1) := by decide +kernel
theorem dX0_at_31 : decode cX0_at 31 = .ok (.ireturn, 1) := by decide +kernel
theorem dX0_allows_0 : decode cX0_allows 0 = .ok (.iload_n 1, 1) := by decide +kernel
theorem dX0_allows_1 : decode cX0_allows 1 = .ok (.ifCond .ne 5, 3) := by decide +kernel
theorem dX0_allows_4 : decode cX0_allows 4 = .ok (.iconst 1, 1) := by decide +kernel
theorem dX0_allows_5 : decode cX0_allows 5 = .ok (.ireturn, 1) := by decide +kernel
theorem dX0_allows_6 : decode cX0_allows 6 = .ok (.iload_n 1, 1) := by decide +kernel
theorem dX0_allows_7 : decode cX0_allows 7 = .ok (.bipush 40, 2) := by decide +kernel
theorem dX0_allows_9 : decode cX0_allows 9 = .ok (.if_icmp .gt 17, 3) := by decide +kernel
theorem dX0_allows_12 : decode cX0_allows 12 = .ok (.iload_n 1, 1) := by decide +kernel
theorem dX0_allows_13 : decode cX0_allows 13 = .ok (.aload_n 0, 1) := by decide +kernel
theorem dX0_allows_14 : decode cX0_allows 14 = .ok (.getfield 22, 3) := by decide +kernel
theorem dX0_allows_17 : decode cX0_allows 17 = .ok (.if_icmp .le 7, 3) := by decide +kernel
theorem dX0_allows_20 : decode cX0_allows 20 = .ok (.iconst 1, 1) := by decide +kernel
theorem dX0_allows_21 : decode cX0_allows 21 = .ok (.goto 4, 3) := by decide +kernel
theorem dX0_allows_24 : decode cX0_allows 24 = .ok (.iconst 0, 1) := by decide +kernel
theorem dX0_allows_25 : decode cX0_allows 25 = .ok (.ireturn, 1) := by decide +kernel
theorem dX0_allows_26 : decode cX0_allows 26 = .ok (.aload_n 0, 1) := by decide +kernel
theorem dX0_allows_27 : decode cX0_allows 27 = .ok (.getfield 22, 3) := by decide +kernel
theorem dX0_allows_30 : decode cX0_allows 30 = .ok (.ifCond .ne 5, 3) := by decide +kernel
theorem dX0_allows_33 : decode cX0_allows 33 = .ok (.iconst 0, 1) := by decide +kernel
theorem dX0_allows_34 : decode cX0_allows 34 = .ok (.ireturn, 1) := by decide +kernel
theorem dX0_allows_35 : decode cX0_allows 35 = .ok (.aload_n 0, 1) := by decide +kernel
theorem dX0_allows_36 : decode cX0_allows 36 = .ok (.invokevirtual 38, 3) := by decide +kernel
theorem dX0_allows_39 : decode cX0_allows 39 = .ok (.invokestatic 42, 3) := by decide +kernel
theorem dX0_allows_42 : decode cX0_allows 42 = .ok (.aload_n 0, 1) := by decide +kernel
theorem dX0_allows_43 : decode cX0_allows 43 = .ok (.getfield 25, 3) := by decide +kernel
theorem dX0_allows_46 : decode cX0_allows 46 = .ok (.invokestatic 42, 3) := by decide +kernel
theorem dX0_allows_49 : decode cX0_allows 49 = .ok (.if_icmp .ne 7, 3) := by decide +kernel
theorem dX0_allows_52 : decode cX0_allows 52 = .ok (.iconst 1, 1) := by decide +kernel
theorem dX0_allows_53 : decode cX0_allows 53 = .ok (.goto 4, 3) := by decide +kernel
theorem dX0_allows_56 : decode cX0_allows 56 = .ok (.iconst 0, 1) := by decide +kernel
theorem dX0_allows_57 : decode cX0_allows 57 = .ok (.istore_n 2, 1) := by decide +kernel
theorem dX0_allows_58 : decode cX0_allows 58 = .ok (.iload_n 1, 1) := by decide +kernel
theorem dX0_allows_59 : decode cX0_allows 59 = .ok (.bipush 41, 2) := by decide +kernel
theorem dX0_allows_61 : decode cX0_allows 61 = .ok (.if_icmp .ne 23, 3) := by decide +kernel
theorem dX0_allows_64 : decode cX0_allows 64 = .ok (.iload_n 2, 1) := by decide +kernel
theorem dX0_allows_65 : decode cX0_allows 65 = .ok (.ifCond .ne 15, 3) := by decide +kernel
theorem dX0_allows_68 : decode cX0_allows 68 = .ok (.aload_n 0, 1) := by decide +kernel
theorem dX0_allows_69 : decode cX0_allows 69 = .ok (.getfield 28, 3) := by decide +kernel
theorem dX0_allows_72 : decode cX0_allows 72 = .ok (.iconst 1, 1) := by decide +kernel
theorem dX0_allows_73 : decode cX0_allows 73 = .ok (.if_icmp .ne 7, 3) := by decide +kernel
theorem dX0_allows_76 : decode cX0_allows 76 = .ok (.iconst 1, 1) := by decide +kernel
theorem dX0_allows_77 : decode cX0_allows 77 = .ok (.goto 24, 3) := by decide +kernel
theorem dX0_allows_80 : decode cX0_allows 80 = .ok (.iconst 0, 1) := by decide +kernel
theorem dX0_allows_81 : decode cX0_allows 81 = .ok (.goto 20, 3) := by decide +kernel
theorem dX0_allows_84 : decode cX0_allows 84 = .ok (.iload_n 2, 1) := by decide +kernel
theorem dX0_allows_85 : decode cX0_allows 85 = .ok (.ifCond .eq 15, 3) := by decide +kernel
theorem dX0_allows_88 : decode cX0_allows 88 = .ok (.aload_n 0, 1) := by decide +kernel
theorem dX0_allows_89 : decode cX0_allows 89 = .ok (.getfield 28, 3) := by decide +kernel
theorem dX0_allows_92 : decode cX0_allows 92 = .ok (.iconst 2, 1) := by decide +kernel
theorem dX0_allows_93 : decode cX0_allows 93 = .ok (.if_icmp .ne 7, 3) := by decide +kernel
theorem dX0_allows_96 : decode cX0_allows 96 = .ok (.iconst 1, 1) := by decide +kernel
theorem dX0_allows_97 : decode cX0_allows 97 = .ok (.goto 4, 3) := by decide +kernel
theorem dX0_allows_100 : decode cX0_allows 100 = .ok (.iconst 0, 1) := by decide +kernel
theorem dX0_allows_101 : decode cX0_allows 101 = .ok (.ireturn, 1) := by decide +kernel
theorem dX0_add_0 : decode cX0_add 0 = .ok (.aload_n 0, 1) := by decide +kernel
theorem dX0_add_1 : decode cX0_add 1 = .ok (.getfield 15, 3) := by decide +kernel
theorem dX0_add_4 : decode cX0_add 4 = .ok (.ifCond .lt 15, 3) := by decide +kernel
theorem dX0_add_7 : decode cX0_add 7 = .ok (.aload_n 0, 1) := by decide +kernel
theorem dX0_add_8 : decode cX0_add 8 = .ok (.getfield 15, 3) := by decide +kernel
theorem dX0_add_11 : decode cX0_add 11 = .ok (.aload_n 0, 1) := by decide +kernel
theorem dX0_add_12 : decode cX0_add 12 = .ok (.getfield 9, 3) := by decide +kernel
theorem dX0_add_15 : decode cX0_add 15 = .ok (.arraylength, 1) := by decide +kernel
theorem dX0_add_16 : decode cX0_add 16 = .ok (.if_icmp .lt 4, 3) := by decide +kernel
theorem dX0_add_19 : decode cX0_add 19 = .ok (.return_, 1) := by decide +kernel
theorem dX0_add_20 : decode cX0_add 20 = .ok (.iload_n 1, 1) := by decide +kernel
theorem dX0_add_21 : decode cX0_add 21 = .ok (.ifCond .ne 16, 3) := by decide +kernel
theorem dX0_add_24 : decode cX0_add 24 = .ok (.aload_n 0, 1) := by decide +kernel
theorem dX0_add_25 : decode cX0_add 25 = .ok (.dup, 1) := by decide +kernel
theorem dX0_add_26 : decode cX0_add 26 = .ok (.getfield 31, 3) := by decide +kernel
theorem dX0_add_29 : decode cX0_add 29 = .ok (.iconst 1, 1) := by decide +kernel
theorem dX0_add_30 : decode cX0_add 30 = .ok (.iadd, 1) := by decide +kernel
theorem dX0_add_31 : decode cX0_add 31 = .ok (.putfield 31, 3) := by decide +kernel
theorem dX0_add_34 : decode cX0_add 34 = .ok (.goto 13, 3) := by decide +kernel
theorem dX0_add_37 : decode cX0_add 37 = .ok (.aload_n 0, 1) := by decide +kernel
theorem dX0_add_38 : decode cX0_add 38 = .ok (.iconst 0, 1) := by decide +kernel
theorem dX0_add_39 : decode cX0_add 39 = .ok (.putfield 31, 3) := by decide +kernel
theorem dX0_add_42 : decode cX0_add 42 = .ok (.aload_n 0, 1) := by decide +kernel
theorem dX0_add_43 : decode cX0_add 43 = .ok (.iload_n 1, 1) := by decide +kernel
theorem dX0_add_44 : decode cX0_add 44 = .ok (.invokevirtual 45, 3) := by decide +kernel
theorem dX0_add_47 : decode cX0_add 47 = .ok (.aload_n 0, 1) := by decide +kernel
theorem dX0_add_48 : decode cX0_add 48 = .ok (.getfield 9, 3) := by decide +kernel
theorem dX0_add_51 : decode cX0_add 51 = .ok (.aload_n 0, 1) := by decide +kernel
theorem dX0_add_52 : decode cX0_add 52 = .ok (.getfield 15, 3) := by decide +kernel
theorem dX0_add_55 : decode cX0_add 55 = .ok (.iload_n 1, 1) := by decide +kernel
theorem dX0_add_56 : decode cX0_add 56 = .ok (.iastore, 1) := by decide +kernel
theorem dX0_add_57 : decode cX0_add 57 = .ok (.aload_n 0, 1) := by decide +kernel
theorem dX0_add_58 : decode cX0_add 58 = .ok (.dup, 1) := by decide +kernel
theorem dX0_add_59 : decode cX0_add 59 = .ok (.getfield 15, 3) := by decide +kernel
theorem dX0_add_62 : decode cX0_add 62 = .ok (.iconst 1, 1) := by decide +kernel
theorem dX0_add_63 : decode cX0_add 63 = .ok (.iadd, 1) := by decide +kernel
theorem dX0_add_64 : decode cX0_add 64 = .ok (.putfield 15, 3) := by decide +kernel
theorem dX0_add_67 : decode cX0_add 67 = .ok (.return_, 1) := by decide +kernel
theorem dX0_addCall_0 : decode cX0_addCall 0 = .ok (.iload_n 1, 1) := by decide +kernel
theorem dX0_addCall_1 : decode cX0_addCall 1 = .ok (.bipush 40, 2) := by decide +kernel
theorem dX0_addCall_3 : decode cX0_addCall 3 = .ok (.if_icmp .gt 24, 3) := by decide +kernel
theorem dX0_addCall_6 : decode cX0_addCall 6 = .ok (.aload_n 0, 1) := by decide +kernel
theorem dX0_addCall_7 : decode cX0_addCall 7 = .ok (.iload_n 1, 1) := by decide +kernel
theorem dX0_addCall_8 : decode cX0_addCall 8 = .ok (.putfield 22, 3) := by decide +kernel
theorem dX0_addCall_11 : decode cX0_addCall 11 = .ok (.aload_n 0, 1) := by decide +kernel
theorem dX0_addCall_12 : decode cX0_addCall 12 = .ok (.aload_n 0, 1) := by decide +kernel
theorem dX0_addCall_13 : decode cX0_addCall 13 = .ok (.invokevirtual 38, 3) := by decide +kernel
theorem dX0_addCall_16 : decode cX0_addCall 16 = .ok (.putfield 25, 3) := by decide +kernel
theorem dX0_addCall_19 : decode cX0_addCall 19 = .ok (.aload_n 0, 1) := by decide +kernel
theorem dX0_addCall_20 : decode cX0_addCall 20 = .ok (.iconst 1, 1) := by decide +kernel
theorem dX0_addCall_21 : decode cX0_addCall 21 = .ok (.putfield 28, 3) := by decide +kernel
theorem dX0_addCall_24 : decode cX0_addCall 24 = .ok (.goto 18, 3) := by decide +kernel
theorem dX0_addCall_27 : decode cX0_addCall 27 = .ok (.aload_n 0, 1) := by decide +kernel
theorem dX0_addCall_28 : decode cX0_addCall 28 = .ok (.iload_n 1, 1) := by decide +kernel
theorem dX0_addCall_29 : decode cX0_addCall 29 = .ok (.bipush 41, 2) := by decide +kernel
theorem dX0_addCall_31 : decode cX0_addCall 31 = .ok (.if_icmp .ne 7, 3) := by decide +kernel
theorem dX0_addCall_34 : decode cX0_addCall 34 = .ok (.iconst 2, 1) := by decide +kernel
theorem dX0_addCall_35 : decode cX0_addCall 35 = .ok (.goto 4, 3) := by decide +kernel
theorem dX0_addCall_38 : decode cX0_addCall 38 = .ok (.iconst 4, 1) := by decide +kernel
theorem dX0_addCall_39 : decode cX0_addCall 39 = .ok (.putfield 28, 3) := by decide +kernel
theorem dX0_addCall_42 : decode cX0_addCall 42 = .ok (.return_, 1) := by decide +kernel
theorem dX0_isPassedOut_0 : decode cX0_isPassedOut 0 = .ok (.aload_n 0, 1) := by decide +kernel
theorem dX0_isPassedOut_1 : decode cX0_isPassedOut 1 = .ok (.getfield 22, 3) := by decide +kernel
theorem dX0_isPassedOut_4 : decode cX0_isPassedOut 4 = .ok (.ifCond .ne 15, 3) := by decide +kernel
theorem dX0_isPassedOut_7 : decode cX0_isPassedOut 7 = .ok (.aload_n 0, 1) := by decide +kernel
theorem dX0_isPassedOut_8 : decode cX0_isPassedOut 8 = .ok (.getfield 31, 3) := by decide +kernel
theorem dX0_isPassedOut_11 : decode cX0_isPassedOut 11 = .ok (.iconst 4, 1) := by decide +kernel
theorem dX0_isPassedOut_12 : decode cX0_isPassedOut 12 = .ok (.if_icmp .lt 7, 3) := by decide +kernel
theorem dX0_isPassedOut_15 : decode cX0_isPassedOut 15 = .ok (.iconst 1, 1) := by decide +kernel
theorem dX0_isPassedOut_16 : decode cX0_isPassedOut 16 = .ok (.goto 4, 3) := by decide +kernel
theorem dX0_isPassedOut_19 : decode cX0_isPassedOut 19 = .ok (.iconst 0, 1) := by decide +kernel
theorem dX0_isPassedOut_20 : decode cX0_isPassedOut 20 = .ok (.ireturn, 1) := by decide +kernel
theorem dX0_isSettled_0 : decode cX0_isSettled 0 = .ok (.aload_n 0, 1) := by decide +kernel
theorem dX0_isSettled_1 : decode cX0_isSettled 1 = .ok (.getfield 22, 3) := by decide +kernel
theorem dX0_isSettled_4 : decode cX0_isSettled 4 = .ok (.ifCond .le 15, 3) := by decide +kernel
theorem dX0_isSettled_7 : decode cX0_isSettled 7 = .ok (.aload_n 0, 1) := by decide +kernel
theorem dX0_isSettled_8 : decode cX0_isSettled 8 = .ok (.getfield 31, 3) := by decide +kernel
theorem dX0_isSettled_11 : decode cX0_isSettled 11 = .ok (.iconst 3, 1) := by decide +kernel
theorem dX0_isSettled_12 : decode cX0_isSettled 12 = .ok (.if_icmp .lt 7, 3) := by decide +kernel
theorem dX0_isSettled_15 : decode cX0_isSettled 15 = .ok (.iconst 1, 1) := by decide +kernel
theorem dX0_isSettled_16 : decode cX0_isSettled 16 = .ok (.goto 4, 3) := by decide +kernel
theorem dX0_isSettled_19 : decode cX0_isSettled 19 = .ok (.iconst 0, 1) := by decide +kernel
theorem dX0_isSettled_20 : decode cX0_isSettled 20 = .ok (.ireturn, 1) := by decide +kernel
theorem dX0_level_0 : decode cX0_level 0 = .ok (.aload_n 0, 1) := by decide +kernel
theorem dX0_level_1 : decode cX0_level 1 = .ok (.getfield 22, 3) := by decide +kernel
theorem dX0_level_4 : decode cX0_level 4 = .ok (.iconst 1, 1) := by decide +kernel
theorem dX0_level_5 : decode cX0_level 5 = .ok (.isub, 1) := by decide +kernel
theorem dX0_level_6 : decode cX0_level 6 = .ok (.iconst 5, 1) := by decide +kernel
theorem dX0_level_7 : decode cX0_level 7 = .ok (.idiv, 1) := by decide +kernel
theorem dX0_level_8 : decode cX0_level 8 = .ok (.iconst 1, 1) := by decide +kernel
theorem dX0_level_9 : decode cX0_level 9 = .ok (.iadd, 1) := by decide +kernel
theorem dX0_level_10 : decode cX0_level 10 = .ok (.ireturn, 1) := by decide +kernel
theorem dX0_trump_0 : decode cX0_trump 0 = .ok (.aload_n 0, 1) := by decide +kernel
theorem dX0_trump_1 : decode cX0_trump 1 = .ok (.getfield 22, 3) := by decide +kernel
theorem dX0_trump_4 : decode cX0_trump 4 = .ok (.invokestatic 49, 3) := by decide +kernel
theorem dX0_trump_7 : decode cX0_trump 7 = .ok (.ireturn, 1) := by decide +kernel
theorem dX0_trumpOf_0 : decode cX0_trumpOf 0 = .ok (.iload_n 0, 1) := by decide +kernel
theorem dX0_trumpOf_1 : decode cX0_trumpOf 1 = .ok (.iconst 1, 1) := by decide +kernel
theorem dX0_trumpOf_2 : decode cX0_trumpOf 2 = .ok (.isub, 1) := by decide +kernel
theorem dX0_trumpOf_3 : decode cX0_trumpOf 3 = .ok (.iconst 5, 1) := by decide +kernel
theorem dX0_trumpOf_4 : decode cX0_trumpOf 4 = .ok (.irem, 1) := by decide +kernel
theorem dX0_trumpOf_5 : decode cX0_trumpOf 5 = .ok (.ireturn, 1) := by decide +kernel
theorem dX0_declarer_0 : decode cX0_declarer 0 = .ok (.iconst 0, 1) := by decide +kernel
theorem dX0_declarer_1 : decode cX0_declarer 1 = .ok (.istore_n 1, 1) := by decide +kernel
theorem dX0_declarer_2 : decode cX0_declarer 2 = .ok (.iload_n 1, 1) := by decide +kernel
theorem dX0_declarer_3 : decode cX0_declarer 3 = .ok (.aload_n 0, 1) := by decide +kernel
theorem dX0_declarer_4 : decode cX0_declarer 4 = .ok (.getfield 15, 3) := by decide +kernel
theorem dX0_declarer_7 : decode cX0_declarer 7 = .ok (.if_icmp .ge 82, 3) := by decide +kernel
theorem dX0_declarer_10 : decode cX0_declarer 10 = .ok (.aload_n 0, 1) := by decide +kernel
theorem dX0_declarer_11 : decode cX0_declarer 11 = .ok (.iload_n 1, 1) := by decide +kernel
theorem dX0_declarer_12 : decode cX0_declarer 12 = .ok (.invokevirtual 52, 3) := by decide +kernel
theorem dX0_declarer_15 : decode cX0_declarer 15 = .ok (.istore_n 2, 1) := by decide +kernel
theorem dX0_declarer_16 : decode cX0_declarer 16 = .ok (.iload_n 2, 1) := by decide +kernel
theorem dX0_declarer_17 : decode cX0_declarer 17 = .ok (.ifCond .le 13, 3) := by decide +kernel
theorem dX0_declarer_20 : decode cX0_declarer 20 = .ok (.iload_n 2, 1) := by decide +kernel
theorem dX0_declarer_21 : decode cX0_declarer 21 = .ok (.bipush 40, 2) := by decide +kernel
theorem dX0_declarer_23 : decode cX0_declarer 23 = .ok (.if_icmp .gt 7, 3) := by decide +kernel
theorem dX0_declarer_26 : decode cX0_declarer 26 = .ok (.iconst 1, 1) := by decide +kernel
theorem dX0_declarer_27 : decode cX0_declarer 27 = .ok (.goto 4, 3) := by decide +kernel
theorem dX0_declarer_30 : decode cX0_declarer 30 = .ok (.iconst 0, 1) := by decide +kernel
theorem dX0_declarer_31 : decode cX0_declarer 31 = .ok (.istore_n 3, 1) := by decide +kernel
theorem dX0_declarer_32 : decode cX0_declarer 32 = .ok (.aload_n 0, 1) := by decide +kernel
theorem dX0_declarer_33 : decode cX0_declarer 33 = .ok (.iload_n 1, 1) := by decide +kernel
theorem dX0_declarer_34 : decode cX0_declarer 34 = .ok (.invokevirtual 34, 3) := by decide +kernel
theorem dX0_declarer_37 : decode cX0_declarer 37 = .ok (.invokestatic 42, 3) := by decide +kernel
theorem dX0_declarer_40 : decode cX0_declarer 40 = .ok (.aload_n 0, 1) := by decide +kernel
theorem dX0_declarer_41 : decode cX0_declarer 41 = .ok (.getfield 25, 3) := by decide +kernel
theorem dX0_declarer_44 : decode cX0_declarer 44 = .ok (.invokestatic 42, 3) := by decide +kernel
theorem dX0_declarer_47 : decode cX0_declarer 47 = .ok (.if_icmp .ne 7, 3) := by decide +kernel
theorem dX0_declarer_50 : decode cX0_declarer 50 = .ok (.iconst 1, 1) := by decide +kernel
theorem dX0_declarer_51 : decode cX0_declarer 51 = .ok (.goto 4, 3) := by decide +kernel
theorem dX0_declarer_54 : decode cX0_declarer 54 = .ok (.iconst 0, 1) := by decide +kernel
theorem dX0_declarer_55 : decode cX0_declarer 55 = .ok (.istore 4, 2) := by decide +kernel
theorem dX0_declarer_57 : decode cX0_declarer 57 = .ok (.iload_n 3, 1) := by decide +kernel
theorem dX0_declarer_58 : decode cX0_declarer 58 = .ok (.ifCond .eq 25, 3) := by decide +kernel
theorem dX0_declarer_61 : decode cX0_declarer 61 = .ok (.iload 4, 2) := by decide +kernel
theorem dX0_declarer_63 : decode cX0_declarer 63 = .ok (.ifCond .eq 20, 3) := by decide +kernel
theorem dX0_declarer_66 : decode cX0_declarer 66 = .ok (.iload_n 2, 1) := by decide +kernel
theorem dX0_declarer_67 : decode cX0_declarer 67 = .ok (.invokestatic 49, 3) := by decide +kernel
theorem dX0_declarer_70 : decode cX0_declarer 70 = .ok (.aload_n 0, 1) := by decide +kernel
theorem dX0_declarer_71 : decode cX0_declarer 71 = .ok (.invokevirtual 55, 3) := by decide +kernel
theorem dX0_declarer_74 : decode cX0_declarer 74 = .ok (.if_icmp .ne 9, 3) := by decide +kernel
theorem dX0_declarer_77 : decode cX0_declarer 77 = .ok (.aload_n 0, 1) := by decide +kernel
theorem dX0_declarer_78 : decode cX0_declarer 78 = .ok (.iload_n 1, 1) := by decide +kernel
theorem dX0_declarer_79 : decode cX0_declarer 79 = .ok (.invokevirtual 34, 3) := by decide +kernel
theorem dX0_declarer_82 : decode cX0_declarer 82 = .ok (.ireturn, 1) := by decide +kernel
theorem dX0_declarer_83 : decode cX0_declarer 83 = .ok (.iinc 1 1, 3) := by decide +kernel
theorem dX0_declarer_86 : decode cX0_declarer 86 = .ok (.goto (-84), 3) := by decide +kernel
theorem dX0_declarer_89 : decode cX0_declarer 89 = .ok (.iconst (-1), 1) := by decide +kernel
theorem dX0_declarer_90 : decode cX0_declarer 90 = .ok (.ireturn, 1) := by decide +kernel
theorem dX0_scoreFor_0 : decode cX0_scoreFor 0 = .ok (.aload_n 0, 1) := by decide +kernel
theorem dX0_scoreFor_1 : decode cX0_scoreFor 1 = .ok (.invokevirtual 58, 3) := by decide +kernel
theorem dX0_scoreFor_4 : decode cX0_scoreFor 4 = .ok (.istore_n 2, 1) := by decide +kernel
theorem dX0_scoreFor_5 : decode cX0_scoreFor 5 = .ok (.iload_n 1, 1) := by decide +kernel
theorem dX0_scoreFor_6 : decode cX0_scoreFor 6 = .ok (.iload_n 2, 1) := by decide +kernel
theorem dX0_scoreFor_7 : decode cX0_scoreFor 7 = .ok (.if_icmp .ge 15, 3) := by decide +kernel
theorem dX0_scoreFor_10 : decode cX0_scoreFor 10 = .ok (.bipush (-50), 2) := by decide +kernel
theorem dX0_scoreFor_12 : decode cX0_scoreFor 12 = .ok (.aload_n 0, 1) := by decide +kernel
theorem dX0_scoreFor_13 : decode cX0_scoreFor 13 = .ok (.getfield 28, 3) := by decide +kernel
theorem dX0_scoreFor_16 : decode cX0_scoreFor 16 = .ok (.imul, 1) := by decide +kernel
theorem dX0_scoreFor_17 : decode cX0_scoreFor 17 = .ok (.iload_n 2, 1) := by decide +kernel
theorem dX0_scoreFor_18 : decode cX0_scoreFor 18 = .ok (.iload_n 1, 1) := by decide +kernel
theorem dX0_scoreFor_19 : decode cX0_scoreFor 19 = .ok (.isub, 1) := by decide +kernel
theorem dX0_scoreFor_20 : decode cX0_scoreFor 20 = .ok (.imul, 1) := by decide +kernel
theorem dX0_scoreFor_21 : decode cX0_scoreFor 21 = .ok (.ireturn, 1) := by decide +kernel
theorem dX0_scoreFor_22 : decode cX0_scoreFor 22 = .ok (.iload_n 2, 1) := by decide +kernel
theorem dX0_scoreFor_23 : decode cX0_scoreFor 23 = .ok (.bipush 6, 2) := by decide +kernel
theorem dX0_scoreFor_25 : decode cX0_scoreFor 25 = .ok (.if_icmp .lt 8, 3) := by decide +kernel
theorem dX0_scoreFor_28 : decode cX0_scoreFor 28 = .ok (.bipush 50, 2) := by decide +kernel
theorem dX0_scoreFor_30 : decode cX0_scoreFor 30 = .ok (.goto 4, 3) := by decide +kernel
theorem dX0_scoreFor_33 : decode cX0_scoreFor 33 = .ok (.iconst 0, 1) := by decide +kernel
theorem dX0_scoreFor_34 : decode cX0_scoreFor 34 = .ok (.istore_n 3, 1) := by decide +kernel
theorem dX0_scoreFor_35 : decode cX0_scoreFor 35 = .ok (.aload_n 0, 1) := by decide +kernel
theorem dX0_scoreFor_36 : decode cX0_scoreFor 36 = .ok (.getfield 28, 3) := by decide +kernel
theorem dX0_scoreFor_39 : decode cX0_scoreFor 39 = .ok (.iload_n 2, 1) := by decide +kernel
theorem dX0_scoreFor_40 : decode cX0_scoreFor 40 = .ok (.imul, 1) := by decide +kernel
theorem dX0_scoreFor_41 : decode cX0_scoreFor 41 = .ok (.aload_n 0, 1) := by decide +kernel
theorem dX0_scoreFor_42 : decode cX0_scoreFor 42 = .ok (.invokevirtual 55, 3) := by decide +kernel
theorem dX0_scoreFor_45 : decode cX0_scoreFor 45 = .ok (.invokestatic 61, 3) := by decide +kernel
theorem dX0_scoreFor_48 : decode cX0_scoreFor 48 = .ok (.imul, 1) := by decide +kernel
theorem dX0_scoreFor_49 : decode cX0_scoreFor 49 = .ok (.bipush 20, 2) := by decide +kernel
theorem dX0_scoreFor_51 : decode cX0_scoreFor 51 = .ok (.aload_n 0, 1) := by decide +kernel
theorem dX0_scoreFor_52 : decode cX0_scoreFor 52 = .ok (.getfield 28, 3) := by decide +kernel
theorem dX0_scoreFor_55 : decode cX0_scoreFor 55 = .ok (.imul, 1) := by decide +kernel
theorem dX0_scoreFor_56 : decode cX0_scoreFor 56 = .ok (.iload_n 1, 1) := by decide +kernel
theorem dX0_scoreFor_57 : decode cX0_scoreFor 57 = .ok (.iload_n 2, 1) := by decide +kernel
theorem dX0_scoreFor_58 : decode cX0_scoreFor 58 = .ok (.isub, 1) := by decide +kernel
theorem dX0_scoreFor_59 : decode cX0_scoreFor 59 = .ok (.imul, 1) := by decide +kernel
theorem dX0_scoreFor_60 : decode cX0_scoreFor 60 = .ok (.iadd, 1) := by decide +kernel
theorem dX0_scoreFor_61 : decode cX0_scoreFor 61 = .ok (.iload_n 3, 1) := by decide +kernel
theorem dX0_scoreFor_62 : decode cX0_scoreFor 62 = .ok (.iadd, 1) := by decide +kernel
theorem dX0_scoreFor_63 : decode cX0_scoreFor 63 = .ok (.ireturn, 1) := by decide +kernel
theorem dX0_worthOf_0 : decode cX0_worthOf 0 = .ok (.iload_n 0, 1) := by decide +kernel
theorem dX0_worthOf_1 : decode cX0_worthOf 1 = .ok (.iconst 4, 1) := by decide +kernel
theorem dX0_worthOf_2 : decode cX0_worthOf 2 = .ok (.if_icmp .lt 6, 3) := by decide +kernel
theorem dX0_worthOf_5 : decode cX0_worthOf 5 = .ok (.bipush 40, 2) := by decide +kernel
theorem dX0_worthOf_7 : decode cX0_worthOf 7 = .ok (.ireturn, 1) := by decide +kernel
theorem dX0_worthOf_8 : decode cX0_worthOf 8 = .ok (.iload_n 0, 1) := by decide +kernel
theorem dX0_worthOf_9 : decode cX0_worthOf 9 = .ok (.iconst 2, 1) := by decide +kernel
theorem dX0_worthOf_10 : decode cX0_worthOf 10 = .ok (.if_icmp .lt 8, 3) := by decide +kernel
theorem dX0_worthOf_13 : decode cX0_worthOf 13 = .ok (.bipush 30, 2) := by decide +kernel
theorem dX0_worthOf_15 : decode cX0_worthOf 15 = .ok (.goto 5, 3) := by decide +kernel
theorem dX0_worthOf_18 : decode cX0_worthOf 18 = .ok (.bipush 20, 2) := by decide +kernel
theorem dX0_worthOf_20 : decode cX0_worthOf 20 = .ok (.ireturn, 1) := by decide +kernel
theorem dX1_init_0 : decode cX1_init 0 = .ok (.aload_n 0, 1) := by decide +kernel
theorem dX1_init_1 : decode cX1_init 1 = .ok (.invokespecial 3, 3) := by decide +kernel
theorem dX1_init_4 : decode cX1_init 4 = .ok (.aload_n 0, 1) := by decide +kernel
theorem dX1_init_5 : decode cX1_init 5 = .ok (.iconst 4, 1) := by decide +kernel
theorem dX1_init_6 : decode cX1_init 6 = .ok (.newarray .int, 2) := by decide +kernel
theorem dX1_init_8 : decode cX1_init 8 = .ok (.putfield 9, 3) := by decide +kernel
theorem dX1_init_11 : decode cX1_init 11 = .ok (.aload_n 0, 1) := by decide +kernel
theorem dX1_init_12 : decode cX1_init 12 = .ok (.bipush 32, 2) := by decide +kernel
theorem dX1_init_14 : decode cX1_init 14 = .ok (.newarray .int, 2) := by decide +kernel
theorem dX1_init_16 : decode cX1_init 16 = .ok (.putfield 15, 3) := by decide +kernel
theorem dX1_init_19 : decode cX1_init 19 = .ok (.aload_n 0, 1) := by decide +kernel
theorem dX1_init_20 : decode cX1_init 20 = .ok (.bipush 9, 2) := by decide +kernel
theorem dX1_init_22 : decode cX1_init 22 = .ok (.newarray .int, 2) := by decide +kernel
theorem dX1_init_24 : decode cX1_init 24 = .ok (.putfield 18, 3) := by decide +kernel
theorem dX1_init_27 : decode cX1_init 27 = .ok (.aload_n 0, 1) := by decide +kernel
theorem dX1_init_28 : decode cX1_init 28 = .ok (.iconst 0, 1) := by decide +kernel
theorem dX1_init_29 : decode cX1_init 29 = .ok (.putfield 21, 3) := by decide +kernel
theorem dX1_init_32 : decode cX1_init 32 = .ok (.aload_n 0, 1) := by decide +kernel
theorem dX1_init_33 : decode cX1_init 33 = .ok (.iconst 0, 1) := by decide +kernel
theorem dX1_init_34 : decode cX1_init 34 = .ok (.putfield 25, 3) := by decide +kernel
theorem dX1_init_37 : decode cX1_init 37 = .ok (.aload_n 0, 1) := by decide +kernel
theorem dX1_init_38 : decode cX1_init 38 = .ok (.iconst 0, 1) := by decide +kernel
theorem dX1_init_39 : decode cX1_init 39 = .ok (.putfield 28, 3) := by decide +kernel
theorem dX1_init_42 : decode cX1_init 42 = .ok (.aload_n 0, 1) := by decide +kernel
theorem dX1_init_43 : decode cX1_init 43 = .ok (.iconst 4, 1) := by decide +kernel
theorem dX1_init_44 : decode cX1_init 44 = .ok (.putfield 31, 3) := by decide +kernel
theorem dX1_init_47 : decode cX1_init 47 = .ok (.aload_n 0, 1) := by decide +kernel
theorem dX1_init_48 : decode cX1_init 48 = .ok (.iconst 0, 1) := by decide +kernel
theorem dX1_init_49 : decode cX1_init 49 = .ok (.putfield 34, 3) := by decide +kernel
theorem dX1_init_52 : decode cX1_init 52 = .ok (.return_, 1) := by decide +kernel
theorem dX1_clear_0 : decode cX1_clear 0 = .ok (.iconst 0, 1) := by decide +kernel
theorem dX1_clear_1 : decode cX1_clear 1 = .ok (.istore_n 1, 1) := by decide +kernel
theorem dX1_clear_2 : decode cX1_clear 2 = .ok (.iload_n 1, 1) := by decide +kernel
theorem dX1_clear_3 : decode cX1_clear 3 = .ok (.iconst 4, 1) := by decide +kernel
theorem dX1_clear_4 : decode cX1_clear 4 = .ok (.if_icmp .ge 16, 3) := by decide +kernel
theorem dX1_clear_7 : decode cX1_clear 7 = .ok (.aload_n 0, 1) := by decide +kernel
theorem dX1_clear_8 : decode cX1_clear 8 = .ok (.getfield 9, 3) := by decide +kernel
theorem dX1_clear_11 : decode cX1_clear 11 = .ok (.iload_n 1, 1) := by decide +kernel
theorem dX1_clear_12 : decode cX1_clear 12 = .ok (.iconst 0, 1) := by decide +kernel
theorem dX1_clear_13 : decode cX1_clear 13 = .ok (.iastore, 1) := by decide +kernel
theorem dX1_clear_14 : decode cX1_clear 14 = .ok (.iinc 1 1, 3) := by decide +kernel
theorem dX1_clear_17 : decode cX1_clear 17 = .ok (.goto (-15), 3) := by decide +kernel
theorem dX1_clear_20 : decode cX1_clear 20 = .ok (.aload_n 0, 1) := by decide +kernel
theorem dX1_clear_21 : decode cX1_clear 21 = .ok (.iconst 0, 1) := by decide +kernel
theorem dX1_clear_22 : decode cX1_clear 22 = .ok (.putfield 21, 3) := by decide +kernel
theorem dX1_clear_25 : decode cX1_clear 25 = .ok (.aload_n 0, 1) := by decide +kernel
theorem dX1_clear_26 : decode cX1_clear 26 = .ok (.iconst 0, 1) := by decide +kernel
theorem dX1_clear_27 : decode cX1_clear 27 = .ok (.putfield 25, 3) := by decide +kernel
theorem dX1_clear_30 : decode cX1_clear 30 = .ok (.aload_n 0, 1) := by decide +kernel
theorem dX1_clear_31 : decode cX1_clear 31 = .ok (.iconst 0, 1) := by decide +kernel
theorem dX1_clear_32 : decode cX1_clear 32 = .ok (.putfield 28, 3) := by decide +kernel
theorem dX1_clear_35 : decode cX1_clear 35 = .ok (.return_, 1) := by decide +kernel
theorem dX1_copyFrom_0 : decode cX1_copyFrom 0 = .ok (.aload_n 1, 1) := by decide +kernel
theorem dX1_copyFrom_1 : decode cX1_copyFrom 1 = .ok (.getfield 9, 3) := by decide +kernel
theorem dX1_copyFrom_4 : decode cX1_copyFrom 4 = .ok (.iconst 0, 1) := by decide +kernel
theorem dX1_copyFrom_5 : decode cX1_copyFrom 5 = .ok (.aload_n 0, 1) := by decide +kernel
theorem dX1_copyFrom_6 : decode cX1_copyFrom 6 = .ok (.getfield 9, 3) := by decide +kernel
theorem dX1_copyFrom_9 : decode cX1_copyFrom 9 = .ok (.iconst 0, 1) := by decide +kernel
theorem dX1_copyFrom_10 : decode cX1_copyFrom 10 = .ok (.iconst 4, 1) := by decide +kernel
theorem dX1_copyFrom_11 : decode cX1_copyFrom 11 = .ok (.invokestatic 37, 3) := by decide +kernel
theorem dX1_copyFrom_14 : decode cX1_copyFrom 14 = .ok (.aload_n 1, 1) := by decide +kernel
theorem dX1_copyFrom_15 : decode cX1_copyFrom 15 = .ok (.getfield 15, 3) := by decide +kernel
theorem dX1_copyFrom_18 : decode cX1_copyFrom 18 = .ok (.iconst 0, 1) := by decide +kernel
theorem dX1_copyFrom_19 : decode cX1_copyFrom 19 = .ok (.aload_n 0, 1) := by decide +kernel
theorem dX1_copyFrom_20 : decode cX1_copyFrom 20 = .ok (.getfield 15, 3) := by decide +kernel
theorem dX1_copyFrom_23 : decode cX1_copyFrom 23 = .ok (.iconst 0, 1) := by decide +kernel
theorem dX1_copyFrom_24 : decode cX1_copyFrom 24 = .ok (.bipush 32, 2) := by decide +kernel
theorem dX1_copyFrom_26 : decode cX1_copyFrom 26 = .ok (.invokestatic 37, 3) := by decide +kernel
theorem dX1_copyFrom_29 : decode cX1_copyFrom 29 = .ok (.aload_n 1, 1) := by decide +kernel
theorem dX1_copyFrom_30 : decode cX1_copyFrom 30 = .ok (.getfield 18, 3) := by decide +kernel
theorem dX1_copyFrom_33 : decode cX1_copyFrom 33 = .ok (.iconst 0, 1) := by decide +kernel
theorem dX1_copyFrom_34 : decode cX1_copyFrom 34 = .ok (.aload_n 0, 1) := by decide +kernel
theorem dX1_copyFrom_35 : decode cX1_copyFrom 35 = .ok (.getfield 18, 3) := by decide +kernel
theorem dX1_copyFrom_38 : decode cX1_copyFrom 38 = .ok (.iconst 0, 1) := by decide +kernel
theorem dX1_copyFrom_39 : decode cX1_copyFrom 39 = .ok (.bipush 9, 2) := by decide +kernel
theorem dX1_copyFrom_41 : decode cX1_copyFrom 41 = .ok (.invokestatic 37, 3) := by decide +kernel
theorem dX1_copyFrom_44 : decode cX1_copyFrom 44 = .ok (.aload_n 0, 1) := by decide +kernel
theorem dX1_copyFrom_45 : decode cX1_copyFrom 45 = .ok (.aload_n 1, 1) := by decide +kernel
theorem dX1_copyFrom_46 : decode cX1_copyFrom 46 = .ok (.getfield 21, 3) := by decide +kernel
theorem dX1_copyFrom_49 : decode cX1_copyFrom 49 = .ok (.putfield 21, 3) := by decide +kernel
theorem dX1_copyFrom_52 : decode cX1_copyFrom 52 = .ok (.aload_n 0, 1) := by decide +kernel
theorem dX1_copyFrom_53 : decode cX1_copyFrom 53 = .ok (.aload_n 1, 1) := by decide +kernel
theorem dX1_copyFrom_54 : decode cX1_copyFrom 54 = .ok (.getfield 25, 3) := by decide +kernel
theorem dX1_copyFrom_57 : decode cX1_copyFrom 57 = .ok (.putfield 25, 3) := by decide +kernel
theorem dX1_copyFrom_60 : decode cX1_copyFrom 60 = .ok (.aload_n 0, 1) := by decide +kernel
theorem dX1_copyFrom_61 : decode cX1_copyFrom 61 = .ok (.aload_n 1, 1) := by decide +kernel
theorem dX1_copyFrom_62 : decode cX1_copyFrom 62 = .ok (.getfield 28, 3) := by decide +kernel
theorem dX1_copyFrom_65 : decode cX1_copyFrom 65 = .ok (.putfield 28, 3) := by decide +kernel
theorem dX1_copyFrom_68 : decode cX1_copyFrom 68 = .ok (.aload_n 0, 1) := by decide +kernel
theorem dX1_copyFrom_69 : decode cX1_copyFrom 69 = .ok (.aload_n 1, 1) := by decide +kernel
theorem dX1_copyFrom_70 : decode cX1_copyFrom 70 = .ok (.getfield 31, 3) := by decide +kernel
theorem dX1_copyFrom_73 : decode cX1_copyFrom 73 = .ok (.putfield 31, 3) := by decide +kernel
theorem dX1_copyFrom_76 : decode cX1_copyFrom 76 = .ok (.aload_n 0, 1) := by decide +kernel
theorem dX1_copyFrom_77 : decode cX1_copyFrom 77 = .ok (.aload_n 1, 1) := by decide +kernel
theorem dX1_copyFrom_78 : decode cX1_copyFrom 78 = .ok (.getfield 34, 3) := by decide +kernel
theorem dX1_copyFrom_81 : decode cX1_copyFrom 81 = .ok (.putfield 34, 3) := by decide +kernel
theorem dX1_copyFrom_84 : decode cX1_copyFrom 84 = .ok (.return_, 1) := by decide +kernel
theorem dX1_start_0 : decode cX1_start 0 = .ok (.aload_n 0, 1) := by decide +kernel
theorem dX1_start_1 : decode cX1_start 1 = .ok (.getfield 18, 3) := by decide +kernel
theorem dX1_start_4 : decode cX1_start 4 = .ok (.iconst 0, 1) := by decide +kernel
theorem dX1_start_5 : decode cX1_start 5 = .ok (.iload_n 1, 1) := by decide +kernel
theorem dX1_start_6 : decode cX1_start 6 = .ok (.iastore, 1) := by decide +kernel
theorem dX1_start_7 : decode cX1_start 7 = .ok (.aload_n 0, 1) := by decide +kernel
theorem dX1_start_8 : decode cX1_start 8 = .ok (.iload_n 1, 1) := by decide +kernel
theorem dX1_start_9 : decode cX1_start 9 = .ok (.putfield 34, 3) := by decide +kernel
theorem dX1_start_12 : decode cX1_start 12 = .ok (.aload_n 0, 1) := by decide +kernel
theorem dX1_start_13 : decode cX1_start 13 = .ok (.iload_n 2, 1) := by decide +kernel
theorem dX1_start_14 : decode cX1_start 14 = .ok (.putfield 31, 3) := by decide +kernel
theorem dX1_start_17 : decode cX1_start 17 = .ok (.return_, 1) := by decide +kernel
theorem dX1_heldBy_0 : decode cX1_heldBy 0 = .ok (.aload_n 0, 1) := by decide +kernel
theorem dX1_heldBy_1 : decode cX1_heldBy 1 = .ok (.getfield 9, 3) := by decide +kernel
theorem dX1_heldBy_4 : decode cX1_heldBy 4 = .ok (.iload_n 1, 1) := by decide +kernel
theorem dX1_heldBy_5 : decode cX1_heldBy 5 = .ok (.iconst 3, 1) := by decide +kernel
theorem dX1_heldBy_6 : decode cX1_heldBy 6 = .ok (.iand, 1) := by decide +kernel
theorem dX1_heldBy_7 : decode cX1_heldBy 7 = .ok (.iaload, 1) := by decide +kernel
theorem dX1_heldBy_8 : decode cX1_heldBy 8 = .ok (.ireturn, 1) := by decide +kernel
theorem dX1_count_0 : decode cX1_count 0 = .ok (.aload_n 0, 1) := by decide +kernel
theorem dX1_count_1 : decode cX1_count 1 = .ok (.iload_n 1, 1) := by decide +kernel
theorem dX1_count_2 : decode cX1_count 2 = .ok (.invokevirtual 43, 3) := by decide +kernel
theorem dX1_count_5 : decode cX1_count 5 = .ok (.invokestatic 47, 3) := by decide +kernel
theorem dX1_count_8 : decode cX1_count 8 = .ok (.ireturn, 1) := by decide +kernel
theorem dX1_add_0 : decode cX1_add 0 = .ok (.aload_n 0, 1) := by decide +kernel
theorem dX1_add_1 : decode cX1_add 1 = .ok (.getfield 9, 3) := by decide +kernel
theorem dX1_add_4 : decode cX1_add 4 = .ok (.iload_n 1, 1) := by decide +kernel
theorem dX1_add_5 : decode cX1_add 5 = .ok (.iconst 3, 1) := by decide +kernel
theorem dX1_add_6 : decode cX1_add 6 = .ok (.iand, 1) := by decide +kernel
theorem dX1_add_7 : decode cX1_add 7 = .ok (.aload_n 0, 1) := by decide +kernel
theorem dX1_add_8 : decode cX1_add 8 = .ok (.iload_n 1, 1) := by decide +kernel
theorem dX1_add_9 : decode cX1_add 9 = .ok (.invokevirtual 43, 3) := by decide +kernel
theorem dX1_add_12 : decode cX1_add 12 = .ok (.iload_n 2, 1) := by decide +kernel
theorem dX1_add_13 : decode cX1_add 13 = .ok (.invokestatic 52, 3) := by decide +kernel
theorem dX1_add_16 : decode cX1_add 16 = .ok (.iastore, 1) := by decide +kernel
theorem dX1_add_17 : decode cX1_add 17 = .ok (.return_, 1) := by decide +kernel
theorem dX1_areAllEmpty_0 : decode cX1_areAllEmpty 0 = .ok (.aload_n 0, 1) := by decide +kernel
theorem dX1_areAllEmpty_1 : decode cX1_areAllEmpty 1 = .ok (.iconst 0, 1) := by decide +kernel
theorem dX1_areAllEmpty_2 : decode cX1_areAllEmpty 2 = .ok (.invokevirtual 60, 3) := by decide +kernel
theorem dX1_areAllEmpty_5 : decode cX1_areAllEmpty 5 = .ok (.ireturn, 1) := by decide +kernel
theorem dX1_areAtMost_0 : decode cX1_areAtMost 0 = .ok (.iconst 0, 1) := by decide +kernel
theorem dX1_areAtMost_1 : decode cX1_areAtMost 1 = .ok (.istore_n 2, 1) := by decide +kernel
theorem dX1_areAtMost_2 : decode cX1_areAtMost 2 = .ok (.iload_n 2, 1) := by decide +kernel
theorem dX1_areAtMost_3 : decode cX1_areAtMost 3 = .ok (.iconst 4, 1) := by decide +kernel
theorem dX1_areAtMost_4 : decode cX1_areAtMost 4 = .ok (.if_icmp .ge 20, 3) := by decide +kernel
theorem dX1_areAtMost_7 : decode cX1_areAtMost 7 = .ok (.aload_n 0, 1) := by decide +kernel
theorem dX1_areAtMost_8 : decode cX1_areAtMost 8 = .ok (.iload_n 2, 1) := by decide +kernel
theorem dX1_areAtMost_9 : decode cX1_areAtMost 9 = .ok (.invokevirtual 64, 3) := by decide +kernel
theorem dX1_areAtMost_12 : decode cX1_areAtMost 12 = .ok (.iload_n 1, 1) := by decide +kernel
theorem dX1_areAtMost_13 : decode cX1_areAtMost 13 = .ok (.if_icmp .le 5, 3) := by decide +kernel
theorem dX1_areAtMost_16 : decode cX1_areAtMost 16 = .ok (.iconst 0, 1) := by decide +kernel
theorem dX1_areAtMost_17 : decode cX1_areAtMost 17 = .ok (.ireturn, 1) := by decide +kernel
theorem dX1_areAtMost_18 : decode cX1_areAtMost 18 = .ok (.iinc 2 1, 3) := by decide +kernel
theorem dX1_areAtMost_21 : decode cX1_areAtMost 21 = .ok (.goto (-19), 3) := by decide +kernel
theorem dX1_areAtMost_24 : decode cX1_areAtMost 24 = .ok (.iconst 1, 1) := by decide +kernel
theorem dX1_areAtMost_25 : decode cX1_areAtMost 25 = .ok (.ireturn, 1) := by decide +kernel
theorem dX1_areReady_0 : decode cX1_areReady 0 = .ok (.iconst 1, 1) := by decide +kernel
theorem dX1_areReady_1 : decode cX1_areReady 1 = .ok (.istore_n 1, 1) := by decide +kernel
theorem dX1_areReady_2 : decode cX1_areReady 2 = .ok (.iload_n 1, 1) := by decide +kernel
theorem dX1_areReady_3 : decode cX1_areReady 3 = .ok (.iconst 4, 1) := by decide +kernel
theorem dX1_areReady_4 : decode cX1_areReady 4 = .ok (.if_icmp .ge 24, 3) := by decide +kernel
theorem dX1_areReady_7 : decode cX1_areReady 7 = .ok (.aload_n 0, 1) := by decide +kernel
theorem dX1_areReady_8 : decode cX1_areReady 8 = .ok (.iload_n 1, 1) := by decide +kernel
theorem dX1_areReady_9 : decode cX1_areReady 9 = .ok (.invokevirtual 64, 3) := by decide +kernel
theorem dX1_areReady_12 : decode cX1_areReady 12 = .ok (.aload_n 0, 1) := by decide +kernel
theorem dX1_areReady_13 : decode cX1_areReady 13 = .ok (.iconst 0, 1) := by decide +kernel
theorem dX1_areReady_14 : decode cX1_areReady 14 = .ok (.invokevirtual 64, 3) := by decide +kernel
theorem dX1_areReady_17 : decode cX1_areReady 17 = .ok (.if_icmp .eq 5, 3) := by decide +kernel
theorem dX1_areReady_20 : decode cX1_areReady 20 = .ok (.iconst 0, 1) := by decide +kernel
theorem dX1_areReady_21 : decode cX1_areReady 21 = .ok (.ireturn, 1) := by decide +kernel
theorem dX1_areReady_22 : decode cX1_areReady 22 = .ok (.iinc 1 1, 3) := by decide +kernel
theorem dX1_areReady_25 : decode cX1_areReady 25 = .ok (.goto (-23), 3) := by decide +kernel
theorem dX1_areReady_28 : decode cX1_areReady 28 = .ok (.aload_n 0, 1) := by decide +kernel
theorem dX1_areReady_29 : decode cX1_areReady 29 = .ok (.iconst 0, 1) := by decide +kernel
theorem dX1_areReady_30 : decode cX1_areReady 30 = .ok (.invokevirtual 64, 3) := by decide +kernel
theorem dX1_areReady_33 : decode cX1_areReady 33 = .ok (.ifCond .le 7, 3) := by decide +kernel
theorem dX1_areReady_36 : decode cX1_areReady 36 = .ok (.iconst 1, 1) := by decide +kernel
theorem dX1_areReady_37 : decode cX1_areReady 37 = .ok (.goto 4, 3) := by decide +kernel
theorem dX1_areReady_40 : decode cX1_areReady 40 = .ok (.iconst 0, 1) := by decide +kernel
theorem dX1_areReady_41 : decode cX1_areReady 41 = .ok (.ireturn, 1) := by decide +kernel
theorem dX1_ended_0 : decode cX1_ended 0 = .ok (.aload_n 0, 1) := by decide +kernel
theorem dX1_ended_1 : decode cX1_ended 1 = .ok (.getfield 25, 3) := by decide +kernel
theorem dX1_ended_4 : decode cX1_ended 4 = .ok (.iconst 4, 1) := by decide +kernel
theorem dX1_ended_5 : decode cX1_ended 5 = .ok (.idiv, 1) := by decide +kernel
theorem dX1_ended_6 : decode cX1_ended 6 = .ok (.ireturn, 1) := by decide +kernel
theorem dX1_lying_0 : decode cX1_lying 0 = .ok (.aload_n 0, 1) := by decide +kernel
theorem dX1_lying_1 : decode cX1_lying 1 = .ok (.getfield 25, 3) := by decide +kernel
theorem dX1_lying_4 : decode cX1_lying 4 = .ok (.iconst 4, 1) := by decide +kernel
theorem dX1_lying_5 : decode cX1_lying 5 = .ok (.irem, 1) := by decide +kernel
theorem dX1_lying_6 : decode cX1_lying 6 = .ok (.ireturn, 1) := by decide +kernel
theorem dX1_tricksLeft_0 : decode cX1_tricksLeft 0 = .ok (.aload_n 0, 1) := by decide +kernel
theorem dX1_tricksLeft_1 : decode cX1_tricksLeft 1 = .ok (.getfield 21, 3) := by decide +kernel
theorem dX1_tricksLeft_4 : decode cX1_tricksLeft 4 = .ok (.aload_n 0, 1) := by decide +kernel
theorem dX1_tricksLeft_5 : decode cX1_tricksLeft 5 = .ok (.invokevirtual 67, 3) := by decide +kernel
theorem dX1_tricksLeft_8 : decode cX1_tricksLeft 8 = .ok (.isub, 1) := by decide +kernel
theorem dX1_tricksLeft_9 : decode cX1_tricksLeft 9 = .ok (.ireturn, 1) := by decide +kernel
theorem dX1_leaderOf_0 : decode cX1_leaderOf 0 = .ok (.iload_n 1, 1) := by decide +kernel
theorem dX1_leaderOf_1 : decode cX1_leaderOf 1 = .ok (.ifCond .lt 21, 3) := by decide +kernel
theorem dX1_leaderOf_4 : decode cX1_leaderOf 4 = .ok (.iload_n 1, 1) := by decide +kernel
theorem dX1_leaderOf_5 : decode cX1_leaderOf 5 = .ok (.aload_n 0, 1) := by decide +kernel
theorem dX1_leaderOf_6 : decode cX1_leaderOf 6 = .ok (.getfield 18, 3) := by decide +kernel
theorem dX1_leaderOf_9 : decode cX1_leaderOf 9 = .ok (.arraylength, 1) := by decide +kernel
theorem dX1_leaderOf_10 : decode cX1_leaderOf 10 = .ok (.if_icmp .ge 12, 3) := by decide +kernel
theorem dX1_leaderOf_13 : decode cX1_leaderOf 13 = .ok (.aload_n 0, 1) := by decide +kernel
theorem dX1_leaderOf_14 : decode cX1_leaderOf 14 = .ok (.getfield 18, 3) := by decide +kernel
theorem dX1_leaderOf_17 : decode cX1_leaderOf 17 = .ok (.iload_n 1, 1) := by decide +kernel
theorem dX1_leaderOf_18 : decode cX1_leaderOf 18 = .ok (.iaload, 1) := by decide +kernel
theorem dX1_leaderOf_19 : decode cX1_leaderOf 19 = .ok (.goto 4, 3) := by decide +kernel
theorem dX1_leaderOf_22 : decode cX1_leaderOf 22 = .ok (.iconst (-1), 1) := by decide +kernel
theorem dX1_leaderOf_23 : decode cX1_leaderOf 23 = .ok (.ireturn, 1) := by decide +kernel
theorem dX1_playedAt_0 : decode cX1_playedAt 0 = .ok (.iload_n 1, 1) := by decide +kernel
theorem dX1_playedAt_1 : decode cX1_playedAt 1 = .ok (.ifCond .lt 21, 3) := by decide +kernel
theorem dX1_playedAt_4 : decode cX1_playedAt 4 = .ok (.iload_n 1, 1) := by decide +kernel
theorem dX1_playedAt_5 : decode cX1_playedAt 5 = .ok (.aload_n 0, 1) := by decide +kernel
theorem dX1_playedAt_6 : decode cX1_playedAt 6 = .ok (.getfield 15, 3) := by decide +kernel
theorem dX1_playedAt_9 : decode cX1_playedAt 9 = .ok (.arraylength, 1) := by decide +kernel
theorem dX1_playedAt_10 : decode cX1_playedAt 10 = .ok (.if_icmp .ge 12, 3) := by decide +kernel
theorem dX1_playedAt_13 : decode cX1_playedAt 13 = .ok (.aload_n 0, 1) := by decide +kernel
theorem dX1_playedAt_14 : decode cX1_playedAt 14 = .ok (.getfield 15, 3) := by decide +kernel
theorem dX1_playedAt_17 : decode cX1_playedAt 17 = .ok (.iload_n 1, 1) := by decide +kernel
theorem dX1_playedAt_18 : decode cX1_playedAt 18 = .ok (.iaload, 1) := by decide +kernel
theorem dX1_playedAt_19 : decode cX1_playedAt 19 = .ok (.goto 4, 3) := by decide +kernel
theorem dX1_playedAt_22 : decode cX1_playedAt 22 = .ok (.iconst (-1), 1) := by decide +kernel
theorem dX1_playedAt_23 : decode cX1_playedAt 23 = .ok (.ireturn, 1) := by decide +kernel
theorem dX1_playerAt_0 : decode cX1_playerAt 0 = .ok (.aload_n 0, 1) := by decide +kernel
theorem dX1_playerAt_1 : decode cX1_playerAt 1 = .ok (.iload_n 1, 1) := by decide +kernel
theorem dX1_playerAt_2 : decode cX1_playerAt 2 = .ok (.iconst 4, 1) := by decide +kernel
theorem dX1_playerAt_3 : decode cX1_playerAt 3 = .ok (.idiv, 1) := by decide +kernel
theorem dX1_playerAt_4 : decode cX1_playerAt 4 = .ok (.invokevirtual 71, 3) := by decide +kernel
theorem dX1_playerAt_7 : decode cX1_playerAt 7 = .ok (.iload_n 1, 1) := by decide +kernel
theorem dX1_playerAt_8 : decode cX1_playerAt 8 = .ok (.iconst 4, 1) := by decide +kernel
theorem dX1_playerAt_9 : decode cX1_playerAt 9 = .ok (.irem, 1) := by decide +kernel
theorem dX1_playerAt_10 : decode cX1_playerAt 10 = .ok (.iadd, 1) := by decide +kernel
theorem dX1_playerAt_11 : decode cX1_playerAt 11 = .ok (.iconst 3, 1) := by decide +kernel
theorem dX1_playerAt_12 : decode cX1_playerAt 12 = .ok (.iand, 1) := by decide +kernel
theorem dX1_playerAt_13 : decode cX1_playerAt 13 = .ok (.ireturn, 1) := by decide +kernel
theorem dX1_cardIn_0 : decode cX1_cardIn 0 = .ok (.iload_n 2, 1) := by decide +kernel
theorem dX1_cardIn_1 : decode cX1_cardIn 1 = .ok (.aload_n 0, 1) := by decide +kernel
theorem dX1_cardIn_2 : decode cX1_cardIn 2 = .ok (.iload_n 1, 1) := by decide +kernel
theorem dX1_cardIn_3 : decode cX1_cardIn 3 = .ok (.invokevirtual 71, 3) := by decide +kernel
theorem dX1_cardIn_6 : decode cX1_cardIn 6 = .ok (.isub, 1) := by decide +kernel
theorem dX1_cardIn_7 : decode cX1_cardIn 7 = .ok (.iconst 3, 1) := by decide +kernel
theorem dX1_cardIn_8 : decode cX1_cardIn 8 = .ok (.iand, 1) := by decide +kernel
theorem dX1_cardIn_9 : decode cX1_cardIn 9 = .ok (.istore_n 3, 1) := by decide +kernel
theorem dX1_cardIn_10 : decode cX1_cardIn 10 = .ok (.aload_n 0, 1) := by decide +kernel
theorem dX1_cardIn_11 : decode cX1_cardIn 11 = .ok (.iconst 4, 1) := by decide +kernel
theorem dX1_cardIn_12 : decode cX1_cardIn 12 = .ok (.iload_n 1, 1) := by decide +kernel
theorem dX1_cardIn_13 : decode cX1_cardIn 13 = .ok (.imul, 1) := by decide +kernel
theorem dX1_cardIn_14 : decode cX1_cardIn 14 = .ok (.iload_n 3, 1) := by decide +kernel
theorem dX1_cardIn_15 : decode cX1_cardIn 15 = .ok (.iadd, 1) := by decide +kernel
theorem dX1_cardIn_16 : decode cX1_cardIn 16 = .ok (.invokevirtual 74, 3) := by decide +kernel
theorem dX1_cardIn_19 : decode cX1_cardIn 19 = .ok (.ireturn, 1) := by decide +kernel
theorem dX1_takerOf_0 : decode cX1_takerOf 0 = .ok (.iconst (-1), 1) := by decide +kernel
theorem dX1_takerOf_1 : decode cX1_takerOf 1 = .ok (.istore_n 3, 1) := by decide +kernel
theorem dX1_takerOf_2 : decode cX1_takerOf 2 = .ok (.iconst (-1), 1) := by decide +kernel
theorem dX1_takerOf_3 : decode cX1_takerOf 3 = .ok (.istore 4, 2) := by decide +kernel
theorem dX1_takerOf_5 : decode cX1_takerOf 5 = .ok (.iconst 0, 1) := by decide +kernel
theorem dX1_takerOf_6 : decode cX1_takerOf 6 = .ok (.istore 5, 2) := by decide +kernel
theorem dX1_takerOf_8 : decode cX1_takerOf 8 = .ok (.iload 5, 2) := by decide +kernel
theorem dX1_takerOf_10 : decode cX1_takerOf 10 = .ok (.iload_n 2, 1) := by decide +kernel
theorem dX1_takerOf_11 : decode cX1_takerOf 11 = .ok (.if_icmp .ge 52, 3) := by decide +kernel
theorem dX1_takerOf_14 : decode cX1_takerOf 14 = .ok (.aload_n 0, 1) := by decide +kernel
theorem dX1_takerOf_15 : decode cX1_takerOf 15 = .ok (.iconst 4, 1) := by decide +kernel
theorem dX1_takerOf_16 : decode cX1_takerOf 16 = .ok (.iload_n 1, 1) := by decide +kernel
theorem dX1_takerOf_17 : decode cX1_takerOf 17 = .ok (.imul, 1) := by decide +kernel
theorem dX1_takerOf_18 : decode cX1_takerOf 18 = .ok (.iload 5, 2) := by decide +kernel
theorem dX1_takerOf_20 : decode cX1_takerOf 20 = .ok (.iadd, 1) := by decide +kernel
theorem dX1_takerOf_21 : decode cX1_takerOf 21 = .ok (.invokevirtual 74, 3) := by decide +kernel
theorem dX1_takerOf_24 : decode cX1_takerOf 24 = .ok (.istore 6, 2) := by decide +kernel
theorem dX1_takerOf_26 : decode cX1_takerOf 26 = .ok (.iload_n 3, 1) := by decide +kernel
theorem dX1_takerOf_27 : decode cX1_takerOf 27 = .ok (.iconst (-1), 1) := by decide +kernel
theorem dX1_takerOf_28 : decode cX1_takerOf 28 = .ok (.if_icmp .eq 14, 3) := by decide +kernel
theorem dX1_takerOf_31 : decode cX1_takerOf 31 = .ok (.aload_n 0, 1) := by decide +kernel
theorem dX1_takerOf_32 : decode cX1_takerOf 32 = .ok (.iload 6, 2) := by decide +kernel
theorem dX1_takerOf_34 : decode cX1_takerOf 34 = .ok (.iload 4, 2) := by decide +kernel
theorem dX1_takerOf_36 : decode cX1_takerOf 36 = .ok (.invokevirtual 77, 3) := by decide +kernel
theorem dX1_takerOf_39 : decode cX1_takerOf 39 = .ok (.ifCond .eq 18, 3) := by decide +kernel
theorem dX1_takerOf_42 : decode cX1_takerOf 42 = .ok (.aload_n 0, 1) := by decide +kernel
theorem dX1_takerOf_43 : decode cX1_takerOf 43 = .ok (.iload_n 1, 1) := by decide +kernel
theorem dX1_takerOf_44 : decode cX1_takerOf 44 = .ok (.invokevirtual 71, 3) := by decide +kernel
theorem dX1_takerOf_47 : decode cX1_takerOf 47 = .ok (.iload 5, 2) := by decide +kernel
theorem dX1_takerOf_49 : decode cX1_takerOf 49 = .ok (.iadd, 1) := by decide +kernel
theorem dX1_takerOf_50 : decode cX1_takerOf 50 = .ok (.iconst 3, 1) := by decide +kernel
theorem dX1_takerOf_51 : decode cX1_takerOf 51 = .ok (.iand, 1) := by decide +kernel
theorem dX1_takerOf_52 : decode cX1_takerOf 52 = .ok (.istore_n 3, 1) := by decide +kernel
theorem dX1_takerOf_53 : decode cX1_takerOf 53 = .ok (.iload 6, 2) := by decide +kernel
theorem dX1_takerOf_55 : decode cX1_takerOf 55 = .ok (.istore 4, 2) := by decide +kernel
theorem dX1_takerOf_57 : decode cX1_takerOf 57 = .ok (.iinc 5 1, 3) := by decide +kernel
theorem dX1_takerOf_60 : decode cX1_takerOf 60 = .ok (.goto (-52), 3) := by decide +kernel
theorem dX1_takerOf_63 : decode cX1_takerOf 63 = .ok (.iload_n 3, 1) := by decide +kernel
theorem dX1_takerOf_64 : decode cX1_takerOf 64 = .ok (.ireturn, 1) := by decide +kernel
theorem dX1_beats_0 : decode cX1_beats 0 = .ok (.iload_n 1, 1) := by decide +kernel
theorem dX1_beats_1 : decode cX1_beats 1 = .ok (.bipush 8, 2) := by decide +kernel
theorem dX1_beats_3 : decode cX1_beats 3 = .ok (.idiv, 1) := by decide +kernel
theorem dX1_beats_4 : decode cX1_beats 4 = .ok (.istore_n 3, 1) := by decide +kernel
theorem dX1_beats_5 : decode cX1_beats 5 = .ok (.iload_n 3, 1) := by decide +kernel
theorem dX1_beats_6 : decode cX1_beats 6 = .ok (.iload_n 2, 1) := by decide +kernel
theorem dX1_beats_7 : decode cX1_beats 7 = .ok (.bipush 8, 2) := by decide +kernel
theorem dX1_beats_9 : decode cX1_beats 9 = .ok (.idiv, 1) := by decide +kernel
theorem dX1_beats_10 : decode cX1_beats 10 = .ok (.if_icmp .ne 16, 3) := by decide +kernel
theorem dX1_beats_13 : decode cX1_beats 13 = .ok (.iload_n 1, 1) := by decide +kernel
theorem dX1_beats_14 : decode cX1_beats 14 = .ok (.iload_n 2, 1) := by decide +kernel
theorem dX1_beats_15 : decode cX1_beats 15 = .ok (.if_icmp .le 7, 3) := by decide +kernel
theorem dX1_beats_18 : decode cX1_beats 18 = .ok (.iconst 1, 1) := by decide +kernel
theorem dX1_beats_19 : decode cX1_beats 19 = .ok (.goto 20, 3) := by decide +kernel
theorem dX1_beats_22 : decode cX1_beats 22 = .ok (.iconst 0, 1) := by decide +kernel
theorem dX1_beats_23 : decode cX1_beats 23 = .ok (.goto 16, 3) := by decide +kernel
theorem dX1_beats_26 : decode cX1_beats 26 = .ok (.iload_n 3, 1) := by decide +kernel
theorem dX1_beats_27 : decode cX1_beats 27 = .ok (.aload_n 0, 1) := by decide +kernel
theorem dX1_beats_28 : decode cX1_beats 28 = .ok (.getfield 31, 3) := by decide +kernel
theorem dX1_beats_31 : decode cX1_beats 31 = .ok (.if_icmp .ne 7, 3) := by decide +kernel
theorem dX1_beats_34 : decode cX1_beats 34 = .ok (.iconst 1, 1) := by decide +kernel
theorem dX1_beats_35 : decode cX1_beats 35 = .ok (.goto 4, 3) := by decide +kernel
theorem dX1_beats_38 : decode cX1_beats 38 = .ok (.iconst 0, 1) := by decide +kernel
theorem dX1_beats_39 : decode cX1_beats 39 = .ok (.ireturn, 1) := by decide +kernel
theorem dX1_rightCards_0 : decode cX1_rightCards 0 = .ok (.aload_n 0, 1) := by decide +kernel
theorem dX1_rightCards_1 : decode cX1_rightCards 1 = .ok (.aload_n 0, 1) := by decide +kernel
theorem dX1_rightCards_2 : decode cX1_rightCards 2 = .ok (.getfield 34, 3) := by decide +kernel
theorem dX1_rightCards_5 : decode cX1_rightCards 5 = .ok (.invokevirtual 43, 3) := by decide +kernel
theorem dX1_rightCards_8 : decode cX1_rightCards 8 = .ok (.istore_n 1, 1) := by decide +kernel
theorem dX1_rightCards_9 : decode cX1_rightCards 9 = .ok (.aload_n 0, 1) := by decide +kernel
theorem dX1_rightCards_10 : decode cX1_rightCards 10 = .ok (.invokevirtual 80, 3) := by decide +kernel
theorem dX1_rightCards_13 : decode cX1_rightCards 13 = .ok (.ifCond .ne 5, 3) := by decide +kernel
theorem dX1_rightCards_16 : decode cX1_rightCards 16 = .ok (.iload_n 1, 1) := by decide +kernel
theorem dX1_rightCards_17 : decode cX1_rightCards 17 = .ok (.ireturn, 1) := by decide +kernel
theorem dX1_rightCards_18 : decode cX1_rightCards 18 = .ok (.aload_n 0, 1) := by decide +kernel
theorem dX1_rightCards_19 : decode cX1_rightCards 19 = .ok (.iconst 4, 1) := by decide +kernel
theorem dX1_rightCards_20 : decode cX1_rightCards 20 = .ok (.aload_n 0, 1) := by decide +kernel
theorem dX1_rightCards_21 : decode cX1_rightCards 21 = .ok (.invokevirtual 67, 3) := by decide +kernel
theorem dX1_rightCards_24 : decode cX1_rightCards 24 = .ok (.imul, 1) := by decide +kernel
theorem dX1_rightCards_25 : decode cX1_rightCards 25 = .ok (.invokevirtual 74, 3) := by decide +kernel
theorem dX1_rightCards_28 : decode cX1_rightCards 28 = .ok (.bipush 8, 2) := by decide +kernel
theorem dX1_rightCards_30 : decode cX1_rightCards 30 = .ok (.idiv, 1) := by decide +kernel
theorem dX1_rightCards_31 : decode cX1_rightCards 31 = .ok (.istore_n 2, 1) := by decide +kernel
theorem dX1_rightCards_32 : decode cX1_rightCards 32 = .ok (.iload_n 1, 1) := by decide +kernel
theorem dX1_rightCards_33 : decode cX1_rightCards 33 = .ok (.iload_n 2, 1) := by decide +kernel
theorem dX1_rightCards_34 : decode cX1_rightCards 34 = .ok (.invokestatic 83, 3) := by decide +kernel
theorem dX1_rightCards_37 : decode cX1_rightCards 37 = .ok (.iand, 1) := by decide +kernel
theorem dX1_rightCards_38 : decode cX1_rightCards 38 = .ok (.istore_n 3, 1) := by decide +kernel
theorem dX1_rightCards_39 : decode cX1_rightCards 39 = .ok (.iload_n 3, 1) := by decide +kernel
theorem dX1_rightCards_40 : decode cX1_rightCards 40 = .ok (.ifCond .ne 7, 3) := by decide +kernel
theorem dX1_rightCards_43 : decode cX1_rightCards 43 = .ok (.iload_n 1, 1) := by decide +kernel
theorem dX1_rightCards_44 : decode cX1_rightCards 44 = .ok (.goto 4, 3) := by decide +kernel
theorem dX1_rightCards_47 : decode cX1_rightCards 47 = .ok (.iload_n 3, 1) := by decide +kernel
theorem dX1_rightCards_48 : decode cX1_rightCards 48 = .ok (.ireturn, 1) := by decide +kernel
theorem dX1_put_0 : decode cX1_put 0 = .ok (.aload_n 0, 1) := by decide +kernel
theorem dX1_put_1 : decode cX1_put 1 = .ok (.getfield 25, 3) := by decide +kernel
theorem dX1_put_4 : decode cX1_put 4 = .ok (.ifCond .lt 15, 3) := by decide +kernel
theorem dX1_put_7 : decode cX1_put 7 = .ok (.aload_n 0, 1) := by decide +kernel
theorem dX1_put_8 : decode cX1_put 8 = .ok (.getfield 25, 3) := by decide +kernel
theorem dX1_put_11 : decode cX1_put 11 = .ok (.aload_n 0, 1) := by decide +kernel
theorem dX1_put_12 : decode cX1_put 12 = .ok (.getfield 15, 3) := by decide +kernel
theorem dX1_put_15 : decode cX1_put 15 = .ok (.arraylength, 1) := by decide +kernel
theorem dX1_put_16 : decode cX1_put 16 = .ok (.if_icmp .lt 5, 3) := by decide +kernel
theorem dX1_put_19 : decode cX1_put 19 = .ok (.iconst (-1), 1) := by decide +kernel
theorem dX1_put_20 : decode cX1_put 20 = .ok (.ireturn, 1) := by decide +kernel
theorem dX1_put_21 : decode cX1_put 21 = .ok (.aload_n 0, 1) := by decide +kernel
theorem dX1_put_22 : decode cX1_put 22 = .ok (.invokevirtual 67, 3) := by decide +kernel
theorem dX1_put_25 : decode cX1_put 25 = .ok (.istore_n 2, 1) := by decide +kernel
theorem dX1_put_26 : decode cX1_put 26 = .ok (.aload_n 0, 1) := by decide +kernel
theorem dX1_put_27 : decode cX1_put 27 = .ok (.invokevirtual 86, 3) := by decide +kernel
theorem dX1_put_30 : decode cX1_put 30 = .ok (.iload_n 1, 1) := by decide +kernel
theorem dX1_put_31 : decode cX1_put 31 = .ok (.invokestatic 56, 3) := by decide +kernel
theorem dX1_put_34 : decode cX1_put 34 = .ok (.ifCond .ne 18, 3) := by decide +kernel
theorem dX1_put_37 : decode cX1_put 37 = .ok (.aload_n 0, 1) := by decide +kernel
theorem dX1_put_38 : decode cX1_put 38 = .ok (.aload_n 0, 1) := by decide +kernel
theorem dX1_put_39 : decode cX1_put 39 = .ok (.getfield 28, 3) := by decide +kernel
theorem dX1_put_42 : decode cX1_put 42 = .ok (.aload_n 0, 1) := by decide +kernel
theorem dX1_put_43 : decode cX1_put 43 = .ok (.getfield 25, 3) := by decide +kernel
theorem dX1_put_46 : decode cX1_put 46 = .ok (.invokestatic 52, 3) := by decide +kernel
theorem dX1_put_49 : decode cX1_put 49 = .ok (.putfield 28, 3) := by decide +kernel
theorem dX1_put_52 : decode cX1_put 52 = .ok (.aload_n 0, 1) := by decide +kernel
theorem dX1_put_53 : decode cX1_put 53 = .ok (.getfield 9, 3) := by decide +kernel
theorem dX1_put_56 : decode cX1_put 56 = .ok (.aload_n 0, 1) := by decide +kernel
theorem dX1_put_57 : decode cX1_put 57 = .ok (.getfield 34, 3) := by decide +kernel
theorem dX1_put_60 : decode cX1_put 60 = .ok (.iconst 3, 1) := by decide +kernel
theorem dX1_put_61 : decode cX1_put 61 = .ok (.iand, 1) := by decide +kernel
theorem dX1_put_62 : decode cX1_put 62 = .ok (.aload_n 0, 1) := by decide +kernel
theorem dX1_put_63 : decode cX1_put 63 = .ok (.aload_n 0, 1) := by decide +kernel
theorem dX1_put_64 : decode cX1_put 64 = .ok (.getfield 34, 3) := by decide +kernel
theorem dX1_put_67 : decode cX1_put 67 = .ok (.invokevirtual 43, 3) := by decide +kernel
theorem dX1_put_70 : decode cX1_put 70 = .ok (.iload_n 1, 1) := by decide +kernel
theorem dX1_put_71 : decode cX1_put 71 = .ok (.invokestatic 89, 3) := by decide +kernel
theorem dX1_put_74 : decode cX1_put 74 = .ok (.iastore, 1) := by decide +kernel
theorem dX1_put_75 : decode cX1_put 75 = .ok (.aload_n 0, 1) := by decide +kernel
theorem dX1_put_76 : decode cX1_put 76 = .ok (.getfield 15, 3) := by decide +kernel
theorem dX1_put_79 : decode cX1_put 79 = .ok (.aload_n 0, 1) := by decide +kernel
theorem dX1_put_80 : decode cX1_put 80 = .ok (.getfield 25, 3) := by decide +kernel
theorem dX1_put_83 : decode cX1_put 83 = .ok (.iload_n 1, 1) := by decide +kernel
theorem dX1_put_84 : decode cX1_put 84 = .ok (.iastore, 1) := by decide +kernel
theorem dX1_put_85 : decode cX1_put 85 = .ok (.aload_n 0, 1) := by decide +kernel
theorem dX1_put_86 : decode cX1_put 86 = .ok (.dup, 1) := by decide +kernel
theorem dX1_put_87 : decode cX1_put 87 = .ok (.getfield 25, 3) := by decide +kernel
theorem dX1_put_90 : decode cX1_put 90 = .ok (.iconst 1, 1) := by decide +kernel
theorem dX1_put_91 : decode cX1_put 91 = .ok (.iadd, 1) := by decide +kernel
theorem dX1_put_92 : decode cX1_put 92 = .ok (.putfield 25, 3) := by decide +kernel
theorem dX1_put_95 : decode cX1_put 95 = .ok (.aload_n 0, 1) := by decide +kernel
theorem dX1_put_96 : decode cX1_put 96 = .ok (.invokevirtual 80, 3) := by decide +kernel
theorem dX1_put_99 : decode cX1_put 99 = .ok (.ifCond .eq 16, 3) := by decide +kernel
theorem dX1_put_102 : decode cX1_put 102 = .ok (.aload_n 0, 1) := by decide +kernel
theorem dX1_put_103 : decode cX1_put 103 = .ok (.aload_n 0, 1) := by decide +kernel
theorem dX1_put_104 : decode cX1_put 104 = .ok (.getfield 34, 3) := by decide +kernel
theorem dX1_put_107 : decode cX1_put 107 = .ok (.invokestatic 92, 3) := by decide +kernel
theorem dX1_put_110 : decode cX1_put 110 = .ok (.putfield 34, 3) := by decide +kernel
theorem dX1_put_113 : decode cX1_put 113 = .ok (.iconst (-1), 1) := by decide +kernel
theorem dX1_put_114 : decode cX1_put 114 = .ok (.ireturn, 1) := by decide +kernel
theorem dX1_put_115 : decode cX1_put 115 = .ok (.aload_n 0, 1) := by decide +kernel
theorem dX1_put_116 : decode cX1_put 116 = .ok (.aload_n 0, 1) := by decide +kernel
theorem dX1_put_117 : decode cX1_put 117 = .ok (.iload_n 2, 1) := by decide +kernel
theorem dX1_put_118 : decode cX1_put 118 = .ok (.iconst 4, 1) := by decide +kernel
theorem dX1_put_119 : decode cX1_put 119 = .ok (.invokevirtual 95, 3) := by decide +kernel
theorem dX1_put_122 : decode cX1_put 122 = .ok (.putfield 34, 3) := by decide +kernel
theorem dX1_put_125 : decode cX1_put 125 = .ok (.iload_n 2, 1) := by decide +kernel
theorem dX1_put_126 : decode cX1_put 126 = .ok (.ifCond .lt 26, 3) := by decide +kernel
theorem dX1_put_129 : decode cX1_put 129 = .ok (.iload_n 2, 1) := by decide +kernel
theorem dX1_put_130 : decode cX1_put 130 = .ok (.iconst 1, 1) := by decide +kernel
theorem dX1_put_131 : decode cX1_put 131 = .ok (.iadd, 1) := by decide +kernel
theorem dX1_put_132 : decode cX1_put 132 = .ok (.aload_n 0, 1) := by decide +kernel
theorem dX1_put_133 : decode cX1_put 133 = .ok (.getfield 18, 3) := by decide +kernel
theorem dX1_put_136 : decode cX1_put 136 = .ok (.arraylength, 1) := by decide +kernel
theorem dX1_put_137 : decode cX1_put 137 = .ok (.if_icmp .ge 15, 3) := by decide +kernel
theorem dX1_put_140 : decode cX1_put 140 = .ok (.aload_n 0, 1) := by decide +kernel
theorem dX1_put_141 : decode cX1_put 141 = .ok (.getfield 18, 3) := by decide +kernel
theorem dX1_put_144 : decode cX1_put 144 = .ok (.iload_n 2, 1) := by decide +kernel
theorem dX1_put_145 : decode cX1_put 145 = .ok (.iconst 1, 1) := by decide +kernel
theorem dX1_put_146 : decode cX1_put 146 = .ok (.iadd, 1) := by decide +kernel
theorem dX1_put_147 : decode cX1_put 147 = .ok (.aload_n 0, 1) := by decide +kernel
theorem dX1_put_148 : decode cX1_put 148 = .ok (.getfield 34, 3) := by decide +kernel
theorem dX1_put_151 : decode cX1_put 151 = .ok (.iastore, 1) := by decide +kernel
theorem dX1_put_152 : decode cX1_put 152 = .ok (.aload_n 0, 1) := by decide +kernel
theorem dX1_put_153 : decode cX1_put 153 = .ok (.getfield 34, 3) := by decide +kernel
theorem dX1_put_156 : decode cX1_put 156 = .ok (.ireturn, 1) := by decide +kernel
theorem dX1_takeBack_0 : decode cX1_takeBack 0 = .ok (.aload_n 0, 1) := by decide +kernel
theorem dX1_takeBack_1 : decode cX1_takeBack 1 = .ok (.getfield 25, 3) := by decide +kernel
theorem dX1_takeBack_4 : decode cX1_takeBack 4 = .ok (.ifCond .gt 5, 3) := by decide +kernel
theorem dX1_takeBack_7 : decode cX1_takeBack 7 = .ok (.iconst (-1), 1) := by decide +kernel
theorem dX1_takeBack_8 : decode cX1_takeBack 8 = .ok (.ireturn, 1) := by decide +kernel
theorem dX1_takeBack_9 : decode cX1_takeBack 9 = .ok (.aload_n 0, 1) := by decide +kernel
theorem dX1_takeBack_10 : decode cX1_takeBack 10 = .ok (.dup, 1) := by decide +kernel
theorem dX1_takeBack_11 : decode cX1_takeBack 11 = .ok (.getfield 25, 3) := by decide +kernel
theorem dX1_takeBack_14 : decode cX1_takeBack 14 = .ok (.iconst 1, 1) := by decide +kernel
theorem dX1_takeBack_15 : decode cX1_takeBack 15 = .ok (.isub, 1) := by decide +kernel
theorem dX1_takeBack_16 : decode cX1_takeBack 16 = .ok (.putfield 25, 3) := by decide +kernel
theorem dX1_takeBack_19 : decode cX1_takeBack 19 = .ok (.aload_n 0, 1) := by decide +kernel
theorem dX1_takeBack_20 : decode cX1_takeBack 20 = .ok (.aload_n 0, 1) := by decide +kernel
theorem dX1_takeBack_21 : decode cX1_takeBack 21 = .ok (.getfield 25, 3) := by decide +kernel
theorem dX1_takeBack_24 : decode cX1_takeBack 24 = .ok (.invokevirtual 74, 3) := by decide +kernel
theorem dX1_takeBack_27 : decode cX1_takeBack 27 = .ok (.istore_n 1, 1) := by decide +kernel
theorem dX1_takeBack_28 : decode cX1_takeBack 28 = .ok (.aload_n 0, 1) := by decide +kernel
theorem dX1_takeBack_29 : decode cX1_takeBack 29 = .ok (.aload_n 0, 1) := by decide +kernel
theorem dX1_takeBack_30 : decode cX1_takeBack 30 = .ok (.aload_n 0, 1) := by decide +kernel
theorem dX1_takeBack_31 : decode cX1_takeBack 31 = .ok (.getfield 25, 3) := by decide +kernel
theorem dX1_takeBack_34 : decode cX1_takeBack 34 = .ok (.invokevirtual 98, 3) := by decide +kernel
theorem dX1_takeBack_37 : decode cX1_takeBack 37 = .ok (.putfield 34, 3) := by decide +kernel
theorem dX1_takeBack_40 : decode cX1_takeBack 40 = .ok (.aload_n 0, 1) := by decide +kernel
theorem dX1_takeBack_41 : decode cX1_takeBack 41 = .ok (.aload_n 0, 1) := by decide +kernel
theorem dX1_takeBack_42 : decode cX1_takeBack 42 = .ok (.getfield 34, 3) := by decide +kernel
theorem dX1_takeBack_45 : decode cX1_takeBack 45 = .ok (.iload_n 1, 1) := by decide +kernel
theorem dX1_takeBack_46 : decode cX1_takeBack 46 = .ok (.invokevirtual 101, 3) := by decide +kernel
theorem dX1_takeBack_49 : decode cX1_takeBack 49 = .ok (.aload_n 0, 1) := by decide +kernel
theorem dX1_takeBack_50 : decode cX1_takeBack 50 = .ok (.aload_n 0, 1) := by decide +kernel
theorem dX1_takeBack_51 : decode cX1_takeBack 51 = .ok (.getfield 28, 3) := by decide +kernel
theorem dX1_takeBack_54 : decode cX1_takeBack 54 = .ok (.aload_n 0, 1) := by decide +kernel
theorem dX1_takeBack_55 : decode cX1_takeBack 55 = .ok (.getfield 25, 3) := by decide +kernel
theorem dX1_takeBack_58 : decode cX1_takeBack 58 = .ok (.invokestatic 89, 3) := by decide +kernel
theorem dX1_takeBack_61 : decode cX1_takeBack 61 = .ok (.putfield 28, 3) := by decide +kernel
theorem dX1_takeBack_64 : decode cX1_takeBack 64 = .ok (.iload_n 1, 1) := by decide +kernel
theorem dX1_takeBack_65 : decode cX1_takeBack 65 = .ok (.ireturn, 1) := by decide +kernel
theorem dX1_hasRevoked_0 : decode cX1_hasRevoked 0 = .ok (.iconst 0, 1) := by decide +kernel
theorem dX1_hasRevoked_1 : decode cX1_hasRevoked 1 = .ok (.istore_n 2, 1) := by decide +kernel
theorem dX1_hasRevoked_2 : decode cX1_hasRevoked 2 = .ok (.iload_n 2, 1) := by decide +kernel
theorem dX1_hasRevoked_3 : decode cX1_hasRevoked 3 = .ok (.aload_n 0, 1) := by decide +kernel
theorem dX1_hasRevoked_4 : decode cX1_hasRevoked 4 = .ok (.getfield 25, 3) := by decide +kernel
theorem dX1_hasRevoked_7 : decode cX1_hasRevoked 7 = .ok (.if_icmp .ge 31, 3) := by decide +kernel
theorem dX1_hasRevoked_10 : decode cX1_hasRevoked 10 = .ok (.aload_n 0, 1) := by decide +kernel
theorem dX1_hasRevoked_11 : decode cX1_hasRevoked 11 = .ok (.getfield 28, 3) := by decide +kernel
theorem dX1_hasRevoked_14 : decode cX1_hasRevoked 14 = .ok (.iload_n 2, 1) := by decide +kernel
theorem dX1_hasRevoked_15 : decode cX1_hasRevoked 15 = .ok (.invokestatic 56, 3) := by decide +kernel
theorem dX1_hasRevoked_18 : decode cX1_hasRevoked 18 = .ok (.ifCond .eq 14, 3) := by decide +kernel
theorem dX1_hasRevoked_21 : decode cX1_hasRevoked 21 = .ok (.aload_n 0, 1) := by decide +kernel
theorem dX1_hasRevoked_22 : decode cX1_hasRevoked 22 = .ok (.iload_n 2, 1) := by decide +kernel
theorem dX1_hasRevoked_23 : decode cX1_hasRevoked 23 = .ok (.invokevirtual 98, 3) := by decide +kernel
theorem dX1_hasRevoked_26 : decode cX1_hasRevoked 26 = .ok (.iload_n 1, 1) := by decide +kernel
theorem dX1_hasRevoked_27 : decode cX1_hasRevoked 27 = .ok (.if_icmp .ne 5, 3) := by decide +kernel
theorem dX1_hasRevoked_30 : decode cX1_hasRevoked 30 = .ok (.iconst 1, 1) := by decide +kernel
theorem dX1_hasRevoked_31 : decode cX1_hasRevoked 31 = .ok (.ireturn, 1) := by decide +kernel
theorem dX1_hasRevoked_32 : decode cX1_hasRevoked 32 = .ok (.iinc 2 1, 3) := by decide +kernel
theorem dX1_hasRevoked_35 : decode cX1_hasRevoked 35 = .ok (.goto (-33), 3) := by decide +kernel
theorem dX1_hasRevoked_38 : decode cX1_hasRevoked 38 = .ok (.iconst 0, 1) := by decide +kernel
theorem dX1_hasRevoked_39 : decode cX1_hasRevoked 39 = .ok (.ireturn, 1) := by decide +kernel
theorem dX2_init_0 : decode cX2_init 0 = .ok (.aload_n 0, 1) := by decide +kernel
theorem dX2_init_1 : decode cX2_init 1 = .ok (.invokespecial 3, 3) := by decide +kernel
theorem dX2_init_4 : decode cX2_init 4 = .ok (.aload_n 0, 1) := by decide +kernel
theorem dX2_init_5 : decode cX2_init 5 = .ok (.new 9, 3) := by decide +kernel
theorem dX2_init_8 : decode cX2_init 8 = .ok (.dup, 1) := by decide +kernel
theorem dX2_init_9 : decode cX2_init 9 = .ok (.invokespecial 11, 3) := by decide +kernel
theorem dX2_init_12 : decode cX2_init 12 = .ok (.putfield 12, 3) := by decide +kernel
theorem dX2_init_15 : decode cX2_init 15 = .ok (.aload_n 0, 1) := by decide +kernel
theorem dX2_init_16 : decode cX2_init 16 = .ok (.new 9, 3) := by decide +kernel
theorem dX2_init_19 : decode cX2_init 19 = .ok (.dup, 1) := by decide +kernel
theorem dX2_init_20 : decode cX2_init 20 = .ok (.invokespecial 11, 3) := by decide +kernel
theorem dX2_init_23 : decode cX2_init 23 = .ok (.putfield 16, 3) := by decide +kernel
theorem dX2_init_26 : decode cX2_init 26 = .ok (.aload_n 0, 1) := by decide +kernel
theorem dX2_init_27 : decode cX2_init 27 = .ok (.new 19, 3) := by decide +kernel
theorem dX2_init_30 : decode cX2_init 30 = .ok (.dup, 1) := by decide +kernel
theorem dX2_init_31 : decode cX2_init 31 = .ok (.invokespecial 21, 3) := by decide +kernel
theorem dX2_init_34 : decode cX2_init 34 = .ok (.putfield 22, 3) := by decide +kernel
theorem dX2_init_37 : decode cX2_init 37 = .ok (.aload_n 0, 1) := by decide +kernel
theorem dX2_init_38 : decode cX2_init 38 = .ok (.iconst 2, 1) := by decide +kernel
theorem dX2_init_39 : decode cX2_init 39 = .ok (.newarray .int, 2) := by decide +kernel
theorem dX2_init_41 : decode cX2_init 41 = .ok (.putfield 26, 3) := by decide +kernel
theorem dX2_init_44 : decode cX2_init 44 = .ok (.aload_n 0, 1) := by decide +kernel
theorem dX2_init_45 : decode cX2_init 45 = .ok (.iconst 2, 1) := by decide +kernel
theorem dX2_init_46 : decode cX2_init 46 = .ok (.newarray .int, 2) := by decide +kernel
theorem dX2_init_48 : decode cX2_init 48 = .ok (.putfield 30, 3) := by decide +kernel
theorem dX2_init_51 : decode cX2_init 51 = .ok (.aload_n 0, 1) := by decide +kernel
theorem dX2_init_52 : decode cX2_init 52 = .ok (.iconst 0, 1) := by decide +kernel
theorem dX2_init_53 : decode cX2_init 53 = .ok (.putfield 33, 3) := by decide +kernel
theorem dX2_init_56 : decode cX2_init 56 = .ok (.aload_n 0, 1) := by decide +kernel
theorem dX2_init_57 : decode cX2_init 57 = .ok (.iconst 0, 1) := by decide +kernel
theorem dX2_init_58 : decode cX2_init 58 = .ok (.putfield 37, 3) := by decide +kernel
theorem dX2_init_61 : decode cX2_init 61 = .ok (.return_, 1) := by decide +kernel
theorem dX2_begin_0 : decode cX2_begin 0 = .ok (.iload_n 1, 1) := by decide +kernel
theorem dX2_begin_1 : decode cX2_begin 1 = .ok (.invokestatic 40, 3) := by decide +kernel
theorem dX2_begin_4 : decode cX2_begin 4 = .ok (.aload_n 0, 1) := by decide +kernel
theorem dX2_begin_5 : decode cX2_begin 5 = .ok (.getfield 33, 3) := by decide +kernel
theorem dX2_begin_8 : decode cX2_begin 8 = .ok (.istore_n 2, 1) := by decide +kernel
theorem dX2_begin_9 : decode cX2_begin 9 = .ok (.aload_n 0, 1) := by decide +kernel
theorem dX2_begin_10 : decode cX2_begin 10 = .ok (.getfield 12, 3) := by decide +kernel
theorem dX2_begin_13 : decode cX2_begin 13 = .ok (.invokevirtual 44, 3) := by decide +kernel
theorem dX2_begin_16 : decode cX2_begin 16 = .ok (.aload_n 0, 1) := by decide +kernel
theorem dX2_begin_17 : decode cX2_begin 17 = .ok (.getfield 22, 3) := by decide +kernel
theorem dX2_begin_20 : decode cX2_begin 20 = .ok (.iload_n 1, 1) := by decide +kernel
theorem dX2_begin_21 : decode cX2_begin 21 = .ok (.invokevirtual 47, 3) := by decide +kernel
theorem dX2_begin_24 : decode cX2_begin 24 = .ok (.aload_n 0, 1) := by decide +kernel
theorem dX2_begin_25 : decode cX2_begin 25 = .ok (.getfield 26, 3) := by decide +kernel
theorem dX2_begin_28 : decode cX2_begin 28 = .ok (.iconst 0, 1) := by decide +kernel
theorem dX2_begin_29 : decode cX2_begin 29 = .ok (.iconst 0, 1) := by decide +kernel
theorem dX2_begin_30 : decode cX2_begin 30 = .ok (.iastore, 1) := by decide +kernel
theorem dX2_begin_31 : decode cX2_begin 31 = .ok (.aload_n 0, 1) := by decide +kernel
theorem dX2_begin_32 : decode cX2_begin 32 = .ok (.getfield 26, 3) := by decide +kernel
theorem dX2_begin_35 : decode cX2_begin 35 = .ok (.iconst 1, 1) := by decide +kernel
theorem dX2_begin_36 : decode cX2_begin 36 = .ok (.iconst 0, 1) := by decide +kernel
theorem dX2_begin_37 : decode cX2_begin 37 = .ok (.iastore, 1) := by decide +kernel
theorem dX2_begin_38 : decode cX2_begin 38 = .ok (.aload_n 0, 1) := by decide +kernel
theorem dX2_begin_39 : decode cX2_begin 39 = .ok (.iconst 0, 1) := by decide +kernel
theorem dX2_begin_40 : decode cX2_begin 40 = .ok (.putfield 33, 3) := by decide +kernel
theorem dX2_begin_43 : decode cX2_begin 43 = .ok (.iload_n 2, 1) := by decide +kernel
theorem dX2_begin_44 : decode cX2_begin 44 = .ok (.ireturn, 1) := by decide +kernel
theorem dX2_deal_0 : decode cX2_deal 0 = .ok (.iload_n 2, 1) := by decide +kernel
theorem dX2_deal_1 : decode cX2_deal 1 = .ok (.iconst 1, 1) := by decide +kernel
theorem dX2_deal_2 : decode cX2_deal 2 = .ok (.if_icmp .lt 20, 3) := by decide +kernel
theorem dX2_deal_5 : decode cX2_deal 5 = .ok (.iload_n 2, 1) := by decide +kernel
theorem dX2_deal_6 : decode cX2_deal 6 = .ok (.bipush 32, 2) := by decide +kernel
theorem dX2_deal_8 : decode cX2_deal 8 = .ok (.if_icmp .ge 14, 3) := by decide +kernel
theorem dX2_deal_11 : decode cX2_deal 11 = .ok (.iload_n 2, 1) := by decide +kernel
theorem dX2_deal_12 : decode cX2_deal 12 = .ok (.iconst 2, 1) := by decide +kernel
theorem dX2_deal_13 : decode cX2_deal 13 = .ok (.irem, 1) := by decide +kernel
theorem dX2_deal_14 : decode cX2_deal 14 = .ok (.iconst 1, 1) := by decide +kernel
theorem dX2_deal_15 : decode cX2_deal 15 = .ok (.if_icmp .ne 7, 3) := by decide +kernel
theorem dX2_deal_18 : decode cX2_deal 18 = .ok (.iconst 1, 1) := by decide +kernel
theorem dX2_deal_19 : decode cX2_deal 19 = .ok (.goto 4, 3) := by decide +kernel
theorem dX2_deal_22 : decode cX2_deal 22 = .ok (.iconst 0, 1) := by decide +kernel
theorem dX2_deal_23 : decode cX2_deal 23 = .ok (.istore 4, 2) := by decide +kernel
theorem dX2_deal_25 : decode cX2_deal 25 = .ok (.iload_n 1, 1) := by decide +kernel
theorem dX2_deal_26 : decode cX2_deal 26 = .ok (.invokestatic 49, 3) := by decide +kernel
theorem dX2_deal_29 : decode cX2_deal 29 = .ok (.ifCond .eq 18, 3) := by decide +kernel
theorem dX2_deal_32 : decode cX2_deal 32 = .ok (.iload 4, 2) := by decide +kernel
theorem dX2_deal_34 : decode cX2_deal 34 = .ok (.ifCond .eq 13, 3) := by decide +kernel
theorem dX2_deal_37 : decode cX2_deal 37 = .ok (.iload_n 3, 1) := by decide +kernel
theorem dX2_deal_38 : decode cX2_deal 38 = .ok (.ifCond .lt 9, 3) := by decide +kernel
theorem dX2_deal_41 : decode cX2_deal 41 = .ok (.iload_n 3, 1) := by decide +kernel
theorem dX2_deal_42 : decode cX2_deal 42 = .ok (.bipush 8, 2) := by decide +kernel
theorem dX2_deal_44 : decode cX2_deal 44 = .ok (.if_icmp .le 13, 3) := by decide +kernel
theorem dX2_deal_47 : decode cX2_deal 47 = .ok (.new 53, 3) := by decide +kernel
theorem dX2_deal_50 : decode cX2_deal 50 = .ok (.dup, 1) := by decide +kernel
theorem dX2_deal_51 : decode cX2_deal 51 = .ok (.ldc 55, 2) := by decide +kernel
theorem dX2_deal_53 : decode cX2_deal 53 = .ok (.invokespecial 57, 3) := by decide +kernel
theorem dX2_deal_56 : decode cX2_deal 56 = .ok (.athrow, 1) := by decide +kernel
theorem dX2_deal_57 : decode cX2_deal 57 = .ok (.aload_n 0, 1) := by decide +kernel
theorem dX2_deal_58 : decode cX2_deal 58 = .ok (.getfield 33, 3) := by decide +kernel
theorem dX2_deal_61 : decode cX2_deal 61 = .ok (.ifCond .ne 13, 3) := by decide +kernel
theorem dX2_deal_64 : decode cX2_deal 64 = .ok (.aload_n 0, 1) := by decide +kernel
theorem dX2_deal_65 : decode cX2_deal 65 = .ok (.getfield 12, 3) := by decide +kernel
theorem dX2_deal_68 : decode cX2_deal 68 = .ok (.invokevirtual 60, 3) := by decide +kernel
theorem dX2_deal_71 : decode cX2_deal 71 = .ok (.ifCond .ne 13, 3) := by decide +kernel
theorem dX2_deal_74 : decode cX2_deal 74 = .ok (.new 64, 3) := by decide +kernel
theorem dX2_deal_77 : decode cX2_deal 77 = .ok (.dup, 1) := by decide +kernel
theorem dX2_deal_78 : decode cX2_deal 78 = .ok (.ldc 66, 2) := by decide +kernel
theorem dX2_deal_80 : decode cX2_deal 80 = .ok (.invokespecial 68, 3) := by decide +kernel
theorem dX2_deal_83 : decode cX2_deal 83 = .ok (.athrow, 1) := by decide +kernel
theorem dX2_deal_84 : decode cX2_deal 84 = .ok (.iconst 0, 1) := by decide +kernel
theorem dX2_deal_85 : decode cX2_deal 85 = .ok (.istore 5, 2) := by decide +kernel
theorem dX2_deal_87 : decode cX2_deal 87 = .ok (.iload 5, 2) := by decide +kernel
theorem dX2_deal_89 : decode cX2_deal 89 = .ok (.iconst 4, 1) := by decide +kernel
theorem dX2_deal_90 : decode cX2_deal 90 = .ok (.iload_n 3, 1) := by decide +kernel
theorem dX2_deal_91 : decode cX2_deal 91 = .ok (.imul, 1) := by decide +kernel
theorem dX2_deal_92 : decode cX2_deal 92 = .ok (.if_icmp .ge 29, 3) := by decide +kernel
theorem dX2_deal_95 : decode cX2_deal 95 = .ok (.aload_n 0, 1) := by decide +kernel
theorem dX2_deal_96 : decode cX2_deal 96 = .ok (.getfield 12, 3) := by decide +kernel
theorem dX2_deal_99 : decode cX2_deal 99 = .ok (.iload 5, 2) := by decide +kernel
theorem dX2_deal_101 : decode cX2_deal 101 = .ok (.iconst 4, 1) := by decide +kernel
theorem dX2_deal_102 : decode cX2_deal 102 = .ok (.irem, 1) := by decide +kernel
theorem dX2_deal_103 : decode cX2_deal 103 = .ok (.iload_n 1, 1) := by decide +kernel
theorem dX2_deal_104 : decode cX2_deal 104 = .ok (.iload 5, 2) := by decide +kernel
theorem dX2_deal_106 : decode cX2_deal 106 = .ok (.iload_n 2, 1) := by decide +kernel
theorem dX2_deal_107 : decode cX2_deal 107 = .ok (.imul, 1) := by decide +kernel
theorem dX2_deal_108 : decode cX2_deal 108 = .ok (.iadd, 1) := by decide +kernel
theorem dX2_deal_109 : decode cX2_deal 109 = .ok (.bipush 32, 2) := by decide +kernel
theorem dX2_deal_111 : decode cX2_deal 111 = .ok (.irem, 1) := by decide +kernel
theorem dX2_deal_112 : decode cX2_deal 112 = .ok (.invokevirtual 69, 3) := by decide +kernel
theorem dX2_deal_115 : decode cX2_deal 115 = .ok (.iinc 5 1, 3) := by decide +kernel
theorem dX2_deal_118 : decode cX2_deal 118 = .ok (.goto (-31), 3) := by decide +kernel
theorem dX2_deal_121 : decode cX2_deal 121 = .ok (.aload_n 0, 1) := by decide +kernel
theorem dX2_deal_122 : decode cX2_deal 122 = .ok (.getfield 12, 3) := by decide +kernel
theorem dX2_deal_125 : decode cX2_deal 125 = .ok (.iconst 0, 1) := by decide +kernel
theorem dX2_deal_126 : decode cX2_deal 126 = .ok (.invokevirtual 73, 3) := by decide +kernel
theorem dX2_deal_129 : decode cX2_deal 129 = .ok (.invokestatic 77, 3) := by decide +kernel
theorem dX2_deal_132 : decode cX2_deal 132 = .ok (.ireturn, 1) := by decide +kernel
theorem dX2_open_0 : decode cX2_open 0 = .ok (.aload_n 0, 1) := by decide +kernel
theorem dX2_open_1 : decode cX2_open 1 = .ok (.getfield 33, 3) := by decide +kernel
theorem dX2_open_4 : decode cX2_open 4 = .ok (.ifCond .ne 13, 3) := by decide +kernel
theorem dX2_open_7 : decode cX2_open 7 = .ok (.aload_n 0, 1) := by decide +kernel
theorem dX2_open_8 : decode cX2_open 8 = .ok (.getfield 12, 3) := by decide +kernel
theorem dX2_open_11 : decode cX2_open 11 = .ok (.invokevirtual 91, 3) := by decide +kernel
theorem dX2_open_14 : decode cX2_open 14 = .ok (.ifCond .ne 13, 3) := by decide +kernel
theorem dX2_open_17 : decode cX2_open 17 = .ok (.new 64, 3) := by decide +kernel
theorem dX2_open_20 : decode cX2_open 20 = .ok (.dup, 1) := by decide +kernel
theorem dX2_open_21 : decode cX2_open 21 = .ok (.ldc 94, 2) := by decide +kernel
theorem dX2_open_23 : decode cX2_open 23 = .ok (.invokespecial 68, 3) := by decide +kernel
theorem dX2_open_26 : decode cX2_open 26 = .ok (.athrow, 1) := by decide +kernel
theorem dX2_open_27 : decode cX2_open 27 = .ok (.aload_n 0, 1) := by decide +kernel
theorem dX2_open_28 : decode cX2_open 28 = .ok (.getfield 12, 3) := by decide +kernel
theorem dX2_open_31 : decode cX2_open 31 = .ok (.aload_n 0, 1) := by decide +kernel
theorem dX2_open_32 : decode cX2_open 32 = .ok (.getfield 12, 3) := by decide +kernel
theorem dX2_open_35 : decode cX2_open 35 = .ok (.iconst 0, 1) := by decide +kernel
theorem dX2_open_36 : decode cX2_open 36 = .ok (.invokevirtual 83, 3) := by decide +kernel
theorem dX2_open_39 : decode cX2_open 39 = .ok (.putfield 96, 3) := by decide +kernel
theorem dX2_open_42 : decode cX2_open 42 = .ok (.aload_n 0, 1) := by decide +kernel
theorem dX2_open_43 : decode cX2_open 43 = .ok (.iconst 1, 1) := by decide +kernel
theorem dX2_open_44 : decode cX2_open 44 = .ok (.putfield 33, 3) := by decide +kernel
theorem dX2_open_47 : decode cX2_open 47 = .ok (.iconst 4, 1) := by decide +kernel
theorem dX2_open_48 : decode cX2_open 48 = .ok (.aload_n 0, 1) := by decide +kernel
theorem dX2_open_49 : decode cX2_open 49 = .ok (.getfield 12, 3) := by decide +kernel
theorem dX2_open_52 : decode cX2_open 52 = .ok (.getfield 96, 3) := by decide +kernel
theorem dX2_open_55 : decode cX2_open 55 = .ok (.imul, 1) := by decide +kernel
theorem dX2_open_56 : decode cX2_open 56 = .ok (.ireturn, 1) := by decide +kernel
theorem dX2_has_0 : decode cX2_has 0 = .ok (.iload_n 1, 1) := by decide +kernel
theorem dX2_has_1 : decode cX2_has 1 = .ok (.invokestatic 40, 3) := by decide +kernel
theorem dX2_has_4 : decode cX2_has 4 = .ok (.iload_n 2, 1) := by decide +kernel
theorem dX2_has_5 : decode cX2_has 5 = .ok (.invokestatic 80, 3) := by decide +kernel
theorem dX2_has_8 : decode cX2_has 8 = .ok (.aload_n 0, 1) := by decide +kernel
theorem dX2_has_9 : decode cX2_has 9 = .ok (.getfield 12, 3) := by decide +kernel
theorem dX2_has_12 : decode cX2_has 12 = .ok (.iload_n 1, 1) := by decide +kernel
theorem dX2_has_13 : decode cX2_has 13 = .ok (.invokevirtual 73, 3) := by decide +kernel
theorem dX2_has_16 : decode cX2_has 16 = .ok (.iload_n 2, 1) := by decide +kernel
theorem dX2_has_17 : decode cX2_has 17 = .ok (.invokestatic 99, 3) := by decide +kernel
theorem dX2_has_20 : decode cX2_has 20 = .ok (.ireturn, 1) := by decide +kernel
theorem dX2_hand_0 : decode cX2_hand 0 = .ok (.iload_n 1, 1) := by decide +kernel
theorem dX2_hand_1 : decode cX2_hand 1 = .ok (.invokestatic 40, 3) := by decide +kernel
theorem dX2_hand_4 : decode cX2_hand 4 = .ok (.iload_n 2, 1) := by decide +kernel
theorem dX2_hand_5 : decode cX2_hand 5 = .ok (.ifCond .lt 17, 3) := by decide +kernel
theorem dX2_hand_8 : decode cX2_hand 8 = .ok (.iload_n 2, 1) := by decide +kernel
theorem dX2_hand_9 : decode cX2_hand 9 = .ok (.iconst 4, 1) := by decide +kernel
theorem dX2_hand_10 : decode cX2_hand 10 = .ok (.if_icmp .gt 12, 3) := by decide +kernel
theorem dX2_hand_13 : decode cX2_hand 13 = .ok (.iload_n 3, 1) := by decide +kernel
theorem dX2_hand_14 : decode cX2_hand 14 = .ok (.ifCond .lt 8, 3) := by decide +kernel
theorem dX2_hand_17 : decode cX2_hand 17 = .ok (.iload_n 3, 1) := by decide +kernel
theorem dX2_hand_18 : decode cX2_hand 18 = .ok (.iconst 2, 1) := by decide +kernel
theorem dX2_hand_19 : decode cX2_hand 19 = .ok (.if_icmp .le 13, 3) := by decide +kernel
theorem dX2_hand_22 : decode cX2_hand 22 = .ok (.new 53, 3) := by decide +kernel
theorem dX2_hand_25 : decode cX2_hand 25 = .ok (.dup, 1) := by decide +kernel
theorem dX2_hand_26 : decode cX2_hand 26 = .ok (.ldc 103, 2) := by decide +kernel
theorem dX2_hand_28 : decode cX2_hand 28 = .ok (.invokespecial 57, 3) := by decide +kernel
theorem dX2_hand_31 : decode cX2_hand 31 = .ok (.athrow, 1) := by decide +kernel
theorem dX2_hand_32 : decode cX2_hand 32 = .ok (.aload_n 0, 1) := by decide +kernel
theorem dX2_hand_33 : decode cX2_hand 33 = .ok (.getfield 12, 3) := by decide +kernel
theorem dX2_hand_36 : decode cX2_hand 36 = .ok (.iload_n 1, 1) := by decide +kernel
theorem dX2_hand_37 : decode cX2_hand 37 = .ok (.invokevirtual 73, 3) := by decide +kernel
theorem dX2_hand_40 : decode cX2_hand 40 = .ok (.istore 4, 2) := by decide +kernel
theorem dX2_hand_42 : decode cX2_hand 42 = .ok (.iload_n 2, 1) := by decide +kernel
theorem dX2_hand_43 : decode cX2_hand 43 = .ok (.iconst 4, 1) := by decide +kernel
theorem dX2_hand_44 : decode cX2_hand 44 = .ok (.if_icmp .ne 8, 3) := by decide +kernel
theorem dX2_hand_47 : decode cX2_hand 47 = .ok (.iload 4, 2) := by decide +kernel
theorem dX2_hand_49 : decode cX2_hand 49 = .ok (.goto 10, 3) := by decide +kernel
theorem dX2_hand_52 : decode cX2_hand 52 = .ok (.iload 4, 2) := by decide +kernel
theorem dX2_hand_54 : decode cX2_hand 54 = .ok (.iload_n 2, 1) := by decide +kernel
theorem dX2_hand_55 : decode cX2_hand 55 = .ok (.invokestatic 105, 3) := by decide +kernel
theorem dX2_hand_58 : decode cX2_hand 58 = .ok (.iand, 1) := by decide +kernel
theorem dX2_hand_59 : decode cX2_hand 59 = .ok (.istore 5, 2) := by decide +kernel
theorem dX2_hand_61 : decode cX2_hand 61 = .ok (.iload_n 3, 1) := by decide +kernel
theorem dX2_hand_62 : decode cX2_hand 62 = .ok (.ifCond .ne 9, 3) := by decide +kernel
theorem dX2_hand_65 : decode cX2_hand 65 = .ok (.iload 5, 2) := by decide +kernel
theorem dX2_hand_67 : decode cX2_hand 67 = .ok (.invokestatic 108, 3) := by decide +kernel
theorem dX2_hand_70 : decode cX2_hand 70 = .ok (.ireturn, 1) := by decide +kernel
theorem dX2_hand_71 : decode cX2_hand 71 = .ok (.iload_n 3, 1) := by decide +kernel
theorem dX2_hand_72 : decode cX2_hand 72 = .ok (.iconst 1, 1) := by decide +kernel
theorem dX2_hand_73 : decode cX2_hand 73 = .ok (.if_icmp .ne 11, 3) := by decide +kernel
theorem dX2_hand_76 : decode cX2_hand 76 = .ok (.iload 5, 2) := by decide +kernel
theorem dX2_hand_78 : decode cX2_hand 78 = .ok (.invokestatic 113, 3) := by decide +kernel
theorem dX2_hand_81 : decode cX2_hand 81 = .ok (.goto 8, 3) := by decide +kernel
theorem dX2_hand_84 : decode cX2_hand 84 = .ok (.iload 5, 2) := by decide +kernel
theorem dX2_hand_86 : decode cX2_hand 86 = .ok (.invokestatic 77, 3) := by decide +kernel
theorem dX2_hand_89 : decode cX2_hand 89 = .ok (.ireturn, 1) := by decide +kernel
theorem dX2_bid_0 : decode cX2_bid 0 = .ok (.iload_n 1, 1) := by decide +kernel
theorem dX2_bid_1 : decode cX2_bid 1 = .ok (.invokestatic 116, 3) := by decide +kernel
theorem dX2_bid_4 : decode cX2_bid 4 = .ok (.aload_n 0, 1) := by decide +kernel
theorem dX2_bid_5 : decode cX2_bid 5 = .ok (.iload_n 1, 1) := by decide +kernel
theorem dX2_bid_6 : decode cX2_bid 6 = .ok (.invokevirtual 119, 3) := by decide +kernel
theorem dX2_bid_9 : decode cX2_bid 9 = .ok (.ifCond .ne 13, 3) := by decide +kernel
theorem dX2_bid_12 : decode cX2_bid 12 = .ok (.new 64, 3) := by decide +kernel
theorem dX2_bid_15 : decode cX2_bid 15 = .ok (.dup, 1) := by decide +kernel
theorem dX2_bid_16 : decode cX2_bid 16 = .ok (.ldc 122, 2) := by decide +kernel
theorem dX2_bid_18 : decode cX2_bid 18 = .ok (.invokespecial 68, 3) := by decide +kernel
theorem dX2_bid_21 : decode cX2_bid 21 = .ok (.athrow, 1) := by decide +kernel
theorem dX2_bid_22 : decode cX2_bid 22 = .ok (.aload_n 0, 1) := by decide +kernel
theorem dX2_bid_23 : decode cX2_bid 23 = .ok (.getfield 22, 3) := by decide +kernel
theorem dX2_bid_26 : decode cX2_bid 26 = .ok (.iload_n 1, 1) := by decide +kernel
theorem dX2_bid_27 : decode cX2_bid 27 = .ok (.invokevirtual 124, 3) := by decide +kernel
theorem dX2_bid_30 : decode cX2_bid 30 = .ok (.aload_n 0, 1) := by decide +kernel
theorem dX2_bid_31 : decode cX2_bid 31 = .ok (.getfield 22, 3) := by decide +kernel
theorem dX2_bid_34 : decode cX2_bid 34 = .ok (.invokevirtual 126, 3) := by decide +kernel
theorem dX2_bid_37 : decode cX2_bid 37 = .ok (.ifCond .eq 11, 3) := by decide +kernel
theorem dX2_bid_40 : decode cX2_bid 40 = .ok (.aload_n 0, 1) := by decide +kernel
theorem dX2_bid_41 : decode cX2_bid 41 = .ok (.iconst 3, 1) := by decide +kernel
theorem dX2_bid_42 : decode cX2_bid 42 = .ok (.putfield 33, 3) := by decide +kernel
theorem dX2_bid_45 : decode cX2_bid 45 = .ok (.goto 42, 3) := by decide +kernel
theorem dX2_bid_48 : decode cX2_bid 48 = .ok (.aload_n 0, 1) := by decide +kernel
theorem dX2_bid_49 : decode cX2_bid 49 = .ok (.getfield 22, 3) := by decide +kernel
theorem dX2_bid_52 : decode cX2_bid 52 = .ok (.invokevirtual 129, 3) := by decide +kernel
theorem dX2_bid_55 : decode cX2_bid 55 = .ok (.ifCond .eq 32, 3) := by decide +kernel
theorem dX2_bid_58 : decode cX2_bid 58 = .ok (.aload_n 0, 1) := by decide +kernel
theorem dX2_bid_59 : decode cX2_bid 59 = .ok (.iconst 2, 1) := by decide +kernel
theorem dX2_bid_60 : decode cX2_bid 60 = .ok (.putfield 33, 3) := by decide +kernel
theorem dX2_bid_63 : decode cX2_bid 63 = .ok (.aload_n 0, 1) := by decide +kernel
theorem dX2_bid_64 : decode cX2_bid 64 = .ok (.getfield 12, 3) := by decide +kernel
theorem dX2_bid_67 : decode cX2_bid 67 = .ok (.aload_n 0, 1) := by decide +kernel
theorem dX2_bid_68 : decode cX2_bid 68 = .ok (.getfield 22, 3) := by decide +kernel
theorem dX2_bid_71 : decode cX2_bid 71 = .ok (.invokevirtual 132, 3) := by decide +kernel
theorem dX2_bid_74 : decode cX2_bid 74 = .ok (.invokestatic 136, 3) := by decide +kernel
theorem dX2_bid_77 : decode cX2_bid 77 = .ok (.aload_n 0, 1) := by decide +kernel
theorem dX2_bid_78 : decode cX2_bid 78 = .ok (.getfield 22, 3) := by decide +kernel
theorem dX2_bid_81 : decode cX2_bid 81 = .ok (.invokevirtual 139, 3) := by decide +kernel
theorem dX2_bid_84 : decode cX2_bid 84 = .ok (.invokevirtual 142, 3) := by decide +kernel
theorem dX2_bid_87 : decode cX2_bid 87 = .ok (.aload_n 0, 1) := by decide +kernel
theorem dX2_bid_88 : decode cX2_bid 88 = .ok (.invokevirtual 145, 3) := by decide +kernel
theorem dX2_bid_91 : decode cX2_bid 91 = .ok (.ireturn, 1) := by decide +kernel
theorem dX2_canBid_0 : decode cX2_canBid 0 = .ok (.iload_n 1, 1) := by decide +kernel
theorem dX2_canBid_1 : decode cX2_canBid 1 = .ok (.invokestatic 116, 3) := by decide +kernel
theorem dX2_canBid_4 : decode cX2_canBid 4 = .ok (.aload_n 0, 1) := by decide +kernel
theorem dX2_canBid_5 : decode cX2_canBid 5 = .ok (.iload_n 1, 1) := by decide +kernel
theorem dX2_canBid_6 : decode cX2_canBid 6 = .ok (.invokevirtual 119, 3) := by decide +kernel
theorem dX2_canBid_9 : decode cX2_canBid 9 = .ok (.ireturn, 1) := by decide +kernel
theorem dX2_contract_0 : decode cX2_contract 0 = .ok (.iload_n 1, 1) := by decide +kernel
theorem dX2_contract_1 : decode cX2_contract 1 = .ok (.ifCond .lt 8, 3) := by decide +kernel
theorem dX2_contract_4 : decode cX2_contract 4 = .ok (.iload_n 1, 1) := by decide +kernel
theorem dX2_contract_5 : decode cX2_contract 5 = .ok (.iconst 3, 1) := by decide +kernel
theorem dX2_contract_6 : decode cX2_contract 6 = .ok (.if_icmp .le 13, 3) := by decide +kernel
theorem dX2_contract_9 : decode cX2_contract 9 = .ok (.new 53, 3) := by decide +kernel
theorem dX2_contract_12 : decode cX2_contract 12 = .ok (.dup, 1) := by decide +kernel
theorem dX2_contract_13 : decode cX2_contract 13 = .ok (.ldc 158, 2) := by decide +kernel
theorem dX2_contract_15 : decode cX2_contract 15 = .ok (.invokespecial 57, 3) := by decide +kernel
theorem dX2_contract_18 : decode cX2_contract 18 = .ok (.athrow, 1) := by decide +kernel
theorem dX2_contract_19 : decode cX2_contract 19 = .ok (.aload_n 0, 1) := by decide +kernel
theorem dX2_contract_20 : decode cX2_contract 20 = .ok (.getfield 22, 3) := by decide +kernel
theorem dX2_contract_23 : decode cX2_contract 23 = .ok (.invokevirtual 129, 3) := by decide +kernel
theorem dX2_contract_26 : decode cX2_contract 26 = .ok (.ifCond .ne 5, 3) := by decide +kernel
theorem dX2_contract_29 : decode cX2_contract 29 = .ok (.iconst (-1), 1) := by decide +kernel
theorem dX2_contract_30 : decode cX2_contract 30 = .ok (.ireturn, 1) := by decide +kernel
theorem dX2_contract_31 : decode cX2_contract 31 = .ok (.iload_n 1, 1) := by decide +kernel
theorem dX2_contract_32 : decode cX2_contract 32 = .ok (.tableswitch 52 0 2 #[28, 36, 44], 28) := by decide +kernel
theorem dX2_contract_60 : decode cX2_contract 60 = .ok (.aload_n 0, 1) := by decide +kernel
theorem dX2_contract_61 : decode cX2_contract 61 = .ok (.getfield 22, 3) := by decide +kernel
theorem dX2_contract_64 : decode cX2_contract 64 = .ok (.invokevirtual 160, 3) := by decide +kernel
theorem dX2_contract_67 : decode cX2_contract 67 = .ok (.ireturn, 1) := by decide +kernel
theorem dX2_contract_68 : decode cX2_contract 68 = .ok (.aload_n 0, 1) := by decide +kernel
theorem dX2_contract_69 : decode cX2_contract 69 = .ok (.getfield 22, 3) := by decide +kernel
theorem dX2_contract_72 : decode cX2_contract 72 = .ok (.invokevirtual 139, 3) := by decide +kernel
theorem dX2_contract_75 : decode cX2_contract 75 = .ok (.ireturn, 1) := by decide +kernel
theorem dX2_contract_76 : decode cX2_contract 76 = .ok (.aload_n 0, 1) := by decide +kernel
theorem dX2_contract_77 : decode cX2_contract 77 = .ok (.getfield 22, 3) := by decide +kernel
theorem dX2_contract_80 : decode cX2_contract 80 = .ok (.invokevirtual 132, 3) := by decide +kernel
theorem dX2_contract_83 : decode cX2_contract 83 = .ok (.ireturn, 1) := by decide +kernel
theorem dX2_contract_84 : decode cX2_contract 84 = .ok (.aload_n 0, 1) := by decide +kernel
theorem dX2_contract_85 : decode cX2_contract 85 = .ok (.getfield 22, 3) := by decide +kernel
theorem dX2_contract_88 : decode cX2_contract 88 = .ok (.getfield 163, 3) := by decide +kernel
theorem dX2_contract_91 : decode cX2_contract 91 = .ok (.ireturn, 1) := by decide +kernel
theorem dX2_play_0 : decode cX2_play 0 = .ok (.iload_n 1, 1) := by decide +kernel
theorem dX2_play_1 : decode cX2_play 1 = .ok (.invokestatic 80, 3) := by decide +kernel
theorem dX2_play_4 : decode cX2_play 4 = .ok (.aload_n 0, 1) := by decide +kernel
theorem dX2_play_5 : decode cX2_play 5 = .ok (.iload_n 1, 1) := by decide +kernel
theorem dX2_play_6 : decode cX2_play 6 = .ok (.invokevirtual 166, 3) := by decide +kernel
theorem dX2_play_9 : decode cX2_play 9 = .ok (.aload_n 0, 1) := by decide +kernel
theorem dX2_play_10 : decode cX2_play 10 = .ok (.getfield 12, 3) := by decide +kernel
theorem dX2_play_13 : decode cX2_play 13 = .ok (.iload_n 1, 1) := by decide +kernel
theorem dX2_play_14 : decode cX2_play 14 = .ok (.invokevirtual 169, 3) := by decide +kernel
theorem dX2_play_17 : decode cX2_play 17 = .ok (.istore_n 2, 1) := by decide +kernel
theorem dX2_play_18 : decode cX2_play 18 = .ok (.iload_n 2, 1) := by decide +kernel
theorem dX2_play_19 : decode cX2_play 19 = .ok (.iconst (-1), 1) := by decide +kernel
theorem dX2_play_20 : decode cX2_play 20 = .ok (.if_icmp .eq 16, 3) := by decide +kernel
theorem dX2_play_23 : decode cX2_play 23 = .ok (.aload_n 0, 1) := by decide +kernel
theorem dX2_play_24 : decode cX2_play 24 = .ok (.getfield 26, 3) := by decide +kernel
theorem dX2_play_27 : decode cX2_play 27 = .ok (.iload_n 2, 1) := by decide +kernel
theorem dX2_play_28 : decode cX2_play 28 = .ok (.invokestatic 172, 3) := by decide +kernel
theorem dX2_play_31 : decode cX2_play 31 = .ok (.dup2, 1) := by decide +kernel
theorem dX2_play_32 : decode cX2_play 32 = .ok (.iaload, 1) := by decide +kernel
theorem dX2_play_33 : decode cX2_play 33 = .ok (.iconst 1, 1) := by decide +kernel
theorem dX2_play_34 : decode cX2_play 34 = .ok (.iadd, 1) := by decide +kernel
theorem dX2_play_35 : decode cX2_play 35 = .ok (.iastore, 1) := by decide +kernel
theorem dX2_play_36 : decode cX2_play 36 = .ok (.aload_n 0, 1) := by decide +kernel
theorem dX2_play_37 : decode cX2_play 37 = .ok (.getfield 12, 3) := by decide +kernel
theorem dX2_play_40 : decode cX2_play 40 = .ok (.invokevirtual 175, 3) := by decide +kernel
theorem dX2_play_43 : decode cX2_play 43 = .ok (.ifCond .ne 7, 3) := by decide +kernel
theorem dX2_play_46 : decode cX2_play 46 = .ok (.aload_n 0, 1) := by decide +kernel
theorem dX2_play_47 : decode cX2_play 47 = .ok (.invokevirtual 178, 3) := by decide +kernel
theorem dX2_play_50 : decode cX2_play 50 = .ok (.aload_n 0, 1) := by decide +kernel
theorem dX2_play_51 : decode cX2_play 51 = .ok (.invokevirtual 145, 3) := by decide +kernel
theorem dX2_play_54 : decode cX2_play 54 = .ok (.ireturn, 1) := by decide +kernel
theorem dX2_back_0 : decode cX2_back 0 = .ok (.aload_n 0, 1) := by decide +kernel
theorem dX2_back_1 : decode cX2_back 1 = .ok (.getfield 33, 3) := by decide +kernel
theorem dX2_back_4 : decode cX2_back 4 = .ok (.iconst 2, 1) := by decide +kernel
theorem dX2_back_5 : decode cX2_back 5 = .ok (.if_icmp .ne 13, 3) := by decide +kernel
theorem dX2_back_8 : decode cX2_back 8 = .ok (.aload_n 0, 1) := by decide +kernel
theorem dX2_back_9 : decode cX2_back 9 = .ok (.getfield 12, 3) := by decide +kernel
theorem dX2_back_12 : decode cX2_back 12 = .ok (.invokevirtual 181, 3) := by decide +kernel
theorem dX2_back_15 : decode cX2_back 15 = .ok (.ifCond .ne 13, 3) := by decide +kernel
theorem dX2_back_18 : decode cX2_back 18 = .ok (.new 64, 3) := by decide +kernel
theorem dX2_back_21 : decode cX2_back 21 = .ok (.dup, 1) := by decide +kernel
theorem dX2_back_22 : decode cX2_back 22 = .ok (.ldc 184, 2) := by decide +kernel
theorem dX2_back_24 : decode cX2_back 24 = .ok (.invokespecial 68, 3) := by decide +kernel
theorem dX2_back_27 : decode cX2_back 27 = .ok (.athrow, 1) := by decide +kernel
theorem dX2_back_28 : decode cX2_back 28 = .ok (.aload_n 0, 1) := by decide +kernel
theorem dX2_back_29 : decode cX2_back 29 = .ok (.getfield 12, 3) := by decide +kernel
theorem dX2_back_32 : decode cX2_back 32 = .ok (.invokevirtual 186, 3) := by decide +kernel
theorem dX2_back_35 : decode cX2_back 35 = .ok (.ireturn, 1) := by decide +kernel
theorem dX2_isRight_0 : decode cX2_isRight 0 = .ok (.iload_n 1, 1) := by decide +kernel
theorem dX2_isRight_1 : decode cX2_isRight 1 = .ok (.invokestatic 80, 3) := by decide +kernel
theorem dX2_isRight_4 : decode cX2_isRight 4 = .ok (.aload_n 0, 1) := by decide +kernel
theorem dX2_isRight_5 : decode cX2_isRight 5 = .ok (.getfield 33, 3) := by decide +kernel
theorem dX2_isRight_8 : decode cX2_isRight 8 = .ok (.iconst 2, 1) := by decide +kernel
theorem dX2_isRight_9 : decode cX2_isRight 9 = .ok (.if_icmp .ne 21, 3) := by decide +kernel
theorem dX2_isRight_12 : decode cX2_isRight 12 = .ok (.aload_n 0, 1) := by decide +kernel
theorem dX2_isRight_13 : decode cX2_isRight 13 = .ok (.getfield 12, 3) := by decide +kernel
theorem dX2_isRight_16 : decode cX2_isRight 16 = .ok (.invokevirtual 189, 3) := by decide +kernel
theorem dX2_isRight_19 : decode cX2_isRight 19 = .ok (.iload_n 1, 1) := by decide +kernel
theorem dX2_isRight_20 : decode cX2_isRight 20 = .ok (.invokestatic 99, 3) := by decide +kernel
theorem dX2_isRight_23 : decode cX2_isRight 23 = .ok (.ifCond .eq 7, 3) := by decide +kernel
theorem dX2_isRight_26 : decode cX2_isRight 26 = .ok (.iconst 1, 1) := by decide +kernel
theorem dX2_isRight_27 : decode cX2_isRight 27 = .ok (.goto 4, 3) := by decide +kernel
theorem dX2_isRight_30 : decode cX2_isRight 30 = .ok (.iconst 0, 1) := by decide +kernel
theorem dX2_isRight_31 : decode cX2_isRight 31 = .ok (.ireturn, 1) := by decide +kernel
theorem dX2_trick_0 : decode cX2_trick 0 = .ok (.iload_n 1, 1) := by decide +kernel
theorem dX2_trick_1 : decode cX2_trick 1 = .ok (.ifCond .lt 14, 3) := by decide +kernel
theorem dX2_trick_4 : decode cX2_trick 4 = .ok (.iload_n 1, 1) := by decide +kernel
theorem dX2_trick_5 : decode cX2_trick 5 = .ok (.aload_n 0, 1) := by decide +kernel
theorem dX2_trick_6 : decode cX2_trick 6 = .ok (.getfield 12, 3) := by decide +kernel
theorem dX2_trick_9 : decode cX2_trick 9 = .ok (.invokevirtual 192, 3) := by decide +kernel
theorem dX2_trick_12 : decode cX2_trick 12 = .ok (.if_icmp .lt 13, 3) := by decide +kernel
theorem dX2_trick_15 : decode cX2_trick 15 = .ok (.new 150, 3) := by decide +kernel
theorem dX2_trick_18 : decode cX2_trick 18 = .ok (.dup, 1) := by decide +kernel
theorem dX2_trick_19 : decode cX2_trick 19 = .ok (.ldc 195, 2) := by decide +kernel
theorem dX2_trick_21 : decode cX2_trick 21 = .ok (.invokespecial 154, 3) := by decide +kernel
theorem dX2_trick_24 : decode cX2_trick 24 = .ok (.athrow, 1) := by decide +kernel
theorem dX2_trick_25 : decode cX2_trick 25 = .ok (.iload_n 2, 1) := by decide +kernel
theorem dX2_trick_26 : decode cX2_trick 26 = .ok (.ifCond .lt 8, 3) := by decide +kernel
theorem dX2_trick_29 : decode cX2_trick 29 = .ok (.iload_n 2, 1) := by decide +kernel
theorem dX2_trick_30 : decode cX2_trick 30 = .ok (.iconst 5, 1) := by decide +kernel
theorem dX2_trick_31 : decode cX2_trick 31 = .ok (.if_icmp .le 13, 3) := by decide +kernel
theorem dX2_trick_34 : decode cX2_trick 34 = .ok (.new 53, 3) := by decide +kernel
theorem dX2_trick_37 : decode cX2_trick 37 = .ok (.dup, 1) := by decide +kernel
theorem dX2_trick_38 : decode cX2_trick 38 = .ok (.ldc 158, 2) := by decide +kernel
theorem dX2_trick_40 : decode cX2_trick 40 = .ok (.invokespecial 57, 3) := by decide +kernel
theorem dX2_trick_43 : decode cX2_trick 43 = .ok (.athrow, 1) := by decide +kernel
theorem dX2_trick_44 : decode cX2_trick 44 = .ok (.iload_n 2, 1) := by decide +kernel
theorem dX2_trick_45 : decode cX2_trick 45 = .ok (.ifCond .ne 12, 3) := by decide +kernel
theorem dX2_trick_48 : decode cX2_trick 48 = .ok (.aload_n 0, 1) := by decide +kernel
theorem dX2_trick_49 : decode cX2_trick 49 = .ok (.getfield 12, 3) := by decide +kernel
theorem dX2_trick_52 : decode cX2_trick 52 = .ok (.iload_n 1, 1) := by decide +kernel
theorem dX2_trick_53 : decode cX2_trick 53 = .ok (.invokevirtual 197, 3) := by decide +kernel
theorem dX2_trick_56 : decode cX2_trick 56 = .ok (.ireturn, 1) := by decide +kernel
theorem dX2_trick_57 : decode cX2_trick 57 = .ok (.iload_n 2, 1) := by decide +kernel
theorem dX2_trick_58 : decode cX2_trick 58 = .ok (.iconst 1, 1) := by decide +kernel
theorem dX2_trick_59 : decode cX2_trick 59 = .ok (.if_icmp .ne 16, 3) := by decide +kernel
theorem dX2_trick_62 : decode cX2_trick 62 = .ok (.aload_n 0, 1) := by decide +kernel
theorem dX2_trick_63 : decode cX2_trick 63 = .ok (.getfield 12, 3) := by decide +kernel
theorem dX2_trick_66 : decode cX2_trick 66 = .ok (.iload_n 1, 1) := by decide +kernel
theorem dX2_trick_67 : decode cX2_trick 67 = .ok (.iconst 1, 1) := by decide +kernel
theorem dX2_trick_68 : decode cX2_trick 68 = .ok (.iadd, 1) := by decide +kernel
theorem dX2_trick_69 : decode cX2_trick 69 = .ok (.invokevirtual 197, 3) := by decide +kernel
theorem dX2_trick_72 : decode cX2_trick 72 = .ok (.goto 14, 3) := by decide +kernel
theorem dX2_trick_75 : decode cX2_trick 75 = .ok (.aload_n 0, 1) := by decide +kernel
theorem dX2_trick_76 : decode cX2_trick 76 = .ok (.getfield 12, 3) := by decide +kernel
theorem dX2_trick_79 : decode cX2_trick 79 = .ok (.iload_n 1, 1) := by decide +kernel
theorem dX2_trick_80 : decode cX2_trick 80 = .ok (.iload_n 2, 1) := by decide +kernel
theorem dX2_trick_81 : decode cX2_trick 81 = .ok (.iconst 2, 1) := by decide +kernel
theorem dX2_trick_82 : decode cX2_trick 82 = .ok (.isub, 1) := by decide +kernel
theorem dX2_trick_83 : decode cX2_trick 83 = .ok (.invokevirtual 200, 3) := by decide +kernel
theorem dX2_trick_86 : decode cX2_trick 86 = .ok (.ireturn, 1) := by decide +kernel
theorem dX2_now_0 : decode cX2_now 0 = .ok (.iload_n 1, 1) := by decide +kernel
theorem dX2_now_1 : decode cX2_now 1 = .ok (.ifCond .lt 9, 3) := by decide +kernel
theorem dX2_now_4 : decode cX2_now 4 = .ok (.iload_n 1, 1) := by decide +kernel
theorem dX2_now_5 : decode cX2_now 5 = .ok (.bipush 7, 2) := by decide +kernel
theorem dX2_now_7 : decode cX2_now 7 = .ok (.if_icmp .le 13, 3) := by decide +kernel
theorem dX2_now_10 : decode cX2_now 10 = .ok (.new 53, 3) := by decide +kernel
theorem dX2_now_13 : decode cX2_now 13 = .ok (.dup, 1) := by decide +kernel
theorem dX2_now_14 : decode cX2_now 14 = .ok (.ldc 158, 2) := by decide +kernel
theorem dX2_now_16 : decode cX2_now 16 = .ok (.invokespecial 57, 3) := by decide +kernel
theorem dX2_now_19 : decode cX2_now 19 = .ok (.athrow, 1) := by decide +kernel
theorem dX2_now_20 : decode cX2_now 20 = .ok (.iload_n 1, 1) := by decide +kernel
theorem dX2_now_21 : decode cX2_now 21 = .ok (.tableswitch 107 0 6 #[43, 48, 56, 61, 69, 77, 85], 43) := by decide +kernel
theorem dX2_now_64 : decode cX2_now 64 = .ok (.aload_n 0, 1) := by decide +kernel
theorem dX2_now_65 : decode cX2_now 65 = .ok (.getfield 33, 3) := by decide +kernel
theorem dX2_now_68 : decode cX2_now 68 = .ok (.ireturn, 1) := by decide +kernel
theorem dX2_now_69 : decode cX2_now 69 = .ok (.aload_n 0, 1) := by decide +kernel
theorem dX2_now_70 : decode cX2_now 70 = .ok (.getfield 22, 3) := by decide +kernel
theorem dX2_now_73 : decode cX2_now 73 = .ok (.getfield 204, 3) := by decide +kernel
theorem dX2_now_76 : decode cX2_now 76 = .ok (.ireturn, 1) := by decide +kernel
theorem dX2_now_77 : decode cX2_now 77 = .ok (.aload_n 0, 1) := by decide +kernel
theorem dX2_now_78 : decode cX2_now 78 = .ok (.invokevirtual 145, 3) := by decide +kernel
theorem dX2_now_81 : decode cX2_now 81 = .ok (.ireturn, 1) := by decide +kernel
theorem dX2_now_82 : decode cX2_now 82 = .ok (.aload_n 0, 1) := by decide +kernel
theorem dX2_now_83 : decode cX2_now 83 = .ok (.getfield 22, 3) := by decide +kernel
theorem dX2_now_86 : decode cX2_now 86 = .ok (.getfield 148, 3) := by decide +kernel
theorem dX2_now_89 : decode cX2_now 89 = .ok (.ireturn, 1) := by decide +kernel
theorem dX2_now_90 : decode cX2_now 90 = .ok (.aload_n 0, 1) := by decide +kernel
theorem dX2_now_91 : decode cX2_now 91 = .ok (.getfield 12, 3) := by decide +kernel
theorem dX2_now_94 : decode cX2_now 94 = .ok (.invokevirtual 192, 3) := by decide +kernel
theorem dX2_now_97 : decode cX2_now 97 = .ok (.ireturn, 1) := by decide +kernel
theorem dX2_now_98 : decode cX2_now 98 = .ok (.aload_n 0, 1) := by decide +kernel
theorem dX2_now_99 : decode cX2_now 99 = .ok (.getfield 12, 3) := by decide +kernel
theorem dX2_now_102 : decode cX2_now 102 = .ok (.invokevirtual 181, 3) := by decide +kernel
theorem dX2_now_105 : decode cX2_now 105 = .ok (.ireturn, 1) := by decide +kernel
theorem dX2_now_106 : decode cX2_now 106 = .ok (.aload_n 0, 1) := by decide +kernel
theorem dX2_now_107 : decode cX2_now 107 = .ok (.getfield 12, 3) := by decide +kernel
theorem dX2_now_110 : decode cX2_now 110 = .ok (.aload_n 0, 1) := by decide +kernel
theorem dX2_now_111 : decode cX2_now 111 = .ok (.getfield 12, 3) := by decide +kernel
theorem dX2_now_114 : decode cX2_now 114 = .ok (.invokevirtual 192, 3) := by decide +kernel
theorem dX2_now_117 : decode cX2_now 117 = .ok (.aload_n 0, 1) := by decide +kernel
theorem dX2_now_118 : decode cX2_now 118 = .ok (.getfield 12, 3) := by decide +kernel
theorem dX2_now_121 : decode cX2_now 121 = .ok (.invokevirtual 181, 3) := by decide +kernel
theorem dX2_now_124 : decode cX2_now 124 = .ok (.invokevirtual 207, 3) := by decide +kernel
theorem dX2_now_127 : decode cX2_now 127 = .ok (.ireturn, 1) := by decide +kernel
theorem dX2_now_128 : decode cX2_now 128 = .ok (.aload_n 0, 1) := by decide +kernel
theorem dX2_now_129 : decode cX2_now 129 = .ok (.getfield 37, 3) := by decide +kernel
theorem dX2_now_132 : decode cX2_now 132 = .ok (.ireturn, 1) := by decide +kernel
theorem dX2_side_0 : decode cX2_side 0 = .ok (.iload_n 1, 1) := by decide +kernel
theorem dX2_side_1 : decode cX2_side 1 = .ok (.ifCond .lt 8, 3) := by decide +kernel
theorem dX2_side_4 : decode cX2_side 4 = .ok (.iload_n 1, 1) := by decide +kernel
theorem dX2_side_5 : decode cX2_side 5 = .ok (.iconst 1, 1) := by decide +kernel
theorem dX2_side_6 : decode cX2_side 6 = .ok (.if_icmp .le 13, 3) := by decide +kernel
theorem dX2_side_9 : decode cX2_side 9 = .ok (.new 150, 3) := by decide +kernel
theorem dX2_side_12 : decode cX2_side 12 = .ok (.dup, 1) := by decide +kernel
theorem dX2_side_13 : decode cX2_side 13 = .ok (.ldc 210, 2) := by decide +kernel
theorem dX2_side_15 : decode cX2_side 15 = .ok (.invokespecial 154, 3) := by decide +kernel
theorem dX2_side_18 : decode cX2_side 18 = .ok (.athrow, 1) := by decide +kernel
theorem dX2_side_19 : decode cX2_side 19 = .ok (.iload_n 2, 1) := by decide +kernel
theorem dX2_side_20 : decode cX2_side 20 = .ok (.ifCond .lt 8, 3) := by decide +kernel
theorem dX2_side_23 : decode cX2_side 23 = .ok (.iload_n 2, 1) := by decide +kernel
theorem dX2_side_24 : decode cX2_side 24 = .ok (.iconst 2, 1) := by decide +kernel
theorem dX2_side_25 : decode cX2_side 25 = .ok (.if_icmp .le 13, 3) := by decide +kernel
theorem dX2_side_28 : decode cX2_side 28 = .ok (.new 53, 3) := by decide +kernel
theorem dX2_side_31 : decode cX2_side 31 = .ok (.dup, 1) := by decide +kernel
theorem dX2_side_32 : decode cX2_side 32 = .ok (.ldc 158, 2) := by decide +kernel
theorem dX2_side_34 : decode cX2_side 34 = .ok (.invokespecial 57, 3) := by decide +kernel
theorem dX2_side_37 : decode cX2_side 37 = .ok (.athrow, 1) := by decide +kernel
theorem dX2_side_38 : decode cX2_side 38 = .ok (.iload_n 2, 1) := by decide +kernel
theorem dX2_side_39 : decode cX2_side 39 = .ok (.ifCond .ne 10, 3) := by decide +kernel
theorem dX2_side_42 : decode cX2_side 42 = .ok (.aload_n 0, 1) := by decide +kernel
theorem dX2_side_43 : decode cX2_side 43 = .ok (.getfield 26, 3) := by decide +kernel
theorem dX2_side_46 : decode cX2_side 46 = .ok (.iload_n 1, 1) := by decide +kernel
theorem dX2_side_47 : decode cX2_side 47 = .ok (.iaload, 1) := by decide +kernel
theorem dX2_side_48 : decode cX2_side 48 = .ok (.ireturn, 1) := by decide +kernel
theorem dX2_side_49 : decode cX2_side 49 = .ok (.iload_n 2, 1) := by decide +kernel
theorem dX2_side_50 : decode cX2_side 50 = .ok (.iconst 1, 1) := by decide +kernel
theorem dX2_side_51 : decode cX2_side 51 = .ok (.if_icmp .ne 12, 3) := by decide +kernel
theorem dX2_side_54 : decode cX2_side 54 = .ok (.aload_n 0, 1) := by decide +kernel
theorem dX2_side_55 : decode cX2_side 55 = .ok (.getfield 30, 3) := by decide +kernel
theorem dX2_side_58 : decode cX2_side 58 = .ok (.iload_n 1, 1) := by decide +kernel
theorem dX2_side_59 : decode cX2_side 59 = .ok (.iaload, 1) := by decide +kernel
theorem dX2_side_60 : decode cX2_side 60 = .ok (.goto 8, 3) := by decide +kernel
theorem dX2_side_63 : decode cX2_side 63 = .ok (.aload_n 0, 1) := by decide +kernel
theorem dX2_side_64 : decode cX2_side 64 = .ok (.iload_n 1, 1) := by decide +kernel
theorem dX2_side_65 : decode cX2_side 65 = .ok (.invokevirtual 212, 3) := by decide +kernel
theorem dX2_side_68 : decode cX2_side 68 = .ok (.ireturn, 1) := by decide +kernel
theorem dX2_meanScore_0 : decode cX2_meanScore 0 = .ok (.aload_n 0, 1) := by decide +kernel
theorem dX2_meanScore_1 : decode cX2_meanScore 1 = .ok (.getfield 37, 3) := by decide +kernel
theorem dX2_meanScore_4 : decode cX2_meanScore 4 = .ok (.ifCond .ne 5, 3) := by decide +kernel
theorem dX2_meanScore_7 : decode cX2_meanScore 7 = .ok (.dconst 0, 1) := by decide +kernel
theorem dX2_meanScore_8 : decode cX2_meanScore 8 = .ok (.dreturn, 1) := by decide +kernel
theorem dX2_meanScore_9 : decode cX2_meanScore 9 = .ok (.aload_n 0, 1) := by decide +kernel
theorem dX2_meanScore_10 : decode cX2_meanScore 10 = .ok (.getfield 30, 3) := by decide +kernel
theorem dX2_meanScore_13 : decode cX2_meanScore 13 = .ok (.iconst 0, 1) := by decide +kernel
theorem dX2_meanScore_14 : decode cX2_meanScore 14 = .ok (.iaload, 1) := by decide +kernel
theorem dX2_meanScore_15 : decode cX2_meanScore 15 = .ok (.aload_n 0, 1) := by decide +kernel
theorem dX2_meanScore_16 : decode cX2_meanScore 16 = .ok (.getfield 30, 3) := by decide +kernel
theorem dX2_meanScore_19 : decode cX2_meanScore 19 = .ok (.iconst 1, 1) := by decide +kernel
theorem dX2_meanScore_20 : decode cX2_meanScore 20 = .ok (.iaload, 1) := by decide +kernel
theorem dX2_meanScore_21 : decode cX2_meanScore 21 = .ok (.iadd, 1) := by decide +kernel
theorem dX2_meanScore_22 : decode cX2_meanScore 22 = .ok (.i2d, 1) := by decide +kernel
theorem dX2_meanScore_23 : decode cX2_meanScore 23 = .ok (.aload_n 0, 1) := by decide +kernel
theorem dX2_meanScore_24 : decode cX2_meanScore 24 = .ok (.getfield 37, 3) := by decide +kernel
theorem dX2_meanScore_27 : decode cX2_meanScore 27 = .ok (.i2d, 1) := by decide +kernel
theorem dX2_meanScore_28 : decode cX2_meanScore 28 = .ok (.ddiv, 1) := by decide +kernel
theorem dX2_meanScore_29 : decode cX2_meanScore 29 = .ok (.dreturn, 1) := by decide +kernel
theorem dX2_wouldGet_0 : decode cX2_wouldGet 0 = .ok (.iload_n 1, 1) := by decide +kernel
theorem dX2_wouldGet_1 : decode cX2_wouldGet 1 = .ok (.invokestatic 80, 3) := by decide +kernel
theorem dX2_wouldGet_4 : decode cX2_wouldGet 4 = .ok (.aload_n 0, 1) := by decide +kernel
theorem dX2_wouldGet_5 : decode cX2_wouldGet 5 = .ok (.iload_n 1, 1) := by decide +kernel
theorem dX2_wouldGet_6 : decode cX2_wouldGet 6 = .ok (.invokevirtual 166, 3) := by decide +kernel
theorem dX2_wouldGet_9 : decode cX2_wouldGet 9 = .ok (.aload_n 0, 1) := by decide +kernel
theorem dX2_wouldGet_10 : decode cX2_wouldGet 10 = .ok (.getfield 16, 3) := by decide +kernel
theorem dX2_wouldGet_13 : decode cX2_wouldGet 13 = .ok (.aload_n 0, 1) := by decide +kernel
theorem dX2_wouldGet_14 : decode cX2_wouldGet 14 = .ok (.getfield 12, 3) := by decide +kernel
theorem dX2_wouldGet_17 : decode cX2_wouldGet 17 = .ok (.invokevirtual 215, 3) := by decide +kernel
theorem dX2_wouldGet_20 : decode cX2_wouldGet 20 = .ok (.aload_n 0, 1) := by decide +kernel
theorem dX2_wouldGet_21 : decode cX2_wouldGet 21 = .ok (.getfield 16, 3) := by decide +kernel
theorem dX2_wouldGet_24 : decode cX2_wouldGet 24 = .ok (.iload_n 1, 1) := by decide +kernel
theorem dX2_wouldGet_25 : decode cX2_wouldGet 25 = .ok (.invokevirtual 169, 3) := by decide +kernel
theorem dX2_wouldGet_28 : decode cX2_wouldGet 28 = .ok (.pop, 1) := by decide +kernel
theorem dX2_wouldGet_29 : decode cX2_wouldGet 29 = .ok (.aload_n 0, 1) := by decide +kernel
theorem dX2_wouldGet_30 : decode cX2_wouldGet 30 = .ok (.getfield 16, 3) := by decide +kernel
theorem dX2_wouldGet_33 : decode cX2_wouldGet 33 = .ok (.aload_n 0, 1) := by decide +kernel
theorem dX2_wouldGet_34 : decode cX2_wouldGet 34 = .ok (.getfield 12, 3) := by decide +kernel
theorem dX2_wouldGet_37 : decode cX2_wouldGet 37 = .ok (.invokevirtual 192, 3) := by decide +kernel
theorem dX2_wouldGet_40 : decode cX2_wouldGet 40 = .ok (.aload_n 0, 1) := by decide +kernel
theorem dX2_wouldGet_41 : decode cX2_wouldGet 41 = .ok (.getfield 12, 3) := by decide +kernel
theorem dX2_wouldGet_44 : decode cX2_wouldGet 44 = .ok (.invokevirtual 181, 3) := by decide +kernel
theorem dX2_wouldGet_47 : decode cX2_wouldGet 47 = .ok (.iconst 1, 1) := by decide +kernel
theorem dX2_wouldGet_48 : decode cX2_wouldGet 48 = .ok (.iadd, 1) := by decide +kernel
theorem dX2_wouldGet_49 : decode cX2_wouldGet 49 = .ok (.invokevirtual 207, 3) := by decide +kernel
theorem dX2_wouldGet_52 : decode cX2_wouldGet 52 = .ok (.ireturn, 1) := by decide +kernel
theorem dX2_best_0 : decode cX2_best 0 = .ok (.aload_n 0, 1) := by decide +kernel
theorem dX2_best_1 : decode cX2_best 1 = .ok (.aload_n 0, 1) := by decide +kernel
theorem dX2_best_2 : decode cX2_best 2 = .ok (.getfield 12, 3) := by decide +kernel
theorem dX2_best_5 : decode cX2_best 5 = .ok (.getfield 219, 3) := by decide +kernel
theorem dX2_best_8 : decode cX2_best 8 = .ok (.invokevirtual 221, 3) := by decide +kernel
theorem dX2_best_11 : decode cX2_best 11 = .ok (.ireturn, 1) := by decide +kernel
theorem dX2_bestWith_0 : decode cX2_bestWith 0 = .ok (.iload_n 1, 1) := by decide +kernel
theorem dX2_bestWith_1 : decode cX2_bestWith 1 = .ok (.invokestatic 80, 3) := by decide +kernel
theorem dX2_bestWith_4 : decode cX2_bestWith 4 = .ok (.aload_n 0, 1) := by decide +kernel
theorem dX2_bestWith_5 : decode cX2_bestWith 5 = .ok (.iload_n 1, 1) := by decide +kernel
theorem dX2_bestWith_6 : decode cX2_bestWith 6 = .ok (.invokevirtual 166, 3) := by decide +kernel
theorem dX2_bestWith_9 : decode cX2_bestWith 9 = .ok (.aload_n 0, 1) := by decide +kernel
theorem dX2_bestWith_10 : decode cX2_bestWith 10 = .ok (.invokevirtual 224, 3) := by decide +kernel
theorem dX2_bestWith_13 : decode cX2_bestWith 13 = .ok (.ifCond .eq 11, 3) := by decide +kernel
theorem dX2_bestWith_16 : decode cX2_bestWith 16 = .ok (.aload_n 0, 1) := by decide +kernel
theorem dX2_bestWith_17 : decode cX2_bestWith 17 = .ok (.iload_n 1, 1) := by decide +kernel
theorem dX2_bestWith_18 : decode cX2_bestWith 18 = .ok (.invokevirtual 227, 3) := by decide +kernel
theorem dX2_bestWith_21 : decode cX2_bestWith 21 = .ok (.goto 4, 3) := by decide +kernel
theorem dX2_bestWith_24 : decode cX2_bestWith 24 = .ok (.iconst (-1), 1) := by decide +kernel
theorem dX2_bestWith_25 : decode cX2_bestWith 25 = .ok (.ireturn, 1) := by decide +kernel
theorem dX2_bestCard_0 : decode cX2_bestCard 0 = .ok (.aload_n 0, 1) := by decide +kernel
theorem dX2_bestCard_1 : decode cX2_bestCard 1 = .ok (.invokevirtual 224, 3) := by decide +kernel
theorem dX2_bestCard_4 : decode cX2_bestCard 4 = .ok (.ifCond .ne 5, 3) := by decide +kernel
theorem dX2_bestCard_7 : decode cX2_bestCard 7 = .ok (.iconst (-1), 1) := by decide +kernel
theorem dX2_bestCard_8 : decode cX2_bestCard 8 = .ok (.ireturn, 1) := by decide +kernel
theorem dX2_bestCard_9 : decode cX2_bestCard 9 = .ok (.aload_n 0, 1) := by decide +kernel
theorem dX2_bestCard_10 : decode cX2_bestCard 10 = .ok (.aload_n 0, 1) := by decide +kernel
theorem dX2_bestCard_11 : decode cX2_bestCard 11 = .ok (.getfield 12, 3) := by decide +kernel
theorem dX2_bestCard_14 : decode cX2_bestCard 14 = .ok (.getfield 219, 3) := by decide +kernel
theorem dX2_bestCard_17 : decode cX2_bestCard 17 = .ok (.invokevirtual 221, 3) := by decide +kernel
theorem dX2_bestCard_20 : decode cX2_bestCard 20 = .ok (.istore_n 1, 1) := by decide +kernel
theorem dX2_bestCard_21 : decode cX2_bestCard 21 = .ok (.aload_n 0, 1) := by decide +kernel
theorem dX2_bestCard_22 : decode cX2_bestCard 22 = .ok (.getfield 12, 3) := by decide +kernel
theorem dX2_bestCard_25 : decode cX2_bestCard 25 = .ok (.invokevirtual 189, 3) := by decide +kernel
theorem dX2_bestCard_28 : decode cX2_bestCard 28 = .ok (.istore_n 2, 1) := by decide +kernel
theorem dX2_bestCard_29 : decode cX2_bestCard 29 = .ok (.iconst 0, 1) := by decide +kernel
theorem dX2_bestCard_30 : decode cX2_bestCard 30 = .ok (.istore_n 3, 1) := by decide +kernel
theorem dX2_bestCard_31 : decode cX2_bestCard 31 = .ok (.iload_n 3, 1) := by decide +kernel
theorem dX2_bestCard_32 : decode cX2_bestCard 32 = .ok (.bipush 8, 2) := by decide +kernel
theorem dX2_bestCard_34 : decode cX2_bestCard 34 = .ok (.if_icmp .ge 39, 3) := by decide +kernel
theorem dX2_bestCard_37 : decode cX2_bestCard 37 = .ok (.iload_n 2, 1) := by decide +kernel
theorem dX2_bestCard_38 : decode cX2_bestCard 38 = .ok (.ifCond .eq 35, 3) := by decide +kernel
theorem dX2_bestCard_41 : decode cX2_bestCard 41 = .ok (.iload_n 2, 1) := by decide +kernel
theorem dX2_bestCard_42 : decode cX2_bestCard 42 = .ok (.invokestatic 77, 3) := by decide +kernel
theorem dX2_bestCard_45 : decode cX2_bestCard 45 = .ok (.istore 4, 2) := by decide +kernel
theorem dX2_bestCard_47 : decode cX2_bestCard 47 = .ok (.aload_n 0, 1) := by decide +kernel
theorem dX2_bestCard_48 : decode cX2_bestCard 48 = .ok (.iload 4, 2) := by decide +kernel
theorem dX2_bestCard_50 : decode cX2_bestCard 50 = .ok (.invokevirtual 227, 3) := by decide +kernel
theorem dX2_bestCard_53 : decode cX2_bestCard 53 = .ok (.iload_n 1, 1) := by decide +kernel
theorem dX2_bestCard_54 : decode cX2_bestCard 54 = .ok (.if_icmp .ne 6, 3) := by decide +kernel
theorem dX2_bestCard_57 : decode cX2_bestCard 57 = .ok (.iload 4, 2) := by decide +kernel
theorem dX2_bestCard_59 : decode cX2_bestCard 59 = .ok (.ireturn, 1) := by decide +kernel
theorem dX2_bestCard_60 : decode cX2_bestCard 60 = .ok (.iload_n 2, 1) := by decide +kernel
theorem dX2_bestCard_61 : decode cX2_bestCard 61 = .ok (.iload 4, 2) := by decide +kernel
theorem dX2_bestCard_63 : decode cX2_bestCard 63 = .ok (.invokestatic 230, 3) := by decide +kernel
theorem dX2_bestCard_66 : decode cX2_bestCard 66 = .ok (.istore_n 2, 1) := by decide +kernel
theorem dX2_bestCard_67 : decode cX2_bestCard 67 = .ok (.iinc 3 1, 3) := by decide +kernel
theorem dX2_bestCard_70 : decode cX2_bestCard 70 = .ok (.goto (-39), 3) := by decide +kernel
theorem dX2_bestCard_73 : decode cX2_bestCard 73 = .ok (.iconst (-1), 1) := by decide +kernel
theorem dX2_bestCard_74 : decode cX2_bestCard 74 = .ok (.ireturn, 1) := by decide +kernel
theorem dX2_bestIn_0 : decode cX2_bestIn 0 = .ok (.iload_n 1, 1) := by decide +kernel
theorem dX2_bestIn_1 : decode cX2_bestIn 1 = .ok (.ifCond .lt 8, 3) := by decide +kernel
theorem dX2_bestIn_4 : decode cX2_bestIn 4 = .ok (.iload_n 1, 1) := by decide +kernel
theorem dX2_bestIn_5 : decode cX2_bestIn 5 = .ok (.iconst 5, 1) := by decide +kernel
theorem dX2_bestIn_6 : decode cX2_bestIn 6 = .ok (.if_icmp .lt 13, 3) := by decide +kernel
theorem dX2_bestIn_9 : decode cX2_bestIn 9 = .ok (.new 53, 3) := by decide +kernel
theorem dX2_bestIn_12 : decode cX2_bestIn 12 = .ok (.dup, 1) := by decide +kernel
theorem dX2_bestIn_13 : decode cX2_bestIn 13 = .ok (.ldc 233, 2) := by decide +kernel
theorem dX2_bestIn_15 : decode cX2_bestIn 15 = .ok (.invokespecial 57, 3) := by decide +kernel
theorem dX2_bestIn_18 : decode cX2_bestIn 18 = .ok (.athrow, 1) := by decide +kernel
theorem dX2_bestIn_19 : decode cX2_bestIn 19 = .ok (.aload_n 0, 1) := by decide +kernel
theorem dX2_bestIn_20 : decode cX2_bestIn 20 = .ok (.invokevirtual 224, 3) := by decide +kernel
theorem dX2_bestIn_23 : decode cX2_bestIn 23 = .ok (.ifCond .ne 5, 3) := by decide +kernel
theorem dX2_bestIn_26 : decode cX2_bestIn 26 = .ok (.iconst (-1), 1) := by decide +kernel
theorem dX2_bestIn_27 : decode cX2_bestIn 27 = .ok (.ireturn, 1) := by decide +kernel
theorem dX2_bestIn_28 : decode cX2_bestIn 28 = .ok (.aload_n 0, 1) := by decide +kernel
theorem dX2_bestIn_29 : decode cX2_bestIn 29 = .ok (.getfield 16, 3) := by decide +kernel
theorem dX2_bestIn_32 : decode cX2_bestIn 32 = .ok (.aload_n 0, 1) := by decide +kernel
theorem dX2_bestIn_33 : decode cX2_bestIn 33 = .ok (.getfield 12, 3) := by decide +kernel
theorem dX2_bestIn_36 : decode cX2_bestIn 36 = .ok (.invokevirtual 215, 3) := by decide +kernel
theorem dX2_bestIn_39 : decode cX2_bestIn 39 = .ok (.aload_n 0, 1) := by decide +kernel
theorem dX2_bestIn_40 : decode cX2_bestIn 40 = .ok (.getfield 16, 3) := by decide +kernel
theorem dX2_bestIn_43 : decode cX2_bestIn 43 = .ok (.iload_n 1, 1) := by decide +kernel
theorem dX2_bestIn_44 : decode cX2_bestIn 44 = .ok (.putfield 219, 3) := by decide +kernel
theorem dX2_bestIn_47 : decode cX2_bestIn 47 = .ok (.aload_n 0, 1) := by decide +kernel
theorem dX2_bestIn_48 : decode cX2_bestIn 48 = .ok (.getfield 16, 3) := by decide +kernel
theorem dX2_bestIn_51 : decode cX2_bestIn 51 = .ok (.invokestatic 235, 3) := by decide +kernel
theorem dX2_bestIn_54 : decode cX2_bestIn 54 = .ok (.ireturn, 1) := by decide +kernel
theorem dX2_digest_0 : decode cX2_digest 0 = .ok (.ldc2_w 246, 3) := by decide +kernel
theorem dX2_digest_3 : decode cX2_digest 3 = .ok (.lstore_n 1, 1) := by decide +kernel
theorem dX2_digest_4 : decode cX2_digest 4 = .ok (.iconst 0, 1) := by decide +kernel
theorem dX2_digest_5 : decode cX2_digest 5 = .ok (.istore_n 3, 1) := by decide +kernel
theorem dX2_digest_6 : decode cX2_digest 6 = .ok (.iload_n 3, 1) := by decide +kernel
theorem dX2_digest_7 : decode cX2_digest 7 = .ok (.bipush 7, 2) := by decide +kernel
theorem dX2_digest_9 : decode cX2_digest 9 = .ok (.if_icmp .gt 19, 3) := by decide +kernel
theorem dX2_digest_12 : decode cX2_digest 12 = .ok (.lload_n 1, 1) := by decide +kernel
theorem dX2_digest_13 : decode cX2_digest 13 = .ok (.aload_n 0, 1) := by decide +kernel
theorem dX2_digest_14 : decode cX2_digest 14 = .ok (.iload_n 3, 1) := by decide +kernel
theorem dX2_digest_15 : decode cX2_digest 15 = .ok (.invokevirtual 248, 3) := by decide +kernel
theorem dX2_digest_18 : decode cX2_digest 18 = .ok (.invokestatic 251, 3) := by decide +kernel
theorem dX2_digest_21 : decode cX2_digest 21 = .ok (.lstore_n 1, 1) := by decide +kernel
theorem dX2_digest_22 : decode cX2_digest 22 = .ok (.iinc 3 1, 3) := by decide +kernel
theorem dX2_digest_25 : decode cX2_digest 25 = .ok (.goto (-19), 3) := by decide +kernel
theorem dX2_digest_28 : decode cX2_digest 28 = .ok (.iconst 0, 1) := by decide +kernel
theorem dX2_digest_29 : decode cX2_digest 29 = .ok (.istore_n 3, 1) := by decide +kernel
theorem dX2_digest_30 : decode cX2_digest 30 = .ok (.iload_n 3, 1) := by decide +kernel
theorem dX2_digest_31 : decode cX2_digest 31 = .ok (.iconst 3, 1) := by decide +kernel
theorem dX2_digest_32 : decode cX2_digest 32 = .ok (.if_icmp .gt 19, 3) := by decide +kernel
theorem dX2_digest_35 : decode cX2_digest 35 = .ok (.lload_n 1, 1) := by decide +kernel
theorem dX2_digest_36 : decode cX2_digest 36 = .ok (.aload_n 0, 1) := by decide +kernel
theorem dX2_digest_37 : decode cX2_digest 37 = .ok (.iload_n 3, 1) := by decide +kernel
theorem dX2_digest_38 : decode cX2_digest 38 = .ok (.invokevirtual 255, 3) := by decide +kernel
theorem dX2_digest_41 : decode cX2_digest 41 = .ok (.invokestatic 251, 3) := by decide +kernel
theorem dX2_digest_44 : decode cX2_digest 44 = .ok (.lstore_n 1, 1) := by decide +kernel
theorem dX2_digest_45 : decode cX2_digest 45 = .ok (.iinc 3 1, 3) := by decide +kernel
theorem dX2_digest_48 : decode cX2_digest 48 = .ok (.goto (-18), 3) := by decide +kernel
theorem dX2_digest_51 : decode cX2_digest 51 = .ok (.iconst 0, 1) := by decide +kernel
theorem dX2_digest_52 : decode cX2_digest 52 = .ok (.istore_n 3, 1) := by decide +kernel
theorem dX2_digest_53 : decode cX2_digest 53 = .ok (.iload_n 3, 1) := by decide +kernel
theorem dX2_digest_54 : decode cX2_digest 54 = .ok (.aload_n 0, 1) := by decide +kernel
theorem dX2_digest_55 : decode cX2_digest 55 = .ok (.getfield 22, 3) := by decide +kernel
theorem dX2_digest_58 : decode cX2_digest 58 = .ok (.getfield 148, 3) := by decide +kernel
theorem dX2_digest_61 : decode cX2_digest 61 = .ok (.if_icmp .ge 22, 3) := by decide +kernel
theorem dX2_digest_64 : decode cX2_digest 64 = .ok (.lload_n 1, 1) := by decide +kernel
theorem dX2_digest_65 : decode cX2_digest 65 = .ok (.aload_n 0, 1) := by decide +kernel
theorem dX2_digest_66 : decode cX2_digest 66 = .ok (.getfield 22, 3) := by decide +kernel
theorem dX2_digest_69 : decode cX2_digest 69 = .ok (.iload_n 3, 1) := by decide +kernel
theorem dX2_digest_70 : decode cX2_digest 70 = .ok (.invokevirtual 155, 3) := by decide +kernel
theorem dX2_digest_73 : decode cX2_digest 73 = .ok (.invokestatic 251, 3) := by decide +kernel
theorem dX2_digest_76 : decode cX2_digest 76 = .ok (.lstore_n 1, 1) := by decide +kernel
theorem dX2_digest_77 : decode cX2_digest 77 = .ok (.iinc 3 1, 3) := by decide +kernel
theorem dX2_digest_80 : decode cX2_digest 80 = .ok (.goto (-27), 3) := by decide +kernel
theorem dX2_digest_83 : decode cX2_digest 83 = .ok (.aload_n 0, 1) := by decide +kernel
theorem dX2_digest_84 : decode cX2_digest 84 = .ok (.lload_n 1, 1) := by decide +kernel
theorem dX2_digest_85 : decode cX2_digest 85 = .ok (.invokevirtual 258, 3) := by decide +kernel
theorem dX2_digest_88 : decode cX2_digest 88 = .ok (.lstore_n 1, 1) := by decide +kernel
theorem dX2_digest_89 : decode cX2_digest 89 = .ok (.aload_n 0, 1) := by decide +kernel
theorem dX2_digest_90 : decode cX2_digest 90 = .ok (.lload_n 1, 1) := by decide +kernel
theorem dX2_digest_91 : decode cX2_digest 91 = .ok (.invokevirtual 262, 3) := by decide +kernel
theorem dX2_digest_94 : decode cX2_digest 94 = .ok (.lstore_n 1, 1) := by decide +kernel
theorem dX2_digest_95 : decode cX2_digest 95 = .ok (.aload_n 0, 1) := by decide +kernel
theorem dX2_digest_96 : decode cX2_digest 96 = .ok (.lload_n 1, 1) := by decide +kernel
theorem dX2_digest_97 : decode cX2_digest 97 = .ok (.invokevirtual 265, 3) := by decide +kernel
theorem dX2_digest_100 : decode cX2_digest 100 = .ok (.lstore_n 1, 1) := by decide +kernel
theorem dX2_digest_101 : decode cX2_digest 101 = .ok (.lload_n 1, 1) := by decide +kernel
theorem dX2_digest_102 : decode cX2_digest 102 = .ok (.aload_n 0, 1) := by decide +kernel
theorem dX2_digest_103 : decode cX2_digest 103 = .ok (.invokevirtual 268, 3) := by decide +kernel
theorem dX2_digest_106 : decode cX2_digest 106 = .ok (.invokestatic 251, 3) := by decide +kernel
theorem dX2_digest_109 : decode cX2_digest 109 = .ok (.lstore_n 1, 1) := by decide +kernel
theorem dX2_digest_110 : decode cX2_digest 110 = .ok (.lload_n 1, 1) := by decide +kernel
theorem dX2_digest_111 : decode cX2_digest 111 = .ok (.aload_n 0, 1) := by decide +kernel
theorem dX2_digest_112 : decode cX2_digest 112 = .ok (.invokevirtual 271, 3) := by decide +kernel
theorem dX2_digest_115 : decode cX2_digest 115 = .ok (.invokestatic 251, 3) := by decide +kernel
theorem dX2_digest_118 : decode cX2_digest 118 = .ok (.lstore_n 1, 1) := by decide +kernel
theorem dX2_digest_119 : decode cX2_digest 119 = .ok (.iconst 0, 1) := by decide +kernel
theorem dX2_digest_120 : decode cX2_digest 120 = .ok (.istore_n 3, 1) := by decide +kernel
theorem dX2_digest_121 : decode cX2_digest 121 = .ok (.iload_n 3, 1) := by decide +kernel
theorem dX2_digest_122 : decode cX2_digest 122 = .ok (.iconst 5, 1) := by decide +kernel
theorem dX2_digest_123 : decode cX2_digest 123 = .ok (.if_icmp .ge 19, 3) := by decide +kernel
theorem dX2_digest_126 : decode cX2_digest 126 = .ok (.lload_n 1, 1) := by decide +kernel
theorem dX2_digest_127 : decode cX2_digest 127 = .ok (.aload_n 0, 1) := by decide +kernel
theorem dX2_digest_128 : decode cX2_digest 128 = .ok (.iload_n 3, 1) := by decide +kernel
theorem dX2_digest_129 : decode cX2_digest 129 = .ok (.invokevirtual 221, 3) := by decide +kernel
theorem dX2_digest_132 : decode cX2_digest 132 = .ok (.invokestatic 251, 3) := by decide +kernel
theorem dX2_digest_135 : decode cX2_digest 135 = .ok (.lstore_n 1, 1) := by decide +kernel
theorem dX2_digest_136 : decode cX2_digest 136 = .ok (.iinc 3 1, 3) := by decide +kernel
theorem dX2_digest_139 : decode cX2_digest 139 = .ok (.goto (-18), 3) := by decide +kernel
theorem dX2_digest_142 : decode cX2_digest 142 = .ok (.lload_n 1, 1) := by decide +kernel
theorem dX2_digest_143 : decode cX2_digest 143 = .ok (.lreturn, 1) := by decide +kernel
theorem dX2_mix_0 : decode cX2_mix 0 = .ok (.lload_n 0, 1) := by decide +kernel
theorem dX2_mix_1 : decode cX2_mix 1 = .ok (.ldc2_w 274, 3) := by decide +kernel
theorem dX2_mix_4 : decode cX2_mix 4 = .ok (.lmul, 1) := by decide +kernel
theorem dX2_mix_5 : decode cX2_mix 5 = .ok (.iload_n 2, 1) := by decide +kernel
theorem dX2_mix_6 : decode cX2_mix 6 = .ok (.i2l, 1) := by decide +kernel
theorem dX2_mix_7 : decode cX2_mix 7 = .ok (.ladd, 1) := by decide +kernel
theorem dX2_mix_8 : decode cX2_mix 8 = .ok (.lreturn, 1) := by decide +kernel
theorem dX2_mixTricks_0 : decode cX2_mixTricks 0 = .ok (.lload_n 1, 1) := by decide +kernel
theorem dX2_mixTricks_1 : decode cX2_mixTricks 1 = .ok (.lstore_n 3, 1) := by decide +kernel
theorem dX2_mixTricks_2 : decode cX2_mixTricks 2 = .ok (.iconst 0, 1) := by decide +kernel
theorem dX2_mixTricks_3 : decode cX2_mixTricks 3 = .ok (.istore 5, 2) := by decide +kernel
theorem dX2_mixTricks_5 : decode cX2_mixTricks 5 = .ok (.iload 5, 2) := by decide +kernel
theorem dX2_mixTricks_7 : decode cX2_mixTricks 7 = .ok (.aload_n 0, 1) := by decide +kernel
theorem dX2_mixTricks_8 : decode cX2_mixTricks 8 = .ok (.getfield 12, 3) := by decide +kernel
theorem dX2_mixTricks_11 : decode cX2_mixTricks 11 = .ok (.invokevirtual 192, 3) := by decide +kernel
theorem dX2_mixTricks_14 : decode cX2_mixTricks 14 = .ok (.if_icmp .ge 37, 3) := by decide +kernel
theorem dX2_mixTricks_17 : decode cX2_mixTricks 17 = .ok (.iconst 0, 1) := by decide +kernel
theorem dX2_mixTricks_18 : decode cX2_mixTricks 18 = .ok (.istore 6, 2) := by decide +kernel
theorem dX2_mixTricks_20 : decode cX2_mixTricks 20 = .ok (.iload 6, 2) := by decide +kernel
theorem dX2_mixTricks_22 : decode cX2_mixTricks 22 = .ok (.iconst 5, 1) := by decide +kernel
theorem dX2_mixTricks_23 : decode cX2_mixTricks 23 = .ok (.if_icmp .gt 22, 3) := by decide +kernel
theorem dX2_mixTricks_26 : decode cX2_mixTricks 26 = .ok (.lload_n 3, 1) := by decide +kernel
theorem dX2_mixTricks_27 : decode cX2_mixTricks 27 = .ok (.aload_n 0, 1) := by decide +kernel
theorem dX2_mixTricks_28 : decode cX2_mixTricks 28 = .ok (.iload 5, 2) := by decide +kernel
theorem dX2_mixTricks_30 : decode cX2_mixTricks 30 = .ok (.iload 6, 2) := by decide +kernel
theorem dX2_mixTricks_32 : decode cX2_mixTricks 32 = .ok (.invokevirtual 276, 3) := by decide +kernel
theorem dX2_mixTricks_35 : decode cX2_mixTricks 35 = .ok (.invokestatic 251, 3) := by decide +kernel
theorem dX2_mixTricks_38 : decode cX2_mixTricks 38 = .ok (.lstore_n 3, 1) := by decide +kernel
theorem dX2_mixTricks_39 : decode cX2_mixTricks 39 = .ok (.iinc 6 1, 3) := by decide +kernel
theorem dX2_mixTricks_42 : decode cX2_mixTricks 42 = .ok (.goto (-22), 3) := by decide +kernel
theorem dX2_mixTricks_45 : decode cX2_mixTricks 45 = .ok (.iinc 5 1, 3) := by decide +kernel
theorem dX2_mixTricks_48 : decode cX2_mixTricks 48 = .ok (.goto (-43), 3) := by decide +kernel
theorem dX2_mixTricks_51 : decode cX2_mixTricks 51 = .ok (.lload_n 3, 1) := by decide +kernel
theorem dX2_mixTricks_52 : decode cX2_mixTricks 52 = .ok (.lreturn, 1) := by decide +kernel
theorem dX2_mixSides_0 : decode cX2_mixSides 0 = .ok (.lload_n 1, 1) := by decide +kernel
theorem dX2_mixSides_1 : decode cX2_mixSides 1 = .ok (.lstore_n 3, 1) := by decide +kernel
theorem dX2_mixSides_2 : decode cX2_mixSides 2 = .ok (.iconst 0, 1) := by decide +kernel
theorem dX2_mixSides_3 : decode cX2_mixSides 3 = .ok (.istore 5, 2) := by decide +kernel
theorem dX2_mixSides_5 : decode cX2_mixSides 5 = .ok (.iload 5, 2) := by decide +kernel
theorem dX2_mixSides_7 : decode cX2_mixSides 7 = .ok (.iconst 1, 1) := by decide +kernel
theorem dX2_mixSides_8 : decode cX2_mixSides 8 = .ok (.if_icmp .gt 37, 3) := by decide +kernel
theorem dX2_mixSides_11 : decode cX2_mixSides 11 = .ok (.iconst 0, 1) := by decide +kernel
theorem dX2_mixSides_12 : decode cX2_mixSides 12 = .ok (.istore 6, 2) := by decide +kernel
theorem dX2_mixSides_14 : decode cX2_mixSides 14 = .ok (.iload 6, 2) := by decide +kernel
theorem dX2_mixSides_16 : decode cX2_mixSides 16 = .ok (.iconst 2, 1) := by decide +kernel
theorem dX2_mixSides_17 : decode cX2_mixSides 17 = .ok (.if_icmp .gt 22, 3) := by decide +kernel
theorem dX2_mixSides_20 : decode cX2_mixSides 20 = .ok (.lload_n 3, 1) := by decide +kernel
theorem dX2_mixSides_21 : decode cX2_mixSides 21 = .ok (.aload_n 0, 1) := by decide +kernel
theorem dX2_mixSides_22 : decode cX2_mixSides 22 = .ok (.iload 5, 2) := by decide +kernel
theorem dX2_mixSides_24 : decode cX2_mixSides 24 = .ok (.iload 6, 2) := by decide +kernel
theorem dX2_mixSides_26 : decode cX2_mixSides 26 = .ok (.invokevirtual 279, 3) := by decide +kernel
theorem dX2_mixSides_29 : decode cX2_mixSides 29 = .ok (.invokestatic 251, 3) := by decide +kernel
theorem dX2_mixSides_32 : decode cX2_mixSides 32 = .ok (.lstore_n 3, 1) := by decide +kernel
theorem dX2_mixSides_33 : decode cX2_mixSides 33 = .ok (.iinc 6 1, 3) := by decide +kernel
theorem dX2_mixSides_36 : decode cX2_mixSides 36 = .ok (.goto (-22), 3) := by decide +kernel
theorem dX2_mixSides_39 : decode cX2_mixSides 39 = .ok (.iinc 5 1, 3) := by decide +kernel
theorem dX2_mixSides_42 : decode cX2_mixSides 42 = .ok (.goto (-37), 3) := by decide +kernel
theorem dX2_mixSides_45 : decode cX2_mixSides 45 = .ok (.lload_n 3, 1) := by decide +kernel
theorem dX2_mixSides_46 : decode cX2_mixSides 46 = .ok (.lreturn, 1) := by decide +kernel
theorem dX2_mixHands_0 : decode cX2_mixHands 0 = .ok (.lload_n 1, 1) := by decide +kernel
theorem dX2_mixHands_1 : decode cX2_mixHands 1 = .ok (.lstore_n 3, 1) := by decide +kernel
theorem dX2_mixHands_2 : decode cX2_mixHands 2 = .ok (.iconst 0, 1) := by decide +kernel
theorem dX2_mixHands_3 : decode cX2_mixHands 3 = .ok (.istore 5, 2) := by decide +kernel
theorem dX2_mixHands_5 : decode cX2_mixHands 5 = .ok (.iload 5, 2) := by decide +kernel
theorem dX2_mixHands_7 : decode cX2_mixHands 7 = .ok (.iconst 4, 1) := by decide +kernel
theorem dX2_mixHands_8 : decode cX2_mixHands 8 = .ok (.if_icmp .ge 54, 3) := by decide +kernel
theorem dX2_mixHands_11 : decode cX2_mixHands 11 = .ok (.iconst 0, 1) := by decide +kernel
theorem dX2_mixHands_12 : decode cX2_mixHands 12 = .ok (.istore 6, 2) := by decide +kernel
theorem dX2_mixHands_14 : decode cX2_mixHands 14 = .ok (.iload 6, 2) := by decide +kernel
theorem dX2_mixHands_16 : decode cX2_mixHands 16 = .ok (.iconst 4, 1) := by decide +kernel
theorem dX2_mixHands_17 : decode cX2_mixHands 17 = .ok (.if_icmp .gt 39, 3) := by decide +kernel
theorem dX2_mixHands_20 : decode cX2_mixHands 20 = .ok (.iconst 0, 1) := by decide +kernel
theorem dX2_mixHands_21 : decode cX2_mixHands 21 = .ok (.istore 7, 2) := by decide +kernel
theorem dX2_mixHands_23 : decode cX2_mixHands 23 = .ok (.iload 7, 2) := by decide +kernel
theorem dX2_mixHands_25 : decode cX2_mixHands 25 = .ok (.iconst 2, 1) := by decide +kernel
theorem dX2_mixHands_26 : decode cX2_mixHands 26 = .ok (.if_icmp .gt 24, 3) := by decide +kernel
theorem dX2_mixHands_29 : decode cX2_mixHands 29 = .ok (.lload_n 3, 1) := by decide +kernel
theorem dX2_mixHands_30 : decode cX2_mixHands 30 = .ok (.aload_n 0, 1) := by decide +kernel
theorem dX2_mixHands_31 : decode cX2_mixHands 31 = .ok (.iload 5, 2) := by decide +kernel
theorem dX2_mixHands_33 : decode cX2_mixHands 33 = .ok (.iload 6, 2) := by decide +kernel
theorem dX2_mixHands_35 : decode cX2_mixHands 35 = .ok (.iload 7, 2) := by decide +kernel
theorem dX2_mixHands_37 : decode cX2_mixHands 37 = .ok (.invokevirtual 282, 3) := by decide +kernel
theorem dX2_mixHands_40 : decode cX2_mixHands 40 = .ok (.invokestatic 251, 3) := by decide +kernel
theorem dX2_mixHands_43 : decode cX2_mixHands 43 = .ok (.lstore_n 3, 1) := by decide +kernel
theorem dX2_mixHands_44 : decode cX2_mixHands 44 = .ok (.iinc 7 1, 3) := by decide +kernel
theorem dX2_mixHands_47 : decode cX2_mixHands 47 = .ok (.goto (-24), 3) := by decide +kernel
theorem dX2_mixHands_50 : decode cX2_mixHands 50 = .ok (.iinc 6 1, 3) := by decide +kernel
theorem dX2_mixHands_53 : decode cX2_mixHands 53 = .ok (.goto (-39), 3) := by decide +kernel
theorem dX2_mixHands_56 : decode cX2_mixHands 56 = .ok (.iinc 5 1, 3) := by decide +kernel
theorem dX2_mixHands_59 : decode cX2_mixHands 59 = .ok (.goto (-54), 3) := by decide +kernel
theorem dX2_mixHands_62 : decode cX2_mixHands 62 = .ok (.lload_n 3, 1) := by decide +kernel
theorem dX2_mixHands_63 : decode cX2_mixHands 63 = .ok (.lreturn, 1) := by decide +kernel
theorem dX2_isCard_0 : decode cX2_isCard 0 = .ok (.iload_n 0, 1) := by decide +kernel
theorem dX2_isCard_1 : decode cX2_isCard 1 = .ok (.ifCond .lt 13, 3) := by decide +kernel
theorem dX2_isCard_4 : decode cX2_isCard 4 = .ok (.iload_n 0, 1) := by decide +kernel
theorem dX2_isCard_5 : decode cX2_isCard 5 = .ok (.bipush 32, 2) := by decide +kernel
theorem dX2_isCard_7 : decode cX2_isCard 7 = .ok (.if_icmp .ge 7, 3) := by decide +kernel
theorem dX2_isCard_10 : decode cX2_isCard 10 = .ok (.iconst 1, 1) := by decide +kernel
theorem dX2_isCard_11 : decode cX2_isCard 11 = .ok (.goto 4, 3) := by decide +kernel
theorem dX2_isCard_14 : decode cX2_isCard 14 = .ok (.iconst 0, 1) := by decide +kernel
theorem dX2_isCard_15 : decode cX2_isCard 15 = .ok (.ireturn, 1) := by decide +kernel
theorem dX2_checkPlayer_0 : decode cX2_checkPlayer 0 = .ok (.iload_n 0, 1) := by decide +kernel
theorem dX2_checkPlayer_1 : decode cX2_checkPlayer 1 = .ok (.ifCond .lt 8, 3) := by decide +kernel
theorem dX2_checkPlayer_4 : decode cX2_checkPlayer 4 = .ok (.iload_n 0, 1) := by decide +kernel
theorem dX2_checkPlayer_5 : decode cX2_checkPlayer 5 = .ok (.iconst 4, 1) := by decide +kernel
theorem dX2_checkPlayer_6 : decode cX2_checkPlayer 6 = .ok (.if_icmp .lt 14, 3) := by decide +kernel
theorem dX2_checkPlayer_9 : decode cX2_checkPlayer 9 = .ok (.new 150, 3) := by decide +kernel
theorem dX2_checkPlayer_12 : decode cX2_checkPlayer 12 = .ok (.dup, 1) := by decide +kernel
theorem dX2_checkPlayer_13 : decode cX2_checkPlayer 13 = .ok (.ldc_w 286, 3) := by decide +kernel
theorem dX2_checkPlayer_16 : decode cX2_checkPlayer 16 = .ok (.invokespecial 154, 3) := by decide +kernel
theorem dX2_checkPlayer_19 : decode cX2_checkPlayer 19 = .ok (.athrow, 1) := by decide +kernel
theorem dX2_checkPlayer_20 : decode cX2_checkPlayer 20 = .ok (.return_, 1) := by decide +kernel
theorem dX2_checkCard_0 : decode cX2_checkCard 0 = .ok (.iload_n 0, 1) := by decide +kernel
theorem dX2_checkCard_1 : decode cX2_checkCard 1 = .ok (.invokestatic 49, 3) := by decide +kernel
theorem dX2_checkCard_4 : decode cX2_checkCard 4 = .ok (.ifCond .ne 14, 3) := by decide +kernel
theorem dX2_checkCard_7 : decode cX2_checkCard 7 = .ok (.new 150, 3) := by decide +kernel
theorem dX2_checkCard_10 : decode cX2_checkCard 10 = .ok (.dup, 1) := by decide +kernel
theorem dX2_checkCard_11 : decode cX2_checkCard 11 = .ok (.ldc_w 288, 3) := by decide +kernel
theorem dX2_checkCard_14 : decode cX2_checkCard 14 = .ok (.invokespecial 154, 3) := by decide +kernel
theorem dX2_checkCard_17 : decode cX2_checkCard 17 = .ok (.athrow, 1) := by decide +kernel
theorem dX2_checkCard_18 : decode cX2_checkCard 18 = .ok (.return_, 1) := by decide +kernel
theorem dX2_checkBid_0 : decode cX2_checkBid 0 = .ok (.iload_n 0, 1) := by decide +kernel
theorem dX2_checkBid_1 : decode cX2_checkBid 1 = .ok (.ifCond .lt 9, 3) := by decide +kernel
theorem dX2_checkBid_4 : decode cX2_checkBid 4 = .ok (.iload_n 0, 1) := by decide +kernel
theorem dX2_checkBid_5 : decode cX2_checkBid 5 = .ok (.bipush 42, 2) := by decide +kernel
theorem dX2_checkBid_7 : decode cX2_checkBid 7 = .ok (.if_icmp .le 14, 3) := by decide +kernel
theorem dX2_checkBid_10 : decode cX2_checkBid 10 = .ok (.new 53, 3) := by decide +kernel
theorem dX2_checkBid_13 : decode cX2_checkBid 13 = .ok (.dup, 1) := by decide +kernel
theorem dX2_checkBid_14 : decode cX2_checkBid 14 = .ok (.ldc_w 290, 3) := by decide +kernel
theorem dX2_checkBid_17 : decode cX2_checkBid 17 = .ok (.invokespecial 57, 3) := by decide +kernel
theorem dX2_checkBid_20 : decode cX2_checkBid 20 = .ok (.athrow, 1) := by decide +kernel
theorem dX2_checkBid_21 : decode cX2_checkBid 21 = .ok (.return_, 1) := by decide +kernel
theorem dX2_checkPlayable_0 : decode cX2_checkPlayable 0 = .ok (.aload_n 0, 1) := by decide +kernel
theorem dX2_checkPlayable_1 : decode cX2_checkPlayable 1 = .ok (.getfield 33, 3) := by decide +kernel
theorem dX2_checkPlayable_4 : decode cX2_checkPlayable 4 = .ok (.iconst 2, 1) := by decide +kernel
theorem dX2_checkPlayable_5 : decode cX2_checkPlayable 5 = .ok (.if_icmp .ne 24, 3) := by decide +kernel
theorem dX2_checkPlayable_8 : decode cX2_checkPlayable 8 = .ok (.aload_n 0, 1) := by decide +kernel
theorem dX2_checkPlayable_9 : decode cX2_checkPlayable 9 = .ok (.getfield 12, 3) := by decide +kernel
theorem dX2_checkPlayable_12 : decode cX2_checkPlayable 12 = .ok (.aload_n 0, 1) := by decide +kernel
theorem dX2_checkPlayable_13 : decode cX2_checkPlayable 13 = .ok (.getfield 12, 3) := by decide +kernel
theorem dX2_checkPlayable_16 : decode cX2_checkPlayable 16 = .ok (.getfield 292, 3) := by decide +kernel
theorem dX2_checkPlayable_19 : decode cX2_checkPlayable 19 = .ok (.invokevirtual 73, 3) := by decide +kernel
theorem dX2_checkPlayable_22 : decode cX2_checkPlayable 22 = .ok (.iload_n 1, 1) := by decide +kernel
theorem dX2_checkPlayable_23 : decode cX2_checkPlayable 23 = .ok (.invokestatic 99, 3) := by decide +kernel
theorem dX2_checkPlayable_26 : decode cX2_checkPlayable 26 = .ok (.ifCond .ne 14, 3) := by decide +kernel
theorem dX2_checkPlayable_29 : decode cX2_checkPlayable 29 = .ok (.new 64, 3) := by decide +kernel
theorem dX2_checkPlayable_32 : decode cX2_checkPlayable 32 = .ok (.dup, 1) := by decide +kernel
theorem dX2_checkPlayable_33 : decode cX2_checkPlayable 33 = .ok (.ldc_w 295, 3) := by decide +kernel
theorem dX2_checkPlayable_36 : decode cX2_checkPlayable 36 = .ok (.invokespecial 68, 3) := by decide +kernel
theorem dX2_checkPlayable_39 : decode cX2_checkPlayable 39 = .ok (.athrow, 1) := by decide +kernel
theorem dX2_checkPlayable_40 : decode cX2_checkPlayable 40 = .ok (.return_, 1) := by decide +kernel
theorem dX2_isBidAllowed_0 : decode cX2_isBidAllowed 0 = .ok (.aload_n 0, 1) := by decide +kernel
theorem dX2_isBidAllowed_1 : decode cX2_isBidAllowed 1 = .ok (.getfield 33, 3) := by decide +kernel
theorem dX2_isBidAllowed_4 : decode cX2_isBidAllowed 4 = .ok (.iconst 1, 1) := by decide +kernel
theorem dX2_isBidAllowed_5 : decode cX2_isBidAllowed 5 = .ok (.if_icmp .ne 18, 3) := by decide +kernel
theorem dX2_isBidAllowed_8 : decode cX2_isBidAllowed 8 = .ok (.aload_n 0, 1) := by decide +kernel
theorem dX2_isBidAllowed_9 : decode cX2_isBidAllowed 9 = .ok (.getfield 22, 3) := by decide +kernel
theorem dX2_isBidAllowed_12 : decode cX2_isBidAllowed 12 = .ok (.iload_n 1, 1) := by decide +kernel
theorem dX2_isBidAllowed_13 : decode cX2_isBidAllowed 13 = .ok (.invokevirtual 297, 3) := by decide +kernel
theorem dX2_isBidAllowed_16 : decode cX2_isBidAllowed 16 = .ok (.ifCond .eq 7, 3) := by decide +kernel
theorem dX2_isBidAllowed_19 : decode cX2_isBidAllowed 19 = .ok (.iconst 1, 1) := by decide +kernel
theorem dX2_isBidAllowed_20 : decode cX2_isBidAllowed 20 = .ok (.goto 4, 3) := by decide +kernel
theorem dX2_isBidAllowed_23 : decode cX2_isBidAllowed 23 = .ok (.iconst 0, 1) := by decide +kernel
theorem dX2_isBidAllowed_24 : decode cX2_isBidAllowed 24 = .ok (.ireturn, 1) := by decide +kernel
theorem dX2_turnNow_0 : decode cX2_turnNow 0 = .ok (.aload_n 0, 1) := by decide +kernel
theorem dX2_turnNow_1 : decode cX2_turnNow 1 = .ok (.getfield 33, 3) := by decide +kernel
theorem dX2_turnNow_4 : decode cX2_turnNow 4 = .ok (.iconst 1, 1) := by decide +kernel
theorem dX2_turnNow_5 : decode cX2_turnNow 5 = .ok (.if_icmp .ne 11, 3) := by decide +kernel
theorem dX2_turnNow_8 : decode cX2_turnNow 8 = .ok (.aload_n 0, 1) := by decide +kernel
theorem dX2_turnNow_9 : decode cX2_turnNow 9 = .ok (.getfield 22, 3) := by decide +kernel
theorem dX2_turnNow_12 : decode cX2_turnNow 12 = .ok (.invokevirtual 300, 3) := by decide +kernel
theorem dX2_turnNow_15 : decode cX2_turnNow 15 = .ok (.ireturn, 1) := by decide +kernel
theorem dX2_turnNow_16 : decode cX2_turnNow 16 = .ok (.aload_n 0, 1) := by decide +kernel
theorem dX2_turnNow_17 : decode cX2_turnNow 17 = .ok (.getfield 33, 3) := by decide +kernel
theorem dX2_turnNow_20 : decode cX2_turnNow 20 = .ok (.iconst 2, 1) := by decide +kernel
theorem dX2_turnNow_21 : decode cX2_turnNow 21 = .ok (.if_icmp .ne 13, 3) := by decide +kernel
theorem dX2_turnNow_24 : decode cX2_turnNow 24 = .ok (.aload_n 0, 1) := by decide +kernel
theorem dX2_turnNow_25 : decode cX2_turnNow 25 = .ok (.getfield 12, 3) := by decide +kernel
theorem dX2_turnNow_28 : decode cX2_turnNow 28 = .ok (.getfield 292, 3) := by decide +kernel
theorem dX2_turnNow_31 : decode cX2_turnNow 31 = .ok (.goto 4, 3) := by decide +kernel
theorem dX2_turnNow_34 : decode cX2_turnNow 34 = .ok (.iconst (-1), 1) := by decide +kernel
theorem dX2_turnNow_35 : decode cX2_turnNow 35 = .ok (.ireturn, 1) := by decide +kernel
theorem dX2_revokersOf_0 : decode cX2_revokersOf 0 = .ok (.iconst 0, 1) := by decide +kernel
theorem dX2_revokersOf_1 : decode cX2_revokersOf 1 = .ok (.istore_n 2, 1) := by decide +kernel
theorem dX2_revokersOf_2 : decode cX2_revokersOf 2 = .ok (.iload_n 1, 1) := by decide +kernel
theorem dX2_revokersOf_3 : decode cX2_revokersOf 3 = .ok (.istore_n 3, 1) := by decide +kernel
theorem dX2_revokersOf_4 : decode cX2_revokersOf 4 = .ok (.iload_n 3, 1) := by decide +kernel
theorem dX2_revokersOf_5 : decode cX2_revokersOf 5 = .ok (.iconst 4, 1) := by decide +kernel
theorem dX2_revokersOf_6 : decode cX2_revokersOf 6 = .ok (.if_icmp .ge 23, 3) := by decide +kernel
theorem dX2_revokersOf_9 : decode cX2_revokersOf 9 = .ok (.aload_n 0, 1) := by decide +kernel
theorem dX2_revokersOf_10 : decode cX2_revokersOf 10 = .ok (.getfield 12, 3) := by decide +kernel
theorem dX2_revokersOf_13 : decode cX2_revokersOf 13 = .ok (.iload_n 3, 1) := by decide +kernel
theorem dX2_revokersOf_14 : decode cX2_revokersOf 14 = .ok (.invokevirtual 302, 3) := by decide +kernel
theorem dX2_revokersOf_17 : decode cX2_revokersOf 17 = .ok (.ifCond .eq 6, 3) := by decide +kernel
theorem dX2_revokersOf_20 : decode cX2_revokersOf 20 = .ok (.iinc 2 1, 3) := by decide +kernel
theorem dX2_revokersOf_23 : decode cX2_revokersOf 23 = .ok (.iinc 3 2, 3) := by decide +kernel
theorem dX2_revokersOf_26 : decode cX2_revokersOf 26 = .ok (.goto (-22), 3) := by decide +kernel
theorem dX2_revokersOf_29 : decode cX2_revokersOf 29 = .ok (.iload_n 2, 1) := by decide +kernel
theorem dX2_revokersOf_30 : decode cX2_revokersOf 30 = .ok (.ireturn, 1) := by decide +kernel
theorem dX2_finishDeal_0 : decode cX2_finishDeal 0 = .ok (.iconst 0, 1) := by decide +kernel
theorem dX2_finishDeal_1 : decode cX2_finishDeal 1 = .ok (.istore_n 1, 1) := by decide +kernel
theorem dX2_finishDeal_2 : decode cX2_finishDeal 2 = .ok (.iload_n 1, 1) := by decide +kernel
theorem dX2_finishDeal_3 : decode cX2_finishDeal 3 = .ok (.iconst 4, 1) := by decide +kernel
theorem dX2_finishDeal_4 : decode cX2_finishDeal 4 = .ok (.if_icmp .ge 25, 3) := by decide +kernel
theorem dX2_finishDeal_7 : decode cX2_finishDeal 7 = .ok (.aload_n 0, 1) := by decide +kernel
theorem dX2_finishDeal_8 : decode cX2_finishDeal 8 = .ok (.getfield 12, 3) := by decide +kernel
theorem dX2_finishDeal_11 : decode cX2_finishDeal 11 = .ok (.iload_n 1, 1) := by decide +kernel
theorem dX2_finishDeal_12 : decode cX2_finishDeal 12 = .ok (.invokevirtual 302, 3) := by decide +kernel
theorem dX2_finishDeal_15 : decode cX2_finishDeal 15 = .ok (.ifCond .eq 8, 3) := by decide +kernel
theorem dX2_finishDeal_18 : decode cX2_finishDeal 18 = .ok (.aload_n 0, 1) := by decide +kernel
theorem dX2_finishDeal_19 : decode cX2_finishDeal 19 = .ok (.iload_n 1, 1) := by decide +kernel
theorem dX2_finishDeal_20 : decode cX2_finishDeal 20 = .ok (.invokevirtual 305, 3) := by decide +kernel
theorem dX2_finishDeal_23 : decode cX2_finishDeal 23 = .ok (.iinc 1 1, 3) := by decide +kernel
theorem dX2_finishDeal_26 : decode cX2_finishDeal 26 = .ok (.goto (-24), 3) := by decide +kernel
theorem dX2_finishDeal_29 : decode cX2_finishDeal 29 = .ok (.aload_n 0, 1) := by decide +kernel
theorem dX2_finishDeal_30 : decode cX2_finishDeal 30 = .ok (.getfield 22, 3) := by decide +kernel
theorem dX2_finishDeal_33 : decode cX2_finishDeal 33 = .ok (.invokevirtual 132, 3) := by decide +kernel
theorem dX2_finishDeal_36 : decode cX2_finishDeal 36 = .ok (.invokestatic 172, 3) := by decide +kernel
theorem dX2_finishDeal_39 : decode cX2_finishDeal 39 = .ok (.istore_n 1, 1) := by decide +kernel
theorem dX2_finishDeal_40 : decode cX2_finishDeal 40 = .ok (.aload_n 0, 1) := by decide +kernel
theorem dX2_finishDeal_41 : decode cX2_finishDeal 41 = .ok (.getfield 22, 3) := by decide +kernel
theorem dX2_finishDeal_44 : decode cX2_finishDeal 44 = .ok (.aload_n 0, 1) := by decide +kernel
theorem dX2_finishDeal_45 : decode cX2_finishDeal 45 = .ok (.getfield 26, 3) := by decide +kernel
theorem dX2_finishDeal_48 : decode cX2_finishDeal 48 = .ok (.iload_n 1, 1) := by decide +kernel
theorem dX2_finishDeal_49 : decode cX2_finishDeal 49 = .ok (.iaload, 1) := by decide +kernel
theorem dX2_finishDeal_50 : decode cX2_finishDeal 50 = .ok (.invokevirtual 243, 3) := by decide +kernel
theorem dX2_finishDeal_53 : decode cX2_finishDeal 53 = .ok (.istore_n 2, 1) := by decide +kernel
theorem dX2_finishDeal_54 : decode cX2_finishDeal 54 = .ok (.iload_n 2, 1) := by decide +kernel
theorem dX2_finishDeal_55 : decode cX2_finishDeal 55 = .ok (.ifCond .lt 16, 3) := by decide +kernel
theorem dX2_finishDeal_58 : decode cX2_finishDeal 58 = .ok (.aload_n 0, 1) := by decide +kernel
theorem dX2_finishDeal_59 : decode cX2_finishDeal 59 = .ok (.getfield 30, 3) := by decide +kernel
theorem dX2_finishDeal_62 : decode cX2_finishDeal 62 = .ok (.iload_n 1, 1) := by decide +kernel
theorem dX2_finishDeal_63 : decode cX2_finishDeal 63 = .ok (.dup2, 1) := by decide +kernel
theorem dX2_finishDeal_64 : decode cX2_finishDeal 64 = .ok (.iaload, 1) := by decide +kernel
theorem dX2_finishDeal_65 : decode cX2_finishDeal 65 = .ok (.iload_n 2, 1) := by decide +kernel
theorem dX2_finishDeal_66 : decode cX2_finishDeal 66 = .ok (.iadd, 1) := by decide +kernel
theorem dX2_finishDeal_67 : decode cX2_finishDeal 67 = .ok (.iastore, 1) := by decide +kernel
theorem dX2_finishDeal_68 : decode cX2_finishDeal 68 = .ok (.goto 15, 3) := by decide +kernel
theorem dX2_finishDeal_71 : decode cX2_finishDeal 71 = .ok (.aload_n 0, 1) := by decide +kernel
theorem dX2_finishDeal_72 : decode cX2_finishDeal 72 = .ok (.getfield 30, 3) := by decide +kernel
theorem dX2_finishDeal_75 : decode cX2_finishDeal 75 = .ok (.iconst 1, 1) := by decide +kernel
theorem dX2_finishDeal_76 : decode cX2_finishDeal 76 = .ok (.iload_n 1, 1) := by decide +kernel
theorem dX2_finishDeal_77 : decode cX2_finishDeal 77 = .ok (.isub, 1) := by decide +kernel
theorem dX2_finishDeal_78 : decode cX2_finishDeal 78 = .ok (.dup2, 1) := by decide +kernel
theorem dX2_finishDeal_79 : decode cX2_finishDeal 79 = .ok (.iaload, 1) := by decide +kernel
theorem dX2_finishDeal_80 : decode cX2_finishDeal 80 = .ok (.iload_n 2, 1) := by decide +kernel
theorem dX2_finishDeal_81 : decode cX2_finishDeal 81 = .ok (.isub, 1) := by decide +kernel
theorem dX2_finishDeal_82 : decode cX2_finishDeal 82 = .ok (.iastore, 1) := by decide +kernel
theorem dX2_finishDeal_83 : decode cX2_finishDeal 83 = .ok (.aload_n 0, 1) := by decide +kernel
theorem dX2_finishDeal_84 : decode cX2_finishDeal 84 = .ok (.dup, 1) := by decide +kernel
theorem dX2_finishDeal_85 : decode cX2_finishDeal 85 = .ok (.getfield 37, 3) := by decide +kernel
theorem dX2_finishDeal_88 : decode cX2_finishDeal 88 = .ok (.iconst 1, 1) := by decide +kernel
theorem dX2_finishDeal_89 : decode cX2_finishDeal 89 = .ok (.iadd, 1) := by decide +kernel
theorem dX2_finishDeal_90 : decode cX2_finishDeal 90 = .ok (.putfield 37, 3) := by decide +kernel
theorem dX2_finishDeal_93 : decode cX2_finishDeal 93 = .ok (.aload_n 0, 1) := by decide +kernel
theorem dX2_finishDeal_94 : decode cX2_finishDeal 94 = .ok (.iconst 3, 1) := by decide +kernel
theorem dX2_finishDeal_95 : decode cX2_finishDeal 95 = .ok (.putfield 33, 3) := by decide +kernel
theorem dX2_finishDeal_98 : decode cX2_finishDeal 98 = .ok (.return_, 1) := by decide +kernel
theorem dX2_payForRevoke_0 : decode cX2_payForRevoke 0 = .ok (.iload_n 1, 1) := by decide +kernel
theorem dX2_payForRevoke_1 : decode cX2_payForRevoke 1 = .ok (.invokestatic 172, 3) := by decide +kernel
theorem dX2_payForRevoke_4 : decode cX2_payForRevoke 4 = .ok (.istore_n 2, 1) := by decide +kernel
theorem dX2_payForRevoke_5 : decode cX2_payForRevoke 5 = .ok (.aload_n 0, 1) := by decide +kernel
theorem dX2_payForRevoke_6 : decode cX2_payForRevoke 6 = .ok (.getfield 26, 3) := by decide +kernel
theorem dX2_payForRevoke_9 : decode cX2_payForRevoke 9 = .ok (.iload_n 2, 1) := by decide +kernel
theorem dX2_payForRevoke_10 : decode cX2_payForRevoke 10 = .ok (.iaload, 1) := by decide +kernel
theorem dX2_payForRevoke_11 : decode cX2_payForRevoke 11 = .ok (.ifCond .le 25, 3) := by decide +kernel
theorem dX2_payForRevoke_14 : decode cX2_payForRevoke 14 = .ok (.aload_n 0, 1) := by decide +kernel
theorem dX2_payForRevoke_15 : decode cX2_payForRevoke 15 = .ok (.getfield 26, 3) := by decide +kernel
theorem dX2_payForRevoke_18 : decode cX2_payForRevoke 18 = .ok (.iload_n 2, 1) := by decide +kernel
theorem dX2_payForRevoke_19 : decode cX2_payForRevoke 19 = .ok (.dup2, 1) := by decide +kernel
theorem dX2_payForRevoke_20 : decode cX2_payForRevoke 20 = .ok (.iaload, 1) := by decide +kernel
theorem dX2_payForRevoke_21 : decode cX2_payForRevoke 21 = .ok (.iconst 1, 1) := by decide +kernel
theorem dX2_payForRevoke_22 : decode cX2_payForRevoke 22 = .ok (.isub, 1) := by decide +kernel
theorem dX2_payForRevoke_23 : decode cX2_payForRevoke 23 = .ok (.iastore, 1) := by decide +kernel
theorem dX2_payForRevoke_24 : decode cX2_payForRevoke 24 = .ok (.aload_n 0, 1) := by decide +kernel
theorem dX2_payForRevoke_25 : decode cX2_payForRevoke 25 = .ok (.getfield 26, 3) := by decide +kernel
theorem dX2_payForRevoke_28 : decode cX2_payForRevoke 28 = .ok (.iconst 1, 1) := by decide +kernel
theorem dX2_payForRevoke_29 : decode cX2_payForRevoke 29 = .ok (.iload_n 2, 1) := by decide +kernel
theorem dX2_payForRevoke_30 : decode cX2_payForRevoke 30 = .ok (.isub, 1) := by decide +kernel
theorem dX2_payForRevoke_31 : decode cX2_payForRevoke 31 = .ok (.dup2, 1) := by decide +kernel
theorem dX2_payForRevoke_32 : decode cX2_payForRevoke 32 = .ok (.iaload, 1) := by decide +kernel
theorem dX2_payForRevoke_33 : decode cX2_payForRevoke 33 = .ok (.iconst 1, 1) := by decide +kernel
theorem dX2_payForRevoke_34 : decode cX2_payForRevoke 34 = .ok (.iadd, 1) := by decide +kernel
theorem dX2_payForRevoke_35 : decode cX2_payForRevoke 35 = .ok (.iastore, 1) := by decide +kernel
theorem dX2_payForRevoke_36 : decode cX2_payForRevoke 36 = .ok (.return_, 1) := by decide +kernel
theorem dX2_hasBestPlay_0 : decode cX2_hasBestPlay 0 = .ok (.aload_n 0, 1) := by decide +kernel
theorem dX2_hasBestPlay_1 : decode cX2_hasBestPlay 1 = .ok (.getfield 33, 3) := by decide +kernel
theorem dX2_hasBestPlay_4 : decode cX2_hasBestPlay 4 = .ok (.iconst 2, 1) := by decide +kernel
theorem dX2_hasBestPlay_5 : decode cX2_hasBestPlay 5 = .ok (.if_icmp .ne 18, 3) := by decide +kernel
theorem dX2_hasBestPlay_8 : decode cX2_hasBestPlay 8 = .ok (.aload_n 0, 1) := by decide +kernel
theorem dX2_hasBestPlay_9 : decode cX2_hasBestPlay 9 = .ok (.getfield 12, 3) := by decide +kernel
theorem dX2_hasBestPlay_12 : decode cX2_hasBestPlay 12 = .ok (.iconst 3, 1) := by decide +kernel
theorem dX2_hasBestPlay_13 : decode cX2_hasBestPlay 13 = .ok (.invokevirtual 308, 3) := by decide +kernel
theorem dX2_hasBestPlay_16 : decode cX2_hasBestPlay 16 = .ok (.ifCond .eq 7, 3) := by decide +kernel
theorem dX2_hasBestPlay_19 : decode cX2_hasBestPlay 19 = .ok (.iconst 1, 1) := by decide +kernel
theorem dX2_hasBestPlay_20 : decode cX2_hasBestPlay 20 = .ok (.goto 4, 3) := by decide +kernel
theorem dX2_hasBestPlay_23 : decode cX2_hasBestPlay 23 = .ok (.iconst 0, 1) := by decide +kernel
theorem dX2_hasBestPlay_24 : decode cX2_hasBestPlay 24 = .ok (.ireturn, 1) := by decide +kernel
theorem dX2_bestBehind_0 : decode cX2_bestBehind 0 = .ok (.aload_n 0, 1) := by decide +kernel
theorem dX2_bestBehind_1 : decode cX2_bestBehind 1 = .ok (.getfield 16, 3) := by decide +kernel
theorem dX2_bestBehind_4 : decode cX2_bestBehind 4 = .ok (.aload_n 0, 1) := by decide +kernel
theorem dX2_bestBehind_5 : decode cX2_bestBehind 5 = .ok (.getfield 12, 3) := by decide +kernel
theorem dX2_bestBehind_8 : decode cX2_bestBehind 8 = .ok (.invokevirtual 215, 3) := by decide +kernel
theorem dX2_bestBehind_11 : decode cX2_bestBehind 11 = .ok (.aload_n 0, 1) := by decide +kernel
theorem dX2_bestBehind_12 : decode cX2_bestBehind 12 = .ok (.getfield 16, 3) := by decide +kernel
theorem dX2_bestBehind_15 : decode cX2_bestBehind 15 = .ok (.iload_n 1, 1) := by decide +kernel
theorem dX2_bestBehind_16 : decode cX2_bestBehind 16 = .ok (.invokevirtual 169, 3) := by decide +kernel
theorem dX2_bestBehind_19 : decode cX2_bestBehind 19 = .ok (.invokestatic 311, 3) := by decide +kernel
theorem dX2_bestBehind_22 : decode cX2_bestBehind 22 = .ok (.istore_n 2, 1) := by decide +kernel
theorem dX2_bestBehind_23 : decode cX2_bestBehind 23 = .ok (.iload_n 2, 1) := by decide +kernel
theorem dX2_bestBehind_24 : decode cX2_bestBehind 24 = .ok (.aload_n 0, 1) := by decide +kernel
theorem dX2_bestBehind_25 : decode cX2_bestBehind 25 = .ok (.getfield 16, 3) := by decide +kernel
theorem dX2_bestBehind_28 : decode cX2_bestBehind 28 = .ok (.invokestatic 235, 3) := by decide +kernel
theorem dX2_bestBehind_31 : decode cX2_bestBehind 31 = .ok (.iadd, 1) := by decide +kernel
theorem dX2_bestBehind_32 : decode cX2_bestBehind 32 = .ok (.ireturn, 1) := by decide +kernel
theorem dX2_mostOfSide0_0 : decode cX2_mostOfSide0 0 = .ok (.iconst 0, 1) := by decide +kernel
theorem dX2_mostOfSide0_1 : decode cX2_mostOfSide0 1 = .ok (.istore_n 1, 1) := by decide +kernel
theorem dX2_mostOfSide0_2 : decode cX2_mostOfSide0 2 = .ok (.iconst 1, 1) := by decide +kernel
theorem dX2_mostOfSide0_3 : decode cX2_mostOfSide0 3 = .ok (.istore_n 2, 1) := by decide +kernel
theorem dX2_mostOfSide0_4 : decode cX2_mostOfSide0 4 = .ok (.iload_n 2, 1) := by decide +kernel
theorem dX2_mostOfSide0_5 : decode cX2_mostOfSide0 5 = .ok (.iconst 3, 1) := by decide +kernel
theorem dX2_mostOfSide0_6 : decode cX2_mostOfSide0 6 = .ok (.if_icmp .gt 23, 3) := by decide +kernel
theorem dX2_mostOfSide0_9 : decode cX2_mostOfSide0 9 = .ok (.aload_n 0, 1) := by decide +kernel
theorem dX2_mostOfSide0_10 : decode cX2_mostOfSide0 10 = .ok (.iload_n 2, 1) := by decide +kernel
theorem dX2_mostOfSide0_11 : decode cX2_mostOfSide0 11 = .ok (.bipush 12, 2) := by decide +kernel
theorem dX2_mostOfSide0_13 : decode cX2_mostOfSide0 13 = .ok (.invokestatic 314, 3) := by decide +kernel
theorem dX2_mostOfSide0_16 : decode cX2_mostOfSide0 16 = .ok (.ifCond .ne 5, 3) := by decide +kernel
theorem dX2_mostOfSide0_19 : decode cX2_mostOfSide0 19 = .ok (.iload_n 1, 1) := by decide +kernel
theorem dX2_mostOfSide0_20 : decode cX2_mostOfSide0 20 = .ok (.ireturn, 1) := by decide +kernel
theorem dX2_mostOfSide0_21 : decode cX2_mostOfSide0 21 = .ok (.iload_n 2, 1) := by decide +kernel
theorem dX2_mostOfSide0_22 : decode cX2_mostOfSide0 22 = .ok (.istore_n 1, 1) := by decide +kernel
theorem dX2_mostOfSide0_23 : decode cX2_mostOfSide0 23 = .ok (.iinc 2 1, 3) := by decide +kernel
theorem dX2_mostOfSide0_26 : decode cX2_mostOfSide0 26 = .ok (.goto (-22), 3) := by decide +kernel
theorem dX2_mostOfSide0_29 : decode cX2_mostOfSide0 29 = .ok (.iload_n 1, 1) := by decide +kernel
theorem dX2_mostOfSide0_30 : decode cX2_mostOfSide0 30 = .ok (.ireturn, 1) := by decide +kernel
theorem dX2_doesSide0Get_0 : decode cX2_doesSide0Get 0 = .ok (.iload_n 1, 1) := by decide +kernel
theorem dX2_doesSide0Get_1 : decode cX2_doesSide0Get 1 = .ok (.ifCond .gt 5, 3) := by decide +kernel
theorem dX2_doesSide0Get_4 : decode cX2_doesSide0Get 4 = .ok (.iconst 1, 1) := by decide +kernel
theorem dX2_doesSide0Get_5 : decode cX2_doesSide0Get 5 = .ok (.ireturn, 1) := by decide +kernel
theorem dX2_doesSide0Get_6 : decode cX2_doesSide0Get 6 = .ok (.iload_n 1, 1) := by decide +kernel
theorem dX2_doesSide0Get_7 : decode cX2_doesSide0Get 7 = .ok (.aload_n 0, 1) := by decide +kernel
theorem dX2_doesSide0Get_8 : decode cX2_doesSide0Get 8 = .ok (.invokevirtual 175, 3) := by decide +kernel
theorem dX2_doesSide0Get_11 : decode cX2_doesSide0Get 11 = .ok (.if_icmp .gt 7, 3) := by decide +kernel
theorem dX2_doesSide0Get_14 : decode cX2_doesSide0Get 14 = .ok (.iload_n 2, 1) := by decide +kernel
theorem dX2_doesSide0Get_15 : decode cX2_doesSide0Get 15 = .ok (.ifCond .gt 5, 3) := by decide +kernel
theorem dX2_doesSide0Get_18 : decode cX2_doesSide0Get 18 = .ok (.iconst 0, 1) := by decide +kernel
theorem dX2_doesSide0Get_19 : decode cX2_doesSide0Get 19 = .ok (.ireturn, 1) := by decide +kernel
theorem dX2_doesSide0Get_20 : decode cX2_doesSide0Get 20 = .ok (.aload_n 0, 1) := by decide +kernel
theorem dX2_doesSide0Get_21 : decode cX2_doesSide0Get 21 = .ok (.getfield 292, 3) := by decide +kernel
theorem dX2_doesSide0Get_24 : decode cX2_doesSide0Get 24 = .ok (.invokestatic 172, 3) := by decide +kernel
theorem dX2_doesSide0Get_27 : decode cX2_doesSide0Get 27 = .ok (.ifCond .ne 7, 3) := by decide +kernel
theorem dX2_doesSide0Get_30 : decode cX2_doesSide0Get 30 = .ok (.iconst 1, 1) := by decide +kernel
theorem dX2_doesSide0Get_31 : decode cX2_doesSide0Get 31 = .ok (.goto 4, 3) := by decide +kernel
theorem dX2_doesSide0Get_34 : decode cX2_doesSide0Get 34 = .ok (.iconst 0, 1) := by decide +kernel
theorem dX2_doesSide0Get_35 : decode cX2_doesSide0Get 35 = .ok (.istore_n 3, 1) := by decide +kernel
theorem dX2_doesSide0Get_36 : decode cX2_doesSide0Get 36 = .ok (.aload_n 0, 1) := by decide +kernel
theorem dX2_doesSide0Get_37 : decode cX2_doesSide0Get 37 = .ok (.invokevirtual 189, 3) := by decide +kernel
theorem dX2_doesSide0Get_40 : decode cX2_doesSide0Get 40 = .ok (.istore 4, 2) := by decide +kernel
theorem dX2_doesSide0Get_42 : decode cX2_doesSide0Get 42 = .ok (.iconst 0, 1) := by decide +kernel
theorem dX2_doesSide0Get_43 : decode cX2_doesSide0Get 43 = .ok (.istore 5, 2) := by decide +kernel
theorem dX2_doesSide0Get_45 : decode cX2_doesSide0Get 45 = .ok (.iload 5, 2) := by decide +kernel
theorem dX2_doesSide0Get_47 : decode cX2_doesSide0Get 47 = .ok (.iconst 3, 1) := by decide +kernel
theorem dX2_doesSide0Get_48 : decode cX2_doesSide0Get 48 = .ok (.if_icmp .ge 67, 3) := by decide +kernel
theorem dX2_doesSide0Get_51 : decode cX2_doesSide0Get 51 = .ok (.iload 4, 2) := by decide +kernel
theorem dX2_doesSide0Get_53 : decode cX2_doesSide0Get 53 = .ok (.ifCond .eq 62, 3) := by decide +kernel
theorem dX2_doesSide0Get_56 : decode cX2_doesSide0Get 56 = .ok (.iload 4, 2) := by decide +kernel
theorem dX2_doesSide0Get_58 : decode cX2_doesSide0Get 58 = .ok (.invokestatic 77, 3) := by decide +kernel
theorem dX2_doesSide0Get_61 : decode cX2_doesSide0Get 61 = .ok (.istore 6, 2) := by decide +kernel
theorem dX2_doesSide0Get_63 : decode cX2_doesSide0Get 63 = .ok (.iload 4, 2) := by decide +kernel
theorem dX2_doesSide0Get_65 : decode cX2_doesSide0Get 65 = .ok (.iload 6, 2) := by decide +kernel
theorem dX2_doesSide0Get_67 : decode cX2_doesSide0Get 67 = .ok (.invokestatic 230, 3) := by decide +kernel
theorem dX2_doesSide0Get_70 : decode cX2_doesSide0Get 70 = .ok (.istore 4, 2) := by decide +kernel
theorem dX2_doesSide0Get_72 : decode cX2_doesSide0Get 72 = .ok (.aload_n 0, 1) := by decide +kernel
theorem dX2_doesSide0Get_73 : decode cX2_doesSide0Get 73 = .ok (.iload 6, 2) := by decide +kernel
theorem dX2_doesSide0Get_75 : decode cX2_doesSide0Get 75 = .ok (.invokevirtual 169, 3) := by decide +kernel
theorem dX2_doesSide0Get_78 : decode cX2_doesSide0Get 78 = .ok (.invokestatic 311, 3) := by decide +kernel
theorem dX2_doesSide0Get_81 : decode cX2_doesSide0Get 81 = .ok (.istore 7, 2) := by decide +kernel
theorem dX2_doesSide0Get_83 : decode cX2_doesSide0Get 83 = .ok (.aload_n 0, 1) := by decide +kernel
theorem dX2_doesSide0Get_84 : decode cX2_doesSide0Get 84 = .ok (.iload_n 1, 1) := by decide +kernel
theorem dX2_doesSide0Get_85 : decode cX2_doesSide0Get 85 = .ok (.iload 7, 2) := by decide +kernel
theorem dX2_doesSide0Get_87 : decode cX2_doesSide0Get 87 = .ok (.isub, 1) := by decide +kernel
theorem dX2_doesSide0Get_88 : decode cX2_doesSide0Get 88 = .ok (.iload_n 2, 1) := by decide +kernel
theorem dX2_doesSide0Get_89 : decode cX2_doesSide0Get 89 = .ok (.iconst 1, 1) := by decide +kernel
theorem dX2_doesSide0Get_90 : decode cX2_doesSide0Get 90 = .ok (.isub, 1) := by decide +kernel
theorem dX2_doesSide0Get_91 : decode cX2_doesSide0Get 91 = .ok (.invokestatic 314, 3) := by decide +kernel
theorem dX2_doesSide0Get_94 : decode cX2_doesSide0Get 94 = .ok (.istore 8, 2) := by decide +kernel
theorem dX2_doesSide0Get_96 : decode cX2_doesSide0Get 96 = .ok (.aload_n 0, 1) := by decide +kernel
theorem dX2_doesSide0Get_97 : decode cX2_doesSide0Get 97 = .ok (.invokevirtual 186, 3) := by decide +kernel
theorem dX2_doesSide0Get_100 : decode cX2_doesSide0Get 100 = .ok (.pop, 1) := by decide +kernel
theorem dX2_doesSide0Get_101 : decode cX2_doesSide0Get 101 = .ok (.iload 8, 2) := by decide +kernel
theorem dX2_doesSide0Get_103 : decode cX2_doesSide0Get 103 = .ok (.iload_n 3, 1) := by decide +kernel
theorem dX2_doesSide0Get_104 : decode cX2_doesSide0Get 104 = .ok (.if_icmp .ne 5, 3) := by decide +kernel
theorem dX2_doesSide0Get_107 : decode cX2_doesSide0Get 107 = .ok (.iload_n 3, 1) := by decide +kernel
theorem dX2_doesSide0Get_108 : decode cX2_doesSide0Get 108 = .ok (.ireturn, 1) := by decide +kernel
theorem dX2_doesSide0Get_109 : decode cX2_doesSide0Get 109 = .ok (.iinc 5 1, 3) := by decide +kernel
theorem dX2_doesSide0Get_112 : decode cX2_doesSide0Get 112 = .ok (.goto (-67), 3) := by decide +kernel
theorem dX2_doesSide0Get_115 : decode cX2_doesSide0Get 115 = .ok (.iload_n 3, 1) := by decide +kernel
theorem dX2_doesSide0Get_116 : decode cX2_doesSide0Get 116 = .ok (.ifCond .ne 7, 3) := by decide +kernel
theorem dX2_doesSide0Get_119 : decode cX2_doesSide0Get 119 = .ok (.iconst 1, 1) := by decide +kernel
theorem dX2_doesSide0Get_120 : decode cX2_doesSide0Get 120 = .ok (.goto 4, 3) := by decide +kernel
theorem dX2_doesSide0Get_123 : decode cX2_doesSide0Get 123 = .ok (.iconst 0, 1) := by decide +kernel
theorem dX2_doesSide0Get_124 : decode cX2_doesSide0Get 124 = .ok (.ireturn, 1) := by decide +kernel
theorem dX2_countForSide0_0 : decode cX2_countForSide0 0 = .ok (.iload_n 0, 1) := by decide +kernel
theorem dX2_countForSide0_1 : decode cX2_countForSide0 1 = .ok (.iconst (-1), 1) := by decide +kernel
theorem dX2_countForSide0_2 : decode cX2_countForSide0 2 = .ok (.if_icmp .eq 14, 3) := by decide +kernel
theorem dX2_countForSide0_5 : decode cX2_countForSide0 5 = .ok (.iload_n 0, 1) := by decide +kernel
theorem dX2_countForSide0_6 : decode cX2_countForSide0 6 = .ok (.invokestatic 172, 3) := by decide +kernel
theorem dX2_countForSide0_9 : decode cX2_countForSide0 9 = .ok (.ifCond .ne 7, 3) := by decide +kernel
theorem dX2_countForSide0_12 : decode cX2_countForSide0 12 = .ok (.iconst 1, 1) := by decide +kernel
theorem dX2_countForSide0_13 : decode cX2_countForSide0 13 = .ok (.goto 4, 3) := by decide +kernel
theorem dX2_countForSide0_16 : decode cX2_countForSide0 16 = .ok (.iconst 0, 1) := by decide +kernel
theorem dX2_countForSide0_17 : decode cX2_countForSide0 17 = .ok (.ireturn, 1) := by decide +kernel
theorem dX2_sideOf_0 : decode cX2_sideOf 0 = .ok (.iload_n 0, 1) := by decide +kernel
theorem dX2_sideOf_1 : decode cX2_sideOf 1 = .ok (.iconst 1, 1) := by decide +kernel
theorem dX2_sideOf_2 : decode cX2_sideOf 2 = .ok (.iand, 1) := by decide +kernel
theorem dX2_sideOf_3 : decode cX2_sideOf 3 = .ok (.ireturn, 1) := by decide +kernel
theorem dX2_nextOf_0 : decode cX2_nextOf 0 = .ok (.iload_n 0, 1) := by decide +kernel
theorem dX2_nextOf_1 : decode cX2_nextOf 1 = .ok (.iconst 1, 1) := by decide +kernel
theorem dX2_nextOf_2 : decode cX2_nextOf 2 = .ok (.iadd, 1) := by decide +kernel
theorem dX2_nextOf_3 : decode cX2_nextOf 3 = .ok (.iconst 3, 1) := by decide +kernel
theorem dX2_nextOf_4 : decode cX2_nextOf 4 = .ok (.iand, 1) := by decide +kernel
theorem dX2_nextOf_5 : decode cX2_nextOf 5 = .ok (.ireturn, 1) := by decide +kernel
theorem dX2_contains_0 : decode cX2_contains 0 = .ok (.iload_n 0, 1) := by decide +kernel
theorem dX2_contains_1 : decode cX2_contains 1 = .ok (.iload_n 1, 1) := by decide +kernel
theorem dX2_contains_2 : decode cX2_contains 2 = .ok (.iushr, 1) := by decide +kernel
theorem dX2_contains_3 : decode cX2_contains 3 = .ok (.iconst 1, 1) := by decide +kernel
theorem dX2_contains_4 : decode cX2_contains 4 = .ok (.iand, 1) := by decide +kernel
theorem dX2_contains_5 : decode cX2_contains 5 = .ok (.iconst 1, 1) := by decide +kernel
theorem dX2_contains_6 : decode cX2_contains 6 = .ok (.if_icmp .ne 7, 3) := by decide +kernel
theorem dX2_contains_9 : decode cX2_contains 9 = .ok (.iconst 1, 1) := by decide +kernel
theorem dX2_contains_10 : decode cX2_contains 10 = .ok (.goto 4, 3) := by decide +kernel
theorem dX2_contains_13 : decode cX2_contains 13 = .ok (.iconst 0, 1) := by decide +kernel
theorem dX2_contains_14 : decode cX2_contains 14 = .ok (.ireturn, 1) := by decide +kernel
theorem dX2_with_0 : decode cX2_with 0 = .ok (.iload_n 0, 1) := by decide +kernel
theorem dX2_with_1 : decode cX2_with 1 = .ok (.iconst 1, 1) := by decide +kernel
theorem dX2_with_2 : decode cX2_with 2 = .ok (.iload_n 1, 1) := by decide +kernel
theorem dX2_with_3 : decode cX2_with 3 = .ok (.ishl, 1) := by decide +kernel
theorem dX2_with_4 : decode cX2_with 4 = .ok (.ior, 1) := by decide +kernel
theorem dX2_with_5 : decode cX2_with 5 = .ok (.ireturn, 1) := by decide +kernel
theorem dX2_without_0 : decode cX2_without 0 = .ok (.iload_n 0, 1) := by decide +kernel
theorem dX2_without_1 : decode cX2_without 1 = .ok (.iconst 1, 1) := by decide +kernel
theorem dX2_without_2 : decode cX2_without 2 = .ok (.iload_n 1, 1) := by decide +kernel
theorem dX2_without_3 : decode cX2_without 3 = .ok (.ishl, 1) := by decide +kernel
theorem dX2_without_4 : decode cX2_without 4 = .ok (.iconst (-1), 1) := by decide +kernel
theorem dX2_without_5 : decode cX2_without 5 = .ok (.ixor, 1) := by decide +kernel
theorem dX2_without_6 : decode cX2_without 6 = .ok (.iand, 1) := by decide +kernel
theorem dX2_without_7 : decode cX2_without 7 = .ok (.ireturn, 1) := by decide +kernel
theorem dX2_wholeSuit_0 : decode cX2_wholeSuit 0 = .ok (.sipush 255, 3) := by decide +kernel
theorem dX2_wholeSuit_3 : decode cX2_wholeSuit 3 = .ok (.bipush 8, 2) := by decide +kernel
theorem dX2_wholeSuit_5 : decode cX2_wholeSuit 5 = .ok (.iload_n 0, 1) := by decide +kernel
theorem dX2_wholeSuit_6 : decode cX2_wholeSuit 6 = .ok (.imul, 1) := by decide +kernel
theorem dX2_wholeSuit_7 : decode cX2_wholeSuit 7 = .ok (.ishl, 1) := by decide +kernel
theorem dX2_wholeSuit_8 : decode cX2_wholeSuit 8 = .ok (.ireturn, 1) := by decide +kernel
theorem dX2_smallest_0 : decode cX2_smallest 0 = .ok (.iload_n 0, 1) := by decide +kernel
theorem dX2_smallest_1 : decode cX2_smallest 1 = .ok (.ifCond .ne 7, 3) := by decide +kernel
theorem dX2_smallest_4 : decode cX2_smallest 4 = .ok (.iconst (-1), 1) := by decide +kernel
theorem dX2_smallest_5 : decode cX2_smallest 5 = .ok (.goto 7, 3) := by decide +kernel
theorem dX2_smallest_8 : decode cX2_smallest 8 = .ok (.iload_n 0, 1) := by decide +kernel
theorem dX2_smallest_9 : decode cX2_smallest 9 = .ok (.invokestatic 318, 3) := by decide +kernel
theorem dX2_smallest_12 : decode cX2_smallest 12 = .ok (.ireturn, 1) := by decide +kernel
theorem dX2_greatest_0 : decode cX2_greatest 0 = .ok (.iload_n 0, 1) := by decide +kernel
theorem dX2_greatest_1 : decode cX2_greatest 1 = .ok (.ifCond .ne 7, 3) := by decide +kernel
theorem dX2_greatest_4 : decode cX2_greatest 4 = .ok (.iconst (-1), 1) := by decide +kernel
theorem dX2_greatest_5 : decode cX2_greatest 5 = .ok (.goto 10, 3) := by decide +kernel
theorem dX2_greatest_8 : decode cX2_greatest 8 = .ok (.bipush 31, 2) := by decide +kernel
theorem dX2_greatest_10 : decode cX2_greatest 10 = .ok (.iload_n 0, 1) := by decide +kernel
theorem dX2_greatest_11 : decode cX2_greatest 11 = .ok (.invokestatic 321, 3) := by decide +kernel
theorem dX2_greatest_14 : decode cX2_greatest 14 = .ok (.isub, 1) := by decide +kernel
theorem dX2_greatest_15 : decode cX2_greatest 15 = .ok (.ireturn, 1) := by decide +kernel
theorem dX3_init_0 : decode cX3_init 0 = .ok (.aload_n 0, 1) := by decide +kernel
theorem dX3_init_1 : decode cX3_init 1 = .ok (.invokespecial 1, 3) := by decide +kernel
theorem dX3_init_4 : decode cX3_init 4 = .ok (.aload_n 0, 1) := by decide +kernel
theorem dX3_init_5 : decode cX3_init 5 = .ok (.new 7, 3) := by decide +kernel
theorem dX3_init_8 : decode cX3_init 8 = .ok (.dup, 1) := by decide +kernel
theorem dX3_init_9 : decode cX3_init 9 = .ok (.invokespecial 9, 3) := by decide +kernel
theorem dX3_init_12 : decode cX3_init 12 = .ok (.putfield 10, 3) := by decide +kernel
theorem dX3_init_15 : decode cX3_init 15 = .ok (.aload_n 0, 1) := by decide +kernel
theorem dX3_init_16 : decode cX3_init 16 = .ok (.iconst 4, 1) := by decide +kernel
theorem dX3_init_17 : decode cX3_init 17 = .ok (.bipush 32, 2) := by decide +kernel
theorem dX3_init_19 : decode cX3_init 19 = .ok (.multianewarray 16 2, 4) := by decide +kernel
theorem dX3_init_23 : decode cX3_init 23 = .ok (.putfield 18, 3) := by decide +kernel
theorem dX3_init_26 : decode cX3_init 26 = .ok (.aload_n 0, 1) := by decide +kernel
theorem dX3_init_27 : decode cX3_init 27 = .ok (.iconst 0, 1) := by decide +kernel
theorem dX3_init_28 : decode cX3_init 28 = .ok (.newarray .int, 2) := by decide +kernel
theorem dX3_init_30 : decode cX3_init 30 = .ok (.putfield 21, 3) := by decide +kernel
theorem dX3_init_33 : decode cX3_init 33 = .ok (.aload_n 0, 1) := by decide +kernel
theorem dX3_init_34 : decode cX3_init 34 = .ok (.iconst 0, 1) := by decide +kernel
theorem dX3_init_35 : decode cX3_init 35 = .ok (.newarray .int, 2) := by decide +kernel
theorem dX3_init_37 : decode cX3_init 37 = .ok (.putfield 25, 3) := by decide +kernel
theorem dX3_init_40 : decode cX3_init 40 = .ok (.aload_n 0, 1) := by decide +kernel
theorem dX3_init_41 : decode cX3_init 41 = .ok (.iconst 0, 1) := by decide +kernel
theorem dX3_init_42 : decode cX3_init 42 = .ok (.anewarray 28, 3) := by decide +kernel
theorem dX3_init_45 : decode cX3_init 45 = .ok (.putfield 29, 3) := by decide +kernel
theorem dX3_init_48 : decode cX3_init 48 = .ok (.aload_n 0, 1) := by decide +kernel
theorem dX3_init_49 : decode cX3_init 49 = .ok (.iconst 0, 1) := by decide +kernel
theorem dX3_init_50 : decode cX3_init 50 = .ok (.newarray .int, 2) := by decide +kernel
theorem dX3_init_52 : decode cX3_init 52 = .ok (.putfield 33, 3) := by decide +kernel
theorem dX3_init_55 : decode cX3_init 55 = .ok (.aload_n 0, 1) := by decide +kernel
theorem dX3_init_56 : decode cX3_init 56 = .ok (.iconst 4, 1) := by decide +kernel
theorem dX3_init_57 : decode cX3_init 57 = .ok (.newarray .boolean, 2) := by decide +kernel
theorem dX3_init_59 : decode cX3_init 59 = .ok (.putfield 36, 3) := by decide +kernel
theorem dX3_init_62 : decode cX3_init 62 = .ok (.aload_n 0, 1) := by decide +kernel
theorem dX3_init_63 : decode cX3_init 63 = .ok (.iconst 4, 1) := by decide +kernel
theorem dX3_init_64 : decode cX3_init 64 = .ok (.newarray .boolean, 2) := by decide +kernel
theorem dX3_init_66 : decode cX3_init 66 = .ok (.putfield 40, 3) := by decide +kernel
theorem dX3_init_69 : decode cX3_init 69 = .ok (.aload_n 0, 1) := by decide +kernel
theorem dX3_init_70 : decode cX3_init 70 = .ok (.iconst 4, 1) := by decide +kernel
theorem dX3_init_71 : decode cX3_init 71 = .ok (.newarray .boolean, 2) := by decide +kernel
theorem dX3_init_73 : decode cX3_init 73 = .ok (.putfield 43, 3) := by decide +kernel
theorem dX3_init_76 : decode cX3_init 76 = .ok (.aload_n 0, 1) := by decide +kernel
theorem dX3_init_77 : decode cX3_init 77 = .ok (.iconst 2, 1) := by decide +kernel
theorem dX3_init_78 : decode cX3_init 78 = .ok (.newarray .int, 2) := by decide +kernel
theorem dX3_init_80 : decode cX3_init 80 = .ok (.putfield 46, 3) := by decide +kernel
theorem dX3_init_83 : decode cX3_init 83 = .ok (.aload_n 0, 1) := by decide +kernel
theorem dX3_init_84 : decode cX3_init 84 = .ok (.iconst 2, 1) := by decide +kernel
theorem dX3_init_85 : decode cX3_init 85 = .ok (.newarray .int, 2) := by decide +kernel
theorem dX3_init_87 : decode cX3_init 87 = .ok (.putfield 49, 3) := by decide +kernel
theorem dX3_init_90 : decode cX3_init 90 = .ok (.aload_n 0, 1) := by decide +kernel
theorem dX3_init_91 : decode cX3_init 91 = .ok (.aload_n 1, 1) := by decide +kernel
theorem dX3_init_92 : decode cX3_init 92 = .ok (.putfield 52, 3) := by decide +kernel
theorem dX3_init_95 : decode cX3_init 95 = .ok (.aload_n 0, 1) := by decide +kernel
theorem dX3_init_96 : decode cX3_init 96 = .ok (.iload_n 2, 1) := by decide +kernel
theorem dX3_init_97 : decode cX3_init 97 = .ok (.putfield 55, 3) := by decide +kernel
theorem dX3_init_100 : decode cX3_init 100 = .ok (.return_, 1) := by decide +kernel
theorem dX3_draw_0 : decode cX3_draw 0 = .ok (.aload_n 0, 1) := by decide +kernel
theorem dX3_draw_1 : decode cX3_draw 1 = .ok (.getfield 52, 3) := by decide +kernel
theorem dX3_draw_4 : decode cX3_draw 4 = .ok (.aload_n 0, 1) := by decide +kernel
theorem dX3_draw_5 : decode cX3_draw 5 = .ok (.getfield 55, 3) := by decide +kernel
theorem dX3_draw_8 : decode cX3_draw 8 = .ok (.bipush 24, 2) := by decide +kernel
theorem dX3_draw_10 : decode cX3_draw 10 = .ok (.irem, 1) := by decide +kernel
theorem dX3_draw_11 : decode cX3_draw 11 = .ok (.invokestatic 59, 3) := by decide +kernel
theorem dX3_draw_14 : decode cX3_draw 14 = .ok (.aload_n 0, 1) := by decide +kernel
theorem dX3_draw_15 : decode cX3_draw 15 = .ok (.getfield 55, 3) := by decide +kernel
theorem dX3_draw_18 : decode cX3_draw 18 = .ok (.bipush 24, 2) := by decide +kernel
theorem dX3_draw_20 : decode cX3_draw 20 = .ok (.idiv, 1) := by decide +kernel
theorem dX3_draw_21 : decode cX3_draw 21 = .ok (.bipush 8, 2) := by decide +kernel
theorem dX3_draw_23 : decode cX3_draw 23 = .ok (.irem, 1) := by decide +kernel
theorem dX3_draw_24 : decode cX3_draw 24 = .ok (.ishr, 1) := by decide +kernel
theorem dX3_draw_25 : decode cX3_draw 25 = .ok (.sipush 167, 3) := by decide +kernel
theorem dX3_draw_28 : decode cX3_draw 28 = .ok (.aload_n 0, 1) := by decide +kernel
theorem dX3_draw_29 : decode cX3_draw 29 = .ok (.getfield 55, 3) := by decide +kernel
theorem dX3_draw_32 : decode cX3_draw 32 = .ok (.imul, 1) := by decide +kernel
theorem dX3_draw_33 : decode cX3_draw 33 = .ok (.iadd, 1) := by decide +kernel
theorem dX3_draw_34 : decode cX3_draw 34 = .ok (.iload_n 1, 1) := by decide +kernel
theorem dX3_draw_35 : decode cX3_draw 35 = .ok (.invokestatic 65, 3) := by decide +kernel
theorem dX3_draw_38 : decode cX3_draw 38 = .ok (.istore_n 2, 1) := by decide +kernel
theorem dX3_draw_39 : decode cX3_draw 39 = .ok (.aload_n 0, 1) := by decide +kernel
theorem dX3_draw_40 : decode cX3_draw 40 = .ok (.dup, 1) := by decide +kernel
theorem dX3_draw_41 : decode cX3_draw 41 = .ok (.getfield 55, 3) := by decide +kernel
theorem dX3_draw_44 : decode cX3_draw 44 = .ok (.iconst 1, 1) := by decide +kernel
theorem dX3_draw_45 : decode cX3_draw 45 = .ok (.iadd, 1) := by decide +kernel
theorem dX3_draw_46 : decode cX3_draw 46 = .ok (.putfield 55, 3) := by decide +kernel
theorem dX3_draw_49 : decode cX3_draw 49 = .ok (.iload_n 2, 1) := by decide +kernel
theorem dX3_draw_50 : decode cX3_draw 50 = .ok (.ireturn, 1) := by decide +kernel
theorem dX3_plus_0 : decode cX3_plus 0 = .ok (.aload_n 0, 1) := by decide +kernel
theorem dX3_plus_1 : decode cX3_plus 1 = .ok (.arraylength, 1) := by decide +kernel
theorem dX3_plus_2 : decode cX3_plus 2 = .ok (.iconst 1, 1) := by decide +kernel
theorem dX3_plus_3 : decode cX3_plus 3 = .ok (.iadd, 1) := by decide +kernel
theorem dX3_plus_4 : decode cX3_plus 4 = .ok (.newarray .int, 2) := by decide +kernel
theorem dX3_plus_6 : decode cX3_plus 6 = .ok (.astore_n 2, 1) := by decide +kernel
theorem dX3_plus_7 : decode cX3_plus 7 = .ok (.aload_n 0, 1) := by decide +kernel
theorem dX3_plus_8 : decode cX3_plus 8 = .ok (.iconst 0, 1) := by decide +kernel
theorem dX3_plus_9 : decode cX3_plus 9 = .ok (.aload_n 2, 1) := by decide +kernel
theorem dX3_plus_10 : decode cX3_plus 10 = .ok (.iconst 0, 1) := by decide +kernel
theorem dX3_plus_11 : decode cX3_plus 11 = .ok (.aload_n 0, 1) := by decide +kernel
theorem dX3_plus_12 : decode cX3_plus 12 = .ok (.arraylength, 1) := by decide +kernel
theorem dX3_plus_13 : decode cX3_plus 13 = .ok (.invokestatic 69, 3) := by decide +kernel
theorem dX3_plus_16 : decode cX3_plus 16 = .ok (.aload_n 2, 1) := by decide +kernel
theorem dX3_plus_17 : decode cX3_plus 17 = .ok (.aload_n 0, 1) := by decide +kernel
theorem dX3_plus_18 : decode cX3_plus 18 = .ok (.arraylength, 1) := by decide +kernel
theorem dX3_plus_19 : decode cX3_plus 19 = .ok (.iload_n 1, 1) := by decide +kernel
theorem dX3_plus_20 : decode cX3_plus 20 = .ok (.iastore, 1) := by decide +kernel
theorem dX3_plus_21 : decode cX3_plus 21 = .ok (.aload_n 2, 1) := by decide +kernel
theorem dX3_plus_22 : decode cX3_plus 22 = .ok (.areturn, 1) := by decide +kernel
theorem dX3_count_0 : decode cX3_count 0 = .ok (.iconst 0, 1) := by decide +kernel
theorem dX3_count_1 : decode cX3_count 1 = .ok (.istore_n 2, 1) := by decide +kernel
theorem dX3_count_2 : decode cX3_count 2 = .ok (.aload_n 0, 1) := by decide +kernel
theorem dX3_count_3 : decode cX3_count 3 = .ok (.getfield 18, 3) := by decide +kernel
theorem dX3_count_6 : decode cX3_count 6 = .ok (.iload_n 1, 1) := by decide +kernel
theorem dX3_count_7 : decode cX3_count 7 = .ok (.aaload, 1) := by decide +kernel
theorem dX3_count_8 : decode cX3_count 8 = .ok (.astore_n 3, 1) := by decide +kernel
theorem dX3_count_9 : decode cX3_count 9 = .ok (.aload_n 3, 1) := by decide +kernel
theorem dX3_count_10 : decode cX3_count 10 = .ok (.arraylength, 1) := by decide +kernel
theorem dX3_count_11 : decode cX3_count 11 = .ok (.istore 4, 2) := by decide +kernel
theorem dX3_count_13 : decode cX3_count 13 = .ok (.iconst 0, 1) := by decide +kernel
theorem dX3_count_14 : decode cX3_count 14 = .ok (.istore 5, 2) := by decide +kernel
theorem dX3_count_16 : decode cX3_count 16 = .ok (.iload 5, 2) := by decide +kernel
theorem dX3_count_18 : decode cX3_count 18 = .ok (.iload 4, 2) := by decide +kernel
theorem dX3_count_20 : decode cX3_count 20 = .ok (.if_icmp .ge 28, 3) := by decide +kernel
theorem dX3_count_23 : decode cX3_count 23 = .ok (.aload_n 3, 1) := by decide +kernel
theorem dX3_count_24 : decode cX3_count 24 = .ok (.iload 5, 2) := by decide +kernel
theorem dX3_count_26 : decode cX3_count 26 = .ok (.baload, 1) := by decide +kernel
theorem dX3_count_27 : decode cX3_count 27 = .ok (.istore 6, 2) := by decide +kernel
theorem dX3_count_29 : decode cX3_count 29 = .ok (.iload_n 2, 1) := by decide +kernel
theorem dX3_count_30 : decode cX3_count 30 = .ok (.iload 6, 2) := by decide +kernel
theorem dX3_count_32 : decode cX3_count 32 = .ok (.ifCond .eq 7, 3) := by decide +kernel
theorem dX3_count_35 : decode cX3_count 35 = .ok (.iconst 1, 1) := by decide +kernel
theorem dX3_count_36 : decode cX3_count 36 = .ok (.goto 4, 3) := by decide +kernel
theorem dX3_count_39 : decode cX3_count 39 = .ok (.iconst 0, 1) := by decide +kernel
theorem dX3_count_40 : decode cX3_count 40 = .ok (.iadd, 1) := by decide +kernel
theorem dX3_count_41 : decode cX3_count 41 = .ok (.istore_n 2, 1) := by decide +kernel
theorem dX3_count_42 : decode cX3_count 42 = .ok (.iinc 5 1, 3) := by decide +kernel
theorem dX3_count_45 : decode cX3_count 45 = .ok (.goto (-29), 3) := by decide +kernel
theorem dX3_count_48 : decode cX3_count 48 = .ok (.iload_n 2, 1) := by decide +kernel
theorem dX3_count_49 : decode cX3_count 49 = .ok (.ireturn, 1) := by decide +kernel
theorem dX3_begin_0 : decode cX3_begin 0 = .ok (.aload_n 0, 1) := by decide +kernel
theorem dX3_begin_1 : decode cX3_begin 1 = .ok (.getfield 75, 3) := by decide +kernel
theorem dX3_begin_4 : decode cX3_begin 4 = .ok (.istore_n 1, 1) := by decide +kernel
theorem dX3_begin_5 : decode cX3_begin 5 = .ok (.aload_n 0, 1) := by decide +kernel
theorem dX3_begin_6 : decode cX3_begin 6 = .ok (.aload_n 0, 1) := by decide +kernel
theorem dX3_begin_7 : decode cX3_begin 7 = .ok (.iconst 4, 1) := by decide +kernel
theorem dX3_begin_8 : decode cX3_begin 8 = .ok (.invokevirtual 78, 3) := by decide +kernel
theorem dX3_begin_11 : decode cX3_begin 11 = .ok (.putfield 82, 3) := by decide +kernel
theorem dX3_begin_14 : decode cX3_begin 14 = .ok (.aload_n 0, 1) := by decide +kernel
theorem dX3_begin_15 : decode cX3_begin 15 = .ok (.iconst 0, 1) := by decide +kernel
theorem dX3_begin_16 : decode cX3_begin 16 = .ok (.putfield 75, 3) := by decide +kernel
theorem dX3_begin_19 : decode cX3_begin 19 = .ok (.iconst 0, 1) := by decide +kernel
theorem dX3_begin_20 : decode cX3_begin 20 = .ok (.istore_n 2, 1) := by decide +kernel
theorem dX3_begin_21 : decode cX3_begin 21 = .ok (.iload_n 2, 1) := by decide +kernel
theorem dX3_begin_22 : decode cX3_begin 22 = .ok (.iconst 4, 1) := by decide +kernel
theorem dX3_begin_23 : decode cX3_begin 23 = .ok (.if_icmp .ge 48, 3) := by decide +kernel
theorem dX3_begin_26 : decode cX3_begin 26 = .ok (.iconst 0, 1) := by decide +kernel
theorem dX3_begin_27 : decode cX3_begin 27 = .ok (.istore_n 3, 1) := by decide +kernel
theorem dX3_begin_28 : decode cX3_begin 28 = .ok (.iload_n 3, 1) := by decide +kernel
theorem dX3_begin_29 : decode cX3_begin 29 = .ok (.bipush 32, 2) := by decide +kernel
theorem dX3_begin_31 : decode cX3_begin 31 = .ok (.if_icmp .ge 18, 3) := by decide +kernel
theorem dX3_begin_34 : decode cX3_begin 34 = .ok (.aload_n 0, 1) := by decide +kernel
theorem dX3_begin_35 : decode cX3_begin 35 = .ok (.getfield 18, 3) := by decide +kernel
theorem dX3_begin_38 : decode cX3_begin 38 = .ok (.iload_n 2, 1) := by decide +kernel
theorem dX3_begin_39 : decode cX3_begin 39 = .ok (.aaload, 1) := by decide +kernel
theorem dX3_begin_40 : decode cX3_begin 40 = .ok (.iload_n 3, 1) := by decide +kernel
theorem dX3_begin_41 : decode cX3_begin 41 = .ok (.iconst 0, 1) := by decide +kernel
theorem dX3_begin_42 : decode cX3_begin 42 = .ok (.bastore, 1) := by decide +kernel
theorem dX3_begin_43 : decode cX3_begin 43 = .ok (.iinc 3 1, 3) := by decide +kernel
theorem dX3_begin_46 : decode cX3_begin 46 = .ok (.goto (-18), 3) := by decide +kernel
theorem dX3_begin_49 : decode cX3_begin 49 = .ok (.aload_n 0, 1) := by decide +kernel
theorem dX3_begin_50 : decode cX3_begin 50 = .ok (.getfield 36, 3) := by decide +kernel
theorem dX3_begin_53 : decode cX3_begin 53 = .ok (.iload_n 2, 1) := by decide +kernel
theorem dX3_begin_54 : decode cX3_begin 54 = .ok (.iconst 0, 1) := by decide +kernel
theorem dX3_begin_55 : decode cX3_begin 55 = .ok (.bastore, 1) := by decide +kernel
theorem dX3_begin_56 : decode cX3_begin 56 = .ok (.aload_n 0, 1) := by decide +kernel
theorem dX3_begin_57 : decode cX3_begin 57 = .ok (.getfield 46, 3) := by decide +kernel
theorem dX3_begin_60 : decode cX3_begin 60 = .ok (.iload_n 2, 1) := by decide +kernel
theorem dX3_begin_61 : decode cX3_begin 61 = .ok (.iconst 2, 1) := by decide +kernel
theorem dX3_begin_62 : decode cX3_begin 62 = .ok (.idiv, 1) := by decide +kernel
theorem dX3_begin_63 : decode cX3_begin 63 = .ok (.iconst 0, 1) := by decide +kernel
theorem dX3_begin_64 : decode cX3_begin 64 = .ok (.iastore, 1) := by decide +kernel
theorem dX3_begin_65 : decode cX3_begin 65 = .ok (.iinc 2 1, 3) := by decide +kernel
theorem dX3_begin_68 : decode cX3_begin 68 = .ok (.goto (-47), 3) := by decide +kernel
theorem dX3_begin_71 : decode cX3_begin 71 = .ok (.aload_n 0, 1) := by decide +kernel
theorem dX3_begin_72 : decode cX3_begin 72 = .ok (.iconst 0, 1) := by decide +kernel
theorem dX3_begin_73 : decode cX3_begin 73 = .ok (.newarray .int, 2) := by decide +kernel
theorem dX3_begin_75 : decode cX3_begin 75 = .ok (.putfield 21, 3) := by decide +kernel
theorem dX3_begin_78 : decode cX3_begin 78 = .ok (.aload_n 0, 1) := by decide +kernel
theorem dX3_begin_79 : decode cX3_begin 79 = .ok (.iconst 0, 1) := by decide +kernel
theorem dX3_begin_80 : decode cX3_begin 80 = .ok (.newarray .int, 2) := by decide +kernel
theorem dX3_begin_82 : decode cX3_begin 82 = .ok (.putfield 25, 3) := by decide +kernel
theorem dX3_begin_85 : decode cX3_begin 85 = .ok (.aload_n 0, 1) := by decide +kernel
theorem dX3_begin_86 : decode cX3_begin 86 = .ok (.iconst 0, 1) := by decide +kernel
theorem dX3_begin_87 : decode cX3_begin 87 = .ok (.anewarray 28, 3) := by decide +kernel
theorem dX3_begin_90 : decode cX3_begin 90 = .ok (.putfield 29, 3) := by decide +kernel
theorem dX3_begin_93 : decode cX3_begin 93 = .ok (.aload_n 0, 1) := by decide +kernel
theorem dX3_begin_94 : decode cX3_begin 94 = .ok (.iconst 0, 1) := by decide +kernel
theorem dX3_begin_95 : decode cX3_begin 95 = .ok (.newarray .int, 2) := by decide +kernel
theorem dX3_begin_97 : decode cX3_begin 97 = .ok (.putfield 33, 3) := by decide +kernel
theorem dX3_begin_100 : decode cX3_begin 100 = .ok (.aload_n 0, 1) := by decide +kernel
theorem dX3_begin_101 : decode cX3_begin 101 = .ok (.getfield 10, 3) := by decide +kernel
theorem dX3_begin_104 : decode cX3_begin 104 = .ok (.aload_n 0, 1) := by decide +kernel
theorem dX3_begin_105 : decode cX3_begin 105 = .ok (.getfield 82, 3) := by decide +kernel
theorem dX3_begin_108 : decode cX3_begin 108 = .ok (.invokevirtual 85, 3) := by decide +kernel
theorem dX3_begin_111 : decode cX3_begin 111 = .ok (.iload_n 1, 1) := by decide +kernel
theorem dX3_begin_112 : decode cX3_begin 112 = .ok (.if_icmp .ne 7, 3) := by decide +kernel
theorem dX3_begin_115 : decode cX3_begin 115 = .ok (.iconst 1, 1) := by decide +kernel
theorem dX3_begin_116 : decode cX3_begin 116 = .ok (.goto 4, 3) := by decide +kernel
theorem dX3_begin_119 : decode cX3_begin 119 = .ok (.iconst 0, 1) := by decide +kernel
theorem dX3_begin_120 : decode cX3_begin 120 = .ok (.ireturn, 1) := by decide +kernel
theorem dX3_deal_0 : decode cX3_deal 0 = .ok (.aload_n 0, 1) := by decide +kernel
theorem dX3_deal_1 : decode cX3_deal 1 = .ok (.bipush 32, 2) := by decide +kernel
theorem dX3_deal_3 : decode cX3_deal 3 = .ok (.invokevirtual 78, 3) := by decide +kernel
theorem dX3_deal_6 : decode cX3_deal 6 = .ok (.istore_n 2, 1) := by decide +kernel
theorem dX3_deal_7 : decode cX3_deal 7 = .ok (.iconst 1, 1) := by decide +kernel
theorem dX3_deal_8 : decode cX3_deal 8 = .ok (.iconst 2, 1) := by decide +kernel
theorem dX3_deal_9 : decode cX3_deal 9 = .ok (.aload_n 0, 1) := by decide +kernel
theorem dX3_deal_10 : decode cX3_deal 10 = .ok (.bipush 16, 2) := by decide +kernel
theorem dX3_deal_12 : decode cX3_deal 12 = .ok (.invokevirtual 78, 3) := by decide +kernel
theorem dX3_deal_15 : decode cX3_deal 15 = .ok (.imul, 1) := by decide +kernel
theorem dX3_deal_16 : decode cX3_deal 16 = .ok (.iadd, 1) := by decide +kernel
theorem dX3_deal_17 : decode cX3_deal 17 = .ok (.istore_n 3, 1) := by decide +kernel
theorem dX3_deal_18 : decode cX3_deal 18 = .ok (.iconst (-1), 1) := by decide +kernel
theorem dX3_deal_19 : decode cX3_deal 19 = .ok (.istore 4, 2) := by decide +kernel
theorem dX3_deal_21 : decode cX3_deal 21 = .ok (.iconst 0, 1) := by decide +kernel
theorem dX3_deal_22 : decode cX3_deal 22 = .ok (.istore 5, 2) := by decide +kernel
theorem dX3_deal_24 : decode cX3_deal 24 = .ok (.iload 5, 2) := by decide +kernel
theorem dX3_deal_26 : decode cX3_deal 26 = .ok (.iconst 4, 1) := by decide +kernel
theorem dX3_deal_27 : decode cX3_deal 27 = .ok (.iload_n 1, 1) := by decide +kernel
theorem dX3_deal_28 : decode cX3_deal 28 = .ok (.imul, 1) := by decide +kernel
theorem dX3_deal_29 : decode cX3_deal 29 = .ok (.if_icmp .ge 56, 3) := by decide +kernel
theorem dX3_deal_32 : decode cX3_deal 32 = .ok (.iload_n 2, 1) := by decide +kernel
theorem dX3_deal_33 : decode cX3_deal 33 = .ok (.iload 5, 2) := by decide +kernel
theorem dX3_deal_35 : decode cX3_deal 35 = .ok (.iload_n 3, 1) := by decide +kernel
theorem dX3_deal_36 : decode cX3_deal 36 = .ok (.imul, 1) := by decide +kernel
theorem dX3_deal_37 : decode cX3_deal 37 = .ok (.iadd, 1) := by decide +kernel
theorem dX3_deal_38 : decode cX3_deal 38 = .ok (.bipush 32, 2) := by decide +kernel
theorem dX3_deal_40 : decode cX3_deal 40 = .ok (.irem, 1) := by decide +kernel
theorem dX3_deal_41 : decode cX3_deal 41 = .ok (.istore 6, 2) := by decide +kernel
theorem dX3_deal_43 : decode cX3_deal 43 = .ok (.aload_n 0, 1) := by decide +kernel
theorem dX3_deal_44 : decode cX3_deal 44 = .ok (.getfield 18, 3) := by decide +kernel
theorem dX3_deal_47 : decode cX3_deal 47 = .ok (.iload 5, 2) := by decide +kernel
theorem dX3_deal_49 : decode cX3_deal 49 = .ok (.iconst 4, 1) := by decide +kernel
theorem dX3_deal_50 : decode cX3_deal 50 = .ok (.irem, 1) := by decide +kernel
theorem dX3_deal_51 : decode cX3_deal 51 = .ok (.aaload, 1) := by decide +kernel
theorem dX3_deal_52 : decode cX3_deal 52 = .ok (.iload 6, 2) := by decide +kernel
theorem dX3_deal_54 : decode cX3_deal 54 = .ok (.iconst 1, 1) := by decide +kernel
theorem dX3_deal_55 : decode cX3_deal 55 = .ok (.bastore, 1) := by decide +kernel
theorem dX3_deal_56 : decode cX3_deal 56 = .ok (.iload 5, 2) := by decide +kernel
theorem dX3_deal_58 : decode cX3_deal 58 = .ok (.iconst 4, 1) := by decide +kernel
theorem dX3_deal_59 : decode cX3_deal 59 = .ok (.irem, 1) := by decide +kernel
theorem dX3_deal_60 : decode cX3_deal 60 = .ok (.ifCond .ne 19, 3) := by decide +kernel
theorem dX3_deal_63 : decode cX3_deal 63 = .ok (.iload 4, 2) := by decide +kernel
theorem dX3_deal_65 : decode cX3_deal 65 = .ok (.ifCond .lt 10, 3) := by decide +kernel
theorem dX3_deal_68 : decode cX3_deal 68 = .ok (.iload 6, 2) := by decide +kernel
theorem dX3_deal_70 : decode cX3_deal 70 = .ok (.iload 4, 2) := by decide +kernel
theorem dX3_deal_72 : decode cX3_deal 72 = .ok (.if_icmp .ge 7, 3) := by decide +kernel
theorem dX3_deal_75 : decode cX3_deal 75 = .ok (.iload 6, 2) := by decide +kernel
theorem dX3_deal_77 : decode cX3_deal 77 = .ok (.istore 4, 2) := by decide +kernel
theorem dX3_deal_79 : decode cX3_deal 79 = .ok (.iinc 5 1, 3) := by decide +kernel
theorem dX3_deal_82 : decode cX3_deal 82 = .ok (.goto (-58), 3) := by decide +kernel
theorem dX3_deal_85 : decode cX3_deal 85 = .ok (.aload_n 0, 1) := by decide +kernel
theorem dX3_deal_86 : decode cX3_deal 86 = .ok (.getfield 10, 3) := by decide +kernel
theorem dX3_deal_89 : decode cX3_deal 89 = .ok (.iload_n 2, 1) := by decide +kernel
theorem dX3_deal_90 : decode cX3_deal 90 = .ok (.iload_n 3, 1) := by decide +kernel
theorem dX3_deal_91 : decode cX3_deal 91 = .ok (.iload_n 1, 1) := by decide +kernel
theorem dX3_deal_92 : decode cX3_deal 92 = .ok (.invokevirtual 88, 3) := by decide +kernel
theorem dX3_deal_95 : decode cX3_deal 95 = .ok (.iload 4, 2) := by decide +kernel
theorem dX3_deal_97 : decode cX3_deal 97 = .ok (.if_icmp .ne 7, 3) := by decide +kernel
theorem dX3_deal_100 : decode cX3_deal 100 = .ok (.iconst 1, 1) := by decide +kernel
theorem dX3_deal_101 : decode cX3_deal 101 = .ok (.goto 4, 3) := by decide +kernel
theorem dX3_deal_104 : decode cX3_deal 104 = .ok (.iconst 0, 1) := by decide +kernel
theorem dX3_deal_105 : decode cX3_deal 105 = .ok (.ireturn, 1) := by decide +kernel
theorem dX3_open_0 : decode cX3_open 0 = .ok (.aload_n 0, 1) := by decide +kernel
theorem dX3_open_1 : decode cX3_open 1 = .ok (.aload_n 0, 1) := by decide +kernel
theorem dX3_open_2 : decode cX3_open 2 = .ok (.iconst 0, 1) := by decide +kernel
theorem dX3_open_3 : decode cX3_open 3 = .ok (.invokevirtual 92, 3) := by decide +kernel
theorem dX3_open_6 : decode cX3_open 6 = .ok (.putfield 95, 3) := by decide +kernel
theorem dX3_open_9 : decode cX3_open 9 = .ok (.aload_n 0, 1) := by decide +kernel
theorem dX3_open_10 : decode cX3_open 10 = .ok (.iconst 1, 1) := by decide +kernel
theorem dX3_open_11 : decode cX3_open 11 = .ok (.putfield 75, 3) := by decide +kernel
theorem dX3_open_14 : decode cX3_open 14 = .ok (.aload_n 0, 1) := by decide +kernel
theorem dX3_open_15 : decode cX3_open 15 = .ok (.getfield 10, 3) := by decide +kernel
theorem dX3_open_18 : decode cX3_open 18 = .ok (.invokevirtual 98, 3) := by decide +kernel
theorem dX3_open_21 : decode cX3_open 21 = .ok (.iconst 4, 1) := by decide +kernel
theorem dX3_open_22 : decode cX3_open 22 = .ok (.aload_n 0, 1) := by decide +kernel
theorem dX3_open_23 : decode cX3_open 23 = .ok (.getfield 95, 3) := by decide +kernel
theorem dX3_open_26 : decode cX3_open 26 = .ok (.imul, 1) := by decide +kernel
theorem dX3_open_27 : decode cX3_open 27 = .ok (.if_icmp .ne 7, 3) := by decide +kernel
theorem dX3_open_30 : decode cX3_open 30 = .ok (.iconst 1, 1) := by decide +kernel
theorem dX3_open_31 : decode cX3_open 31 = .ok (.goto 4, 3) := by decide +kernel
theorem dX3_open_34 : decode cX3_open 34 = .ok (.iconst 0, 1) := by decide +kernel
theorem dX3_open_35 : decode cX3_open 35 = .ok (.ireturn, 1) := by decide +kernel
theorem dX3_canBid_0 : decode cX3_canBid 0 = .ok (.aload_n 0, 1) := by decide +kernel
theorem dX3_canBid_1 : decode cX3_canBid 1 = .ok (.getfield 75, 3) := by decide +kernel
theorem dX3_canBid_4 : decode cX3_canBid 4 = .ok (.iconst 1, 1) := by decide +kernel
theorem dX3_canBid_5 : decode cX3_canBid 5 = .ok (.if_icmp .eq 5, 3) := by decide +kernel
theorem dX3_canBid_8 : decode cX3_canBid 8 = .ok (.iconst 0, 1) := by decide +kernel
theorem dX3_canBid_9 : decode cX3_canBid 9 = .ok (.ireturn, 1) := by decide +kernel
theorem dX3_canBid_10 : decode cX3_canBid 10 = .ok (.aload_n 0, 1) := by decide +kernel
theorem dX3_canBid_11 : decode cX3_canBid 11 = .ok (.getfield 21, 3) := by decide +kernel
theorem dX3_canBid_14 : decode cX3_canBid 14 = .ok (.arraylength, 1) := by decide +kernel
theorem dX3_canBid_15 : decode cX3_canBid 15 = .ok (.iconst 2, 1) := by decide +kernel
theorem dX3_canBid_16 : decode cX3_canBid 16 = .ok (.irem, 1) := by decide +kernel
theorem dX3_canBid_17 : decode cX3_canBid 17 = .ok (.istore_n 2, 1) := by decide +kernel
theorem dX3_canBid_18 : decode cX3_canBid 18 = .ok (.iconst 0, 1) := by decide +kernel
theorem dX3_canBid_19 : decode cX3_canBid 19 = .ok (.istore_n 3, 1) := by decide +kernel
theorem dX3_canBid_20 : decode cX3_canBid 20 = .ok (.iconst (-1), 1) := by decide +kernel
theorem dX3_canBid_21 : decode cX3_canBid 21 = .ok (.istore 4, 2) := by decide +kernel
theorem dX3_canBid_23 : decode cX3_canBid 23 = .ok (.iconst 1, 1) := by decide +kernel
theorem dX3_canBid_24 : decode cX3_canBid 24 = .ok (.istore 5, 2) := by decide +kernel
theorem dX3_canBid_26 : decode cX3_canBid 26 = .ok (.iconst 0, 1) := by decide +kernel
theorem dX3_canBid_27 : decode cX3_canBid 27 = .ok (.istore 6, 2) := by decide +kernel
theorem dX3_canBid_29 : decode cX3_canBid 29 = .ok (.iload 6, 2) := by decide +kernel
theorem dX3_canBid_31 : decode cX3_canBid 31 = .ok (.aload_n 0, 1) := by decide +kernel
theorem dX3_canBid_32 : decode cX3_canBid 32 = .ok (.getfield 21, 3) := by decide +kernel
theorem dX3_canBid_35 : decode cX3_canBid 35 = .ok (.arraylength, 1) := by decide +kernel
theorem dX3_canBid_36 : decode cX3_canBid 36 = .ok (.if_icmp .ge 66, 3) := by decide +kernel
theorem dX3_canBid_39 : decode cX3_canBid 39 = .ok (.aload_n 0, 1) := by decide +kernel
theorem dX3_canBid_40 : decode cX3_canBid 40 = .ok (.getfield 21, 3) := by decide +kernel
theorem dX3_canBid_43 : decode cX3_canBid 43 = .ok (.iload 6, 2) := by decide +kernel
theorem dX3_canBid_45 : decode cX3_canBid 45 = .ok (.iaload, 1) := by decide +kernel
theorem dX3_canBid_46 : decode cX3_canBid 46 = .ok (.ifCond .ne 6, 3) := by decide +kernel
theorem dX3_canBid_49 : decode cX3_canBid 49 = .ok (.goto 47, 3) := by decide +kernel
theorem dX3_canBid_52 : decode cX3_canBid 52 = .ok (.aload_n 0, 1) := by decide +kernel
theorem dX3_canBid_53 : decode cX3_canBid 53 = .ok (.getfield 21, 3) := by decide +kernel
theorem dX3_canBid_56 : decode cX3_canBid 56 = .ok (.iload 6, 2) := by decide +kernel
theorem dX3_canBid_58 : decode cX3_canBid 58 = .ok (.iaload, 1) := by decide +kernel
theorem dX3_canBid_59 : decode cX3_canBid 59 = .ok (.bipush 40, 2) := by decide +kernel
theorem dX3_canBid_61 : decode cX3_canBid 61 = .ok (.if_icmp .le 18, 3) := by decide +kernel
theorem dX3_canBid_64 : decode cX3_canBid 64 = .ok (.aload_n 0, 1) := by decide +kernel
theorem dX3_canBid_65 : decode cX3_canBid 65 = .ok (.getfield 21, 3) := by decide +kernel
theorem dX3_canBid_68 : decode cX3_canBid 68 = .ok (.iload 6, 2) := by decide +kernel
theorem dX3_canBid_70 : decode cX3_canBid 70 = .ok (.iaload, 1) := by decide +kernel
theorem dX3_canBid_71 : decode cX3_canBid 71 = .ok (.bipush 39, 2) := by decide +kernel
theorem dX3_canBid_73 : decode cX3_canBid 73 = .ok (.isub, 1) := by decide +kernel
theorem dX3_canBid_74 : decode cX3_canBid 74 = .ok (.istore 5, 2) := by decide +kernel
theorem dX3_canBid_76 : decode cX3_canBid 76 = .ok (.goto 20, 3) := by decide +kernel
theorem dX3_canBid_79 : decode cX3_canBid 79 = .ok (.aload_n 0, 1) := by decide +kernel
theorem dX3_canBid_80 : decode cX3_canBid 80 = .ok (.getfield 21, 3) := by decide +kernel
theorem dX3_canBid_83 : decode cX3_canBid 83 = .ok (.iload 6, 2) := by decide +kernel
theorem dX3_canBid_85 : decode cX3_canBid 85 = .ok (.iaload, 1) := by decide +kernel
theorem dX3_canBid_86 : decode cX3_canBid 86 = .ok (.istore_n 3, 1) := by decide +kernel
theorem dX3_canBid_87 : decode cX3_canBid 87 = .ok (.iload 6, 2) := by decide +kernel
theorem dX3_canBid_89 : decode cX3_canBid 89 = .ok (.iconst 2, 1) := by decide +kernel
theorem dX3_canBid_90 : decode cX3_canBid 90 = .ok (.irem, 1) := by decide +kernel
theorem dX3_canBid_91 : decode cX3_canBid 91 = .ok (.istore 4, 2) := by decide +kernel
theorem dX3_canBid_93 : decode cX3_canBid 93 = .ok (.iconst 1, 1) := by decide +kernel
theorem dX3_canBid_94 : decode cX3_canBid 94 = .ok (.istore 5, 2) := by decide +kernel
theorem dX3_canBid_96 : decode cX3_canBid 96 = .ok (.iinc 6 1, 3) := by decide +kernel
theorem dX3_canBid_99 : decode cX3_canBid 99 = .ok (.goto (-70), 3) := by decide +kernel
theorem dX3_canBid_102 : decode cX3_canBid 102 = .ok (.iload_n 1, 1) := by decide +kernel
theorem dX3_canBid_103 : decode cX3_canBid 103 = .ok (.bipush 41, 2) := by decide +kernel
theorem dX3_canBid_105 : decode cX3_canBid 105 = .ok (.if_icmp .ne 25, 3) := by decide +kernel
theorem dX3_canBid_108 : decode cX3_canBid 108 = .ok (.iload_n 3, 1) := by decide +kernel
theorem dX3_canBid_109 : decode cX3_canBid 109 = .ok (.ifCond .le 19, 3) := by decide +kernel
theorem dX3_canBid_112 : decode cX3_canBid 112 = .ok (.iload 4, 2) := by decide +kernel
theorem dX3_canBid_114 : decode cX3_canBid 114 = .ok (.iload_n 2, 1) := by decide +kernel
theorem dX3_canBid_115 : decode cX3_canBid 115 = .ok (.if_icmp .eq 13, 3) := by decide +kernel
theorem dX3_canBid_118 : decode cX3_canBid 118 = .ok (.iload 5, 2) := by decide +kernel
theorem dX3_canBid_120 : decode cX3_canBid 120 = .ok (.iconst 1, 1) := by decide +kernel
theorem dX3_canBid_121 : decode cX3_canBid 121 = .ok (.if_icmp .ne 7, 3) := by decide +kernel
theorem dX3_canBid_124 : decode cX3_canBid 124 = .ok (.iconst 1, 1) := by decide +kernel
theorem dX3_canBid_125 : decode cX3_canBid 125 = .ok (.goto 4, 3) := by decide +kernel
theorem dX3_canBid_128 : decode cX3_canBid 128 = .ok (.iconst 0, 1) := by decide +kernel
theorem dX3_canBid_129 : decode cX3_canBid 129 = .ok (.ireturn, 1) := by decide +kernel
theorem dX3_canBid_130 : decode cX3_canBid 130 = .ok (.iload_n 1, 1) := by decide +kernel
theorem dX3_canBid_131 : decode cX3_canBid 131 = .ok (.bipush 42, 2) := by decide +kernel
theorem dX3_canBid_133 : decode cX3_canBid 133 = .ok (.if_icmp .ne 25, 3) := by decide +kernel
theorem dX3_canBid_136 : decode cX3_canBid 136 = .ok (.iload_n 3, 1) := by decide +kernel
theorem dX3_canBid_137 : decode cX3_canBid 137 = .ok (.ifCond .le 19, 3) := by decide +kernel
theorem dX3_canBid_140 : decode cX3_canBid 140 = .ok (.iload 4, 2) := by decide +kernel
theorem dX3_canBid_142 : decode cX3_canBid 142 = .ok (.iload_n 2, 1) := by decide +kernel
theorem dX3_canBid_143 : decode cX3_canBid 143 = .ok (.if_icmp .ne 13, 3) := by decide +kernel
theorem dX3_canBid_146 : decode cX3_canBid 146 = .ok (.iload 5, 2) := by decide +kernel
theorem dX3_canBid_148 : decode cX3_canBid 148 = .ok (.iconst 2, 1) := by decide +kernel
theorem dX3_canBid_149 : decode cX3_canBid 149 = .ok (.if_icmp .ne 7, 3) := by decide +kernel
theorem dX3_canBid_152 : decode cX3_canBid 152 = .ok (.iconst 1, 1) := by decide +kernel
theorem dX3_canBid_153 : decode cX3_canBid 153 = .ok (.goto 4, 3) := by decide +kernel
theorem dX3_canBid_156 : decode cX3_canBid 156 = .ok (.iconst 0, 1) := by decide +kernel
theorem dX3_canBid_157 : decode cX3_canBid 157 = .ok (.ireturn, 1) := by decide +kernel
theorem dX3_canBid_158 : decode cX3_canBid 158 = .ok (.iload_n 1, 1) := by decide +kernel
theorem dX3_canBid_159 : decode cX3_canBid 159 = .ok (.ifCond .eq 8, 3) := by decide +kernel
theorem dX3_canBid_162 : decode cX3_canBid 162 = .ok (.iload_n 1, 1) := by decide +kernel
theorem dX3_canBid_163 : decode cX3_canBid 163 = .ok (.iload_n 3, 1) := by decide +kernel
theorem dX3_canBid_164 : decode cX3_canBid 164 = .ok (.if_icmp .le 7, 3) := by decide +kernel
theorem dX3_canBid_167 : decode cX3_canBid 167 = .ok (.iconst 1, 1) := by decide +kernel
theorem dX3_canBid_168 : decode cX3_canBid 168 = .ok (.goto 4, 3) := by decide +kernel
theorem dX3_canBid_171 : decode cX3_canBid 171 = .ok (.iconst 0, 1) := by decide +kernel
theorem dX3_canBid_172 : decode cX3_canBid 172 = .ok (.ireturn, 1) := by decide +kernel
theorem dX3_turn_0 : decode cX3_turn 0 = .ok (.aload_n 0, 1) := by decide +kernel
theorem dX3_turn_1 : decode cX3_turn 1 = .ok (.getfield 75, 3) := by decide +kernel
theorem dX3_turn_4 : decode cX3_turn 4 = .ok (.iconst 1, 1) := by decide +kernel
theorem dX3_turn_5 : decode cX3_turn 5 = .ok (.if_icmp .ne 18, 3) := by decide +kernel
theorem dX3_turn_8 : decode cX3_turn 8 = .ok (.aload_n 0, 1) := by decide +kernel
theorem dX3_turn_9 : decode cX3_turn 9 = .ok (.getfield 82, 3) := by decide +kernel
theorem dX3_turn_12 : decode cX3_turn 12 = .ok (.aload_n 0, 1) := by decide +kernel
theorem dX3_turn_13 : decode cX3_turn 13 = .ok (.getfield 21, 3) := by decide +kernel
theorem dX3_turn_16 : decode cX3_turn 16 = .ok (.arraylength, 1) := by decide +kernel
theorem dX3_turn_17 : decode cX3_turn 17 = .ok (.iadd, 1) := by decide +kernel
theorem dX3_turn_18 : decode cX3_turn 18 = .ok (.iconst 4, 1) := by decide +kernel
theorem dX3_turn_19 : decode cX3_turn 19 = .ok (.irem, 1) := by decide +kernel
theorem dX3_turn_20 : decode cX3_turn 20 = .ok (.goto 27, 3) := by decide +kernel
theorem dX3_turn_23 : decode cX3_turn 23 = .ok (.aload_n 0, 1) := by decide +kernel
theorem dX3_turn_24 : decode cX3_turn 24 = .ok (.getfield 75, 3) := by decide +kernel
theorem dX3_turn_27 : decode cX3_turn 27 = .ok (.iconst 2, 1) := by decide +kernel
theorem dX3_turn_28 : decode cX3_turn 28 = .ok (.if_icmp .ne 18, 3) := by decide +kernel
theorem dX3_turn_31 : decode cX3_turn 31 = .ok (.aload_n 0, 1) := by decide +kernel
theorem dX3_turn_32 : decode cX3_turn 32 = .ok (.getfield 102, 3) := by decide +kernel
theorem dX3_turn_35 : decode cX3_turn 35 = .ok (.aload_n 0, 1) := by decide +kernel
theorem dX3_turn_36 : decode cX3_turn 36 = .ok (.getfield 33, 3) := by decide +kernel
theorem dX3_turn_39 : decode cX3_turn 39 = .ok (.arraylength, 1) := by decide +kernel
theorem dX3_turn_40 : decode cX3_turn 40 = .ok (.iadd, 1) := by decide +kernel
theorem dX3_turn_41 : decode cX3_turn 41 = .ok (.iconst 4, 1) := by decide +kernel
theorem dX3_turn_42 : decode cX3_turn 42 = .ok (.irem, 1) := by decide +kernel
theorem dX3_turn_43 : decode cX3_turn 43 = .ok (.goto 4, 3) := by decide +kernel
theorem dX3_turn_46 : decode cX3_turn 46 = .ok (.iconst (-1), 1) := by decide +kernel
theorem dX3_turn_47 : decode cX3_turn 47 = .ok (.ireturn, 1) := by decide +kernel
theorem dX3_bid_0 : decode cX3_bid 0 = .ok (.aload_n 0, 1) := by decide +kernel
theorem dX3_bid_1 : decode cX3_bid 1 = .ok (.iload_n 1, 1) := by decide +kernel
theorem dX3_bid_2 : decode cX3_bid 2 = .ok (.invokevirtual 105, 3) := by decide +kernel
theorem dX3_bid_5 : decode cX3_bid 5 = .ok (.istore_n 2, 1) := by decide +kernel
theorem dX3_bid_6 : decode cX3_bid 6 = .ok (.aload_n 0, 1) := by decide +kernel
theorem dX3_bid_7 : decode cX3_bid 7 = .ok (.getfield 10, 3) := by decide +kernel
theorem dX3_bid_10 : decode cX3_bid 10 = .ok (.iload_n 1, 1) := by decide +kernel
theorem dX3_bid_11 : decode cX3_bid 11 = .ok (.invokevirtual 109, 3) := by decide +kernel
theorem dX3_bid_14 : decode cX3_bid 14 = .ok (.istore_n 3, 1) := by decide +kernel
theorem dX3_bid_15 : decode cX3_bid 15 = .ok (.iload_n 2, 1) := by decide +kernel
theorem dX3_bid_16 : decode cX3_bid 16 = .ok (.ifCond .ne 5, 3) := by decide +kernel
theorem dX3_bid_19 : decode cX3_bid 19 = .ok (.iconst 0, 1) := by decide +kernel
theorem dX3_bid_20 : decode cX3_bid 20 = .ok (.ireturn, 1) := by decide +kernel
theorem dX3_bid_21 : decode cX3_bid 21 = .ok (.aload_n 0, 1) := by decide +kernel
theorem dX3_bid_22 : decode cX3_bid 22 = .ok (.aload_n 0, 1) := by decide +kernel
theorem dX3_bid_23 : decode cX3_bid 23 = .ok (.getfield 21, 3) := by decide +kernel
theorem dX3_bid_26 : decode cX3_bid 26 = .ok (.iload_n 1, 1) := by decide +kernel
theorem dX3_bid_27 : decode cX3_bid 27 = .ok (.invokestatic 112, 3) := by decide +kernel
theorem dX3_bid_30 : decode cX3_bid 30 = .ok (.putfield 21, 3) := by decide +kernel
theorem dX3_bid_33 : decode cX3_bid 33 = .ok (.aload_n 0, 1) := by decide +kernel
theorem dX3_bid_34 : decode cX3_bid 34 = .ok (.invokevirtual 116, 3) := by decide +kernel
theorem dX3_bid_37 : decode cX3_bid 37 = .ok (.iload_n 3, 1) := by decide +kernel
theorem dX3_bid_38 : decode cX3_bid 38 = .ok (.aload_n 0, 1) := by decide +kernel
theorem dX3_bid_39 : decode cX3_bid 39 = .ok (.invokevirtual 119, 3) := by decide +kernel
theorem dX3_bid_42 : decode cX3_bid 42 = .ok (.if_icmp .ne 7, 3) := by decide +kernel
theorem dX3_bid_45 : decode cX3_bid 45 = .ok (.iconst 1, 1) := by decide +kernel
theorem dX3_bid_46 : decode cX3_bid 46 = .ok (.goto 4, 3) := by decide +kernel
theorem dX3_bid_49 : decode cX3_bid 49 = .ok (.iconst 0, 1) := by decide +kernel
theorem dX3_bid_50 : decode cX3_bid 50 = .ok (.ireturn, 1) := by decide +kernel
theorem dX3_bid_51 : decode cX3_bid 51 = .ok (.astore_n 3, 1) := by decide +kernel
theorem dX3_bid_52 : decode cX3_bid 52 = .ok (.iload_n 2, 1) := by decide +kernel
theorem dX3_bid_53 : decode cX3_bid 53 = .ok (.ifCond .ne 7, 3) := by decide +kernel
theorem dX3_bid_56 : decode cX3_bid 56 = .ok (.iconst 1, 1) := by decide +kernel
theorem dX3_bid_57 : decode cX3_bid 57 = .ok (.goto 4, 3) := by decide +kernel
theorem dX3_bid_60 : decode cX3_bid 60 = .ok (.iconst 0, 1) := by decide +kernel
theorem dX3_bid_61 : decode cX3_bid 61 = .ok (.ireturn, 1) := by decide +kernel
theorem dX3_conclude_0 : decode cX3_conclude 0 = .ok (.iconst 0, 1) := by decide +kernel
theorem dX3_conclude_1 : decode cX3_conclude 1 = .ok (.istore_n 1, 1) := by decide +kernel
theorem dX3_conclude_2 : decode cX3_conclude 2 = .ok (.iconst (-1), 1) := by decide +kernel
theorem dX3_conclude_3 : decode cX3_conclude 3 = .ok (.istore_n 2, 1) := by decide +kernel
theorem dX3_conclude_4 : decode cX3_conclude 4 = .ok (.iconst 1, 1) := by decide +kernel
theorem dX3_conclude_5 : decode cX3_conclude 5 = .ok (.istore_n 3, 1) := by decide +kernel
theorem dX3_conclude_6 : decode cX3_conclude 6 = .ok (.iconst 0, 1) := by decide +kernel
theorem dX3_conclude_7 : decode cX3_conclude 7 = .ok (.istore 4, 2) := by decide +kernel
theorem dX3_conclude_9 : decode cX3_conclude 9 = .ok (.iload 4, 2) := by decide +kernel
theorem dX3_conclude_11 : decode cX3_conclude 11 = .ok (.aload_n 0, 1) := by decide +kernel
theorem dX3_conclude_12 : decode cX3_conclude 12 = .ok (.getfield 21, 3) := by decide +kernel
theorem dX3_conclude_15 : decode cX3_conclude 15 = .ok (.arraylength, 1) := by decide +kernel
theorem dX3_conclude_16 : decode cX3_conclude 16 = .ok (.if_icmp .ge 74, 3) := by decide +kernel
theorem dX3_conclude_19 : decode cX3_conclude 19 = .ok (.aload_n 0, 1) := by decide +kernel
theorem dX3_conclude_20 : decode cX3_conclude 20 = .ok (.getfield 21, 3) := by decide +kernel
theorem dX3_conclude_23 : decode cX3_conclude 23 = .ok (.iload 4, 2) := by decide +kernel
theorem dX3_conclude_25 : decode cX3_conclude 25 = .ok (.iaload, 1) := by decide +kernel
theorem dX3_conclude_26 : decode cX3_conclude 26 = .ok (.ifCond .ne 9, 3) := by decide +kernel
theorem dX3_conclude_29 : decode cX3_conclude 29 = .ok (.iload_n 1, 1) := by decide +kernel
theorem dX3_conclude_30 : decode cX3_conclude 30 = .ok (.iconst 1, 1) := by decide +kernel
theorem dX3_conclude_31 : decode cX3_conclude 31 = .ok (.iadd, 1) := by decide +kernel
theorem dX3_conclude_32 : decode cX3_conclude 32 = .ok (.goto 4, 3) := by decide +kernel
theorem dX3_conclude_35 : decode cX3_conclude 35 = .ok (.iconst 0, 1) := by decide +kernel
theorem dX3_conclude_36 : decode cX3_conclude 36 = .ok (.istore_n 1, 1) := by decide +kernel
theorem dX3_conclude_37 : decode cX3_conclude 37 = .ok (.aload_n 0, 1) := by decide +kernel
theorem dX3_conclude_38 : decode cX3_conclude 38 = .ok (.getfield 21, 3) := by decide +kernel
theorem dX3_conclude_41 : decode cX3_conclude 41 = .ok (.iload 4, 2) := by decide +kernel
theorem dX3_conclude_43 : decode cX3_conclude 43 = .ok (.iaload, 1) := by decide +kernel
theorem dX3_conclude_44 : decode cX3_conclude 44 = .ok (.bipush 40, 2) := by decide +kernel
theorem dX3_conclude_46 : decode cX3_conclude 46 = .ok (.if_icmp .le 7, 3) := by decide +kernel
theorem dX3_conclude_49 : decode cX3_conclude 49 = .ok (.iload_n 3, 1) := by decide +kernel
theorem dX3_conclude_50 : decode cX3_conclude 50 = .ok (.iconst 2, 1) := by decide +kernel
theorem dX3_conclude_51 : decode cX3_conclude 51 = .ok (.imul, 1) := by decide +kernel
theorem dX3_conclude_52 : decode cX3_conclude 52 = .ok (.istore_n 3, 1) := by decide +kernel
theorem dX3_conclude_53 : decode cX3_conclude 53 = .ok (.aload_n 0, 1) := by decide +kernel
theorem dX3_conclude_54 : decode cX3_conclude 54 = .ok (.getfield 21, 3) := by decide +kernel
theorem dX3_conclude_57 : decode cX3_conclude 57 = .ok (.iload 4, 2) := by decide +kernel
theorem dX3_conclude_59 : decode cX3_conclude 59 = .ok (.iaload, 1) := by decide +kernel
theorem dX3_conclude_60 : decode cX3_conclude 60 = .ok (.iconst 1, 1) := by decide +kernel
theorem dX3_conclude_61 : decode cX3_conclude 61 = .ok (.if_icmp .lt 23, 3) := by decide +kernel
theorem dX3_conclude_64 : decode cX3_conclude 64 = .ok (.aload_n 0, 1) := by decide +kernel
theorem dX3_conclude_65 : decode cX3_conclude 65 = .ok (.getfield 21, 3) := by decide +kernel
theorem dX3_conclude_68 : decode cX3_conclude 68 = .ok (.iload 4, 2) := by decide +kernel
theorem dX3_conclude_70 : decode cX3_conclude 70 = .ok (.iaload, 1) := by decide +kernel
theorem dX3_conclude_71 : decode cX3_conclude 71 = .ok (.bipush 40, 2) := by decide +kernel
theorem dX3_conclude_73 : decode cX3_conclude 73 = .ok (.if_icmp .le 6, 3) := by decide +kernel
theorem dX3_conclude_76 : decode cX3_conclude 76 = .ok (.goto 8, 3) := by decide +kernel
theorem dX3_conclude_79 : decode cX3_conclude 79 = .ok (.iload 4, 2) := by decide +kernel
theorem dX3_conclude_81 : decode cX3_conclude 81 = .ok (.istore_n 2, 1) := by decide +kernel
theorem dX3_conclude_82 : decode cX3_conclude 82 = .ok (.iconst 1, 1) := by decide +kernel
theorem dX3_conclude_83 : decode cX3_conclude 83 = .ok (.istore_n 3, 1) := by decide +kernel
theorem dX3_conclude_84 : decode cX3_conclude 84 = .ok (.iinc 4 1, 3) := by decide +kernel
theorem dX3_conclude_87 : decode cX3_conclude 87 = .ok (.goto (-78), 3) := by decide +kernel
theorem dX3_conclude_90 : decode cX3_conclude 90 = .ok (.iload_n 2, 1) := by decide +kernel
theorem dX3_conclude_91 : decode cX3_conclude 91 = .ok (.ifCond .ge 13, 3) := by decide +kernel
theorem dX3_conclude_94 : decode cX3_conclude 94 = .ok (.iload_n 1, 1) := by decide +kernel
theorem dX3_conclude_95 : decode cX3_conclude 95 = .ok (.iconst 4, 1) := by decide +kernel
theorem dX3_conclude_96 : decode cX3_conclude 96 = .ok (.if_icmp .ne 8, 3) := by decide +kernel
theorem dX3_conclude_99 : decode cX3_conclude 99 = .ok (.aload_n 0, 1) := by decide +kernel
theorem dX3_conclude_100 : decode cX3_conclude 100 = .ok (.iconst 3, 1) := by decide +kernel
theorem dX3_conclude_101 : decode cX3_conclude 101 = .ok (.putfield 75, 3) := by decide +kernel
theorem dX3_conclude_104 : decode cX3_conclude 104 = .ok (.iload_n 2, 1) := by decide +kernel
theorem dX3_conclude_105 : decode cX3_conclude 105 = .ok (.ifCond .lt 8, 3) := by decide +kernel
theorem dX3_conclude_108 : decode cX3_conclude 108 = .ok (.iload_n 1, 1) := by decide +kernel
theorem dX3_conclude_109 : decode cX3_conclude 109 = .ok (.iconst 3, 1) := by decide +kernel
theorem dX3_conclude_110 : decode cX3_conclude 110 = .ok (.if_icmp .ge 4, 3) := by decide +kernel
theorem dX3_conclude_113 : decode cX3_conclude 113 = .ok (.return_, 1) := by decide +kernel
theorem dX3_conclude_114 : decode cX3_conclude 114 = .ok (.aload_n 0, 1) := by decide +kernel
theorem dX3_conclude_115 : decode cX3_conclude 115 = .ok (.getfield 21, 3) := by decide +kernel
theorem dX3_conclude_118 : decode cX3_conclude 118 = .ok (.iload_n 2, 1) := by decide +kernel
theorem dX3_conclude_119 : decode cX3_conclude 119 = .ok (.iaload, 1) := by decide +kernel
theorem dX3_conclude_120 : decode cX3_conclude 120 = .ok (.iconst 4, 1) := by decide +kernel
theorem dX3_conclude_121 : decode cX3_conclude 121 = .ok (.iadd, 1) := by decide +kernel
theorem dX3_conclude_122 : decode cX3_conclude 122 = .ok (.iconst 5, 1) := by decide +kernel
theorem dX3_conclude_123 : decode cX3_conclude 123 = .ok (.irem, 1) := by decide +kernel
theorem dX3_conclude_124 : decode cX3_conclude 124 = .ok (.istore 4, 2) := by decide +kernel
theorem dX3_conclude_126 : decode cX3_conclude 126 = .ok (.iload_n 2, 1) := by decide +kernel
theorem dX3_conclude_127 : decode cX3_conclude 127 = .ok (.istore 5, 2) := by decide +kernel
theorem dX3_conclude_129 : decode cX3_conclude 129 = .ok (.iload_n 2, 1) := by decide +kernel
theorem dX3_conclude_130 : decode cX3_conclude 130 = .ok (.istore 6, 2) := by decide +kernel
theorem dX3_conclude_132 : decode cX3_conclude 132 = .ok (.iload 6, 2) := by decide +kernel
theorem dX3_conclude_134 : decode cX3_conclude 134 = .ok (.ifCond .lt 51, 3) := by decide +kernel
theorem dX3_conclude_137 : decode cX3_conclude 137 = .ok (.aload_n 0, 1) := by decide +kernel
theorem dX3_conclude_138 : decode cX3_conclude 138 = .ok (.getfield 21, 3) := by decide +kernel
theorem dX3_conclude_141 : decode cX3_conclude 141 = .ok (.iload 6, 2) := by decide +kernel
theorem dX3_conclude_143 : decode cX3_conclude 143 = .ok (.iaload, 1) := by decide +kernel
theorem dX3_conclude_144 : decode cX3_conclude 144 = .ok (.ifCond .le 35, 3) := by decide +kernel
theorem dX3_conclude_147 : decode cX3_conclude 147 = .ok (.aload_n 0, 1) := by decide +kernel
theorem dX3_conclude_148 : decode cX3_conclude 148 = .ok (.getfield 21, 3) := by decide +kernel
theorem dX3_conclude_151 : decode cX3_conclude 151 = .ok (.iload 6, 2) := by decide +kernel
theorem dX3_conclude_153 : decode cX3_conclude 153 = .ok (.iaload, 1) := by decide +kernel
theorem dX3_conclude_154 : decode cX3_conclude 154 = .ok (.bipush 41, 2) := by decide +kernel
theorem dX3_conclude_156 : decode cX3_conclude 156 = .ok (.if_icmp .ge 23, 3) := by decide +kernel
theorem dX3_conclude_159 : decode cX3_conclude 159 = .ok (.aload_n 0, 1) := by decide +kernel
theorem dX3_conclude_160 : decode cX3_conclude 160 = .ok (.getfield 21, 3) := by decide +kernel
theorem dX3_conclude_163 : decode cX3_conclude 163 = .ok (.iload 6, 2) := by decide +kernel
theorem dX3_conclude_165 : decode cX3_conclude 165 = .ok (.iaload, 1) := by decide +kernel
theorem dX3_conclude_166 : decode cX3_conclude 166 = .ok (.iconst 4, 1) := by decide +kernel
theorem dX3_conclude_167 : decode cX3_conclude 167 = .ok (.iadd, 1) := by decide +kernel
theorem dX3_conclude_168 : decode cX3_conclude 168 = .ok (.iconst 5, 1) := by decide +kernel
theorem dX3_conclude_169 : decode cX3_conclude 169 = .ok (.irem, 1) := by decide +kernel
theorem dX3_conclude_170 : decode cX3_conclude 170 = .ok (.iload 4, 2) := by decide +kernel
theorem dX3_conclude_172 : decode cX3_conclude 172 = .ok (.if_icmp .ne 7, 3) := by decide +kernel
theorem dX3_conclude_175 : decode cX3_conclude 175 = .ok (.iload 6, 2) := by decide +kernel
theorem dX3_conclude_177 : decode cX3_conclude 177 = .ok (.istore 5, 2) := by decide +kernel
theorem dX3_conclude_179 : decode cX3_conclude 179 = .ok (.iinc 6 (-2), 3) := by decide +kernel
theorem dX3_conclude_182 : decode cX3_conclude 182 = .ok (.goto (-50), 3) := by decide +kernel
theorem dX3_conclude_185 : decode cX3_conclude 185 = .ok (.iconst 4, 1) := by decide +kernel
theorem dX3_conclude_186 : decode cX3_conclude 186 = .ok (.newarray .int, 2) := by decide +kernel
theorem dX3_conclude_188 : decode cX3_conclude 188 = .ok (.dup, 1) := by decide +kernel
theorem dX3_conclude_189 : decode cX3_conclude 189 = .ok (.iconst 0, 1) := by decide +kernel
theorem dX3_conclude_190 : decode cX3_conclude 190 = .ok (.aload_n 0, 1) := by decide +kernel
theorem dX3_conclude_191 : decode cX3_conclude 191 = .ok (.getfield 21, 3) := by decide +kernel
theorem dX3_conclude_194 : decode cX3_conclude 194 = .ok (.iload_n 2, 1) := by decide +kernel
theorem dX3_conclude_195 : decode cX3_conclude 195 = .ok (.iaload, 1) := by decide +kernel
theorem dX3_conclude_196 : decode cX3_conclude 196 = .ok (.iconst 4, 1) := by decide +kernel
theorem dX3_conclude_197 : decode cX3_conclude 197 = .ok (.iadd, 1) := by decide +kernel
theorem dX3_conclude_198 : decode cX3_conclude 198 = .ok (.iconst 5, 1) := by decide +kernel
theorem dX3_conclude_199 : decode cX3_conclude 199 = .ok (.idiv, 1) := by decide +kernel
theorem dX3_conclude_200 : decode cX3_conclude 200 = .ok (.iastore, 1) := by decide +kernel
theorem dX3_conclude_201 : decode cX3_conclude 201 = .ok (.dup, 1) := by decide +kernel
theorem dX3_conclude_202 : decode cX3_conclude 202 = .ok (.iconst 1, 1) := by decide +kernel
theorem dX3_conclude_203 : decode cX3_conclude 203 = .ok (.iload 4, 2) := by decide +kernel
theorem dX3_conclude_205 : decode cX3_conclude 205 = .ok (.iastore, 1) := by decide +kernel
theorem dX3_conclude_206 : decode cX3_conclude 206 = .ok (.dup, 1) := by decide +kernel
theorem dX3_conclude_207 : decode cX3_conclude 207 = .ok (.iconst 2, 1) := by decide +kernel
theorem dX3_conclude_208 : decode cX3_conclude 208 = .ok (.aload_n 0, 1) := by decide +kernel
theorem dX3_conclude_209 : decode cX3_conclude 209 = .ok (.getfield 82, 3) := by decide +kernel
theorem dX3_conclude_212 : decode cX3_conclude 212 = .ok (.iload 5, 2) := by decide +kernel
theorem dX3_conclude_214 : decode cX3_conclude 214 = .ok (.iadd, 1) := by decide +kernel
theorem dX3_conclude_215 : decode cX3_conclude 215 = .ok (.iconst 4, 1) := by decide +kernel
theorem dX3_conclude_216 : decode cX3_conclude 216 = .ok (.irem, 1) := by decide +kernel
theorem dX3_conclude_217 : decode cX3_conclude 217 = .ok (.iastore, 1) := by decide +kernel
theorem dX3_conclude_218 : decode cX3_conclude 218 = .ok (.dup, 1) := by decide +kernel
theorem dX3_conclude_219 : decode cX3_conclude 219 = .ok (.iconst 3, 1) := by decide +kernel
theorem dX3_conclude_220 : decode cX3_conclude 220 = .ok (.iload_n 3, 1) := by decide +kernel
theorem dX3_conclude_221 : decode cX3_conclude 221 = .ok (.iastore, 1) := by decide +kernel
theorem dX3_conclude_222 : decode cX3_conclude 222 = .ok (.astore 6, 2) := by decide +kernel
theorem dX3_conclude_224 : decode cX3_conclude 224 = .ok (.aload_n 0, 1) := by decide +kernel
theorem dX3_conclude_225 : decode cX3_conclude 225 = .ok (.aload 6, 2) := by decide +kernel
theorem dX3_conclude_227 : decode cX3_conclude 227 = .ok (.putfield 25, 3) := by decide +kernel
theorem dX3_conclude_230 : decode cX3_conclude 230 = .ok (.aload_n 0, 1) := by decide +kernel
theorem dX3_conclude_231 : decode cX3_conclude 231 = .ok (.aload 6, 2) := by decide +kernel
theorem dX3_conclude_233 : decode cX3_conclude 233 = .ok (.iconst 2, 1) := by decide +kernel
theorem dX3_conclude_234 : decode cX3_conclude 234 = .ok (.iaload, 1) := by decide +kernel
theorem dX3_conclude_235 : decode cX3_conclude 235 = .ok (.iconst 1, 1) := by decide +kernel
theorem dX3_conclude_236 : decode cX3_conclude 236 = .ok (.iadd, 1) := by decide +kernel
theorem dX3_conclude_237 : decode cX3_conclude 237 = .ok (.iconst 4, 1) := by decide +kernel
theorem dX3_conclude_238 : decode cX3_conclude 238 = .ok (.irem, 1) := by decide +kernel
theorem dX3_conclude_239 : decode cX3_conclude 239 = .ok (.putfield 102, 3) := by decide +kernel
theorem dX3_conclude_242 : decode cX3_conclude 242 = .ok (.aload_n 0, 1) := by decide +kernel
theorem dX3_conclude_243 : decode cX3_conclude 243 = .ok (.iconst 2, 1) := by decide +kernel
theorem dX3_conclude_244 : decode cX3_conclude 244 = .ok (.putfield 75, 3) := by decide +kernel
theorem dX3_conclude_247 : decode cX3_conclude 247 = .ok (.return_, 1) := by decide +kernel
theorem dX3_mustFollow_0 : decode cX3_mustFollow 0 = .ok (.aload_n 0, 1) := by decide +kernel
theorem dX3_mustFollow_1 : decode cX3_mustFollow 1 = .ok (.getfield 33, 3) := by decide +kernel
theorem dX3_mustFollow_4 : decode cX3_mustFollow 4 = .ok (.arraylength, 1) := by decide +kernel
theorem dX3_mustFollow_5 : decode cX3_mustFollow 5 = .ok (.ifCond .ne 5, 3) := by decide +kernel
theorem dX3_mustFollow_8 : decode cX3_mustFollow 8 = .ok (.iconst 0, 1) := by decide +kernel
theorem dX3_mustFollow_9 : decode cX3_mustFollow 9 = .ok (.ireturn, 1) := by decide +kernel
theorem dX3_mustFollow_10 : decode cX3_mustFollow 10 = .ok (.iconst 0, 1) := by decide +kernel
theorem dX3_mustFollow_11 : decode cX3_mustFollow 11 = .ok (.istore_n 2, 1) := by decide +kernel
theorem dX3_mustFollow_12 : decode cX3_mustFollow 12 = .ok (.iload_n 2, 1) := by decide +kernel
theorem dX3_mustFollow_13 : decode cX3_mustFollow 13 = .ok (.bipush 32, 2) := by decide +kernel
theorem dX3_mustFollow_15 : decode cX3_mustFollow 15 = .ok (.if_icmp .ge 38, 3) := by decide +kernel
theorem dX3_mustFollow_18 : decode cX3_mustFollow 18 = .ok (.aload_n 0, 1) := by decide +kernel
theorem dX3_mustFollow_19 : decode cX3_mustFollow 19 = .ok (.getfield 18, 3) := by decide +kernel
theorem dX3_mustFollow_22 : decode cX3_mustFollow 22 = .ok (.iload_n 1, 1) := by decide +kernel
theorem dX3_mustFollow_23 : decode cX3_mustFollow 23 = .ok (.aaload, 1) := by decide +kernel
theorem dX3_mustFollow_24 : decode cX3_mustFollow 24 = .ok (.iload_n 2, 1) := by decide +kernel
theorem dX3_mustFollow_25 : decode cX3_mustFollow 25 = .ok (.baload, 1) := by decide +kernel
theorem dX3_mustFollow_26 : decode cX3_mustFollow 26 = .ok (.ifCond .eq 21, 3) := by decide +kernel
theorem dX3_mustFollow_29 : decode cX3_mustFollow 29 = .ok (.iload_n 2, 1) := by decide +kernel
theorem dX3_mustFollow_30 : decode cX3_mustFollow 30 = .ok (.bipush 8, 2) := by decide +kernel
theorem dX3_mustFollow_32 : decode cX3_mustFollow 32 = .ok (.idiv, 1) := by decide +kernel
theorem dX3_mustFollow_33 : decode cX3_mustFollow 33 = .ok (.aload_n 0, 1) := by decide +kernel
theorem dX3_mustFollow_34 : decode cX3_mustFollow 34 = .ok (.getfield 33, 3) := by decide +kernel
theorem dX3_mustFollow_37 : decode cX3_mustFollow 37 = .ok (.iconst 0, 1) := by decide +kernel
theorem dX3_mustFollow_38 : decode cX3_mustFollow 38 = .ok (.iaload, 1) := by decide +kernel
theorem dX3_mustFollow_39 : decode cX3_mustFollow 39 = .ok (.bipush 8, 2) := by decide +kernel
theorem dX3_mustFollow_41 : decode cX3_mustFollow 41 = .ok (.idiv, 1) := by decide +kernel
theorem dX3_mustFollow_42 : decode cX3_mustFollow 42 = .ok (.if_icmp .ne 5, 3) := by decide +kernel
theorem dX3_mustFollow_45 : decode cX3_mustFollow 45 = .ok (.iconst 1, 1) := by decide +kernel
theorem dX3_mustFollow_46 : decode cX3_mustFollow 46 = .ok (.ireturn, 1) := by decide +kernel
theorem dX3_mustFollow_47 : decode cX3_mustFollow 47 = .ok (.iinc 2 1, 3) := by decide +kernel
theorem dX3_mustFollow_50 : decode cX3_mustFollow 50 = .ok (.goto (-38), 3) := by decide +kernel
theorem dX3_mustFollow_53 : decode cX3_mustFollow 53 = .ok (.iconst 0, 1) := by decide +kernel
theorem dX3_mustFollow_54 : decode cX3_mustFollow 54 = .ok (.ireturn, 1) := by decide +kernel
theorem dX3_isRight_0 : decode cX3_isRight 0 = .ok (.aload_n 0, 1) := by decide +kernel
theorem dX3_isRight_1 : decode cX3_isRight 1 = .ok (.getfield 18, 3) := by decide +kernel
theorem dX3_isRight_4 : decode cX3_isRight 4 = .ok (.iload_n 1, 1) := by decide +kernel
theorem dX3_isRight_5 : decode cX3_isRight 5 = .ok (.aaload, 1) := by decide +kernel
theorem dX3_isRight_6 : decode cX3_isRight 6 = .ok (.iload_n 2, 1) := by decide +kernel
theorem dX3_isRight_7 : decode cX3_isRight 7 = .ok (.baload, 1) := by decide +kernel
theorem dX3_isRight_8 : decode cX3_isRight 8 = .ok (.ifCond .eq 31, 3) := by decide +kernel
theorem dX3_isRight_11 : decode cX3_isRight 11 = .ok (.aload_n 0, 1) := by decide +kernel
theorem dX3_isRight_12 : decode cX3_isRight 12 = .ok (.iload_n 1, 1) := by decide +kernel
theorem dX3_isRight_13 : decode cX3_isRight 13 = .ok (.invokevirtual 126, 3) := by decide +kernel
theorem dX3_isRight_16 : decode cX3_isRight 16 = .ok (.ifCond .eq 19, 3) := by decide +kernel
theorem dX3_isRight_19 : decode cX3_isRight 19 = .ok (.iload_n 2, 1) := by decide +kernel
theorem dX3_isRight_20 : decode cX3_isRight 20 = .ok (.bipush 8, 2) := by decide +kernel
theorem dX3_isRight_22 : decode cX3_isRight 22 = .ok (.idiv, 1) := by decide +kernel
theorem dX3_isRight_23 : decode cX3_isRight 23 = .ok (.aload_n 0, 1) := by decide +kernel
theorem dX3_isRight_24 : decode cX3_isRight 24 = .ok (.getfield 33, 3) := by decide +kernel
theorem dX3_isRight_27 : decode cX3_isRight 27 = .ok (.iconst 0, 1) := by decide +kernel
theorem dX3_isRight_28 : decode cX3_isRight 28 = .ok (.iaload, 1) := by decide +kernel
theorem dX3_isRight_29 : decode cX3_isRight 29 = .ok (.bipush 8, 2) := by decide +kernel
theorem dX3_isRight_31 : decode cX3_isRight 31 = .ok (.idiv, 1) := by decide +kernel
theorem dX3_isRight_32 : decode cX3_isRight 32 = .ok (.if_icmp .ne 7, 3) := by decide +kernel
theorem dX3_isRight_35 : decode cX3_isRight 35 = .ok (.iconst 1, 1) := by decide +kernel
theorem dX3_isRight_36 : decode cX3_isRight 36 = .ok (.goto 4, 3) := by decide +kernel
theorem dX3_isRight_39 : decode cX3_isRight 39 = .ok (.iconst 0, 1) := by decide +kernel
theorem dX3_isRight_40 : decode cX3_isRight 40 = .ok (.ireturn, 1) := by decide +kernel
theorem dX3_taker_0 : decode cX3_taker 0 = .ok (.iconst (-1), 1) := by decide +kernel
theorem dX3_taker_1 : decode cX3_taker 1 = .ok (.istore_n 3, 1) := by decide +kernel
theorem dX3_taker_2 : decode cX3_taker 2 = .ok (.iconst (-1), 1) := by decide +kernel
theorem dX3_taker_3 : decode cX3_taker 3 = .ok (.istore 4, 2) := by decide +kernel
theorem dX3_taker_5 : decode cX3_taker 5 = .ok (.iconst 0, 1) := by decide +kernel
theorem dX3_taker_6 : decode cX3_taker 6 = .ok (.istore 5, 2) := by decide +kernel
theorem dX3_taker_8 : decode cX3_taker 8 = .ok (.iload 5, 2) := by decide +kernel
theorem dX3_taker_10 : decode cX3_taker 10 = .ok (.aload_n 1, 1) := by decide +kernel
theorem dX3_taker_11 : decode cX3_taker 11 = .ok (.arraylength, 1) := by decide +kernel
theorem dX3_taker_12 : decode cX3_taker 12 = .ok (.if_icmp .ge 75, 3) := by decide +kernel
theorem dX3_taker_15 : decode cX3_taker 15 = .ok (.aload_n 1, 1) := by decide +kernel
theorem dX3_taker_16 : decode cX3_taker 16 = .ok (.iload 5, 2) := by decide +kernel
theorem dX3_taker_18 : decode cX3_taker 18 = .ok (.iaload, 1) := by decide +kernel
theorem dX3_taker_19 : decode cX3_taker 19 = .ok (.bipush 8, 2) := by decide +kernel
theorem dX3_taker_21 : decode cX3_taker 21 = .ok (.idiv, 1) := by decide +kernel
theorem dX3_taker_22 : decode cX3_taker 22 = .ok (.iload_n 2, 1) := by decide +kernel
theorem dX3_taker_23 : decode cX3_taker 23 = .ok (.if_icmp .ne 13, 3) := by decide +kernel
theorem dX3_taker_26 : decode cX3_taker 26 = .ok (.bipush 100, 2) := by decide +kernel
theorem dX3_taker_28 : decode cX3_taker 28 = .ok (.aload_n 1, 1) := by decide +kernel
theorem dX3_taker_29 : decode cX3_taker 29 = .ok (.iload 5, 2) := by decide +kernel
theorem dX3_taker_31 : decode cX3_taker 31 = .ok (.iaload, 1) := by decide +kernel
theorem dX3_taker_32 : decode cX3_taker 32 = .ok (.iadd, 1) := by decide +kernel
theorem dX3_taker_33 : decode cX3_taker 33 = .ok (.goto 27, 3) := by decide +kernel
theorem dX3_taker_36 : decode cX3_taker 36 = .ok (.aload_n 1, 1) := by decide +kernel
theorem dX3_taker_37 : decode cX3_taker 37 = .ok (.iload 5, 2) := by decide +kernel
theorem dX3_taker_39 : decode cX3_taker 39 = .ok (.iaload, 1) := by decide +kernel
theorem dX3_taker_40 : decode cX3_taker 40 = .ok (.bipush 8, 2) := by decide +kernel
theorem dX3_taker_42 : decode cX3_taker 42 = .ok (.idiv, 1) := by decide +kernel
theorem dX3_taker_43 : decode cX3_taker 43 = .ok (.aload_n 1, 1) := by decide +kernel
theorem dX3_taker_44 : decode cX3_taker 44 = .ok (.iconst 0, 1) := by decide +kernel
theorem dX3_taker_45 : decode cX3_taker 45 = .ok (.iaload, 1) := by decide +kernel
theorem dX3_taker_46 : decode cX3_taker 46 = .ok (.bipush 8, 2) := by decide +kernel
theorem dX3_taker_48 : decode cX3_taker 48 = .ok (.idiv, 1) := by decide +kernel
theorem dX3_taker_49 : decode cX3_taker 49 = .ok (.if_icmp .ne 10, 3) := by decide +kernel
theorem dX3_taker_52 : decode cX3_taker 52 = .ok (.aload_n 1, 1) := by decide +kernel
theorem dX3_taker_53 : decode cX3_taker 53 = .ok (.iload 5, 2) := by decide +kernel
theorem dX3_taker_55 : decode cX3_taker 55 = .ok (.iaload, 1) := by decide +kernel
theorem dX3_taker_56 : decode cX3_taker 56 = .ok (.goto 4, 3) := by decide +kernel
theorem dX3_taker_59 : decode cX3_taker 59 = .ok (.iconst (-1), 1) := by decide +kernel
theorem dX3_taker_60 : decode cX3_taker 60 = .ok (.istore 6, 2) := by decide +kernel
theorem dX3_taker_62 : decode cX3_taker 62 = .ok (.iload 6, 2) := by decide +kernel
theorem dX3_taker_64 : decode cX3_taker 64 = .ok (.iload 4, 2) := by decide +kernel
theorem dX3_taker_66 : decode cX3_taker 66 = .ok (.if_icmp .le 6, 3) := by decide +kernel
theorem dX3_taker_69 : decode cX3_taker 69 = .ok (.iload 5, 2) := by decide +kernel
theorem dX3_taker_71 : decode cX3_taker 71 = .ok (.istore_n 3, 1) := by decide +kernel
theorem dX3_taker_72 : decode cX3_taker 72 = .ok (.iload 4, 2) := by decide +kernel
theorem dX3_taker_74 : decode cX3_taker 74 = .ok (.iload 6, 2) := by decide +kernel
theorem dX3_taker_76 : decode cX3_taker 76 = .ok (.invokestatic 129, 3) := by decide +kernel
theorem dX3_taker_79 : decode cX3_taker 79 = .ok (.istore 4, 2) := by decide +kernel
theorem dX3_taker_81 : decode cX3_taker 81 = .ok (.iinc 5 1, 3) := by decide +kernel
theorem dX3_taker_84 : decode cX3_taker 84 = .ok (.goto (-76), 3) := by decide +kernel
theorem dX3_taker_87 : decode cX3_taker 87 = .ok (.iload_n 3, 1) := by decide +kernel
theorem dX3_taker_88 : decode cX3_taker 88 = .ok (.ifCond .ge 7, 3) := by decide +kernel
theorem dX3_taker_91 : decode cX3_taker 91 = .ok (.iconst (-1), 1) := by decide +kernel
theorem dX3_taker_92 : decode cX3_taker 92 = .ok (.goto 11, 3) := by decide +kernel
theorem dX3_taker_95 : decode cX3_taker 95 = .ok (.aload_n 0, 1) := by decide +kernel
theorem dX3_taker_96 : decode cX3_taker 96 = .ok (.getfield 102, 3) := by decide +kernel
theorem dX3_taker_99 : decode cX3_taker 99 = .ok (.iload_n 3, 1) := by decide +kernel
theorem dX3_taker_100 : decode cX3_taker 100 = .ok (.iadd, 1) := by decide +kernel
theorem dX3_taker_101 : decode cX3_taker 101 = .ok (.iconst 4, 1) := by decide +kernel
theorem dX3_taker_102 : decode cX3_taker 102 = .ok (.irem, 1) := by decide +kernel
theorem dX3_taker_103 : decode cX3_taker 103 = .ok (.ireturn, 1) := by decide +kernel
theorem dX3_any_0 : decode cX3_any 0 = .ok (.aload_n 0, 1) := by decide +kernel
theorem dX3_any_1 : decode cX3_any 1 = .ok (.invokevirtual 119, 3) := by decide +kernel
theorem dX3_any_4 : decode cX3_any 4 = .ok (.istore_n 2, 1) := by decide +kernel
theorem dX3_any_5 : decode cX3_any 5 = .ok (.iconst 0, 1) := by decide +kernel
theorem dX3_any_6 : decode cX3_any 6 = .ok (.istore_n 3, 1) := by decide +kernel
theorem dX3_any_7 : decode cX3_any 7 = .ok (.iconst 0, 1) := by decide +kernel
theorem dX3_any_8 : decode cX3_any 8 = .ok (.istore 4, 2) := by decide +kernel
theorem dX3_any_10 : decode cX3_any 10 = .ok (.iload 4, 2) := by decide +kernel
theorem dX3_any_12 : decode cX3_any 12 = .ok (.bipush 32, 2) := by decide +kernel
theorem dX3_any_14 : decode cX3_any 14 = .ok (.if_icmp .ge 51, 3) := by decide +kernel
theorem dX3_any_17 : decode cX3_any 17 = .ok (.iload_n 3, 1) := by decide +kernel
theorem dX3_any_18 : decode cX3_any 18 = .ok (.iload_n 1, 1) := by decide +kernel
theorem dX3_any_19 : decode cX3_any 19 = .ok (.ifCond .eq 21, 3) := by decide +kernel
theorem dX3_any_22 : decode cX3_any 22 = .ok (.aload_n 0, 1) := by decide +kernel
theorem dX3_any_23 : decode cX3_any 23 = .ok (.iload_n 2, 1) := by decide +kernel
theorem dX3_any_24 : decode cX3_any 24 = .ok (.iload 4, 2) := by decide +kernel
theorem dX3_any_26 : decode cX3_any 26 = .ok (.invokevirtual 134, 3) := by decide +kernel
theorem dX3_any_29 : decode cX3_any 29 = .ok (.ifCond .eq 7, 3) := by decide +kernel
theorem dX3_any_32 : decode cX3_any 32 = .ok (.iconst 1, 1) := by decide +kernel
theorem dX3_any_33 : decode cX3_any 33 = .ok (.goto 24, 3) := by decide +kernel
theorem dX3_any_36 : decode cX3_any 36 = .ok (.iconst 0, 1) := by decide +kernel
theorem dX3_any_37 : decode cX3_any 37 = .ok (.goto 20, 3) := by decide +kernel
theorem dX3_any_40 : decode cX3_any 40 = .ok (.aload_n 0, 1) := by decide +kernel
theorem dX3_any_41 : decode cX3_any 41 = .ok (.getfield 18, 3) := by decide +kernel
theorem dX3_any_44 : decode cX3_any 44 = .ok (.iload_n 2, 1) := by decide +kernel
theorem dX3_any_45 : decode cX3_any 45 = .ok (.aaload, 1) := by decide +kernel
theorem dX3_any_46 : decode cX3_any 46 = .ok (.iload 4, 2) := by decide +kernel
theorem dX3_any_48 : decode cX3_any 48 = .ok (.baload, 1) := by decide +kernel
theorem dX3_any_49 : decode cX3_any 49 = .ok (.ifCond .eq 7, 3) := by decide +kernel
theorem dX3_any_52 : decode cX3_any 52 = .ok (.iconst 1, 1) := by decide +kernel
theorem dX3_any_53 : decode cX3_any 53 = .ok (.goto 4, 3) := by decide +kernel
theorem dX3_any_56 : decode cX3_any 56 = .ok (.iconst 0, 1) := by decide +kernel
theorem dX3_any_57 : decode cX3_any 57 = .ok (.iadd, 1) := by decide +kernel
theorem dX3_any_58 : decode cX3_any 58 = .ok (.istore_n 3, 1) := by decide +kernel
theorem dX3_any_59 : decode cX3_any 59 = .ok (.iinc 4 1, 3) := by decide +kernel
theorem dX3_any_62 : decode cX3_any 62 = .ok (.goto (-52), 3) := by decide +kernel
theorem dX3_any_65 : decode cX3_any 65 = .ok (.aload_n 0, 1) := by decide +kernel
theorem dX3_any_66 : decode cX3_any 66 = .ok (.iload_n 3, 1) := by decide +kernel
theorem dX3_any_67 : decode cX3_any 67 = .ok (.invokevirtual 78, 3) := by decide +kernel
theorem dX3_any_70 : decode cX3_any 70 = .ok (.istore 4, 2) := by decide +kernel
theorem dX3_any_72 : decode cX3_any 72 = .ok (.iconst 0, 1) := by decide +kernel
theorem dX3_any_73 : decode cX3_any 73 = .ok (.istore 5, 2) := by decide +kernel
theorem dX3_any_75 : decode cX3_any 75 = .ok (.iload 5, 2) := by decide +kernel
theorem dX3_any_77 : decode cX3_any 77 = .ok (.bipush 32, 2) := by decide +kernel
theorem dX3_any_79 : decode cX3_any 79 = .ok (.if_icmp .ge 49, 3) := by decide +kernel
theorem dX3_any_82 : decode cX3_any 82 = .ok (.iload_n 1, 1) := by decide +kernel
theorem dX3_any_83 : decode cX3_any 83 = .ok (.ifCond .eq 16, 3) := by decide +kernel
theorem dX3_any_86 : decode cX3_any 86 = .ok (.aload_n 0, 1) := by decide +kernel
theorem dX3_any_87 : decode cX3_any 87 = .ok (.iload_n 2, 1) := by decide +kernel
theorem dX3_any_88 : decode cX3_any 88 = .ok (.iload 5, 2) := by decide +kernel
theorem dX3_any_90 : decode cX3_any 90 = .ok (.invokevirtual 134, 3) := by decide +kernel
theorem dX3_any_93 : decode cX3_any 93 = .ok (.ifCond .eq 29, 3) := by decide +kernel
theorem dX3_any_96 : decode cX3_any 96 = .ok (.goto 15, 3) := by decide +kernel
theorem dX3_any_99 : decode cX3_any 99 = .ok (.aload_n 0, 1) := by decide +kernel
theorem dX3_any_100 : decode cX3_any 100 = .ok (.getfield 18, 3) := by decide +kernel
theorem dX3_any_103 : decode cX3_any 103 = .ok (.iload_n 2, 1) := by decide +kernel
theorem dX3_any_104 : decode cX3_any 104 = .ok (.aaload, 1) := by decide +kernel
theorem dX3_any_105 : decode cX3_any 105 = .ok (.iload 5, 2) := by decide +kernel
theorem dX3_any_107 : decode cX3_any 107 = .ok (.baload, 1) := by decide +kernel
theorem dX3_any_108 : decode cX3_any 108 = .ok (.ifCond .eq 14, 3) := by decide +kernel
theorem dX3_any_111 : decode cX3_any 111 = .ok (.iload 4, 2) := by decide +kernel
theorem dX3_any_113 : decode cX3_any 113 = .ok (.iinc 4 (-1), 3) := by decide +kernel
theorem dX3_any_116 : decode cX3_any 116 = .ok (.ifCond .ne 6, 3) := by decide +kernel
theorem dX3_any_119 : decode cX3_any 119 = .ok (.iload 5, 2) := by decide +kernel
theorem dX3_any_121 : decode cX3_any 121 = .ok (.ireturn, 1) := by decide +kernel
theorem dX3_any_122 : decode cX3_any 122 = .ok (.iinc 5 1, 3) := by decide +kernel
theorem dX3_any_125 : decode cX3_any 125 = .ok (.goto (-50), 3) := by decide +kernel
theorem dX3_any_128 : decode cX3_any 128 = .ok (.iconst (-1), 1) := by decide +kernel
theorem dX3_any_129 : decode cX3_any 129 = .ok (.ireturn, 1) := by decide +kernel
theorem dX3_play_0 : decode cX3_play 0 = .ok (.aload_n 0, 1) := by decide +kernel
theorem dX3_play_1 : decode cX3_play 1 = .ok (.invokevirtual 119, 3) := by decide +kernel
theorem dX3_play_4 : decode cX3_play 4 = .ok (.istore_n 2, 1) := by decide +kernel
theorem dX3_play_5 : decode cX3_play 5 = .ok (.aload_n 0, 1) := by decide +kernel
theorem dX3_play_6 : decode cX3_play 6 = .ok (.getfield 40, 3) := by decide +kernel
theorem dX3_play_9 : decode cX3_play 9 = .ok (.aload_n 0, 1) := by decide +kernel
theorem dX3_play_10 : decode cX3_play 10 = .ok (.getfield 33, 3) := by decide +kernel
theorem dX3_play_13 : decode cX3_play 13 = .ok (.arraylength, 1) := by decide +kernel
theorem dX3_play_14 : decode cX3_play 14 = .ok (.aload_n 0, 1) := by decide +kernel
theorem dX3_play_15 : decode cX3_play 15 = .ok (.iload_n 2, 1) := by decide +kernel
theorem dX3_play_16 : decode cX3_play 16 = .ok (.iload_n 1, 1) := by decide +kernel
theorem dX3_play_17 : decode cX3_play 17 = .ok (.invokevirtual 134, 3) := by decide +kernel
theorem dX3_play_20 : decode cX3_play 20 = .ok (.ifCond .ne 7, 3) := by decide +kernel
theorem dX3_play_23 : decode cX3_play 23 = .ok (.iconst 1, 1) := by decide +kernel
theorem dX3_play_24 : decode cX3_play 24 = .ok (.goto 4, 3) := by decide +kernel
theorem dX3_play_27 : decode cX3_play 27 = .ok (.iconst 0, 1) := by decide +kernel
theorem dX3_play_28 : decode cX3_play 28 = .ok (.bastore, 1) := by decide +kernel
theorem dX3_play_29 : decode cX3_play 29 = .ok (.aload_n 0, 1) := by decide +kernel
theorem dX3_play_30 : decode cX3_play 30 = .ok (.getfield 43, 3) := by decide +kernel
theorem dX3_play_33 : decode cX3_play 33 = .ok (.aload_n 0, 1) := by decide +kernel
theorem dX3_play_34 : decode cX3_play 34 = .ok (.getfield 33, 3) := by decide +kernel
theorem dX3_play_37 : decode cX3_play 37 = .ok (.arraylength, 1) := by decide +kernel
theorem dX3_play_38 : decode cX3_play 38 = .ok (.aload_n 0, 1) := by decide +kernel
theorem dX3_play_39 : decode cX3_play 39 = .ok (.getfield 36, 3) := by decide +kernel
theorem dX3_play_42 : decode cX3_play 42 = .ok (.iload_n 2, 1) := by decide +kernel
theorem dX3_play_43 : decode cX3_play 43 = .ok (.baload, 1) := by decide +kernel
theorem dX3_play_44 : decode cX3_play 44 = .ok (.bastore, 1) := by decide +kernel
theorem dX3_play_45 : decode cX3_play 45 = .ok (.aload_n 0, 1) := by decide +kernel
theorem dX3_play_46 : decode cX3_play 46 = .ok (.getfield 36, 3) := by decide +kernel
theorem dX3_play_49 : decode cX3_play 49 = .ok (.iload_n 2, 1) := by decide +kernel
theorem dX3_play_50 : decode cX3_play 50 = .ok (.dup2, 1) := by decide +kernel
theorem dX3_play_51 : decode cX3_play 51 = .ok (.baload, 1) := by decide +kernel
theorem dX3_play_52 : decode cX3_play 52 = .ok (.aload_n 0, 1) := by decide +kernel
theorem dX3_play_53 : decode cX3_play 53 = .ok (.getfield 40, 3) := by decide +kernel
theorem dX3_play_56 : decode cX3_play 56 = .ok (.aload_n 0, 1) := by decide +kernel
theorem dX3_play_57 : decode cX3_play 57 = .ok (.getfield 33, 3) := by decide +kernel
theorem dX3_play_60 : decode cX3_play 60 = .ok (.arraylength, 1) := by decide +kernel
theorem dX3_play_61 : decode cX3_play 61 = .ok (.baload, 1) := by decide +kernel
theorem dX3_play_62 : decode cX3_play 62 = .ok (.ior, 1) := by decide +kernel
theorem dX3_play_63 : decode cX3_play 63 = .ok (.bastore, 1) := by decide +kernel
theorem dX3_play_64 : decode cX3_play 64 = .ok (.aload_n 0, 1) := by decide +kernel
theorem dX3_play_65 : decode cX3_play 65 = .ok (.getfield 18, 3) := by decide +kernel
theorem dX3_play_68 : decode cX3_play 68 = .ok (.iload_n 2, 1) := by decide +kernel
theorem dX3_play_69 : decode cX3_play 69 = .ok (.aaload, 1) := by decide +kernel
theorem dX3_play_70 : decode cX3_play 70 = .ok (.iload_n 1, 1) := by decide +kernel
theorem dX3_play_71 : decode cX3_play 71 = .ok (.iconst 0, 1) := by decide +kernel
theorem dX3_play_72 : decode cX3_play 72 = .ok (.bastore, 1) := by decide +kernel
theorem dX3_play_73 : decode cX3_play 73 = .ok (.aload_n 0, 1) := by decide +kernel
theorem dX3_play_74 : decode cX3_play 74 = .ok (.aload_n 0, 1) := by decide +kernel
theorem dX3_play_75 : decode cX3_play 75 = .ok (.getfield 33, 3) := by decide +kernel
theorem dX3_play_78 : decode cX3_play 78 = .ok (.iload_n 1, 1) := by decide +kernel
theorem dX3_play_79 : decode cX3_play 79 = .ok (.invokestatic 112, 3) := by decide +kernel
theorem dX3_play_82 : decode cX3_play 82 = .ok (.putfield 33, 3) := by decide +kernel
theorem dX3_play_85 : decode cX3_play 85 = .ok (.aload_n 0, 1) := by decide +kernel
theorem dX3_play_86 : decode cX3_play 86 = .ok (.getfield 33, 3) := by decide +kernel
theorem dX3_play_89 : decode cX3_play 89 = .ok (.arraylength, 1) := by decide +kernel
theorem dX3_play_90 : decode cX3_play 90 = .ok (.iconst 4, 1) := by decide +kernel
theorem dX3_play_91 : decode cX3_play 91 = .ok (.if_icmp .ne 7, 3) := by decide +kernel
theorem dX3_play_94 : decode cX3_play 94 = .ok (.aload_n 0, 1) := by decide +kernel
theorem dX3_play_95 : decode cX3_play 95 = .ok (.invokevirtual 138, 3) := by decide +kernel
theorem dX3_play_98 : decode cX3_play 98 = .ok (.aload_n 0, 1) := by decide +kernel
theorem dX3_play_99 : decode cX3_play 99 = .ok (.getfield 10, 3) := by decide +kernel
theorem dX3_play_102 : decode cX3_play 102 = .ok (.iload_n 1, 1) := by decide +kernel
theorem dX3_play_103 : decode cX3_play 103 = .ok (.invokevirtual 141, 3) := by decide +kernel
theorem dX3_play_106 : decode cX3_play 106 = .ok (.aload_n 0, 1) := by decide +kernel
theorem dX3_play_107 : decode cX3_play 107 = .ok (.invokevirtual 119, 3) := by decide +kernel
theorem dX3_play_110 : decode cX3_play 110 = .ok (.if_icmp .ne 7, 3) := by decide +kernel
theorem dX3_play_113 : decode cX3_play 113 = .ok (.iconst 1, 1) := by decide +kernel
theorem dX3_play_114 : decode cX3_play 114 = .ok (.goto 4, 3) := by decide +kernel
theorem dX3_play_117 : decode cX3_play 117 = .ok (.iconst 0, 1) := by decide +kernel
theorem dX3_play_118 : decode cX3_play 118 = .ok (.ireturn, 1) := by decide +kernel
theorem dX3_end_0 : decode cX3_end 0 = .ok (.aload_n 0, 1) := by decide +kernel
theorem dX3_end_1 : decode cX3_end 1 = .ok (.aload_n 0, 1) := by decide +kernel
theorem dX3_end_2 : decode cX3_end 2 = .ok (.getfield 33, 3) := by decide +kernel
theorem dX3_end_5 : decode cX3_end 5 = .ok (.aload_n 0, 1) := by decide +kernel
theorem dX3_end_6 : decode cX3_end 6 = .ok (.getfield 25, 3) := by decide +kernel
theorem dX3_end_9 : decode cX3_end 9 = .ok (.iconst 1, 1) := by decide +kernel
theorem dX3_end_10 : decode cX3_end 10 = .ok (.iaload, 1) := by decide +kernel
theorem dX3_end_11 : decode cX3_end 11 = .ok (.invokevirtual 144, 3) := by decide +kernel
theorem dX3_end_14 : decode cX3_end 14 = .ok (.istore_n 1, 1) := by decide +kernel
theorem dX3_end_15 : decode cX3_end 15 = .ok (.bipush 6, 2) := by decide +kernel
theorem dX3_end_17 : decode cX3_end 17 = .ok (.newarray .int, 2) := by decide +kernel
theorem dX3_end_19 : decode cX3_end 19 = .ok (.dup, 1) := by decide +kernel
theorem dX3_end_20 : decode cX3_end 20 = .ok (.iconst 0, 1) := by decide +kernel
theorem dX3_end_21 : decode cX3_end 21 = .ok (.aload_n 0, 1) := by decide +kernel
theorem dX3_end_22 : decode cX3_end 22 = .ok (.getfield 102, 3) := by decide +kernel
theorem dX3_end_25 : decode cX3_end 25 = .ok (.iastore, 1) := by decide +kernel
theorem dX3_end_26 : decode cX3_end 26 = .ok (.dup, 1) := by decide +kernel
theorem dX3_end_27 : decode cX3_end 27 = .ok (.iconst 1, 1) := by decide +kernel
theorem dX3_end_28 : decode cX3_end 28 = .ok (.iload_n 1, 1) := by decide +kernel
theorem dX3_end_29 : decode cX3_end 29 = .ok (.iastore, 1) := by decide +kernel
theorem dX3_end_30 : decode cX3_end 30 = .ok (.dup, 1) := by decide +kernel
theorem dX3_end_31 : decode cX3_end 31 = .ok (.iconst 2, 1) := by decide +kernel
theorem dX3_end_32 : decode cX3_end 32 = .ok (.iconst 0, 1) := by decide +kernel
theorem dX3_end_33 : decode cX3_end 33 = .ok (.iastore, 1) := by decide +kernel
theorem dX3_end_34 : decode cX3_end 34 = .ok (.dup, 1) := by decide +kernel
theorem dX3_end_35 : decode cX3_end 35 = .ok (.iconst 3, 1) := by decide +kernel
theorem dX3_end_36 : decode cX3_end 36 = .ok (.iconst 0, 1) := by decide +kernel
theorem dX3_end_37 : decode cX3_end 37 = .ok (.iastore, 1) := by decide +kernel
theorem dX3_end_38 : decode cX3_end 38 = .ok (.dup, 1) := by decide +kernel
theorem dX3_end_39 : decode cX3_end 39 = .ok (.iconst 4, 1) := by decide +kernel
theorem dX3_end_40 : decode cX3_end 40 = .ok (.iconst 0, 1) := by decide +kernel
theorem dX3_end_41 : decode cX3_end 41 = .ok (.iastore, 1) := by decide +kernel
theorem dX3_end_42 : decode cX3_end 42 = .ok (.dup, 1) := by decide +kernel
theorem dX3_end_43 : decode cX3_end 43 = .ok (.iconst 5, 1) := by decide +kernel
theorem dX3_end_44 : decode cX3_end 44 = .ok (.iconst 0, 1) := by decide +kernel
theorem dX3_end_45 : decode cX3_end 45 = .ok (.iastore, 1) := by decide +kernel
theorem dX3_end_46 : decode cX3_end 46 = .ok (.astore_n 2, 1) := by decide +kernel
theorem dX3_end_47 : decode cX3_end 47 = .ok (.iconst 0, 1) := by decide +kernel
theorem dX3_end_48 : decode cX3_end 48 = .ok (.istore_n 3, 1) := by decide +kernel
theorem dX3_end_49 : decode cX3_end 49 = .ok (.iload_n 3, 1) := by decide +kernel
theorem dX3_end_50 : decode cX3_end 50 = .ok (.iconst 4, 1) := by decide +kernel
theorem dX3_end_51 : decode cX3_end 51 = .ok (.if_icmp .ge 27, 3) := by decide +kernel
theorem dX3_end_54 : decode cX3_end 54 = .ok (.aload_n 2, 1) := by decide +kernel
theorem dX3_end_55 : decode cX3_end 55 = .ok (.iconst 2, 1) := by decide +kernel
theorem dX3_end_56 : decode cX3_end 56 = .ok (.aload_n 0, 1) := by decide +kernel
theorem dX3_end_57 : decode cX3_end 57 = .ok (.getfield 102, 3) := by decide +kernel
theorem dX3_end_60 : decode cX3_end 60 = .ok (.iload_n 3, 1) := by decide +kernel
theorem dX3_end_61 : decode cX3_end 61 = .ok (.iadd, 1) := by decide +kernel
theorem dX3_end_62 : decode cX3_end 62 = .ok (.iconst 4, 1) := by decide +kernel
theorem dX3_end_63 : decode cX3_end 63 = .ok (.irem, 1) := by decide +kernel
theorem dX3_end_64 : decode cX3_end 64 = .ok (.iadd, 1) := by decide +kernel
theorem dX3_end_65 : decode cX3_end 65 = .ok (.aload_n 0, 1) := by decide +kernel
theorem dX3_end_66 : decode cX3_end 66 = .ok (.getfield 33, 3) := by decide +kernel
theorem dX3_end_69 : decode cX3_end 69 = .ok (.iload_n 3, 1) := by decide +kernel
theorem dX3_end_70 : decode cX3_end 70 = .ok (.iaload, 1) := by decide +kernel
theorem dX3_end_71 : decode cX3_end 71 = .ok (.iastore, 1) := by decide +kernel
theorem dX3_end_72 : decode cX3_end 72 = .ok (.iinc 3 1, 3) := by decide +kernel
theorem dX3_end_75 : decode cX3_end 75 = .ok (.goto (-26), 3) := by decide +kernel
theorem dX3_end_78 : decode cX3_end 78 = .ok (.aload_n 0, 1) := by decide +kernel
theorem dX3_end_79 : decode cX3_end 79 = .ok (.getfield 29, 3) := by decide +kernel
theorem dX3_end_82 : decode cX3_end 82 = .ok (.arraylength, 1) := by decide +kernel
theorem dX3_end_83 : decode cX3_end 83 = .ok (.iconst 1, 1) := by decide +kernel
theorem dX3_end_84 : decode cX3_end 84 = .ok (.iadd, 1) := by decide +kernel
theorem dX3_end_85 : decode cX3_end 85 = .ok (.anewarray 28, 3) := by decide +kernel
theorem dX3_end_88 : decode cX3_end 88 = .ok (.astore_n 3, 1) := by decide +kernel
theorem dX3_end_89 : decode cX3_end 89 = .ok (.aload_n 0, 1) := by decide +kernel
theorem dX3_end_90 : decode cX3_end 90 = .ok (.getfield 29, 3) := by decide +kernel
theorem dX3_end_93 : decode cX3_end 93 = .ok (.iconst 0, 1) := by decide +kernel
theorem dX3_end_94 : decode cX3_end 94 = .ok (.aload_n 3, 1) := by decide +kernel
theorem dX3_end_95 : decode cX3_end 95 = .ok (.iconst 0, 1) := by decide +kernel
theorem dX3_end_96 : decode cX3_end 96 = .ok (.aload_n 0, 1) := by decide +kernel
theorem dX3_end_97 : decode cX3_end 97 = .ok (.getfield 29, 3) := by decide +kernel
theorem dX3_end_100 : decode cX3_end 100 = .ok (.arraylength, 1) := by decide +kernel
theorem dX3_end_101 : decode cX3_end 101 = .ok (.invokestatic 69, 3) := by decide +kernel
theorem dX3_end_104 : decode cX3_end 104 = .ok (.aload_n 3, 1) := by decide +kernel
theorem dX3_end_105 : decode cX3_end 105 = .ok (.aload_n 0, 1) := by decide +kernel
theorem dX3_end_106 : decode cX3_end 106 = .ok (.getfield 29, 3) := by decide +kernel
theorem dX3_end_109 : decode cX3_end 109 = .ok (.arraylength, 1) := by decide +kernel
theorem dX3_end_110 : decode cX3_end 110 = .ok (.aload_n 2, 1) := by decide +kernel
theorem dX3_end_111 : decode cX3_end 111 = .ok (.aastore, 1) := by decide +kernel
theorem dX3_end_112 : decode cX3_end 112 = .ok (.aload_n 0, 1) := by decide +kernel
theorem dX3_end_113 : decode cX3_end 113 = .ok (.aload_n 3, 1) := by decide +kernel
theorem dX3_end_114 : decode cX3_end 114 = .ok (.putfield 29, 3) := by decide +kernel
theorem dX3_end_117 : decode cX3_end 117 = .ok (.aload_n 0, 1) := by decide +kernel
theorem dX3_end_118 : decode cX3_end 118 = .ok (.getfield 46, 3) := by decide +kernel
theorem dX3_end_121 : decode cX3_end 121 = .ok (.iload_n 1, 1) := by decide +kernel
theorem dX3_end_122 : decode cX3_end 122 = .ok (.iconst 2, 1) := by decide +kernel
theorem dX3_end_123 : decode cX3_end 123 = .ok (.irem, 1) := by decide +kernel
theorem dX3_end_124 : decode cX3_end 124 = .ok (.dup2, 1) := by decide +kernel
theorem dX3_end_125 : decode cX3_end 125 = .ok (.iaload, 1) := by decide +kernel
theorem dX3_end_126 : decode cX3_end 126 = .ok (.iconst 1, 1) := by decide +kernel
theorem dX3_end_127 : decode cX3_end 127 = .ok (.iadd, 1) := by decide +kernel
theorem dX3_end_128 : decode cX3_end 128 = .ok (.iastore, 1) := by decide +kernel
theorem dX3_end_129 : decode cX3_end 129 = .ok (.aload_n 0, 1) := by decide +kernel
theorem dX3_end_130 : decode cX3_end 130 = .ok (.iload_n 1, 1) := by decide +kernel
theorem dX3_end_131 : decode cX3_end 131 = .ok (.putfield 102, 3) := by decide +kernel
theorem dX3_end_134 : decode cX3_end 134 = .ok (.aload_n 0, 1) := by decide +kernel
theorem dX3_end_135 : decode cX3_end 135 = .ok (.iconst 0, 1) := by decide +kernel
theorem dX3_end_136 : decode cX3_end 136 = .ok (.newarray .int, 2) := by decide +kernel
theorem dX3_end_138 : decode cX3_end 138 = .ok (.putfield 33, 3) := by decide +kernel
theorem dX3_end_141 : decode cX3_end 141 = .ok (.aload_n 0, 1) := by decide +kernel
theorem dX3_end_142 : decode cX3_end 142 = .ok (.getfield 29, 3) := by decide +kernel
theorem dX3_end_145 : decode cX3_end 145 = .ok (.arraylength, 1) := by decide +kernel
theorem dX3_end_146 : decode cX3_end 146 = .ok (.aload_n 0, 1) := by decide +kernel
theorem dX3_end_147 : decode cX3_end 147 = .ok (.getfield 95, 3) := by decide +kernel
theorem dX3_end_150 : decode cX3_end 150 = .ok (.if_icmp .ge 4, 3) := by decide +kernel
theorem dX3_end_153 : decode cX3_end 153 = .ok (.return_, 1) := by decide +kernel
theorem dX3_end_154 : decode cX3_end 154 = .ok (.aload_n 0, 1) := by decide +kernel
theorem dX3_end_155 : decode cX3_end 155 = .ok (.iconst 3, 1) := by decide +kernel
theorem dX3_end_156 : decode cX3_end 156 = .ok (.putfield 75, 3) := by decide +kernel
theorem dX3_end_159 : decode cX3_end 159 = .ok (.aload_n 0, 1) := by decide +kernel
theorem dX3_end_160 : decode cX3_end 160 = .ok (.dup, 1) := by decide +kernel
theorem dX3_end_161 : decode cX3_end 161 = .ok (.getfield 147, 3) := by decide +kernel
theorem dX3_end_164 : decode cX3_end 164 = .ok (.iconst 1, 1) := by decide +kernel
theorem dX3_end_165 : decode cX3_end 165 = .ok (.iadd, 1) := by decide +kernel
theorem dX3_end_166 : decode cX3_end 166 = .ok (.putfield 147, 3) := by decide +kernel
theorem dX3_end_169 : decode cX3_end 169 = .ok (.iconst 0, 1) := by decide +kernel
theorem dX3_end_170 : decode cX3_end 170 = .ok (.istore 4, 2) := by decide +kernel
theorem dX3_end_172 : decode cX3_end 172 = .ok (.iload 4, 2) := by decide +kernel
theorem dX3_end_174 : decode cX3_end 174 = .ok (.iconst 4, 1) := by decide +kernel
theorem dX3_end_175 : decode cX3_end 175 = .ok (.if_icmp .ge 63, 3) := by decide +kernel
theorem dX3_end_178 : decode cX3_end 178 = .ok (.aload_n 0, 1) := by decide +kernel
theorem dX3_end_179 : decode cX3_end 179 = .ok (.getfield 36, 3) := by decide +kernel
theorem dX3_end_182 : decode cX3_end 182 = .ok (.iload 4, 2) := by decide +kernel
theorem dX3_end_184 : decode cX3_end 184 = .ok (.baload, 1) := by decide +kernel
theorem dX3_end_185 : decode cX3_end 185 = .ok (.ifCond .eq 47, 3) := by decide +kernel
theorem dX3_end_188 : decode cX3_end 188 = .ok (.aload_n 0, 1) := by decide +kernel
theorem dX3_end_189 : decode cX3_end 189 = .ok (.getfield 46, 3) := by decide +kernel
theorem dX3_end_192 : decode cX3_end 192 = .ok (.iload 4, 2) := by decide +kernel
theorem dX3_end_194 : decode cX3_end 194 = .ok (.iconst 2, 1) := by decide +kernel
theorem dX3_end_195 : decode cX3_end 195 = .ok (.irem, 1) := by decide +kernel
theorem dX3_end_196 : decode cX3_end 196 = .ok (.iaload, 1) := by decide +kernel
theorem dX3_end_197 : decode cX3_end 197 = .ok (.iconst 1, 1) := by decide +kernel
theorem dX3_end_198 : decode cX3_end 198 = .ok (.if_icmp .ge 6, 3) := by decide +kernel
theorem dX3_end_201 : decode cX3_end 201 = .ok (.goto 31, 3) := by decide +kernel
theorem dX3_end_204 : decode cX3_end 204 = .ok (.aload_n 0, 1) := by decide +kernel
theorem dX3_end_205 : decode cX3_end 205 = .ok (.getfield 46, 3) := by decide +kernel
theorem dX3_end_208 : decode cX3_end 208 = .ok (.iload 4, 2) := by decide +kernel
theorem dX3_end_210 : decode cX3_end 210 = .ok (.iconst 2, 1) := by decide +kernel
theorem dX3_end_211 : decode cX3_end 211 = .ok (.irem, 1) := by decide +kernel
theorem dX3_end_212 : decode cX3_end 212 = .ok (.dup2, 1) := by decide +kernel
theorem dX3_end_213 : decode cX3_end 213 = .ok (.iaload, 1) := by decide +kernel
theorem dX3_end_214 : decode cX3_end 214 = .ok (.iconst 1, 1) := by decide +kernel
theorem dX3_end_215 : decode cX3_end 215 = .ok (.isub, 1) := by decide +kernel
theorem dX3_end_216 : decode cX3_end 216 = .ok (.iastore, 1) := by decide +kernel
theorem dX3_end_217 : decode cX3_end 217 = .ok (.aload_n 0, 1) := by decide +kernel
theorem dX3_end_218 : decode cX3_end 218 = .ok (.getfield 46, 3) := by decide +kernel
theorem dX3_end_221 : decode cX3_end 221 = .ok (.iconst 1, 1) := by decide +kernel
theorem dX3_end_222 : decode cX3_end 222 = .ok (.iload 4, 2) := by decide +kernel
theorem dX3_end_224 : decode cX3_end 224 = .ok (.iconst 2, 1) := by decide +kernel
theorem dX3_end_225 : decode cX3_end 225 = .ok (.irem, 1) := by decide +kernel
theorem dX3_end_226 : decode cX3_end 226 = .ok (.isub, 1) := by decide +kernel
theorem dX3_end_227 : decode cX3_end 227 = .ok (.dup2, 1) := by decide +kernel
theorem dX3_end_228 : decode cX3_end 228 = .ok (.iaload, 1) := by decide +kernel
theorem dX3_end_229 : decode cX3_end 229 = .ok (.iconst 1, 1) := by decide +kernel
theorem dX3_end_230 : decode cX3_end 230 = .ok (.iadd, 1) := by decide +kernel
theorem dX3_end_231 : decode cX3_end 231 = .ok (.iastore, 1) := by decide +kernel
theorem dX3_end_232 : decode cX3_end 232 = .ok (.iinc 4 1, 3) := by decide +kernel
theorem dX3_end_235 : decode cX3_end 235 = .ok (.goto (-63), 3) := by decide +kernel
theorem dX3_end_238 : decode cX3_end 238 = .ok (.aload_n 0, 1) := by decide +kernel
theorem dX3_end_239 : decode cX3_end 239 = .ok (.aload_n 0, 1) := by decide +kernel
theorem dX3_end_240 : decode cX3_end 240 = .ok (.getfield 46, 3) := by decide +kernel
theorem dX3_end_243 : decode cX3_end 243 = .ok (.aload_n 0, 1) := by decide +kernel
theorem dX3_end_244 : decode cX3_end 244 = .ok (.getfield 25, 3) := by decide +kernel
theorem dX3_end_247 : decode cX3_end 247 = .ok (.iconst 2, 1) := by decide +kernel
theorem dX3_end_248 : decode cX3_end 248 = .ok (.iaload, 1) := by decide +kernel
theorem dX3_end_249 : decode cX3_end 249 = .ok (.iconst 2, 1) := by decide +kernel
theorem dX3_end_250 : decode cX3_end 250 = .ok (.irem, 1) := by decide +kernel
theorem dX3_end_251 : decode cX3_end 251 = .ok (.iaload, 1) := by decide +kernel
theorem dX3_end_252 : decode cX3_end 252 = .ok (.invokevirtual 150, 3) := by decide +kernel
theorem dX3_end_255 : decode cX3_end 255 = .ok (.istore 4, 2) := by decide +kernel
theorem dX3_end_257 : decode cX3_end 257 = .ok (.aload_n 0, 1) := by decide +kernel
theorem dX3_end_258 : decode cX3_end 258 = .ok (.getfield 49, 3) := by decide +kernel
theorem dX3_end_261 : decode cX3_end 261 = .ok (.iload 4, 2) := by decide +kernel
theorem dX3_end_263 : decode cX3_end 263 = .ok (.ifCond .le 14, 3) := by decide +kernel
theorem dX3_end_266 : decode cX3_end 266 = .ok (.aload_n 0, 1) := by decide +kernel
theorem dX3_end_267 : decode cX3_end 267 = .ok (.getfield 25, 3) := by decide +kernel
theorem dX3_end_270 : decode cX3_end 270 = .ok (.iconst 2, 1) := by decide +kernel
theorem dX3_end_271 : decode cX3_end 271 = .ok (.iaload, 1) := by decide +kernel
theorem dX3_end_272 : decode cX3_end 272 = .ok (.iconst 2, 1) := by decide +kernel
theorem dX3_end_273 : decode cX3_end 273 = .ok (.irem, 1) := by decide +kernel
theorem dX3_end_274 : decode cX3_end 274 = .ok (.goto 13, 3) := by decide +kernel
theorem dX3_end_277 : decode cX3_end 277 = .ok (.iconst 1, 1) := by decide +kernel
theorem dX3_end_278 : decode cX3_end 278 = .ok (.aload_n 0, 1) := by decide +kernel
theorem dX3_end_279 : decode cX3_end 279 = .ok (.getfield 25, 3) := by decide +kernel
theorem dX3_end_282 : decode cX3_end 282 = .ok (.iconst 2, 1) := by decide +kernel
theorem dX3_end_283 : decode cX3_end 283 = .ok (.iaload, 1) := by decide +kernel
theorem dX3_end_284 : decode cX3_end 284 = .ok (.iconst 2, 1) := by decide +kernel
theorem dX3_end_285 : decode cX3_end 285 = .ok (.irem, 1) := by decide +kernel
theorem dX3_end_286 : decode cX3_end 286 = .ok (.isub, 1) := by decide +kernel
theorem dX3_end_287 : decode cX3_end 287 = .ok (.dup2, 1) := by decide +kernel
theorem dX3_end_288 : decode cX3_end 288 = .ok (.iaload, 1) := by decide +kernel
theorem dX3_end_289 : decode cX3_end 289 = .ok (.iload 4, 2) := by decide +kernel
theorem dX3_end_291 : decode cX3_end 291 = .ok (.invokestatic 153, 3) := by decide +kernel
theorem dX3_end_294 : decode cX3_end 294 = .ok (.iadd, 1) := by decide +kernel
theorem dX3_end_295 : decode cX3_end 295 = .ok (.iastore, 1) := by decide +kernel
theorem dX3_end_296 : decode cX3_end 296 = .ok (.return_, 1) := by decide +kernel
theorem dX3_worth_0 : decode cX3_worth 0 = .ok (.aload_n 0, 1) := by decide +kernel
theorem dX3_worth_1 : decode cX3_worth 1 = .ok (.getfield 25, 3) := by decide +kernel
theorem dX3_worth_4 : decode cX3_worth 4 = .ok (.iconst 1, 1) := by decide +kernel
theorem dX3_worth_5 : decode cX3_worth 5 = .ok (.iaload, 1) := by decide +kernel
theorem dX3_worth_6 : decode cX3_worth 6 = .ok (.iconst 2, 1) := by decide +kernel
theorem dX3_worth_7 : decode cX3_worth 7 = .ok (.if_icmp .ge 8, 3) := by decide +kernel
theorem dX3_worth_10 : decode cX3_worth 10 = .ok (.bipush 20, 2) := by decide +kernel
theorem dX3_worth_12 : decode cX3_worth 12 = .ok (.goto 20, 3) := by decide +kernel
theorem dX3_worth_15 : decode cX3_worth 15 = .ok (.aload_n 0, 1) := by decide +kernel
theorem dX3_worth_16 : decode cX3_worth 16 = .ok (.getfield 25, 3) := by decide +kernel
theorem dX3_worth_19 : decode cX3_worth 19 = .ok (.iconst 1, 1) := by decide +kernel
theorem dX3_worth_20 : decode cX3_worth 20 = .ok (.iaload, 1) := by decide +kernel
theorem dX3_worth_21 : decode cX3_worth 21 = .ok (.iconst 4, 1) := by decide +kernel
theorem dX3_worth_22 : decode cX3_worth 22 = .ok (.if_icmp .ge 8, 3) := by decide +kernel
theorem dX3_worth_25 : decode cX3_worth 25 = .ok (.bipush 30, 2) := by decide +kernel
theorem dX3_worth_27 : decode cX3_worth 27 = .ok (.goto 5, 3) := by decide +kernel
theorem dX3_worth_30 : decode cX3_worth 30 = .ok (.bipush 40, 2) := by decide +kernel
theorem dX3_worth_32 : decode cX3_worth 32 = .ok (.istore_n 2, 1) := by decide +kernel
theorem dX3_worth_33 : decode cX3_worth 33 = .ok (.iload_n 1, 1) := by decide +kernel
theorem dX3_worth_34 : decode cX3_worth 34 = .ok (.aload_n 0, 1) := by decide +kernel
theorem dX3_worth_35 : decode cX3_worth 35 = .ok (.getfield 25, 3) := by decide +kernel
theorem dX3_worth_38 : decode cX3_worth 38 = .ok (.iconst 0, 1) := by decide +kernel
theorem dX3_worth_39 : decode cX3_worth 39 = .ok (.iaload, 1) := by decide +kernel
theorem dX3_worth_40 : decode cX3_worth 40 = .ok (.isub, 1) := by decide +kernel
theorem dX3_worth_41 : decode cX3_worth 41 = .ok (.istore_n 3, 1) := by decide +kernel
theorem dX3_worth_42 : decode cX3_worth 42 = .ok (.iload_n 3, 1) := by decide +kernel
theorem dX3_worth_43 : decode cX3_worth 43 = .ok (.ifCond .ge 17, 3) := by decide +kernel
theorem dX3_worth_46 : decode cX3_worth 46 = .ok (.bipush 50, 2) := by decide +kernel
theorem dX3_worth_48 : decode cX3_worth 48 = .ok (.aload_n 0, 1) := by decide +kernel
theorem dX3_worth_49 : decode cX3_worth 49 = .ok (.getfield 25, 3) := by decide +kernel
theorem dX3_worth_52 : decode cX3_worth 52 = .ok (.iconst 3, 1) := by decide +kernel
theorem dX3_worth_53 : decode cX3_worth 53 = .ok (.iaload, 1) := by decide +kernel
theorem dX3_worth_54 : decode cX3_worth 54 = .ok (.imul, 1) := by decide +kernel
theorem dX3_worth_55 : decode cX3_worth 55 = .ok (.iload_n 3, 1) := by decide +kernel
theorem dX3_worth_56 : decode cX3_worth 56 = .ok (.imul, 1) := by decide +kernel
theorem dX3_worth_57 : decode cX3_worth 57 = .ok (.goto 41, 3) := by decide +kernel
theorem dX3_worth_60 : decode cX3_worth 60 = .ok (.aload_n 0, 1) := by decide +kernel
theorem dX3_worth_61 : decode cX3_worth 61 = .ok (.getfield 25, 3) := by decide +kernel
theorem dX3_worth_64 : decode cX3_worth 64 = .ok (.iconst 3, 1) := by decide +kernel
theorem dX3_worth_65 : decode cX3_worth 65 = .ok (.iaload, 1) := by decide +kernel
theorem dX3_worth_66 : decode cX3_worth 66 = .ok (.aload_n 0, 1) := by decide +kernel
theorem dX3_worth_67 : decode cX3_worth 67 = .ok (.getfield 25, 3) := by decide +kernel
theorem dX3_worth_70 : decode cX3_worth 70 = .ok (.iconst 0, 1) := by decide +kernel
theorem dX3_worth_71 : decode cX3_worth 71 = .ok (.iaload, 1) := by decide +kernel
theorem dX3_worth_72 : decode cX3_worth 72 = .ok (.iload_n 2, 1) := by decide +kernel
theorem dX3_worth_73 : decode cX3_worth 73 = .ok (.imul, 1) := by decide +kernel
theorem dX3_worth_74 : decode cX3_worth 74 = .ok (.bipush 20, 2) := by decide +kernel
theorem dX3_worth_76 : decode cX3_worth 76 = .ok (.iload_n 3, 1) := by decide +kernel
theorem dX3_worth_77 : decode cX3_worth 77 = .ok (.imul, 1) := by decide +kernel
theorem dX3_worth_78 : decode cX3_worth 78 = .ok (.iadd, 1) := by decide +kernel
theorem dX3_worth_79 : decode cX3_worth 79 = .ok (.imul, 1) := by decide +kernel
theorem dX3_worth_80 : decode cX3_worth 80 = .ok (.aload_n 0, 1) := by decide +kernel
theorem dX3_worth_81 : decode cX3_worth 81 = .ok (.getfield 25, 3) := by decide +kernel
theorem dX3_worth_84 : decode cX3_worth 84 = .ok (.iconst 0, 1) := by decide +kernel
theorem dX3_worth_85 : decode cX3_worth 85 = .ok (.iaload, 1) := by decide +kernel
theorem dX3_worth_86 : decode cX3_worth 86 = .ok (.bipush 6, 2) := by decide +kernel
theorem dX3_worth_88 : decode cX3_worth 88 = .ok (.if_icmp .lt 8, 3) := by decide +kernel
theorem dX3_worth_91 : decode cX3_worth 91 = .ok (.bipush 50, 2) := by decide +kernel
theorem dX3_worth_93 : decode cX3_worth 93 = .ok (.goto 4, 3) := by decide +kernel
theorem dX3_worth_96 : decode cX3_worth 96 = .ok (.iconst 0, 1) := by decide +kernel
theorem dX3_worth_97 : decode cX3_worth 97 = .ok (.iadd, 1) := by decide +kernel
theorem dX3_worth_98 : decode cX3_worth 98 = .ok (.ireturn, 1) := by decide +kernel
theorem dX3_back_0 : decode cX3_back 0 = .ok (.aload_n 0, 1) := by decide +kernel
theorem dX3_back_1 : decode cX3_back 1 = .ok (.getfield 33, 3) := by decide +kernel
theorem dX3_back_4 : decode cX3_back 4 = .ok (.arraylength, 1) := by decide +kernel
theorem dX3_back_5 : decode cX3_back 5 = .ok (.ifCond .ne 5, 3) := by decide +kernel
theorem dX3_back_8 : decode cX3_back 8 = .ok (.iconst 1, 1) := by decide +kernel
theorem dX3_back_9 : decode cX3_back 9 = .ok (.ireturn, 1) := by decide +kernel
theorem dX3_back_10 : decode cX3_back 10 = .ok (.aload_n 0, 1) := by decide +kernel
theorem dX3_back_11 : decode cX3_back 11 = .ok (.getfield 33, 3) := by decide +kernel
theorem dX3_back_14 : decode cX3_back 14 = .ok (.aload_n 0, 1) := by decide +kernel
theorem dX3_back_15 : decode cX3_back 15 = .ok (.getfield 33, 3) := by decide +kernel
theorem dX3_back_18 : decode cX3_back 18 = .ok (.arraylength, 1) := by decide +kernel
theorem dX3_back_19 : decode cX3_back 19 = .ok (.iconst 1, 1) := by decide +kernel
theorem dX3_back_20 : decode cX3_back 20 = .ok (.isub, 1) := by decide +kernel
theorem dX3_back_21 : decode cX3_back 21 = .ok (.iaload, 1) := by decide +kernel
theorem dX3_back_22 : decode cX3_back 22 = .ok (.istore_n 1, 1) := by decide +kernel
theorem dX3_back_23 : decode cX3_back 23 = .ok (.aload_n 0, 1) := by decide +kernel
theorem dX3_back_24 : decode cX3_back 24 = .ok (.getfield 33, 3) := by decide +kernel
theorem dX3_back_27 : decode cX3_back 27 = .ok (.arraylength, 1) := by decide +kernel
theorem dX3_back_28 : decode cX3_back 28 = .ok (.iconst 1, 1) := by decide +kernel
theorem dX3_back_29 : decode cX3_back 29 = .ok (.isub, 1) := by decide +kernel
theorem dX3_back_30 : decode cX3_back 30 = .ok (.newarray .int, 2) := by decide +kernel
theorem dX3_back_32 : decode cX3_back 32 = .ok (.astore_n 2, 1) := by decide +kernel
theorem dX3_back_33 : decode cX3_back 33 = .ok (.aload_n 0, 1) := by decide +kernel
theorem dX3_back_34 : decode cX3_back 34 = .ok (.getfield 33, 3) := by decide +kernel
theorem dX3_back_37 : decode cX3_back 37 = .ok (.iconst 0, 1) := by decide +kernel
theorem dX3_back_38 : decode cX3_back 38 = .ok (.aload_n 2, 1) := by decide +kernel
theorem dX3_back_39 : decode cX3_back 39 = .ok (.iconst 0, 1) := by decide +kernel
theorem dX3_back_40 : decode cX3_back 40 = .ok (.aload_n 2, 1) := by decide +kernel
theorem dX3_back_41 : decode cX3_back 41 = .ok (.arraylength, 1) := by decide +kernel
theorem dX3_back_42 : decode cX3_back 42 = .ok (.invokestatic 69, 3) := by decide +kernel
theorem dX3_back_45 : decode cX3_back 45 = .ok (.aload_n 0, 1) := by decide +kernel
theorem dX3_back_46 : decode cX3_back 46 = .ok (.aload_n 2, 1) := by decide +kernel
theorem dX3_back_47 : decode cX3_back 47 = .ok (.putfield 33, 3) := by decide +kernel
theorem dX3_back_50 : decode cX3_back 50 = .ok (.aload_n 0, 1) := by decide +kernel
theorem dX3_back_51 : decode cX3_back 51 = .ok (.invokevirtual 119, 3) := by decide +kernel
theorem dX3_back_54 : decode cX3_back 54 = .ok (.istore_n 3, 1) := by decide +kernel
theorem dX3_back_55 : decode cX3_back 55 = .ok (.aload_n 0, 1) := by decide +kernel
theorem dX3_back_56 : decode cX3_back 56 = .ok (.getfield 18, 3) := by decide +kernel
theorem dX3_back_59 : decode cX3_back 59 = .ok (.iload_n 3, 1) := by decide +kernel
theorem dX3_back_60 : decode cX3_back 60 = .ok (.aaload, 1) := by decide +kernel
theorem dX3_back_61 : decode cX3_back 61 = .ok (.iload_n 1, 1) := by decide +kernel
theorem dX3_back_62 : decode cX3_back 62 = .ok (.iconst 1, 1) := by decide +kernel
theorem dX3_back_63 : decode cX3_back 63 = .ok (.bastore, 1) := by decide +kernel
theorem dX3_back_64 : decode cX3_back 64 = .ok (.aload_n 0, 1) := by decide +kernel
theorem dX3_back_65 : decode cX3_back 65 = .ok (.getfield 36, 3) := by decide +kernel
theorem dX3_back_68 : decode cX3_back 68 = .ok (.iload_n 3, 1) := by decide +kernel
theorem dX3_back_69 : decode cX3_back 69 = .ok (.aload_n 0, 1) := by decide +kernel
theorem dX3_back_70 : decode cX3_back 70 = .ok (.getfield 43, 3) := by decide +kernel
theorem dX3_back_73 : decode cX3_back 73 = .ok (.aload_n 0, 1) := by decide +kernel
theorem dX3_back_74 : decode cX3_back 74 = .ok (.getfield 33, 3) := by decide +kernel
theorem dX3_back_77 : decode cX3_back 77 = .ok (.arraylength, 1) := by decide +kernel
theorem dX3_back_78 : decode cX3_back 78 = .ok (.baload, 1) := by decide +kernel
theorem dX3_back_79 : decode cX3_back 79 = .ok (.bastore, 1) := by decide +kernel
theorem dX3_back_80 : decode cX3_back 80 = .ok (.aload_n 0, 1) := by decide +kernel
theorem dX3_back_81 : decode cX3_back 81 = .ok (.getfield 10, 3) := by decide +kernel
theorem dX3_back_84 : decode cX3_back 84 = .ok (.invokevirtual 156, 3) := by decide +kernel
theorem dX3_back_87 : decode cX3_back 87 = .ok (.iload_n 1, 1) := by decide +kernel
theorem dX3_back_88 : decode cX3_back 88 = .ok (.if_icmp .ne 7, 3) := by decide +kernel
theorem dX3_back_91 : decode cX3_back 91 = .ok (.iconst 1, 1) := by decide +kernel
theorem dX3_back_92 : decode cX3_back 92 = .ok (.goto 4, 3) := by decide +kernel
theorem dX3_back_95 : decode cX3_back 95 = .ok (.iconst 0, 1) := by decide +kernel
theorem dX3_back_96 : decode cX3_back 96 = .ok (.ireturn, 1) := by decide +kernel
theorem dX3_step_0 : decode cX3_step 0 = .ok (.aload_n 0, 1) := by decide +kernel
theorem dX3_step_1 : decode cX3_step 1 = .ok (.bipush 7, 2) := by decide +kernel
theorem dX3_step_3 : decode cX3_step 3 = .ok (.invokevirtual 78, 3) := by decide +kernel
theorem dX3_step_6 : decode cX3_step 6 = .ok (.ifCond .ne 12, 3) := by decide +kernel
theorem dX3_step_9 : decode cX3_step 9 = .ok (.aload_n 0, 1) := by decide +kernel
theorem dX3_step_10 : decode cX3_step 10 = .ok (.invokevirtual 159, 3) := by decide +kernel
theorem dX3_step_13 : decode cX3_step 13 = .ok (.ifCond .ne 5, 3) := by decide +kernel
theorem dX3_step_16 : decode cX3_step 16 = .ok (.iconst 0, 1) := by decide +kernel
theorem dX3_step_17 : decode cX3_step 17 = .ok (.ireturn, 1) := by decide +kernel
theorem dX3_step_18 : decode cX3_step 18 = .ok (.aload_n 0, 1) := by decide +kernel
theorem dX3_step_19 : decode cX3_step 19 = .ok (.aload_n 0, 1) := by decide +kernel
theorem dX3_step_20 : decode cX3_step 20 = .ok (.aload_n 0, 1) := by decide +kernel
theorem dX3_step_21 : decode cX3_step 21 = .ok (.iconst 5, 1) := by decide +kernel
theorem dX3_step_22 : decode cX3_step 22 = .ok (.invokevirtual 78, 3) := by decide +kernel
theorem dX3_step_25 : decode cX3_step 25 = .ok (.ifCond .le 7, 3) := by decide +kernel
theorem dX3_step_28 : decode cX3_step 28 = .ok (.iconst 1, 1) := by decide +kernel
theorem dX3_step_29 : decode cX3_step 29 = .ok (.goto 4, 3) := by decide +kernel
theorem dX3_step_32 : decode cX3_step 32 = .ok (.iconst 0, 1) := by decide +kernel
theorem dX3_step_33 : decode cX3_step 33 = .ok (.invokevirtual 162, 3) := by decide +kernel
theorem dX3_step_36 : decode cX3_step 36 = .ok (.invokevirtual 166, 3) := by decide +kernel
theorem dX3_step_39 : decode cX3_step 39 = .ok (.ireturn, 1) := by decide +kernel
theorem dJ6_numberOfLeadingZeros_0f7a4_0 : decode cJ6_numberOfLeadingZeros_0f7a4 0 = .ok (.iload_n 0, 1) := by decide +kernel
theorem dJ6_numberOfLeadingZeros_0f7a4_1 : decode cJ6_numberOfLeadingZeros_0f7a4 1 = .ok (.ifCond .gt 14, 3) := by decide +kernel
theorem dJ6_numberOfLeadingZeros_0f7a4_4 : decode cJ6_numberOfLeadingZeros_0f7a4 4 = .ok (.iload_n 0, 1) := by decide +kernel
theorem dJ6_numberOfLeadingZeros_0f7a4_5 : decode cJ6_numberOfLeadingZeros_0f7a4 5 = .ok (.ifCond .ne 8, 3) := by decide +kernel
theorem dJ6_numberOfLeadingZeros_0f7a4_8 : decode cJ6_numberOfLeadingZeros_0f7a4 8 = .ok (.bipush 32, 2) := by decide +kernel
theorem dJ6_numberOfLeadingZeros_0f7a4_10 : decode cJ6_numberOfLeadingZeros_0f7a4 10 = .ok (.goto 4, 3) := by decide +kernel
theorem dJ6_numberOfLeadingZeros_0f7a4_13 : decode cJ6_numberOfLeadingZeros_0f7a4 13 = .ok (.iconst 0, 1) := by decide +kernel
theorem dJ6_numberOfLeadingZeros_0f7a4_14 : decode cJ6_numberOfLeadingZeros_0f7a4 14 = .ok (.ireturn, 1) := by decide +kernel
theorem dJ6_numberOfLeadingZeros_0f7a4_15 : decode cJ6_numberOfLeadingZeros_0f7a4 15 = .ok (.bipush 31, 2) := by decide +kernel
theorem dJ6_numberOfLeadingZeros_0f7a4_17 : decode cJ6_numberOfLeadingZeros_0f7a4 17 = .ok (.istore_n 1, 1) := by decide +kernel
theorem dJ6_numberOfLeadingZeros_0f7a4_18 : decode cJ6_numberOfLeadingZeros_0f7a4 18 = .ok (.iload_n 0, 1) := by decide +kernel
theorem dJ6_numberOfLeadingZeros_0f7a4_19 : decode cJ6_numberOfLeadingZeros_0f7a4 19 = .ok (.ldc_w 264, 3) := by decide +kernel
theorem dJ6_numberOfLeadingZeros_0f7a4_22 : decode cJ6_numberOfLeadingZeros_0f7a4 22 = .ok (.if_icmp .lt 11, 3) := by decide +kernel
theorem dJ6_numberOfLeadingZeros_0f7a4_25 : decode cJ6_numberOfLeadingZeros_0f7a4 25 = .ok (.iinc 1 (-16), 3) := by decide +kernel
theorem dJ6_numberOfLeadingZeros_0f7a4_28 : decode cJ6_numberOfLeadingZeros_0f7a4 28 = .ok (.iload_n 0, 1) := by decide +kernel
theorem dJ6_numberOfLeadingZeros_0f7a4_29 : decode cJ6_numberOfLeadingZeros_0f7a4 29 = .ok (.bipush 16, 2) := by decide +kernel
theorem dJ6_numberOfLeadingZeros_0f7a4_31 : decode cJ6_numberOfLeadingZeros_0f7a4 31 = .ok (.iushr, 1) := by decide +kernel
theorem dJ6_numberOfLeadingZeros_0f7a4_32 : decode cJ6_numberOfLeadingZeros_0f7a4 32 = .ok (.istore_n 0, 1) := by decide +kernel
theorem dJ6_numberOfLeadingZeros_0f7a4_33 : decode cJ6_numberOfLeadingZeros_0f7a4 33 = .ok (.iload_n 0, 1) := by decide +kernel
theorem dJ6_numberOfLeadingZeros_0f7a4_34 : decode cJ6_numberOfLeadingZeros_0f7a4 34 = .ok (.sipush 256, 3) := by decide +kernel
theorem dJ6_numberOfLeadingZeros_0f7a4_37 : decode cJ6_numberOfLeadingZeros_0f7a4 37 = .ok (.if_icmp .lt 11, 3) := by decide +kernel
theorem dJ6_numberOfLeadingZeros_0f7a4_40 : decode cJ6_numberOfLeadingZeros_0f7a4 40 = .ok (.iinc 1 (-8), 3) := by decide +kernel
theorem dJ6_numberOfLeadingZeros_0f7a4_43 : decode cJ6_numberOfLeadingZeros_0f7a4 43 = .ok (.iload_n 0, 1) := by decide +kernel
theorem dJ6_numberOfLeadingZeros_0f7a4_44 : decode cJ6_numberOfLeadingZeros_0f7a4 44 = .ok (.bipush 8, 2) := by decide +kernel
theorem dJ6_numberOfLeadingZeros_0f7a4_46 : decode cJ6_numberOfLeadingZeros_0f7a4 46 = .ok (.iushr, 1) := by decide +kernel
theorem dJ6_numberOfLeadingZeros_0f7a4_47 : decode cJ6_numberOfLeadingZeros_0f7a4 47 = .ok (.istore_n 0, 1) := by decide +kernel
theorem dJ6_numberOfLeadingZeros_0f7a4_48 : decode cJ6_numberOfLeadingZeros_0f7a4 48 = .ok (.iload_n 0, 1) := by decide +kernel
theorem dJ6_numberOfLeadingZeros_0f7a4_49 : decode cJ6_numberOfLeadingZeros_0f7a4 49 = .ok (.bipush 16, 2) := by decide +kernel
theorem dJ6_numberOfLeadingZeros_0f7a4_51 : decode cJ6_numberOfLeadingZeros_0f7a4 51 = .ok (.if_icmp .lt 10, 3) := by decide +kernel
theorem dJ6_numberOfLeadingZeros_0f7a4_54 : decode cJ6_numberOfLeadingZeros_0f7a4 54 = .ok (.iinc 1 (-4), 3) := by decide +kernel
theorem dJ6_numberOfLeadingZeros_0f7a4_57 : decode cJ6_numberOfLeadingZeros_0f7a4 57 = .ok (.iload_n 0, 1) := by decide +kernel
theorem dJ6_numberOfLeadingZeros_0f7a4_58 : decode cJ6_numberOfLeadingZeros_0f7a4 58 = .ok (.iconst 4, 1) := by decide +kernel
theorem dJ6_numberOfLeadingZeros_0f7a4_59 : decode cJ6_numberOfLeadingZeros_0f7a4 59 = .ok (.iushr, 1) := by decide +kernel
theorem dJ6_numberOfLeadingZeros_0f7a4_60 : decode cJ6_numberOfLeadingZeros_0f7a4 60 = .ok (.istore_n 0, 1) := by decide +kernel
theorem dJ6_numberOfLeadingZeros_0f7a4_61 : decode cJ6_numberOfLeadingZeros_0f7a4 61 = .ok (.iload_n 0, 1) := by decide +kernel
theorem dJ6_numberOfLeadingZeros_0f7a4_62 : decode cJ6_numberOfLeadingZeros_0f7a4 62 = .ok (.iconst 4, 1) := by decide +kernel
theorem dJ6_numberOfLeadingZeros_0f7a4_63 : decode cJ6_numberOfLeadingZeros_0f7a4 63 = .ok (.if_icmp .lt 10, 3) := by decide +kernel
theorem dJ6_numberOfLeadingZeros_0f7a4_66 : decode cJ6_numberOfLeadingZeros_0f7a4 66 = .ok (.iinc 1 (-2), 3) := by decide +kernel
theorem dJ6_numberOfLeadingZeros_0f7a4_69 : decode cJ6_numberOfLeadingZeros_0f7a4 69 = .ok (.iload_n 0, 1) := by decide +kernel
theorem dJ6_numberOfLeadingZeros_0f7a4_70 : decode cJ6_numberOfLeadingZeros_0f7a4 70 = .ok (.iconst 2, 1) := by decide +kernel
theorem dJ6_numberOfLeadingZeros_0f7a4_71 : decode cJ6_numberOfLeadingZeros_0f7a4 71 = .ok (.iushr, 1) := by decide +kernel
theorem dJ6_numberOfLeadingZeros_0f7a4_72 : decode cJ6_numberOfLeadingZeros_0f7a4 72 = .ok (.istore_n 0, 1) := by decide +kernel
theorem dJ6_numberOfLeadingZeros_0f7a4_73 : decode cJ6_numberOfLeadingZeros_0f7a4 73 = .ok (.iload_n 1, 1) := by decide +kernel
theorem dJ6_numberOfLeadingZeros_0f7a4_74 : decode cJ6_numberOfLeadingZeros_0f7a4 74 = .ok (.iload_n 0, 1) := by decide +kernel
theorem dJ6_numberOfLeadingZeros_0f7a4_75 : decode cJ6_numberOfLeadingZeros_0f7a4 75 = .ok (.iconst 1, 1) := by decide +kernel
theorem dJ6_numberOfLeadingZeros_0f7a4_76 : decode cJ6_numberOfLeadingZeros_0f7a4 76 = .ok (.iushr, 1) := by decide +kernel
theorem dJ6_numberOfLeadingZeros_0f7a4_77 : decode cJ6_numberOfLeadingZeros_0f7a4 77 = .ok (.isub, 1) := by decide +kernel
theorem dJ6_numberOfLeadingZeros_0f7a4_78 : decode cJ6_numberOfLeadingZeros_0f7a4 78 = .ok (.ireturn, 1) := by decide +kernel
theorem dJ6_numberOfTrailingZeros_0f7a4_0 : decode cJ6_numberOfTrailingZeros_0f7a4 0 = .ok (.iload_n 0, 1) := by decide +kernel
theorem dJ6_numberOfTrailingZeros_0f7a4_1 : decode cJ6_numberOfTrailingZeros_0f7a4 1 = .ok (.iconst (-1), 1) := by decide +kernel
theorem dJ6_numberOfTrailingZeros_0f7a4_2 : decode cJ6_numberOfTrailingZeros_0f7a4 2 = .ok (.ixor, 1) := by decide +kernel
theorem dJ6_numberOfTrailingZeros_0f7a4_3 : decode cJ6_numberOfTrailingZeros_0f7a4 3 = .ok (.iload_n 0, 1) := by decide +kernel
theorem dJ6_numberOfTrailingZeros_0f7a4_4 : decode cJ6_numberOfTrailingZeros_0f7a4 4 = .ok (.iconst 1, 1) := by decide +kernel
theorem dJ6_numberOfTrailingZeros_0f7a4_5 : decode cJ6_numberOfTrailingZeros_0f7a4 5 = .ok (.isub, 1) := by decide +kernel
theorem dJ6_numberOfTrailingZeros_0f7a4_6 : decode cJ6_numberOfTrailingZeros_0f7a4 6 = .ok (.iand, 1) := by decide +kernel
theorem dJ6_numberOfTrailingZeros_0f7a4_7 : decode cJ6_numberOfTrailingZeros_0f7a4 7 = .ok (.istore_n 0, 1) := by decide +kernel
theorem dJ6_numberOfTrailingZeros_0f7a4_8 : decode cJ6_numberOfTrailingZeros_0f7a4 8 = .ok (.iload_n 0, 1) := by decide +kernel
theorem dJ6_numberOfTrailingZeros_0f7a4_9 : decode cJ6_numberOfTrailingZeros_0f7a4 9 = .ok (.ifCond .gt 8, 3) := by decide +kernel
theorem dJ6_numberOfTrailingZeros_0f7a4_12 : decode cJ6_numberOfTrailingZeros_0f7a4 12 = .ok (.iload_n 0, 1) := by decide +kernel
theorem dJ6_numberOfTrailingZeros_0f7a4_13 : decode cJ6_numberOfTrailingZeros_0f7a4 13 = .ok (.bipush 32, 2) := by decide +kernel
theorem dJ6_numberOfTrailingZeros_0f7a4_15 : decode cJ6_numberOfTrailingZeros_0f7a4 15 = .ok (.iand, 1) := by decide +kernel
theorem dJ6_numberOfTrailingZeros_0f7a4_16 : decode cJ6_numberOfTrailingZeros_0f7a4 16 = .ok (.ireturn, 1) := by decide +kernel
theorem dJ6_numberOfTrailingZeros_0f7a4_17 : decode cJ6_numberOfTrailingZeros_0f7a4 17 = .ok (.iconst 1, 1) := by decide +kernel
theorem dJ6_numberOfTrailingZeros_0f7a4_18 : decode cJ6_numberOfTrailingZeros_0f7a4 18 = .ok (.istore_n 1, 1) := by decide +kernel
theorem dJ6_numberOfTrailingZeros_0f7a4_19 : decode cJ6_numberOfTrailingZeros_0f7a4 19 = .ok (.iload_n 0, 1) := by decide +kernel
theorem dJ6_numberOfTrailingZeros_0f7a4_20 : decode cJ6_numberOfTrailingZeros_0f7a4 20 = .ok (.ldc_w 264, 3) := by decide +kernel
theorem dJ6_numberOfTrailingZeros_0f7a4_23 : decode cJ6_numberOfTrailingZeros_0f7a4 23 = .ok (.if_icmp .le 11, 3) := by decide +kernel
theorem dJ6_numberOfTrailingZeros_0f7a4_26 : decode cJ6_numberOfTrailingZeros_0f7a4 26 = .ok (.iinc 1 16, 3) := by decide +kernel
theorem dJ6_numberOfTrailingZeros_0f7a4_29 : decode cJ6_numberOfTrailingZeros_0f7a4 29 = .ok (.iload_n 0, 1) := by decide +kernel
theorem dJ6_numberOfTrailingZeros_0f7a4_30 : decode cJ6_numberOfTrailingZeros_0f7a4 30 = .ok (.bipush 16, 2) := by decide +kernel
theorem dJ6_numberOfTrailingZeros_0f7a4_32 : decode cJ6_numberOfTrailingZeros_0f7a4 32 = .ok (.iushr, 1) := by decide +kernel
theorem dJ6_numberOfTrailingZeros_0f7a4_33 : decode cJ6_numberOfTrailingZeros_0f7a4 33 = .ok (.istore_n 0, 1) := by decide +kernel
theorem dJ6_numberOfTrailingZeros_0f7a4_34 : decode cJ6_numberOfTrailingZeros_0f7a4 34 = .ok (.iload_n 0, 1) := by decide +kernel
theorem dJ6_numberOfTrailingZeros_0f7a4_35 : decode cJ6_numberOfTrailingZeros_0f7a4 35 = .ok (.sipush 256, 3) := by decide +kernel
theorem dJ6_numberOfTrailingZeros_0f7a4_38 : decode cJ6_numberOfTrailingZeros_0f7a4 38 = .ok (.if_icmp .le 11, 3) := by decide +kernel
theorem dJ6_numberOfTrailingZeros_0f7a4_41 : decode cJ6_numberOfTrailingZeros_0f7a4 41 = .ok (.iinc 1 8, 3) := by decide +kernel
theorem dJ6_numberOfTrailingZeros_0f7a4_44 : decode cJ6_numberOfTrailingZeros_0f7a4 44 = .ok (.iload_n 0, 1) := by decide +kernel
theorem dJ6_numberOfTrailingZeros_0f7a4_45 : decode cJ6_numberOfTrailingZeros_0f7a4 45 = .ok (.bipush 8, 2) := by decide +kernel
theorem dJ6_numberOfTrailingZeros_0f7a4_47 : decode cJ6_numberOfTrailingZeros_0f7a4 47 = .ok (.iushr, 1) := by decide +kernel
theorem dJ6_numberOfTrailingZeros_0f7a4_48 : decode cJ6_numberOfTrailingZeros_0f7a4 48 = .ok (.istore_n 0, 1) := by decide +kernel
theorem dJ6_numberOfTrailingZeros_0f7a4_49 : decode cJ6_numberOfTrailingZeros_0f7a4 49 = .ok (.iload_n 0, 1) := by decide +kernel
theorem dJ6_numberOfTrailingZeros_0f7a4_50 : decode cJ6_numberOfTrailingZeros_0f7a4 50 = .ok (.bipush 16, 2) := by decide +kernel
theorem dJ6_numberOfTrailingZeros_0f7a4_52 : decode cJ6_numberOfTrailingZeros_0f7a4 52 = .ok (.if_icmp .le 10, 3) := by decide +kernel
theorem dJ6_numberOfTrailingZeros_0f7a4_55 : decode cJ6_numberOfTrailingZeros_0f7a4 55 = .ok (.iinc 1 4, 3) := by decide +kernel
theorem dJ6_numberOfTrailingZeros_0f7a4_58 : decode cJ6_numberOfTrailingZeros_0f7a4 58 = .ok (.iload_n 0, 1) := by decide +kernel
theorem dJ6_numberOfTrailingZeros_0f7a4_59 : decode cJ6_numberOfTrailingZeros_0f7a4 59 = .ok (.iconst 4, 1) := by decide +kernel
theorem dJ6_numberOfTrailingZeros_0f7a4_60 : decode cJ6_numberOfTrailingZeros_0f7a4 60 = .ok (.iushr, 1) := by decide +kernel
theorem dJ6_numberOfTrailingZeros_0f7a4_61 : decode cJ6_numberOfTrailingZeros_0f7a4 61 = .ok (.istore_n 0, 1) := by decide +kernel
theorem dJ6_numberOfTrailingZeros_0f7a4_62 : decode cJ6_numberOfTrailingZeros_0f7a4 62 = .ok (.iload_n 0, 1) := by decide +kernel
theorem dJ6_numberOfTrailingZeros_0f7a4_63 : decode cJ6_numberOfTrailingZeros_0f7a4 63 = .ok (.iconst 4, 1) := by decide +kernel
theorem dJ6_numberOfTrailingZeros_0f7a4_64 : decode cJ6_numberOfTrailingZeros_0f7a4 64 = .ok (.if_icmp .le 10, 3) := by decide +kernel
theorem dJ6_numberOfTrailingZeros_0f7a4_67 : decode cJ6_numberOfTrailingZeros_0f7a4 67 = .ok (.iinc 1 2, 3) := by decide +kernel
theorem dJ6_numberOfTrailingZeros_0f7a4_70 : decode cJ6_numberOfTrailingZeros_0f7a4 70 = .ok (.iload_n 0, 1) := by decide +kernel
theorem dJ6_numberOfTrailingZeros_0f7a4_71 : decode cJ6_numberOfTrailingZeros_0f7a4 71 = .ok (.iconst 2, 1) := by decide +kernel
theorem dJ6_numberOfTrailingZeros_0f7a4_72 : decode cJ6_numberOfTrailingZeros_0f7a4 72 = .ok (.iushr, 1) := by decide +kernel
theorem dJ6_numberOfTrailingZeros_0f7a4_73 : decode cJ6_numberOfTrailingZeros_0f7a4 73 = .ok (.istore_n 0, 1) := by decide +kernel
theorem dJ6_numberOfTrailingZeros_0f7a4_74 : decode cJ6_numberOfTrailingZeros_0f7a4 74 = .ok (.iload_n 1, 1) := by decide +kernel
theorem dJ6_numberOfTrailingZeros_0f7a4_75 : decode cJ6_numberOfTrailingZeros_0f7a4 75 = .ok (.iload_n 0, 1) := by decide +kernel
theorem dJ6_numberOfTrailingZeros_0f7a4_76 : decode cJ6_numberOfTrailingZeros_0f7a4 76 = .ok (.iconst 1, 1) := by decide +kernel
theorem dJ6_numberOfTrailingZeros_0f7a4_77 : decode cJ6_numberOfTrailingZeros_0f7a4 77 = .ok (.iushr, 1) := by decide +kernel
theorem dJ6_numberOfTrailingZeros_0f7a4_78 : decode cJ6_numberOfTrailingZeros_0f7a4 78 = .ok (.iadd, 1) := by decide +kernel
theorem dJ6_numberOfTrailingZeros_0f7a4_79 : decode cJ6_numberOfTrailingZeros_0f7a4 79 = .ok (.ireturn, 1) := by decide +kernel
theorem dJ6_bitCount_0f7a4_0 : decode cJ6_bitCount_0f7a4 0 = .ok (.iload_n 0, 1) := by decide +kernel
theorem dJ6_bitCount_0f7a4_1 : decode cJ6_bitCount_0f7a4 1 = .ok (.iload_n 0, 1) := by decide +kernel
theorem dJ6_bitCount_0f7a4_2 : decode cJ6_bitCount_0f7a4 2 = .ok (.iconst 1, 1) := by decide +kernel
theorem dJ6_bitCount_0f7a4_3 : decode cJ6_bitCount_0f7a4 3 = .ok (.iushr, 1) := by decide +kernel
theorem dJ6_bitCount_0f7a4_4 : decode cJ6_bitCount_0f7a4 4 = .ok (.ldc_w 265, 3) := by decide +kernel
theorem dJ6_bitCount_0f7a4_7 : decode cJ6_bitCount_0f7a4 7 = .ok (.iand, 1) := by decide +kernel
theorem dJ6_bitCount_0f7a4_8 : decode cJ6_bitCount_0f7a4 8 = .ok (.isub, 1) := by decide +kernel
theorem dJ6_bitCount_0f7a4_9 : decode cJ6_bitCount_0f7a4 9 = .ok (.istore_n 0, 1) := by decide +kernel
theorem dJ6_bitCount_0f7a4_10 : decode cJ6_bitCount_0f7a4 10 = .ok (.iload_n 0, 1) := by decide +kernel
theorem dJ6_bitCount_0f7a4_11 : decode cJ6_bitCount_0f7a4 11 = .ok (.ldc_w 266, 3) := by decide +kernel
theorem dJ6_bitCount_0f7a4_14 : decode cJ6_bitCount_0f7a4 14 = .ok (.iand, 1) := by decide +kernel
theorem dJ6_bitCount_0f7a4_15 : decode cJ6_bitCount_0f7a4 15 = .ok (.iload_n 0, 1) := by decide +kernel
theorem dJ6_bitCount_0f7a4_16 : decode cJ6_bitCount_0f7a4 16 = .ok (.iconst 2, 1) := by decide +kernel
theorem dJ6_bitCount_0f7a4_17 : decode cJ6_bitCount_0f7a4 17 = .ok (.iushr, 1) := by decide +kernel
theorem dJ6_bitCount_0f7a4_18 : decode cJ6_bitCount_0f7a4 18 = .ok (.ldc_w 266, 3) := by decide +kernel
theorem dJ6_bitCount_0f7a4_21 : decode cJ6_bitCount_0f7a4 21 = .ok (.iand, 1) := by decide +kernel
theorem dJ6_bitCount_0f7a4_22 : decode cJ6_bitCount_0f7a4 22 = .ok (.iadd, 1) := by decide +kernel
theorem dJ6_bitCount_0f7a4_23 : decode cJ6_bitCount_0f7a4 23 = .ok (.istore_n 0, 1) := by decide +kernel
theorem dJ6_bitCount_0f7a4_24 : decode cJ6_bitCount_0f7a4 24 = .ok (.iload_n 0, 1) := by decide +kernel
theorem dJ6_bitCount_0f7a4_25 : decode cJ6_bitCount_0f7a4 25 = .ok (.iload_n 0, 1) := by decide +kernel
theorem dJ6_bitCount_0f7a4_26 : decode cJ6_bitCount_0f7a4 26 = .ok (.iconst 4, 1) := by decide +kernel
theorem dJ6_bitCount_0f7a4_27 : decode cJ6_bitCount_0f7a4 27 = .ok (.iushr, 1) := by decide +kernel
theorem dJ6_bitCount_0f7a4_28 : decode cJ6_bitCount_0f7a4 28 = .ok (.iadd, 1) := by decide +kernel
theorem dJ6_bitCount_0f7a4_29 : decode cJ6_bitCount_0f7a4 29 = .ok (.ldc_w 267, 3) := by decide +kernel
theorem dJ6_bitCount_0f7a4_32 : decode cJ6_bitCount_0f7a4 32 = .ok (.iand, 1) := by decide +kernel
theorem dJ6_bitCount_0f7a4_33 : decode cJ6_bitCount_0f7a4 33 = .ok (.istore_n 0, 1) := by decide +kernel
theorem dJ6_bitCount_0f7a4_34 : decode cJ6_bitCount_0f7a4 34 = .ok (.iload_n 0, 1) := by decide +kernel
theorem dJ6_bitCount_0f7a4_35 : decode cJ6_bitCount_0f7a4 35 = .ok (.iload_n 0, 1) := by decide +kernel
theorem dJ6_bitCount_0f7a4_36 : decode cJ6_bitCount_0f7a4 36 = .ok (.bipush 8, 2) := by decide +kernel
theorem dJ6_bitCount_0f7a4_38 : decode cJ6_bitCount_0f7a4 38 = .ok (.iushr, 1) := by decide +kernel
theorem dJ6_bitCount_0f7a4_39 : decode cJ6_bitCount_0f7a4 39 = .ok (.iadd, 1) := by decide +kernel
theorem dJ6_bitCount_0f7a4_40 : decode cJ6_bitCount_0f7a4 40 = .ok (.istore_n 0, 1) := by decide +kernel
theorem dJ6_bitCount_0f7a4_41 : decode cJ6_bitCount_0f7a4 41 = .ok (.iload_n 0, 1) := by decide +kernel
theorem dJ6_bitCount_0f7a4_42 : decode cJ6_bitCount_0f7a4 42 = .ok (.iload_n 0, 1) := by decide +kernel
theorem dJ6_bitCount_0f7a4_43 : decode cJ6_bitCount_0f7a4 43 = .ok (.bipush 16, 2) := by decide +kernel
theorem dJ6_bitCount_0f7a4_45 : decode cJ6_bitCount_0f7a4 45 = .ok (.iushr, 1) := by decide +kernel
theorem dJ6_bitCount_0f7a4_46 : decode cJ6_bitCount_0f7a4 46 = .ok (.iadd, 1) := by decide +kernel
theorem dJ6_bitCount_0f7a4_47 : decode cJ6_bitCount_0f7a4 47 = .ok (.istore_n 0, 1) := by decide +kernel
theorem dJ6_bitCount_0f7a4_48 : decode cJ6_bitCount_0f7a4 48 = .ok (.iload_n 0, 1) := by decide +kernel
theorem dJ6_bitCount_0f7a4_49 : decode cJ6_bitCount_0f7a4 49 = .ok (.bipush 63, 2) := by decide +kernel
theorem dJ6_bitCount_0f7a4_51 : decode cJ6_bitCount_0f7a4 51 = .ok (.iand, 1) := by decide +kernel
theorem dJ6_bitCount_0f7a4_52 : decode cJ6_bitCount_0f7a4 52 = .ok (.ireturn, 1) := by decide +kernel
theorem dJ9_abs_0f7a4_0 : decode cJ9_abs_0f7a4 0 = .ok (.iload_n 0, 1) := by decide +kernel
theorem dJ9_abs_0f7a4_1 : decode cJ9_abs_0f7a4 1 = .ok (.ifCond .ge 8, 3) := by decide +kernel
theorem dJ9_abs_0f7a4_4 : decode cJ9_abs_0f7a4 4 = .ok (.iload_n 0, 1) := by decide +kernel
theorem dJ9_abs_0f7a4_5 : decode cJ9_abs_0f7a4 5 = .ok (.ineg, 1) := by decide +kernel
theorem dJ9_abs_0f7a4_6 : decode cJ9_abs_0f7a4 6 = .ok (.goto 4, 3) := by decide +kernel
theorem dJ9_abs_0f7a4_9 : decode cJ9_abs_0f7a4 9 = .ok (.iload_n 0, 1) := by decide +kernel
theorem dJ9_abs_0f7a4_10 : decode cJ9_abs_0f7a4 10 = .ok (.ireturn, 1) := by decide +kernel
theorem dJ9_max_7cf53_0 : decode cJ9_max_7cf53 0 = .ok (.iload_n 0, 1) := by decide +kernel
theorem dJ9_max_7cf53_1 : decode cJ9_max_7cf53 1 = .ok (.iload_n 1, 1) := by decide +kernel
theorem dJ9_max_7cf53_2 : decode cJ9_max_7cf53 2 = .ok (.if_icmp .lt 7, 3) := by decide +kernel
theorem dJ9_max_7cf53_5 : decode cJ9_max_7cf53 5 = .ok (.iload_n 0, 1) := by decide +kernel
theorem dJ9_max_7cf53_6 : decode cJ9_max_7cf53 6 = .ok (.goto 4, 3) := by decide +kernel
theorem dJ9_max_7cf53_9 : decode cJ9_max_7cf53 9 = .ok (.iload_n 1, 1) := by decide +kernel
theorem dJ9_max_7cf53_10 : decode cJ9_max_7cf53 10 = .ok (.ireturn, 1) := by decide +kernel
theorem dJ9_min_7cf53_0 : decode cJ9_min_7cf53 0 = .ok (.iload_n 0, 1) := by decide +kernel
theorem dJ9_min_7cf53_1 : decode cJ9_min_7cf53 1 = .ok (.iload_n 1, 1) := by decide +kernel
theorem dJ9_min_7cf53_2 : decode cJ9_min_7cf53 2 = .ok (.if_icmp .gt 7, 3) := by decide +kernel
theorem dJ9_min_7cf53_5 : decode cJ9_min_7cf53 5 = .ok (.iload_n 0, 1) := by decide +kernel
theorem dJ9_min_7cf53_6 : decode cJ9_min_7cf53 6 = .ok (.goto 4, 3) := by decide +kernel
theorem dJ9_min_7cf53_9 : decode cJ9_min_7cf53 9 = .ok (.iload_n 1, 1) := by decide +kernel
theorem dJ9_min_7cf53_10 : decode cJ9_min_7cf53 10 = .ok (.ireturn, 1) := by decide +kernel
theorem dL_below_0 : decode cL_below 0 = .ok (.iload_n 0, 1) := by decide +kernel
theorem dL_below_1 : decode cL_below 1 = .ok (.ldc 7, 2) := by decide +kernel
theorem dL_below_3 : decode cL_below 3 = .ok (.iand, 1) := by decide +kernel
theorem dL_below_4 : decode cL_below 4 = .ok (.iload_n 1, 1) := by decide +kernel
theorem dL_below_5 : decode cL_below 5 = .ok (.irem, 1) := by decide +kernel
theorem dL_below_6 : decode cL_below 6 = .ok (.ireturn, 1) := by decide +kernel
theorem dL_cell_0 : decode cL_cell 0 = .ok (.iload_n 1, 1) := by decide +kernel
theorem dL_cell_1 : decode cL_cell 1 = .ok (.aload_n 0, 1) := by decide +kernel
theorem dL_cell_2 : decode cL_cell 2 = .ok (.arraylength, 1) := by decide +kernel
theorem dL_cell_3 : decode cL_cell 3 = .ok (.if_icmp .ge 9, 3) := by decide +kernel
theorem dL_cell_6 : decode cL_cell 6 = .ok (.aload_n 0, 1) := by decide +kernel
theorem dL_cell_7 : decode cL_cell 7 = .ok (.iload_n 1, 1) := by decide +kernel
theorem dL_cell_8 : decode cL_cell 8 = .ok (.iaload, 1) := by decide +kernel
theorem dL_cell_9 : decode cL_cell 9 = .ok (.goto 9, 3) := by decide +kernel
theorem dL_cell_12 : decode cL_cell 12 = .ok (.ldc 8, 2) := by decide +kernel
theorem dL_cell_14 : decode cL_cell 14 = .ok (.iload_n 1, 1) := by decide +kernel
theorem dL_cell_15 : decode cL_cell 15 = .ok (.iconst 3, 1) := by decide +kernel
theorem dL_cell_16 : decode cL_cell 16 = .ok (.iadd, 1) := by decide +kernel
theorem dL_cell_17 : decode cL_cell 17 = .ok (.imul, 1) := by decide +kernel
theorem dL_cell_18 : decode cL_cell 18 = .ok (.ireturn, 1) := by decide +kernel
theorem dL_law_0 : decode cL_law 0 = .ok (.iconst 0, 1) := by decide +kernel
theorem dL_law_1 : decode cL_law 1 = .ok (.istore_n 1, 1) := by decide +kernel
theorem dL_law_2 : decode cL_law 2 = .ok (.iload_n 1, 1) := by decide +kernel
theorem dL_law_3 : decode cL_law 3 = .ok (.iconst 3, 1) := by decide +kernel
theorem dL_law_4 : decode cL_law 4 = .ok (.if_icmp .ge 923, 3) := by decide +kernel
theorem dL_law_7 : decode cL_law 7 = .ok (.new 9, 3) := by decide +kernel
theorem dL_law_10 : decode cL_law 10 = .ok (.dup, 1) := by decide +kernel
theorem dL_law_11 : decode cL_law 11 = .ok (.aload_n 0, 1) := by decide +kernel
theorem dL_law_12 : decode cL_law 12 = .ok (.bipush 31, 2) := by decide +kernel
theorem dL_law_14 : decode cL_law 14 = .ok (.iload_n 1, 1) := by decide +kernel
theorem dL_law_15 : decode cL_law 15 = .ok (.imul, 1) := by decide +kernel
theorem dL_law_16 : decode cL_law 16 = .ok (.bipush 7, 2) := by decide +kernel
theorem dL_law_18 : decode cL_law 18 = .ok (.iadd, 1) := by decide +kernel
theorem dL_law_19 : decode cL_law 19 = .ok (.invokespecial 11, 3) := by decide +kernel
theorem dL_law_22 : decode cL_law 22 = .ok (.astore_n 2, 1) := by decide +kernel
theorem dL_law_23 : decode cL_law 23 = .ok (.aload_n 2, 1) := by decide +kernel
theorem dL_law_24 : decode cL_law 24 = .ok (.getfield 14, 3) := by decide +kernel
theorem dL_law_27 : decode cL_law 27 = .ok (.astore_n 3, 1) := by decide +kernel
theorem dL_law_28 : decode cL_law 28 = .ok (.iconst 0, 1) := by decide +kernel
theorem dL_law_29 : decode cL_law 29 = .ok (.istore 4, 2) := by decide +kernel
theorem dL_law_31 : decode cL_law 31 = .ok (.iconst 0, 1) := by decide +kernel
theorem dL_law_32 : decode cL_law 32 = .ok (.istore 5, 2) := by decide +kernel
theorem dL_law_34 : decode cL_law 34 = .ok (.iload 5, 2) := by decide +kernel
theorem dL_law_36 : decode cL_law 36 = .ok (.iconst 3, 1) := by decide +kernel
theorem dL_law_37 : decode cL_law 37 = .ok (.if_icmp .ge 884, 3) := by decide +kernel
theorem dL_law_40 : decode cL_law 40 = .ok (.aload_n 2, 1) := by decide +kernel
theorem dL_law_41 : decode cL_law 41 = .ok (.invokevirtual 18, 3) := by decide +kernel
theorem dL_law_44 : decode cL_law 44 = .ok (.ifCond .eq 24, 3) := by decide +kernel
theorem dL_law_47 : decode cL_law 47 = .ok (.aload_n 2, 1) := by decide +kernel
theorem dL_law_48 : decode cL_law 48 = .ok (.iconst 1, 1) := by decide +kernel
theorem dL_law_49 : decode cL_law 49 = .ok (.aload_n 2, 1) := by decide +kernel
theorem dL_law_50 : decode cL_law 50 = .ok (.iconst 5, 1) := by decide +kernel
theorem dL_law_51 : decode cL_law 51 = .ok (.invokevirtual 22, 3) := by decide +kernel
theorem dL_law_54 : decode cL_law 54 = .ok (.iadd, 1) := by decide +kernel
theorem dL_law_55 : decode cL_law 55 = .ok (.invokevirtual 26, 3) := by decide +kernel
theorem dL_law_58 : decode cL_law 58 = .ok (.ifCond .eq 10, 3) := by decide +kernel
theorem dL_law_61 : decode cL_law 61 = .ok (.aload_n 2, 1) := by decide +kernel
theorem dL_law_62 : decode cL_law 62 = .ok (.invokevirtual 30, 3) := by decide +kernel
theorem dL_law_65 : decode cL_law 65 = .ok (.ifCond .ne 5, 3) := by decide +kernel
theorem dL_law_68 : decode cL_law 68 = .ok (.iconst 0, 1) := by decide +kernel
theorem dL_law_69 : decode cL_law 69 = .ok (.ireturn, 1) := by decide +kernel
theorem dL_law_70 : decode cL_law 70 = .ok (.iconst 0, 1) := by decide +kernel
theorem dL_law_71 : decode cL_law 71 = .ok (.istore 6, 2) := by decide +kernel
theorem dL_law_73 : decode cL_law 73 = .ok (.iload 6, 2) := by decide +kernel
theorem dL_law_75 : decode cL_law 75 = .ok (.bipush 34, 2) := by decide +kernel
theorem dL_law_77 : decode cL_law 77 = .ok (.if_icmp .ge 732, 3) := by decide +kernel
theorem dL_law_80 : decode cL_law 80 = .ok (.aload_n 2, 1) := by decide +kernel
theorem dL_law_81 : decode cL_law 81 = .ok (.getfield 33, 3) := by decide +kernel
theorem dL_law_84 : decode cL_law 84 = .ok (.iconst 3, 1) := by decide +kernel
theorem dL_law_85 : decode cL_law 85 = .ok (.if_icmp .ge 724, 3) := by decide +kernel
theorem dL_law_88 : decode cL_law 88 = .ok (.aload_n 2, 1) := by decide +kernel
theorem dL_law_89 : decode cL_law 89 = .ok (.getfield 33, 3) := by decide +kernel
theorem dL_law_92 : decode cL_law 92 = .ok (.iconst 1, 1) := by decide +kernel
theorem dL_law_93 : decode cL_law 93 = .ok (.if_icmp .ne 33, 3) := by decide +kernel
theorem dL_law_96 : decode cL_law 96 = .ok (.aload_n 2, 1) := by decide +kernel
theorem dL_law_97 : decode cL_law 97 = .ok (.aload_n 2, 1) := by decide +kernel
theorem dL_law_98 : decode cL_law 98 = .ok (.iconst 3, 1) := by decide +kernel
theorem dL_law_99 : decode cL_law 99 = .ok (.invokevirtual 22, 3) := by decide +kernel
theorem dL_law_102 : decode cL_law 102 = .ok (.ifCond .le 7, 3) := by decide +kernel
theorem dL_law_105 : decode cL_law 105 = .ok (.iconst 0, 1) := by decide +kernel
theorem dL_law_106 : decode cL_law 106 = .ok (.goto 11, 3) := by decide +kernel
theorem dL_law_109 : decode cL_law 109 = .ok (.iconst 1, 1) := by decide +kernel
theorem dL_law_110 : decode cL_law 110 = .ok (.aload_n 2, 1) := by decide +kernel
theorem dL_law_111 : decode cL_law 111 = .ok (.bipush 42, 2) := by decide +kernel
theorem dL_law_113 : decode cL_law 113 = .ok (.invokevirtual 22, 3) := by decide +kernel
theorem dL_law_116 : decode cL_law 116 = .ok (.iadd, 1) := by decide +kernel
theorem dL_law_117 : decode cL_law 117 = .ok (.invokevirtual 37, 3) := by decide +kernel
theorem dL_law_120 : decode cL_law 120 = .ok (.ifCond .eq 13, 3) := by decide +kernel
theorem dL_law_123 : decode cL_law 123 = .ok (.goto 12, 3) := by decide +kernel
theorem dL_law_126 : decode cL_law 126 = .ok (.aload_n 2, 1) := by decide +kernel
theorem dL_law_127 : decode cL_law 127 = .ok (.invokevirtual 40, 3) := by decide +kernel
theorem dL_law_130 : decode cL_law 130 = .ok (.ifCond .ne 5, 3) := by decide +kernel
theorem dL_law_133 : decode cL_law 133 = .ok (.iconst 0, 1) := by decide +kernel
theorem dL_law_134 : decode cL_law 134 = .ok (.ireturn, 1) := by decide +kernel
theorem dL_law_135 : decode cL_law 135 = .ok (.iload 6, 2) := by decide +kernel
theorem dL_law_137 : decode cL_law 137 = .ok (.iconst 4, 1) := by decide +kernel
theorem dL_law_138 : decode cL_law 138 = .ok (.irem, 1) := by decide +kernel
theorem dL_law_139 : decode cL_law 139 = .ok (.iconst 3, 1) := by decide +kernel
theorem dL_law_140 : decode cL_law 140 = .ok (.if_icmp .ne 663, 3) := by decide +kernel
theorem dL_law_143 : decode cL_law 143 = .ok (.aload_n 2, 1) := by decide +kernel
theorem dL_law_144 : decode cL_law 144 = .ok (.getfield 33, 3) := by decide +kernel
theorem dL_law_147 : decode cL_law 147 = .ok (.iconst 2, 1) := by decide +kernel
theorem dL_law_148 : decode cL_law 148 = .ok (.if_icmp .ne 18, 3) := by decide +kernel
theorem dL_law_151 : decode cL_law 151 = .ok (.aload_n 2, 1) := by decide +kernel
theorem dL_law_152 : decode cL_law 152 = .ok (.aload_n 2, 1) := by decide +kernel
theorem dL_law_153 : decode cL_law 153 = .ok (.invokevirtual 43, 3) := by decide +kernel
theorem dL_law_156 : decode cL_law 156 = .ok (.invokevirtual 47, 3) := by decide +kernel
theorem dL_law_159 : decode cL_law 159 = .ok (.iconst 3, 1) := by decide +kernel
theorem dL_law_160 : decode cL_law 160 = .ok (.if_icmp .ne 6, 3) := by decide +kernel
theorem dL_law_163 : decode cL_law 163 = .ok (.goto 640, 3) := by decide +kernel
theorem dL_law_166 : decode cL_law 166 = .ok (.aload_n 3, 1) := by decide +kernel
theorem dL_law_167 : decode cL_law 167 = .ok (.invokevirtual 50, 3) := by decide +kernel
theorem dL_law_170 : decode cL_law 170 = .ok (.lstore 7, 2) := by decide +kernel
theorem dL_law_172 : decode cL_law 172 = .ok (.iconst 0, 1) := by decide +kernel
theorem dL_law_173 : decode cL_law 173 = .ok (.istore 9, 2) := by decide +kernel
theorem dL_law_175 : decode cL_law 175 = .ok (.iconst 0, 1) := by decide +kernel
theorem dL_law_176 : decode cL_law 176 = .ok (.istore 10, 2) := by decide +kernel
theorem dL_law_178 : decode cL_law 178 = .ok (.iload 10, 2) := by decide +kernel
theorem dL_law_180 : decode cL_law 180 = .ok (.iconst 4, 1) := by decide +kernel
theorem dL_law_181 : decode cL_law 181 = .ok (.if_icmp .ge 109, 3) := by decide +kernel
theorem dL_law_184 : decode cL_law 184 = .ok (.aload_n 3, 1) := by decide +kernel
theorem dL_law_185 : decode cL_law 185 = .ok (.iload 10, 2) := by decide +kernel
theorem dL_law_187 : decode cL_law 187 = .ok (.iconst 4, 1) := by decide +kernel
theorem dL_law_188 : decode cL_law 188 = .ok (.iconst 0, 1) := by decide +kernel
theorem dL_law_189 : decode cL_law 189 = .ok (.invokevirtual 56, 3) := by decide +kernel
theorem dL_law_192 : decode cL_law 192 = .ok (.istore 11, 2) := by decide +kernel
theorem dL_law_194 : decode cL_law 194 = .ok (.iload 9, 2) := by decide +kernel
theorem dL_law_196 : decode cL_law 196 = .ok (.iload 11, 2) := by decide +kernel
theorem dL_law_198 : decode cL_law 198 = .ok (.iadd, 1) := by decide +kernel
theorem dL_law_199 : decode cL_law 199 = .ok (.istore 9, 2) := by decide +kernel
theorem dL_law_201 : decode cL_law 201 = .ok (.aload_n 3, 1) := by decide +kernel
theorem dL_law_202 : decode cL_law 202 = .ok (.iload 10, 2) := by decide +kernel
theorem dL_law_204 : decode cL_law 204 = .ok (.iconst 0, 1) := by decide +kernel
theorem dL_law_205 : decode cL_law 205 = .ok (.iconst 0, 1) := by decide +kernel
theorem dL_law_206 : decode cL_law 206 = .ok (.invokevirtual 56, 3) := by decide +kernel
theorem dL_law_209 : decode cL_law 209 = .ok (.aload_n 3, 1) := by decide +kernel
theorem dL_law_210 : decode cL_law 210 = .ok (.iload 10, 2) := by decide +kernel
theorem dL_law_212 : decode cL_law 212 = .ok (.iconst 1, 1) := by decide +kernel
theorem dL_law_213 : decode cL_law 213 = .ok (.iconst 0, 1) := by decide +kernel
theorem dL_law_214 : decode cL_law 214 = .ok (.invokevirtual 56, 3) := by decide +kernel
theorem dL_law_217 : decode cL_law 217 = .ok (.iadd, 1) := by decide +kernel
theorem dL_law_218 : decode cL_law 218 = .ok (.aload_n 3, 1) := by decide +kernel
theorem dL_law_219 : decode cL_law 219 = .ok (.iload 10, 2) := by decide +kernel
theorem dL_law_221 : decode cL_law 221 = .ok (.iconst 2, 1) := by decide +kernel
theorem dL_law_222 : decode cL_law 222 = .ok (.iconst 0, 1) := by decide +kernel
theorem dL_law_223 : decode cL_law 223 = .ok (.invokevirtual 56, 3) := by decide +kernel
theorem dL_law_226 : decode cL_law 226 = .ok (.iadd, 1) := by decide +kernel
theorem dL_law_227 : decode cL_law 227 = .ok (.aload_n 3, 1) := by decide +kernel
theorem dL_law_228 : decode cL_law 228 = .ok (.iload 10, 2) := by decide +kernel
theorem dL_law_230 : decode cL_law 230 = .ok (.iconst 3, 1) := by decide +kernel
theorem dL_law_231 : decode cL_law 231 = .ok (.iconst 0, 1) := by decide +kernel
theorem dL_law_232 : decode cL_law 232 = .ok (.invokevirtual 56, 3) := by decide +kernel
theorem dL_law_235 : decode cL_law 235 = .ok (.iadd, 1) := by decide +kernel
theorem dL_law_236 : decode cL_law 236 = .ok (.iload 11, 2) := by decide +kernel
theorem dL_law_238 : decode cL_law 238 = .ok (.if_icmp .ne 44, 3) := by decide +kernel
theorem dL_law_241 : decode cL_law 241 = .ok (.iload 11, 2) := by decide +kernel
theorem dL_law_243 : decode cL_law 243 = .ok (.ifCond .le 41, 3) := by decide +kernel
theorem dL_law_246 : decode cL_law 246 = .ok (.aload_n 3, 1) := by decide +kernel
theorem dL_law_247 : decode cL_law 247 = .ok (.iload 10, 2) := by decide +kernel
theorem dL_law_249 : decode cL_law 249 = .ok (.aload_n 3, 1) := by decide +kernel
theorem dL_law_250 : decode cL_law 250 = .ok (.iload 10, 2) := by decide +kernel
theorem dL_law_252 : decode cL_law 252 = .ok (.iconst 4, 1) := by decide +kernel
theorem dL_law_253 : decode cL_law 253 = .ok (.iconst 1, 1) := by decide +kernel
theorem dL_law_254 : decode cL_law 254 = .ok (.invokevirtual 56, 3) := by decide +kernel
theorem dL_law_257 : decode cL_law 257 = .ok (.invokevirtual 60, 3) := by decide +kernel
theorem dL_law_260 : decode cL_law 260 = .ok (.ifCond .eq 22, 3) := by decide +kernel
theorem dL_law_263 : decode cL_law 263 = .ok (.aload_n 3, 1) := by decide +kernel
theorem dL_law_264 : decode cL_law 264 = .ok (.iload 10, 2) := by decide +kernel
theorem dL_law_266 : decode cL_law 266 = .ok (.iconst 4, 1) := by decide +kernel
theorem dL_law_267 : decode cL_law 267 = .ok (.iconst 2, 1) := by decide +kernel
theorem dL_law_268 : decode cL_law 268 = .ok (.invokevirtual 56, 3) := by decide +kernel
theorem dL_law_271 : decode cL_law 271 = .ok (.aload_n 3, 1) := by decide +kernel
theorem dL_law_272 : decode cL_law 272 = .ok (.iload 10, 2) := by decide +kernel
theorem dL_law_274 : decode cL_law 274 = .ok (.iconst 4, 1) := by decide +kernel
theorem dL_law_275 : decode cL_law 275 = .ok (.iconst 1, 1) := by decide +kernel
theorem dL_law_276 : decode cL_law 276 = .ok (.invokevirtual 56, 3) := by decide +kernel
theorem dL_law_279 : decode cL_law 279 = .ok (.if_icmp .le 5, 3) := by decide +kernel
theorem dL_law_282 : decode cL_law 282 = .ok (.iconst 0, 1) := by decide +kernel
theorem dL_law_283 : decode cL_law 283 = .ok (.ireturn, 1) := by decide +kernel
theorem dL_law_284 : decode cL_law 284 = .ok (.iinc 10 1, 3) := by decide +kernel
theorem dL_law_287 : decode cL_law 287 = .ok (.goto (-109), 3) := by decide +kernel
theorem dL_law_290 : decode cL_law 290 = .ok (.iload 9, 2) := by decide +kernel
theorem dL_law_292 : decode cL_law 292 = .ok (.aload_n 3, 1) := by decide +kernel
theorem dL_law_293 : decode cL_law 293 = .ok (.iconst 5, 1) := by decide +kernel
theorem dL_law_294 : decode cL_law 294 = .ok (.invokevirtual 64, 3) := by decide +kernel
theorem dL_law_297 : decode cL_law 297 = .ok (.iadd, 1) := by decide +kernel
theorem dL_law_298 : decode cL_law 298 = .ok (.iconst 4, 1) := by decide +kernel
theorem dL_law_299 : decode cL_law 299 = .ok (.aload_n 3, 1) := by decide +kernel
theorem dL_law_300 : decode cL_law 300 = .ok (.iconst 4, 1) := by decide +kernel
theorem dL_law_301 : decode cL_law 301 = .ok (.invokevirtual 64, 3) := by decide +kernel
theorem dL_law_304 : decode cL_law 304 = .ok (.imul, 1) := by decide +kernel
theorem dL_law_305 : decode cL_law 305 = .ok (.iadd, 1) := by decide +kernel
theorem dL_law_306 : decode cL_law 306 = .ok (.iconst 4, 1) := by decide +kernel
theorem dL_law_307 : decode cL_law 307 = .ok (.aload_n 2, 1) := by decide +kernel
theorem dL_law_308 : decode cL_law 308 = .ok (.getfield 67, 3) := by decide +kernel
theorem dL_law_311 : decode cL_law 311 = .ok (.imul, 1) := by decide +kernel
theorem dL_law_312 : decode cL_law 312 = .ok (.if_icmp .ne 19, 3) := by decide +kernel
theorem dL_law_315 : decode cL_law 315 = .ok (.aload_n 3, 1) := by decide +kernel
theorem dL_law_316 : decode cL_law 316 = .ok (.iconst 4, 1) := by decide +kernel
theorem dL_law_317 : decode cL_law 317 = .ok (.invokevirtual 64, 3) := by decide +kernel
theorem dL_law_320 : decode cL_law 320 = .ok (.iconst 4, 1) := by decide +kernel
theorem dL_law_321 : decode cL_law 321 = .ok (.imul, 1) := by decide +kernel
theorem dL_law_322 : decode cL_law 322 = .ok (.iconst 4, 1) := by decide +kernel
theorem dL_law_323 : decode cL_law 323 = .ok (.aload_n 2, 1) := by decide +kernel
theorem dL_law_324 : decode cL_law 324 = .ok (.getfield 67, 3) := by decide +kernel
theorem dL_law_327 : decode cL_law 327 = .ok (.imul, 1) := by decide +kernel
theorem dL_law_328 : decode cL_law 328 = .ok (.if_icmp .le 5, 3) := by decide +kernel
theorem dL_law_331 : decode cL_law 331 = .ok (.iconst 0, 1) := by decide +kernel
theorem dL_law_332 : decode cL_law 332 = .ok (.ireturn, 1) := by decide +kernel
theorem dL_law_333 : decode cL_law 333 = .ok (.aload_n 3, 1) := by decide +kernel
theorem dL_law_334 : decode cL_law 334 = .ok (.iconst 0, 1) := by decide +kernel
theorem dL_law_335 : decode cL_law 335 = .ok (.invokevirtual 64, 3) := by decide +kernel
theorem dL_law_338 : decode cL_law 338 = .ok (.iconst 1, 1) := by decide +kernel
theorem dL_law_339 : decode cL_law 339 = .ok (.if_icmp .ne 112, 3) := by decide +kernel
theorem dL_law_342 : decode cL_law 342 = .ok (.iconst 1, 1) := by decide +kernel
theorem dL_law_343 : decode cL_law 343 = .ok (.istore 10, 2) := by decide +kernel
theorem dL_law_345 : decode cL_law 345 = .ok (.iload 10, 2) := by decide +kernel
theorem dL_law_347 : decode cL_law 347 = .ok (.bipush 40, 2) := by decide +kernel
theorem dL_law_349 : decode cL_law 349 = .ok (.if_icmp .gt 18, 3) := by decide +kernel
theorem dL_law_352 : decode cL_law 352 = .ok (.aload_n 3, 1) := by decide +kernel
theorem dL_law_353 : decode cL_law 353 = .ok (.iload 10, 2) := by decide +kernel
theorem dL_law_355 : decode cL_law 355 = .ok (.invokevirtual 70, 3) := by decide +kernel
theorem dL_law_358 : decode cL_law 358 = .ok (.ifCond .ne 9, 3) := by decide +kernel
theorem dL_law_361 : decode cL_law 361 = .ok (.iinc 10 1, 3) := by decide +kernel
theorem dL_law_364 : decode cL_law 364 = .ok (.goto (-19), 3) := by decide +kernel
theorem dL_law_367 : decode cL_law 367 = .ok (.iconst 1, 1) := by decide +kernel
theorem dL_law_368 : decode cL_law 368 = .ok (.istore 11, 2) := by decide +kernel
theorem dL_law_370 : decode cL_law 370 = .ok (.iload 11, 2) := by decide +kernel
theorem dL_law_372 : decode cL_law 372 = .ok (.bipush 40, 2) := by decide +kernel
theorem dL_law_374 : decode cL_law 374 = .ok (.if_icmp .gt 32, 3) := by decide +kernel
theorem dL_law_377 : decode cL_law 377 = .ok (.aload_n 3, 1) := by decide +kernel
theorem dL_law_378 : decode cL_law 378 = .ok (.iload 11, 2) := by decide +kernel
theorem dL_law_380 : decode cL_law 380 = .ok (.invokevirtual 70, 3) := by decide +kernel
theorem dL_law_383 : decode cL_law 383 = .ok (.iload 11, 2) := by decide +kernel
theorem dL_law_385 : decode cL_law 385 = .ok (.iload 10, 2) := by decide +kernel
theorem dL_law_387 : decode cL_law 387 = .ok (.if_icmp .lt 7, 3) := by decide +kernel
theorem dL_law_390 : decode cL_law 390 = .ok (.iconst 1, 1) := by decide +kernel
theorem dL_law_391 : decode cL_law 391 = .ok (.goto 4, 3) := by decide +kernel
theorem dL_law_394 : decode cL_law 394 = .ok (.iconst 0, 1) := by decide +kernel
theorem dL_law_395 : decode cL_law 395 = .ok (.if_icmp .eq 5, 3) := by decide +kernel
theorem dL_law_398 : decode cL_law 398 = .ok (.iconst 0, 1) := by decide +kernel
theorem dL_law_399 : decode cL_law 399 = .ok (.ireturn, 1) := by decide +kernel
theorem dL_law_400 : decode cL_law 400 = .ok (.iinc 11 1, 3) := by decide +kernel
theorem dL_law_403 : decode cL_law 403 = .ok (.goto (-33), 3) := by decide +kernel
theorem dL_law_406 : decode cL_law 406 = .ok (.aload_n 3, 1) := by decide +kernel
theorem dL_law_407 : decode cL_law 407 = .ok (.iconst 0, 1) := by decide +kernel
theorem dL_law_408 : decode cL_law 408 = .ok (.invokevirtual 70, 3) := by decide +kernel
theorem dL_law_411 : decode cL_law 411 = .ok (.ifCond .eq 38, 3) := by decide +kernel
theorem dL_law_414 : decode cL_law 414 = .ok (.aload_n 3, 1) := by decide +kernel
theorem dL_law_415 : decode cL_law 415 = .ok (.bipush 41, 2) := by decide +kernel
theorem dL_law_417 : decode cL_law 417 = .ok (.invokevirtual 70, 3) := by decide +kernel
theorem dL_law_420 : decode cL_law 420 = .ok (.ifCond .eq 12, 3) := by decide +kernel
theorem dL_law_423 : decode cL_law 423 = .ok (.aload_n 3, 1) := by decide +kernel
theorem dL_law_424 : decode cL_law 424 = .ok (.bipush 42, 2) := by decide +kernel
theorem dL_law_426 : decode cL_law 426 = .ok (.invokevirtual 70, 3) := by decide +kernel
theorem dL_law_429 : decode cL_law 429 = .ok (.ifCond .ne 20, 3) := by decide +kernel
theorem dL_law_432 : decode cL_law 432 = .ok (.aload_n 3, 1) := by decide +kernel
theorem dL_law_433 : decode cL_law 433 = .ok (.iconst 1, 1) := by decide +kernel
theorem dL_law_434 : decode cL_law 434 = .ok (.invokevirtual 73, 3) := by decide +kernel
theorem dL_law_437 : decode cL_law 437 = .ok (.iconst (-1), 1) := by decide +kernel
theorem dL_law_438 : decode cL_law 438 = .ok (.if_icmp .ne 11, 3) := by decide +kernel
theorem dL_law_441 : decode cL_law 441 = .ok (.aload_n 3, 1) := by decide +kernel
theorem dL_law_442 : decode cL_law 442 = .ok (.invokevirtual 76, 3) := by decide +kernel
theorem dL_law_445 : decode cL_law 445 = .ok (.iconst (-1), 1) := by decide +kernel
theorem dL_law_446 : decode cL_law 446 = .ok (.if_icmp .eq 5, 3) := by decide +kernel
theorem dL_law_449 : decode cL_law 449 = .ok (.iconst 0, 1) := by decide +kernel
theorem dL_law_450 : decode cL_law 450 = .ok (.ireturn, 1) := by decide +kernel
theorem dL_law_451 : decode cL_law 451 = .ok (.aload_n 3, 1) := by decide +kernel
theorem dL_law_452 : decode cL_law 452 = .ok (.iconst 0, 1) := by decide +kernel
theorem dL_law_453 : decode cL_law 453 = .ok (.invokevirtual 64, 3) := by decide +kernel
theorem dL_law_456 : decode cL_law 456 = .ok (.iconst 2, 1) := by decide +kernel
theorem dL_law_457 : decode cL_law 457 = .ok (.if_icmp .ne 256, 3) := by decide +kernel
theorem dL_law_460 : decode cL_law 460 = .ok (.aload_n 3, 1) := by decide +kernel
theorem dL_law_461 : decode cL_law 461 = .ok (.iconst 2, 1) := by decide +kernel
theorem dL_law_462 : decode cL_law 462 = .ok (.invokevirtual 64, 3) := by decide +kernel
theorem dL_law_465 : decode cL_law 465 = .ok (.istore 10, 2) := by decide +kernel
theorem dL_law_467 : decode cL_law 467 = .ok (.iconst 0, 1) := by decide +kernel
theorem dL_law_468 : decode cL_law 468 = .ok (.istore 11, 2) := by decide +kernel
theorem dL_law_470 : decode cL_law 470 = .ok (.bipush 9, 2) := by decide +kernel
theorem dL_law_472 : decode cL_law 472 = .ok (.istore 12, 2) := by decide +kernel
theorem dL_law_474 : decode cL_law 474 = .ok (.iconst (-1), 1) := by decide +kernel
theorem dL_law_475 : decode cL_law 475 = .ok (.istore 13, 2) := by decide +kernel
theorem dL_law_477 : decode cL_law 477 = .ok (.iconst 0, 1) := by decide +kernel
theorem dL_law_478 : decode cL_law 478 = .ok (.istore 14, 2) := by decide +kernel
theorem dL_law_480 : decode cL_law 480 = .ok (.iload 14, 2) := by decide +kernel
theorem dL_law_482 : decode cL_law 482 = .ok (.bipush 32, 2) := by decide +kernel
theorem dL_law_484 : decode cL_law 484 = .ok (.if_icmp .ge 82, 3) := by decide +kernel
theorem dL_law_487 : decode cL_law 487 = .ok (.aload_n 3, 1) := by decide +kernel
theorem dL_law_488 : decode cL_law 488 = .ok (.iload 14, 2) := by decide +kernel
theorem dL_law_490 : decode cL_law 490 = .ok (.invokevirtual 79, 3) := by decide +kernel
theorem dL_law_493 : decode cL_law 493 = .ok (.ifCond .ne 6, 3) := by decide +kernel
theorem dL_law_496 : decode cL_law 496 = .ok (.goto 64, 3) := by decide +kernel
theorem dL_law_499 : decode cL_law 499 = .ok (.iinc 11 1, 3) := by decide +kernel
theorem dL_law_502 : decode cL_law 502 = .ok (.aload_n 3, 1) := by decide +kernel
theorem dL_law_503 : decode cL_law 503 = .ok (.iload 10, 2) := by decide +kernel
theorem dL_law_505 : decode cL_law 505 = .ok (.iload 14, 2) := by decide +kernel
theorem dL_law_507 : decode cL_law 507 = .ok (.invokevirtual 60, 3) := by decide +kernel
theorem dL_law_510 : decode cL_law 510 = .ok (.ifCond .eq 22, 3) := by decide +kernel
theorem dL_law_513 : decode cL_law 513 = .ok (.aload_n 3, 1) := by decide +kernel
theorem dL_law_514 : decode cL_law 514 = .ok (.iload 14, 2) := by decide +kernel
theorem dL_law_516 : decode cL_law 516 = .ok (.invokevirtual 82, 3) := by decide +kernel
theorem dL_law_519 : decode cL_law 519 = .ok (.iload 10, 2) := by decide +kernel
theorem dL_law_521 : decode cL_law 521 = .ok (.if_icmp .eq 13, 3) := by decide +kernel
theorem dL_law_524 : decode cL_law 524 = .ok (.aload_n 3, 1) := by decide +kernel
theorem dL_law_525 : decode cL_law 525 = .ok (.iconst 5, 1) := by decide +kernel
theorem dL_law_526 : decode cL_law 526 = .ok (.invokevirtual 64, 3) := by decide +kernel
theorem dL_law_529 : decode cL_law 529 = .ok (.ifCond .ne 5, 3) := by decide +kernel
theorem dL_law_532 : decode cL_law 532 = .ok (.iconst 0, 1) := by decide +kernel
theorem dL_law_533 : decode cL_law 533 = .ok (.ireturn, 1) := by decide +kernel
theorem dL_law_534 : decode cL_law 534 = .ok (.aload_n 3, 1) := by decide +kernel
theorem dL_law_535 : decode cL_law 535 = .ok (.iload 14, 2) := by decide +kernel
theorem dL_law_537 : decode cL_law 537 = .ok (.invokevirtual 85, 3) := by decide +kernel
theorem dL_law_540 : decode cL_law 540 = .ok (.istore 15, 2) := by decide +kernel
theorem dL_law_542 : decode cL_law 542 = .ok (.iload 12, 2) := by decide +kernel
theorem dL_law_544 : decode cL_law 544 = .ok (.iload 15, 2) := by decide +kernel
theorem dL_law_546 : decode cL_law 546 = .ok (.invokestatic 88, 3) := by decide +kernel
theorem dL_law_549 : decode cL_law 549 = .ok (.istore 12, 2) := by decide +kernel
theorem dL_law_551 : decode cL_law 551 = .ok (.iload 13, 2) := by decide +kernel
theorem dL_law_553 : decode cL_law 553 = .ok (.iload 15, 2) := by decide +kernel
theorem dL_law_555 : decode cL_law 555 = .ok (.invokestatic 94, 3) := by decide +kernel
theorem dL_law_558 : decode cL_law 558 = .ok (.istore 13, 2) := by decide +kernel
theorem dL_law_560 : decode cL_law 560 = .ok (.iinc 14 1, 3) := by decide +kernel
theorem dL_law_563 : decode cL_law 563 = .ok (.goto (-83), 3) := by decide +kernel
theorem dL_law_566 : decode cL_law 566 = .ok (.aload_n 3, 1) := by decide +kernel
theorem dL_law_567 : decode cL_law 567 = .ok (.invokevirtual 76, 3) := by decide +kernel
theorem dL_law_570 : decode cL_law 570 = .ok (.istore 14, 2) := by decide +kernel
theorem dL_law_572 : decode cL_law 572 = .ok (.iload 11, 2) := by decide +kernel
theorem dL_law_574 : decode cL_law 574 = .ok (.ifCond .eq 137, 3) := by decide +kernel
theorem dL_law_577 : decode cL_law 577 = .ok (.iload 11, 2) := by decide +kernel
theorem dL_law_579 : decode cL_law 579 = .ok (.aload_n 3, 1) := by decide +kernel
theorem dL_law_580 : decode cL_law 580 = .ok (.iload 10, 2) := by decide +kernel
theorem dL_law_582 : decode cL_law 582 = .ok (.iconst 4, 1) := by decide +kernel
theorem dL_law_583 : decode cL_law 583 = .ok (.iconst 0, 1) := by decide +kernel
theorem dL_law_584 : decode cL_law 584 = .ok (.invokevirtual 56, 3) := by decide +kernel
theorem dL_law_587 : decode cL_law 587 = .ok (.if_icmp .gt 124, 3) := by decide +kernel
theorem dL_law_590 : decode cL_law 590 = .ok (.iload 14, 2) := by decide +kernel
theorem dL_law_592 : decode cL_law 592 = .ok (.iload 10, 2) := by decide +kernel
theorem dL_law_594 : decode cL_law 594 = .ok (.iconst 2, 1) := by decide +kernel
theorem dL_law_595 : decode cL_law 595 = .ok (.irem, 1) := by decide +kernel
theorem dL_law_596 : decode cL_law 596 = .ok (.ifCond .ne 8, 3) := by decide +kernel
theorem dL_law_599 : decode cL_law 599 = .ok (.iload 13, 2) := by decide +kernel
theorem dL_law_601 : decode cL_law 601 = .ok (.goto 5, 3) := by decide +kernel
theorem dL_law_604 : decode cL_law 604 = .ok (.iload 12, 2) := by decide +kernel
theorem dL_law_606 : decode cL_law 606 = .ok (.if_icmp .ne 105, 3) := by decide +kernel
theorem dL_law_609 : decode cL_law 609 = .ok (.iload 14, 2) := by decide +kernel
theorem dL_law_611 : decode cL_law 611 = .ok (.ifCond .lt 27, 3) := by decide +kernel
theorem dL_law_614 : decode cL_law 614 = .ok (.aload_n 3, 1) := by decide +kernel
theorem dL_law_615 : decode cL_law 615 = .ok (.aload_n 3, 1) := by decide +kernel
theorem dL_law_616 : decode cL_law 616 = .ok (.invokevirtual 97, 3) := by decide +kernel
theorem dL_law_619 : decode cL_law 619 = .ok (.invokevirtual 79, 3) := by decide +kernel
theorem dL_law_622 : decode cL_law 622 = .ok (.ifCond .eq 89, 3) := by decide +kernel
theorem dL_law_625 : decode cL_law 625 = .ok (.aload_n 3, 1) := by decide +kernel
theorem dL_law_626 : decode cL_law 626 = .ok (.aload_n 3, 1) := by decide +kernel
theorem dL_law_627 : decode cL_law 627 = .ok (.invokevirtual 97, 3) := by decide +kernel
theorem dL_law_630 : decode cL_law 630 = .ok (.invokevirtual 85, 3) := by decide +kernel
theorem dL_law_633 : decode cL_law 633 = .ok (.iload 14, 2) := by decide +kernel
theorem dL_law_635 : decode cL_law 635 = .ok (.if_icmp .ne 76, 3) := by decide +kernel
theorem dL_law_638 : decode cL_law 638 = .ok (.iload 14, 2) := by decide +kernel
theorem dL_law_640 : decode cL_law 640 = .ok (.ifCond .ge 11, 3) := by decide +kernel
theorem dL_law_643 : decode cL_law 643 = .ok (.aload_n 3, 1) := by decide +kernel
theorem dL_law_644 : decode cL_law 644 = .ok (.invokevirtual 97, 3) := by decide +kernel
theorem dL_law_647 : decode cL_law 647 = .ok (.iconst (-1), 1) := by decide +kernel
theorem dL_law_648 : decode cL_law 648 = .ok (.if_icmp .ne 63, 3) := by decide +kernel
theorem dL_law_651 : decode cL_law 651 = .ok (.aload_n 3, 1) := by decide +kernel
theorem dL_law_652 : decode cL_law 652 = .ok (.bipush 6, 2) := by decide +kernel
theorem dL_law_654 : decode cL_law 654 = .ok (.invokevirtual 64, 3) := by decide +kernel
theorem dL_law_657 : decode cL_law 657 = .ok (.ifCond .ge 7, 3) := by decide +kernel
theorem dL_law_660 : decode cL_law 660 = .ok (.iconst 1, 1) := by decide +kernel
theorem dL_law_661 : decode cL_law 661 = .ok (.goto 4, 3) := by decide +kernel
theorem dL_law_664 : decode cL_law 664 = .ok (.iconst 0, 1) := by decide +kernel
theorem dL_law_665 : decode cL_law 665 = .ok (.aload_n 3, 1) := by decide +kernel
theorem dL_law_666 : decode cL_law 666 = .ok (.iconst 5, 1) := by decide +kernel
theorem dL_law_667 : decode cL_law 667 = .ok (.invokevirtual 64, 3) := by decide +kernel
theorem dL_law_670 : decode cL_law 670 = .ok (.ifCond .ne 7, 3) := by decide +kernel
theorem dL_law_673 : decode cL_law 673 = .ok (.iconst 1, 1) := by decide +kernel
theorem dL_law_674 : decode cL_law 674 = .ok (.goto 4, 3) := by decide +kernel
theorem dL_law_677 : decode cL_law 677 = .ok (.iconst 0, 1) := by decide +kernel
theorem dL_law_678 : decode cL_law 678 = .ok (.if_icmp .ne 33, 3) := by decide +kernel
theorem dL_law_681 : decode cL_law 681 = .ok (.aload_n 3, 1) := by decide +kernel
theorem dL_law_682 : decode cL_law 682 = .ok (.iconst 0, 1) := by decide +kernel
theorem dL_law_683 : decode cL_law 683 = .ok (.iconst 0, 1) := by decide +kernel
theorem dL_law_684 : decode cL_law 684 = .ok (.invokevirtual 100, 3) := by decide +kernel
theorem dL_law_687 : decode cL_law 687 = .ok (.aload_n 3, 1) := by decide +kernel
theorem dL_law_688 : decode cL_law 688 = .ok (.iconst 1, 1) := by decide +kernel
theorem dL_law_689 : decode cL_law 689 = .ok (.iconst 0, 1) := by decide +kernel
theorem dL_law_690 : decode cL_law 690 = .ok (.invokevirtual 100, 3) := by decide +kernel
theorem dL_law_693 : decode cL_law 693 = .ok (.iadd, 1) := by decide +kernel
theorem dL_law_694 : decode cL_law 694 = .ok (.aload_n 3, 1) := by decide +kernel
theorem dL_law_695 : decode cL_law 695 = .ok (.iconst 4, 1) := by decide +kernel
theorem dL_law_696 : decode cL_law 696 = .ok (.invokevirtual 64, 3) := by decide +kernel
theorem dL_law_699 : decode cL_law 699 = .ok (.if_icmp .ne 12, 3) := by decide +kernel
theorem dL_law_702 : decode cL_law 702 = .ok (.aload_n 3, 1) := by decide +kernel
theorem dL_law_703 : decode cL_law 703 = .ok (.iconst 0, 1) := by decide +kernel
theorem dL_law_704 : decode cL_law 704 = .ok (.invokevirtual 73, 3) := by decide +kernel
theorem dL_law_707 : decode cL_law 707 = .ok (.iconst 1, 1) := by decide +kernel
theorem dL_law_708 : decode cL_law 708 = .ok (.if_icmp .ge 5, 3) := by decide +kernel
theorem dL_law_711 : decode cL_law 711 = .ok (.iconst 0, 1) := by decide +kernel
theorem dL_law_712 : decode cL_law 712 = .ok (.ireturn, 1) := by decide +kernel
theorem dL_law_713 : decode cL_law 713 = .ok (.iconst 1, 1) := by decide +kernel
theorem dL_law_714 : decode cL_law 714 = .ok (.istore 10, 2) := by decide +kernel
theorem dL_law_716 : decode cL_law 716 = .ok (.iload 10, 2) := by decide +kernel
theorem dL_law_718 : decode cL_law 718 = .ok (.aload_n 3, 1) := by decide +kernel
theorem dL_law_719 : decode cL_law 719 = .ok (.iconst 4, 1) := by decide +kernel
theorem dL_law_720 : decode cL_law 720 = .ok (.invokevirtual 64, 3) := by decide +kernel
theorem dL_law_723 : decode cL_law 723 = .ok (.if_icmp .ge 30, 3) := by decide +kernel
theorem dL_law_726 : decode cL_law 726 = .ok (.aload_n 3, 1) := by decide +kernel
theorem dL_law_727 : decode cL_law 727 = .ok (.iload 10, 2) := by decide +kernel
theorem dL_law_729 : decode cL_law 729 = .ok (.iconst 0, 1) := by decide +kernel
theorem dL_law_730 : decode cL_law 730 = .ok (.invokevirtual 103, 3) := by decide +kernel
theorem dL_law_733 : decode cL_law 733 = .ok (.aload_n 3, 1) := by decide +kernel
theorem dL_law_734 : decode cL_law 734 = .ok (.iload 10, 2) := by decide +kernel
theorem dL_law_736 : decode cL_law 736 = .ok (.iconst 1, 1) := by decide +kernel
theorem dL_law_737 : decode cL_law 737 = .ok (.isub, 1) := by decide +kernel
theorem dL_law_738 : decode cL_law 738 = .ok (.iconst 1, 1) := by decide +kernel
theorem dL_law_739 : decode cL_law 739 = .ok (.invokevirtual 103, 3) := by decide +kernel
theorem dL_law_742 : decode cL_law 742 = .ok (.if_icmp .eq 5, 3) := by decide +kernel
theorem dL_law_745 : decode cL_law 745 = .ok (.iconst 0, 1) := by decide +kernel
theorem dL_law_746 : decode cL_law 746 = .ok (.ireturn, 1) := by decide +kernel
theorem dL_law_747 : decode cL_law 747 = .ok (.iinc 10 1, 3) := by decide +kernel
theorem dL_law_750 : decode cL_law 750 = .ok (.goto (-34), 3) := by decide +kernel
theorem dL_law_753 : decode cL_law 753 = .ok (.aload_n 3, 1) := by decide +kernel
theorem dL_law_754 : decode cL_law 754 = .ok (.iconst 0, 1) := by decide +kernel
theorem dL_law_755 : decode cL_law 755 = .ok (.iconst 1, 1) := by decide +kernel
theorem dL_law_756 : decode cL_law 756 = .ok (.invokevirtual 100, 3) := by decide +kernel
theorem dL_law_759 : decode cL_law 759 = .ok (.aload_n 3, 1) := by decide +kernel
theorem dL_law_760 : decode cL_law 760 = .ok (.iconst 1, 1) := by decide +kernel
theorem dL_law_761 : decode cL_law 761 = .ok (.iconst 1, 1) := by decide +kernel
theorem dL_law_762 : decode cL_law 762 = .ok (.invokevirtual 100, 3) := by decide +kernel
theorem dL_law_765 : decode cL_law 765 = .ok (.iadd, 1) := by decide +kernel
theorem dL_law_766 : decode cL_law 766 = .ok (.iload 4, 2) := by decide +kernel
theorem dL_law_768 : decode cL_law 768 = .ok (.if_icmp .lt 33, 3) := by decide +kernel
theorem dL_law_771 : decode cL_law 771 = .ok (.aload_n 3, 1) := by decide +kernel
theorem dL_law_772 : decode cL_law 772 = .ok (.iconst 0, 1) := by decide +kernel
theorem dL_law_773 : decode cL_law 773 = .ok (.iconst 2, 1) := by decide +kernel
theorem dL_law_774 : decode cL_law 774 = .ok (.invokevirtual 100, 3) := by decide +kernel
theorem dL_law_777 : decode cL_law 777 = .ok (.iconst 2, 1) := by decide +kernel
theorem dL_law_778 : decode cL_law 778 = .ok (.if_icmp .gt 23, 3) := by decide +kernel
theorem dL_law_781 : decode cL_law 781 = .ok (.aload_n 3, 1) := by decide +kernel
theorem dL_law_782 : decode cL_law 782 = .ok (.iconst 1, 1) := by decide +kernel
theorem dL_law_783 : decode cL_law 783 = .ok (.iconst 2, 1) := by decide +kernel
theorem dL_law_784 : decode cL_law 784 = .ok (.invokevirtual 100, 3) := by decide +kernel
theorem dL_law_787 : decode cL_law 787 = .ok (.iconst 2, 1) := by decide +kernel
theorem dL_law_788 : decode cL_law 788 = .ok (.if_icmp .gt 13, 3) := by decide +kernel
theorem dL_law_791 : decode cL_law 791 = .ok (.aload_n 3, 1) := by decide +kernel
theorem dL_law_792 : decode cL_law 792 = .ok (.invokevirtual 50, 3) := by decide +kernel
theorem dL_law_795 : decode cL_law 795 = .ok (.lload 7, 2) := by decide +kernel
theorem dL_law_797 : decode cL_law 797 = .ok (.lcmp, 1) := by decide +kernel
theorem dL_law_798 : decode cL_law 798 = .ok (.ifCond .eq 5, 3) := by decide +kernel
theorem dL_law_801 : decode cL_law 801 = .ok (.iconst 0, 1) := by decide +kernel
theorem dL_law_802 : decode cL_law 802 = .ok (.ireturn, 1) := by decide +kernel
theorem dL_law_803 : decode cL_law 803 = .ok (.iinc 6 1, 3) := by decide +kernel
theorem dL_law_806 : decode cL_law 806 = .ok (.goto (-733), 3) := by decide +kernel
theorem dL_law_809 : decode cL_law 809 = .ok (.aload_n 3, 1) := by decide +kernel
theorem dL_law_810 : decode cL_law 810 = .ok (.iconst 0, 1) := by decide +kernel
theorem dL_law_811 : decode cL_law 811 = .ok (.iconst 1, 1) := by decide +kernel
theorem dL_law_812 : decode cL_law 812 = .ok (.invokevirtual 100, 3) := by decide +kernel
theorem dL_law_815 : decode cL_law 815 = .ok (.aload_n 3, 1) := by decide +kernel
theorem dL_law_816 : decode cL_law 816 = .ok (.iconst 1, 1) := by decide +kernel
theorem dL_law_817 : decode cL_law 817 = .ok (.iconst 1, 1) := by decide +kernel
theorem dL_law_818 : decode cL_law 818 = .ok (.invokevirtual 100, 3) := by decide +kernel
theorem dL_law_821 : decode cL_law 821 = .ok (.iadd, 1) := by decide +kernel
theorem dL_law_822 : decode cL_law 822 = .ok (.istore 6, 2) := by decide +kernel
theorem dL_law_824 : decode cL_law 824 = .ok (.iload 6, 2) := by decide +kernel
theorem dL_law_826 : decode cL_law 826 = .ok (.iload 4, 2) := by decide +kernel
theorem dL_law_828 : decode cL_law 828 = .ok (.if_icmp .lt 81, 3) := by decide +kernel
theorem dL_law_831 : decode cL_law 831 = .ok (.aload_n 3, 1) := by decide +kernel
theorem dL_law_832 : decode cL_law 832 = .ok (.bipush 7, 2) := by decide +kernel
theorem dL_law_834 : decode cL_law 834 = .ok (.invokevirtual 64, 3) := by decide +kernel
theorem dL_law_837 : decode cL_law 837 = .ok (.iload 5, 2) := by decide +kernel
theorem dL_law_839 : decode cL_law 839 = .ok (.iconst 1, 1) := by decide +kernel
theorem dL_law_840 : decode cL_law 840 = .ok (.iadd, 1) := by decide +kernel
theorem dL_law_841 : decode cL_law 841 = .ok (.if_icmp .gt 68, 3) := by decide +kernel
theorem dL_law_844 : decode cL_law 844 = .ok (.aload_n 3, 1) := by decide +kernel
theorem dL_law_845 : decode cL_law 845 = .ok (.bipush 7, 2) := by decide +kernel
theorem dL_law_847 : decode cL_law 847 = .ok (.invokevirtual 64, 3) := by decide +kernel
theorem dL_law_850 : decode cL_law 850 = .ok (.ifCond .le 22, 3) := by decide +kernel
theorem dL_law_853 : decode cL_law 853 = .ok (.aload_n 3, 1) := by decide +kernel
theorem dL_law_854 : decode cL_law 854 = .ok (.invokevirtual 106, 3) := by decide +kernel
theorem dL_law_857 : decode cL_law 857 = .ok (.iload 6, 2) := by decide +kernel
theorem dL_law_859 : decode cL_law 859 = .ok (.i2d, 1) := by decide +kernel
theorem dL_law_860 : decode cL_law 860 = .ok (.aload_n 3, 1) := by decide +kernel
theorem dL_law_861 : decode cL_law 861 = .ok (.bipush 7, 2) := by decide +kernel
theorem dL_law_863 : decode cL_law 863 = .ok (.invokevirtual 64, 3) := by decide +kernel
theorem dL_law_866 : decode cL_law 866 = .ok (.i2d, 1) := by decide +kernel
theorem dL_law_867 : decode cL_law 867 = .ok (.ddiv, 1) := by decide +kernel
theorem dL_law_868 : decode cL_law 868 = .ok (.dcmp .l, 1) := by decide +kernel
theorem dL_law_869 : decode cL_law 869 = .ok (.ifCond .ne 40, 3) := by decide +kernel
theorem dL_law_872 : decode cL_law 872 = .ok (.aload_n 3, 1) := by decide +kernel
theorem dL_law_873 : decode cL_law 873 = .ok (.iconst 0, 1) := by decide +kernel
theorem dL_law_874 : decode cL_law 874 = .ok (.invokevirtual 64, 3) := by decide +kernel
theorem dL_law_877 : decode cL_law 877 = .ok (.iconst 3, 1) := by decide +kernel
theorem dL_law_878 : decode cL_law 878 = .ok (.if_icmp .ne 33, 3) := by decide +kernel
theorem dL_law_881 : decode cL_law 881 = .ok (.aload_n 3, 1) := by decide +kernel
theorem dL_law_882 : decode cL_law 882 = .ok (.iconst 0, 1) := by decide +kernel
theorem dL_law_883 : decode cL_law 883 = .ok (.invokevirtual 73, 3) := by decide +kernel
theorem dL_law_886 : decode cL_law 886 = .ok (.ifCond .le 25, 3) := by decide +kernel
theorem dL_law_889 : decode cL_law 889 = .ok (.aload_n 3, 1) := by decide +kernel
theorem dL_law_890 : decode cL_law 890 = .ok (.iconst 0, 1) := by decide +kernel
theorem dL_law_891 : decode cL_law 891 = .ok (.iconst 0, 1) := by decide +kernel
theorem dL_law_892 : decode cL_law 892 = .ok (.invokevirtual 100, 3) := by decide +kernel
theorem dL_law_895 : decode cL_law 895 = .ok (.aload_n 3, 1) := by decide +kernel
theorem dL_law_896 : decode cL_law 896 = .ok (.iconst 1, 1) := by decide +kernel
theorem dL_law_897 : decode cL_law 897 = .ok (.iconst 0, 1) := by decide +kernel
theorem dL_law_898 : decode cL_law 898 = .ok (.invokevirtual 100, 3) := by decide +kernel
theorem dL_law_901 : decode cL_law 901 = .ok (.iadd, 1) := by decide +kernel
theorem dL_law_902 : decode cL_law 902 = .ok (.aload_n 2, 1) := by decide +kernel
theorem dL_law_903 : decode cL_law 903 = .ok (.getfield 67, 3) := by decide +kernel
theorem dL_law_906 : decode cL_law 906 = .ok (.if_icmp .eq 5, 3) := by decide +kernel
theorem dL_law_909 : decode cL_law 909 = .ok (.iconst 0, 1) := by decide +kernel
theorem dL_law_910 : decode cL_law 910 = .ok (.ireturn, 1) := by decide +kernel
theorem dL_law_911 : decode cL_law 911 = .ok (.iload 6, 2) := by decide +kernel
theorem dL_law_913 : decode cL_law 913 = .ok (.istore 4, 2) := by decide +kernel
theorem dL_law_915 : decode cL_law 915 = .ok (.iinc 5 1, 3) := by decide +kernel
theorem dL_law_918 : decode cL_law 918 = .ok (.goto (-884), 3) := by decide +kernel
theorem dL_law_921 : decode cL_law 921 = .ok (.iinc 1 1, 3) := by decide +kernel
theorem dL_law_924 : decode cL_law 924 = .ok (.goto (-922), 3) := by decide +kernel
theorem dL_law_927 : decode cL_law 927 = .ok (.iconst 1, 1) := by decide +kernel
theorem dL_law_928 : decode cL_law 928 = .ok (.ireturn, 1) := by decide +kernel
abbrev vwCl : List vw_C := [(RX0, TX0, 7), (RX1, TX1, 8), (RX2, TX2, 7), (RX3, TX3, 18)]
end
section
/-! AM: an abstract machine. Its world is a list of cells; a reference is a place in that list. Its instructions are functions over what comes next, so that runs of code are reduced, not rewritten. -/
abbrev am_E : Type := (Nat × Nat × ((Nat → Int32) ⊕ (Nat → Int64) ⊕ (Nat → Option Nat))) ⊕ (Nat × List Value)
abbrev am_L : Type := List (Option Value)
abbrev am_S : Type := List Value
abbrev am_M : Type := List am_E
abbrev am_K : Type := Nat → Nat → am_L → am_S → am_M → Prop
abbrev am_Op : Type := am_K → Nat → am_L → am_S → am_M → Prop
abbrev am_O : Type := (Option Value) ⊕ Nat
abbrev am_Q : Type := am_O → am_M → Prop
/-- a call: the method's number, the budget, the arguments, the world, what must hold behind it -/
abbrev am_C : Type := Nat → Nat → List Value → am_M → am_Q → Prop
def am_at {α : Type} : List α → Nat → (α → Prop) → Prop
  | [], _, _ => False
  | x :: _, 0, k => k x
  | _ :: l, i + 1, k => am_at l i k
def am_put {α : Type} : List α → Nat → α → (List α → Prop) → Prop
  | [], _, _, _ => False
  | _ :: l, 0, v, k => k (v :: l)
  | o :: l, i + 1, v, k => am_put l i v (fun l' => k (o :: l'))
def am_app {α : Type} : List α → α → (Nat → List α → Prop) → Prop
  | [], v, k => k 0 [v]
  | o :: l, v, k => am_app l v (fun n l' => k (n + 1) (o :: l'))
def am_c2 (o : Option Value) : Bool := match o with
  | some (.long _) => true
  | some (.double _) => true
  | _ => false
def am_set : am_L → Nat → Value → (am_L → Prop) → Prop
  | [], _, _, _ => False
  | _ :: l, 0, v, k => k (some v :: l)
  | o :: l, i + 1, v, k => bif Nat.beq i 0 && am_c2 o then False else am_set l i v (fun l' => k (o :: l'))
def am_set2 : am_L → Nat → Value → (am_L → Prop) → Prop
  | _ :: _ :: l, 0, v, k => k (some v :: none :: l)
  | o :: l, i + 1, v, k => bif Nat.beq i 0 && am_c2 o then False else am_set2 l i v (fun l' => k (o :: l'))
  | _, _, _, _ => False
def am_nn (_ : Value) : Bool := true
def am_take : Nat → am_S → List Value → (List Value → am_S → Prop) → Prop
  | 0, st, acc, k => k acc st
  | _ + 1, [], _, _ => False
  | n + 1, v :: st, acc, k => bif am_nn v then am_take n st (v :: acc) k else False
def am_cat : am_S → Nat
  | [] => 0
  | v :: st => v.category + am_cat st
/-- exceptions by their numbers -/
def am_xn (n : Nat) : String := match n with
  | 1 => "java/lang/IndexOutOfBoundsException"
  | 2 => "java/lang/IllegalArgumentException"
  | _ => "java/lang/IllegalStateException"
-- instructions
def am_bad : am_Op := fun _ _ _ _ _ => False
def am_const (v : Value) (n : Nat) : am_Op := fun K k ls st w => K k n ls (v :: st) w
def am_nop (n : Nat) : am_Op := fun K k ls st w => K k n ls st w
def am_iload (i n : Nat) : am_Op := fun K k ls st w => am_at ls i (fun v => match v with | some (.int x) => K k n ls (.int x :: st) w | _ => False)
def am_lload (i n : Nat) : am_Op := fun K k ls st w => am_at ls i (fun v => match v with | some (.long x) => K k n ls (.long x :: st) w | _ => False)
def am_dload (i n : Nat) : am_Op := fun K k ls st w => am_at ls i (fun v => match v with | some (.double x) => K k n ls (.double x :: st) w | _ => False)
def am_aload (i n : Nat) : am_Op := fun K k ls st w => am_at ls i (fun v => match v with | some (.ref x) => K k n ls (.ref x :: st) w | some (.float x) => K k n ls (.float x :: st) w | _ => False)
def am_istore (i n : Nat) : am_Op := fun K k ls st w => match st with | .int x :: st' => am_set ls i (.int x) (fun ls' => K k n ls' st' w) | _ => False
def am_astore (i n : Nat) : am_Op := fun K k ls st w => match st with | .ref x :: st' => am_set ls i (.ref x) (fun ls' => K k n ls' st' w) | _ => False
def am_lstore (i n : Nat) : am_Op := fun K k ls st w => match st with | .long x :: st' => am_set2 ls i (.long x) (fun ls' => K k n ls' st' w) | _ => False
def am_dstore (i n : Nat) : am_Op := fun K k ls st w => match st with | .double x :: st' => am_set2 ls i (.double x) (fun ls' => K k n ls' st' w) | _ => False
def am_iinc (i : Nat) (c : Int32) (n : Nat) : am_Op := fun K k ls st w => am_at ls i (fun v => match v with | some (.int x) => am_set ls i (.int (x + c)) (fun ls' => K k n ls' st w) | _ => False)
def am_bin (f : Int32 → Int32 → Int32) (n : Nat) : am_Op := fun K k ls st w => match st with | .int y :: .int x :: st' => K k n ls (.int (f x y) :: st') w | _ => False
/-- by a divisor that isn't 0 -/
def am_dv (f : Int32 → Int32 → Int32) (n : Nat) : am_Op := fun K k ls st w => match st with | .int y :: .int x :: st' => ¬ y = 0 ∧ K k n ls (.int (f x y) :: st') w | _ => False
def am_un (f : Int32 → Int32) (n : Nat) : am_Op := fun K k ls st w => match st with | .int x :: st' => K k n ls (.int (f x) :: st') w | _ => False
def am_lbin (f : Int64 → Int64 → Int64) (n : Nat) : am_Op := fun K k ls st w => match st with | .long y :: .long x :: st' => K k n ls (.long (f x y) :: st') w | _ => False
def am_i2l (n : Nat) : am_Op := fun K k ls st w => match st with | .int x :: st' => K k n ls (.long x.toInt64 :: st') w | _ => False
def am_i2d (n : Nat) : am_Op := fun K k ls st w => match st with | .int x :: st' => K k n ls (.double (FP.i2d x) :: st') w | _ => False
def am_lcmp (n : Nat) : am_Op := fun K k ls st w => match st with | .long y :: .long x :: st' => K k n ls (.int (lg_cmp x y) :: st') w | _ => False
def am_dcmp (o : CmpOp) (n : Nat) : am_Op := fun K k ls st w => match st with | .double y :: .double x :: st' => K k n ls (.int (Op.cmpValue (FP.dcmp x y) o) :: st') w | _ => False
def am_ddiv (n : Nat) : am_Op := fun K k ls st w => match st with | .double y :: .double x :: st' => vf_n64 (FP.ddiv x y) ∧ K k n ls (.double (FP.ddiv x y) :: st') w | _ => False
def am_if (f : Int32 → Prop) (t n : Nat) : am_Op := fun K k ls st w => match st with | .int x :: st' => (f x → K k t ls st' w) ∧ (¬ f x → K k n ls st' w) | _ => False
def am_cmp (f : Int32 → Int32 → Prop) (t n : Nat) : am_Op := fun K k ls st w => match st with | .int y :: .int x :: st' => (f x y → K k t ls st' w) ∧ (¬ f x y → K k n ls st' w) | _ => False
def am_goto (t : Nat) : am_Op := fun K k ls st w => K k t ls st w
def am_sw (K : Nat → Prop) (x : Int32) (d : Nat) : List (Int32 × Nat) → Prop
  | [] => K d
  | (v, t) :: ts => (x = v → K t) ∧ (¬ x = v → am_sw K x d ts)
def am_switch (ts : List (Int32 × Nat)) (d : Nat) : am_Op := fun K k ls st w => match st with | .int x :: st' => am_sw (fun t => K k t ls st' w) x d ts | _ => False
def am_dup (n : Nat) : am_Op := fun K k ls st w => match st with | .int x :: st' => K k n ls (.int x :: .int x :: st') w | .ref x :: st' => K k n ls (.ref x :: .ref x :: st') w | _ => False
def am_dup_x1 (n : Nat) : am_Op := fun K k ls st w => match st with | .int x :: .ref y :: st' => K k n ls (.int x :: .ref y :: .int x :: st') w | _ => False
def am_dup2 (n : Nat) : am_Op := fun K k ls st w => match st with | .int x :: .ref y :: st' => K k n ls (.int x :: .ref y :: .int x :: .ref y :: st') w | _ => False
def am_pop (n : Nat) : am_Op := fun K k ls st w => match st with | .int _ :: st' => K k n ls st' w | _ => False
/-- a field of an object: its class's number, its place -/
def am_getf (ci j n : Nat) : am_Op := fun K k ls st w => match st with
  | .ref q :: st' => am_at w q (fun e => match e with
    | .inr (c, fs) => bif Nat.beq c ci then am_at fs j (fun v => match v with | .int x => K k n ls (.int x :: st') w | .ref x => K k n ls (.ref x :: st') w | .float x => K k n ls (.float x :: st') w | _ => False) else False
    | _ => False)
  | _ => False
def am_putfi (ci j n : Nat) : am_Op := fun K k ls st w => match st with
  | .int x :: .ref q :: st' => am_at w q (fun e => match e with
    | .inr (c, fs) => bif Nat.beq c ci then am_put fs j (.int x) (fun fs' => am_put w q (.inr (c, fs')) (fun w' => K k n ls st' w')) else False
    | _ => False)
  | _ => False
def am_putfr (ci j n : Nat) : am_Op := fun K k ls st w => match st with
  | .ref x :: .ref q :: st' => am_at w q (fun e => match e with
    | .inr (c, fs) => bif Nat.beq c ci then am_put fs j (.ref x) (fun fs' => am_put w q (.inr (c, fs')) (fun w' => K k n ls st' w')) else False
    | _ => False)
  | _ => False
def am_putfs (ci j n : Nat) : am_Op := fun K k ls st w => match st with
  | .float x :: .ref q :: st' => am_at w q (fun e => match e with
    | .inr (c, fs) => bif Nat.beq c ci then am_put fs j (.float x) (fun fs' => am_put w q (.inr (c, fs')) (fun w' => K k n ls st' w')) else False
    | _ => False)
  | _ => False
/-- an int out of an array of kind t (0 int, 1 boolean) -/
def am_iald (t n : Nat) : am_Op := fun K k ls st w => match st with
  | .int i :: .ref q :: st' => am_at w q (fun e => match e with
    | .inl (u, N, .inl f) => bif Nat.beq u t then vp_in i N ∧ K k n ls (.int (f i.toNatClampNeg) :: st') w else False
    | _ => False)
  | _ => False
def am_iast (n : Nat) : am_Op := fun K k ls st w => match st with
  | .int x :: .int i :: .ref q :: st' => am_at w q (fun e => match e with
    | .inl (u, N, .inl f) => bif Nat.beq u 0 then vp_in i N ∧ am_put w q (.inl (u, N, .inl (upd f i.toNatClampNeg x))) (fun w' => K k n ls st' w') else False
    | _ => False)
  | _ => False
def am_zast (n : Nat) : am_Op := fun K k ls st w => match st with
  | .int x :: .int i :: .ref q :: st' => am_at w q (fun e => match e with
    | .inl (u, N, .inl f) => bif Nat.beq u 1 then vp_in i N ∧ am_put w q (.inl (u, N, .inl (upd f i.toNatClampNeg (vp_nar .boolean x)))) (fun w' => K k n ls st' w') else False
    | _ => False)
  | _ => False
def am_lald (n : Nat) : am_Op := fun K k ls st w => match st with
  | .int i :: .ref q :: st' => am_at w q (fun e => match e with
    | .inl (u, N, .inr (.inl f)) => bif Nat.beq u 2 then vp_in i N ∧ K k n ls (.long (f i.toNatClampNeg) :: st') w else False
    | _ => False)
  | _ => False
def am_last (n : Nat) : am_Op := fun K k ls st w => match st with
  | .long x :: .int i :: .ref q :: st' => am_at w q (fun e => match e with
    | .inl (u, N, .inr (.inl f)) => bif Nat.beq u 2 then vp_in i N ∧ am_put w q (.inl (u, N, .inr (.inl (vp_updL f i.toNatClampNeg x)))) (fun w' => K k n ls st' w') else False
    | _ => False)
  | _ => False
def am_aald (t n : Nat) : am_Op := fun K k ls st w => match st with
  | .int i :: .ref q :: st' => am_at w q (fun e => match e with
    | .inl (u, N, .inr (.inr f)) => bif Nat.beq u t then vp_in i N ∧ ∃ r : Nat, f i.toNatClampNeg = some r ∧ K k n ls (.ref r :: st') w else False
    | _ => False)
  | _ => False
/-- a row of ints into a row of rows -/
def am_aast (n : Nat) : am_Op := fun K k ls st w => match st with
  | .ref x :: .int i :: .ref q :: st' => am_at w q (fun e => match e with
    | .inl (u, N, .inr (.inr f)) => am_at w x (fun e2 => match e2 with
      | .inl (u2, _, .inl _) => bif Nat.beq u 3 && Nat.beq u2 0 then vp_in i N ∧ am_put w q (.inl (u, N, .inr (.inr (va_up f i.toNatClampNeg (some x))))) (fun w' => K k n ls st' w') else False
      | _ => False)
    | _ => False)
  | _ => False
/-- how long a row is -/
def am_alen (n : Nat) : am_Op := fun K k ls st w => match st with
  | .ref q :: st' => am_at w q (fun e => match e with
    | .inl (u, N, _) => bif Nat.ble u 3 then K k n ls (.int (nI N) :: st') w else False
    | _ => False)
  | _ => False
/-- the law's script of L ints: a float stands for it -/
def am_sld (L : Nat) (xs : Nat → Int32) (n : Nat) : am_Op := fun K k ls st w => match st with
  | .int i :: .float _ :: st' => vp_in i L ∧ K k n ls (.int (xs i.toNatClampNeg) :: st') w
  | _ => False
def am_slen (L : Nat) (n : Nat) : am_Op := fun K k ls st w => match st with
  | .float _ :: st' => K k n ls (.int (nI L) :: st') w
  | _ => False
def am_pay (k : Nat) (K : Nat → Prop) : Prop := match k with | 0 => False | k + 1 => K k
def am_new (ci : Nat) (fs : List Value) (n : Nat) : am_Op := fun K k ls st w => am_pay k (fun k' => am_app w (.inr (ci, fs)) (fun q w' => K k' n ls (.ref q :: st) w'))
def am_newi (n : Nat) : am_Op := fun K k ls st w => match st with
  | .int x :: st' => ∃ N : Nat, x = nI N ∧ N ≤ 1100 ∧ am_pay k (fun k' => am_app w (.inl (0, N, .inl (fun _ => 0))) (fun q w' => K k' n ls (.ref q :: st') w'))
  | _ => False
def am_newz (n : Nat) : am_Op := fun K k ls st w => match st with
  | .int x :: st' => ∃ N : Nat, x = nI N ∧ N ≤ 1100 ∧ am_pay k (fun k' => am_app w (.inl (1, N, .inl (fun _ => 0))) (fun q w' => K k' n ls (.ref q :: st') w'))
  | _ => False
def am_newl (n : Nat) : am_Op := fun K k ls st w => match st with
  | .int x :: st' => ∃ N : Nat, x = nI N ∧ N ≤ 1100 ∧ am_pay k (fun k' => am_app w (.inl (2, N, .inr (.inl (fun _ => 0)))) (fun q w' => K k' n ls (.ref q :: st') w'))
  | _ => False
/-- new boolean[4][32]: the outer array, then its four rows -/
def am_rows (q : Nat) : Nat → Option Nat := fun j => if j < 4 then some (q + 1 + j) else none
def am_mna (n : Nat) : am_Op := fun K k ls st w => match st with
  | .int y :: .int x :: st' => x = 4 ∧ y = 32 ∧ 5 ≤ k ∧ K (k - 5) n ls (.ref w.length :: st') (w ++ [.inl (4, 4, .inr (.inr (am_rows w.length))), .inl (1, 32, .inl (fun _ => 0)), .inl (1, 32, .inl (fun _ => 0)), .inl (1, 32, .inl (fun _ => 0)), .inl (1, 32, .inl (fun _ => 0))])
  | _ => False
/-- new int[n][] -/
def am_newr (n : Nat) : am_Op := fun K k ls st w => match st with
  | .int x :: st' => ∃ N : Nat, x = nI N ∧ N ≤ 1100 ∧ am_pay k (fun k' => am_app w (.inl (3, N, .inr (.inr (fun _ => none)))) (fun q w' => K k' n ls (.ref q :: st') w'))
  | _ => False
def am_copyR (n : Nat) : am_Op := fun K k ls st w => match st with
  | .int c :: .int dp :: .ref b :: .int sp :: .ref a :: st' => am_at w a (fun e => match e with
    | .inl (u, N, .inr (.inr f)) => am_at w b (fun e2 => match e2 with
      | .inl (u2, N2, .inr (.inr g)) => bif Nat.beq u 3 && (Nat.beq u2 3 && Nat.ble (am_cat st') 8) then (¬ sp < 0 ∧ ¬ dp < 0 ∧ ¬ c < 0 ∧ sp.toNatClampNeg + c.toNatClampNeg ≤ N ∧ dp.toNatClampNeg + c.toNatClampNeg ≤ N2) ∧ (∀ i, i < c.toNatClampNeg → ∀ y, f (sp.toNatClampNeg + i) = some y → ∃ (n' : Nat) (h : Nat → Int32), w[y]? = some (.inl (0, n', .inl h))) ∧ am_put w b (.inl (u2, N2, .inr (.inr (va_cpy f g sp.toNatClampNeg dp.toNatClampNeg c.toNatClampNeg)))) (fun w' => K k n ls st' w') else False
      | _ => False)
    | _ => False)
  | _ => False
def am_copy (n : Nat) : am_Op := fun K k ls st w => match st with
  | .int c :: .int dp :: .ref b :: .int sp :: .ref a :: st' => am_at w a (fun e => match e with
    | .inl (u, N, .inl f) => am_at w b (fun e2 => match e2 with
      | .inl (u2, N2, .inl g) => bif Nat.beq u 0 && (Nat.beq u2 0 && Nat.ble (am_cat st') 8) then (¬ sp < 0 ∧ ¬ dp < 0 ∧ ¬ c < 0 ∧ sp.toNatClampNeg + c.toNatClampNeg ≤ N ∧ dp.toNatClampNeg + c.toNatClampNeg ≤ N2) ∧ ∃ g' : Nat → Int32, (∀ j, j < N2 → va_cpy f g sp.toNatClampNeg dp.toNatClampNeg c.toNatClampNeg j = g' j) ∧ am_put w b (.inl (u2, N2, .inl g')) (fun w' => K k n ls st' w') else False
      | _ => False)
    | _ => False)
  | _ => False
def am_max (n : Nat) : am_Op := fun K k ls st w => match st with | .int y :: .int x :: st' => bif Nat.ble (am_cat st') 8 then K k n ls (.int (if x < y then y else x) :: st') w else False | _ => False
def am_min (n : Nat) : am_Op := fun K k ls st w => match st with | .int y :: .int x :: st' => bif Nat.ble (am_cat st') 8 then K k n ls (.int (if y < x then y else x) :: st') w else False | _ => False
def am_abs (n : Nat) : am_Op := fun K k ls st w => match st with | .int x :: st' => bif Nat.ble (am_cat st') 8 then K k n ls (.int (if 0 ≤ x then x else 0 - x) :: st') w else False | _ => False
/-- Object() -/
def am_init (n : Nat) : am_Op := fun K k ls st w => match st with | .ref _ :: st' => bif Nat.ble (am_cat st') 8 then K k n ls st' w else False | _ => False
/-- a call of method y with c arguments (the receiver too); H: what catches -/
def am_inv (C : am_C) (H : Nat → Nat → am_L → am_M → Prop) (y c n : Nat) : am_Op := fun K k ls st w => am_take c st [] (fun as st' => bif Nat.ble (am_cat st') 8 then
  ∃ b : Nat, b ≤ k ∧ C y b as w (fun o w' => match o with
    | .inl none => K (k - b) n ls st' w'
    | .inl (some v) => K (k - b) n ls (v :: st') w'
    | .inr x => H x (k - b) ls w') else False)
/-- the receiver is an object of class ci -/
def am_rc (w : am_M) (ci : Nat) (as : List Value) (X : Prop) : Prop := match as with
  | .ref q :: _ => am_at w q (fun e => match e with
    | .inr (c, _) => bif Nat.beq c ci then X else False
    | _ => False)
  | _ => False
def am_rj (as : List Value) (X : Prop) : Prop := match as with
  | .ref _ :: _ => X
  | _ => False
def am_invR (C : am_C) (H : Nat → Nat → am_L → am_M → Prop) (y ci c n : Nat) : am_Op := fun K k ls st w => am_take c st [] (fun as st' => bif Nat.ble (am_cat st') 8 then
  am_rc w ci as (∃ b : Nat, b ≤ k ∧ C y b as w (fun o w' => match o with
    | .inl none => K (k - b) n ls st' w'
    | .inl (some v) => K (k - b) n ls (v :: st') w'
    | .inr x => H x (k - b) ls w')) else False)
def am_invJ (C : am_C) (H : Nat → Nat → am_L → am_M → Prop) (y c n : Nat) : am_Op := fun K k ls st w => am_take c st [] (fun as st' => bif Nat.ble (am_cat st') 8 then
  am_rj as (∃ b : Nat, b ≤ k ∧ C y b as w (fun o w' => match o with
    | .inl none => K (k - b) n ls st' w'
    | .inl (some v) => K (k - b) n ls (v :: st') w'
    | .inr x => H x (k - b) ls w')) else False)
/-- nothing catches here -/
def am_no (Q : am_Q) : am_K → Nat → Nat → am_L → am_M → Prop := fun _ x _ _ w => Q (.inr x) w
/-- what catches: the exception, the local that takes it, where it goes on -/
def am_hdl : List (Nat × Nat × Nat) → am_K → Nat → Nat → am_L → am_M → Prop
  | [], _, _, _, _, _ => False
  | (x', i, t) :: r, K, x, k, ls, w => bif Nat.beq x x' then am_set ls i .null (fun ls' => K k t (ls'.set i none) [] w) else am_hdl r K x k ls w
def am_throw (Q : am_Q) (x : Nat) : am_Op := fun _ k _ st w => bif Nat.ble (am_cat st) 8 then 1 ≤ k ∧ Q (.inr x) w else False
def am_iret (Q : am_Q) : am_Op := fun _ _ _ st w => match st with | [.int x] => Q (.inl (some (.int x))) w | _ => False
def am_zret (Q : am_Q) : am_Op := fun _ _ _ st w => match st with | [.int x] => narrow .boolean (.int x) = .int x ∧ Q (.inl (some (.int x))) w | _ => False
def am_lret (Q : am_Q) : am_Op := fun _ _ _ st w => match st with | [.long x] => Q (.inl (some (.long x))) w | _ => False
def am_dret (Q : am_Q) : am_Op := fun _ _ _ st w => match st with | [.double x] => Q (.inl (some (.double x))) w | _ => False
def am_aret (Q : am_Q) : am_Op := fun _ _ _ st w => match st with | [.ref x] => Q (.inl (some (.ref x))) w | _ => False
def am_vret (Q : am_Q) : am_Op := fun _ _ _ st w => match st with | [] => Q (.inl none) w | _ => False
-- runs of code
def am_in (pc : Nat) : List Nat → Bool
  | [] => false
  | x :: xs => Nat.beq pc x || am_in pc xs
/-- n instructions from pc on, to a place of 'stop' -/
def am_run (tbl : Nat → am_Op) (J : am_K) (stop : List Nat) (n : Nat) : am_K :=
  Nat.rec (motive := fun _ => am_K) J (fun _ ih => fun k pc ls st w => tbl pc (fun k' pc' ls' st' w' => bif am_in pc' stop then J k' pc' ls' st' w' else ih k' pc' ls' st' w') k ls st w) n
def am_snd (J : am_K) (op : am_Op) (pc : Nat) : Prop := ∀ (K : am_K), (∀ k pc ls st w, K k pc ls st w → J k pc ls st w) → ∀ k ls st w, op K k ls st w → J k pc ls st w
theorem am_run_snd {J : am_K} {tbl : Nat → am_Op} (h : ∀ pc, am_snd J (tbl pc) pc) (stop : List Nat) : ∀ (n k pc : Nat) (ls : am_L) (st : am_S) (w : am_M), am_run tbl J stop n k pc ls st w → J k pc ls st w
  | 0, _, _, _, _, _, h1 => h1
  | n + 1, k, pc, ls, st, w, h1 => h pc _ (fun k' pc' ls' st' w' h2 => by
      cases hc : am_in pc' stop with
      | true => rw [hc] at h2; exact h2
      | false => rw [hc] at h2; exact am_run_snd h stop n k' pc' ls' st' w' h2) k ls st w h1
theorem am_bad_snd {J : am_K} {pc : Nat} : am_snd J am_bad pc := fun _ _ _ _ _ _ h => h.elim
theorem am_leaf {J : am_K} {op : am_Op} {pc a : Nat} (h : am_snd J op a) : am_snd J (bif Nat.beq pc a then op else am_bad) pc := by
  cases hc : Nat.beq pc a with
  | true => rw [Nat.eq_of_beq_eq_true hc]; exact h
  | false => exact am_bad_snd
theorem am_node {J : am_K} {p q : am_Op} {pc a : Nat} (h1 : am_snd J p pc) (h2 : am_snd J q pc) : am_snd J (bif Nat.ble pc a then p else q) pc := by
  cases Nat.ble pc a with
  | true => exact h1
  | false => exact h2
/-- a body, from its entry, for whatever world stands behind it -/
def am_B (tbl : am_C → am_Q → Nat → am_Op) (C : am_C) (k : Nat) (ls : am_L) (w : am_M) (Q : am_Q) : Prop :=
  ∀ J : am_K, (∀ (stop : List Nat) (n k pc : Nat) (ls : am_L) (st : am_S) (w : am_M), am_run (tbl C Q) J stop n k pc ls st w → J k pc ls st w) → J k 0 ls [] w
-- what the words over lists say
theorem am_at_iff {α : Type} : ∀ {l : List α} {i : Nat} {k : α → Prop}, am_at l i k ↔ ∃ x, l[i]? = some x ∧ k x
  | [], i, k => by simp [am_at]
  | x :: l, 0, k => by simp [am_at]
  | x :: l, i + 1, k => by simp only [am_at, List.getElem?_cons_succ]; exact am_at_iff
theorem am_at_eq {α : Type} {l : List α} {i : Nat} {x : α} (h : l[i]? = some x) (k : α → Prop) : am_at l i k = k x := by
  refine propext (am_at_iff.trans ⟨?_, fun h2 => ⟨x, h, h2⟩⟩)
  rintro ⟨y, h1, h2⟩
  rw [h] at h1
  cases h1
  exact h2
theorem am_put_iff {α : Type} : ∀ {l : List α} {i : Nat} {v : α} {k : List α → Prop}, am_put l i v k ↔ i < l.length ∧ k (l.set i v)
  | [], i, v, k => by simp [am_put]
  | x :: l, 0, v, k => by simp [am_put]
  | x :: l, i + 1, v, k => by
    simp only [am_put, List.length_cons, List.set_cons_succ, Nat.add_lt_add_iff_right]
    exact am_put_iff
theorem am_put_eq {α : Type} {l : List α} {i : Nat} {v : α} (h : i < l.length) (k : List α → Prop) : am_put l i v k = k (l.set i v) := propext (am_put_iff.trans ⟨fun q => q.2, fun q => ⟨h, q⟩⟩)
theorem am_app_iff {α : Type} : ∀ {l : List α} {v : α} {k : Nat → List α → Prop}, am_app l v k ↔ k l.length (l ++ [v])
  | [], v, k => by simp [am_app]
  | x :: l, v, k => by
    simp only [am_app, List.length_cons, List.cons_append]
    exact am_app_iff
theorem am_app_eq {α : Type} {l : List α} {v : α} (k : Nat → List α → Prop) : am_app l v k = k l.length (l ++ [v]) := propext am_app_iff
theorem am_take_iff : ∀ {n : Nat} {st : am_S} {acc : List Value} {k : List Value → am_S → Prop}, am_take n st acc k → ∃ as st', st = as.reverse ++ st' ∧ as.length = n ∧ (∀ v ∈ as, am_nn v = true) ∧ k (as ++ acc) st'
  | 0, st, acc, k, h => ⟨[], st, rfl, rfl, (fun _ h => absurd h List.not_mem_nil), h⟩
  | n + 1, [], acc, k, h => h.elim
  | n + 1, v :: st, acc, k, h => by
    have h' : (bif am_nn v then am_take n st (v :: acc) k else False) := h
    cases hv : am_nn v with
    | false => rw [hv] at h'; exact h'.elim
    | true =>
      rw [hv] at h'
      obtain ⟨as, st', h1, h2, h4, h3⟩ := am_take_iff (n := n) (st := st) (acc := v :: acc) h'
      refine ⟨as ++ [v], st', ?_, ?_, ?_, ?_⟩
      · simp [h1]
      · simp [h2]
      · intro x hx
        rcases List.mem_append.mp hx with hx | hx
        · exact h4 x hx
        · cases List.mem_singleton.mp hx
          exact hv
      · simpa using h3
theorem am_rc_iff {w : am_M} {ci : Nat} {as : List Value} {X : Prop} (h : am_rc w ci as X) : (∃ q as1 fs, as = .ref q :: as1 ∧ w[q]? = some (.inr (ci, fs))) ∧ X := by
  dsimp only [am_rc] at h
  split at h
  · rename_i q as1
    replace h := am_at_iff.mp h
    obtain ⟨e0, he, h⟩ := h
    split at h
    · rename_i c fs
      cases hb : Nat.beq c ci with
      | false => rw [hb] at h; exact h.elim
      | true =>
        rw [hb] at h
        rw [← Nat.eq_of_beq_eq_true hb]
        exact ⟨⟨q, as1, fs, rfl, he⟩, h⟩
    · exact h.elim
  · exact h.elim
theorem am_rj_iff {as : List Value} {X : Prop} (h : am_rj as X) : (∃ q as1, as = .ref q :: as1) ∧ X := by
  dsimp only [am_rj] at h
  split at h
  · rename_i q as1
    exact ⟨⟨q, as1, rfl⟩, h⟩
  · exact h.elim
theorem am_cat_eq : ∀ st : am_S, am_cat st = (st.map fun v => v.category).sum
  | [] => rfl
  | v :: st => by simp [am_cat, am_cat_eq st]
end
section
/-! ===== BEGIN a constructor that throws (launches without stack traces) ===== -/
section VXIA
variable {p : Program} {l : Launch} {e : Env} {R : Room} {s : State} {m : MethodId} {args : Array Value} {below : List Frame} {meth : Method} {c : Code} {T : State} {locs : List Loc} {cells slots : Nat}
theorem vx_callI (X : Stand p l e R s m args below meth c T locs cells slots) (hexec : p.tables.exec = Jvm.exec) {own : String} {index : Nat} {y : MethodName} {bytes : ByteArray} {maxL : Nat}
    (hown : s.vm.findClass own = some m.cls) (hy1 : y.name = "<init>") (hlink : (Cond.methodLink own index y).before args s = true) (hinst : (Cond.instanceMethod y).before args s = true)
    (hcode : (Cond.code y bytes maxL none).before args s = true) (hy : y.cls ≠ "java/lang/invoke/MethodHandle" ∧ y.cls ≠ "java/lang/invoke/VarHandle")
    {W9 : Nat} {Pre : Pt → Array Value → Prop} {Post : Pt → Array Value → Option Value → Pt → Prop} {PostX : Pt → Array Value → Addr → Pt → Prop} (hK : vx_Back l R p e below s args y 3 W9 Pre Post PostX)
    {g : JFrame} (hg : g.method = m) (hsize : g.locals.size = c.maxLocals) {a : Addr} {argsL rest : List Value} (hlen : ∀ sig, parseMethodDescriptor y.desc = some sig → argsL.length = sig.parameters.length)
    (hstack : g.stack = argsL.reverse ++ .ref a :: rest) (hW : 2 * g.monitorRoom + (rest.map fun v => v.category).sum ≤ W9) (hdg : decode c.code g.pc = .ok (.invokespecial index, 3))
    (hpre : ∀ vm₁, s.WarmedH vm₁ → Pre ⟨T.setVm vm₁, locs, cells, slots⟩ (Value.ref a :: argsL).toArray) :
    (∃ (v : Option Value) (vm₁ : Vm) (B : Pt), s.WarmedH vm₁ ∧ Stand p l e R s m args below meth c B.U B.locs B.cells B.slots ∧ Post ⟨T.setVm vm₁, locs, cells, slots⟩ (Value.ref a :: argsL).toArray v B ∧
      ∀ target, Steps p.tables e below (B.U.setTop { g with pc := g.pc + 3, stack := v.toList ++ rest }) target → Steps p.tables e below (T.setTop g) target) ∨
    (∃ (q : Addr) (vm₁ : Vm) (B : Pt), s.WarmedH vm₁ ∧ Stand p l e R s m args below meth c B.U B.locs B.cells B.slots ∧ PostX ⟨T.setVm vm₁, locs, cells, slots⟩ (Value.ref a :: argsL).toArray q B ∧
      Steps p.tables e below (T.setTop g) ((B.U.setTop { g with stack := rest }).pushFrame (.throwing q))) := by
  subst hg
  have hpl : e.platform.magicAccessors = ({} : Platform).magicAccessors := by rw [X.admits.platform]
  obtain ⟨mk, methM, cM, kP, vm₁, hnamed, hmethM, hcodeM, -, hlocalsM, -, hkP, -, hW₁, hstep₁⟩ := Steps.initColdArgs (e := e) X.here hexec X.warmed hpl hown hy1 hy hlink hinst hcode (f := g) rfl hlen hstack hdg
  have X₁ := X.noted hW₁
  rcases hK g.method meth c ⟨T.setVm vm₁, locs, cells, slots⟩ { g with stack := rest } (.invokespecial index) mk (Value.ref a :: argsL).toArray X₁ rfl hsize hdg hW (X₁.named hnamed) (hpre vm₁ X₁.warmed) with ⟨v, B, X', hpost, hsteps⟩ | ⟨q, B, X', hpost, hsteps⟩
  · exact Or.inl ⟨v, vm₁, B, X₁.warmed, X', hpost, fun target h => hstep₁ _ fun acts => by rw [doInvoke_state]; exact hsteps.trans h⟩
  · exact Or.inr ⟨q, vm₁, B, X₁.warmed, X', hpost, hstep₁ _ fun acts => by rw [doInvoke_state]; exact hsteps⟩
end VXIA
section VXIB
variable {p : Program} {l : Launch} {e : Env} {R : Room} {s : State} {m : MethodId} {args : Array Value} {below : List Frame} {meth : Method} {c : Code} {H : Heap} {locs : List Loc} {cells slots : Nat}
variable {y : MethodName} {bytes cc : ByteArray} {maxL nL mc ms n index : Nat} {ret : Option FieldType} {ws : List Cond} {rm : Room} {Pc : Array Value → State → Prop} {Qc : Array Value → State → Outcome → State → Prop} {XC : String → State → State → Prop} {free : Addr → Prop} {Ts : List Cond} {own C : String} {b : Addr} {As rest : List Value} {g : JFrame}
theorem vx_runI (S : CallFix p m c cc nL s args Ts own) (hM : vx_Met l y ws rm Pc Qc XC mc ms free) (cw : CallB R s args own index y bytes maxL none ws rm mc ms n ∧ y.name = "<init>" ∧ (Cond.instanceMethod y).before args s = true) (hp : PreS s H Pc (.ref b :: As))
    (hg : g.method = m) (hn : As.length = n) (hsize : g.locals.size = nL) (hstack : g.stack = As.reverse ++ .ref b :: rest) (hW : 2 * g.monitorRoom + (rest.map fun v => v.category).sum ≤ 8) (hdg : decode cc g.pc = .ok (.invokespecial index, 3)) (hf : cells + mc ≤ R.cells ∧ slots + ms ≤ R.slots) :
    vx_Run p l e R s m args below meth c H locs cells slots mc ms g rest (Qc (Value.ref b :: As).toArray) XC free := by
  have hK : vx_Back l R p e below s args y 3 8 (PreOf R mc ms Pc) (PostOf Qc mc ms free) (vx_Post XC mc ms free) := vx_callBack cw.1 hM hp.1
  obtain ⟨⟨-, -, -, -, -, -, hcode, -, hy, hlen, hl⟩, hy1, hin⟩ := cw
  obtain ⟨hx, hb, hml, ho, -⟩ := S
  have hPc := hp.2
  intro T hT X
  rcases vx_callI X hx (bytes := bytes) (maxL := maxL) ho hy1 hl hin hcode hy hK hg (hsize.trans hml.symm) (a := b) (argsL := As) (rest := rest) (fun sig h => hn.trans (hlen sig h)) hstack hW (by rw [hb]; exact hdg)
    (fun vm₁ hW₁ => ⟨hf.1, hf.2, hPc (T.setVm vm₁) hT hW₁⟩) with ⟨v, vm₁, ⟨U', l2, c2, s2⟩, hW₁, X', ⟨g', mk, t, L, e1, e2, hq, h1, hL, h2, h3⟩, st⟩ | ⟨q, vm₁, ⟨U', l2, c2, s2⟩, hW₁, X', ⟨g', mk, t, L, E, ce, e1, e2, hq, hce, hcv, hcl, h1, hL, h2, h3⟩, st⟩
  · dsimp only [Pt.U, Pt.locs, Pt.cells, Pt.slots] at X' e1 e2 h1 h2 h3 st
    subst h1; subst h2; subst h3
    exact Or.inl ⟨v, (T.setVm vm₁).calling g' mk (Value.ref b :: As).toArray, t, U', L, hT, X', hL, e1, e2, hq, st⟩
  · dsimp only [Pt.U, Pt.locs, Pt.cells, Pt.slots] at X' e1 e2 h1 h2 h3 st hcl
    subst h1; subst h2; subst h3
    exact Or.inr ⟨q, (T.setVm vm₁).calling g' mk (Value.ref b :: As).toArray, t, U', L, E, ce, hT, X', hL, e1, e2, hq, hce, hcv, vx_cls hW₁ hcl, st⟩
end VXIB
/-! ===== END ===== -/
/-! ===== BEGIN a private constructor of a nest mate that throws ===== -/
section VXIC
variable {p : Program} {l : Launch} {e : Env} {R : Room} {s : State} {m : MethodId} {args : Array Value} {below : List Frame} {meth : Method} {c : Code} {T : State} {locs : List Loc} {cells slots : Nat}
theorem vx_callIN (X : Stand p l e R s m args below meth c T locs cells slots) (hexec : p.tables.exec = Jvm.exec) {own : String} {index : Nat} {host : String} {y : MethodName} {bytes : ByteArray} {maxL : Nat}
    (hown : s.vm.findClass own = some m.cls) (hy1 : y.name = "<init>") (hlink : (Cond.methodLinkNest own index y host).before args s = true) (hinst : (Cond.instanceMethod y).before args s = true)
    (hcode : (Cond.code y bytes maxL none).before args s = true) (hy : y.cls ≠ "java/lang/invoke/MethodHandle" ∧ y.cls ≠ "java/lang/invoke/VarHandle")
    {W9 : Nat} {Pre : Pt → Array Value → Prop} {Post : Pt → Array Value → Option Value → Pt → Prop} {PostX : Pt → Array Value → Addr → Pt → Prop} (hK : vx_Back l R p e below s args y 3 W9 Pre Post PostX)
    {g : JFrame} (hg : g.method = m) (hsize : g.locals.size = c.maxLocals) {a : Addr} {argsL rest : List Value} (hlen : ∀ sig, parseMethodDescriptor y.desc = some sig → argsL.length = sig.parameters.length)
    (hstack : g.stack = argsL.reverse ++ .ref a :: rest) (hW : 2 * g.monitorRoom + (rest.map fun v => v.category).sum ≤ W9) (hdg : decode c.code g.pc = .ok (.invokespecial index, 3))
    (hpre : ∀ vm₁, s.WarmedH vm₁ → Pre ⟨T.setVm vm₁, locs, cells, slots⟩ (Value.ref a :: argsL).toArray) :
    (∃ (v : Option Value) (vm₁ : Vm) (B : Pt), s.WarmedH vm₁ ∧ Stand p l e R s m args below meth c B.U B.locs B.cells B.slots ∧ Post ⟨T.setVm vm₁, locs, cells, slots⟩ (Value.ref a :: argsL).toArray v B ∧
      ∀ target, Steps p.tables e below (B.U.setTop { g with pc := g.pc + 3, stack := v.toList ++ rest }) target → Steps p.tables e below (T.setTop g) target) ∨
    (∃ (q : Addr) (vm₁ : Vm) (B : Pt), s.WarmedH vm₁ ∧ Stand p l e R s m args below meth c B.U B.locs B.cells B.slots ∧ PostX ⟨T.setVm vm₁, locs, cells, slots⟩ (Value.ref a :: argsL).toArray q B ∧
      Steps p.tables e below (T.setTop g) ((B.U.setTop { g with stack := rest }).pushFrame (.throwing q))) := by
  subst hg
  have hpl : e.platform.magicAccessors = ({} : Platform).magicAccessors := by rw [X.admits.platform]
  obtain ⟨mk, methM, cM, kP, vm₁, hnamed, hmethM, hcodeM, -, hlocalsM, -, hkP, -, hW₁, hstep₁⟩ := Steps.initColdArgsNest (e := e) X.here hexec X.warmed hpl hown hy1 hy hlink hinst hcode (f := g) rfl hlen hstack hdg
  have X₁ := X.noted hW₁
  rcases hK g.method meth c ⟨T.setVm vm₁, locs, cells, slots⟩ { g with stack := rest } (.invokespecial index) mk (Value.ref a :: argsL).toArray X₁ rfl hsize hdg hW (X₁.named hnamed) (hpre vm₁ X₁.warmed) with ⟨v, B, X', hpost, hsteps⟩ | ⟨q, B, X', hpost, hsteps⟩
  · exact Or.inl ⟨v, vm₁, B, X₁.warmed, X', hpost, fun target h => hstep₁ _ fun acts => by rw [doInvoke_state]; exact hsteps.trans h⟩
  · exact Or.inr ⟨q, vm₁, B, X₁.warmed, X', hpost, hstep₁ _ fun acts => by rw [doInvoke_state]; exact hsteps⟩
end VXIC
section VXID
variable {p : Program} {l : Launch} {e : Env} {R : Room} {s : State} {m : MethodId} {args : Array Value} {below : List Frame} {meth : Method} {c : Code} {H : Heap} {locs : List Loc} {cells slots : Nat}
theorem vx_runIN {y : MethodName} {bytes cc : ByteArray} {maxL nL mc ms n index : Nat} {ws : List Cond} {rm : Room} {Pc : Array Value → State → Prop} {Qc : Array Value → State → Outcome → State → Prop} {XC : String → State → State → Prop} {free : Addr → Prop} {Ts : List Cond} {own host : String} {b : Addr} {As rest : List Value} {g : JFrame}
    (S : CallFix p m c cc nL s args Ts own) (hM : vx_Met l y ws rm Pc Qc XC mc ms free) (cw : va_CN R s args own index y host bytes maxL none ws rm mc ms n ∧ y.name = "<init>" ∧ (Cond.instanceMethod y).before args s = true) (hp : PreS s H Pc (.ref b :: As))
    (hg : g.method = m) (hn : As.length = n) (hsize : g.locals.size = nL) (hstack : g.stack = As.reverse ++ .ref b :: rest) (hW : 2 * g.monitorRoom + (rest.map fun v => v.category).sum ≤ 8) (hdg : decode cc g.pc = .ok (.invokespecial index, 3)) (hf : cells + mc ≤ R.cells ∧ slots + ms ≤ R.slots) :
    vx_Run p l e R s m args below meth c H locs cells slots mc ms g rest (Qc (Value.ref b :: As).toArray) XC free := by
  obtain ⟨⟨⟨hrc, hrs, hfr, hlo, hws, hcw⟩, hcode, hini, hy, hlen, hl⟩, hx1, hx2⟩ := cw
  have hK : vx_Back l R p e below s args y 3 8 (PreOf R mc ms Pc) (PostOf Qc mc ms free) (vx_Post XC mc ms free) := vx_back (bytes := bytes) (maxL := maxL) (ret := none) hM hp.1 hrc hrs hfr hlo hws hcw (fun a' U hW => word_at hW (Or.inl (by first | rfl | simp [Cond.onTables, Cond.keeps, Cond.steady])) hini)
  obtain ⟨hx, hb, hml, ho, -⟩ := S
  have hPc := hp.2
  intro T hT X
  rcases vx_callIN X hx (bytes := bytes) (maxL := maxL) ho hx1 hl hx2 hcode hy hK hg (hsize.trans hml.symm) (a := b) (argsL := As) (rest := rest) (fun sig h => hn.trans (hlen sig h)) hstack hW (by rw [hb]; exact hdg)
    (fun vm₁ hW₁ => ⟨hf.1, hf.2, hPc (T.setVm vm₁) hT hW₁⟩) with ⟨v, vm₁, ⟨U', l2, c2, s2⟩, hW₁, X', ⟨g', mk, t, L, e1, e2, hq, h1, hL, h2, h3⟩, st⟩ | ⟨q, vm₁, ⟨U', l2, c2, s2⟩, hW₁, X', ⟨g', mk, t, L, E, ce, e1, e2, hq, hce, hcv, hcl, h1, hL, h2, h3⟩, st⟩
  · dsimp only [Pt.U, Pt.locs, Pt.cells, Pt.slots] at X' e1 e2 h1 h2 h3 st
    subst h1; subst h2; subst h3
    exact Or.inl ⟨v, (T.setVm vm₁).calling g' mk (Value.ref b :: As).toArray, t, U', L, hT, X', hL, e1, e2, hq, st⟩
  · dsimp only [Pt.U, Pt.locs, Pt.cells, Pt.slots] at X' e1 e2 h1 h2 h3 st hcl
    subst h1; subst h2; subst h3
    exact Or.inr ⟨q, (T.setVm vm₁).calling g' mk (Value.ref b :: As).toArray, t, U', L, E, ce, hT, X', hL, e1, e2, hq, hce, hcv, vx_cls hW₁ hcl, st⟩
end VXID
/-! ===== END ===== -/
/-! ===== BEGIN a private method of a nest mate that may throw (follows va_callVN, va_callSN, va_runVN, va_runSN) ===== -/
section
variable {p : Program} {l : Launch} {e : Env} {R : Room} {s : State} {m : MethodId} {args : Array Value} {below : List Frame} {meth : Method} {c : Code} {H : Heap} {locs : List Loc} {cells slots : Nat}
variable {T : State}
theorem vx_callVN (X : Stand p l e R s m args below meth c T locs cells slots) (hexec : p.tables.exec = Jvm.exec) {own C : String} {index : Nat} {host : String} {y : MethodName} {bytes : ByteArray} {maxL : Nat} {ret : Option FieldType}
    (hown : s.vm.findClass own = some m.cls) (hlink : (Cond.methodLinkNest own index y host).before args s = true) (hinst : (Cond.instanceMethod y).before args s = true) (hsel : (Cond.selects C y y).before args s = true)
    (hcode : (Cond.code y bytes maxL ret).before args s = true) (hy : y.cls ≠ "java/lang/invoke/MethodHandle" ∧ y.cls ≠ "java/lang/invoke/VarHandle")
    {W : Nat} {Pre : Pt → Array Value → Prop} {Post : Pt → Array Value → Option Value → Pt → Prop} {PostX : Pt → Array Value → Addr → Pt → Prop} (hK : vx_Back l R p e below s args y 3 W Pre Post PostX)
    {b : Addr} {cellB : Cell} (hcell : T.heap[b]? = some cellB) (hobj : cellB.vm.isStatics = false) (hcls : s.vm.findClass C = some cellB.cls)
    {g : JFrame} (hg : g.method = m) (hsize : g.locals.size = c.maxLocals) {argsL rest : List Value} (hlen : ∀ sig, parseMethodDescriptor y.desc = some sig → argsL.length = sig.parameters.length)
    (hstack : g.stack = argsL.reverse ++ .ref b :: rest) (hW : 2 * g.monitorRoom + (rest.map fun v => v.category).sum ≤ W) (hdg : decode c.code g.pc = .ok (.invokevirtual index, 3))
    (hpre : ∀ vm₁, s.WarmedH vm₁ → Pre ⟨T.setVm vm₁, locs, cells, slots⟩ (Value.ref b :: argsL).toArray) :
    (∃ (v : Option Value) (vm₁ : Vm) (B : Pt), s.WarmedH vm₁ ∧ Stand p l e R s m args below meth c B.U B.locs B.cells B.slots ∧ Post ⟨T.setVm vm₁, locs, cells, slots⟩ (Value.ref b :: argsL).toArray v B ∧
      ∀ target, Steps p.tables e below (B.U.setTop { g with pc := g.pc + 3, stack := v.toList ++ rest }) target → Steps p.tables e below (T.setTop g) target) ∨
    (∃ (q : Addr) (vm₁ : Vm) (B : Pt), s.WarmedH vm₁ ∧ Stand p l e R s m args below meth c B.U B.locs B.cells B.slots ∧ PostX ⟨T.setVm vm₁, locs, cells, slots⟩ (Value.ref b :: argsL).toArray q B ∧
      Steps p.tables e below (T.setTop g) ((B.U.setTop { g with stack := rest }).pushFrame (.throwing q))) := by
  obtain ⟨mk, methM, hnamed, hmethM, hstM, habM⟩ := Cond.instanceMethod_spec hinst
  obtain ⟨methM', cM, hmethM', -, -, -, -, -, -, hsigM⟩ := Cond.code_spec hnamed hcode
  cases hmethM.symm.trans hmethM'
  obtain ⟨c2, r2, m2, q1, q2, q3, q4, kP, hkP, hkPi⟩ := Cond.selects_spec hsel
  cases hcls.symm.trans q1
  cases (State.methodFound?_of_named hnamed hy).symm.trans q2
  cases hnamed.symm.trans q3
  have hselP : selectMethod e.platform s.vm cellB.cls mk = .method mk := by rw [Launch.admits_selectMethod X.admits]; exact q4
  obtain ⟨vm₁, X₁, hstep₁⟩ := X.invokevirtualNest hexec hown hlink hnamed hmethM hstM hkP hkPi hy (a := b) (cell := cellB) hcell
    (fun z h => by rw [h] at hobj; cases hobj) hselP hmethM habM hkP hkPi (g := g) hg (argsL := argsL) (rest := rest) (hlen _ hsigM) hstack hdg
  rcases hK m meth c ⟨T.setVm vm₁, locs, cells, slots⟩ { g with stack := rest } (.invokevirtual index) mk (Value.ref b :: argsL).toArray X₁ hg hsize hdg hW (X₁.named hnamed) (hpre vm₁ X₁.warmed) with ⟨v, B, X', hpost, hsteps⟩ | ⟨q, B, X', hpost, hsteps⟩
  · exact Or.inl ⟨v, vm₁, B, X₁.warmed, X', hpost, fun target h => hstep₁ _ fun acts => by rw [doInvoke_state]; exact hsteps.trans h⟩
  · exact Or.inr ⟨q, vm₁, B, X₁.warmed, X', hpost, hstep₁ _ fun acts => by rw [doInvoke_state]; exact hsteps⟩
theorem vx_callSN (X : Stand p l e R s m args below meth c T locs cells slots) (hexec : p.tables.exec = Jvm.exec) {own : String} {index : Nat} {host : String} {y : MethodName} {bytes : ByteArray} {maxL : Nat} {ret : Option FieldType}
    (hown : s.vm.findClass own = some m.cls) (hlink : (Cond.methodLinkNest own index y host).before args s = true) (hstat : (Cond.static y).before args s = true) (hinit : (Cond.initialized y.cls).before args s = true)
    (hcode : (Cond.code y bytes maxL ret).before args s = true) (hy : y.cls ≠ "java/lang/invoke/MethodHandle" ∧ y.cls ≠ "java/lang/invoke/VarHandle")
    {W : Nat} {Pre : Pt → Array Value → Prop} {Post : Pt → Array Value → Option Value → Pt → Prop} {PostX : Pt → Array Value → Addr → Pt → Prop} (hK : vx_Back l R p e below s args y 3 W Pre Post PostX)
    {g : JFrame} (hg : g.method = m) (hsize : g.locals.size = c.maxLocals) {argsL rest : List Value} (hlen : ∀ sig, parseMethodDescriptor y.desc = some sig → argsL.length = sig.parameters.length)
    (hstack : g.stack = argsL.reverse ++ rest) (hW : 2 * g.monitorRoom + (rest.map fun v => v.category).sum ≤ W) (hdg : decode c.code g.pc = .ok (.invokestatic index, 3))
    (hpre : ∀ vm₁, s.WarmedH vm₁ → Pre ⟨T.setVm vm₁, locs, cells, slots⟩ argsL.toArray) :
    (∃ (v : Option Value) (vm₁ : Vm) (B : Pt), s.WarmedH vm₁ ∧ Stand p l e R s m args below meth c B.U B.locs B.cells B.slots ∧ Post ⟨T.setVm vm₁, locs, cells, slots⟩ argsL.toArray v B ∧
      ∀ target, Steps p.tables e below (B.U.setTop { g with pc := g.pc + 3, stack := v.toList ++ rest }) target → Steps p.tables e below (T.setTop g) target) ∨
    (∃ (q : Addr) (vm₁ : Vm) (B : Pt), s.WarmedH vm₁ ∧ Stand p l e R s m args below meth c B.U B.locs B.cells B.slots ∧ PostX ⟨T.setVm vm₁, locs, cells, slots⟩ argsL.toArray q B ∧
      Steps p.tables e below (T.setTop g) ((B.U.setTop { g with stack := rest }).pushFrame (.throwing q))) := by
  obtain ⟨mk, hnamed⟩ := Cond.code_named hcode
  obtain ⟨methM, cM, hmethM, -, -, -, -, -, -, hsigM⟩ := Cond.code_spec hnamed hcode
  have hstatic : methM.isStatic = true := Cond.static_spec hnamed hmethM hstat
  obtain ⟨kP, hkP, -⟩ := className_of_methodNamed hnamed
  have hinitP : kP.init = .initialized := Cond.initialized_spec (findClass_of_methodNamed hnamed) hkP hinit
  obtain ⟨vm₁, X₁, hstep₁⟩ := X.invokestaticNest hexec hown hlink hnamed hmethM hstatic hkP hinitP hy (g := g) hg (argsL := argsL) (rest := rest) (hlen _ hsigM) hstack hdg
  rcases hK m meth c ⟨T.setVm vm₁, locs, cells, slots⟩ { g with stack := rest } (.invokestatic index) mk argsL.toArray X₁ hg hsize hdg hW (X₁.named hnamed) (hpre vm₁ X₁.warmed) with ⟨v, B, X', hpost, hsteps⟩ | ⟨q, B, X', hpost, hsteps⟩
  · exact Or.inl ⟨v, vm₁, B, X₁.warmed, X', hpost, fun target h => hstep₁ _ fun acts => by rw [doInvoke_state]; exact hsteps.trans h⟩
  · exact Or.inr ⟨q, vm₁, B, X₁.warmed, X', hpost, hstep₁ _ fun acts => by rw [doInvoke_state]; exact hsteps⟩
theorem vx_runVN {y : MethodName} {bytes cc : ByteArray} {maxL nL mc ms n index : Nat} {ret : Option FieldType} {ws : List Cond} {rm : Room} {Pc : Array Value → State → Prop} {Qc : Array Value → State → Outcome → State → Prop} {XC : String → State → State → Prop} {free : Addr → Prop} {Ts : List Cond} {own C host : String} {b : Addr} {As rest : List Value} {g : JFrame}
    (S : CallFix p m c cc nL s args Ts own) (hM : vx_Met l y ws rm Pc Qc XC mc ms free) (cw : va_CN R s args own index y host bytes maxL ret ws rm mc ms n ∧ (Cond.instanceMethod y).before args s = true ∧ (Cond.selects C y y).before args s = true) (hp : PreV s H C b Pc As)
    (hg : g.method = m) (hn : As.length = n) (hsize : g.locals.size = nL) (hstack : g.stack = As.reverse ++ .ref b :: rest) (hW : 2 * g.monitorRoom + (rest.map fun v => v.category).sum ≤ 8) (hdg : decode cc g.pc = .ok (.invokevirtual index, 3)) (hf : cells + mc ≤ R.cells ∧ slots + ms ≤ R.slots) :
    vx_Run p l e R s m args below meth c H locs cells slots mc ms g rest (Qc (Value.ref b :: As).toArray) XC free := by
  obtain ⟨⟨⟨hrc, hrs, hfr, hlo, hws, hcw⟩, hcode, hini, hy, hlen, hl⟩, hx1, hx2⟩ := cw
  have hK : vx_Back l R p e below s args y 3 8 (PreOf R mc ms Pc) (PostOf Qc mc ms free) (vx_Post XC mc ms free) := vx_back (bytes := bytes) (maxL := maxL) (ret := ret) hM hp.1 hrc hrs hfr hlo hws hcw (fun a' U hW => word_at hW (Or.inl (by first | rfl | simp [Cond.onTables, Cond.keeps, Cond.steady])) hini)
  obtain ⟨hx, hb, hml, ho, -⟩ := S
  obtain ⟨-, ⟨cellB, hcB, hoB, hclB⟩, hPc⟩ := hp
  intro T hT X
  rcases vx_callVN X hx (C := C) (bytes := bytes) (maxL := maxL) (ret := ret) ho hl hx1 hx2 hcode hy hK (by rw [hT]; exact hcB) hoB hclB hg (hsize.trans hml.symm) (argsL := As) (rest := rest) (fun sig h => hn.trans (hlen sig h)) hstack hW (by rw [hb]; exact hdg)
    (fun vm₁ hW₁ => ⟨hf.1, hf.2, hPc (T.setVm vm₁) hT hW₁⟩) with ⟨v, vm₁, ⟨U', l2, c2, s2⟩, hW₁, X', ⟨g', mk, t, L, e1, e2, hq, h1, hL, h2, h3⟩, st⟩ | ⟨q, vm₁, ⟨U', l2, c2, s2⟩, hW₁, X', ⟨g', mk, t, L, E, ce, e1, e2, hq, hce, hcv, hcl, h1, hL, h2, h3⟩, st⟩
  · dsimp only [Pt.U, Pt.locs, Pt.cells, Pt.slots] at X' e1 e2 h1 h2 h3 st
    subst h1; subst h2; subst h3
    exact Or.inl ⟨v, (T.setVm vm₁).calling g' mk (Value.ref b :: As).toArray, t, U', L, hT, X', hL, e1, e2, hq, st⟩
  · dsimp only [Pt.U, Pt.locs, Pt.cells, Pt.slots] at X' e1 e2 h1 h2 h3 st hcl
    subst h1; subst h2; subst h3
    exact Or.inr ⟨q, (T.setVm vm₁).calling g' mk (Value.ref b :: As).toArray, t, U', L, E, ce, hT, X', hL, e1, e2, hq, hce, hcv, vx_cls hW₁ hcl, st⟩
theorem vx_runSN {y : MethodName} {bytes cc : ByteArray} {maxL nL mc ms n index : Nat} {ret : Option FieldType} {ws : List Cond} {rm : Room} {Pc : Array Value → State → Prop} {Qc : Array Value → State → Outcome → State → Prop} {XC : String → State → State → Prop} {free : Addr → Prop} {Ts : List Cond} {own host : String} {As rest : List Value} {g : JFrame}
    (S : CallFix p m c cc nL s args Ts own) (hM : vx_Met l y ws rm Pc Qc XC mc ms free) (cw : va_CN R s args own index y host bytes maxL ret ws rm mc ms n ∧ (Cond.static y).before args s = true ∧ True) (hp : PreS s H Pc As)
    (hg : g.method = m) (hn : As.length = n) (hsize : g.locals.size = nL) (hstack : g.stack = As.reverse ++ rest) (hW : 2 * g.monitorRoom + (rest.map fun v => v.category).sum ≤ 8) (hdg : decode cc g.pc = .ok (.invokestatic index, 3)) (hf : cells + mc ≤ R.cells ∧ slots + ms ≤ R.slots) :
    vx_Run p l e R s m args below meth c H locs cells slots mc ms g rest (Qc As.toArray) XC free := by
  obtain ⟨⟨⟨hrc, hrs, hfr, hlo, hws, hcw⟩, hcode, hini, hy, hlen, hl⟩, hx1, hx2⟩ := cw
  have hK : vx_Back l R p e below s args y 3 8 (PreOf R mc ms Pc) (PostOf Qc mc ms free) (vx_Post XC mc ms free) := vx_back (bytes := bytes) (maxL := maxL) (ret := ret) hM hp.1 hrc hrs hfr hlo hws hcw (fun a' U hW => word_at hW (Or.inl (by first | rfl | simp [Cond.onTables, Cond.keeps, Cond.steady])) hini)
  obtain ⟨hx, hb, hml, ho, -⟩ := S
  have hPc := hp.2
  intro T hT X
  rcases vx_callSN X hx (bytes := bytes) (maxL := maxL) (ret := ret) ho hl hx1 hini hcode hy hK hg (hsize.trans hml.symm) (argsL := As) (rest := rest) (fun sig h => hn.trans (hlen sig h)) hstack hW (by rw [hb]; exact hdg)
    (fun vm₁ hW₁ => ⟨hf.1, hf.2, hPc (T.setVm vm₁) hT hW₁⟩) with ⟨v, vm₁, ⟨U', l2, c2, s2⟩, hW₁, X', ⟨g', mk, t, L, e1, e2, hq, h1, hL, h2, h3⟩, st⟩ | ⟨q, vm₁, ⟨U', l2, c2, s2⟩, hW₁, X', ⟨g', mk, t, L, E, ce, e1, e2, hq, hce, hcv, hcl, h1, hL, h2, h3⟩, st⟩
  · dsimp only [Pt.U, Pt.locs, Pt.cells, Pt.slots] at X' e1 e2 h1 h2 h3 st
    subst h1; subst h2; subst h3
    exact Or.inl ⟨v, (T.setVm vm₁).calling g' mk As.toArray, t, U', L, hT, X', hL, e1, e2, hq, st⟩
  · dsimp only [Pt.U, Pt.locs, Pt.cells, Pt.slots] at X' e1 e2 h1 h2 h3 st hcl
    subst h1; subst h2; subst h3
    exact Or.inr ⟨q, (T.setVm vm₁).calling g' mk As.toArray, t, U', L, E, ce, hT, X', hL, e1, e2, hq, hce, hcv, vx_cls hW₁ hcl, st⟩
end
/-! ===== END ===== -/
end
section
/-! printed by a program of mine out of the claim: methods by their numbers, links between nest mates, texts -/
def am_meths_0 : List (MethodName × Cond) := [(yX0_init, Cond.code yX0_init cX0_init 1 (Option.none : Option Jvm.ClassFile.FieldType)), (yX0_clear, Cond.code yX0_clear cX0_clear 2 (Option.none : Option Jvm.ClassFile.FieldType)), (yX0_bidderAt, Cond.code yX0_bidderAt cX0_bidderAt 2 (Option.some Jvm.ClassFile.FieldType.int)), (yX0_turn, Cond.code yX0_turn cX0_turn 1 (Option.some Jvm.ClassFile.FieldType.int)), (yX0_at, Cond.code yX0_at cX0_at 2 (Option.some Jvm.ClassFile.FieldType.int)), (yX0_allows, Cond.code yX0_allows cX0_allows 3 (Option.some Jvm.ClassFile.FieldType.boolean)), (yX0_add, Cond.code yX0_add cX0_add 2 (Option.none : Option Jvm.ClassFile.FieldType)), (yX0_addCall, Cond.code yX0_addCall cX0_addCall 2 (Option.none : Option Jvm.ClassFile.FieldType)), (yX0_isPassedOut, Cond.code yX0_isPassedOut cX0_isPassedOut 1 (Option.some Jvm.ClassFile.FieldType.boolean)), (yX0_isSettled, Cond.code yX0_isSettled cX0_isSettled 1 (Option.some Jvm.ClassFile.FieldType.boolean)), (yX0_level, Cond.code yX0_level cX0_level 1 (Option.some Jvm.ClassFile.FieldType.int)), (yX0_trump, Cond.code yX0_trump cX0_trump 1 (Option.some Jvm.ClassFile.FieldType.int)), (yX0_trumpOf, Cond.code yX0_trumpOf cX0_trumpOf 1 (Option.some Jvm.ClassFile.FieldType.int)), (yX0_declarer, Cond.code yX0_declarer cX0_declarer 5 (Option.some Jvm.ClassFile.FieldType.int)), (yX0_scoreFor, Cond.code yX0_scoreFor cX0_scoreFor 4 (Option.some Jvm.ClassFile.FieldType.int)), (yX0_worthOf, Cond.code yX0_worthOf cX0_worthOf 1 (Option.some Jvm.ClassFile.FieldType.int)), (yX1_init, Cond.code yX1_init cX1_init 1 (Option.none : Option Jvm.ClassFile.FieldType)), (yX1_clear, Cond.code yX1_clear cX1_clear 2 (Option.none : Option Jvm.ClassFile.FieldType)), (yX1_copyFrom, Cond.code yX1_copyFrom cX1_copyFrom 2 (Option.none : Option Jvm.ClassFile.FieldType)), (yX1_start, Cond.code yX1_start cX1_start 3 (Option.none : Option Jvm.ClassFile.FieldType)), (yX1_heldBy, Cond.code yX1_heldBy cX1_heldBy 2 (Option.some Jvm.ClassFile.FieldType.int)), (yX1_count, Cond.code yX1_count cX1_count 2 (Option.some Jvm.ClassFile.FieldType.int)), (yX1_add, Cond.code yX1_add cX1_add 3 (Option.none : Option Jvm.ClassFile.FieldType)), (⟨"", "", ""⟩, Cond.initialized ""), (yX1_areAllEmpty, Cond.code yX1_areAllEmpty cX1_areAllEmpty 1 (Option.some Jvm.ClassFile.FieldType.boolean)), (yX1_areAtMost, Cond.code yX1_areAtMost cX1_areAtMost 3 (Option.some Jvm.ClassFile.FieldType.boolean)), (yX1_areReady, Cond.code yX1_areReady cX1_areReady 2 (Option.some Jvm.ClassFile.FieldType.boolean)), (yX1_ended, Cond.code yX1_ended cX1_ended 1 (Option.some Jvm.ClassFile.FieldType.int)), (yX1_lying, Cond.code yX1_lying cX1_lying 1 (Option.some Jvm.ClassFile.FieldType.int)), (yX1_tricksLeft, Cond.code yX1_tricksLeft cX1_tricksLeft 1 (Option.some Jvm.ClassFile.FieldType.int)), (yX1_leaderOf, Cond.code yX1_leaderOf cX1_leaderOf 2 (Option.some Jvm.ClassFile.FieldType.int)), (yX1_playedAt, Cond.code yX1_playedAt cX1_playedAt 2 (Option.some Jvm.ClassFile.FieldType.int)), (yX1_playerAt, Cond.code yX1_playerAt cX1_playerAt 2 (Option.some Jvm.ClassFile.FieldType.int)), (yX1_cardIn, Cond.code yX1_cardIn cX1_cardIn 4 (Option.some Jvm.ClassFile.FieldType.int)), (yX1_takerOf, Cond.code yX1_takerOf cX1_takerOf 7 (Option.some Jvm.ClassFile.FieldType.int)), (yX1_beats, Cond.code yX1_beats cX1_beats 4 (Option.some Jvm.ClassFile.FieldType.boolean)), (yX1_rightCards, Cond.code yX1_rightCards cX1_rightCards 4 (Option.some Jvm.ClassFile.FieldType.int)), (yX1_put, Cond.code yX1_put cX1_put 3 (Option.some Jvm.ClassFile.FieldType.int)), (yX1_takeBack, Cond.code yX1_takeBack cX1_takeBack 2 (Option.some Jvm.ClassFile.FieldType.int)), (yX1_hasRevoked, Cond.code yX1_hasRevoked cX1_hasRevoked 3 (Option.some Jvm.ClassFile.FieldType.boolean))]
def am_meths_1 : List (MethodName × Cond) := [(yX2_init, Cond.code yX2_init cX2_init 1 (Option.none : Option Jvm.ClassFile.FieldType)), (yX2_begin, Cond.code yX2_begin cX2_begin 3 (Option.some Jvm.ClassFile.FieldType.int)), (yX2_deal, Cond.code yX2_deal cX2_deal 6 (Option.some Jvm.ClassFile.FieldType.int)), (⟨"", "", ""⟩, Cond.initialized ""), (yX2_open, Cond.code yX2_open cX2_open 1 (Option.some Jvm.ClassFile.FieldType.int)), (yX2_has, Cond.code yX2_has cX2_has 3 (Option.some Jvm.ClassFile.FieldType.boolean)), (yX2_hand, Cond.code yX2_hand cX2_hand 6 (Option.some Jvm.ClassFile.FieldType.int)), (yX2_bid, Cond.code yX2_bid cX2_bid 2 (Option.some Jvm.ClassFile.FieldType.int)), (yX2_canBid, Cond.code yX2_canBid cX2_canBid 2 (Option.some Jvm.ClassFile.FieldType.boolean)), (⟨"", "", ""⟩, Cond.initialized ""), (yX2_contract, Cond.code yX2_contract cX2_contract 2 (Option.some Jvm.ClassFile.FieldType.int)), (yX2_play, Cond.code yX2_play cX2_play 3 (Option.some Jvm.ClassFile.FieldType.int)), (yX2_back, Cond.code yX2_back cX2_back 1 (Option.some Jvm.ClassFile.FieldType.int)), (yX2_isRight, Cond.code yX2_isRight cX2_isRight 2 (Option.some Jvm.ClassFile.FieldType.boolean)), (yX2_trick, Cond.code yX2_trick cX2_trick 3 (Option.some Jvm.ClassFile.FieldType.int)), (yX2_now, Cond.code yX2_now cX2_now 2 (Option.some Jvm.ClassFile.FieldType.int)), (yX2_side, Cond.code yX2_side cX2_side 3 (Option.some Jvm.ClassFile.FieldType.int)), (yX2_meanScore, Cond.code yX2_meanScore cX2_meanScore 1 (Option.some Jvm.ClassFile.FieldType.double)), (yX2_wouldGet, Cond.code yX2_wouldGet cX2_wouldGet 2 (Option.some Jvm.ClassFile.FieldType.int)), (yX2_best, Cond.code yX2_best cX2_best 1 (Option.some Jvm.ClassFile.FieldType.int)), (yX2_bestWith, Cond.code yX2_bestWith cX2_bestWith 2 (Option.some Jvm.ClassFile.FieldType.int)), (yX2_bestCard, Cond.code yX2_bestCard cX2_bestCard 5 (Option.some Jvm.ClassFile.FieldType.int)), (yX2_bestIn, Cond.code yX2_bestIn cX2_bestIn 2 (Option.some Jvm.ClassFile.FieldType.int)), (⟨"", "", ""⟩, Cond.initialized ""), (yX2_digest, Cond.code yX2_digest cX2_digest 4 (Option.some Jvm.ClassFile.FieldType.long)), (yX2_mix, Cond.code yX2_mix cX2_mix 3 (Option.some Jvm.ClassFile.FieldType.long)), (yX2_mixTricks, Cond.code yX2_mixTricks cX2_mixTricks 7 (Option.some Jvm.ClassFile.FieldType.long)), (yX2_mixSides, Cond.code yX2_mixSides cX2_mixSides 7 (Option.some Jvm.ClassFile.FieldType.long)), (yX2_mixHands, Cond.code yX2_mixHands cX2_mixHands 8 (Option.some Jvm.ClassFile.FieldType.long)), (yX2_isCard, Cond.code yX2_isCard cX2_isCard 1 (Option.some Jvm.ClassFile.FieldType.boolean)), (yX2_checkPlayer, Cond.code yX2_checkPlayer cX2_checkPlayer 1 (Option.none : Option Jvm.ClassFile.FieldType)), (yX2_checkCard, Cond.code yX2_checkCard cX2_checkCard 1 (Option.none : Option Jvm.ClassFile.FieldType)), (yX2_checkBid, Cond.code yX2_checkBid cX2_checkBid 1 (Option.none : Option Jvm.ClassFile.FieldType)), (yX2_checkPlayable, Cond.code yX2_checkPlayable cX2_checkPlayable 2 (Option.none : Option Jvm.ClassFile.FieldType)), (yX2_isBidAllowed, Cond.code yX2_isBidAllowed cX2_isBidAllowed 2 (Option.some Jvm.ClassFile.FieldType.boolean)), (yX2_turnNow, Cond.code yX2_turnNow cX2_turnNow 1 (Option.some Jvm.ClassFile.FieldType.int)), (yX2_revokersOf, Cond.code yX2_revokersOf cX2_revokersOf 4 (Option.some Jvm.ClassFile.FieldType.int)), (yX2_finishDeal, Cond.code yX2_finishDeal cX2_finishDeal 3 (Option.none : Option Jvm.ClassFile.FieldType)), (yX2_payForRevoke, Cond.code yX2_payForRevoke cX2_payForRevoke 3 (Option.none : Option Jvm.ClassFile.FieldType)), (yX2_hasBestPlay, Cond.code yX2_hasBestPlay cX2_hasBestPlay 1 (Option.some Jvm.ClassFile.FieldType.boolean))]
def am_meths_2 : List (MethodName × Cond) := [(yX2_bestBehind, Cond.code yX2_bestBehind cX2_bestBehind 3 (Option.some Jvm.ClassFile.FieldType.int)), (yX2_mostOfSide0, Cond.code yX2_mostOfSide0 cX2_mostOfSide0 3 (Option.some Jvm.ClassFile.FieldType.int)), (yX2_doesSide0Get, Cond.code yX2_doesSide0Get cX2_doesSide0Get 9 (Option.some Jvm.ClassFile.FieldType.boolean)), (yX2_countForSide0, Cond.code yX2_countForSide0 cX2_countForSide0 1 (Option.some Jvm.ClassFile.FieldType.int)), (yX2_sideOf, Cond.code yX2_sideOf cX2_sideOf 1 (Option.some Jvm.ClassFile.FieldType.int)), (yX2_nextOf, Cond.code yX2_nextOf cX2_nextOf 1 (Option.some Jvm.ClassFile.FieldType.int)), (yX2_contains, Cond.code yX2_contains cX2_contains 2 (Option.some Jvm.ClassFile.FieldType.boolean)), (yX2_with, Cond.code yX2_with cX2_with 2 (Option.some Jvm.ClassFile.FieldType.int)), (yX2_without, Cond.code yX2_without cX2_without 2 (Option.some Jvm.ClassFile.FieldType.int)), (yX2_wholeSuit, Cond.code yX2_wholeSuit cX2_wholeSuit 1 (Option.some Jvm.ClassFile.FieldType.int)), (yX2_smallest, Cond.code yX2_smallest cX2_smallest 1 (Option.some Jvm.ClassFile.FieldType.int)), (yX2_greatest, Cond.code yX2_greatest cX2_greatest 1 (Option.some Jvm.ClassFile.FieldType.int)), (yX3_init, Cond.code yX3_init cX3_init 3 (Option.none : Option Jvm.ClassFile.FieldType)), (yX3_draw, Cond.code yX3_draw cX3_draw 3 (Option.some Jvm.ClassFile.FieldType.int)), (yX3_plus, Cond.code yX3_plus cX3_plus 3 (Option.some (Jvm.ClassFile.FieldType.array Jvm.ClassFile.FieldType.int))), (yX3_count, Cond.code yX3_count cX3_count 7 (Option.some Jvm.ClassFile.FieldType.int)), (yX3_begin, Cond.code yX3_begin cX3_begin 4 (Option.some Jvm.ClassFile.FieldType.boolean)), (yX3_deal, Cond.code yX3_deal cX3_deal 7 (Option.some Jvm.ClassFile.FieldType.boolean)), (yX3_open, Cond.code yX3_open cX3_open 1 (Option.some Jvm.ClassFile.FieldType.boolean)), (yX3_canBid, Cond.code yX3_canBid cX3_canBid 7 (Option.some Jvm.ClassFile.FieldType.boolean)), (yX3_turn, Cond.code yX3_turn cX3_turn 1 (Option.some Jvm.ClassFile.FieldType.int)), (yX3_bid, Cond.codeWith yX3_bid cX3_bid 4 (Option.some Jvm.ClassFile.FieldType.boolean) [((6 : Nat), (20 : Nat), (51 : Nat), (122 : Nat)), ((21 : Nat), (50 : Nat), (51 : Nat), (122 : Nat))]), (yX3_conclude, Cond.code yX3_conclude cX3_conclude 7 (Option.none : Option Jvm.ClassFile.FieldType)), (yX3_mustFollow, Cond.code yX3_mustFollow cX3_mustFollow 3 (Option.some Jvm.ClassFile.FieldType.boolean)), (yX3_isRight, Cond.code yX3_isRight cX3_isRight 3 (Option.some Jvm.ClassFile.FieldType.boolean)), (yX3_taker, Cond.code yX3_taker cX3_taker 7 (Option.some Jvm.ClassFile.FieldType.int)), (yX3_any, Cond.code yX3_any cX3_any 6 (Option.some Jvm.ClassFile.FieldType.int)), (yX3_play, Cond.code yX3_play cX3_play 3 (Option.some Jvm.ClassFile.FieldType.boolean)), (yX3_end, Cond.code yX3_end cX3_end 5 (Option.none : Option Jvm.ClassFile.FieldType)), (yX3_worth, Cond.code yX3_worth cX3_worth 4 (Option.some Jvm.ClassFile.FieldType.int)), (yX3_back, Cond.code yX3_back cX3_back 4 (Option.some Jvm.ClassFile.FieldType.boolean)), (yX3_step, Cond.code yX3_step cX3_step 1 (Option.some Jvm.ClassFile.FieldType.boolean)), (yL_below, Cond.code yL_below cL_below 2 (Option.some Jvm.ClassFile.FieldType.int)), (yL_cell, Cond.code yL_cell cL_cell 2 (Option.some Jvm.ClassFile.FieldType.int)), (⟨"", "", ""⟩, Cond.initialized ""), (⟨"", "", ""⟩, Cond.initialized ""), (⟨"", "", ""⟩, Cond.initialized ""), (⟨"", "", ""⟩, Cond.initialized ""), (⟨"", "", ""⟩, Cond.initialized ""), (⟨"", "", ""⟩, Cond.initialized "")]
def am_meths_3 : List (MethodName × Cond) := [(⟨"", "", ""⟩, Cond.initialized ""), (⟨"", "", ""⟩, Cond.initialized ""), (⟨"", "", ""⟩, Cond.initialized ""), (⟨"", "", ""⟩, Cond.initialized ""), (⟨"", "", ""⟩, Cond.initialized ""), (⟨"", "", ""⟩, Cond.initialized ""), (⟨"", "", ""⟩, Cond.initialized ""), (⟨"", "", ""⟩, Cond.initialized ""), (⟨"", "", ""⟩, Cond.initialized ""), (⟨"", "", ""⟩, Cond.initialized ""), (⟨"", "", ""⟩, Cond.initialized ""), (⟨"", "", ""⟩, Cond.initialized ""), (⟨"", "", ""⟩, Cond.initialized ""), (⟨"", "", ""⟩, Cond.initialized ""), (⟨"", "", ""⟩, Cond.initialized ""), (⟨"", "", ""⟩, Cond.initialized ""), (⟨"", "", ""⟩, Cond.initialized ""), (⟨"", "", ""⟩, Cond.initialized ""), (⟨"", "", ""⟩, Cond.initialized ""), (⟨"", "", ""⟩, Cond.initialized ""), (⟨"", "", ""⟩, Cond.initialized ""), (⟨"", "", ""⟩, Cond.initialized ""), (⟨"", "", ""⟩, Cond.initialized ""), (⟨"", "", ""⟩, Cond.initialized ""), (⟨"", "", ""⟩, Cond.initialized ""), (⟨"", "", ""⟩, Cond.initialized ""), (⟨"", "", ""⟩, Cond.initialized ""), (⟨"", "", ""⟩, Cond.initialized ""), (yJ6_numberOfLeadingZeros_0f7a4, Cond.code yJ6_numberOfLeadingZeros_0f7a4 cJ6_numberOfLeadingZeros_0f7a4 2 (Option.some Jvm.ClassFile.FieldType.int)), (yJ6_numberOfTrailingZeros_0f7a4, Cond.code yJ6_numberOfTrailingZeros_0f7a4 cJ6_numberOfTrailingZeros_0f7a4 2 (Option.some Jvm.ClassFile.FieldType.int)), (yJ6_bitCount_0f7a4, Cond.code yJ6_bitCount_0f7a4 cJ6_bitCount_0f7a4 1 (Option.some Jvm.ClassFile.FieldType.int))]
def am_meths : List (MethodName × Cond) := am_meths_0 ++ (am_meths_1 ++ (am_meths_2 ++ (am_meths_3)))
def am_nestF : List (String × Nat × String × String × String × String) := [("PepperboxTable", 96, "PepperboxTable$Cards", "size", "I", "PepperboxTable"), ("PepperboxTable", 219, "PepperboxTable$Cards", "trump", "I", "PepperboxTable"), ("PepperboxTable", 292, "PepperboxTable$Cards", "turn", "I", "PepperboxTable"), ("PepperboxTable", 148, "PepperboxTable$Auction", "count", "I", "PepperboxTable"), ("PepperboxTable", 204, "PepperboxTable$Auction", "dealer", "I", "PepperboxTable"), ("PepperboxTable", 163, "PepperboxTable$Auction", "times", "I", "PepperboxTable")]
def am_nestM : List (String × Nat × MethodName × String) := [("PepperboxTable$Auction", 42, ⟨"PepperboxTable", "sideOf", "(I)I"⟩, "PepperboxTable"), ("PepperboxTable$Cards", 83, ⟨"PepperboxTable", "wholeSuit", "(I)I"⟩, "PepperboxTable"), ("PepperboxTable$Cards", 56, ⟨"PepperboxTable", "contains", "(II)Z"⟩, "PepperboxTable"), ("PepperboxTable$Cards", 52, ⟨"PepperboxTable", "with", "(II)I"⟩, "PepperboxTable"), ("PepperboxTable$Cards", 89, ⟨"PepperboxTable", "without", "(II)I"⟩, "PepperboxTable"), ("PepperboxTable$Cards", 92, ⟨"PepperboxTable", "nextOf", "(I)I"⟩, "PepperboxTable"), ("PepperboxTable", 11, ⟨"PepperboxTable$Cards", "<init>", "()V"⟩, "PepperboxTable"), ("PepperboxTable", 21, ⟨"PepperboxTable$Auction", "<init>", "()V"⟩, "PepperboxTable"), ("PepperboxTableLaw$Deal", 59, ⟨"PepperboxTableLaw", "cell", "([II)I"⟩, "PepperboxTableLaw"), ("PepperboxTableLaw$Deal", 65, ⟨"PepperboxTableLaw", "below", "(II)I"⟩, "PepperboxTableLaw")]
def am_strs : List (String × Nat × String) := [("PepperboxTable", 286, "no such PLAYER"), ("PepperboxTable", 288, "no such CARD"), ("PepperboxTable", 103, "no such suit or what"), ("PepperboxTable", 290, "no such BID"), ("PepperboxTable", 158, "no such what"), ("PepperboxTable", 195, "no such TRICK"), ("PepperboxTable", 210, "no such SIDE"), ("PepperboxTable", 295, "not in the STATE 2, or the CARD is not in that HAND"), ("PepperboxTable", 233, "no such TRUMP"), ("PepperboxTable", 55, "no such first, step or many"), ("PepperboxTable", 66, "not in the STATE 0, or a HAND has a CARD"), ("PepperboxTable", 94, "not in the STATE 0, or the HANDS are not ready"), ("PepperboxTable", 122, "not in the STATE 1, or that cannot be bid"), ("PepperboxTable", 184, "not in the STATE 2, or no CARD lies there")]
def am_decls : List MethodName := [⟨"java/lang/RuntimeException", "<init>", "()V"⟩, ⟨"java/lang/RuntimeException", "<init>", "(Ljava/lang/String;)V"⟩, ⟨"java/lang/Exception", "<init>", "()V"⟩, ⟨"java/lang/Exception", "<init>", "(Ljava/lang/String;)V"⟩, ⟨"java/lang/Throwable", "<init>", "()V"⟩, ⟨"java/lang/Throwable", "<init>", "(Ljava/lang/String;)V"⟩]
def am_casts : List String := ["java/lang/IndexOutOfBoundsException", "java/lang/IllegalArgumentException", "java/lang/IllegalStateException"]
def am_xs : List (String × String) := [("java/lang/IndexOutOfBoundsException", "java/lang/IllegalArgumentException"), ("java/lang/IndexOutOfBoundsException", "java/lang/IllegalStateException"), ("java/lang/IllegalArgumentException", "java/lang/IndexOutOfBoundsException"), ("java/lang/IllegalArgumentException", "java/lang/IllegalStateException"), ("java/lang/IllegalStateException", "java/lang/IndexOutOfBoundsException"), ("java/lang/IllegalStateException", "java/lang/IllegalArgumentException")]
def am_nm (y : Nat) : MethodName := (am_meths.getD y (⟨"", "", ""⟩, Cond.initialized "")).1
def am_cw (y : Nat) : Cond := (am_meths.getD y (⟨"", "", ""⟩, Cond.initialized "")).2
def am_tab : List Cond := lw_tbl.filter goodWord
theorem am_tm {w : Cond} (h : w ∈ lw_tbl) (g : goodWord w = true) : w ∈ am_tab := List.mem_filter.mpr ⟨h, g⟩
theorem am_t1 {w : Cond} {i : Nat} (h : tables_1[i]? = some w) : w ∈ lw_tbl := List.mem_append_right _ (List.mem_of_getElem? h)
theorem am_t0 {w : Cond} {i : Nat} (h : (k2_sels lw_privs)[i]? = some w) : w ∈ lw_tbl := List.mem_append_left _ (List.mem_of_getElem? h)
end
section
/-! AM's meaning over the machine: its worlds as cells of the heap, its places as frames; a call as a contract. -/
/-- the law's script -/
def am_sb (cA : Nat → ClassId) : Value := .ref (cA 9)
def am_tys (cA : Nat → ClassId) : List (ClassId × FieldType) := [(cA 0, .int), (cA 1, .boolean), (cA 2, .long), (cA 3, .array .int), (cA 4, .array .boolean)]
def am_tr (ad : Nat → Nat) (nb : Value) (v : Value) : Value := match v with
  | .ref k => .ref (ad k)
  | .float _ => nb
  | v => v
def am_tE (cA : Nat → ClassId) (ad : Nat → Nat) (e : am_E) : va_E := match e with
  | .inl (t, n, .inl f) => .inl (cA t, n, .inl f)
  | .inl (t, n, .inr (.inl f)) => .inl (cA t, n, .inr (.inl f))
  | .inl (t, n, .inr (.inr f)) => .inl (cA t, n, .inr (.inr (.inr (.inr (fun j => (f j).map ad)))))
  | .inr (ci, fs) => .inr (ci, fs.map (am_tr ad (am_sb cA)))
def am_ws (cA : Nat → ClassId) (ad : Nat → Nat) (w : am_M) : va_W := w.mapIdx (fun i e => (ad i, am_tE cA ad e))
/-- a value's references are places of a world of n cells -/
def am_wv (n : Nat) (v : Value) : Prop := match v with
  | .ref k => k < n
  | _ => True
def am_we (n : Nat) (e : am_E) : Prop := match e with
  | .inl (_, _, .inr (.inr f)) => ∀ j r, f j = some r → r < n
  | .inl _ => True
  | .inr (_, fs) => ∀ v ∈ fs, am_wv n v
theorem am_wv_le {n n' : Nat} (h : n ≤ n') {v : Value} (hv : am_wv n v) : am_wv n' v := by
  cases v <;> first | trivial | exact Nat.lt_of_lt_of_le hv h
theorem am_we_le {n n' : Nat} (h : n ≤ n') {e : am_E} (he : am_we n e) : am_we n' e := by
  rcases e with ⟨t, k, f | f | f⟩ | ⟨c, fs⟩
  · trivial
  · trivial
  · exact fun j r hr => Nat.lt_of_lt_of_le (he j r hr) h
  · exact fun v hv => am_wv_le h (he v hv)
theorem am_tr_cat {ad : Nat → Nat} {nb v : Value} (hnb : nb.category = 1) : (am_tr ad nb v).category = v.category := by
  cases v <;> first | rfl | exact hnb
theorem am_tr_ext {ad ad' : Nat → Nat} {nb v : Value} {n : Nat} (h : ∀ j, j < n → ad' j = ad j) (hv : am_wv n v) : am_tr ad' nb v = am_tr ad nb v := by
  cases v <;> first | rfl | exact congrArg Value.ref (h _ hv)
theorem am_tE_ext {cA : Nat → ClassId} {ad ad' : Nat → Nat} {e : am_E} {n : Nat} (h : ∀ j, j < n → ad' j = ad j) (he : am_we n e) : am_tE cA ad' e = am_tE cA ad e := by
  rcases e with ⟨t, k, f | f | f⟩ | ⟨c, fs⟩
  · rfl
  · rfl
  · show Sum.inl (cA t, k, _) = Sum.inl (cA t, k, _)
    have : (fun j => (f j).map ad') = (fun j => (f j).map ad) := funext fun j => by
      cases hf : f j with
      | none => rfl
      | some r => exact congrArg some (h _ (he j r hf))
    rw [this]
  · show Sum.inr (c, fs.map (am_tr ad' (am_sb cA))) = Sum.inr (c, fs.map (am_tr ad (am_sb cA)))
    rw [List.map_congr_left (fun v hv => am_tr_ext h (he v hv))]
theorem am_ws_at (cA : Nat → ClassId) (ad : Nat → Nat) {w : am_M} {i : Nat} {e : am_E} (h : w[i]? = some e) : (am_ws cA ad w)[i]? = some (ad i, am_tE cA ad e) := by
  simp [am_ws, h]
theorem am_ws_len (cA : Nat → ClassId) (ad : Nat → Nat) (w : am_M) : (am_ws cA ad w).length = w.length := by simp [am_ws]
theorem am_ws_of {cA : Nat → ClassId} {ad : Nat → Nat} {w : am_M} {i : Nat} {q : Nat × va_E} (h : (am_ws cA ad w)[i]? = some q) : ∃ e, w[i]? = some e ∧ q = (ad i, am_tE cA ad e) := by
  simp only [am_ws, List.getElem?_mapIdx, Option.map_eq_some_iff] at h
  obtain ⟨e, h1, h2⟩ := h
  exact ⟨e, h1, h2.symm⟩
theorem am_ws_set (cA : Nat → ClassId) (ad : Nat → Nat) (w : am_M) (i : Nat) (e : am_E) : am_ws cA ad (w.set i e) = (am_ws cA ad w).set i (ad i, am_tE cA ad e) := by
  apply List.ext_getElem?
  intro j
  by_cases h : i = j
  · subst h
    by_cases hl : i < w.length
    · rw [am_ws_at cA ad (List.getElem?_set_self hl), List.getElem?_set_self (by rw [am_ws_len]; exact hl)]
    · rw [List.getElem?_eq_none (by rw [am_ws_len, List.length_set]; omega), List.getElem?_eq_none (by rw [List.length_set, am_ws_len]; omega)]
  · rw [List.getElem?_set_ne h]
    simp [am_ws, List.getElem?_set_ne h]
theorem am_ws_ext {cA : Nat → ClassId} {ad ad' : Nat → Nat} {w : am_M} {n : Nat} (hn : w.length ≤ n) (h : ∀ j, j < n → ad' j = ad j) (hw : ∀ e ∈ w, am_we n e) : am_ws cA ad' w = am_ws cA ad w := by
  apply List.ext_getElem?
  intro j
  cases hj : w[j]? with
  | none =>
    have hl := List.getElem?_eq_none_iff.mp hj
    rw [List.getElem?_eq_none (by rw [am_ws_len]; omega), List.getElem?_eq_none (by rw [am_ws_len]; omega)]
  | some e =>
    have hl := (List.getElem?_eq_some_iff.mp hj).1
    rw [am_ws_at cA ad' hj, am_ws_at cA ad hj, h j (by omega), am_tE_ext h (hw e (List.mem_of_getElem? hj))]
theorem am_ws_app (cA : Nat → ClassId) (ad : Nat → Nat) (w : am_M) (e : am_E) : am_ws cA ad (w ++ [e]) = am_ws cA ad w ++ [(ad w.length, am_tE cA ad e)] := by
  simp [am_ws, List.mapIdx_append]
/-- the law's script is there, and nobody writes it -/
def am_Scr (cA : Nat → ClassId) (A : Nat → Prop) (U : State) : Prop := ∃ (L : Nat) (xs : Nat → Int32), L ≤ 260 ∧ va_X (cA 9) L xs U U.heap ∧ cA 9 < U.heap.size ∧ ¬ A (cA 9)
-- what every method's start says of the tables
def am_G (D : va_G) (cA : Nat → ClassId) (A : Nat → Prop) (U : State) : Prop :=
  va_K D vwCl (am_tys cA) U ∧ (∀ q ∈ am_nestF, va_Nw (.fieldLinkNest q.1 q.2.1 q.2.2.1 q.2.2.2.1 q.2.2.2.2.1 q.2.2.2.2.2) U) ∧ (∀ q ∈ am_nestM, va_Nw (.methodLinkNest q.1 q.2.1 q.2.2.1 q.2.2.2) U) ∧
  vx_Zq Bundle.tN "UNASSIGNED_STACK" Bundle.steD A U U.heap ∧ vx_Zq Bundle.tN "SUPPRESSED_SENTINEL" Bundle.listD A U U.heap ∧ (∀ q ∈ am_strs, ∃ sa : Nat, vk_R q.1 q.2.1 q.2.2 sa U) ∧ (va_AOA .int U ∧ va_AOA .boolean U ∧ am_Scr cA A U) ∧ (∀ q ∈ am_xs, va_Nc q.1 q.2 U) ∧ (∀ q ∈ am_decls, va_Nw (.declares q) U) ∧ (∀ q ∈ am_casts, va_Nw (.castable q q) U)
theorem am_over {ty : FieldType} {U : State} (h : va_AOA ty U) :
    ∃ comp c k, U.vm.findClass (FieldType.array ty).toString = some comp ∧ (U.vm.classes.findIdx? fun x => match x.kind with | .array component _ => component == comp | _ => false) = some c ∧ U.vm.classes[c]? = some k ∧ k.kind = .array comp (.array ty) ∧
      U.vm.findClass ("[" ++ (FieldType.array ty).toString) = some c := by
  unfold va_AOA Cond.before Cond.holds at h
  simp only [Cond.value, beq_iff_eq] at h
  cases hc : U.vm.findClass (FieldType.array ty).toString with
  | none => simp [hc] at h
  | some comp =>
    simp only [hc, Option.bind_some, Option.bind_eq_some_iff, Option.map_eq_some_iff] at h
    obtain ⟨c, hi, k, hk, hb⟩ := h
    obtain ⟨hlt, hp, -⟩ := Array.findIdx?_eq_some_iff_getElem.mp hi
    have hkk : U.vm.classes[c] = k := (Array.getElem?_eq_some_iff.mp hk).2
    rw [hkk] at hp
    cases hkind : k.kind with
    | array component ty' =>
      rw [hkind] at hb hp
      simp at hb hp
      exact ⟨comp, c, k, rfl, hi, hk, by rw [hkind, hp, hb.1], hb.2⟩
    | _ => rw [hkind] at hb; simp at hb
theorem va_AOA.moved {ty : FieldType} {u U : State} (hvm : u.vm.Alike U.vm) (h : va_AOA ty u) : va_AOA ty U := by
  obtain ⟨comp, c, k, h1, h2, h3, h4, h5⟩ := am_over h
  obtain ⟨k', hk', he⟩ := hvm.2.2 _ _ h3
  have hi : (U.vm.classes.findIdx? fun (x : Class) => match x.kind with | .array component _ => component == comp | _ => false) = some c := by
    refine (va_idx_bare U.vm comp).symm.trans ?_
    first | rw [hvm.bare_eq] | rw [← hvm.bare_eq]
    exact (va_idx_bare u.vm comp).trans h2
  have hkind : k'.kind = .array comp (.array ty) := by rw [he]; exact h4
  have f1 : U.vm.findClass (FieldType.array ty).toString = some comp := by rw [hvm.findClass]; exact h1
  have f2 : U.vm.findClass ("[" ++ (FieldType.array ty).toString) = some c := by rw [hvm.findClass]; exact h5
  unfold va_AOA Cond.before Cond.holds
  simp only [Cond.value]
  rw [f1, Option.bind_some]
  refine (congrArg (fun o : Option Nat => (o.bind (fun c => (U.vm.classes[c]?).map fun (k : Class) => match k.kind with | .array _ ty' => decide (ty' = FieldType.array ty) && decide (U.vm.findClass ("[" ++ (FieldType.array ty).toString) = some c) | _ => false) == some true)) hi).trans ?_
  simp [hk', hkind, f2]
theorem am_Scr.to {cA : Nat → ClassId} {A A' : Nat → Prop} {s U : State} (h : am_Scr cA A s) (hal : s.vm.Alike U.vm) (hk : ∀ a : Nat, a < s.heap.size → ¬ A a → U.heap[a]? = s.heap[a]?) (hA : ∀ q, A' q → A q) : am_Scr cA A' U := by
  obtain ⟨L, xs, h1, h2, h3, h4⟩ := h
  have h5 := hk _ h3 h4
  refine ⟨L, xs, h1, (h2.moved hal).kept h5, ?_, fun q => h4 (hA _ q)⟩
  obtain ⟨scr, g, -⟩ := h2
  rw [g] at h5
  exact (Array.getElem?_eq_some_iff.mp h5).1
theorem am_G.to {D : va_G} {cA : Nat → ClassId} {A A' : Nat → Prop} {s U : State} (h : am_G D cA A s) (hW : s.WarmedH U.vm) (hk : ∀ a : Nat, a < s.heap.size → ¬ A a → U.heap[a]? = s.heap[a]?) (hA : ∀ q, A' q → A q) : am_G D cA A' U := by
  obtain ⟨h1, h2, h3, h4, h5, h6, h7, h8, h9, h10⟩ := h
  exact ⟨va_K.moved hW.alike h1, fun q hq => va_Nw.warmF hW (h2 q hq), fun q hq => va_Nw.warmM hW (h3 q hq), ((h4.moved hW.alike).kept hk).narrow hA, ((h5.moved hW.alike).kept hk).narrow hA,
    fun q hq => by obtain ⟨sa, ha⟩ := h6 q hq; exact ⟨sa, vk_R.warm hW ha⟩, ⟨h7.1.moved hW.alike, h7.2.1.moved hW.alike, h7.2.2.to hW.alike hk hA⟩, fun q hq => (h8 q hq).moved hW.alike, fun q hq => va_Nw.warmD hW (h9 q hq), fun q hq => va_Nw.warmC hW (h10 q hq)⟩
theorem am_G.same {D : va_G} {cA : Nat → ClassId} {A : Nat → Prop} {s U : State} (h : am_G D cA A s) (hv : s.vm = U.vm) (hh : U.heap = s.heap) : am_G D cA A U :=
  am_G.to h (by rw [← hv]; exact State.WarmedH.refl s) (fun a _ _ => by rw [hh]) (fun _ h => h)
/-- what has come of a world w at ad, behind a method -/
def am_U (D : va_G) (cA : Nat → ClassId) (ad : Nat → Nat) (w : am_M) (A : Nat → Prop) (ad' : Nat → Nat) (w' : am_M) (H : Heap) : Prop :=
  va_P D vwCl (am_ws cA ad' w') H ∧ va_D A (am_ws cA ad' w') ∧ (∀ e ∈ w', am_we w'.length e) ∧ w.length ≤ w'.length ∧ ∀ j, j < w.length → ad' j = ad j
def am_pre (D : va_G) (cA : Nat → ClassId) (ad : Nat → Nat) (w : am_M) (sz : Nat) : State → Prop := fun U =>
  U.heap.size = sz ∧ va_P D vwCl (am_ws cA ad w) U.heap ∧ va_D (fun _ => True) (am_ws cA ad w) ∧ am_G D cA (va_A (am_ws cA ad w) sz) U
def am_post (D : va_G) (cA : Nat → ClassId) (ad : Nat → Nat) (w : am_M) (A : Nat → Prop) (Q : am_Q) : Array Value → State → Outcome → State → Prop := fun _ st o t =>
  (∃ (v : Option Value) (w' : am_M) (ad' : Nat → Nat), o = .returned (v.map (am_tr ad' (am_sb cA))) ∧ Q (.inl v) w' ∧ (∀ x, v = some x → am_wv w'.length x ∧ am_nn x = true) ∧ am_U D cA ad w A ad' w' t.heap) ∧ va_F A st t
def am_px (D : va_G) (cA : Nat → ClassId) (ad : Nat → Nat) (w : am_M) (A : Nat → Prop) (Q : am_Q) : String → State → State → Prop := fun E st t =>
  (∃ (x : Nat) (w' : am_M) (ad' : Nat → Nat), E = am_xn x ∧ Q (.inr x) w' ∧ am_U D cA ad w A ad' w' t.heap) ∧ va_F A st t
def am_room (d k : Nat) : Room := { frames := d + 8, cells := k, slots := 1100 * k, locals := 64 * (d + 8) }
def am_wsd (y : Nat) : List Cond := am_cw y :: am_tab
def am_Met (l : Launch) (d y k : Nat) (a : List Value) (w : am_M) (Q : am_Q) (D : va_G) (cA : Nat → ClassId) (ad : Nat → Nat) (sz : Nat) : Prop :=
  vx_Met l (am_nm y) (am_wsd y) (am_room d k) (va_Pc (a.map (am_tr ad (am_sb cA))) (am_pre D cA ad w sz)) (am_post D cA ad w (va_A (am_ws cA ad w) sz) Q) (am_px D cA ad w (va_A (am_ws cA ad w) sz) Q) k (1100 * k) (va_A (am_ws cA ad w) sz)
def am_Call (l : Launch) (d : Nat) : am_C := fun y k a w Q =>
  (∀ v ∈ a, am_wv w.length v) → (∀ e ∈ w, am_we w.length e) → ∀ (D : va_G) (cA : Nat → ClassId) (ad : Nat → Nat) (sz : Nat), am_Met l d y k a w Q D cA ad sz
theorem am_blind {D : va_G} {cA : Nat → ClassId} {ad : Nat → Nat} {w : am_M} {sz : Nat} {av : List Value} : FrameBlind (va_Pc av (am_pre D cA ad w sz)) := by
  intro a U g mk h
  obtain ⟨h1, h2, h3, h4, h5⟩ := h
  exact ⟨h1, h2, h3, h4, h5.same rfl rfl⟩
-- the locals as the kit has them
def am_ents (ad : Nat → Nat) (nb : Value) : Nat → am_L → List (Nat × Value)
  | _, [] => []
  | i, o :: l => match o with
    | none => am_ents ad nb (i + 1) l
    | some v => (i, am_tr ad nb v) :: am_ents ad nb (i + 1) l
theorem am_ents_iff {ad : Nat → Nat} {nb : Value} : ∀ {l : am_L} {i : Nat} {q : Nat × Value}, q ∈ am_ents ad nb i l ↔ ∃ j v, l[j]? = some (some v) ∧ q = (i + j, am_tr ad nb v)
  | [], i, q => by simp [am_ents]
  | none :: l, i, q => by
    simp only [am_ents]
    rw [am_ents_iff]
    constructor
    · rintro ⟨j, v, h1, h2⟩
      exact ⟨j + 1, v, by simpa using h1, by rw [h2, show i + 1 + j = i + (j + 1) by omega]⟩
    · rintro ⟨j, v, h1, h2⟩
      cases j with
      | zero => simp at h1
      | succ j => exact ⟨j, v, by simpa using h1, by rw [h2, show i + 1 + j = i + (j + 1) by omega]⟩
  | some u :: l, i, q => by
    simp only [am_ents, List.mem_cons]
    rw [am_ents_iff]
    constructor
    · rintro (h | ⟨j, v, h1, h2⟩)
      · exact ⟨0, u, rfl, h⟩
      · exact ⟨j + 1, v, by simpa using h1, by rw [h2, show i + 1 + j = i + (j + 1) by omega]⟩
    · rintro ⟨j, v, h1, h2⟩
      cases j with
      | zero =>
        simp at h1
        subst h1
        exact Or.inl h2
      | succ j => exact Or.inr ⟨j, v, by simpa using h1, by rw [h2, show i + 1 + j = i + (j + 1) by omega]⟩
theorem am_set_iff : ∀ {l : am_L} {i : Nat} {v : Value} {k : am_L → Prop}, am_set l i v k → i < l.length ∧ (∀ j o, j + 1 = i → l[j]? = some o → am_c2 o = false) ∧ k (l.set i (some v))
  | [], i, v, k, h => by cases i <;> exact h.elim
  | o :: l, 0, v, k, h => ⟨by simp, fun j o h => by omega, h⟩
  | o :: l, i + 1, v, k, h => by
    have h' : (bif Nat.beq i 0 && am_c2 o then False else am_set l i v (fun l' => k (o :: l'))) := h
    cases hc : (Nat.beq i 0 && am_c2 o) with
    | true => rw [hc] at h'; exact h'.elim
    | false =>
      rw [hc] at h'
      obtain ⟨h1, h2, h3⟩ := am_set_iff (l := l) (i := i) (v := v) (k := fun l' => k (o :: l')) h'
      refine ⟨by simp; exact h1, fun j o' hj ho => ?_, h3⟩
      cases j with
      | zero =>
        simp at ho
        subst ho
        have : i = 0 := by omega
        subst this
        simpa using hc
      | succ j => exact h2 j o' (by omega) (by simpa using ho)
theorem am_set2_iff : ∀ {l : am_L} {i : Nat} {v : Value} {k : am_L → Prop}, am_set2 l i v k → i + 1 < l.length ∧ (∀ j o, j + 1 = i → l[j]? = some o → am_c2 o = false) ∧ k ((l.set i (some v)).set (i + 1) none)
  | [], i, v, k, h => by cases i <;> exact h.elim
  | [o], 0, v, k, h => h.elim
  | o :: o' :: l, 0, v, k, h => ⟨by simp, fun j o h => by omega, h⟩
  | o :: l, i + 1, v, k, h => by
    have h' : (bif Nat.beq i 0 && am_c2 o then False else am_set2 l i v (fun l' => k (o :: l'))) := by
      cases l <;> exact h
    cases hc : (Nat.beq i 0 && am_c2 o) with
    | true => rw [hc] at h'; exact h'.elim
    | false =>
      rw [hc] at h'
      obtain ⟨h1, h2, h3⟩ := am_set2_iff (l := l) (i := i) (v := v) (k := fun l' => k (o :: l')) h'
      refine ⟨by simp; exact h1, fun j o' hj ho => ?_, h3⟩
      cases j with
      | zero =>
        simp at ho
        subst ho
        have : i = 0 := by omega
        subst this
        simpa using hc
      | succ j => exact h2 j o' (by omega) (by simpa using ho)
theorem am_c2_cat {ad : Nat → Nat} {nb v : Value} (hnb : nb.category = 1) (h : am_c2 (some v) = false) : ¬ (am_tr ad nb v).category = 2 := by
  rw [am_tr_cat hnb]
  cases v <;> first | (cases h; done) | (intro q; cases q)
theorem lv_less {ls : Array Slot} {nL : Nat} {l l' : List (Nat × Value)} (h : lv_has ls nL l) (hs : ∀ q ∈ l', q ∈ l) : lv_has ls nL l' := ⟨h.1, h.2.1, fun q hq => h.2.2 q (hs q hq)⟩
/-- behind a store of one slot -/
theorem am_ents_set {ad : Nat → Nat} {nb v : Value} {l : am_L} {i nL : Nat} {ls : Array Slot} (hnb : nb.category = 1) (hi : i < l.length) (hc : ∀ j o, j + 1 = i → l[j]? = some o → am_c2 o = false)
    (h : lv_has ls nL ((i, am_tr ad nb v) :: (am_ents ad nb 0 l).filter (fun q => !(q.1 == i) && !(q.1 + 1 == i && q.2.category == 2)))) : lv_has ls nL (am_ents ad nb 0 (l.set i (some v))) := by
  refine lv_less h fun q hq => ?_
  obtain ⟨j, u, h1, h2⟩ := am_ents_iff.mp hq
  by_cases hj : i = j
  · subst hj
    rw [List.getElem?_set_self hi] at h1
    cases h1
    exact List.mem_cons.mpr (Or.inl (by rw [h2, Nat.zero_add]))
  · rw [List.getElem?_set_ne hj] at h1
    refine List.mem_cons.mpr (Or.inr (List.mem_filter.mpr ⟨am_ents_iff.mpr ⟨j, u, h1, h2⟩, ?_⟩))
    subst h2
    simp only [Nat.zero_add, Bool.and_eq_true, Bool.not_eq_true', beq_eq_false_iff_ne, ne_eq, Bool.and_eq_false_iff]
    refine ⟨fun q => hj q.symm, ?_⟩
    by_cases hk : j + 1 = i
    · exact Or.inr (am_c2_cat hnb (hc j _ hk h1))
    · exact Or.inl hk
theorem am_ents_set2 {ad : Nat → Nat} {nb v : Value} {l : am_L} {i nL : Nat} {ls : Array Slot} (hnb : nb.category = 1) (hi : i + 1 < l.length) (hc : ∀ j o, j + 1 = i → l[j]? = some o → am_c2 o = false)
    (h : lv_has ls nL ((i, am_tr ad nb v) :: (am_ents ad nb 0 l).filter (fun q => !(q.1 == i) && (!(q.1 == i + 1) && !(q.1 + 1 == i && q.2.category == 2))))) : lv_has ls nL (am_ents ad nb 0 ((l.set i (some v)).set (i + 1) none)) := by
  refine lv_less h fun q hq => ?_
  obtain ⟨j, u, h1, h2⟩ := am_ents_iff.mp hq
  by_cases hj2 : i + 1 = j
  · subst hj2
    rw [List.getElem?_set_self (by rw [List.length_set]; exact hi)] at h1
    cases h1
  · rw [List.getElem?_set_ne hj2] at h1
    by_cases hj : i = j
    · subst hj
      rw [List.getElem?_set_self (by omega)] at h1
      cases h1
      exact List.mem_cons.mpr (Or.inl (by rw [h2, Nat.zero_add]))
    · rw [List.getElem?_set_ne hj] at h1
      refine List.mem_cons.mpr (Or.inr (List.mem_filter.mpr ⟨am_ents_iff.mpr ⟨j, u, h1, h2⟩, ?_⟩))
      subst h2
      simp only [Nat.zero_add, Bool.and_eq_true, Bool.not_eq_true', beq_eq_false_iff_ne, ne_eq, Bool.and_eq_false_iff]
      refine ⟨fun q => hj q.symm, fun q => hj2 q.symm, ?_⟩
      by_cases hk : j + 1 = i
      · exact Or.inr (am_c2_cat hnb (hc j _ hk h1))
      · exact Or.inl hk
theorem am_wl_set {n : Nat} {l : am_L} {i : Nat} {o : Option Value} (h : ∀ u, some u ∈ l → am_wv n u) (hv : ∀ v, o = some v → am_wv n v) : ∀ u, some u ∈ l.set i o → am_wv n u := by
  intro u hu
  rcases List.mem_or_eq_of_mem_set hu with h1 | h1
  · exact h u h1
  · exact hv u h1.symm
-- a frame's place
def am_rel (D : va_G) (cA : Nat → ClassId) (A : Nat → Prop) (n0 : Nat) (ad0 : Nat → Nat) (H0 : Heap) (ad : Nat → Nat) (w : am_M) (H : Heap) (locs : List Loc) : Prop :=
  va_P D vwCl (am_ws cA ad w) H ∧ va_D A (am_ws cA ad w) ∧ va_S A H0 H locs ∧ (∀ e ∈ w, am_we w.length e) ∧ n0 ≤ w.length ∧ ∀ j, j < n0 → ad j = ad0 j
def am_J (p : Program) (l : Launch) (e : Env) (R : Room) (s : State) (m : MethodId) (args : Array Value) (below : List Frame) (meth : Method) (c : Code) (D : va_G) (cA : Nat → ClassId) (A : Nat → Prop) (Z : State → Prop) (nb : Value) (nL n0 : Nat) (ad0 : Nat → Nat) : am_K := fun k pc ls st w =>
  ∀ (ad : Nat → Nat) (H : Heap) (locs : List Loc) (cells slots : Nat) (lsA : Array Slot), am_rel D cA A n0 ad0 s.heap ad w H locs → (∀ v, some v ∈ ls → am_wv w.length v) → (∀ v ∈ st, am_wv w.length v) → ls.length = nL → lv_has lsA nL (am_ents ad nb 0 ls) →
    cells + k ≤ R.cells → slots + 1100 * k ≤ R.slots → W p l e R s m args below meth c H locs cells slots Z (F0 m pc lsA (st.map (am_tr ad nb)))
def am_ctx (p : Program) (l : Launch) (R : Room) (s : State) (m : MethodId) (args : Array Value) (meth : Method) (c : Code) (cc : ByteArray) (nL : Nat) (own : String) (D : va_G) (cA : Nat → ClassId) (A : Nat → Prop) (nb : Value) (d : Nat) : Prop :=
  p.tables.exec = Jvm.exec ∧ c.code = cc ∧ c.maxLocals = nL ∧ s.vm.findClass own = some m.cls ∧ (∀ w ∈ am_tab, w.before args s = true) ∧ am_G D cA A s ∧ (∀ q, s.heap.size ≤ q → A q) ∧ meth.locks = false ∧ l.stackTraces = false ∧ d + 8 ≤ R.frames ∧ 64 * (d + 8) ≤ R.locals ∧ nb.category = 1
end
section
/-! every instruction of AM means what the machine does -/
theorem am_ci {n : Nat} {x : Int32} {st : am_S} (h : ∀ v ∈ st, am_wv n v) : ∀ v ∈ (Value.int x :: st), am_wv n v := List.forall_mem_cons.mpr ⟨trivial, h⟩
theorem am_cl {n : Nat} {x : Int64} {st : am_S} (h : ∀ v ∈ st, am_wv n v) : ∀ v ∈ (Value.long x :: st), am_wv n v := List.forall_mem_cons.mpr ⟨trivial, h⟩
theorem am_cd {n : Nat} {x : UInt64} {st : am_S} (h : ∀ v ∈ st, am_wv n v) : ∀ v ∈ (Value.double x :: st), am_wv n v := List.forall_mem_cons.mpr ⟨trivial, h⟩
theorem am_cf {n : Nat} {x : UInt32} {st : am_S} (h : ∀ v ∈ st, am_wv n v) : ∀ v ∈ (Value.float x :: st), am_wv n v := List.forall_mem_cons.mpr ⟨trivial, h⟩
theorem am_cr {n x : Nat} {st : am_S} (hx : x < n) (h : ∀ v ∈ st, am_wv n v) : ∀ v ∈ (Value.ref x :: st), am_wv n v := List.forall_mem_cons.mpr ⟨hx, h⟩
theorem am_top {n x : Nat} {st : am_S} (h : ∀ v ∈ (Value.ref x :: st), am_wv n v) : x < n := (List.forall_mem_cons.mp h).1
theorem am_tl {n : Nat} {u : Value} {st : am_S} (h : ∀ v ∈ (u :: st), am_wv n v) : ∀ v ∈ st, am_wv n v := (List.forall_mem_cons.mp h).2
theorem am_hd {n x : Nat} {st : am_S} (h : ∀ v ∈ (Value.ref x :: st), am_wv n v) : x < n := (List.forall_mem_cons.mp h).1
theorem am_lget {ad : Nat → Nat} {nb v : Value} {ls : am_L} {i nL : Nat} {lsA : Array Slot} (h : lv_has lsA nL (am_ents ad nb 0 ls)) (hi : ls[i]? = some (some v)) : lsA[i]? = some (.val (am_tr ad nb v)) :=
  h.2.2 (i, am_tr ad nb v) (am_ents_iff.mpr ⟨i, v, hi, by rw [Nat.zero_add]⟩)
theorem am_ents_ext {ad ad' : Nat → Nat} {nb : Value} {n : Nat} (h : ∀ j, j < n → ad' j = ad j) : ∀ {ls : am_L} {i : Nat}, (∀ v, some v ∈ ls → am_wv n v) → am_ents ad' nb i ls = am_ents ad nb i ls
  | [], _, _ => rfl
  | none :: l, i, hl => am_ents_ext h (ls := l) (i := i + 1) (fun v hv => hl v (List.mem_cons_of_mem _ hv))
  | some v :: l, i, hl => by
    show (i, am_tr ad' nb v) :: am_ents ad' nb (i + 1) l = (i, am_tr ad nb v) :: am_ents ad nb (i + 1) l
    rw [am_tr_ext h (hl v List.mem_cons_self), am_ents_ext h (fun v hv => hl v (List.mem_cons_of_mem _ hv))]
theorem am_map_ext {ad ad' : Nat → Nat} {nb : Value} {n : Nat} (h : ∀ j, j < n → ad' j = ad j) {st : am_S} (hs : ∀ v ∈ st, am_wv n v) : st.map (am_tr ad' nb) = st.map (am_tr ad nb) := List.map_congr_left fun v hv => am_tr_ext h (hs v hv)
theorem am_cat_map {ad : Nat → Nat} {nb : Value} (hnb : nb.category = 1) (st : am_S) : ((st.map (am_tr ad nb)).map fun v => v.category).sum = am_cat st := by
  rw [am_cat_eq, List.map_map]
  exact congrArg List.sum (List.map_congr_left fun v _ => am_tr_cat hnb)
section AMS
variable {p : Program} {l : Launch} {e : Env} {R : Room} {s : State} {m : MethodId} {args : Array Value} {below : List Frame} {meth : Method} {c : Code} {D : va_G} {cA : Nat → ClassId} {A : Nat → Prop} {Z : State → Prop} {nL n0 : Nat} {ad0 : Nat → Nat} {cc : ByteArray} {own : String} {d pc n t : Nat}
theorem am_rel.set {ad : Nat → Nat} {w : am_M} {H H1 : Heap} {locs locs1 : List Loc} (hr : am_rel D cA A n0 ad0 s.heap ad w H locs) {i : Nat} {e1 : am_E} (h1 : va_P D vwCl ((am_ws cA ad w).set i (ad i, am_tE cA ad e1)) H1) (h2 : va_D A ((am_ws cA ad w).set i (ad i, am_tE cA ad e1))) (h3 : va_S A s.heap H1 locs1) (he : am_we w.length e1) : am_rel D cA A n0 ad0 s.heap ad (w.set i e1) H1 locs1 := by
  refine ⟨by rw [am_ws_set]; exact h1, by rw [am_ws_set]; exact h2, h3, fun x hx => ?_, by rw [List.length_set]; exact hr.2.2.2.2.1, hr.2.2.2.2.2⟩
  rw [List.length_set]
  rcases List.mem_or_eq_of_mem_set hx with h | h
  · exact hr.2.2.2.1 x h
  · rw [h]; exact he
def am_ad (ad : Nat → Nat) (n q : Nat) : Nat → Nat := fun j => if j = n then q else ad j
theorem am_ad_lt {ad : Nat → Nat} {n q j : Nat} (h : j < n) : am_ad ad n q j = ad j := if_neg (by omega)
theorem am_ad_n {ad : Nat → Nat} {n q : Nat} : am_ad ad n q n = q := if_pos rfl
theorem am_rel.push {ad : Nat → Nat} {w : am_M} {H H1 : Heap} {locs locs1 : List Loc} (hr : am_rel D cA A n0 ad0 s.heap ad w H locs) {q : Nat} {e1 : am_E} {e2 : va_E} (hE : am_tE cA (am_ad ad w.length q) e1 = e2) (h1 : va_P D vwCl (am_ws cA ad w ++ [(q, e2)]) H1) (h2 : va_D A (am_ws cA ad w ++ [(q, e2)])) (h3 : va_S A s.heap H1 locs1) (he : am_we (w.length + 1) e1) : am_rel D cA A n0 ad0 s.heap (am_ad ad w.length q) (w ++ [e1]) H1 locs1 := by
  have hw : am_ws cA (am_ad ad w.length q) (w ++ [e1]) = am_ws cA ad w ++ [(q, e2)] := by
    rw [am_ws_app, am_ws_ext (Nat.le_refl _) (fun j hj => am_ad_lt hj) hr.2.2.2.1, am_ad_n, hE]
  refine ⟨by rw [hw]; exact h1, by rw [hw]; exact h2, h3, fun x hx => ?_, ?_, fun j hj => ?_⟩
  · rw [List.length_append]
    rcases List.mem_append.mp hx with h | h
    · exact am_we_le (by simp) (hr.2.2.2.1 x h)
    · rw [List.mem_singleton.mp h]; exact he
  · rw [List.length_append]; exact Nat.le_trans hr.2.2.2.2.1 (by simp)
  · rw [am_ad_lt (Nat.lt_of_lt_of_le hj hr.2.2.2.2.1)]; exact hr.2.2.2.2.2 j hj
theorem am_const_snd {v : Value} (hv : ∀ ad nb, am_tr ad nb v = v) (hw : ∀ n, am_wv n v) (row : ∀ (H : Heap) (locs : List Loc) (cells slots : Nat) (ls : Array Slot) (rest : List Value), W p l e R s m args below meth c H locs cells slots Z (F0 m n ls (v :: rest)) → W p l e R s m args below meth c H locs cells slots Z (F0 m pc ls rest)) : am_snd (am_J p l e R s m args below meth c D cA A Z (am_sb cA) nL n0 ad0) (am_const v n) pc := by
  intro K hK k ls st w h ad H locs cells slots lsA hr hl hs hn hh hc1 hc2
  refine row _ _ _ _ _ _ ?_
  have h1 := hK _ _ _ _ _ h ad H locs cells slots lsA hr hl (List.forall_mem_cons.mpr ⟨hw _, hs⟩) hn hh hc1 hc2
  rw [List.map_cons, hv] at h1
  exact h1
theorem am_constI_snd {x : Int32} (row : ∀ (H : Heap) (locs : List Loc) (cells slots : Nat) (ls : Array Slot) (rest : List Value), W p l e R s m args below meth c H locs cells slots Z (F0 m n ls (.int x :: rest)) → W p l e R s m args below meth c H locs cells slots Z (F0 m pc ls rest)) : am_snd (am_J p l e R s m args below meth c D cA A Z (am_sb cA) nL n0 ad0) (am_const (.int x) n) pc := am_const_snd (fun _ _ => rfl) (fun _ => trivial) row
theorem am_constL_snd {x : Int64} (row : ∀ (H : Heap) (locs : List Loc) (cells slots : Nat) (ls : Array Slot) (rest : List Value), W p l e R s m args below meth c H locs cells slots Z (F0 m n ls (.long x :: rest)) → W p l e R s m args below meth c H locs cells slots Z (F0 m pc ls rest)) : am_snd (am_J p l e R s m args below meth c D cA A Z (am_sb cA) nL n0 ad0) (am_const (.long x) n) pc := am_const_snd (fun _ _ => rfl) (fun _ => trivial) row
theorem am_constD_snd {x : UInt64} (row : ∀ (H : Heap) (locs : List Loc) (cells slots : Nat) (ls : Array Slot) (rest : List Value), W p l e R s m args below meth c H locs cells slots Z (F0 m n ls (.double x :: rest)) → W p l e R s m args below meth c H locs cells slots Z (F0 m pc ls rest)) : am_snd (am_J p l e R s m args below meth c D cA A Z (am_sb cA) nL n0 ad0) (am_const (.double x) n) pc := am_const_snd (fun _ _ => rfl) (fun _ => trivial) row
theorem am_goto_snd (row : ∀ (H : Heap) (locs : List Loc) (cells slots : Nat) (ls : Array Slot) (rest : List Value), W p l e R s m args below meth c H locs cells slots Z (F0 m t ls rest) → W p l e R s m args below meth c H locs cells slots Z (F0 m pc ls rest)) : am_snd (am_J p l e R s m args below meth c D cA A Z (am_sb cA) nL n0 ad0) (am_goto t) pc := by
  intro K hK k ls st w h ad H locs cells slots lsA hr hl hs hn hh hc1 hc2
  exact row _ _ _ _ _ _ (hK _ _ _ _ _ h ad H locs cells slots lsA hr hl hs hn hh hc1 hc2)
theorem am_iload_snd {i : Nat} (row : ∀ (H : Heap) (locs : List Loc) (cells slots : Nat) (ls : Array Slot) (rest : List Value) (x : Int32), ls[i]? = some (.val (.int x)) → W p l e R s m args below meth c H locs cells slots Z (F0 m n ls (.int x :: rest)) → W p l e R s m args below meth c H locs cells slots Z (F0 m pc ls rest)) : am_snd (am_J p l e R s m args below meth c D cA A Z (am_sb cA) nL n0 ad0) (am_iload i n) pc := by
  intro K hK k ls st w h ad H locs cells slots lsA hr hl hs hn hh hc1 hc2
  replace h := am_at_iff.mp h
  obtain ⟨v, hv, h⟩ := h
  split at h
  · rename_i x
    exact row _ _ _ _ _ _ x (am_lget hh hv) (hK _ _ _ _ _ h ad H locs cells slots lsA hr hl (am_ci hs) hn hh hc1 hc2)
  · exact h.elim
theorem am_lload_snd {i : Nat} (row : ∀ (H : Heap) (locs : List Loc) (cells slots : Nat) (ls : Array Slot) (rest : List Value) (x : Int64), ls[i]? = some (.val (.long x)) → W p l e R s m args below meth c H locs cells slots Z (F0 m n ls (.long x :: rest)) → W p l e R s m args below meth c H locs cells slots Z (F0 m pc ls rest)) : am_snd (am_J p l e R s m args below meth c D cA A Z (am_sb cA) nL n0 ad0) (am_lload i n) pc := by
  intro K hK k ls st w h ad H locs cells slots lsA hr hl hs hn hh hc1 hc2
  replace h := am_at_iff.mp h
  obtain ⟨v, hv, h⟩ := h
  split at h
  · rename_i x
    exact row _ _ _ _ _ _ x (am_lget hh hv) (hK _ _ _ _ _ h ad H locs cells slots lsA hr hl (am_cl hs) hn hh hc1 hc2)
  · exact h.elim
theorem am_dload_snd {i : Nat} (row : ∀ (H : Heap) (locs : List Loc) (cells slots : Nat) (ls : Array Slot) (rest : List Value) (x : UInt64), ls[i]? = some (.val (.double x)) → W p l e R s m args below meth c H locs cells slots Z (F0 m n ls (.double x :: rest)) → W p l e R s m args below meth c H locs cells slots Z (F0 m pc ls rest)) : am_snd (am_J p l e R s m args below meth c D cA A Z (am_sb cA) nL n0 ad0) (am_dload i n) pc := by
  intro K hK k ls st w h ad H locs cells slots lsA hr hl hs hn hh hc1 hc2
  replace h := am_at_iff.mp h
  obtain ⟨v, hv, h⟩ := h
  split at h
  · rename_i x
    exact row _ _ _ _ _ _ x (am_lget hh hv) (hK _ _ _ _ _ h ad H locs cells slots lsA hr hl (am_cd hs) hn hh hc1 hc2)
  · exact h.elim
theorem am_aload_snd {i : Nat} (row : ∀ (H : Heap) (locs : List Loc) (cells slots : Nat) (ls : Array Slot) (rest : List Value) (x : Nat), ls[i]? = some (.val (.ref x)) → W p l e R s m args below meth c H locs cells slots Z (F0 m n ls (.ref x :: rest)) → W p l e R s m args below meth c H locs cells slots Z (F0 m pc ls rest)) : am_snd (am_J p l e R s m args below meth c D cA A Z (am_sb cA) nL n0 ad0) (am_aload i n) pc := by
  intro K hK k ls st w h ad H locs cells slots lsA hr hl hs hn hh hc1 hc2
  replace h := am_at_iff.mp h
  obtain ⟨v, hv, h⟩ := h
  split at h
  · rename_i x
    exact row _ _ _ _ _ _ (ad x) (am_lget hh hv) (hK _ _ _ _ _ h ad H locs cells slots lsA hr hl (am_cr (hl _ (List.mem_of_getElem? hv)) hs) hn hh hc1 hc2)
  · rename_i x
    exact row _ _ _ _ _ _ (cA 9) (am_lget hh hv) (hK _ _ _ _ _ h ad H locs cells slots lsA hr hl (am_cf hs) hn hh hc1 hc2)
  · exact h.elim
theorem am_istore_snd {i : Nat} (hnb : (am_sb cA).category = 1) (row : ∀ (H : Heap) (locs : List Loc) (cells slots : Nat) (ls : Array Slot) (rest : List Value) (x : Int32) (lv : List (Nat × Value)), lv_has ls nL lv → i < nL → (∀ ls' : Array Slot, lv_has ls' nL ((i, Value.int x) :: lv.filter (fun q => !(q.1 == i) && !(q.1 + 1 == i && q.2.category == 2))) → W p l e R s m args below meth c H locs cells slots Z (F0 m n ls' rest)) → W p l e R s m args below meth c H locs cells slots Z (F0 m pc ls (.int x :: rest))) : am_snd (am_J p l e R s m args below meth c D cA A Z (am_sb cA) nL n0 ad0) (am_istore i n) pc := by
  intro K hK k ls st w h ad H locs cells slots lsA hr hl hs hn hh hc1 hc2
  dsimp only [am_istore] at h
  split at h
  · rename_i x st'
    obtain ⟨h1, h2, h3⟩ := am_set_iff h
    refine row _ _ _ _ _ _ (x) _ hh (by omega) (fun ls' hls => ?_)
    exact hK _ _ _ _ _ h3 ad H locs cells slots ls' hr (am_wl_set hl (fun v hv => by cases hv; trivial)) (am_tl hs) (by simp only [List.length_set]; exact hn) (am_ents_set (v := .int x) hnb h1 h2 hls) hc1 hc2
  · exact h.elim
theorem am_astore_snd {i : Nat} (hnb : (am_sb cA).category = 1) (row : ∀ (H : Heap) (locs : List Loc) (cells slots : Nat) (ls : Array Slot) (rest : List Value) (x : Nat) (lv : List (Nat × Value)), lv_has ls nL lv → i < nL → (∀ ls' : Array Slot, lv_has ls' nL ((i, Value.ref x) :: lv.filter (fun q => !(q.1 == i) && !(q.1 + 1 == i && q.2.category == 2))) → W p l e R s m args below meth c H locs cells slots Z (F0 m n ls' rest)) → W p l e R s m args below meth c H locs cells slots Z (F0 m pc ls (.ref x :: rest))) : am_snd (am_J p l e R s m args below meth c D cA A Z (am_sb cA) nL n0 ad0) (am_astore i n) pc := by
  intro K hK k ls st w h ad H locs cells slots lsA hr hl hs hn hh hc1 hc2
  dsimp only [am_astore] at h
  split at h
  · rename_i x st'
    obtain ⟨h1, h2, h3⟩ := am_set_iff h
    refine row _ _ _ _ _ _ (ad x) _ hh (by omega) (fun ls' hls => ?_)
    exact hK _ _ _ _ _ h3 ad H locs cells slots ls' hr (am_wl_set hl (fun v hv => by cases hv; exact am_hd hs)) (am_tl hs) (by simp only [List.length_set]; exact hn) (am_ents_set (v := .ref x) hnb h1 h2 hls) hc1 hc2
  · exact h.elim
theorem am_lstore_snd {i : Nat} (hnb : (am_sb cA).category = 1) (row : ∀ (H : Heap) (locs : List Loc) (cells slots : Nat) (ls : Array Slot) (rest : List Value) (x : Int64) (lv : List (Nat × Value)), lv_has ls nL lv → i + 1 < nL → (∀ ls' : Array Slot, lv_has ls' nL ((i, Value.long x) :: lv.filter (fun q => !(q.1 == i) && (!(q.1 == i + 1) && !(q.1 + 1 == i && q.2.category == 2)))) → W p l e R s m args below meth c H locs cells slots Z (F0 m n ls' rest)) → W p l e R s m args below meth c H locs cells slots Z (F0 m pc ls (.long x :: rest))) : am_snd (am_J p l e R s m args below meth c D cA A Z (am_sb cA) nL n0 ad0) (am_lstore i n) pc := by
  intro K hK k ls st w h ad H locs cells slots lsA hr hl hs hn hh hc1 hc2
  dsimp only [am_lstore] at h
  split at h
  · rename_i x st'
    obtain ⟨h1, h2, h3⟩ := am_set2_iff h
    refine row _ _ _ _ _ _ (x) _ hh (by omega) (fun ls' hls => ?_)
    exact hK _ _ _ _ _ h3 ad H locs cells slots ls' hr (am_wl_set (am_wl_set hl (fun v hv => by cases hv; trivial)) (fun v hv => nomatch hv)) (am_tl hs) (by simp only [List.length_set]; exact hn) (am_ents_set2 (v := .long x) hnb h1 h2 hls) hc1 hc2
  · exact h.elim
theorem am_dstore_snd {i : Nat} (hnb : (am_sb cA).category = 1) (row : ∀ (H : Heap) (locs : List Loc) (cells slots : Nat) (ls : Array Slot) (rest : List Value) (x : UInt64) (lv : List (Nat × Value)), lv_has ls nL lv → i + 1 < nL → (∀ ls' : Array Slot, lv_has ls' nL ((i, Value.double x) :: lv.filter (fun q => !(q.1 == i) && (!(q.1 == i + 1) && !(q.1 + 1 == i && q.2.category == 2)))) → W p l e R s m args below meth c H locs cells slots Z (F0 m n ls' rest)) → W p l e R s m args below meth c H locs cells slots Z (F0 m pc ls (.double x :: rest))) : am_snd (am_J p l e R s m args below meth c D cA A Z (am_sb cA) nL n0 ad0) (am_dstore i n) pc := by
  intro K hK k ls st w h ad H locs cells slots lsA hr hl hs hn hh hc1 hc2
  dsimp only [am_dstore] at h
  split at h
  · rename_i x st'
    obtain ⟨h1, h2, h3⟩ := am_set2_iff h
    refine row _ _ _ _ _ _ (x) _ hh (by omega) (fun ls' hls => ?_)
    exact hK _ _ _ _ _ h3 ad H locs cells slots ls' hr (am_wl_set (am_wl_set hl (fun v hv => by cases hv; trivial)) (fun v hv => nomatch hv)) (am_tl hs) (by simp only [List.length_set]; exact hn) (am_ents_set2 (v := .double x) hnb h1 h2 hls) hc1 hc2
  · exact h.elim
theorem am_iinc_snd {i : Nat} {x0 : Int} {x9 : Int32} (hx9 : Int32.ofInt x0 = x9) (hnb : (am_sb cA).category = 1) (hx : p.tables.exec = Jvm.exec) (hb : c.code = cc) (hdg : decode cc pc = .ok (.iinc i x0, 3)) (hpc : pc + 3 = n) : am_snd (am_J p l e R s m args below meth c D cA A Z (am_sb cA) nL n0 ad0) (am_iinc i x9 n) pc := by
  subst hpc
  subst hx9
  intro K hK k ls st w h ad H locs cells slots lsA hr hl hs hn hh hc1 hc2
  replace h := am_at_iff.mp h
  obtain ⟨v, hv, h⟩ := h
  split at h
  · rename_i x
    obtain ⟨h1, h2, h3⟩ := am_set_iff h
    obtain ⟨j, hj⟩ := List.getElem?_of_mem (am_ents_iff (ad := ad) (nb := am_sb cA) (i := 0) (q := (i, Value.int x)) |>.mpr ⟨i, _, hv, by rw [Nat.zero_add]; rfl⟩)
    refine lv_iinc hx hb hdg hh (k := j) hj rfl (by omega) rfl (fun ls' hls => ?_)
    exact hK _ _ _ _ _ h3 ad H locs cells slots ls' hr (am_wl_set hl (fun v hv => by cases hv; trivial)) hs (by simp only [List.length_set]; exact hn) (am_ents_set (v := .int _) hnb h1 h2 hls) hc1 hc2
  · exact h.elim
theorem am_bin_snd {f : Int32 → Int32 → Int32} (row : ∀ (H : Heap) (locs : List Loc) (cells slots : Nat) (ls : Array Slot) (rest : List Value) (x y : Int32), W p l e R s m args below meth c H locs cells slots Z (F0 m n ls (.int (f x y) :: rest)) → W p l e R s m args below meth c H locs cells slots Z (F0 m pc ls (.int y :: .int x :: rest))) : am_snd (am_J p l e R s m args below meth c D cA A Z (am_sb cA) nL n0 ad0) (am_bin f n) pc := by
  intro K hK k ls st w h ad H locs cells slots lsA hr hl hs hn hh hc1 hc2
  dsimp only [am_bin] at h
  split at h
  · rename_i y x st'
    exact row _ _ _ _ _ _ x y (hK _ _ _ _ _ h ad H locs cells slots lsA hr hl (am_ci (am_tl (am_tl hs))) hn hh hc1 hc2)
  · exact h.elim
theorem am_dv_snd {f : Int32 → Int32 → Int32} (row : ∀ (H : Heap) (locs : List Loc) (cells slots : Nat) (ls : Array Slot) (rest : List Value) (x y : Int32), ¬ y = 0 → W p l e R s m args below meth c H locs cells slots Z (F0 m n ls (.int (f x y) :: rest)) → W p l e R s m args below meth c H locs cells slots Z (F0 m pc ls (.int y :: .int x :: rest))) : am_snd (am_J p l e R s m args below meth c D cA A Z (am_sb cA) nL n0 ad0) (am_dv f n) pc := by
  intro K hK k ls st w h ad H locs cells slots lsA hr hl hs hn hh hc1 hc2
  dsimp only [am_dv] at h
  split at h
  · rename_i y x st'
    exact row _ _ _ _ _ _ x y h.1 (hK _ _ _ _ _ h.2 ad H locs cells slots lsA hr hl (am_ci (am_tl (am_tl hs))) hn hh hc1 hc2)
  · exact h.elim
theorem am_lbin_snd {f : Int64 → Int64 → Int64} (row : ∀ (H : Heap) (locs : List Loc) (cells slots : Nat) (ls : Array Slot) (rest : List Value) (x y : Int64), W p l e R s m args below meth c H locs cells slots Z (F0 m n ls (.long (f x y) :: rest)) → W p l e R s m args below meth c H locs cells slots Z (F0 m pc ls (.long y :: .long x :: rest))) : am_snd (am_J p l e R s m args below meth c D cA A Z (am_sb cA) nL n0 ad0) (am_lbin f n) pc := by
  intro K hK k ls st w h ad H locs cells slots lsA hr hl hs hn hh hc1 hc2
  dsimp only [am_lbin] at h
  split at h
  · rename_i y x st'
    exact row _ _ _ _ _ _ x y (hK _ _ _ _ _ h ad H locs cells slots lsA hr hl (am_cl (am_tl (am_tl hs))) hn hh hc1 hc2)
  · exact h.elim
theorem am_lcmp_snd (row : ∀ (H : Heap) (locs : List Loc) (cells slots : Nat) (ls : Array Slot) (rest : List Value) (x y : Int64), W p l e R s m args below meth c H locs cells slots Z (F0 m n ls (.int (lg_cmp x y) :: rest)) → W p l e R s m args below meth c H locs cells slots Z (F0 m pc ls (.long y :: .long x :: rest))) : am_snd (am_J p l e R s m args below meth c D cA A Z (am_sb cA) nL n0 ad0) (am_lcmp n) pc := by
  intro K hK k ls st w h ad H locs cells slots lsA hr hl hs hn hh hc1 hc2
  dsimp only [am_lcmp] at h
  split at h
  · rename_i y x st'
    exact row _ _ _ _ _ _ x y (hK _ _ _ _ _ h ad H locs cells slots lsA hr hl (am_ci (am_tl (am_tl hs))) hn hh hc1 hc2)
  · exact h.elim
theorem am_dcmp_snd {o : CmpOp} (row : ∀ (H : Heap) (locs : List Loc) (cells slots : Nat) (ls : Array Slot) (rest : List Value) (x y : UInt64), W p l e R s m args below meth c H locs cells slots Z (F0 m n ls (.int (Op.cmpValue (FP.dcmp x y) o) :: rest)) → W p l e R s m args below meth c H locs cells slots Z (F0 m pc ls (.double y :: .double x :: rest))) : am_snd (am_J p l e R s m args below meth c D cA A Z (am_sb cA) nL n0 ad0) (am_dcmp o n) pc := by
  intro K hK k ls st w h ad H locs cells slots lsA hr hl hs hn hh hc1 hc2
  dsimp only [am_dcmp] at h
  split at h
  · rename_i y x st'
    exact row _ _ _ _ _ _ x y (hK _ _ _ _ _ h ad H locs cells slots lsA hr hl (am_ci (am_tl (am_tl hs))) hn hh hc1 hc2)
  · exact h.elim
theorem am_ddiv_snd (row : ∀ (H : Heap) (locs : List Loc) (cells slots : Nat) (ls : Array Slot) (rest : List Value) (x y : UInt64), vf_n64 (FP.ddiv x y) → W p l e R s m args below meth c H locs cells slots Z (F0 m n ls (.double (FP.ddiv x y) :: rest)) → W p l e R s m args below meth c H locs cells slots Z (F0 m pc ls (.double y :: .double x :: rest))) : am_snd (am_J p l e R s m args below meth c D cA A Z (am_sb cA) nL n0 ad0) (am_ddiv n) pc := by
  intro K hK k ls st w h ad H locs cells slots lsA hr hl hs hn hh hc1 hc2
  dsimp only [am_ddiv] at h
  split at h
  · rename_i y x st'
    exact row _ _ _ _ _ _ x y h.1 (hK _ _ _ _ _ h.2 ad H locs cells slots lsA hr hl (am_cd (am_tl (am_tl hs))) hn hh hc1 hc2)
  · exact h.elim
theorem am_un_snd {f : Int32 → Int32} (row : ∀ (H : Heap) (locs : List Loc) (cells slots : Nat) (ls : Array Slot) (rest : List Value) (x : Int32), W p l e R s m args below meth c H locs cells slots Z (F0 m n ls (.int (f x) :: rest)) → W p l e R s m args below meth c H locs cells slots Z (F0 m pc ls (.int x :: rest))) : am_snd (am_J p l e R s m args below meth c D cA A Z (am_sb cA) nL n0 ad0) (am_un f n) pc := by
  intro K hK k ls st w h ad H locs cells slots lsA hr hl hs hn hh hc1 hc2
  dsimp only [am_un] at h
  split at h
  · rename_i x st'
    exact row _ _ _ _ _ _ x (hK _ _ _ _ _ h ad H locs cells slots lsA hr hl (am_ci (am_tl hs)) hn hh hc1 hc2)
  · exact h.elim
theorem am_i2l_snd (row : ∀ (H : Heap) (locs : List Loc) (cells slots : Nat) (ls : Array Slot) (rest : List Value) (x : Int32), W p l e R s m args below meth c H locs cells slots Z (F0 m n ls (.long x.toInt64 :: rest)) → W p l e R s m args below meth c H locs cells slots Z (F0 m pc ls (.int x :: rest))) : am_snd (am_J p l e R s m args below meth c D cA A Z (am_sb cA) nL n0 ad0) (am_i2l n) pc := by
  intro K hK k ls st w h ad H locs cells slots lsA hr hl hs hn hh hc1 hc2
  dsimp only [am_i2l] at h
  split at h
  · rename_i x st'
    exact row _ _ _ _ _ _ x (hK _ _ _ _ _ h ad H locs cells slots lsA hr hl (am_cl (am_tl hs)) hn hh hc1 hc2)
  · exact h.elim
theorem am_i2d_snd (row : ∀ (H : Heap) (locs : List Loc) (cells slots : Nat) (ls : Array Slot) (rest : List Value) (x : Int32), W p l e R s m args below meth c H locs cells slots Z (F0 m n ls (.double (FP.i2d x) :: rest)) → W p l e R s m args below meth c H locs cells slots Z (F0 m pc ls (.int x :: rest))) : am_snd (am_J p l e R s m args below meth c D cA A Z (am_sb cA) nL n0 ad0) (am_i2d n) pc := by
  intro K hK k ls st w h ad H locs cells slots lsA hr hl hs hn hh hc1 hc2
  dsimp only [am_i2d] at h
  split at h
  · rename_i x st'
    exact row _ _ _ _ _ _ x (hK _ _ _ _ _ h ad H locs cells slots lsA hr hl (am_cd (am_tl hs)) hn hh hc1 hc2)
  · exact h.elim
theorem am_if_snd {f : Int32 → Prop} (row : ∀ (H : Heap) (locs : List Loc) (cells slots : Nat) (ls : Array Slot) (rest : List Value) (x : Int32), (f x → W p l e R s m args below meth c H locs cells slots Z (F0 m t ls rest)) → (¬ f x → W p l e R s m args below meth c H locs cells slots Z (F0 m n ls rest)) → W p l e R s m args below meth c H locs cells slots Z (F0 m pc ls (.int x :: rest))) : am_snd (am_J p l e R s m args below meth c D cA A Z (am_sb cA) nL n0 ad0) (am_if f t n) pc := by
  intro K hK k ls st w h ad H locs cells slots lsA hr hl hs hn hh hc1 hc2
  dsimp only [am_if] at h
  split at h
  · rename_i x st'
    exact row _ _ _ _ _ _ x (fun q => hK _ _ _ _ _ (h.1 q) ad H locs cells slots lsA hr hl (am_tl hs) hn hh hc1 hc2) (fun q => hK _ _ _ _ _ (h.2 q) ad H locs cells slots lsA hr hl (am_tl hs) hn hh hc1 hc2)
  · exact h.elim
theorem am_cmp_snd {f : Int32 → Int32 → Prop} (row : ∀ (H : Heap) (locs : List Loc) (cells slots : Nat) (ls : Array Slot) (rest : List Value) (x y : Int32), (f x y → W p l e R s m args below meth c H locs cells slots Z (F0 m t ls rest)) → (¬ f x y → W p l e R s m args below meth c H locs cells slots Z (F0 m n ls rest)) → W p l e R s m args below meth c H locs cells slots Z (F0 m pc ls (.int y :: .int x :: rest))) : am_snd (am_J p l e R s m args below meth c D cA A Z (am_sb cA) nL n0 ad0) (am_cmp f t n) pc := by
  intro K hK k ls st w h ad H locs cells slots lsA hr hl hs hn hh hc1 hc2
  dsimp only [am_cmp] at h
  split at h
  · rename_i y x st'
    exact row _ _ _ _ _ _ x y (fun q => hK _ _ _ _ _ (h.1 q) ad H locs cells slots lsA hr hl (am_tl (am_tl hs)) hn hh hc1 hc2) (fun q => hK _ _ _ _ _ (h.2 q) ad H locs cells slots lsA hr hl (am_tl (am_tl hs)) hn hh hc1 hc2)
  · exact h.elim
theorem am_sw_mono {K K' : Nat → Prop} (hK : ∀ t, K t → K' t) {x : Int32} {dd : Nat} : ∀ {ts : List (Int32 × Nat)}, am_sw K x dd ts → am_sw K' x dd ts
  | [], h => hK _ h
  | (v, t) :: ts, h => ⟨fun q => hK _ (h.1 q), fun q => am_sw_mono hK (h.2 q)⟩
theorem am_switch_snd {ts : List (Int32 × Nat)} {dd : Nat} (row : ∀ (H : Heap) (locs : List Loc) (cells slots : Nat) (ls : Array Slot) (rest : List Value) (x : Int32), am_sw (fun t => W p l e R s m args below meth c H locs cells slots Z (F0 m t ls rest)) x dd ts → W p l e R s m args below meth c H locs cells slots Z (F0 m pc ls (.int x :: rest))) : am_snd (am_J p l e R s m args below meth c D cA A Z (am_sb cA) nL n0 ad0) (am_switch ts dd) pc := by
  intro K hK k ls st w h ad H locs cells slots lsA hr hl hs hn hh hc1 hc2
  dsimp only [am_switch] at h
  split at h
  · rename_i x st'
    exact row _ _ _ _ _ _ x (am_sw_mono (fun t q => hK _ _ _ _ _ q ad H locs cells slots lsA hr hl (am_tl hs) hn hh hc1 hc2) h)
  · exact h.elim
theorem am_dup_snd (row : ∀ (H : Heap) (locs : List Loc) (cells slots : Nat) (ls : Array Slot) (rest : List Value) (v : Value), v.category = 1 → W p l e R s m args below meth c H locs cells slots Z (F0 m n ls (v :: v :: rest)) → W p l e R s m args below meth c H locs cells slots Z (F0 m pc ls (v :: rest))) : am_snd (am_J p l e R s m args below meth c D cA A Z (am_sb cA) nL n0 ad0) (am_dup n) pc := by
  intro K hK k ls st w h ad H locs cells slots lsA hr hl hs hn hh hc1 hc2
  dsimp only [am_dup] at h
  split at h
  · rename_i x st'
    exact row _ _ _ _ _ _ (.int x) rfl (hK _ _ _ _ _ h ad H locs cells slots lsA hr hl (am_ci hs) hn hh hc1 hc2)
  · rename_i x st'
    exact row _ _ _ _ _ _ (.ref (ad x)) rfl (hK _ _ _ _ _ h ad H locs cells slots lsA hr hl (am_cr (am_hd hs) hs) hn hh hc1 hc2)
  · exact h.elim
theorem am_dup_x1_snd (row : ∀ (H : Heap) (locs : List Loc) (cells slots : Nat) (ls : Array Slot) (rest : List Value) (v u : Value), v.category = 1 → u.category = 1 → W p l e R s m args below meth c H locs cells slots Z (F0 m n ls (v :: u :: v :: rest)) → W p l e R s m args below meth c H locs cells slots Z (F0 m pc ls (v :: u :: rest))) : am_snd (am_J p l e R s m args below meth c D cA A Z (am_sb cA) nL n0 ad0) (am_dup_x1 n) pc := by
  intro K hK k ls st w h ad H locs cells slots lsA hr hl hs hn hh hc1 hc2
  dsimp only [am_dup_x1] at h
  split at h
  · rename_i x y st'
    exact row _ _ _ _ _ _ (.int x) (.ref (ad y)) rfl rfl (hK _ _ _ _ _ h ad H locs cells slots lsA hr hl (am_ci (am_cr (am_hd (am_tl hs)) (am_ci (am_tl (am_tl hs))))) hn hh hc1 hc2)
  · exact h.elim
theorem am_dup2_snd (row : ∀ (H : Heap) (locs : List Loc) (cells slots : Nat) (ls : Array Slot) (rest : List Value) (v u : Value), v.category = 1 → u.category = 1 → W p l e R s m args below meth c H locs cells slots Z (F0 m n ls (v :: u :: v :: u :: rest)) → W p l e R s m args below meth c H locs cells slots Z (F0 m pc ls (v :: u :: rest))) : am_snd (am_J p l e R s m args below meth c D cA A Z (am_sb cA) nL n0 ad0) (am_dup2 n) pc := by
  intro K hK k ls st w h ad H locs cells slots lsA hr hl hs hn hh hc1 hc2
  dsimp only [am_dup2] at h
  split at h
  · rename_i x y st'
    exact row _ _ _ _ _ _ (.int x) (.ref (ad y)) rfl rfl (hK _ _ _ _ _ h ad H locs cells slots lsA hr hl (am_ci (am_cr (am_hd (am_tl hs)) hs)) hn hh hc1 hc2)
  · exact h.elim
theorem am_pop_snd (row : ∀ (H : Heap) (locs : List Loc) (cells slots : Nat) (ls : Array Slot) (rest : List Value) (v : Value), v.category = 1 → W p l e R s m args below meth c H locs cells slots Z (F0 m n ls rest) → W p l e R s m args below meth c H locs cells slots Z (F0 m pc ls (v :: rest))) : am_snd (am_J p l e R s m args below meth c D cA A Z (am_sb cA) nL n0 ad0) (am_pop n) pc := by
  intro K hK k ls st w h ad H locs cells slots lsA hr hl hs hn hh hc1 hc2
  dsimp only [am_pop] at h
  split at h
  · rename_i x st'
    exact row _ _ _ _ _ _ (.int x) rfl (hK _ _ _ _ _ h ad H locs cells slots lsA hr hl (am_tl hs) hn hh hc1 hc2)
  · exact h.elim
theorem am_getf_snd (hc : (am_ctx p l R s m args meth c cc nL own D cA A (am_sb cA) d)) {C : String} {T : u_T} {N ci j idx : Nat} (hcl : vwCl[ci]? = some (C, T, N)) (hin : ∀ w ∈ u_ws C T N, w ∈ am_tab) (hj : j < N) (hlink : Cond.fieldLink own idx (T j).1 (T j).2.1 (T j).2.2.1 ∈ am_tab) (hdg : decode cc pc = .ok (.getfield idx, 3)) (hpc : pc + 3 = n) : am_snd (am_J p l e R s m args below meth c D cA A Z (am_sb cA) nL n0 ad0) (am_getf ci j n) pc := by
  subst hpc
  intro K hK k ls st w h ad H locs cells slots lsA hr hl hs hn hh hc1 hc2
  dsimp only [am_getf] at h
  split at h
  · rename_i q st'
    replace h := am_at_iff.mp h
    obtain ⟨e0, he, h⟩ := h
    split at h
    · rename_i c0 fs
      cases hb : Nat.beq c0 ci with
      | false => rw [hb] at h; exact h.elim
      | true =>
        rw [hb] at h
        replace h := am_at_iff.mp h
        obtain ⟨v, hv, h⟩ := h
        have hci := Nat.eq_of_beq_eq_true hb
        subst hci
        have hw := am_ws_at cA ad he
        have hwv : am_wv w.length v := hr.2.2.2.1 _ (List.mem_of_getElem? he) v (List.mem_of_getElem? hv)
        have hfv : (fs.map (am_tr ad (am_sb cA)))[j]? = some (am_tr ad (am_sb cA) v) := by rw [List.getElem?_map, hv]; rfl
        refine va_get (D := D) (cl := vwCl) (ci := c0) (C := C) (T := T) (N := N) (v := am_tr ad (am_sb cA) v) hc.1 hc.2.1 hc.2.2.2.2.1 hin hc.2.2.2.1 hc.2.2.2.2.2.1.1 hr.1 q hw hcl j hj (hc.2.2.2.2.1 _ hlink) (fun _ h => h) hfv hdg ?_
        split at h
        · exact hK _ _ _ _ _ h ad H locs cells slots lsA hr hl (am_ci (am_tl hs)) hn hh hc1 hc2
        · exact hK _ _ _ _ _ h ad H locs cells slots lsA hr hl (am_cr hwv (am_tl hs)) hn hh hc1 hc2
        · exact hK _ _ _ _ _ h ad H locs cells slots lsA hr hl (am_cf (am_tl hs)) hn hh hc1 hc2
        · exact h.elim
    · exact h.elim
  · exact h.elim
theorem am_getfN_snd (hc : (am_ctx p l R s m args meth c cc nL own D cA A (am_sb cA) d)) {C : String} {T : u_T} {N ci j idx : Nat} (hcl : vwCl[ci]? = some (C, T, N)) (hin : ∀ w ∈ u_ws C T N, w ∈ am_tab) (hj : j < N) (host : String) (hlink : (own, idx, (T j).1, (T j).2.1, (T j).2.2.1, host) ∈ am_nestF) (hdg : decode cc pc = .ok (.getfield idx, 3)) (hpc : pc + 3 = n) : am_snd (am_J p l e R s m args below meth c D cA A Z (am_sb cA) nL n0 ad0) (am_getf ci j n) pc := by
  subst hpc
  intro K hK k ls st w h ad H locs cells slots lsA hr hl hs hn hh hc1 hc2
  dsimp only [am_getf] at h
  split at h
  · rename_i q st'
    replace h := am_at_iff.mp h
    obtain ⟨e0, he, h⟩ := h
    split at h
    · rename_i c0 fs
      cases hb : Nat.beq c0 ci with
      | false => rw [hb] at h; exact h.elim
      | true =>
        rw [hb] at h
        replace h := am_at_iff.mp h
        obtain ⟨v, hv, h⟩ := h
        have hci := Nat.eq_of_beq_eq_true hb
        subst hci
        have hw := am_ws_at cA ad he
        have hwv : am_wv w.length v := hr.2.2.2.1 _ (List.mem_of_getElem? he) v (List.mem_of_getElem? hv)
        have hfv : (fs.map (am_tr ad (am_sb cA)))[j]? = some (am_tr ad (am_sb cA) v) := by rw [List.getElem?_map, hv]; rfl
        refine va_getN (D := D) (cl := vwCl) (ci := c0) (C := C) (T := T) (N := N) (v := am_tr ad (am_sb cA) v) hc.1 hc.2.1 hc.2.2.2.2.1 hin hc.2.2.2.1 hc.2.2.2.2.2.1.1 hr.1 q hw hcl j hj ((hc.2.2.2.2.2.1.2.1 _ hlink).use rfl) (fun _ h => h) hfv hdg ?_
        split at h
        · exact hK _ _ _ _ _ h ad H locs cells slots lsA hr hl (am_ci (am_tl hs)) hn hh hc1 hc2
        · exact hK _ _ _ _ _ h ad H locs cells slots lsA hr hl (am_cr hwv (am_tl hs)) hn hh hc1 hc2
        · exact hK _ _ _ _ _ h ad H locs cells slots lsA hr hl (am_cf (am_tl hs)) hn hh hc1 hc2
        · exact h.elim
    · exact h.elim
  · exact h.elim
theorem am_putfi_snd (hc : (am_ctx p l R s m args meth c cc nL own D cA A (am_sb cA) d)) {C : String} {T : u_T} {N ci j idx : Nat} {ty0 : FieldType} (hcl : vwCl[ci]? = some (C, T, N)) (hin : ∀ w ∈ u_ws C T N, w ∈ am_tab) (tys : Nat → FieldType) (htys : ∀ k, k < N → parseFieldDescriptor (T k).2.2.1 = some (tys k)) (hnm : ∀ a, a < N → ∀ b, b < N → a ≠ b → (T a).2.1 ≠ (T b).2.1) (hj : j < N) (hlink : Cond.fieldLink own idx (T j).1 (T j).2.1 (T j).2.2.1 ∈ am_tab) (hfin : (T j).2.2.2 = false) (hpt : parseFieldDescriptor (T j).2.2.1 = some ty0) (hnar : ∀ a : Int32, narrow ty0 (.int a) = .int a) (hfit : ∀ a : Int32, fits ty0 (.int a) = true) (hdg : decode cc pc = .ok (.putfield idx, 3)) (hpc : pc + 3 = n) : am_snd (am_J p l e R s m args below meth c D cA A Z (am_sb cA) nL n0 ad0) (am_putfi ci j n) pc := by
  subst hpc
  intro K hK k ls st w h ad H locs cells slots lsA hr hl hs hn hh hc1 hc2
  dsimp only [am_putfi] at h
  split at h
  · rename_i x q st'
    replace h := am_at_iff.mp h
    obtain ⟨e0, he, h⟩ := h
    split at h
    · rename_i c0 fs
      cases hb : Nat.beq c0 ci with
      | false => rw [hb] at h; exact h.elim
      | true =>
        rw [hb] at h
        replace h := am_put_iff.mp h
        obtain ⟨hjl, h⟩ := h
        replace h := am_put_iff.mp h
        obtain ⟨hql, h⟩ := h
        have hci := Nat.eq_of_beq_eq_true hb
        subst hci
        have hw := am_ws_at cA ad he
        have hfs := hr.2.2.2.1 _ (List.mem_of_getElem? he)
        have hE : am_tE cA ad (.inr (c0, fs.set j (.int x))) = .inr (c0, (fs.map (am_tr ad (am_sb cA))).set j (.int x)) := by
          show Sum.inr (c0, (fs.set j (.int x)).map (am_tr ad (am_sb cA))) = _
          rw [List.map_set]; rfl
        refine va_put (D := D) (cl := vwCl) (ci := c0) (C := C) (T := T) (N := N) (v := .int x) (ty := ty0) hc.1 hc.2.1 hc.2.2.2.2.1 hin tys htys hnm hc.2.2.2.1 hc.2.2.2.2.2.1.1 hr.1 hr.2.1 hr.2.2.1 q hw hcl j hj (hc.2.2.2.2.1 _ hlink) (fun _ h => h) hfin hpt (hnar (x)) (hfit (x)) (by rw [List.length_map]; exact hjl) hdg (fun H1 locs1 hP1 hD1 hS1 => ?_)
        rw [← hE] at hP1 hD1
        refine hK _ _ _ _ _ h ad H1 locs1 cells slots lsA (hr.set hP1 hD1 hS1 (fun v hv => ?_)) (by rw [List.length_set]; exact hl) (by rw [List.length_set]; exact am_tl (am_tl hs)) hn hh hc1 hc2
        rcases List.mem_or_eq_of_mem_set hv with h9 | h9
        · exact hfs v h9
        · rw [h9]; exact trivial
    · exact h.elim
  · exact h.elim
theorem am_putfiN_snd (hc : (am_ctx p l R s m args meth c cc nL own D cA A (am_sb cA) d)) {C : String} {T : u_T} {N ci j idx : Nat} {ty0 : FieldType} (hcl : vwCl[ci]? = some (C, T, N)) (hin : ∀ w ∈ u_ws C T N, w ∈ am_tab) (tys : Nat → FieldType) (htys : ∀ k, k < N → parseFieldDescriptor (T k).2.2.1 = some (tys k)) (hnm : ∀ a, a < N → ∀ b, b < N → a ≠ b → (T a).2.1 ≠ (T b).2.1) (hj : j < N) (host : String) (hlink : (own, idx, (T j).1, (T j).2.1, (T j).2.2.1, host) ∈ am_nestF) (hfin : (T j).2.2.2 = false) (hpt : parseFieldDescriptor (T j).2.2.1 = some ty0) (hnar : ∀ a : Int32, narrow ty0 (.int a) = .int a) (hfit : ∀ a : Int32, fits ty0 (.int a) = true) (hdg : decode cc pc = .ok (.putfield idx, 3)) (hpc : pc + 3 = n) : am_snd (am_J p l e R s m args below meth c D cA A Z (am_sb cA) nL n0 ad0) (am_putfi ci j n) pc := by
  subst hpc
  intro K hK k ls st w h ad H locs cells slots lsA hr hl hs hn hh hc1 hc2
  dsimp only [am_putfi] at h
  split at h
  · rename_i x q st'
    replace h := am_at_iff.mp h
    obtain ⟨e0, he, h⟩ := h
    split at h
    · rename_i c0 fs
      cases hb : Nat.beq c0 ci with
      | false => rw [hb] at h; exact h.elim
      | true =>
        rw [hb] at h
        replace h := am_put_iff.mp h
        obtain ⟨hjl, h⟩ := h
        replace h := am_put_iff.mp h
        obtain ⟨hql, h⟩ := h
        have hci := Nat.eq_of_beq_eq_true hb
        subst hci
        have hw := am_ws_at cA ad he
        have hfs := hr.2.2.2.1 _ (List.mem_of_getElem? he)
        have hE : am_tE cA ad (.inr (c0, fs.set j (.int x))) = .inr (c0, (fs.map (am_tr ad (am_sb cA))).set j (.int x)) := by
          show Sum.inr (c0, (fs.set j (.int x)).map (am_tr ad (am_sb cA))) = _
          rw [List.map_set]; rfl
        refine va_putN (D := D) (cl := vwCl) (ci := c0) (C := C) (T := T) (N := N) (v := .int x) (ty := ty0) hc.1 hc.2.1 hc.2.2.2.2.1 hin tys htys hnm hc.2.2.2.1 hc.2.2.2.2.2.1.1 hr.1 hr.2.1 hr.2.2.1 q hw hcl j hj ((hc.2.2.2.2.2.1.2.1 _ hlink).use rfl) (fun _ h => h) hfin hpt (hnar (x)) (hfit (x)) (by rw [List.length_map]; exact hjl) hdg (fun H1 locs1 hP1 hD1 hS1 => ?_)
        rw [← hE] at hP1 hD1
        refine hK _ _ _ _ _ h ad H1 locs1 cells slots lsA (hr.set hP1 hD1 hS1 (fun v hv => ?_)) (by rw [List.length_set]; exact hl) (by rw [List.length_set]; exact am_tl (am_tl hs)) hn hh hc1 hc2
        rcases List.mem_or_eq_of_mem_set hv with h9 | h9
        · exact hfs v h9
        · rw [h9]; exact trivial
    · exact h.elim
  · exact h.elim
theorem am_putfiF_snd (hc : (am_ctx p l R s m args meth c cc nL own D cA A (am_sb cA) d)) {C : String} {T : u_T} {N ci j idx : Nat} {ty0 : FieldType} (hcl : vwCl[ci]? = some (C, T, N)) (hin : ∀ w ∈ u_ws C T N, w ∈ am_tab) (tys : Nat → FieldType) (htys : ∀ k, k < N → parseFieldDescriptor (T k).2.2.1 = some (tys k)) (hnm : ∀ a, a < N → ∀ b, b < N → a ≠ b → (T a).2.1 ≠ (T b).2.1) (hj : j < N) (hlink : Cond.fieldLink own idx (T j).1 (T j).2.1 (T j).2.2.1 ∈ am_tab) (hfin : (T j).2.2.2 = true) (hinit : meth.name = "<init>") (hdecl : (T j).1 = own) (hpt : parseFieldDescriptor (T j).2.2.1 = some ty0) (hnar : ∀ a : Int32, narrow ty0 (.int a) = .int a) (hfit : ∀ a : Int32, fits ty0 (.int a) = true) (hdg : decode cc pc = .ok (.putfield idx, 3)) (hpc : pc + 3 = n) : am_snd (am_J p l e R s m args below meth c D cA A Z (am_sb cA) nL n0 ad0) (am_putfi ci j n) pc := by
  subst hpc
  intro K hK k ls st w h ad H locs cells slots lsA hr hl hs hn hh hc1 hc2
  dsimp only [am_putfi] at h
  split at h
  · rename_i x q st'
    replace h := am_at_iff.mp h
    obtain ⟨e0, he, h⟩ := h
    split at h
    · rename_i c0 fs
      cases hb : Nat.beq c0 ci with
      | false => rw [hb] at h; exact h.elim
      | true =>
        rw [hb] at h
        replace h := am_put_iff.mp h
        obtain ⟨hjl, h⟩ := h
        replace h := am_put_iff.mp h
        obtain ⟨hql, h⟩ := h
        have hci := Nat.eq_of_beq_eq_true hb
        subst hci
        have hw := am_ws_at cA ad he
        have hfs := hr.2.2.2.1 _ (List.mem_of_getElem? he)
        have hE : am_tE cA ad (.inr (c0, fs.set j (.int x))) = .inr (c0, (fs.map (am_tr ad (am_sb cA))).set j (.int x)) := by
          show Sum.inr (c0, (fs.set j (.int x)).map (am_tr ad (am_sb cA))) = _
          rw [List.map_set]; rfl
        refine va_putF (D := D) (cl := vwCl) (ci := c0) (C := C) (T := T) (N := N) (v := .int x) (ty := ty0) hc.1 hc.2.1 hc.2.2.2.2.1 hin tys htys hnm hc.2.2.2.1 hc.2.2.2.2.2.1.1 hr.1 hr.2.1 hr.2.2.1 q hw hcl j hj (hc.2.2.2.2.1 _ hlink) (fun _ h => h) hfin hinit hdecl hpt (hnar (x)) (hfit (x)) (by rw [List.length_map]; exact hjl) hdg (fun H1 locs1 hP1 hD1 hS1 => ?_)
        rw [← hE] at hP1 hD1
        refine hK _ _ _ _ _ h ad H1 locs1 cells slots lsA (hr.set hP1 hD1 hS1 (fun v hv => ?_)) (by rw [List.length_set]; exact hl) (by rw [List.length_set]; exact am_tl (am_tl hs)) hn hh hc1 hc2
        rcases List.mem_or_eq_of_mem_set hv with h9 | h9
        · exact hfs v h9
        · rw [h9]; exact trivial
    · exact h.elim
  · exact h.elim
theorem am_putfr_snd (hc : (am_ctx p l R s m args meth c cc nL own D cA A (am_sb cA) d)) {C : String} {T : u_T} {N ci j idx : Nat} {ty0 : FieldType} (hcl : vwCl[ci]? = some (C, T, N)) (hin : ∀ w ∈ u_ws C T N, w ∈ am_tab) (tys : Nat → FieldType) (htys : ∀ k, k < N → parseFieldDescriptor (T k).2.2.1 = some (tys k)) (hnm : ∀ a, a < N → ∀ b, b < N → a ≠ b → (T a).2.1 ≠ (T b).2.1) (hj : j < N) (hlink : Cond.fieldLink own idx (T j).1 (T j).2.1 (T j).2.2.1 ∈ am_tab) (hfin : (T j).2.2.2 = false) (hpt : parseFieldDescriptor (T j).2.2.1 = some ty0) (hnar : ∀ a : Nat, narrow ty0 (.ref a) = .ref a) (hfit : ∀ a : Nat, fits ty0 (.ref a) = true) (hdg : decode cc pc = .ok (.putfield idx, 3)) (hpc : pc + 3 = n) : am_snd (am_J p l e R s m args below meth c D cA A Z (am_sb cA) nL n0 ad0) (am_putfr ci j n) pc := by
  subst hpc
  intro K hK k ls st w h ad H locs cells slots lsA hr hl hs hn hh hc1 hc2
  dsimp only [am_putfr] at h
  split at h
  · rename_i x q st'
    replace h := am_at_iff.mp h
    obtain ⟨e0, he, h⟩ := h
    split at h
    · rename_i c0 fs
      cases hb : Nat.beq c0 ci with
      | false => rw [hb] at h; exact h.elim
      | true =>
        rw [hb] at h
        replace h := am_put_iff.mp h
        obtain ⟨hjl, h⟩ := h
        replace h := am_put_iff.mp h
        obtain ⟨hql, h⟩ := h
        have hci := Nat.eq_of_beq_eq_true hb
        subst hci
        have hw := am_ws_at cA ad he
        have hfs := hr.2.2.2.1 _ (List.mem_of_getElem? he)
        have hE : am_tE cA ad (.inr (c0, fs.set j (.ref x))) = .inr (c0, (fs.map (am_tr ad (am_sb cA))).set j (.ref (ad x))) := by
          show Sum.inr (c0, (fs.set j (.ref x)).map (am_tr ad (am_sb cA))) = _
          rw [List.map_set]; rfl
        refine va_put (D := D) (cl := vwCl) (ci := c0) (C := C) (T := T) (N := N) (v := .ref (ad x)) (ty := ty0) hc.1 hc.2.1 hc.2.2.2.2.1 hin tys htys hnm hc.2.2.2.1 hc.2.2.2.2.2.1.1 hr.1 hr.2.1 hr.2.2.1 q hw hcl j hj (hc.2.2.2.2.1 _ hlink) (fun _ h => h) hfin hpt (hnar (ad x)) (hfit (ad x)) (by rw [List.length_map]; exact hjl) hdg (fun H1 locs1 hP1 hD1 hS1 => ?_)
        rw [← hE] at hP1 hD1
        refine hK _ _ _ _ _ h ad H1 locs1 cells slots lsA (hr.set hP1 hD1 hS1 (fun v hv => ?_)) (by rw [List.length_set]; exact hl) (by rw [List.length_set]; exact am_tl (am_tl hs)) hn hh hc1 hc2
        rcases List.mem_or_eq_of_mem_set hv with h9 | h9
        · exact hfs v h9
        · rw [h9]; exact am_hd hs
    · exact h.elim
  · exact h.elim
theorem am_putfrF_snd (hc : (am_ctx p l R s m args meth c cc nL own D cA A (am_sb cA) d)) {C : String} {T : u_T} {N ci j idx : Nat} {ty0 : FieldType} (hcl : vwCl[ci]? = some (C, T, N)) (hin : ∀ w ∈ u_ws C T N, w ∈ am_tab) (tys : Nat → FieldType) (htys : ∀ k, k < N → parseFieldDescriptor (T k).2.2.1 = some (tys k)) (hnm : ∀ a, a < N → ∀ b, b < N → a ≠ b → (T a).2.1 ≠ (T b).2.1) (hj : j < N) (hlink : Cond.fieldLink own idx (T j).1 (T j).2.1 (T j).2.2.1 ∈ am_tab) (hfin : (T j).2.2.2 = true) (hinit : meth.name = "<init>") (hdecl : (T j).1 = own) (hpt : parseFieldDescriptor (T j).2.2.1 = some ty0) (hnar : ∀ a : Nat, narrow ty0 (.ref a) = .ref a) (hfit : ∀ a : Nat, fits ty0 (.ref a) = true) (hdg : decode cc pc = .ok (.putfield idx, 3)) (hpc : pc + 3 = n) : am_snd (am_J p l e R s m args below meth c D cA A Z (am_sb cA) nL n0 ad0) (am_putfr ci j n) pc := by
  subst hpc
  intro K hK k ls st w h ad H locs cells slots lsA hr hl hs hn hh hc1 hc2
  dsimp only [am_putfr] at h
  split at h
  · rename_i x q st'
    replace h := am_at_iff.mp h
    obtain ⟨e0, he, h⟩ := h
    split at h
    · rename_i c0 fs
      cases hb : Nat.beq c0 ci with
      | false => rw [hb] at h; exact h.elim
      | true =>
        rw [hb] at h
        replace h := am_put_iff.mp h
        obtain ⟨hjl, h⟩ := h
        replace h := am_put_iff.mp h
        obtain ⟨hql, h⟩ := h
        have hci := Nat.eq_of_beq_eq_true hb
        subst hci
        have hw := am_ws_at cA ad he
        have hfs := hr.2.2.2.1 _ (List.mem_of_getElem? he)
        have hE : am_tE cA ad (.inr (c0, fs.set j (.ref x))) = .inr (c0, (fs.map (am_tr ad (am_sb cA))).set j (.ref (ad x))) := by
          show Sum.inr (c0, (fs.set j (.ref x)).map (am_tr ad (am_sb cA))) = _
          rw [List.map_set]; rfl
        refine va_putF (D := D) (cl := vwCl) (ci := c0) (C := C) (T := T) (N := N) (v := .ref (ad x)) (ty := ty0) hc.1 hc.2.1 hc.2.2.2.2.1 hin tys htys hnm hc.2.2.2.1 hc.2.2.2.2.2.1.1 hr.1 hr.2.1 hr.2.2.1 q hw hcl j hj (hc.2.2.2.2.1 _ hlink) (fun _ h => h) hfin hinit hdecl hpt (hnar (ad x)) (hfit (ad x)) (by rw [List.length_map]; exact hjl) hdg (fun H1 locs1 hP1 hD1 hS1 => ?_)
        rw [← hE] at hP1 hD1
        refine hK _ _ _ _ _ h ad H1 locs1 cells slots lsA (hr.set hP1 hD1 hS1 (fun v hv => ?_)) (by rw [List.length_set]; exact hl) (by rw [List.length_set]; exact am_tl (am_tl hs)) hn hh hc1 hc2
        rcases List.mem_or_eq_of_mem_set hv with h9 | h9
        · exact hfs v h9
        · rw [h9]; exact am_hd hs
    · exact h.elim
  · exact h.elim
theorem am_putfsF_snd (hc : (am_ctx p l R s m args meth c cc nL own D cA A (am_sb cA) d)) {C : String} {T : u_T} {N ci j idx : Nat} {ty0 : FieldType} (hcl : vwCl[ci]? = some (C, T, N)) (hin : ∀ w ∈ u_ws C T N, w ∈ am_tab) (tys : Nat → FieldType) (htys : ∀ k, k < N → parseFieldDescriptor (T k).2.2.1 = some (tys k)) (hnm : ∀ a, a < N → ∀ b, b < N → a ≠ b → (T a).2.1 ≠ (T b).2.1) (hj : j < N) (hlink : Cond.fieldLink own idx (T j).1 (T j).2.1 (T j).2.2.1 ∈ am_tab) (hfin : (T j).2.2.2 = true) (hinit : meth.name = "<init>") (hdecl : (T j).1 = own) (hpt : parseFieldDescriptor (T j).2.2.1 = some ty0) (hnar : ∀ a : Nat, narrow ty0 (.ref a) = .ref a) (hfit : ∀ a : Nat, fits ty0 (.ref a) = true) (hdg : decode cc pc = .ok (.putfield idx, 3)) (hpc : pc + 3 = n) : am_snd (am_J p l e R s m args below meth c D cA A Z (am_sb cA) nL n0 ad0) (am_putfs ci j n) pc := by
  subst hpc
  intro K hK k ls st w h ad H locs cells slots lsA hr hl hs hn hh hc1 hc2
  dsimp only [am_putfs] at h
  split at h
  · rename_i x q st'
    replace h := am_at_iff.mp h
    obtain ⟨e0, he, h⟩ := h
    split at h
    · rename_i c0 fs
      cases hb : Nat.beq c0 ci with
      | false => rw [hb] at h; exact h.elim
      | true =>
        rw [hb] at h
        replace h := am_put_iff.mp h
        obtain ⟨hjl, h⟩ := h
        replace h := am_put_iff.mp h
        obtain ⟨hql, h⟩ := h
        have hci := Nat.eq_of_beq_eq_true hb
        subst hci
        have hw := am_ws_at cA ad he
        have hfs := hr.2.2.2.1 _ (List.mem_of_getElem? he)
        have hE : am_tE cA ad (.inr (c0, fs.set j (.float x))) = .inr (c0, (fs.map (am_tr ad (am_sb cA))).set j (am_sb cA)) := by
          show Sum.inr (c0, (fs.set j (.float x)).map (am_tr ad (am_sb cA))) = _
          rw [List.map_set]; rfl
        refine va_putF (D := D) (cl := vwCl) (ci := c0) (C := C) (T := T) (N := N) (v := am_sb cA) (ty := ty0) hc.1 hc.2.1 hc.2.2.2.2.1 hin tys htys hnm hc.2.2.2.1 hc.2.2.2.2.2.1.1 hr.1 hr.2.1 hr.2.2.1 q hw hcl j hj (hc.2.2.2.2.1 _ hlink) (fun _ h => h) hfin hinit hdecl hpt (hnar (cA 9)) (hfit (cA 9)) (by rw [List.length_map]; exact hjl) hdg (fun H1 locs1 hP1 hD1 hS1 => ?_)
        rw [← hE] at hP1 hD1
        refine hK _ _ _ _ _ h ad H1 locs1 cells slots lsA (hr.set hP1 hD1 hS1 (fun v hv => ?_)) (by rw [List.length_set]; exact hl) (by rw [List.length_set]; exact am_tl (am_tl hs)) hn hh hc1 hc2
        rcases List.mem_or_eq_of_mem_set hv with h9 | h9
        · exact hfs v h9
        · rw [h9]; exact trivial
    · exact h.elim
  · exact h.elim
theorem am_iald0_snd (hc : (am_ctx p l R s m args meth c cc nL own D cA A (am_sb cA) d)) (hdg : decode cc pc = .ok (.iaload, 1)) (hpc : pc + 1 = n) : am_snd (am_J p l e R s m args below meth c D cA A Z (am_sb cA) nL n0 ad0) (am_iald 0 n) pc := by
  subst hpc
  intro K hK k ls st w h ad H locs cells slots lsA hr hl hs hn hh hc1 hc2
  dsimp only [am_iald] at h
  split at h
  · rename_i i q st'
    replace h := am_at_iff.mp h
    obtain ⟨e0, he, h⟩ := h
    split at h
    · rename_i u N f
      cases hb : Nat.beq u 0 with
      | false => rw [hb] at h; exact h.elim
      | true =>
        rw [hb] at h
        have hu := Nat.eq_of_beq_eq_true hb
        subst hu
        exact va_iald hc.1 hc.2.1 hc.2.2.2.2.2.1.1 hr.1 q 0 (am_ws_at cA ad he) rfl h.1 hdg (hK _ _ _ _ _ h.2 ad H locs cells slots lsA hr hl (am_ci (am_tl (am_tl hs))) hn hh hc1 hc2)
    · exact h.elim
  · exact h.elim
theorem am_iald1_snd (hc : (am_ctx p l R s m args meth c cc nL own D cA A (am_sb cA) d)) (hdg : decode cc pc = .ok (.baload, 1)) (hpc : pc + 1 = n) : am_snd (am_J p l e R s m args below meth c D cA A Z (am_sb cA) nL n0 ad0) (am_iald 1 n) pc := by
  subst hpc
  intro K hK k ls st w h ad H locs cells slots lsA hr hl hs hn hh hc1 hc2
  dsimp only [am_iald] at h
  split at h
  · rename_i i q st'
    replace h := am_at_iff.mp h
    obtain ⟨e0, he, h⟩ := h
    split at h
    · rename_i u N f
      cases hb : Nat.beq u 1 with
      | false => rw [hb] at h; exact h.elim
      | true =>
        rw [hb] at h
        have hu := Nat.eq_of_beq_eq_true hb
        subst hu
        exact va_zald hc.1 hc.2.1 hc.2.2.2.2.2.1.1 hr.1 q 1 (am_ws_at cA ad he) rfl h.1 hdg (hK _ _ _ _ _ h.2 ad H locs cells slots lsA hr hl (am_ci (am_tl (am_tl hs))) hn hh hc1 hc2)
    · exact h.elim
  · exact h.elim
theorem am_iast_snd (hc : (am_ctx p l R s m args meth c cc nL own D cA A (am_sb cA) d)) (hdg : decode cc pc = .ok (.iastore, 1)) (hpc : pc + 1 = n) : am_snd (am_J p l e R s m args below meth c D cA A Z (am_sb cA) nL n0 ad0) (am_iast n) pc := by
  subst hpc
  intro K hK k ls st w h ad H locs cells slots lsA hr hl hs hn hh hc1 hc2
  dsimp only [am_iast] at h
  split at h
  · rename_i x i q st'
    replace h := am_at_iff.mp h
    obtain ⟨e0, he, h⟩ := h
    split at h
    · rename_i u N f
      cases hb : Nat.beq u 0 with
      | false => rw [hb] at h; exact h.elim
      | true =>
        rw [hb] at h
        have hu := Nat.eq_of_beq_eq_true hb
        subst hu
        obtain ⟨h1, h⟩ := h
        replace h := am_put_iff.mp h
        obtain ⟨hql, h⟩ := h
        refine va_iast hc.1 hc.2.1 hc.2.2.2.2.2.1.1 hr.1 hr.2.1 hr.2.2.1 q 0 (am_ws_at cA ad he) rfl h1 hdg (fun H1 locs1 hP1 hD1 hS1 => ?_)
        exact hK _ _ _ _ _ h ad H1 locs1 cells slots lsA (hr.set (e1 := .inl (0, N, .inl (upd f i.toNatClampNeg x))) hP1 hD1 hS1 trivial) (by rw [List.length_set]; exact hl) (by rw [List.length_set]; exact am_tl (am_tl (am_tl hs))) hn hh hc1 hc2
    · exact h.elim
  · exact h.elim
theorem am_zast_snd (hc : (am_ctx p l R s m args meth c cc nL own D cA A (am_sb cA) d)) (hdg : decode cc pc = .ok (.bastore, 1)) (hpc : pc + 1 = n) : am_snd (am_J p l e R s m args below meth c D cA A Z (am_sb cA) nL n0 ad0) (am_zast n) pc := by
  subst hpc
  intro K hK k ls st w h ad H locs cells slots lsA hr hl hs hn hh hc1 hc2
  dsimp only [am_zast] at h
  split at h
  · rename_i x i q st'
    replace h := am_at_iff.mp h
    obtain ⟨e0, he, h⟩ := h
    split at h
    · rename_i u N f
      cases hb : Nat.beq u 1 with
      | false => rw [hb] at h; exact h.elim
      | true =>
        rw [hb] at h
        have hu := Nat.eq_of_beq_eq_true hb
        subst hu
        obtain ⟨h1, h⟩ := h
        replace h := am_put_iff.mp h
        obtain ⟨hql, h⟩ := h
        refine va_zast hc.1 hc.2.1 hc.2.2.2.2.2.1.1 hr.1 hr.2.1 hr.2.2.1 q 1 (am_ws_at cA ad he) rfl h1 hdg (fun H1 locs1 hP1 hD1 hS1 => ?_)
        exact hK _ _ _ _ _ h ad H1 locs1 cells slots lsA (hr.set (e1 := .inl (1, N, .inl (upd f i.toNatClampNeg (vp_nar .boolean x)))) hP1 hD1 hS1 trivial) (by rw [List.length_set]; exact hl) (by rw [List.length_set]; exact am_tl (am_tl (am_tl hs))) hn hh hc1 hc2
    · exact h.elim
  · exact h.elim
theorem am_lald_snd (hc : (am_ctx p l R s m args meth c cc nL own D cA A (am_sb cA) d)) (hdg : decode cc pc = .ok (.laload, 1)) (hpc : pc + 1 = n) : am_snd (am_J p l e R s m args below meth c D cA A Z (am_sb cA) nL n0 ad0) (am_lald n) pc := by
  subst hpc
  intro K hK k ls st w h ad H locs cells slots lsA hr hl hs hn hh hc1 hc2
  dsimp only [am_lald] at h
  split at h
  · rename_i i q st'
    replace h := am_at_iff.mp h
    obtain ⟨e0, he, h⟩ := h
    split at h
    · rename_i u N f
      cases hb : Nat.beq u 2 with
      | false => rw [hb] at h; exact h.elim
      | true =>
        rw [hb] at h
        have hu := Nat.eq_of_beq_eq_true hb
        subst hu
        exact va_lald hc.1 hc.2.1 hc.2.2.2.2.2.1.1 hr.1 q 2 (am_ws_at cA ad he) rfl h.1 hdg (hK _ _ _ _ _ h.2 ad H locs cells slots lsA hr hl (am_cl (am_tl (am_tl hs))) hn hh hc1 hc2)
    · exact h.elim
  · exact h.elim
theorem am_last_snd (hc : (am_ctx p l R s m args meth c cc nL own D cA A (am_sb cA) d)) (hdg : decode cc pc = .ok (.lastore, 1)) (hpc : pc + 1 = n) : am_snd (am_J p l e R s m args below meth c D cA A Z (am_sb cA) nL n0 ad0) (am_last n) pc := by
  subst hpc
  intro K hK k ls st w h ad H locs cells slots lsA hr hl hs hn hh hc1 hc2
  dsimp only [am_last] at h
  split at h
  · rename_i x i q st'
    replace h := am_at_iff.mp h
    obtain ⟨e0, he, h⟩ := h
    split at h
    · rename_i u N f
      cases hb : Nat.beq u 2 with
      | false => rw [hb] at h; exact h.elim
      | true =>
        rw [hb] at h
        have hu := Nat.eq_of_beq_eq_true hb
        subst hu
        obtain ⟨h1, h⟩ := h
        replace h := am_put_iff.mp h
        obtain ⟨hql, h⟩ := h
        refine va_last hc.1 hc.2.1 hc.2.2.2.2.2.1.1 hr.1 hr.2.1 hr.2.2.1 q 2 (am_ws_at cA ad he) rfl h1 hdg (fun H1 locs1 hP1 hD1 hS1 => ?_)
        exact hK _ _ _ _ _ h ad H1 locs1 cells slots lsA (hr.set (e1 := .inl (2, N, .inr (.inl (vp_updL f i.toNatClampNeg x)))) hP1 hD1 hS1 trivial) (by rw [List.length_set]; exact hl) (by rw [List.length_set]; exact am_tl (am_tl (am_tl hs))) hn hh hc1 hc2
    · exact h.elim
  · exact h.elim
theorem va_aldA {cl : List vw_C} {tys : List (ClassId × FieldType)} {ws : va_W} {a q0 t0 N : Nat} {cI : ClassId} {ty : FieldType} {f : Nat → Option Nat} {H : Heap} {locs : List Loc} {cells slots : Nat} {ls : Array Slot} {rest : List Value} (hexec : p.tables.exec = Jvm.exec) (hb : c.code = cc) (hK : va_K D cl tys s) (hP : va_P D cl ws H) (ha : ws[q0]? = some (a, .inl (cI, N, .inr (.inr (.inr (.inr f)))))) (ht : tys[t0]? = some (cI, .array ty)) {i : Int32} (hin : vp_in i N) (hdg : decode cc pc = .ok (.aaload, 1))
    (kk : W p l e R s m args below meth c H locs cells slots Z (F0 m (pc + 1) ls (va_rf (f i.toNatClampNeg) :: rest))) : W p l e R s m args below meth c H locs cells slots Z (F0 m pc ls (.int i :: .ref a :: rest)) := by
  have hlt : i.toNatClampNeg < N := Nat.not_le.mp fun q => hin (Or.inr q)
  exact W.aald (v := va_rf (f i.toNatClampNeg)) (ty := .array ty) hexec hb (hP q0 _ ha) ((hK.2 t0 _ ht).1 N (fun j => va_rf (f j))) rfl (fun q => by cases q) (by show ¬ (i < 0 ∨ (arrV _ _ _).slots.size ≤ _); rw [arrV_size]; exact hin) (by show (arrV _ _ _).slots[_]? = _; rw [arrV_read _ _ hlt]) rfl rfl hdg kk
theorem am_aald_snd (hc : (am_ctx p l R s m args meth c cc nL own D cA A (am_sb cA) d)) {t : Nat} {ty : FieldType} (htt : ∀ cA, (am_tys cA)[t]? = some (cA t, .array ty)) (hdg : decode cc pc = .ok (.aaload, 1)) (hpc : pc + 1 = n) : am_snd (am_J p l e R s m args below meth c D cA A Z (am_sb cA) nL n0 ad0) (am_aald t n) pc := by
  subst hpc
  intro K hK k ls st w h ad H locs cells slots lsA hr hl hs hn hh hc1 hc2
  dsimp only [am_aald] at h
  split at h
  · rename_i i q st'
    replace h := am_at_iff.mp h
    obtain ⟨e0, he, h⟩ := h
    split at h
    · rename_i u N f
      cases hb : Nat.beq u t with
      | false => rw [hb] at h; exact h.elim
      | true =>
        rw [hb] at h
        have hu := Nat.eq_of_beq_eq_true hb
        subst hu
        obtain ⟨h1, r, hf, h⟩ := h
        have hrl : r < w.length := hr.2.2.2.1 _ (List.mem_of_getElem? he) _ r hf
        refine va_aldA (q0 := q) (t0 := u) (f := fun j => (f j).map ad) hc.1 hc.2.1 hc.2.2.2.2.2.1.1 hr.1 (am_ws_at cA ad he) (htt cA) h1 hdg ?_
        have k1 := hK _ _ _ _ _ h ad H locs cells slots lsA hr hl (am_cr hrl (am_tl (am_tl hs))) hn hh hc1 hc2
        have e9 : va_rf ((f i.toNatClampNeg).map ad) = am_tr ad (am_sb cA) (.ref r) := by rw [hf]; rfl
        show W _ _ _ _ _ _ _ _ _ _ _ _ _ _ _ (F0 _ _ _ (va_rf ((f i.toNatClampNeg).map ad) :: _))
        rw [e9]
        exact k1
    · exact h.elim
  · exact h.elim
theorem am_alen_snd (hc : (am_ctx p l R s m args meth c cc nL own D cA A (am_sb cA) d)) (hdg : decode cc pc = .ok (.arraylength, 1)) (hpc : pc + 1 = n) : am_snd (am_J p l e R s m args below meth c D cA A Z (am_sb cA) nL n0 ad0) (am_alen n) pc := by
  subst hpc
  intro K hK k ls st w h ad H locs cells slots lsA hr hl hs hn hh hc1 hc2
  dsimp only [am_alen] at h
  split at h
  · rename_i q st'
    replace h := am_at_iff.mp h
    obtain ⟨e0, he, h⟩ := h
    split at h
    · rename_i u N z
      cases hb : Nat.ble u 3 with
      | false => rw [hb] at h; exact h.elim
      | true =>
        rw [hb] at h
        have hu := Nat.le_of_ble_eq_true hb
        have k1 := hK _ _ _ _ _ h ad H locs cells slots lsA hr hl (am_ci (am_tl hs)) hn hh hc1 hc2
        have hu4 : u = 0 ∨ u = 1 ∨ u = 2 ∨ u = 3 := by omega
        rcases z with f | f | f
        · rcases hu4 with rfl | rfl | rfl | rfl
          · exact va_alen hc.1 hc.2.1 hc.2.2.2.2.2.1.1 hr.1 q 0 (am_ws_at cA ad he) rfl rfl hdg k1
          · exact va_alen hc.1 hc.2.1 hc.2.2.2.2.2.1.1 hr.1 q 1 (am_ws_at cA ad he) rfl rfl hdg k1
          · exact va_alen hc.1 hc.2.1 hc.2.2.2.2.2.1.1 hr.1 q 2 (am_ws_at cA ad he) rfl rfl hdg k1
          · exact va_alen hc.1 hc.2.1 hc.2.2.2.2.2.1.1 hr.1 q 3 (am_ws_at cA ad he) rfl rfl hdg k1
        · rcases hu4 with rfl | rfl | rfl | rfl
          · exact va_alen hc.1 hc.2.1 hc.2.2.2.2.2.1.1 hr.1 q 0 (am_ws_at cA ad he) rfl rfl hdg k1
          · exact va_alen hc.1 hc.2.1 hc.2.2.2.2.2.1.1 hr.1 q 1 (am_ws_at cA ad he) rfl rfl hdg k1
          · exact va_alen hc.1 hc.2.1 hc.2.2.2.2.2.1.1 hr.1 q 2 (am_ws_at cA ad he) rfl rfl hdg k1
          · exact va_alen hc.1 hc.2.1 hc.2.2.2.2.2.1.1 hr.1 q 3 (am_ws_at cA ad he) rfl rfl hdg k1
        · rcases hu4 with rfl | rfl | rfl | rfl
          · exact va_alen hc.1 hc.2.1 hc.2.2.2.2.2.1.1 hr.1 q 0 (am_ws_at cA ad he) rfl rfl hdg k1
          · exact va_alen hc.1 hc.2.1 hc.2.2.2.2.2.1.1 hr.1 q 1 (am_ws_at cA ad he) rfl rfl hdg k1
          · exact va_alen hc.1 hc.2.1 hc.2.2.2.2.2.1.1 hr.1 q 2 (am_ws_at cA ad he) rfl rfl hdg k1
          · exact va_alen hc.1 hc.2.1 hc.2.2.2.2.2.1.1 hr.1 q 3 (am_ws_at cA ad he) rfl rfl hdg k1
    · exact h.elim
  · exact h.elim
theorem am_sld_snd (hc : (am_ctx p l R s m args meth c cc nL own D cA A (am_sb cA) d)) {L : Nat} {xs : Nat → Int32} (hX : va_X (cA 9) L xs s s.heap) (hbl : cA 9 < s.heap.size) (hbA : ¬ A (cA 9)) (hdg : decode cc pc = .ok (.iaload, 1)) (hpc : pc + 1 = n) : am_snd (am_J p l e R s m args below meth c D cA A Z (am_sb cA) nL n0 ad0) (am_sld L xs n) pc := by
  subst hpc
  intro K hK k ls st w h ad H locs cells slots lsA hr hl hs hn hh hc1 hc2
  dsimp only [am_sld] at h
  split at h
  · rename_i i st'
    exact va_sld hc.1 hc.2.1 hX hbl hbA hr.2.2.1 h.1 hdg (hK _ _ _ _ _ h.2 ad H locs cells slots lsA hr hl (am_ci (am_tl (am_tl hs))) hn hh hc1 hc2)
  · exact h.elim
theorem am_slen_snd (hc : (am_ctx p l R s m args meth c cc nL own D cA A (am_sb cA) d)) {L : Nat} {xs : Nat → Int32} (hX : va_X (cA 9) L xs s s.heap) (hbl : cA 9 < s.heap.size) (hbA : ¬ A (cA 9)) (hdg : decode cc pc = .ok (.arraylength, 1)) (hpc : pc + 1 = n) : am_snd (am_J p l e R s m args below meth c D cA A Z (am_sb cA) nL n0 ad0) (am_slen L n) pc := by
  subst hpc
  intro K hK k ls st w h ad H locs cells slots lsA hr hl hs hn hh hc1 hc2
  dsimp only [am_slen] at h
  split at h
  · exact va_slen hc.1 hc.2.1 hX hbl hbA hr.2.2.1 hdg (hK _ _ _ _ _ h ad H locs cells slots lsA hr hl (am_ci (am_tl hs)) hn hh hc1 hc2)
  · exact h.elim
theorem am_pay_iff {k : Nat} {K : Nat → Prop} (h : am_pay k K) : ∃ k', k = k' + 1 ∧ K k' := by
  cases k with
  | zero => exact h.elim
  | succ k => exact ⟨k, rfl, h⟩
theorem am_newi_snd (hc : (am_ctx p l R s m args meth c cc nL own D cA A (am_sb cA) d)) (harr : Cond.arrayClass .int ∈ am_tab) (hdg : decode cc pc = .ok (.newarray .int, 2)) (hpc : pc + 2 = n) : am_snd (am_J p l e R s m args below meth c D cA A Z (am_sb cA) nL n0 ad0) (am_newi n) pc := by
  subst hpc
  intro K hK k ls st w h ad H locs cells slots lsA hr hl hs hn hh hc1 hc2
  dsimp only [am_newi] at h
  split at h
  · rename_i x st'
    obtain ⟨N, rfl, hN, h⟩ := h
    replace h := am_pay_iff h
    obtain ⟨k', rfl, h⟩ := h
    replace h := am_app_iff.mp h
    have hN31 : N < 2 ^ 31 := by omega
    refine va_newa (atype := .int) (a0 := (N, .inl (fun _ => 0))) (N' := N) hc.1 hc.2.1 (hc.2.2.2.2.1 _ harr) rfl hc.2.2.2.2.2.1.1 hr.1 hr.2.1 hr.2.2.1 hc.2.2.2.2.2.2.1 (fun _ => rfl) (nI_pos hN31) (nI_clamp hN31) (by show N * 4 ≤ 536870912; omega) (by omega) (by omega) hdg (fun q cI H1 hK1 hP1 hD1 hS1 => ?_)
    have hcI : cI = cA 0 := by
      have g1 := (hK1.2 5 (cI, .int) rfl).2
      have g2 := (hc.2.2.2.2.2.1.1.2 0 (cA 0, .int) rfl).2
      exact Option.some.inj (g1.symm.trans g2)
    subst hcI
    have hext : ∀ j, j < w.length → am_ad ad w.length q j = ad j := fun j hj => am_ad_lt hj
    have k1 := hK _ _ _ _ _ h (am_ad ad w.length q) H1 locs (cells + 1) (slots + N) lsA (hr.push (e1 := .inl (0, N, .inl (fun _ => 0))) rfl hP1 hD1 hS1 trivial) (fun v hv => am_wv_le (by simp) (hl v hv)) (am_cr (by simp) (fun v hv => am_wv_le (by simp) (am_tl hs v hv))) hn (by rw [am_ents_ext hext hl]; exact hh) (by omega) (by omega)
    rw [List.map_cons, am_map_ext hext (am_tl hs)] at k1
    have e9 : am_tr (am_ad ad w.length q) (am_sb cA) (.ref w.length) = .ref q := congrArg Value.ref am_ad_n
    rw [e9] at k1
    exact k1
  · exact h.elim
theorem am_newz_snd (hc : (am_ctx p l R s m args meth c cc nL own D cA A (am_sb cA) d)) (harr : Cond.arrayClass .boolean ∈ am_tab) (hdg : decode cc pc = .ok (.newarray .boolean, 2)) (hpc : pc + 2 = n) : am_snd (am_J p l e R s m args below meth c D cA A Z (am_sb cA) nL n0 ad0) (am_newz n) pc := by
  subst hpc
  intro K hK k ls st w h ad H locs cells slots lsA hr hl hs hn hh hc1 hc2
  dsimp only [am_newz] at h
  split at h
  · rename_i x st'
    obtain ⟨N, rfl, hN, h⟩ := h
    replace h := am_pay_iff h
    obtain ⟨k', rfl, h⟩ := h
    replace h := am_app_iff.mp h
    have hN31 : N < 2 ^ 31 := by omega
    refine va_newa (atype := .boolean) (a0 := (N, .inl (fun _ => 0))) (N' := N) hc.1 hc.2.1 (hc.2.2.2.2.1 _ harr) rfl hc.2.2.2.2.2.1.1 hr.1 hr.2.1 hr.2.2.1 hc.2.2.2.2.2.2.1 (fun _ => rfl) (nI_pos hN31) (nI_clamp hN31) (by show N * 1 ≤ 536870912; omega) (by omega) (by omega) hdg (fun q cI H1 hK1 hP1 hD1 hS1 => ?_)
    have hcI : cI = cA 1 := by
      have g1 := (hK1.2 5 (cI, .boolean) rfl).2
      have g2 := (hc.2.2.2.2.2.1.1.2 1 (cA 1, .boolean) rfl).2
      exact Option.some.inj (g1.symm.trans g2)
    subst hcI
    have hext : ∀ j, j < w.length → am_ad ad w.length q j = ad j := fun j hj => am_ad_lt hj
    have k1 := hK _ _ _ _ _ h (am_ad ad w.length q) H1 locs (cells + 1) (slots + N) lsA (hr.push (e1 := .inl (1, N, .inl (fun _ => 0))) rfl hP1 hD1 hS1 trivial) (fun v hv => am_wv_le (by simp) (hl v hv)) (am_cr (by simp) (fun v hv => am_wv_le (by simp) (am_tl hs v hv))) hn (by rw [am_ents_ext hext hl]; exact hh) (by omega) (by omega)
    rw [List.map_cons, am_map_ext hext (am_tl hs)] at k1
    have e9 : am_tr (am_ad ad w.length q) (am_sb cA) (.ref w.length) = .ref q := congrArg Value.ref am_ad_n
    rw [e9] at k1
    exact k1
  · exact h.elim
theorem am_newl_snd (hc : (am_ctx p l R s m args meth c cc nL own D cA A (am_sb cA) d)) (harr : Cond.arrayClass .long ∈ am_tab) (hdg : decode cc pc = .ok (.newarray .long, 2)) (hpc : pc + 2 = n) : am_snd (am_J p l e R s m args below meth c D cA A Z (am_sb cA) nL n0 ad0) (am_newl n) pc := by
  subst hpc
  intro K hK k ls st w h ad H locs cells slots lsA hr hl hs hn hh hc1 hc2
  dsimp only [am_newl] at h
  split at h
  · rename_i x st'
    obtain ⟨N, rfl, hN, h⟩ := h
    replace h := am_pay_iff h
    obtain ⟨k', rfl, h⟩ := h
    replace h := am_app_iff.mp h
    have hN31 : N < 2 ^ 31 := by omega
    refine va_newa (atype := .long) (a0 := (N, .inr (.inl (fun _ => 0)))) (N' := N) hc.1 hc.2.1 (hc.2.2.2.2.1 _ harr) rfl hc.2.2.2.2.2.1.1 hr.1 hr.2.1 hr.2.2.1 hc.2.2.2.2.2.2.1 (fun _ => rfl) (nI_pos hN31) (nI_clamp hN31) (by show N * 8 ≤ 536870912; omega) (by omega) (by omega) hdg (fun q cI H1 hK1 hP1 hD1 hS1 => ?_)
    have hcI : cI = cA 2 := by
      have g1 := (hK1.2 5 (cI, .long) rfl).2
      have g2 := (hc.2.2.2.2.2.1.1.2 2 (cA 2, .long) rfl).2
      exact Option.some.inj (g1.symm.trans g2)
    subst hcI
    have hext : ∀ j, j < w.length → am_ad ad w.length q j = ad j := fun j hj => am_ad_lt hj
    have k1 := hK _ _ _ _ _ h (am_ad ad w.length q) H1 locs (cells + 1) (slots + N) lsA (hr.push (e1 := .inl (2, N, .inr (.inl (fun _ => 0)))) rfl hP1 hD1 hS1 trivial) (fun v hv => am_wv_le (by simp) (hl v hv)) (am_cr (by simp) (fun v hv => am_wv_le (by simp) (am_tl hs v hv))) hn (by rw [am_ents_ext hext hl]; exact hh) (by omega) (by omega)
    rw [List.map_cons, am_map_ext hext (am_tl hs)] at k1
    have e9 : am_tr (am_ad ad w.length q) (am_sb cA) (.ref w.length) = .ref q := congrArg Value.ref am_ad_n
    rw [e9] at k1
    exact k1
  · exact h.elim
/-- what the tables say of int[][]: its rows' class -/
theorem am_rowsK (hK : va_K D vwCl (am_tys cA) s) (ha : va_AOA .int s) : ∃ k, s.vm.classes[cA 3]? = some k ∧ k.kind = .array (cA 0) (.array .int) := by
  obtain ⟨comp, c, k, h1, h2, h3, h4, h5⟩ := am_over ha
  have g3 : s.vm.findClass ("[" ++ (FieldType.array .int).toString) = some (cA 3) := (hK.2 3 (cA 3, .array .int) rfl).2
  have g0 : s.vm.findClass (FieldType.array .int).toString = some (cA 0) := (hK.2 0 (cA 0, .int) rfl).2
  cases Option.some.inj (h5.symm.trans g3)
  cases Option.some.inj (h1.symm.trans g0)
  exact ⟨k, h3, h4⟩
theorem am_asg (vm : Vm) (c : ClassId) : vm.assignable c c = true := by
  have h : ∀ n, vm.assignableAux (n + 1) c c = true := fun n => by rw [Vm.assignableAux, beq_self_eq_true, Bool.true_or]
  exact h 255
theorem am_newr_snd (hc : (am_ctx p l R s m args meth c cc nL own D cA A (am_sb cA) d)) {idx : Nat} (hlink : Cond.classLink own idx "[I" ∈ am_tab) (hdg : decode cc pc = .ok (.anewarray idx, 3)) (hpc : pc + 3 = n) : am_snd (am_J p l e R s m args below meth c D cA A Z (am_sb cA) nL n0 ad0) (am_newr n) pc := by
  subst hpc
  intro K hK k ls st w h ad H locs cells slots lsA hr hl hs hn hh hc1 hc2
  dsimp only [am_newr] at h
  split at h
  · rename_i x st'
    obtain ⟨N, rfl, hN, h⟩ := h
    replace h := am_pay_iff h
    obtain ⟨k', rfl, h⟩ := h
    replace h := am_app_iff.mp h
    have hN31 : N < 2 ^ 31 := by omega
    have hG := hc.2.2.2.2.2.1
    have hcl : (nI N).toNatClampNeg = N := nI_clamp hN31
    refine W.anewA (t := .int) hc.1 hc.2.1 hc.2.2.2.1 (hc.2.2.2.2.1 _ hlink) (hG.2.2.2.2.2.2.1.1.use) rfl hdg rfl (nI_pos hN31) (by rw [hcl]; omega) (by omega) (by rw [hcl]; omega) (fun cI kI comp f1 f2 f3 f4 => ?_)
    rw [hcl]
    have hcI : cI = cA 3 := by
      have g2 := (hG.1.2 3 (cA 3, .array .int) rfl).2
      exact Option.some.inj (f1.symm.trans g2)
    subst hcI
    generalize hH1 : H.push ({ cls := cA 3, slots := Array.replicate N .null, vm := .none } : Cell) = H1
    have z1 : H1.size = H.size + 1 := by rw [← hH1, Array.size_push]
    have e1 : H1[H.size]? = some (arrV (cA 3) N (fun _ => .null)) := by rw [← hH1, Array.getElem?_push_size, ← arrV_new]
    have o1 : ∀ q : Nat, q < H.size → H1[q]? = H[q]? := fun q hq => by rw [← hH1, Array.getElem?_push, if_neg (Nat.ne_of_lt hq)]
    have hk : ∀ (k : Nat) (x : Nat × va_E), (am_ws cA ad w)[k]? = some x → H1[x.1]? = H[x.1]? := fun k x hx => o1 x.1 ((hr.1 k x hx).lt)
    have hP1 : va_P D vwCl (am_ws cA ad w ++ [(H.size, .inl (cA 3, N, .inr (.inr (.inr (.inr (fun _ => none))))))]) H1 := (hr.1.kept hk).app (fun k x hx => by
      have hz : k < 1 := (List.getElem?_eq_some_iff.mp hx).1
      rw [show k = 0 by omega] at hx
      cases hx
      show H1[H.size]? = some (vp_cell _ _)
      rw [vp_cell_q]
      exact e1)
    have hS := hr.2.2.1
    have hD1 : va_D A (am_ws cA ad w ++ [(H.size, .inl (cA 3, N, .inr (.inr (.inr (.inr (fun _ => none))))))]) := hr.2.1.push hr.1 rfl (hc.2.2.2.2.2.2.1 _ hS.1)
    have hS1 : va_S A s.heap H1 locs := ⟨Nat.le_trans hS.1 (by omega), fun x h1 h2 => (o1 x (Nat.lt_of_lt_of_le h1 hS.1)).trans (hS.2.1 x h1 h2), hS.2.2⟩
    have hext : ∀ j, j < w.length → am_ad ad w.length H.size j = ad j := fun j hj => am_ad_lt hj
    have k1 := hK _ _ _ _ _ h (am_ad ad w.length H.size) H1 locs (cells + 1) (slots + N) lsA (hr.push (e1 := .inl (3, N, .inr (.inr (fun _ => none)))) rfl hP1 hD1 hS1 (fun j r hjr => by cases hjr)) (fun v hv => am_wv_le (by simp) (hl v hv)) (am_cr (by simp) (fun v hv => am_wv_le (by simp) (am_tl hs v hv))) hn (by rw [am_ents_ext hext hl]; exact hh) (by omega) (by omega)
    rw [List.map_cons, am_map_ext hext (am_tl hs)] at k1
    have e9 : am_tr (am_ad ad w.length H.size) (am_sb cA) (.ref w.length) = .ref H.size := congrArg Value.ref am_ad_n
    rw [e9] at k1
    exact k1
  · exact h.elim
theorem am_aast_snd (hc : (am_ctx p l R s m args meth c cc nL own D cA A (am_sb cA) d)) (hdg : decode cc pc = .ok (.aastore, 1)) (hpc : pc + 1 = n) : am_snd (am_J p l e R s m args below meth c D cA A Z (am_sb cA) nL n0 ad0) (am_aast n) pc := by
  subst hpc
  intro K hK k ls st w h ad H locs cells slots lsA hr hl hs hn hh hc1 hc2
  dsimp only [am_aast] at h
  split at h
  · rename_i x i q st'
    replace h := am_at_iff.mp h
    obtain ⟨e0, he, h⟩ := h
    split at h
    · rename_i u N f
      replace h := am_at_iff.mp h
      obtain ⟨e2, he2, h⟩ := h
      split at h
      · rename_i u2 N2 g
        cases hb : (Nat.beq u 3 && Nat.beq u2 0) with
        | false => rw [hb] at h; exact h.elim
        | true =>
          rw [hb] at h
          simp only [Bool.and_eq_true] at hb
          have hu := Nat.eq_of_beq_eq_true hb.1
          have hu2 := Nat.eq_of_beq_eq_true hb.2
          subst hu
          subst hu2
          obtain ⟨hin, h⟩ := h
          replace h := am_put_iff.mp h
          obtain ⟨hql, h⟩ := h
          have hlt : i.toNatClampNeg < N := Nat.not_le.mp fun q => hin (Or.inr q)
          have h0 : ¬ i < 0 := fun q => hin (Or.inl q)
          have hG := hc.2.2.2.2.2.1
          obtain ⟨k3, hk3, hkind⟩ := am_rowsK hG.1 hG.2.2.2.2.2.2.1.1
          have g0 : s.vm.findClass (FieldType.array .int).toString = some (cA 0) := (hG.1.2 0 (cA 0, .int) rfl).2
          obtain ⟨k0, hk0, -⟩ := Vm.findClass_spec g0
          have hcell : H[ad q]? = some (vp_cell (cA 3) (N, .inr (.inr (.inr (.inr (fun j => (f j).map ad)))))) := hr.1 q _ (am_ws_at cA ad he)
          have hcv : H[ad x]? = some (vp_cell (cA 0) (N2, .inl g)) := hr.1 x _ (am_ws_at cA ad he2)
          refine W.aast hc.1 hc.2.1 hcell (fun q h => by cases h) (fun h => by cases h) hk3 hkind rfl hk0 ⟨h0, by show _ < (arrV _ _ _).slots.size; rw [arrV_size]; exact hlt⟩ hcv (fun q h => by cases h) hk0 (am_asg _ _) rfl rfl hdg fun H1 e1 z1 oq => ?_
          have hE : va_at D vwCl (ad q, am_tE cA ad (.inl (3, N, .inr (.inr (va_up f i.toNatClampNeg (some x)))))) H1 := by
            show H1[ad q]? = some (vp_cell _ _)
            rw [e1]
            rw [vp_cell_q, vp_cell_q, arrV_store]
            congr 2
            funext j
            by_cases hj : j = i.toNatClampNeg
            · subst hj
              simp [updV, va_up, va_rf]
            · simp [updV, va_up, hj]
          have hP1 := hr.1.set hr.2.1 (am_ws_at cA ad he) hE oq
          have hD1 := hr.2.1.set (e := am_tE cA ad (.inl (3, N, .inr (.inr (va_up f i.toNatClampNeg (some x)))))) (am_ws_at cA ad he)
          have hS1 := hr.2.2.1.put (k := i.toNatClampNeg) z1 oq (hr.2.1.2 q _ (am_ws_at cA ad he))
          have hxl : x < w.length := am_top hs
          refine hK _ _ _ _ _ h ad H1 _ cells slots lsA (hr.set hP1 hD1 hS1 (fun j r hjr => ?_)) (by rw [List.length_set]; exact hl) (by rw [List.length_set]; exact am_tl (am_tl (am_tl hs))) hn hh hc1 hc2
          unfold va_up at hjr
          split at hjr
          · cases hjr; exact hxl
          · exact hr.2.2.2.1 _ (List.mem_of_getElem? he) _ r hjr
      · exact h.elim
    · exact h.elim
  · exact h.elim
theorem am_new_snd (hc : (am_ctx p l R s m args meth c cc nL own D cA A (am_sb cA) d)) {C : String} {T : u_T} {N ci idx : Nat} {fs : List Value} (hcl : vwCl[ci]? = some (C, T, N)) (hin : ∀ w ∈ u_ws C T N, w ∈ am_tab) (tys : Nat → FieldType) (htys : ∀ k, k < N → parseFieldDescriptor (T k).2.2.1 = some (tys k)) (hlink : Cond.classLink own idx C ∈ am_tab) (hinst : Cond.instantiable C N ∈ am_tab) (hini : Cond.initialized C ∈ am_tab) (hfs : ∀ j, j < N → defaultValue (tys j) = vp_V fs j) (hN : N ≤ 1100) (hfs1 : ∀ ad, fs.map (am_tr ad (am_sb cA)) = fs) (hfs2 : ∀ n, ∀ v ∈ fs, am_wv n v) (hdg : decode cc pc = .ok (.new idx, 3)) (hpc : pc + 3 = n) : am_snd (am_J p l e R s m args below meth c D cA A Z (am_sb cA) nL n0 ad0) (am_new ci fs n) pc := by
  subst hpc
  intro K hK k ls st w h ad H locs cells slots lsA hr hl hs hn hh hc1 hc2
  replace h := am_pay_iff h
  obtain ⟨k', rfl, h⟩ := h
  replace h := am_app_iff.mp h
  refine va_new (D := D) (cl := vwCl) (ci := ci) (fs := fs) (C := C) (T := T) (N := N) hc.1 hc.2.1 hc.2.2.2.2.1 hin tys htys hc.2.2.2.1 (hc.2.2.2.2.1 _ hlink) (hc.2.2.2.2.1 _ hinst) (hc.2.2.2.2.1 _ hini) hc.2.2.2.2.2.1.1 hr.1 hr.2.1 hr.2.2.1 hc.2.2.2.2.2.2.1 hcl hfs (by omega) (by omega) hdg (fun q H1 hP1 hD1 hS1 => ?_)
  have hext : ∀ j, j < w.length → am_ad ad w.length q j = ad j := fun j hj => am_ad_lt hj
  have k1 := hK _ _ _ _ _ h (am_ad ad w.length q) H1 locs (cells + 1) (slots + N) lsA (hr.push (e1 := .inr (ci, fs)) (by show Sum.inr (ci, fs.map _) = _; rw [hfs1]) hP1 hD1 hS1 (hfs2 _)) (fun v hv => am_wv_le (by simp) (hl v hv)) (am_cr (by simp) (fun v hv => am_wv_le (by simp) (hs v hv))) hn (by rw [am_ents_ext hext hl]; exact hh) (by omega) (by omega)
  rw [List.map_cons, am_map_ext hext hs] at k1
  have e9 : am_tr (am_ad ad w.length q) (am_sb cA) (.ref w.length) = .ref q := congrArg Value.ref am_ad_n
  rw [e9] at k1
  exact k1
theorem arrV_same {cI : ClassId} {N : Nat} {f g : Nat → Value} (h : ∀ j, j < N → f j = g j) : arrV cI N f = arrV cI N g := by
  have : (fun j : Fin N => f j.val) = (fun j : Fin N => g j.val) := funext fun j => h j.val j.isLt
  unfold arrV
  rw [this]
theorem am_cell_same {cA : ClassId} {n : Nat} {f g : Nat → Int32} (h : ∀ j, j < n → f j = g j) : vp_cell cA (n, .inl f) = vp_cell cA (n, .inl g) := by
  rw [vp_cell_i, vp_cell_i]
  exact arrV_same (fun j hj => by rw [h j hj])
theorem am_P_same {D : va_G} {cl : List vw_C} {ws : va_W} {i a : Nat} {e e' : va_E} {H : Heap} (he : ∀ H, va_at D cl (a, e) H → va_at D cl (a, e') H) (h : va_P D cl (ws.set i (a, e)) H) : va_P D cl (ws.set i (a, e')) H := by
  intro k q hk
  by_cases hi : i = k
  · subst hi
    by_cases hl : i < ws.length
    · rw [List.getElem?_set_self hl] at hk
      cases hk
      exact he _ (h i _ (List.getElem?_set_self hl))
    · rw [List.getElem?_eq_none (by rw [List.length_set]; omega)] at hk
      cases hk
  · rw [List.getElem?_set_ne hi] at hk
    exact h k q (by rw [List.getElem?_set_ne hi]; exact hk)
theorem am_D_at {ws : va_W} {i a : Nat} {e e' : va_E} {k : Nat} {q : Nat × va_E} (hk : (ws.set i (a, e'))[k]? = some q) : ∃ q' : Nat × va_E, (ws.set i (a, e))[k]? = some q' ∧ q'.1 = q.1 := by
  by_cases hi : i = k
  · subst hi
    by_cases hl : i < ws.length
    · rw [List.getElem?_set_self hl] at hk
      cases hk
      exact ⟨_, List.getElem?_set_self hl, rfl⟩
    · rw [List.getElem?_eq_none (by rw [List.length_set]; omega)] at hk
      cases hk
  · rw [List.getElem?_set_ne hi] at hk
    exact ⟨q, by rw [List.getElem?_set_ne hi]; exact hk, rfl⟩
theorem am_D_same {A : Nat → Prop} {ws : va_W} {i a : Nat} {e e' : va_E} (h : va_D A (ws.set i (a, e))) : va_D A (ws.set i (a, e')) := by
  refine ⟨fun j k p q hj hk hpq => ?_, fun k q hk => ?_⟩
  · obtain ⟨p', hp, ep⟩ := am_D_at (e := e) hj
    obtain ⟨q', hq, eq⟩ := am_D_at (e := e) hk
    exact h.1 j k p' q' hp hq (by rw [ep, eq, hpq])
  · obtain ⟨q', hq, eq⟩ := am_D_at (e := e) hk
    rw [← eq]
    exact h.2 k q' hq
theorem am_copy_snd (hc : (am_ctx p l R s m args meth c cc nL own D cA A (am_sb cA) d)) {idx : Nat} (hlink : Cond.methodLink own idx arraycopyName ∈ am_tab) (hnat : Cond.native arraycopyName ∈ am_tab) (hstat : Cond.static arraycopyName ∈ am_tab) (hini : Cond.initialized "java/lang/System" ∈ am_tab) (hdg : decode cc pc = .ok (.invokestatic idx, 3)) (hpc : pc + 3 = n) : am_snd (am_J p l e R s m args below meth c D cA A Z (am_sb cA) nL n0 ad0) (am_copy n) pc := by
  subst hpc
  intro K hK k ls st w h ad H locs cells slots lsA hr hl hs hn hh hc1 hc2
  dsimp only [am_copy] at h
  split at h
  · rename_i c0 dp b sp a st'
    replace h := am_at_iff.mp h
    obtain ⟨e0, he, h⟩ := h
    split at h
    · rename_i u N f
      replace h := am_at_iff.mp h
      obtain ⟨e2, he2, h⟩ := h
      split at h
      · rename_i u2 N2 g
        cases hb : (Nat.beq u 0 && (Nat.beq u2 0 && Nat.ble (am_cat st') 8)) with
        | false => rw [hb] at h; exact h.elim
        | true =>
          rw [hb] at h
          simp only [Bool.and_eq_true] at hb
          obtain ⟨b1, b2, b3⟩ := hb
          have hu := Nat.eq_of_beq_eq_true b1
          have hu2 := Nat.eq_of_beq_eq_true b2
          have hcat := Nat.le_of_ble_eq_true b3
          subst hu
          subst hu2
          obtain ⟨⟨g1, g2, g3, g4, g5⟩, g', hg, h⟩ := h
          replace h := am_put_iff.mp h
          obtain ⟨hql, h⟩ := h
          refine va_copyi (ty := .int) hc.1 hc.2.1 (by rw [hc.2.2.1]; exact hh.1.symm) hc.2.2.2.1 (hc.2.2.2.2.1 _ hlink) (hc.2.2.2.2.1 _ hnat) (hc.2.2.2.2.1 _ hstat) (hc.2.2.2.2.1 _ hini) hc.2.2.2.2.2.1.1 hr.1 hr.2.1 hr.2.2.1 a b 0 0 (am_ws_at cA ad he) (am_ws_at cA ad he2) rfl rfl rfl g1 g2 g3 g4 g5 (fun _ _ => rfl) (by have := hc.2.2.2.2.2.2.2.2.2.1; omega) (by
            have h64 := hc.2.2.2.2.2.2.2.2.2.2.1
            rw [am_cat_map hc.2.2.2.2.2.2.2.2.2.2.2]
            have : nativeFrameWords "java/lang/System" "arraycopy" 5 ≤ 40 := by decide +kernel
            omega) hdg (fun H1 locs1 hP1 hD1 hS1 => ?_)
          exact hK _ _ _ _ _ h ad H1 locs1 cells slots lsA (hr.set (e1 := .inl (0, N2, .inl g')) (am_P_same (e := .inl (cA 0, N2, .inl (va_cpy f g sp.toNatClampNeg dp.toNatClampNeg c0.toNatClampNeg))) (fun H h => h.trans (congrArg some (am_cell_same hg))) hP1) (am_D_same (e := .inl (cA 0, N2, .inl (va_cpy f g sp.toNatClampNeg dp.toNatClampNeg c0.toNatClampNeg))) hD1) hS1 trivial) (by rw [List.length_set]; exact hl) (by rw [List.length_set]; exact am_tl (am_tl (am_tl (am_tl (am_tl hs))))) hn hh hc1 hc2
      · exact h.elim
    · exact h.elim
  · exact h.elim
theorem am_max_snd (hc : (am_ctx p l R s m args meth c cc nL own D cA A (am_sb cA) d)) {idx : Nat} (hlink : Cond.methodLink own idx Lib.Math.max.name ∈ am_tab) (hstat : Cond.static Lib.Math.max.name ∈ am_tab) (hini : Cond.initialized "java/lang/Math" ∈ am_tab) (hcode : Cond.code Lib.Math.max.name Lib.Math.max.code 2 (some .int) ∈ am_tab) (hdg : decode cc pc = .ok (.invokestatic idx, 3)) (hpc : pc + 3 = n) : am_snd (am_J p l e R s m args below meth c D cA A Z (am_sb cA) nL n0 ad0) (am_max n) pc := by
  subst hpc
  intro K hK k ls st w h ad H locs cells slots lsA hr hl hs hn hh hc1 hc2
  dsimp only [am_max] at h
  split at h
  · rename_i y x st'
    cases hb : Nat.ble (am_cat st') 8 with
    | false => rw [hb] at h; exact h.elim
    | true =>
      rw [hb] at h
      have hcat := Nat.le_of_ble_eq_true hb
      exact va_mmax hc.1 hc.2.1 (by rw [hc.2.2.1]; exact hh.1.symm) hc.2.2.2.1 (hc.2.2.2.2.1 _ hlink) (hc.2.2.2.2.1 _ hstat) (hc.2.2.2.2.1 _ hini) (hc.2.2.2.2.1 _ hcode) (by have := hc.2.2.2.2.2.2.2.2.2.1; omega) (by have h64 := hc.2.2.2.2.2.2.2.2.2.2.1; rw [am_cat_map hc.2.2.2.2.2.2.2.2.2.2.2]; omega) (by omega) (by omega) hdg (hK _ _ _ _ _ h ad H locs cells slots lsA hr hl (am_ci (am_tl (am_tl hs))) hn hh hc1 hc2)
  · exact h.elim
theorem am_min_snd (hc : (am_ctx p l R s m args meth c cc nL own D cA A (am_sb cA) d)) {idx : Nat} (hlink : Cond.methodLink own idx Lib.Math.min.name ∈ am_tab) (hstat : Cond.static Lib.Math.min.name ∈ am_tab) (hini : Cond.initialized "java/lang/Math" ∈ am_tab) (hcode : Cond.code Lib.Math.min.name Lib.Math.min.code 2 (some .int) ∈ am_tab) (hdg : decode cc pc = .ok (.invokestatic idx, 3)) (hpc : pc + 3 = n) : am_snd (am_J p l e R s m args below meth c D cA A Z (am_sb cA) nL n0 ad0) (am_min n) pc := by
  subst hpc
  intro K hK k ls st w h ad H locs cells slots lsA hr hl hs hn hh hc1 hc2
  dsimp only [am_min] at h
  split at h
  · rename_i y x st'
    cases hb : Nat.ble (am_cat st') 8 with
    | false => rw [hb] at h; exact h.elim
    | true =>
      rw [hb] at h
      have hcat := Nat.le_of_ble_eq_true hb
      exact va_mmin hc.1 hc.2.1 (by rw [hc.2.2.1]; exact hh.1.symm) hc.2.2.2.1 (hc.2.2.2.2.1 _ hlink) (hc.2.2.2.2.1 _ hstat) (hc.2.2.2.2.1 _ hini) (hc.2.2.2.2.1 _ hcode) (by have := hc.2.2.2.2.2.2.2.2.2.1; omega) (by have h64 := hc.2.2.2.2.2.2.2.2.2.2.1; rw [am_cat_map hc.2.2.2.2.2.2.2.2.2.2.2]; omega) (by omega) (by omega) hdg (hK _ _ _ _ _ h ad H locs cells slots lsA hr hl (am_ci (am_tl (am_tl hs))) hn hh hc1 hc2)
  · exact h.elim
theorem am_copyR_snd (hc : (am_ctx p l R s m args meth c cc nL own D cA A (am_sb cA) d)) {idx : Nat} (hlink : Cond.methodLink own idx arraycopyName ∈ am_tab) (hnat : Cond.native arraycopyName ∈ am_tab) (hstat : Cond.static arraycopyName ∈ am_tab) (hini : Cond.initialized "java/lang/System" ∈ am_tab) (hdg : decode cc pc = .ok (.invokestatic idx, 3)) (hpc : pc + 3 = n) : am_snd (am_J p l e R s m args below meth c D cA A Z (am_sb cA) nL n0 ad0) (am_copyR n) pc := by
  subst hpc
  intro K hK k ls st w h ad H locs cells slots lsA hr hl hs hn hh hc1 hc2
  dsimp only [am_copyR] at h
  split at h
  · rename_i c0 dp b sp a st'
    replace h := am_at_iff.mp h
    obtain ⟨e0, he, h⟩ := h
    split at h
    · rename_i u N f
      replace h := am_at_iff.mp h
      obtain ⟨e2, he2, h⟩ := h
      split at h
      · rename_i u2 N2 g
        cases hb : (Nat.beq u 3 && (Nat.beq u2 3 && Nat.ble (am_cat st') 8)) with
        | false => rw [hb] at h; exact h.elim
        | true =>
          rw [hb] at h
          simp only [Bool.and_eq_true] at hb
          obtain ⟨b1, b2, b3⟩ := hb
          have hu := Nat.eq_of_beq_eq_true b1
          have hu2 := Nat.eq_of_beq_eq_true b2
          have hcat := Nat.le_of_ble_eq_true b3
          subst hu
          subst hu2
          obtain ⟨⟨g1, g2, g3, g4, g5⟩, hel, h⟩ := h
          replace h := am_put_iff.mp h
          obtain ⟨hql, h⟩ := h
          have nn : ∀ z : Int32, ¬ z < 0 → z.toInt = (z.toNatClampNeg : Int) := by
            intro z hz
            have hz0 : (0 : Int) ≤ z.toInt := by
              have := Int32.not_lt.mp hz
              simpa using Int32.le_iff_toInt_le.mp this
            show z.toInt = ((z.toInt.toNat : Nat) : Int)
            omega
          have hG := hc.2.2.2.2.2.1
          obtain ⟨k3, hk3, hkind⟩ := am_rowsK hG.1 hG.2.2.2.2.2.2.1.1
          have g0 : s.vm.findClass (FieldType.array .int).toString = some (cA 0) := (hG.1.2 0 (cA 0, .int) rfl).2
          obtain ⟨k0, hk0, -⟩ := Vm.findClass_spec g0
          have hca : H[ad a]? = some (vp_cell (cA 3) (N, .inr (.inr (.inr (.inr (fun j => (f j).map ad)))))) := hr.1 a _ (am_ws_at cA ad he)
          have hcb : H[ad b]? = some (vp_cell (cA 3) (N2, .inr (.inr (.inr (.inr (fun j => (g j).map ad)))))) := hr.1 b _ (am_ws_at cA ad he2)
          have hfr := hc.2.2.2.2.2.2.2.2.2.1
          have hlo := hc.2.2.2.2.2.2.2.2.2.2.1
          have h40 : nativeFrameWords "java/lang/System" "arraycopy" 5 ≤ 40 := by decide +kernel
          intro T hT X
          obtain ⟨vm', X', step⟩ := X.arraycopy hc.1 hc.2.2.2.1 (hc.2.2.2.2.1 _ hlink) (hc.2.2.2.2.1 _ hnat) (hc.2.2.2.2.1 _ hstat) (hc.2.2.2.2.1 _ hini) (src := ad a) (dst := ad b) (cs := vp_cell (cA 3) (N, .inr (.inr (.inr (.inr (fun j => (f j).map ad)))))) (cd := vp_cell (cA 3) (N2, .inr (.inr (.inr (.inr (fun j => (g j).map ad)))))) (srcPos := sp) (destPos := dp) (n := c0) (by rw [hT]; exact hca) (by rw [hT]; exact hcb)
            (fun _ h => by cases h) (fun _ h => by cases h) (fun h => by cases h) (fun h => by cases h) hk3 hk3 hkind hkind rfl g1 g2 g3
            (by rw [nn sp g1, nn c0 g3]; show ¬ _ > ((arrV (cA 3) N (fun j => va_rf ((f j).map ad))).slots.size : Int); rw [arrV_size]; omega)
            (by rw [nn dp g2, nn c0 g3]; show ¬ _ > ((arrV (cA 3) N2 (fun j => va_rf ((g j).map ad))).slots.size : Int); rw [arrV_size]; omega)
            (fun vm₁ hal i hi => by
              have e : (vp_cell (cA 3) (N, .inr (.inr (.inr (.inr (fun j => (f j).map ad)))))).slots.getD (sp.toNatClampNeg + i) .null = va_rf ((f (sp.toNatClampNeg + i)).map ad) := by
                show (arrV (cA 3) N (fun j => va_rf ((f j).map ad))).slots.getD _ _ = _
                rw [Array.getD_eq_getD_getElem?, arrV_read _ _ (by omega)]
                rfl
              rw [e]
              cases hy : f (sp.toNatClampNeg + i) with
              | none => exact ⟨rfl, trivial⟩
              | some y =>
                obtain ⟨n', hh', hw⟩ := hel i hi y hy
                have hcy : H[ad y]? = some (vp_cell (cA 0) (n', .inl hh')) := hr.1 y _ (am_ws_at cA ad hw)
                obtain ⟨kC', hkC', -⟩ := hal.2.2 _ _ hk0
                refine ⟨rfl, _, (show T.heap[ad y]? = some _ by rw [hT]; exact hcy), (fun q h => by cases h), ⟨kC', hkC'⟩, ?_, am_asg _ _⟩
                exact ⟨kC', hkC'⟩)
            (g := F0 m pc lsA (.int c0 :: .int dp :: .ref (ad b) :: .int sp :: .ref (ad a) :: st'.map (am_tr ad (am_sb cA)))) rfl (by rw [hc.2.2.1]; exact hh.1) (rest := st'.map (am_tr ad (am_sb cA))) rfl (by rw [hc.2.1]; exact hdg) (by omega) (by show 2 * 0 + _ + _ ≤ _; rw [am_cat_map hc.2.2.2.2.2.2.2.2.2.2.2]; omega)
          have e1 : copied (vp_cell (cA 3) (N, .inr (.inr (.inr (.inr (fun j => (f j).map ad)))))) (vp_cell (cA 3) (N2, .inr (.inr (.inr (.inr (fun j => (g j).map ad)))))) sp dp c0 = vp_cell (cA 3) (N2, .inr (.inr (.inr (.inr (fun j => (va_cpy f g sp.toNatClampNeg dp.toNatClampNeg c0.toNatClampNeg j).map ad))))) := by
            rw [vp_cell_q, vp_cell_q, vp_cell_q]
            refine (va_copied (fun z : Option Nat => va_rf z) (cA 3) (cA 3) (fun j => (f j).map ad) (fun j => (g j).map ad) g4).trans (arrV_same fun j _ => ?_)
            unfold va_cpy
            split <;> rfl
          rw [e1] at X' step
          have hbl : ad b < H.size := (Array.getElem?_eq_some_iff.mp hcb).1
          generalize hC : vp_cell (cA 3) (N2, .inr (.inr (.inr (.inr (fun j => (va_cpy f g sp.toNatClampNeg dp.toNatClampNeg c0.toNatClampNeg j).map ad))))) = CC at X' step
          have hheap : ((T.setVm vm').setCell (ad b) CC).heap = H.setIfInBounds (ad b) CC := by rw [← hT]; rfl
          have oq : ∀ q : Nat, q ≠ ad b → (H.setIfInBounds (ad b) CC)[q]? = H[q]? := fun q hq => by simp [Array.getElem?_setIfInBounds, Ne.symm hq]
          have hE : va_at D vwCl (ad b, am_tE cA ad (.inl (3, N2, .inr (.inr (va_cpy f g sp.toNatClampNeg dp.toNatClampNeg c0.toNatClampNeg))))) (H.setIfInBounds (ad b) CC) := by
            show (H.setIfInBounds (ad b) CC)[ad b]? = some (vp_cell (cA 3) (N2, .inr (.inr (.inr (.inr (fun j => (va_cpy f g sp.toNatClampNeg dp.toNatClampNeg c0.toNatClampNeg j).map ad))))))
            rw [hC]
            simp [Array.getElem?_setIfInBounds, hbl]
          have hP1 := hr.1.set hr.2.1 (am_ws_at cA ad he2) hE oq
          have hD1 := hr.2.1.set (e := am_tE cA ad (.inl (3, N2, .inr (.inr (va_cpy f g sp.toNatClampNeg dp.toNatClampNeg c0.toNatClampNeg))))) (am_ws_at cA ad he2)
          obtain ⟨t, a1, b1⟩ := hK _ _ _ _ _ h ad _ _ cells slots lsA (hr.set hP1 hD1 ⟨by simp; exact hr.2.2.1.1, fun q g1 g2 => by
              rw [oq q (fun e => g2 (by rw [e]; exact hr.2.1.2 b _ (am_ws_at cA ad he2)))]
              exact hr.2.2.1.2.1 q g1 g2, fun q hq => by
              rcases List.mem_append.mp hq with h | h
              · exact hr.2.2.1.2.2 q h
              · obtain ⟨z, -, hz⟩ := List.mem_map.mp h
                rw [← hz]
                exact hr.2.1.2 b _ (am_ws_at cA ad he2)⟩ (fun j r hjr => by
              unfold va_cpy at hjr
              split at hjr
              · exact hr.2.2.2.1 _ (List.mem_of_getElem? he) _ r hjr
              · exact hr.2.2.2.1 _ (List.mem_of_getElem? he2) _ r hjr)) (by rw [List.length_set]; exact hl) (by rw [List.length_set]; exact am_tl (am_tl (am_tl (am_tl (am_tl hs))))) hn hh hc1 hc2 _ hheap X'
          exact ⟨t, step t a1, b1⟩
      · exact h.elim
    · exact h.elim
  · exact h.elim
theorem am_abs_snd (hc : (am_ctx p l R s m args meth c cc nL own D cA A (am_sb cA) d)) {idx : Nat} (hlink : Cond.methodLink own idx Lib.Math.abs.name ∈ am_tab) (hstat : Cond.static Lib.Math.abs.name ∈ am_tab) (hini : Cond.initialized "java/lang/Math" ∈ am_tab) (hcode : Cond.code Lib.Math.abs.name Lib.Math.abs.code 1 (some .int) ∈ am_tab) (hdg : decode cc pc = .ok (.invokestatic idx, 3)) (hpc : pc + 3 = n) : am_snd (am_J p l e R s m args below meth c D cA A Z (am_sb cA) nL n0 ad0) (am_abs n) pc := by
  subst hpc
  intro K hK k ls st w h ad H locs cells slots lsA hr hl hs hn hh hc1 hc2
  dsimp only [am_abs] at h
  split at h
  · rename_i x st'
    cases hb : Nat.ble (am_cat st') 8 with
    | false => rw [hb] at h; exact h.elim
    | true =>
      rw [hb] at h
      have hcat := Nat.le_of_ble_eq_true hb
      exact va_mabs hc.1 hc.2.1 (by rw [hc.2.2.1]; exact hh.1.symm) hc.2.2.2.1 (hc.2.2.2.2.1 _ hlink) (hc.2.2.2.2.1 _ hstat) (hc.2.2.2.2.1 _ hini) (hc.2.2.2.2.1 _ hcode) (by have := hc.2.2.2.2.2.2.2.2.2.1; omega) (by have h64 := hc.2.2.2.2.2.2.2.2.2.2.1; rw [am_cat_map hc.2.2.2.2.2.2.2.2.2.2.2]; omega) (by omega) (by omega) hdg (hK _ _ _ _ _ h ad H locs cells slots lsA hr hl (am_ci (am_tl hs)) hn hh hc1 hc2)
  · exact h.elim
theorem am_init_snd (hc : (am_ctx p l R s m args meth c cc nL own D cA A (am_sb cA) d)) {idx : Nat} (hlink : Cond.methodLink own idx Lib.objectInit ∈ am_tab) (hinst : Cond.instanceMethod Lib.objectInit ∈ am_tab) (hcode : Cond.code Lib.objectInit ⟨#[0xb1]⟩ 1 none ∈ am_tab) (hdg : decode cc pc = .ok (.invokespecial idx, 3)) (hpc : pc + 3 = n) : am_snd (am_J p l e R s m args below meth c D cA A Z (am_sb cA) nL n0 ad0) (am_init n) pc := by
  subst hpc
  intro K hK k ls st w h ad H locs cells slots lsA hr hl hs hn hh hc1 hc2
  dsimp only [am_init] at h
  split at h
  · rename_i q st'
    cases hb : Nat.ble (am_cat st') 8 with
    | false => rw [hb] at h; exact h.elim
    | true =>
      rw [hb] at h
      have hcat := Nat.le_of_ble_eq_true hb
      exact W.objInit hc.1 hc.2.1 hc.2.2.2.1 (hc.2.2.2.2.1 _ hlink) (hc.2.2.2.2.1 _ hinst) (hc.2.2.2.2.1 _ hcode) rfl (by rw [hc.2.2.1]; exact hh.1) rfl hdg (by have := hc.2.2.2.2.2.2.2.2.2.1; omega) (by have h64 := hc.2.2.2.2.2.2.2.2.2.2.1; show 2 * 0 + ((st'.map (am_tr ad (am_sb cA))).map fun v => v.category).sum + 12 ≤ _; rw [am_cat_map hc.2.2.2.2.2.2.2.2.2.2.2]; omega) (hK _ _ _ _ _ h ad H locs cells slots lsA hr hl (am_tl hs) hn hh hc1 hc2)
  · exact h.elim
end AMS
end
section
/-! calls, throws, returns of AM over the machine; and a contract out of a body -/
section AMC
variable {p : Program} {l : Launch} {e : Env} {R : Room} {s : State} {m : MethodId} {args : Array Value} {below : List Frame} {meth : Method} {c : Code} {D : va_G} {cA : Nat → ClassId} {A : Nat → Prop} {Z : State → Prop} {nL n0 : Nat} {ad0 : Nat → Nat} {cc : ByteArray} {own : String} {d pc n t : Nat}
/-- a handler's word: what is thrown here, with the number x, is dealt with -/
def am_hs (p : Program) (l : Launch) (e : Env) (R : Room) (s : State) (m : MethodId) (args : Array Value) (below : List Frame) (meth : Method) (c : Code) (D : va_G) (cA : Nat → ClassId) (A : Nat → Prop) (Z : State → Prop) (nb : Value) (nL n0 : Nat) (ad0 : Nat → Nat) (K : am_K) (Hd : am_K → Nat → Nat → am_L → am_M → Prop) (pc : Nat) : Prop :=
  ∀ (x k : Nat) (ls : am_L) (w : am_M), Hd K x k ls w → ∀ (ad : Nat → Nat) (H : Heap) (locs : List Loc) (cells slots : Nat) (lsA : Array Slot) (rest : List Value) (q : Addr) (ce : Cell), am_rel D cA A n0 ad0 s.heap ad w H locs → (∀ v, some v ∈ ls → am_wv w.length v) → ls.length = nL → lv_has lsA nL (am_ents ad nb 0 ls) →
    cells + k ≤ R.cells → slots + 1100 * k ≤ R.slots → H[q]? = some ce → ce.vm = .none → s.vm.findClass (am_xn x) = some ce.cls → vx_W p l e R s m args below meth c H locs cells slots Z (F0 m pc lsA rest) q
theorem am_rel.behind {ad ad' : Nat → Nat} {w w' : am_M} {H H1 : Heap} {locs locs1 : List Loc} (hr : am_rel D cA A n0 ad0 s.heap ad w H locs) (hU : am_U D cA ad w (va_A (am_ws cA ad w) H.size) ad' w' H1) (hS : va_S A s.heap H1 locs1) (hF : ∀ q, va_A (am_ws cA ad w) H.size q → A q) : am_rel D cA A n0 ad0 s.heap ad' w' H1 locs1 := by
  obtain ⟨h1, h2, h3, h4, h5⟩ := hU
  exact ⟨h1, h2.weaken (fun k q _ h => hF q.1 h), hS, h3, Nat.le_trans hr.2.2.2.2.1 h4, fun j hj => (h5 j (Nat.lt_of_lt_of_le hj hr.2.2.2.2.1)).trans (hr.2.2.2.2.2 j hj)⟩
theorem am_free {ad : Nat → Nat} {w : am_M} {H : Heap} {locs : List Loc} (hr : am_rel D cA A n0 ad0 s.heap ad w H locs) (hA : ∀ q, s.heap.size ≤ q → A q) : ∀ q, va_A (am_ws cA ad w) H.size q → A q := by
  intro q h
  rcases h with ⟨k, e, h⟩ | h
  · exact hr.2.1.2 k (q, e) h
  · exact hA q (Nat.le_trans hr.2.2.1.1 h)
/-- behind any call -/
theorem am_back {y b : Nat} {as : List Value} {w : am_M} {QQ : am_Q} {K : am_K} {Hd : am_K → Nat → Nat → am_L → am_M → Prop} (hA : ∀ q, s.heap.size ≤ q → A q) (hHd : am_hs p l e R s m args below meth c D cA A Z (am_sb cA) nL n0 ad0 K Hd pc) (hK : ∀ k pc ls st w, K k pc ls st w → (am_J p l e R s m args below meth c D cA A Z (am_sb cA) nL n0 ad0) k pc ls st w)
    {k : Nat} {ls : am_L} {st' : am_S} {ad : Nat → Nat} {H : Heap} {locs : List Loc} {cells slots : Nat} {lsA : Array Slot} {a : Array Value} {st0 : List Value} (hr : am_rel D cA A n0 ad0 s.heap ad w H locs) (hl : ∀ v, some v ∈ ls → am_wv w.length v) (hs : ∀ v ∈ st', am_wv w.length v) (hn : ls.length = nL) (hh : lv_has lsA nL (am_ents ad (am_sb cA) 0 ls)) (hb : b ≤ k) (hc1 : cells + k ≤ R.cells) (hc2 : slots + 1100 * k ≤ R.slots)
    (hQQ : QQ = fun o w' => match o with
      | .inl none => K (k - b) (pc + 3) ls st' w'
      | .inl (some v) => K (k - b) (pc + 3) ls (v :: st') w'
      | .inr x => Hd K x (k - b) ls w')
    (hrun : vx_Run p l e R s m args below meth c H locs cells slots b (1100 * b) (F0 m pc lsA st0) (st'.map (am_tr ad (am_sb cA))) (am_post D cA ad w (va_A (am_ws cA ad w) H.size) QQ a) (am_px D cA ad w (va_A (am_ws cA ad w) H.size) QQ) (va_A (am_ws cA ad w) H.size)) :
    W p l e R s m args below meth c H locs cells slots Z (F0 m pc lsA st0) := by
  have hF := am_free hr hA
  intro T hT X
  rcases hrun T hT X with ⟨v, st₀, t, T', L, h0, X', hL, e1, e2, ⟨⟨v', w', ad', hv, hq, hwv, hU⟩, hFr⟩, st⟩ | ⟨q, st₀, t, T', L, E, ce, h0, X', hL, e1, e2, ⟨⟨x, w', ad', hE, hq, hU⟩, hFr⟩, hce, hcv, hcl, st⟩
  · cases hv
    obtain ⟨k1, k2, k3⟩ := vx_keep h0 e1 hr.2.2.1 (fun q _ h => hF q h) hF hL hFr
    rw [← e1] at hU
    have hr' := hr.behind hU k3 hF
    obtain ⟨-, -, -, hle, hext⟩ := id hU
    have hls : ∀ v, some v ∈ ls → am_wv w'.length v := fun v hv => am_wv_le hle (hl v hv)
    have hst : ∀ v ∈ st', am_wv w'.length v := fun v hv => am_wv_le hle (hs v hv)
    have hhl : lv_has lsA nL (am_ents ad' (am_sb cA) 0 ls) := by rw [am_ents_ext hext hl]; exact hh
    rw [hQQ] at hq
    cases v' with
    | none =>
      have k4 := hK _ _ _ _ _ hq ad' T'.heap (locs ++ L) (cells + b) (slots + 1100 * b) lsA hr' hls hst hn hhl (by omega) (by omega)
      rw [am_map_ext hext hs] at k4
      obtain ⟨t2, a1, b1⟩ := k4 T' rfl X'
      exact ⟨t2, st t2 a1, b1⟩
    | some u =>
      have k4 := hK _ _ _ _ _ hq ad' T'.heap (locs ++ L) (cells + b) (slots + 1100 * b) lsA hr' hls (List.forall_mem_cons.mpr ⟨(hwv u rfl).1, hst⟩) hn hhl (by omega) (by omega)
      rw [List.map_cons, am_map_ext hext hs] at k4
      obtain ⟨t2, a1, b1⟩ := k4 T' rfl X'
      exact ⟨t2, st t2 a1, b1⟩
  · obtain ⟨k1, k2, k3⟩ := vx_keep h0 e1 hr.2.2.1 (fun q _ h => hF q h) hF hL hFr
    rw [← e1] at hU
    have hr' := hr.behind hU k3 hF
    obtain ⟨-, -, -, hle, hext⟩ := id hU
    have hls : ∀ v, some v ∈ ls → am_wv w'.length v := fun v hv => am_wv_le hle (hl v hv)
    have hhl : lv_has lsA nL (am_ents ad' (am_sb cA) 0 ls) := by rw [am_ents_ext hext hl]; exact hh
    rw [hQQ] at hq
    obtain ⟨t2, a1, b1⟩ := hHd x _ ls w' hq ad' T'.heap (locs ++ L) (cells + b) (slots + 1100 * b) lsA (st'.map (am_tr ad (am_sb cA))) q ce hr' hls hn hhl (by omega) (by omega) (by rw [e1]; exact hce) hcv (by rw [← hE]; exact hcl) T' rfl X'
    exact ⟨t2, st.trans a1, b1⟩
theorem am_rfr {R : Room} {d b : Nat} (h : d + 1 + 8 ≤ R.frames) : (am_room d b).frames + 1 ≤ R.frames := by
  unfold am_room
  omega
set_option maxRecDepth 20000 in
theorem am_rlo {R : Room} {d b maxL : Nat} (hm : maxL ≤ 40) (h : 64 * (d + 1 + 8) ≤ R.locals) : 8 + (maxL + 11) + (am_room d b).locals ≤ R.locals := by
  have key : ∀ L : Nat, 64 * (d + 1 + 8) ≤ L → 8 + (maxL + 11) + 64 * (d + 8) ≤ L := fun L h => by omega
  exact key _ h
theorem am_goodIn {y : Nat} (hcw : am_cw y ∈ am_tab) : GoodIn am_tab (am_wsd y) := by
  intro w hw
  have hm : w ∈ am_tab := by
    rcases List.mem_cons.mp hw with h | h
    · rw [h]; exact hcw
    · exact h
  exact ⟨hm, good_of_word (List.mem_filter.mp hm).2⟩
theorem am_preU {ad : Nat → Nat} {w : am_M} {H : Heap} {locs : List Loc} (hr : am_rel D cA A n0 ad0 s.heap ad w H locs) (hG : am_G D cA A s) (hA : ∀ q, s.heap.size ≤ q → A q) (U : State) (hU : U.heap = H) (hW : s.WarmedH U.vm) : am_pre D cA ad w H.size U := by
  refine ⟨by rw [hU], by rw [hU]; exact hr.1, hr.2.1.weaken (fun _ _ _ _ => trivial), hG.to hW (fun a h1 h2 => by rw [hU]; exact hr.2.2.1.2.1 a h1 h2) (am_free hr hA)⟩
theorem am_invS_snd (hc : (am_ctx p l R s m args meth c cc nL own D cA A (am_sb cA) (d + 1))) {Hd : am_K → Nat → Nat → am_L → am_M → Prop} (hHd : ∀ K : am_K, (∀ k pc ls st w, K k pc ls st w → (am_J p l e R s m args below meth c D cA A Z (am_sb cA) nL n0 ad0) k pc ls st w) → am_hs p l e R s m args below meth c D cA A Z (am_sb cA) nL n0 ad0 K Hd pc) {y a : Nat} {x : MethodName} {bytes : ByteArray} {maxL idx : Nat} {ret : Option FieldType} (hy : am_nm y = x) (hcw : am_cw y = Cond.code x bytes maxL ret) (hcm : am_cw y ∈ am_tab) (hml : maxL ≤ 40) (hini : Cond.initialized x.cls ∈ am_tab) (hlink : Cond.methodLink own idx x ∈ am_tab) (hstat : Cond.static x ∈ am_tab) (hd : x.cls ≠ "java/lang/invoke/MethodHandle" ∧ x.cls ≠ "java/lang/invoke/VarHandle" ∧ (parseMethodDescriptor x.desc).map (fun d => d.parameters.length) = some a) (hdg : decode cc pc = .ok (.invokestatic idx, 3)) (hpc : pc + 3 = n) : am_snd (am_J p l e R s m args below meth c D cA A Z (am_sb cA) nL n0 ad0) (fun K => am_inv (am_Call l d) (Hd K) y a n K) pc := by
  subst hpc
  intro K hK k ls st w h ad H locs cells slots lsA hr hl hs hn hh hc1 hc2
  dsimp only [am_inv] at h
  obtain ⟨as, st', hst, hlen, hnn, h⟩ := am_take_iff h
  rw [List.append_nil] at h
  cases hbl : Nat.ble (am_cat st') 8 with
  | false => rw [hbl] at h; exact h.elim
  | true =>
  rw [hbl] at h
  have hcat := Nat.le_of_ble_eq_true hbl
  obtain ⟨b, hbk, h⟩ := h
  have hsA : ∀ v ∈ as, am_wv w.length v := fun v hv => hs v (by rw [hst]; exact List.mem_append_left _ (List.mem_reverse.mpr hv))
  have hsR : ∀ v ∈ st', am_wv w.length v := fun v hv => hs v (by rw [hst]; exact List.mem_append_right _ hv)
  have hM := h hsA hr.2.2.2.1 D cA ad H.size
  have hstk : st.map (am_tr ad (am_sb cA)) = (as.map (am_tr ad (am_sb cA))).reverse ++ st'.map (am_tr ad (am_sb cA)) := by
    rw [hst, List.map_append, List.map_reverse]
  have hfr := hc.2.2.2.2.2.2.2.2.2.1
  have hlo := hc.2.2.2.2.2.2.2.2.2.2.1
  have hcatm : (((st'.map (am_tr ad (am_sb cA)))).map fun v => v.category).sum ≤ 8 := by rw [am_cat_map hc.2.2.2.2.2.2.2.2.2.2.2]; exact hcat
  subst hy
  have cb := callB_of (ws := am_wsd y) (ws' := am_tab) (rm := am_room d b) (R := R) (mc := b) (ms := 1100 * b) a hc.2.2.2.2.1 (am_goodIn hcm) (by rw [am_wsd, hcw]) rfl rfl (hc.2.2.2.2.1 _ hini) (hc.2.2.2.2.1 _ hlink) hd ⟨am_rfr hfr, am_rlo hml hlo⟩
  rw [hstk]
  refine am_back (y := y) (as := as) hc.2.2.2.2.2.2.1 (hHd K hK) hK hr hl hsR hn hh hbk hc1 hc2 rfl (vx_runS (g := F0 m pc lsA _) (As := as.map (am_tr ad (am_sb cA))) ⟨hc.1, hc.2.1, hc.2.2.1, hc.2.2.2.1, hc.2.2.2.2.1⟩ hM ⟨cb, hc.2.2.2.2.1 _ hstat⟩ ⟨am_blind, fun U hU hW => ⟨rfl, am_preU hr hc.2.2.2.2.2.1 hc.2.2.2.2.2.2.1 U hU hW⟩⟩ rfl (by rw [List.length_map]; exact hlen) hh.1 rfl (lv_room hcatm) hdg ⟨by omega, by omega⟩)
theorem am_invSN_snd (hc : (am_ctx p l R s m args meth c cc nL own D cA A (am_sb cA) (d + 1))) {Hd : am_K → Nat → Nat → am_L → am_M → Prop} (hHd : ∀ K : am_K, (∀ k pc ls st w, K k pc ls st w → (am_J p l e R s m args below meth c D cA A Z (am_sb cA) nL n0 ad0) k pc ls st w) → am_hs p l e R s m args below meth c D cA A Z (am_sb cA) nL n0 ad0 K Hd pc) {y a : Nat} {x : MethodName} {bytes : ByteArray} {maxL idx : Nat} {ret : Option FieldType} (hy : am_nm y = x) (hcw : am_cw y = Cond.code x bytes maxL ret) (hcm : am_cw y ∈ am_tab) (hml : maxL ≤ 40) (hini : Cond.initialized x.cls ∈ am_tab) (host : String) (hlink : (own, idx, x, host) ∈ am_nestM) (hstat : Cond.static x ∈ am_tab) (hd : x.cls ≠ "java/lang/invoke/MethodHandle" ∧ x.cls ≠ "java/lang/invoke/VarHandle" ∧ (parseMethodDescriptor x.desc).map (fun d => d.parameters.length) = some a) (hdg : decode cc pc = .ok (.invokestatic idx, 3)) (hpc : pc + 3 = n) : am_snd (am_J p l e R s m args below meth c D cA A Z (am_sb cA) nL n0 ad0) (fun K => am_inv (am_Call l d) (Hd K) y a n K) pc := by
  subst hpc
  intro K hK k ls st w h ad H locs cells slots lsA hr hl hs hn hh hc1 hc2
  dsimp only [am_inv] at h
  obtain ⟨as, st', hst, hlen, hnn, h⟩ := am_take_iff h
  rw [List.append_nil] at h
  cases hbl : Nat.ble (am_cat st') 8 with
  | false => rw [hbl] at h; exact h.elim
  | true =>
  rw [hbl] at h
  have hcat := Nat.le_of_ble_eq_true hbl
  obtain ⟨b, hbk, h⟩ := h
  have hsA : ∀ v ∈ as, am_wv w.length v := fun v hv => hs v (by rw [hst]; exact List.mem_append_left _ (List.mem_reverse.mpr hv))
  have hsR : ∀ v ∈ st', am_wv w.length v := fun v hv => hs v (by rw [hst]; exact List.mem_append_right _ hv)
  have hM := h hsA hr.2.2.2.1 D cA ad H.size
  have hstk : st.map (am_tr ad (am_sb cA)) = (as.map (am_tr ad (am_sb cA))).reverse ++ st'.map (am_tr ad (am_sb cA)) := by
    rw [hst, List.map_append, List.map_reverse]
  have hfr := hc.2.2.2.2.2.2.2.2.2.1
  have hlo := hc.2.2.2.2.2.2.2.2.2.2.1
  have hcatm : (((st'.map (am_tr ad (am_sb cA)))).map fun v => v.category).sum ≤ 8 := by rw [am_cat_map hc.2.2.2.2.2.2.2.2.2.2.2]; exact hcat
  subst hy
  have cb := va_cnB (ws := am_wsd y) (ws' := am_tab) (rm := am_room d b) (R := R) (mc := b) (ms := 1100 * b) (host := host) a hc.2.2.2.2.1 (am_goodIn hcm) (by rw [am_wsd, hcw]) rfl rfl (hc.2.2.2.2.2.1.2.2.1 _ hlink) (hc.2.2.2.2.1 _ hini) hd ⟨am_rfr hfr, am_rlo hml hlo⟩
  rw [hstk]
  refine am_back (y := y) (as := as) hc.2.2.2.2.2.2.1 (hHd K hK) hK hr hl hsR hn hh hbk hc1 hc2 rfl (vx_runSN (g := F0 m pc lsA _) (As := as.map (am_tr ad (am_sb cA))) ⟨hc.1, hc.2.1, hc.2.2.1, hc.2.2.2.1, hc.2.2.2.2.1⟩ hM ⟨cb, hc.2.2.2.2.1 _ hstat, trivial⟩ ⟨am_blind, fun U hU hW => ⟨rfl, am_preU hr hc.2.2.2.2.2.1 hc.2.2.2.2.2.2.1 U hU hW⟩⟩ rfl (by rw [List.length_map]; exact hlen) hh.1 rfl (lv_room hcatm) hdg ⟨by omega, by omega⟩)
theorem am_invSX_snd (hc : (am_ctx p l R s m args meth c cc nL own D cA A (am_sb cA) (d + 1))) {Hd : am_K → Nat → Nat → am_L → am_M → Prop} (hHd : ∀ K : am_K, (∀ k pc ls st w, K k pc ls st w → (am_J p l e R s m args below meth c D cA A Z (am_sb cA) nL n0 ad0) k pc ls st w) → am_hs p l e R s m args below meth c D cA A Z (am_sb cA) nL n0 ad0 K Hd pc) {y a : Nat} {hhT : List (Nat × Nat × Nat × Nat)} {x : MethodName} {bytes : ByteArray} {maxL idx : Nat} {ret : Option FieldType} (hy : am_nm y = x) (hcw : am_cw y = Cond.codeWith x bytes maxL ret hhT) (hcm : am_cw y ∈ am_tab) (hml : maxL ≤ 40) (hini : Cond.initialized x.cls ∈ am_tab) (hlink : Cond.methodLink own idx x ∈ am_tab) (hstat : Cond.static x ∈ am_tab) (hd : x.cls ≠ "java/lang/invoke/MethodHandle" ∧ x.cls ≠ "java/lang/invoke/VarHandle" ∧ (parseMethodDescriptor x.desc).map (fun d => d.parameters.length) = some a) (hdg : decode cc pc = .ok (.invokestatic idx, 3)) (hpc : pc + 3 = n) : am_snd (am_J p l e R s m args below meth c D cA A Z (am_sb cA) nL n0 ad0) (fun K => am_inv (am_Call l d) (Hd K) y a n K) pc := by
  subst hpc
  intro K hK k ls st w h ad H locs cells slots lsA hr hl hs hn hh hc1 hc2
  dsimp only [am_inv] at h
  obtain ⟨as, st', hst, hlen, hnn, h⟩ := am_take_iff h
  rw [List.append_nil] at h
  cases hbl : Nat.ble (am_cat st') 8 with
  | false => rw [hbl] at h; exact h.elim
  | true =>
  rw [hbl] at h
  have hcat := Nat.le_of_ble_eq_true hbl
  obtain ⟨b, hbk, h⟩ := h
  have hsA : ∀ v ∈ as, am_wv w.length v := fun v hv => hs v (by rw [hst]; exact List.mem_append_left _ (List.mem_reverse.mpr hv))
  have hsR : ∀ v ∈ st', am_wv w.length v := fun v hv => hs v (by rw [hst]; exact List.mem_append_right _ hv)
  have hM := h hsA hr.2.2.2.1 D cA ad H.size
  have hstk : st.map (am_tr ad (am_sb cA)) = (as.map (am_tr ad (am_sb cA))).reverse ++ st'.map (am_tr ad (am_sb cA)) := by
    rw [hst, List.map_append, List.map_reverse]
  have hfr := hc.2.2.2.2.2.2.2.2.2.1
  have hlo := hc.2.2.2.2.2.2.2.2.2.2.1
  have hcatm : (((st'.map (am_tr ad (am_sb cA)))).map fun v => v.category).sum ≤ 8 := by rw [am_cat_map hc.2.2.2.2.2.2.2.2.2.2.2]; exact hcat
  subst hy
  have hG := am_goodIn hcm
  have cb : vx_CSW R s args own idx (am_nm y) bytes maxL ret hhT (am_wsd y) (am_room d b) b (1100 * b) a := by
    refine ⟨⟨rfl, rfl, am_rfr hfr, am_rlo hml hlo, pay_in hc.2.2.2.2.1 hG, by rw [am_wsd, hcw]; exact List.mem_cons_self⟩, ?_, hc.2.2.2.2.1 _ hini, ⟨hd.1, hd.2.1⟩, fun sig h => ?_, hc.2.2.2.2.1 _ hlink, hc.2.2.2.2.1 _ hstat⟩
    · have := hc.2.2.2.2.1 _ hcm
      rwa [hcw] at this
    · have h2 := hd.2.2
      rw [h] at h2
      exact (Option.some.inj h2).symm
  rw [hstk]
  refine am_back (y := y) (as := as) hc.2.2.2.2.2.2.1 (hHd K hK) hK hr hl hsR hn hh hbk hc1 hc2 rfl (vx_runSX (g := F0 m pc lsA _) (As := as.map (am_tr ad (am_sb cA))) ⟨hc.1, hc.2.1, hc.2.2.1, hc.2.2.2.1, hc.2.2.2.2.1⟩ hM cb ⟨am_blind, fun U hU hW => ⟨rfl, am_preU hr hc.2.2.2.2.2.1 hc.2.2.2.2.2.2.1 U hU hW⟩⟩ rfl (by rw [List.length_map]; exact hlen) hh.1 rfl (lv_room hcatm) hdg ⟨by omega, by omega⟩)
theorem am_invV_snd (hc : (am_ctx p l R s m args meth c cc nL own D cA A (am_sb cA) (d + 1))) {Hd : am_K → Nat → Nat → am_L → am_M → Prop} (hHd : ∀ K : am_K, (∀ k pc ls st w, K k pc ls st w → (am_J p l e R s m args below meth c D cA A Z (am_sb cA) nL n0 ad0) k pc ls st w) → am_hs p l e R s m args below meth c D cA A Z (am_sb cA) nL n0 ad0 K Hd pc) {y a ci : Nat} {T : u_T} {N : Nat} {x : MethodName} {bytes : ByteArray} {maxL idx : Nat} {ret : Option FieldType} (hy : am_nm y = x) (hcw : am_cw y = Cond.code x bytes maxL ret) (hcm : am_cw y ∈ am_tab) (hml : maxL ≤ 40) (hcl : vwCl[ci]? = some (x.cls, T, N)) (hini : Cond.initialized x.cls ∈ am_tab) (hlink : Cond.methodLink own idx x ∈ am_tab) (hinst : Cond.instanceMethod x ∈ am_tab) (hsel : Cond.selects x.cls x x ∈ am_tab) (hd : x.cls ≠ "java/lang/invoke/MethodHandle" ∧ x.cls ≠ "java/lang/invoke/VarHandle" ∧ (parseMethodDescriptor x.desc).map (fun d => d.parameters.length) = some a) (hdg : decode cc pc = .ok (.invokevirtual idx, 3)) (hpc : pc + 3 = n) : am_snd (am_J p l e R s m args below meth c D cA A Z (am_sb cA) nL n0 ad0) (fun K => am_invR (am_Call l d) (Hd K) y ci (a + 1) n K) pc := by
  subst hpc
  intro K hK k ls st w h ad H locs cells slots lsA hr hl hs hn hh hc1 hc2
  dsimp only [am_invR] at h
  obtain ⟨as, st', hst, hlen, hnn, h⟩ := am_take_iff h
  rw [List.append_nil] at h
  cases hbl : Nat.ble (am_cat st') 8 with
  | false => rw [hbl] at h; exact h.elim
  | true =>
  rw [hbl] at h
  have hcat := Nat.le_of_ble_eq_true hbl
  replace h := am_rc_iff h
  obtain ⟨⟨q0, as1, fs, hasq, hq0⟩, h⟩ := h
  subst hasq
  obtain ⟨b, hbk, h⟩ := h
  have hsA : ∀ v ∈ (Value.ref q0 :: as1), am_wv w.length v := fun v hv => hs v (by rw [hst]; exact List.mem_append_left _ (List.mem_reverse.mpr hv))
  have hsR : ∀ v ∈ st', am_wv w.length v := fun v hv => hs v (by rw [hst]; exact List.mem_append_right _ hv)
  have hM := h hsA hr.2.2.2.1 D cA ad H.size
  have hstk : st.map (am_tr ad (am_sb cA)) = ((Value.ref q0 :: as1).map (am_tr ad (am_sb cA))).reverse ++ st'.map (am_tr ad (am_sb cA)) := by
    rw [hst, List.map_append, List.map_reverse]
  have hfr := hc.2.2.2.2.2.2.2.2.2.1
  have hlo := hc.2.2.2.2.2.2.2.2.2.2.1
  have hcatm : (((st'.map (am_tr ad (am_sb cA)))).map fun v => v.category).sum ≤ 8 := by rw [am_cat_map hc.2.2.2.2.2.2.2.2.2.2.2]; exact hcat
  subst hy
  have cb := callB_of (ws := am_wsd y) (ws' := am_tab) (rm := am_room d b) (R := R) (mc := b) (ms := 1100 * b) a hc.2.2.2.2.1 (am_goodIn hcm) (by rw [am_wsd, hcw]) rfl rfl (hc.2.2.2.2.1 _ hini) (hc.2.2.2.2.1 _ hlink) hd ⟨am_rfr hfr, am_rlo hml hlo⟩
  rw [hstk]
  refine am_back (y := y) (as := .ref q0 :: as1) hc.2.2.2.2.2.2.1 (hHd K hK) hK hr hl hsR hn hh hbk hc1 hc2 rfl (vx_runV (g := F0 m pc lsA _) (b := ad q0) (As := as1.map (am_tr ad (am_sb cA))) ⟨hc.1, hc.2.1, hc.2.2.1, hc.2.2.2.1, hc.2.2.2.2.1⟩ hM ⟨cb, hc.2.2.2.2.1 _ hinst, hc.2.2.2.2.1 _ hsel⟩ ⟨am_blind, va_recv hc.2.2.2.2.2.1.1 hr.1 hcl (am_ws_at cA ad hq0), fun U hU hW => ⟨rfl, am_preU hr hc.2.2.2.2.2.1 hc.2.2.2.2.2.2.1 U hU hW⟩⟩ rfl (by rw [List.length_map]; simpa using hlen) hh.1 (by show List.reverse (_ :: _) ++ _ = _; rw [List.reverse_cons, List.append_assoc]; rfl) (lv_room hcatm) hdg ⟨by omega, by omega⟩)
theorem am_invI_snd (hc : (am_ctx p l R s m args meth c cc nL own D cA A (am_sb cA) (d + 1))) {Hd : am_K → Nat → Nat → am_L → am_M → Prop} (hHd : ∀ K : am_K, (∀ k pc ls st w, K k pc ls st w → (am_J p l e R s m args below meth c D cA A Z (am_sb cA) nL n0 ad0) k pc ls st w) → am_hs p l e R s m args below meth c D cA A Z (am_sb cA) nL n0 ad0 K Hd pc) {y a : Nat} {x : MethodName} {bytes : ByteArray} {maxL idx : Nat} (hy : am_nm y = x) (hcw : am_cw y = Cond.code x bytes maxL none) (hcm : am_cw y ∈ am_tab) (hml : maxL ≤ 40) (hnm : x.name = "<init>") (hini : Cond.initialized x.cls ∈ am_tab) (hlink : Cond.methodLink own idx x ∈ am_tab) (hinst : Cond.instanceMethod x ∈ am_tab) (hd : x.cls ≠ "java/lang/invoke/MethodHandle" ∧ x.cls ≠ "java/lang/invoke/VarHandle" ∧ (parseMethodDescriptor x.desc).map (fun d => d.parameters.length) = some a) (hdg : decode cc pc = .ok (.invokespecial idx, 3)) (hpc : pc + 3 = n) : am_snd (am_J p l e R s m args below meth c D cA A Z (am_sb cA) nL n0 ad0) (fun K => am_invJ (am_Call l d) (Hd K) y (a + 1) n K) pc := by
  subst hpc
  intro K hK k ls st w h ad H locs cells slots lsA hr hl hs hn hh hc1 hc2
  dsimp only [am_invJ] at h
  obtain ⟨as, st', hst, hlen, hnn, h⟩ := am_take_iff h
  rw [List.append_nil] at h
  cases hbl : Nat.ble (am_cat st') 8 with
  | false => rw [hbl] at h; exact h.elim
  | true =>
  rw [hbl] at h
  have hcat := Nat.le_of_ble_eq_true hbl
  replace h := am_rj_iff h
  obtain ⟨⟨q0, as1, hasq⟩, h⟩ := h
  subst hasq
  obtain ⟨b, hbk, h⟩ := h
  have hsA : ∀ v ∈ (Value.ref q0 :: as1), am_wv w.length v := fun v hv => hs v (by rw [hst]; exact List.mem_append_left _ (List.mem_reverse.mpr hv))
  have hsR : ∀ v ∈ st', am_wv w.length v := fun v hv => hs v (by rw [hst]; exact List.mem_append_right _ hv)
  have hM := h hsA hr.2.2.2.1 D cA ad H.size
  have hstk : st.map (am_tr ad (am_sb cA)) = ((Value.ref q0 :: as1).map (am_tr ad (am_sb cA))).reverse ++ st'.map (am_tr ad (am_sb cA)) := by
    rw [hst, List.map_append, List.map_reverse]
  have hfr := hc.2.2.2.2.2.2.2.2.2.1
  have hlo := hc.2.2.2.2.2.2.2.2.2.2.1
  have hcatm : (((st'.map (am_tr ad (am_sb cA)))).map fun v => v.category).sum ≤ 8 := by rw [am_cat_map hc.2.2.2.2.2.2.2.2.2.2.2]; exact hcat
  subst hy
  have cb := callB_of (ws := am_wsd y) (ws' := am_tab) (rm := am_room d b) (R := R) (mc := b) (ms := 1100 * b) a hc.2.2.2.2.1 (am_goodIn hcm) (by rw [am_wsd, hcw]) rfl rfl (hc.2.2.2.2.1 _ hini) (hc.2.2.2.2.1 _ hlink) hd ⟨am_rfr hfr, am_rlo hml hlo⟩
  rw [hstk]
  refine am_back (y := y) (as := .ref q0 :: as1) hc.2.2.2.2.2.2.1 (hHd K hK) hK hr hl hsR hn hh hbk hc1 hc2 rfl (vx_runI (g := F0 m pc lsA _) (b := ad q0) (As := as1.map (am_tr ad (am_sb cA))) ⟨hc.1, hc.2.1, hc.2.2.1, hc.2.2.2.1, hc.2.2.2.2.1⟩ hM ⟨cb, hnm, hc.2.2.2.2.1 _ hinst⟩ ⟨am_blind, fun U hU hW => ⟨rfl, am_preU hr hc.2.2.2.2.2.1 hc.2.2.2.2.2.2.1 U hU hW⟩⟩ rfl (by rw [List.length_map]; simpa using hlen) hh.1 (by show List.reverse (_ :: _) ++ _ = _; rw [List.reverse_cons, List.append_assoc]; rfl) (lv_room hcatm) hdg ⟨by omega, by omega⟩)
theorem am_invIN_snd (hc : (am_ctx p l R s m args meth c cc nL own D cA A (am_sb cA) (d + 1))) {Hd : am_K → Nat → Nat → am_L → am_M → Prop} (hHd : ∀ K : am_K, (∀ k pc ls st w, K k pc ls st w → (am_J p l e R s m args below meth c D cA A Z (am_sb cA) nL n0 ad0) k pc ls st w) → am_hs p l e R s m args below meth c D cA A Z (am_sb cA) nL n0 ad0 K Hd pc) {y a : Nat} {x : MethodName} {bytes : ByteArray} {maxL idx : Nat} (hy : am_nm y = x) (hcw : am_cw y = Cond.code x bytes maxL none) (hcm : am_cw y ∈ am_tab) (hml : maxL ≤ 40) (hnm : x.name = "<init>") (hini : Cond.initialized x.cls ∈ am_tab) (host : String) (hlink : (own, idx, x, host) ∈ am_nestM) (hinst : Cond.instanceMethod x ∈ am_tab) (hd : x.cls ≠ "java/lang/invoke/MethodHandle" ∧ x.cls ≠ "java/lang/invoke/VarHandle" ∧ (parseMethodDescriptor x.desc).map (fun d => d.parameters.length) = some a) (hdg : decode cc pc = .ok (.invokespecial idx, 3)) (hpc : pc + 3 = n) : am_snd (am_J p l e R s m args below meth c D cA A Z (am_sb cA) nL n0 ad0) (fun K => am_invJ (am_Call l d) (Hd K) y (a + 1) n K) pc := by
  subst hpc
  intro K hK k ls st w h ad H locs cells slots lsA hr hl hs hn hh hc1 hc2
  dsimp only [am_invJ] at h
  obtain ⟨as, st', hst, hlen, hnn, h⟩ := am_take_iff h
  rw [List.append_nil] at h
  cases hbl : Nat.ble (am_cat st') 8 with
  | false => rw [hbl] at h; exact h.elim
  | true =>
  rw [hbl] at h
  have hcat := Nat.le_of_ble_eq_true hbl
  replace h := am_rj_iff h
  obtain ⟨⟨q0, as1, hasq⟩, h⟩ := h
  subst hasq
  obtain ⟨b, hbk, h⟩ := h
  have hsA : ∀ v ∈ (Value.ref q0 :: as1), am_wv w.length v := fun v hv => hs v (by rw [hst]; exact List.mem_append_left _ (List.mem_reverse.mpr hv))
  have hsR : ∀ v ∈ st', am_wv w.length v := fun v hv => hs v (by rw [hst]; exact List.mem_append_right _ hv)
  have hM := h hsA hr.2.2.2.1 D cA ad H.size
  have hstk : st.map (am_tr ad (am_sb cA)) = ((Value.ref q0 :: as1).map (am_tr ad (am_sb cA))).reverse ++ st'.map (am_tr ad (am_sb cA)) := by
    rw [hst, List.map_append, List.map_reverse]
  have hfr := hc.2.2.2.2.2.2.2.2.2.1
  have hlo := hc.2.2.2.2.2.2.2.2.2.2.1
  have hcatm : (((st'.map (am_tr ad (am_sb cA)))).map fun v => v.category).sum ≤ 8 := by rw [am_cat_map hc.2.2.2.2.2.2.2.2.2.2.2]; exact hcat
  subst hy
  have cb := va_cnB (ws := am_wsd y) (ws' := am_tab) (rm := am_room d b) (R := R) (mc := b) (ms := 1100 * b) (host := host) a hc.2.2.2.2.1 (am_goodIn hcm) (by rw [am_wsd, hcw]) rfl rfl (hc.2.2.2.2.2.1.2.2.1 _ hlink) (hc.2.2.2.2.1 _ hini) hd ⟨am_rfr hfr, am_rlo hml hlo⟩
  rw [hstk]
  refine am_back (y := y) (as := .ref q0 :: as1) hc.2.2.2.2.2.2.1 (hHd K hK) hK hr hl hsR hn hh hbk hc1 hc2 rfl (vx_runIN (g := F0 m pc lsA _) (b := ad q0) (As := as1.map (am_tr ad (am_sb cA))) ⟨hc.1, hc.2.1, hc.2.2.1, hc.2.2.2.1, hc.2.2.2.2.1⟩ hM ⟨cb, hnm, hc.2.2.2.2.1 _ hinst⟩ ⟨am_blind, fun U hU hW => ⟨rfl, am_preU hr hc.2.2.2.2.2.1 hc.2.2.2.2.2.2.1 U hU hW⟩⟩ rfl (by rw [List.length_map]; simpa using hlen) hh.1 (by show List.reverse (_ :: _) ++ _ = _; rw [List.reverse_cons, List.append_assoc]; rfl) (lv_room hcatm) hdg ⟨by omega, by omega⟩)
theorem am_no_hs {Q : am_Q} {w0 : am_M} {mc ms : Nat} {K : am_K} (hZ : Z = vx_MQ below (am_post D cA ad0 w0 A Q) (am_px D cA ad0 w0 A Q) args s mc ms A) (hn0 : n0 = w0.length) (hmc : R.cells = mc) (hms : R.slots = ms) (hlocks : meth.locks = false) (hout : ∀ x ∈ c.exceptionTable.toList, False) : am_hs p l e R s m args below meth c D cA A Z (am_sb cA) nL n0 ad0 K (am_no Q) pc := by
  intro x k ls w h ad H locs cells slots lsA rest q ce hr hl hn hh hc1 hc2 hce hcv hcl
  subst hZ
  subst hn0
  refine vx_out (fun x hx => (hout x hx).elim) hlocks hce hcv hcl (fun t ht hal => ⟨⟨x, w, ad, rfl, h, by rw [ht]; exact hr.1, hr.2.1, hr.2.2.2.1, hr.2.2.2.2.1, hr.2.2.2.2.2⟩, hr.2.2.1.F ht⟩) hr.2.2.1.2.2 (by omega) (by omega)
theorem am_ents_clr {ad : Nat → Nat} {u : Value} {l : am_L} {i : Nat} {ls : Array Slot} (hnb : (am_sb cA).category = 1) (hc : ∀ j o, j + 1 = i → l[j]? = some o → am_c2 o = false)
    (h : lv_has ls nL ((i, u) :: (am_ents ad (am_sb cA) 0 l).filter (fun q => !(q.1 == i) && !(q.1 + 1 == i && q.2.category == 2)))) : lv_has ls nL (am_ents ad (am_sb cA) 0 (l.set i none)) := by
  refine lv_less h fun q hq => ?_
  obtain ⟨j, v, h1, h2⟩ := am_ents_iff.mp hq
  by_cases hj : i = j
  · subst hj
    by_cases hi : i < l.length
    · rw [List.getElem?_set_self hi] at h1
      cases h1
    · rw [List.getElem?_eq_none (by rw [List.length_set]; omega)] at h1
      cases h1
  · rw [List.getElem?_set_ne hj] at h1
    refine List.mem_cons.mpr (Or.inr (List.mem_filter.mpr ⟨am_ents_iff.mpr ⟨j, v, h1, h2⟩, ?_⟩))
    subst h2
    simp only [Nat.zero_add, Bool.and_eq_true, Bool.not_eq_true', beq_eq_false_iff_ne, ne_eq, Bool.and_eq_false_iff]
    refine ⟨fun q => hj q.symm, ?_⟩
    by_cases hk : j + 1 = i
    · exact Or.inr (am_c2_cat hnb (hc j _ hk h1))
    · exact Or.inl hk
/-- the rows of a method's table, the ones tried last first: what am_hdl says of the rows behind 'pre' -/
theorem am_hd_hs0 {K : am_K} : am_hs p l e R s m args below meth c D cA A Z (am_sb cA) nL n0 ad0 K (am_hdl []) pc := by
  intro x k ls w h
  exact h.elim
theorem am_hd_hs (hc : (am_ctx p l R s m args meth c cc nL own D cA A (am_sb cA) d)) {K : am_K} (hK : ∀ k pc ls st w, K k pc ls st w → (am_J p l e R s m args below meth c D cA A Z (am_sb cA) nL n0 ad0) k pc ls st w) {r : List (Nat × Nat × Nat)} {x0 i : Nat} (pre : List ExceptionTableEntry) (z : ExceptionTableEntry) (suf : List ExceptionTableEntry) (hsplit : c.exceptionTable.toList = pre ++ z :: suf)
    (hpre : ∀ y ∈ pre, y.catchType ≠ 0 ∧ ∃ x1 : Nat, Cond.classLink own y.catchType (am_xn x1) ∈ am_tab ∧ (am_xn x0, am_xn x1) ∈ am_xs) (hcov : covers z pc = true) (h0 : z.catchType ≠ 0) (hlink : Cond.classLink own z.catchType (am_xn x0) ∈ am_tab) (hcast : am_xn x0 ∈ am_casts)
    (row : ∀ (H : Heap) (locs : List Loc) (cells slots : Nat) (ls : Array Slot) (rest : List Value) (x : Nat) (lv : List (Nat × Value)), lv_has ls nL lv → i < nL → (∀ ls' : Array Slot, lv_has ls' nL ((i, Value.ref x) :: lv.filter (fun q => !(q.1 == i) && !(q.1 + 1 == i && q.2.category == 2))) → W p l e R s m args below meth c H locs cells slots Z (F0 m t ls' rest)) → W p l e R s m args below meth c H locs cells slots Z (F0 m z.handlerPc ls (.ref x :: rest)))
    (hrest : am_hs p l e R s m args below meth c D cA A Z (am_sb cA) nL n0 ad0 K (am_hdl r) pc) : am_hs p l e R s m args below meth c D cA A Z (am_sb cA) nL n0 ad0 K (am_hdl ((x0, i, t) :: r)) pc := by
  intro x k ls w h ad H locs cells slots lsA rest q ce hr hl hn hh hc1 hc2 hce hcv hcl
  have h' : (bif Nat.beq x x0 then am_set ls i .null (fun ls' => K k t (ls'.set i none) [] w) else am_hdl r K x k ls w) := h
  cases hb : Nat.beq x x0 with
  | false =>
    rw [hb] at h'
    exact hrest x k ls w h' ad H locs cells slots lsA rest q ce hr hl hn hh hc1 hc2 hce hcv hcl
  | true =>
    rw [hb] at h'
    have hx0 := Nat.eq_of_beq_eq_true hb
    subst hx0
    obtain ⟨g1, g2, g3⟩ := am_set_iff h'
    rw [List.set_set] at g3
    refine vx_catch hc.2.2.2.1 pre z suf hsplit (fun y hy => ?_) hcov h0 (hc.2.2.2.2.1 _ hlink) ((hc.2.2.2.2.2.1.2.2.2.2.2.2.2.2.2 _ hcast).use rfl) hce hcv hcl ?_
    · obtain ⟨a1, x1, a2, a3⟩ := hpre y hy
      exact Or.inr ⟨a1, _, hc.2.2.2.2.1 _ a2, hc.2.2.2.2.2.1.2.2.2.2.2.2.2.1 _ a3⟩
    · refine row _ _ _ _ _ _ q _ hh (by omega) (fun ls' hls => ?_)
      exact hK _ _ _ _ _ g3 ad H locs cells slots ls' hr (am_wl_set hl (fun v hv => nomatch hv)) (fun v hv => absurd hv List.not_mem_nil) (by rw [List.length_set]; exact hn) (am_ents_clr hc.2.2.2.2.2.2.2.2.2.2.2 g2 hls) hc1 hc2
theorem am_iret_snd {Q : am_Q} {w0 : am_M} {mc ms : Nat} (hx : p.tables.exec = Jvm.exec) (hb : c.code = cc) (hZ : Z = vx_MQ below (am_post D cA ad0 w0 A Q) (am_px D cA ad0 w0 A Q) args s mc ms A) (hn0 : n0 = w0.length) (hmc : R.cells = mc) (hms : R.slots = ms) (hlocks : meth.locks = false) (hret : meth.sig.returnType = some .int) (hdg : decode cc pc = .ok (.ireturn, 1)) : am_snd (am_J p l e R s m args below meth c D cA A Z (am_sb cA) nL n0 ad0) (am_iret Q) pc := by
  intro K hK k ls st w h ad H locs cells slots lsA hr hl hs hn hh hc1 hc2
  dsimp only [am_iret] at h
  split at h
  · skip
    rename_i x
    subst hZ
    subst hn0
    refine W.widen (k := mc) (n := ms) (by omega) (by omega) (vx_ret ?_)
    exact W.iret hx hb hret (fun t ht hW => ⟨⟨some (.int x), w, ad, rfl, h, (fun u hu => by cases hu; exact ⟨trivial, rfl⟩), by rw [ht]; exact hr.1, hr.2.1, hr.2.2.2.1, hr.2.2.2.2.1, hr.2.2.2.2.2⟩, hr.2.2.1.F ht⟩) hr.2.2.1.2.2 hdg hlocks
  · exact h.elim
theorem am_lret_snd {Q : am_Q} {w0 : am_M} {mc ms : Nat} (hx : p.tables.exec = Jvm.exec) (hb : c.code = cc) (hZ : Z = vx_MQ below (am_post D cA ad0 w0 A Q) (am_px D cA ad0 w0 A Q) args s mc ms A) (hn0 : n0 = w0.length) (hmc : R.cells = mc) (hms : R.slots = ms) (hlocks : meth.locks = false) (hret : meth.sig.returnType = some .long) (hdg : decode cc pc = .ok (.lreturn, 1)) : am_snd (am_J p l e R s m args below meth c D cA A Z (am_sb cA) nL n0 ad0) (am_lret Q) pc := by
  intro K hK k ls st w h ad H locs cells slots lsA hr hl hs hn hh hc1 hc2
  dsimp only [am_lret] at h
  split at h
  · skip
    rename_i x
    subst hZ
    subst hn0
    refine W.widen (k := mc) (n := ms) (by omega) (by omega) (vx_ret ?_)
    exact W.lret hx hb hret (fun t ht hW => ⟨⟨some (.long x), w, ad, rfl, h, (fun u hu => by cases hu; exact ⟨trivial, rfl⟩), by rw [ht]; exact hr.1, hr.2.1, hr.2.2.2.1, hr.2.2.2.2.1, hr.2.2.2.2.2⟩, hr.2.2.1.F ht⟩) hr.2.2.1.2.2 hdg hlocks
  · exact h.elim
theorem am_dret_snd {Q : am_Q} {w0 : am_M} {mc ms : Nat} (hx : p.tables.exec = Jvm.exec) (hb : c.code = cc) (hZ : Z = vx_MQ below (am_post D cA ad0 w0 A Q) (am_px D cA ad0 w0 A Q) args s mc ms A) (hn0 : n0 = w0.length) (hmc : R.cells = mc) (hms : R.slots = ms) (hlocks : meth.locks = false) (hret : meth.sig.returnType = some .double) (hdg : decode cc pc = .ok (.dreturn, 1)) : am_snd (am_J p l e R s m args below meth c D cA A Z (am_sb cA) nL n0 ad0) (am_dret Q) pc := by
  intro K hK k ls st w h ad H locs cells slots lsA hr hl hs hn hh hc1 hc2
  dsimp only [am_dret] at h
  split at h
  · skip
    rename_i x
    subst hZ
    subst hn0
    refine W.widen (k := mc) (n := ms) (by omega) (by omega) (vx_ret ?_)
    exact W.dret hx hb hret (fun t ht hW => ⟨⟨some (.double x), w, ad, rfl, h, (fun u hu => by cases hu; exact ⟨trivial, rfl⟩), by rw [ht]; exact hr.1, hr.2.1, hr.2.2.2.1, hr.2.2.2.2.1, hr.2.2.2.2.2⟩, hr.2.2.1.F ht⟩) hr.2.2.1.2.2 hdg hlocks
  · exact h.elim
theorem am_vret_snd {Q : am_Q} {w0 : am_M} {mc ms : Nat} (hx : p.tables.exec = Jvm.exec) (hb : c.code = cc) (hZ : Z = vx_MQ below (am_post D cA ad0 w0 A Q) (am_px D cA ad0 w0 A Q) args s mc ms A) (hn0 : n0 = w0.length) (hmc : R.cells = mc) (hms : R.slots = ms) (hlocks : meth.locks = false) (hret : meth.sig.returnType = none) (hdg : decode cc pc = .ok (.return_, 1)) : am_snd (am_J p l e R s m args below meth c D cA A Z (am_sb cA) nL n0 ad0) (am_vret Q) pc := by
  intro K hK k ls st w h ad H locs cells slots lsA hr hl hs hn hh hc1 hc2
  dsimp only [am_vret] at h
  split at h
  · skip
    subst hZ
    subst hn0
    refine W.widen (k := mc) (n := ms) (by omega) (by omega) (vx_ret ?_)
    exact W.vret hx hb hret (fun t ht hW => ⟨⟨none, w, ad, rfl, h, (fun u hu => nomatch hu), by rw [ht]; exact hr.1, hr.2.1, hr.2.2.2.1, hr.2.2.2.2.1, hr.2.2.2.2.2⟩, hr.2.2.1.F ht⟩) hr.2.2.1.2.2 hdg hlocks
  · exact h.elim
theorem am_zret_snd {Q : am_Q} {w0 : am_M} {mc ms : Nat} (hx : p.tables.exec = Jvm.exec) (hb : c.code = cc) (hZ : Z = vx_MQ below (am_post D cA ad0 w0 A Q) (am_px D cA ad0 w0 A Q) args s mc ms A) (hn0 : n0 = w0.length) (hmc : R.cells = mc) (hms : R.slots = ms) (hlocks : meth.locks = false) (hret : meth.sig.returnType = some .boolean) (hdg : decode cc pc = .ok (.ireturn, 1)) : am_snd (am_J p l e R s m args below meth c D cA A Z (am_sb cA) nL n0 ad0) (am_zret Q) pc := by
  intro K hK k ls st w h ad H locs cells slots lsA hr hl hs hn hh hc1 hc2
  dsimp only [am_zret] at h
  split at h
  · rename_i x
    subst hZ
    subst hn0
    refine W.widen (k := mc) (n := ms) (by omega) (by omega) (vx_ret ?_)
    exact W.zret hx hb hret h.1 (fun t ht hW => ⟨⟨some (.int x), w, ad, rfl, h.2, (fun u hu => by cases hu; exact ⟨trivial, rfl⟩), by rw [ht]; exact hr.1, hr.2.1, hr.2.2.2.1, hr.2.2.2.2.1, hr.2.2.2.2.2⟩, hr.2.2.1.F ht⟩) hr.2.2.1.2.2 hdg hlocks
  · exact h.elim
theorem am_aret_snd {Q : am_Q} {w0 : am_M} {mc ms : Nat} {rt : FieldType} (hx : p.tables.exec = Jvm.exec) (hb : c.code = cc) (hZ : Z = vx_MQ below (am_post D cA ad0 w0 A Q) (am_px D cA ad0 w0 A Q) args s mc ms A) (hn0 : n0 = w0.length) (hmc : R.cells = mc) (hms : R.slots = ms) (hlocks : meth.locks = false) (hret : meth.sig.returnType = some (.array rt)) (hdg : decode cc pc = .ok (.areturn, 1)) : am_snd (am_J p l e R s m args below meth c D cA A Z (am_sb cA) nL n0 ad0) (am_aret Q) pc := by
  intro K hK k ls st w h ad H locs cells slots lsA hr hl hs hn hh hc1 hc2
  dsimp only [am_aret] at h
  split at h
  · rename_i x
    subst hZ
    subst hn0
    refine W.widen (k := mc) (n := ms) (by omega) (by omega) (vx_ret ?_)
    exact W.aret (v := .ref (ad x)) hx hb hret (Or.inr ⟨_, rfl⟩) (Or.inr ⟨_, rfl⟩) (fun t ht hW => ⟨⟨some (.ref x), w, ad, rfl, h, (fun u hu => by cases hu; exact ⟨am_top hs, rfl⟩), by rw [ht]; exact hr.1, hr.2.1, hr.2.2.2.1, hr.2.2.2.2.1, hr.2.2.2.2.2⟩, hr.2.2.1.F ht⟩) hr.2.2.1.2.2 hdg hlocks
  · exact h.elim
theorem am_throw_snd {Q : am_Q} {w0 : am_M} {mc ms x ik is ic : Nat} {text : String} (hc : (am_ctx p l R s m args meth c cc nL own D cA A (am_sb cA) d)) (hZ : Z = vx_MQ below (am_post D cA ad0 w0 A Q) (am_px D cA ad0 w0 A Q) args s mc ms A) (hn0 : n0 = w0.length) (hmc : R.cells = mc) (hms : R.slots = ms) (hout : ∀ x ∈ c.exceptionTable.toList, False) (hfit : Bundle.fit (am_xn x) = true) (hk : Cond.classLink own ik (am_xn x) ∈ am_tab) (hini : Cond.initialized (am_xn x) ∈ am_tab) (hstr : (own, is, text) ∈ am_strs) (hgw : ∀ w ∈ (vx_atS own ic (am_xn x) ["java/lang/RuntimeException", "java/lang/Exception"]).filter goodWord, w ∈ am_tab) (hbw : ∀ w ∈ (vx_atS own ic (am_xn x) ["java/lang/RuntimeException", "java/lang/Exception"]).filter (fun w => !goodWord w), w ∈ am_decls.map Cond.declares ++ am_casts.map (fun q => Cond.castable q q)) (hgood : ∀ w ∈ Cond.classLink own ik (am_xn x) :: Cond.initialized (am_xn x) :: vx_atS own ic (am_xn x) ["java/lang/RuntimeException", "java/lang/Exception"], vx_ot w = true)
    (d0 : decode cc pc = .ok (.new ik, 3)) (d3 : decode cc (pc + 3) = .ok (.dup, 1)) (d4 : decode cc (pc + 4) = .ok (.ldc is, 2)) (d6 : decode cc (pc + 6) = .ok (.invokespecial ic, 3)) (d9 : decode cc (pc + 9) = .ok (.athrow, 1)) : am_snd (am_J p l e R s m args below meth c D cA A Z (am_sb cA) nL n0 ad0) (am_throw Q x) pc := by
  intro K hK k ls st w h ad H locs cells slots lsA hr hl hs hn hh hc1 hc2
  dsimp only [am_throw] at h
  cases hbl : Nat.ble (am_cat st) 8 with
  | false => rw [hbl] at h; exact h.elim
  | true =>
  rw [hbl] at h
  have hcat := Nat.le_of_ble_eq_true hbl
  obtain ⟨h1, h⟩ := h
  have hfr := hc.2.2.2.2.2.2.2.2.2.1
  have hlo := hc.2.2.2.2.2.2.2.2.2.2.1
  have hG := hc.2.2.2.2.2.1
  have hat : ∀ w ∈ vx_atS own ic (am_xn x) ["java/lang/RuntimeException", "java/lang/Exception"], w.before args s = true := vx_hat (fun w hw => hc.2.2.2.2.1 _ (hgw w hw)) hbw (fun w hw => by
    rcases List.mem_append.mp hw with hw | hw
    · obtain ⟨q, hq, rfl⟩ := List.mem_map.mp hw
      exact (hG.2.2.2.2.2.2.2.2.1 q hq).use rfl
    · obtain ⟨q, hq, rfl⟩ := List.mem_map.mp hw
      exact (hG.2.2.2.2.2.2.2.2.2 q hq).use rfl)
  obtain ⟨sa, hsa⟩ := hG.2.2.2.2.2.1 _ hstr
  subst hZ
  subst hn0
  refine vx_throwS (names := ["java/lang/RuntimeException", "java/lang/Exception"]) hc.1 hc.2.1 hc.2.2.2.2.2.2.2.2.1 hc.2.2.2.1 hfit (by decide +kernel) (hc.2.2.2.2.1 _ hk) (hc.2.2.2.2.1 _ hini) hsa hat hgood hG.2.2.2.1 hG.2.2.2.2.1 hr.2.2.1 (by rw [hc.2.2.1]; exact hh.1) d0 d3 d4 d6 d9 (fun x hx => (hout x hx).elim) (by show 2 + 3 < _; omega) (by rw [am_cat_map hc.2.2.2.2.2.2.2.2.2.2.2]; show am_cat st + (13 * (2 + 1) + 43) ≤ _; omega) (by omega) (by omega) hc.2.2.2.2.2.2.2.1 (fun t hal hsz hkept => ?_) hr.2.2.1.2.2 (by omega) (by omega)
  refine ⟨⟨x, w, ad, rfl, h, hr.1.kept (fun k q hq => hkept q.1 (hr.1 k q hq).lt), hr.2.1, hr.2.2.2.1, hr.2.2.2.2.1, hr.2.2.2.2.2⟩, Nat.le_trans hr.2.2.1.1 hsz, fun q h1 h2 => (hkept q (Nat.lt_of_lt_of_le h1 hr.2.2.1.1)).trans (hr.2.2.1.2.1 q h1 h2)⟩
theorem am_throwW_snd {Q : am_Q} {w0 : am_M} {mc ms x ik is ic : Nat} {text : String} (hc : (am_ctx p l R s m args meth c cc nL own D cA A (am_sb cA) d)) (hZ : Z = vx_MQ below (am_post D cA ad0 w0 A Q) (am_px D cA ad0 w0 A Q) args s mc ms A) (hn0 : n0 = w0.length) (hmc : R.cells = mc) (hms : R.slots = ms) (hout : ∀ x ∈ c.exceptionTable.toList, False) (hfit : Bundle.fit (am_xn x) = true) (hk : Cond.classLink own ik (am_xn x) ∈ am_tab) (hini : Cond.initialized (am_xn x) ∈ am_tab) (hstr : (own, is, text) ∈ am_strs) (hgw : ∀ w ∈ (vx_atS own ic (am_xn x) ["java/lang/RuntimeException", "java/lang/Exception"]).filter goodWord, w ∈ am_tab) (hbw : ∀ w ∈ (vx_atS own ic (am_xn x) ["java/lang/RuntimeException", "java/lang/Exception"]).filter (fun w => !goodWord w), w ∈ am_decls.map Cond.declares ++ am_casts.map (fun q => Cond.castable q q)) (hgood : ∀ w ∈ Cond.classLink own ik (am_xn x) :: Cond.initialized (am_xn x) :: vx_atS own ic (am_xn x) ["java/lang/RuntimeException", "java/lang/Exception"], vx_ot w = true)
    (d0 : decode cc pc = .ok (.new ik, 3)) (d3 : decode cc (pc + 3) = .ok (.dup, 1)) (d4 : decode cc (pc + 4) = .ok (.ldc_w is, 3)) (d6 : decode cc (pc + 7) = .ok (.invokespecial ic, 3)) (d9 : decode cc (pc + 10) = .ok (.athrow, 1)) : am_snd (am_J p l e R s m args below meth c D cA A Z (am_sb cA) nL n0 ad0) (am_throw Q x) pc := by
  intro K hK k ls st w h ad H locs cells slots lsA hr hl hs hn hh hc1 hc2
  dsimp only [am_throw] at h
  cases hbl : Nat.ble (am_cat st) 8 with
  | false => rw [hbl] at h; exact h.elim
  | true =>
  rw [hbl] at h
  have hcat := Nat.le_of_ble_eq_true hbl
  obtain ⟨h1, h⟩ := h
  have hfr := hc.2.2.2.2.2.2.2.2.2.1
  have hlo := hc.2.2.2.2.2.2.2.2.2.2.1
  have hG := hc.2.2.2.2.2.1
  have hat : ∀ w ∈ vx_atS own ic (am_xn x) ["java/lang/RuntimeException", "java/lang/Exception"], w.before args s = true := vx_hat (fun w hw => hc.2.2.2.2.1 _ (hgw w hw)) hbw (fun w hw => by
    rcases List.mem_append.mp hw with hw | hw
    · obtain ⟨q, hq, rfl⟩ := List.mem_map.mp hw
      exact (hG.2.2.2.2.2.2.2.2.1 q hq).use rfl
    · obtain ⟨q, hq, rfl⟩ := List.mem_map.mp hw
      exact (hG.2.2.2.2.2.2.2.2.2 q hq).use rfl)
  obtain ⟨sa, hsa⟩ := hG.2.2.2.2.2.1 _ hstr
  subst hZ
  subst hn0
  refine vx_throwSW (names := ["java/lang/RuntimeException", "java/lang/Exception"]) hc.1 hc.2.1 hc.2.2.2.2.2.2.2.2.1 hc.2.2.2.1 hfit (by decide +kernel) (hc.2.2.2.2.1 _ hk) (hc.2.2.2.2.1 _ hini) hsa hat hgood hG.2.2.2.1 hG.2.2.2.2.1 hr.2.2.1 (by rw [hc.2.2.1]; exact hh.1) d0 d3 d4 d6 d9 (fun x hx => (hout x hx).elim) (by show 2 + 3 < _; omega) (by rw [am_cat_map hc.2.2.2.2.2.2.2.2.2.2.2]; show am_cat st + (13 * (2 + 1) + 43) ≤ _; omega) (by omega) (by omega) hc.2.2.2.2.2.2.2.1 (fun t hal hsz hkept => ?_) hr.2.2.1.2.2 (by omega) (by omega)
  refine ⟨⟨x, w, ad, rfl, h, hr.1.kept (fun k q hq => hkept q.1 (hr.1 k q hq).lt), hr.2.1, hr.2.2.2.1, hr.2.2.2.2.1, hr.2.2.2.2.2⟩, Nat.le_trans hr.2.2.1.1 hsz, fun q h1 h2 => (hkept q (Nat.lt_of_lt_of_le h1 hr.2.2.1.1)).trans (hr.2.2.1.2.1 q h1 h2)⟩
theorem va_D.like {A : Nat → Prop} {ws ws' : va_W} (h : ws'.map (fun q => q.1) = ws.map (fun q => q.1)) (hD : va_D A ws) : va_D A ws' := by
  have key : ∀ (i : Nat) (p : Nat × va_E), ws'[i]? = some p → ∃ q : Nat × va_E, ws[i]? = some q ∧ q.1 = p.1 := by
    intro i p hp
    have h1 : (ws'.map (fun q => q.1))[i]? = some p.1 := by rw [List.getElem?_map, hp]; rfl
    rw [h, List.getElem?_map] at h1
    cases hq : ws[i]? with
    | none => rw [hq] at h1; cases h1
    | some q => rw [hq] at h1; exact ⟨q, rfl, Option.some.inj h1⟩
  refine ⟨fun i j p q hp hq hpq => ?_, fun k q hq => ?_⟩
  · obtain ⟨p1, a1, a2⟩ := key i p hp
    obtain ⟨q1, b1, b2⟩ := key j q hq
    exact hD.1 i j p1 q1 a1 b1 (by rw [a2, b2]; exact hpq)
  · obtain ⟨q1, b1, b2⟩ := key k q hq
    rw [← b2]
    exact hD.2 k q1 b1
/-- the places behind new boolean[4][32] -/
def am_ad4 (ad : Nat → Nat) (n q : Nat) (r : Nat → Nat) : Nat → Nat := fun j => if j = n then q else if n < j ∧ j < n + 5 then r (j - (n + 1)) else ad j
theorem am_mna_snd (hc : (am_ctx p l R s m args meth c cc nL own D cA A (am_sb cA) d)) {idx : Nat} (hlink : Cond.classLink own idx "[[Z" ∈ am_tab) (harr : Cond.arrayClass .boolean ∈ am_tab) (hdg : decode cc pc = .ok (.multianewarray idx 2, 4)) (hpc : pc + 4 = n) : am_snd (am_J p l e R s m args below meth c D cA A Z (am_sb cA) nL n0 ad0) (am_mna n) pc := by
  subst hpc
  intro K hK k ls st w h ad H locs cells slots lsA hr hl hs hn hh hc1 hc2
  dsimp only [am_mna] at h
  split at h
  · rename_i y x st'
    obtain ⟨rfl, rfl, h6, h⟩ := h
    have hG := hc.2.2.2.2.2.1
    have g2 : s.vm.findClass (FieldType.array .boolean).toString = some (cA 1) := (hG.1.2 1 (cA 1, .boolean) rfl).2
    refine va_mna (X := am_ws cA ad w) (L := []) (f := fun _ => .inr (0, [])) (ty := .boolean) (cy := cA 1) (N' := 4) (K' := 32) (z := (32, .inl (fun _ => 0))) hc.1 hc.2.1 hc.2.2.2.1 (hc.2.2.2.2.1 _ hlink) hG.2.2.2.2.2.2.1.2.1 (hc.2.2.2.2.1 _ harr) g2 hG.1 (by show va_P _ _ (_ ++ []) _; rw [List.append_nil]; exact hr.1) (by show va_D _ (_ ++ []); rw [List.append_nil]; exact hr.2.1) hr.2.2.1 hc.2.2.2.2.2.2.1 (by decide) (by decide) (by decide) (by decide) (by decide) (by decide) (by decide) rfl rfl (by omega) (by omega) (fun c => arrV_new c 32 (.int 0)) hdg (fun q r cI H1 hinj hnot hK1 hP1 hD1 hS1 => ?_)
    have hcI : cI = cA 4 := by
      have g1 := (hK1.2 5 (cI, .array .boolean) rfl).2
      have g3 := (hG.1.2 4 (cA 4, .array .boolean) rfl).2
      exact Option.some.inj (g1.symm.trans g3)
    subst hcI
    have hext : ∀ j, j < w.length → am_ad4 ad w.length q r j = ad j := fun j hj => by
      unfold am_ad4
      rw [if_neg (by omega), if_neg (by omega)]
    have hq0 : am_ad4 ad w.length q r w.length = q := if_pos rfl
    have hrow : ∀ i, i < 4 → am_ad4 ad w.length q r (w.length + 1 + i) = r i := fun i hi => by
      unfold am_ad4
      rw [if_neg (by omega), if_pos (by omega), show w.length + 1 + i - (w.length + 1) = i by omega]
    have hpl : va_pl ([] ++ (List.range 4).map r) (vr_up (fun _ => (.inr (0, []) : va_E)) ((List.range 4).map r) (.inl (cA 1, (32, .inl (fun _ => 0))))) = [(r 0, .inl (cA 1, (32, .inl (fun _ => 0)))), (r 1, .inl (cA 1, (32, .inl (fun _ => 0)))), (r 2, .inl (cA 1, (32, .inl (fun _ => 0)))), (r 3, .inl (cA 1, (32, .inl (fun _ => 0))))] := by
      have hl5 : List.range 4 = [0, 1, 2, 3] := rfl
      rw [hl5]
      simp [va_pl, vr_up]
    rw [hpl] at hP1 hD1
    have hws : am_ws cA (am_ad4 ad w.length q r) (w ++ [.inl (4, 4, .inr (.inr (am_rows w.length))), .inl (1, 32, .inl (fun _ => 0)), .inl (1, 32, .inl (fun _ => 0)), .inl (1, 32, .inl (fun _ => 0)), .inl (1, 32, .inl (fun _ => 0))]) = (am_ws cA ad w ++ [(q, am_tE cA (am_ad4 ad w.length q r) (.inl (4, 4, .inr (.inr (am_rows w.length)))))]) ++ [(r 0, .inl (cA 1, (32, .inl (fun _ => 0)))), (r 1, .inl (cA 1, (32, .inl (fun _ => 0)))), (r 2, .inl (cA 1, (32, .inl (fun _ => 0)))), (r 3, .inl (cA 1, (32, .inl (fun _ => 0))))] := by
      rw [← am_ws_ext (Nat.le_refl _) hext hr.2.2.2.1]
      simp only [am_ws, List.mapIdx_append, List.append_assoc]
      congr 1
      simp only [List.mapIdx_cons, List.mapIdx_nil, Nat.zero_add, List.cons_append, List.nil_append]
      rw [hq0]
      have e0 := hrow 0 (by omega)
      have e1 := hrow 1 (by omega)
      have e2 := hrow 2 (by omega)
      have e3 := hrow 3 (by omega)
      rw [show (1 : Nat) + w.length = w.length + 1 + 0 by omega, show (1 + 1 : Nat) + w.length = w.length + 1 + 1 by omega, show (1 + 1 + 1 : Nat) + w.length = w.length + 1 + 2 by omega, show (1 + 1 + 1 + 1 : Nat) + w.length = w.length + 1 + 3 by omega, e0, e1, e2, e3]
      rfl
    have hcell : ∀ Hx : Heap, va_at D vwCl (q, .inl (cA 4, 4, .inr (.inr (.inr (.inr (fun i => if i < 4 then some (r i) else none)))))) Hx → va_at D vwCl (q, am_tE cA (am_ad4 ad w.length q r) (.inl (4, 4, .inr (.inr (am_rows w.length))))) Hx := by
      intro Hx hx
      refine Eq.trans hx (congrArg some ?_)
      show arrV (cA 4) 4 (fun j => va_rf (if j < 4 then some (r j) else none)) = arrV (cA 4) 4 (fun j => va_rf ((am_rows w.length j).map (am_ad4 ad w.length q r)))
      refine arrV_same fun j hj => ?_
      show va_rf (if j < 4 then some (r j) else none) = va_rf ((am_rows w.length j).map (am_ad4 ad w.length q r))
      rw [if_pos hj, am_rows, if_pos hj, Option.map_some, hrow j hj]
    have hlen : (w ++ [.inl (4, 4, .inr (.inr (am_rows w.length))), .inl (1, 32, .inl (fun _ => 0)), .inl (1, 32, .inl (fun _ => 0)), .inl (1, 32, .inl (fun _ => 0)), .inl (1, 32, .inl (fun _ => 0))] : am_M).length = w.length + 5 := by simp
    have k1 := hK _ _ _ _ _ h (am_ad4 ad w.length q r) H1 locs (cells + 1 + 4) (slots + 4 + 4 * 32) lsA ⟨?_, ?_, hS1, fun e he => ?_, by rw [hlen]; have := hr.2.2.2.2.1; omega, fun j hj => (hext j (Nat.lt_of_lt_of_le hj hr.2.2.2.2.1)).trans (hr.2.2.2.2.2 j hj)⟩ (fun v hv => am_wv_le (by rw [hlen]; omega) (hl v hv)) (am_cr (by rw [hlen]; omega) (fun v hv => am_wv_le (by rw [hlen]; omega) (am_tl (am_tl hs) v hv))) hn (by rw [am_ents_ext hext hl]; exact hh) (by omega) (by omega)
    · rw [List.map_cons, am_map_ext hext (am_tl (am_tl hs))] at k1
      have e9 : am_tr (am_ad4 ad w.length q r) (am_sb cA) (.ref w.length) = .ref q := congrArg Value.ref hq0
      rw [e9] at k1
      exact k1
    · rw [hws]
      rw [List.append_assoc] at hP1 ⊢
      intro i z hz
      by_cases hi : i = (am_ws cA ad w).length
      · subst hi
        rw [List.getElem?_append_right (Nat.le_refl _), Nat.sub_self] at hz
        cases hz
        refine hcell _ (hP1 (am_ws cA ad w).length _ ?_)
        rw [List.getElem?_append_right (Nat.le_refl _), Nat.sub_self]
        rfl
      · refine hP1 i z ?_
        by_cases hi2 : i < (am_ws cA ad w).length
        · rw [List.getElem?_append_left hi2] at hz ⊢
          exact hz
        · rw [List.getElem?_append_right (by omega)] at hz ⊢
          obtain ⟨j, hj⟩ : ∃ j, i - (am_ws cA ad w).length = j + 1 := ⟨i - (am_ws cA ad w).length - 1, by omega⟩
          rw [hj] at hz ⊢
          exact hz
    · rw [hws]
      refine va_D.like ?_ hD1
      simp only [List.map_append, List.map_cons, List.map_nil]
    · rw [hlen]
      rcases List.mem_append.mp he with he | he
      · exact am_we_le (by omega) (hr.2.2.2.1 e he)
      · simp only [List.mem_cons, List.not_mem_nil, or_false] at he
        rcases he with rfl | rfl | rfl | rfl | rfl
        · intro j r hjr
          unfold am_rows at hjr
          split at hjr
          · cases hjr; omega
          · cases hjr
        · trivial
        · trivial
        · trivial
        · trivial
  · exact h.elim
theorem am_invVX_snd (hc : (am_ctx p l R s m args meth c cc nL own D cA A (am_sb cA) (d + 1))) {Hd : am_K → Nat → Nat → am_L → am_M → Prop} (hHd : ∀ K : am_K, (∀ k pc ls st w, K k pc ls st w → (am_J p l e R s m args below meth c D cA A Z (am_sb cA) nL n0 ad0) k pc ls st w) → am_hs p l e R s m args below meth c D cA A Z (am_sb cA) nL n0 ad0 K Hd pc) {y a ci : Nat} {hhT : List (Nat × Nat × Nat × Nat)} {T : u_T} {N : Nat} {x : MethodName} {bytes : ByteArray} {maxL idx : Nat} {ret : Option FieldType} (hy : am_nm y = x) (hcw : am_cw y = Cond.codeWith x bytes maxL ret hhT) (hcm : am_cw y ∈ am_tab) (hml : maxL ≤ 40) (hcl : vwCl[ci]? = some (x.cls, T, N)) (hini : Cond.initialized x.cls ∈ am_tab) (hlink : Cond.methodLink own idx x ∈ am_tab) (hinst : Cond.instanceMethod x ∈ am_tab) (hsel : Cond.selects x.cls x x ∈ am_tab) (hd : x.cls ≠ "java/lang/invoke/MethodHandle" ∧ x.cls ≠ "java/lang/invoke/VarHandle" ∧ (parseMethodDescriptor x.desc).map (fun d => d.parameters.length) = some a) (hdg : decode cc pc = .ok (.invokevirtual idx, 3)) (hpc : pc + 3 = n) : am_snd (am_J p l e R s m args below meth c D cA A Z (am_sb cA) nL n0 ad0) (fun K => am_invR (am_Call l d) (Hd K) y ci (a + 1) n K) pc := by
  subst hpc
  intro K hK k ls st w h ad H locs cells slots lsA hr hl hs hn hh hc1 hc2
  dsimp only [am_invR] at h
  obtain ⟨as, st', hst, hlen, hnn, h⟩ := am_take_iff h
  rw [List.append_nil] at h
  cases hbl : Nat.ble (am_cat st') 8 with
  | false => rw [hbl] at h; exact h.elim
  | true =>
  rw [hbl] at h
  have hcat := Nat.le_of_ble_eq_true hbl
  replace h := am_rc_iff h
  obtain ⟨⟨q0, as1, fs, hasq, hq0⟩, h⟩ := h
  subst hasq
  obtain ⟨b, hbk, h⟩ := h
  have hsA : ∀ v ∈ (Value.ref q0 :: as1), am_wv w.length v := fun v hv => hs v (by rw [hst]; exact List.mem_append_left _ (List.mem_reverse.mpr hv))
  have hsR : ∀ v ∈ st', am_wv w.length v := fun v hv => hs v (by rw [hst]; exact List.mem_append_right _ hv)
  have hM := h hsA hr.2.2.2.1 D cA ad H.size
  have hstk : st.map (am_tr ad (am_sb cA)) = ((Value.ref q0 :: as1).map (am_tr ad (am_sb cA))).reverse ++ st'.map (am_tr ad (am_sb cA)) := by
    rw [hst, List.map_append, List.map_reverse]
  have hfr := hc.2.2.2.2.2.2.2.2.2.1
  have hlo := hc.2.2.2.2.2.2.2.2.2.2.1
  have hcatm : (((st'.map (am_tr ad (am_sb cA)))).map fun v => v.category).sum ≤ 8 := by rw [am_cat_map hc.2.2.2.2.2.2.2.2.2.2.2]; exact hcat
  subst hy
  have hG := am_goodIn hcm
  have cb : vx_CVW R s args own (am_nm y).cls idx (am_nm y) bytes maxL ret hhT (am_wsd y) (am_room d b) b (1100 * b) a := by
    refine ⟨⟨rfl, rfl, am_rfr hfr, am_rlo hml hlo, pay_in hc.2.2.2.2.1 hG, by rw [am_wsd, hcw]; exact List.mem_cons_self⟩, ?_, hc.2.2.2.2.1 _ hini, ⟨hd.1, hd.2.1⟩, fun sig h => ?_, hc.2.2.2.2.1 _ hlink, hc.2.2.2.2.1 _ hinst, hc.2.2.2.2.1 _ hsel⟩
    · have := hc.2.2.2.2.1 _ hcm
      rwa [hcw] at this
    · have h2 := hd.2.2
      rw [h] at h2
      exact (Option.some.inj h2).symm
  rw [hstk]
  refine am_back (y := y) (as := .ref q0 :: as1) hc.2.2.2.2.2.2.1 (hHd K hK) hK hr hl hsR hn hh hbk hc1 hc2 rfl (vx_runVX (g := F0 m pc lsA _) (b := ad q0) (As := as1.map (am_tr ad (am_sb cA))) ⟨hc.1, hc.2.1, hc.2.2.1, hc.2.2.2.1, hc.2.2.2.2.1⟩ hM cb ⟨am_blind, va_recv hc.2.2.2.2.2.1.1 hr.1 hcl (am_ws_at cA ad hq0), fun U hU hW => ⟨rfl, am_preU hr hc.2.2.2.2.2.1 hc.2.2.2.2.2.2.1 U hU hW⟩⟩ rfl (by rw [List.length_map]; simpa using hlen) hh.1 (by show List.reverse (_ :: _) ++ _ = _; rw [List.reverse_cons, List.append_assoc]; rfl) (lv_room hcatm) hdg ⟨by omega, by omega⟩)

end AMC
end
section
/-! a contract out of a body -/
def am_entL : List Value → am_L
  | [] => []
  | v :: vs => match v with
    | .long x => some (.long x) :: none :: am_entL vs
    | .double x => some (.double x) :: none :: am_entL vs
    | v => some v :: am_entL vs
def am_ent (nL : Nat) (a : List Value) : am_L := am_entL a ++ List.replicate (nL - (am_entL a).length) none
theorem am_ents_none {ad : Nat → Nat} {nb : Value} : ∀ {n i : Nat}, am_ents ad nb i (List.replicate n none) = []
  | 0, _ => rfl
  | n + 1, i => by
    rw [List.replicate_succ]
    exact am_ents_none (n := n) (i := i + 1)
theorem am_ents_entL {ad : Nat → Nat} {nb : Value} (hnb : nb.category = 1) {r : am_L} : ∀ {a : List Value} {i : Nat}, am_ents ad nb i (am_entL a ++ r) = lv_args i (a.map (am_tr ad nb)) ++ am_ents ad nb (i + (am_entL a).length) r
  | [], i => rfl
  | v :: vs, i => by
    have h1 : ∀ v, v.category = 1 → am_entL (v :: vs) = some v :: am_entL vs → am_ents ad nb i (am_entL (v :: vs) ++ r) = lv_args i ((v :: vs).map (am_tr ad nb)) ++ am_ents ad nb (i + (am_entL (v :: vs)).length) r := by
      intro v hv he
      rw [he]
      show (i, am_tr ad nb v) :: am_ents ad nb (i + 1) (am_entL vs ++ r) = (i, am_tr ad nb v) :: lv_args (if (am_tr ad nb v).category = 2 then i + 2 else i + 1) (vs.map (am_tr ad nb)) ++ _
      rw [am_tr_cat hnb, hv, if_neg (by decide), am_ents_entL hnb, List.cons_append]
      simp only [List.length_cons]
      rw [show i + ((am_entL vs).length + 1) = i + 1 + (am_entL vs).length by omega]
    have h2 : ∀ v, v.category = 2 → am_entL (v :: vs) = some v :: none :: am_entL vs → am_ents ad nb i (am_entL (v :: vs) ++ r) = lv_args i ((v :: vs).map (am_tr ad nb)) ++ am_ents ad nb (i + (am_entL (v :: vs)).length) r := by
      intro v hv he
      rw [he]
      show (i, am_tr ad nb v) :: am_ents ad nb (i + 1 + 1) (am_entL vs ++ r) = (i, am_tr ad nb v) :: lv_args (if (am_tr ad nb v).category = 2 then i + 2 else i + 1) (vs.map (am_tr ad nb)) ++ _
      rw [am_tr_cat hnb, hv, if_pos rfl, am_ents_entL hnb, List.cons_append]
      simp only [List.length_cons]
      rw [show i + ((am_entL vs).length + 1 + 1) = i + 1 + 1 + (am_entL vs).length by omega]
    cases v with
    | long x => exact h2 _ rfl rfl
    | double x => exact h2 _ rfl rfl
    | _ => exact h1 _ rfl rfl
theorem am_entL_mem : ∀ {a : List Value} {u : Value}, some u ∈ am_entL a → u ∈ a
  | [], _, h => absurd h List.not_mem_nil
  | v :: vs, u, h => by
    have h1 : ∀ v, am_entL (v :: vs) = some v :: am_entL vs → some u ∈ am_entL (v :: vs) → u ∈ v :: vs := by
      intro v he h
      rw [he] at h
      rcases List.mem_cons.mp h with h | h
      · cases h
        exact List.mem_cons_self
      · exact List.mem_cons_of_mem _ (am_entL_mem h)
    have h2 : ∀ v, am_entL (v :: vs) = some v :: none :: am_entL vs → some u ∈ am_entL (v :: vs) → u ∈ v :: vs := by
      intro v he h
      rw [he] at h
      rcases List.mem_cons.mp h with h | h
      · cases h
        exact List.mem_cons_self
      · rcases List.mem_cons.mp h with h | h
        · cases h
        · exact List.mem_cons_of_mem _ (am_entL_mem h)
    cases v with
    | long x => exact h2 _ rfl h
    | double x => exact h2 _ rfl h
    | _ => exact h1 _ rfl h
theorem am_entL_len {ad : Nat → Nat} {nb : Value} (hnb : nb.category = 1) : ∀ {a : List Value}, (lg_sl (a.map (am_tr ad nb))).length = (am_entL a).length
  | [] => rfl
  | v :: vs => by
    have ih := am_entL_len (ad := ad) hnb (a := vs)
    have h0 : lg_sl ((v :: vs).map (am_tr ad nb)) = (if (am_tr ad nb v).category = 2 then [.val (am_tr ad nb v), .second] else [.val (am_tr ad nb v)]) ++ lg_sl (vs.map (am_tr ad nb)) := rfl
    rw [h0, am_tr_cat hnb, List.length_append, ih]
    cases v <;> simp [Value.category, am_entL] <;> omega
theorem am_entL_has {ad : Nat → Nat} {nb : Value} {a : List Value} {nL : Nat} (hnb : nb.category = 1) (hlen : (am_entL a).length ≤ nL) :
    lv_has ((lg_sl (a.map (am_tr ad nb)) ++ List.replicate (nL - (lg_sl (a.map (am_tr ad nb))).length) Slot.unset).toArray) nL (am_ents ad nb 0 (am_ent nL a)) := by
  rw [am_ent, am_ents_entL hnb, am_ents_none, List.append_nil]
  exact lv_entry _ (by rw [am_entL_len hnb]; exact hlen)
theorem am_ent_len {a : List Value} {nL : Nat} (hlen : (am_entL a).length ≤ nL) : (am_ent nL a).length = nL := by
  rw [am_ent, List.length_append, List.length_replicate]
  omega
theorem am_ent_mem {a : List Value} {nL : Nat} {u : Value} (h : some u ∈ am_ent nL a) : u ∈ a := by
  rcases List.mem_append.mp h with h | h
  · exact am_entL_mem h
  · cases List.eq_of_mem_replicate h
/-- what the soundness of a method's table says -/
def am_Snd (l : Launch) (d k : Nat) (x : MethodName) (cc : ByteArray) (nL : Nat) (ret : Option FieldType) (TO : List ExceptionTableEntry → Prop) (tb : am_Q → Nat → am_Op) : Prop :=
  ∀ {p : Program} {e : Env} {s : State} {m : MethodId} {args : Array Value} {below : List Frame} {meth : Method} {c : Code} {D : va_G} {cA : Nat → ClassId} {A : Nat → Prop} {Z : State → Prop} {ad0 : Nat → Nat} {w : am_M} {Q : am_Q},
    am_ctx p l (am_room d k) s m args meth c cc nL x.cls D cA A (am_sb cA) d → Z = vx_MQ below (am_post D cA ad0 w A Q) (am_px D cA ad0 w A Q) args s k (1100 * k) A → meth.sig.returnType = ret → TO c.exceptionTable.toList → meth.name = x.name →
    ∀ pc, am_snd (am_J p l e (am_room d k) s m args below meth c D cA A Z (am_sb cA) nL w.length ad0) (tb Q pc) pc
theorem am_call_core {l : Launch} (hl : l.stackTraces = false) {d k nL : Nat} {cc : ByteArray} {ret : Option FieldType} {x : MethodName} {TO : List ExceptionTableEntry → Prop} {tbl : am_C → am_Q → Nat → am_Op} {C : am_C} (hsnd : am_Snd l d k x cc nL ret TO (tbl C)) {a : List Value} {w : am_M} {Q : am_Q} (hwa : ∀ v ∈ a, am_wv w.length v) (hww : ∀ e ∈ w, am_we w.length e) (hlen : (am_entL a).length ≤ nL) (hB : am_B tbl C k (am_ent nL a) w Q)
    {p : Program} {e : Env} {s : State} {m : MethodId} {args : Array Value} {below : List Frame} {meth : Method} {c : Code} {s₁ : State} {y : Nat} {D : va_G} {cA : Nat → ClassId} {ad : Nat → Nat} {sz : Nat} (hy : am_nm y = x)
    (B : BodyLoose p l (am_nm y) (headSpec (am_wsd y) (am_room d k)) cc nL ret e s m args below meth c s₁) (hml : c.maxLocals = nL) (hTO : TO c.exceptionTable.toList) (hPc : va_Pc (a.map (am_tr ad (am_sb cA))) (am_pre D cA ad w sz) args s) :
    W p l e (headSpec (am_wsd y) (am_room d k)).room s m args below meth c s.heap [] 0 0 (vx_MQ below (am_post D cA ad w (va_A (am_ws cA ad w) sz) Q) (am_px D cA ad w (va_A (am_ws cA ad w) sz) Q) args s k (1100 * k) (va_A (am_ws cA ad w) sz)) (entryFrame m args nL) := by
  obtain ⟨rfl, hsz, hP, hD, hG⟩ := hPc
  subst hsz
  have hts := atoms_spec (ws := am_wsd y) B.pre
  have hc : am_ctx p l (am_room d k) s m (a.map (am_tr ad (am_sb cA))).toArray meth c cc nL x.cls D cA (va_A (am_ws cA ad w) s.heap.size) (am_sb cA) d :=
    ⟨B.exec, B.bytes, hml, by rw [← hy]; exact findClass_of_methodNamed B.named, fun w hw => hts w (List.mem_cons_of_mem _ hw), hG, fun q h => Or.inr h, B.notSynchronized, hl, Nat.le_refl _, Nat.le_refl _, rfl⟩
  have hJ := hB _ (fun stop n => am_run_snd (hsnd (e := e) (below := below) (ad0 := ad) (w := w) (Q := Q) hc rfl B.returns hTO (by rw [← hy]; exact (name_of_methodNamed B.named B.method).1)) stop n)
  rw [lg_entry_eq]
  exact hJ ad s.heap [] 0 0 _ ⟨hP, hD.self, va_S.rf, hww, Nat.le_refl _, fun _ _ => rfl⟩ (fun v hv => hwa v (am_ent_mem hv)) (fun v hv => absurd hv List.not_mem_nil) (am_ent_len hlen) (am_entL_has rfl hlen) (by show 0 + k ≤ k; omega) (by show 0 + 1100 * k ≤ 1100 * k; omega)
/-- no table -/
def am_TN (l : List ExceptionTableEntry) : Prop := ∀ x ∈ l, False
theorem am_call_of {l : Launch} (hl : l.stackTraces = false) {d k y nL : Nat} {cc : ByteArray} {ret : Option FieldType} {x : MethodName} (hy : am_nm y = x) (hcw : am_cw y = Cond.code x cc nL ret) (hpl : plainName x.cls = true) {tbl : am_C → am_Q → Nat → am_Op} {C : am_C} (hsnd : am_Snd l d k x cc nL ret am_TN (tbl C)) {a : List Value} {w : am_M} {Q : am_Q} (hlen : (am_entL a).length ≤ nL) (hB : am_B tbl C k (am_ent nL a) w Q) : am_Call l d y k a w Q := by
  intro hwa hww D cA ad sz
  refine vx_ofW (cc := cc) (maxL := nL) (ret := ret) (by rw [hy]; exact hpl) (by rw [am_wsd, hcw, hy]) ?_
  intro p e s m args below meth c s₁ B hml hout hPc
  exact am_call_core hl hsnd hwa hww hlen hB hy B hml hout hPc
def am_TH (hh : List (Nat × Nat × Nat × Nat)) (l : List ExceptionTableEntry) : Prop := l = tableOf hh
theorem am_call_ofH {l : Launch} (hl : l.stackTraces = false) {d k y nL : Nat} {cc : ByteArray} {ret : Option FieldType} {x : MethodName} {hh : List (Nat × Nat × Nat × Nat)} (hy : am_nm y = x) (hcw : am_cw y = Cond.codeWith x cc nL ret hh) (hpl : plainName x.cls = true) {tbl : am_C → am_Q → Nat → am_Op} {C : am_C} (hsnd : am_Snd l d k x cc nL ret (am_TH hh) (tbl C)) {a : List Value} {w : am_M} {Q : am_Q} (hlen : (am_entL a).length ≤ nL) (hB : am_B tbl C k (am_ent nL a) w Q) : am_Call l d y k a w Q := by
  intro hwa hww D cA ad sz
  refine vx_ofWH (cc := cc) (maxL := nL) (ret := ret) (hh := hh) (by rw [hy]; exact hpl) (by rw [am_wsd, hcw, hy]) ?_
  intro p e s m args below meth c s₁ B hml hPc
  have h1 := atoms_spec (ws := am_wsd y) B.pre (am_cw y) List.mem_cons_self
  rw [hcw, ← hy] at h1
  exact am_call_core hl hsnd hwa hww hlen hB hy B hml (vx_table (x := x) (y := am_nm y) (bytes := cc) (maxL' := nL) (ret' := ret) B h1) hPc
/-- the same of a method that reads the law's script -/
def am_SndS (l : Launch) (d k : Nat) (x : MethodName) (cc : ByteArray) (nL : Nat) (ret : Option FieldType) (TO : List ExceptionTableEntry → Prop) (L : Nat) (xs : Nat → Int32) (tb : am_Q → Nat → am_Op) : Prop :=
  ∀ {p : Program} {e : Env} {s : State} {m : MethodId} {args : Array Value} {below : List Frame} {meth : Method} {c : Code} {D : va_G} {cA : Nat → ClassId} {A : Nat → Prop} {Z : State → Prop} {ad0 : Nat → Nat} {w : am_M} {Q : am_Q},
    am_ctx p l (am_room d k) s m args meth c cc nL x.cls D cA A (am_sb cA) d → va_X (cA 9) L xs s s.heap → cA 9 < s.heap.size → ¬ A (cA 9) → Z = vx_MQ below (am_post D cA ad0 w A Q) (am_px D cA ad0 w A Q) args s k (1100 * k) A → meth.sig.returnType = ret → TO c.exceptionTable.toList → meth.name = x.name →
    ∀ pc, am_snd (am_J p l e (am_room d k) s m args below meth c D cA A Z (am_sb cA) nL w.length ad0) (tb Q pc) pc
theorem am_call_ofS {l : Launch} (hl : l.stackTraces = false) {d k y nL : Nat} {cc : ByteArray} {ret : Option FieldType} {x : MethodName} (hy : am_nm y = x) (hcw : am_cw y = Cond.code x cc nL ret) (hpl : plainName x.cls = true) {tbl : Nat → (Nat → Int32) → am_C → am_Q → Nat → am_Op} {C : am_C} (hsnd : ∀ L xs, L ≤ 260 → am_SndS l d k x cc nL ret am_TN L xs (tbl L xs C)) {a : List Value} {w : am_M} {Q : am_Q} (hlen : (am_entL a).length ≤ nL) (hB : ∀ L xs, L ≤ 260 → am_B (tbl L xs) C k (am_ent nL a) w Q) : am_Call l d y k a w Q := by
  intro hwa hww D cA ad sz
  refine vx_ofW (cc := cc) (maxL := nL) (ret := ret) (by rw [hy]; exact hpl) (by rw [am_wsd, hcw, hy]) ?_
  intro p e s m args below meth c s₁ B hml hout hPc
  obtain ⟨L, xs, hL, hX, hbl, hbA⟩ := hPc.2.2.2.2.2.2.2.2.2.2.1.2.2
  have hPc' := hPc
  obtain ⟨rfl, hsz, hP, hD, hG⟩ := hPc
  subst hsz
  have hts := atoms_spec (ws := am_wsd y) B.pre
  have hc : am_ctx p l (am_room d k) s m (a.map (am_tr ad (am_sb cA))).toArray meth c cc nL x.cls D cA (va_A (am_ws cA ad w) s.heap.size) (am_sb cA) d :=
    ⟨B.exec, B.bytes, hml, by rw [← hy]; exact findClass_of_methodNamed B.named, fun w hw => hts w (List.mem_cons_of_mem _ hw), hG, fun q h => Or.inr h, B.notSynchronized, hl, Nat.le_refl _, Nat.le_refl _, rfl⟩
  have hJ := hB L xs hL _ (fun stop n => am_run_snd (hsnd L xs hL (e := e) (below := below) (ad0 := ad) (w := w) (Q := Q) hc hX hbl hbA rfl B.returns hout (by rw [← hy]; exact (name_of_methodNamed B.named B.method).1)) stop n)
  rw [lg_entry_eq]
  exact hJ ad s.heap [] 0 0 _ ⟨hP, hD.self, va_S.rf, hww, Nat.le_refl _, fun _ _ => rfl⟩ (fun v hv => hwa v (am_ent_mem hv)) (fun v hv => absurd hv List.not_mem_nil) (am_ent_len hlen) (am_entL_has rfl hlen) (by show 0 + k ≤ k; omega) (by show 0 + 1100 * k ≤ 1100 * k; omega)
end
