/-! a contract out of a body -/
def am_entL : List Value → am_L
  | [] => []
  | v :: vs => match v with
    | .long x => some (.long x) :: none :: am_entL vs
    | .double x => some (.double x) :: none :: am_entL vs
    | v => some v :: am_entL vs
def am_ent (nL : Nat) (a : List Value) : am_L := am_entL a ++ List.replicate (nL - (am_entL a).length) none
theorem am_ents_none {ad : Nat → Nat} {nb : Value} : ∀ {n i : Nat}, am_ents ad nb i (List.replicate n none) = []
  | 0, _ => rfl
  | n + 1, i => by
    rw [List.replicate_succ]
    exact am_ents_none (n := n) (i := i + 1)
theorem am_ents_entL {ad : Nat → Nat} {nb : Value} (hnb : nb.category = 1) {r : am_L} : ∀ {a : List Value} {i : Nat}, am_ents ad nb i (am_entL a ++ r) = lv_args i (a.map (am_tr ad nb)) ++ am_ents ad nb (i + (am_entL a).length) r
  | [], i => rfl
  | v :: vs, i => by
    have h1 : ∀ v, v.category = 1 → am_entL (v :: vs) = some v :: am_entL vs → am_ents ad nb i (am_entL (v :: vs) ++ r) = lv_args i ((v :: vs).map (am_tr ad nb)) ++ am_ents ad nb (i + (am_entL (v :: vs)).length) r := by
      intro v hv he
      rw [he]
      show (i, am_tr ad nb v) :: am_ents ad nb (i + 1) (am_entL vs ++ r) = (i, am_tr ad nb v) :: lv_args (if (am_tr ad nb v).category = 2 then i + 2 else i + 1) (vs.map (am_tr ad nb)) ++ _
      rw [am_tr_cat hnb, hv, if_neg (by decide), am_ents_entL hnb, List.cons_append]
      simp only [List.length_cons]
      rw [show i + ((am_entL vs).length + 1) = i + 1 + (am_entL vs).length by omega]
    have h2 : ∀ v, v.category = 2 → am_entL (v :: vs) = some v :: none :: am_entL vs → am_ents ad nb i (am_entL (v :: vs) ++ r) = lv_args i ((v :: vs).map (am_tr ad nb)) ++ am_ents ad nb (i + (am_entL (v :: vs)).length) r := by
      intro v hv he
      rw [he]
      show (i, am_tr ad nb v) :: am_ents ad nb (i + 1 + 1) (am_entL vs ++ r) = (i, am_tr ad nb v) :: lv_args (if (am_tr ad nb v).category = 2 then i + 2 else i + 1) (vs.map (am_tr ad nb)) ++ _
      rw [am_tr_cat hnb, hv, if_pos rfl, am_ents_entL hnb, List.cons_append]
      simp only [List.length_cons]
      rw [show i + ((am_entL vs).length + 1 + 1) = i + 1 + 1 + (am_entL vs).length by omega]
    cases v with
    | long x => exact h2 _ rfl rfl
    | double x => exact h2 _ rfl rfl
    | _ => exact h1 _ rfl rfl
theorem am_entL_mem : ∀ {a : List Value} {u : Value}, some u ∈ am_entL a → u ∈ a
  | [], _, h => absurd h List.not_mem_nil
  | v :: vs, u, h => by
    have h1 : ∀ v, am_entL (v :: vs) = some v :: am_entL vs → some u ∈ am_entL (v :: vs) → u ∈ v :: vs := by
      intro v he h
      rw [he] at h
      rcases List.mem_cons.mp h with h | h
      · cases h
        exact List.mem_cons_self
      · exact List.mem_cons_of_mem _ (am_entL_mem h)
    have h2 : ∀ v, am_entL (v :: vs) = some v :: none :: am_entL vs → some u ∈ am_entL (v :: vs) → u ∈ v :: vs := by
      intro v he h
      rw [he] at h
      rcases List.mem_cons.mp h with h | h
      · cases h
        exact List.mem_cons_self
      · rcases List.mem_cons.mp h with h | h
        · cases h
        · exact List.mem_cons_of_mem _ (am_entL_mem h)
    cases v with
    | long x => exact h2 _ rfl h
    | double x => exact h2 _ rfl h
    | _ => exact h1 _ rfl h
theorem am_entL_len {ad : Nat → Nat} {nb : Value} (hnb : nb.category = 1) : ∀ {a : List Value}, (lg_sl (a.map (am_tr ad nb))).length = (am_entL a).length
  | [] => rfl
  | v :: vs => by
    have ih := am_entL_len (ad := ad) hnb (a := vs)
    have h0 : lg_sl ((v :: vs).map (am_tr ad nb)) = (if (am_tr ad nb v).category = 2 then [.val (am_tr ad nb v), .second] else [.val (am_tr ad nb v)]) ++ lg_sl (vs.map (am_tr ad nb)) := rfl
    rw [h0, am_tr_cat hnb, List.length_append, ih]
    cases v <;> simp [Value.category, am_entL] <;> omega
theorem am_entL_has {ad : Nat → Nat} {nb : Value} {a : List Value} {nL : Nat} (hnb : nb.category = 1) (hlen : (am_entL a).length ≤ nL) :
    lv_has ((lg_sl (a.map (am_tr ad nb)) ++ List.replicate (nL - (lg_sl (a.map (am_tr ad nb))).length) Slot.unset).toArray) nL (am_ents ad nb 0 (am_ent nL a)) := by
  rw [am_ent, am_ents_entL hnb, am_ents_none, List.append_nil]
  exact lv_entry _ (by rw [am_entL_len hnb]; exact hlen)
theorem am_ent_len {a : List Value} {nL : Nat} (hlen : (am_entL a).length ≤ nL) : (am_ent nL a).length = nL := by
  rw [am_ent, List.length_append, List.length_replicate]
  omega
theorem am_ent_mem {a : List Value} {nL : Nat} {u : Value} (h : some u ∈ am_ent nL a) : u ∈ a := by
  rcases List.mem_append.mp h with h | h
  · exact am_entL_mem h
  · cases List.eq_of_mem_replicate h
/-- what the soundness of a method's table says -/
def am_Snd (l : Launch) (d k : Nat) (x : MethodName) (cc : ByteArray) (nL : Nat) (ret : Option FieldType) (TO : List ExceptionTableEntry → Prop) (tb : am_Q → Nat → am_Op) : Prop :=
  ∀ {p : Program} {e : Env} {s : State} {m : MethodId} {args : Array Value} {below : List Frame} {meth : Method} {c : Code} {D : va_G} {cA : Nat → ClassId} {A : Nat → Prop} {Z : State → Prop} {ad0 : Nat → Nat} {w : am_M} {Q : am_Q},
    am_ctx p l (am_room d k) s m args meth c cc nL x.cls D cA A (am_sb cA) d → Z = vx_MQ below (am_post D cA ad0 w A Q) (am_px D cA ad0 w A Q) args s k (1100 * k) A → meth.sig.returnType = ret → TO c.exceptionTable.toList → meth.name = x.name →
    ∀ pc, am_snd (am_J p l e (am_room d k) s m args below meth c D cA A Z (am_sb cA) nL w.length ad0) (tb Q pc) pc
theorem am_call_core {l : Launch} (hl : l.stackTraces = false) {d k nL : Nat} {cc : ByteArray} {ret : Option FieldType} {x : MethodName} {TO : List ExceptionTableEntry → Prop} {tbl : am_C → am_Q → Nat → am_Op} {C : am_C} (hsnd : am_Snd l d k x cc nL ret TO (tbl C)) {a : List Value} {w : am_M} {Q : am_Q} (hwa : ∀ v ∈ a, am_wv w.length v) (hww : ∀ e ∈ w, am_we w.length e) (hlen : (am_entL a).length ≤ nL) (hB : am_B tbl C k (am_ent nL a) w Q)
    {p : Program} {e : Env} {s : State} {m : MethodId} {args : Array Value} {below : List Frame} {meth : Method} {c : Code} {s₁ : State} {y : Nat} {D : va_G} {cA : Nat → ClassId} {ad : Nat → Nat} {sz : Nat} (hy : am_nm y = x)
    (B : BodyLoose p l (am_nm y) (headSpec (am_wsd y) (am_room d k)) cc nL ret e s m args below meth c s₁) (hml : c.maxLocals = nL) (hTO : TO c.exceptionTable.toList) (hPc : va_Pc (a.map (am_tr ad (am_sb cA))) (am_pre D cA ad w sz) args s) :
    W p l e (headSpec (am_wsd y) (am_room d k)).room s m args below meth c s.heap [] 0 0 (vx_MQ below (am_post D cA ad w (va_A (am_ws cA ad w) sz) Q) (am_px D cA ad w (va_A (am_ws cA ad w) sz) Q) args s k (1100 * k) (va_A (am_ws cA ad w) sz)) (entryFrame m args nL) := by
  obtain ⟨rfl, hsz, hP, hD, hG⟩ := hPc
  subst hsz
  have hts := atoms_spec (ws := am_wsd y) B.pre
  have hc : am_ctx p l (am_room d k) s m (a.map (am_tr ad (am_sb cA))).toArray meth c cc nL x.cls D cA (va_A (am_ws cA ad w) s.heap.size) (am_sb cA) d :=
    ⟨B.exec, B.bytes, hml, by rw [← hy]; exact findClass_of_methodNamed B.named, fun w hw => hts w (List.mem_cons_of_mem _ hw), hG, fun q h => Or.inr h, B.notSynchronized, hl, Nat.le_refl _, Nat.le_refl _, rfl⟩
  have hJ := hB _ (fun stop n => am_run_snd (hsnd (e := e) (below := below) (ad0 := ad) (w := w) (Q := Q) hc rfl B.returns hTO (by rw [← hy]; exact (name_of_methodNamed B.named B.method).1)) stop n)
  rw [lg_entry_eq]
  exact hJ ad s.heap [] 0 0 _ ⟨hP, hD.self, va_S.rf, hww, Nat.le_refl _, fun _ _ => rfl⟩ (fun v hv => hwa v (am_ent_mem hv)) (fun v hv => absurd hv List.not_mem_nil) (am_ent_len hlen) (am_entL_has rfl hlen) (by show 0 + k ≤ k; omega) (by show 0 + 1100 * k ≤ 1100 * k; omega)
/-- no table -/
def am_TN (l : List ExceptionTableEntry) : Prop := ∀ x ∈ l, False
theorem am_call_of {l : Launch} (hl : l.stackTraces = false) {d k y nL : Nat} {cc : ByteArray} {ret : Option FieldType} {x : MethodName} (hy : am_nm y = x) (hcw : am_cw y = Cond.code x cc nL ret) (hpl : plainName x.cls = true) {tbl : am_C → am_Q → Nat → am_Op} {C : am_C} (hsnd : am_Snd l d k x cc nL ret am_TN (tbl C)) {a : List Value} {w : am_M} {Q : am_Q} (hlen : (am_entL a).length ≤ nL) (hB : am_B tbl C k (am_ent nL a) w Q) : am_Call l d y k a w Q := by
  intro hwa hww D cA ad sz
  refine vx_ofW (cc := cc) (maxL := nL) (ret := ret) (by rw [hy]; exact hpl) (by rw [am_wsd, hcw, hy]) ?_
  intro p e s m args below meth c s₁ B hml hout hPc
  exact am_call_core hl hsnd hwa hww hlen hB hy B hml hout hPc
def am_TH (hh : List (Nat × Nat × Nat × Nat)) (l : List ExceptionTableEntry) : Prop := l = tableOf hh
theorem am_call_ofH {l : Launch} (hl : l.stackTraces = false) {d k y nL : Nat} {cc : ByteArray} {ret : Option FieldType} {x : MethodName} {hh : List (Nat × Nat × Nat × Nat)} (hy : am_nm y = x) (hcw : am_cw y = Cond.codeWith x cc nL ret hh) (hpl : plainName x.cls = true) {tbl : am_C → am_Q → Nat → am_Op} {C : am_C} (hsnd : am_Snd l d k x cc nL ret (am_TH hh) (tbl C)) {a : List Value} {w : am_M} {Q : am_Q} (hlen : (am_entL a).length ≤ nL) (hB : am_B tbl C k (am_ent nL a) w Q) : am_Call l d y k a w Q := by
  intro hwa hww D cA ad sz
  refine vx_ofWH (cc := cc) (maxL := nL) (ret := ret) (hh := hh) (by rw [hy]; exact hpl) (by rw [am_wsd, hcw, hy]) ?_
  intro p e s m args below meth c s₁ B hml hPc
  have h1 := atoms_spec (ws := am_wsd y) B.pre (am_cw y) List.mem_cons_self
  rw [hcw, ← hy] at h1
  exact am_call_core hl hsnd hwa hww hlen hB hy B hml (vx_table (x := x) (y := am_nm y) (bytes := cc) (maxL' := nL) (ret' := ret) B h1) hPc
/-- the same of a method that reads the law's script -/
def am_SndS (l : Launch) (d k : Nat) (x : MethodName) (cc : ByteArray) (nL : Nat) (ret : Option FieldType) (TO : List ExceptionTableEntry → Prop) (L : Nat) (xs : Nat → Int32) (tb : am_Q → Nat → am_Op) : Prop :=
  ∀ {p : Program} {e : Env} {s : State} {m : MethodId} {args : Array Value} {below : List Frame} {meth : Method} {c : Code} {D : va_G} {cA : Nat → ClassId} {A : Nat → Prop} {Z : State → Prop} {ad0 : Nat → Nat} {w : am_M} {Q : am_Q},
    am_ctx p l (am_room d k) s m args meth c cc nL x.cls D cA A (am_sb cA) d → va_X (cA 9) L xs s s.heap → cA 9 < s.heap.size → ¬ A (cA 9) → Z = vx_MQ below (am_post D cA ad0 w A Q) (am_px D cA ad0 w A Q) args s k (1100 * k) A → meth.sig.returnType = ret → TO c.exceptionTable.toList → meth.name = x.name →
    ∀ pc, am_snd (am_J p l e (am_room d k) s m args below meth c D cA A Z (am_sb cA) nL w.length ad0) (tb Q pc) pc
theorem am_call_ofS {l : Launch} (hl : l.stackTraces = false) {d k y nL : Nat} {cc : ByteArray} {ret : Option FieldType} {x : MethodName} (hy : am_nm y = x) (hcw : am_cw y = Cond.code x cc nL ret) (hpl : plainName x.cls = true) {tbl : Nat → (Nat → Int32) → am_C → am_Q → Nat → am_Op} {C : am_C} (hsnd : ∀ L xs, L ≤ 260 → am_SndS l d k x cc nL ret am_TN L xs (tbl L xs C)) {a : List Value} {w : am_M} {Q : am_Q} (hlen : (am_entL a).length ≤ nL) (hB : ∀ L xs, L ≤ 260 → am_B (tbl L xs) C k (am_ent nL a) w Q) : am_Call l d y k a w Q := by
  intro hwa hww D cA ad sz
  refine vx_ofW (cc := cc) (maxL := nL) (ret := ret) (by rw [hy]; exact hpl) (by rw [am_wsd, hcw, hy]) ?_
  intro p e s m args below meth c s₁ B hml hout hPc
  obtain ⟨L, xs, hL, hX, hbl, hbA⟩ := hPc.2.2.2.2.2.2.2.2.2.2.1.2.2
  have hPc' := hPc
  obtain ⟨rfl, hsz, hP, hD, hG⟩ := hPc
  subst hsz
  have hts := atoms_spec (ws := am_wsd y) B.pre
  have hc : am_ctx p l (am_room d k) s m (a.map (am_tr ad (am_sb cA))).toArray meth c cc nL x.cls D cA (va_A (am_ws cA ad w) s.heap.size) (am_sb cA) d :=
    ⟨B.exec, B.bytes, hml, by rw [← hy]; exact findClass_of_methodNamed B.named, fun w hw => hts w (List.mem_cons_of_mem _ hw), hG, fun q h => Or.inr h, B.notSynchronized, hl, Nat.le_refl _, Nat.le_refl _, rfl⟩
  have hJ := hB L xs hL _ (fun stop n => am_run_snd (hsnd L xs hL (e := e) (below := below) (ad0 := ad) (w := w) (Q := Q) hc hX hbl hbA rfl B.returns hout (by rw [← hy]; exact (name_of_methodNamed B.named B.method).1)) stop n)
  rw [lg_entry_eq]
  exact hJ ad s.heap [] 0 0 _ ⟨hP, hD.self, va_S.rf, hww, Nat.le_refl _, fun _ _ => rfl⟩ (fun v hv => hwa v (am_ent_mem hv)) (fun v hv => absurd hv List.not_mem_nil) (am_ent_len hlen) (am_entL_has rfl hlen) (by show 0 + k ≤ k; omega) (by show 0 + 1100 * k ≤ 1100 * k; omega)
