/-! a call in a part of the world: the rest is unchanged; and: what nobody names any more may be left out -/
theorem am_met_cons {l : Launch} {y : MethodName} {ws : List Cond} {rm : Room} {P1 P2 : Array Value → State → Prop} {Q1 Q2 : Array Value → State → Outcome → State → Prop} {X1 X2 : String → State → State → Prop} {mc ms : Nat} {F1 F2 : Addr → Prop} (h : vx_Met l y ws rm P1 Q1 X1 mc ms F1) (hP : ∀ a s, P2 a s → P1 a s) (hQ : ∀ a s o t, P2 a s → Q1 a s o t → Q2 a s o t) (hX : ∀ a E s t, P2 a s → X1 E s t → X2 E s t) (hF : ∀ q, F1 q → F2 q) : vx_Met l y ws rm P2 Q2 X2 mc ms F2 := by
  intro p e h1 h2 h3 s m args below hf ha hp hk
  obtain ⟨n, o, a1, a2, a3, a4⟩ := h p e h1 h2 h3 s m args below hf ha (hP _ _ hp) hk
  refine ⟨n, o, a1, a2, a3, ?_⟩
  rcases a4 with ⟨b1, L, b2, b3⟩ | ⟨q, b1, E, ce, L, b2, b3, b4, b5, b6, b7, b8⟩
  · exact Or.inl ⟨hQ _ _ _ _ hp b1, L, b2, fun z hz => hF _ (b3 z hz)⟩
  · exact Or.inr ⟨q, b1, E, ce, L, hX _ _ _ _ hp b2, b3, b4, b5, b6, b7, fun z hz => hF _ (b8 z hz)⟩
/-- the same words with other places -/
def am_pV (ρ : Nat → Nat) (v : Value) : Value := match v with
  | .ref k => .ref (ρ k)
  | v => v
def am_pE (ρ : Nat → Nat) (e : am_E) : am_E := match e with
  | .inl (t, n, .inl f) => .inl (t, n, .inl f)
  | .inl (t, n, .inr (.inl f)) => .inl (t, n, .inr (.inl f))
  | .inl (t, n, .inr (.inr f)) => .inl (t, n, .inr (.inr (fun j => (f j).map ρ)))
  | .inr (c, fs) => .inr (c, fs.map (am_pV ρ))
def am_pO (ρ : Nat → Nat) (r : am_O) : am_O := match r with
  | .inl v => .inl (v.map (am_pV ρ))
  | .inr x => .inr x
theorem am_tr_p {ad ρ : Nat → Nat} {nb v : Value} : am_tr ad nb (am_pV ρ v) = am_tr (fun j => ad (ρ j)) nb v := by cases v <;> rfl
theorem am_tE_p {cA : Nat → ClassId} {ad ρ : Nat → Nat} {e : am_E} : am_tE cA ad (am_pE ρ e) = am_tE cA (fun j => ad (ρ j)) e := by
  rcases e with ⟨t, k, f | f | f⟩ | ⟨c, fs⟩
  · rfl
  · rfl
  · show Sum.inl (cA t, k, _) = Sum.inl (cA t, k, _)
    have : (fun j => ((f j).map ρ).map ad) = (fun j => (f j).map (fun j => ad (ρ j))) := funext fun j => by
      cases f j <;> rfl
    rw [this]
  · show Sum.inr (c, (fs.map (am_pV ρ)).map (am_tr ad (am_sb cA))) = Sum.inr (c, fs.map (am_tr (fun j => ad (ρ j)) (am_sb cA)))
    rw [List.map_map]
    exact congrArg (fun q => Sum.inr (c, q)) (List.map_congr_left fun v _ => am_tr_p)
theorem am_wv_p {ρ : Nat → Nat} {n m : Nat} {v : Value} (h : am_wv n v) (hm : ∀ j, j < n → ρ j < m) : am_wv m (am_pV ρ v) := by
  cases v <;> first | trivial | exact hm _ h
theorem am_we_p {ρ : Nat → Nat} {n m : Nat} {e : am_E} (h : am_we n e) (hm : ∀ j, j < n → ρ j < m) : am_we m (am_pE ρ e) := by
  rcases e with ⟨t, k, f | f | f⟩ | ⟨c, fs⟩
  · trivial
  · trivial
  · intro j r hr
    have hr' : (f j).map ρ = some r := hr
    cases hf : f j with
    | none => rw [hf] at hr'; cases hr'
    | some r0 =>
      rw [hf] at hr'
      cases hr'
      exact hm _ (h j r0 hf)
  · intro v hv
    obtain ⟨u, hu, rfl⟩ := List.mem_map.mp hv
    exact am_wv_p (h u hu) hm
theorem am_ws_fst (cA : Nat → ClassId) (ad : Nat → Nat) (w : am_M) : (am_ws cA ad w).map (fun q => q.1) = (List.range w.length).map ad := by
  apply List.ext_getElem?
  intro j
  rw [List.getElem?_map, List.getElem?_map]
  by_cases hj : j < w.length
  · obtain ⟨e, he⟩ : ∃ e, w[j]? = some e := ⟨w[j], List.getElem?_eq_getElem hj⟩
    rw [am_ws_at cA ad he, List.getElem?_range hj]
    rfl
  · rw [List.getElem?_eq_none (by rw [am_ws_len]; omega), List.getElem?_eq_none (by rw [List.length_range]; omega)]
    rfl
section
variable {D : va_G} {cA : Nat → ClassId} {ad : Nat → Nat} {p q wS : am_M}
theorem fr_mid {w1 : am_M} {ρ : Nat → Nat} {i : Nat} {e : am_E} (h : w1[i]? = some e) : (p ++ (w1.map (am_pE ρ) ++ q))[i + p.length]? = some (am_pE ρ e) := by
  have hi := (List.getElem?_eq_some_iff.mp h).1
  rw [List.getElem?_append_right (by omega), show i + p.length - p.length = i by omega, List.getElem?_append_left (by rw [List.length_map]; exact hi), List.getElem?_map, h]
  rfl
theorem fr_len {w1 : am_M} {ρ : Nat → Nat} (h : w1.length = wS.length) : (p ++ (w1.map (am_pE ρ) ++ q)).length = (p ++ (wS.map (am_pE ρ) ++ q)).length := by
  simp only [List.length_append, List.length_map, h]
/-- outside the middle the two worlds are one -/
theorem fr_out {w1 : am_M} {ρ : Nat → Nat} (h : w1.length = wS.length) {i : Nat} (hi : ¬ (p.length ≤ i ∧ i - p.length < wS.length)) : (p ++ (w1.map (am_pE ρ) ++ q))[i]? = (p ++ (wS.map (am_pE ρ) ++ q))[i]? := by
  by_cases h1 : i < p.length
  · rw [List.getElem?_append_left h1, List.getElem?_append_left h1]
  · have h2 : wS.length ≤ i - p.length := by omega
    have ex : ∀ m : am_M, m.length = wS.length → (p ++ (m ++ q))[i]? = q[i - p.length - wS.length]? := fun m hm => by rw [List.getElem?_append_right (by omega), List.getElem?_append_right (by omega), hm]
    exact (ex _ (by rw [List.length_map]; exact h)).trans (ex _ (by rw [List.length_map])).symm
theorem fr_A {sz : Nat} : ∀ x, va_A (am_ws cA (fun j => ad (j + p.length)) wS) sz x → va_A (am_ws cA ad (p ++ (wS.map (am_pE (fun j => j + p.length)) ++ q))) sz x := by
  intro x hx
  rcases hx with ⟨k, e, hk⟩ | hx
  · obtain ⟨e0, h1, h2⟩ := am_ws_of hk
    cases h2
    exact Or.inl ⟨_, _, am_ws_at cA ad (fr_mid h1)⟩
  · exact Or.inr hx
theorem fr_U {H0 H1 : Heap} {ad1 : Nat → Nat} {w1 : am_M} {A1 : Nat → Prop} (hP : va_P D vwCl (am_ws cA ad (p ++ (wS.map (am_pE (fun j => j + p.length)) ++ q))) H0) (hD : va_D (fun _ => True) (am_ws cA ad (p ++ (wS.map (am_pE (fun j => j + p.length)) ++ q)))) (hww : ∀ e ∈ (p ++ (wS.map (am_pE (fun j => j + p.length)) ++ q)), am_we (p ++ (wS.map (am_pE (fun j => j + p.length)) ++ q)).length e)
    (hA1 : A1 = va_A (am_ws cA (fun j => ad (j + p.length)) wS) H0.size) (hF : ∀ x, x < H0.size → ¬ A1 x → H1[x]? = H0[x]?) (hl : w1.length = wS.length) (hU : am_U D cA (fun j => ad (j + p.length)) wS A1 ad1 w1 H1) :
    am_U D cA ad (p ++ (wS.map (am_pE (fun j => j + p.length)) ++ q)) (va_A (am_ws cA ad (p ++ (wS.map (am_pE (fun j => j + p.length)) ++ q))) H0.size) ad (p ++ (w1.map (am_pE (fun j => j + p.length)) ++ q)) H1 := by
  obtain ⟨u1, u2, u3, u4, u5⟩ := hU
  subst hA1
  have hnot : ∀ i, i < (p ++ (wS.map (am_pE (fun j => j + p.length)) ++ q)).length → ¬ (p.length ≤ i ∧ i - p.length < wS.length) → ad i < H0.size → ¬ va_A (am_ws cA (fun j => ad (j + p.length)) wS) H0.size (ad i) := by
    intro i hi ho hlt hx
    rcases hx with ⟨k, e, hk⟩ | hx
    · obtain ⟨e0, h1, h2⟩ := am_ws_of hk
      have h3 : ad i = ad (k + p.length) := congrArg Prod.fst h2
      have hk1 := (List.getElem?_eq_some_iff.mp h1).1
      obtain ⟨ei, hei⟩ : ∃ e, (p ++ (wS.map (am_pE (fun j => j + p.length)) ++ q))[i]? = some e := ⟨_, List.getElem?_eq_getElem hi⟩
      have h4 := hD.1 i (k + p.length) _ _ (am_ws_at cA ad hei) (am_ws_at cA ad (fr_mid h1)) h3
      omega
    · exact absurd hx (by omega)
  refine ⟨?_, ?_, ?_, ?_, fun _ _ => rfl⟩
  · intro i x hx
    obtain ⟨e0, h1, rfl⟩ := am_ws_of hx
    by_cases ho : p.length ≤ i ∧ i - p.length < wS.length
    · obtain ⟨j, rfl⟩ : ∃ j, i = j + p.length := ⟨i - p.length, by omega⟩
      have hj : j < w1.length := by omega
      obtain ⟨e1, he1⟩ : ∃ e, w1[j]? = some e := ⟨_, List.getElem?_eq_getElem hj⟩
      rw [fr_mid he1] at h1
      cases h1
      have h2 := u1 j _ (am_ws_at cA ad1 he1)
      have h3 : ∀ i, i < w1.length → ad1 i = ad (i + p.length) := fun i hi => u5 i (by omega)
      rw [am_tE_p, ← am_tE_ext (ad := fun j => ad (j + p.length)) (ad' := ad1) h3 (u3 _ (List.mem_of_getElem? he1)), ← h3 j hj]
      exact h2
    · rw [fr_out hl ho] at h1
      have h2 := hP i _ (am_ws_at cA ad h1)
      exact h2.kept (hF _ h2.lt (hnot i (List.getElem?_eq_some_iff.mp h1).1 ho h2.lt))
  · refine va_D.like ?_ hD.self
    rw [am_ws_fst, am_ws_fst, fr_len hl]
  · intro e he
    rw [fr_len hl]
    obtain ⟨i, hi⟩ := List.getElem?_of_mem he
    by_cases ho : p.length ≤ i ∧ i - p.length < wS.length
    · obtain ⟨j, rfl⟩ : ∃ j, i = j + p.length := ⟨i - p.length, by omega⟩
      obtain ⟨e1, he1⟩ : ∃ e, w1[j]? = some e := ⟨_, List.getElem?_eq_getElem (by omega)⟩
      rw [fr_mid he1] at hi
      cases hi
      refine am_we_p (u3 _ (List.mem_of_getElem? he1)) (fun x hx => ?_)
      simp only [List.length_append, List.length_map]
      omega
    · rw [fr_out hl ho] at hi
      exact hww e (List.mem_of_getElem? hi)
  · rw [fr_len hl]
    exact Nat.le_refl _
end
theorem am_frame {l : Launch} {d y k : Nat} {a : List Value} {p q wS : am_M} {Q : am_Q} (ha : ∀ v ∈ a, am_wv wS.length v) (hwS : ∀ e ∈ wS, am_we wS.length e) (h : am_Call l d y k a wS (fun r w1 => w1.length = wS.length ∧ Q (am_pO (fun j => j + p.length) r) (p ++ (w1.map (am_pE (fun j => j + p.length)) ++ q)))) :
    am_Call l d y k (a.map (am_pV (fun j => j + p.length))) (p ++ (wS.map (am_pE (fun j => j + p.length)) ++ q)) Q := by
  intro _ hww D cA ad sz
  have hM := h ha hwS D cA (fun j => ad (j + p.length)) sz
  refine am_met_cons hM ?_ ?_ ?_ (fr_A (cA := cA) (ad := ad))
  · rintro a1 s ⟨h1, h2, h3, h4, h5⟩
    refine ⟨?_, h2, ?_, ?_, ?_⟩
    · rw [h1, List.map_map]
      congr 1
      exact List.map_congr_left fun v _ => am_tr_p
    · intro k x hx
      obtain ⟨e0, g1, rfl⟩ := am_ws_of hx
      have := h3 _ _ (am_ws_at cA ad (fr_mid (p := p) (q := q) (ρ := fun j => j + p.length) g1))
      rw [am_tE_p] at this
      exact this
    · refine ⟨fun i j x z hx hz hxz => ?_, fun _ _ _ => trivial⟩
      obtain ⟨e0, g1, rfl⟩ := am_ws_of hx
      obtain ⟨e1, g2, rfl⟩ := am_ws_of hz
      have := h4.1 _ _ _ _ (am_ws_at cA ad (fr_mid (p := p) (q := q) (ρ := fun j => j + p.length) g1)) (am_ws_at cA ad (fr_mid (p := p) (q := q) (ρ := fun j => j + p.length) g2)) hxz
      omega
    · exact h5.to (State.WarmedH.refl s) (fun _ _ _ => rfl) (fr_A (cA := cA) (ad := ad))
  · rintro a1 s o t ⟨h1, h2, h3, h4, h5⟩ ⟨⟨v, w1, ad1, g1, ⟨hl, hQ⟩, g3, hU⟩, hF⟩
    subst h2
    refine ⟨⟨v.map (am_pV (fun j => j + p.length)), _, ad, ?_, hQ, ?_, fr_U h3 h4 hww rfl hF.2 hl hU⟩, hF.1, fun x hx hn => hF.2 x hx (fun q => hn (fr_A (cA := cA) (ad := ad) x q))⟩
    · rw [g1]
      congr 1
      cases v with
      | none => rfl
      | some u =>
        show some _ = some _
        rw [am_tr_p]
        congr 1
        refine am_tr_ext (n := wS.length) hU.2.2.2.2 ?_
        have := (g3 u rfl).1
        rw [hl] at this
        exact this
    · intro x hx
      cases v with
      | none => cases hx
      | some u =>
        cases hx
        refine ⟨am_wv_p (g3 u rfl).1 (fun j hj => ?_), rfl⟩
        simp only [List.length_append, List.length_map]
        omega
  · rintro a1 E s t ⟨h1, h2, h3, h4, h5⟩ ⟨⟨x, w1, ad1, g1, ⟨hl, hQ⟩, hU⟩, hF⟩
    subst h2
    exact ⟨⟨x, _, ad, g1, hQ, fr_U h3 h4 hww rfl hF.2 hl hU⟩, hF.1, fun x hx hn => hF.2 x hx (fun q => hn (fr_A (cA := cA) (ad := ad) x q))⟩
/-- a walk may go on in a world of fewer cells, at other places -/
def am_GC (J : am_K) : Prop := ∀ (k pc : Nat) (ls ls' : am_L) (w w' : am_M) (ρ : Nat → Nat), (∀ (j : Nat) (e : am_E), w'[j]? = some e → w[ρ j]? = some (am_pE ρ e)) → (∀ i j, i < w'.length → j < w'.length → ρ i = ρ j → i = j) → ls'.length = ls.length → (∀ (j : Nat) (v : Value), ls'[j]? = some (some v) → ls[j]? = some (some (am_pV ρ v))) → (∀ e ∈ w', am_we w'.length e) → (∀ v, some v ∈ ls' → am_wv w'.length v) → J k pc ls' [] w' → J k pc ls [] w
theorem am_gc {p : Program} {l : Launch} {e : Env} {R : Room} {s : State} {m : MethodId} {args : Array Value} {below : List Frame} {meth : Method} {c : Code} {D : va_G} {cA : Nat → ClassId} {A : Nat → Prop} {Z : State → Prop} {nb : Value} {nL : Nat} {ad0 : Nat → Nat} : am_GC (am_J p l e R s m args below meth c D cA A Z nb nL 0 ad0) := by
  intro k pc ls ls' w w' ρ hw hinj hlen hls hwe hwv h ad H locs cells slots lsA hr hl hs hn hh hc1 hc2
  refine h (fun j => ad (ρ j)) H locs cells slots lsA ⟨?_, ?_, hr.2.2.1, hwe, Nat.zero_le _, fun j hj => absurd hj (Nat.not_lt_zero _)⟩ hwv (fun v hv => absurd hv List.not_mem_nil) (hlen.trans hn) ?_ hc1 hc2
  · intro j x hx
    obtain ⟨e0, h1, rfl⟩ := am_ws_of hx
    have := hr.1 _ _ (am_ws_at cA ad (hw j e0 h1))
    rw [am_tE_p] at this
    exact this
  · refine ⟨fun i j x z hx hz hxz => ?_, fun j x hx => ?_⟩
    · obtain ⟨e0, h1, rfl⟩ := am_ws_of hx
      obtain ⟨e1, h2, rfl⟩ := am_ws_of hz
      exact hinj i j (List.getElem?_eq_some_iff.mp h1).1 (List.getElem?_eq_some_iff.mp h2).1 (hr.2.1.1 _ _ _ _ (am_ws_at cA ad (hw i e0 h1)) (am_ws_at cA ad (hw j e1 h2)) hxz)
    · obtain ⟨e0, h1, rfl⟩ := am_ws_of hx
      exact (show A (ad (ρ j)) from hr.2.1.2 (ρ j) (ad (ρ j), am_tE cA ad (am_pE ρ e0)) (am_ws_at cA ad (hw j e0 h1)))
  · refine lv_less hh (fun x hx => ?_)
    obtain ⟨j, v, h1, h2⟩ := am_ents_iff.mp hx
    refine am_ents_iff.mpr ⟨j, _, hls j v h1, ?_⟩
    rw [am_tr_p]
    exact h2
