/-! printed by a program of mine: the law's own small methods (they catch) -/
def cdF (a b c x : Nat) : Nat := match x with
  | 1 => a
  | 2 => b
  | 3 => c
  | _ => 0
def QW (Q : am_Q) (a b c : Nat) : am_Q := fun o w' => match o with
  | .inl (some (.int v)) => ∃ f, w'[28]? = some (.inl (2, 1, .inr (.inl f))) ∧ Q (.inl (some (.int 0))) (w'.set 28 (.inl (2, 1, .inr (.inl (vp_updL f 0 v.toInt64)))))
  | .inr x => 0 < cdF a b c x ∧ Q (.inl (some (.int (nI (cdF a b c x))))) w'
  | _ => False
def QWz (Q : am_Q) (a b c : Nat) : am_Q := fun o w' => match o with
  | .inl (some (.int v)) => ∃ f, w'[28]? = some (.inl (2, 1, .inr (.inl f))) ∧ Q (.inl (some (.int 0))) (w'.set 28 (.inl (2, 1, .inr (.inl (vp_updL f 0 (if v = 0 then 0 else 1))))))
  | .inr x => 0 < cdF a b c x ∧ Q (.inl (some (.int (nI (cdF a b c x))))) w'
  | _ => False
theorem wl_28 {w : am_M} {e : am_E} (h : w[28]? = some e) : 28 < w.length := (List.getElem?_eq_some_iff.mp h).1
section
variable {l : Launch} {d k : Nat} {Q : am_Q} {w : am_M}
set_option maxRecDepth 20000 in
theorem cl_151 (hl : l.stackTraces = false) (hd : 1 ≤ d) {x1 : Int32} {fs : List Value} (h0 : w[0]? = some (.inr (2, fs))) (h : ∀ Q', (∀ o w', QW Q 1 0 0 o w' → Q' o w') → am_Call l (d - 1) 41 k [.ref 0, .int x1] w Q') : am_Call l d 151 k [.ref 0, .int x1, .ref 28] w Q := by
  refine op_151 hl hd (Nat.le_of_ble_eq_true rfl) (fun J hJ => hJ [] 100 _ _ _ _ _ (ar_ld h0 ⟨k, Nat.le_refl _, h _ (fun o w' hq => ?_)⟩))
  rcases o with (_ | v) | x
  · exact hq.elim
  · cases v with
    | int v =>
      obtain ⟨f, hf, hq⟩ := hq
      exact ar_ld hf ⟨nI_in (c := 0) (by omega) (by omega), am_put_iff.mpr ⟨wl_28 hf, hq⟩⟩
    | _ => exact hq.elim
  · match x, hq with
    | 0, hq => exact absurd hq.1 (Nat.lt_irrefl _)
    | 1, hq => exact hq.2
    | 2, hq => exact absurd hq.1 (Nat.lt_irrefl _)
    | 3, hq => exact absurd hq.1 (Nat.lt_irrefl _)
    | n + 4, hq => exact absurd hq.1 (Nat.lt_irrefl _)
set_option maxRecDepth 20000 in
theorem cl_152 (hl : l.stackTraces = false) (hd : 1 ≤ d) {x1 x2 x3 : Int32} {fs : List Value} (h0 : w[0]? = some (.inr (2, fs))) (h : ∀ Q', (∀ o w', QW Q 0 1 2 o w' → Q' o w') → am_Call l (d - 1) 42 k [.ref 0, .int x1, .int x2, .int x3] w Q') : am_Call l d 152 k [.ref 0, .int x1, .int x2, .int x3, .ref 28] w Q := by
  refine op_152 hl hd (Nat.le_of_ble_eq_true rfl) (fun J hJ => hJ [] 100 _ _ _ _ _ (ar_ld h0 ⟨k, Nat.le_refl _, h _ (fun o w' hq => ?_)⟩))
  rcases o with (_ | v) | x
  · exact hq.elim
  · cases v with
    | int v =>
      obtain ⟨f, hf, hq⟩ := hq
      exact ar_ld hf ⟨nI_in (c := 0) (by omega) (by omega), am_put_iff.mpr ⟨wl_28 hf, hq⟩⟩
    | _ => exact hq.elim
  · match x, hq with
    | 0, hq => exact absurd hq.1 (Nat.lt_irrefl _)
    | 1, hq => exact absurd hq.1 (Nat.lt_irrefl _)
    | 2, hq => exact hq.2
    | 3, hq => exact hq.2
    | n + 4, hq => exact absurd hq.1 (Nat.lt_irrefl _)
set_option maxRecDepth 20000 in
theorem cl_153 (hl : l.stackTraces = false) (hd : 1 ≤ d) {x1 x2 : Int32} {fs : List Value} (h0 : w[0]? = some (.inr (2, fs))) (h : ∀ Q', (∀ o w', QW Q 1 0 2 o w' → Q' o w') → am_Call l (d - 1) 43 k [.ref 0, .int x1, .int x2] w Q') : am_Call l d 153 k [.ref 0, .int x1, .int x2, .ref 28] w Q := by
  refine op_153 hl hd (Nat.le_of_ble_eq_true rfl) (fun J hJ => hJ [] 100 _ _ _ _ _ (ar_ld h0 ⟨k, Nat.le_refl _, h _ (fun o w' hq => ?_)⟩))
  rcases o with (_ | v) | x
  · exact hq.elim
  · cases v with
    | int v =>
      obtain ⟨f, hf, hq⟩ := hq
      exact ar_ld hf ⟨nI_in (c := 0) (by omega) (by omega), am_put_iff.mpr ⟨wl_28 hf, hq⟩⟩
    | _ => exact hq.elim
  · match x, hq with
    | 0, hq => exact absurd hq.1 (Nat.lt_irrefl _)
    | 1, hq => exact hq.2
    | 2, hq => exact absurd hq.1 (Nat.lt_irrefl _)
    | 3, hq => exact hq.2
    | n + 4, hq => exact absurd hq.1 (Nat.lt_irrefl _)
set_option maxRecDepth 20000 in
theorem cl_154 (hl : l.stackTraces = false) (hd : 1 ≤ d) {fs : List Value} (h0 : w[0]? = some (.inr (2, fs))) (h : ∀ Q', (∀ o w', QW Q 0 0 1 o w' → Q' o w') → am_Call l (d - 1) 44 k [.ref 0] w Q') : am_Call l d 154 k [.ref 0, .ref 28] w Q := by
  refine op_154 hl hd (Nat.le_of_ble_eq_true rfl) (fun J hJ => hJ [] 100 _ _ _ _ _ (ar_ld h0 ⟨k, Nat.le_refl _, h _ (fun o w' hq => ?_)⟩))
  rcases o with (_ | v) | x
  · exact hq.elim
  · cases v with
    | int v =>
      obtain ⟨f, hf, hq⟩ := hq
      exact ar_ld hf ⟨nI_in (c := 0) (by omega) (by omega), am_put_iff.mpr ⟨wl_28 hf, hq⟩⟩
    | _ => exact hq.elim
  · match x, hq with
    | 0, hq => exact absurd hq.1 (Nat.lt_irrefl _)
    | 1, hq => exact absurd hq.1 (Nat.lt_irrefl _)
    | 2, hq => exact absurd hq.1 (Nat.lt_irrefl _)
    | 3, hq => exact hq.2
    | n + 4, hq => exact absurd hq.1 (Nat.lt_irrefl _)
set_option maxRecDepth 20000 in
theorem cl_155 (hl : l.stackTraces = false) (hd : 1 ≤ d) {x1 x2 : Int32} {fs : List Value} (h0 : w[0]? = some (.inr (2, fs))) (h : ∀ Q', (∀ o w', QWz Q 1 0 0 o w' → Q' o w') → am_Call l (d - 1) 45 k [.ref 0, .int x1, .int x2] w Q') : am_Call l d 155 k [.ref 0, .int x1, .int x2, .ref 28] w Q := by
  refine op_155 hl hd (Nat.le_of_ble_eq_true rfl) (fun J hJ => hJ [] 100 _ _ _ _ _ (ar_ld h0 ⟨k, Nat.le_refl _, h _ (fun o w' hq => ?_)⟩))
  rcases o with (_ | v) | x
  · exact hq.elim
  · cases v with
    | int v =>
      obtain ⟨f, hf, hq⟩ := hq
      refine ⟨fun g => ?_, fun g => ?_⟩
      · rw [if_pos g] at hq
        exact ar_ld hf ⟨nI_in (c := 0) (by omega) (by omega), am_put_iff.mpr ⟨wl_28 hf, hq⟩⟩
      · rw [if_neg g] at hq
        exact ar_ld hf ⟨nI_in (c := 0) (by omega) (by omega), am_put_iff.mpr ⟨wl_28 hf, hq⟩⟩
    | _ => exact hq.elim
  · match x, hq with
    | 0, hq => exact absurd hq.1 (Nat.lt_irrefl _)
    | 1, hq => exact hq.2
    | 2, hq => exact absurd hq.1 (Nat.lt_irrefl _)
    | 3, hq => exact absurd hq.1 (Nat.lt_irrefl _)
    | n + 4, hq => exact absurd hq.1 (Nat.lt_irrefl _)
set_option maxRecDepth 20000 in
theorem cl_156 (hl : l.stackTraces = false) (hd : 1 ≤ d) {x1 x2 x3 : Int32} {fs : List Value} (h0 : w[0]? = some (.inr (2, fs))) (h : ∀ Q', (∀ o w', QW Q 1 2 0 o w' → Q' o w') → am_Call l (d - 1) 46 k [.ref 0, .int x1, .int x2, .int x3] w Q') : am_Call l d 156 k [.ref 0, .int x1, .int x2, .int x3, .ref 28] w Q := by
  refine op_156 hl hd (Nat.le_of_ble_eq_true rfl) (fun J hJ => hJ [] 100 _ _ _ _ _ (ar_ld h0 ⟨k, Nat.le_refl _, h _ (fun o w' hq => ?_)⟩))
  rcases o with (_ | v) | x
  · exact hq.elim
  · cases v with
    | int v =>
      obtain ⟨f, hf, hq⟩ := hq
      exact ar_ld hf ⟨nI_in (c := 0) (by omega) (by omega), am_put_iff.mpr ⟨wl_28 hf, hq⟩⟩
    | _ => exact hq.elim
  · match x, hq with
    | 0, hq => exact absurd hq.1 (Nat.lt_irrefl _)
    | 1, hq => exact hq.2
    | 2, hq => exact hq.2
    | 3, hq => exact absurd hq.1 (Nat.lt_irrefl _)
    | n + 4, hq => exact absurd hq.1 (Nat.lt_irrefl _)
set_option maxRecDepth 20000 in
theorem cl_157 (hl : l.stackTraces = false) (hd : 1 ≤ d) {x1 : Int32} {fs : List Value} (h0 : w[0]? = some (.inr (2, fs))) (h : ∀ Q', (∀ o w', QW Q 0 1 2 o w' → Q' o w') → am_Call l (d - 1) 47 k [.ref 0, .int x1] w Q') : am_Call l d 157 k [.ref 0, .int x1, .ref 28] w Q := by
  refine op_157 hl hd (Nat.le_of_ble_eq_true rfl) (fun J hJ => hJ [] 100 _ _ _ _ _ (ar_ld h0 ⟨k, Nat.le_refl _, h _ (fun o w' hq => ?_)⟩))
  rcases o with (_ | v) | x
  · exact hq.elim
  · cases v with
    | int v =>
      obtain ⟨f, hf, hq⟩ := hq
      exact ar_ld hf ⟨nI_in (c := 0) (by omega) (by omega), am_put_iff.mpr ⟨wl_28 hf, hq⟩⟩
    | _ => exact hq.elim
  · match x, hq with
    | 0, hq => exact absurd hq.1 (Nat.lt_irrefl _)
    | 1, hq => exact absurd hq.1 (Nat.lt_irrefl _)
    | 2, hq => exact hq.2
    | 3, hq => exact hq.2
    | n + 4, hq => exact absurd hq.1 (Nat.lt_irrefl _)
set_option maxRecDepth 20000 in
theorem cl_158 (hl : l.stackTraces = false) (hd : 1 ≤ d) {x1 : Int32} {fs : List Value} (h0 : w[0]? = some (.inr (2, fs))) (h : ∀ Q', (∀ o w', QWz Q 0 1 0 o w' → Q' o w') → am_Call l (d - 1) 48 k [.ref 0, .int x1] w Q') : am_Call l d 158 k [.ref 0, .int x1, .ref 28] w Q := by
  refine op_158 hl hd (Nat.le_of_ble_eq_true rfl) (fun J hJ => hJ [] 100 _ _ _ _ _ (ar_ld h0 ⟨k, Nat.le_refl _, h _ (fun o w' hq => ?_)⟩))
  rcases o with (_ | v) | x
  · exact hq.elim
  · cases v with
    | int v =>
      obtain ⟨f, hf, hq⟩ := hq
      refine ⟨fun g => ?_, fun g => ?_⟩
      · rw [if_pos g] at hq
        exact ar_ld hf ⟨nI_in (c := 0) (by omega) (by omega), am_put_iff.mpr ⟨wl_28 hf, hq⟩⟩
      · rw [if_neg g] at hq
        exact ar_ld hf ⟨nI_in (c := 0) (by omega) (by omega), am_put_iff.mpr ⟨wl_28 hf, hq⟩⟩
    | _ => exact hq.elim
  · match x, hq with
    | 0, hq => exact absurd hq.1 (Nat.lt_irrefl _)
    | 1, hq => exact absurd hq.1 (Nat.lt_irrefl _)
    | 2, hq => exact hq.2
    | 3, hq => exact absurd hq.1 (Nat.lt_irrefl _)
    | n + 4, hq => exact absurd hq.1 (Nat.lt_irrefl _)
set_option maxRecDepth 20000 in
theorem cl_159 (hl : l.stackTraces = false) (hd : 1 ≤ d) {x1 : Int32} {fs : List Value} (h0 : w[0]? = some (.inr (2, fs))) (h : ∀ Q', (∀ o w', QW Q 1 0 0 o w' → Q' o w') → am_Call l (d - 1) 49 k [.ref 0, .int x1] w Q') : am_Call l d 159 k [.ref 0, .int x1, .ref 28] w Q := by
  refine op_159 hl hd (Nat.le_of_ble_eq_true rfl) (fun J hJ => hJ [] 100 _ _ _ _ _ (ar_ld h0 ⟨k, Nat.le_refl _, h _ (fun o w' hq => ?_)⟩))
  rcases o with (_ | v) | x
  · exact hq.elim
  · cases v with
    | int v =>
      obtain ⟨f, hf, hq⟩ := hq
      exact ar_ld hf ⟨nI_in (c := 0) (by omega) (by omega), am_put_iff.mpr ⟨wl_28 hf, hq⟩⟩
    | _ => exact hq.elim
  · match x, hq with
    | 0, hq => exact absurd hq.1 (Nat.lt_irrefl _)
    | 1, hq => exact hq.2
    | 2, hq => exact absurd hq.1 (Nat.lt_irrefl _)
    | 3, hq => exact absurd hq.1 (Nat.lt_irrefl _)
    | n + 4, hq => exact absurd hq.1 (Nat.lt_irrefl _)
set_option maxRecDepth 20000 in
theorem cl_160 (hl : l.stackTraces = false) (hd : 1 ≤ d) {x1 : Int32} {fs : List Value} (h0 : w[0]? = some (.inr (2, fs))) (h : ∀ Q', (∀ o w', QW Q 0 1 0 o w' → Q' o w') → am_Call l (d - 1) 50 k [.ref 0, .int x1] w Q') : am_Call l d 160 k [.ref 0, .int x1, .ref 28] w Q := by
  refine op_160 hl hd (Nat.le_of_ble_eq_true rfl) (fun J hJ => hJ [] 100 _ _ _ _ _ (ar_ld h0 ⟨k, Nat.le_refl _, h _ (fun o w' hq => ?_)⟩))
  rcases o with (_ | v) | x
  · exact hq.elim
  · cases v with
    | int v =>
      obtain ⟨f, hf, hq⟩ := hq
      exact ar_ld hf ⟨nI_in (c := 0) (by omega) (by omega), am_put_iff.mpr ⟨wl_28 hf, hq⟩⟩
    | _ => exact hq.elim
  · match x, hq with
    | 0, hq => exact absurd hq.1 (Nat.lt_irrefl _)
    | 1, hq => exact absurd hq.1 (Nat.lt_irrefl _)
    | 2, hq => exact hq.2
    | 3, hq => exact absurd hq.1 (Nat.lt_irrefl _)
    | n + 4, hq => exact absurd hq.1 (Nat.lt_irrefl _)
set_option maxRecDepth 20000 in
theorem cl_161 (hl : l.stackTraces = false) (hd : 1 ≤ d) {x1 : Int32} {fs : List Value} (h0 : w[0]? = some (.inr (2, fs))) (h : ∀ Q', (∀ o w', QW Q 1 0 2 o w' → Q' o w') → am_Call l (d - 1) 51 k [.ref 0, .int x1] w Q') : am_Call l d 161 k [.ref 0, .int x1, .ref 28] w Q := by
  refine op_161 hl hd (Nat.le_of_ble_eq_true rfl) (fun J hJ => hJ [] 100 _ _ _ _ _ (ar_ld h0 ⟨k, Nat.le_refl _, h _ (fun o w' hq => ?_)⟩))
  rcases o with (_ | v) | x
  · exact hq.elim
  · cases v with
    | int v =>
      obtain ⟨f, hf, hq⟩ := hq
      exact ar_ld hf ⟨nI_in (c := 0) (by omega) (by omega), am_put_iff.mpr ⟨wl_28 hf, hq⟩⟩
    | _ => exact hq.elim
  · match x, hq with
    | 0, hq => exact absurd hq.1 (Nat.lt_irrefl _)
    | 1, hq => exact hq.2
    | 2, hq => exact absurd hq.1 (Nat.lt_irrefl _)
    | 3, hq => exact hq.2
    | n + 4, hq => exact absurd hq.1 (Nat.lt_irrefl _)
set_option maxRecDepth 20000 in
theorem cl_162 (hl : l.stackTraces = false) (hd : 1 ≤ d) {fs : List Value} (h0 : w[0]? = some (.inr (2, fs))) (h : ∀ Q', (∀ o w', QW Q 0 0 1 o w' → Q' o w') → am_Call l (d - 1) 52 k [.ref 0] w Q') : am_Call l d 162 k [.ref 0, .ref 28] w Q := by
  refine op_162 hl hd (Nat.le_of_ble_eq_true rfl) (fun J hJ => hJ [] 100 _ _ _ _ _ (ar_ld h0 ⟨k, Nat.le_refl _, h _ (fun o w' hq => ?_)⟩))
  rcases o with (_ | v) | x
  · exact hq.elim
  · cases v with
    | int v =>
      obtain ⟨f, hf, hq⟩ := hq
      exact ar_ld hf ⟨nI_in (c := 0) (by omega) (by omega), am_put_iff.mpr ⟨wl_28 hf, hq⟩⟩
    | _ => exact hq.elim
  · match x, hq with
    | 0, hq => exact absurd hq.1 (Nat.lt_irrefl _)
    | 1, hq => exact absurd hq.1 (Nat.lt_irrefl _)
    | 2, hq => exact absurd hq.1 (Nat.lt_irrefl _)
    | 3, hq => exact hq.2
    | n + 4, hq => exact absurd hq.1 (Nat.lt_irrefl _)
set_option maxRecDepth 20000 in
theorem cl_163 (hl : l.stackTraces = false) (hd : 1 ≤ d) {x1 : Int32} {fs : List Value} (h0 : w[0]? = some (.inr (2, fs))) (h : ∀ Q', (∀ o w', QWz Q 1 0 0 o w' → Q' o w') → am_Call l (d - 1) 53 k [.ref 0, .int x1] w Q') : am_Call l d 163 k [.ref 0, .int x1, .ref 28] w Q := by
  refine op_163 hl hd (Nat.le_of_ble_eq_true rfl) (fun J hJ => hJ [] 100 _ _ _ _ _ (ar_ld h0 ⟨k, Nat.le_refl _, h _ (fun o w' hq => ?_)⟩))
  rcases o with (_ | v) | x
  · exact hq.elim
  · cases v with
    | int v =>
      obtain ⟨f, hf, hq⟩ := hq
      refine ⟨fun g => ?_, fun g => ?_⟩
      · rw [if_pos g] at hq
        exact ar_ld hf ⟨nI_in (c := 0) (by omega) (by omega), am_put_iff.mpr ⟨wl_28 hf, hq⟩⟩
      · rw [if_neg g] at hq
        exact ar_ld hf ⟨nI_in (c := 0) (by omega) (by omega), am_put_iff.mpr ⟨wl_28 hf, hq⟩⟩
    | _ => exact hq.elim
  · match x, hq with
    | 0, hq => exact absurd hq.1 (Nat.lt_irrefl _)
    | 1, hq => exact hq.2
    | 2, hq => exact absurd hq.1 (Nat.lt_irrefl _)
    | 3, hq => exact absurd hq.1 (Nat.lt_irrefl _)
    | n + 4, hq => exact absurd hq.1 (Nat.lt_irrefl _)
set_option maxRecDepth 20000 in
theorem cl_164 (hl : l.stackTraces = false) (hd : 1 ≤ d) {x1 x2 : Int32} {fs : List Value} (h0 : w[0]? = some (.inr (2, fs))) (h : ∀ Q', (∀ o w', QW Q 1 2 0 o w' → Q' o w') → am_Call l (d - 1) 54 k [.ref 0, .int x1, .int x2] w Q') : am_Call l d 164 k [.ref 0, .int x1, .int x2, .ref 28] w Q := by
  refine op_164 hl hd (Nat.le_of_ble_eq_true rfl) (fun J hJ => hJ [] 100 _ _ _ _ _ (ar_ld h0 ⟨k, Nat.le_refl _, h _ (fun o w' hq => ?_)⟩))
  rcases o with (_ | v) | x
  · exact hq.elim
  · cases v with
    | int v =>
      obtain ⟨f, hf, hq⟩ := hq
      exact ar_ld hf ⟨nI_in (c := 0) (by omega) (by omega), am_put_iff.mpr ⟨wl_28 hf, hq⟩⟩
    | _ => exact hq.elim
  · match x, hq with
    | 0, hq => exact absurd hq.1 (Nat.lt_irrefl _)
    | 1, hq => exact hq.2
    | 2, hq => exact hq.2
    | 3, hq => exact absurd hq.1 (Nat.lt_irrefl _)
    | n + 4, hq => exact absurd hq.1 (Nat.lt_irrefl _)
set_option maxRecDepth 20000 in
theorem cl_165 (hl : l.stackTraces = false) (hd : 1 ≤ d) {x1 : Int32} {fs : List Value} (h0 : w[0]? = some (.inr (2, fs))) (h : ∀ Q', (∀ o w', QW Q 0 1 0 o w' → Q' o w') → am_Call l (d - 1) 55 k [.ref 0, .int x1] w Q') : am_Call l d 165 k [.ref 0, .int x1, .ref 28] w Q := by
  refine op_165 hl hd (Nat.le_of_ble_eq_true rfl) (fun J hJ => hJ [] 100 _ _ _ _ _ (ar_ld h0 ⟨k, Nat.le_refl _, h _ (fun o w' hq => ?_)⟩))
  rcases o with (_ | v) | x
  · exact hq.elim
  · cases v with
    | int v =>
      obtain ⟨f, hf, hq⟩ := hq
      exact ar_ld hf ⟨nI_in (c := 0) (by omega) (by omega), am_put_iff.mpr ⟨wl_28 hf, hq⟩⟩
    | _ => exact hq.elim
  · match x, hq with
    | 0, hq => exact absurd hq.1 (Nat.lt_irrefl _)
    | 1, hq => exact absurd hq.1 (Nat.lt_irrefl _)
    | 2, hq => exact hq.2
    | 3, hq => exact absurd hq.1 (Nat.lt_irrefl _)
    | n + 4, hq => exact absurd hq.1 (Nat.lt_irrefl _)
set_option maxRecDepth 20000 in
theorem cl_166 (hl : l.stackTraces = false) (hd : 1 ≤ d) {x1 x2 : Int32} {fs : List Value} (h0 : w[0]? = some (.inr (2, fs))) (h : ∀ Q', (∀ o w', QW Q 1 2 0 o w' → Q' o w') → am_Call l (d - 1) 56 k [.ref 0, .int x1, .int x2] w Q') : am_Call l d 166 k [.ref 0, .int x1, .int x2, .ref 28] w Q := by
  refine op_166 hl hd (Nat.le_of_ble_eq_true rfl) (fun J hJ => hJ [] 100 _ _ _ _ _ (ar_ld h0 ⟨k, Nat.le_refl _, h _ (fun o w' hq => ?_)⟩))
  rcases o with (_ | v) | x
  · exact hq.elim
  · cases v with
    | int v =>
      obtain ⟨f, hf, hq⟩ := hq
      exact ar_ld hf ⟨nI_in (c := 0) (by omega) (by omega), am_put_iff.mpr ⟨wl_28 hf, hq⟩⟩
    | _ => exact hq.elim
  · match x, hq with
    | 0, hq => exact absurd hq.1 (Nat.lt_irrefl _)
    | 1, hq => exact hq.2
    | 2, hq => exact hq.2
    | 3, hq => exact absurd hq.1 (Nat.lt_irrefl _)
    | n + 4, hq => exact absurd hq.1 (Nat.lt_irrefl _)
set_option maxRecDepth 20000 in
theorem cl_167 (hl : l.stackTraces = false) (hd : 1 ≤ d) {x1 : Int32} {fs : List Value} (h0 : w[0]? = some (.inr (2, fs))) (h : ∀ Q', (∀ o w', QW Q 1 0 2 o w' → Q' o w') → am_Call l (d - 1) 58 k [.ref 0, .int x1] w Q') : am_Call l d 167 k [.ref 0, .int x1, .ref 28] w Q := by
  refine op_167 hl hd (Nat.le_of_ble_eq_true rfl) (fun J hJ => hJ [] 100 _ _ _ _ _ (ar_ld h0 ⟨k, Nat.le_refl _, h _ (fun o w' hq => ?_)⟩))
  rcases o with (_ | v) | x
  · exact hq.elim
  · cases v with
    | int v =>
      obtain ⟨f, hf, hq⟩ := hq
      exact ar_ld hf ⟨nI_in (c := 0) (by omega) (by omega), am_put_iff.mpr ⟨wl_28 hf, hq⟩⟩
    | _ => exact hq.elim
  · match x, hq with
    | 0, hq => exact absurd hq.1 (Nat.lt_irrefl _)
    | 1, hq => exact hq.2
    | 2, hq => exact absurd hq.1 (Nat.lt_irrefl _)
    | 3, hq => exact hq.2
    | n + 4, hq => exact absurd hq.1 (Nat.lt_irrefl _)
set_option maxRecDepth 20000 in
theorem cl_168 (hl : l.stackTraces = false) (hd : 1 ≤ d) {x1 : Int32} {fs : List Value} (h0 : w[0]? = some (.inr (2, fs))) (h : ∀ Q', (∀ o w', QW Q 1 0 2 o w' → Q' o w') → am_Call l (d - 1) 60 k [.ref 0, .int x1] w Q') : am_Call l d 168 k [.ref 0, .int x1, .ref 28] w Q := by
  refine op_168 hl hd (Nat.le_of_ble_eq_true rfl) (fun J hJ => hJ [] 100 _ _ _ _ _ (ar_ld h0 ⟨k, Nat.le_refl _, h _ (fun o w' hq => ?_)⟩))
  rcases o with (_ | v) | x
  · exact hq.elim
  · cases v with
    | int v =>
      obtain ⟨f, hf, hq⟩ := hq
      exact ar_ld hf ⟨nI_in (c := 0) (by omega) (by omega), am_put_iff.mpr ⟨wl_28 hf, hq⟩⟩
    | _ => exact hq.elim
  · match x, hq with
    | 0, hq => exact absurd hq.1 (Nat.lt_irrefl _)
    | 1, hq => exact hq.2
    | 2, hq => exact absurd hq.1 (Nat.lt_irrefl _)
    | 3, hq => exact hq.2
    | n + 4, hq => exact absurd hq.1 (Nat.lt_irrefl _)
set_option maxRecDepth 20000 in
theorem cl_169 (hl : l.stackTraces = false) (hd : 1 ≤ d) {x1 : Int32} {fs : List Value} (h0 : w[0]? = some (.inr (2, fs))) (h : ∀ Q', (∀ o w', QW Q 0 1 0 o w' → Q' o w') → am_Call l (d - 1) 62 k [.ref 0, .int x1] w Q') : am_Call l d 169 k [.ref 0, .int x1, .ref 28] w Q := by
  refine op_169 hl hd (Nat.le_of_ble_eq_true rfl) (fun J hJ => hJ [] 100 _ _ _ _ _ (ar_ld h0 ⟨k, Nat.le_refl _, h _ (fun o w' hq => ?_)⟩))
  rcases o with (_ | v) | x
  · exact hq.elim
  · cases v with
    | int v =>
      obtain ⟨f, hf, hq⟩ := hq
      exact ar_ld hf ⟨nI_in (c := 0) (by omega) (by omega), am_put_iff.mpr ⟨wl_28 hf, hq⟩⟩
    | _ => exact hq.elim
  · match x, hq with
    | 0, hq => exact absurd hq.1 (Nat.lt_irrefl _)
    | 1, hq => exact absurd hq.1 (Nat.lt_irrefl _)
    | 2, hq => exact hq.2
    | 3, hq => exact absurd hq.1 (Nat.lt_irrefl _)
    | n + 4, hq => exact absurd hq.1 (Nat.lt_irrefl _)
set_option maxRecDepth 20000 in
theorem cl_170 (hl : l.stackTraces = false) (hd : 1 ≤ d) {x1 : Int32} {fs : List Value} (h0 : w[0]? = some (.inr (2, fs))) (h : ∀ Q', (∀ o w', QW Q 0 1 2 o w' → Q' o w') → am_Call l (d - 1) 63 k [.ref 0, .int x1] w Q') : am_Call l d 170 k [.ref 0, .int x1, .ref 28] w Q := by
  refine op_170 hl hd (Nat.le_of_ble_eq_true rfl) (fun J hJ => hJ [] 100 _ _ _ _ _ (ar_ld h0 ⟨k, Nat.le_refl _, h _ (fun o w' hq => ?_)⟩))
  rcases o with (_ | v) | x
  · exact hq.elim
  · cases v with
    | int v =>
      obtain ⟨f, hf, hq⟩ := hq
      exact ar_ld hf ⟨nI_in (c := 0) (by omega) (by omega), am_put_iff.mpr ⟨wl_28 hf, hq⟩⟩
    | _ => exact hq.elim
  · match x, hq with
    | 0, hq => exact absurd hq.1 (Nat.lt_irrefl _)
    | 1, hq => exact absurd hq.1 (Nat.lt_irrefl _)
    | 2, hq => exact hq.2
    | 3, hq => exact hq.2
    | n + 4, hq => exact absurd hq.1 (Nat.lt_irrefl _)
end
