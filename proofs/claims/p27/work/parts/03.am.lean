/-! AM: an abstract machine. Its world is a list of cells; a reference is a place in that list. Its instructions are functions over what comes next, so that runs of code are reduced, not rewritten. -/
abbrev am_E : Type := (Nat × Nat × ((Nat → Int32) ⊕ (Nat → Int64) ⊕ (Nat → Option Nat))) ⊕ (Nat × List Value)
abbrev am_L : Type := List (Option Value)
abbrev am_S : Type := List Value
abbrev am_M : Type := List am_E
abbrev am_K : Type := Nat → Nat → am_L → am_S → am_M → Prop
abbrev am_Op : Type := am_K → Nat → am_L → am_S → am_M → Prop
abbrev am_O : Type := (Option Value) ⊕ Nat
abbrev am_Q : Type := am_O → am_M → Prop
/-- a call: the method's number, the budget, the arguments, the world, what must hold behind it -/
abbrev am_C : Type := Nat → Nat → List Value → am_M → am_Q → Prop
def am_at {α : Type} : List α → Nat → (α → Prop) → Prop
  | [], _, _ => False
  | x :: _, 0, k => k x
  | _ :: l, i + 1, k => am_at l i k
def am_put {α : Type} : List α → Nat → α → (List α → Prop) → Prop
  | [], _, _, _ => False
  | _ :: l, 0, v, k => k (v :: l)
  | o :: l, i + 1, v, k => am_put l i v (fun l' => k (o :: l'))
def am_app {α : Type} : List α → α → (Nat → List α → Prop) → Prop
  | [], v, k => k 0 [v]
  | o :: l, v, k => am_app l v (fun n l' => k (n + 1) (o :: l'))
def am_c2 (o : Option Value) : Bool := match o with
  | some (.long _) => true
  | some (.double _) => true
  | _ => false
def am_set : am_L → Nat → Value → (am_L → Prop) → Prop
  | [], _, _, _ => False
  | _ :: l, 0, v, k => k (some v :: l)
  | o :: l, i + 1, v, k => bif Nat.beq i 0 && am_c2 o then False else am_set l i v (fun l' => k (o :: l'))
def am_set2 : am_L → Nat → Value → (am_L → Prop) → Prop
  | _ :: _ :: l, 0, v, k => k (some v :: none :: l)
  | o :: l, i + 1, v, k => bif Nat.beq i 0 && am_c2 o then False else am_set2 l i v (fun l' => k (o :: l'))
  | _, _, _, _ => False
def am_nn (_ : Value) : Bool := true
def am_take : Nat → am_S → List Value → (List Value → am_S → Prop) → Prop
  | 0, st, acc, k => k acc st
  | _ + 1, [], _, _ => False
  | n + 1, v :: st, acc, k => bif am_nn v then am_take n st (v :: acc) k else False
def am_cat : am_S → Nat
  | [] => 0
  | v :: st => v.category + am_cat st
/-- exceptions by their numbers -/
def am_xn (n : Nat) : String := match n with
  | 1 => "java/lang/IndexOutOfBoundsException"
  | 2 => "java/lang/IllegalArgumentException"
  | _ => "java/lang/IllegalStateException"
-- instructions
def am_bad : am_Op := fun _ _ _ _ _ => False
def am_const (v : Value) (n : Nat) : am_Op := fun K k ls st w => K k n ls (v :: st) w
def am_nop (n : Nat) : am_Op := fun K k ls st w => K k n ls st w
def am_iload (i n : Nat) : am_Op := fun K k ls st w => am_at ls i (fun v => match v with | some (.int x) => K k n ls (.int x :: st) w | _ => False)
def am_lload (i n : Nat) : am_Op := fun K k ls st w => am_at ls i (fun v => match v with | some (.long x) => K k n ls (.long x :: st) w | _ => False)
def am_dload (i n : Nat) : am_Op := fun K k ls st w => am_at ls i (fun v => match v with | some (.double x) => K k n ls (.double x :: st) w | _ => False)
def am_aload (i n : Nat) : am_Op := fun K k ls st w => am_at ls i (fun v => match v with | some (.ref x) => K k n ls (.ref x :: st) w | some (.float x) => K k n ls (.float x :: st) w | _ => False)
def am_istore (i n : Nat) : am_Op := fun K k ls st w => match st with | .int x :: st' => am_set ls i (.int x) (fun ls' => K k n ls' st' w) | _ => False
def am_astore (i n : Nat) : am_Op := fun K k ls st w => match st with | .ref x :: st' => am_set ls i (.ref x) (fun ls' => K k n ls' st' w) | _ => False
def am_lstore (i n : Nat) : am_Op := fun K k ls st w => match st with | .long x :: st' => am_set2 ls i (.long x) (fun ls' => K k n ls' st' w) | _ => False
def am_dstore (i n : Nat) : am_Op := fun K k ls st w => match st with | .double x :: st' => am_set2 ls i (.double x) (fun ls' => K k n ls' st' w) | _ => False
def am_iinc (i : Nat) (c : Int32) (n : Nat) : am_Op := fun K k ls st w => am_at ls i (fun v => match v with | some (.int x) => am_set ls i (.int (x + c)) (fun ls' => K k n ls' st w) | _ => False)
def am_bin (f : Int32 → Int32 → Int32) (n : Nat) : am_Op := fun K k ls st w => match st with | .int y :: .int x :: st' => K k n ls (.int (f x y) :: st') w | _ => False
/-- by a divisor that isn't 0 -/
def am_dv (f : Int32 → Int32 → Int32) (n : Nat) : am_Op := fun K k ls st w => match st with | .int y :: .int x :: st' => ¬ y = 0 ∧ K k n ls (.int (f x y) :: st') w | _ => False
def am_un (f : Int32 → Int32) (n : Nat) : am_Op := fun K k ls st w => match st with | .int x :: st' => K k n ls (.int (f x) :: st') w | _ => False
def am_lbin (f : Int64 → Int64 → Int64) (n : Nat) : am_Op := fun K k ls st w => match st with | .long y :: .long x :: st' => K k n ls (.long (f x y) :: st') w | _ => False
def am_i2l (n : Nat) : am_Op := fun K k ls st w => match st with | .int x :: st' => K k n ls (.long x.toInt64 :: st') w | _ => False
def am_i2d (n : Nat) : am_Op := fun K k ls st w => match st with | .int x :: st' => K k n ls (.double (FP.i2d x) :: st') w | _ => False
def am_lcmp (n : Nat) : am_Op := fun K k ls st w => match st with | .long y :: .long x :: st' => K k n ls (.int (lg_cmp x y) :: st') w | _ => False
def am_dcmp (o : CmpOp) (n : Nat) : am_Op := fun K k ls st w => match st with | .double y :: .double x :: st' => K k n ls (.int (Op.cmpValue (FP.dcmp x y) o) :: st') w | _ => False
def am_ddiv (n : Nat) : am_Op := fun K k ls st w => match st with | .double y :: .double x :: st' => vf_n64 (FP.ddiv x y) ∧ K k n ls (.double (FP.ddiv x y) :: st') w | _ => False
def am_if (f : Int32 → Prop) (t n : Nat) : am_Op := fun K k ls st w => match st with | .int x :: st' => (f x → K k t ls st' w) ∧ (¬ f x → K k n ls st' w) | _ => False
def am_cmp (f : Int32 → Int32 → Prop) (t n : Nat) : am_Op := fun K k ls st w => match st with | .int y :: .int x :: st' => (f x y → K k t ls st' w) ∧ (¬ f x y → K k n ls st' w) | _ => False
def am_goto (t : Nat) : am_Op := fun K k ls st w => K k t ls st w
def am_sw (K : Nat → Prop) (x : Int32) (d : Nat) : List (Int32 × Nat) → Prop
  | [] => K d
  | (v, t) :: ts => (x = v → K t) ∧ (¬ x = v → am_sw K x d ts)
def am_switch (ts : List (Int32 × Nat)) (d : Nat) : am_Op := fun K k ls st w => match st with | .int x :: st' => am_sw (fun t => K k t ls st' w) x d ts | _ => False
def am_dup (n : Nat) : am_Op := fun K k ls st w => match st with | .int x :: st' => K k n ls (.int x :: .int x :: st') w | .ref x :: st' => K k n ls (.ref x :: .ref x :: st') w | _ => False
def am_dup_x1 (n : Nat) : am_Op := fun K k ls st w => match st with | .int x :: .ref y :: st' => K k n ls (.int x :: .ref y :: .int x :: st') w | _ => False
def am_dup2 (n : Nat) : am_Op := fun K k ls st w => match st with | .int x :: .ref y :: st' => K k n ls (.int x :: .ref y :: .int x :: .ref y :: st') w | _ => False
def am_pop (n : Nat) : am_Op := fun K k ls st w => match st with | .int _ :: st' => K k n ls st' w | _ => False
/-- a field of an object: its class's number, its place -/
def am_getf (ci j n : Nat) : am_Op := fun K k ls st w => match st with
  | .ref q :: st' => am_at w q (fun e => match e with
    | .inr (c, fs) => bif Nat.beq c ci then am_at fs j (fun v => match v with | .int x => K k n ls (.int x :: st') w | .ref x => K k n ls (.ref x :: st') w | .float x => K k n ls (.float x :: st') w | _ => False) else False
    | _ => False)
  | _ => False
def am_putfi (ci j n : Nat) : am_Op := fun K k ls st w => match st with
  | .int x :: .ref q :: st' => am_at w q (fun e => match e with
    | .inr (c, fs) => bif Nat.beq c ci then am_put fs j (.int x) (fun fs' => am_put w q (.inr (c, fs')) (fun w' => K k n ls st' w')) else False
    | _ => False)
  | _ => False
def am_putfr (ci j n : Nat) : am_Op := fun K k ls st w => match st with
  | .ref x :: .ref q :: st' => am_at w q (fun e => match e with
    | .inr (c, fs) => bif Nat.beq c ci then am_put fs j (.ref x) (fun fs' => am_put w q (.inr (c, fs')) (fun w' => K k n ls st' w')) else False
    | _ => False)
  | _ => False
def am_putfs (ci j n : Nat) : am_Op := fun K k ls st w => match st with
  | .float x :: .ref q :: st' => am_at w q (fun e => match e with
    | .inr (c, fs) => bif Nat.beq c ci then am_put fs j (.float x) (fun fs' => am_put w q (.inr (c, fs')) (fun w' => K k n ls st' w')) else False
    | _ => False)
  | _ => False
/-- an int out of an array of kind t (0 int, 1 boolean) -/
def am_iald (t n : Nat) : am_Op := fun K k ls st w => match st with
  | .int i :: .ref q :: st' => am_at w q (fun e => match e with
    | .inl (u, N, .inl f) => bif Nat.beq u t then vp_in i N ∧ K k n ls (.int (f i.toNatClampNeg) :: st') w else False
    | _ => False)
  | _ => False
def am_iast (n : Nat) : am_Op := fun K k ls st w => match st with
  | .int x :: .int i :: .ref q :: st' => am_at w q (fun e => match e with
    | .inl (u, N, .inl f) => bif Nat.beq u 0 then vp_in i N ∧ am_put w q (.inl (u, N, .inl (upd f i.toNatClampNeg x))) (fun w' => K k n ls st' w') else False
    | _ => False)
  | _ => False
def am_zast (n : Nat) : am_Op := fun K k ls st w => match st with
  | .int x :: .int i :: .ref q :: st' => am_at w q (fun e => match e with
    | .inl (u, N, .inl f) => bif Nat.beq u 1 then vp_in i N ∧ am_put w q (.inl (u, N, .inl (upd f i.toNatClampNeg (vp_nar .boolean x)))) (fun w' => K k n ls st' w') else False
    | _ => False)
  | _ => False
def am_lald (n : Nat) : am_Op := fun K k ls st w => match st with
  | .int i :: .ref q :: st' => am_at w q (fun e => match e with
    | .inl (u, N, .inr (.inl f)) => bif Nat.beq u 2 then vp_in i N ∧ K k n ls (.long (f i.toNatClampNeg) :: st') w else False
    | _ => False)
  | _ => False
def am_last (n : Nat) : am_Op := fun K k ls st w => match st with
  | .long x :: .int i :: .ref q :: st' => am_at w q (fun e => match e with
    | .inl (u, N, .inr (.inl f)) => bif Nat.beq u 2 then vp_in i N ∧ am_put w q (.inl (u, N, .inr (.inl (vp_updL f i.toNatClampNeg x)))) (fun w' => K k n ls st' w') else False
    | _ => False)
  | _ => False
def am_aald (t n : Nat) : am_Op := fun K k ls st w => match st with
  | .int i :: .ref q :: st' => am_at w q (fun e => match e with
    | .inl (u, N, .inr (.inr f)) => bif Nat.beq u t then vp_in i N ∧ ∃ r : Nat, f i.toNatClampNeg = some r ∧ K k n ls (.ref r :: st') w else False
    | _ => False)
  | _ => False
/-- a row of ints into a row of rows -/
def am_aast (n : Nat) : am_Op := fun K k ls st w => match st with
  | .ref x :: .int i :: .ref q :: st' => am_at w q (fun e => match e with
    | .inl (u, N, .inr (.inr f)) => am_at w x (fun e2 => match e2 with
      | .inl (u2, _, .inl _) => bif Nat.beq u 3 && Nat.beq u2 0 then vp_in i N ∧ am_put w q (.inl (u, N, .inr (.inr (va_up f i.toNatClampNeg (some x))))) (fun w' => K k n ls st' w') else False
      | _ => False)
    | _ => False)
  | _ => False
/-- how long a row is -/
def am_alen (n : Nat) : am_Op := fun K k ls st w => match st with
  | .ref q :: st' => am_at w q (fun e => match e with
    | .inl (u, N, _) => bif Nat.ble u 3 then K k n ls (.int (nI N) :: st') w else False
    | _ => False)
  | _ => False
/-- the law's script of L ints: a float stands for it -/
def am_sld (L : Nat) (xs : Nat → Int32) (n : Nat) : am_Op := fun K k ls st w => match st with
  | .int i :: .float _ :: st' => vp_in i L ∧ K k n ls (.int (xs i.toNatClampNeg) :: st') w
  | _ => False
def am_slen (L : Nat) (n : Nat) : am_Op := fun K k ls st w => match st with
  | .float _ :: st' => K k n ls (.int (nI L) :: st') w
  | _ => False
def am_pay (k : Nat) (K : Nat → Prop) : Prop := match k with | 0 => False | k + 1 => K k
def am_new (ci : Nat) (fs : List Value) (n : Nat) : am_Op := fun K k ls st w => am_pay k (fun k' => am_app w (.inr (ci, fs)) (fun q w' => K k' n ls (.ref q :: st) w'))
def am_newi (n : Nat) : am_Op := fun K k ls st w => match st with
  | .int x :: st' => ∃ N : Nat, x = nI N ∧ N ≤ 1100 ∧ am_pay k (fun k' => am_app w (.inl (0, N, .inl (fun _ => 0))) (fun q w' => K k' n ls (.ref q :: st') w'))
  | _ => False
def am_newz (n : Nat) : am_Op := fun K k ls st w => match st with
  | .int x :: st' => ∃ N : Nat, x = nI N ∧ N ≤ 1100 ∧ am_pay k (fun k' => am_app w (.inl (1, N, .inl (fun _ => 0))) (fun q w' => K k' n ls (.ref q :: st') w'))
  | _ => False
def am_newl (n : Nat) : am_Op := fun K k ls st w => match st with
  | .int x :: st' => ∃ N : Nat, x = nI N ∧ N ≤ 1100 ∧ am_pay k (fun k' => am_app w (.inl (2, N, .inr (.inl (fun _ => 0)))) (fun q w' => K k' n ls (.ref q :: st') w'))
  | _ => False
/-- new boolean[4][32]: the outer array, then its four rows -/
def am_rows (q : Nat) : Nat → Option Nat := fun j => if j < 4 then some (q + 1 + j) else none
def am_mna (n : Nat) : am_Op := fun K k ls st w => match st with
  | .int y :: .int x :: st' => x = 4 ∧ y = 32 ∧ 5 ≤ k ∧ K (k - 5) n ls (.ref w.length :: st') (w ++ [.inl (4, 4, .inr (.inr (am_rows w.length))), .inl (1, 32, .inl (fun _ => 0)), .inl (1, 32, .inl (fun _ => 0)), .inl (1, 32, .inl (fun _ => 0)), .inl (1, 32, .inl (fun _ => 0))])
  | _ => False
/-- new int[n][] -/
def am_newr (n : Nat) : am_Op := fun K k ls st w => match st with
  | .int x :: st' => ∃ N : Nat, x = nI N ∧ N ≤ 1100 ∧ am_pay k (fun k' => am_app w (.inl (3, N, .inr (.inr (fun _ => none)))) (fun q w' => K k' n ls (.ref q :: st') w'))
  | _ => False
def am_copyR (n : Nat) : am_Op := fun K k ls st w => match st with
  | .int c :: .int dp :: .ref b :: .int sp :: .ref a :: st' => am_at w a (fun e => match e with
    | .inl (u, N, .inr (.inr f)) => am_at w b (fun e2 => match e2 with
      | .inl (u2, N2, .inr (.inr g)) => bif Nat.beq u 3 && (Nat.beq u2 3 && Nat.ble (am_cat st') 8) then (¬ sp < 0 ∧ ¬ dp < 0 ∧ ¬ c < 0 ∧ sp.toNatClampNeg + c.toNatClampNeg ≤ N ∧ dp.toNatClampNeg + c.toNatClampNeg ≤ N2) ∧ (∀ i, i < c.toNatClampNeg → ∀ y, f (sp.toNatClampNeg + i) = some y → ∃ (n' : Nat) (h : Nat → Int32), w[y]? = some (.inl (0, n', .inl h))) ∧ am_put w b (.inl (u2, N2, .inr (.inr (va_cpy f g sp.toNatClampNeg dp.toNatClampNeg c.toNatClampNeg)))) (fun w' => K k n ls st' w') else False
      | _ => False)
    | _ => False)
  | _ => False
def am_copy (n : Nat) : am_Op := fun K k ls st w => match st with
  | .int c :: .int dp :: .ref b :: .int sp :: .ref a :: st' => am_at w a (fun e => match e with
    | .inl (u, N, .inl f) => am_at w b (fun e2 => match e2 with
      | .inl (u2, N2, .inl g) => bif Nat.beq u 0 && (Nat.beq u2 0 && Nat.ble (am_cat st') 8) then (¬ sp < 0 ∧ ¬ dp < 0 ∧ ¬ c < 0 ∧ sp.toNatClampNeg + c.toNatClampNeg ≤ N ∧ dp.toNatClampNeg + c.toNatClampNeg ≤ N2) ∧ ∃ g' : Nat → Int32, (∀ j, j < N2 → va_cpy f g sp.toNatClampNeg dp.toNatClampNeg c.toNatClampNeg j = g' j) ∧ am_put w b (.inl (u2, N2, .inl g')) (fun w' => K k n ls st' w') else False
      | _ => False)
    | _ => False)
  | _ => False
def am_max (n : Nat) : am_Op := fun K k ls st w => match st with | .int y :: .int x :: st' => bif Nat.ble (am_cat st') 8 then K k n ls (.int (if x < y then y else x) :: st') w else False | _ => False
def am_min (n : Nat) : am_Op := fun K k ls st w => match st with | .int y :: .int x :: st' => bif Nat.ble (am_cat st') 8 then K k n ls (.int (if y < x then y else x) :: st') w else False | _ => False
def am_abs (n : Nat) : am_Op := fun K k ls st w => match st with | .int x :: st' => bif Nat.ble (am_cat st') 8 then K k n ls (.int (if 0 ≤ x then x else 0 - x) :: st') w else False | _ => False
/-- Object() -/
def am_init (n : Nat) : am_Op := fun K k ls st w => match st with | .ref _ :: st' => bif Nat.ble (am_cat st') 8 then K k n ls st' w else False | _ => False
/-- a call of method y with c arguments (the receiver too); H: what catches -/
def am_inv (C : am_C) (H : Nat → Nat → am_L → am_M → Prop) (y c n : Nat) : am_Op := fun K k ls st w => am_take c st [] (fun as st' => bif Nat.ble (am_cat st') 8 then
  ∃ b : Nat, b ≤ k ∧ C y b as w (fun o w' => match o with
    | .inl none => K (k - b) n ls st' w'
    | .inl (some v) => K (k - b) n ls (v :: st') w'
    | .inr x => H x (k - b) ls w') else False)
/-- the receiver is an object of class ci -/
def am_rc (w : am_M) (ci : Nat) (as : List Value) (X : Prop) : Prop := match as with
  | .ref q :: _ => am_at w q (fun e => match e with
    | .inr (c, _) => bif Nat.beq c ci then X else False
    | _ => False)
  | _ => False
def am_rj (as : List Value) (X : Prop) : Prop := match as with
  | .ref _ :: _ => X
  | _ => False
def am_invR (C : am_C) (H : Nat → Nat → am_L → am_M → Prop) (y ci c n : Nat) : am_Op := fun K k ls st w => am_take c st [] (fun as st' => bif Nat.ble (am_cat st') 8 then
  am_rc w ci as (∃ b : Nat, b ≤ k ∧ C y b as w (fun o w' => match o with
    | .inl none => K (k - b) n ls st' w'
    | .inl (some v) => K (k - b) n ls (v :: st') w'
    | .inr x => H x (k - b) ls w')) else False)
def am_invJ (C : am_C) (H : Nat → Nat → am_L → am_M → Prop) (y c n : Nat) : am_Op := fun K k ls st w => am_take c st [] (fun as st' => bif Nat.ble (am_cat st') 8 then
  am_rj as (∃ b : Nat, b ≤ k ∧ C y b as w (fun o w' => match o with
    | .inl none => K (k - b) n ls st' w'
    | .inl (some v) => K (k - b) n ls (v :: st') w'
    | .inr x => H x (k - b) ls w')) else False)
/-- nothing catches here -/
def am_no (Q : am_Q) : am_K → Nat → Nat → am_L → am_M → Prop := fun _ x _ _ w => Q (.inr x) w
/-- what catches: the exception, the local that takes it, where it goes on -/
def am_hdl : List (Nat × Nat × Nat) → am_K → Nat → Nat → am_L → am_M → Prop
  | [], _, _, _, _, _ => False
  | (x', i, t) :: r, K, x, k, ls, w => bif Nat.beq x x' then am_set ls i .null (fun ls' => K k t (ls'.set i none) [] w) else am_hdl r K x k ls w
def am_throw (Q : am_Q) (x : Nat) : am_Op := fun _ k _ st w => bif Nat.ble (am_cat st) 8 then 1 ≤ k ∧ Q (.inr x) w else False
def am_iret (Q : am_Q) : am_Op := fun _ _ _ st w => match st with | [.int x] => Q (.inl (some (.int x))) w | _ => False
def am_zret (Q : am_Q) : am_Op := fun _ _ _ st w => match st with | [.int x] => narrow .boolean (.int x) = .int x ∧ Q (.inl (some (.int x))) w | _ => False
def am_lret (Q : am_Q) : am_Op := fun _ _ _ st w => match st with | [.long x] => Q (.inl (some (.long x))) w | _ => False
def am_dret (Q : am_Q) : am_Op := fun _ _ _ st w => match st with | [.double x] => Q (.inl (some (.double x))) w | _ => False
def am_aret (Q : am_Q) : am_Op := fun _ _ _ st w => match st with | [.ref x] => Q (.inl (some (.ref x))) w | _ => False
def am_vret (Q : am_Q) : am_Op := fun _ _ _ st w => match st with | [] => Q (.inl none) w | _ => False
-- runs of code
def am_in (pc : Nat) : List Nat → Bool
  | [] => false
  | x :: xs => Nat.beq pc x || am_in pc xs
/-- n instructions from pc on, to a place of 'stop' -/
def am_run (tbl : Nat → am_Op) (J : am_K) (stop : List Nat) (n : Nat) : am_K :=
  Nat.rec (motive := fun _ => am_K) J (fun _ ih => fun k pc ls st w => tbl pc (fun k' pc' ls' st' w' => bif am_in pc' stop then J k' pc' ls' st' w' else ih k' pc' ls' st' w') k ls st w) n
def am_snd (J : am_K) (op : am_Op) (pc : Nat) : Prop := ∀ (K : am_K), (∀ k pc ls st w, K k pc ls st w → J k pc ls st w) → ∀ k ls st w, op K k ls st w → J k pc ls st w
theorem am_run_snd {J : am_K} {tbl : Nat → am_Op} (h : ∀ pc, am_snd J (tbl pc) pc) (stop : List Nat) : ∀ (n k pc : Nat) (ls : am_L) (st : am_S) (w : am_M), am_run tbl J stop n k pc ls st w → J k pc ls st w
  | 0, _, _, _, _, _, h1 => h1
  | n + 1, k, pc, ls, st, w, h1 => h pc _ (fun k' pc' ls' st' w' h2 => by
      cases hc : am_in pc' stop with
      | true => rw [hc] at h2; exact h2
      | false => rw [hc] at h2; exact am_run_snd h stop n k' pc' ls' st' w' h2) k ls st w h1
theorem am_bad_snd {J : am_K} {pc : Nat} : am_snd J am_bad pc := fun _ _ _ _ _ _ h => h.elim
theorem am_leaf {J : am_K} {op : am_Op} {pc a : Nat} (h : am_snd J op a) : am_snd J (bif Nat.beq pc a then op else am_bad) pc := by
  cases hc : Nat.beq pc a with
  | true => rw [Nat.eq_of_beq_eq_true hc]; exact h
  | false => exact am_bad_snd
theorem am_node {J : am_K} {p q : am_Op} {pc a : Nat} (h1 : am_snd J p pc) (h2 : am_snd J q pc) : am_snd J (bif Nat.ble pc a then p else q) pc := by
  cases Nat.ble pc a with
  | true => exact h1
  | false => exact h2
/-- a body, from its entry, for whatever world stands behind it -/
def am_B (tbl : am_C → am_Q → Nat → am_Op) (C : am_C) (k : Nat) (ls : am_L) (w : am_M) (Q : am_Q) : Prop :=
  ∀ J : am_K, (∀ (stop : List Nat) (n k pc : Nat) (ls : am_L) (st : am_S) (w : am_M), am_run (tbl C Q) J stop n k pc ls st w → J k pc ls st w) → J k 0 ls [] w
-- what the words over lists say
theorem am_at_iff {α : Type} : ∀ {l : List α} {i : Nat} {k : α → Prop}, am_at l i k ↔ ∃ x, l[i]? = some x ∧ k x
  | [], i, k => by simp [am_at]
  | x :: l, 0, k => by simp [am_at]
  | x :: l, i + 1, k => by simp only [am_at, List.getElem?_cons_succ]; exact am_at_iff
theorem am_at_eq {α : Type} {l : List α} {i : Nat} {x : α} (h : l[i]? = some x) (k : α → Prop) : am_at l i k = k x := by
  refine propext (am_at_iff.trans ⟨?_, fun h2 => ⟨x, h, h2⟩⟩)
  rintro ⟨y, h1, h2⟩
  rw [h] at h1
  cases h1
  exact h2
theorem am_put_iff {α : Type} : ∀ {l : List α} {i : Nat} {v : α} {k : List α → Prop}, am_put l i v k ↔ i < l.length ∧ k (l.set i v)
  | [], i, v, k => by simp [am_put]
  | x :: l, 0, v, k => by simp [am_put]
  | x :: l, i + 1, v, k => by
    simp only [am_put, List.length_cons, List.set_cons_succ, Nat.add_lt_add_iff_right]
    exact am_put_iff
theorem am_put_eq {α : Type} {l : List α} {i : Nat} {v : α} (h : i < l.length) (k : List α → Prop) : am_put l i v k = k (l.set i v) := propext (am_put_iff.trans ⟨fun q => q.2, fun q => ⟨h, q⟩⟩)
theorem am_app_iff {α : Type} : ∀ {l : List α} {v : α} {k : Nat → List α → Prop}, am_app l v k ↔ k l.length (l ++ [v])
  | [], v, k => by simp [am_app]
  | x :: l, v, k => by
    simp only [am_app, List.length_cons, List.cons_append]
    exact am_app_iff
theorem am_app_eq {α : Type} {l : List α} {v : α} (k : Nat → List α → Prop) : am_app l v k = k l.length (l ++ [v]) := propext am_app_iff
theorem am_take_iff : ∀ {n : Nat} {st : am_S} {acc : List Value} {k : List Value → am_S → Prop}, am_take n st acc k → ∃ as st', st = as.reverse ++ st' ∧ as.length = n ∧ (∀ v ∈ as, am_nn v = true) ∧ k (as ++ acc) st'
  | 0, st, acc, k, h => ⟨[], st, rfl, rfl, (fun _ h => absurd h List.not_mem_nil), h⟩
  | n + 1, [], acc, k, h => h.elim
  | n + 1, v :: st, acc, k, h => by
    have h' : (bif am_nn v then am_take n st (v :: acc) k else False) := h
    cases hv : am_nn v with
    | false => rw [hv] at h'; exact h'.elim
    | true =>
      rw [hv] at h'
      obtain ⟨as, st', h1, h2, h4, h3⟩ := am_take_iff (n := n) (st := st) (acc := v :: acc) h'
      refine ⟨as ++ [v], st', ?_, ?_, ?_, ?_⟩
      · simp [h1]
      · simp [h2]
      · intro x hx
        rcases List.mem_append.mp hx with hx | hx
        · exact h4 x hx
        · cases List.mem_singleton.mp hx
          exact hv
      · simpa using h3
theorem am_rc_iff {w : am_M} {ci : Nat} {as : List Value} {X : Prop} (h : am_rc w ci as X) : (∃ q as1 fs, as = .ref q :: as1 ∧ w[q]? = some (.inr (ci, fs))) ∧ X := by
  dsimp only [am_rc] at h
  split at h
  · rename_i q as1
    replace h := am_at_iff.mp h
    obtain ⟨e0, he, h⟩ := h
    split at h
    · rename_i c fs
      cases hb : Nat.beq c ci with
      | false => rw [hb] at h; exact h.elim
      | true =>
        rw [hb] at h
        rw [← Nat.eq_of_beq_eq_true hb]
        exact ⟨⟨q, as1, fs, rfl, he⟩, h⟩
    · exact h.elim
  · exact h.elim
theorem am_rj_iff {as : List Value} {X : Prop} (h : am_rj as X) : (∃ q as1, as = .ref q :: as1) ∧ X := by
  dsimp only [am_rj] at h
  split at h
  · rename_i q as1
    exact ⟨⟨q, as1, rfl⟩, h⟩
  · exact h.elim
theorem am_cat_eq : ∀ st : am_S, am_cat st = (st.map fun v => v.category).sum
  | [] => rfl
  | v :: st => by simp [am_cat, am_cat_eq st]
