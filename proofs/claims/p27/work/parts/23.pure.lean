/-! pure: bits, counts, sets of cards -/
/-! ===== Int32 by its bits: bt x i ===== -/
def bt (x : Int32) (i : Nat) : Bool := x.toBitVec.getLsbD i
theorem b_ext {x y : Int32} (h : ∀ i, i < 32 → bt x i = bt y i) : x = y := Int32.toBitVec_inj.mp (BitVec.eq_of_getLsbD_eq (fun i hi => h i hi))
theorem b_or (x y : Int32) (i : Nat) : bt (x ||| y) i = (bt x i || bt y i) := by unfold bt; rw [Int32.toBitVec_or, BitVec.getLsbD_or]
theorem b_and (x y : Int32) (i : Nat) : bt (x &&& y) i = (bt x i && bt y i) := by unfold bt; rw [Int32.toBitVec_and, BitVec.getLsbD_and]
theorem b_xor (x y : Int32) (i : Nat) : bt (x ^^^ y) i = (bt x i ^^ bt y i) := by unfold bt; rw [Int32.toBitVec_xor, BitVec.getLsbD_xor]
theorem b_big {x : Int32} {i : Nat} (h : 32 ≤ i) : bt x i = false := BitVec.getLsbD_of_ge _ _ h
theorem b_255 (i : Nat) : bt 255 i = decide (i < 8) := by
  rcases Nat.lt_or_ge i 32 with h | h
  · exact (by decide +kernel : ∀ i, i < 32 → bt 255 i = decide (i < 8)) i h
  · rw [b_big h, decide_eq_false (by omega)]
theorem b_65535 (i : Nat) : bt 65535 i = decide (i < 16) := by
  rcases Nat.lt_or_ge i 32 with h | h
  · exact (by decide +kernel : ∀ i, i < 32 → bt 65535 i = decide (i < 16)) i h
  · rw [b_big h, decide_eq_false (by omega)]
theorem b_m1 : ∀ i, i < 32 → bt (-1) i = true := by decide +kernel
theorem b_0 (i : Nat) : bt 0 i = false := BitVec.getLsbD_zero
theorem s_l : ∀ n, n < 32 → ((nI n &&& 31).toBitVec.smod 32).toNat = n := by decide +kernel
theorem s_u : ∀ n, n < 32 → (((nI n).toUInt32 &&& Int32.toUInt32 31).toBitVec % 32).toNat = n := by decide +kernel
theorem b_shl (n : Nat) (hn : n < 32) (x : Int32) {i : Nat} (hi : i < 32) : bt (x <<< (nI n &&& 31)) i = (decide (n ≤ i) && bt x (i - n)) := by
  unfold bt
  rw [Int32.toBitVec_shiftLeft]
  show (x.toBitVec <<< ((nI n &&& 31).toBitVec.smod 32).toNat).getLsbD i = _
  rw [s_l n hn, BitVec.getLsbD_shiftLeft]
  rcases Nat.lt_or_ge i n with h | h
  · simp [h, Nat.not_le.mpr h]
  · simp [hi, h, Nat.not_lt.mpr h]
theorem b_ushr (n : Nat) (hn : n < 32) (x : Int32) (i : Nat) : bt ((x.toUInt32 >>> ((nI n).toUInt32 &&& Int32.toUInt32 31)).toInt32) i = bt x (n + i) := by
  show (x.toUInt32 >>> ((nI n).toUInt32 &&& Int32.toUInt32 31)).toBitVec.getLsbD i = x.toUInt32.toBitVec.getLsbD (n + i)
  rw [UInt32.toBitVec_shiftRight]
  show (x.toUInt32.toBitVec >>> (((nI n).toUInt32 &&& Int32.toUInt32 31).toBitVec % 32).toNat).getLsbD i = _
  rw [s_u n hn, BitVec.getLsbD_ushiftRight]
theorem b_sshr (n : Nat) (hn : n < 32) (x : Int32) {i : Nat} (hi : i < 32) : bt (x >>> (nI n &&& 31)) i = if n + i < 32 then bt x (n + i) else bt x 31 := by
  unfold bt
  rw [Int32.toBitVec_shiftRight]
  show (x.toBitVec.sshiftRight ((nI n &&& 31).toBitVec.smod 32).toNat).getLsbD i = _
  rw [s_l n hn, BitVec.getLsbD_sshiftRight, BitVec.msb_eq_getLsbD_last]
  simp [hi]
theorem b_shl8 (x : Int32) {i : Nat} (hi : i < 32) : bt (x <<< ((8 : Int32) &&& 31)) i = (decide (8 ≤ i) && bt x (i - 8)) := b_shl 8 (by omega) x hi
theorem b_shl16 (x : Int32) {i : Nat} (hi : i < 32) : bt (x <<< ((16 : Int32) &&& 31)) i = (decide (16 ≤ i) && bt x (i - 16)) := b_shl 16 (by omega) x hi
theorem b_shl24 (x : Int32) {i : Nat} (hi : i < 32) : bt (x <<< ((24 : Int32) &&& 31)) i = (decide (24 ≤ i) && bt x (i - 24)) := b_shl 24 (by omega) x hi
theorem b_sshr8 (x : Int32) {i : Nat} (hi : i < 32) : bt (x >>> ((8 : Int32) &&& 31)) i = if 8 + i < 32 then bt x (8 + i) else bt x 31 := b_sshr 8 (by omega) x hi
theorem nx_and (a b : Nat) : nI a &&& nI b = nI (a &&& b) := by
  apply Int32.toBitVec_inj.1
  show BitVec.ofNat 32 a &&& BitVec.ofNat 32 b = BitVec.ofNat 32 (a &&& b)
  apply BitVec.eq_of_getLsbD_eq
  intro i hi
  simp [hi]
/-! ===== how many places have a property ===== -/
def fb_ct (p : Nat → Bool) : Nat → Nat
  | 0 => 0
  | n + 1 => fb_ct p n + (if p n then 1 else 0)
theorem fb_ct_succ (p : Nat → Bool) (n : Nat) : fb_ct p (n + 1) = fb_ct p n + (if p n then 1 else 0) := rfl
theorem fb_ct_le (p : Nat → Bool) : ∀ n, fb_ct p n ≤ n
  | 0 => Nat.le_refl _
  | n + 1 => by
    have h := fb_ct_le p n
    rw [fb_ct_succ]
    split <;> omega
theorem fb_ct_step (p : Nat → Bool) (m : Nat) : ∀ n, fb_ct p m ≤ fb_ct p (m + n)
  | 0 => Nat.le_refl _
  | n + 1 => by
    have h := fb_ct_step p m n
    show fb_ct p m ≤ fb_ct p (m + n + 1)
    rw [fb_ct_succ]
    omega
theorem fb_ct_mono (p : Nat → Bool) {m n : Nat} (h : m ≤ n) : fb_ct p m ≤ fb_ct p n := by
  have := fb_ct_step p m (n - m)
  rwa [Nat.add_sub_cancel' h] at this
theorem fb_ct_cong {p q : Nat → Bool} : ∀ {n : Nat}, (∀ k, k < n → p k = q k) → fb_ct p n = fb_ct q n
  | 0, _ => rfl
  | n + 1, h => by
    rw [fb_ct_succ, fb_ct_succ, fb_ct_cong (fun k hk => h k (by omega)), h n (by omega)]
/-- one place changed -/
theorem fb_ct_out (p : Nat → Bool) (b : Bool) {i n : Nat} (h : n ≤ i) : fb_ct (fun k => if k = i then b else p k) n = fb_ct p n :=
  fb_ct_cong fun k hk => if_neg (by omega)
theorem fb_ct_upd (p : Nat → Bool) (b : Bool) {i : Nat} : ∀ {n : Nat}, i < n → fb_ct (fun k => if k = i then b else p k) n + (if p i then 1 else 0) = fb_ct p n + (if b then 1 else 0)
  | 0, h => absurd h (Nat.not_lt_zero i)
  | n + 1, h => by
    rw [fb_ct_succ, fb_ct_succ]
    rcases Nat.lt_or_ge i n with q | q
    · have := fb_ct_upd p b q
      have e : (if n = i then b else p n) = p n := if_neg (by omega)
      rw [e]
      omega
    · have e : i = n := by omega
      subst e
      rw [fb_ct_out p b (Nat.le_refl _)]
      simp only [if_true]
      omega
theorem fb_ct_sub {p q : Nat → Bool} : ∀ {n : Nat}, (∀ k, k < n → p k = true → q k = true) → fb_ct p n ≤ fb_ct q n
  | 0, _ => Nat.le_refl _
  | n + 1, h => by
    have h1 := fb_ct_sub (n := n) (p := p) (q := q) (fun k hk => h k (by omega))
    have h2 := h n (by omega)
    rw [fb_ct_succ, fb_ct_succ]
    cases hp : p n <;> cases hq : q n <;> simp_all <;> omega
theorem fb_ct_or {p q : Nat → Bool} : ∀ {n : Nat}, (∀ k, k < n → ¬ (p k = true ∧ q k = true)) → fb_ct (fun k => p k || q k) n = fb_ct p n + fb_ct q n
  | 0, _ => rfl
  | n + 1, h => by
    have h1 := fb_ct_or (n := n) (p := p) (q := q) (fun k hk => h k (by omega))
    have h2 := h n (by omega)
    rw [fb_ct_succ, fb_ct_succ, fb_ct_succ, h1]
    cases hp : p n <;> cases hq : q n <;> simp_all <;> omega
theorem fb_ct_not (p : Nat → Bool) : ∀ n, fb_ct p n + fb_ct (fun k => !p k) n = n
  | 0 => rfl
  | n + 1 => by
    have h := fb_ct_not p n
    rw [fb_ct_succ, fb_ct_succ]
    cases p n <;> simp <;> omega
theorem fb_ct_split (p : Nat → Bool) (m : Nat) : ∀ n, fb_ct p (m + n) = fb_ct p m + fb_ct (fun k => p (m + k)) n
  | 0 => rfl
  | n + 1 => by
    have h := fb_ct_split p m n
    show fb_ct p (m + n + 1) = _
    rw [fb_ct_succ, fb_ct_succ, h, Nat.add_assoc]
theorem fb_ct_zero {p : Nat → Bool} : ∀ {n : Nat}, fb_ct p n = 0 ↔ ∀ k, k < n → p k = false
  | 0 => ⟨fun _ k hk => absurd hk (Nat.not_lt_zero k), fun _ => rfl⟩
  | n + 1 => by
    have h := fb_ct_zero (p := p) (n := n)
    rw [fb_ct_succ]
    constructor
    · intro e k hk
      have e1 : fb_ct p n = 0 := by omega
      rcases Nat.lt_or_ge k n with q | q
      · exact h.mp e1 k q
      · have ek : k = n := by omega
        subst ek
        cases hp : p k
        · rfl
        · simp [hp] at e
    · intro a
      rw [h.mpr (fun k hk => a k (by omega)), a n (by omega)]
      rfl
theorem fb_ct_pos {p : Nat → Bool} {n : Nat} : 0 < fb_ct p n ↔ ∃ k, k < n ∧ p k = true := by
  constructor
  · intro h
    refine Classical.byContradiction fun hx => ?_
    have := fb_ct_zero.mpr (fun k hk => by
      cases hp : p k
      · rfl
      · exact absurd ⟨k, hk, hp⟩ hx : ∀ k, k < n → p k = false)
    omega
  · rintro ⟨k, hk, hp⟩
    rcases Nat.eq_zero_or_pos (fb_ct p n) with e | e
    · have := fb_ct_zero.mp e k hk
      rw [this] at hp
      cases hp
    · exact e
theorem fb_ct_all {p : Nat → Bool} {n : Nat} : fb_ct p n = n ↔ ∀ k, k < n → p k = true := by
  have h := fb_ct_not p n
  constructor
  · intro e k hk
    have z : fb_ct (fun k => !p k) n = 0 := by omega
    have := fb_ct_zero.mp z k hk
    cases hp : p k
    · simp [hp] at this
    · rfl
  · intro a
    have z : fb_ct (fun k => !p k) n = 0 := fb_ct_zero.mpr (fun k hk => by simp [a k hk])
    omega
/-- the k-th place with the property -/
theorem fb_ct_kth {p : Nat → Bool} {k : Nat} : ∀ {n : Nat}, k < fb_ct p n → ∃ i, i < n ∧ p i = true ∧ fb_ct p i = k
  | 0, h => absurd h (Nat.not_lt_zero k)
  | n + 1, h => by
    rcases Nat.lt_or_ge k (fb_ct p n) with q | q
    · obtain ⟨i, h1, h2⟩ := fb_ct_kth q
      exact ⟨i, by omega, h2⟩
    · rw [fb_ct_succ] at h
      cases hp : p n
      · simp [hp] at h; omega
      · simp [hp] at h
        exact ⟨n, by omega, hp, by omega⟩
theorem fb_ct_kth_one {p : Nat → Bool} {i j : Nat} (hi : p i = true) (hj : p j = true) (e : fb_ct p i = fb_ct p j) : i = j := by
  have key : ∀ a b : Nat, a < b → p a = true → fb_ct p a < fb_ct p b := by
    intro a b hab ha
    have h := fb_ct_mono p (show a + 1 ≤ b from hab)
    rw [fb_ct_succ, ha] at h
    simp at h
    omega
  rcases Nat.lt_trichotomy i j with q | q | q
  · have := key i j q hi; omega
  · exact q
  · have := key j i q hj; omega
/-! sets of cards as the bits of a number -/
theorem s_one {c : Nat} (hc : c < 32) {i : Nat} (hi : i < 32) : bt ((1 : Int32) <<< (nI c &&& 31)) i = decide (i = c) := by
  rw [b_shl c hc 1 hi]
  have h : ∀ j, j < 32 → bt 1 j = decide (j = 0) := by decide +kernel
  by_cases h1 : c ≤ i
  · rw [h (i - c) (by omega)]
    by_cases h2 : i = c
    · subst h2; simp
    · simp [h1, h2]; omega
  · simp [h1]; omega
theorem b_and1 (x : Int32) : x &&& 1 = if bt x 0 then 1 else 0 := by
  apply b_ext
  intro i hi
  rw [b_and]
  have h : ∀ j, j < 32 → bt 1 j = decide (j = 0) := by decide +kernel
  rw [h i hi]
  by_cases h2 : i = 0
  · subst h2
    cases hb : bt x 0 <;> simp <;> decide
  · simp [h2]
    split
    · rw [h i hi]; simp [h2]
    · exact b_0 i
theorem s_ush {c : Nat} (hc : c < 32) (s : Int32) : ((s.toUInt32 >>> ((nI c).toUInt32 &&& Int32.toUInt32 31)).toInt32 &&& 1) = if bt s c then 1 else 0 := by rw [b_and1, b_ushr c hc]; rfl
theorem s_shr {c : Nat} (hc : c < 32) (s : Int32) : (s >>> (nI c &&& 31)) &&& 1 = if bt s c then 1 else 0 := by
  have e : bt (s >>> (nI c &&& 31)) 0 = bt s c := by rw [b_sshr c hc s (by omega)]; simp [hc]
  rw [b_and1, e]
theorem s_b1 (b : Bool) : (if b then (1 : Int32) else 0) = 1 ↔ b = true := by cases b <;> decide
theorem s_b0 (b : Bool) : (if b then (1 : Int32) else 0) = 0 ↔ b = false := by cases b <;> decide
def sAdd (s : Int32) (c : Nat) : Int32 := s ||| ((1 : Int32) <<< (nI c &&& 31))
def sDel (s : Int32) (c : Nat) : Int32 := s &&& (((1 : Int32) <<< (nI c &&& 31)) ^^^ (-1))
theorem bt_add {s : Int32} {c i : Nat} (hc : c < 32) (hi : i < 32) : bt (sAdd s c) i = (bt s i || decide (i = c)) := by rw [sAdd, b_or, s_one hc hi]
theorem bt_del {s : Int32} {c i : Nat} (hc : c < 32) (hi : i < 32) : bt (sDel s c) i = (bt s i && !decide (i = c)) := by rw [sDel, b_and, b_xor, s_one hc hi, b_m1 i hi]; simp
theorem s_xor {s : Int32} {c : Nat} (hc : c < 32) (h : bt s c = true) : s ^^^ ((1 : Int32) <<< (nI c &&& 31)) = sDel s c := by
  apply b_ext
  intro i hi
  rw [b_xor, s_one hc hi, bt_del hc hi]
  by_cases h2 : i = c
  · subst h2; rw [h]; simp
  · simp [h2]
theorem s_xor2 {s : Int32} {c : Nat} (hc : c < 32) (h : bt s c = true) : sDel s c ^^^ ((1 : Int32) <<< (nI c &&& 31)) = s := by
  apply b_ext
  intro i hi
  rw [b_xor, s_one hc hi, bt_del hc hi]
  by_cases h2 : i = c
  · subst h2; rw [h]; simp
  · simp [h2]
theorem s_del_add {s : Int32} {c : Nat} (hc : c < 32) (h : bt s c = true) : sAdd (sDel s c) c = s := by
  apply b_ext
  intro i hi
  rw [bt_add hc hi, bt_del hc hi]
  by_cases h2 : i = c
  · subst h2; rw [h]; simp
  · simp [h2]
theorem s_add_del {s : Int32} {c : Nat} (hc : c < 32) (h : bt s c = false) : sDel (sAdd s c) c = s := by
  apply b_ext
  intro i hi
  rw [bt_del hc hi, bt_add hc hi]
  by_cases h2 : i = c
  · subst h2; rw [h]; simp
  · simp [h2]
theorem s_del_id {s : Int32} {c : Nat} (hc : c < 32) (h : bt s c = false) : sDel s c = s := by
  apply b_ext
  intro i hi
  rw [bt_del hc hi]
  by_cases h2 : i = c
  · subst h2; rw [h]; simp
  · simp [h2]
theorem s_zero {s : Int32} : s = 0 ↔ ∀ i, i < 32 → bt s i = false := ⟨fun h i _ => by rw [h]; exact b_0 i, fun h => b_ext fun i hi => by rw [h i hi, b_0]⟩
def pc (s : Int32) : Nat := fb_ct (bt s) 32
theorem pc_le (s : Int32) : pc s ≤ 32 := fb_ct_le _ _
theorem pc_zero {s : Int32} : pc s = 0 ↔ s = 0 := by rw [pc, fb_ct_zero, s_zero]
theorem pc_add {s : Int32} {c : Nat} (hc : c < 32) (h : bt s c = false) : pc (sAdd s c) = pc s + 1 := by
  have e : fb_ct (bt (sAdd s c)) 32 = fb_ct (fun k => if k = c then true else bt s k) 32 := fb_ct_cong fun k hk => by
    rw [bt_add hc hk]
    by_cases h2 : k = c <;> simp [h2]
  have := fb_ct_upd (bt s) true (i := c) (n := 32) hc
  rw [pc, pc, e]
  rw [h] at this
  simpa using this
theorem pc_del {s : Int32} {c : Nat} (hc : c < 32) (h : bt s c = true) : pc (sDel s c) + 1 = pc s := by
  have := pc_add (s := sDel s c) hc (by rw [bt_del hc hc]; simp)
  rw [s_del_add hc h] at this
  omega
theorem pc_pos {s : Int32} : 0 < pc s ↔ ∃ c, c < 32 ∧ bt s c = true := fb_ct_pos
/-- the first place from i on, among n, that has a property; i + n without one -/
def nx (p : Nat → Bool) : Nat → Nat → Nat
  | 0, i => i
  | n + 1, i => if p i then i else nx p n (i + 1)
theorem nx_spec (p : Nat → Bool) : ∀ n i, i ≤ nx p n i ∧ nx p n i ≤ i + n ∧ (nx p n i < i + n → p (nx p n i) = true) ∧ ∀ j, i ≤ j → j < nx p n i → p j = false
  | 0, i => ⟨Nat.le_refl _, Nat.le_refl _, fun h => absurd h (Nat.lt_irrefl _), fun j h1 h2 => absurd h2 (by rw [nx]; omega)⟩
  | n + 1, i => by
    rw [nx]
    cases h : p i with
    | true => exact ⟨by simp, by simp, fun _ => by simpa using h, fun j h1 h2 => by simp at h2; omega⟩
    | false =>
      obtain ⟨h1, h2, h3, h4⟩ := nx_spec p n (i + 1)
      simp only [Bool.false_eq_true, if_false]
      refine ⟨by omega, by omega, fun q => h3 (by omega), fun j h5 h6 => ?_⟩
      by_cases hj : j = i
      · rw [hj]; exact h
      · exact h4 j (by omega) h6
theorem nx_uniq {p : Nat → Bool} {n i c : Nat} (h1 : i ≤ c) (h2 : c < i + n) (hc : p c = true) (h : ∀ j, i ≤ j → j < c → p j = false) : nx p n i = c := by
  obtain ⟨a1, a2, a3, a4⟩ := nx_spec p n i
  rcases Nat.lt_trichotomy (nx p n i) c with q | q | q
  · have := a3 (by omega)
    rw [h _ a1 q] at this
    cases this
  · exact q
  · have := a4 c h1 q
    rw [hc] at this
    cases this
theorem nx_none {p : Nat → Bool} {n i : Nat} (h : ∀ j, i ≤ j → j < i + n → p j = false) : nx p n i = i + n := by
  obtain ⟨a1, a2, a3, a4⟩ := nx_spec p n i
  rcases Nat.lt_or_ge (nx p n i) (i + n) with q | q
  · have := a3 q
    rw [h _ a1 q] at this
    cases this
  · omega
theorem nx_cong {p q : Nat → Bool} : ∀ {n i : Nat}, (∀ j, i ≤ j → j < i + n → p j = q j) → nx p n i = nx q n i
  | 0, _, _ => rfl
  | n + 1, i, h => by
    rw [nx, nx, h i (by omega) (by omega), nx_cong (n := n) (i := i + 1) (fun j h1 h2 => h j (by omega) (by omega))]
/-- the last place below n that has a property; 0 without one -/
def gx (p : Nat → Bool) : Nat → Nat
  | 0 => 0
  | n + 1 => if p n then n else gx p n
theorem gx_uniq {p : Nat → Bool} {c : Nat} : ∀ {n : Nat}, c < n → p c = true → (∀ j, c < j → j < n → p j = false) → gx p n = c
  | 0, h, _, _ => absurd h (Nat.not_lt_zero _)
  | n + 1, h, hc, hj => by
    rw [gx]
    by_cases e : c = n
    · subst e; rw [hc]; rfl
    · rw [hj n (by omega) (by omega)]
      exact gx_uniq (by omega) hc (fun j h1 h2 => hj j h1 (by omega))
theorem gx_spec {p : Nat → Bool} : ∀ {n : Nat}, (∃ c, c < n ∧ p c = true) → gx p n < n ∧ p (gx p n) = true ∧ ∀ j, gx p n < j → j < n → p j = false
  | 0, ⟨c, h, _⟩ => absurd h (Nat.not_lt_zero _)
  | n + 1, ⟨c, h, hc⟩ => by
    rw [gx]
    cases hn : p n with
    | true => exact ⟨by simp, by simpa using hn, fun j h1 h2 => by simp at h1; omega⟩
    | false =>
      have hcn : c < n := by
        rcases Nat.lt_or_ge c n with q | q
        · exact q
        · rw [show c = n by omega, hn] at hc
          cases hc
      obtain ⟨a1, a2, a3⟩ := gx_spec (p := p) (n := n) ⟨c, hcn, hc⟩
      simp only [Bool.false_eq_true, if_false]
      refine ⟨by omega, a2, fun j h1 h2 => ?_⟩
      by_cases e : j = n
      · rw [e]; exact hn
      · exact a3 j h1 (by omega)
theorem gx_cong {p q : Nat → Bool} : ∀ {n : Nat}, (∀ j, j < n → p j = q j) → gx p n = gx q n
  | 0, _ => rfl
  | n + 1, h => by rw [gx, gx, h n (by omega), gx_cong (n := n) (fun j h1 => h j (by omega))]
/-- the smallest and the greatest card of a set that isn't empty -/
def sLo (s : Int32) : Nat := nx (bt s) 32 0
def sHi (s : Int32) : Nat := gx (bt s) 32
theorem sLo_spec {s : Int32} (h : s ≠ 0) : sLo s < 32 ∧ bt s (sLo s) = true ∧ ∀ j, j < sLo s → bt s j = false := by
  obtain ⟨a1, a2, a3, a4⟩ := nx_spec (bt s) 32 0
  have h1 : nx (bt s) 32 0 < 32 := by
    rcases Nat.lt_or_ge (nx (bt s) 32 0) 32 with q | q
    · exact q
    · exact absurd (s_zero.mpr fun i hi => a4 i (Nat.zero_le _) (by omega)) h
  exact ⟨h1, a3 (by omega), fun j hj => a4 j (Nat.zero_le _) hj⟩
/-! numbers -/
theorem i_mod {a : Nat} (ha : a < 2 ^ 31) (d : Nat) (h0 : 0 < d) (hd : d < 2 ^ 31) : nI a - nI a / nI d * nI d = nI (a % d) := pk_rem ha h0 hd
theorem i_and3 {a : Nat} (ha : a < 2 ^ 31) : nI a &&& 3 = nI (a % 4) := by rw [pk_andN (by omega) 2 (by decide)]
theorem i_and1 {a : Nat} (ha : a < 2 ^ 31) : nI a &&& 1 = nI (a % 2) := by rw [pk_andN (by omega) 1 (by decide)]
theorem i_cl {a : Nat} (ha : a < 2 ^ 31) : (nI a).toNatClampNeg = a := nI_clamp ha
/-! branches over numbers that are not below 0 -/
theorem bl {a b : Nat} {A B : Prop} (ha : a < 2 ^ 31) (hb : b < 2 ^ 31) (f : a < b → A) (g : b ≤ a → B) : (nI a < nI b → A) ∧ (¬ nI a < nI b → B) :=
  ⟨fun c => f ((nI_ltI ha hb).mp c), fun c => g (Nat.le_of_not_lt fun q => c ((nI_ltI ha hb).mpr q))⟩
theorem ble {a b : Nat} {A B : Prop} (ha : a < 2 ^ 31) (hb : b < 2 ^ 31) (f : a ≤ b → A) (g : b < a → B) : (nI a ≤ nI b → A) ∧ (¬ nI a ≤ nI b → B) :=
  ⟨fun c => f ((nI_leI ha hb).mp c), fun c => g (Nat.lt_of_not_le fun q => c ((nI_leI ha hb).mpr q))⟩
theorem beq {a b : Nat} {A B : Prop} (ha : a < 2 ^ 31) (hb : b < 2 ^ 31) (f : a = b → A) (g : ¬ a = b → B) : (nI a = nI b → A) ∧ (¬ nI a = nI b → B) :=
  ⟨fun c => f ((nI_eq ha hb).mp c), fun c => g (fun q => c ((nI_eq ha hb).mpr q))⟩
