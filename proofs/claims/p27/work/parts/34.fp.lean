/-! pure: a quotient of whole numbers is a number -/
section
theorem fq_en {s : Bool} {c : Nat} {q : Int} (hc : c < 2 ^ 53) (h1 : (-1074 : Int) ≤ q) (h2 : q ≤ 971) : ∃ e t, Jvm.FP.Core.encode Jvm.FP.Core.b64 (.fin s c q) = (s.toNat * 2048 + e) * 4503599627370496 + t ∧ t < 4503599627370496 ∧ e ≤ 2046 ∧ (e = 0 → t = c) := by
  show ∃ e t, (if c < 4503599627370496 then (s.toNat * 2048 + 0) * 4503599627370496 + c else (s.toNat * 2048 + ((q - (-1074)).toNat + 1)) * 4503599627370496 + (c - 4503599627370496)) = _ ∧ _
  by_cases h : c < 4503599627370496
  · rw [if_pos h]
    exact ⟨0, c, rfl, h, by omega, fun _ => rfl⟩
  · rw [if_neg h]
    exact ⟨(q - (-1074)).toNat + 1, c - 4503599627370496, rfl, by omega, by omega, fun e => by omega⟩
theorem fq_bool (s : Bool) : s.toNat ≤ 1 := by cases s <;> decide
/-- what an encoded number stands for -/
theorem fq_de {s : Bool} {c : Nat} {q : Int} (hc : c < 2 ^ 53) (h1 : (-1074 : Int) ≤ q) (h2 : q ≤ 971) (h0 : c ≠ 0) : ∃ s' c' q', Jvm.FP.Core.decode Jvm.FP.Core.b64 (Jvm.FP.Core.encode Jvm.FP.Core.b64 (.fin s c q)) = .fin s' c' q' ∧ c' ≠ 0 := by
  obtain ⟨e, t, h, ht, he, hz⟩ := fq_en (s := s) hc h1 h2
  rw [h]
  have hs := fq_bool s
  show ∃ s' c' q', (if ((s.toNat * 2048 + e) * 4503599627370496 + t) / 4503599627370496 % 2048 = 2047 then _ else if ((s.toNat * 2048 + e) * 4503599627370496 + t) / 4503599627370496 % 2048 = 0 then Jvm.FP.Core.Datum.fin _ (((s.toNat * 2048 + e) * 4503599627370496 + t) % 4503599627370496) _ else Jvm.FP.Core.Datum.fin _ (4503599627370496 + ((s.toNat * 2048 + e) * 4503599627370496 + t) % 4503599627370496) _) = _ ∧ _
  rw [if_neg (by omega)]
  by_cases hE : ((s.toNat * 2048 + e) * 4503599627370496 + t) / 4503599627370496 % 2048 = 0
  · rw [if_pos hE]
    refine ⟨_, _, _, rfl, ?_⟩
    have he0 : e = 0 := by omega
    have := hz he0
    omega
  · rw [if_neg hE]
    exact ⟨_, _, _, rfl, by omega⟩
theorem fq_de0 : ∃ s' c' q', Jvm.FP.Core.decode Jvm.FP.Core.b64 (Jvm.FP.Core.encode Jvm.FP.Core.b64 (.fin false 0 (-1074))) = .fin s' c' q' := ⟨_, _, _, rfl⟩
theorem fq_log {n : Nat} (h : n < 2 ^ 32) : n.log2 ≤ 31 := by
  rcases Nat.eq_zero_or_pos n with e | e
  · subst e; decide
  · have := (Nat.log2_lt (by omega)).mpr h
    omega
theorem fq_near {n : Nat} (h : 0 < n) : Jvm.FP.Core.nearest n 1 = n := by
  unfold Jvm.FP.Core.nearest
  rw [Nat.mod_one, Nat.div_one, if_pos (by decide)]
/-- rounding keeps a number a number -/
theorem fq_set {s : Bool} {c : Nat} {q : Int} (h1 : (-1074 : Int) ≤ q) : (∃ c' q', Jvm.FP.Core.settle Jvm.FP.Core.b64 s c q = .fin s c' q' ∧ c' < 2 ^ 53 ∧ (-1074 : Int) ≤ q' ∧ q' ≤ 971 ∧ (c ≠ 0 → c' ≠ 0)) ∨ Jvm.FP.Core.settle Jvm.FP.Core.b64 s c q = .inf s ∧ 971 ≤ q := by
  show (∃ c' q', (if c < 2 ^ 53 then (if q ≤ 971 then _ else _) else (if q + 1 ≤ 971 then _ else _)) = _ ∧ _) ∨ (if c < 2 ^ 53 then (if q ≤ 971 then _ else _) else (if q + 1 ≤ 971 then _ else _)) = _ ∧ _
  by_cases hc : c < 2 ^ 53
  · rw [if_pos hc]
    by_cases hq : q ≤ 971
    · rw [if_pos hq]
      exact Or.inl ⟨c, q, rfl, hc, h1, hq, fun h => h⟩
    · rw [if_neg hq]
      exact Or.inr ⟨rfl, by omega⟩
  · rw [if_neg hc]
    by_cases hq : q + 1 ≤ 971
    · rw [if_pos hq]
      exact Or.inl ⟨4503599627370496, q + 1, rfl, by decide, by omega, hq, fun _ => by decide⟩
    · rw [if_neg hq]
      exact Or.inr ⟨rfl, by omega⟩
theorem fq_qu (num den : Nat) (e : Int) : (-1074 : Int) ≤ Jvm.FP.Core.quantum Jvm.FP.Core.b64 num den e := Int.le_max_left _ _
theorem fq_ld {n : Nat} (h : n < 2 ^ 32) : Jvm.FP.Core.leading n 1 ≤ 31 := by
  have h1 := fq_log h
  unfold Jvm.FP.Core.leading
  have h2 : ((1 : Nat).log2 : Int) = 0 := by decide
  dsimp only
  split <;> omega
theorem fq_int (i : Int) (hi : i.natAbs < 2 ^ 32) : ∃ s c q, Jvm.FP.Core.decode Jvm.FP.Core.b64 (Jvm.FP.Core.fromInt Jvm.FP.Core.b64 i) = .fin s c q ∧ (i ≠ 0 → c ≠ 0) := by
  show ∃ s c q, Jvm.FP.Core.decode Jvm.FP.Core.b64 (Jvm.FP.Core.encode Jvm.FP.Core.b64 (Jvm.FP.Core.roundRatio Jvm.FP.Core.b64 (decide (i < 0)) i.natAbs 1 0)) = _ ∧ _
  by_cases h0 : i = 0
  · subst h0
    obtain ⟨a, b, c, h⟩ := fq_de0
    exact ⟨a, b, c, h, fun e => absurd rfl e⟩
  · have hn : i.natAbs ≠ 0 := by omega
    unfold Jvm.FP.Core.roundRatio
    rw [if_neg hn]
    unfold Jvm.FP.Core.roundAt
    obtain ⟨q, hq⟩ : ∃ q, q = Jvm.FP.Core.quantum Jvm.FP.Core.b64 i.natAbs 1 0 := ⟨_, rfl⟩
    have hq1 : (-1074 : Int) ≤ q := by rw [hq]; exact fq_qu _ _ _
    have hq2 : q ≤ -21 := by
      have := fq_ld hi
      rw [hq]
      show max (-1074) (Jvm.FP.Core.leading i.natAbs 1 + 0 - 52) ≤ -21
      omega
    rw [← hq]
    have hne : Jvm.FP.Core.nearest (Jvm.FP.Core.unitsNum i.natAbs 0 q) (Jvm.FP.Core.unitsDen 1 0 q) ≠ 0 := by
      have e1 : Jvm.FP.Core.unitsDen 1 0 q = 1 := by
        show 1 * 2 ^ (q - 0).toNat = 1
        rw [show (q - 0).toNat = 0 by omega]
      have e2 : 0 < Jvm.FP.Core.unitsNum i.natAbs 0 q := Nat.mul_pos (by omega) (Nat.two_pow_pos _)
      rw [e1, fq_near e2]
      omega
    rcases fq_set (s := decide (i < 0)) (c := Jvm.FP.Core.nearest (Jvm.FP.Core.unitsNum i.natAbs 0 q) (Jvm.FP.Core.unitsDen 1 0 q)) hq1 with ⟨c', q', e, h1, h2, h3, h4⟩ | ⟨_, h⟩
    · rw [e]
      obtain ⟨a, b, c, h5, h6⟩ := fq_de (s := decide (i < 0)) h1 h2 h3 (h4 hne)
      exact ⟨a, b, c, h5, fun _ => h6⟩
    · omega
theorem fq_mask {s e t : Nat} (hs : s ≤ 1) (h : e * 4503599627370496 + t ≤ 2047 * 4503599627370496) : vf_n64 (UInt64.ofNat ((s * 2048 + e) * 4503599627370496 + t)) := by
  unfold vf_n64
  rw [UInt64.le_iff_toNat_le, UInt64.toNat_and, UInt64.toNat_ofNat']
  rw [show (0x7fffffffffffffff : UInt64).toNat = 2 ^ 63 - 1 by decide, Nat.and_two_pow_sub_one_eq_mod, show (0x7ff0000000000000 : UInt64).toNat = 2047 * 4503599627370496 by decide]
  omega
theorem fq_rr {s : Bool} (num den : Nat) (e : Int) : vf_n64 (UInt64.ofNat (Jvm.FP.Core.encode Jvm.FP.Core.b64 (Jvm.FP.Core.roundRatio Jvm.FP.Core.b64 s num den e))) := by
  have hs := fq_bool s
  unfold Jvm.FP.Core.roundRatio
  by_cases h0 : num = 0
  · rw [if_pos h0]
    have h := fq_mask (s := s.toNat) (e := 0) (t := 0) hs (Nat.le_of_ble_eq_true rfl)
    show vf_n64 (UInt64.ofNat ((s.toNat * 2048 + 0) * 4503599627370496 + 0))
    exact h
  · rw [if_neg h0]
    rcases fq_set (s := s) (c := Jvm.FP.Core.nearest (Jvm.FP.Core.unitsNum num e (Jvm.FP.Core.quantum Jvm.FP.Core.b64 num den e)) (Jvm.FP.Core.unitsDen den e (Jvm.FP.Core.quantum Jvm.FP.Core.b64 num den e))) (fq_qu num den e) with ⟨c', q', e1, h1, h2, h3, _⟩ | ⟨e1, _⟩
    · unfold Jvm.FP.Core.roundAt
      rw [e1]
      obtain ⟨e', t, h, ht, he, _⟩ := fq_en (s := s) h1 h2 h3
      rw [h]
      exact fq_mask hs (by omega)
    · unfold Jvm.FP.Core.roundAt
      rw [e1]
      exact fq_mask (s := s.toNat) (e := 2047) (t := 0) hs (by omega)
theorem fq_lt (d : Jvm.FP.Core.Datum) (h : ∃ s num den e, d = Jvm.FP.Core.roundRatio Jvm.FP.Core.b64 s num den e) : Jvm.FP.Core.encode Jvm.FP.Core.b64 d < 2 ^ 64 := by
  obtain ⟨s, num, den, e, rfl⟩ := h
  have hs := fq_bool s
  unfold Jvm.FP.Core.roundRatio
  by_cases h0 : num = 0
  · rw [if_pos h0]
    show (s.toNat * 2048 + 0) * 4503599627370496 + 0 < 2 ^ 64
    omega
  · rw [if_neg h0]
    rcases fq_set (s := s) (c := Jvm.FP.Core.nearest (Jvm.FP.Core.unitsNum num e (Jvm.FP.Core.quantum Jvm.FP.Core.b64 num den e)) (Jvm.FP.Core.unitsDen den e (Jvm.FP.Core.quantum Jvm.FP.Core.b64 num den e))) (fq_qu num den e) with ⟨c', q', e1, h1, h2, h3, _⟩ | ⟨e1, _⟩
    · unfold Jvm.FP.Core.roundAt
      rw [e1]
      obtain ⟨e', t, h, ht, he, _⟩ := fq_en (s := s) h1 h2 h3
      rw [h]
      omega
    · unfold Jvm.FP.Core.roundAt
      rw [e1]
      show (s.toNat * 2048 + 2047) * 4503599627370496 + 0 < 2 ^ 64
      omega
theorem fq_i2d (a : Int32) : (FP.i2d a).toNat = Jvm.FP.Core.fromInt Jvm.FP.Core.b64 a.toInt := by
  show (UInt64.ofNat (Jvm.FP.Core.fromInt Jvm.FP.Core.b64 a.toInt)).toNat = _
  rw [UInt64.toNat_ofNat']
  exact Nat.mod_eq_of_lt (fq_lt _ ⟨_, _, _, _, rfl⟩)
theorem fq_ab (a : Int32) : a.toInt.natAbs < 2 ^ 32 := by
  have h1 := Int32.toInt_lt a
  have h2 := Int32.le_toInt a
  omega
theorem fq_ddiv (a b : Int32) (hb : b ≠ 0) : vf_n64 (FP.ddiv (FP.i2d a) (FP.i2d b)) := by
  obtain ⟨s, c, q, ha, _⟩ := fq_int a.toInt (fq_ab a)
  obtain ⟨s', c', q', hbb, hbn⟩ := fq_int b.toInt (fq_ab b)
  have hb0 : b.toInt ≠ 0 := fun e => hb (Int32.toInt_inj.mp (by rw [e]; rfl))
  show vf_n64 (UInt64.ofNat (Jvm.FP.Core.encode Jvm.FP.Core.b64 (Jvm.FP.Core.quotient Jvm.FP.Core.b64 (Jvm.FP.Core.decode Jvm.FP.Core.b64 (FP.i2d a).toNat) (Jvm.FP.Core.decode Jvm.FP.Core.b64 (FP.i2d b).toNat))))
  rw [fq_i2d, fq_i2d, ha, hbb]
  show vf_n64 (UInt64.ofNat (Jvm.FP.Core.encode Jvm.FP.Core.b64 (if c' = 0 then _ else Jvm.FP.Core.roundRatio Jvm.FP.Core.b64 (s != s') c c' (q - q'))))
  rw [if_neg (hbn hb0)]
  exact fq_rr _ _ _
end
