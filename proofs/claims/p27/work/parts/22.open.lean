/-! printed: a method is entered -/
section
variable {l : Launch} {d k : Nat} {a : List Value} {w : am_M} {Q : am_Q}
theorem op_0 (hl : l.stackTraces = false) (hd : 1 ≤ d) (hlen : (am_entL a).length ≤ 1) (hB : am_B tb_0 (am_Call l (d - 1)) k (am_ent 1 a) w Q) : am_Call l d 0 k a w Q := by
  obtain ⟨d, rfl⟩ : ∃ d', d = d' + 1 := ⟨d - 1, by omega⟩
  exact am_call_of hl nm_0 cw_0 (by decide +kernel) (sn_0 l d k) hlen hB
theorem op_1 (hl : l.stackTraces = false) (hd : 1 ≤ d) (hlen : (am_entL a).length ≤ 2) (hB : am_B tb_1 (am_Call l (d - 1)) k (am_ent 2 a) w Q) : am_Call l d 1 k a w Q := by
  obtain ⟨d, rfl⟩ : ∃ d', d = d' + 1 := ⟨d - 1, by omega⟩
  exact am_call_of hl nm_1 cw_1 (by decide +kernel) (sn_1 l d k) hlen hB
theorem op_2 (hl : l.stackTraces = false) (hd : 1 ≤ d) (hlen : (am_entL a).length ≤ 2) (hB : am_B tb_2 (am_Call l (d - 1)) k (am_ent 2 a) w Q) : am_Call l d 2 k a w Q := by
  obtain ⟨d, rfl⟩ : ∃ d', d = d' + 1 := ⟨d - 1, by omega⟩
  exact am_call_of hl nm_2 cw_2 (by decide +kernel) (sn_2 l d k) hlen hB
theorem op_3 (hl : l.stackTraces = false) (hd : 1 ≤ d) (hlen : (am_entL a).length ≤ 1) (hB : am_B tb_3 (am_Call l (d - 1)) k (am_ent 1 a) w Q) : am_Call l d 3 k a w Q := by
  obtain ⟨d, rfl⟩ : ∃ d', d = d' + 1 := ⟨d - 1, by omega⟩
  exact am_call_of hl nm_3 cw_3 (by decide +kernel) (sn_3 l d k) hlen hB
theorem op_4 (hl : l.stackTraces = false) (hd : 1 ≤ d) (hlen : (am_entL a).length ≤ 2) (hB : am_B tb_4 (am_Call l (d - 1)) k (am_ent 2 a) w Q) : am_Call l d 4 k a w Q := by
  obtain ⟨d, rfl⟩ : ∃ d', d = d' + 1 := ⟨d - 1, by omega⟩
  exact am_call_of hl nm_4 cw_4 (by decide +kernel) (sn_4 l d k) hlen hB
theorem op_5 (hl : l.stackTraces = false) (hd : 1 ≤ d) (hlen : (am_entL a).length ≤ 3) (hB : am_B tb_5 (am_Call l (d - 1)) k (am_ent 3 a) w Q) : am_Call l d 5 k a w Q := by
  obtain ⟨d, rfl⟩ : ∃ d', d = d' + 1 := ⟨d - 1, by omega⟩
  exact am_call_of hl nm_5 cw_5 (by decide +kernel) (sn_5 l d k) hlen hB
theorem op_6 (hl : l.stackTraces = false) (hd : 1 ≤ d) (hlen : (am_entL a).length ≤ 2) (hB : am_B tb_6 (am_Call l (d - 1)) k (am_ent 2 a) w Q) : am_Call l d 6 k a w Q := by
  obtain ⟨d, rfl⟩ : ∃ d', d = d' + 1 := ⟨d - 1, by omega⟩
  exact am_call_of hl nm_6 cw_6 (by decide +kernel) (sn_6 l d k) hlen hB
theorem op_7 (hl : l.stackTraces = false) (hd : 1 ≤ d) (hlen : (am_entL a).length ≤ 2) (hB : am_B tb_7 (am_Call l (d - 1)) k (am_ent 2 a) w Q) : am_Call l d 7 k a w Q := by
  obtain ⟨d, rfl⟩ : ∃ d', d = d' + 1 := ⟨d - 1, by omega⟩
  exact am_call_of hl nm_7 cw_7 (by decide +kernel) (sn_7 l d k) hlen hB
theorem op_8 (hl : l.stackTraces = false) (hd : 1 ≤ d) (hlen : (am_entL a).length ≤ 1) (hB : am_B tb_8 (am_Call l (d - 1)) k (am_ent 1 a) w Q) : am_Call l d 8 k a w Q := by
  obtain ⟨d, rfl⟩ : ∃ d', d = d' + 1 := ⟨d - 1, by omega⟩
  exact am_call_of hl nm_8 cw_8 (by decide +kernel) (sn_8 l d k) hlen hB
theorem op_9 (hl : l.stackTraces = false) (hd : 1 ≤ d) (hlen : (am_entL a).length ≤ 1) (hB : am_B tb_9 (am_Call l (d - 1)) k (am_ent 1 a) w Q) : am_Call l d 9 k a w Q := by
  obtain ⟨d, rfl⟩ : ∃ d', d = d' + 1 := ⟨d - 1, by omega⟩
  exact am_call_of hl nm_9 cw_9 (by decide +kernel) (sn_9 l d k) hlen hB
theorem op_10 (hl : l.stackTraces = false) (hd : 1 ≤ d) (hlen : (am_entL a).length ≤ 1) (hB : am_B tb_10 (am_Call l (d - 1)) k (am_ent 1 a) w Q) : am_Call l d 10 k a w Q := by
  obtain ⟨d, rfl⟩ : ∃ d', d = d' + 1 := ⟨d - 1, by omega⟩
  exact am_call_of hl nm_10 cw_10 (by decide +kernel) (sn_10 l d k) hlen hB
theorem op_11 (hl : l.stackTraces = false) (hd : 1 ≤ d) (hlen : (am_entL a).length ≤ 1) (hB : am_B tb_11 (am_Call l (d - 1)) k (am_ent 1 a) w Q) : am_Call l d 11 k a w Q := by
  obtain ⟨d, rfl⟩ : ∃ d', d = d' + 1 := ⟨d - 1, by omega⟩
  exact am_call_of hl nm_11 cw_11 (by decide +kernel) (sn_11 l d k) hlen hB
theorem op_12 (hl : l.stackTraces = false) (hd : 1 ≤ d) (hlen : (am_entL a).length ≤ 1) (hB : am_B tb_12 (am_Call l (d - 1)) k (am_ent 1 a) w Q) : am_Call l d 12 k a w Q := by
  obtain ⟨d, rfl⟩ : ∃ d', d = d' + 1 := ⟨d - 1, by omega⟩
  exact am_call_of hl nm_12 cw_12 (by decide +kernel) (sn_12 l d k) hlen hB
theorem op_13 (hl : l.stackTraces = false) (hd : 1 ≤ d) (hlen : (am_entL a).length ≤ 5) (hB : am_B tb_13 (am_Call l (d - 1)) k (am_ent 5 a) w Q) : am_Call l d 13 k a w Q := by
  obtain ⟨d, rfl⟩ : ∃ d', d = d' + 1 := ⟨d - 1, by omega⟩
  exact am_call_of hl nm_13 cw_13 (by decide +kernel) (sn_13 l d k) hlen hB
theorem op_14 (hl : l.stackTraces = false) (hd : 1 ≤ d) (hlen : (am_entL a).length ≤ 4) (hB : am_B tb_14 (am_Call l (d - 1)) k (am_ent 4 a) w Q) : am_Call l d 14 k a w Q := by
  obtain ⟨d, rfl⟩ : ∃ d', d = d' + 1 := ⟨d - 1, by omega⟩
  exact am_call_of hl nm_14 cw_14 (by decide +kernel) (sn_14 l d k) hlen hB
theorem op_15 (hl : l.stackTraces = false) (hd : 1 ≤ d) (hlen : (am_entL a).length ≤ 1) (hB : am_B tb_15 (am_Call l (d - 1)) k (am_ent 1 a) w Q) : am_Call l d 15 k a w Q := by
  obtain ⟨d, rfl⟩ : ∃ d', d = d' + 1 := ⟨d - 1, by omega⟩
  exact am_call_of hl nm_15 cw_15 (by decide +kernel) (sn_15 l d k) hlen hB
theorem op_16 (hl : l.stackTraces = false) (hd : 1 ≤ d) (hlen : (am_entL a).length ≤ 1) (hB : am_B tb_16 (am_Call l (d - 1)) k (am_ent 1 a) w Q) : am_Call l d 16 k a w Q := by
  obtain ⟨d, rfl⟩ : ∃ d', d = d' + 1 := ⟨d - 1, by omega⟩
  exact am_call_of hl nm_16 cw_16 (by decide +kernel) (sn_16 l d k) hlen hB
theorem op_17 (hl : l.stackTraces = false) (hd : 1 ≤ d) (hlen : (am_entL a).length ≤ 2) (hB : am_B tb_17 (am_Call l (d - 1)) k (am_ent 2 a) w Q) : am_Call l d 17 k a w Q := by
  obtain ⟨d, rfl⟩ : ∃ d', d = d' + 1 := ⟨d - 1, by omega⟩
  exact am_call_of hl nm_17 cw_17 (by decide +kernel) (sn_17 l d k) hlen hB
theorem op_18 (hl : l.stackTraces = false) (hd : 1 ≤ d) (hlen : (am_entL a).length ≤ 2) (hB : am_B tb_18 (am_Call l (d - 1)) k (am_ent 2 a) w Q) : am_Call l d 18 k a w Q := by
  obtain ⟨d, rfl⟩ : ∃ d', d = d' + 1 := ⟨d - 1, by omega⟩
  exact am_call_of hl nm_18 cw_18 (by decide +kernel) (sn_18 l d k) hlen hB
theorem op_19 (hl : l.stackTraces = false) (hd : 1 ≤ d) (hlen : (am_entL a).length ≤ 3) (hB : am_B tb_19 (am_Call l (d - 1)) k (am_ent 3 a) w Q) : am_Call l d 19 k a w Q := by
  obtain ⟨d, rfl⟩ : ∃ d', d = d' + 1 := ⟨d - 1, by omega⟩
  exact am_call_of hl nm_19 cw_19 (by decide +kernel) (sn_19 l d k) hlen hB
theorem op_20 (hl : l.stackTraces = false) (hd : 1 ≤ d) (hlen : (am_entL a).length ≤ 2) (hB : am_B tb_20 (am_Call l (d - 1)) k (am_ent 2 a) w Q) : am_Call l d 20 k a w Q := by
  obtain ⟨d, rfl⟩ : ∃ d', d = d' + 1 := ⟨d - 1, by omega⟩
  exact am_call_of hl nm_20 cw_20 (by decide +kernel) (sn_20 l d k) hlen hB
theorem op_21 (hl : l.stackTraces = false) (hd : 1 ≤ d) (hlen : (am_entL a).length ≤ 2) (hB : am_B tb_21 (am_Call l (d - 1)) k (am_ent 2 a) w Q) : am_Call l d 21 k a w Q := by
  obtain ⟨d, rfl⟩ : ∃ d', d = d' + 1 := ⟨d - 1, by omega⟩
  exact am_call_of hl nm_21 cw_21 (by decide +kernel) (sn_21 l d k) hlen hB
theorem op_22 (hl : l.stackTraces = false) (hd : 1 ≤ d) (hlen : (am_entL a).length ≤ 3) (hB : am_B tb_22 (am_Call l (d - 1)) k (am_ent 3 a) w Q) : am_Call l d 22 k a w Q := by
  obtain ⟨d, rfl⟩ : ∃ d', d = d' + 1 := ⟨d - 1, by omega⟩
  exact am_call_of hl nm_22 cw_22 (by decide +kernel) (sn_22 l d k) hlen hB
theorem op_24 (hl : l.stackTraces = false) (hd : 1 ≤ d) (hlen : (am_entL a).length ≤ 1) (hB : am_B tb_24 (am_Call l (d - 1)) k (am_ent 1 a) w Q) : am_Call l d 24 k a w Q := by
  obtain ⟨d, rfl⟩ : ∃ d', d = d' + 1 := ⟨d - 1, by omega⟩
  exact am_call_of hl nm_24 cw_24 (by decide +kernel) (sn_24 l d k) hlen hB
theorem op_25 (hl : l.stackTraces = false) (hd : 1 ≤ d) (hlen : (am_entL a).length ≤ 3) (hB : am_B tb_25 (am_Call l (d - 1)) k (am_ent 3 a) w Q) : am_Call l d 25 k a w Q := by
  obtain ⟨d, rfl⟩ : ∃ d', d = d' + 1 := ⟨d - 1, by omega⟩
  exact am_call_of hl nm_25 cw_25 (by decide +kernel) (sn_25 l d k) hlen hB
theorem op_26 (hl : l.stackTraces = false) (hd : 1 ≤ d) (hlen : (am_entL a).length ≤ 2) (hB : am_B tb_26 (am_Call l (d - 1)) k (am_ent 2 a) w Q) : am_Call l d 26 k a w Q := by
  obtain ⟨d, rfl⟩ : ∃ d', d = d' + 1 := ⟨d - 1, by omega⟩
  exact am_call_of hl nm_26 cw_26 (by decide +kernel) (sn_26 l d k) hlen hB
theorem op_27 (hl : l.stackTraces = false) (hd : 1 ≤ d) (hlen : (am_entL a).length ≤ 1) (hB : am_B tb_27 (am_Call l (d - 1)) k (am_ent 1 a) w Q) : am_Call l d 27 k a w Q := by
  obtain ⟨d, rfl⟩ : ∃ d', d = d' + 1 := ⟨d - 1, by omega⟩
  exact am_call_of hl nm_27 cw_27 (by decide +kernel) (sn_27 l d k) hlen hB
theorem op_28 (hl : l.stackTraces = false) (hd : 1 ≤ d) (hlen : (am_entL a).length ≤ 1) (hB : am_B tb_28 (am_Call l (d - 1)) k (am_ent 1 a) w Q) : am_Call l d 28 k a w Q := by
  obtain ⟨d, rfl⟩ : ∃ d', d = d' + 1 := ⟨d - 1, by omega⟩
  exact am_call_of hl nm_28 cw_28 (by decide +kernel) (sn_28 l d k) hlen hB
theorem op_29 (hl : l.stackTraces = false) (hd : 1 ≤ d) (hlen : (am_entL a).length ≤ 1) (hB : am_B tb_29 (am_Call l (d - 1)) k (am_ent 1 a) w Q) : am_Call l d 29 k a w Q := by
  obtain ⟨d, rfl⟩ : ∃ d', d = d' + 1 := ⟨d - 1, by omega⟩
  exact am_call_of hl nm_29 cw_29 (by decide +kernel) (sn_29 l d k) hlen hB
theorem op_30 (hl : l.stackTraces = false) (hd : 1 ≤ d) (hlen : (am_entL a).length ≤ 2) (hB : am_B tb_30 (am_Call l (d - 1)) k (am_ent 2 a) w Q) : am_Call l d 30 k a w Q := by
  obtain ⟨d, rfl⟩ : ∃ d', d = d' + 1 := ⟨d - 1, by omega⟩
  exact am_call_of hl nm_30 cw_30 (by decide +kernel) (sn_30 l d k) hlen hB
theorem op_31 (hl : l.stackTraces = false) (hd : 1 ≤ d) (hlen : (am_entL a).length ≤ 2) (hB : am_B tb_31 (am_Call l (d - 1)) k (am_ent 2 a) w Q) : am_Call l d 31 k a w Q := by
  obtain ⟨d, rfl⟩ : ∃ d', d = d' + 1 := ⟨d - 1, by omega⟩
  exact am_call_of hl nm_31 cw_31 (by decide +kernel) (sn_31 l d k) hlen hB
theorem op_32 (hl : l.stackTraces = false) (hd : 1 ≤ d) (hlen : (am_entL a).length ≤ 2) (hB : am_B tb_32 (am_Call l (d - 1)) k (am_ent 2 a) w Q) : am_Call l d 32 k a w Q := by
  obtain ⟨d, rfl⟩ : ∃ d', d = d' + 1 := ⟨d - 1, by omega⟩
  exact am_call_of hl nm_32 cw_32 (by decide +kernel) (sn_32 l d k) hlen hB
theorem op_33 (hl : l.stackTraces = false) (hd : 1 ≤ d) (hlen : (am_entL a).length ≤ 4) (hB : am_B tb_33 (am_Call l (d - 1)) k (am_ent 4 a) w Q) : am_Call l d 33 k a w Q := by
  obtain ⟨d, rfl⟩ : ∃ d', d = d' + 1 := ⟨d - 1, by omega⟩
  exact am_call_of hl nm_33 cw_33 (by decide +kernel) (sn_33 l d k) hlen hB
theorem op_34 (hl : l.stackTraces = false) (hd : 1 ≤ d) (hlen : (am_entL a).length ≤ 7) (hB : am_B tb_34 (am_Call l (d - 1)) k (am_ent 7 a) w Q) : am_Call l d 34 k a w Q := by
  obtain ⟨d, rfl⟩ : ∃ d', d = d' + 1 := ⟨d - 1, by omega⟩
  exact am_call_of hl nm_34 cw_34 (by decide +kernel) (sn_34 l d k) hlen hB
theorem op_35 (hl : l.stackTraces = false) (hd : 1 ≤ d) (hlen : (am_entL a).length ≤ 4) (hB : am_B tb_35 (am_Call l (d - 1)) k (am_ent 4 a) w Q) : am_Call l d 35 k a w Q := by
  obtain ⟨d, rfl⟩ : ∃ d', d = d' + 1 := ⟨d - 1, by omega⟩
  exact am_call_of hl nm_35 cw_35 (by decide +kernel) (sn_35 l d k) hlen hB
theorem op_36 (hl : l.stackTraces = false) (hd : 1 ≤ d) (hlen : (am_entL a).length ≤ 4) (hB : am_B tb_36 (am_Call l (d - 1)) k (am_ent 4 a) w Q) : am_Call l d 36 k a w Q := by
  obtain ⟨d, rfl⟩ : ∃ d', d = d' + 1 := ⟨d - 1, by omega⟩
  exact am_call_of hl nm_36 cw_36 (by decide +kernel) (sn_36 l d k) hlen hB
theorem op_37 (hl : l.stackTraces = false) (hd : 1 ≤ d) (hlen : (am_entL a).length ≤ 3) (hB : am_B tb_37 (am_Call l (d - 1)) k (am_ent 3 a) w Q) : am_Call l d 37 k a w Q := by
  obtain ⟨d, rfl⟩ : ∃ d', d = d' + 1 := ⟨d - 1, by omega⟩
  exact am_call_of hl nm_37 cw_37 (by decide +kernel) (sn_37 l d k) hlen hB
theorem op_38 (hl : l.stackTraces = false) (hd : 1 ≤ d) (hlen : (am_entL a).length ≤ 2) (hB : am_B tb_38 (am_Call l (d - 1)) k (am_ent 2 a) w Q) : am_Call l d 38 k a w Q := by
  obtain ⟨d, rfl⟩ : ∃ d', d = d' + 1 := ⟨d - 1, by omega⟩
  exact am_call_of hl nm_38 cw_38 (by decide +kernel) (sn_38 l d k) hlen hB
theorem op_39 (hl : l.stackTraces = false) (hd : 1 ≤ d) (hlen : (am_entL a).length ≤ 3) (hB : am_B tb_39 (am_Call l (d - 1)) k (am_ent 3 a) w Q) : am_Call l d 39 k a w Q := by
  obtain ⟨d, rfl⟩ : ∃ d', d = d' + 1 := ⟨d - 1, by omega⟩
  exact am_call_of hl nm_39 cw_39 (by decide +kernel) (sn_39 l d k) hlen hB
theorem op_40 (hl : l.stackTraces = false) (hd : 1 ≤ d) (hlen : (am_entL a).length ≤ 1) (hB : am_B tb_40 (am_Call l (d - 1)) k (am_ent 1 a) w Q) : am_Call l d 40 k a w Q := by
  obtain ⟨d, rfl⟩ : ∃ d', d = d' + 1 := ⟨d - 1, by omega⟩
  exact am_call_of hl nm_40 cw_40 (by decide +kernel) (sn_40 l d k) hlen hB
theorem op_41 (hl : l.stackTraces = false) (hd : 1 ≤ d) (hlen : (am_entL a).length ≤ 3) (hB : am_B tb_41 (am_Call l (d - 1)) k (am_ent 3 a) w Q) : am_Call l d 41 k a w Q := by
  obtain ⟨d, rfl⟩ : ∃ d', d = d' + 1 := ⟨d - 1, by omega⟩
  exact am_call_of hl nm_41 cw_41 (by decide +kernel) (sn_41 l d k) hlen hB
theorem op_42 (hl : l.stackTraces = false) (hd : 1 ≤ d) (hlen : (am_entL a).length ≤ 6) (hB : am_B tb_42 (am_Call l (d - 1)) k (am_ent 6 a) w Q) : am_Call l d 42 k a w Q := by
  obtain ⟨d, rfl⟩ : ∃ d', d = d' + 1 := ⟨d - 1, by omega⟩
  exact am_call_of hl nm_42 cw_42 (by decide +kernel) (sn_42 l d k) hlen hB
theorem op_44 (hl : l.stackTraces = false) (hd : 1 ≤ d) (hlen : (am_entL a).length ≤ 1) (hB : am_B tb_44 (am_Call l (d - 1)) k (am_ent 1 a) w Q) : am_Call l d 44 k a w Q := by
  obtain ⟨d, rfl⟩ : ∃ d', d = d' + 1 := ⟨d - 1, by omega⟩
  exact am_call_of hl nm_44 cw_44 (by decide +kernel) (sn_44 l d k) hlen hB
theorem op_45 (hl : l.stackTraces = false) (hd : 1 ≤ d) (hlen : (am_entL a).length ≤ 3) (hB : am_B tb_45 (am_Call l (d - 1)) k (am_ent 3 a) w Q) : am_Call l d 45 k a w Q := by
  obtain ⟨d, rfl⟩ : ∃ d', d = d' + 1 := ⟨d - 1, by omega⟩
  exact am_call_of hl nm_45 cw_45 (by decide +kernel) (sn_45 l d k) hlen hB
theorem op_46 (hl : l.stackTraces = false) (hd : 1 ≤ d) (hlen : (am_entL a).length ≤ 6) (hB : am_B tb_46 (am_Call l (d - 1)) k (am_ent 6 a) w Q) : am_Call l d 46 k a w Q := by
  obtain ⟨d, rfl⟩ : ∃ d', d = d' + 1 := ⟨d - 1, by omega⟩
  exact am_call_of hl nm_46 cw_46 (by decide +kernel) (sn_46 l d k) hlen hB
theorem op_47 (hl : l.stackTraces = false) (hd : 1 ≤ d) (hlen : (am_entL a).length ≤ 2) (hB : am_B tb_47 (am_Call l (d - 1)) k (am_ent 2 a) w Q) : am_Call l d 47 k a w Q := by
  obtain ⟨d, rfl⟩ : ∃ d', d = d' + 1 := ⟨d - 1, by omega⟩
  exact am_call_of hl nm_47 cw_47 (by decide +kernel) (sn_47 l d k) hlen hB
theorem op_48 (hl : l.stackTraces = false) (hd : 1 ≤ d) (hlen : (am_entL a).length ≤ 2) (hB : am_B tb_48 (am_Call l (d - 1)) k (am_ent 2 a) w Q) : am_Call l d 48 k a w Q := by
  obtain ⟨d, rfl⟩ : ∃ d', d = d' + 1 := ⟨d - 1, by omega⟩
  exact am_call_of hl nm_48 cw_48 (by decide +kernel) (sn_48 l d k) hlen hB
theorem op_50 (hl : l.stackTraces = false) (hd : 1 ≤ d) (hlen : (am_entL a).length ≤ 2) (hB : am_B tb_50 (am_Call l (d - 1)) k (am_ent 2 a) w Q) : am_Call l d 50 k a w Q := by
  obtain ⟨d, rfl⟩ : ∃ d', d = d' + 1 := ⟨d - 1, by omega⟩
  exact am_call_of hl nm_50 cw_50 (by decide +kernel) (sn_50 l d k) hlen hB
theorem op_51 (hl : l.stackTraces = false) (hd : 1 ≤ d) (hlen : (am_entL a).length ≤ 3) (hB : am_B tb_51 (am_Call l (d - 1)) k (am_ent 3 a) w Q) : am_Call l d 51 k a w Q := by
  obtain ⟨d, rfl⟩ : ∃ d', d = d' + 1 := ⟨d - 1, by omega⟩
  exact am_call_of hl nm_51 cw_51 (by decide +kernel) (sn_51 l d k) hlen hB
theorem op_52 (hl : l.stackTraces = false) (hd : 1 ≤ d) (hlen : (am_entL a).length ≤ 1) (hB : am_B tb_52 (am_Call l (d - 1)) k (am_ent 1 a) w Q) : am_Call l d 52 k a w Q := by
  obtain ⟨d, rfl⟩ : ∃ d', d = d' + 1 := ⟨d - 1, by omega⟩
  exact am_call_of hl nm_52 cw_52 (by decide +kernel) (sn_52 l d k) hlen hB
theorem op_53 (hl : l.stackTraces = false) (hd : 1 ≤ d) (hlen : (am_entL a).length ≤ 2) (hB : am_B tb_53 (am_Call l (d - 1)) k (am_ent 2 a) w Q) : am_Call l d 53 k a w Q := by
  obtain ⟨d, rfl⟩ : ∃ d', d = d' + 1 := ⟨d - 1, by omega⟩
  exact am_call_of hl nm_53 cw_53 (by decide +kernel) (sn_53 l d k) hlen hB
theorem op_54 (hl : l.stackTraces = false) (hd : 1 ≤ d) (hlen : (am_entL a).length ≤ 3) (hB : am_B tb_54 (am_Call l (d - 1)) k (am_ent 3 a) w Q) : am_Call l d 54 k a w Q := by
  obtain ⟨d, rfl⟩ : ∃ d', d = d' + 1 := ⟨d - 1, by omega⟩
  exact am_call_of hl nm_54 cw_54 (by decide +kernel) (sn_54 l d k) hlen hB
theorem op_55 (hl : l.stackTraces = false) (hd : 1 ≤ d) (hlen : (am_entL a).length ≤ 2) (hB : am_B tb_55 (am_Call l (d - 1)) k (am_ent 2 a) w Q) : am_Call l d 55 k a w Q := by
  obtain ⟨d, rfl⟩ : ∃ d', d = d' + 1 := ⟨d - 1, by omega⟩
  exact am_call_of hl nm_55 cw_55 (by decide +kernel) (sn_55 l d k) hlen hB
theorem op_56 (hl : l.stackTraces = false) (hd : 1 ≤ d) (hlen : (am_entL a).length ≤ 3) (hB : am_B tb_56 (am_Call l (d - 1)) k (am_ent 3 a) w Q) : am_Call l d 56 k a w Q := by
  obtain ⟨d, rfl⟩ : ∃ d', d = d' + 1 := ⟨d - 1, by omega⟩
  exact am_call_of hl nm_56 cw_56 (by decide +kernel) (sn_56 l d k) hlen hB
theorem op_57 (hl : l.stackTraces = false) (hd : 1 ≤ d) (hlen : (am_entL a).length ≤ 1) (hB : am_B tb_57 (am_Call l (d - 1)) k (am_ent 1 a) w Q) : am_Call l d 57 k a w Q := by
  obtain ⟨d, rfl⟩ : ∃ d', d = d' + 1 := ⟨d - 1, by omega⟩
  exact am_call_of hl nm_57 cw_57 (by decide +kernel) (sn_57 l d k) hlen hB
theorem op_58 (hl : l.stackTraces = false) (hd : 1 ≤ d) (hlen : (am_entL a).length ≤ 2) (hB : am_B tb_58 (am_Call l (d - 1)) k (am_ent 2 a) w Q) : am_Call l d 58 k a w Q := by
  obtain ⟨d, rfl⟩ : ∃ d', d = d' + 1 := ⟨d - 1, by omega⟩
  exact am_call_of hl nm_58 cw_58 (by decide +kernel) (sn_58 l d k) hlen hB
theorem op_59 (hl : l.stackTraces = false) (hd : 1 ≤ d) (hlen : (am_entL a).length ≤ 1) (hB : am_B tb_59 (am_Call l (d - 1)) k (am_ent 1 a) w Q) : am_Call l d 59 k a w Q := by
  obtain ⟨d, rfl⟩ : ∃ d', d = d' + 1 := ⟨d - 1, by omega⟩
  exact am_call_of hl nm_59 cw_59 (by decide +kernel) (sn_59 l d k) hlen hB
theorem op_60 (hl : l.stackTraces = false) (hd : 1 ≤ d) (hlen : (am_entL a).length ≤ 2) (hB : am_B tb_60 (am_Call l (d - 1)) k (am_ent 2 a) w Q) : am_Call l d 60 k a w Q := by
  obtain ⟨d, rfl⟩ : ∃ d', d = d' + 1 := ⟨d - 1, by omega⟩
  exact am_call_of hl nm_60 cw_60 (by decide +kernel) (sn_60 l d k) hlen hB
theorem op_61 (hl : l.stackTraces = false) (hd : 1 ≤ d) (hlen : (am_entL a).length ≤ 5) (hB : am_B tb_61 (am_Call l (d - 1)) k (am_ent 5 a) w Q) : am_Call l d 61 k a w Q := by
  obtain ⟨d, rfl⟩ : ∃ d', d = d' + 1 := ⟨d - 1, by omega⟩
  exact am_call_of hl nm_61 cw_61 (by decide +kernel) (sn_61 l d k) hlen hB
theorem op_62 (hl : l.stackTraces = false) (hd : 1 ≤ d) (hlen : (am_entL a).length ≤ 2) (hB : am_B tb_62 (am_Call l (d - 1)) k (am_ent 2 a) w Q) : am_Call l d 62 k a w Q := by
  obtain ⟨d, rfl⟩ : ∃ d', d = d' + 1 := ⟨d - 1, by omega⟩
  exact am_call_of hl nm_62 cw_62 (by decide +kernel) (sn_62 l d k) hlen hB
theorem op_64 (hl : l.stackTraces = false) (hd : 1 ≤ d) (hlen : (am_entL a).length ≤ 4) (hB : am_B tb_64 (am_Call l (d - 1)) k (am_ent 4 a) w Q) : am_Call l d 64 k a w Q := by
  obtain ⟨d, rfl⟩ : ∃ d', d = d' + 1 := ⟨d - 1, by omega⟩
  exact am_call_of hl nm_64 cw_64 (by decide +kernel) (sn_64 l d k) hlen hB
theorem op_65 (hl : l.stackTraces = false) (hd : 1 ≤ d) (hlen : (am_entL a).length ≤ 3) (hB : am_B tb_65 (am_Call l (d - 1)) k (am_ent 3 a) w Q) : am_Call l d 65 k a w Q := by
  obtain ⟨d, rfl⟩ : ∃ d', d = d' + 1 := ⟨d - 1, by omega⟩
  exact am_call_of hl nm_65 cw_65 (by decide +kernel) (sn_65 l d k) hlen hB
theorem op_66 (hl : l.stackTraces = false) (hd : 1 ≤ d) (hlen : (am_entL a).length ≤ 7) (hB : am_B tb_66 (am_Call l (d - 1)) k (am_ent 7 a) w Q) : am_Call l d 66 k a w Q := by
  obtain ⟨d, rfl⟩ : ∃ d', d = d' + 1 := ⟨d - 1, by omega⟩
  exact am_call_of hl nm_66 cw_66 (by decide +kernel) (sn_66 l d k) hlen hB
theorem op_67 (hl : l.stackTraces = false) (hd : 1 ≤ d) (hlen : (am_entL a).length ≤ 7) (hB : am_B tb_67 (am_Call l (d - 1)) k (am_ent 7 a) w Q) : am_Call l d 67 k a w Q := by
  obtain ⟨d, rfl⟩ : ∃ d', d = d' + 1 := ⟨d - 1, by omega⟩
  exact am_call_of hl nm_67 cw_67 (by decide +kernel) (sn_67 l d k) hlen hB
theorem op_68 (hl : l.stackTraces = false) (hd : 1 ≤ d) (hlen : (am_entL a).length ≤ 8) (hB : am_B tb_68 (am_Call l (d - 1)) k (am_ent 8 a) w Q) : am_Call l d 68 k a w Q := by
  obtain ⟨d, rfl⟩ : ∃ d', d = d' + 1 := ⟨d - 1, by omega⟩
  exact am_call_of hl nm_68 cw_68 (by decide +kernel) (sn_68 l d k) hlen hB
theorem op_69 (hl : l.stackTraces = false) (hd : 1 ≤ d) (hlen : (am_entL a).length ≤ 1) (hB : am_B tb_69 (am_Call l (d - 1)) k (am_ent 1 a) w Q) : am_Call l d 69 k a w Q := by
  obtain ⟨d, rfl⟩ : ∃ d', d = d' + 1 := ⟨d - 1, by omega⟩
  exact am_call_of hl nm_69 cw_69 (by decide +kernel) (sn_69 l d k) hlen hB
theorem op_70 (hl : l.stackTraces = false) (hd : 1 ≤ d) (hlen : (am_entL a).length ≤ 1) (hB : am_B tb_70 (am_Call l (d - 1)) k (am_ent 1 a) w Q) : am_Call l d 70 k a w Q := by
  obtain ⟨d, rfl⟩ : ∃ d', d = d' + 1 := ⟨d - 1, by omega⟩
  exact am_call_of hl nm_70 cw_70 (by decide +kernel) (sn_70 l d k) hlen hB
theorem op_71 (hl : l.stackTraces = false) (hd : 1 ≤ d) (hlen : (am_entL a).length ≤ 1) (hB : am_B tb_71 (am_Call l (d - 1)) k (am_ent 1 a) w Q) : am_Call l d 71 k a w Q := by
  obtain ⟨d, rfl⟩ : ∃ d', d = d' + 1 := ⟨d - 1, by omega⟩
  exact am_call_of hl nm_71 cw_71 (by decide +kernel) (sn_71 l d k) hlen hB
theorem op_72 (hl : l.stackTraces = false) (hd : 1 ≤ d) (hlen : (am_entL a).length ≤ 1) (hB : am_B tb_72 (am_Call l (d - 1)) k (am_ent 1 a) w Q) : am_Call l d 72 k a w Q := by
  obtain ⟨d, rfl⟩ : ∃ d', d = d' + 1 := ⟨d - 1, by omega⟩
  exact am_call_of hl nm_72 cw_72 (by decide +kernel) (sn_72 l d k) hlen hB
theorem op_73 (hl : l.stackTraces = false) (hd : 1 ≤ d) (hlen : (am_entL a).length ≤ 2) (hB : am_B tb_73 (am_Call l (d - 1)) k (am_ent 2 a) w Q) : am_Call l d 73 k a w Q := by
  obtain ⟨d, rfl⟩ : ∃ d', d = d' + 1 := ⟨d - 1, by omega⟩
  exact am_call_of hl nm_73 cw_73 (by decide +kernel) (sn_73 l d k) hlen hB
theorem op_74 (hl : l.stackTraces = false) (hd : 1 ≤ d) (hlen : (am_entL a).length ≤ 2) (hB : am_B tb_74 (am_Call l (d - 1)) k (am_ent 2 a) w Q) : am_Call l d 74 k a w Q := by
  obtain ⟨d, rfl⟩ : ∃ d', d = d' + 1 := ⟨d - 1, by omega⟩
  exact am_call_of hl nm_74 cw_74 (by decide +kernel) (sn_74 l d k) hlen hB
theorem op_75 (hl : l.stackTraces = false) (hd : 1 ≤ d) (hlen : (am_entL a).length ≤ 1) (hB : am_B tb_75 (am_Call l (d - 1)) k (am_ent 1 a) w Q) : am_Call l d 75 k a w Q := by
  obtain ⟨d, rfl⟩ : ∃ d', d = d' + 1 := ⟨d - 1, by omega⟩
  exact am_call_of hl nm_75 cw_75 (by decide +kernel) (sn_75 l d k) hlen hB
theorem op_76 (hl : l.stackTraces = false) (hd : 1 ≤ d) (hlen : (am_entL a).length ≤ 4) (hB : am_B tb_76 (am_Call l (d - 1)) k (am_ent 4 a) w Q) : am_Call l d 76 k a w Q := by
  obtain ⟨d, rfl⟩ : ∃ d', d = d' + 1 := ⟨d - 1, by omega⟩
  exact am_call_of hl nm_76 cw_76 (by decide +kernel) (sn_76 l d k) hlen hB
theorem op_77 (hl : l.stackTraces = false) (hd : 1 ≤ d) (hlen : (am_entL a).length ≤ 3) (hB : am_B tb_77 (am_Call l (d - 1)) k (am_ent 3 a) w Q) : am_Call l d 77 k a w Q := by
  obtain ⟨d, rfl⟩ : ∃ d', d = d' + 1 := ⟨d - 1, by omega⟩
  exact am_call_of hl nm_77 cw_77 (by decide +kernel) (sn_77 l d k) hlen hB
theorem op_78 (hl : l.stackTraces = false) (hd : 1 ≤ d) (hlen : (am_entL a).length ≤ 3) (hB : am_B tb_78 (am_Call l (d - 1)) k (am_ent 3 a) w Q) : am_Call l d 78 k a w Q := by
  obtain ⟨d, rfl⟩ : ∃ d', d = d' + 1 := ⟨d - 1, by omega⟩
  exact am_call_of hl nm_78 cw_78 (by decide +kernel) (sn_78 l d k) hlen hB
theorem op_79 (hl : l.stackTraces = false) (hd : 1 ≤ d) (hlen : (am_entL a).length ≤ 1) (hB : am_B tb_79 (am_Call l (d - 1)) k (am_ent 1 a) w Q) : am_Call l d 79 k a w Q := by
  obtain ⟨d, rfl⟩ : ∃ d', d = d' + 1 := ⟨d - 1, by omega⟩
  exact am_call_of hl nm_79 cw_79 (by decide +kernel) (sn_79 l d k) hlen hB
theorem op_80 (hl : l.stackTraces = false) (hd : 1 ≤ d) (hlen : (am_entL a).length ≤ 3) (hB : am_B tb_80 (am_Call l (d - 1)) k (am_ent 3 a) w Q) : am_Call l d 80 k a w Q := by
  obtain ⟨d, rfl⟩ : ∃ d', d = d' + 1 := ⟨d - 1, by omega⟩
  exact am_call_of hl nm_80 cw_80 (by decide +kernel) (sn_80 l d k) hlen hB
theorem op_81 (hl : l.stackTraces = false) (hd : 1 ≤ d) (hlen : (am_entL a).length ≤ 3) (hB : am_B tb_81 (am_Call l (d - 1)) k (am_ent 3 a) w Q) : am_Call l d 81 k a w Q := by
  obtain ⟨d, rfl⟩ : ∃ d', d = d' + 1 := ⟨d - 1, by omega⟩
  exact am_call_of hl nm_81 cw_81 (by decide +kernel) (sn_81 l d k) hlen hB
theorem op_82 (hl : l.stackTraces = false) (hd : 1 ≤ d) (hlen : (am_entL a).length ≤ 9) (hB : am_B tb_82 (am_Call l (d - 1)) k (am_ent 9 a) w Q) : am_Call l d 82 k a w Q := by
  obtain ⟨d, rfl⟩ : ∃ d', d = d' + 1 := ⟨d - 1, by omega⟩
  exact am_call_of hl nm_82 cw_82 (by decide +kernel) (sn_82 l d k) hlen hB
theorem op_83 (hl : l.stackTraces = false) (hd : 1 ≤ d) (hlen : (am_entL a).length ≤ 1) (hB : am_B tb_83 (am_Call l (d - 1)) k (am_ent 1 a) w Q) : am_Call l d 83 k a w Q := by
  obtain ⟨d, rfl⟩ : ∃ d', d = d' + 1 := ⟨d - 1, by omega⟩
  exact am_call_of hl nm_83 cw_83 (by decide +kernel) (sn_83 l d k) hlen hB
theorem op_84 (hl : l.stackTraces = false) (hd : 1 ≤ d) (hlen : (am_entL a).length ≤ 1) (hB : am_B tb_84 (am_Call l (d - 1)) k (am_ent 1 a) w Q) : am_Call l d 84 k a w Q := by
  obtain ⟨d, rfl⟩ : ∃ d', d = d' + 1 := ⟨d - 1, by omega⟩
  exact am_call_of hl nm_84 cw_84 (by decide +kernel) (sn_84 l d k) hlen hB
theorem op_85 (hl : l.stackTraces = false) (hd : 1 ≤ d) (hlen : (am_entL a).length ≤ 1) (hB : am_B tb_85 (am_Call l (d - 1)) k (am_ent 1 a) w Q) : am_Call l d 85 k a w Q := by
  obtain ⟨d, rfl⟩ : ∃ d', d = d' + 1 := ⟨d - 1, by omega⟩
  exact am_call_of hl nm_85 cw_85 (by decide +kernel) (sn_85 l d k) hlen hB
theorem op_86 (hl : l.stackTraces = false) (hd : 1 ≤ d) (hlen : (am_entL a).length ≤ 2) (hB : am_B tb_86 (am_Call l (d - 1)) k (am_ent 2 a) w Q) : am_Call l d 86 k a w Q := by
  obtain ⟨d, rfl⟩ : ∃ d', d = d' + 1 := ⟨d - 1, by omega⟩
  exact am_call_of hl nm_86 cw_86 (by decide +kernel) (sn_86 l d k) hlen hB
theorem op_87 (hl : l.stackTraces = false) (hd : 1 ≤ d) (hlen : (am_entL a).length ≤ 2) (hB : am_B tb_87 (am_Call l (d - 1)) k (am_ent 2 a) w Q) : am_Call l d 87 k a w Q := by
  obtain ⟨d, rfl⟩ : ∃ d', d = d' + 1 := ⟨d - 1, by omega⟩
  exact am_call_of hl nm_87 cw_87 (by decide +kernel) (sn_87 l d k) hlen hB
theorem op_88 (hl : l.stackTraces = false) (hd : 1 ≤ d) (hlen : (am_entL a).length ≤ 2) (hB : am_B tb_88 (am_Call l (d - 1)) k (am_ent 2 a) w Q) : am_Call l d 88 k a w Q := by
  obtain ⟨d, rfl⟩ : ∃ d', d = d' + 1 := ⟨d - 1, by omega⟩
  exact am_call_of hl nm_88 cw_88 (by decide +kernel) (sn_88 l d k) hlen hB
theorem op_89 (hl : l.stackTraces = false) (hd : 1 ≤ d) (hlen : (am_entL a).length ≤ 1) (hB : am_B tb_89 (am_Call l (d - 1)) k (am_ent 1 a) w Q) : am_Call l d 89 k a w Q := by
  obtain ⟨d, rfl⟩ : ∃ d', d = d' + 1 := ⟨d - 1, by omega⟩
  exact am_call_of hl nm_89 cw_89 (by decide +kernel) (sn_89 l d k) hlen hB
theorem op_90 (hl : l.stackTraces = false) (hd : 1 ≤ d) (hlen : (am_entL a).length ≤ 1) (hB : am_B tb_90 (am_Call l (d - 1)) k (am_ent 1 a) w Q) : am_Call l d 90 k a w Q := by
  obtain ⟨d, rfl⟩ : ∃ d', d = d' + 1 := ⟨d - 1, by omega⟩
  exact am_call_of hl nm_90 cw_90 (by decide +kernel) (sn_90 l d k) hlen hB
theorem op_91 (hl : l.stackTraces = false) (hd : 1 ≤ d) (hlen : (am_entL a).length ≤ 1) (hB : am_B tb_91 (am_Call l (d - 1)) k (am_ent 1 a) w Q) : am_Call l d 91 k a w Q := by
  obtain ⟨d, rfl⟩ : ∃ d', d = d' + 1 := ⟨d - 1, by omega⟩
  exact am_call_of hl nm_91 cw_91 (by decide +kernel) (sn_91 l d k) hlen hB
theorem op_92 (hl : l.stackTraces = false) (hd : 1 ≤ d) (hlen : (am_entL a).length ≤ 3) (hB : am_B tb_92 (am_Call l (d - 1)) k (am_ent 3 a) w Q) : am_Call l d 92 k a w Q := by
  obtain ⟨d, rfl⟩ : ∃ d', d = d' + 1 := ⟨d - 1, by omega⟩
  exact am_call_of hl nm_92 cw_92 (by decide +kernel) (sn_92 l d k) hlen hB
theorem op_93 (hl : l.stackTraces = false) (hd : 1 ≤ d) (hlen : (am_entL a).length ≤ 3) (hB : am_B tb_93 (am_Call l (d - 1)) k (am_ent 3 a) w Q) : am_Call l d 93 k a w Q := by
  obtain ⟨d, rfl⟩ : ∃ d', d = d' + 1 := ⟨d - 1, by omega⟩
  exact am_call_of hl nm_93 cw_93 (by decide +kernel) (sn_93 l d k) hlen hB
theorem op_94 (hl : l.stackTraces = false) (hd : 1 ≤ d) (hlen : (am_entL a).length ≤ 3) (hB : am_B tb_94 (am_Call l (d - 1)) k (am_ent 3 a) w Q) : am_Call l d 94 k a w Q := by
  obtain ⟨d, rfl⟩ : ∃ d', d = d' + 1 := ⟨d - 1, by omega⟩
  exact am_call_of hl nm_94 cw_94 (by decide +kernel) (sn_94 l d k) hlen hB
theorem op_95 (hl : l.stackTraces = false) (hd : 1 ≤ d) (hlen : (am_entL a).length ≤ 7) (hB : am_B tb_95 (am_Call l (d - 1)) k (am_ent 7 a) w Q) : am_Call l d 95 k a w Q := by
  obtain ⟨d, rfl⟩ : ∃ d', d = d' + 1 := ⟨d - 1, by omega⟩
  exact am_call_of hl nm_95 cw_95 (by decide +kernel) (sn_95 l d k) hlen hB
theorem op_96 (hl : l.stackTraces = false) (hd : 1 ≤ d) (hlen : (am_entL a).length ≤ 4) (hB : am_B tb_96 (am_Call l (d - 1)) k (am_ent 4 a) w Q) : am_Call l d 96 k a w Q := by
  obtain ⟨d, rfl⟩ : ∃ d', d = d' + 1 := ⟨d - 1, by omega⟩
  exact am_call_of hl nm_96 cw_96 (by decide +kernel) (sn_96 l d k) hlen hB
theorem op_97 (hl : l.stackTraces = false) (hd : 1 ≤ d) (hlen : (am_entL a).length ≤ 7) (hB : am_B tb_97 (am_Call l (d - 1)) k (am_ent 7 a) w Q) : am_Call l d 97 k a w Q := by
  obtain ⟨d, rfl⟩ : ∃ d', d = d' + 1 := ⟨d - 1, by omega⟩
  exact am_call_of hl nm_97 cw_97 (by decide +kernel) (sn_97 l d k) hlen hB
theorem op_98 (hl : l.stackTraces = false) (hd : 1 ≤ d) (hlen : (am_entL a).length ≤ 1) (hB : am_B tb_98 (am_Call l (d - 1)) k (am_ent 1 a) w Q) : am_Call l d 98 k a w Q := by
  obtain ⟨d, rfl⟩ : ∃ d', d = d' + 1 := ⟨d - 1, by omega⟩
  exact am_call_of hl nm_98 cw_98 (by decide +kernel) (sn_98 l d k) hlen hB
theorem op_99 (hl : l.stackTraces = false) (hd : 1 ≤ d) (hlen : (am_entL a).length ≤ 7) (hB : am_B tb_99 (am_Call l (d - 1)) k (am_ent 7 a) w Q) : am_Call l d 99 k a w Q := by
  obtain ⟨d, rfl⟩ : ∃ d', d = d' + 1 := ⟨d - 1, by omega⟩
  exact am_call_of hl nm_99 cw_99 (by decide +kernel) (sn_99 l d k) hlen hB
theorem op_100 (hl : l.stackTraces = false) (hd : 1 ≤ d) (hlen : (am_entL a).length ≤ 1) (hB : am_B tb_100 (am_Call l (d - 1)) k (am_ent 1 a) w Q) : am_Call l d 100 k a w Q := by
  obtain ⟨d, rfl⟩ : ∃ d', d = d' + 1 := ⟨d - 1, by omega⟩
  exact am_call_of hl nm_100 cw_100 (by decide +kernel) (sn_100 l d k) hlen hB
theorem op_101 (hl : l.stackTraces = false) (hd : 1 ≤ d) (hlen : (am_entL a).length ≤ 4) (hB : am_B tb_101 (am_Call l (d - 1)) k (am_ent 4 a) w Q) : am_Call l d 101 k a w Q := by
  obtain ⟨d, rfl⟩ : ∃ d', d = d' + 1 := ⟨d - 1, by omega⟩
  exact am_call_ofH hl nm_101 cw_101 (by decide +kernel) (sn_101 l d k) hlen hB
theorem op_102 (hl : l.stackTraces = false) (hd : 1 ≤ d) (hlen : (am_entL a).length ≤ 7) (hB : am_B tb_102 (am_Call l (d - 1)) k (am_ent 7 a) w Q) : am_Call l d 102 k a w Q := by
  obtain ⟨d, rfl⟩ : ∃ d', d = d' + 1 := ⟨d - 1, by omega⟩
  exact am_call_of hl nm_102 cw_102 (by decide +kernel) (sn_102 l d k) hlen hB
theorem op_103 (hl : l.stackTraces = false) (hd : 1 ≤ d) (hlen : (am_entL a).length ≤ 3) (hB : am_B tb_103 (am_Call l (d - 1)) k (am_ent 3 a) w Q) : am_Call l d 103 k a w Q := by
  obtain ⟨d, rfl⟩ : ∃ d', d = d' + 1 := ⟨d - 1, by omega⟩
  exact am_call_of hl nm_103 cw_103 (by decide +kernel) (sn_103 l d k) hlen hB
theorem op_104 (hl : l.stackTraces = false) (hd : 1 ≤ d) (hlen : (am_entL a).length ≤ 3) (hB : am_B tb_104 (am_Call l (d - 1)) k (am_ent 3 a) w Q) : am_Call l d 104 k a w Q := by
  obtain ⟨d, rfl⟩ : ∃ d', d = d' + 1 := ⟨d - 1, by omega⟩
  exact am_call_of hl nm_104 cw_104 (by decide +kernel) (sn_104 l d k) hlen hB
theorem op_105 (hl : l.stackTraces = false) (hd : 1 ≤ d) (hlen : (am_entL a).length ≤ 7) (hB : am_B tb_105 (am_Call l (d - 1)) k (am_ent 7 a) w Q) : am_Call l d 105 k a w Q := by
  obtain ⟨d, rfl⟩ : ∃ d', d = d' + 1 := ⟨d - 1, by omega⟩
  exact am_call_of hl nm_105 cw_105 (by decide +kernel) (sn_105 l d k) hlen hB
theorem op_106 (hl : l.stackTraces = false) (hd : 1 ≤ d) (hlen : (am_entL a).length ≤ 6) (hB : am_B tb_106 (am_Call l (d - 1)) k (am_ent 6 a) w Q) : am_Call l d 106 k a w Q := by
  obtain ⟨d, rfl⟩ : ∃ d', d = d' + 1 := ⟨d - 1, by omega⟩
  exact am_call_of hl nm_106 cw_106 (by decide +kernel) (sn_106 l d k) hlen hB
theorem op_107 (hl : l.stackTraces = false) (hd : 1 ≤ d) (hlen : (am_entL a).length ≤ 3) (hB : am_B tb_107 (am_Call l (d - 1)) k (am_ent 3 a) w Q) : am_Call l d 107 k a w Q := by
  obtain ⟨d, rfl⟩ : ∃ d', d = d' + 1 := ⟨d - 1, by omega⟩
  exact am_call_of hl nm_107 cw_107 (by decide +kernel) (sn_107 l d k) hlen hB
theorem op_108 (hl : l.stackTraces = false) (hd : 1 ≤ d) (hlen : (am_entL a).length ≤ 5) (hB : am_B tb_108 (am_Call l (d - 1)) k (am_ent 5 a) w Q) : am_Call l d 108 k a w Q := by
  obtain ⟨d, rfl⟩ : ∃ d', d = d' + 1 := ⟨d - 1, by omega⟩
  exact am_call_of hl nm_108 cw_108 (by decide +kernel) (sn_108 l d k) hlen hB
theorem op_109 (hl : l.stackTraces = false) (hd : 1 ≤ d) (hlen : (am_entL a).length ≤ 4) (hB : am_B tb_109 (am_Call l (d - 1)) k (am_ent 4 a) w Q) : am_Call l d 109 k a w Q := by
  obtain ⟨d, rfl⟩ : ∃ d', d = d' + 1 := ⟨d - 1, by omega⟩
  exact am_call_of hl nm_109 cw_109 (by decide +kernel) (sn_109 l d k) hlen hB
theorem op_110 (hl : l.stackTraces = false) (hd : 1 ≤ d) (hlen : (am_entL a).length ≤ 4) (hB : am_B tb_110 (am_Call l (d - 1)) k (am_ent 4 a) w Q) : am_Call l d 110 k a w Q := by
  obtain ⟨d, rfl⟩ : ∃ d', d = d' + 1 := ⟨d - 1, by omega⟩
  exact am_call_of hl nm_110 cw_110 (by decide +kernel) (sn_110 l d k) hlen hB
theorem op_111 (hl : l.stackTraces = false) (hd : 1 ≤ d) (hlen : (am_entL a).length ≤ 1) (hB : am_B tb_111 (am_Call l (d - 1)) k (am_ent 1 a) w Q) : am_Call l d 111 k a w Q := by
  obtain ⟨d, rfl⟩ : ∃ d', d = d' + 1 := ⟨d - 1, by omega⟩
  exact am_call_of hl nm_111 cw_111 (by decide +kernel) (sn_111 l d k) hlen hB
theorem op_112 (hl : l.stackTraces = false) (hd : 1 ≤ d) (hlen : (am_entL a).length ≤ 2) (hB : am_B tb_112 (am_Call l (d - 1)) k (am_ent 2 a) w Q) : am_Call l d 112 k a w Q := by
  obtain ⟨d, rfl⟩ : ∃ d', d = d' + 1 := ⟨d - 1, by omega⟩
  exact am_call_of hl nm_112 cw_112 (by decide +kernel) (sn_112 l d k) hlen hB
theorem op_113 (hl : l.stackTraces = false) (hd : 1 ≤ d) (hlen : (am_entL a).length ≤ 2) (hB : ∀ L xs, L ≤ 260 → am_B (tb_113 L xs) (am_Call l (d - 1)) k (am_ent 2 a) w Q) : am_Call l d 113 k a w Q := by
  obtain ⟨d, rfl⟩ : ∃ d', d = d' + 1 := ⟨d - 1, by omega⟩
  exact am_call_ofS hl nm_113 cw_113 (by decide +kernel) (sn_113 l d k) hlen hB
theorem op_148 (hl : l.stackTraces = false) (hd : 1 ≤ d) (hlen : (am_entL a).length ≤ 2) (hB : am_B tb_148 (am_Call l (d - 1)) k (am_ent 2 a) w Q) : am_Call l d 148 k a w Q := by
  obtain ⟨d, rfl⟩ : ∃ d', d = d' + 1 := ⟨d - 1, by omega⟩
  exact am_call_of hl nm_148 cw_148 (by decide +kernel) (sn_148 l d k) hlen hB
theorem op_149 (hl : l.stackTraces = false) (hd : 1 ≤ d) (hlen : (am_entL a).length ≤ 2) (hB : am_B tb_149 (am_Call l (d - 1)) k (am_ent 2 a) w Q) : am_Call l d 149 k a w Q := by
  obtain ⟨d, rfl⟩ : ∃ d', d = d' + 1 := ⟨d - 1, by omega⟩
  exact am_call_of hl nm_149 cw_149 (by decide +kernel) (sn_149 l d k) hlen hB
theorem op_150 (hl : l.stackTraces = false) (hd : 1 ≤ d) (hlen : (am_entL a).length ≤ 1) (hB : am_B tb_150 (am_Call l (d - 1)) k (am_ent 1 a) w Q) : am_Call l d 150 k a w Q := by
  obtain ⟨d, rfl⟩ : ∃ d', d = d' + 1 := ⟨d - 1, by omega⟩
  exact am_call_of hl nm_150 cw_150 (by decide +kernel) (sn_150 l d k) hlen hB
end
