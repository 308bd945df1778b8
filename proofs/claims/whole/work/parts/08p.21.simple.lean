/-! the simple calls -/
theorem v1_0 (σ : ZI) : f_X6_value σ 1 (0 : Int32) = some (σ 2 0) := rfl
theorem v1_1 (σ : ZI) : f_X6_value σ 1 (1 : Int32) = some (σ 2 1) := rfl
theorem v1_2 (σ : ZI) : f_X6_value σ 1 (2 : Int32) = some (σ 2 2) := rfl
theorem v1_3 (σ : ZI) : f_X6_value σ 1 (3 : Int32) = some (σ 2 3) := rfl
theorem v1_4 (σ : ZI) : f_X6_value σ 1 (4 : Int32) = some (σ 2 4) := rfl
theorem v1_5 (σ : ZI) : f_X6_value σ 1 (5 : Int32) = some (σ 2 5) := rfl
theorem v1_6 (σ : ZI) : f_X6_value σ 1 (6 : Int32) = some (σ 2 6) := rfl
theorem v1_7 (σ : ZI) : f_X6_value σ 1 (7 : Int32) = some (σ 2 7) := rfl
theorem v1_8 (σ : ZI) : f_X6_value σ 1 (8 : Int32) = some (σ 2 8) := rfl
theorem v1_9 (σ : ZI) : f_X6_value σ 1 (9 : Int32) = some (σ 2 9) := rfl
theorem v1_10 (σ : ZI) : f_X6_value σ 1 (10 : Int32) = some (σ 2 10) := rfl
theorem v1_11 (σ : ZI) : f_X6_value σ 1 (11 : Int32) = some (σ 2 11) := rfl
theorem v1_12 (σ : ZI) : f_X6_value σ 1 (12 : Int32) = some (σ 2 12) := rfl
theorem v28_0 (σ : ZI) : f_X6_value σ 28 (0 : Int32) = some (σ 29 0) := rfl
theorem v28_1 (σ : ZI) : f_X6_value σ 28 (1 : Int32) = some (σ 29 1) := rfl
theorem v28_2 (σ : ZI) : f_X6_value σ 28 (2 : Int32) = some (σ 29 2) := rfl
theorem v28_3 (σ : ZI) : f_X6_value σ 28 (3 : Int32) = some (σ 29 3) := rfl
theorem v28_4 (σ : ZI) : f_X6_value σ 28 (4 : Int32) = some (σ 29 4) := rfl
theorem v28_5 (σ : ZI) : f_X6_value σ 28 (5 : Int32) = some (σ 29 5) := rfl
theorem v28_6 (σ : ZI) : f_X6_value σ 28 (6 : Int32) = some (σ 29 6) := rfl
theorem v28_7 (σ : ZI) : f_X6_value σ 28 (7 : Int32) = some (σ 29 7) := rfl
theorem v28_8 (σ : ZI) : f_X6_value σ 28 (8 : Int32) = some (σ 29 8) := rfl
theorem v28_9 (σ : ZI) : f_X6_value σ 28 (9 : Int32) = some (σ 29 9) := rfl
theorem v28_10 (σ : ZI) : f_X6_value σ 28 (10 : Int32) = some (σ 29 10) := rfl
theorem v28_11 (σ : ZI) : f_X6_value σ 28 (11 : Int32) = some (σ 29 11) := rfl
theorem v28_12 (σ : ZI) : f_X6_value σ 28 (12 : Int32) = some (σ 29 12) := rfl
theorem at_n {σ : ZI} {r k N : Nat} (h1 : ar r = (1, N)) (hk : k < N) (hN : N < 2 ^ 31) : f_X7_at σ r (nI k) = some (σ r k) := by
  unfold f_X7_at
  rw [h1]
  rw [if_pos rfl, if_neg (nI_pos (by omega)), if_neg (nI_ge hk hN), if_pos (inB_n hk (by omega)), nI_clamp (by omega)]
theorem at_neg {σ : ZI} {r N : Nat} {x : Int32} (h1 : ar r = (1, N)) (hx : x < 0) : f_X7_at σ r x = some 0 := by
  unfold f_X7_at
  rw [h1, if_pos rfl, if_pos hx]
theorem val_n {σ : ZI} {b k : Nat} (h0 : ar b = (11, 0)) (h1 : ar (b + 1) = (1, 13)) (hk : k < 13) : f_X6_value σ b (nI k) = some (σ (b + 1) k) := by
  unfold f_X6_value
  rw [h0, if_pos rfl, at_n h1 hk (by omega)]
  rfl
theorem put_n {σ : ZI} {r k N : Nat} {v : Int32} (h1 : ar r = (1, N)) (hk : k < N) (hN : N < 2 ^ 31) : f_X7_put σ r (nI k) v = some (va_up σ r (upd (σ r) k v)) := by
  unfold f_X7_put
  rw [h1, if_pos rfl, if_neg (nI_pos (by omega)), if_neg (nI_ge hk hN), if_pos (inB_n hk (by omega)), nI_clamp (by omega)]
  rfl
theorem bec_n {σ : ZI} {b k : Nat} {v : Int32} (h0 : ar b = (11, 0)) (h1 : ar (b + 1) = (1, 13)) (hk : k < 13) : f_X6_become σ b (nI k) v = some (va_up σ (b + 1) (upd (σ (b + 1)) k v)) := by
  unfold f_X6_become
  rw [h0, if_pos rfl, put_n h1 hk (by omega)]
  rfl
theorem dec_lt {n : Nat} (h : n < 2 ^ 30) (a : Int32) : nI n - 1 < a ↔ nI n ≤ a := by
  have e : (nI n - nI 1).toInt = (n : Int) - 1 := pk_sub_toInt h (by omega)
  have e1 : (nI n).toInt = (n : Int) := nI_toInt (by omega)
  have e2 : nI n - 1 = nI n - nI 1 := rfl
  rw [e2, Int32.lt_iff_toInt_lt, Int32.le_iff_toInt_le, e, e1]
  omega
theorem ix_cases (x : Int32) {n : Nat} (hn : n < 2 ^ 31) : (x < 0 ∨ nI n ≤ x) ∨ ∃ j : Nat, j < n ∧ x = nI j := by
  rcases pk_ix x hn with h | h | h
  · exact .inl (.inl h)
  · exact .inl (.inr h)
  · exact .inr h
theorem ix_no {j n : Nat} (h : j < n) (hn : n < 2 ^ 31) : ¬ (nI j < 0 ∨ nI n ≤ nI j) := by
  rintro (q | q)
  · exact nI_pos (by omega) q
  · exact nI_ge h hn q
theorem isJ7 (σ : ZI) (a : Int32) : f_X7_isJoint σ a = some (if a < 1 ∨ σ 2 0 < a then 0 else 1) := by
  unfold f_X7_isJoint
  rw [v1_0]
  by_cases h1 : a < 1
  · simp [h1]
  · by_cases h2 : σ 2 0 < a <;> simp [h1, h2]
theorem isJ8 (σ : ZI) (a : Int32) : f_X8_isJoint σ a = some (if a < 1 ∨ σ 60 1 < a then 0 else 1) := by
  unfold f_X8_isJoint
  rw [in_at 1 _ 1 (σ 60 1) rfl rfl]
  by_cases h1 : a < 1 ∨ σ 60 1 < a <;> simp [h1]
theorem isA7 (σ : ZI) (a : Int32) : f_X7_isArm σ a = some (if a < 0 ∨ σ 2 1 ≤ a then 0 else 1) := by
  unfold f_X7_isArm
  rw [v1_1]
  by_cases h1 : a < 0
  · simp [h1]
  · by_cases h2 : σ 2 1 ≤ a <;> simp [h1, h2]
theorem isA8 {σ : ZI} {n : Nat} (h : σ 60 3 = nI n) (hn : n < 2 ^ 30) (a : Int32) : f_X8_isArm σ a = some (if a < 0 ∨ nI n ≤ a then 0 else 1) := by
  unfold f_X8_isArm
  rw [in_at 0 _ 0 (σ 60 3 - 1) rfl rfl, h]
  simp only [dec_lt hn]
  by_cases h1 : a < 0 ∨ nI n ≤ a <;> simp [h1]
theorem isM7 (σ : ZI) (a : Int32) : f_X7_isMark σ a = some (if a < 0 ∨ σ 2 2 ≤ a then 0 else 1) := by
  unfold f_X7_isMark
  rw [v1_2]
  by_cases h1 : a < 0
  · simp [h1]
  · by_cases h2 : σ 2 2 ≤ a <;> simp [h1, h2]
theorem isT7 (σ : ZI) (a : Int32) : f_X7_isTown σ a = some (if a < 0 ∨ σ 2 3 ≤ a then 0 else 1) := by
  unfold f_X7_isTown
  rw [v1_3]
  by_cases h1 : a < 0
  · simp [h1]
  · by_cases h2 : σ 2 3 ≤ a <;> simp [h1, h2]
theorem isP7 (a : Int32) : f_X7_isPart a = some (if a < 0 ∨ 1 < a then 0 else 1) := by
  unfold f_X7_isPart
  rcases ix_cases a (n := 2) (by omega) with h | ⟨j, hj, rfl⟩
  · have h0 : a ≠ 0 := by rintro rfl; revert h; decide
    have h1 : a ≠ 1 := by rintro rfl; revert h; decide
    have h2 : a < 0 ∨ 1 < a := by
      rcases h with h | h
      · exact .inl h
      · right
        rw [Int32.le_iff_toInt_le, nI_toInt (by omega)] at h
        rw [Int32.lt_iff_toInt_lt]
        have : (1 : Int32).toInt = 1 := rfl
        omega
    simp [h0, h1, h2]
  · have : j = 0 ∨ j = 1 := by omega
    rcases this with rfl | rfl <;> rfl
theorem inM8 {σ : ZI} {c n : Nat} (h : σ 60 c = nI n) (hn : n < 2 ^ 30) (a : Int32) : f_X8_in a.toInt64 (0 : Int64) ((σ 60 c - (1 : Int32)).toInt64) = some (if a < 0 ∨ nI n ≤ a then 0 else 1) := by
  rw [in_at 0 _ 0 (σ 60 c - 1) rfl rfl, h]
  simp only [dec_lt hn]
theorem q_fault {σ : ZI} (I : Inv σ) : ∃ r, f_X7_fault σ = some r ∧ f_X8_fault σ = some r := by
  obtain ⟨t, iT, iI, iP, iS, iH, iF, iK⟩ := I
  exact ⟨σ 0 6, rfl, congrArg some iF.1⟩
theorem q_split {σ : ZI} (I : Inv σ) : ∃ r, f_X7_split σ = some r ∧ f_X8_split σ = some r := by
  obtain ⟨t, iT, iI, iP, iS, iH, iF, iK⟩ := I
  exact ⟨σ 0 12, rfl, congrArg some iF.2⟩
theorem q_rule {σ : ZI} (I : Inv σ) (a : Int32) : ∃ r, f_X7_rule σ a = some r ∧ f_X8_rule σ a = some r := by
  obtain ⟨t, ⟨k, tv, rp, rs⟩, -⟩ := I
  rcases ix_cases a (n := 13) (by omega) with h | ⟨j, hj, rfl⟩
  · refine ⟨-1, ?_, ?_⟩
    · unfold f_X7_rule
      rcases h with h | h
      · rw [if_pos h]
      · by_cases h0 : a < 0
        · rw [if_pos h0]
        · rw [if_neg h0, if_neg]
          intro q
          rw [Int32.lt_iff_toInt_lt] at q
          rw [Int32.le_iff_toInt_le] at h
          exact absurd q (Int.not_lt.mpr h)
    · unfold f_X8_rule
      repeat rw [if_neg (fun e => absurd h (by rw [e]; decide))]
  · obtain ⟨p1, p2, p3, p4, p5, p6, p7, p8, p9, p10⟩ := rp
    obtain ⟨s1, s2, s3, s4, s5, s6, s7, s8, s9⟩ := rs
    have e := tv.1
    have hh : j = 0 ∨ j = 1 ∨ j = 2 ∨ j = 3 ∨ j = 4 ∨ j = 5 ∨ j = 6 ∨ j = 7 ∨ j = 8 ∨ j = 9 ∨ j = 10 ∨ j = 11 ∨ j = 12 := by omega
    rcases hh with rfl | rfl | rfl | rfl | rfl | rfl | rfl | rfl | rfl | rfl | rfl | rfl | rfl
    · exact ⟨σ 2 0, rfl, congrArg some (s1.trans (e 0 (by omega)).symm)⟩
    · exact ⟨σ 2 1, rfl, congrArg some (s2.trans (e 1 (by omega)).symm)⟩
    · exact ⟨σ 2 2, rfl, congrArg some (s3.trans (e 2 (by omega)).symm)⟩
    · exact ⟨σ 2 3, rfl, congrArg some (s4.trans (e 3 (by omega)).symm)⟩
    · exact ⟨σ 2 4, rfl, congrArg some (p4.trans (e 4 (by omega)).symm)⟩
    · exact ⟨σ 2 5, rfl, congrArg some (p5.trans (e 5 (by omega)).symm)⟩
    · refine ⟨σ 2 6, rfl, ?_⟩
      show some (σ 61 13 + 1) = _
      rw [show σ 61 13 = _ from p6, e 6 (by omega), Int32.sub_add_cancel]
    · refine ⟨σ 2 7, rfl, ?_⟩
      show some (σ 61 14 + 5) = _
      rw [show σ 61 14 = _ from p7, e 7 (by omega), Int32.sub_add_cancel]
    · refine ⟨σ 2 8, rfl, ?_⟩
      show some (σ 61 15 + 2) = _
      rw [show σ 61 15 = _ from p8, e 8 (by omega), Int32.sub_add_cancel]
    · refine ⟨σ 2 9, rfl, ?_⟩
      show some (σ 61 16 + 4) = _
      rw [show σ 61 16 = _ from p9, e 9 (by omega), Int32.sub_add_cancel]
    · exact ⟨σ 2 10, rfl, congrArg some (s5.trans (e 10 (by omega)).symm)⟩
    · exact ⟨σ 2 11, rfl, congrArg some (s6.trans (e 11 (by omega)).symm)⟩
    · refine ⟨σ 2 12, rfl, ?_⟩
      show some (σ 61 17 + 3) = _
      rw [show σ 61 17 = _ from p10, e 12 (by omega), Int32.sub_add_cancel]
theorem q_mark {σ : ZI} (I : Inv σ) (a w : Int32) : ∃ r, f_X7_mark σ a w = some r ∧ f_X8_mark σ a w = some r := by
  obtain ⟨t, ⟨k, tv, rp, rs⟩, -⟩ := I
  have k1 := k.1
  have e2 : σ 2 2 = nI (t 0 2) := tv.1 2 (by omega)
  unfold f_X7_mark f_X8_mark
  rw [isM7, isP7, inM8 (c := 5) rs.2.2.1 (by omega), in_at (x := w) 0 1 0 1 rfl rfl, e2]
  by_cases h : a < 0 ∨ nI (t 0 2) ≤ a
  · exact ⟨-1, by simp [h], by simp [h]⟩
  · by_cases h2 : w < 0 ∨ 1 < w
    · exact ⟨-1, by simp [h, h2], by simp [h, h2]⟩
    · rcases ix_cases a (n := t 0 2) (by omega) with q | ⟨m, hm, rfl⟩
      · exact absurd q h
      have a1 := tv.2.2.1 m hm
      have a2 := rs.2.2.2.2.2.2.2.1 m hm
      have a3 := rp.2.1 m hm
      by_cases hw : w = 0
      · refine ⟨nI (t 4 m), ?_, ?_⟩
        · simp [h, h2, hw, at_n (σ := σ) (r := 6) (N := 3) rfl (show m < 3 by omega) (by omega), a1.1]
        · simp [h, h2, hw, inB_n (show m < 3 by omega) (by omega), nI_clamp (show m < 2 ^ 31 by omega), a2]
      · refine ⟨nI (t 5 m), ?_, ?_⟩
        · simp [h, h2, hw, at_n (σ := σ) (r := 7) (N := 3) rfl (show m < 3 by omega) (by omega), a1.2]
        · have e3 : (3 : Int32) + nI m = nI (3 + m) := nI_add 3 m
          simp only [Nat.zero_add] at a3
          simp [h, h2, hw, e3, inB_n (show 3 + m < 90 by omega) (by omega), nI_clamp (show 3 + m < 2 ^ 31 by omega), a3]
theorem q_town {σ : ZI} (I : Inv σ) (a w : Int32) : ∃ r, f_X7_town σ a w = some r ∧ f_X8_town σ a w = some r := by
  obtain ⟨t, ⟨k, tv, rp, rs⟩, -⟩ := I
  have k1 := k.1
  have e2 : σ 2 3 = nI (t 0 3) := tv.1 3 (by omega)
  unfold f_X7_town f_X8_town
  rw [isT7, isP7, inM8 (c := 7) rs.2.2.2.1 (by omega), in_at (x := w) 0 1 0 1 rfl rfl, e2]
  by_cases h : a < 0 ∨ nI (t 0 3) ≤ a
  · exact ⟨-1, by simp [h], by simp [h]⟩
  · by_cases h2 : w < 0 ∨ 1 < w
    · exact ⟨-1, by simp [h, h2], by simp [h, h2]⟩
    · rcases ix_cases a (n := t 0 3) (by omega) with q | ⟨m, hm, rfl⟩
      · exact absurd q h
      have a1 := tv.2.2.2 m hm
      have a2 := rs.2.2.2.2.2.2.2.2 m hm
      have a3 := rp.2.2.1 m hm
      by_cases hw : w = 0
      · refine ⟨nI (t 6 m), ?_, ?_⟩
        · simp [h, h2, hw, at_n (σ := σ) (r := 8) (N := 5) rfl (show m < 5 by omega) (by omega), a1.1]
        · have e3 : (6 : Int32) + nI m = nI (6 + m) := nI_add 6 m
          simp only [Nat.zero_add] at a3
          simp [h, h2, hw, e3, inB_n (show 6 + m < 90 by omega) (by omega), nI_clamp (show 6 + m < 2 ^ 31 by omega), a3]
      · refine ⟨nI (t 7 m), ?_, ?_⟩
        · simp [h, h2, hw, at_n (σ := σ) (r := 9) (N := 5) rfl (show m < 5 by omega) (by omega), a1.2]
        · simp [h, h2, hw, inB_n (show m < 5 by omega) (by omega), nI_clamp (show m < 2 ^ 31 by omega), a2]
