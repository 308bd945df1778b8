/-! arm: how an arm holds -/
def hN (k p : Nat) : Nat := 10 - p / 2 - (if k = 1 ∨ k = 4 then (if 5 ≤ p then 3 else 0) else 0) - (if k = 2 ∨ k = 3 then p / 3 else 0) - (if k = 3 ∨ k = 4 then 1 else 0)
theorem hN_le (k p : Nat) : hN k p ≤ 10 := by unfold hN; omega
theorem ho7 {σ : ZI} {b k p : Nat} {a : Int32} (h0 : ar b = (11, 0)) (h1 : f_X7_at σ (b + 2) a = some (nI k)) (hk : k ≤ 4) (hp : p ≤ 9) : f_X6_holdsOf σ b a (nI p) = some (nI (hN k p)) := by
  unfold f_X6_holdsOf
  rw [h0, if_pos rfl, h1]
  clear h0 h1
  have e1 : k = 0 ∨ k = 1 ∨ k = 2 ∨ k = 3 ∨ k = 4 := by omega
  have e2 : p = 0 ∨ p = 1 ∨ p = 2 ∨ p = 3 ∨ p = 4 ∨ p = 5 ∨ p = 6 ∨ p = 7 ∨ p = 8 ∨ p = 9 := by omega
  rcases e1 with rfl | rfl | rfl | rfl | rfl <;> rcases e2 with rfl | rfl | rfl | rfl | rfl | rfl | rfl | rfl | rfl | rfl <;> rfl
theorem ho8 {σ : ZI} {i k p : Nat} (h1 : σ 61 i = nI k) (h2 : σ 61 14 + 5 = nI p) (hi : i < 90) (hk : k ≤ 4) (hp : p ≤ 9) : f_X8_holdsOf σ (nI i) = some (nI (hN k p)) := by
  unfold f_X8_holdsOf f_X8_holdsOf_27 f_X8_pace
  rw [inB_n hi (by omega), if_pos rfl, nI_clamp (by omega), h1, h2]
  clear h1 h2
  have e1 : k = 0 ∨ k = 1 ∨ k = 2 ∨ k = 3 ∨ k = 4 := by omega
  have e2 : p = 0 ∨ p = 1 ∨ p = 2 ∨ p = 3 ∨ p = 4 ∨ p = 5 ∨ p = 6 ∨ p = 7 ∨ p = 8 ∨ p = 9 := by omega
  rcases e1 with rfl | rfl | rfl | rfl | rfl <;> rcases e2 with rfl | rfl | rfl | rfl | rfl | rfl | rfl | rfl | rfl | rfl <;> rfl
theorem q_arm {σ : ZI} (I : Inv σ) (a w : Int32) : ∃ r, f_X7_arm σ a w = some r ∧ f_X8_arm σ a w = some r := by
  obtain ⟨t, ⟨kk, tv, rp, rs⟩, -⟩ := I
  have k1 := kk.1
  have e7 : σ 2 1 = nI (t 0 1) := tv.1 1 (by omega)
  have e8 : σ 60 3 = nI (t 0 1) := rs.2.1
  unfold f_X7_arm f_X8_arm
  rw [isA7, e7, isA8 e8 (by omega)]
  rcases ix_cases a (n := t 0 1) (by omega) with h | ⟨m, hm, rfl⟩
  · exact ⟨-1, by rw [if_pos h]; rfl, by rw [if_pos h]; rfl⟩
  rw [if_neg (ix_no hm (by omega))]
  have a1 := tv.2.1 m hm
  have a2 := rs.2.2.2.2.2.2.1 m hm
  have a3 := rp.1 m hm
  have a4 := kk.2.1 m hm
  rw [Nat.zero_add] at a3
  have f1 := pk_mul 2 m
  by_cases w0 : w = 0
  · subst w0
    refine ⟨nI (t 1 m), ?_, ?_⟩
    · show ((f_X7_at σ 3 (nI m)).bind fun q2 => some q2) = _
      rw [at_n (N := 3) rfl (by omega) (by omega), show σ 3 m = _ from a1.1]; rfl
    · show (if inB (nI m) 90 = true then (some (σ 61 (nI m).toNatClampNeg)) else none) = _
      rw [inB_n (by omega) (by omega), if_pos rfl, nI_clamp (by omega), a3]
  by_cases w1 : w = 1
  · subst w1
    refine ⟨nI (t 2 m), ?_, ?_⟩
    · show ((f_X7_at σ 4 (nI m)).bind fun q2 => some q2) = _
      rw [at_n (N := 3) rfl (by omega) (by omega), show σ 4 m = _ from a1.2.1]; rfl
    · show (if inB (((nI 2 * nI m) + nI 1) - 1) 6 = true then (some (σ 62 (((nI 2 * nI m) + nI 1) - 1).toNatClampNeg)) else none) = _
      rw [f1, nI_add, nI_pred, inB_n (by omega) (by omega), if_pos rfl, nI_clamp (by omega), a2.1]
  by_cases w2 : w = 2
  · subst w2
    refine ⟨nI (t 3 m), ?_, ?_⟩
    · show ((f_X7_at σ 5 (nI m)).bind fun q2 => some q2) = _
      rw [at_n (N := 3) rfl (by omega) (by omega), show σ 5 m = _ from a1.2.2]; rfl
    · show (if inB (((nI 2 * nI m) + nI 2) - 1) 6 = true then (some (σ 62 (((nI 2 * nI m) + nI 2) - 1).toNatClampNeg)) else none) = _
      rw [f1, nI_add, show 2 * m + 2 = 2 * m + 1 + 1 from rfl, nI_pred, inB_n (by omega) (by omega), if_pos rfl, nI_clamp (by omega), a2.2]
  by_cases w3 : w = 3
  · subst w3
    refine ⟨nI (hN (t 1 m) (t 0 7)), ?_, ?_⟩
    · show ((f_X6_value σ 1 7).bind fun q5 => (f_X6_holdsOf σ 1 (nI m) q5).bind fun q6 => some q6) = _
      rw [v1_7, show σ 2 7 = _ from tv.1 7 (by omega)]
      show ((f_X6_holdsOf σ 1 (nI m) (nI (t 0 7))).bind fun q6 => some q6) = _
      rw [ho7 rfl (by rw [at_n (N := 3) rfl (by omega) (by omega), show σ 3 m = _ from a1.1]) (by omega) (by omega)]
      rfl
    · show ((f_X8_holdsOf σ (nI m)).bind fun q2 => some q2) = _
      rw [ho8 a3 (by rw [show σ 61 14 = _ from rp.2.2.2.2.2.2.1]; exact Int32.sub_add_cancel _ _) (by omega) (by omega) (by omega)]
      rfl
  · refine ⟨-1, ?_, ?_⟩
    · show ((if w = 0 then _ else _) : Option Int32) = _
      rw [if_neg w0, if_neg w1, if_neg w2, if_neg w3]
    · show ((if w = 0 then _ else _) : Option Int32) = _
      rw [if_neg w0, if_neg w1, if_neg w2, if_neg w3]
