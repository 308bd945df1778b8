/-! the end of a text: a joint that is missing; the class *-/
theorem jm75 {D : NN} {σ : ZI} (tD : TD D) (tv : TV 28 D σ) {J : Nat} (hJ : J ≤ 10) : ∀ (d i fu : Nat), i + d = D 0 2 → d < fu → ((∀ m, i ≤ m → m < D 0 2 → D 4 m ≤ J) → f_X2_isJointMissing_75 σ fu (nI J) (nI i) = some 0) ∧ (¬ (∀ m, i ≤ m → m < D 0 2 → D 4 m ≤ J) → f_X2_isJointMissing_75 σ fu (nI J) (nI i) = some 1) := by
  have tb := (TD_TB tD).2.1
  intro d
  induction d with
  | zero =>
    intro i fu h1 h2
    obtain ⟨fu, rfl⟩ : ∃ m, fu = m + 1 := ⟨fu - 1, by omega⟩
    have e : f_X2_isJointMissing_75 σ (fu + 1) (nI J) (nI i) = some 0 := by
      rw [f_X2_isJointMissing_75, v28_2, bso, if_pos (show σ 29 2 ≤ nI i by rw [show σ 29 2 = _ from tv.1 2 (by omega)]; exact nI_le (by omega) (by omega))]
    exact ⟨fun _ => e, fun h => absurd (fun m a c => by omega) h⟩
  | succ d ih =>
    intro i fu h1 h2
    obtain ⟨fu, rfl⟩ : ∃ m, fu = m + 1 := ⟨fu - 1, by omega⟩
    obtain ⟨i1, i2⟩ := ih (i + 1) fu (by omega) (by omega)
    have b4 := tD.2.2.2.1 i (by omega)
    have pre : f_X2_isJointMissing_75 σ (fu + 1) (nI J) (nI i) = if nI (D 4 i) ≤ nI J then f_X2_isJointMissing_75 σ fu (nI J) (nI (i + 1)) else some 1 := by
      rw [f_X2_isJointMissing_75, v28_2, bso, if_neg (show ¬ σ 29 2 ≤ nI i by rw [show σ 29 2 = _ from tv.1 2 (by omega)]; exact nI_ge (by omega) (by omega)), at_n (N := 3) rfl (by omega) (by omega), bso, nI_1]
      simp only [show σ 33 i = _ from (tv.2.2.1 i (by omega)).1]
    rw [pre]
    by_cases z : D 4 i ≤ J
    · rw [if_pos (nI_le z (by omega))]
      refine ⟨fun h => i1 fun m a c => h m (by omega) c, fun h => i2 fun q => h fun m a c => ?_⟩
      by_cases w : m = i
      · subst w; exact z
      · exact q m (by omega) c
    · rw [if_neg (nI_ge (by omega) (by omega))]
      exact ⟨fun h => absurd (h i (Nat.le_refl _) (by omega)) z, fun _ => rfl⟩
theorem jm38 {D : NN} {σ : ZI} (tD : TD D) (tv : TV 28 D σ) {J : Nat} (hJ : J ≤ 10) : ∀ (d i fu : Nat), i + d = D 0 1 → d < fu → ((∀ m, i ≤ m → m < D 0 1 → D 2 m ≤ J) → f_X2_isJointMissing_38 σ fu (nI J) (nI i) = f_X2_isJointMissing_75 σ 3000 (nI J) 0) ∧ (¬ (∀ m, i ≤ m → m < D 0 1 → D 2 m ≤ J) → f_X2_isJointMissing_38 σ fu (nI J) (nI i) = some 1) := by
  have tb := (TD_TB tD).1
  intro d
  induction d with
  | zero =>
    intro i fu h1 h2
    obtain ⟨fu, rfl⟩ : ∃ m, fu = m + 1 := ⟨fu - 1, by omega⟩
    have e : f_X2_isJointMissing_38 σ (fu + 1) (nI J) (nI i) = f_X2_isJointMissing_75 σ 3000 (nI J) 0 := by
      rw [f_X2_isJointMissing_38, v28_1, bso, if_pos (show σ 29 1 ≤ nI i by rw [show σ 29 1 = _ from tv.1 1 (by omega)]; exact nI_le (by omega) (by omega))]
    exact ⟨fun _ => e, fun h => absurd (fun m a c => by omega) h⟩
  | succ d ih =>
    intro i fu h1 h2
    obtain ⟨fu, rfl⟩ : ∃ m, fu = m + 1 := ⟨fu - 1, by omega⟩
    obtain ⟨i1, i2⟩ := ih (i + 1) fu (by omega) (by omega)
    have b4 := tD.2.1 i (by omega)
    have pre : f_X2_isJointMissing_38 σ (fu + 1) (nI J) (nI i) = if nI (D 2 i) ≤ nI J then f_X2_isJointMissing_38 σ fu (nI J) (nI (i + 1)) else some 1 := by
      rw [f_X2_isJointMissing_38, v28_1, bso, if_neg (show ¬ σ 29 1 ≤ nI i by rw [show σ 29 1 = _ from tv.1 1 (by omega)]; exact nI_ge (by omega) (by omega)), at_n (N := 3) rfl (by omega) (by omega), bso, nI_1]
      simp only [show σ 31 i = _ from (tv.2.1 i (by omega)).2.1]
    rw [pre]
    by_cases z : D 2 i ≤ J
    · rw [if_pos (nI_le z (by omega))]
      refine ⟨fun h => i1 fun m a c => h m (by omega) c, fun h => i2 fun q => h fun m a c => ?_⟩
      by_cases w : m = i
      · subst w; exact z
      · exact q m (by omega) c
    · rw [if_neg (nI_ge (by omega) (by omega))]
      exact ⟨fun h => absurd (h i (Nat.le_refl _) (by omega)) z, fun _ => rfl⟩
theorem bits_lt {s J : Nat} (hs : s < 2 ^ 10) : s < 2 ^ J ↔ ∀ j, j < 10 → s.testBit j = true → j + 1 ≤ J := by
  constructor
  · intro h j hj w
    by_cases z : j + 1 ≤ J
    · exact z
    · exfalso
      have : s < 2 ^ j := Nat.lt_of_lt_of_le h (Nat.pow_le_pow_right (by omega) (by omega))
      rw [Nat.testBit_lt_two_pow this] at w
      exact absurd w (by decide)
  · intro h
    apply Nat.lt_pow_two_of_testBit
    intro i hi
    by_cases z : i < 10
    · by_cases w : s.testBit i = true
      · have := h i z w; omega
      · simpa using w
    · exact Nat.testBit_lt_two_pow (Nat.lt_of_lt_of_le hs (Nat.pow_le_pow_right (by omega) (by omega)))
theorem jm7 {D : NN} {AT MT HJ : Nat} {σ : ZI} (tD : TD D) (lk : LK D AT MT HJ) (tv : TV 28 D σ) : (HJ ≤ D 0 0 → f_X2_isJointMissing σ = some 0) ∧ (¬ HJ ≤ D 0 0 → f_X2_isJointMissing σ = some 1) := by
  have k := tD.1
  have h := lk.2.2.2.2.2 (D 0 0)
  have hJ : D 0 0 ≤ 10 := k.2.1
  have hs : D 0 4 < 2 ^ 10 := k.2.2.2.2.2.1
  rw [← bits_lt hs] at h
  have pre : f_X2_isJointMissing σ = if nI (D 0 0) < nI (D 0 5) then some 1 else if nI (D 0 4 / 2 ^ D 0 0) = 0 then f_X2_isJointMissing_38 σ 3000 (nI (D 0 0)) 0 else some 1 := by
    unfold f_X2_isJointMissing
    rw [v28_0, bso, v28_5, bso, v28_4, bso, show σ 29 0 = _ from tv.1 0 (by omega), show σ 29 5 = _ from tv.1 5 (by omega), show σ 29 4 = _ from tv.1 4 (by omega), pk_shrN (by omega) _ (D 0 0) (sm32 (D 0 0) (by omega))]
  rw [pre]
  have dz : nI (D 0 4 / 2 ^ D 0 0) = 0 ↔ D 0 4 < 2 ^ D 0 0 := by
    have l : D 0 4 / 2 ^ D 0 0 ≤ D 0 4 := Nat.div_le_self _ _
    constructor
    · intro q
      have := nI_inj (b := 0) (by omega) (by omega) q
      exact (Nat.div_eq_zero_iff_lt (Nat.two_pow_pos _)).1 this
    · intro q
      rw [Nat.div_eq_of_lt q]; rfl
  obtain ⟨a1, a2⟩ := jm38 tD tv hJ (D 0 1) 0 3000 (by omega) (by omega)
  obtain ⟨c1, c2⟩ := jm75 tD tv hJ (D 0 2) 0 3000 (by omega) (by omega)
  refine ⟨fun z => ?_, fun z => ?_⟩
  · obtain ⟨h1, h2, h3, h4⟩ := h.1 z
    rw [if_neg (nI_nlt h1 (by omega)), if_pos (dz.2 h4), show f_X2_isJointMissing_38 σ 3000 (nI (D 0 0)) 0 = _ from a1 fun m _ c => h2 m c]
    exact c1 fun m _ c => h3 m c
  · by_cases w1 : D 0 5 ≤ D 0 0
    · rw [if_neg (nI_nlt w1 (by omega))]
      by_cases w4 : D 0 4 < 2 ^ D 0 0
      · rw [if_pos (dz.2 w4)]
        by_cases w2 : ∀ m, 0 ≤ m → m < D 0 1 → D 2 m ≤ D 0 0
        · rw [show f_X2_isJointMissing_38 σ 3000 (nI (D 0 0)) 0 = _ from a1 w2]
          exact c2 fun q => z (h.2 ⟨w1, fun m c => w2 m (by omega) c, fun m c => q m (by omega) c, w4⟩)
        · exact a2 w2
      · rw [if_neg (fun q => w4 (dz.1 q))]
    · rw [if_pos (nI_lt (by omega) (by omega))]
/-- the class's end -/
def Fe (σ σ' : ZI) : Prop := ∀ c i, own c i ≠ 0 → ¬ (c = 37 ∧ i = 1) → ¬ (c = 0 ∧ i = 6) → σ' c i = σ c i
theorem ce_x {σ : ZI} {v : Int32} {f : Nat} (hf : 1 ≤ f) (hf2 : f < 10) (h : f_X2_finish σ = some σ) (h3 : σ 39 3 = nI f) : ∃ σ', f_X7_text_32 σ v = some (-10 - σ 39 4, σ') ∧ σ' 37 1 = 0 ∧ σ' 0 6 = nI f ∧ Fe σ σ' := by
  unfold f_X7_text_32
  have e3 : va_up σ 37 (upd (σ 37) 1 0) 39 3 = nI f := (up_ne σ (.inl (by decide))).trans h3
  have n0 : ¬ nI f = 0 := fun q => by have := nI_inj (b := 0) (by omega) (by omega) q; omega
  rw [h, bso, ltq, ltq, e3, up_same, if_neg n0]
  refine ⟨_, rfl, (up_ne _ (.inl (by decide))).trans (up_same _ _ _ _), up_same _ _ _ _, fun c i _ h1 h2 => ?_⟩
  exact (up_ne _ (by omega)).trans (up_ne _ (by omega))
theorem ce_f {σ : ZI} {v : Int32} {f q : Nat} (hf : 1 ≤ f) (hf2 : f < 10) (h : flt f q σ) : ∃ σ', f_X7_text_32 σ v = some (-10 - nI q, σ') ∧ σ' 37 1 = 0 ∧ σ' 0 6 = nI f ∧ Fe σ σ' := by
  have n0 : ¬ σ 39 3 = 0 := fun q => by have := nI_inj (b := 0) (by omega) (by omega) (h.1.symm.trans q); omega
  have := ce_x (v := v) hf hf2 (show f_X2_finish σ = some σ by unfold f_X2_finish; rw [if_neg n0]) h.1
  rw [h.2] at this
  exact this
