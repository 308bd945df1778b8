/-! a line of an arm *-/
theorem TD_A {D : NN} {k j g : Nat} (h : TD D) (h3 : D 0 1 < 3) (hk4 : k ≤ 4) (h1 : 1 ≤ j) (hj : j ≤ 10) (hg : g ≤ 9) (hn : ∀ i, i < D 0 1 → D 2 i ≠ j) : TD (DA D k j g) := by
  obtain ⟨k1, k2, k3, k4, k5, k6⟩ := h
  refine ⟨?_, fun i hi => ?_, fun i m hi hm => ?_, k4, k5, k6⟩
  · have e : DA D k j g 0 1 = D 0 1 + 1 := rfl
    have e0 : DA D k j g 0 0 = D 0 0 ∧ DA D k j g 0 2 = D 0 2 ∧ DA D k j g 0 3 = D 0 3 ∧ DA D k j g 0 4 = D 0 4 ∧ DA D k j g 0 5 = D 0 5 ∧ DA D k j g 0 6 = D 0 6 ∧ DA D k j g 0 7 = D 0 7 ∧ DA D k j g 0 8 = D 0 8 ∧ DA D k j g 0 9 = D 0 9 ∧ DA D k j g 0 10 = D 0 10 ∧ DA D k j g 0 11 = D 0 11 ∧ DA D k j g 0 12 = D 0 12 := ⟨rfl, rfl, rfl, rfl, rfl, rfl, rfl, rfl, rfl, rfl, rfl, rfl⟩
    omega
  · have hi' : i < D 0 1 + 1 := hi
    rw [(DA_v D k j g i).2.1, (DA_v D k j g i).2.2.1, (DA_v D k j g i).2.2.2.1]
    by_cases z : i = D 0 1
    · rw [if_pos z, if_pos z, if_pos z]; exact ⟨hk4, h1, hj, hg⟩
    · rw [if_neg z, if_neg z, if_neg z]; exact k2 i (by omega)
  · have hi' : i < D 0 1 + 1 := hi
    have hm' : m < D 0 1 + 1 := hm
    rw [(DA_v D k j g i).2.2.1, (DA_v D k j g m).2.2.1]
    by_cases z : i = D 0 1
    · by_cases w : m = D 0 1
      · intro _; omega
      · rw [if_pos z, if_neg w]; exact fun q => absurd q.symm (hn m (by omega))
    · by_cases w : m = D 0 1
      · rw [if_neg z, if_pos w]; exact fun q => absurd q (hn i (by omega))
      · rw [if_neg z, if_neg w]; exact k3 i m (by omega) (by omega)
theorem LK_A {D : NN} {AT MT HJ k j g : Nat} (h1 : 1 ≤ j) (hj : j ≤ 10) (h : LK D AT MT HJ) : LK (DA D k j g) (AT ||| 2 ^ (j - 1)) MT (max HJ j) := by
  obtain ⟨h1', h2, h3, h4, h5, h6⟩ := h
  refine ⟨or_lt h1' h1 hj, h2, by omega, fun m hm => ?_, h5, fun J => ?_⟩
  · rw [or_b h1, h4 m hm]
    constructor
    · rintro (⟨i, i1, i2⟩ | w)
      · exact ⟨i, (by omega : i < D 0 1 + 1), by rw [(DA_v D k j g i).2.2.1, if_neg (by omega)]; exact i2⟩
      · exact ⟨D 0 1, (by omega : D 0 1 < D 0 1 + 1), by rw [(DA_v D k j g _).2.2.1, if_pos rfl]; exact w.symm⟩
    · rintro ⟨i, i1, i2⟩
      have i1' : i < D 0 1 + 1 := i1
      rw [(DA_v D k j g i).2.2.1] at i2
      by_cases z : i = D 0 1
      · rw [if_pos z] at i2; exact .inr i2.symm
      · rw [if_neg z] at i2; exact .inl ⟨i, by omega, i2⟩
  · have := h6 J
    constructor
    · intro q
      obtain ⟨a1, a2, a3, a4⟩ := this.1 (by omega)
      refine ⟨a1, fun i hi => ?_, a3, a4⟩
      have hi' : i < D 0 1 + 1 := hi
      rw [(DA_v D k j g i).2.2.1]
      by_cases z : i = D 0 1
      · rw [if_pos z]; omega
      · rw [if_neg z]; exact a2 i (by omega)
    · rintro ⟨a1, a2, a3, a4⟩
      have l1 := this.2 ⟨a1, fun i hi => by
        have := a2 i (by omega : i < D 0 1 + 1)
        rw [(DA_v D k j g i).2.2.1, if_neg (by omega)] at this
        exact this, a3, a4⟩
      have l2 := a2 (D 0 1) (by omega : D 0 1 < D 0 1 + 1)
      rw [(DA_v D k j g _).2.2.1, if_pos rfl] at l2
      omega
theorem TV_A {D : NN} {k j g : Nat} {σ : ZI} (q : TV 28 D σ) (x0 : σ 30 (D 0 1) = nI k) (x1 : σ 31 (D 0 1) = nI j) (x2 : σ 32 (D 0 1) = nI g) : TV 28 (DA D k j g) (va_up σ 29 (upd (σ 29) 1 (nI (D 0 1 + 1)))) := by
  obtain ⟨q1, q2, q3, q4⟩ := q
  have gA : ∀ C P, (C ≠ 29 ∨ P ≠ 1) → va_up σ 29 (upd (σ 29) 1 (nI (D 0 1 + 1))) C P = σ C P := fun C P z => up_ne σ z
  refine ⟨fun i hi => ?_, fun i hi => ?_, fun i hi => ?_, fun i hi => ?_⟩
  · rw [(DA_v D k j g i).1]
    by_cases z : i = 1
    · subst z; rw [if_pos rfl]; exact up_same _ _ _ _
    · rw [if_neg z]; exact (gA _ _ (.inr z)).trans (q1 i hi)
  · have hi' : i < D 0 1 + 1 := hi
    rw [(DA_v D k j g i).2.1, (DA_v D k j g i).2.2.1, (DA_v D k j g i).2.2.2.1, gA _ _ (.inl (by decide)), gA _ _ (.inl (by decide)), gA _ _ (.inl (by decide))]
    by_cases z : i = D 0 1
    · rw [if_pos z, if_pos z, if_pos z, z]; exact ⟨x0, x1, x2⟩
    · rw [if_neg z, if_neg z, if_neg z]; exact q2 i (by omega)
  · have := q3 i hi
    exact ⟨(gA _ _ (.inl (by decide))).trans this.1, (gA _ _ (.inl (by decide))).trans this.2⟩
  · have := q4 i hi
    exact ⟨(gA _ _ (.inl (by decide))).trans this.1, (gA _ _ (.inl (by decide))).trans this.2⟩
theorem two_n {M : Nat} (h : M < 3) : (2 : Int32) * nI M = nI (2 * M) := by
  have : M = 0 ∨ M = 1 ∨ M = 2 := by omega
  rcases this with rfl | rfl | rfl <;> rfl
/-- the reference behind the joint of an arm -/
def amR (s : ZI) (w : Int32) : Option ZI := if inB (2 * s 60 15) 6 = true then lt_ (va_up s 67 (upd (s 67) (2 * s 60 15).toNatClampNeg w)) (fun σ19 => (f_X8_number σ19 0 9).bind fun q20 => if inB (2 * σ19 60 15 + 1) 6 = true then lt_ (va_up q20.2 67 (upd (q20.2 67) (2 * σ19 60 15 + 1).toNatClampNeg q20.1)) (fun σ21 => lt_ (va_up σ21 60 (upd (σ21 60) 15 ((σ21 60 15) + 1))) some) else none) else none
theorem amR_e {s : ZI} {M : Nat} (hM : M < 3) (e : s 60 15 = nI M) (w : Int32) : amR s w = (f_X8_number (va_up s 67 (upd (s 67) (2 * M) w)) 0 9).bind fun q5 => lt_ (va_up q5.2 67 (upd (q5.2 67) (2 * M + 1) q5.1)) (fun σ6 => lt_ (va_up σ6 60 (upd (σ6 60) 15 ((σ6 60 15) + 1))) some) := by
  unfold amR
  have e2 : va_up s 67 (upd (s 67) (2 * M) w) 60 15 = nI M := (up_ne s (.inl (by decide))).trans e
  rw [e, two_n hM, inB_n (by omega) (by omega), if_pos rfl, nI_clamp (by omega), ltq, e2, two_n hM, nI_1, inB_n (by omega) (by omega), nI_clamp (by omega)]
  simp only [if_true]
theorem amR_b {s : ZI} {M f q : Nat} (hf : 1 ≤ f) (hf2 : f < 10) (hM : M < 3) (e : s 60 15 = nI M) (h : BR f q s) (w : Int32) : ∃ σ', amR s w = some σ' ∧ Sg s σ' ∧ BR f q σ' := by
  rw [amR_e hM e, num8_b hf hf2 (BR_up (.inl (by decide)) h), bso, ltq, ltq]
  exact ⟨_, rfl, up_sg (up_sg (up_sg (Dw_refl 0 s) (own_6 _ (by decide) (by decide))) (own_6 _ (by decide) (by decide))) rfl, BR_up (.inr (by decide)) (BR_up (.inl (by decide)) (BR_up (.inl (by decide)) h))⟩
theorem amR_n {n : Nat} {b : Nat → Nat} {p k j : Nat} {D : NN} {AT MT HJ : Nat} {s : ZI} (h : RSb n b D AT MT HJ s) (h0 : s 66 (D 0 1) = nI k) (hp : p ≤ n) (y : RY n b p s) (tD : TD D) (h3 : D 0 1 < 3) : (nf n b p 0 9 ≠ 0 → ∃ σ', amR s (nI j) = some σ' ∧ Sg s σ' ∧ BR (nf n b p 0 9) (hd n b p) σ') ∧ (nf n b p 0 9 = 0 → ∃ σ', amR s (nI j) = some σ' ∧ Sg s σ' ∧ RSb n b (DA D k j (VV n b p)) AT MT HJ σ' ∧ RY n b (en n b p) σ' ∧ σ' 60 18 = s 60 18) := by
  have tb := TD_TB tD
  have e : s 60 15 = nI (D 0 1) := h.2.2.2.1.2.1
  have r1 : RSb n b D AT MT HJ (va_up s 67 (upd (s 67) (2 * D 0 1) (nI j))) := RSb_out (.inr (.inr (.inr (.inl ⟨rfl, Nat.le_refl _⟩)))) tb h
  have y1 : RY n b p (va_up s 67 (upd (s 67) (2 * D 0 1) (nI j))) := RY_up (.inl (by decide)) y
  have s0 : Sg s (va_up s 67 (upd (s 67) (2 * D 0 1) (nI j))) := up_sg (Dw_refl 0 s) (own_6 _ (by decide) (by decide))
  obtain ⟨t1, t2⟩ := num8 (lo := 0) (hi := 9) r1.1 hp y1 (by omega) (by omega)
  refine ⟨fun z => ?_, fun z => ?_⟩
  · obtain ⟨s1, x1, x2, x3⟩ := t1 z
    rw [amR_e h3 e, show f_X8_number _ 0 9 = _ from x1, bso, ltq, ltq]
    exact ⟨_, rfl, Dw_tr s0 (up_sg (up_sg (FrJ_sg (Fr8_J x2)) (own_6 _ (by decide) (by decide))) rfl), BR_up (.inr (by decide)) (BR_up (.inl (by decide)) x3)⟩
  · obtain ⟨s1, x1, x2, x3⟩ := t2 z
    have r2 := RSb_fr x2 r1
    have r3 : RSb n b D AT MT HJ (va_up s1 67 (upd (s1 67) (2 * D 0 1 + 1) (nI (VV n b p)))) := RSb_out (.inr (.inr (.inr (.inl ⟨rfl, by omega⟩)))) tb r2
    have e2 : va_up s1 67 (upd (s1 67) (2 * D 0 1 + 1) (nI (VV n b p))) 60 15 = nI (D 0 1) := r3.2.2.2.1.2.1
    rw [amR_e h3 e, show f_X8_number _ 0 9 = _ from x1, bso, ltq, ltq, e2, nI_1]
    refine ⟨_, rfl, Dw_tr s0 (up_sg (up_sg (FrJ_sg (Fr8_J x2)) (own_6 _ (by decide) (by decide))) rfl), RSb_A1 tb r3 ?_ ?_ (up_same _ _ _ _), RY_up (.inr (by decide)) (RY_up (.inl (by decide)) x3), ?_⟩
    · exact (up_ne s1 (.inl (by decide))).trans ((x2 _ _ (by omega)).trans ((up_ne _ (.inl (by decide))).trans h0))
    · exact (up_ne s1 (.inr (by omega))).trans ((x2 _ _ (by omega)).trans (up_same _ _ _ _))
    · exact (up_ne _ (.inr (by decide))).trans ((up_ne _ (.inl (by decide))).trans ((x2 _ _ (by omega)).trans (up_ne _ (.inl (by decide)))))
