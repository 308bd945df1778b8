/-! the reference's end without a fault; how a text begins *-/
theorem TK_ok {D : NN} {AT MT HJ : Nat} (tD : TD D) (lk : LK D AT MT HJ) (hJ : HJ ≤ D 0 0) : TK D := by
  obtain ⟨h1, h2, h3, h4⟩ := (lk.2.2.2.2.2 (D 0 0)).1 hJ
  obtain ⟨k1, k2, k3, k4, k5, k6⟩ := tD
  have h4' := (bits_lt k1.2.2.2.2.2.1).2 h4
  refine ⟨⟨k1.1, k1.2.1, k1.2.2.1, k1.2.2.2.1, k1.2.2.2.2.1, h4', h1, k1.2.2.2.2.2.2.2⟩, fun i hi => ?_, k3, fun i hi => ?_, k5, k6⟩
  · have := k2 i hi
    exact ⟨this.1, this.2.1, h2 i hi, this.2.2.2⟩
  · have := k4 i hi
    exact ⟨this.1, h3 i hi, this.2.2⟩
theorem re_ok {n : Nat} {b : Nat → Nat} {D : NN} {AT MT HJ : Nat} {σ : ZI} {v : Int32} (tD : TD D) (lk : LK D AT MT HJ) (h : RSb n b D AT MT HJ σ) (h25 : σ 60 25 = 0) (hJ : HJ ≤ D 0 0) : ∃ σ', f_X8_text_34 σ v = some (v, σ') ∧ σ' 60 23 = 0 ∧ σ' 60 24 = 0 ∧ σ' 60 41 = 0 ∧ σ' 75 0 = 0 ∧ σ' 75 1 = 0 ∧ RP 0 D σ' ∧ RS D σ' ∧ (∀ c i, own c i ≠ 0 → (own c i ≠ 1 ∨ c ≤ 9) → ¬ (c = 60 ∧ (i = 23 ∨ i = 24 ∨ i = 41)) → ¬ (c = 75 ∧ i ≤ 1) → σ' c i = σ c i) := by
  have tb := TD_TB tD
  obtain ⟨m1, m2, m3⟩ := tb
  obtain ⟨-, -, ⟨b1, b2, b3, b4, b5, b6, b7, b8, b9, b10⟩, ⟨c1, c2, c3, c4, c5, c6⟩, ⟨d1, d2, d3⟩, -, -, e3⟩ := h
  obtain ⟨s0, hs0⟩ : ∃ s, s = va_up (va_up σ 60 (upd (σ 60) 23 0)) 60 (upd (va_up σ 60 (upd (σ 60) 23 0) 60) 24 0) := ⟨_, rfl⟩
  have f0 : ∀ c i, ¬ (c = 60 ∧ (i = 23 ∨ i = 24)) → s0 c i = σ c i := fun c i z => by
    rw [hs0, up_ne _ (by omega), up_ne _ (by omega)]
  obtain ⟨w, x1, x2, x3, x4, x5, x6, x7⟩ := t88 v 18 0 3000 s0 (by omega) (by omega)
  obtain ⟨a1, h1⟩ : ∃ s, s = va_up w 60 (upd (w 60) 1 (w 60 14)) := ⟨_, rfl⟩
  obtain ⟨a2, h2⟩ : ∃ s, s = va_up a1 60 (upd (a1 60) 3 (a1 60 15)) := ⟨_, rfl⟩
  obtain ⟨a3, h3⟩ : ∃ s, s = va_up a2 60 (upd (a2 60) 5 (a2 60 16)) := ⟨_, rfl⟩
  obtain ⟨a4, h4⟩ : ∃ s, s = va_up a3 60 (upd (a3 60) 7 (a3 60 17)) := ⟨_, rfl⟩
  obtain ⟨a5, h5⟩ : ∃ s, s = va_up a4 60 (upd (a4 60) 41 0) := ⟨_, rfl⟩
  obtain ⟨a6, h6⟩ : ∃ s, s = va_up a5 75 (upd (a5 75) 0 0) := ⟨_, rfl⟩
  obtain ⟨a7, h7⟩ : ∃ s, s = va_up a6 75 (upd (a6 75) 1 0) := ⟨_, rfl⟩
  have fA : ∀ c i, ¬ (c = 60 ∧ (i = 1 ∨ i = 3 ∨ i = 5 ∨ i = 7 ∨ i = 41)) → ¬ (c = 75 ∧ i ≤ 1) → a7 c i = w c i := fun c i z z2 => by
    rw [h7, up_ne _ (by omega), h6, up_ne _ (by omega), h5, up_ne _ (by omega), h4, up_ne _ (by omega), h3, up_ne _ (by omega), h2, up_ne _ (by omega), h1, up_ne _ (by omega)]
  have w60 : ∀ i, i ≠ 23 → i ≠ 24 → w 60 i = σ 60 i := fun i z z2 => (x2 60 i (by omega)).trans (f0 60 i (by omega))
  have v1 : a7 60 1 = σ 60 14 := by
    rw [h7, up_ne _ (.inl (by decide)), h6, up_ne _ (.inl (by decide)), h5, up_ne _ (.inr (by decide)), h4, up_ne _ (.inr (by decide)), h3, up_ne _ (.inr (by decide)), h2, up_ne _ (.inr (by decide)), h1, up_same, w60 _ (by decide) (by decide)]
  have v3 : a7 60 3 = σ 60 15 := by
    rw [h7, up_ne _ (.inl (by decide)), h6, up_ne _ (.inl (by decide)), h5, up_ne _ (.inr (by decide)), h4, up_ne _ (.inr (by decide)), h3, up_ne _ (.inr (by decide)), h2, up_same, h1, up_ne _ (.inr (by decide)), w60 _ (by decide) (by decide)]
  have v5 : a7 60 5 = σ 60 16 := by
    rw [h7, up_ne _ (.inl (by decide)), h6, up_ne _ (.inl (by decide)), h5, up_ne _ (.inr (by decide)), h4, up_ne _ (.inr (by decide)), h3, up_same, h2, up_ne _ (.inr (by decide)), h1, up_ne _ (.inr (by decide)), w60 _ (by decide) (by decide)]
  have v7 : a7 60 7 = σ 60 17 := by
    rw [h7, up_ne _ (.inl (by decide)), h6, up_ne _ (.inl (by decide)), h5, up_ne _ (.inr (by decide)), h4, up_same, h3, up_ne _ (.inr (by decide)), h2, up_ne _ (.inr (by decide)), h1, up_ne _ (.inr (by decide)), w60 _ (by decide) (by decide)]
  have v41 : a7 60 41 = 0 := by
    rw [h7, up_ne _ (.inl (by decide)), h6, up_ne _ (.inl (by decide)), h5, up_same]
  have P : ∀ k, k < 18 → a7 61 (0 + k) = σ 66 k := fun k hk => by
    rw [Nat.zero_add, fA _ _ (by omega) (by omega), (x3 k).1 ⟨by omega, hk⟩, f0 _ _ (by omega)]
  have Q2 : ∀ k, k < 6 → a7 62 k = σ 67 k := fun k hk => by
    rw [fA _ _ (by omega) (by omega), x4 k hk (.inl ⟨k, by omega, by omega, Nat.mod_eq_of_lt hk⟩), f0 _ _ (by omega)]
  have Q3 : ∀ k, k < 3 → a7 63 k = σ 68 k := fun k hk => by
    rw [fA _ _ (by omega) (by omega), x5 k hk (.inl ⟨k, by omega, by omega, Nat.mod_eq_of_lt hk⟩), f0 _ _ (by omega)]
  have Q4 : ∀ k, k < 5 → a7 64 k = σ 69 k := fun k hk => by
    rw [fA _ _ (by omega) (by omega), x6 k hk (.inl ⟨k, by omega, by omega, Nat.mod_eq_of_lt hk⟩), f0 _ _ (by omega)]
  have Q5 : ∀ k, k < 2 → a7 65 k = σ 70 k := fun k hk => by
    rw [fA _ _ (by omega) (by omega), x7 k hk (.inl ⟨k, by omega, by omega, Nat.mod_eq_of_lt hk⟩), f0 _ _ (by omega)]
  refine ⟨a7, ?_, ?_, ?_, v41, ?_, ?_, ⟨fun i hi => (P _ (by omega)).trans (b1 i hi), fun i hi => (P _ (by omega)).trans (b2 i hi), fun i hi => (P _ (by omega)).trans (b3 i hi), (P _ (by omega)).trans b4, (P _ (by omega)).trans b5, (P _ (by omega)).trans b6, (P _ (by omega)).trans b7, (P _ (by omega)).trans b8, (P _ (by omega)).trans b9, (P _ (by omega)).trans b10⟩, ⟨v1.trans c1, v3.trans c2, v5.trans c3, v7.trans c4, (Q5 _ (by omega)).trans c5, (Q5 _ (by omega)).trans c6, fun i hi => ⟨(Q2 _ (by omega)).trans (d1 i hi).1, (Q2 _ (by omega)).trans (d1 i hi).2⟩, fun i hi => (Q3 _ (by omega)).trans (d2 i hi), fun i hi => (Q4 _ (by omega)).trans (d3 i hi)⟩, fun c i o1 o2 z z2 => ?_⟩
  · unfold f_X8_text_34
    rw [if_pos h25, if_pos (show σ 60 21 ≤ σ 60 14 by rw [e3, c1]; exact nI_le hJ (by have := tD.1.2.1; omega))]
    unfold f_X8_text_58
    rw [ltq, ltq, show va_up σ 60 (upd (σ 60) 23 0) 60 25 = 0 from (up_ne σ (.inr (by decide))).trans h25, ← hs0, if_pos (show s0 60 25 ≤ 0 by rw [f0 60 25 (by omega), h25]; decide), show f_X8_text_88 3000 s0 v 0 = _ from x1, f_X8_text_88, if_pos (by decide), ltq, ← h1, ltq, ← h2, ltq, ← h3, ltq, ← h4, ltq, ← h5, ltq, show vp_nar .boolean (0 : Int32) = 0 from rfl, ← h6, ltq, ← h7]
  · rw [fA _ _ (by omega) (by omega), x2 _ _ (by omega), hs0, up_ne _ (.inr (by decide)), up_same]
  · rw [fA _ _ (by omega) (by omega), x2 _ _ (by omega), hs0, up_same]
  · rw [h7, up_ne _ (.inr (by decide)), h6, up_same]
  · rw [h7, up_same]
  · have o2' : 9 < c → own c i ≠ 1 := fun z => o2.resolve_right (by omega)
    have n1 : ¬ (c = 60 ∧ (i = 1 ∨ i = 3 ∨ i = 5 ∨ i = 7 ∨ i = 41)) := by
      rintro ⟨rfl, rfl | rfl | rfl | rfl | rfl⟩
      · exact o2' (by decide) rfl
      · exact o2' (by decide) rfl
      · exact o2' (by decide) rfl
      · exact o2' (by decide) rfl
      · exact z ⟨rfl, by omega⟩
    have n2 : c = 61 ∨ c < 61 ∨ 65 < c := by
      by_cases q : 62 ≤ c ∧ c ≤ 65
      · exact absurd (own_s i q.1 q.2) (o2' (by omega))
      · omega
    rw [fA _ _ n1 z2]
    rcases n2 with n2 | n2
    · subst n2
      have : 18 ≤ i := by
        by_cases q : i < 18
        · exact absurd (own_p q) (o2' (by decide))
        · omega
      rw [(x3 i).2 (by omega), f0 _ _ (by omega)]
    · rw [x2 c i n2, f0 _ _ (by omega)]
/-- what is told when nothing is -/
def defL : List Nat := [6, 0, 0, 0, 0, 0, 1, 5, 2, 4, 1, 5, 3]
def D0 : NN := fun r i => if r = 0 then defL.getD i 0 else 0
theorem TD_0 : TD D0 := ⟨by decide, fun i hi => absurd hi (Nat.not_lt_zero i), fun i k hi => absurd hi (Nat.not_lt_zero i), fun i hi => absurd hi (Nat.not_lt_zero i), fun i k hi => absurd hi (Nat.not_lt_zero i), fun i hi => absurd hi (Nat.not_lt_zero i)⟩
theorem LK_0 : LK D0 0 0 0 := by
  refine ⟨by decide, by decide, by decide, fun j _ => ⟨fun h => ?_, fun h => ?_⟩, fun j _ => ⟨fun h => ?_, fun h => ?_⟩, fun J => ⟨fun _ => ⟨Nat.zero_le J, fun i hi => absurd hi (Nat.not_lt_zero i), fun i hi => absurd hi (Nat.not_lt_zero i), fun j _ h => ?_⟩, fun _ => Nat.zero_le J⟩⟩
  · rw [Nat.zero_testBit] at h; exact absurd h (by decide)
  · obtain ⟨i, hi, -⟩ := h; exact absurd hi (Nat.not_lt_zero i)
  · rw [Nat.zero_testBit] at h; exact absurd h (by decide)
  · obtain ⟨i, hi, -⟩ := h; exact absurd hi (Nat.not_lt_zero i)
  · rw [show D0 0 4 = 0 from rfl, Nat.zero_testBit] at h; exact absurd h (by decide)
theorem TU_0 : TU D0 0 0 := ⟨by decide, by decide, fun k _ _ => by rw [Nat.zero_testBit, Nat.zero_testBit], fun _ => rfl⟩
theorem st_d : ∀ i, i < 13 → (stL 100).getD i 0 = nI (D0 0 i) := by decide
theorem cs0 {n : Nat} {b : Nat → Nat} {σ : ZI} (h : Tp7 n b σ) : ∃ σ', f_X2_start σ = some σ' ∧ Sg σ σ' ∧ CSl n b 0 D0 0 σ' := by
  obtain ⟨s1, h1⟩ : ∃ s, s = va_up σ 37 (upd (σ 37) 2 0) := ⟨_, rfl⟩
  obtain ⟨s2, h2⟩ : ∃ s, s = va_up s1 29 (va_cpy (fun j => (stL 100).getD j 0) (s1 29) 0 0 13) := ⟨_, rfl⟩
  obtain ⟨s3, h3⟩ : ∃ s, s = va_up s2 39 (upd (s2 39) 2 0) := ⟨_, rfl⟩
  obtain ⟨s4, h4⟩ : ∃ s, s = va_up s3 39 (upd (s3 39) 3 0) := ⟨_, rfl⟩
  have rs : f_X6_restart s1 28 = some s2 := by rw [h2]; rfl
  have f2 : ∀ c i, c ≠ 29 → s2 c i = s1 c i := fun c i z => by rw [h2]; simp [va_up, z]
  have ff : ∀ c i, c ≠ 29 → c ≠ 39 → ¬ (c = 37 ∧ i = 2) → s4 c i = σ c i := fun c i z1 z2 z3 => by
    rw [h4, up_ne _ (.inl z2), h3, up_ne _ (.inl z2), f2 c i z1, h1, up_ne _ (by omega)]
  refine ⟨s4, ?_, fun c i o _ => ?_, ⟨⟨h.1, (ff _ _ (by decide) (by decide) (by omega)).trans h.2.1, fun i hi => ⟨(h.2.2 i hi).1, (ff _ _ (by decide) (by decide) (by omega)).trans (h.2.2 i hi).2⟩⟩, ?_, ?_, fun i hi => ?_, fun i hi => absurd hi (Nat.not_lt_zero i), fun i hi => absurd hi (Nat.not_lt_zero i), fun i hi => absurd hi (Nat.not_lt_zero i)⟩, ?_⟩
  · unfold f_X2_start
    rw [ltq, ← h1, rs, bso, ltq, ← h3, ltq, ← h4]
  · exact ff c i (fun q => by subst q; exact o (own_d i (by omega) (by omega))) (fun q => by subst q; exact o rfl) (fun q => by obtain ⟨rfl, rfl⟩ := q; exact o rfl)
  · rw [h4, up_ne _ (.inl (by decide)), h3, up_ne _ (.inl (by decide)), f2 _ _ (by decide), h1, up_same]; rfl
  · rw [h4, up_same]
  · rw [← st_d i hi, h4, up_ne _ (.inl (by decide)), h3, up_ne _ (.inl (by decide)), h2]
    refine Eq.trans (b := va_cpy (fun j => (stL 100).getD j 0) (s1 29) 0 0 13 i) ?_ (sb_cpy0 hi)
    simp [va_up]
  · rw [h4, up_ne _ (.inr (by decide)), h3, up_same]; rfl
theorem bg67 : ∀ (d i fu : Nat) (σ : ZI), i + d = 18 → d < fu → ∃ σ', f_X8_begins_67 fu σ (nI i) = some σ' ∧ (∀ c k, c ≠ 66 → σ' c k = σ c k) ∧ (∀ k, k < 18 → (i ≤ k → σ' 66 k = 0) ∧ (k < i → σ' 66 k = σ 66 k)) := by
  intro d
  induction d with
  | zero =>
    intro i fu σ h1 h2
    obtain ⟨fu, rfl⟩ : ∃ m, fu = m + 1 := ⟨fu - 1, by omega⟩
    obtain rfl : i = 18 := by omega
    exact ⟨σ, by rw [f_X8_begins_67, if_pos (by decide)], fun _ _ _ => rfl, fun k hk => ⟨fun h => by omega, fun _ => rfl⟩⟩
  | succ d ih =>
    intro i fu σ h1 h2
    obtain ⟨fu, rfl⟩ : ∃ m, fu = m + 1 := ⟨fu - 1, by omega⟩
    obtain ⟨σ', x1, x2, x3⟩ := ih (i + 1) fu (va_up σ 66 (upd (σ 66) i 0)) (by omega) (by omega)
    refine ⟨σ', ?_, fun c k hc => (x2 c k hc).trans (up_ne σ (.inl hc)), fun k hk => ⟨fun h => ?_, fun h => ?_⟩⟩
    · rw [f_X8_begins_67, if_neg (show ¬ (18 : Int32) ≤ nI i from nI_ge (b := 18) (by omega) (by omega)), inB_n (by omega) (by omega), if_pos rfl, nI_clamp (by omega), ltq, nI_1]
      exact x1
    · by_cases z : k = i
      · subst z; rw [(x3 k hk).2 (by omega), up_same]
      · exact (x3 k hk).1 (by omega)
    · rw [(x3 k hk).2 (by omega), up_ne σ (.inr (by omega))]
