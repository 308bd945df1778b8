/-! the end of a text, on both sides *-/
theorem ce_m {n : Nat} {b : Nat → Nat} {D : NN} {AT MT HJ : Nat} {σ : ZI} {v : Int32} (tD : TD D) (lk : LK D AT MT HJ) (tv : TV 28 D σ) (h3 : σ 39 3 = 0) (e37 : σ 37 1 = nI n) (hJ : ¬ HJ ≤ D 0 0) : ∃ σ', f_X7_text_32 σ v = some (-10 - nI n, σ') ∧ σ' 37 1 = 0 ∧ σ' 0 6 = nI 6 ∧ Fe σ σ' := by
  have e : f_X2_finish σ = some (va_up (va_up σ 39 (upd (σ 39) 3 6)) 39 (upd (va_up σ 39 (upd (σ 39) 3 6) 39) 4 (nI n))) := by
    unfold f_X2_finish
    rw [if_pos h3, (jm7 tD lk tv).2 hJ, bso, if_neg (show ¬ (1 : Int32) = 0 by decide), ltq, ltq, show va_up σ 39 (upd (σ 39) 3 6) 37 1 = _ from (up_ne σ (.inl (by decide))).trans e37]
  obtain ⟨s1, hs1⟩ : ∃ s1, s1 = va_up (va_up σ 39 (upd (σ 39) 3 6)) 39 (upd (va_up σ 39 (upd (σ 39) 3 6) 39) 4 (nI n)) := ⟨_, rfl⟩
  rw [← hs1] at e
  have g3 : s1 39 3 = nI 6 := by rw [hs1]; exact (up_ne _ (.inr (by decide))).trans (up_same _ _ _ _)
  have g4 : s1 39 4 = nI n := by rw [hs1]; exact up_same _ _ _ _
  have fin1 : f_X2_finish s1 = some s1 := by
    unfold f_X2_finish
    rw [if_neg (show ¬ s1 39 3 = 0 from fun q => absurd (g3.symm.trans q) (by decide))]
  obtain ⟨σ', x1, x2, x3, x4⟩ := ce_x (v := v) (f := 6) (by omega) (by omega) fin1 g3
  rw [g4] at x1
  refine ⟨σ', ?_, x2, x3, fun c i o h1 h2 => (x4 c i o h1 h2).trans ?_⟩
  · have t1 : f_X7_text_32 σ v = f_X7_text_32 s1 v := by
      unfold f_X7_text_32
      rw [e, fin1]
    rw [t1, x1]
  · rw [hs1]
    have c39 : c ≠ 39 := by
      intro q; subst q; exact o rfl
    exact (up_ne _ (.inl c39)).trans (up_ne _ (.inl c39))
theorem ce_ok {n : Nat} {b : Nat → Nat} {D : NN} {AT MT HJ : Nat} {σ : ZI} {v : Int32} (tD : TD D) (lk : LK D AT MT HJ) (tv : TV 28 D σ) (h3 : σ 39 3 = 0) (hJ : HJ ≤ D 0 0) : ∃ σ', f_X7_text_32 σ v = some (v, σ') ∧ σ' 37 1 = 0 ∧ σ' 0 6 = 0 ∧ σ' 0 3 = 0 ∧ σ' 51 2 = 0 ∧ TV 1 D σ' ∧ (∀ c i, own c i ≠ 0 → own c i ≠ 1 → ¬ (c = 37 ∧ i = 1) → ¬ (c = 0 ∧ i = 6) → ¬ (c = 0 ∧ i = 3) → ¬ (c = 51 ∧ i = 2) → σ' c i = σ c i) := by
  have fin1 : f_X2_finish σ = some σ := by
    unfold f_X2_finish
    rw [if_pos h3, (jm7 tD lk tv).1 hJ, bso, if_pos rfl]
  obtain ⟨s1, hs1⟩ : ∃ s1, s1 = va_up (va_up σ 37 (upd (σ 37) 1 0)) 0 (upd (va_up σ 37 (upd (σ 37) 1 0) 0) 6 0) := ⟨_, rfl⟩
  obtain ⟨s2, x1, x2, x3⟩ := take_n s1 (b := 1) (b1 := 28) (.inr ⟨rfl, .inr (.inr rfl)⟩)
  have e3 : va_up σ 37 (upd (σ 37) 1 0) 39 3 = 0 := (up_ne σ (.inl (by decide))).trans h3
  have tv1 : TV 28 D s1 := by
    rw [hs1]
    exact TV_fr (fun r i _ _ => (up_ne _ (.inl (by omega))).trans (up_ne _ (.inl (by omega)))) tv
  refine ⟨va_up (va_up s2 51 (upd (s2 51) 2 0)) 0 (upd (va_up s2 51 (upd (s2 51) 2 0) 0) 3 0), ?_, ?_, ?_, up_same _ _ _ _, ?_, ?_, fun c i o1 o2 n1 n2 n3 n4 => ?_⟩
  · unfold f_X7_text_32
    rw [fin1, bso, ltq, ltq, e3, up_same, if_pos rfl, ← hs1, x1, bso, ltq, ltq]
  · refine (up_ne _ (.inl (by decide))).trans ((up_ne _ (.inl (by decide))).trans ((x3 _ _ (by omega)).trans ?_))
    rw [hs1]; exact (up_ne _ (.inl (by decide))).trans (up_same _ _ _ _)
  · refine (up_ne _ (.inr (by decide))).trans ((up_ne _ (.inl (by decide))).trans ((x3 _ _ (by omega)).trans ?_))
    rw [hs1]; exact up_same _ _ _ _
  · exact (up_ne _ (.inl (by decide))).trans (up_same _ _ _ _)
  · exact TV_fr (fun r i _ _ => (up_ne _ (.inl (by omega))).trans (up_ne _ (.inl (by omega)))) (TV_cp (TD_TB tD) x2 tv1)
  · have c9 : c = 0 ∨ 9 < c := by
      by_cases z : c = 0 ∨ 9 < c
      · exact z
      · exact absurd (own_1 i (by omega) (by omega)) o2
    refine (up_ne _ (by omega)).trans ((up_ne _ (by omega)).trans ((x3 _ _ (by omega)).trans ?_))
    rw [hs1]; exact (up_ne _ (by omega)).trans (up_ne _ (by omega))
/-- the reference's end, with a fault -/
def Fr_ (σ σ' : ZI) : Prop := ∀ c i, own c i ≠ 0 → ¬ (c = 60 ∧ (i = 23 ∨ i = 24)) → σ' c i = σ c i
theorem re_f {σ : ZI} {v : Int32} {f q : Nat} (hf : 1 ≤ f) (hf2 : f < 10) (h : BR f q σ) : ∃ σ', f_X8_text_34 σ v = some (-10 - nI q, σ') ∧ σ' 60 23 = 0 ∧ σ' 60 24 = nI f ∧ Fr_ σ σ' := by
  have n0 : ¬ σ 60 25 = 0 := fun z => by have := nI_inj (b := 0) (by omega) (by omega) (h.1.symm.trans z); omega
  have e25 : va_up σ 60 (upd (σ 60) 23 0) 60 25 = nI f := (up_ne σ (.inr (by decide))).trans h.1
  unfold f_X8_text_34
  rw [if_neg n0]
  unfold f_X8_text_58
  rw [ltq, ltq, e25]
  have e25' : va_up (va_up σ 60 (upd (σ 60) 23 0)) 60 (upd (va_up σ 60 (upd (σ 60) 23 0) 60) 24 (nI f)) 60 25 = nI f := (up_ne _ (.inr (by decide))).trans e25
  have e26 : va_up (va_up σ 60 (upd (σ 60) 23 0)) 60 (upd (va_up σ 60 (upd (σ 60) 23 0) 60) 24 (nI f)) 60 26 = nI q := (up_ne _ (.inr (by decide))).trans ((up_ne _ (.inr (by decide))).trans h.2)
  rw [e25', if_neg (show ¬ nI f ≤ (0 : Int32) from nI_ge (show 0 < f by omega) (by omega)), e26]
  exact ⟨_, rfl, (up_ne _ (.inr (by decide))).trans (up_same _ _ _ _), up_same _ _ _ _, fun c i _ hc => (up_ne _ (by omega)).trans (up_ne _ (by omega))⟩
theorem re_m {σ : ZI} {v : Int32} {n HJ J : Nat} (hJ2 : HJ ≤ 10) (h25 : σ 60 25 = 0) (h28 : σ 60 28 = nI n) (h21 : σ 60 21 = nI HJ) (h14 : σ 60 14 = nI J) (hJ : ¬ HJ ≤ J) : ∃ σ', f_X8_text_34 σ v = some (-10 - nI n, σ') ∧ σ' 60 23 = 0 ∧ σ' 60 24 = nI 6 ∧ Fr_ σ σ' := by
  obtain ⟨s1, x1, x2, x3⟩ := fail8 6 h25 h28
  obtain ⟨s2, y1, y2, y3, y4⟩ := re_f (v := v) (f := 6) (by omega) (by omega) x3
  refine ⟨s2, ?_, y2, y3, fun c i o hc => (y4 c i o hc).trans (FrJ_sg (Fr8_J x2) c i o o)⟩
  have n0 : ¬ s1 60 25 = 0 := fun z => absurd (x3.1.symm.trans z) (by decide)
  have t1 : f_X8_text_34 s1 v = f_X8_text_58 s1 v := by unfold f_X8_text_34; rw [if_neg n0]
  unfold f_X8_text_34
  rw [if_pos h25, if_neg (show ¬ σ 60 21 ≤ σ 60 14 by rw [h21, h14]; exact nI_ge (by omega) (by omega)), show f_X8_fails σ 6 = _ from x1, bso, ← t1]
  exact y1
/-- the reference's copy -/
theorem put_c {σ : ZI} {c k i : Nat} {v w : Int32} (h : k = i → v = w) (h2 : k ≠ i → σ c k = w) : va_up σ c (upd (σ c) i v) c k = w := by
  by_cases z : k = i
  · subst z; rw [up_same]; exact h rfl
  · rw [up_ne σ (.inr z)]; exact h2 z
theorem t88 (m : Int32) : ∀ (d i fu : Nat) (σ : ZI), i + d = 18 → d < fu → ∃ σ', f_X8_text_88 fu σ m (nI i) = f_X8_text_88 1 σ' m (nI 18) ∧ (∀ c k, (c < 61 ∨ 65 < c) → σ' c k = σ c k) ∧ (∀ k, (i ≤ k ∧ k < 18 → σ' 61 k = σ 66 k) ∧ (k < i ∨ 18 ≤ k → σ' 61 k = σ 61 k)) ∧
    (∀ k, k < 6 → (∃ j, i ≤ j ∧ j < 18 ∧ j % 6 = k) ∨ σ 62 k = σ 67 k → σ' 62 k = σ 67 k) ∧ (∀ k, k < 3 → (∃ j, i ≤ j ∧ j < 18 ∧ j % 3 = k) ∨ σ 63 k = σ 68 k → σ' 63 k = σ 68 k) ∧ (∀ k, k < 5 → (∃ j, i ≤ j ∧ j < 18 ∧ j % 5 = k) ∨ σ 64 k = σ 69 k → σ' 64 k = σ 69 k) ∧ (∀ k, k < 2 → (∃ j, i ≤ j ∧ j < 18 ∧ j % 2 = k) ∨ σ 65 k = σ 70 k → σ' 65 k = σ 70 k) := by
  intro d
  induction d with
  | zero =>
    intro i fu σ h1 h2
    obtain ⟨fu, rfl⟩ : ∃ m, fu = m + 1 := ⟨fu - 1, by omega⟩
    obtain rfl : i = 18 := by omega
    refine ⟨σ, by rw [f_X8_text_88, f_X8_text_88, if_pos (by decide), if_pos (by decide)], fun _ _ _ => rfl, fun k => ⟨fun h => by omega, fun _ => rfl⟩, ?_, ?_, ?_, ?_⟩
    all_goals
      rintro k hk (⟨j, j1, j2, -⟩ | h)
      · omega
      · exact h
  | succ d ih =>
    intro i fu σ h1 h2
    obtain ⟨fu, rfl⟩ : ∃ m, fu = m + 1 := ⟨fu - 1, by omega⟩
    obtain ⟨s1, hs1⟩ : ∃ s, s = va_up σ 61 (upd (σ 61) i (σ 66 i)) := ⟨_, rfl⟩
    obtain ⟨s2, hs2⟩ : ∃ s, s = va_up s1 62 (upd (s1 62) (i % 6) (s1 67 (i % 6))) := ⟨_, rfl⟩
    obtain ⟨s3, hs3⟩ : ∃ s, s = va_up s2 63 (upd (s2 63) (i % 3) (s2 68 (i % 3))) := ⟨_, rfl⟩
    obtain ⟨s4, hs4⟩ : ∃ s, s = va_up s3 64 (upd (s3 64) (i % 5) (s3 69 (i % 5))) := ⟨_, rfl⟩
    obtain ⟨s5, hs5⟩ : ∃ s, s = va_up s4 65 (upd (s4 65) (i % 2) (s4 70 (i % 2))) := ⟨_, rfl⟩
    have st : f_X8_text_88 (fu + 1) σ m (nI i) = f_X8_text_88 fu s5 m (nI (i + 1)) := by
      have m6 := Nat.mod_lt i (show 6 > 0 by omega)
      have m3 := Nat.mod_lt i (show 3 > 0 by omega)
      have m5 := Nat.mod_lt i (show 5 > 0 by omega)
      have m2 := Nat.mod_lt i (show 2 > 0 by omega)
      have r6 : nI i - nI i / (6 : Int32) * (6 : Int32) = nI (i % 6) := by rw [show (6 : Int32) = nI 6 from rfl, pk_rem (by omega) (by omega) (by omega)]
      have r3 : nI i - nI i / (3 : Int32) * (3 : Int32) = nI (i % 3) := by rw [show (3 : Int32) = nI 3 from rfl, pk_rem (by omega) (by omega) (by omega)]
      have r5 : nI i - nI i / (5 : Int32) * (5 : Int32) = nI (i % 5) := by rw [show (5 : Int32) = nI 5 from rfl, pk_rem (by omega) (by omega) (by omega)]
      have r2 : nI i - nI i / (2 : Int32) * (2 : Int32) = nI (i % 2) := by rw [show (2 : Int32) = nI 2 from rfl, pk_rem (by omega) (by omega) (by omega)]
      rw [f_X8_text_88, if_neg (show ¬ (18 : Int32) ≤ nI i from nI_ge (b := 18) (by omega) (by omega)), inB_n (by omega) (by omega), if_pos rfl, inB_n (by omega) (by omega), if_pos rfl, nI_clamp (by omega), ltq, ← hs1, r6, inB_n m6 (by omega), if_pos rfl, if_pos rfl, nI_clamp (by omega), ltq, ← hs2, r3, inB_n m3 (by omega), if_pos rfl, if_pos rfl, nI_clamp (by omega), ltq, ← hs3, r5, inB_n m5 (by omega), if_pos rfl, if_pos rfl, nI_clamp (by omega), ltq, ← hs4, r2, inB_n m2 (by omega), if_pos rfl, if_pos rfl, nI_clamp (by omega), ltq, ← hs5, nI_1]
    have ff : ∀ c k, (c < 61 ∨ 65 < c) → s5 c k = σ c k := by
      intro c k hc
      rw [hs5, up_ne _ (.inl (by omega)), hs4, up_ne _ (.inl (by omega)), hs3, up_ne _ (.inl (by omega)), hs2, up_ne _ (.inl (by omega)), hs1, up_ne _ (.inl (by omega))]
    have f61 : ∀ k, s5 61 k = s1 61 k := fun k => by
      rw [hs5, up_ne _ (.inl (by decide)), hs4, up_ne _ (.inl (by decide)), hs3, up_ne _ (.inl (by decide)), hs2, up_ne _ (.inl (by decide))]
    have g1 : ∀ k, s1 67 k = σ 67 k := fun k => by rw [hs1, up_ne _ (.inl (by decide))]
    have g2 : ∀ k, s2 68 k = σ 68 k := fun k => by rw [hs2, up_ne _ (.inl (by decide)), hs1, up_ne _ (.inl (by decide))]
    have g3 : ∀ k, s3 69 k = σ 69 k := fun k => by rw [hs3, up_ne _ (.inl (by decide)), hs2, up_ne _ (.inl (by decide)), hs1, up_ne _ (.inl (by decide))]
    have g4 : ∀ k, s4 70 k = σ 70 k := fun k => by rw [hs4, up_ne _ (.inl (by decide)), hs3, up_ne _ (.inl (by decide)), hs2, up_ne _ (.inl (by decide)), hs1, up_ne _ (.inl (by decide))]
    have f62 : ∀ k, s5 62 k = s2 62 k := fun k => by
      rw [hs5, up_ne _ (.inl (by decide)), hs4, up_ne _ (.inl (by decide)), hs3, up_ne _ (.inl (by decide))]
    have f63 : ∀ k, s5 63 k = s3 63 k := fun k => by
      rw [hs5, up_ne _ (.inl (by decide)), hs4, up_ne _ (.inl (by decide))]
    have f64 : ∀ k, s5 64 k = s4 64 k := fun k => by
      rw [hs5, up_ne _ (.inl (by decide))]
    obtain ⟨σ', x1, x2, x3, x4, x5, x6, x7⟩ := ih (i + 1) fu s5 (by omega) (by omega)
    refine ⟨σ', st.trans x1, fun c k hc => (x2 c k hc).trans (ff c k hc), fun k => ⟨fun h => ?_, fun h => ?_⟩, fun k hk h => ?_, fun k hk h => ?_, fun k hk h => ?_, fun k hk h => ?_⟩
    · by_cases z : k = i
      · subst z
        rw [(x3 k).2 (by omega), f61, hs1, up_same]
      · rw [(x3 k).1 (by omega), ff 66 k (by omega)]
    · rw [(x3 k).2 (by omega), f61, hs1, up_ne _ (.inr (by omega))]
    · rw [x4 k hk, ff 67 k (by omega)]
      rcases h with ⟨j, j1, j2, j3⟩ | h
      · by_cases z : j = i
        · subst z; subst j3; right; rw [f62, hs2, up_same, g1, ff 67 _ (by omega)]
        · exact .inl ⟨j, by omega, j2, j3⟩
      · right
        rw [f62, ff 67 k (by omega), hs2]
        exact put_c (fun z => by rw [g1, z]) (fun _ => by rw [hs1, up_ne _ (.inl (by decide))]; exact h)
    · rw [x5 k hk, ff 68 k (by omega)]
      rcases h with ⟨j, j1, j2, j3⟩ | h
      · by_cases z : j = i
        · subst z; subst j3; right; rw [f63, hs3, up_same, g2, ff 68 _ (by omega)]
        · exact .inl ⟨j, by omega, j2, j3⟩
      · right
        rw [f63, ff 68 k (by omega), hs3]
        exact put_c (fun z => by rw [g2, z]) (fun _ => by rw [hs2, up_ne _ (.inl (by decide)), hs1, up_ne _ (.inl (by decide))]; exact h)
    · rw [x6 k hk, ff 69 k (by omega)]
      rcases h with ⟨j, j1, j2, j3⟩ | h
      · by_cases z : j = i
        · subst z; subst j3; right; rw [f64, hs4, up_same, g3, ff 69 _ (by omega)]
        · exact .inl ⟨j, by omega, j2, j3⟩
      · right
        rw [f64, ff 69 k (by omega), hs4]
        exact put_c (fun z => by rw [g3, z]) (fun _ => by rw [hs3, up_ne _ (.inl (by decide)), hs2, up_ne _ (.inl (by decide)), hs1, up_ne _ (.inl (by decide))]; exact h)
    · rw [x7 k hk, ff 70 k (by omega)]
      rcases h with ⟨j, j1, j2, j3⟩ | h
      · by_cases z : j = i
        · subst z; subst j3; right; rw [ff 70 _ (by omega), hs5, up_same, g4]
        · exact .inl ⟨j, by omega, j2, j3⟩
      · right
        rw [ff 70 k (by omega), hs5]
        exact put_c (fun z => by rw [g4, z]) (fun _ => by rw [hs4, up_ne _ (.inl (by decide)), hs3, up_ne _ (.inl (by decide)), hs2, up_ne _ (.inl (by decide)), hs1, up_ne _ (.inl (by decide))]; exact h)
