/-! night, counts, drift -/
theorem P7_sg (σ : ZI) (o i m h to c : Int32) : Sg σ (P7 σ o i m h to c) := Dw_cell (Dw_refl 0 σ) (fun _ => .inl rfl)
theorem N8_sg (σ : ZI) (c o i m h to p : Int32) : Sg σ (N8 σ c o i m h to p) := Dw_cell (Dw_refl 0 σ) (fun k => by
  rcases k7 k with rfl | rfl | rfl | rfl | rfl | rfl | rfl | ⟨a, b, c, d, e, f, g⟩
  all_goals first | exact .inl rfl | exact .inr (.inr (by simp [qf, a, b, c, d, e, f, g])))
theorem s33_sg (σ : ZI) (v : Int32) : Sg σ (s33 σ v) := Dw_up (Dw_refl 0 σ) (.inl rfl)
theorem InvT_R8 {t : NN} {σ : ZI} (q : InvT t σ) : R8 t σ := ⟨q.1, q.2.2.1, q.2.2.2⟩
theorem InvT_T7 {t : NN} {σ : ZI} (q : InvT t σ) : T7 t σ := ⟨q.1, q.2.1⟩
theorem InvT_sg {t : NN} {σ σ' : ZI} (h : Sg σ σ') (q : InvT t σ) : InvT t σ' := InvT_fr (Dw_Ag h (by decide) (by decide)) q
theorem lo_hi {α : Type} {a : Int32} {n : Nat} {x y : α} : (if a < 0 then x else if nI n < a then x else y) = if a < nI 0 ∨ nI n < a then x else y := by
  by_cases h0 : a < 0
  · rw [if_pos h0, if_pos (.inl h0)]
  · rw [if_neg h0]
    by_cases h1 : nI n < a
    · rw [if_pos h1, if_pos (.inr h1)]
    · rw [if_neg h1, if_neg (fun q => q.elim h0 h1)]
theorem lo_ge {α : Type} {a : Int32} {n : Nat} {x y : α} : (if a < 0 then x else if nI n ≤ a then x else y) = if a < 0 ∨ nI n ≤ a then x else y := by
  by_cases h0 : a < 0
  · rw [if_pos h0, if_pos (.inl h0)]
  · rw [if_neg h0]
    by_cases h1 : nI n ≤ a
    · rw [if_pos h1, if_pos (.inr h1)]
    · rw [if_neg h1, if_neg (fun q => q.elim h0 h1)]
theorem p2J {J : Nat} (h : J ≤ 10) : 1 ≤ 2 ^ J ∧ 2 ^ J ≤ 1024 := ⟨Nat.one_le_two_pow, (Nat.pow_le_pow_right (by omega) h : 2 ^ J ≤ 2 ^ 10)⟩
theorem aJ7 {t : NN} {σ : ZI} (q : T7 t σ) (a : Int32) : f_X7_areJoints σ a = some (if a < 0 ∨ nI (2 ^ t 0 0) ≤ a then 0 else 1) := by
  have k1 := q.1.1
  unfold f_X7_areJoints
  rw [v1_0, bso, show σ 2 0 = _ from q.2.1 0 (by omega), sbl (by omega), lo_ge]
  split <;> rfl
theorem aM7 {t : NN} {σ : ZI} (q : T7 t σ) (a : Int32) : f_X7_areMarks σ a = some (if a < 0 ∨ nI (2 ^ t 0 2) ≤ a then 0 else 1) := by
  have k1 := q.1.1
  unfold f_X7_areMarks
  rw [v1_2, bso, show σ 2 2 = _ from q.2.1 2 (by omega), sbl (by omega), lo_ge]
  split <;> rfl
theorem aS8 {t : NN} {σ : ZI} (q : R8 t σ) (a b : Int32) : f_X8_areSets σ a b = some (if a < 0 ∨ nI (2 ^ t 0 0) ≤ a then 0 else if b < 0 ∨ nI (2 ^ t 0 2) ≤ b then 0 else 1) := by
  have k1 := q.1.1
  have p1 := p2J (J := t 0 0) (by omega)
  have p2 := p2J (J := t 0 2) (by omega)
  unfold f_X8_areSets
  rw [show σ 60 1 = _ from q.2.2.1, show σ 60 5 = _ from q.2.2.2.2.1, sbl (by omega), sbl (by omega), in_at 0 _ 0 (nI (2 ^ t 0 0) - 1) rfl rfl, in_at 0 _ 0 (nI (2 ^ t 0 2) - 1) rfl rfl]
  simp only [dec_lt (show 2 ^ t 0 0 < 2 ^ 30 by omega), dec_lt (show 2 ^ t 0 2 < 2 ^ 30 by omega), bso]
  by_cases h : a < 0 ∨ nI (2 ^ t 0 0) ≤ a
  · rw [if_pos h, if_pos h, if_pos rfl]
  · rw [if_neg h, if_neg h, if_neg (by decide)]
    by_cases h2 : b < 0 ∨ nI (2 ^ t 0 2) ≤ b
    · rw [if_pos h2, if_pos rfl]
    · rw [if_neg h2, if_neg (by decide)]
theorem isN7 (a : Int32) : f_X7_isNightPart a = some (if a < nI 0 ∨ nI 5 < a then 0 else 1) := by
  unfold f_X7_isNightPart
  rw [show (5 : Int32) = nI 5 from rfl, lo_hi]
  split <;> rfl
theorem ans7 (σ : ZI) (o i m h to c : Int32) {w : Nat} (hw : w ≤ 5) : f_X1_answer (P7 σ o i m h to c) (nI w) = some (if w = 0 then o else if w = 1 then i else if w = 2 then m else if w = 3 then h else if w = 4 then to else c) := by
  have : w = 0 ∨ w = 1 ∨ w = 2 ∨ w = 3 ∨ w = 4 ∨ w = 5 := by omega
  rcases this with rfl | rfl | rfl | rfl | rfl | rfl <;> rfl
theorem ans8 (σ : ZI) (c o i m h to p : Int32) {w : Nat} (hw : w ≤ 5) : f_X8_nightTold (N8 σ c o i m h to p) (nI w) = some (if w = 0 then o else if w = 1 then i else if w = 2 then m else if w = 3 then h else if w = 4 then to else c) := by
  have : w = 0 ∨ w = 1 ∨ w = 2 ∨ w = 3 ∨ w = 4 ∨ w = 5 := by omega
  rcases this with rfl | rfl | rfl | rfl | rfl | rfl <;> rfl
/-- one night, on both sides, and asked -/
theorem both_n {t : NN} {σ : ZI} (I : Inv σ) (iT : InvT t σ) {x n w : Nat} (hx : x < 2 ^ 31) (hn : n < 2 ^ 31) (hw : w ≤ 5) : ∃ r σ1 σ2, ((f_X1_go σ 1 (nI x) (nI n)).bind fun q4 => (f_X1_answer q4 (nI w)).bind fun q5 => some (q5, q4)) = some (r, σ1) ∧ ((f_X8_nights σ1 (nI x) (nI n)).bind fun q3 => (f_X8_nightTold q3 (nI w)).bind fun q4 => some (q4, q3)) = some (r, σ2) ∧ Inv σ2 ∧ R8 t σ1 := by
  have r8 : R8 t (c7 t σ x n (t 0 0)) := InvT_R8 (InvT_sg (P7_sg _ _ _ _ _ _ _) iT)
  refine ⟨if w = 0 then tO t x n (t 0 0) else if w = 1 then tI t x n (t 0 0) else if w = 2 then nI (tM t x n (t 0 0)) else if w = 3 then nI (tH t x n (t 0 0)) else if w = 4 then nI (tT t x n (t 0 0)) else nI (tC t x n (t 0 0)), c7 t σ x n (t 0 0), c8 t (c7 t σ x n (t 0 0)) x n (t 0 0), ?_, ?_, ?_, r8⟩
  · rw [night7 (InvT_T7 iT) hx hn, bso]
    unfold c7
    rw [ans7 _ _ _ _ _ _ _ hw, bso]
  · rw [night8 r8 hx hn, bso]
    show ((f_X8_nightTold (c8 t (c7 t σ x n (t 0 0)) x n (t 0 0)) (nI w)).bind fun q4 => some (q4, c8 t (c7 t σ x n (t 0 0)) x n (t 0 0))) = _
    unfold c8
    rw [ans8 _ _ _ _ _ _ _ _ hw, bso]
  · exact Inv_sg (N8_sg _ _ _ _ _ _ _ _) (Inv_sg (P7_sg _ _ _ _ _ _ _) I)
theorem u_night {σ : ZI} (I : Inv σ) (a b w : Int32) : ∃ r σ1 σ2, f_X7_night σ a b w = some (r, σ1) ∧ f_X8_night σ1 a b w = some (r, σ2) ∧ Inv σ2 := by
  obtain ⟨t, iT, iR⟩ := id I
  have k1 := iT.1.1
  have p1 := p2J (J := t 0 0) (by omega)
  have p2 := p2J (J := t 0 2) (by omega)
  unfold f_X7_night f_X8_night
  rw [aJ7 (InvT_T7 iT), aM7 (InvT_T7 iT), isN7]
  simp only [bso]
  rcases ix_cases a (n := 2 ^ t 0 0) (by omega) with h | ⟨x, hx, rfl⟩
  · exact ⟨-1, σ, σ, by rw [if_pos h]; rfl, by rw [aS8 (InvT_R8 iT), if_pos h]; rfl, I⟩
  have hx' := ix_no hx (show 2 ^ t 0 0 < 2 ^ 31 by omega)
  rw [if_neg hx', if_neg (by decide)]
  rcases ix_cases b (n := 2 ^ t 0 2) (by omega) with h | ⟨n, hn, rfl⟩
  · exact ⟨-1, σ, σ, by rw [if_pos h]; rfl, by rw [aS8 (InvT_R8 iT), if_neg hx', if_pos h]; rfl, I⟩
  have hn' := ix_no hn (show 2 ^ t 0 2 < 2 ^ 31 by omega)
  rw [if_neg hn', if_neg (by decide)]
  by_cases hw : w < nI 0 ∨ nI 5 < w
  · refine ⟨-1, σ, σ, by rw [if_pos hw]; rfl, ?_, I⟩
    rw [aS8 (InvT_R8 iT), if_neg hx', if_neg hn', bso, if_neg (by decide), in_at 0 5 0 5 rfl rfl, if_pos (show w < 0 ∨ 5 < w from hw)]
    rfl
  obtain ⟨v, v1, v2, rfl⟩ := rng hw (by omega) (by omega)
  rw [if_neg hw, if_neg (by decide)]
  obtain ⟨r, s1, s2, e1, e2, e3, e4⟩ := both_n I iT (x := x) (n := n) (w := v) (by omega) (by omega) v2
  refine ⟨r, s1, s2, e1, ?_, e3⟩
  rw [aS8 e4, if_neg hx', if_neg hn', bso, if_neg (by decide), in_at 0 5 0 5 rfl rfl, if_neg (show ¬ (nI v < 0 ∨ 5 < nI v) from hw), bso, if_neg (by decide)]
  exact e2
theorem ct7 {t : NN} {σ : ZI} (q : T7 t σ) {x n J : Nat} (hx : x < 2 ^ 31) (hn : n < 2 ^ 31) (hJ : J ≤ 10) : ∀ (d j fu : Nat), j + d = J → d < fu → f_X7_counts_36 σ (nI x) (nI n) (nI J) fu (nI (tC t x n j)) (nI (j + 1)) = some (nI (tC t x n J)) := by
  intro d
  induction d with
  | zero =>
    intro j fu h3 h4
    obtain ⟨fu, rfl⟩ : ∃ m, fu = m + 1 := ⟨fu - 1, by omega⟩
    obtain rfl : j = J := by omega
    rw [f_X7_counts_36, if_pos (nI_lt (by omega) (by omega))]
  | succ d ih =>
    intro j fu h3 h4
    obtain ⟨fu, rfl⟩ : ∃ m, fu = m + 1 := ⟨fu - 1, by omega⟩
    rw [f_X7_counts_36, if_neg (nI_nlt (by omega) (by omega)), cb7 q (by omega) hx hn, bso, ← tC_s, nI_1, ih (j + 1) fu (by omega) (by omega)]
theorem ct8_l {t : NN} {σ : ZI} (q : M8 t σ) {x n J : Nat} (hx : x < 2 ^ 31) (hn : n < 2 ^ 31) (hJ : J ≤ 10) : ∀ (d j fu : Nat), j + d = J → d < fu → f_X8_countAt_8 (nI x) (nI n) (nI J) fu (s33 σ (nI (tC t x n j))) (nI (j + 1)) = some (nI (tC t x n J), s33 σ (nI (tC t x n J))) := by
  intro d
  induction d with
  | zero =>
    intro j fu h3 h4
    obtain ⟨fu, rfl⟩ : ∃ m, fu = m + 1 := ⟨fu - 1, by omega⟩
    obtain rfl : j = J := by omega
    rw [f_X8_countAt_8, if_pos (nI_lt (by omega) (by omega))]
    rfl
  | succ d ih =>
    intro j fu h3 h4
    obtain ⟨fu, rfl⟩ : ∃ m, fu = m + 1 := ⟨fu - 1, by omega⟩
    have q' : M8 t (s33 σ (nI (tC t x n j))) := ⟨q.1, q.2.1, q.2.2⟩
    have e : s33 (s33 σ (nI (tC t x n j))) (nI (cb t x n j (tC t x n j))) = s33 σ (nI (tC t x n (j + 1))) := s33_s33 σ _ _
    rw [f_X8_countAt_8, if_neg (nI_nlt (by omega) (by omega)), cd8 q' (c := tC t x n j) (by omega) hx hn rfl, bso, nI_1, e, ih (j + 1) fu (by omega) (by omega)]
theorem ct8 {t : NN} {σ : ZI} (q : M8 t σ) {x n J : Nat} (hx : x < 2 ^ 31) (hn : n < 2 ^ 31) (hJ : J ≤ 10) : f_X8_countAt σ (nI x) (nI n) (nI J) = some (nI (tC t x n J), s33 σ (nI (tC t x n J))) := by
  unfold f_X8_countAt
  rw [ltq]
  exact ct8_l q hx hn hJ J 0 3000 (by omega) (by omega)
theorem u_counts {σ : ZI} (I : Inv σ) (a b w : Int32) : ∃ r σ2, f_X7_counts σ a b w = some r ∧ f_X8_counts σ a b w = some (r, σ2) ∧ Inv σ2 := by
  obtain ⟨t, iT, iR⟩ := id I
  have k1 := iT.1.1
  have p1 := p2J (J := t 0 0) (by omega)
  have p2 := p2J (J := t 0 2) (by omega)
  unfold f_X7_counts f_X8_counts
  rw [aJ7 (InvT_T7 iT), aM7 (InvT_T7 iT), aS8 (InvT_R8 iT)]
  simp only [bso]
  rcases ix_cases a (n := 2 ^ t 0 0) (by omega) with h | ⟨x, hx, rfl⟩
  · exact ⟨-1, σ, by rw [if_pos h]; rfl, by rw [if_pos h]; rfl, I⟩
  have hx' := ix_no hx (show 2 ^ t 0 0 < 2 ^ 31 by omega)
  rw [if_neg hx', if_neg hx', if_neg (by decide)]
  rcases ix_cases b (n := 2 ^ t 0 2) (by omega) with h | ⟨n, hn, rfl⟩
  · exact ⟨-1, σ, by rw [if_pos h]; rfl, by rw [if_pos h]; rfl, I⟩
  have hn' := ix_no hn (show 2 ^ t 0 2 < 2 ^ 31 by omega)
  have eK : σ 60 1 = nI (t 0 0) := iT.2.2.2.1
  rw [if_neg hn', if_neg (show ¬ (1 : Int32) = 0 by decide), if_neg (show ¬ (1 : Int32) = 0 by decide), in_at 0 _ 0 (σ 60 1) rfl rfl, eK, isJ7, show σ 2 0 = _ from iT.2.1.1 0 (by omega), bso]
  have J7 : ∀ J, J ≤ t 0 0 → f_X7_counts_30 σ (nI x) (nI n) (nI J) = some (nI (tC t x n J)) := fun J hJ => ct7 (InvT_T7 iT) (by omega) (by omega) (by omega) J 0 3000 (by omega) (by omega)
  by_cases hj : w < nI 0 ∨ nI (t 0 0) < w
  · refine ⟨-1, σ, ?_, by rw [if_pos (show w < 0 ∨ nI (t 0 0) < w from hj)]; rfl, I⟩
    have h0 : w ≠ 0 := by rintro rfl; exact absurd hj (rng' (v := 0) (lo := 0) (hi := t 0 0) (by omega) (by omega) (by omega))
    have h1 : w < 1 ∨ nI (t 0 0) < w := by
      rcases hj with h | h
      · left
        rw [Int32.lt_iff_toInt_lt] at h ⊢
        have e1 : (nI 0).toInt = 0 := rfl
        have e2 : (1 : Int32).toInt = 1 := rfl
        omega
      · exact .inr h
    rw [if_neg h0, if_pos h1]; rfl
  obtain ⟨j, j1, j2, rfl⟩ := rng hj (by omega) (by omega)
  refine ⟨nI (tC t x n j), s33 σ (nI (tC t x n j)), ?_, ?_, Inv_sg (s33_sg _ _) I⟩
  · by_cases h0 : j = 0
    · subst h0
      rw [if_pos nI_0]
      exact J7 0 (by omega)
    · rw [if_neg (nI_ne0 (by omega) (by omega)), if_neg (show ¬ (nI j < 1 ∨ nI (t 0 0) < nI j) from rng' (lo := 1) (by omega) j2 (by omega)), if_neg (by decide)]
      exact J7 j j2
  · rw [if_neg (show ¬ (nI j < 0 ∨ nI (t 0 0) < nI j) from hj), bso, if_neg (by decide), ct8 (R8_M8 (InvT_R8 iT)) (by omega) (by omega) (by omega)]
    rfl
def fg (s : Int32) : Int32 := (((s >>> ((16 : Int32) &&& 31)) &&& (32767 : Int32)) - ((s >>> ((16 : Int32) &&& 31)) &&& (32767 : Int32)) / (10 : Int32) * (10 : Int32))
def sd (s : Int32) : Int32 := (s * (1103515245 : Int32)) + (12345 : Int32)
theorem dr1 {t : NN} {σ : ZI} (iT : InvT t σ) {a w : Int32} : ∀ (d j : Nat) (s : Int32) (m : Nat), j + d = t 0 0 → m < 2 ^ 10 → ∃ s' m', m' < 2 ^ 10 ∧ (∀ fu, d < fu → f_X7_drift_17 a w fu σ s (nI m) (nI (j + 1)) = f_X7_drift_74 a w 3000 σ s' (nI m') 0 0) ∧ (∀ fu σ', R8 t σ' → d < fu → f_X8_drift_25 a w fu σ' s (nI m) 0 (nI j) = f_X8_drift_84 a w 3000 σ' s' (nI m') 0 0) := by
  have k1 := iT.1.1
  intro d
  induction d with
  | zero =>
    intro j s m hj hm
    obtain rfl : j = t 0 0 := by omega
    refine ⟨s, m, hm, fun fu hf => ?_, fun fu σ' r8 hf => ?_⟩
    · obtain ⟨fu, rfl⟩ : ∃ m, fu = m + 1 := ⟨fu - 1, by omega⟩
      rw [f_X7_drift_17, v1_0, bso, show σ 2 0 = _ from iT.2.1.1 0 (by omega), if_pos (nI_lt (by omega) (by omega))]
    · obtain ⟨fu, rfl⟩ : ∃ m, fu = m + 1 := ⟨fu - 1, by omega⟩
      rw [f_X8_drift_25, show σ' 60 1 = _ from r8.2.2.1, if_pos (Int32.le_refl _)]
  | succ d ih =>
    intro j s m hj hm
    by_cases hs : nI (t 0 6) ≤ fg (sd s)
    · obtain ⟨s', m', i0, i1, i2⟩ := ih (j + 1) (sd s) m (by omega) hm
      refine ⟨s', m', i0, fun fu hf => ?_, fun fu σ' r8 hf => ?_⟩
      · obtain ⟨fu, rfl⟩ : ∃ m, fu = m + 1 := ⟨fu - 1, by omega⟩
        rw [f_X7_drift_17, v1_0, bso, show σ 2 0 = _ from iT.2.1.1 0 (by omega), if_neg (nI_nlt (by omega) (by omega)), show f_X7_nextSeed s = some (sd s) from rfl, bso, show f_X7_figureOf (sd s) = some (fg (sd s)) from rfl, bso, v1_6, bso, show σ 2 6 = _ from iT.2.1.1 6 (by omega), if_pos hs]
        unfold f_X7_drift_62
        rw [nI_1]
        exact i1 fu (by omega)
      · obtain ⟨fu, rfl⟩ : ∃ m, fu = m + 1 := ⟨fu - 1, by omega⟩
        have e : f_X8_slip σ' = some (nI (t 0 6)) := by
          unfold f_X8_slip
          rw [show σ' 61 13 = _ from r8.2.1.2.2.2.2.2.1, Int32.sub_add_cancel]
        rw [f_X8_drift_25, show σ' 60 1 = _ from r8.2.2.1, if_neg (nI_ge (by omega) (by omega)), ltq, e, bso]
        refine (if_pos hs).trans ?_
        unfold f_X8_drift_72
        rw [nI_1, Int32.or_zero]
        exact i2 fu σ' r8 (by omega)
    · obtain ⟨s', m', i0, i1, i2⟩ := ih (j + 1) (sd s) (m ||| 2 ^ j) (by omega) (Nat.or_lt_two_pow hm (Nat.pow_lt_pow_right (by omega) (by omega)))
      refine ⟨s', m', i0, fun fu hf => ?_, fun fu σ' r8 hf => ?_⟩
      · obtain ⟨fu, rfl⟩ : ∃ m, fu = m + 1 := ⟨fu - 1, by omega⟩
        rw [f_X7_drift_17, v1_0, bso, show σ 2 0 = _ from iT.2.1.1 0 (by omega), if_neg (nI_nlt (by omega) (by omega)), show f_X7_nextSeed s = some (sd s) from rfl, bso, show f_X7_figureOf (sd s) = some (fg (sd s)) from rfl, bso, v1_6, bso, show σ 2 6 = _ from iT.2.1.1 6 (by omega), if_neg hs]
        unfold f_X7_drift_62
        rw [nI_pred, sbl (by omega), or_n (by omega) hm, ltq, nI_1]
        exact i1 fu (by omega)
      · obtain ⟨fu, rfl⟩ : ∃ m, fu = m + 1 := ⟨fu - 1, by omega⟩
        have e : f_X8_slip σ' = some (nI (t 0 6)) := by
          unfold f_X8_slip
          rw [show σ' 61 13 = _ from r8.2.1.2.2.2.2.2.1, Int32.sub_add_cancel]
        rw [f_X8_drift_25, show σ' 60 1 = _ from r8.2.2.1, if_neg (nI_ge (by omega) (by omega)), ltq, e, bso]
        refine (if_neg hs).trans ?_
        unfold f_X8_drift_72
        rw [nI_1, sbl (by omega), or_n (by omega) hm]
        exact i2 fu σ' r8 (by omega)
theorem dr2 {t : NN} {σ : ZI} (iT : InvT t σ) {a w : Int32} {x : Int32} : ∀ (d j : Nat) (s : Int32) (m : Nat), j + d = t 0 2 → m < 2 ^ 3 → ∃ m', m' < 2 ^ 3 ∧ (∀ fu, d < fu → f_X7_drift_74 a w fu σ s x (nI m) (nI j) = (f_X1_go σ 1 x (nI m')).bind fun q4 => (f_X1_answer q4 w).bind fun q5 => some (q5, q4)) ∧ (∀ fu σ', R8 t σ' → d < fu → f_X8_drift_84 a w fu σ' s x (nI m) (nI j) = (f_X8_nights σ' x (nI m')).bind fun q2 => (f_X8_nightTold q2 w).bind fun q3 => some (q3, q2)) := by
  have k1 := iT.1.1
  have k4 := iT.1.2.2.2.1
  intro d
  induction d with
  | zero =>
    intro j s m hj hm
    obtain rfl : j = t 0 2 := by omega
    refine ⟨m, hm, fun fu hf => ?_, fun fu σ' r8 hf => ?_⟩
    · obtain ⟨fu, rfl⟩ : ∃ m, fu = m + 1 := ⟨fu - 1, by omega⟩
      rw [f_X7_drift_74, v1_2, bso, show σ 2 2 = _ from iT.2.1.1 2 (by omega), if_pos (Int32.le_refl _)]
    · obtain ⟨fu, rfl⟩ : ∃ m, fu = m + 1 := ⟨fu - 1, by omega⟩
      rw [f_X8_drift_84, show σ' 60 5 = _ from r8.2.2.2.2.1, if_pos (Int32.le_refl _)]
  | succ d ih =>
    intro j s m hj hm
    have e7 : f_X7_at σ 7 (nI j) = some (nI (t 5 j)) := by rw [at_n (N := 3) rfl (by omega) (by omega)]; exact congrArg some (iT.2.1.2.2.1 j (by omega)).2
    have e8 : ∀ σ' : ZI, R8 t σ' → σ' 61 (3 + j) = nI (t 5 j) := fun σ' r8 => by
      have := r8.2.1.2.1 j (by omega)
      rw [Nat.zero_add] at this
      exact this
    by_cases hs : nI (t 5 j) ≤ fg (sd s)
    · obtain ⟨m', i0, i1, i2⟩ := ih (j + 1) (sd s) m (by omega) hm
      refine ⟨m', i0, fun fu hf => ?_, fun fu σ' r8 hf => ?_⟩
      · obtain ⟨fu, rfl⟩ : ∃ m, fu = m + 1 := ⟨fu - 1, by omega⟩
        rw [f_X7_drift_74, v1_2, bso, show σ 2 2 = _ from iT.2.1.1 2 (by omega), if_neg (nI_ge (by omega) (by omega)), show f_X7_nextSeed s = some (sd s) from rfl, bso, show f_X7_figureOf (sd s) = some (fg (sd s)) from rfl, bso, e7, bso, if_pos hs]
        unfold f_X7_drift_120
        rw [nI_1]
        exact i1 fu (by omega)
      · obtain ⟨fu, rfl⟩ : ∃ m, fu = m + 1 := ⟨fu - 1, by omega⟩
        rw [f_X8_drift_84, show σ' 60 5 = _ from r8.2.2.2.2.1, if_neg (nI_ge (by omega) (by omega)), ltq, show (3 : Int32) + nI j = nI (3 + j) from nI_add 3 j, inB_n (by omega) (by omega), if_pos rfl, nI_clamp (by omega), e8 σ' r8]
        refine (if_pos hs).trans ?_
        unfold f_X8_drift_136
        rw [nI_1, Int32.or_zero]
        exact i2 fu σ' r8 (by omega)
    · obtain ⟨m', i0, i1, i2⟩ := ih (j + 1) (sd s) (m ||| 2 ^ j) (by omega) (Nat.or_lt_two_pow hm (Nat.pow_lt_pow_right (by omega) (by omega)))
      refine ⟨m', i0, fun fu hf => ?_, fun fu σ' r8 hf => ?_⟩
      · obtain ⟨fu, rfl⟩ : ∃ m, fu = m + 1 := ⟨fu - 1, by omega⟩
        rw [f_X7_drift_74, v1_2, bso, show σ 2 2 = _ from iT.2.1.1 2 (by omega), if_neg (nI_ge (by omega) (by omega)), show f_X7_nextSeed s = some (sd s) from rfl, bso, show f_X7_figureOf (sd s) = some (fg (sd s)) from rfl, bso, e7, bso, if_neg hs]
        unfold f_X7_drift_120
        rw [sbl (by omega), or_n (by omega) (by omega), ltq, nI_1]
        exact i1 fu (by omega)
      · obtain ⟨fu, rfl⟩ : ∃ m, fu = m + 1 := ⟨fu - 1, by omega⟩
        rw [f_X8_drift_84, show σ' 60 5 = _ from r8.2.2.2.2.1, if_neg (nI_ge (by omega) (by omega)), ltq, show (3 : Int32) + nI j = nI (3 + j) from nI_add 3 j, inB_n (by omega) (by omega), if_pos rfl, nI_clamp (by omega), e8 σ' r8]
        refine (if_neg hs).trans ?_
        unfold f_X8_drift_136
        rw [nI_1, sbl (by omega), or_n (by omega) (by omega)]
        exact i2 fu σ' r8 (by omega)
theorem u_drift {σ : ZI} (I : Inv σ) (a w : Int32) : ∃ r σ1 σ2, f_X7_drift σ a w = some (r, σ1) ∧ f_X8_drift σ1 a w = some (r, σ2) ∧ Inv σ2 := by
  obtain ⟨t, iT, iR⟩ := id I
  have k1 := iT.1.1
  unfold f_X7_drift f_X8_drift
  rw [isN7, bso]
  by_cases hw : w < nI 0 ∨ nI 5 < w
  · refine ⟨-1, σ, σ, by rw [if_pos hw]; rfl, ?_, I⟩
    rw [in_at 0 5 0 5 rfl rfl, if_pos (show w < 0 ∨ 5 < w from hw)]
    rfl
  obtain ⟨v, v1, v2, rfl⟩ := rng hw (by omega) (by omega)
  rw [if_neg hw, if_neg (by decide), in_at 0 5 0 5 rfl rfl, if_neg (show ¬ (nI v < 0 ∨ 5 < nI v) from hw)]
  obtain ⟨s', x, hx, d1, d2⟩ := dr1 iT (a := a) (w := nI v) (t 0 0) 0 a 0 (by omega) (by omega)
  obtain ⟨n, hn, d3, d4⟩ := dr2 iT (a := a) (w := nI v) (x := nI x) (t 0 2) 0 s' 0 (by omega) (by omega)
  obtain ⟨r, s1, s2, e1, e2, e3, e4⟩ := both_n I iT (x := x) (n := n) (w := v) (by omega) (by omega) v2
  refine ⟨r, s1, s2, ?_, ?_, e3⟩
  · exact ((d1 3000 (by omega)).trans (d3 3000 (by omega))).trans e1
  · simp only [bso]
    rw [if_neg (by decide)]
    exact ((d2 3000 s1 e4 (by omega)).trans (d4 3000 s1 e4 (by omega))).trans e2
