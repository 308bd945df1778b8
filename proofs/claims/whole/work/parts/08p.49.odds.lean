/-! by odds: call by call -/
theorem u_where {σ : ZI} {τ : ZL} (I : Inv σ) (hL : InL τ) (a b w : Int32) : RLz (f_X7_where σ τ a b w) (fun s => f_X8_where s a b w) := by
  obtain ⟨t, iT, iR⟩ := id I
  have k := iT.1
  have k1 := k.1
  have eJ : σ 2 0 = nI (t 0 0) := iT.2.1.1 0 (by omega)
  have eK : ∀ s : ZI, s 60 1 = nI (t 0 0) → f_X8_in a.toInt64 0 ((s 60 1).toInt64) = some (if a < 0 ∨ nI (t 0 0) < a then 0 else 1) := fun s h => by rw [in_at 0 _ 0 (s 60 1) rfl rfl, h]
  have z7 : f_X7_where σ τ a b w = if a < 0 ∨ nI (t 0 0) < a then some (-1, σ, τ) else f_X7_where_12 a b w σ τ := by
    unfold f_X7_where
    rw [isJ7, eJ, bso]
    by_cases h0 : a = 0
    · subst h0
      rw [if_pos rfl, if_neg]
      exact rng' (v := 0) (lo := 0) (hi := t 0 0) (by omega) (by omega) (by omega)
    · rw [if_neg h0]
      by_cases h : a < 0 ∨ nI (t 0 0) < a
      · have hc : a < 1 ∨ nI (t 0 0) < a := by
          rcases h with h | h
          · left
            rw [Int32.lt_iff_toInt_lt] at h ⊢
            have e1 : (0 : Int32).toInt = 0 := rfl
            have e2 : (1 : Int32).toInt = 1 := rfl
            omega
          · exact .inr h
        rw [if_pos h, if_pos hc, if_pos rfl]
      · have hc : ¬ (a < 1 ∨ nI (t 0 0) < a) := by
          rintro (z | z)
          · refine h (.inl ?_)
            rw [Int32.lt_iff_toInt_lt] at z ⊢
            have e1 : (0 : Int32).toInt = 0 := rfl
            have e2 : (1 : Int32).toInt = 1 := rfl
            have e3 : a.toInt ≠ 0 := fun q => h0 (Int32.toInt_inj.mp q)
            omega
          · exact h (.inr z)
        rw [if_neg h, if_neg hc, if_neg (by decide)]
  rw [z7]
  unfold f_X8_where
  by_cases hj : a < nI 0 ∨ nI (t 0 0) < a
  · refine rl_bad I hL (if_pos hj) ?_
    rw [eK σ iT.2.2.2.1, if_pos (show a < 0 ∨ nI (t 0 0) < a from hj)]; rfl
  obtain ⟨j, j1, j2, rfl⟩ := rng hj (by omega) (by omega)
  have hj' : ¬ (nI j < 0 ∨ nI (t 0 0) < nI j) := hj
  rw [if_neg hj']
  unfold f_X7_where_12
  rw [show (10 : Int32) = nI 10 from rfl, lo_hi]
  by_cases hb : b < nI 0 ∨ nI 10 < b
  · refine rl_bad I hL (if_pos hb) ?_
    rw [eK σ iT.2.2.2.1, if_neg hj', bso, if_neg (by decide), in_at 0 10 0 10 rfl rfl, if_pos (show b < 0 ∨ 10 < b from hb)]; rfl
  obtain ⟨c, c1, c2, rfl⟩ := rng hb (by omega) (by omega)
  rw [if_neg hb, isP7]
  by_cases hw : w < 0 ∨ 1 < w
  · refine rl_bad I hL (by rw [if_pos hw]; rfl) ?_
    rw [eK σ iT.2.2.2.1, if_neg hj', bso, if_neg (by decide), in_at 0 10 0 10 rfl rfl, if_neg (show ¬ (nI c < 0 ∨ 10 < nI c) from hb), bso, if_neg (by decide), in_at 0 1 0 1 rfl rfl, if_pos hw]; rfl
  obtain ⟨t1, a1, a2, a3⟩ := wb7 (InvT_T7 iT) τ (s := t 0 6) (by omega) (cl := -4) (.inl ⟨rfl, rfl⟩)
  obtain ⟨t2, b1, b2, b3⟩ := cnt7 (σ := s41 σ (t 0 0)) (L := j) (by omega) j2 (s41_0 σ _) a3
  have w2 : Wg t2 (PO t (t 0 6) (t 5)) (t 0 0) := Wg_fr (fun c k _ _ => b2 c k (by omega) (by omega)) a3
  refine rl_fin (t := t) (a := 0) (b := nI j) (c := nI c) (w := w) (V := v0 t j c) (D := DN t) (τ1 := t2) I iT ((b2 50 0 (by omega) (by omega)).trans ((a2 50 0 (by omega)).trans hL)) (W_v0 k (t 0 6) (t 5) j2 c) (by rw [if_neg (by decide), Nat.one_mul]) (fun x n => by unfold v0; split <;> omega) (fun σ' x n h1 h2 h3 => vo_0 (R8_fr h1 (InvT_R8 (InvT_sg (s41_sg _ _) iT))) (by have := p2J k1.2.1; omega) (by have := p2J (J := t 0 2) (by omega); omega) j2 (by omega)) ?_ ?_
  · have e46 : t2 46 j = iL (bh_ (PO t (t 0 6) (t 5)) (t 0 0) (t 0 0 - j)) := by
      have := w2.2 (t 0 0 - j) (by omega)
      rw [show t 0 0 - (t 0 0 - j) = j by omega] at this
      exact this
    rw [if_neg hw, bso, if_neg (by decide), v1_6, bso, show σ 2 6 = _ from iT.2.1.1 6 (by omega), a1, bso]
    dsimp only
    rw [b1, bso]
    unfold f_X0_ofCount
    rw [atL_n rfl rfl (by omega), bso, atL_n rfl rfl (by omega), bso, bso, whole_n k w2, bso, b3 c (by omega), e46, ← iL_mul]
    rfl
  · rw [eK (s41 σ (t 0 0)) iT.2.2.2.1, if_neg hj', bso, if_neg (by decide), in_at 0 10 0 10 rfl rfl, if_neg (show ¬ (nI c < 0 ∨ 10 < nI c) from hb), bso, if_neg (by decide), in_at 0 1 0 1 rfl rfl, if_neg hw, bso, if_neg (by decide)]
theorem u_goes {σ : ZI} {τ : ZL} (I : Inv σ) (hL : InL τ) (a w : Int32) : RLz (f_X7_goes σ τ a w) (fun s => f_X8_goes s a w) := by
  obtain ⟨t, iT, iR⟩ := id I
  have k := iT.1
  have k1 := k.1
  have eJ : σ 2 0 = nI (t 0 0) := iT.2.1.1 0 (by omega)
  unfold f_X7_goes f_X8_goes
  rw [isJ7, eJ]
  by_cases hj : a < nI 1 ∨ nI (t 0 0) < a
  · refine rl_bad I hL (by rw [if_pos (show a < 1 ∨ nI (t 0 0) < a from hj)]; rfl) ?_
    rw [isJ8, show σ 60 1 = _ from iT.2.2.2.1, if_pos (show a < 1 ∨ nI (t 0 0) < a from hj)]; rfl
  obtain ⟨j', j1, j2, rfl⟩ := rng hj (by omega) (by omega)
  obtain ⟨j, rfl⟩ : ∃ j, j' = j + 1 := ⟨j' - 1, by omega⟩
  have hj' : ¬ (nI (j + 1) < 1 ∨ nI (t 0 0) < nI (j + 1)) := hj
  rw [if_neg hj', bso, if_neg (by decide), isP7]
  by_cases hw : w < 0 ∨ 1 < w
  · refine rl_bad I hL (by rw [if_pos hw]; rfl) ?_
    rw [isJ8, show σ 60 1 = _ from iT.2.2.2.1, if_neg hj', bso, if_neg (by decide), in_at 0 1 0 1 rfl rfl, if_pos hw]; rfl
  obtain ⟨t2, b1, b2, b3, b4, b5⟩ := pb7 iT hL
  refine rl_fin (t := t) (a := 1) (b := nI (j + 1)) (c := 0) (w := w) (V := v1 t j) (D := DN t) (τ1 := t2) I iT b3 rfl (by rw [if_neg (by decide), Nat.one_mul]) (fun x n => by unfold v1; split <;> omega) (fun σ' x n h1 h2 h3 => vo_1 (R8_fr h1 (InvT_R8 (InvT_sg (s41_sg _ _) iT))) (by omega)) ?_ ?_
  · rw [if_neg hw, bso, if_neg (by decide), b1, bso]
    dsimp only
    rw [atL_n rfl rfl (by omega), bso, whole_n k b2, bso, b4 j (by omega)]
  · rw [isJ8, show (s41 σ (t 0 0)) 60 1 = _ from iT.2.2.2.1, if_neg hj', bso, if_neg (by decide), in_at 0 1 0 1 rfl rfl, if_neg hw, bso, if_neg (by decide)]
theorem u_isOut {σ : ZI} {τ : ZL} (I : Inv σ) (hL : InL τ) (a w : Int32) : RLz (f_X7_isOut σ τ a w) (fun s => f_X8_isOut s a w) := by
  obtain ⟨t, iT, iR⟩ := id I
  have k := iT.1
  have k1 := k.1
  have eJ : σ 2 0 = nI (t 0 0) := iT.2.1.1 0 (by omega)
  unfold f_X7_isOut f_X8_isOut
  rw [isJ7, eJ]
  by_cases hj : a < nI 1 ∨ nI (t 0 0) < a
  · refine rl_bad I hL (by rw [if_pos (show a < 1 ∨ nI (t 0 0) < a from hj)]; rfl) ?_
    rw [isJ8, show σ 60 1 = _ from iT.2.2.2.1, if_pos (show a < 1 ∨ nI (t 0 0) < a from hj)]; rfl
  obtain ⟨j', j1, j2, rfl⟩ := rng hj (by omega) (by omega)
  obtain ⟨j, rfl⟩ : ∃ j, j' = j + 1 := ⟨j' - 1, by omega⟩
  have hj' : ¬ (nI (j + 1) < 1 ∨ nI (t 0 0) < nI (j + 1)) := hj
  rw [if_neg hj', bso, if_neg (by decide), isP7]
  by_cases hw : w < 0 ∨ 1 < w
  · refine rl_bad I hL (by rw [if_pos hw]; rfl) ?_
    rw [isJ8, show σ 60 1 = _ from iT.2.2.2.1, if_neg hj', bso, if_neg (by decide), in_at 0 1 0 1 rfl rfl, if_pos hw]; rfl
  obtain ⟨t2, b1, b2, b3, b4, b5⟩ := pb7 iT hL
  refine rl_fin (t := t) (a := 2) (b := nI (j + 1)) (c := 0) (w := w) (V := v2 t j) (D := DN t) (τ1 := t2) I iT b3 rfl (by rw [if_neg (by decide), Nat.one_mul]) (fun x n => S_bd j) (fun σ' x n h1 h2 h3 => vo_2 (R8_fr h1 (InvT_R8 (InvT_sg (s41_sg _ _) iT))) (by omega)) ?_ ?_
  · rw [if_neg hw, bso, if_neg (by decide), b1, bso]
    dsimp only
    rw [atL_n rfl rfl (by omega), bso, whole_n k b2, bso, b5 j (by omega)]
  · rw [isJ8, show (s41 σ (t 0 0)) 60 1 = _ from iT.2.2.2.1, if_neg hj', bso, if_neg (by decide), in_at 0 1 0 1 rfl rfl, if_neg hw, bso, if_neg (by decide)]
theorem SO_v3 (t : NN) (s : Nat) (cf : Nat → Nat) (i : Nat) : SO t s cf (v3 t i) = SO t s cf (v2 t (t 2 i - 1)) * (hN (t 1 i) (t 0 7) : Int) := SO_mul t s cf _ _
theorem v3_bd {t : NN} {x n : Nat} (i : Nat) : -1000 ≤ v3 t i x n ∧ v3 t i x n ≤ 1000 := by have := v3_b (t := t) x n i; omega
theorem u_had {σ : ZI} {τ : ZL} (I : Inv σ) (hL : InL τ) (a w : Int32) : RLz (f_X7_had σ τ a w) (fun s => f_X8_had s a w) := by
  obtain ⟨t, iT, iR⟩ := id I
  have k := iT.1
  have k1 := k.1
  have e7 : σ 2 1 = nI (t 0 1) := iT.2.1.1 1 (by omega)
  unfold f_X7_had f_X8_had
  rw [isA7, e7]
  rcases ix_cases a (n := t 0 1) (by omega) with h | ⟨i, hi, rfl⟩
  · refine rl_bad I hL (by rw [if_pos h]; rfl) ?_
    rw [isA8 (show σ 60 3 = _ from iT.2.2.2.2.1) (by omega), if_pos h]; rfl
  have hi' := ix_no hi (show t 0 1 < 2 ^ 31 by omega)
  rw [if_neg hi', bso, if_neg (by decide), isP7]
  by_cases hw : w < 0 ∨ 1 < w
  · refine rl_bad I hL (by rw [if_pos hw]; rfl) ?_
    rw [isA8 (show σ 60 3 = _ from iT.2.2.2.2.1) (by omega), if_neg hi', bso, if_neg (by decide), in_at 0 1 0 1 rfl rfl, if_pos hw]; rfl
  obtain ⟨t2, b1, b2, b3, b4, b5⟩ := pb7 iT hL
  have hl := hN_le (t 1 i) (t 0 7)
  refine rl_fin (t := t) (a := 3) (b := nI i) (c := 0) (w := w) (V := v3 t i) (D := 10 * DN t) (τ1 := t2) I iT b3 rfl (by rw [if_pos (.inl rfl)]) (fun x n => v3_bd i) (fun σ' x n h1 h2 h3 => vo_3 (R8_fr h1 (InvT_R8 (InvT_sg (s41_sg _ _) iT))) hi) ?_ ?_
  · rw [if_neg hw, bso, if_neg (by decide), b1, bso]
    dsimp only
    rw [met7 iT b5 hi, bso, v1_7, bso, show (s41 σ (t 0 0)) 2 7 = _ from iT.2.1.1 7 (by omega), hold7 iT hi (by omega), bso, whole_n k b2, bso, nI_iL (by omega), ← iL_mul, ← SO_v3, show (10 : Int64) = iL 10 from rfl, ← iL_mul, Int.natCast_mul]
    rfl
  · rw [isA8 (show (s41 σ (t 0 0)) 60 3 = _ from iT.2.2.2.2.1) (by omega), if_neg hi', bso, if_neg (by decide), in_at 0 1 0 1 rfl rfl, if_neg hw, bso, if_neg (by decide)]
theorem u_hits {σ : ZI} {τ : ZL} (I : Inv σ) (hL : InL τ) (w : Int32) : RLz (f_X7_hits σ τ w) (fun s => f_X8_hits s w) := by
  obtain ⟨t, iT, iR⟩ := id I
  have k := iT.1
  unfold f_X7_hits f_X8_hits
  rw [isP7]
  by_cases hw : w < 0 ∨ 1 < w
  · refine rl_bad I hL (by rw [if_pos hw]; rfl) ?_
    rw [in_at 0 1 0 1 rfl rfl, if_pos hw]; rfl
  obtain ⟨t2, b1, b2, b3, b4, b5⟩ := pb7 iT hL
  refine rl_fin (t := t) (a := 4) (b := 0) (c := 0) (w := w) (V := v4 t) (D := DN t) (τ1 := t2) I iT b3 rfl (by rw [if_neg (by decide), Nat.one_mul]) (fun x n => by have := v4_b k x n; omega) (fun σ' x n h1 h2 h3 => vo_4 (R8_fr h1 (InvT_R8 (InvT_sg (s41_sg _ _) iT)))) ?_ ?_
  · rw [if_neg hw, bso, if_neg (by decide), b1, bso]
    dsimp only
    rw [hit7 iT b5, bso, whole_n k b2, bso, ← SO_v4 (ON_rf t)]
  · rw [in_at 0 1 0 1 rfl rfl, if_neg hw, bso, if_neg (by decide)]
theorem u_torn {σ : ZI} {τ : ZL} (I : Inv σ) (hL : InL τ) (w : Int32) : RLz (f_X7_torn σ τ w) (fun s => f_X8_torn s w) := by
  obtain ⟨t, iT, iR⟩ := id I
  have k := iT.1
  unfold f_X7_torn f_X8_torn
  rw [isP7]
  by_cases hw : w < 0 ∨ 1 < w
  · refine rl_bad I hL (by rw [if_pos hw]; rfl) ?_
    rw [in_at 0 1 0 1 rfl rfl, if_pos hw]; rfl
  obtain ⟨t2, b1, b2, b3, b4, b5⟩ := pb7 iT hL
  refine rl_fin (t := t) (a := 5) (b := 0) (c := 0) (w := w) (V := v5 t) (D := DN t) (τ1 := t2) I iT b3 rfl (by rw [if_neg (by decide), Nat.one_mul]) (fun x n => by have := v5_b t x n; omega) (fun σ' x n h1 h2 h3 => vo_5 (R8_fr h1 (InvT_R8 (InvT_sg (s41_sg _ _) iT)))) ?_ ?_
  · rw [if_neg hw, bso, if_neg (by decide), b1, bso]
    dsimp only
    rw [torn7 iT b3 b5, bso, whole_n k b2, bso, ← SO_v5 (ON_rf t)]
  · rw [in_at 0 1 0 1 rfl rfl, if_neg hw, bso, if_neg (by decide)]
theorem u_worth {σ : ZI} {τ : ZL} (I : Inv σ) (hL : InL τ) (w : Int32) : RLz (f_X7_worth σ τ w) (fun s => f_X8_worth s w) := by
  obtain ⟨t, iT, iR⟩ := id I
  have k := iT.1
  unfold f_X7_worth f_X8_worth
  rw [isP7]
  by_cases hw : w < 0 ∨ 1 < w
  · refine rl_bad I hL (by rw [if_pos hw]; rfl) ?_
    rw [in_at 0 1 0 1 rfl rfl, if_pos hw]; rfl
  obtain ⟨t2, b1, b2, b3, b4, b5⟩ := pb7 iT hL
  refine rl_fin (t := t) (a := 6) (b := 0) (c := 0) (w := w) (V := v6 t) (D := 10 * DN t) (τ1 := t2) I iT b3 rfl (by rw [if_pos (.inr rfl)]) (fun x n => v6_b k x n) (fun σ' x n h1 h2 h3 => vo_6 (R8_fr h1 (InvT_R8 (InvT_sg (s41_sg _ _) iT)))) ?_ ?_
  · rw [if_neg hw, bso, if_neg (by decide), b1, bso]
    dsimp only
    rw [wor7 iT b3 b5, bso, whole_n k b2, bso, ← SO_v6 (ON_rf t), show (10 : Int64) = iL 10 from rfl, ← iL_mul, Int.natCast_mul]
    rfl
  · rw [in_at 0 1 0 1 rfl rfl, if_neg hw, bso, if_neg (by decide)]
/-- what was seen, on both sides -/
theorem seen_b {t : NN} {σ : ZI} (iS : InvS t σ) : ∃ N sj sc, S7 (t 0 0) N sj sc (s41 σ (t 0 0)) ∧ S8 (t 0 0) N sj sc (s41 σ (t 0 0)) ∧ ∀ i, i < N → 1 ≤ sj i ∧ sj i ≤ t 0 0 := by
  obtain ⟨n, j, c, s1, s2, s3, s4⟩ := iS
  refine ⟨n, j, c, ⟨s1, s2, fun i hi => ?_⟩, ⟨s1, s3, fun i hi => ?_⟩, fun i hi => ⟨(s4 i hi).1, (s4 i hi).2.1⟩⟩
  · obtain ⟨a1, a2, a3, a4, a5, a6, a7⟩ := s4 i hi
    exact ⟨a1, a2, a3, a4, a5⟩
  · obtain ⟨a1, a2, a3, a4, a5, a6, a7⟩ := s4 i hi
    exact ⟨a1, a2, a3, a6, a7⟩
theorem u_likely {σ : ZI} {τ : ZL} (I : Inv σ) (hL : InL τ) (w : Int32) : RLz (f_X7_likely σ τ w) (fun s => f_X8_likely s w) := by
  obtain ⟨t, iT, iR⟩ := id I
  have k := iT.1
  have k1 := k.1
  unfold f_X7_likely f_X8_likely
  rw [isP7]
  by_cases hw : w < 0 ∨ 1 < w
  · refine rl_bad I hL (by rw [if_pos hw]; rfl) ?_
    rw [in_at 0 1 0 1 rfl rfl, if_pos hw]; rfl
  obtain ⟨N, sj, sc, S1, S2, S3⟩ := seen_b iR.2.2.1
  obtain ⟨t1, a1, a2, a3⟩ := wb7 (InvT_T7 iT) τ (s := t 0 6) (by omega) (cl := -4) (.inl ⟨rfl, rfl⟩)
  obtain ⟨t2, b1, b2⟩ := seen7 (σ := s41 σ (t 0 0)) (by omega) (s41_0 σ _) S1 a3.1
  have w2 : Wg t2 (PO t (t 0 6) (t 5)) (t 0 0) := Wg_fr (fun c k _ _ => b2 c k (by omega) (by omega)) a3
  refine rl_fin (t := t) (a := 7) (b := 0) (c := 0) (w := w) (V := v7 t sj sc N) (D := DN t) (τ1 := t2) I iT ((b2 50 0 (by omega) (by omega)).trans ((a2 50 0 (by omega)).trans hL)) (seen_v7 k S3 (oq (t 0 6)) (orr (t 5))) (by rw [if_neg (by decide), Nat.one_mul]) (fun x n => by unfold v7; split <;> omega) (fun σ' x n h1 h2 h3 => vo_7 (R8_fr h1 (InvT_R8 (InvT_sg (s41_sg _ _) iT))) (S8_fr h1 S2) (by have := p2J k1.2.1; omega) (by have := p2J (J := t 0 2) (by omega); omega)) ?_ ?_
  · rw [if_neg hw, bso, if_neg (by decide), v1_6, bso, show σ 2 6 = _ from iT.2.1.1 6 (by omega), a1, bso]
    dsimp only
    rw [b1, bso]
    dsimp only
    rw [whole_n k w2, bso]
    rfl
  · rw [in_at 0 1 0 1 rfl rfl, if_neg hw, bso, if_neg (by decide)]
