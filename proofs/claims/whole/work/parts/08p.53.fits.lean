/-! fits: the class's side *-/
def q1_ : Nat → Int × Int := fun _ => (1, 1)
def fz (j : Nat) (b : Bool) : Nat → Int × Int := fun i => if i = j then (if b then (1, 0) else (0, 1)) else (1, 1)
def PA (t : NN) : PP := PQ q1_ q1_ (t 4) (t 0 2)
theorem PA_2 (t : NN) (j : Nat) : PA t 2 j = if fi (fun m => t 4 m == j + 1) (t 0 2) < t 0 2 then 1 else 0 := rfl
theorem PA_3 (t : NN) (j : Nat) : PA t 3 j = 1 := by
  show (if ma (t 4) (t 0 2) j < t 0 2 then (1 : Int) else 1) = 1
  split <;> rfl
theorem wa_l {t : NN} {σ : ZI} (q : T7 t σ) (h41 : σ 41 0 = nI (t 0 0)) : ∀ (d j fu : Nat) (τ : ZL), j + d = t 0 0 → d < fu → Wt τ (PA t) j → ∃ τ', f_X0_weighAlike_16 1 fu σ τ (nI (j + 1)) = some (σ, τ') ∧ (∀ c k, c < 42 ∨ 46 < c → τ' c k = τ c k) ∧ Wt τ' (PA t) (t 0 0) := by
  obtain ⟨kk, tv⟩ := q
  have k1 := kk.1
  have k4 := kk.2.2.2.1
  intro d
  induction d with
  | zero =>
    intro j fu τ h1 h2 h3
    obtain ⟨fu, rfl⟩ : ∃ m, fu = m + 1 := ⟨fu - 1, by omega⟩
    obtain rfl : j = t 0 0 := by omega
    obtain ⟨τ', g1, g2, g3⟩ := beh7 (σ := σ) (by omega) h41 h3
    exact ⟨τ', by rw [f_X0_weighAlike_16, h41, if_pos (nI_lt (by omega) (by omega)), g1, bso], fun c k h => g2 c k (by omega), g3.1⟩
  | succ d ih =>
    intro j fu τ h1 h2 h3
    obtain ⟨fu, rfl⟩ : ∃ m, fu = m + 1 := ⟨fu - 1, by omega⟩
    have ib : inB (nI (j + 1)) 11 = true := inB11 (by omega)
    have em := mk_n (σ := σ) (b := 1) (M := t 0 2) (j := j + 1) (mj := t 4) rfl rfl rfl (by omega) (by omega) (tv.1 2 (by omega)) (fun m hm => ⟨by have := k4 m hm; omega, (tv.2.2.1 m hm).1⟩)
    have hf := fi_le (fun m => t 4 m == j + 1) (t 0 2)
    have key : ∀ (x : Int64), x = iL (PA t 2 j) → ∃ τ', f_X0_weighAlike_58 1 (fun σ τ v2 => f_X0_weighAlike_16 1 fu σ τ v2) σ (va_up (va_up τ 42 (vp_updL (τ 42) (j + 1) 1)) 43 (vp_updL (va_up τ 42 (vp_updL (τ 42) (j + 1) 1) 43) (j + 1) 1)) (nI (j + 1)) x (nI (j + 1)) = some (σ, τ') ∧ (∀ c k, c < 42 ∨ 46 < c → τ' c k = τ c k) ∧ Wt τ' (PA t) (t 0 0) := by
      intro x hx
      unfold f_X0_weighAlike_58
      rw [if_pos ib, ltq, if_pos ib, ltq, nI_1, nI_clamp (by omega)]
      obtain ⟨t1, ht1⟩ : ∃ t1, t1 = va_up τ 42 (vp_updL (τ 42) (j + 1) 1) := ⟨_, rfl⟩
      rw [← ht1]
      obtain ⟨t2, ht2⟩ : ∃ t2, t2 = va_up t1 43 (vp_updL (t1 43) (j + 1) 1) := ⟨_, rfl⟩
      rw [← ht2]
      obtain ⟨t3, ht3⟩ : ∃ t3, t3 = va_up t2 44 (vp_updL (t2 44) (j + 1) x) := ⟨_, rfl⟩
      rw [← ht3]
      obtain ⟨t4, ht4⟩ : ∃ t4, t4 = va_up t3 45 (vp_updL (t3 45) (j + 1) 1) := ⟨_, rfl⟩
      rw [← ht4]
      have o4 : ∀ c k, ¬ (42 ≤ c ∧ c ≤ 45 ∧ k = j + 1) → t4 c k = τ c k := fun c k h => by
        rw [ht4, vu_n t3 (by omega), ht3, vu_n t2 (by omega), ht2, vu_n t1 (by omega), ht1, vu_n τ (by omega)]
      obtain ⟨τ', g1, g2, g3⟩ := ih (j + 1) fu t4 (by omega) (by omega) (fun i hi => by
        by_cases z : i = j
        · subst z
          refine ⟨?_, ?_, ?_, ?_⟩
          · rw [ht4, vu_n t3 (.inl (by omega)), ht3, vu_n t2 (.inl (by omega)), ht2, vu_n t1 (.inl (by omega)), ht1, vu_s]; rfl
          · rw [ht4, vu_n t3 (.inl (by omega)), ht3, vu_n t2 (.inl (by omega)), ht2, vu_s]; rfl
          · rw [ht4, vu_n t3 (.inl (by omega)), ht3, vu_s, hx]
          · rw [ht4, vu_s, PA_3]; rfl
        · obtain ⟨a, b, c, e⟩ := h3 i (by omega)
          exact ⟨(o4 _ _ (by omega)).trans a, (o4 _ _ (by omega)).trans b, (o4 _ _ (by omega)).trans c, (o4 _ _ (by omega)).trans e⟩)
      exact ⟨τ', g1, fun c k h => (g2 c k h).trans (o4 c k (by omega)), g3⟩
    rw [f_X0_weighAlike_16, h41, if_neg (nI_nlt (by omega) (by omega)), if_pos ib, ltq, if_pos ib, ltq, em, bso, nI_clamp (by omega)]
    by_cases hm : fi (fun m => t 4 m == j + 1) (t 0 2) < t 0 2
    · rw [if_pos hm, if_neg (nI_nm4 (by omega))]
      exact key _ (by rw [PA_2, if_pos hm]; rfl)
    · rw [if_neg hm, if_pos rfl]
      exact key _ (by rw [PA_2, if_neg hm]; rfl)
theorem wa7 {t : NN} {σ : ZI} (q : T7 t σ) (τ : ZL) : ∃ τ', f_X0_weighAlike σ τ 1 = some (s41 σ (t 0 0), τ') ∧ (∀ c k, c < 42 ∨ 46 < c → τ' c k = τ c k) ∧ Wt τ' (PA t) (t 0 0) := by
  have k1 := q.1.1
  have q' : T7 t (s41 σ (t 0 0)) := ⟨q.1, TV_fr (fun r i h1 h2 => by show va_up σ 41 _ (1 + r) i = _; simp only [va_up, if_neg (show 1 + r ≠ 41 by omega)]) q.2⟩
  unfold f_X0_weighAlike
  rw [if_pos (by decide), v1_0, bso, show σ 2 0 = _ from q.2.1 0 (by omega), ltq, if_neg (show ¬ (10 : Int32) < nI (t 0 0) from nI_nlt (b := t 0 0) (a := 10) (by omega) (by omega))]
  exact wa_l q' (s41_0 σ _) (t 0 0) 0 3000 τ (by omega) (by omega) (fun j hj => absurd hj (Nat.not_lt_zero _))
theorem fm7 {τ : ZL} {j : Nat} (hj : j < 11) (b : Bool) : ∃ τ', f_X0_forceMiss τ (nI j) (if b then 1 else 0) = some τ' ∧ (∀ c k, ¬ ((c = 42 ∨ c = 43) ∧ k = j) → τ' c k = τ c k) ∧ τ' 42 j = iL (if b then 1 else 0) ∧ τ' 43 j = iL (if b then 0 else 1) := by
  unfold f_X0_forceMiss f_X0_forceMiss_14 f_X0_forceMiss_31
  cases b
  · simp only [Bool.false_eq_true, if_false]
    rw [if_pos trivial, putL_n rfl rfl hj, bso, if_pos trivial, putL_n rfl rfl hj, bso]
    refine ⟨_, rfl, fun c k h => ?_, ?_, vu_s _ _ _ _⟩
    · rw [vu_n _ (by omega), vu_n _ (by omega)]
    · rw [vu_n _ (.inl (by omega)), vu_s]; rfl
  · simp only [if_true]
    rw [if_neg (by decide), putL_n rfl rfl hj, bso, if_neg (by decide), putL_n rfl rfl hj, bso]
    refine ⟨_, rfl, fun c k h => ?_, ?_, vu_s _ _ _ _⟩
    · rw [vu_n _ (by omega), vu_n _ (by omega)]
    · rw [vu_n _ (.inl (by omega)), vu_s]; rfl
theorem fn7 {τ : ZL} {j : Nat} (hj : j < 11) (b : Bool) : ∃ τ', f_X0_forceNotice τ (nI j) (if b then 1 else 0) = some τ' ∧ (∀ c k, ¬ ((c = 44 ∨ c = 45) ∧ k = j) → τ' c k = τ c k) ∧ τ' 44 j = iL (if b then 1 else 0) ∧ τ' 45 j = iL (if b then 0 else 1) := by
  unfold f_X0_forceNotice f_X0_forceNotice_14 f_X0_forceNotice_31
  cases b
  · simp only [Bool.false_eq_true, if_false]
    rw [if_pos trivial, putL_n rfl rfl hj, bso, if_pos trivial, putL_n rfl rfl hj, bso]
    refine ⟨_, rfl, fun c k h => ?_, ?_, vu_s _ _ _ _⟩
    · rw [vu_n _ (by omega), vu_n _ (by omega)]
    · rw [vu_n _ (.inl (by omega)), vu_s]; rfl
  · simp only [if_true]
    rw [if_neg (by decide), putL_n rfl rfl hj, bso, if_neg (by decide), putL_n rfl rfl hj, bso]
    refine ⟨_, rfl, fun c k h => ?_, ?_, vu_s _ _ _ _⟩
    · rw [vu_n _ (by omega), vu_n _ (by omega)]
    · rw [vu_n _ (.inl (by omega)), vu_s]; rfl
/-- weights that are 0 or 1 -/
def W01 (q : Nat → Int × Int) (k : Nat) : Prop := ∀ x, wp q x k = 0 ∨ wp q x k = 1
theorem wp_q1 (x : Nat) : ∀ k, wp q1_ x k = 1
  | 0 => rfl
  | k + 1 => by
    unfold wp
    rw [wp_q1 x k]
    split <;> rfl
theorem wp_fz (j : Nat) (b : Bool) (x : Nat) : ∀ k, wp (fz j b) x k = if j < k ∧ x.testBit j ≠ b then 0 else 1
  | 0 => by rw [if_neg (by omega)]; rfl
  | k + 1 => by
    unfold wp
    rw [wp_fz j b x k]
    unfold fz
    by_cases h : k = j
    · subst h
      rw [if_neg (by omega)]
      cases b <;> cases x.testBit k <;> simp
    · by_cases h2 : j < k ∧ x.testBit j ≠ b
      · rw [if_pos h2, Int.zero_mul, if_pos (show j < k + 1 ∧ x.testBit j ≠ b from ⟨by omega, h2.2⟩)]
      · rw [if_neg h2, if_neg (show ¬ (j < k + 1 ∧ x.testBit j ≠ b) from fun z => h2 ⟨by omega, z.2⟩), if_neg h]
        split <;> rfl
theorem W01_q1 (k : Nat) : W01 q1_ k := fun x => .inr (wp_q1 x k)
theorem W01_fz (j : Nat) (b : Bool) (k : Nat) : W01 (fz j b) k := fun x => by
  rw [wp_fz]
  split
  · exact .inl rfl
  · exact .inr rfl
theorem sm_z {f : Nat → Int} : ∀ {n : Nat}, (∀ i, i < n → 0 ≤ f i) → (sm f n = 0 ↔ ∀ i, i < n → f i = 0)
  | 0, _ => ⟨fun _ i hi => absurd hi (Nat.not_lt_zero _), fun _ => rfl⟩
  | n + 1, h => by
    have h1 := sm_nn (n := n) fun i hi => h i (by omega)
    have h2 := h n (by omega)
    have ih := sm_z (n := n) fun i hi => h i (by omega)
    have e : sm f (n + 1) = sm f n + f n := rfl
    constructor
    · intro z i hi
      by_cases y : i = n
      · subst y; omega
      · exact ih.mp (by omega) i (by omega)
    · intro z
      rw [e, ih.mpr fun i hi => z i (by omega), z n (by omega)]
      rfl
theorem SN_01 {q r : Nat → Int × Int} {J M : Nat} (hq : W01 q J) (hr : W01 r M) {V : Nat → Nat → Int} (hV : ∀ x n, 0 ≤ V x n ∧ V x n ≤ 1) (hJ : J ≤ 10) (hM : M ≤ 3) : 0 ≤ SN q r J M V ∧ SN q r J M V ≤ 8192 ∧ (SN q r J M V = 0 ↔ ∀ x, x < 2 ^ J → ∀ n, n < 2 ^ M → wp q x J * (wp r n M * V x n) = 0) := by
  have p1 : 2 ^ J ≤ 2 ^ 10 := Nat.pow_le_pow_right (by omega) hJ
  have p2 : 2 ^ M ≤ 2 ^ 3 := Nat.pow_le_pow_right (by omega) hM
  have i1 : ∀ x n, 0 ≤ wp r n M * V x n ∧ wp r n M * V x n ≤ 1 := fun x n => by
    have := hV x n
    rcases hr n with h | h <;> rw [h] <;> omega
  have i2 : ∀ x, 0 ≤ sm (fun n => wp r n M * V x n) (2 ^ M) ∧ sm (fun n => wp r n M * V x n) (2 ^ M) ≤ 8 := fun x => by
    have a := sm_nn (n := 2 ^ M) fun n _ => (i1 x n).1
    have b := sm_ub (n := 2 ^ M) fun n _ => (i1 x n).2
    omega
  have i3 : ∀ x, 0 ≤ wp q x J * sm (fun n => wp r n M * V x n) (2 ^ M) ∧ wp q x J * sm (fun n => wp r n M * V x n) (2 ^ M) ≤ 8 := fun x => by
    have := i2 x
    rcases hq x with h | h <;> rw [h] <;> omega
  have a := sm_nn (n := 2 ^ J) fun x _ => (i3 x).1
  have b := sm_ub (n := 2 ^ J) fun x _ => (i3 x).2
  unfold SN
  refine ⟨a, by omega, ?_⟩
  rw [sm_z fun x _ => (i3 x).1]
  constructor
  · intro h x hx n hn
    rcases hq x with z | z
    · rw [z, Int.zero_mul]
    · have := h x hx
      rw [z, Int.one_mul, sm_z fun n _ => (i1 x n).1] at this
      rw [this n hn, Int.mul_zero]
  · intro h x hx
    rcases hq x with z | z
    · rw [z, Int.zero_mul]
    · rw [z, Int.one_mul, sm_z fun n _ => (i1 x n).1]
      intro n hn
      have := h x hx n hn
      rw [z, Int.one_mul] at this
      exact this
theorem iL_z {z : Int} (h : 0 ≤ z ∧ z ≤ 8192) : iL z = 0 ↔ z = 0 := by
  constructor
  · intro e
    have := iL_toInt (z := z) (by omega)
    rw [e] at this
    exact this.symm
  · rintro rfl; rfl
theorem v7_01 (t : NN) (sj sc : Nat → Nat) (N x n : Nat) : 0 ≤ v7 t sj sc N x n ∧ v7 t sj sc N x n ≤ 1 := by unfold v7; split <;> omega
def FN (t : NN) (sj sc : Nat → Nat) (N : Nat) (q r : Nat → Int × Int) : Int := SN q r (t 0 0) (t 0 2) (v7 t sj sc N)
theorem jm_l {t : NN} {σ : ZI} (iT : InvT t σ) {N : Nat} {sj sc : Nat → Nat} (S1 : S7 (t 0 0) N sj sc (s41 σ (t 0 0))) (S3 : ∀ i, i < N → 1 ≤ sj i ∧ sj i ≤ t 0 0) (ba : Bool) : ∀ (d j fu : Nat) (τ : ZL) (z : Nat), j + d = t 0 0 → d < fu → InL τ → z < 2 ^ j → ∃ z' τ', z' < 2 ^ t 0 0 ∧ InL τ' ∧ f_X7_jointsMissed_4 (if ba then 1 else 0) fu (s41 σ (t 0 0)) τ (nI z) (nI (j + 1)) = some (nI z', s41 σ (t 0 0), τ') ∧ ∀ i, i < t 0 0 → z'.testBit i = if i < j then z.testBit i else decide (FN t sj sc N (fz i (!ba)) q1_ = 0) := by
  have kk := iT.1
  have k1 := kk.1
  have iB : InvT t (s41 σ (t 0 0)) := InvT_sg (s41_sg _ _) iT
  intro d
  induction d with
  | zero =>
    intro j fu τ z h1 h2 h3 h4
    obtain ⟨fu, rfl⟩ : ∃ m, fu = m + 1 := ⟨fu - 1, by omega⟩
    obtain rfl : j = t 0 0 := by omega
    exact ⟨z, τ, h4, h3, by rw [f_X7_jointsMissed_4, v1_0, bso, show (s41 σ (t 0 0)) 2 0 = _ from iT.2.1.1 0 (by omega), if_pos (nI_lt (by omega) (by omega))], fun i hi => by rw [if_pos hi]⟩
  | succ d ih =>
    intro j fu τ z h1 h2 h3 h4
    obtain ⟨fu, rfl⟩ : ∃ m, fu = m + 1 := ⟨fu - 1, by omega⟩
    obtain ⟨t1, a1, a2, a3⟩ := wa7 (InvT_T7 iB) τ
    rw [s41_2] at a1
    obtain ⟨t2, b1, b2, b3, b4⟩ := fm7 (τ := t1) (j := j + 1) (by omega) (!ba)
    have w2 : Wt t2 (PQ (fz j (!ba)) q1_ (t 4) (t 0 2)) (t 0 0) := fun i hi => by
      obtain ⟨x1, x2, x3, x4⟩ := a3 i hi
      refine ⟨?_, ?_, (b2 _ _ (by omega)).trans x3, (b2 _ _ (by omega)).trans x4⟩
      · show t2 42 (i + 1) = iL (fz j (!ba) i).1
        unfold fz
        by_cases y : i = j
        · subst y; rw [b3, if_pos rfl]; cases ba <;> rfl
        · rw [if_neg y, b2 _ _ (by omega)]; exact x1
      · show t2 43 (i + 1) = iL (fz j (!ba) i).2
        unfold fz
        by_cases y : i = j
        · subst y; rw [b4, if_pos rfl]; cases ba <;> rfl
        · rw [if_neg y, b2 _ _ (by omega)]; exact x2
    obtain ⟨t3, c1, c2⟩ := seen7 (σ := s41 σ (t 0 0)) (by omega) (s41_0 σ _) S1 w2
    rw [seen_v7 kk S3] at c1
    have bd := SN_01 (W01_fz j (!ba) (t 0 0)) (W01_q1 (t 0 2)) (v7_01 t sj sc N) (by omega) (by omega)
    have L3 : InL t3 := by
      show t3 50 0 = 0
      rw [c2 50 0 (by omega) (by omega), b2 50 0 (by omega), a2 50 0 (by omega)]; exact h3
    have e41 : ∀ (v2 : Int32), f_X7_jointsMissed_41 (if ba then 1 else 0) (fun σ τ v2 v3 => f_X7_jointsMissed_4 (if ba then 1 else 0) fu σ τ v2 v3) (s41 σ (t 0 0)) t1 v2 (nI (j + 1)) (if !ba then 1 else 0) (nI (j + 1)) = if FN t sj sc N (fz j (!ba)) q1_ = 0 then f_X7_jointsMissed_4 (if ba then 1 else 0) fu (s41 σ (t 0 0)) t3 (v2 ||| nI (2 ^ j)) (nI (j + 1 + 1)) else f_X7_jointsMissed_4 (if ba then 1 else 0) fu (s41 σ (t 0 0)) t3 v2 (nI (j + 1 + 1)) := by
      intro v2
      unfold f_X7_jointsMissed_41 f_X7_jointsMissed_68
      rw [b1, bso, c1, bso]
      dsimp only
      rw [nI_pred, sbl (by omega), ltq, nI_1]
      by_cases y : FN t sj sc N (fz j (!ba)) q1_ = 0
      · rw [if_pos y, if_pos ((cmp0 _ _).mpr ((iL_z ⟨bd.1, bd.2.1⟩).mpr y))]
      · rw [if_neg y, if_neg (fun w => y ((iL_z ⟨bd.1, bd.2.1⟩).mp ((cmp0 _ _).mp w)))]
    have body : f_X7_jointsMissed_4 (if ba then 1 else 0) (fu + 1) (s41 σ (t 0 0)) τ (nI z) (nI (j + 1)) = if FN t sj sc N (fz j (!ba)) q1_ = 0 then f_X7_jointsMissed_4 (if ba then 1 else 0) fu (s41 σ (t 0 0)) t3 (nI z ||| nI (2 ^ j)) (nI (j + 1 + 1)) else f_X7_jointsMissed_4 (if ba then 1 else 0) fu (s41 σ (t 0 0)) t3 (nI z) (nI (j + 1 + 1)) := by
      rw [← e41, f_X7_jointsMissed_4, v1_0, bso, show (s41 σ (t 0 0)) 2 0 = _ from iT.2.1.1 0 (by omega), if_neg (nI_nlt (by omega) (by omega)), a1, bso]
      cases ba <;> rfl
    have zj : z < 2 ^ 10 := Nat.lt_of_lt_of_le h4 (Nat.pow_le_pow_right (by omega) (by omega))
    rw [body]
    by_cases y : FN t sj sc N (fz j (!ba)) q1_ = 0
    · rw [if_pos y, or_n (by omega) zj]
      obtain ⟨z', τ', g1, g2, g3, g4⟩ := ih (j + 1) fu t3 (z ||| 2 ^ j) (by omega) (by omega) L3 (Nat.or_lt_two_pow (Nat.lt_of_lt_of_le h4 (Nat.pow_le_pow_right (by omega) (by omega))) (Nat.pow_lt_pow_right (by omega) (by omega)))
      refine ⟨z', τ', g1, g2, g3, fun i hi => ?_⟩
      rw [g4 i hi, Nat.testBit_or, Nat.testBit_two_pow]
      by_cases w : i < j
      · rw [if_pos (by omega), if_pos w]; simp [show ¬ j = i by omega]
      · by_cases w2 : i = j
        · subst w2; rw [if_pos (by omega), if_neg w]; simp [y]
        · rw [if_neg (by omega), if_neg w]
    · rw [if_neg y]
      obtain ⟨z', τ', g1, g2, g3, g4⟩ := ih (j + 1) fu t3 z (by omega) (by omega) L3 (Nat.lt_of_lt_of_le h4 (Nat.pow_le_pow_right (by omega) (by omega)))
      refine ⟨z', τ', g1, g2, g3, fun i hi => ?_⟩
      rw [g4 i hi]
      by_cases w : i < j
      · rw [if_pos (by omega), if_pos w]
      · by_cases w2 : i = j
        · subst w2; rw [if_pos (by omega), if_neg w, tb_hi h4]; simp [y]
        · rw [if_neg (by omega), if_neg w]
theorem mm_l {t : NN} {σ : ZI} (iT : InvT t σ) {N : Nat} {sj sc : Nat → Nat} (S1 : S7 (t 0 0) N sj sc (s41 σ (t 0 0))) (S3 : ∀ i, i < N → 1 ≤ sj i ∧ sj i ≤ t 0 0) (ba : Bool) : ∀ (d j fu : Nat) (τ : ZL) (z : Nat), j + d = t 0 2 → d < fu → InL τ → z < 2 ^ j → ∃ z' τ', z' < 2 ^ t 0 2 ∧ InL τ' ∧ f_X7_marksNoticed_4 (if ba then 1 else 0) fu (s41 σ (t 0 0)) τ (nI z) (nI j) = some (nI z', s41 σ (t 0 0), τ') ∧ ∀ i, i < t 0 2 → z'.testBit i = if i < j then z.testBit i else decide (FN t sj sc N q1_ (fz i (!ba)) = 0) := by
  have kk := iT.1
  have k1 := kk.1
  have k4 := kk.2.2.2.1
  have iB : InvT t (s41 σ (t 0 0)) := InvT_sg (s41_sg _ _) iT
  intro d
  induction d with
  | zero =>
    intro j fu τ z h1 h2 h3 h4
    obtain ⟨fu, rfl⟩ : ∃ m, fu = m + 1 := ⟨fu - 1, by omega⟩
    obtain rfl : j = t 0 2 := by omega
    exact ⟨z, τ, h4, h3, by rw [f_X7_marksNoticed_4, v1_2, bso, show (s41 σ (t 0 0)) 2 2 = _ from iT.2.1.1 2 (by omega), if_pos (Int32.le_refl _)], fun i hi => by rw [if_pos hi]⟩
  | succ d ih =>
    intro j fu τ z h1 h2 h3 h4
    obtain ⟨fu, rfl⟩ : ∃ m, fu = m + 1 := ⟨fu - 1, by omega⟩
    have kj := k4 j (by omega)
    have emj := ma_is (mj := t 4) (M := t 0 2) (m := j) (by omega) kj.1 kk.2.2.2.2.1
    obtain ⟨t1, a1, a2, a3⟩ := wa7 (InvT_T7 iB) τ
    rw [s41_2] at a1
    obtain ⟨t2, b1, b2, b3, b4⟩ := fn7 (τ := t1) (j := t 4 j) (by omega) (!ba)
    have w2 : Wt t2 (PQ q1_ (fz j (!ba)) (t 4) (t 0 2)) (t 0 0) := fun i hi => by
      obtain ⟨x1, x2, x3, x4⟩ := a3 i hi
      have y1 : i + 1 = t 4 j → ma (t 4) (t 0 2) i = j := fun y => by
        rw [← y] at emj; exact emj
      have y2 : ma (t 4) (t 0 2) i < t 0 2 → ma (t 4) (t 0 2) i = j → i + 1 = t 4 j := fun a b => by
        have := fi_yes (p := fun m => t 4 m == i + 1) (n := t 0 2) a
        rw [show fi (fun m => t 4 m == i + 1) (t 0 2) = j from b] at this
        simp at this
        omega
      refine ⟨(b2 _ _ (by omega)).trans x1, (b2 _ _ (by omega)).trans x2, ?_, ?_⟩
      · show t2 44 (i + 1) = iL (if ma (t 4) (t 0 2) i < t 0 2 then (fz j (!ba) (ma (t 4) (t 0 2) i)).1 else 0)
        by_cases y : i + 1 = t 4 j
        · rw [y, b3, y1 y, if_pos (show j < t 0 2 by omega)]
          unfold fz
          rw [if_pos rfl]
          cases ba <;> rfl
        · rw [b2 _ _ (by omega), x3, PA_2]
          by_cases w : ma (t 4) (t 0 2) i < t 0 2
          · rw [if_pos w, if_pos (show fi (fun m => t 4 m == i + 1) (t 0 2) < t 0 2 from w)]
            unfold fz
            rw [if_neg (fun v => y (y2 w v))]
          · rw [if_neg w, if_neg (show ¬ fi (fun m => t 4 m == i + 1) (t 0 2) < t 0 2 from w)]
      · show t2 45 (i + 1) = iL (if ma (t 4) (t 0 2) i < t 0 2 then (fz j (!ba) (ma (t 4) (t 0 2) i)).2 else 1)
        by_cases y : i + 1 = t 4 j
        · rw [y, b4, y1 y, if_pos (show j < t 0 2 by omega)]
          unfold fz
          rw [if_pos rfl]
          cases ba <;> rfl
        · rw [b2 _ _ (by omega), x4, PA_3]
          by_cases w : ma (t 4) (t 0 2) i < t 0 2
          · rw [if_pos w]
            unfold fz
            rw [if_neg (fun v => y (y2 w v))]
          · rw [if_neg w]
    obtain ⟨t3, c1, c2⟩ := seen7 (σ := s41 σ (t 0 0)) (by omega) (s41_0 σ _) S1 w2
    rw [seen_v7 kk S3] at c1
    have bd := SN_01 (W01_q1 (t 0 0)) (W01_fz j (!ba) (t 0 2)) (v7_01 t sj sc N) (by omega) (by omega)
    have L3 : InL t3 := by
      show t3 50 0 = 0
      rw [c2 50 0 (by omega) (by omega), b2 50 0 (by omega), a2 50 0 (by omega)]; exact h3
    have e41 : ∀ (v2 : Int32), f_X7_marksNoticed_51 (if ba then 1 else 0) (fun σ τ v2 v3 => f_X7_marksNoticed_4 (if ba then 1 else 0) fu σ τ v2 v3) (s41 σ (t 0 0)) t1 v2 (nI j) (if !ba then 1 else 0) (nI (t 4 j)) = if FN t sj sc N q1_ (fz j (!ba)) = 0 then f_X7_marksNoticed_4 (if ba then 1 else 0) fu (s41 σ (t 0 0)) t3 (v2 ||| nI (2 ^ j)) (nI (j + 1)) else f_X7_marksNoticed_4 (if ba then 1 else 0) fu (s41 σ (t 0 0)) t3 v2 (nI (j + 1)) := by
      intro v2
      unfold f_X7_marksNoticed_51 f_X7_marksNoticed_76
      rw [b1, bso, c1, bso]
      dsimp only
      rw [sbl (by omega), ltq, nI_1]
      by_cases y : FN t sj sc N q1_ (fz j (!ba)) = 0
      · rw [if_pos y, if_pos ((cmp0 _ _).mpr ((iL_z ⟨bd.1, bd.2.1⟩).mpr y))]
      · rw [if_neg y, if_neg (fun w => y ((iL_z ⟨bd.1, bd.2.1⟩).mp ((cmp0 _ _).mp w)))]
    have body : f_X7_marksNoticed_4 (if ba then 1 else 0) (fu + 1) (s41 σ (t 0 0)) τ (nI z) (nI j) = if FN t sj sc N q1_ (fz j (!ba)) = 0 then f_X7_marksNoticed_4 (if ba then 1 else 0) fu (s41 σ (t 0 0)) t3 (nI z ||| nI (2 ^ j)) (nI (j + 1)) else f_X7_marksNoticed_4 (if ba then 1 else 0) fu (s41 σ (t 0 0)) t3 (nI z) (nI (j + 1)) := by
      rw [← e41, f_X7_marksNoticed_4, v1_2, bso, show (s41 σ (t 0 0)) 2 2 = _ from iT.2.1.1 2 (by omega), if_neg (nI_ge (by omega) (by omega)), a1, bso, at_n (N := 3) rfl (by omega) (by omega), bso]
      dsimp only
      rw [show (s41 σ (t 0 0)) 6 j = _ from (iT.2.1.2.2.1 j (by omega)).1]
      cases ba <;> rfl
    have zj : z < 2 ^ 10 := Nat.lt_of_lt_of_le h4 (Nat.pow_le_pow_right (by omega) (by omega))
    rw [body]
    by_cases y : FN t sj sc N q1_ (fz j (!ba)) = 0
    · rw [if_pos y, or_n (by omega) zj]
      obtain ⟨z', τ', g1, g2, g3, g4⟩ := ih (j + 1) fu t3 (z ||| 2 ^ j) (by omega) (by omega) L3 (Nat.or_lt_two_pow (Nat.lt_of_lt_of_le h4 (Nat.pow_le_pow_right (by omega) (by omega))) (Nat.pow_lt_pow_right (by omega) (by omega)))
      refine ⟨z', τ', g1, g2, g3, fun i hi => ?_⟩
      rw [g4 i hi, Nat.testBit_or, Nat.testBit_two_pow]
      by_cases w : i < j
      · rw [if_pos (by omega), if_pos w]; simp [show ¬ j = i by omega]
      · by_cases w2 : i = j
        · subst w2; rw [if_pos (by omega), if_neg w]; simp [y]
        · rw [if_neg (by omega), if_neg w]
    · rw [if_neg y]
      obtain ⟨z', τ', g1, g2, g3, g4⟩ := ih (j + 1) fu t3 z (by omega) (by omega) L3 (Nat.lt_of_lt_of_le h4 (Nat.pow_le_pow_right (by omega) (by omega)))
      refine ⟨z', τ', g1, g2, g3, fun i hi => ?_⟩
      rw [g4 i hi]
      by_cases w : i < j
      · rw [if_pos (by omega), if_pos w]
      · by_cases w2 : i = j
        · subst w2; rw [if_pos (by omega), if_neg w, tb_hi h4]; simp [y]
        · rw [if_neg (by omega), if_neg w]
