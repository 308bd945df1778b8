/-! what a night of which all is known is worth -/
theorem okK1 (mj : Nat → Nat) (M x n : Nat) : ∀ j, okK mj M x n K1 j = true
  | 0 => rfl
  | j + 1 => by unfold okK; rw [okK1 mj M x n j]; rfl
theorem tQ_bit {t : NN} {x n j : Nat} : ∀ m, (tQ t x n m).testBit j = decide (j < m ∧ tp t x n j = 1)
  | 0 => by
    show (0 : Nat).testBit j = _
    simp
  | m + 1 => by
    have ih := tQ_bit (t := t) (x := x) (n := n) (j := j) m
    unfold tQ
    by_cases h : tp t x n m = 1
    · rw [if_pos h, Nat.testBit_or, ih, Nat.testBit_two_pow]
      by_cases e : m = j
      · subst e; simp [h]
      · have : (j < m + 1) = (j < m) := by apply propext; omega
        simp [e, this]
    · rw [if_neg h, ih]
      by_cases e : m = j
      · subst e; simp [h]
      · have : (j < m + 1) = (j < m) := by apply propext; omega
        simp [this]
theorem tH_bit {t : NN} {x n j : Nat} : ∀ m, (tH t x n m).testBit j = decide (j < m ∧ tp t x n j = 1 ∧ (t 0 4).testBit j = true)
  | 0 => by
    show (0 : Nat).testBit j = _
    simp
  | m + 1 => by
    have ih := tH_bit (t := t) (x := x) (n := n) (j := j) m
    unfold tH
    by_cases h : tp t x n m = 1 ∧ (t 0 4).testBit m = true
    · rw [if_pos h, Nat.testBit_or, ih, Nat.testBit_two_pow]
      by_cases e : m = j
      · subst e; simp [h]
      · have : (j < m + 1) = (j < m) := by apply propext; omega
        simp [e, this]
    · rw [if_neg h, ih]
      by_cases e : m = j
      · subst e
        simp
        intro a
        exact Bool.eq_false_iff.mpr (fun b => h ⟨a, b⟩)
      · have : (j < m + 1) = (j < m) := by apply propext; omega
        simp [this]
theorem aa_iff {t : NN} (k : TK t) {i : Nat} (hi : i < t 0 1) (j : Nat) : (aa t j < t 0 1 ∧ aa t j = i) ↔ j + 1 = t 2 i := by
  have k2 := k.2.1 i hi
  constructor
  · rintro ⟨h1, h2⟩
    have := fi_yes (p := fun m => t 2 m == j + 1) (n := t 0 1) h1
    rw [show fi (fun m => t 2 m == j + 1) (t 0 1) = i from h2] at this
    simp at this
    omega
  · intro h
    have := ma_is (mj := t 2) (M := t 0 1) (m := i) hi k2.2.1 k.2.2.1
    rw [← h] at this
    have e : aa t j = i := this
    exact ⟨by omega, e⟩
theorem tM_bit {t : NN} (k : TK t) {x n i : Nat} (hi : i < t 0 1) : ∀ m, (tM t x n m).testBit i = decide (t 2 i ≤ m ∧ tp t x n (t 2 i - 1) = 1)
  | 0 => by
    have k2 := k.2.1 i hi
    show (0 : Nat).testBit i = _
    simp
    omega
  | m + 1 => by
    have k2 := k.2.1 i hi
    have ih := tM_bit k (x := x) (n := n) hi m
    have ai := aa_iff k hi m
    unfold tM
    by_cases h : tp t x n m = 1 ∧ aa t m < t 0 1
    · rw [if_pos h, Nat.testBit_or, ih, Nat.testBit_two_pow]
      by_cases e : aa t m = i
      · have e2 := ai.mp ⟨h.2, e⟩
        rw [← e2]
        simp [e, h.1]
      · have e2 : ¬ m + 1 = t 2 i := fun z => e (ai.mpr z).2
        have : (t 2 i ≤ m + 1) = (t 2 i ≤ m) := by apply propext; omega
        simp [e, this]
    · rw [if_neg h, ih]
      by_cases e : m + 1 = t 2 i
      · rw [← e]
        simp
        intro a
        exact (h ⟨a, (ai.mpr e).1⟩).elim
      · have : (t 2 i ≤ m + 1) = (t 2 i ≤ m) := by apply propext; omega
        simp [this]
theorem tS_3 {t : NN} {x n : Nat} : ∀ m, tS t x n m = 3 ↔ (1 ≤ t 0 5 ∧ t 0 5 ≤ m ∧ tp t x n (t 0 5 - 1) = 1)
  | 0 => ⟨fun h => absurd (show (0 : Nat) = 3 from h) (by omega), fun h => by omega⟩
  | m + 1 => by
    have ih := tS_3 (t := t) (x := x) (n := n) m
    rw [tS_s]
    have h3 : tp t x n m = 3 ↔ tS t x n m = 3 := by
      by_cases h0 : tS t x n m = 0
      · rw [tp_0 h0, h0]; split <;> omega
      · by_cases h1 : tS t x n m = 1
        · rw [tp_1 h1, h1]; split <;> omega
        · rw [tp_2 h0 h1]
    by_cases h : tp t x n m = 1 ∧ m + 1 = t 0 5
    · rw [if_pos h]
      refine ⟨fun _ => ⟨by omega, by omega, ?_⟩, fun _ => rfl⟩
      rw [← h.2]; exact h.1
    · rw [if_neg h, h3, ih]
      constructor
      · rintro ⟨a, b, c⟩; exact ⟨a, by omega, c⟩
      · rintro ⟨a, b, c⟩
        refine ⟨a, ?_, c⟩
        rcases Nat.lt_or_ge m (t 0 5) with z | z
        · have e : m + 1 = t 0 5 := by omega
          rw [← e] at c
          exact absurd ⟨c, e⟩ h
        · exact z
theorem tS_up {t : NN} {x n j : Nat} (h : tS t x n j ≠ 0) : ∀ d, tS t x n (j + d) ≠ 0
  | 0 => h
  | d + 1 => by
    have ih := tS_up h d
    rw [← Nat.add_assoc, tS_s]
    by_cases h1 : tS t x n (j + d) = 1
    · rw [tp_1 h1]; repeat' split
      all_goals omega
    · rw [tp_2 ih h1]; split
      · omega
      · exact ih
theorem tO_is {t : NN} {x n j : Nat} (hj : j < 10) : ∀ m, m ≤ 10 → (tO t x n m = nI (j + 1) ↔ (j < m ∧ tS t x n j = 0 ∧ t 0 8 ≤ tC t x n (j + 1)))
  | 0, _ => ⟨fun h => absurd h.symm (nI_nm4 (by omega)), fun h => absurd h.1 (Nat.not_lt_zero _)⟩
  | m + 1, hm => by
    have ih := tO_is (t := t) (x := x) (n := n) hj m (by omega)
    unfold tO
    by_cases h : tS t x n m = 0 ∧ t 0 8 ≤ tC t x n (m + 1)
    · rw [if_pos h]
      constructor
      · intro e
        have e2 : m = j := by have := nI_inj (a := m + 1) (b := j + 1) (by omega) (by omega) e; omega
        subst e2
        exact ⟨by omega, h⟩
      · rintro ⟨a, b, c⟩
        by_cases e2 : m = j
        · rw [e2]
        · refine absurd h.1 ?_
          have e3 : tS t x n (j + 1) ≠ 0 := by
            rw [tS_s, tp_0 b, if_pos c]; split <;> omega
          have := tS_up e3 (m - (j + 1))
          rw [show j + 1 + (m - (j + 1)) = m by omega] at this
          exact this
    · rw [if_neg h, ih]
      constructor
      · rintro ⟨a, b⟩; exact ⟨by omega, b⟩
      · rintro ⟨a, b, c⟩
        refine ⟨?_, b, c⟩
        rcases Nat.lt_or_ge j m with z | z
        · exact z
        · have e : j = m := by omega
          subst e
          exact absurd ⟨b, c⟩ h
/-- values -/
def v0 (t : NN) (a b : Nat) : Nat → Nat → Int := fun x n => if tC t x n a = b then 1 else 0
def v1 (t : NN) (j : Nat) : Nat → Nat → Int := fun x n => if tS t x n j = 0 ∧ t 0 8 ≤ tC t x n (j + 1) then 1 else 0
def v2 (t : NN) (j : Nat) : Nat → Nat → Int := fun x n => if tp t x n j = 1 then 1 else 0
def v3 (t : NN) (i : Nat) : Nat → Nat → Int := fun x n => v2 t (t 2 i - 1) x n * (hN (t 1 i) (t 0 7) : Int)
def v4 (t : NN) : Nat → Nat → Int := fun x n => sm (fun j => if (t 0 4).testBit j = true then v2 t j x n else 0) (t 0 0)
def v5 (t : NN) : Nat → Nat → Int := fun x n => if 1 ≤ t 0 5 then v2 t (t 0 5 - 1) x n else 0
def v6 (t : NN) : Nat → Nat → Int := fun x n => sm (fun i => v3 t i x n * (t 3 i : Int)) (t 0 1) - 10 * (v4 t x n * (t 0 10 : Int) + v5 t x n * (t 0 11 : Int))
theorem v2_01 (t : NN) (j x n : Nat) : v2 t j x n = 0 ∨ v2 t j x n = 1 := by unfold v2; split <;> simp
theorem sm_sN (f : Nat → Nat) : ∀ n, ((sN f n : Nat) : Int) = sm (fun i => (f i : Int)) n
  | 0 => rfl
  | n + 1 => by rw [sN, sm, ← sm_sN f n]; exact Int.natCast_add _ _
theorem bit01 (s i : Nat) : ((s / 2 ^ i % 2 : Nat) : Int) = if s.testBit i = true then 1 else 0 := by
  rw [Nat.testBit_eq_decide_div_mod_eq]
  have : s / 2 ^ i % 2 < 2 := Nat.mod_lt _ (by omega)
  by_cases h : s / 2 ^ i % 2 = 1
  · simp [h]
  · have : s / 2 ^ i % 2 = 0 := by omega
    simp [this]
theorem bs_v4 {t : NN} (k : TK t) (x n : Nat) : ((bs (tH t x n (t 0 0)) 10 : Nat) : Int) = v4 t x n := by
  have k1 := k.1
  unfold bs v4
  rw [sm_sN, show (10 : Nat) = t 0 0 + (10 - t 0 0) by omega, sm_split]
  have e : sm (fun i => (((fun i => tH t x n (t 0 0) / 2 ^ i % 2) (t 0 0 + i) : Nat) : Int)) (10 - t 0 0) = 0 := by
    rw [sm_congr (g := fun _ => 0) (fun i _ => by
      rw [bit01, tH_bit, if_neg]
      simp
      omega), sm_zero]
  rw [e, Int.add_zero]
  refine sm_congr fun i hi => ?_
  rw [bit01, tH_bit]
  unfold v2
  by_cases h1 : (t 0 4).testBit i = true
  · by_cases h2 : tp t x n i = 1
    · simp [hi, h1, h2]
    · simp [h1, h2]
  · simp [h1]
theorem tT_v5 {t : NN} (k : TK t) (x n : Nat) : ((tT t x n (t 0 0) : Nat) : Int) = v5 t x n := by
  have k1 := k.1
  unfold tT v5 v2
  have h := tS_3 (t := t) (x := x) (n := n) (t 0 0)
  by_cases b : 1 ≤ t 0 5
  · rw [if_pos b]
    by_cases c : tp t x n (t 0 5 - 1) = 1
    · rw [if_pos (h.mpr ⟨b, by omega, c⟩), if_pos c]; rfl
    · rw [if_neg (fun z => c (h.mp z).2.2), if_neg c]; rfl
  · rw [if_neg (fun z => b (h.mp z).1), if_neg b]; rfl
theorem met_v2 {t : NN} (k : TK t) {x n i : Nat} (hi : i < t 0 1) : ((tM t x n (t 0 0) / 2 ^ i % 2 : Nat) : Int) = v2 t (t 2 i - 1) x n := by
  have k2 := k.2.1 i hi
  rw [bit01, tM_bit k hi]
  unfold v2
  by_cases c : tp t x n (t 2 i - 1) = 1
  · simp [c]; omega
  · simp [c]
theorem sm_nn {f : Nat → Int} : ∀ {n : Nat}, (∀ i, i < n → 0 ≤ f i) → 0 ≤ sm f n
  | 0, _ => Int.le_refl 0
  | n + 1, h => Int.add_nonneg (sm_nn fun i hi => h i (by omega)) (h n (by omega))
theorem sm_ub {f : Nat → Int} {b : Int} : ∀ {n : Nat}, (∀ i, i < n → f i ≤ b) → sm f n ≤ n * b
  | 0, _ => by simp [sm]
  | n + 1, h => by
    have h1 := sm_ub (n := n) fun i hi => h i (by omega)
    have h2 := h n (by omega)
    have e : ((n + 1 : Nat) : Int) * b = n * b + b := by rw [Int.natCast_add, Int.add_mul]; simp
    rw [e]
    exact Int.add_le_add h1 h2
theorem v4_b {t : NN} (k : TK t) (x n : Nat) : 0 ≤ v4 t x n ∧ v4 t x n ≤ 10 := by
  rw [← bs_v4 k]
  have := bs_le (tH t x n (t 0 0)) 10
  omega
theorem v5_b (t : NN) (x n : Nat) : 0 ≤ v5 t x n ∧ v5 t x n ≤ 1 := by
  unfold v5
  split
  · rcases v2_01 t (t 0 5 - 1) x n with h | h <;> rw [h] <;> omega
  · omega
theorem v3_b {t : NN} (x n i : Nat) : 0 ≤ v3 t i x n ∧ v3 t i x n ≤ 10 := by
  have := hN_le (t 1 i) (t 0 7)
  unfold v3
  rcases v2_01 t (t 2 i - 1) x n with h | h <;> rw [h] <;> omega
theorem mul_b {a b p q : Int} (h1 : 0 ≤ a ∧ a ≤ p) (h2 : 0 ≤ b ∧ b ≤ q) (hp : 0 ≤ p) : 0 ≤ a * b ∧ a * b ≤ p * q := ⟨Int.mul_nonneg h1.1 h2.1, Int.mul_le_mul h1.2 h2.2 h2.1 hp⟩
theorem v6_b {t : NN} (k : TK t) (x n : Nat) : -1000 ≤ v6 t x n ∧ v6 t x n ≤ 1000 := by
  have k1 := k.1
  have k2 := k.2.1
  have h : ∀ i, i < t 0 1 → 0 ≤ v3 t i x n * (t 3 i : Int) ∧ v3 t i x n * (t 3 i : Int) ≤ 90 := fun i hi => by
    have := (k2 i hi).2.2.2
    exact mul_b (v3_b x n i) (q := 9) (by omega) (by omega)
  have a1 := sm_nn (n := t 0 1) fun i hi => (h i hi).1
  have a2 := sm_ub (n := t 0 1) fun i hi => (h i hi).2
  have b1 := mul_b (v4_b k x n) (b := (t 0 10 : Int)) (q := 9) (by omega) (by omega)
  have b2 := mul_b (v5_b t x n) (b := (t 0 11 : Int)) (q := 9) (by omega) (by omega)
  unfold v6
  omega
/-- whole numbers of 32 bits -/
def iI (z : Int) : Int32 := Int32.ofInt z
theorem iI_add (a b : Int) : iI a + iI b = iI (a + b) := (Int32.ofInt_add a b).symm
theorem iI_mul (a b : Int) : iI a * iI b = iI (a * b) := (Int32.ofInt_mul a b).symm
theorem iI_sub (a b : Int) : iI a - iI b = iI (a - b) := (Int32.ofInt_sub a b).symm
theorem nI_iI (n : Nat) : nI n = iI n := (Int32.ofInt_eq_ofNat).symm
theorem iI_iL {z : Int} (h : -2147483648 ≤ z ∧ z < 2147483648) : (iI z).toInt64 = iL z := by
  apply Int64.toInt_inj.mp
  unfold iI iL
  rw [Int32.toInt_toInt64, Int32.toInt_ofInt, Int64.toInt_ofInt]
  simp only [Int32.size, Int64.size, Int.bmod_def]
  omega
theorem wn_l {t : NN} {σ : ZI} (q : R8 t σ) {x n : Nat} : ∀ (d i fu : Nat) (A : Int), i + d = t 0 1 → d < fu → f_X8_worthNow_35 (c8 t σ x n (t 0 0)) fu (iI (sm (fun i => v3 t i x n * (t 3 i : Int)) i + A)) (nI i) = some (iI (sm (fun i => v3 t i x n * (t 3 i : Int)) (t 0 1) + A)) := by
  have k1 := q.1.1
  have k2 := q.1.2.1
  have q' : R8 t (c8 t σ x n (t 0 0)) := R8_fr (N8_Sc _ _ _ _ _ _ _ _) q
  intro d
  induction d with
  | zero =>
    intro i fu A h1 h2
    obtain ⟨fu, rfl⟩ : ∃ m, fu = m + 1 := ⟨fu - 1, by omega⟩
    obtain rfl : i = t 0 1 := by omega
    rw [f_X8_worthNow_35, show (c8 t σ x n (t 0 0)) 60 3 = _ from q.2.2.2.1, if_pos (Int32.le_refl _)]
  | succ d ih =>
    intro i fu A h1 h2
    obtain ⟨fu, rfl⟩ : ∃ m, fu = m + 1 := ⟨fu - 1, by omega⟩
    have ki := k2 i (by omega)
    have mt := met_v2 q.1 (x := x) (n := n) (i := i) (by omega)
    have bl := tM_lt q.1 x n (t 0 0)
    have e62 : (c8 t σ x n (t 0 0)) 62 (2 * i + 1) = nI (t 3 i) := (q.2.2.2.2.2.2.2.2.1 i (by omega)).2
    have eh : f_X8_holdsOf (c8 t σ x n (t 0 0)) (nI i) = some (nI (hN (t 1 i) (t 0 7))) := ho8 (by have := q'.2.1.1 i (by omega); rw [Nat.zero_add] at this; exact this) (by rw [show (c8 t σ x n (t 0 0)) 61 14 = _ from q'.2.1.2.2.2.2.2.2.1]; exact Int32.sub_add_cancel _ _) (by omega) (by omega) (by omega)
    have es : sm (fun i => v3 t i x n * (t 3 i : Int)) (i + 1) = sm (fun i => v3 t i x n * (t 3 i : Int)) i + v3 t i x n * (t 3 i : Int) := rfl
    rw [f_X8_worthNow_35, show (c8 t σ x n (t 0 0)) 60 3 = _ from q.2.2.2.1, if_neg (nI_ge (by omega) (by omega)), show (c8 t σ x n (t 0 0)) 60 36 = nI (tM t x n (t 0 0)) from rfl, bt (by omega) (by omega), show (2 : Int32) * nI i = nI (2 * i) from pk_mul 2 i, nI_1, inB_n (by omega) (by omega), if_pos rfl, eh, bso, nI_clamp (by omega), e62]
    unfold f_X8_worthNow_76
    rw [nI_1]
    have bl2 : tM t x n (t 0 0) / 2 ^ i % 2 < 2 := Nat.mod_lt _ (by omega)
    rw [← ih (i + 1) fu A (by omega) (by omega), es]
    unfold v3
    rw [← mt]
    by_cases c : tM t x n (t 0 0) / 2 ^ i % 2 = 1
    · rw [c, if_pos (by decide), nI_iI, nI_iI, iI_mul, iI_add]
      congr 2
      simp
      grind
    · have c0 : tM t x n (t 0 0) / 2 ^ i % 2 = 0 := by omega
      rw [c0, if_neg (by decide), Int32.add_zero]
      congr 2
      simp
theorem wn8 {t : NN} {σ : ZI} (q : R8 t σ) {x n : Nat} : f_X8_worthNow (c8 t σ x n (t 0 0)) = some (iI (v6 t x n)) := by
  have k1 := q.1.1
  have bh := tH_lt (t := t) x n (t 0 0) (by omega)
  unfold f_X8_worthNow
  rw [show (c8 t σ x n (t 0 0)) 60 37 = nI (tH t x n (t 0 0)) from rfl, bs8 (by omega), bso, ltq, show (c8 t σ x n (t 0 0)) 65 0 = _ from q.2.2.2.2.2.2.1, show (c8 t σ x n (t 0 0)) 65 1 = _ from q.2.2.2.2.2.2.2.1, show (c8 t σ x n (t 0 0)) 60 38 = nI (tT t x n (t 0 0)) from rfl]
  have e : ((((-10 : Int32) * nI (t 0 10)) * nI (bs (tH t x n (t 0 0)) 10)) - (((10 : Int32) * nI (t 0 11)) * nI (tT t x n (t 0 0)))) = iI (sm (fun i => v3 t i x n * (t 3 i : Int)) 0 + (-(10 * (v4 t x n * (t 0 10 : Int) + v5 t x n * (t 0 11 : Int))))) := by
    rw [show (-10 : Int32) = iI (-10) from rfl, show (10 : Int32) = iI 10 from rfl, nI_iI, nI_iI, nI_iI, nI_iI, iI_mul, iI_mul, iI_mul, iI_mul, iI_sub, bs_v4 q.1, tT_v5 q.1]
    congr 1
    simp only [sm]
    grind
  rw [e, show f_X8_worthNow_35 (c8 t σ x n (t 0 0)) 3000 (iI (sm (fun i => v3 t i x n * (t 3 i : Int)) 0 + (-(10 * (v4 t x n * (t 0 10 : Int) + v5 t x n * (t 0 11 : Int)))))) 0 = _ from wn_l q (t 0 1) 0 3000 _ (by omega) (by omega)]
  congr 2
