/-! the reference's values *-/
def VO (t : NN) (σ : ZI) (a b c : Int32) (x n : Nat) (z : Int) : Prop := ∃ v σ'', f_X8_valueOf (c8 t σ x n (t 0 0)) a b c (nI x) (nI n) = some (v, σ'') ∧ v.toInt64 = iL z ∧ Sc σ σ''
theorem c8_Sc (t : NN) (σ : ZI) (x n j : Nat) : Sc σ (c8 t σ x n j) := N8_Sc _ _ _ _ _ _ _ _
theorem vo_0 {t : NN} {σ : ZI} (q : R8 t σ) {x n a b : Nat} (hx : x < 2 ^ 31) (hn : n < 2 ^ 31) (ha : a ≤ t 0 0) (hb : b < 2 ^ 31) : VO t σ 0 (nI a) (nI b) x n (v0 t a b x n) := by
  have k1 := q.1.1
  have hc : tC t x n a ≤ a := cn_le _ _ _ _ _
  have e := ct8 (R8_M8 (R8_fr (c8_Sc t σ x n (t 0 0)) q)) (J := a) hx hn (by omega)
  unfold VO f_X8_valueOf v0
  rw [if_pos rfl, e, bso]
  refine ⟨if tC t x n a = b then 1 else 0, s33 (c8 t σ x n (t 0 0)) (nI (tC t x n a)), ?_, ?_, Sc_tr (c8_Sc t σ x n (t 0 0)) (s33_Sc _ _)⟩
  · by_cases h : tC t x n a = b
    · rw [if_pos (by rw [h]), if_pos h]
    · rw [if_neg (fun z => h (nI_inj (by omega) hb z)), if_neg h]
  · split <;> rfl
theorem vo_1 {t : NN} {σ : ZI} (q : R8 t σ) {x n j : Nat} {c : Int32} (hj : j < t 0 0) : VO t σ 1 (nI (j + 1)) c x n (v1 t j x n) := by
  have k1 := q.1.1
  have e := tO_is (t := t) (x := x) (n := n) (j := j) (by omega) (t 0 0) (by omega)
  unfold VO f_X8_valueOf v1
  rw [if_neg (by decide), if_pos rfl, show (c8 t σ x n (t 0 0)) 60 34 = tO t x n (t 0 0) from rfl]
  refine ⟨if tS t x n j = 0 ∧ t 0 8 ≤ tC t x n (j + 1) then 1 else 0, c8 t σ x n (t 0 0), ?_, ?_, c8_Sc t σ x n (t 0 0)⟩
  · by_cases h : tS t x n j = 0 ∧ t 0 8 ≤ tC t x n (j + 1)
    · rw [if_pos (e.mpr ⟨hj, h⟩), if_pos h]
    · rw [if_neg (fun z => h (e.mp z).2), if_neg h]
  · split <;> rfl
theorem vo_2 {t : NN} {σ : ZI} (q : R8 t σ) {x n j : Nat} {c : Int32} (hj : j < t 0 0) : VO t σ 2 (nI (j + 1)) c x n (v2 t j x n) := by
  have k1 := q.1.1
  have bq := tQ_lt (t := t) x n (t 0 0) (by omega)
  unfold VO f_X8_valueOf v2
  rw [if_neg (by decide), if_neg (by decide), if_pos rfl, show (c8 t σ x n (t 0 0)) 60 39 = nI (tQ t x n (t 0 0)) from rfl, nI_pred, bt (by omega) (by omega)]
  refine ⟨nI (tQ t x n (t 0 0) / 2 ^ j % 2), c8 t σ x n (t 0 0), rfl, ?_, c8_Sc t σ x n (t 0 0)⟩
  have : tQ t x n (t 0 0) / 2 ^ j % 2 < 2 := Nat.mod_lt _ (by omega)
  rw [nI_iL (by omega), bit01, tQ_bit]
  by_cases h : tp t x n j = 1
  · simp [h, hj]
  · simp [h]
theorem vo_3 {t : NN} {σ : ZI} (q : R8 t σ) {x n i : Nat} {c : Int32} (hi : i < t 0 1) : VO t σ 3 (nI i) c x n (v3 t i x n) := by
  have k1 := q.1.1
  have k2 := q.1.2.1 i hi
  have bm := tM_lt q.1 x n (t 0 0)
  have q' := R8_fr (c8_Sc t σ x n (t 0 0)) q
  have eh : f_X8_holdsOf (c8 t σ x n (t 0 0)) (nI i) = some (nI (hN (t 1 i) (t 0 7))) := ho8 (by have := q'.2.1.1 i hi; rw [Nat.zero_add] at this; exact this) (by rw [show (c8 t σ x n (t 0 0)) 61 14 = _ from q'.2.1.2.2.2.2.2.2.1]; exact Int32.sub_add_cancel _ _) (by omega) (by omega) (by omega)
  have hl := hN_le (t 1 i) (t 0 7)
  have m2 : tM t x n (t 0 0) / 2 ^ i % 2 < 2 := Nat.mod_lt _ (by omega)
  have mb : tM t x n (t 0 0) / 2 ^ i % 2 * hN (t 1 i) (t 0 7) ≤ 1 * 10 := Nat.mul_le_mul (by omega) hl
  unfold VO f_X8_valueOf
  rw [if_neg (by decide), if_neg (by decide), if_neg (by decide), if_pos rfl, eh, bso, show (c8 t σ x n (t 0 0)) 60 36 = nI (tM t x n (t 0 0)) from rfl, bt (by omega) (by omega), pk_mul]
  refine ⟨_, c8 t σ x n (t 0 0), rfl, ?_, c8_Sc t σ x n (t 0 0)⟩
  rw [nI_iL (by omega)]
  unfold v3
  rw [← met_v2 q.1 hi]
  congr 1
theorem vo_4 {t : NN} {σ : ZI} (q : R8 t σ) {x n : Nat} {b c : Int32} : VO t σ 4 b c x n (v4 t x n) := by
  have k1 := q.1.1
  have bh := tH_lt (t := t) x n (t 0 0) (by omega)
  have bl := bs_le (tH t x n (t 0 0)) 10
  unfold VO f_X8_valueOf
  rw [if_neg (by decide), if_neg (by decide), if_neg (by decide), if_neg (by decide), if_pos rfl, show (c8 t σ x n (t 0 0)) 60 37 = nI (tH t x n (t 0 0)) from rfl, bs8 (by omega), bso]
  exact ⟨_, c8 t σ x n (t 0 0), rfl, by rw [nI_iL (by omega), bs_v4 q.1], c8_Sc t σ x n (t 0 0)⟩
theorem vo_5 {t : NN} {σ : ZI} (q : R8 t σ) {x n : Nat} {b c : Int32} : VO t σ 5 b c x n (v5 t x n) := by
  have h : tT t x n (t 0 0) ≤ 1 := by unfold tT; split <;> omega
  unfold VO f_X8_valueOf
  rw [if_neg (by decide), if_neg (by decide), if_neg (by decide), if_neg (by decide), if_neg (by decide), if_pos rfl, show (c8 t σ x n (t 0 0)) 60 38 = nI (tT t x n (t 0 0)) from rfl]
  exact ⟨_, c8 t σ x n (t 0 0), rfl, by rw [nI_iL (by omega), tT_v5 q.1], c8_Sc t σ x n (t 0 0)⟩
theorem vo_6 {t : NN} {σ : ZI} (q : R8 t σ) {x n : Nat} {b c : Int32} : VO t σ 6 b c x n (v6 t x n) := by
  have h := v6_b q.1 x n
  unfold VO f_X8_valueOf
  rw [if_neg (by decide), if_neg (by decide), if_neg (by decide), if_neg (by decide), if_neg (by decide), if_neg (by decide), if_pos rfl, wn8 q, bso]
  exact ⟨_, c8 t σ x n (t 0 0), rfl, iI_iL (by omega), c8_Sc t σ x n (t 0 0)⟩
/-- what was seen, on the reference's side -/
def S8 (J n : Nat) (sj sc : Nat → Nat) (σ : ZI) : Prop := n ≤ 6 ∧ σ 60 41 = nI n ∧ ∀ i, i < n → 1 ≤ sj i ∧ sj i ≤ J ∧ sc i ≤ 10 ∧ σ 74 (2 * i) = nI (sj i) ∧ σ 74 (2 * i + 1) = nI (sc i)
theorem S8_fr {J n : Nat} {sj sc : Nat → Nat} {σ σ' : ZI} (h : Sc σ σ') (q : S8 J n sj sc σ) : S8 J n sj sc σ' := by
  obtain ⟨a, b, c⟩ := q
  refine ⟨a, (h _ _ (by omega)).trans b, fun i hi => ?_⟩
  obtain ⟨c1, c2, c3, c4, c5⟩ := c i hi
  exact ⟨c1, c2, c3, (h _ _ (by omega)).trans c4, (h _ _ (by omega)).trans c5⟩
/-- all is as seen -/
def as_ (t : NN) (sj sc : Nat → Nat) (x n : Nat) : Nat → Bool
  | 0 => true
  | i + 1 => as_ t sj sc x n i && (tC t x n (sj i) == sc i)
theorem as_l {t : NN} {σ : ZI} (q : M8 t σ) {N : Nat} {sj sc : Nat → Nat} (hS : S8 (t 0 0) N sj sc σ) {x n : Nat} (hx : x < 2 ^ 31) (hn : n < 2 ^ 31) : ∀ (d i fu : Nat) (σ' : ZI), i + d = N → d < fu → Sc σ σ' → ∃ σ'', f_X8_isAsSeen_5 (nI x) (nI n) fu σ' (if as_ t sj sc x n i = true then 1 else 0) (nI i) = some (if as_ t sj sc x n N = true then 1 else 0, σ'') ∧ Sc σ σ'' := by
  have k1 := q.1.1
  have fin : ∀ (c : Prop) [Decidable c] (s : ZI), (if (if c then (1 : Int32) else 0) = 0 ∨ (if c then (1 : Int32) else 0) = 1 then some ((if c then (1 : Int32) else 0), s) else none) = some ((if c then (1 : Int32) else 0), s) := by
    intro c _ s
    by_cases h : c
    · simp [h]
    · simp [h]
  intro d
  induction d with
  | zero =>
    intro i fu σ' h1 h2 h3
    obtain ⟨fu, rfl⟩ : ∃ m, fu = m + 1 := ⟨fu - 1, by omega⟩
    obtain rfl : i = N := by omega
    exact ⟨σ', by rw [f_X8_isAsSeen_5, show σ' 60 41 = _ from (S8_fr h3 hS).2.1, if_pos (Int32.le_refl _), fin], h3⟩
  | succ d ih =>
    intro i fu σ' h1 h2 h3
    obtain ⟨fu, rfl⟩ : ∃ m, fu = m + 1 := ⟨fu - 1, by omega⟩
    have hS' := S8_fr h3 hS
    have n6 := hS.1
    obtain ⟨c1, c2, c3, c4, c5⟩ := hS'.2.2 i (by omega)
    have e1 : as_ t sj sc x n (i + 1) = (as_ t sj sc x n i && (tC t x n (sj i) == sc i)) := rfl
    rw [f_X8_isAsSeen_5, show σ' 60 41 = _ from hS'.2.1, if_neg (nI_ge (by omega) (by omega))]
    by_cases h : as_ t sj sc x n i = true
    · have q' : M8 t σ' := ⟨q.1, (h3 _ _ (by omega)).trans q.2.1, fun j hj => (h3 _ _ (by omega)).trans (q.2.2 j hj)⟩
      have hc : tC t x n (sj i) ≤ sj i := cn_le _ _ _ _ _
      rw [if_pos h, if_neg (by decide), show (2 : Int32) * nI i = nI (2 * i) from pk_mul 2 i, nI_1, inB_n (by omega) (by omega), if_pos rfl, nI_clamp (by omega), c4, ct8 q' hx hn (by omega), bso, inB_n (by omega) (by omega), if_pos rfl, nI_clamp (by omega)]
      dsimp only
      simp only [show (s33 σ' (nI (tC t x n (sj i)))) 74 (2 * i + 1) = nI (sc i) from c5]
      unfold f_X8_isAsSeen_52
      rw [nI_1]
      obtain ⟨σ'', g1, g2⟩ := ih (i + 1) fu (s33 σ' (nI (tC t x n (sj i)))) (by omega) (by omega) (Sc_tr h3 (s33_Sc _ _))
      refine ⟨σ'', ?_, g2⟩
      rw [← g1, e1, h]
      by_cases w : tC t x n (sj i) = sc i
      · rw [if_pos (by rw [w]), if_pos (show (true && (tC t x n (sj i) == sc i)) = true by simp [w])]
      · rw [if_neg (fun z => w (nI_inj (by omega) (by omega) z)), if_neg (show ¬ (true && (tC t x n (sj i) == sc i)) = true by simp [w])]
    · have hN : ∀ e, as_ t sj sc x n (i + e) ≠ true := by
        intro e
        induction e with
        | zero => exact h
        | succ e ihe =>
          intro z
          have : (as_ t sj sc x n (i + e) && (tC t x n (sj (i + e)) == sc (i + e))) = true := z
          rw [Bool.and_eq_true] at this
          exact ihe this.1
      have hNN := hN (d + 1)
      rw [h1] at hNN
      exact ⟨σ', by rw [if_neg h, if_pos rfl, if_pos (.inl rfl), if_neg hNN], h3⟩
theorem as8 {t : NN} {σ : ZI} (q : M8 t σ) {N : Nat} {sj sc : Nat → Nat} (hS : S8 (t 0 0) N sj sc σ) {x n : Nat} (hx : x < 2 ^ 31) (hn : n < 2 ^ 31) : ∃ σ'', f_X8_isAsSeen σ (nI x) (nI n) = some (if as_ t sj sc x n N = true then 1 else 0, σ'') ∧ Sc σ σ'' := as_l q hS hx hn N 0 3000 σ (by omega) (by have := hS.1; omega) (Sc_rf σ)
def v7 (t : NN) (sj sc : Nat → Nat) (N : Nat) : Nat → Nat → Int := fun x n => if as_ t sj sc x n N = true then 1 else 0
theorem vo_7 {t : NN} {σ : ZI} (q : R8 t σ) {N : Nat} {sj sc : Nat → Nat} (hS : S8 (t 0 0) N sj sc σ) {x n : Nat} (hx : x < 2 ^ 31) (hn : n < 2 ^ 31) {b c : Int32} : VO t σ 7 b c x n (v7 t sj sc N x n) := by
  obtain ⟨σ'', g1, g2⟩ := as8 (R8_M8 (R8_fr (c8_Sc t σ x n (t 0 0)) q)) (S8_fr (c8_Sc t σ x n (t 0 0)) hS) hx hn
  unfold VO f_X8_valueOf v7
  rw [if_neg (by decide), if_neg (by decide), if_neg (by decide), if_neg (by decide), if_neg (by decide), if_neg (by decide), if_neg (by decide), g1, bso]
  refine ⟨if as_ t sj sc x n N = true then 1 else 0, σ'', ?_, ?_, Sc_tr (c8_Sc t σ x n (t 0 0)) g2⟩
  · by_cases h : as_ t sj sc x n N = true
    · rw [if_pos h]; rfl
    · rw [if_neg h]; rfl
  · split <;> rfl
/-- the mean, on the reference's side -/
theorem mean8 {t : NN} {σ : ZI} (q : R8 t σ) {a b c w : Int32} (V : Nat → Nat → Int) (hV : ∀ (σ' : ZI) (x n : Nat), Sc σ σ' → x < 2 ^ t 0 0 → n < 2 ^ t 0 2 → VO t σ' a b c x n (V x n)) : (∃ σ', f_X8_sumOf σ a b c = some (iL (SN (oq (t 0 6)) (orr (t 5)) (t 0 0) (t 0 2) V), σ') ∧ Sc σ σ') ∧ ∃ σ', Sc σ σ' ∧ f_X8_meanOf σ a b c w = (f_X8_lowest (iL (SN (oq (t 0 6)) (orr (t 5)) (t 0 0) (t 0 2) V)) (iL (((if a = 3 ∨ a = 6 then 10 else 1) * 10 ^ (t 0 0 + t 0 2) : Nat) : Int)) w).bind fun q3 => some (q3, σ') := by
  obtain ⟨σ', s1, s2⟩ := sum8 q (a := a) (b := b) (c := c) V (fun σ' x n h1 h2 h3 => by
    obtain ⟨v, σ'', e1, e2, e3⟩ := hV σ' x n h1 h2 h3
    exact ⟨v, σ'', e1, e2, Sc_tr h1 e3⟩)
  have q' := R8_fr s2 q
  refine ⟨⟨σ', s1, s2⟩, σ', s2, ?_⟩
  unfold f_X8_meanOf f_X8_meanOf_19 f_X8_meanOf_24
  rw [s1, bso]
  by_cases h3 : a = 3
  · rw [if_pos h3, aw8_1 q', bso, if_pos (.inl h3), Int.natCast_mul, Int.natCast_pow]; rfl
  · rw [if_neg h3]
    by_cases h6 : a = 6
    · rw [if_pos h6, aw8_1 q', bso, if_pos (.inr h6), Int.natCast_mul, Int.natCast_pow]; rfl
    · rw [if_neg h6, aw8_0 q', bso, if_neg (fun z => z.elim h3 h6), Int.natCast_mul, Int.natCast_pow]; rfl
