/-! what to do: what is tried, and put back -/
def RLi (X : Option (Int32 × ZI × ZL)) (Y : ZI → Option (Int32 × ZI)) : Prop := ∃ r σ1 τ1 σ2, X = some (r, σ1, τ1) ∧ Y σ1 = some (r, σ2) ∧ Inv σ2 ∧ InL τ1
theorem ri_bad {σ : ZI} {τ : ZL} (I : Inv σ) (hL : InL τ) {X : Option (Int32 × ZI × ZL)} {Y : ZI → Option (Int32 × ZI)} (hX : X = some (-1, σ, τ)) (hY : Y σ = some (-1, σ)) : RLi X Y := ⟨-1, σ, τ, σ, hX, hY, I, hL⟩
def TR (m : Nat → Prop) (σ σr : ZI) : Prop := (∀ c i, ¬ (c = 60 ∧ 33 ≤ i ∧ i ≤ 39) → c ≠ 61 → σr c i = σ c i) ∧ (∀ i, i < 72 → ¬ m i → σr 61 i = σ 61 i) ∧ (∀ i, i < 18 → σr 61 (72 + i) = σ 61 i)
theorem TR_0 (m : Nat → Prop) (σ : ZI) : TR m σ (va_up σ 61 (cpf 0 72 0 (σ 61))) := by
  refine ⟨fun c i _ h => ?_, fun i hi _ => ?_, fun i hi => ?_⟩
  · simp only [va_up, if_neg h]
  · show cpf 0 72 0 (σ 61) i = _
    rw [cpf_out (by omega)]
  · show cpf 0 72 0 (σ 61) (72 + i) = _
    rw [cpf_in hi, Nat.zero_add]
theorem TR_Sc {m : Nat → Prop} {σ a b : ZI} (h : TR m σ a) (h2 : Sc a b) : TR m σ b := ⟨fun c i q r => (h2 c i q).trans (h.1 c i q r), fun i hi q => (h2 61 i (by omega)).trans (h.2.1 i hi q), fun i hi => (h2 61 _ (by omega)).trans (h.2.2 i hi)⟩
theorem TR_set {m : Nat → Prop} {σ a : ZI} {p : Nat} {v : Int32} (hm : m p) (hp : p < 18) (h : TR m σ a) : TR m σ (va_up a 61 (upd (a 61) p v)) := by
  refine ⟨fun c i q r => ?_, fun i hi q => ?_, fun i hi => ?_⟩
  · rw [up_ne a (.inl r)]; exact h.1 c i q r
  · rw [up_ne a (.inr (by rintro rfl; exact q hm))]; exact h.2.1 i hi q
  · rw [up_ne a (.inr (by omega))]; exact h.2.2 i hi
theorem TR_fin {m : Nat → Prop} {σ a : ZI} (hm : ∀ i, m i → i < 18) (h : TR m σ a) : ∃ f, f_X8_copies a 72 0 = some f ∧ Sg σ f := by
  refine ⟨_, cop_n (a := 72) (b := 0) (by omega) (by omega) (by omega) a, fun c i q _ => ?_⟩
  by_cases c61 : c = 61
  · subst c61
    show cpf 72 0 0 (a 61) i = _
    by_cases hi : i < 18
    · have e := cpf_in (a := 72) (b := 0) (f := a 61) hi
      rw [Nat.zero_add] at e
      rw [e, h.2.2 i hi]
    · have h54 : i < 54 := by
        rcases Nat.lt_or_ge i 54 with z | z
        · exact z
        · refine absurd ?_ q
          show (if i < 18 then 1 else if i < 54 then 2 else 0) = 0
          rw [if_neg hi, if_neg (by omega)]
      rw [cpf_out (by omega)]
      exact h.2.1 i (by omega) (fun z => hi (hm i z))
  · show va_up a 61 _ c i = _
    simp only [va_up, if_neg c61]
    refine h.1 c i ?_ c61
    rintro ⟨rfl, h1, h2⟩
    have : i = 33 ∨ i = 34 ∨ i = 35 ∨ i = 36 ∨ i = 37 ∨ i = 38 ∨ i = 39 := by omega
    rcases this with rfl | rfl | rfl | rfl | rfl | rfl | rfl <;> exact q rfl
theorem TR_RS {m : Nat → Prop} {t : NN} {σ a : ZI} (h : TR m σ a) (q : RS t σ) : RS t a := RS_fr ⟨h.1 _ _ (by omega) (by omega), h.1 _ _ (by omega) (by omega), h.1 _ _ (by omega) (by omega), h.1 _ _ (by omega) (by omega)⟩ (fun c i _ _ => h.1 _ _ (by omega) (by omega)) q
theorem TR_rule {t : NN} {σ a : ZI} {k p e v : Nat} (hp : ruP k p e) (iT : InvT t σ) (hk : TK (tset t 0 k v)) (h : TR (fun i => i = p) σ a) (hv : a 61 p = nI v - nI e) : R8 (tset t 0 k v) a := by
  refine ⟨hk, RP_fr (σ := va_up σ 61 (upd (σ 61) p (nI v - nI e))) hk (fun i hi => ?_) (RP_rule hp (TK_TB iT.1) iT.2.2.1), RS_rule hp (TR_RS h iT.2.2.2)⟩
  rw [Nat.zero_add]
  by_cases z : i = p
  · subst z; rw [hv, up_same]
  · rw [up_ne σ (.inr z)]; exact h.2.1 i (by omega) z
/-- the reference asks whether a bag is had -/
theorem isHad8 {t : NN} {σ : ZI} (q : R8 t σ) {i k : Nat} (hi : i < t 0 1) (hk : k ≤ 10) : ∃ σ', f_X8_isHad σ (nI i) (nI k) = some (if SO t (t 0 6) (t 5) (v3 t i) < (k : Int) * (DN t : Int) then 0 else 1, σ') ∧ Sc σ σ' := by
  have kk := q.1
  have k1 := kk.1
  have p := p10 kk
  obtain ⟨⟨σ', s1, s2⟩, -⟩ := mean8 (w := 0) q (a := 3) (b := nI i) (c := 0) (v3 t i) (fun σ' x n h1 h2 h3 => vo_3 (R8_fr h1 q) hi)
  have bb := SN_bd kk (s := t 0 6) (by omega) (cf := t 5) (fun m hm => (kk.2.2.2.1 m hm).2.2) (V := v3 t i) (a := 0) (b := 10) (fun x n => v3_b x n i)
  refine ⟨σ', ?_, s2⟩
  unfold f_X8_isHad
  rw [s1, bso]
  dsimp only
  rw [aw8_1 (R8_fr s2 q), bso, show (10 : Int64) = iL 10 from rfl, nI_iL (by omega), ← iL_mul, ← iL_mul]
  simp only [lg_cmp_lt]
  have e : (10 : Int) * 10 ^ (t 0 0 + t 0 2) = 10 * (DN t : Int) := by
    rw [show (DN t : Int) = 10 ^ (t 0 0 + t 0 2) from by unfold DN; rw [Int.natCast_pow]; rfl]
  rw [e]
  have kb : (k : Int) * (DN t : Int) ≤ 10 * (DN t : Int) ∧ 0 ≤ (k : Int) * (DN t : Int) := ⟨Int.mul_le_mul_of_nonneg_right (by omega) (by omega), Int.mul_nonneg (by omega) (by omega)⟩
  have e2 : (k : Int) * (10 * (DN t : Int)) = 10 * ((k : Int) * (DN t : Int)) := Int.mul_left_comm _ _ _
  have dn : (DN t : Int) ≤ 10000000000000 := by unfold DN; omega
  have key : iL (SN (oq (t 0 6)) (orr (t 5)) (t 0 0) (t 0 2) (v3 t i) * 10) < iL ((k : Int) * (10 * (DN t : Int))) ↔ SO t (t 0 6) (t 5) (v3 t i) < (k : Int) * (DN t : Int) := by
    rw [Int64.lt_iff_toInt_lt, iL_toInt (by unfold DN at dn; omega), iL_toInt (by omega), e2]
    unfold SO
    omega
  simp only [key]
  split <;> rfl
theorem hb_cmp {t : NN} (kk : TK t) {O : Int} {h k : Nat} (hO : 0 ≤ O ∧ O ≤ (DN t : Int)) (hh : h ≤ 10) (hk : k ≤ 10) : (lg_cmp (iL O * (nI h).toInt64) ((nI k).toInt64 * iL (DN t)) < 0) ↔ O * (h : Int) < (k : Int) * (DN t : Int) := by
  have p := p10 kk
  have dn : (DN t : Int) ≤ 10000000000000 := by unfold DN; omega
  have kb : (k : Int) * (DN t : Int) ≤ 10 * (DN t : Int) ∧ 0 ≤ (k : Int) * (DN t : Int) := ⟨Int.mul_le_mul_of_nonneg_right (by omega) (by omega), Int.mul_nonneg (by omega) (by omega)⟩
  have ob : O * (h : Int) ≤ (DN t : Int) * 10 ∧ 0 ≤ O * (h : Int) := ⟨Int.mul_le_mul hO.2 (by omega) (by omega) (by omega), Int.mul_nonneg hO.1 (by omega)⟩
  rw [lg_cmp_lt, nI_iL (by omega), nI_iL (by omega), ← iL_mul, ← iL_mul, Int64.lt_iff_toInt_lt, iL_toInt (by omega), iL_toInt (by omega)]
theorem SO_b {t : NN} (kk : TK t) {s : Nat} (hs : s ≤ 10) {cf : Nat → Nat} (hc : ∀ m, m < t 0 2 → cf m ≤ 10) (u : NN) (j : Nat) : 0 ≤ SO t s cf (v2 u j) ∧ SO t s cf (v2 u j) ≤ (DN t : Int) := by
  have := SN_bd kk hs hc (V := v2 u j) (a := 0) (b := 1) (fun x n => by rcases v2_01 u j x n with h | h <;> rw [h] <;> omega)
  unfold SO DN
  omega
theorem s41_2 (σ : ZI) (J : Nat) : s41 (s41 σ J) J = s41 σ J := by
  unfold s41
  rw [bx_uu]
  show va_up σ 41 (upd (upd (σ 41) 0 (nI J)) 0 (nI J)) = _
  rw [upd2]
/-- the class asks whether a bag is had -/
theorem hadby7 {t : NN} {σ : ZI} {τ : ZL} (iT : InvT t σ) (hL : InL τ) {i k s : Nat} (hi : i < t 0 1) (hk : k ≤ 10) (hs : s ≤ 10) {cl : Int32} {cf : Nat → Nat} (hc : (cl = -4 ∧ cf = t 5) ∨ (∃ v, v ≤ 10 ∧ cl = nI v ∧ cf = fun _ => v)) : ∃ τ', f_X7_isHadBy σ τ (nI i) (nI k) (nI s) cl = some (if SO t s cf (v2 t (t 2 i - 1)) * (hN (t 1 i) (t 0 7) : Int) < (k : Int) * (DN t : Int) then 0 else 1, s41 σ (t 0 0), τ') ∧ InL τ' := by
  have kk := iT.1
  have k1 := kk.1
  have e := iT.2.1.1
  have c10 : ∀ m, m < t 0 2 → cf m ≤ 10 := fun m hm => by
    rcases hc with ⟨-, h⟩ | ⟨v, hv, -, h⟩
    · rw [h]; exact (kk.2.2.2.1 m hm).2.2
    · rw [h]; exact hv
  obtain ⟨t1, a1, a2, a3⟩ := wb7 (InvT_T7 iT) τ hs hc
  obtain ⟨τ', b1, b2, b3, b4, b5⟩ := pbo7 (InvT_T7 iT) kk (ON_rf t) a3 ((a2 50 0 (by omega)).trans hL)
  refine ⟨τ', ?_, b3⟩
  unfold f_X7_isHadBy
  rw [a1, bso]
  dsimp only
  rw [v1_8, bso, v1_9, bso, v1_5, bso, show (s41 σ (t 0 0)) 2 8 = _ from e 8 (by omega), show (s41 σ (t 0 0)) 2 9 = _ from e 9 (by omega), show (s41 σ (t 0 0)) 2 5 = _ from e 5 (by omega), b1, bso, met7 iT b5 hi, bso, v1_7, bso, show (s41 σ (t 0 0)) 2 7 = _ from e 7 (by omega), hold7 iT hi (by omega), bso, whole_n kk b2, bso]
  simp only [hb_cmp kk (SO_b kk hs c10 t (t 2 i - 1)) (hN_le (t 1 i) (t 0 7)) hk]
  split <;> rfl
theorem arms_ten {σ : ZI} {t : NN} (iT : InvT t σ) (a k : Int32) : ((a < 0 ∨ nI (t 0 1) ≤ a) ∨ ∃ i, i < t 0 1 ∧ a = nI i) ∧ ((k < 1 ∨ nI 10 < k) ∨ ∃ j, 1 ≤ j ∧ j ≤ 10 ∧ k = nI j) := by
  have k1 := iT.1.1
  refine ⟨ix_cases a (by omega), ?_⟩
  by_cases h : k < 1 ∨ nI 10 < k
  · exact .inl h
  · obtain ⟨v, v1, v2, rfl⟩ := rng (lo := 1) (hi := 10) h (by omega) (by omega)
    exact .inr ⟨v, v1, v2, rfl⟩
theorem ten7 {α : Type} {k : Int32} {x y : α} : (if k < 1 then x else if k ≤ 10 then y else x) = if k < 1 ∨ nI 10 < k then x else y := by
  by_cases h : k < 1
  · rw [if_pos h, if_pos (.inl h)]
  · rw [if_neg h]
    by_cases h2 : k ≤ 10
    · rw [if_pos h2, if_neg]
      rintro (q | q)
      · exact h q
      · exact Int32.not_le.mpr q h2
    · rw [if_neg h2, if_pos (.inr (Int32.not_le.mp h2))]
theorem ten8 (k : Int32) : f_X8_areTenths k = some (if k < 1 ∨ nI 10 < k then 0 else 1) := by
  unfold f_X8_areTenths
  rw [in_at 1 10 1 10 rfl rfl]
  by_cases h : k < 1 ∨ nI 10 < k
  · rw [if_pos (show k < 1 ∨ 10 < k from h), if_pos h]; rfl
  · rw [if_neg (show ¬ (k < 1 ∨ 10 < k) from h), if_neg h]; rfl
