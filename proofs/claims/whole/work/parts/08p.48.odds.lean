/-! by odds: the calls, on both sides -/
def RLz (X : Option (Int64 × ZI × ZL)) (Y : ZI → Option (Int64 × ZI)) : Prop := ∃ r σ1 τ1 σ2, X = some (r, σ1, τ1) ∧ Y σ1 = some (r, σ2) ∧ Inv σ2 ∧ InL τ1
theorem rl_bad {σ : ZI} {τ : ZL} (I : Inv σ) (hL : InL τ) {X : Option (Int64 × ZI × ZL)} {Y : ZI → Option (Int64 × ZI)} (hX : X = some (-1, σ, τ)) (hY : Y σ = some (-1, σ)) : RLz X Y := ⟨-1, σ, τ, σ, hX, hY, I, hL⟩
theorem rl_fin {t : NN} {σ : ZI} {τ1 : ZL} {a b c w : Int32} {V : Nat → Nat → Int} {num : Int} {D : Nat} (I : Inv σ) (iT : InvT t σ) (hL : InL τ1) (hn : num = SO t (t 0 6) (t 5) V) (hD : D = (if a = 3 ∨ a = 6 then 10 else 1) * DN t) (bd : ∀ x n, -1000 ≤ V x n ∧ V x n ≤ 1000) (hV : ∀ (σ' : ZI) (x n : Nat), Sc (s41 σ (t 0 0)) σ' → x < 2 ^ t 0 0 → n < 2 ^ t 0 2 → VO t σ' a b c x n (V x n)) {X : Option (Int64 × ZI × ZL)} {Y : ZI → Option (Int64 × ZI)}
    (hX : X = (f_X7_part (iL num) (iL D) w).bind fun q7 => some (q7, s41 σ (t 0 0), τ1)) (hY : Y (s41 σ (t 0 0)) = (f_X8_meanOf (s41 σ (t 0 0)) a b c w).bind fun q => some (q.1, q.2)) : RLz X Y := by
  have k := iT.1
  have k1 := k.1
  have p := p10 k
  have iT' : InvT t (s41 σ (t 0 0)) := InvT_sg (s41_sg _ _) iT
  obtain ⟨-, σ', m1, m2⟩ := mean8 (w := w) (InvT_R8 iT') V hV
  have bb := SN_bd k (s := t 0 6) (by omega) (cf := t 5) (fun m hm => (k.2.2.2.1 m hm).2.2) bd
  have hD1 : 1 ≤ D ∧ D < 2 ^ 47 := by
    rw [hD]
    unfold DN
    split <;> omega
  have hn2 : -4000000000000000000 ≤ num ∧ num ≤ 4000000000000000000 := by
    rw [hn]
    unfold SO
    omega
  obtain ⟨r, r1, r2⟩ := pl_eq hn2 hD1.1 hD1.2 w
  refine ⟨r, s41 σ (t 0 0), τ1, σ', ?_, ?_, Inv_sg (Sc_sg m1) (Inv_sg (s41_sg _ _) I), hL⟩
  · rw [hX, r1, bso]
  · rw [hn, hD] at r2
    rw [hY, m2, show f_X8_lowest _ _ w = _ from r2, bso, bso]
theorem whole_n {t : NN} {τ : ZL} {s : Nat} {cf : Nat → Nat} (k : TK t) (hW : Wg τ (PO t s cf) (t 0 0)) : f_X0_whole τ = some (iL (DN t)) := by
  have := hW.2 (t 0 0) (Nat.le_refl _)
  rw [Nat.sub_self, whole7 k] at this
  exact congrArg some this
theorem S_bd {t : NN} {x n : Nat} (j : Nat) : -1000 ≤ v2 t j x n ∧ v2 t j x n ≤ 1000 := by rcases v2_01 t j x n with h | h <;> rw [h] <;> omega
/-- the class's walk as the text has it -/
theorem pb7 {t : NN} {σ : ZI} {τ : ZL} (iT : InvT t σ) (hL : InL τ) : ∃ τ', f_X7_passByOdds σ τ = some (s41 σ (t 0 0), τ') ∧ Wg τ' (PO t (t 0 6) (t 5)) (t 0 0) ∧ InL τ' ∧ (∀ j, j < t 0 0 → τ' 49 (j + 1) = iL (SO t (t 0 6) (t 5) (v1 t j))) ∧ (∀ j, j < t 0 0 → τ' 50 (j + 1) = iL (SO t (t 0 6) (t 5) (v2 t j))) := by
  have k1 := iT.1.1
  have e := iT.2.1.1
  obtain ⟨t1, a1, a2, a3⟩ := wb7 (InvT_T7 iT) τ (s := t 0 6) (by omega) (cl := -4) (.inl ⟨rfl, rfl⟩)
  obtain ⟨τ', b1, b2, b3, b4, b5⟩ := pbo7 (InvT_T7 iT) iT.1 (ON_rf t) a3 ((a2 50 0 (by omega)).trans hL)
  refine ⟨τ', ?_, b2, b3, fun j hj => by rw [b4 j hj, G_v1 iT.1 _ _ hj], b5⟩
  unfold f_X7_passByOdds
  rw [v1_6, bso, show σ 2 6 = _ from e 6 (by omega), a1, bso, v1_8, bso, v1_9, bso, v1_5, bso]
  dsimp only
  rw [show (s41 σ (t 0 0)) 2 8 = _ from e 8 (by omega), show (s41 σ (t 0 0)) 2 9 = _ from e 9 (by omega), show (s41 σ (t 0 0)) 2 5 = _ from e 5 (by omega), b1, bso]
/-- the parts of what is read of the walk -/
theorem met7 {t : NN} {σ : ZI} {τ : ZL} (iT : InvT t σ) {O : Nat → Int} (h : ∀ j, j < t 0 0 → τ 50 (j + 1) = iL (O j)) {i : Nat} (hi : i < t 0 1) : f_X7_metBy (s41 σ (t 0 0)) τ (nI i) = some (iL (O (t 2 i - 1))) := by
  have k1 := iT.1.1
  have k2 := iT.1.2.1 i hi
  unfold f_X7_metBy
  rw [at_n (N := 3) rfl (by omega) (by omega), bso, show (s41 σ (t 0 0)) 4 i = _ from (iT.2.1.2.1 i hi).2.1, atL_n rfl rfl (by omega), bso]
  have := h (t 2 i - 1) (by omega)
  rw [show t 2 i - 1 + 1 = t 2 i by omega] at this
  rw [this]
theorem hold7 {t : NN} {σ : ZI} (iT : InvT t σ) {i p : Nat} (hi : i < t 0 1) (hp : p ≤ 9) : f_X6_holdsOf (s41 σ (t 0 0)) 1 (nI i) (nI p) = some (nI (hN (t 1 i) p)) := by
  have k1 := iT.1.1
  have k2 := iT.1.2.1 i hi
  exact ho7 rfl (by rw [at_n (N := 3) rfl (by omega) (by omega)]; exact congrArg some (iT.2.1.2.1 i hi).1) k2.1 hp
theorem hit7_l {t : NN} {σ : ZI} {τ : ZL} (iT : InvT t σ) {O : Nat → Int} (h : ∀ j, j < t 0 0 → τ 50 (j + 1) = iL (O j)) : ∀ (d j fu : Nat), j + d = t 0 0 → d < fu → f_X7_hitByOdds_4 (s41 σ (t 0 0)) τ fu (iL (sm (fun j => if (t 0 4).testBit j = true then O j else 0) j)) (nI (j + 1)) = some (iL (sm (fun j => if (t 0 4).testBit j = true then O j else 0) (t 0 0))) := by
  have k1 := iT.1.1
  intro d
  induction d with
  | zero =>
    intro j fu h1 h2
    obtain ⟨fu, rfl⟩ : ∃ m, fu = m + 1 := ⟨fu - 1, by omega⟩
    obtain rfl : j = t 0 0 := by omega
    rw [f_X7_hitByOdds_4, v1_0, bso, show (s41 σ (t 0 0)) 2 0 = _ from iT.2.1.1 0 (by omega), if_pos (nI_lt (by omega) (by omega))]
  | succ d ih =>
    intro j fu h1 h2
    obtain ⟨fu, rfl⟩ : ∃ m, fu = m + 1 := ⟨fu - 1, by omega⟩
    rw [f_X7_hitByOdds_4, v1_0, bso, show (s41 σ (t 0 0)) 2 0 = _ from iT.2.1.1 0 (by omega), if_neg (nI_nlt (by omega) (by omega)), sg7 (σ := s41 σ (t 0 0)) (b := 1) (s := t 0 4) rfl rfl (by omega) (TK_s iT.1) (iT.2.1.1 4 (by omega)), bso, atL_n rfl rfl (by omega), bso]
    unfold f_X7_hitByOdds_41
    rw [nI_1, h j (by omega), ← iL_add, ← ih (j + 1) fu (by omega) (by omega)]
    have e : sm (fun j => if (t 0 4).testBit j = true then O j else 0) (j + 1) = sm (fun j => if (t 0 4).testBit j = true then O j else 0) j + (if (t 0 4).testBit j = true then O j else 0) := rfl
    rw [e]
    by_cases b : (t 0 4).testBit j = true
    · rw [if_pos b, if_pos b, if_neg (by decide)]
    · rw [if_neg b, if_neg b, if_pos rfl, Int.add_zero]
theorem hit7 {t : NN} {σ : ZI} {τ : ZL} (iT : InvT t σ) {O : Nat → Int} (h : ∀ j, j < t 0 0 → τ 50 (j + 1) = iL (O j)) : f_X7_hitByOdds (s41 σ (t 0 0)) τ = some (iL (sm (fun j => if (t 0 4).testBit j = true then O j else 0) (t 0 0))) := hit7_l iT h (t 0 0) 0 3000 (by omega) (by have := iT.1.1; omega)
theorem torn7 {t : NN} {σ : ZI} {τ : ZL} (iT : InvT t σ) (hL : InL τ) {O : Nat → Int} (h : ∀ j, j < t 0 0 → τ 50 (j + 1) = iL (O j)) : f_X7_tornByOdds (s41 σ (t 0 0)) τ = some (iL (if 1 ≤ t 0 5 then O (t 0 5 - 1) else 0)) := by
  have k1 := iT.1.1
  unfold f_X7_tornByOdds
  rw [v1_5, bso, show (s41 σ (t 0 0)) 2 5 = _ from iT.2.1.1 5 (by omega), atL_n rfl rfl (by omega), bso]
  by_cases b : 1 ≤ t 0 5
  · have := h (t 0 5 - 1) (by omega)
    rw [show t 0 5 - 1 + 1 = t 0 5 by omega] at this
    rw [if_pos b, this]
  · rw [if_neg b, show t 0 5 = 0 by omega]
    exact congrArg some hL
def WW (t : NN) (O : Nat → Int) : Int := sm (fun i => O (t 2 i - 1) * (hN (t 1 i) (t 0 7) : Int) * (t 3 i : Int)) (t 0 1) - 10 * (sm (fun j => if (t 0 4).testBit j = true then O j else 0) (t 0 0) * (t 0 10 : Int) + (if 1 ≤ t 0 5 then O (t 0 5 - 1) else 0) * (t 0 11 : Int))
theorem iL_sub (a b : Int) : iL a - iL b = iL (a - b) := (Int64.ofInt_sub a b).symm
theorem wor7 {t : NN} {σ : ZI} {τ : ZL} (iT : InvT t σ) (hL : InL τ) {O : Nat → Int} (h : ∀ j, j < t 0 0 → τ 50 (j + 1) = iL (O j)) : f_X7_worthByOdds (s41 σ (t 0 0)) τ = some (iL (WW t O)) := by
  have k1 := iT.1.1
  have L : ∀ (d i fu : Nat), i + d = t 0 1 → d < fu → f_X7_worthByOdds_4 (s41 σ (t 0 0)) τ fu (iL (sm (fun i => O (t 2 i - 1) * (hN (t 1 i) (t 0 7) : Int) * (t 3 i : Int)) i)) (nI i) = some (iL (WW t O)) := by
    intro d
    induction d with
    | zero =>
      intro i fu h1 h2
      obtain ⟨fu, rfl⟩ : ∃ m, fu = m + 1 := ⟨fu - 1, by omega⟩
      obtain rfl : i = t 0 1 := by omega
      rw [f_X7_worthByOdds_4, v1_1, bso, show (s41 σ (t 0 0)) 2 1 = _ from iT.2.1.1 1 (by omega), if_pos (Int32.le_refl _), hit7 iT h, bso, v1_10, bso, torn7 iT hL h, bso, v1_11, bso, ltq, show (s41 σ (t 0 0)) 2 10 = _ from iT.2.1.1 10 (by omega), show (s41 σ (t 0 0)) 2 11 = _ from iT.2.1.1 11 (by omega), nI_iL (by omega), nI_iL (by omega), ← iL_mul, ← iL_mul, ← iL_add, show (10 : Int64) = iL 10 from rfl, ← iL_mul, iL_sub]
      rfl
    | succ d ih =>
      intro i fu h1 h2
      obtain ⟨fu, rfl⟩ : ∃ m, fu = m + 1 := ⟨fu - 1, by omega⟩
      have ki := iT.1.2.1 i (by omega)
      have hl := hN_le (t 1 i) (t 0 7)
      rw [f_X7_worthByOdds_4, v1_1, bso, show (s41 σ (t 0 0)) 2 1 = _ from iT.2.1.1 1 (by omega), if_neg (nI_ge (by omega) (by omega)), met7 iT h (by omega), bso, v1_7, bso, show (s41 σ (t 0 0)) 2 7 = _ from iT.2.1.1 7 (by omega), hold7 iT (by omega) (by omega), bso, at_n (N := 3) rfl (by omega) (by omega), bso, show (s41 σ (t 0 0)) 5 i = _ from (iT.2.1.2.1 i (by omega)).2.2, ltq, nI_iL (by omega), nI_iL (by omega), ← iL_mul, ← iL_mul, ← iL_add, nI_1]
      exact ih (i + 1) fu (by omega) (by omega)
  unfold f_X7_worthByOdds
  exact L (t 0 1) 0 3000 (by omega) (by omega)
theorem SO_mul (t : NN) (s : Nat) (cf : Nat → Nat) (V : Nat → Nat → Int) (a : Int) : SO t s cf (fun x n => V x n * a) = SO t s cf V * a := by
  unfold SO
  rw [SN_congr (w := fun x n => a * V x n) (fun x n _ _ => Int.mul_comm _ _), SN_mul, Int.mul_comm]
theorem SO_sub (t : NN) (s : Nat) (cf : Nat → Nat) (V W : Nat → Nat → Int) : SO t s cf (fun x n => V x n - W x n) = SO t s cf V - SO t s cf W := by
  unfold SO
  have h := SN_mul (-1) (oq s) (orr cf) (t 0 0) (t 0 2) W
  rw [SN_congr (w := fun x n => V x n + -1 * W x n) (fun x n _ _ => by omega), SN_add, h]
  omega
theorem SO_0 (t : NN) (s : Nat) (cf : Nat → Nat) : SO t s cf (fun _ _ => 0) = 0 := by
  have := SN_mul 0 (oq s) (orr cf) (t 0 0) (t 0 2) (fun _ _ => 0)
  simp at this
  exact this
theorem SO_v4 {t u : NN} (h : ON t u) (s : Nat) (cf : Nat → Nat) : SO t s cf (v4 u) = sm (fun j => if (t 0 4).testBit j = true then SO t s cf (v2 u j) else 0) (t 0 0) := by
  have e4 : u 0 4 = t 0 4 := h _ _ (by omega)
  have e0 : u 0 0 = t 0 0 := h _ _ (by omega)
  have e : SO t s cf (v4 u) = sm (fun j => SO t s cf (fun x n => if (t 0 4).testBit j = true then v2 u j x n else 0)) (t 0 0) := by
    unfold SO v4
    rw [e4, e0]
    exact SN_sm _ _ _ _ (fun j x n => if (t 0 4).testBit j = true then v2 u j x n else 0) (t 0 0)
  rw [e]
  refine sm_congr fun j _ => ?_
  by_cases b : (t 0 4).testBit j = true
  · simp only [b, if_true]
  · simp only [b, if_false]
    exact SO_0 t s cf
theorem SO_v5 {t u : NN} (h : ON t u) (s : Nat) (cf : Nat → Nat) : SO t s cf (v5 u) = if 1 ≤ t 0 5 then SO t s cf (v2 u (t 0 5 - 1)) else 0 := by
  have e5 : u 0 5 = t 0 5 := h _ _ (by omega)
  unfold v5
  rw [e5]
  by_cases b : 1 ≤ t 0 5
  · simp only [b, if_true]
  · simp only [b, if_false]
    exact SO_0 t s cf
theorem SO_v6 {t u : NN} (h : ON t u) (s : Nat) (cf : Nat → Nat) : SO t s cf (v6 u) = WW t (fun j => SO t s cf (v2 u j)) := by
  have e1 : u 0 1 = t 0 1 := h _ _ (by omega)
  have e7 : u 0 7 = t 0 7 := h _ _ (by omega)
  have e10 : u 0 10 = t 0 10 := h _ _ (by omega)
  have e11 : u 0 11 = t 0 11 := h _ _ (by omega)
  have a : SO t s cf (fun x n => sm (fun i => v3 u i x n * (u 3 i : Int)) (u 0 1)) = sm (fun i => SO t s cf (v2 u (t 2 i - 1)) * (hN (t 1 i) (t 0 7) : Int) * (t 3 i : Int)) (t 0 1) := by
    rw [e1]
    have : SO t s cf (fun x n => sm (fun i => v3 u i x n * (u 3 i : Int)) (t 0 1)) = sm (fun i => SO t s cf (fun x n => v3 u i x n * (u 3 i : Int))) (t 0 1) := SN_sm _ _ _ _ (fun i x n => v3 u i x n * (u 3 i : Int)) (t 0 1)
    rw [this]
    refine sm_congr fun i _ => ?_
    unfold v3
    rw [show u 2 i = t 2 i from h _ _ (by omega), show u 1 i = t 1 i from h _ _ (by omega), show u 3 i = t 3 i from h _ _ (by omega), e7, SO_mul, SO_mul]
  have b : SO t s cf (fun x n => v4 u x n * (u 0 10 : Int) + v5 u x n * (u 0 11 : Int)) = SO t s cf (v4 u) * (t 0 10 : Int) + SO t s cf (v5 u) * (t 0 11 : Int) := by
    rw [e10, e11, ← SO_mul, ← SO_mul]
    exact SN_add _ _ _ _ _ _
  have c : SO t s cf (fun x n => 10 * (v4 u x n * (u 0 10 : Int) + v5 u x n * (u 0 11 : Int))) = 10 * SO t s cf (fun x n => v4 u x n * (u 0 10 : Int) + v5 u x n * (u 0 11 : Int)) := SN_mul 10 _ _ _ _ _
  have d : SO t s cf (v6 u) = SO t s cf (fun x n => sm (fun i => v3 u i x n * (u 3 i : Int)) (u 0 1)) - SO t s cf (fun x n => 10 * (v4 u x n * (u 0 10 : Int) + v5 u x n * (u 0 11 : Int))) := SO_sub t s cf _ _
  rw [d, a, c, b, SO_v4 h, SO_v5 h]
  rfl
