/-! the reference's sums over all nights -/
def Sc (σ σ' : ZI) : Prop := ∀ c i, ¬ (c = 60 ∧ 33 ≤ i ∧ i ≤ 39) → σ' c i = σ c i
theorem Sc_rf (σ : ZI) : Sc σ σ := fun _ _ _ => rfl
theorem Sc_tr {a b c : ZI} (h : Sc a b) (h2 : Sc b c) : Sc a c := fun x i q => (h2 x i q).trans (h x i q)
theorem Sc_sg {σ σ' : ZI} (h : Sc σ σ') : Sg σ σ' := fun c i q _ => h c i (by
  rintro ⟨rfl, h1, h2⟩
  have : i = 33 ∨ i = 34 ∨ i = 35 ∨ i = 36 ∨ i = 37 ∨ i = 38 ∨ i = 39 := by omega
  rcases this with rfl | rfl | rfl | rfl | rfl | rfl | rfl <;> exact q rfl)
theorem R8_fr {t : NN} {σ σ' : ZI} (h : Sc σ σ') (q : R8 t σ) : R8 t σ' := ⟨q.1, RP_fr q.1 (fun i _ => h _ _ (by omega)) q.2.1, RS_fr ⟨h _ _ (by omega), h _ _ (by omega), h _ _ (by omega), h _ _ (by omega)⟩ (fun c i h1 h2 => h _ _ (by omega)) q.2.2⟩
theorem N8_Sc (σ : ZI) (c o i m h to p : Int32) : Sc σ (N8 σ c o i m h to p) := fun x k hk => by
  by_cases hx : x = 60
  · subst hx
    show qf (σ 60) c o i m h to p k = σ 60 k
    have : k ≠ 33 ∧ k ≠ 34 ∧ k ≠ 35 ∧ k ≠ 36 ∧ k ≠ 37 ∧ k ≠ 38 ∧ k ≠ 39 := by omega
    obtain ⟨a, b, c, d, e, f, g⟩ := this
    simp [qf, a, b, c, d, e, f, g]
  · show va_up σ 60 _ x k = _
    simp only [va_up, if_neg hx]
theorem s33_Sc (σ : ZI) (v : Int32) : Sc σ (s33 σ v) := fun x k hk => up_ne σ (by omega)
theorem slip8 {t : NN} {σ : ZI} (q : R8 t σ) : f_X8_slip σ = some (nI (t 0 6)) := by
  unfold f_X8_slip
  rw [show σ 61 13 = _ from q.2.1.2.2.2.2.2.1, Int32.sub_add_cancel]
theorem wgt2 {t : NN} {σ : ZI} (q : R8 t σ) {x n : Nat} (hn : n < 2 ^ 31) (A : Int) : ∀ (d i fu : Nat), i + d = t 0 2 → d < fu → f_X8_weightOf_52 σ (nI x) (nI n) fu (iL (A * wp (orr (t 5)) n i)) (nI i) = some (iL (A * wp (orr (t 5)) n (t 0 2))) := by
  have k1 := q.1.1
  have k4 := q.1.2.2.2.1
  intro d
  induction d with
  | zero =>
    intro i fu h1 h2
    obtain ⟨fu, rfl⟩ : ∃ m, fu = m + 1 := ⟨fu - 1, by omega⟩
    obtain rfl : i = t 0 2 := by omega
    rw [f_X8_weightOf_52, show σ 60 5 = _ from q.2.2.2.2.1, if_pos (Int32.le_refl _)]
  | succ d ih =>
    intro i fu h1 h2
    obtain ⟨fu, rfl⟩ : ∃ m, fu = m + 1 := ⟨fu - 1, by omega⟩
    have c10 := (k4 i (by omega)).2.2
    have e3 : σ 61 (3 + i) = nI (t 5 i) := by have := q.2.1.2.1 i (by omega); rw [Nat.zero_add] at this; exact this
    have e : wp (orr (t 5)) n (i + 1) = wp (orr (t 5)) n i * (if n.testBit i then (t 5 i : Int) else 10 - (t 5 i : Int)) := rfl
    rw [f_X8_weightOf_52, show σ 60 5 = _ from q.2.2.2.2.1, if_neg (nI_ge (by omega) (by omega)), show (3 : Int32) + nI i = nI (3 + i) from nI_add 3 i, inB_n (by omega) (by omega), nI_clamp (by omega), e3]
    unfold f_X8_weightOf_98
    rw [if_pos rfl, if_pos rfl, nI_1, nI_iL (by omega), i10 c10, ← iL_mul, ← iL_mul, Int.mul_assoc, Int.mul_assoc]
    dsimp only
    by_cases b : n.testBit i = true
    · rw [if_pos ((bt1 (by omega) hn).mpr b), ← ih (i + 1) fu (by omega) (by omega), e, if_pos b]
    · rw [if_neg (fun z => b ((bt1 (by omega) hn).mp z)), ← ih (i + 1) fu (by omega) (by omega), e, if_neg b]
theorem wgt8 {t : NN} {σ : ZI} (q : R8 t σ) {x n : Nat} (hx : x < 2 ^ 31) (hn : n < 2 ^ 31) : f_X8_weightOf σ (nI x) (nI n) = some (iL (wp (oq (t 0 6)) x (t 0 0) * wp (orr (t 5)) n (t 0 2))) := by
  have k1 := q.1.1
  have L : ∀ (d i fu : Nat), i + d = t 0 0 → d < fu → f_X8_weightOf_5 σ (nI x) (nI n) fu (iL (wp (oq (t 0 6)) x i)) (nI i) = some (iL (wp (oq (t 0 6)) x (t 0 0) * wp (orr (t 5)) n (t 0 2))) := by
    intro d
    induction d with
    | zero =>
      intro i fu h1 h2
      obtain ⟨fu, rfl⟩ : ∃ m, fu = m + 1 := ⟨fu - 1, by omega⟩
      obtain rfl : i = t 0 0 := by omega
      rw [f_X8_weightOf_5, show σ 60 1 = _ from q.2.2.1, if_pos (Int32.le_refl _)]
      have := wgt2 q (x := x) hn (wp (oq (t 0 6)) x (t 0 0)) (t 0 2) 0 3000 (by omega) (by omega)
      rw [← this]
      show _ = f_X8_weightOf_52 σ (nI x) (nI n) 3000 (iL (_ * 1)) 0
      rw [Int.mul_one]
    | succ d ih =>
      intro i fu h1 h2
      obtain ⟨fu, rfl⟩ : ∃ m, fu = m + 1 := ⟨fu - 1, by omega⟩
      have e : wp (oq (t 0 6)) x (i + 1) = wp (oq (t 0 6)) x i * (if x.testBit i then (t 0 6 : Int) else 10 - (t 0 6 : Int)) := rfl
      rw [f_X8_weightOf_5, show σ 60 1 = _ from q.2.2.1, if_neg (nI_ge (by omega) (by omega)), slip8 q, bso, bso]
      unfold f_X8_weightOf_41
      rw [nI_1, nI_iL (by omega), i10 (by omega), ← iL_mul, ← iL_mul]
      dsimp only
      by_cases b : x.testBit i = true
      · rw [if_pos ((bt1 (by omega) hx).mpr b), ← ih (i + 1) fu (by omega) (by omega), e, if_pos b]
      · rw [if_neg (fun z => b ((bt1 (by omega) hx).mp z)), ← ih (i + 1) fu (by omega) (by omega), e, if_neg b]
  exact L (t 0 0) 0 3000 (by omega) (by omega)
theorem sum8 {t : NN} {σ : ZI} (q : R8 t σ) {a b c : Int32} (V : Nat → Nat → Int) (hV : ∀ (σ' : ZI) (x n : Nat), Sc σ σ' → x < 2 ^ t 0 0 → n < 2 ^ t 0 2 → ∃ v σ'', f_X8_valueOf (c8 t σ' x n (t 0 0)) a b c (nI x) (nI n) = some (v, σ'') ∧ v.toInt64 = iL (V x n) ∧ Sc σ σ'') : ∃ σ', f_X8_sumOf σ a b c = some (iL (SN (oq (t 0 6)) (orr (t 5)) (t 0 0) (t 0 2) V), σ') ∧ Sc σ σ' := by
  have k1 := q.1.1
  have p1 := p2J (J := t 0 0) (by omega)
  have p2 : 2 ^ t 0 2 ≤ 8 := (Nat.pow_le_pow_right (by omega) (show t 0 2 ≤ 3 by omega) : 2 ^ t 0 2 ≤ 2 ^ 3)
  have In : ∀ (k : ZI → Int64 → Int32 → Option (Int64 × ZI)) (A : Int) (x : Nat), x < 2 ^ t 0 0 → ∀ (d n fu : Nat) (σ' : ZI), n + d = 2 ^ t 0 2 → d < fu → Sc σ σ' → ∃ σ'', Sc σ σ'' ∧ f_X8_sumOf_20 a b c k fu σ' (iL (A + wp (oq (t 0 6)) x (t 0 0) * sm (fun n => wp (orr (t 5)) n (t 0 2) * V x n) n)) (nI x) (nI n) = k σ'' (iL (A + wp (oq (t 0 6)) x (t 0 0) * sm (fun n => wp (orr (t 5)) n (t 0 2) * V x n) (2 ^ t 0 2))) (nI (x + 1)) := by
    intro k A x hx d
    induction d with
    | zero =>
      intro n fu σ' h1 h2 h3
      obtain ⟨fu, rfl⟩ : ∃ m, fu = m + 1 := ⟨fu - 1, by omega⟩
      obtain rfl : n = 2 ^ t 0 2 := by omega
      have q' := R8_fr h3 q
      exact ⟨σ', h3, by rw [f_X8_sumOf_20, show σ' 60 5 = _ from q'.2.2.2.2.1, sbl (by omega), if_pos (Int32.le_refl _), nI_1]⟩
    | succ d ih =>
      intro n fu σ' h1 h2 h3
      obtain ⟨fu, rfl⟩ : ∃ m, fu = m + 1 := ⟨fu - 1, by omega⟩
      have q' := R8_fr h3 q
      rw [f_X8_sumOf_20, show σ' 60 5 = _ from q'.2.2.2.2.1, sbl (by omega), if_neg (nI_ge (by omega) (by omega)), wgt8 q' (by omega) (by omega), bso]
      unfold f_X8_sumOf_76
      rw [nI_1]
      have es : A + wp (oq (t 0 6)) x (t 0 0) * sm (fun n => wp (orr (t 5)) n (t 0 2) * V x n) (n + 1) = (A + wp (oq (t 0 6)) x (t 0 0) * sm (fun n => wp (orr (t 5)) n (t 0 2) * V x n) n) + (wp (oq (t 0 6)) x (t 0 0) * wp (orr (t 5)) n (t 0 2)) * V x n := by
        simp only [sm]
        grind
      have es' := (congrArg iL es).trans ((iL_add _ _).trans (congrArg (fun z => iL (A + wp (oq (t 0 6)) x (t 0 0) * sm (fun n => wp (orr (t 5)) n (t 0 2) * V x n) n) + z) (iL_mul _ _)))
      by_cases hz : iL (wp (oq (t 0 6)) x (t 0 0) * wp (orr (t 5)) n (t 0 2)) = 0
      · rw [if_pos ((cmp0 _ _).mpr hz)]
        obtain ⟨σ'', g1, g2⟩ := ih (n + 1) fu σ' (by omega) (by omega) h3
        refine ⟨σ'', g1, ?_⟩
        rw [← g2, es', hz, Int64.zero_mul, Int64.add_zero]
      · rw [if_neg (fun z => hz ((cmp0 _ _).mp z)), night8 q' (by omega) (by omega), bso]
        obtain ⟨v, σ2, v1, v2, v3⟩ := hV σ' x n h3 hx (by omega)
        rw [v1, bso, ltq]
        obtain ⟨σ'', g1, g2⟩ := ih (n + 1) fu σ2 (by omega) (by omega) v3
        refine ⟨σ'', g1, ?_⟩
        rw [← g2, es', v2]
  have Ou : ∀ (d x fu : Nat) (σ' : ZI), x + d = 2 ^ t 0 0 → d < fu → Sc σ σ' → ∃ σ'', f_X8_sumOf_6 a b c fu σ' (iL (sm (fun x => wp (oq (t 0 6)) x (t 0 0) * sm (fun n => wp (orr (t 5)) n (t 0 2) * V x n) (2 ^ t 0 2)) x)) (nI x) = some (iL (SN (oq (t 0 6)) (orr (t 5)) (t 0 0) (t 0 2) V), σ'') ∧ Sc σ σ'' := by
    intro d
    induction d with
    | zero =>
      intro x fu σ' h1 h2 h3
      obtain ⟨fu, rfl⟩ : ∃ m, fu = m + 1 := ⟨fu - 1, by omega⟩
      obtain rfl : x = 2 ^ t 0 0 := by omega
      have q' := R8_fr h3 q
      refine ⟨σ', ?_, h3⟩
      rw [f_X8_sumOf_6, show σ' 60 1 = _ from q'.2.2.1, sbl (by omega), if_pos (Int32.le_refl _)]
      rfl
    | succ d ih =>
      intro x fu σ' h1 h2 h3
      obtain ⟨fu, rfl⟩ : ∃ m, fu = m + 1 := ⟨fu - 1, by omega⟩
      have q' := R8_fr h3 q
      obtain ⟨σ2, g1, g2⟩ := In (fun σ v4 v6 => f_X8_sumOf_6 a b c fu σ v4 v6) (sm (fun x => wp (oq (t 0 6)) x (t 0 0) * sm (fun n => wp (orr (t 5)) n (t 0 2) * V x n) (2 ^ t 0 2)) x) x (by omega) (2 ^ t 0 2) 0 3000 σ' (by omega) (by omega) h3
      obtain ⟨σ'', e1, e2⟩ := ih (x + 1) fu σ2 (by omega) (by omega) g1
      refine ⟨σ'', ?_, e2⟩
      rw [f_X8_sumOf_6, show σ' 60 1 = _ from q'.2.2.1, sbl (by omega), if_neg (nI_ge (by omega) (by omega))]
      rw [← e1]
      refine Eq.trans ?_ g2
      show f_X8_sumOf_20 a b c _ 3000 σ' _ (nI x) 0 = f_X8_sumOf_20 a b c _ 3000 σ' (iL (_ + _ * 0)) (nI x) 0
      rw [Int.mul_zero, Int.add_zero]
  exact Ou (2 ^ t 0 0) 0 3000 σ (by omega) (by omega) (Sc_rf σ)
theorem aw_l {σ : ZI} : ∀ (d fu : Nat) (A : Int) (x : Int32), d < 2 ^ 31 → d < fu → f_X8_allWeight_23 σ x fu (iL A) (nI d) = some (iL (A * 10 ^ d)) := by
  intro d
  induction d with
  | zero =>
    intro fu A x h0 h
    obtain ⟨fu, rfl⟩ : ∃ m, fu = m + 1 := ⟨fu - 1, by omega⟩
    rw [f_X8_allWeight_23, if_pos (by decide), Int.pow_zero, Int.mul_one]
  | succ d ih =>
    intro fu A x h0 h
    obtain ⟨fu, rfl⟩ : ∃ m, fu = m + 1 := ⟨fu - 1, by omega⟩
    rw [f_X8_allWeight_23, if_neg (nI_nle (by omega) (by omega)), pk_m1, show iL A * 10 = iL (A * 10) from (iL_mul A 10).symm, ih fu _ x (by omega) (by omega), Int.pow_succ]
    congr 2
    grind
theorem aw8_0 {t : NN} {σ : ZI} (q : R8 t σ) : f_X8_allWeight σ 0 = some (iL (1 * 10 ^ (t 0 0 + t 0 2))) := by
  have k1 := q.1.1
  unfold f_X8_allWeight f_X8_allWeight_11
  rw [show σ 60 1 = _ from q.2.2.1, show σ 60 5 = _ from q.2.2.2.2.1, nI_add, if_pos rfl]
  exact aw_l _ 3000 1 _ (by omega) (by omega)
theorem aw8_1 {t : NN} {σ : ZI} (q : R8 t σ) : f_X8_allWeight σ 1 = some (iL (10 * 10 ^ (t 0 0 + t 0 2))) := by
  have k1 := q.1.1
  unfold f_X8_allWeight f_X8_allWeight_11
  rw [show σ 60 1 = _ from q.2.2.1, show σ 60 5 = _ from q.2.2.2.2.1, nI_add, if_neg (by decide)]
  exact aw_l _ 3000 10 _ (by omega) (by omega)
