/-! fits, on both sides *-/
theorem an_n (a b : Nat) : nI a &&& nI b = nI (a &&& b) := by
  apply Int32.toBitVec_inj.mp
  apply BitVec.eq_of_getLsbD_eq
  intro i hi
  show ((BitVec.ofNat 32 a) &&& (BitVec.ofNat 32 b)).getLsbD i = (BitVec.ofNat 32 (a &&& b)).getLsbD i
  simp [BitVec.getLsbD_and, BitVec.getLsbD_ofNat, Nat.testBit_and, hi]
theorem nn_n {a : Nat} (ha : a < 2 ^ 10) (x : Nat) : nI a &&& (nI x ^^^ (-1 : Int32)) = nI (a &&& (1023 ^^^ x)) := by
  apply Int32.toBitVec_inj.mp
  apply BitVec.eq_of_getLsbD_eq
  intro i hi
  show ((BitVec.ofNat 32 a) &&& ((BitVec.ofNat 32 x) ^^^ (BitVec.allOnes 32))).getLsbD i = (BitVec.ofNat 32 (a &&& (1023 ^^^ x))).getLsbD i
  simp only [BitVec.getLsbD_and, BitVec.getLsbD_ofNat, BitVec.getLsbD_xor, BitVec.getLsbD_allOnes, Nat.testBit_and, Nat.testBit_xor, hi, decide_true, Bool.true_and]
  by_cases h : i < 10
  · have e : (1023 : Nat).testBit i = true := by
      rw [show (1023 : Nat) = 2 ^ 10 - 1 by rfl, Nat.testBit_two_pow_sub_one]
      simp [h]
    rw [e]
    cases a.testBit i <;> cases x.testBit i <;> rfl
  · have : a.testBit i = false := Nat.testBit_lt_two_pow (Nat.lt_of_lt_of_le ha (Nat.pow_le_pow_right (by omega) (by omega)))
    rw [this]; rfl
theorem nx_bit {x i : Nat} (h : i < 10) : (1023 ^^^ x).testBit i = !x.testBit i := by
  have e : (1023 : Nat).testBit i = true := by
    rw [show (1023 : Nat) = 2 ^ 10 - 1 by rfl, Nat.testBit_two_pow_sub_one]
    simp [h]
  rw [Nat.testBit_xor, e]
  cases x.testBit i <;> rfl
section FT
variable (t : NN) (sj sc : Nat → Nat) (N : Nat)
def Pr (x n x' n' : Nat) : Prop := n' < 2 ^ t 0 2 ∧ (x' < x ∨ (x' = x ∧ n' < n))
/-- the bits that all have (b true), or that none has -/
def AB (x n : Nat) (f : Nat → Nat → Nat) (K : Nat) (b : Bool) (z : Nat) : Prop := z < 2 ^ K ∧ ∀ j, j < K → (z.testBit j = true ↔ ∀ x' n', Pr t x n x' n' → as_ t sj sc x' n' N = true → (f x' n').testBit j = b)
def ST (x n c am nm an nn : Nat) : Prop := ((c : Int) = sm (fun x => sm (fun n => v7 t sj sc N x n) (2 ^ t 0 2)) x + sm (fun n => v7 t sj sc N x n) n) ∧ AB t sj sc N x n (fun x _ => x) (t 0 0) true am ∧ AB t sj sc N x n (fun x _ => x) (t 0 0) false nm ∧ AB t sj sc N x n (fun _ n => n) (t 0 2) true an ∧ AB t sj sc N x n (fun _ n => n) (t 0 2) false nn
end FT
theorem AB_0 (t : NN) (sj sc : Nat → Nat) (N : Nat) (f : Nat → Nat → Nat) (K : Nat) (b : Bool) : AB t sj sc N 0 0 f K b (2 ^ K - 1) := by
  have := Nat.one_le_two_pow (n := K)
  refine ⟨by omega, fun j hj => ?_⟩
  rw [Nat.testBit_two_pow_sub_one]
  simp only [hj, decide_true, true_iff]
  rintro x' n' ⟨_, h | ⟨_, h⟩⟩ <;> omega
theorem AB_nx {t : NN} {sj sc : Nat → Nat} {N x : Nat} {f : Nat → Nat → Nat} {K : Nat} {b : Bool} {z : Nat} (h : AB t sj sc N x (2 ^ t 0 2) f K b z) : AB t sj sc N (x + 1) 0 f K b z := by
  refine ⟨h.1, fun j hj => ?_⟩
  rw [h.2 j hj]
  have e : ∀ x' n', Pr t (x + 1) 0 x' n' ↔ Pr t x (2 ^ t 0 2) x' n' := by
    intro x' n'
    unfold Pr
    omega
  simp only [e]
theorem AB_no {t : NN} {sj sc : Nat → Nat} {N x n : Nat} {f : Nat → Nat → Nat} {K : Nat} {b : Bool} {z : Nat} (h : AB t sj sc N x n f K b z) (hf : as_ t sj sc x n N ≠ true) : AB t sj sc N x (n + 1) f K b z := by
  refine ⟨h.1, fun j hj => ?_⟩
  rw [h.2 j hj]
  constructor
  · intro a x' n' p q
    by_cases e : x' = x ∧ n' = n
    · rw [e.1, e.2] at q; exact absurd q hf
    · refine a x' n' ?_ q
      unfold Pr at p ⊢
      omega
  · intro a x' n' p q
    refine a x' n' ?_ q
    unfold Pr at p ⊢
    omega
theorem AB_ye {t : NN} {sj sc : Nat → Nat} {N x n : Nat} {f : Nat → Nat → Nat} {K : Nat} {b : Bool} {z w : Nat} (h : AB t sj sc N x n f K b z) (hn : n < 2 ^ t 0 2) (hf : as_ t sj sc x n N = true) (hw : ∀ j, j < K → (w.testBit j = true ↔ (f x n).testBit j = b)) : AB t sj sc N x (n + 1) f K b (z &&& w) := by
  refine ⟨Nat.lt_of_le_of_lt Nat.and_le_left h.1, fun j hj => ?_⟩
  rw [Nat.testBit_and, Bool.and_eq_true, h.2 j hj, hw j hj]
  constructor
  · rintro ⟨a, c⟩ x' n' p q
    by_cases e : x' = x ∧ n' = n
    · rw [e.1, e.2]; exact c
    · refine a x' n' ?_ q
      unfold Pr at p ⊢
      omega
  · intro a
    refine ⟨fun x' n' p q => a x' n' ?_ q, a x n ⟨hn, .inr ⟨rfl, by omega⟩⟩ hf⟩
    unfold Pr at p ⊢
    omega
theorem fits8 {t : NN} {σ : ZI} (q : M8 t σ) (e1 : σ 60 1 = nI (t 0 0)) {N : Nat} {sj sc : Nat → Nat} (hS : S8 (t 0 0) N sj sc σ) (a : Int32) : ∃ c am nm an nn σ', ST t sj sc N (2 ^ t 0 0) 0 c am nm an nn ∧ Sc σ σ' ∧ f_X8_fits_45 a 3000 σ 0 (nI (2 ^ t 0 0 - 1)) (nI (2 ^ t 0 0 - 1)) (nI (2 ^ t 0 2 - 1)) (nI (2 ^ t 0 2 - 1)) 0 = f_X8_fits_45 a 1 σ' (nI c) (nI am) (nI nm) (nI an) (nI nn) (nI (2 ^ t 0 0)) := by
  have k1 := q.1.1
  have p1 := p2J (J := t 0 0) (by omega)
  have p2 : 2 ^ t 0 2 ≤ 8 := (Nat.pow_le_pow_right (by omega) (show t 0 2 ≤ 3 by omega) : 2 ^ t 0 2 ≤ 2 ^ 3)
  have pj : 2 ^ t 0 0 ≤ 2 ^ 10 := Nat.pow_le_pow_right (by omega) k1.2.1
  have pm : 2 ^ t 0 2 ≤ 2 ^ 10 := Nat.pow_le_pow_right (by omega) (by omega)
  have sh : ∀ σ', Sc σ σ' → σ' 60 1 = nI (t 0 0) ∧ σ' 60 5 = nI (t 0 2) ∧ M8 t σ' ∧ S8 (t 0 0) N sj sc σ' := fun σ' h => ⟨(h _ _ (by omega)).trans e1, (h _ _ (by omega)).trans q.2.1, ⟨q.1, (h _ _ (by omega)).trans q.2.1, fun j hj => (h _ _ (by omega)).trans (q.2.2 j hj)⟩, S8_fr h hS⟩
  have In : ∀ (k : ZI → Int32 → Int32 → Int32 → Int32 → Int32 → Int32 → Option (Int32 × ZI)) (x : Nat), x < 2 ^ t 0 0 → ∀ (d n fu : Nat) (σ' : ZI) (c am nm an nn : Nat), n + d = 2 ^ t 0 2 → d < fu → Sc σ σ' → ST t sj sc N x n c am nm an nn → ∃ c' am' nm' an' nn' σ'', ST t sj sc N x (2 ^ t 0 2) c' am' nm' an' nn' ∧ Sc σ σ'' ∧ f_X8_fits_59 a k fu σ' (nI c) (nI am) (nI nm) (nI an) (nI nn) (nI x) (nI n) = k σ'' (nI c') (nI am') (nI nm') (nI an') (nI nn') (nI (x + 1)) := by
    intro k x hx d
    induction d with
    | zero =>
      intro n fu σ' c am nm an nn h1 h2 h3 h4
      obtain ⟨fu, rfl⟩ : ∃ m, fu = m + 1 := ⟨fu - 1, by omega⟩
      obtain rfl : n = 2 ^ t 0 2 := by omega
      exact ⟨c, am, nm, an, nn, σ', h4, h3, by rw [f_X8_fits_59, (sh σ' h3).2.1, sbl (by omega), if_pos (Int32.le_refl _), nI_1]⟩
    | succ d ih =>
      intro n fu σ' c am nm an nn h1 h2 h3 h4
      obtain ⟨fu, rfl⟩ : ∃ m, fu = m + 1 := ⟨fu - 1, by omega⟩
      obtain ⟨s1, s2, s3, s4⟩ := sh σ' h3
      obtain ⟨σ2, g1, g2⟩ := as8 s3 s4 (x := x) (n := n) (by omega) (by omega)
      obtain ⟨c1, c2, c3, c4, c5⟩ := h4
      have ec : sm (fun n => v7 t sj sc N x n) (n + 1) = sm (fun n => v7 t sj sc N x n) n + v7 t sj sc N x n := rfl
      rw [f_X8_fits_59, s2, sbl (by omega), if_neg (nI_ge (by omega) (by omega)), g1, bso]
      unfold f_X8_fits_114
      dsimp only
      rw [nI_1]
      by_cases hf : as_ t sj sc x n N = true
      · rw [if_pos hf, if_neg (by decide), ltq, ltq, nI_1, an_n, an_n, nn_n (Nat.lt_of_lt_of_le c3.1 pj), nn_n (Nat.lt_of_lt_of_le c5.1 pm)]
        refine ih (n + 1) fu σ2 (c + 1) (am &&& x) (nm &&& (1023 ^^^ x)) (an &&& n) (nn &&& (1023 ^^^ n)) (by omega) (by omega) (Sc_tr h3 g2) ⟨?_, AB_ye c2 (by omega) hf (fun j _ => Iff.rfl), AB_ye c3 (by omega) hf (fun j hj => by rw [nx_bit (by omega)]; simp), AB_ye c4 (by omega) hf (fun j _ => Iff.rfl), AB_ye c5 (by omega) hf (fun j hj => by rw [nx_bit (by omega)]; simp)⟩
        rw [ec]
        unfold v7 at c1 ⊢
        rw [if_pos hf, Int.natCast_add, c1]
        omega
      · rw [if_neg hf, if_pos rfl]
        refine ih (n + 1) fu σ2 c am nm an nn (by omega) (by omega) (Sc_tr h3 g2) ⟨?_, AB_no c2 hf, AB_no c3 hf, AB_no c4 hf, AB_no c5 hf⟩
        rw [ec]
        unfold v7 at c1 ⊢
        rw [if_neg hf, c1]
        omega
  have Ou : ∀ (d x fu : Nat) (σ' : ZI) (c am nm an nn : Nat), x + d = 2 ^ t 0 0 → d < fu → Sc σ σ' → ST t sj sc N x 0 c am nm an nn → ∃ c' am' nm' an' nn' σ'', ST t sj sc N (2 ^ t 0 0) 0 c' am' nm' an' nn' ∧ Sc σ σ'' ∧ f_X8_fits_45 a fu σ' (nI c) (nI am) (nI nm) (nI an) (nI nn) (nI x) = f_X8_fits_45 a 1 σ'' (nI c') (nI am') (nI nm') (nI an') (nI nn') (nI (2 ^ t 0 0)) := by
    intro d
    induction d with
    | zero =>
      intro x fu σ' c am nm an nn h1 h2 h3 h4
      obtain ⟨fu, rfl⟩ : ∃ m, fu = m + 1 := ⟨fu - 1, by omega⟩
      obtain rfl : x = 2 ^ t 0 0 := by omega
      refine ⟨c, am, nm, an, nn, σ', h4, h3, ?_⟩
      rw [f_X8_fits_45, f_X8_fits_45, (sh σ' h3).1, sbl (by omega), if_pos (Int32.le_refl _), if_pos (Int32.le_refl _)]
    | succ d ih =>
      intro x fu σ' c am nm an nn h1 h2 h3 h4
      obtain ⟨fu, rfl⟩ : ∃ m, fu = m + 1 := ⟨fu - 1, by omega⟩
      obtain ⟨c', am', nm', an', nn', σ2, x1, x2, x3⟩ := In (fun σ v2 v3 v4 v5 v6 v7 => f_X8_fits_45 a fu σ v2 v3 v4 v5 v6 v7) x (by omega) (2 ^ t 0 2) 0 3000 σ' c am nm an nn (by omega) (by omega) h3 h4
      obtain ⟨y1, y2, y3, y4, y5⟩ := x1
      obtain ⟨c'', am'', nm'', an'', nn'', σ3, z1, z2, z3⟩ := ih (x + 1) fu σ2 c' am' nm' an' nn' (by omega) (by omega) x2 ⟨by rw [y1]; simp only [sm]; omega, AB_nx y2, AB_nx y3, AB_nx y4, AB_nx y5⟩
      refine ⟨c'', am'', nm'', an'', nn'', σ3, z1, z2, ?_⟩
      rw [f_X8_fits_45, (sh σ' h3).1, sbl (by omega), if_neg (nI_ge (by omega) (by omega))]
      exact x3.trans z3
  exact Ou (2 ^ t 0 0) 0 3000 σ 0 (2 ^ t 0 0 - 1) (2 ^ t 0 0 - 1) (2 ^ t 0 2 - 1) (2 ^ t 0 2 - 1) (by omega) (by omega) (Sc_rf σ) ⟨rfl, AB_0 t sj sc N _ _ _, AB_0 t sj sc N _ _ _, AB_0 t sj sc N _ _ _, AB_0 t sj sc N _ _ _⟩
theorem FN_x {t : NN} (k : TK t) {sj sc : Nat → Nat} {N i : Nat} (hi : i < t 0 0) (b : Bool) : FN t sj sc N (fz i b) q1_ = 0 ↔ ∀ x, x < 2 ^ t 0 0 → ∀ n, n < 2 ^ t 0 2 → as_ t sj sc x n N = true → x.testBit i = !b := by
  have k1 := k.1
  unfold FN
  rw [(SN_01 (W01_fz i b (t 0 0)) (W01_q1 (t 0 2)) (v7_01 t sj sc N) (by omega) (by omega)).2.2]
  constructor
  · intro h x hx n hn hf
    have := h x hx n hn
    rw [wp_fz, wp_q1] at this
    unfold v7 at this
    rw [if_pos hf] at this
    by_cases y : x.testBit i = !b
    · exact y
    · rw [if_neg] at this
      · simp at this
      · rintro ⟨-, z⟩
        revert y z
        cases x.testBit i <;> cases b <;> simp
  · intro h x hx n hn
    rw [wp_fz, wp_q1]
    unfold v7
    by_cases hf : as_ t sj sc x n N = true
    · have := h x hx n hn hf
      rw [if_pos (show i < t 0 0 ∧ x.testBit i ≠ b from ⟨hi, by rw [this]; cases b <;> simp⟩), Int.zero_mul]
    · rw [if_neg hf]; simp
theorem FN_n {t : NN} (k : TK t) {sj sc : Nat → Nat} {N i : Nat} (hi : i < t 0 2) (b : Bool) : FN t sj sc N q1_ (fz i b) = 0 ↔ ∀ x, x < 2 ^ t 0 0 → ∀ n, n < 2 ^ t 0 2 → as_ t sj sc x n N = true → n.testBit i = !b := by
  have k1 := k.1
  unfold FN
  rw [(SN_01 (W01_q1 (t 0 0)) (W01_fz i b (t 0 2)) (v7_01 t sj sc N) (by omega) (by omega)).2.2]
  constructor
  · intro h x hx n hn hf
    have := h x hx n hn
    rw [wp_fz, wp_q1] at this
    unfold v7 at this
    rw [if_pos hf] at this
    by_cases y : n.testBit i = !b
    · exact y
    · rw [if_neg] at this
      · simp at this
      · rintro ⟨-, z⟩
        revert y z
        cases n.testBit i <;> cases b <;> simp
  · intro h x hx n hn
    rw [wp_fz, wp_q1]
    unfold v7
    by_cases hf : as_ t sj sc x n N = true
    · have := h x hx n hn hf
      rw [if_pos (show i < t 0 2 ∧ n.testBit i ≠ b from ⟨hi, by rw [this]; cases b <;> simp⟩), Int.zero_mul, Int.mul_zero]
    · rw [if_neg hf]; simp
theorem bits_eq {a b K : Nat} (ha : a < 2 ^ K) (hb : b < 2 ^ K) (h : ∀ i, i < K → (a.testBit i = true ↔ b.testBit i = true)) : a = b := by
  refine Nat.eq_of_testBit_eq fun i => ?_
  by_cases hi : i < K
  · exact Bool.eq_iff_iff.mpr (h i hi)
  · have e : 2 ^ K ≤ 2 ^ i := Nat.pow_le_pow_right (by omega) (by omega)
    rw [Nat.testBit_lt_two_pow (Nat.lt_of_lt_of_le ha e), Nat.testBit_lt_two_pow (Nat.lt_of_lt_of_le hb e)]
theorem u_fitsc {σ : ZI} {τ : ZL} (I : Inv σ) (hL : InL τ) (w : Int32) : RLi (f_X7_fits σ τ w) (fun s => f_X8_fits s w) := by
  obtain ⟨t, iT, iR⟩ := id I
  have kk := iT.1
  have k1 := kk.1
  have p1 := p2J (J := t 0 0) (by omega)
  have p2 := p2J (J := t 0 2) (by omega)
  have iB : InvT t (s41 σ (t 0 0)) := InvT_sg (s41_sg _ _) iT
  unfold f_X7_fits f_X8_fits
  rw [show (4 : Int32) = nI 4 from rfl, if2]
  by_cases hw : w < nI 0 ∨ nI 4 < w
  · exact ri_bad I hL (by rw [if_pos hw]) (by rw [in_at 0 4 0 4 rfl rfl, if_pos (show w < 0 ∨ 4 < w from hw)]; rfl)
  obtain ⟨v, v1, v2, rfl⟩ := rng hw (by omega) (by omega)
  obtain ⟨N, sj, sc, S1, S2, S3⟩ := seen_b iR.2.2.1
  obtain ⟨t1, a1, a2, a3⟩ := wa7 (InvT_T7 iT) τ
  obtain ⟨t2, b1, b2⟩ := seen7 (σ := s41 σ (t 0 0)) (by omega) (s41_0 σ _) S1 a3
  have L2 : InL t2 := (b2 50 0 (by omega) (by omega)).trans ((a2 50 0 (by omega)).trans hL)
  obtain ⟨c, am, nm, an, nn, σ', hst, hsc, hr⟩ := fits8 (R8_M8 (InvT_R8 iB)) iB.2.2.2.1 S2 (nI v)
  obtain ⟨c1, c2, c3, c4, c5⟩ := hst
  have eS : sm (rw_ (PA t) (fun j c => KS sj sc j c N) 12 0 0 (t 0 0)).1 11 = (c : Int) := by
    rw [show sm (rw_ (PA t) (fun j c => KS sj sc j c N) 12 0 0 (t 0 0)).1 11 = _ from seen_v7 kk S3 q1_ q1_, c1]
    unfold SN
    rw [show sm (fun n => v7 t sj sc N (2 ^ t 0 0) n) 0 = 0 from rfl, Int.add_zero]
    refine sm_congr fun x _ => ?_
    rw [wp_q1, Int.one_mul]
    exact sm_congr fun n _ => by rw [wp_q1, Int.one_mul]
  have cb : (c : Int) ≤ 8192 := by
    have := (SN_01 (W01_q1 (t 0 0)) (W01_q1 (t 0 2)) (v7_01 t sj sc N) (by omega) (by omega)).2.1
    have e := seen_v7 (sc := sc) kk S3 q1_ q1_
    rw [← e] at this
    rw [← eS]
    exact this
  rw [eS] at b1
  have e32 : (iL (c : Int)).toInt32 = nI c := by rw [← lN_iL, lN_i]
  have hX : f_X7_fits_58 (nI v) (s41 σ (t 0 0)) t2 = f_X7_fits_63 (nI v) (s41 σ (t 0 0)) t2 1 := rfl
  have Y : ∀ r, f_X8_fits_45 (nI v) 1 σ' (nI c) (nI am) (nI nm) (nI an) (nI nn) (nI (2 ^ t 0 0)) = some (r, σ') → (f_X8_in (nI v).toInt64 0 4).bind (fun q1 => if q1 = 0 then some (-1, s41 σ (t 0 0)) else lt_ ((1 : Int32) <<< ((s41 σ (t 0 0)) 60 1 &&& 31) - 1) fun x2 => lt_ ((1 : Int32) <<< ((s41 σ (t 0 0)) 60 5 &&& 31) - 1) fun x3 => f_X8_fits_45 (nI v) 3000 (s41 σ (t 0 0)) 0 x2 x2 x3 x3 0) = some (r, σ') := by
    intro r h
    rw [in_at 0 4 0 4 rfl rfl, if_neg (show ¬ (nI v < 0 ∨ 4 < nI v) from hw), bso, if_neg (by decide), ltq, ltq, show (s41 σ (t 0 0)) 60 1 = _ from iB.2.2.2.1, show (s41 σ (t 0 0)) 60 5 = _ from iB.2.2.2.2.2.1, sbl (by omega), sbl (by omega), show nI (2 ^ t 0 0) - (1 : Int32) = nI (2 ^ t 0 0 - 1) from pk_sub (a := 2 ^ t 0 0) (b := 1) (by omega), show nI (2 ^ t 0 2) - (1 : Int32) = nI (2 ^ t 0 2 - 1) from pk_sub (a := 2 ^ t 0 2) (b := 1) (by omega), hr, h]
  have e60 : σ' 60 1 = nI (t 0 0) := (hsc _ _ (by omega)).trans iB.2.2.2.1
  have R : f_X8_fits_45 (nI v) 1 σ' (nI c) (nI am) (nI nm) (nI an) (nI nn) (nI (2 ^ t 0 0)) = some (if v = 0 then nI c else if c = 0 then -4 else if v = 1 then nI am else if v = 2 then nI nm else if v = 3 then nI an else nI nn, σ') := by
    rw [f_X8_fits_45, e60, sbl (by omega), if_pos (Int32.le_refl _)]
    unfold f_X8_fits_134
    have hv : v = 0 ∨ v = 1 ∨ v = 2 ∨ v = 3 ∨ v = 4 := by omega
    by_cases hc : c = 0
    · subst hc
      rcases hv with rfl | rfl | rfl | rfl | rfl <;> rfl
    · have hc' : ¬ nI c = 0 := nI_ne0 (by omega) (by omega)
      simp only [hc', hc, if_false]
      rcases hv with rfl | rfl | rfl | rfl | rfl <;> rfl
  have fin : Inv σ' := Inv_sg (Sc_sg hsc) (Inv_sg (s41_sg _ _) I)
  have X : ∀ r τ', InL τ' → ((if nI v = 0 then some ((iL (c : Int)).toInt32, s41 σ (t 0 0), t2) else if (iL (c : Int)).toInt32 = 0 then some (-4, s41 σ (t 0 0), t2) else if nI v = 1 then f_X7_fits_58 (nI v) (s41 σ (t 0 0)) t2 else if nI v = 3 then f_X7_fits_58 (nI v) (s41 σ (t 0 0)) t2 else f_X7_fits_63 (nI v) (s41 σ (t 0 0)) t2 0) : Option (Int32 × ZI × ZL)) = some (r, s41 σ (t 0 0), τ') → r = (if v = 0 then nI c else if c = 0 then -4 else if v = 1 then nI am else if v = 2 then nI nm else if v = 3 then nI an else nI nn) → RLi (if nI v < nI 0 ∨ nI 4 < nI v then some (-1, σ, τ) else (f_X0_weighAlike σ τ 1).bind fun q1 => (f_X0_passAsSeen q1.1 q1.2).bind fun q2 => if nI v = 0 then some (q2.1.toInt32, q1.1, q2.2) else if q2.1.toInt32 = 0 then some (-4, q1.1, q2.2) else if nI v = 1 then f_X7_fits_58 (nI v) q1.1 q2.2 else if nI v = 3 then f_X7_fits_58 (nI v) q1.1 q2.2 else f_X7_fits_63 (nI v) q1.1 q2.2 0) (fun s => (f_X8_in (nI v).toInt64 0 4).bind (fun q1 => if q1 = 0 then some (-1, s) else lt_ ((1 : Int32) <<< (s 60 1 &&& 31) - 1) fun x2 => lt_ ((1 : Int32) <<< (s 60 5 &&& 31) - 1) fun x3 => f_X8_fits_45 (nI v) 3000 s 0 x2 x2 x3 x3 0)) := by
    intro r τ' hl hx hrr
    refine ⟨r, s41 σ (t 0 0), τ', σ', ?_, Y r (by rw [R, hrr]), fin, hl⟩
    rw [if_neg hw, a1, bso]
    dsimp only
    rw [b1, bso]
    exact hx
  have cases5 : v = 0 ∨ v = 1 ∨ v = 2 ∨ v = 3 ∨ v = 4 := by omega
  by_cases h0 : v = 0
  · subst h0
    exact X (nI c) t2 L2 (by rw [if_pos nI_0, e32]) rfl
  have h0' : ¬ nI v = 0 := nI_ne0 (by omega) (by omega)
  by_cases hc : c = 0
  · refine X (-4) t2 L2 ?_ ?_
    · rw [if_neg h0', if_pos (by rw [e32, hc]; rfl)]
    · rw [if_neg h0, if_pos hc]
  have hc' : ¬ (iL (c : Int)).toInt32 = 0 := by rw [e32]; exact nI_ne0 (by omega) (by omega)
  have pr : ∀ x n, Pr t (2 ^ t 0 0) 0 x n ↔ (x < 2 ^ t 0 0 ∧ n < 2 ^ t 0 2) := fun x n => by unfold Pr; omega
  have J : ∀ ba : Bool, ∃ τ', InL τ' ∧ f_X7_jointsMissed (s41 σ (t 0 0)) t2 (if ba then 1 else 0) = some (nI (if ba then am else nm), s41 σ (t 0 0), τ') := by
    intro ba
    obtain ⟨z, τ', g1, g2, g3, g4⟩ := jm_l iT S1 S3 ba (t 0 0) 0 3000 t2 0 (by omega) (by omega) L2 (by omega)
    refine ⟨τ', g2, ?_⟩
    have e : z = if ba then am else nm := by
      refine bits_eq (K := t 0 0) g1 (by cases ba <;> first | exact c2.1 | exact c3.1) fun i hi => ?_
      rw [g4 i hi, if_neg (Nat.not_lt_zero _), decide_eq_true_iff, FN_x kk hi]
      cases ba
      · show _ ↔ nm.testBit i = true
        rw [c3.2 i hi]
        constructor
        · intro h x n p q; exact h x ((pr x n).mp p).1 n ((pr x n).mp p).2 q
        · intro h x hx n hn q; exact h x n ((pr x n).mpr ⟨hx, hn⟩) q
      · show _ ↔ am.testBit i = true
        rw [c2.2 i hi]
        constructor
        · intro h x n p q; exact h x ((pr x n).mp p).1 n ((pr x n).mp p).2 q
        · intro h x hx n hn q; exact h x n ((pr x n).mpr ⟨hx, hn⟩) q
    unfold f_X7_jointsMissed
    rw [← e]
    exact g3
  have M : ∀ ba : Bool, ∃ τ', InL τ' ∧ f_X7_marksNoticed (s41 σ (t 0 0)) t2 (if ba then 1 else 0) = some (nI (if ba then an else nn), s41 σ (t 0 0), τ') := by
    intro ba
    obtain ⟨z, τ', g1, g2, g3, g4⟩ := mm_l iT S1 S3 ba (t 0 2) 0 3000 t2 0 (by omega) (by omega) L2 (by omega)
    refine ⟨τ', g2, ?_⟩
    have e : z = if ba then an else nn := by
      refine bits_eq (K := t 0 2) g1 (by cases ba <;> first | exact c4.1 | exact c5.1) fun i hi => ?_
      rw [g4 i hi, if_neg (Nat.not_lt_zero _), decide_eq_true_iff, FN_n kk hi]
      cases ba
      · show _ ↔ nn.testBit i = true
        rw [c5.2 i hi]
        constructor
        · intro h x n p q; exact h x ((pr x n).mp p).1 n ((pr x n).mp p).2 q
        · intro h x hx n hn q; exact h x n ((pr x n).mpr ⟨hx, hn⟩) q
      · show _ ↔ an.testBit i = true
        rw [c4.2 i hi]
        constructor
        · intro h x n p q; exact h x ((pr x n).mp p).1 n ((pr x n).mp p).2 q
        · intro h x hx n hn q; exact h x n ((pr x n).mpr ⟨hx, hn⟩) q
    unfold f_X7_marksNoticed
    rw [← e]
    exact g3
  by_cases h1 : v = 1
  · subst h1
    obtain ⟨τ', g1, g2⟩ := J true
    refine X (nI am) τ' g1 ?_ (by rw [if_neg h0, if_neg hc]; rfl)
    rw [if_neg h0', if_neg hc', if_pos (by rfl), hX]
    unfold f_X7_fits_63
    rw [if_neg (by decide), show f_X7_jointsMissed (s41 σ (t 0 0)) t2 1 = _ from g2, bso]
    rfl
  by_cases h2 : v = 2
  · subst h2
    obtain ⟨τ', g1, g2⟩ := J false
    refine X (nI nm) τ' g1 ?_ (by rw [if_neg h0, if_neg hc]; rfl)
    rw [if_neg h0', if_neg hc', if_neg (by decide), if_neg (by decide)]
    unfold f_X7_fits_63
    rw [if_neg (by decide), show f_X7_jointsMissed (s41 σ (t 0 0)) t2 0 = _ from g2, bso]
    rfl
  by_cases h3 : v = 3
  · subst h3
    obtain ⟨τ', g1, g2⟩ := M true
    refine X (nI an) τ' g1 ?_ (by rw [if_neg h0, if_neg hc]; rfl)
    rw [if_neg h0', if_neg hc', if_neg (by decide), if_pos (by rfl), hX]
    unfold f_X7_fits_63
    rw [if_pos (by decide), show f_X7_marksNoticed (s41 σ (t 0 0)) t2 1 = _ from g2, bso]
    rfl
  · obtain rfl : v = 4 := by omega
    obtain ⟨τ', g1, g2⟩ := M false
    refine X (nI nn) τ' g1 ?_ (by rw [if_neg h0, if_neg hc]; rfl)
    rw [if_neg h0', if_neg hc', if_neg (by decide), if_neg (by decide)]
    unfold f_X7_fits_63
    rw [if_pos (by decide), show f_X7_marksNoticed (s41 σ (t 0 0)) t2 0 = _ from g2, bso]
    rfl
