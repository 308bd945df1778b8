/-! a line *-/
theorem and_g (a b : Nat) : nI a &&& nI b = nI (a &&& b) := by
  unfold nI
  apply Int32.toBitVec_inj.1
  rw [Int32.toBitVec_and]
  show BitVec.ofNat 32 a &&& BitVec.ofNat 32 b = BitVec.ofNat 32 (a &&& b)
  apply BitVec.eq_of_getLsbD_eq
  intro i hi
  simp [BitVec.getLsbD_ofNat, Nat.testBit_and, hi]
theorem or_g (a b : Nat) : nI a ||| nI b = nI (a ||| b) := by
  unfold nI
  apply Int32.toBitVec_inj.1
  rw [Int32.toBitVec_or]
  show BitVec.ofNat 32 a ||| BitVec.ofNat 32 b = BitVec.ofNat 32 (a ||| b)
  apply BitVec.eq_of_getLsbD_eq
  intro i hi
  simp [BitVec.getLsbD_ofNat, Nat.testBit_or, hi]
theorem and_z (x r : Nat) : x &&& 2 ^ r = 0 ↔ x.testBit r = false := by
  constructor
  · intro h
    have : (x &&& 2 ^ r).testBit r = (0 : Nat).testBit r := by rw [h]
    simpa [Nat.testBit_and, Nat.testBit_two_pow] using this
  · intro h
    apply Nat.eq_of_testBit_eq
    intro i
    rw [Nat.testBit_and, Nat.testBit_two_pow]
    by_cases z : r = i
    · subst z; simp [h]
    · simp [z]
theorem mk_z {T r : Nat} (hT : T < 2 ^ 13) (hr : r < 13) : (((5601 : Int32) &&& nI T) &&& ((1 : Int32) <<< (nI r &&& 31))) = 0 ↔ ¬ ((5601 : Nat).testBit r = true ∧ T.testBit r = true) := by
  rw [sbl (by omega), show (5601 : Int32) = nI 5601 from rfl, and_g, and_g]
  have hl : (5601 &&& T &&& 2 ^ r) < 2 ^ 31 := Nat.lt_of_le_of_lt Nat.and_le_right (Nat.pow_lt_pow_right (by omega) (by omega))
  have e : nI (5601 &&& T &&& 2 ^ r) = 0 ↔ (5601 &&& T &&& 2 ^ r) = 0 := ⟨fun q => nI_inj (b := 0) hl (by omega) q, fun q => by rw [q]; rfl⟩
  rw [e, and_z, Nat.testBit_and]
  cases (5601 : Nat).testBit r <;> cases T.testBit r <;> simp
def TU (D : NN) (T U : Nat) : Prop := T < 2 ^ 13 ∧ U < 2 ^ 11 ∧ (∀ k, k < 11 → cr k ≤ 6 → T.testBit (liL.getD k 0) = U.testBit (cr k)) ∧ (T.testBit 5 = false → D 0 5 = 0)
theorem li_b : ∀ k, k < 11 → liL.getD k 0 < 13 ∧ cr k ≤ 10 ∧ ((5601 : Nat).testBit (liL.getD k 0) = true ↔ cr k ≤ 6) ∧ (k ≠ 5 → liL.getD k 0 ≠ 5) := by decide
theorem li_u : ∀ k, k < 11 → ∀ k', k' < 11 → (liL.getD k 0 = liL.getD k' 0 ↔ cr k = cr k') := by decide
theorem TU_set {D D' : NN} {T U k : Nat} (hk : k < 11) (h : TU D T U) (h5 : k ≠ 5 → D' 0 5 = D 0 5) : TU D' (T ||| 2 ^ liL.getD k 0) (U ||| 2 ^ cr k) := by
  obtain ⟨h1, h2, h3, h4⟩ := h
  obtain ⟨l1, l2, l3, l4⟩ := li_b k hk
  refine ⟨Nat.or_lt_two_pow h1 (Nat.pow_lt_pow_right (by omega) l1), Nat.or_lt_two_pow h2 (Nat.pow_lt_pow_right (by omega) (by omega)), fun k' hk' z => ?_, fun z => ?_⟩
  · rw [Nat.testBit_or, Nat.testBit_or, Nat.testBit_two_pow, Nat.testBit_two_pow, h3 k' hk' z]
    have := li_u k hk k' hk'
    by_cases w : cr k = cr k'
    · rw [decide_eq_true w, decide_eq_true (this.2 w)]
    · rw [decide_eq_false w, decide_eq_false (fun q => w (this.1 q))]
  · rw [Nat.testBit_or, Nat.testBit_two_pow, Bool.or_eq_false_iff] at z
    have k5 : k ≠ 5 := by
      intro q
      subst q
      exact absurd z.2 (by decide)
    rw [h5 k5]
    exact h4 z.1
def CSl (n : Nat) (b : Nat → Nat) (p : Nat) (D : NN) (T : Nat) (σ : ZI) : Prop := CSb n b p D σ ∧ σ 39 2 = nI T
def RSl (n : Nat) (b : Nat → Nat) (p : Nat) (D : NN) (AT MT HJ U : Nat) (σ : ZI) : Prop := RSb n b D AT MT HJ σ ∧ RY n b p σ ∧ σ 60 18 = nI U
theorem CSb_39 {n : Nat} {b : Nat → Nat} {p : Nat} {D : NN} {σ : ZI} {v : Int32} (q : CSb n b p D σ) : CSb n b p D (va_up σ 39 (upd (σ 39) 2 v)) := by
  obtain ⟨⟨a1, a2, a3⟩, b1, c1, d1⟩ := q
  exact ⟨⟨a1, (up_ne σ (.inl (by decide))).trans a2, fun i hi => ⟨(a3 i hi).1, (up_ne σ (.inl (by decide))).trans (a3 i hi).2⟩⟩, (up_ne σ (.inl (by decide))).trans b1, (up_ne σ (.inr (by decide))).trans c1, TV_fr (fun r i _ _ => up_ne σ (.inl (by omega))) d1⟩
theorem RSb_18 {n : Nat} {b : Nat → Nat} {D : NN} {AT MT HJ : Nat} {σ : ZI} {v : Int32} (q : RSb n b D AT MT HJ σ) : RSb n b D AT MT HJ (va_up σ 60 (upd (σ 60) 18 v)) := by
  obtain ⟨a1, a2, ⟨b1, b2, b3, b4, b5, b6, b7, b8, b9, b10⟩, ⟨c1, c2, c3, c4, c5, c6⟩, ⟨d1, d2, d3⟩, e1, e2, e3⟩ := q
  have gA : ∀ C P, (C ≠ 60 ∨ P ≠ 18) → va_up σ 60 (upd (σ 60) 18 v) C P = σ C P := fun C P z => up_ne σ z
  exact ⟨⟨a1.1, (gA _ _ (.inr (by decide))).trans a1.2.1, fun i hi => ⟨(a1.2.2 i hi).1, (gA _ _ (.inl (by decide))).trans (a1.2.2 i hi).2⟩⟩, ⟨fun i hi => (gA _ _ (.inl (by decide))).trans (a2.1 i hi), fun i hi => (gA _ _ (.inl (by decide))).trans (a2.2 i hi)⟩, ⟨fun i hi => (gA _ _ (.inl (by decide))).trans (b1 i hi), fun i hi => (gA _ _ (.inl (by decide))).trans (b2 i hi), fun i hi => (gA _ _ (.inl (by decide))).trans (b3 i hi), b4, b5, b6, b7, b8, b9, b10⟩, ⟨(gA _ _ (.inr (by decide))).trans c1, (gA _ _ (.inr (by decide))).trans c2, (gA _ _ (.inr (by decide))).trans c3, (gA _ _ (.inr (by decide))).trans c4, (gA _ _ (.inl (by decide))).trans c5, (gA _ _ (.inl (by decide))).trans c6⟩, ⟨fun i hi => ⟨(gA _ _ (.inl (by decide))).trans (d1 i hi).1, (gA _ _ (.inl (by decide))).trans (d1 i hi).2⟩, fun i hi => (gA _ _ (.inl (by decide))).trans (d2 i hi), fun i hi => (gA _ _ (.inl (by decide))).trans (d3 i hi)⟩, (gA _ _ (.inr (by decide))).trans e1, (gA _ _ (.inr (by decide))).trans e2, (gA _ _ (.inr (by decide))).trans e3⟩
def RF (k : Nat) (D : NN) : Prop := (k = 1 ∧ D 0 1 = 3) ∨ (k = 2 ∧ D 0 2 = 3) ∨ (k = 3 ∧ D 0 3 = 5)
theorem b93 {s : ZI} {f q : Nat} (hf : 1 ≤ f) (hf2 : f < 10) (h : BR f q s) (v : Int32) : ∃ s', f_X8_readLine_93 s v = some s' ∧ Sg s s' ∧ BR f q s' := by
  unfold f_X8_readLine_93
  have h2 : BR f q (va_up s 60 (upd (s 60) 18 ((s 60 18) ||| ((1 : Int32) <<< (v &&& 31))))) := BR_up (.inr (by decide)) h
  rw [ltq, step8_b hf hf2 h2.1, bso, h2.1, if_neg (show ¬ nI f ≤ (0 : Int32) from nI_ge (show 0 < f by omega) (by omega))]
  exact ⟨_, rfl, up_sg (Dw_refl 0 s) rfl, h2⟩
theorem r93 {k : Nat} (hk : k < 11) (σ : ZI) : f_X8_readLine_93 σ (nI (cr k)) = lt_ (va_up σ 60 (upd (σ 60) 18 ((σ 60 18) ||| ((1 : Int32) <<< (nI (cr k) &&& 31))))) fun s => (f_X8_step s).bind fun q4 => if (q4 60 25) ≤ 0 then (rbk k q4).bind (fun q5 => f_X8_readLine_136 q5) else some q4 := by
  rcases k11 hk with rfl | rfl | rfl | rfl | rfl | rfl | rfl | rfl | rfl | rfl | rfl <;> rfl
theorem r70 {k : Nat} (hk : k < 11) {D : NN} {σ : ZI} (e15 : σ 60 15 = nI (D 0 1)) (e16 : σ 60 16 = nI (D 0 2)) (e17 : σ 60 17 = nI (D 0 3)) (tb : TB D) {w : Option ZI} (h1 : RF k D → f_X8_readLine_65 σ (nI (cr k)) = w) (h2 : ¬ RF k D → f_X8_readLine_70 σ (nI (cr k)) = w) : (if nI (cr k) = 7 then (if (σ 60 15) = (3 : Int32) then f_X8_readLine_65 σ (nI (cr k)) else f_X8_readLine_37 σ (nI (cr k))) else f_X8_readLine_37 σ (nI (cr k))) = w := by
  have n3 : ∀ x, x ≤ 5 → ∀ y, y ≤ 5 → (nI x = nI y → x = y) := fun x hx y hy q => nI_inj (by omega) (by omega) q
  obtain ⟨m1, m2, m3⟩ := tb
  rcases k11 hk with rfl | rfl | rfl | rfl | rfl | rfl | rfl | rfl | rfl | rfl | rfl
  · exact h2 (by unfold RF; omega)
  · rw [if_pos (by decide), e15]
    by_cases z : D 0 1 = 3
    · rw [if_pos (by rw [z]; rfl)]; exact h1 (.inl ⟨rfl, z⟩)
    · rw [if_neg (show ¬ nI (D 0 1) = (3 : Int32) from fun q => z (n3 _ (by omega) 3 (by omega) q))]; exact h2 (by unfold RF; omega)
  · rw [if_neg (by decide)]
    unfold f_X8_readLine_37
    rw [if_pos (by decide), e16]
    by_cases z : D 0 2 = 3
    · rw [if_pos (by rw [z]; rfl)]; exact h1 (.inr (.inl ⟨rfl, z⟩))
    · rw [if_neg (show ¬ nI (D 0 2) = (3 : Int32) from fun q => z (n3 _ (by omega) 3 (by omega) q))]; exact h2 (by unfold RF; omega)
  · rw [if_neg (by decide)]
    unfold f_X8_readLine_37
    rw [if_neg (by decide)]
    unfold f_X8_readLine_51
    rw [if_pos (by decide), e17]
    by_cases z : D 0 3 = 5
    · rw [if_pos (by rw [z]; rfl)]; exact h1 (.inr (.inr ⟨rfl, z⟩))
    · rw [if_neg (show ¬ nI (D 0 3) = (5 : Int32) from fun q => z (n3 _ (by omega) 5 (by omega) q))]; exact h2 (by unfold RF; omega)
  · exact h2 (by unfold RF; omega)
  · exact h2 (by unfold RF; omega)
  · exact h2 (by unfold RF; omega)
  · exact h2 (by unfold RF; omega)
  · exact h2 (by unfold RF; omega)
  · exact h2 (by unfold RF; omega)
  · exact h2 (by unfold RF; omega)
theorem c89 {k : Nat} (hk : k < 11) {D : NN} {σ : ZI} (tv : TV 28 D σ) (tb : TB D) {w : Option (Int32 × ZI)} (h1 : RF k D → ((f_X2_refuse σ (5 : Int32)).bind (fun q31 => if q31.1 = 0 ∨ q31.1 = 1 then some (q31.1, q31.2) else none)) = w) (h2 : ¬ RF k D → f_X2_readLine_89 σ (nI (liL.getD k 0)) = w) : ((f_X2_isRowOf (nI (liL.getD k 0))).bind (fun q3 => if q3 = 0 then (f_X2_readLine_89 σ (nI (liL.getD k 0))) else ((f_X6_value σ 28 (nI (liL.getD k 0))).bind (fun q29 => (f_X7_atS 102 (nI (liL.getD k 0))).bind (fun q30 => if q29 < q30 then (f_X2_readLine_89 σ (nI (liL.getD k 0))) else ((f_X2_refuse σ (5 : Int32)).bind (fun q31 => if q31.1 = 0 ∨ q31.1 = 1 then some (q31.1, q31.2) else none))))))) = w := by
  obtain ⟨m1, m2, m3⟩ := tb
  rcases k11 hk with rfl | rfl | rfl | rfl | rfl | rfl | rfl | rfl | rfl | rfl | rfl
  · exact h2 (by unfold RF; omega)
  · rw [show f_X2_isRowOf (nI (liL.getD 1 0)) = some 1 from rfl, bso, if_neg (by decide), show f_X6_value σ 28 (nI (liL.getD 1 0)) = some (σ 29 1) from rfl, bso, show f_X7_atS 102 (nI (liL.getD 1 0)) = some (nI 3) from rfl, bso, show σ 29 1 = _ from tv.1 1 (by omega)]
    by_cases z : D 0 1 = 3
    · rw [if_neg (nI_nlt (by omega) (by omega))]; exact h1 (.inl ⟨rfl, z⟩)
    · rw [if_pos (nI_lt (by omega) (by omega))]; exact h2 (by unfold RF; omega)
  · rw [show f_X2_isRowOf (nI (liL.getD 2 0)) = some 1 from rfl, bso, if_neg (by decide), show f_X6_value σ 28 (nI (liL.getD 2 0)) = some (σ 29 2) from rfl, bso, show f_X7_atS 102 (nI (liL.getD 2 0)) = some (nI 3) from rfl, bso, show σ 29 2 = _ from tv.1 2 (by omega)]
    by_cases z : D 0 2 = 3
    · rw [if_neg (nI_nlt (by omega) (by omega))]; exact h1 (.inr (.inl ⟨rfl, z⟩))
    · rw [if_pos (nI_lt (by omega) (by omega))]; exact h2 (by unfold RF; omega)
  · rw [show f_X2_isRowOf (nI (liL.getD 3 0)) = some 1 from rfl, bso, if_neg (by decide), show f_X6_value σ 28 (nI (liL.getD 3 0)) = some (σ 29 3) from rfl, bso, show f_X7_atS 102 (nI (liL.getD 3 0)) = some (nI 5) from rfl, bso, show σ 29 3 = _ from tv.1 3 (by omega)]
    by_cases z : D 0 3 = 5
    · rw [if_neg (nI_nlt (by omega) (by omega))]; exact h1 (.inr (.inr ⟨rfl, z⟩))
    · rw [if_pos (nI_lt (by omega) (by omega))]; exact h2 (by unfold RF; omega)
  · exact h2 (by unfold RF; omega)
  · exact h2 (by unfold RF; omega)
  · exact h2 (by unfold RF; omega)
  · exact h2 (by unfold RF; omega)
  · exact h2 (by unfold RF; omega)
  · exact h2 (by unfold RF; omega)
  · exact h2 (by unfold RF; omega)
