/-! what is told so far, on both sides; lines of single numbers *-/
def TD (D : NN) : Prop := (2 ≤ D 0 0 ∧ D 0 0 ≤ 10 ∧ D 0 1 ≤ 3 ∧ D 0 2 ≤ 3 ∧ D 0 3 ≤ 5 ∧ D 0 4 < 2 ^ 10 ∧ D 0 5 ≤ 10 ∧ D 0 6 ≤ 10 ∧ 1 ≤ D 0 7 ∧ D 0 7 ≤ 9 ∧ 1 ≤ D 0 8 ∧ D 0 8 ≤ 10 ∧ D 0 8 < D 0 9 ∧ D 0 9 ≤ 11 ∧ D 0 10 ≤ 9 ∧ D 0 11 ≤ 9 ∧ 1 ≤ D 0 12 ∧ D 0 12 ≤ 9) ∧
  (∀ i, i < D 0 1 → D 1 i ≤ 4 ∧ 1 ≤ D 2 i ∧ D 2 i ≤ 10 ∧ D 3 i ≤ 9) ∧ (∀ i k, i < D 0 1 → k < D 0 1 → D 2 i = D 2 k → i = k) ∧
  (∀ m, m < D 0 2 → 1 ≤ D 4 m ∧ D 4 m ≤ 10 ∧ D 5 m ≤ 10) ∧ (∀ i k, i < D 0 2 → k < D 0 2 → D 4 i = D 4 k → i = k) ∧
  (∀ i, i < D 0 3 → D 6 i ≤ 99 ∧ D 7 i ≤ 9)
def LK (D : NN) (AT MT HJ : Nat) : Prop := AT < 2 ^ 10 ∧ MT < 2 ^ 10 ∧ HJ ≤ 10 ∧ (∀ j, j < 10 → (AT.testBit j = true ↔ ∃ i, i < D 0 1 ∧ D 2 i = j + 1)) ∧ (∀ j, j < 10 → (MT.testBit j = true ↔ ∃ i, i < D 0 2 ∧ D 4 i = j + 1)) ∧ (∀ J, HJ ≤ J ↔ (D 0 5 ≤ J ∧ (∀ i, i < D 0 1 → D 2 i ≤ J) ∧ (∀ i, i < D 0 2 → D 4 i ≤ J) ∧ ∀ j, j < 10 → (D 0 4).testBit j = true → j + 1 ≤ J))
def CSb (n : Nat) (b : Nat → Nat) (p : Nat) (D : NN) (σ : ZI) : Prop := Tp7 n b σ ∧ σ 37 2 = nI p ∧ σ 39 3 = 0 ∧ TV 28 D σ
def PgD (D : NN) (σ : ZI) : Prop := (∀ i, i < D 0 1 → σ 66 i = nI (D 1 i)) ∧ (∀ i, i < D 0 2 → σ 66 (3 + i) = nI (D 5 i)) ∧ (∀ i, i < D 0 3 → σ 66 (6 + i) = nI (D 6 i)) ∧ σ 66 11 = nI (D 0 4) ∧ σ 66 12 = nI (D 0 5) ∧ σ 66 13 = nI (D 0 6) - nI 1 ∧ σ 66 14 = nI (D 0 7) - nI 5 ∧ σ 66 15 = nI (D 0 8) - nI 2 ∧ σ 66 16 = nI (D 0 9) - nI 4 ∧ σ 66 17 = nI (D 0 12) - nI 3
def RgD (D : NN) (σ : ZI) : Prop := σ 60 14 = nI (D 0 0) ∧ σ 60 15 = nI (D 0 1) ∧ σ 60 16 = nI (D 0 2) ∧ σ 60 17 = nI (D 0 3) ∧ σ 70 0 = nI (D 0 10) ∧ σ 70 1 = nI (D 0 11)
def RwD (D : NN) (σ : ZI) : Prop := (∀ i, i < D 0 1 → σ 67 (2 * i) = nI (D 2 i) ∧ σ 67 (2 * i + 1) = nI (D 3 i)) ∧ (∀ i, i < D 0 2 → σ 68 i = nI (D 4 i)) ∧ (∀ i, i < D 0 3 → σ 69 i = nI (D 7 i))
def RSb (n : Nat) (b : Nat → Nat) (D : NN) (AT MT HJ : Nat) (σ : ZI) : Prop := Tp8 n b σ ∧ InvK σ ∧ PgD D σ ∧ RgD D σ ∧ RwD D σ ∧ σ 60 19 = nI AT ∧ σ 60 20 = nI MT ∧ σ 60 21 = nI HJ
theorem RSb_fr {n : Nat} {b : Nat → Nat} {D : NN} {AT MT HJ : Nat} {σ σ' : ZI} (h : Fr8 σ σ') (q : RSb n b D AT MT HJ σ) : RSb n b D AT MT HJ σ' := by
  obtain ⟨a1, a2, ⟨b1, b2, b3, b4, b5, b6, b7, b8, b9, b10⟩, ⟨c1, c2, c3, c4, c5, c6⟩, ⟨d1, d2, d3⟩, e1, e2, e3⟩ := q
  have g : ∀ c i, c ≠ 60 → σ' c i = σ c i := fun c i z => h c i (by omega)
  have g6 : ∀ i, i < 25 → σ' 60 i = σ 60 i := fun i z => h 60 i (by omega)
  exact ⟨Tp8_fr h a1, ⟨fun i hi => (g _ _ (by omega)).trans (a2.1 i hi), fun i hi => (g _ _ (by omega)).trans (a2.2 i hi)⟩, ⟨fun i hi => (g _ _ (by omega)).trans (b1 i hi), fun i hi => (g _ _ (by omega)).trans (b2 i hi), fun i hi => (g _ _ (by omega)).trans (b3 i hi), (g _ _ (by omega)).trans b4, (g _ _ (by omega)).trans b5, (g _ _ (by omega)).trans b6, (g _ _ (by omega)).trans b7, (g _ _ (by omega)).trans b8, (g _ _ (by omega)).trans b9, (g _ _ (by omega)).trans b10⟩, ⟨(g6 _ (by omega)).trans c1, (g6 _ (by omega)).trans c2, (g6 _ (by omega)).trans c3, (g6 _ (by omega)).trans c4, (g _ _ (by omega)).trans c5, (g _ _ (by omega)).trans c6⟩, ⟨fun i hi => ⟨(g _ _ (by omega)).trans (d1 i hi).1, (g _ _ (by omega)).trans (d1 i hi).2⟩, fun i hi => (g _ _ (by omega)).trans (d2 i hi), fun i hi => (g _ _ (by omega)).trans (d3 i hi)⟩, (g6 _ (by omega)).trans e1, (g6 _ (by omega)).trans e2, (g6 _ (by omega)).trans e3⟩
theorem RSb_J {n : Nat} {b : Nat → Nat} {D : NN} {AT MT HJ H : Nat} {σ σ' : ZI} (h : FrJ σ σ') (h2 : σ' 60 21 = nI H) (q : RSb n b D AT MT HJ σ) : RSb n b D AT MT H σ' := by
  obtain ⟨a1, a2, ⟨b1, b2, b3, b4, b5, b6, b7, b8, b9, b10⟩, ⟨c1, c2, c3, c4, c5, c6⟩, ⟨d1, d2, d3⟩, e1, e2, e3⟩ := q
  have g : ∀ c i, c ≠ 60 → σ' c i = σ c i := fun c i z => h c i (by omega)
  have g6 : ∀ i, i < 25 → i ≠ 21 → σ' 60 i = σ 60 i := fun i z z2 => h 60 i (by omega)
  exact ⟨⟨a1.1, (g6 _ (by omega) (by omega)).trans a1.2.1, fun i hi => ⟨(a1.2.2 i hi).1, (g _ _ (by omega)).trans (a1.2.2 i hi).2⟩⟩, ⟨fun i hi => (g _ _ (by omega)).trans (a2.1 i hi), fun i hi => (g _ _ (by omega)).trans (a2.2 i hi)⟩, ⟨fun i hi => (g _ _ (by omega)).trans (b1 i hi), fun i hi => (g _ _ (by omega)).trans (b2 i hi), fun i hi => (g _ _ (by omega)).trans (b3 i hi), (g _ _ (by omega)).trans b4, (g _ _ (by omega)).trans b5, (g _ _ (by omega)).trans b6, (g _ _ (by omega)).trans b7, (g _ _ (by omega)).trans b8, (g _ _ (by omega)).trans b9, (g _ _ (by omega)).trans b10⟩, ⟨(g6 _ (by omega) (by omega)).trans c1, (g6 _ (by omega) (by omega)).trans c2, (g6 _ (by omega) (by omega)).trans c3, (g6 _ (by omega) (by omega)).trans c4, (g _ _ (by omega)).trans c5, (g _ _ (by omega)).trans c6⟩, ⟨fun i hi => ⟨(g _ _ (by omega)).trans (d1 i hi).1, (g _ _ (by omega)).trans (d1 i hi).2⟩, fun i hi => (g _ _ (by omega)).trans (d2 i hi), fun i hi => (g _ _ (by omega)).trans (d3 i hi)⟩, (g6 _ (by omega) (by omega)).trans e1, (g6 _ (by omega) (by omega)).trans e2, h2⟩
/-- what becomes of the two sides in the body of a line -/
def BO (kq n : Nat) (b : Nat → Nat) (p : Nat) (D : NN) (AT MT HJ : Nat) (cb : ZI → Option (Int32 × ZI)) (rb : ZI → Option ZI) : Prop :=
  (∃ f q, 1 ≤ f ∧ f < 10 ∧ q ≤ n ∧ (∀ σ, CSb n b p D σ → ∃ σ', cb σ = some (0, σ') ∧ Sg σ σ' ∧ flt f q σ') ∧ (∀ σ, RSb n b D AT MT HJ σ → RY n b p σ → ∃ σ', rb σ = some σ' ∧ Sg σ σ' ∧ BR f q σ')) ∨
  (∃ D' p' AT' MT' HJ', p ≤ p' ∧ p' ≤ n ∧ TD D' ∧ LK D' AT' MT' HJ' ∧ (kq ≠ 5 → D' 0 5 = D 0 5) ∧ (∀ σ, CSb n b p D σ → ∃ σ', cb σ = some (1, σ') ∧ Sg σ σ' ∧ CSb n b p' D' σ' ∧ σ' 39 2 = σ 39 2) ∧ (∀ σ, RSb n b D AT MT HJ σ → RY n b p σ → ∃ σ', rb σ = some σ' ∧ Sg σ σ' ∧ RSb n b D' AT' MT' HJ' σ' ∧ RY n b p' σ' ∧ σ' 60 18 = σ 60 18))
theorem TV_r {D : NN} {σ : ZI} {b k v : Nat} (hk : k ≠ 1 ∧ k ≠ 2 ∧ k ≠ 3) (q : TV b D σ) : TV b (tset D 0 k v) (va_up σ (b + 1) (upd (σ (b + 1)) k (nI v))) := by
  obtain ⟨q1, q2, q3, q4⟩ := q
  have e1 : tset D 0 k v 0 1 = D 0 1 := tset_ne D (.inr (by omega))
  have e2 : tset D 0 k v 0 2 = D 0 2 := tset_ne D (.inr (by omega))
  have e3 : tset D 0 k v 0 3 = D 0 3 := tset_ne D (.inr (by omega))
  refine ⟨fun i hi => ?_, fun i hi => ?_, fun i hi => ?_, fun i hi => ?_⟩
  · by_cases h : i = k
    · subst h; rw [up_same, tset_same]
    · rw [up_ne σ (.inr h), tset_ne D (.inr h)]; exact q1 i hi
  · rw [e1] at hi
    rw [up_ne σ (.inl (by omega)), up_ne σ (.inl (by omega)), up_ne σ (.inl (by omega))]
    exact q2 i hi
  · rw [e2] at hi
    rw [up_ne σ (.inl (by omega)), up_ne σ (.inl (by omega))]
    exact q3 i hi
  · rw [e3] at hi
    rw [up_ne σ (.inl (by omega)), up_ne σ (.inl (by omega))]
    exact q4 i hi
theorem CSb_F7 {n : Nat} {b : Nat → Nat} {p p' : Nat} {D : NN} {σ σ' : ZI} (h : F7 σ σ') (h2 : σ' 37 2 = nI p') (q : CSb n b p D σ) : CSb n b p' D σ' := ⟨Tp7_Ff (F7_Ff h) q.1, h2, (h _ _ (by omega)).trans q.2.2.1, TV_fr (fun r i _ _ => h _ _ (by omega)) q.2.2.2⟩
theorem up_sg {k : Nat} {σ σ' : ZI} {c p : Nat} {v : Int32} (h : Dw k σ σ') (hc : own c p = 0) : Dw k σ (va_up σ' c (upd (σ' c) p v)) := Dw_up h (.inl hc)
theorem CSb_set {n : Nat} {b : Nat → Nat} {p : Nat} {D D' : NN} {σ : ZI} {c i : Nat} {v : Int32} (hc : 29 ≤ c ∧ c ≤ 36) (q : CSb n b p D σ) (h : TV 28 D' (va_up σ c (upd (σ c) i v))) : CSb n b p D' (va_up σ c (upd (σ c) i v)) := by
  obtain ⟨⟨a1, a2, a3⟩, b1, c1, d1⟩ := q
  exact ⟨⟨a1, (up_ne σ (.inl (by omega))).trans a2, fun i hi => ⟨(a3 i hi).1, (up_ne σ (.inl (by omega))).trans (a3 i hi).2⟩⟩, (up_ne σ (.inl (by omega))).trans b1, (up_ne σ (.inl (by omega))).trans c1, h⟩
theorem own_d {c : Nat} (i : Nat) (h : 28 ≤ c) (h2 : c ≤ 36) : own c i = 0 := by
  unfold own
  rw [if_neg (by omega), if_neg (by omega), if_neg (by omega), if_pos h2]
/-- one number of a line -/
theorem rl7 {n : Nat} {b : Nat → Nat} {p : Nat} {D : NN} {σ : ZI} (h : CSb n b p D σ) (hp : p ≤ n) {r lo hi : Nat} (hr : r < 13) (hr1 : r ≠ 1 ∧ r ≠ 2 ∧ r ≠ 3) (hlo : lo ≤ 99) (hhi : hi ≤ 99) (e1 : r ≠ 9 → f_X7_atS 101 (nI r) = some (nI lo)) (e9 : r = 9 → lo = D 0 8 + 1) (e2 : f_X7_atS 102 (nI r) = some (nI hi)) : (nf n b p lo hi ≠ 0 → ∃ σ', f_X2_readRule σ (nI r) = some (0, σ') ∧ Sg σ σ' ∧ flt (nf n b p lo hi) (hd n b p) σ') ∧ (nf n b p lo hi = 0 → ∃ σ', f_X2_readRule σ (nI r) = some (1, σ') ∧ Sg σ σ' ∧ CSb n b (en n b p) (tset D 0 r (VV n b p)) σ' ∧ σ' 39 2 = σ 39 2) := by
  have e0 : f_X2_readRule σ (nI r) = f_X2_readRule_27 (nI r) σ (nI lo) := by
    unfold f_X2_readRule
    by_cases z : r = 9
    · subst z
      rw [if_pos (show nI 9 = (9 : Int32) from rfl), v28_8, bso, show σ 29 8 = _ from h.2.2.2.1 8 (by omega), nI_1, ← e9 rfl]
    · rw [if_neg (show ¬ nI r = (9 : Int32) from fun q => z (nI_inj (b := 9) (by omega) (by omega) q)), e1 z, bso]
  obtain ⟨t1, t2⟩ := tn7 (lo := lo) (hi := hi) h.1 hp h.2.1 hhi hlo
  rw [e0]
  unfold f_X2_readRule_27
  rw [e2, bso]
  refine ⟨fun z => ?_, fun z => ?_⟩
  · obtain ⟨σ', x1, x2, x3⟩ := t1 z
    exact ⟨σ', by rw [x1, bso, if_pos rfl], Ff_sg x2, x3⟩
  · obtain ⟨s1, x1, x2, x3⟩ := t2 z
    have nz := nf_0 z
    have vb := VV_b hp nz.1
    have nm : ¬ nI (VV n b p) = -1 := by
      intro q
      have : (nI (VV n b p)).toInt = (-1 : Int32).toInt := by rw [q]
      rw [nI_toInt (by omega)] at this
      have e : (-1 : Int32).toInt = -1 := rfl
      omega
    have c1 := CSb_F7 x2 x3.2.1 h
    rw [x1, bso]
    dsimp only
    rw [if_neg nm, bec_n (b := 28) rfl rfl hr, bso]
    refine ⟨_, rfl, up_sg (Ff_sg (F7_Ff x2)) (own_d _ (by omega) (by omega)), CSb_set (c := 29) (by omega) c1 (TV_r (b := 28) hr1 c1.2.2.2), ?_⟩
    exact (up_ne s1 (.inl (by omega))).trans (x2 39 2 (by omega))
/-- where the reference has a rule while it reads -/
def rt (r c p e : Nat) : Prop := (r = 0 ∧ c = 60 ∧ p = 14 ∧ e = 0) ∨ (r = 4 ∧ c = 66 ∧ p = 11 ∧ e = 0) ∨ (r = 5 ∧ c = 66 ∧ p = 12 ∧ e = 0) ∨ (r = 6 ∧ c = 66 ∧ p = 13 ∧ e = 1) ∨ (r = 7 ∧ c = 66 ∧ p = 14 ∧ e = 5) ∨ (r = 8 ∧ c = 66 ∧ p = 15 ∧ e = 2) ∨ (r = 9 ∧ c = 66 ∧ p = 16 ∧ e = 4) ∨ (r = 12 ∧ c = 66 ∧ p = 17 ∧ e = 3) ∨ (r = 10 ∧ c = 70 ∧ p = 0 ∧ e = 0) ∨ (r = 11 ∧ c = 70 ∧ p = 1 ∧ e = 0)
theorem rt_1 {r c p e R C P E : Nat} (h : rt r c p e) (h2 : rt R C P E) : R = r → C = c ∧ P = p ∧ E = e := by
  intro q
  rcases h with h | h | h | h | h | h | h | h | h | h <;> rcases h2 with h2 | h2 | h2 | h2 | h2 | h2 | h2 | h2 | h2 | h2 <;> omega
theorem rt_2 {r c p e R C P E : Nat} (h : rt r c p e) (h2 : rt R C P E) : R ≠ r → C ≠ c ∨ P ≠ p := by
  intro q
  rcases h with h | h | h | h | h | h | h | h | h | h <;> rcases h2 with h2 | h2 | h2 | h2 | h2 | h2 | h2 | h2 | h2 | h2 <;> omega
theorem rt_c {r c p e : Nat} (h : rt r c p e) : (c = 60 ∧ p = 14) ∨ (c = 66 ∧ 11 ≤ p ∧ p ≤ 17) ∨ (c = 70 ∧ p ≤ 1) := by
  rcases h with h | h | h | h | h | h | h | h | h | h <;> omega
theorem rt_r {r c p e : Nat} (h : rt r c p e) : r < 13 ∧ r ≠ 1 ∧ r ≠ 2 ∧ r ≠ 3 := by
  rcases h with h | h | h | h | h | h | h | h | h | h <;> omega
theorem RSb_rule {n : Nat} {b : Nat → Nat} {D : NN} {AT MT HJ : Nat} {σ : ZI} {r c p e v : Nat} (hr : rt r c p e) (hD : TB D) (q : RSb n b D AT MT HJ σ) : RSb n b (tset D 0 r v) AT MT HJ (va_up σ c (upd (σ c) p (nI v - nI e))) := by
  obtain ⟨a1, a2, ⟨b1, b2, b3, b4, b5, b6, b7, b8, b9, b10⟩, ⟨c1, c2, c3, c4, c5, c6⟩, ⟨d1, d2, d3⟩, f1, f2, f3⟩ := q
  obtain ⟨m1, m2, m3⟩ := hD
  have hc := rt_c hr
  have hr1 := (rt_r hr).2
  have g : ∀ C P, (C ≠ c ∨ P ≠ p) → va_up σ c (upd (σ c) p (nI v - nI e)) C P = σ C P := fun C P h => up_ne σ h
  have B : ∀ R C P E : Nat, rt R C P E → σ C P = nI (D 0 R) - nI E → va_up σ c (upd (σ c) p (nI v - nI e)) C P = nI (tset D 0 r v 0 R) - nI E := by
    intro R C P E hR h
    by_cases hh : R = r
    · have := rt_1 hr hR hh
      subst hh
      rw [this.1, this.2.1, this.2.2, up_same, tset_same]
    · rw [g C P (rt_2 hr hR hh), tset_ne D (.inr hh)]
      exact h
  have e1 : tset D 0 r v 0 1 = D 0 1 := tset_ne D (.inr (Ne.symm hr1.1))
  have e2 : tset D 0 r v 0 2 = D 0 2 := tset_ne D (.inr (Ne.symm hr1.2.1))
  have e3 : tset D 0 r v 0 3 = D 0 3 := tset_ne D (.inr (Ne.symm hr1.2.2))
  have gA : ∀ C P, C ≠ 60 → C ≠ 66 → C ≠ 70 → va_up σ c (upd (σ c) p (nI v - nI e)) C P = σ C P := fun C P z1 z2 z3 => g C P (.inl (by rcases hc with w | w | w <;> rw [w.1] <;> assumption))
  have gB : ∀ P, P ≠ 14 → va_up σ c (upd (σ c) p (nI v - nI e)) 60 P = σ 60 P := fun P z => g 60 P (by
    rcases hc with w | w | w
    · exact .inr (by rw [w.2]; exact z)
    · exact .inl (by rw [w.1]; decide)
    · exact .inl (by rw [w.1]; decide))
  have gC : ∀ P, P < 11 → va_up σ c (upd (σ c) p (nI v - nI e)) 66 P = σ 66 P := fun P z => g 66 P (by
    rcases hc with w | w | w
    · exact .inl (by rw [w.1]; decide)
    · exact .inr (by omega)
    · exact .inl (by rw [w.1]; decide))
  have B0 : ∀ R C P : Nat, rt R C P 0 → σ C P = nI (D 0 R) → va_up σ c (upd (σ c) p (nI v - nI e)) C P = nI (tset D 0 r v 0 R) := fun R C P hR h => by
    have := B R C P 0 hR (by rw [i_sub0]; exact h)
    rw [i_sub0] at this; exact this
  clear hc hr1 g hr
  have pg : PgD (tset D 0 r v) (va_up σ c (upd (σ c) p (nI v - nI e))) := by
    refine ⟨fun i hi => ?_, fun i hi => ?_, fun i hi => ?_, B0 4 66 11 (by unfold rt; decide) b4, B0 5 66 12 (by unfold rt; decide) b5, B 6 66 13 1 (by unfold rt; decide) b6, B 7 66 14 5 (by unfold rt; decide) b7, B 8 66 15 2 (by unfold rt; decide) b8, B 9 66 16 4 (by unfold rt; decide) b9, B 12 66 17 3 (by unfold rt; decide) b10⟩
    · rw [e1] at hi; exact (gC _ (by omega)).trans (b1 i hi)
    · rw [e2] at hi; exact (gC _ (by omega)).trans (b2 i hi)
    · rw [e3] at hi; exact (gC _ (by omega)).trans (b3 i hi)
  have rg : RgD (tset D 0 r v) (va_up σ c (upd (σ c) p (nI v - nI e))) := by
    refine ⟨B0 0 60 14 (by unfold rt; decide) c1, ?_, ?_, ?_, B0 10 70 0 (by unfold rt; decide) c5, B0 11 70 1 (by unfold rt; decide) c6⟩
    · rw [e1]; exact (gB _ (by decide)).trans c2
    · rw [e2]; exact (gB _ (by decide)).trans c3
    · rw [e3]; exact (gB _ (by decide)).trans c4
  have rw_ : RwD (tset D 0 r v) (va_up σ c (upd (σ c) p (nI v - nI e))) := by
    refine ⟨fun i hi => ?_, fun i hi => ?_, fun i hi => ?_⟩
    · rw [e1] at hi; exact ⟨(gA _ _ (by decide) (by decide) (by decide)).trans (d1 i hi).1, (gA _ _ (by decide) (by decide) (by decide)).trans (d1 i hi).2⟩
    · rw [e2] at hi; exact (gA _ _ (by decide) (by decide) (by decide)).trans (d2 i hi)
    · rw [e3] at hi; exact (gA _ _ (by decide) (by decide) (by decide)).trans (d3 i hi)
  exact ⟨⟨a1.1, (gB _ (by decide)).trans a1.2.1, fun i hi => ⟨(a1.2.2 i hi).1, (gA _ _ (by decide) (by decide) (by decide)).trans (a1.2.2 i hi).2⟩⟩, ⟨fun i hi => (gA _ _ (by decide) (by decide) (by decide)).trans (a2.1 i hi), fun i hi => (gA _ _ (by decide) (by decide) (by decide)).trans (a2.2 i hi)⟩, pg, rg, rw_, (gB _ (by decide)).trans f1, (gB _ (by decide)).trans f2, (gB _ (by decide)).trans f3⟩
theorem TD_TB {D : NN} (h : TD D) : TB D := ⟨by have := h.1; omega, by have := h.1; omega, by have := h.1; omega⟩
theorem RY_up {n : Nat} {b : Nat → Nat} {p : Nat} {σ : ZI} {c i : Nat} {v : Int32} (h : c ≠ 60 ∨ i < 25) (q : RY n b p σ) : RY n b p (va_up σ c (upd (σ c) i v)) := by
  have g : ∀ P, 25 ≤ P → va_up σ c (upd (σ c) i v) 60 P = σ 60 P := fun P hP => up_ne σ (by omega)
  refine ⟨fun z => ?_, fun z => ?_⟩
  · obtain ⟨a, c⟩ := q.1 z
    exact ⟨(g _ (by omega)).trans a, (g _ (by omega)).trans c⟩
  · obtain ⟨w1, w2, w3, w4, w5⟩ := q.2 z
    exact ⟨(g _ (by omega)).trans w1, (g _ (by omega)).trans w2, (g _ (by omega)).trans w3, (g _ (by omega)).trans w4, fun y => (g _ (by omega)).trans (w5 y)⟩
theorem BR_up {f q : Nat} {σ : ZI} {c i : Nat} {v : Int32} (h : c ≠ 60 ∨ i < 25) (z : BR f q σ) : BR f q (va_up σ c (upd (σ c) i v)) := ⟨(up_ne σ (by omega)).trans z.1, (up_ne σ (by omega)).trans z.2⟩
theorem rt_own {r c p e : Nat} (h : rt r c p e) : own c p = 0 := by
  rcases h with ⟨-, rfl, rfl, -⟩ | ⟨-, rfl, rfl, -⟩ | ⟨-, rfl, rfl, -⟩ | ⟨-, rfl, rfl, -⟩ | ⟨-, rfl, rfl, -⟩ | ⟨-, rfl, rfl, -⟩ | ⟨-, rfl, rfl, -⟩ | ⟨-, rfl, rfl, -⟩ | ⟨-, rfl, rfl, -⟩ | ⟨-, rfl, rfl, -⟩ <;> rfl
/-- one number on the reference's side, and put -/
theorem rr8 {n : Nat} {b : Nat → Nat} {p : Nat} {D : NN} {AT MT HJ : Nat} {σ : ZI} (h : RSb n b D AT MT HJ σ) (hp : p ≤ n) (y : RY n b p σ) (hD : TB D) {r c pl e lo hi : Nat} (hr : rt r c pl e) (hlo : lo ≤ 99) (hhi : hi ≤ 99) {α : Type} (K : ZI → Option α) : (nf n b p lo hi ≠ 0 → ∃ σ', ((f_X8_number σ (nI lo) (nI hi)).bind fun q => lt_ (va_up q.2 c (upd (q.2 c) pl (q.1 - nI e))) K) = K σ' ∧ Sg σ σ' ∧ BR (nf n b p lo hi) (hd n b p) σ') ∧ (nf n b p lo hi = 0 → ∃ σ', ((f_X8_number σ (nI lo) (nI hi)).bind fun q => lt_ (va_up q.2 c (upd (q.2 c) pl (q.1 - nI e))) K) = K σ' ∧ Sg σ σ' ∧ RSb n b (tset D 0 r (VV n b p)) AT MT HJ σ' ∧ RY n b (en n b p) σ' ∧ σ' 60 18 = σ 60 18) := by
  obtain ⟨t1, t2⟩ := num8 (lo := lo) (hi := hi) h.1 hp y hhi hlo
  have cp : c ≠ 60 ∨ pl < 25 := by unfold rt at hr; omega
  have cp2 : 60 ≠ c ∨ 18 ≠ pl := by unfold rt at hr; omega
  refine ⟨fun z => ?_, fun z => ?_⟩
  · obtain ⟨s1, x1, x2, x3⟩ := t1 z
    exact ⟨_, by rw [x1, bso, ltq], up_sg (FrJ_sg (Fr8_J x2)) (rt_own hr), BR_up cp x3⟩
  · obtain ⟨s1, x1, x2, x3⟩ := t2 z
    exact ⟨_, by rw [x1, bso, ltq], up_sg (FrJ_sg (Fr8_J x2)) (rt_own hr), RSb_rule hr hD (RSb_fr x2 h), RY_up cp x3, (up_ne s1 cp2).trans (x2 60 18 (by omega))⟩
theorem LK_rule {D : NN} {AT MT HJ r v : Nat} (hr : r ≠ 1 ∧ r ≠ 2 ∧ r ≠ 4 ∧ r ≠ 5) (h : LK D AT MT HJ) : LK (tset D 0 r v) AT MT HJ := by
  have e1 : tset D 0 r v 0 1 = D 0 1 := tset_ne D (.inr (by omega))
  have e2 : tset D 0 r v 0 2 = D 0 2 := tset_ne D (.inr (by omega))
  have e4 : tset D 0 r v 0 4 = D 0 4 := tset_ne D (.inr (by omega))
  have e5 : tset D 0 r v 0 5 = D 0 5 := tset_ne D (.inr (by omega))
  unfold LK
  rw [e1, e2, e4, e5]
  exact h
theorem TD_rule {D : NN} {r v : Nat} (hr : r = 0 ∨ (4 ≤ r ∧ r < 13)) (h : TD D) (hv : (r = 0 → 2 ≤ v ∧ v ≤ 10) ∧ (r = 4 → v < 2 ^ 10) ∧ (r = 5 → v ≤ 10) ∧ (r = 6 → v ≤ 10) ∧ (r = 7 → 1 ≤ v ∧ v ≤ 9) ∧ (r = 8 → 1 ≤ v ∧ v ≤ 10 ∧ v < D 0 9) ∧ (r = 9 → D 0 8 < v ∧ v ≤ 11) ∧ (r = 10 → v ≤ 9) ∧ (r = 11 → v ≤ 9) ∧ (r = 12 → 1 ≤ v ∧ v ≤ 9)) : TD (tset D 0 r v) := by
  obtain ⟨k1, k2, k3, k4, k5, k6⟩ := h
  have e1 : tset D 0 r v 0 1 = D 0 1 := tset_ne D (.inr (by omega))
  have e2 : tset D 0 r v 0 2 = D 0 2 := tset_ne D (.inr (by omega))
  have e3 : tset D 0 r v 0 3 = D 0 3 := tset_ne D (.inr (by omega))
  refine ⟨?_, by rw [e1]; exact k2, by rw [e1]; exact k3, by rw [e2]; exact k4, by rw [e2]; exact k5, by rw [e3]; exact k6⟩
  rw [e1, e2, e3]
  have hr2 : r = 0 ∨ r = 4 ∨ r = 5 ∨ r = 6 ∨ r = 7 ∨ r = 8 ∨ r = 9 ∨ r = 10 ∨ r = 11 ∨ r = 12 := by omega
  rcases hr2 with rfl | rfl | rfl | rfl | rfl | rfl | rfl | rfl | rfl | rfl <;> simp [tset] <;> simp at hv <;> omega
/-- a line of one number -/
theorem bo_1 {kq n : Nat} {b : Nat → Nat} {p : Nat} {D : NN} {AT MT HJ : Nat} (hp : p ≤ n) (tD : TD D) (lk : LK D AT MT HJ) {r c pl e lo hi : Nat} (hr : rt r c pl e) (hr9 : r ≠ 9 ∧ r ≠ 8 ∧ r ≠ 4 ∧ r ≠ 5) (hlo : lo ≤ 99) (hhi : hi ≤ 99) (e1 : f_X7_atS 101 (nI r) = some (nI lo)) (e2 : f_X7_atS 102 (nI r) = some (nI hi)) (hv : ∀ v, lo ≤ v → v ≤ hi → TD (tset D 0 r v)) {rb : ZI → Option ZI} (hrb : ∀ σ, rb σ = (f_X8_number σ (nI lo) (nI hi)).bind fun q => lt_ (va_up q.2 c (upd (q.2 c) pl (q.1 - nI e))) some) : BO kq n b p D AT MT HJ (fun σ => f_X2_readRule σ (nI r)) rb := by
  have hr13 : r < 13 ∧ r ≠ 1 ∧ r ≠ 2 ∧ r ≠ 3 := by unfold rt at hr; omega
  have he := en_ge n b hp
  have hh := hd_ge n b hp
  by_cases z : nf n b p lo hi = 0
  · have nz := nf_0 z
    refine .inr ⟨tset D 0 r (VV n b p), en n b p, AT, MT, HJ, by omega, he.2.1, hv _ nz.2.1 nz.2.2, LK_rule (by omega) lk, fun _ => tset_ne D (.inr (by omega)), fun σ h => ?_, fun σ h y => ?_⟩
    · exact (rl7 h hp hr13.1 hr13.2 hlo hhi (fun _ => e1) (fun w => absurd w hr9.1) e2).2 z
    · rw [hrb]; exact (rr8 h hp y (TD_TB tD) hr hlo hhi some).2 z
  · refine .inl ⟨nf n b p lo hi, hd n b p, by omega, by have := nf_le n b p lo hi; omega, hh.2, fun σ h => ?_, fun σ h y => ?_⟩
    · exact (rl7 h hp hr13.1 hr13.2 hlo hhi (fun _ => e1) (fun w => absurd w hr9.1) e2).1 z
    · rw [hrb]; exact (rr8 h hp y (TD_TB tD) hr hlo hhi some).1 z
