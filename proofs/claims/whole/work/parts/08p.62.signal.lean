/-! a line of a signal *-/
theorem nm1 {v : Nat} (h : v ≤ 99) : ¬ nI v = -1 := by
  intro q
  have : (nI v).toInt = (-1 : Int32).toInt := by rw [q]
  rw [nI_toInt (by omega)] at this
  have e : (-1 : Int32).toInt = -1 := rfl
  omega
theorem nm4 {v : Nat} (h : v ≤ 99) : ¬ nI v = -4 := by
  intro q
  have : (nI v).toInt = (-4 : Int32).toInt := by rw [q]
  rw [nI_toInt (by omega)] at this
  have e : (-4 : Int32).toInt = -4 := rfl
  omega
/-- what the class does with a joint: no number, or a number told before, or a new one -/
theorem jc7 {n : Nat} {b : Nat → Nat} {p s : Nat} : (jc n b p s ≠ 0 ∧ nf n b p 1 10 ≠ 0 ∧ jc n b p s = nf n b p 1 10) ∨ (jc n b p s ≠ 0 ∧ nf n b p 1 10 = 0 ∧ s.testBit (VV n b p - 1) = true ∧ jc n b p s = 4) ∨ (jc n b p s = 0 ∧ nf n b p 1 10 = 0 ∧ s.testBit (VV n b p - 1) = false) := by
  unfold jc
  by_cases h : nf n b p 1 10 = 0
  · rw [if_neg (by omega)]
    by_cases h2 : s.testBit (VV n b p - 1) = true
    · rw [if_pos h2]; exact .inr (.inl ⟨by omega, h, h2, rfl⟩)
    · rw [if_neg h2]; exact .inr (.inr ⟨rfl, h, by simpa using h2⟩)
  · rw [if_pos h]; exact .inl ⟨h, h, rfl⟩
theorem or_b {s v j : Nat} (hv : 1 ≤ v) : (s ||| 2 ^ (v - 1)).testBit j = true ↔ (s.testBit j = true ∨ j + 1 = v) := by
  rw [Nat.testBit_or, Nat.testBit_two_pow, Bool.or_eq_true, decide_eq_true_iff]
  constructor
  · rintro (h | h)
    · exact .inl h
    · exact .inr (by omega)
  · rintro (h | h)
    · exact .inl h
    · exact .inr (by omega)
theorem LK_4 {D : NN} {AT MT HJ v : Nat} (hv : v ≤ 10) (h1 : 1 ≤ v) (h : LK D AT MT HJ) : LK (tset D 0 4 (D 0 4 ||| 2 ^ (v - 1))) AT MT (max HJ v) := by
  have e1 : tset D 0 4 (D 0 4 ||| 2 ^ (v - 1)) 0 1 = D 0 1 := tset_ne D (.inr (by omega))
  have e2 : tset D 0 4 (D 0 4 ||| 2 ^ (v - 1)) 0 2 = D 0 2 := tset_ne D (.inr (by omega))
  have e4 : tset D 0 4 (D 0 4 ||| 2 ^ (v - 1)) 0 4 = (D 0 4 ||| 2 ^ (v - 1)) := tset_same D 0 4 _
  have e5 : tset D 0 4 (D 0 4 ||| 2 ^ (v - 1)) 0 5 = D 0 5 := tset_ne D (.inr (by omega))
  obtain ⟨h1', h2, h3, h4, h5, h6⟩ := h
  refine ⟨h1', h2, by omega, by rw [e1]; exact h4, by rw [e2]; exact h5, fun J => ?_⟩
  rw [e1, e2, e4, e5]
  have := h6 J
  constructor
  · intro q
    obtain ⟨a1, a2, a3, a4⟩ := this.1 (by omega)
    refine ⟨a1, a2, a3, fun j hj w => ?_⟩
    rcases (or_b h1).1 w with w | w
    · exact a4 j hj w
    · omega
  · rintro ⟨a1, a2, a3, a4⟩
    have l1 := this.2 ⟨a1, a2, a3, fun j hj w => a4 j hj ((or_b h1).2 (.inl w))⟩
    have l2 := a4 (v - 1) (by omega) ((or_b h1).2 (.inr (by omega)))
    omega
theorem or_lt {s v : Nat} (hs : s < 2 ^ 10) (h1 : 1 ≤ v) (hv : v ≤ 10) : (s ||| 2 ^ (v - 1)) < 2 ^ 10 := Nat.or_lt_two_pow hs (Nat.pow_lt_pow_right (by omega) (by omega))
theorem bit_n {v : Nat} (h1 : 1 ≤ v) (hv : v ≤ 10) : ((1 : Int32) <<< ((nI v - 1) &&& 31)) = nI (2 ^ (v - 1)) := by
  obtain ⟨w, rfl⟩ : ∃ w, v = w + 1 := ⟨v - 1, by omega⟩
  rw [nI_pred, sbl (by omega), show w + 1 - 1 = w by omega]
theorem bo_4 {kq n : Nat} {b : Nat → Nat} {p : Nat} {D : NN} {AT MT HJ : Nat} (hp : p ≤ n) (tD : TD D) (lk : LK D AT MT HJ) : BO kq n b p D AT MT HJ (fun σ => f_X2_readSignal σ) (fun σ => f_X8_readMore σ 10) := by
  have he := en_ge n b hp
  have hh := hd_ge n b hp
  have r4 : rt 4 66 11 0 := by unfold rt; decide
  have s10 : D 0 4 < 2 ^ 10 := tD.1.2.2.2.2.2.1
  have hrb : ∀ σ : ZI, f_X8_readMore σ 10 = (f_X8_jointHere σ (σ 66 11)).bind fun q => lt_ (va_up q.2 66 (upd (q.2 66) 11 ((σ 66 11) ||| ((1 : Int32) <<< ((q.1 - 1) &&& 31))))) some := fun σ => by
    unfold f_X8_readMore
    rw [if_neg (by decide), if_neg (by decide), if_neg (by decide)]
  have cl : ∀ σ, CSb n b p D σ → nf n b p 1 10 = 0 → ∃ s1, f_X2_readSignal σ = (f_X6_isSignalAt s1 28 (nI (VV n b p))).bind (fun q2 => if q2 = 0 then ((f_X6_value s1 28 (4 : Int32)).bind (fun q3 => (f_X6_become s1 28 (4 : Int32) (q3 ||| ((1 : Int32) <<< ((nI (VV n b p) - (1 : Int32)) &&& 31)))).bind (fun q4 => some ((1 : Int32), q4)))) else ((f_X2_refuse s1 (4 : Int32)).bind (fun q5 => if q5.1 = 0 ∨ q5.1 = 1 then some (q5.1, q5.2) else none))) ∧ F7 σ s1 ∧ At7 n b p s1 ∧ CSb n b (en n b p) D s1 := by
    intro σ h z
    have nz := nf_0 z
    obtain ⟨s1, x1, x2, x3⟩ := (tn7 (lo := 1) (hi := 10) h.1 hp h.2.1 (by omega) (by omega)).2 z
    refine ⟨s1, ?_, x2, x3, CSb_F7 x2 x3.2.1 h⟩
    unfold f_X2_readSignal
    rw [show f_X2_takeNumber σ 1 10 = _ from x1, bso, if_neg (nm1 (by omega))]
  rcases jc7 (n := n) (b := b) (p := p) (s := D 0 4) with ⟨z, z2, z3⟩ | ⟨z, z2, z3, z4⟩ | ⟨z, z2, z3⟩
  · have f1 := nf_le n b p 1 10
    refine .inl ⟨nf n b p 1 10, hd n b p, by omega, by omega, hh.2, fun σ h => ?_, fun σ h y => ?_⟩
    · obtain ⟨s1, x1, x2, x3⟩ := (tn7 (lo := 1) (hi := 10) h.1 hp h.2.1 (by omega) (by omega)).1 z2
      refine ⟨s1, ?_, Ff_sg x2, x3⟩
      dsimp only
      unfold f_X2_readSignal
      rw [show f_X2_takeNumber σ 1 10 = _ from x1, bso, if_pos rfl]
    · obtain ⟨v, s1, x1, x2, x3, x4, x5⟩ := (jh8 h.1 hp y (s := D 0 4) s10 lk.2.2.1 h.2.2.2.2.2.2.2).1 z
      rw [z3] at x5
      exact ⟨_, by dsimp only; rw [hrb, h.2.2.1.2.2.2.1, x1, bso, ltq], up_sg (FrJ_sg x4) (rt_own r4), BR_up (.inl (by decide)) x5⟩
  · have nz := nf_0 z2
    refine .inl ⟨4, hd n b p, by omega, by omega, hh.2, fun σ h => ?_, fun σ h y => ?_⟩
    · obtain ⟨s1, x1, x2, x3, x4⟩ := cl σ h z2
      obtain ⟨s2, y1, y2, y3⟩ := ref7 s1 4 x3.2.2.2
      obtain ⟨w, hw⟩ : ∃ w, VV n b p = w + 1 := ⟨VV n b p - 1, by omega⟩
      rw [hw, show w + 1 - 1 = w by omega] at z3
      refine ⟨s2, ?_, Dw_tr (Ff_sg (F7_Ff x2)) (Ff_sg y2), y3⟩
      dsimp only
      rw [x1, hw, sg7 (j := w) rfl rfl (by omega) s10 (x4.2.2.2.1 4 (by omega)), if_pos z3, bso, if_neg (by decide), show f_X2_refuse s1 4 = _ from y1, bso, if_pos (.inl rfl)]
    · obtain ⟨v, s1, x1, x2, x3, x4, x5⟩ := (jh8 h.1 hp y (s := D 0 4) s10 lk.2.2.1 h.2.2.2.2.2.2.2).1 z
      rw [z4] at x5
      exact ⟨_, by dsimp only; rw [hrb, h.2.2.1.2.2.2.1, x1, bso, ltq], up_sg (FrJ_sg x4) (rt_own r4), BR_up (.inl (by decide)) x5⟩
  · have nz := nf_0 z2
    have ol := or_lt s10 nz.2.1 nz.2.2
    refine .inr ⟨tset D 0 4 (D 0 4 ||| 2 ^ (VV n b p - 1)), en n b p, AT, MT, max HJ (VV n b p), by omega, he.2.1, TD_rule (.inr ⟨by omega, by omega⟩) tD ⟨by omega, fun _ => ol, by omega, by omega, by omega, by omega, by omega, by omega, by omega, by omega⟩, LK_4 nz.2.2 nz.2.1 lk, fun _ => tset_ne D (.inr (by omega)), fun σ h => ?_, fun σ h y => ?_⟩
    · obtain ⟨s1, x1, x2, x3, x4⟩ := cl σ h z2
      have e4 : s1 29 4 = nI (D 0 4) := x4.2.2.2.1 4 (by omega)
      have key : f_X2_readSignal σ = some (1, va_up s1 29 (upd (s1 29) 4 (nI (D 0 4 ||| 2 ^ (VV n b p - 1))))) := by
        rw [x1]
        have e0 : f_X6_isSignalAt s1 28 (nI (VV n b p)) = some 0 := by
          obtain ⟨w, hw⟩ : ∃ w, VV n b p = w + 1 := ⟨VV n b p - 1, by omega⟩
          rw [hw, show w + 1 - 1 = w by omega] at z3
          rw [hw, sg7 (j := w) rfl rfl (by omega) s10 e4, if_neg (by rw [z3]; decide)]
        rw [e0, bso, if_pos rfl, v28_4, bso, bit_n nz.2.1 nz.2.2, e4, or_n (by omega) (by omega), show f_X6_become s1 28 4 _ = _ from bec_n (b := 28) (k := 4) rfl rfl (by omega), bso]
      refine ⟨_, key, up_sg (Ff_sg (F7_Ff x2)) (own_d _ (by omega) (by omega)), CSb_set (c := 29) (by omega) x4 (TV_r (b := 28) (by omega) x4.2.2.2), ?_⟩
      exact (up_ne s1 (.inl (by omega))).trans (x2 39 2 (by omega))
    · obtain ⟨s1, x1, x2, x3, x4⟩ := (jh8 h.1 hp y (s := D 0 4) s10 lk.2.2.1 h.2.2.2.2.2.2.2).2 z
      have := RSb_rule (v := D 0 4 ||| 2 ^ (VV n b p - 1)) r4 (TD_TB tD) (RSb_J x2 x3 h)
      rw [i_sub0] at this
      exact ⟨_, by dsimp only; rw [hrb, h.2.2.1.2.2.2.1, x1, bso, bit_n nz.2.1 nz.2.2, or_n (by omega) (by omega), ltq], up_sg (FrJ_sg x2) (rt_own r4), this, RY_up (.inl (by decide)) x4, (up_ne s1 (.inl (by decide))).trans (x2 60 18 (by omega))⟩
