/-! the bodies of the lines, by the name *-/
def cbk (k : Nat) (σ : ZI) : Option (Int32 × ZI) := match k with
  | 0 => f_X2_readRule σ (nI 0)
  | 1 => f_X2_readArm σ
  | 2 => f_X2_readMark σ
  | 3 => f_X2_readTown σ
  | 4 => f_X2_readSignal σ
  | 5 => f_X2_readRule σ (nI 5)
  | 6 => f_X2_readRule σ (nI 6)
  | 7 => f_X2_readRule σ (nI 7)
  | 8 => (f_X2_readRule σ (nI 8)).bind fun q => if q.1 = 0 then some ((0 : Int32), q.2) else f_X2_readRule q.2 (nI 9)
  | 9 => (f_X2_readRule σ (nI 10)).bind fun q => if q.1 = 0 then some ((0 : Int32), q.2) else f_X2_readRule q.2 (nI 11)
  | _ => f_X2_readRule σ (nI 12)
def rbk (k : Nat) (σ : ZI) : Option ZI := match k with
  | 0 => f_X8_readOnce σ 0
  | 1 => f_X8_readMore σ 7
  | 2 => f_X8_readMore σ 8
  | 3 => f_X8_readMore σ 9
  | 4 => f_X8_readMore σ 10
  | 5 => f_X8_readOnce σ 1
  | 6 => f_X8_readOnce σ 2
  | 7 => f_X8_readOnce σ 3
  | 8 => f_X8_readOnce σ 4
  | 9 => f_X8_readOnce σ 5
  | _ => f_X8_readOnce σ 6
theorem k11 {k : Nat} (h : k < 11) : k = 0 ∨ k = 1 ∨ k = 2 ∨ k = 3 ∨ k = 4 ∨ k = 5 ∨ k = 6 ∨ k = 7 ∨ k = 8 ∨ k = 9 ∨ k = 10 := by omega
theorem two_b (A : Option (Int32 × ZI)) (B : ZI → Option (Int32 × ZI)) (T : ZI → Option (Int32 × ZI)) : (A.bind fun q => if q.1 = 0 then some ((0 : Int32), q.2) else (B q.2).bind fun q2 => if q2.1 = 0 then some ((0 : Int32), q2.2) else T q2.2) = (A.bind fun q => if q.1 = 0 then some ((0 : Int32), q.2) else B q.2).bind fun q2 => if q2.1 = 0 then some ((0 : Int32), q2.2) else T q2.2 := by
  cases A with
  | none => rfl
  | some a =>
    rw [bso, bso]
    by_cases z : a.1 = 0
    · rw [if_pos z, if_pos z, bso, if_pos rfl]
    · rw [if_neg z, if_neg z]
theorem l89 {k : Nat} (hk : k < 11) (σ : ZI) : f_X2_readLine_89 σ (nI (liL.getD k 0)) = lt_ (va_up σ 39 (upd (σ 39) 2 ((σ 39 2) ||| ((1 : Int32) <<< (nI (liL.getD k 0) &&& 31))))) fun σ4 => (cbk k σ4).bind fun q => if q.1 = 0 then some ((0 : Int32), q.2) else (f_X2_takeSign q.2).bind fun q6 => if q6.1 = 0 then some ((0 : Int32), q6.2) else some ((1 : Int32), q6.2) := by
  rcases k11 hk with rfl | rfl | rfl | rfl | rfl | rfl | rfl | rfl | rfl | rfl | rfl
  · unfold f_X2_readLine_89
    rw [ltq, ltq, if_neg (by decide), if_neg (by decide), if_neg (by decide), if_neg (by decide), if_neg (by decide), if_neg (by decide), if_neg (by decide), if_neg (by decide), if_neg (by decide), if_neg (by decide)]
    rfl
  · unfold f_X2_readLine_89
    rw [ltq, ltq, if_pos (by decide)]
    rfl
  · unfold f_X2_readLine_89
    rw [ltq, ltq, if_neg (by decide), if_pos (by decide)]
    rfl
  · unfold f_X2_readLine_89
    rw [ltq, ltq, if_neg (by decide), if_neg (by decide), if_pos (by decide)]
    rfl
  · unfold f_X2_readLine_89
    rw [ltq, ltq, if_neg (by decide), if_neg (by decide), if_neg (by decide), if_pos (by decide)]
    rfl
  · unfold f_X2_readLine_89
    rw [ltq, ltq, if_neg (by decide), if_neg (by decide), if_neg (by decide), if_neg (by decide), if_pos (by decide)]
    rfl
  · unfold f_X2_readLine_89
    rw [ltq, ltq, if_neg (by decide), if_neg (by decide), if_neg (by decide), if_neg (by decide), if_neg (by decide), if_pos (by decide)]
    rfl
  · unfold f_X2_readLine_89
    rw [ltq, ltq, if_neg (by decide), if_neg (by decide), if_neg (by decide), if_neg (by decide), if_neg (by decide), if_neg (by decide), if_pos (by decide)]
    rfl
  · unfold f_X2_readLine_89
    rw [ltq, ltq, if_neg (by decide), if_neg (by decide), if_neg (by decide), if_neg (by decide), if_neg (by decide), if_neg (by decide), if_neg (by decide), if_pos (by decide)]
    exact two_b (f_X2_readRule _ (nI 8)) (fun s => f_X2_readRule s (nI 9)) (fun s => (f_X2_takeSign s).bind fun q6 => if q6.1 = 0 then some ((0 : Int32), q6.2) else some ((1 : Int32), q6.2))
  · unfold f_X2_readLine_89
    rw [ltq, ltq, if_neg (by decide), if_neg (by decide), if_neg (by decide), if_neg (by decide), if_neg (by decide), if_neg (by decide), if_neg (by decide), if_neg (by decide), if_neg (by decide), if_pos (by decide)]
    exact two_b (f_X2_readRule _ (nI 10)) (fun s => f_X2_readRule s (nI 11)) (fun s => (f_X2_takeSign s).bind fun q6 => if q6.1 = 0 then some ((0 : Int32), q6.2) else some ((1 : Int32), q6.2))
  · unfold f_X2_readLine_89
    rw [ltq, ltq, if_neg (by decide), if_neg (by decide), if_neg (by decide), if_neg (by decide), if_neg (by decide), if_neg (by decide), if_neg (by decide), if_neg (by decide), if_neg (by decide), if_neg (by decide)]
    rfl
/-- no token: the class's body ends there -/
theorem cb_0 {n : Nat} {b : Nat → Nat} {p : Nat} {D : NN} {σ : ZI} (hp : p ≤ n) (hk0 : kk_ n b p = 0) (h : CSb n b p D σ) {k : Nat} (hk : k < 11) : ∃ σ', cbk k σ = some (0, σ') ∧ Sg σ σ' ∧ flt 1 (hd n b p) σ' := by
  obtain ⟨s1, x1, x2, x3⟩ := (tt7 h.1 hp h.2.1).1 hk0
  have tn : ∀ lo hi, f_X2_takeNumber σ lo hi = some (-1, s1) := fun lo hi => by
    unfold f_X2_takeNumber
    rw [x1, bso, if_pos rfl]
  have rr : ∀ r : Nat, r < 13 → f_X2_readRule σ (nI r) = some (0, s1) := by
    intro r hr
    have : ∀ lo, ∃ hi, f_X2_readRule_27 (nI r) σ lo = (some hi : Option Int32).bind fun q3 => (f_X2_takeNumber σ lo q3).bind fun q4 => if q4.1 = -1 then some (0, q4.2) else (f_X6_become q4.2 28 (nI r) q4.1).bind fun q5 => some (1, q5) := by
      intro lo
      have a2 : ∃ hi, f_X7_atS 102 (nI r) = some hi := by
        have : r = 0 ∨ r = 1 ∨ r = 2 ∨ r = 3 ∨ r = 4 ∨ r = 5 ∨ r = 6 ∨ r = 7 ∨ r = 8 ∨ r = 9 ∨ r = 10 ∨ r = 11 ∨ r = 12 := by omega
        rcases this with rfl | rfl | rfl | rfl | rfl | rfl | rfl | rfl | rfl | rfl | rfl | rfl | rfl <;> exact ⟨_, rfl⟩
      obtain ⟨hi, e⟩ := a2
      exact ⟨hi, by unfold f_X2_readRule_27; rw [e]⟩
    have fin : ∀ lo, f_X2_readRule_27 (nI r) σ lo = some (0, s1) := by
      intro lo
      obtain ⟨hi, e⟩ := this lo
      rw [e, bso, tn, bso, if_pos rfl]
    unfold f_X2_readRule
    by_cases z : nI r = (9 : Int32)
    · rw [if_pos z, v28_8, bso]; exact fin _
    · rw [if_neg z]
      have a1 : ∃ lo, f_X7_atS 101 (nI r) = some lo := by
        have : r = 0 ∨ r = 1 ∨ r = 2 ∨ r = 3 ∨ r = 4 ∨ r = 5 ∨ r = 6 ∨ r = 7 ∨ r = 8 ∨ r = 9 ∨ r = 10 ∨ r = 11 ∨ r = 12 := by omega
        rcases this with rfl | rfl | rfl | rfl | rfl | rfl | rfl | rfl | rfl | rfl | rfl | rfl | rfl <;> exact ⟨_, rfl⟩
      obtain ⟨lo, e⟩ := a1
      rw [e, bso]; exact fin _
  refine ⟨s1, ?_, Ff_sg x2, x3⟩
  rcases k11 hk with rfl | rfl | rfl | rfl | rfl | rfl | rfl | rfl | rfl | rfl | rfl
  · exact rr 0 (by omega)
  · show f_X2_readArm σ = _
    unfold f_X2_readArm
    rw [x1, bso, if_pos rfl]
  · show f_X2_readMark σ = _
    unfold f_X2_readMark
    rw [tn, bso, if_pos rfl]
  · show f_X2_readTown σ = _
    unfold f_X2_readTown
    rw [tn, bso, if_pos rfl]
  · show f_X2_readSignal σ = _
    unfold f_X2_readSignal
    rw [tn, bso, if_pos rfl]
  · exact rr 5 (by omega)
  · exact rr 6 (by omega)
  · exact rr 7 (by omega)
  · show ((f_X2_readRule σ (nI 8)).bind fun q => if q.1 = 0 then some ((0 : Int32), q.2) else f_X2_readRule q.2 (nI 9)) = _
    rw [rr 8 (by omega), bso, if_pos rfl]
  · show ((f_X2_readRule σ (nI 10)).bind fun q => if q.1 = 0 then some ((0 : Int32), q.2) else f_X2_readRule q.2 (nI 11)) = _
    rw [rr 10 (by omega), bso, if_pos rfl]
  · exact rr 12 (by omega)
theorem bo_all {n : Nat} {b : Nat → Nat} {p : Nat} {D : NN} {AT MT HJ : Nat} (hp : p ≤ n) (hk0 : kk_ n b p ≠ 0) (tD : TD D) (lk : LK D AT MT HJ) {k : Nat} (hk : k < 11) (h1 : k = 1 → D 0 1 < 3) (h2 : k = 2 → D 0 2 < 3) (h3 : k = 3 → D 0 3 < 5) (h5 : k = 5 → D 0 5 = 0) : BO k n b p D AT MT HJ (cbk k) (rbk k) := by
  rcases k11 hk with rfl | rfl | rfl | rfl | rfl | rfl | rfl | rfl | rfl | rfl | rfl
  · exact (bo_n hp tD lk).1
  · exact bo_a hp hk0 tD lk (h1 rfl)
  · exact bo_k hp tD lk (h2 rfl)
  · exact bo_w hp tD lk (h3 rfl)
  · exact bo_4 hp tD lk
  · exact (bo_m (kq := 5) hp tD lk).1 (h5 rfl)
  · exact (bo_n hp tD lk).2.1
  · exact (bo_n hp tD lk).2.2.1
  · exact (bo_m hp tD lk).2.1
  · exact (bo_m hp tD lk).2.2
  · exact (bo_n hp tD lk).2.2.2
