/-! a line of a mark *-/
theorem nd_b {D : NN} {M r c S v : Nat} (hS : ∀ j, j < 10 → (S.testBit j = true ↔ ∃ i, i < D 0 c ∧ D r i = j + 1)) (hM : M = D 0 c) (h1 : 1 ≤ v) (hv : v ≤ 10) : (S.testBit (v - 1) = true → fi (fun m => D r m == v) M < M) ∧ (S.testBit (v - 1) = false → ¬ fi (fun m => D r m == v) M < M ∧ ∀ i, i < M → D r i ≠ v) := by
  have h := hS (v - 1) (by omega)
  rw [show v - 1 + 1 = v by omega, ← hM] at h
  refine ⟨fun z => ?_, fun z => ⟨fun w => ?_, fun i hi w => ?_⟩⟩
  · obtain ⟨i, i1, i2⟩ := h.1 z
    have l := fi_le (fun m => D r m == v) M
    by_cases w : fi (fun m => D r m == v) M < M
    · exact w
    · have := fi_no (p := fun m => D r m == v) (n := M) (k := i) (by omega)
      rw [i2] at this
      simp at this
  · have := fi_yes w
    have q := h.2 ⟨_, w, by simpa using this⟩
    rw [z] at q; exact absurd q (by decide)
  · have q := h.2 ⟨i, hi, w⟩
    rw [z] at q; exact absurd q (by decide)
theorem TD_M {D : NN} {j v : Nat} (h : TD D) (h3 : D 0 2 < 3) (h1 : 1 ≤ j) (hj : j ≤ 10) (hv : v ≤ 10) (hn : ∀ i, i < D 0 2 → D 4 i ≠ j) : TD (DM D j v) := by
  obtain ⟨k1, k2, k3, k4, k5, k6⟩ := h
  refine ⟨?_, k2, k3, fun i hi => ?_, fun i k hi hk => ?_, k6⟩
  · have e : DM D j v 0 2 = D 0 2 + 1 := rfl
    have e0 : DM D j v 0 0 = D 0 0 ∧ DM D j v 0 1 = D 0 1 ∧ DM D j v 0 3 = D 0 3 ∧ DM D j v 0 4 = D 0 4 ∧ DM D j v 0 5 = D 0 5 ∧ DM D j v 0 6 = D 0 6 ∧ DM D j v 0 7 = D 0 7 ∧ DM D j v 0 8 = D 0 8 ∧ DM D j v 0 9 = D 0 9 ∧ DM D j v 0 10 = D 0 10 ∧ DM D j v 0 11 = D 0 11 ∧ DM D j v 0 12 = D 0 12 := ⟨rfl, rfl, rfl, rfl, rfl, rfl, rfl, rfl, rfl, rfl, rfl, rfl⟩
    omega
  · have hi' : i < D 0 2 + 1 := hi
    rw [(DM_v D j v i).2.2.2.2.1, (DM_v D j v i).2.2.2.2.2.1]
    by_cases z : i = D 0 2
    · rw [if_pos z, if_pos z]; exact ⟨h1, hj, hv⟩
    · rw [if_neg z, if_neg z]; exact k4 i (by omega)
  · have hi' : i < D 0 2 + 1 := hi
    have hk' : k < D 0 2 + 1 := hk
    rw [(DM_v D j v i).2.2.2.2.1, (DM_v D j v k).2.2.2.2.1]
    by_cases z : i = D 0 2
    · by_cases w : k = D 0 2
      · intro _; omega
      · rw [if_pos z, if_neg w]; exact fun q => absurd q.symm (hn k (by omega))
    · by_cases w : k = D 0 2
      · rw [if_neg z, if_pos w]; exact fun q => absurd q (hn i (by omega))
      · rw [if_neg z, if_neg w]; exact k5 i k (by omega) (by omega)
theorem LK_M {D : NN} {AT MT HJ j v : Nat} (h1 : 1 ≤ j) (hj : j ≤ 10) (h : LK D AT MT HJ) : LK (DM D j v) AT (MT ||| 2 ^ (j - 1)) (max HJ j) := by
  obtain ⟨h1', h2, h3, h4, h5, h6⟩ := h
  refine ⟨h1', or_lt h2 h1 hj, by omega, h4, fun k hk => ?_, fun J => ?_⟩
  · rw [or_b h1, h5 k hk]
    constructor
    · rintro (⟨i, i1, i2⟩ | w)
      · exact ⟨i, (by omega : i < D 0 2 + 1), by rw [(DM_v D j v i).2.2.2.2.1, if_neg (by omega)]; exact i2⟩
      · exact ⟨D 0 2, (by omega : D 0 2 < D 0 2 + 1), by rw [(DM_v D j v _).2.2.2.2.1, if_pos rfl]; exact w.symm⟩
    · rintro ⟨i, i1, i2⟩
      have i1' : i < D 0 2 + 1 := i1
      rw [(DM_v D j v i).2.2.2.2.1] at i2
      by_cases z : i = D 0 2
      · rw [if_pos z] at i2; exact .inr i2.symm
      · rw [if_neg z] at i2; exact .inl ⟨i, by omega, i2⟩
  · have := h6 J
    constructor
    · intro q
      obtain ⟨a1, a2, a3, a4⟩ := this.1 (by omega)
      refine ⟨a1, a2, fun i hi => ?_, a4⟩
      have hi' : i < D 0 2 + 1 := hi
      rw [(DM_v D j v i).2.2.2.2.1]
      by_cases z : i = D 0 2
      · rw [if_pos z]; omega
      · rw [if_neg z]; exact a3 i (by omega)
    · rintro ⟨a1, a2, a3, a4⟩
      have l1 := this.2 ⟨a1, a2, fun i hi => by
        have := a3 i (by omega : i < D 0 2 + 1)
        rw [(DM_v D j v i).2.2.2.2.1, if_neg (by omega)] at this
        exact this, a4⟩
      have l2 := a3 (D 0 2) (by omega : D 0 2 < D 0 2 + 1)
      rw [(DM_v D j v _).2.2.2.2.1, if_pos rfl] at l2
      omega
theorem TV_M {D : NN} {j v : Nat} {σ : ZI} (q : TV 28 D σ) (x1 : σ 33 (D 0 2) = nI j) (x2 : σ 34 (D 0 2) = nI v) : TV 28 (DM D j v) (va_up σ 29 (upd (σ 29) 2 (nI (D 0 2 + 1)))) := by
  obtain ⟨q1, q2, q3, q4⟩ := q
  have gA : ∀ C P, (C ≠ 29 ∨ P ≠ 2) → va_up σ 29 (upd (σ 29) 2 (nI (D 0 2 + 1))) C P = σ C P := fun C P z => up_ne σ z
  refine ⟨fun i hi => ?_, fun i hi => ?_, fun i hi => ?_, fun i hi => ?_⟩
  · rw [(DM_v D j v i).1]
    by_cases z : i = 2
    · subst z; rw [if_pos rfl]; exact up_same _ _ _ _
    · rw [if_neg z]; exact (gA _ _ (.inr z)).trans (q1 i hi)
  · have := q2 i hi
    exact ⟨(gA _ _ (.inl (by decide))).trans this.1, (gA _ _ (.inl (by decide))).trans this.2.1, (gA _ _ (.inl (by decide))).trans this.2.2⟩
  · have hi' : i < D 0 2 + 1 := hi
    rw [(DM_v D j v i).2.2.2.2.1, (DM_v D j v i).2.2.2.2.2.1, gA _ _ (.inl (by decide)), gA _ _ (.inl (by decide))]
    by_cases z : i = D 0 2
    · rw [if_pos z, if_pos z, z]; exact ⟨x1, x2⟩
    · rw [if_neg z, if_neg z]; exact q3 i (by omega)
  · have := q4 i hi
    exact ⟨(gA _ _ (.inl (by decide))).trans this.1, (gA _ _ (.inl (by decide))).trans this.2⟩
def mkR (s : ZI) (w : Int32) : Option ZI := if inB (s 60 16) 3 = true then lt_ (va_up s 68 (upd (s 68) (s 60 16).toNatClampNeg w)) (fun σ10 => (f_X8_number σ10 0 10).bind fun q11 => if inB (3 + σ10 60 16) 18 = true then lt_ (va_up q11.2 66 (upd (q11.2 66) (3 + σ10 60 16).toNatClampNeg q11.1)) (fun σ12 => lt_ (va_up σ12 60 (upd (σ12 60) 16 ((σ12 60 16) + 1))) some) else none) else none
theorem mkR_e {s : ZI} {M : Nat} (hM : M < 3) (e : s 60 16 = nI M) (w : Int32) : mkR s w = (f_X8_number (va_up s 68 (upd (s 68) M w)) 0 10).bind fun q5 => lt_ (va_up q5.2 66 (upd (q5.2 66) (3 + M) q5.1)) (fun σ6 => lt_ (va_up σ6 60 (upd (σ6 60) 16 ((σ6 60 16) + 1))) some) := by
  unfold mkR
  have e2 : va_up s 68 (upd (s 68) M w) 60 16 = nI M := (up_ne s (.inl (by decide))).trans e
  rw [e, inB_n (by omega) (by omega), if_pos rfl, nI_clamp (by omega), ltq, e2, show (3 : Int32) + nI M = nI (3 + M) from nI_add 3 M, inB_n (by omega) (by omega), nI_clamp (by omega)]
  simp only [if_true]
theorem mkR_b {s : ZI} {M f q : Nat} (hf : 1 ≤ f) (hf2 : f < 10) (hM : M < 3) (e : s 60 16 = nI M) (h : BR f q s) (w : Int32) : ∃ σ', mkR s w = some σ' ∧ Sg s σ' ∧ BR f q σ' := by
  rw [mkR_e hM e, num8_b hf hf2 (BR_up (.inl (by decide)) h), bso, ltq, ltq]
  exact ⟨_, rfl, up_sg (up_sg (up_sg (Dw_refl 0 s) (own_6 _ (by decide) (by decide))) (own_6 _ (by decide) (by decide))) rfl, BR_up (.inr (by decide)) (BR_up (.inl (by decide)) (BR_up (.inl (by decide)) h))⟩
theorem mkR_n {n : Nat} {b : Nat → Nat} {p j : Nat} {D : NN} {AT MT HJ : Nat} {s : ZI} (h : RSb n b D AT MT HJ s) (hp : p ≤ n) (y : RY n b p s) (tD : TD D) (h3 : D 0 2 < 3) : (nf n b p 0 10 ≠ 0 → ∃ σ', mkR s (nI j) = some σ' ∧ Sg s σ' ∧ BR (nf n b p 0 10) (hd n b p) σ') ∧ (nf n b p 0 10 = 0 → ∃ σ', mkR s (nI j) = some σ' ∧ Sg s σ' ∧ RSb n b (DM D j (VV n b p)) AT MT HJ σ' ∧ RY n b (en n b p) σ' ∧ σ' 60 18 = s 60 18) := by
  have tb := TD_TB tD
  have tb3 := tb.1
  have tb4 := tb.2.2
  have e : s 60 16 = nI (D 0 2) := h.2.2.2.1.2.2.1
  have r1 : RSb n b D AT MT HJ (va_up s 68 (upd (s 68) (D 0 2) (nI j))) := RSb_out (.inr (.inr (.inr (.inr (.inl ⟨rfl, Nat.le_refl _⟩))))) tb h
  have y1 : RY n b p (va_up s 68 (upd (s 68) (D 0 2) (nI j))) := RY_up (.inl (by decide)) y
  have s0 : Sg s (va_up s 68 (upd (s 68) (D 0 2) (nI j))) := up_sg (Dw_refl 0 s) (own_6 _ (by decide) (by decide))
  obtain ⟨t1, t2⟩ := num8 (lo := 0) (hi := 10) r1.1 hp y1 (by omega) (by omega)
  refine ⟨fun z => ?_, fun z => ?_⟩
  · obtain ⟨s1, x1, x2, x3⟩ := t1 z
    rw [mkR_e h3 e, show f_X8_number _ 0 10 = _ from x1, bso, ltq, ltq]
    exact ⟨_, rfl, Dw_tr s0 (up_sg (up_sg (FrJ_sg (Fr8_J x2)) (own_6 _ (by decide) (by decide))) rfl), BR_up (.inr (by decide)) (BR_up (.inl (by decide)) x3)⟩
  · obtain ⟨s1, x1, x2, x3⟩ := t2 z
    have r2 := RSb_fr x2 r1
    have r3 : RSb n b D AT MT HJ (va_up s1 66 (upd (s1 66) (3 + D 0 2) (nI (VV n b p)))) := RSb_out (.inr (.inl ⟨rfl, Nat.le_refl _, by omega⟩)) tb r2
    have e2 : va_up s1 66 (upd (s1 66) (3 + D 0 2) (nI (VV n b p))) 60 16 = nI (D 0 2) := r3.2.2.2.1.2.2.1
    rw [mkR_e h3 e, show f_X8_number _ 0 10 = _ from x1, bso, ltq, ltq, e2, nI_1]
    refine ⟨_, rfl, Dw_tr s0 (up_sg (up_sg (FrJ_sg (Fr8_J x2)) (own_6 _ (by decide) (by decide))) rfl), RSb_M1 tb r3 ?_ (up_same _ _ _ _), RY_up (.inr (by decide)) (RY_up (.inl (by decide)) x3), ?_⟩
    · exact (up_ne s1 (.inl (by decide))).trans ((x2 _ _ (by omega)).trans (up_same _ _ _ _))
    · exact (up_ne _ (.inr (by decide))).trans ((up_ne _ (.inl (by decide))).trans ((x2 _ _ (by omega)).trans (up_ne _ (.inl (by decide)))))
theorem bo_k {kq n : Nat} {b : Nat → Nat} {p : Nat} {D : NN} {AT MT HJ : Nat} (hp : p ≤ n) (tD : TD D) (lk : LK D AT MT HJ) (h3 : D 0 2 < 3) : BO kq n b p D AT MT HJ (fun σ => f_X2_readMark σ) (fun σ => f_X8_readMore σ 8) := by
  have he := en_ge n b hp
  have hh := hd_ge n b hp
  have tb := TD_TB tD
  have hrb : ∀ σ : ZI, f_X8_readMore σ 8 = (f_X8_jointHere σ (σ 60 20)).bind fun q => lt_ (va_up q.2 60 (upd (q.2 60) 20 ((q.2 60 20) ||| ((1 : Int32) <<< ((q.1 - 1) &&& 31))))) fun σ9 => mkR σ9 q.1 := fun σ => by
    unfold f_X8_readMore mkR
    rw [if_neg (by decide), if_pos rfl]
  have brk : ∀ σ f q, 1 ≤ f → f < 10 → RSb n b D AT MT HJ σ → (∃ v s1, f_X8_jointHere σ (nI MT) = some (nI v, s1) ∧ 1 ≤ v ∧ v ≤ 10 ∧ FrJ σ s1 ∧ BR f q s1) → ∃ σ', f_X8_readMore σ 8 = some σ' ∧ Sg σ σ' ∧ BR f q σ' := by
    rintro σ f q hf hf2 h ⟨v, s1, x1, x2, x3, x4, x5⟩
    have e16 : σ 60 16 = nI (D 0 2) := h.2.2.2.1.2.2.1
    have e20 : σ 60 20 = nI MT := h.2.2.2.2.2.2.1
    obtain ⟨s2, y1, y2, y3⟩ := mkR_b (s := va_up s1 60 (upd (s1 60) 20 ((s1 60 20) ||| ((1 : Int32) <<< ((nI v - 1) &&& 31))))) hf hf2 h3 ((up_ne s1 (.inr (by decide))).trans ((x4 60 16 (by omega)).trans e16)) (BR_up (.inr (by decide)) x5) (nI v)
    exact ⟨s2, by rw [hrb, e20, x1, bso, ltq]; exact y1, Dw_tr (up_sg (FrJ_sg x4) rfl) y2, y3⟩
  have cl : ∀ σ, CSb n b p D σ → nf n b p 1 10 = 0 → ∃ s1, f_X2_readMark σ = ((f_X6_markAt s1 28 (nI (VV n b p))).bind (fun q2 => if q2 = (-4 : Int32) then ((f_X2_takeNumber s1 (0 : Int32) (10 : Int32)).bind (fun q3 => if q3.1 = (-1 : Int32) then (some ((0 : Int32), q3.2)) else ((f_X6_value q3.2 28 (2 : Int32)).bind (fun q4 => (f_X7_put q3.2 33 q4 (nI (VV n b p))).bind (fun q5 => (f_X7_put q5 34 q4 q3.1).bind (fun q6 => (f_X6_become q6 28 (2 : Int32) (q4 + (1 : Int32))).bind (fun q7 => some ((1 : Int32), q7)))))))) else ((f_X2_refuse s1 (4 : Int32)).bind (fun q8 => if q8.1 = 0 ∨ q8.1 = 1 then some (q8.1, q8.2) else none)))) ∧ F7 σ s1 ∧ At7 n b p s1 ∧ CSb n b (en n b p) D s1 ∧ f_X6_markAt s1 28 (nI (VV n b p)) = some (if fi (fun m => D 4 m == VV n b p) (D 0 2) < D 0 2 then nI (fi (fun m => D 4 m == VV n b p) (D 0 2)) else -4) := by
    intro σ h z
    have nz := nf_0 z
    obtain ⟨s1, x1, x2, x3⟩ := (tn7 (lo := 1) (hi := 10) h.1 hp h.2.1 (by omega) (by omega)).2 z
    have c1 := CSb_F7 x2 x3.2.1 h
    refine ⟨s1, ?_, x2, x3, c1, mk_n rfl rfl rfl (by omega) (by omega) (c1.2.2.2.1 2 (by omega)) (fun m hm => ⟨by have := tD.2.2.2.1 m hm; omega, (c1.2.2.2.2.2.1 m hm).1⟩)⟩
    unfold f_X2_readMark
    rw [show f_X2_takeNumber σ 1 10 = _ from x1, bso, if_neg (nm1 (by omega))]
  rcases jc7 (n := n) (b := b) (p := p) (s := MT) with ⟨z, z2, z3⟩ | ⟨z, z2, z3, z4⟩ | ⟨z, z2, z3⟩
  · have f1 := nf_le n b p 1 10
    refine .inl ⟨nf n b p 1 10, hd n b p, by omega, by omega, hh.2, fun σ h => ?_, fun σ h y => ?_⟩
    · obtain ⟨s1, x1, x2, x3⟩ := (tn7 (lo := 1) (hi := 10) h.1 hp h.2.1 (by omega) (by omega)).1 z2
      refine ⟨s1, ?_, Ff_sg x2, x3⟩
      dsimp only
      unfold f_X2_readMark
      rw [show f_X2_takeNumber σ 1 10 = _ from x1, bso, if_pos rfl]
    · have := (jh8 h.1 hp y (s := MT) lk.2.1 lk.2.2.1 h.2.2.2.2.2.2.2).1 z
      rw [z3] at this
      exact brk σ _ _ (by omega) (by omega) h this
  · have nz := nf_0 z2
    have nd := (nd_b lk.2.2.2.2.1 (rfl : D 0 2 = D 0 2) nz.2.1 nz.2.2).1 z3
    refine .inl ⟨4, hd n b p, by omega, by omega, hh.2, fun σ h => ?_, fun σ h y => ?_⟩
    · obtain ⟨s1, x1, x2, x3, x4, x5⟩ := cl σ h z2
      obtain ⟨s2, y1, y2, y3⟩ := ref7 s1 4 x3.2.2.2
      refine ⟨s2, ?_, Dw_tr (Ff_sg (F7_Ff x2)) (Ff_sg y2), y3⟩
      dsimp only
      rw [x1, x5, if_pos nd, bso, if_neg (nm4 (by omega)), show f_X2_refuse s1 4 = _ from y1, bso, if_pos (.inl rfl)]
    · have := (jh8 h.1 hp y (s := MT) lk.2.1 lk.2.2.1 h.2.2.2.2.2.2.2).1 z
      rw [z4] at this
      exact brk σ _ _ (by omega) (by omega) h this
  · have nz := nf_0 z2
    have nd := (nd_b lk.2.2.2.2.1 (rfl : D 0 2 = D 0 2) nz.2.1 nz.2.2).2 z3
    have hh2 := hd_ge n b he.2.1
    have he2 := en_ge n b he.2.1
    have mt := lk.2.1
    have cl2 : ∀ σ, CSb n b p D σ → ∃ s1, f_X2_readMark σ = ((f_X2_takeNumber s1 (0 : Int32) (10 : Int32)).bind (fun q3 => if q3.1 = (-1 : Int32) then (some ((0 : Int32), q3.2)) else ((f_X6_value q3.2 28 (2 : Int32)).bind (fun q4 => (f_X7_put q3.2 33 q4 (nI (VV n b p))).bind (fun q5 => (f_X7_put q5 34 q4 q3.1).bind (fun q6 => (f_X6_become q6 28 (2 : Int32) (q4 + (1 : Int32))).bind (fun q7 => some ((1 : Int32), q7)))))))) ∧ F7 σ s1 ∧ CSb n b (en n b p) D s1 := by
      intro σ h
      obtain ⟨s1, x1, x2, x3, x4, x5⟩ := cl σ h z2
      exact ⟨s1, by rw [x1, x5, if_neg nd.1, bso, if_pos rfl], x2, x4⟩
    have rl : ∀ σ, RSb n b D AT MT HJ σ → RY n b p σ → ∃ s1, f_X8_readMore σ 8 = mkR s1 (nI (VV n b p)) ∧ Sg σ s1 ∧ RSb n b D AT (MT ||| 2 ^ (VV n b p - 1)) (max HJ (VV n b p)) s1 ∧ RY n b (en n b p) s1 ∧ s1 60 18 = σ 60 18 := by
      intro σ h y
      obtain ⟨s1, x1, x2, x3, x4⟩ := (jh8 h.1 hp y (s := MT) lk.2.1 lk.2.2.1 h.2.2.2.2.2.2.2).2 z
      have e20 : σ 60 20 = nI MT := h.2.2.2.2.2.2.1
      have e20' : s1 60 20 = nI MT := (x2 60 20 (by omega)).trans e20
      have r2 := RSb_J x2 x3 h
      refine ⟨_, by rw [hrb, e20, x1, bso, ltq]; dsimp only; rw [e20', bit_n nz.2.1 nz.2.2, or_n (by omega) (by omega)], up_sg (FrJ_sg x2) rfl, RSb_MT r2, RY_up (.inr (by decide)) x4, (up_ne _ (.inr (by decide))).trans (x2 60 18 (by omega))⟩
    by_cases w2 : nf n b (en n b p) 0 10 = 0
    · have nz2 := nf_0 w2
      refine .inr ⟨DM D (VV n b p) (VV n b (en n b p)), en n b (en n b p), AT, MT ||| 2 ^ (VV n b p - 1), max HJ (VV n b p), by omega, he2.2.1, TD_M tD h3 nz.2.1 nz.2.2 nz2.2.2 nd.2, LK_M nz.2.1 nz.2.2 lk, fun _ => rfl, fun σ h => ?_, fun σ h y => ?_⟩
      · obtain ⟨s1, x1, x2, x3⟩ := cl2 σ h
        obtain ⟨s2, y1, y2, y3⟩ := (tn7 (lo := 0) (hi := 10) x3.1 he.2.1 x3.2.1 (by omega) (by omega)).2 w2
        have c2 := CSb_F7 y2 y3.2.1 x3
        have c3 : CSb n b (en n b (en n b p)) D (va_up s2 33 (upd (s2 33) (D 0 2) (nI (VV n b p)))) := CSb_out (.inr (.inl ⟨by omega, by omega, Nat.le_refl _⟩)) c2
        have c4 := CSb_out (c := 34) (i := D 0 2) (v := nI (VV n b (en n b p))) (.inr (.inl ⟨by omega, by omega, Nat.le_refl _⟩)) c3
        have e3 : s2 29 2 = nI (D 0 2) := c2.2.2.2.1 2 (by omega)
        have c5 := CSb_29 c4 (TV_M (j := VV n b p) (v := VV n b (en n b p)) c4.2.2.2 ((up_ne _ (.inl (by decide))).trans (up_same _ _ _ _)) (up_same _ _ _ _))
        refine ⟨_, ?_, ?_, c5, ?_⟩
        · dsimp only
          rw [x1, show f_X2_takeNumber s1 0 10 = _ from y1, bso, if_neg (nm1 (by omega))]
          dsimp only
          rw [v28_2, bso, e3, put_n (N := 3) rfl h3 (by omega), bso, put_n (N := 3) rfl h3 (by omega), bso, nI_1, show f_X6_become _ 28 2 _ = _ from bec_n (b := 28) (k := 2) rfl rfl (by omega), bso]
        · exact up_sg (up_sg (up_sg (Dw_tr (Ff_sg (F7_Ff x2)) (Ff_sg (F7_Ff y2))) (own_d _ (by omega) (by omega))) (own_d _ (by omega) (by omega))) (own_d _ (by omega) (by omega))
        · exact (up_ne _ (.inl (by decide))).trans ((up_ne _ (.inl (by decide))).trans ((up_ne _ (.inl (by decide))).trans ((y2 39 2 (by omega)).trans (x2 39 2 (by omega)))))
      · obtain ⟨s1, x1, x2, x3, x4, x5⟩ := rl σ h y
        obtain ⟨s2, y1, y2, y3, y4, y5⟩ := (mkR_n (j := VV n b p) x3 he.2.1 x4 tD h3).2 w2
        exact ⟨s2, x1.trans y1, Dw_tr x2 y2, y3, y4, y5.trans x5⟩
    · have := nf_le n b (en n b p) 0 10
      refine .inl ⟨nf n b (en n b p) 0 10, hd n b (en n b p), by omega, by omega, hh2.2, fun σ h => ?_, fun σ h y => ?_⟩
      · obtain ⟨s1, x1, x2, x3⟩ := cl2 σ h
        obtain ⟨s2, y1, y2, y3⟩ := (tn7 (lo := 0) (hi := 10) x3.1 he.2.1 x3.2.1 (by omega) (by omega)).1 w2
        refine ⟨s2, ?_, Dw_tr (Ff_sg (F7_Ff x2)) (Ff_sg y2), y3⟩
        dsimp only
        rw [x1, show f_X2_takeNumber s1 0 10 = _ from y1, bso, if_pos rfl]
      · obtain ⟨s1, x1, x2, x3, x4, x5⟩ := rl σ h y
        obtain ⟨s2, y1, y2, y3⟩ := (mkR_n (j := VV n b p) x3 he.2.1 x4 tD h3).1 w2
        exact ⟨s2, x1.trans y1, Dw_tr x2 y2, y3⟩
