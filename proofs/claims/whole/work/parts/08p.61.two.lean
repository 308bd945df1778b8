/-! lines of two numbers, and the bridge *-/
/-- a line of two numbers -/
theorem bo_2 {kq n : Nat} {b : Nat → Nat} {p : Nat} {D : NN} {AT MT HJ : Nat} (hp : p ≤ n) (tD : TD D) (lk : LK D AT MT HJ) {r c pl e lo hi r2 c2 pl2 e2 hi2 : Nat} {lo2 : Nat → Nat} (hr : rt r c pl e) (hr2 : rt r2 c2 pl2 e2) (h4 : r ≠ 9 ∧ r ≠ 4 ∧ r ≠ 5) (h42 : r2 ≠ 4 ∧ r2 ≠ 5) (h9 : r2 = 9 → r = 8 ∧ ∀ v, lo2 v = v + 1) (hlo : lo ≤ 99) (hhi : hi ≤ 98) (hhi2 : hi2 ≤ 99) (hlo2 : ∀ v, v ≤ hi → lo2 v ≤ 99) (a1 : f_X7_atS 101 (nI r) = some (nI lo)) (a2 : f_X7_atS 102 (nI r) = some (nI hi)) (b1 : ∀ v, r2 ≠ 9 → f_X7_atS 101 (nI r2) = some (nI (lo2 v))) (b2 : f_X7_atS 102 (nI r2) = some (nI hi2)) (hv : ∀ v w, lo ≤ v → v ≤ hi → lo2 v ≤ w → w ≤ hi2 → TD (tset (tset D 0 r v) 0 r2 w)) {L : ZI → Int32} (hL : ∀ σ v, RSb n b (tset D 0 r v) AT MT HJ σ → L σ = nI (lo2 v)) {rb : ZI → Option ZI} (hrb : ∀ σ, rb σ = (f_X8_number σ (nI lo) (nI hi)).bind fun q => lt_ (va_up q.2 c (upd (q.2 c) pl (q.1 - nI e))) fun s => (f_X8_number s (L s) (nI hi2)).bind fun q => lt_ (va_up q.2 c2 (upd (q.2 c2) pl2 (q.1 - nI e2))) some) : BO kq n b p D AT MT HJ (fun σ => (f_X2_readRule σ (nI r)).bind fun q => if q.1 = 0 then some ((0 : Int32), q.2) else f_X2_readRule q.2 (nI r2)) rb := by
  have hq := rt_r hr
  have hq2 := rt_r hr2
  have he := en_ge n b hp
  have hh := hd_ge n b hp
  have cp : c2 ≠ 60 ∨ pl2 < 25 := by have := rt_c hr2; omega
  have tb := TD_TB tD
  by_cases z : nf n b p lo hi = 0
  · have nz := nf_0 z
    have he2 := en_ge n b he.2.1
    have hh2 := hd_ge n b he.2.1
    have hl := hlo2 _ nz.2.2
    have tb2 : TB (tset D 0 r (VV n b p)) := ⟨by rw [tset_ne D (.inr (Ne.symm hq.2.1))]; exact tb.1, by rw [tset_ne D (.inr (Ne.symm hq.2.2.1))]; exact tb.2.1, by rw [tset_ne D (.inr (Ne.symm hq.2.2.2))]; exact tb.2.2⟩
    have e9 : r2 = 9 → lo2 (VV n b p) = tset D 0 r (VV n b p) 0 8 + 1 := fun w => by rw [(h9 w).2, (h9 w).1, tset_same]
    by_cases z2 : nf n b (en n b p) (lo2 (VV n b p)) hi2 = 0
    · have nz2 := nf_0 z2
      refine .inr ⟨tset (tset D 0 r (VV n b p)) 0 r2 (VV n b (en n b p)), en n b (en n b p), AT, MT, HJ, by omega, he2.2.1, hv _ _ nz.2.1 nz.2.2 nz2.2.1 nz2.2.2, LK_rule (by omega) (LK_rule (by omega) lk), fun _ => (tset_ne _ (.inr (by omega))).trans (tset_ne D (.inr (by omega))), fun σ h => ?_, fun σ h y => ?_⟩
      · obtain ⟨s1, x1, x2, x3, x4⟩ := (rl7 h hp hq.1 hq.2 hlo (by omega) (fun _ => a1) (fun w => absurd w h4.1) a2).2 z
        obtain ⟨s2, y1, y2, y3, y4⟩ := (rl7 x3 he.2.1 hq2.1 hq2.2 hl hhi2 (b1 _) e9 b2).2 z2
        exact ⟨s2, by dsimp only; rw [x1, bso]; dsimp only; rw [if_neg (by decide), y1], Dw_tr x2 y2, y3, y4.trans x4⟩
      · obtain ⟨s1, x1, x2, x3, x4, x5⟩ := (rr8 h hp y tb hr hlo (by omega) (fun s => (f_X8_number s (L s) (nI hi2)).bind fun q => lt_ (va_up q.2 c2 (upd (q.2 c2) pl2 (q.1 - nI e2))) some)).2 z
        obtain ⟨s2, y1, y2, y3, y4, y5⟩ := (rr8 x3 he.2.1 x4 tb2 hr2 hl hhi2 some).2 z2
        exact ⟨s2, by rw [hrb, x1, hL _ _ x3]; exact y1, Dw_tr x2 y2, y3, y4, y5.trans x5⟩
    · refine .inl ⟨nf n b (en n b p) (lo2 (VV n b p)) hi2, hd n b (en n b p), by omega, by have := nf_le n b (en n b p) (lo2 (VV n b p)) hi2; omega, hh2.2, fun σ h => ?_, fun σ h y => ?_⟩
      · obtain ⟨s1, x1, x2, x3, x4⟩ := (rl7 h hp hq.1 hq.2 hlo (by omega) (fun _ => a1) (fun w => absurd w h4.1) a2).2 z
        obtain ⟨s2, y1, y2, y3⟩ := (rl7 x3 he.2.1 hq2.1 hq2.2 hl hhi2 (b1 _) e9 b2).1 z2
        exact ⟨s2, by dsimp only; rw [x1, bso]; dsimp only; rw [if_neg (by decide), y1], Dw_tr x2 y2, y3⟩
      · obtain ⟨s1, x1, x2, x3, x4, x5⟩ := (rr8 h hp y tb hr hlo (by omega) (fun s => (f_X8_number s (L s) (nI hi2)).bind fun q => lt_ (va_up q.2 c2 (upd (q.2 c2) pl2 (q.1 - nI e2))) some)).2 z
        obtain ⟨s2, y1, y2, y3⟩ := (rr8 x3 he.2.1 x4 tb2 hr2 hl hhi2 some).1 z2
        exact ⟨s2, by rw [hrb, x1, hL _ _ x3]; exact y1, Dw_tr x2 y2, y3⟩
  · have f1 : nf n b p lo hi < 10 := by have := nf_le n b p lo hi; omega
    refine .inl ⟨nf n b p lo hi, hd n b p, by omega, f1, hh.2, fun σ h => ?_, fun σ h y => ?_⟩
    · obtain ⟨s1, x1, x2, x3⟩ := (rl7 h hp hq.1 hq.2 hlo (by omega) (fun _ => a1) (fun w => absurd w h4.1) a2).1 z
      exact ⟨s1, by dsimp only; rw [x1, bso, if_pos rfl], x2, x3⟩
    · obtain ⟨s1, x1, x2, x3⟩ := (rr8 h hp y tb hr hlo (by omega) (fun s => (f_X8_number s (L s) (nI hi2)).bind fun q => lt_ (va_up q.2 c2 (upd (q.2 c2) pl2 (q.1 - nI e2))) some)).1 z
      exact ⟨_, by rw [hrb, x1, num8_b (by omega) f1 x3, bso, ltq], up_sg x2 (rt_own hr2), BR_up cp x3⟩
theorem jc_0 (n : Nat) (b : Nat → Nat) (p : Nat) : jc n b p 0 = nf n b p 1 10 := by
  unfold jc
  by_cases h : nf n b p 1 10 = 0
  · rw [if_neg (by omega), if_neg (by simp), h]
  · rw [if_pos h]
theorem LK_5 {D : NN} {AT MT HJ v : Nat} (hv : v ≤ 10) (h0 : D 0 5 = 0) (h : LK D AT MT HJ) : LK (tset D 0 5 v) AT MT (max HJ v) := by
  have e1 : tset D 0 5 v 0 1 = D 0 1 := tset_ne D (.inr (by omega))
  have e2 : tset D 0 5 v 0 2 = D 0 2 := tset_ne D (.inr (by omega))
  have e4 : tset D 0 5 v 0 4 = D 0 4 := tset_ne D (.inr (by omega))
  have e5 : tset D 0 5 v 0 5 = v := tset_same D 0 5 v
  obtain ⟨h1, h2, h3, h4, h5, h6⟩ := h
  refine ⟨h1, h2, by omega, by rw [e1]; exact h4, by rw [e2]; exact h5, fun J => ?_⟩
  rw [e1, e2, e4, e5]
  have := h6 J
  rw [h0] at this
  constructor
  · intro q
    exact ⟨by omega, (this.1 (by omega)).2⟩
  · intro q
    have := this.2 ⟨by omega, q.2⟩
    have := q.1
    omega
theorem bo_5 {n : Nat} {b : Nat → Nat} {p : Nat} {D : NN} {AT MT HJ : Nat} (hp : p ≤ n) (tD : TD D) (lk : LK D AT MT HJ) (h0 : D 0 5 = 0) {rb : ZI → Option ZI} (hrb : ∀ σ, rb σ = (f_X8_jointHere σ (nI 0)).bind fun q => lt_ (va_up q.2 66 (upd (q.2 66) 12 q.1)) some) : BO 5 n b p D AT MT HJ (fun σ => f_X2_readRule σ (nI 5)) rb := by
  have he := en_ge n b hp
  have hh := hd_ge n b hp
  have r5 : rt 5 66 12 0 := by unfold rt; decide
  by_cases z : nf n b p 1 10 = 0
  · have nz := nf_0 z
    refine .inr ⟨tset D 0 5 (VV n b p), en n b p, AT, MT, max HJ (VV n b p), by omega, he.2.1, TD_rule (.inr ⟨by omega, by omega⟩) tD (by have := nz.2; omega), LK_5 nz.2.2 h0 lk, fun z => absurd rfl z, fun σ h => ?_, fun σ h y => ?_⟩
    · exact (rl7 h hp (by omega) (by omega) (by omega) (by omega) (fun _ => rfl) (fun w => absurd w (by omega)) rfl).2 z
    · obtain ⟨s1, x1, x2, x3, x4⟩ := (jh8 h.1 hp y (s := 0) (by omega) lk.2.2.1 h.2.2.2.2.2.2.2).2 (by rw [jc_0]; exact z)
      have := RSb_rule (v := VV n b p) r5 (TD_TB tD) (RSb_J x2 x3 h)
      rw [i_sub0] at this
      exact ⟨_, by rw [hrb, x1, bso, ltq], up_sg (FrJ_sg x2) (rt_own r5), this, RY_up (.inl (by decide)) x4, (up_ne s1 (.inl (by decide))).trans (x2 60 18 (by omega))⟩
  · have f1 : nf n b p 1 10 < 10 := by have := nf_le n b p 1 10; omega
    refine .inl ⟨nf n b p 1 10, hd n b p, by omega, f1, hh.2, fun σ h => ?_, fun σ h y => ?_⟩
    · exact (rl7 h hp (by omega) (by omega) (by omega) (by omega) (fun _ => rfl) (fun w => absurd w (by omega)) rfl).1 z
    · obtain ⟨v, s1, x1, x2, x3, x4, x5⟩ := (jh8 h.1 hp y (s := 0) (by omega) lk.2.2.1 h.2.2.2.2.2.2.2).1 (by rw [jc_0]; exact z)
      rw [jc_0] at x5
      exact ⟨_, by rw [hrb, x1, bso, ltq], up_sg (FrJ_sg x4) (rt_own r5), BR_up (.inl (by decide)) x5⟩
/-- the reference's lines of numbers -/
theorem bo_n {kq n : Nat} {b : Nat → Nat} {p : Nat} {D : NN} {AT MT HJ : Nat} (hp : p ≤ n) (tD : TD D) (lk : LK D AT MT HJ) : BO kq n b p D AT MT HJ (fun σ => f_X2_readRule σ (nI 0)) (fun σ => f_X8_readOnce σ 0) ∧ BO kq n b p D AT MT HJ (fun σ => f_X2_readRule σ (nI 6)) (fun σ => f_X8_readOnce σ 2) ∧ BO kq n b p D AT MT HJ (fun σ => f_X2_readRule σ (nI 7)) (fun σ => f_X8_readOnce σ 3) ∧ BO kq n b p D AT MT HJ (fun σ => f_X2_readRule σ (nI 12)) (fun σ => f_X8_readOnce σ 6) := by
  refine ⟨bo_1 (r := 0) (c := 60) (pl := 14) (e := 0) (lo := 2) (hi := 10) hp tD lk (by unfold rt; decide) (by omega) (by omega) (by omega) rfl rfl (fun v a c => TD_rule (.inl rfl) tD (by omega)) (fun σ => ?_), bo_1 (r := 6) (c := 66) (pl := 13) (e := 1) (lo := 0) (hi := 10) hp tD lk (by unfold rt; decide) (by omega) (by omega) (by omega) rfl rfl (fun v a c => TD_rule (.inr ⟨by omega, by omega⟩) tD (by omega)) (fun σ => ?_), bo_1 (r := 7) (c := 66) (pl := 14) (e := 5) (lo := 1) (hi := 9) hp tD lk (by unfold rt; decide) (by omega) (by omega) (by omega) rfl rfl (fun v a c => TD_rule (.inr ⟨by omega, by omega⟩) tD (by omega)) (fun σ => ?_), bo_1 (r := 12) (c := 66) (pl := 17) (e := 3) (lo := 1) (hi := 9) hp tD lk (by unfold rt; decide) (by omega) (by omega) (by omega) rfl rfl (fun v a c => TD_rule (.inr ⟨by omega, by omega⟩) tD (by omega)) (fun σ => ?_)⟩
  · unfold f_X8_readOnce
    rw [if_pos rfl]
    simp only [i_sub0]
    rfl
  · unfold f_X8_readOnce
    rw [if_neg (by decide), if_neg (by decide), if_pos rfl]
    rfl
  · unfold f_X8_readOnce
    rw [if_neg (by decide), if_neg (by decide), if_neg (by decide), if_pos rfl]
    rfl
  · unfold f_X8_readOnce
    rw [if_neg (by decide), if_neg (by decide), if_neg (by decide), if_neg (by decide), if_neg (by decide), if_neg (by decide)]
    rfl
theorem bo_m {kq n : Nat} {b : Nat → Nat} {p : Nat} {D : NN} {AT MT HJ : Nat} (hp : p ≤ n) (tD : TD D) (lk : LK D AT MT HJ) : (D 0 5 = 0 → BO 5 n b p D AT MT HJ (fun σ => f_X2_readRule σ (nI 5)) (fun σ => f_X8_readOnce σ 1)) ∧ BO kq n b p D AT MT HJ (fun σ => (f_X2_readRule σ (nI 8)).bind fun q => if q.1 = 0 then some ((0 : Int32), q.2) else f_X2_readRule q.2 (nI 9)) (fun σ => f_X8_readOnce σ 4) ∧ BO kq n b p D AT MT HJ (fun σ => (f_X2_readRule σ (nI 10)).bind fun q => if q.1 = 0 then some ((0 : Int32), q.2) else f_X2_readRule q.2 (nI 11)) (fun σ => f_X8_readOnce σ 5) := by
  refine ⟨fun h0 => bo_5 hp tD lk h0 (fun σ => ?_), bo_2 (r := 8) (c := 66) (pl := 15) (e := 2) (lo := 1) (hi := 10) (r2 := 9) (c2 := 66) (pl2 := 16) (e2 := 4) (hi2 := 11) (lo2 := fun v => v + 1) (L := fun s => s 66 15 + 3) hp tD lk (by unfold rt; decide) (by unfold rt; decide) (by omega) (by omega) (fun _ => ⟨rfl, fun _ => rfl⟩) (by omega) (by omega) (by omega) (fun v h => by omega) rfl rfl (fun v h => absurd rfl h) rfl (fun v w v1 v2 w1 w2 => ?_) (fun σ v h => ?_) (fun σ => ?_), bo_2 (r := 10) (c := 70) (pl := 0) (e := 0) (lo := 0) (hi := 9) (r2 := 11) (c2 := 70) (pl2 := 1) (e2 := 0) (hi2 := 9) (lo2 := fun v => 0) (L := fun s => 0) hp tD lk (by unfold rt; decide) (by unfold rt; decide) (by omega) (by omega) (fun w => absurd w (by omega)) (by omega) (by omega) (by omega) (fun v h => by omega) rfl rfl (fun v h => rfl) rfl (fun v w v1 v2 w1 w2 => TD_rule (.inr ⟨by omega, by omega⟩) (TD_rule (.inr ⟨by omega, by omega⟩) tD (by omega)) (by omega)) (fun σ v h => rfl) (fun σ => ?_)⟩
  · unfold f_X8_readOnce
    rw [if_neg (by decide), if_pos rfl]
    rfl
  · obtain ⟨k1, k2, k3, k4, k5, k6⟩ := tD
    have e1 : tset (tset D 0 8 v) 0 9 w 0 1 = D 0 1 := by rw [tset_ne _ (.inr (by omega)), tset_ne _ (.inr (by omega))]
    have e2 : tset (tset D 0 8 v) 0 9 w 0 2 = D 0 2 := by rw [tset_ne _ (.inr (by omega)), tset_ne _ (.inr (by omega))]
    have e3 : tset (tset D 0 8 v) 0 9 w 0 3 = D 0 3 := by rw [tset_ne _ (.inr (by omega)), tset_ne _ (.inr (by omega))]
    refine ⟨?_, by rw [e1]; exact k2, by rw [e1]; exact k3, by rw [e2]; exact k4, by rw [e2]; exact k5, by rw [e3]; exact k6⟩
    rw [e1, e2, e3]
    simp [tset]
    omega
  · have := h.2.2.1.2.2.2.2.2.2.2.1
    rw [tset_same] at this
    rw [this, ← nI_add, show nI v - nI 2 + 3 = nI v + (3 - nI 2) from by rw [Int32.sub_eq_add_neg, Int32.add_assoc]; rfl]
    rfl
  · unfold f_X8_readOnce
    rw [if_neg (by decide), if_neg (by decide), if_neg (by decide), if_neg (by decide), if_pos rfl]
    rfl
  · unfold f_X8_readOnce
    rw [if_neg (by decide), if_neg (by decide), if_neg (by decide), if_neg (by decide), if_neg (by decide), if_pos rfl]
    simp only [i_sub0]
    rfl
