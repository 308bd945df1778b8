/-! a line of a town *-/
theorem TD_W {D : NN} {a g : Nat} (h : TD D) (h3 : D 0 3 < 5) (ha : a ≤ 99) (hg : g ≤ 9) : TD (DW D a g) := by
  obtain ⟨k1, k2, k3, k4, k5, k6⟩ := h
  refine ⟨?_, k2, k3, k4, k5, fun i hi => ?_⟩
  · have e : DW D a g 0 3 = D 0 3 + 1 := rfl
    have e0 : DW D a g 0 0 = D 0 0 ∧ DW D a g 0 1 = D 0 1 ∧ DW D a g 0 2 = D 0 2 ∧ DW D a g 0 4 = D 0 4 ∧ DW D a g 0 5 = D 0 5 ∧ DW D a g 0 6 = D 0 6 ∧ DW D a g 0 7 = D 0 7 ∧ DW D a g 0 8 = D 0 8 ∧ DW D a g 0 9 = D 0 9 ∧ DW D a g 0 10 = D 0 10 ∧ DW D a g 0 11 = D 0 11 ∧ DW D a g 0 12 = D 0 12 := ⟨rfl, rfl, rfl, rfl, rfl, rfl, rfl, rfl, rfl, rfl, rfl, rfl⟩
    omega
  · have hi' : i < D 0 3 + 1 := hi
    rw [(DW_v D a g i).2.2.2.2.2.2.1, (DW_v D a g i).2.2.2.2.2.2.2]
    by_cases z : i = D 0 3
    · rw [if_pos z, if_pos z]; exact ⟨ha, hg⟩
    · rw [if_neg z, if_neg z]; exact k6 i (by omega)
theorem TV_W {D : NN} {a g : Nat} {σ : ZI} (q : TV 28 D σ) (x1 : σ 35 (D 0 3) = nI a) (x2 : σ 36 (D 0 3) = nI g) : TV 28 (DW D a g) (va_up σ 29 (upd (σ 29) 3 (nI (D 0 3 + 1)))) := by
  obtain ⟨q1, q2, q3, q4⟩ := q
  have gA : ∀ C P, (C ≠ 29 ∨ P ≠ 3) → va_up σ 29 (upd (σ 29) 3 (nI (D 0 3 + 1))) C P = σ C P := fun C P z => up_ne σ z
  refine ⟨fun i hi => ?_, fun i hi => ?_, fun i hi => ?_, fun i hi => ?_⟩
  · rw [(DW_v D a g i).1]
    by_cases z : i = 3
    · subst z; rw [if_pos rfl]; exact up_same _ _ _ _
    · rw [if_neg z]; exact (gA _ _ (.inr z)).trans (q1 i hi)
  · have := q2 i hi
    exact ⟨(gA _ _ (.inl (by decide))).trans this.1, (gA _ _ (.inl (by decide))).trans this.2.1, (gA _ _ (.inl (by decide))).trans this.2.2⟩
  · have := q3 i hi
    exact ⟨(gA _ _ (.inl (by decide))).trans this.1, (gA _ _ (.inl (by decide))).trans this.2⟩
  · have hi' : i < D 0 3 + 1 := hi
    rw [(DW_v D a g i).2.2.2.2.2.2.1, (DW_v D a g i).2.2.2.2.2.2.2, gA _ _ (.inl (by decide)), gA _ _ (.inl (by decide))]
    by_cases z : i = D 0 3
    · rw [if_pos z, if_pos z, z]; exact ⟨x1, x2⟩
    · rw [if_neg z, if_neg z]; exact q4 i (by omega)
/-- a write of the class behind what is told -/
theorem CSb_out {n : Nat} {b : Nat → Nat} {p : Nat} {D : NN} {σ : ZI} {c i : Nat} {v : Int32} (ho : (30 ≤ c ∧ c ≤ 32 ∧ D 0 1 ≤ i) ∨ (33 ≤ c ∧ c ≤ 34 ∧ D 0 2 ≤ i) ∨ (35 ≤ c ∧ c ≤ 36 ∧ D 0 3 ≤ i)) (q : CSb n b p D σ) : CSb n b p D (va_up σ c (upd (σ c) i v)) := by
  refine CSb_set (by omega) q ?_
  obtain ⟨q1, q2, q3, q4⟩ := q.2.2.2
  refine ⟨fun k hk => (up_ne σ (.inl (by omega))).trans (q1 k hk), fun k hk => ?_, fun k hk => ?_, fun k hk => ?_⟩
  · have := q2 k hk
    exact ⟨(up_ne σ (by omega)).trans this.1, (up_ne σ (by omega)).trans this.2.1, (up_ne σ (by omega)).trans this.2.2⟩
  · have := q3 k hk
    exact ⟨(up_ne σ (by omega)).trans this.1, (up_ne σ (by omega)).trans this.2⟩
  · have := q4 k hk
    exact ⟨(up_ne σ (by omega)).trans this.1, (up_ne σ (by omega)).trans this.2⟩
theorem CSb_29 {n : Nat} {b : Nat → Nat} {p : Nat} {D D' : NN} {σ : ZI} {i : Nat} {v : Int32} (q : CSb n b p D σ) (h : TV 28 D' (va_up σ 29 (upd (σ 29) i v))) : CSb n b p D' (va_up σ 29 (upd (σ 29) i v)) := CSb_set (c := 29) (by omega) q h
def twR (s : ZI) (w : Int32) : Option ZI := if inB (6 + s 60 17) 18 = true then lt_ (va_up s 66 (upd (s 66) (6 + s 60 17).toNatClampNeg w)) (fun σ4 => (f_X8_number σ4 0 9).bind fun q5 => if inB (σ4 60 17) 5 = true then lt_ (va_up q5.2 69 (upd (q5.2 69) (σ4 60 17).toNatClampNeg q5.1)) (fun σ6 => lt_ (va_up σ6 60 (upd (σ6 60) 17 ((σ6 60 17) + 1))) some) else none) else none
theorem twR_e {s : ZI} {M : Nat} (hM : M < 5) (e : s 60 17 = nI M) (w : Int32) : twR s w = (f_X8_number (va_up s 66 (upd (s 66) (6 + M) w)) 0 9).bind fun q5 => lt_ (va_up q5.2 69 (upd (q5.2 69) M q5.1)) (fun σ6 => lt_ (va_up σ6 60 (upd (σ6 60) 17 ((σ6 60 17) + 1))) some) := by
  unfold twR
  have e2 : va_up s 66 (upd (s 66) (6 + M) w) 60 17 = nI M := (up_ne s (.inl (by decide))).trans e
  rw [e, show (6 : Int32) + nI M = nI (6 + M) from nI_add 6 M, inB_n (by omega) (by omega), if_pos rfl, nI_clamp (by omega), ltq, e2, inB_n (by omega) (by omega), nI_clamp (by omega)]
  simp only [if_true]
theorem twR_b {s : ZI} {M f q : Nat} (hf : 1 ≤ f) (hf2 : f < 10) (hM : M < 5) (e : s 60 17 = nI M) (h : BR f q s) (w : Int32) : ∃ σ', twR s w = some σ' ∧ Sg s σ' ∧ BR f q σ' := by
  rw [twR_e hM e, num8_b hf hf2 (BR_up (.inl (by decide)) h), bso, ltq, ltq]
  exact ⟨_, rfl, up_sg (up_sg (up_sg (Dw_refl 0 s) (own_6 _ (by decide) (by decide))) (own_6 _ (by decide) (by decide))) rfl, BR_up (.inr (by decide)) (BR_up (.inl (by decide)) (BR_up (.inl (by decide)) h))⟩
theorem twR_n {n : Nat} {b : Nat → Nat} {p a : Nat} {D : NN} {AT MT HJ : Nat} {s : ZI} (h : RSb n b D AT MT HJ s) (hp : p ≤ n) (y : RY n b p s) (tD : TD D) (h3 : D 0 3 < 5) : (nf n b p 0 9 ≠ 0 → ∃ σ', twR s (nI a) = some σ' ∧ Sg s σ' ∧ BR (nf n b p 0 9) (hd n b p) σ') ∧ (nf n b p 0 9 = 0 → ∃ σ', twR s (nI a) = some σ' ∧ Sg s σ' ∧ RSb n b (DW D a (VV n b p)) AT MT HJ σ' ∧ RY n b (en n b p) σ' ∧ σ' 60 18 = s 60 18) := by
  have tb := TD_TB tD
  have tb3 := tb.1
  have tb4 := tb.2.1
  have e : s 60 17 = nI (D 0 3) := h.2.2.2.1.2.2.2.1
  have r1 : RSb n b D AT MT HJ (va_up s 66 (upd (s 66) (6 + D 0 3) (nI a))) := RSb_out (.inr (.inr (.inl ⟨rfl, Nat.le_refl _, by omega⟩))) tb h
  have y1 : RY n b p (va_up s 66 (upd (s 66) (6 + D 0 3) (nI a))) := RY_up (.inl (by decide)) y
  have s0 : Sg s (va_up s 66 (upd (s 66) (6 + D 0 3) (nI a))) := up_sg (Dw_refl 0 s) (own_6 _ (by decide) (by decide))
  obtain ⟨t1, t2⟩ := num8 (lo := 0) (hi := 9) r1.1 hp y1 (by omega) (by omega)
  refine ⟨fun z => ?_, fun z => ?_⟩
  · obtain ⟨s1, x1, x2, x3⟩ := t1 z
    rw [twR_e h3 e, show f_X8_number _ 0 9 = _ from x1, bso, ltq, ltq]
    exact ⟨_, rfl, Dw_tr s0 (up_sg (up_sg (FrJ_sg (Fr8_J x2)) (own_6 _ (by decide) (by decide))) rfl), BR_up (.inr (by decide)) (BR_up (.inl (by decide)) x3)⟩
  · obtain ⟨s1, x1, x2, x3⟩ := t2 z
    have r2 := RSb_fr x2 r1
    have r3 : RSb n b D AT MT HJ (va_up s1 69 (upd (s1 69) (D 0 3) (nI (VV n b p)))) := RSb_out (.inr (.inr (.inr (.inr (.inr ⟨rfl, Nat.le_refl _⟩))))) tb r2
    have e2 : va_up s1 69 (upd (s1 69) (D 0 3) (nI (VV n b p))) 60 17 = nI (D 0 3) := r3.2.2.2.1.2.2.2.1
    rw [twR_e h3 e, show f_X8_number _ 0 9 = _ from x1, bso, ltq, ltq, e2, nI_1]
    refine ⟨_, rfl, Dw_tr s0 (up_sg (up_sg (FrJ_sg (Fr8_J x2)) (own_6 _ (by decide) (by decide))) rfl), RSb_W1 tb r3 ?_ (up_same _ _ _ _), RY_up (.inr (by decide)) (RY_up (.inl (by decide)) x3), ?_⟩
    · exact (up_ne s1 (.inl (by decide))).trans ((x2 _ _ (by omega)).trans (up_same _ _ _ _))
    · exact (up_ne _ (.inr (by decide))).trans ((up_ne _ (.inl (by decide))).trans ((x2 _ _ (by omega)).trans (up_ne _ (.inl (by decide)))))
theorem bo_w {kq n : Nat} {b : Nat → Nat} {p : Nat} {D : NN} {AT MT HJ : Nat} (hp : p ≤ n) (tD : TD D) (lk : LK D AT MT HJ) (h3 : D 0 3 < 5) : BO kq n b p D AT MT HJ (fun σ => f_X2_readTown σ) (fun σ => f_X8_readMore σ 9) := by
  have he := en_ge n b hp
  have hh := hd_ge n b hp
  have tb := TD_TB tD
  have hrb : ∀ σ : ZI, σ 60 17 = nI (D 0 3) → f_X8_readMore σ 9 = (f_X8_number σ 0 99).bind fun q => if inB (6 + nI (D 0 3)) 18 = true then lt_ (va_up q.2 66 (upd (q.2 66) (6 + nI (D 0 3)).toNatClampNeg q.1)) (fun σ4 => (f_X8_number σ4 0 9).bind fun q5 => if inB (σ4 60 17) 5 = true then lt_ (va_up q5.2 69 (upd (q5.2 69) (σ4 60 17).toNatClampNeg q5.1)) (fun σ6 => lt_ (va_up σ6 60 (upd (σ6 60) 17 ((σ6 60 17) + 1))) some) else none) else none := fun σ e => by
    unfold f_X8_readMore
    rw [if_neg (by decide), if_neg (by decide), if_pos rfl, e]
  have tw : ∀ (s : ZI) (w : Int32), s 60 17 = nI (D 0 3) → (if inB (6 + nI (D 0 3)) 18 = true then lt_ (va_up s 66 (upd (s 66) (6 + nI (D 0 3)).toNatClampNeg w)) (fun σ4 => (f_X8_number σ4 0 9).bind fun q5 => if inB (σ4 60 17) 5 = true then lt_ (va_up q5.2 69 (upd (q5.2 69) (σ4 60 17).toNatClampNeg q5.1)) (fun σ6 => lt_ (va_up σ6 60 (upd (σ6 60) 17 ((σ6 60 17) + 1))) some) else none) else none : Option ZI) = twR s w := fun s w e => by
    unfold twR
    rw [e]
  by_cases z : nf n b p 0 99 = 0
  · have nz := nf_0 z
    have hh2 := hd_ge n b he.2.1
    have he2 := en_ge n b he.2.1
    have cl : ∀ σ, CSb n b p D σ → ∃ s1, f_X2_readTown σ = (f_X2_takeNumber s1 0 9).bind (fun q2 => if q2.1 = (-1 : Int32) then (some ((0 : Int32), q2.2)) else ((f_X6_value q2.2 28 (3 : Int32)).bind (fun q3 => (f_X7_put q2.2 35 q3 (nI (VV n b p))).bind (fun q4 => (f_X7_put q4 36 q3 q2.1).bind (fun q5 => (f_X6_become q5 28 (3 : Int32) (q3 + (1 : Int32))).bind (fun q6 => some ((1 : Int32), q6))))))) ∧ F7 σ s1 ∧ CSb n b (en n b p) D s1 := by
      intro σ h
      obtain ⟨s1, x1, x2, x3⟩ := (tn7 (lo := 0) (hi := 99) h.1 hp h.2.1 (by omega) (by omega)).2 z
      refine ⟨s1, ?_, x2, CSb_F7 x2 x3.2.1 h⟩
      unfold f_X2_readTown
      rw [show f_X2_takeNumber σ 0 99 = _ from x1, bso, if_neg (nm1 (by omega))]
    have rl : ∀ σ, RSb n b D AT MT HJ σ → RY n b p σ → ∃ s1, f_X8_readMore σ 9 = twR s1 (nI (VV n b p)) ∧ Sg σ s1 ∧ RSb n b D AT MT HJ s1 ∧ RY n b (en n b p) s1 ∧ s1 60 18 = σ 60 18 := by
      intro σ h y
      obtain ⟨s1, x1, x2, x3⟩ := (num8 (lo := 0) (hi := 99) h.1 hp y (by omega) (by omega)).2 z
      have r2 := RSb_fr x2 h
      exact ⟨s1, by rw [hrb σ h.2.2.2.1.2.2.2.1, show f_X8_number σ 0 99 = _ from x1, bso]; exact tw s1 _ r2.2.2.2.1.2.2.2.1, FrJ_sg (Fr8_J x2), r2, x3, x2 60 18 (by omega)⟩
    by_cases z2 : nf n b (en n b p) 0 9 = 0
    · have nz2 := nf_0 z2
      refine .inr ⟨DW D (VV n b p) (VV n b (en n b p)), en n b (en n b p), AT, MT, HJ, by omega, he2.2.1, TD_W tD h3 nz.2.2 nz2.2.2, lk, fun _ => rfl, fun σ h => ?_, fun σ h y => ?_⟩
      · obtain ⟨s1, x1, x2, x3⟩ := cl σ h
        obtain ⟨s2, y1, y2, y3⟩ := (tn7 (lo := 0) (hi := 9) x3.1 he.2.1 x3.2.1 (by omega) (by omega)).2 z2
        have c2 := CSb_F7 y2 y3.2.1 x3
        have c3 : CSb n b (en n b (en n b p)) D (va_up s2 35 (upd (s2 35) (D 0 3) (nI (VV n b p)))) := CSb_out (.inr (.inr ⟨by omega, by omega, Nat.le_refl _⟩)) c2
        have c4 := CSb_out (c := 36) (i := D 0 3) (v := nI (VV n b (en n b p))) (.inr (.inr ⟨by omega, by omega, Nat.le_refl _⟩)) c3
        have e3 : s2 29 3 = nI (D 0 3) := c2.2.2.2.1 3 (by omega)
        have c5 := CSb_29 c4 (TV_W (a := VV n b p) (g := VV n b (en n b p)) c4.2.2.2 ((up_ne _ (.inl (by decide))).trans (up_same _ _ _ _)) (up_same _ _ _ _))
        refine ⟨_, ?_, ?_, c5, ?_⟩
        · dsimp only
          rw [x1, show f_X2_takeNumber s1 0 9 = _ from y1, bso, if_neg (nm1 (by omega))]
          dsimp only
          rw [v28_3, bso, e3, put_n (N := 5) rfl h3 (by omega), bso, put_n (N := 5) rfl h3 (by omega), bso, nI_1, show f_X6_become _ 28 3 _ = _ from bec_n (b := 28) (k := 3) rfl rfl (by omega), bso]
        · exact up_sg (up_sg (up_sg (Dw_tr (Ff_sg (F7_Ff x2)) (Ff_sg (F7_Ff y2))) (own_d _ (by omega) (by omega))) (own_d _ (by omega) (by omega))) (own_d _ (by omega) (by omega))
        · exact (up_ne _ (.inl (by decide))).trans ((up_ne _ (.inl (by decide))).trans ((up_ne _ (.inl (by decide))).trans ((y2 39 2 (by omega)).trans (x2 39 2 (by omega)))))
      · obtain ⟨s1, x1, x2, x3, x4, x5⟩ := rl σ h y
        obtain ⟨s2, y1, y2, y3, y4, y5⟩ := (twR_n (a := VV n b p) x3 he.2.1 x4 tD h3).2 z2
        exact ⟨s2, x1.trans y1, Dw_tr x2 y2, y3, y4, y5.trans x5⟩
    · have := nf_le n b (en n b p) 0 9
      refine .inl ⟨nf n b (en n b p) 0 9, hd n b (en n b p), by omega, by omega, hh2.2, fun σ h => ?_, fun σ h y => ?_⟩
      · obtain ⟨s1, x1, x2, x3⟩ := cl σ h
        obtain ⟨s2, y1, y2, y3⟩ := (tn7 (lo := 0) (hi := 9) x3.1 he.2.1 x3.2.1 (by omega) (by omega)).1 z2
        refine ⟨s2, ?_, Dw_tr (Ff_sg (F7_Ff x2)) (Ff_sg y2), y3⟩
        dsimp only
        rw [x1, show f_X2_takeNumber s1 0 9 = _ from y1, bso, if_pos rfl]
      · obtain ⟨s1, x1, x2, x3, x4, x5⟩ := rl σ h y
        obtain ⟨s2, y1, y2, y3⟩ := (twR_n (a := VV n b p) x3 he.2.1 x4 tD h3).1 z2
        exact ⟨s2, x1.trans y1, Dw_tr x2 y2, y3⟩
  · have := nf_le n b p 0 99
    refine .inl ⟨nf n b p 0 99, hd n b p, by omega, by omega, hh.2, fun σ h => ?_, fun σ h y => ?_⟩
    · obtain ⟨s1, x1, x2, x3⟩ := (tn7 (lo := 0) (hi := 99) h.1 hp h.2.1 (by omega) (by omega)).1 z
      refine ⟨s1, ?_, Ff_sg x2, x3⟩
      dsimp only
      unfold f_X2_readTown
      rw [show f_X2_takeNumber σ 0 99 = _ from x1, bso, if_pos rfl]
    · obtain ⟨s1, x1, x2, x3⟩ := (num8 (lo := 0) (hi := 99) h.1 hp y (by omega) (by omega)).1 z
      have e17 : s1 60 17 = nI (D 0 3) := (x2 60 17 (by omega)).trans h.2.2.2.1.2.2.2.1
      obtain ⟨s2, y1, y2, y3⟩ := twR_b (f := nf n b p 0 99) (by omega) (by omega) h3 e17 x3 0
      refine ⟨s2, ?_, Dw_tr (FrJ_sg (Fr8_J x2)) y2, y3⟩
      dsimp only
      rw [hrb σ h.2.2.2.1.2.2.2.1, show f_X8_number σ 0 99 = _ from x1, bso]
      exact (tw s1 _ e17).trans y1
