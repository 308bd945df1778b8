/-! a line of an arm, whole *-/
theorem cr_a : ∀ k, k < 11 → ¬ (0 : Int32) ≤ nI (cr k) - 11 := by decide
theorem cr_k : ∀ k, k < 16 → 11 ≤ k → nI (cr k) - 11 = nI (k - 11) ∧ (0 : Int32) ≤ nI (k - 11) ∧ nI (k - 11) ≠ -4 := by decide
theorem bo_a {kq n : Nat} {b : Nat → Nat} {p : Nat} {D : NN} {AT MT HJ : Nat} (hp : p ≤ n) (hk0 : kk_ n b p ≠ 0) (tD : TD D) (lk : LK D AT MT HJ) (h3 : D 0 1 < 3) : BO kq n b p D AT MT HJ (fun σ => f_X2_readArm σ) (fun σ => f_X8_readMore σ 7) := by
  have he := en_ge n b hp
  have hh := hd_ge n b hp
  have tb := TD_TB tD
  have at_ := lk.1
  have hh2 := hd_ge n b he.2.1
  have he2 := en_ge n b he.2.1
  have r30 : ∀ (σ : ZI) (v : Int32), σ 60 15 = nI (D 0 1) → f_X8_readMore_30 7 σ v = (f_X8_step (va_up σ 66 (upd (σ 66) (D 0 1) v))).bind fun q16 => (f_X8_jointHere q16 (q16 60 19)).bind fun q17 => lt_ (va_up q17.2 60 (upd (q17.2 60) 19 ((q17.2 60 19) ||| ((1 : Int32) <<< ((q17.1 - 1) &&& 31))))) fun σ18 => amR σ18 q17.1 := fun σ v e => by
    unfold f_X8_readMore_30 amR
    rw [e, inB_n (by omega) (by omega), if_pos rfl, nI_clamp (by omega), ltq]
  have brk : ∀ (s : ZI) (f q : Nat), 1 ≤ f → f < 10 → s 60 15 = nI (D 0 1) → (∃ x v s1, f_X8_jointHere s x = some (nI v, s1) ∧ FrJ s s1 ∧ BR f q s1 ∧ s 60 19 = x) → ∃ σ', ((f_X8_jointHere s (s 60 19)).bind fun q17 => lt_ (va_up q17.2 60 (upd (q17.2 60) 19 ((q17.2 60 19) ||| ((1 : Int32) <<< ((q17.1 - 1) &&& 31))))) fun σ18 => amR σ18 q17.1) = some σ' ∧ Sg s σ' ∧ BR f q σ' := by
    rintro s f q hf hf2 e ⟨x, v, s1, x1, x4, x5, x6⟩
    obtain ⟨s2, y1, y2, y3⟩ := amR_b (s := va_up s1 60 (upd (s1 60) 19 ((s1 60 19) ||| ((1 : Int32) <<< ((nI v - 1) &&& 31))))) hf hf2 h3 ((up_ne s1 (.inr (by decide))).trans ((x4 60 15 (by omega)).trans e)) (BR_up (.inr (by decide)) x5) (nI v)
    exact ⟨s2, by rw [x6, x1, bso, ltq]; exact y1, Dw_tr (up_sg (FrJ_sg x4) rfl) y2, y3⟩
  by_cases hN : ∃ k, k < 16 ∧ 11 ≤ k ∧ NM n b p k
  · obtain ⟨k, hk, hk11, nm⟩ := hN
    obtain ⟨ck1, ck2, ck3⟩ := cr_k k hk hk11
    have kb : k - 11 ≤ 4 := by omega
    -- the class up to the joint
    have clA : ∀ σ, CSb n b p D σ → ∃ s1, f_X2_readArm σ = ((f_X2_takeNumber s1 (1 : Int32) (10 : Int32)).bind (fun q3 => if q3.1 = (-1 : Int32) then (some ((0 : Int32), q3.2)) else ((f_X6_armAt q3.2 28 q3.1).bind (fun q4 => if q4 = (-4 : Int32) then ((f_X2_takeNumber q3.2 (0 : Int32) (9 : Int32)).bind (fun q5 => if q5.1 = (-1 : Int32) then (some ((0 : Int32), q5.2)) else ((f_X6_value q5.2 28 (1 : Int32)).bind (fun q6 => (f_X7_put q5.2 30 q6 (nI (k - 11))).bind (fun q7 => (f_X7_put q7 31 q6 q3.1).bind (fun q8 => (f_X7_put q8 32 q6 q5.1).bind (fun q9 => (f_X6_become q9 28 (1 : Int32) (q6 + (1 : Int32))).bind (fun q10 => some ((1 : Int32), q10))))))))) else ((f_X2_refuse q3.2 (4 : Int32)).bind (fun q11 => if q11.1 = 0 ∨ q11.1 = 1 then some (q11.1, q11.2) else none)))))) ∧ F7 σ s1 ∧ CSb n b (en n b p) D s1 := by
      intro σ h
      obtain ⟨s1, x1, x2, x3⟩ := (tt7 h.1 hp h.2.1).2 hk0
      refine ⟨s1, ?_, x2, CSb_F7 x2 x3.2.1 h⟩
      unfold f_X2_readArm
      rw [x1, bso, if_neg (show ¬ (1 : Int32) = 0 by decide), show f_X2_kindNamed _ = _ from (kin7 x3 hp).1 k hk11 hk nm, bso, if_neg ck3]
    have clB : ∀ σ, CSb n b p D σ → nf n b (en n b p) 1 10 = 0 → ∃ s1, f_X2_readArm σ = (if (if fi (fun m => D 2 m == VV n b (en n b p)) (D 0 1) < D 0 1 then nI (fi (fun m => D 2 m == VV n b (en n b p)) (D 0 1)) else -4) = (-4 : Int32) then ((f_X2_takeNumber s1 (0 : Int32) (9 : Int32)).bind (fun q5 => if q5.1 = (-1 : Int32) then (some ((0 : Int32), q5.2)) else ((f_X6_value q5.2 28 (1 : Int32)).bind (fun q6 => (f_X7_put q5.2 30 q6 (nI (k - 11))).bind (fun q7 => (f_X7_put q7 31 q6 (nI (VV n b (en n b p)))).bind (fun q8 => (f_X7_put q8 32 q6 q5.1).bind (fun q9 => (f_X6_become q9 28 (1 : Int32) (q6 + (1 : Int32))).bind (fun q10 => some ((1 : Int32), q10))))))))) else ((f_X2_refuse s1 (4 : Int32)).bind (fun q11 => if q11.1 = 0 ∨ q11.1 = 1 then some (q11.1, q11.2) else none))) ∧ F7 σ s1 ∧ At7 n b (en n b p) s1 ∧ CSb n b (en n b (en n b p)) D s1 := by
      intro σ h z
      have nz := nf_0 z
      obtain ⟨s0, w1, w2, w3⟩ := clA σ h
      obtain ⟨s1, x1, x2, x3⟩ := (tn7 (lo := 1) (hi := 10) w3.1 he.2.1 w3.2.1 (by omega) (by omega)).2 z
      have c1 := CSb_F7 x2 x3.2.1 w3
      have e := am_n (σ := s1) (b := 28) (M := D 0 1) (j := VV n b (en n b p)) (mj := fun m => D 2 m) rfl rfl rfl (by omega) (by omega) (c1.2.2.2.1 1 (by omega)) (fun m hm => ⟨by have := tD.2.1 m hm; omega, (c1.2.2.2.2.1 m hm).2.1⟩)
      refine ⟨s1, ?_, F7_tr w2 x2, x3, c1⟩
      rw [w1, show f_X2_takeNumber s0 1 10 = _ from x1, bso, if_neg (nm1 (by omega))]
      dsimp only
      rw [e, bso]
    -- the reference up to the joint
    have rfA : ∀ σ, RSb n b D AT MT HJ σ → RY n b p σ → ∃ s1, f_X8_readMore σ 7 = ((f_X8_jointHere s1 (s1 60 19)).bind fun q17 => lt_ (va_up q17.2 60 (upd (q17.2 60) 19 ((q17.2 60 19) ||| ((1 : Int32) <<< ((q17.1 - 1) &&& 31))))) fun σ18 => amR σ18 q17.1) ∧ Sg σ s1 ∧ RSb n b D AT MT HJ s1 ∧ RY n b (en n b p) s1 ∧ s1 60 18 = σ 60 18 ∧ s1 66 (D 0 1) = nI (k - 11) := by
      intro σ h y
      obtain ⟨y1, y2, y3, y4, y5⟩ := y.2 hk0
      have r1 : RSb n b D AT MT HJ (va_up σ 66 (upd (σ 66) (D 0 1) (nI (k - 11)))) := RSb_out (.inl ⟨rfl, Nat.le_refl _, h3⟩) tb h
      obtain ⟨s1, x1, x2, x3⟩ := step8 r1.1 he.2.1 ((up_ne σ (.inl (by decide))).trans y1) ((up_ne σ (.inl (by decide))).trans y3)
      refine ⟨s1, ?_, Dw_tr (up_sg (Dw_refl 0 σ) (own_6 _ (by decide) (by decide))) (FrJ_sg (Fr8_J x2)), RSb_fr x2 r1, x3, (x2 60 18 (by omega)).trans (up_ne σ (.inl (by decide))), (x2 _ _ (by omega)).trans (up_same _ _ _ _)⟩
      unfold f_X8_readMore
      rw [if_pos rfl, show f_X8_nameHere σ = _ from (nh8 h.1 h.2.1 hp y hk0).1 k hk nm, bso, if_pos y1, ck1, if_pos ck2, r30 σ _ h.2.2.2.1.2.1, x1, bso]
    rcases jc7 (n := n) (b := b) (p := en n b p) (s := AT) with ⟨z, z2, z3⟩ | ⟨z, z2, z3, z4⟩ | ⟨z, z2, z3⟩
    · have f1 := nf_le n b (en n b p) 1 10
      refine .inl ⟨nf n b (en n b p) 1 10, hd n b (en n b p), by omega, by omega, hh2.2, fun σ h => ?_, fun σ h y => ?_⟩
      · obtain ⟨s0, w1, w2, w3⟩ := clA σ h
        obtain ⟨s1, x1, x2, x3⟩ := (tn7 (lo := 1) (hi := 10) w3.1 he.2.1 w3.2.1 (by omega) (by omega)).1 z2
        refine ⟨s1, ?_, Dw_tr (Ff_sg (F7_Ff w2)) (Ff_sg x2), x3⟩
        dsimp only
        rw [w1, show f_X2_takeNumber s0 1 10 = _ from x1, bso, if_pos rfl]
      · obtain ⟨s1, x1, x2, x3, x4, x5, x6⟩ := rfA σ h y
        obtain ⟨v, s2, q1, q2, q3, q4, q5⟩ := (jh8 x3.1 he.2.1 x4 (s := AT) lk.1 lk.2.2.1 x3.2.2.2.2.2.2.2).1 z
        rw [z3] at q5
        obtain ⟨s3, u1, u2, u3⟩ := brk s1 _ _ (by omega) (by omega) x3.2.2.2.1.2.1 ⟨_, v, s2, q1, q4, q5, x3.2.2.2.2.2.1⟩
        exact ⟨s3, x1.trans u1, Dw_tr x2 u2, u3⟩
    · have nz := nf_0 z2
      have nd := (nd_b lk.2.2.2.1 (rfl : D 0 1 = D 0 1) nz.2.1 nz.2.2).1 z3
      refine .inl ⟨4, hd n b (en n b p), by omega, by omega, hh2.2, fun σ h => ?_, fun σ h y => ?_⟩
      · obtain ⟨s1, x1, x2, x3, x4⟩ := clB σ h z2
        obtain ⟨s2, y1, y2, y3⟩ := ref7 s1 4 x3.2.2.2
        refine ⟨s2, ?_, Dw_tr (Ff_sg (F7_Ff x2)) (Ff_sg y2), y3⟩
        dsimp only
        rw [x1, if_pos nd, if_neg (nm4 (by omega)), show f_X2_refuse s1 4 = _ from y1, bso, if_pos (.inl rfl)]
      · obtain ⟨s1, x1, x2, x3, x4, x5, x6⟩ := rfA σ h y
        obtain ⟨v, s2, q1, q2, q3, q4, q5⟩ := (jh8 x3.1 he.2.1 x4 (s := AT) lk.1 lk.2.2.1 x3.2.2.2.2.2.2.2).1 z
        rw [z4] at q5
        obtain ⟨s3, u1, u2, u3⟩ := brk s1 _ _ (by omega) (by omega) x3.2.2.2.1.2.1 ⟨_, v, s2, q1, q4, q5, x3.2.2.2.2.2.1⟩
        exact ⟨s3, x1.trans u1, Dw_tr x2 u2, u3⟩
    · have nz := nf_0 z2
      have nd := (nd_b lk.2.2.2.1 (rfl : D 0 1 = D 0 1) nz.2.1 nz.2.2).2 z3
      have hh3 := hd_ge n b he2.2.1
      have he3 := en_ge n b he2.2.1
      have rl : ∀ σ, RSb n b D AT MT HJ σ → RY n b p σ → ∃ s1, f_X8_readMore σ 7 = amR s1 (nI (VV n b (en n b p))) ∧ Sg σ s1 ∧ RSb n b D (AT ||| 2 ^ (VV n b (en n b p) - 1)) MT (max HJ (VV n b (en n b p))) s1 ∧ RY n b (en n b (en n b p)) s1 ∧ s1 60 18 = σ 60 18 ∧ s1 66 (D 0 1) = nI (k - 11) := by
        intro σ h y
        obtain ⟨s0, w1, w2, w3, w4, w5, w6⟩ := rfA σ h y
        obtain ⟨s1, x1, x2, x3, x4⟩ := (jh8 w3.1 he.2.1 w4 (s := AT) lk.1 lk.2.2.1 w3.2.2.2.2.2.2.2).2 z
        have e19 : s0 60 19 = nI AT := w3.2.2.2.2.2.1
        have e19' : s1 60 19 = nI AT := (x2 60 19 (by omega)).trans e19
        have r2 := RSb_J x2 x3 w3
        refine ⟨_, by rw [w1, e19, x1, bso, ltq]; dsimp only; rw [e19', bit_n nz.2.1 nz.2.2, or_n (by omega) (by omega)], Dw_tr w2 (up_sg (FrJ_sg x2) rfl), RSb_AT r2, RY_up (.inr (by decide)) x4, (up_ne _ (.inr (by decide))).trans ((x2 60 18 (by omega)).trans w5), (up_ne _ (.inl (by decide))).trans ((x2 _ _ (by omega)).trans w6)⟩
      by_cases w2 : nf n b (en n b (en n b p)) 0 9 = 0
      · have nz2 := nf_0 w2
        refine .inr ⟨DA D (k - 11) (VV n b (en n b p)) (VV n b (en n b (en n b p))), en n b (en n b (en n b p)), AT ||| 2 ^ (VV n b (en n b p) - 1), MT, max HJ (VV n b (en n b p)), by omega, he3.2.1, TD_A tD h3 kb nz.2.1 nz.2.2 nz2.2.2 nd.2, LK_A nz.2.1 nz.2.2 lk, fun _ => rfl, fun σ h => ?_, fun σ h y => ?_⟩
        · obtain ⟨s1, x1, x2, x2', x3⟩ := clB σ h z2
          obtain ⟨s2, y1, y2, y3⟩ := (tn7 (lo := 0) (hi := 9) x3.1 he2.2.1 x3.2.1 (by omega) (by omega)).2 w2
          have c2 := CSb_F7 y2 y3.2.1 x3
          have c3 := CSb_out (c := 30) (i := D 0 1) (v := nI (k - 11)) (.inl ⟨by omega, by omega, Nat.le_refl _⟩) c2
          have c4 := CSb_out (c := 31) (i := D 0 1) (v := nI (VV n b (en n b p))) (.inl ⟨by omega, by omega, Nat.le_refl _⟩) c3
          have c4' := CSb_out (c := 32) (i := D 0 1) (v := nI (VV n b (en n b (en n b p)))) (.inl ⟨by omega, by omega, Nat.le_refl _⟩) c4
          have e3 : s2 29 1 = nI (D 0 1) := c2.2.2.2.1 1 (by omega)
          have c5 := CSb_29 c4' (TV_A (k := k - 11) (j := VV n b (en n b p)) (g := VV n b (en n b (en n b p))) c4'.2.2.2 ((up_ne _ (.inl (by decide))).trans ((up_ne _ (.inl (by decide))).trans (up_same _ _ _ _))) ((up_ne _ (.inl (by decide))).trans (up_same _ _ _ _)) (up_same _ _ _ _))
          refine ⟨_, ?_, ?_, c5, ?_⟩
          · dsimp only
            rw [x1, if_neg nd.1, if_pos rfl, show f_X2_takeNumber s1 0 9 = _ from y1, bso, if_neg (nm1 (by omega))]
            dsimp only
            rw [v28_1, bso, e3, put_n (N := 3) rfl h3 (by omega), bso, put_n (N := 3) rfl h3 (by omega), bso, put_n (N := 3) rfl h3 (by omega), bso, nI_1, show f_X6_become _ 28 1 _ = _ from bec_n (b := 28) (k := 1) rfl rfl (by omega), bso]
          · exact up_sg (up_sg (up_sg (up_sg (Dw_tr (Ff_sg (F7_Ff x2)) (Ff_sg (F7_Ff y2))) (own_d _ (by omega) (by omega))) (own_d _ (by omega) (by omega))) (own_d _ (by omega) (by omega))) (own_d _ (by omega) (by omega))
          · exact (up_ne _ (.inl (by decide))).trans ((up_ne _ (.inl (by decide))).trans ((up_ne _ (.inl (by decide))).trans ((up_ne _ (.inl (by decide))).trans ((y2 39 2 (by omega)).trans (x2 39 2 (by omega))))))
        · obtain ⟨s1, x1, x2, x3, x4, x5, x6⟩ := rl σ h y
          obtain ⟨s2, y1, y2, y3, y4, y5⟩ := (amR_n (j := VV n b (en n b p)) x3 x6 he2.2.1 x4 tD h3).2 w2
          exact ⟨s2, x1.trans y1, Dw_tr x2 y2, y3, y4, y5.trans x5⟩
      · have := nf_le n b (en n b (en n b p)) 0 9
        refine .inl ⟨nf n b (en n b (en n b p)) 0 9, hd n b (en n b (en n b p)), by omega, by omega, hh3.2, fun σ h => ?_, fun σ h y => ?_⟩
        · obtain ⟨s1, x1, x2, x2', x3⟩ := clB σ h z2
          obtain ⟨s2, y1, y2, y3⟩ := (tn7 (lo := 0) (hi := 9) x3.1 he2.2.1 x3.2.1 (by omega) (by omega)).1 w2
          refine ⟨s2, ?_, Dw_tr (Ff_sg (F7_Ff x2)) (Ff_sg y2), y3⟩
          dsimp only
          rw [x1, if_neg nd.1, if_pos rfl, show f_X2_takeNumber s1 0 9 = _ from y1, bso, if_pos rfl]
        · obtain ⟨s1, x1, x2, x3, x4, x5, x6⟩ := rl σ h y
          obtain ⟨s2, y1, y2, y3⟩ := (amR_n (j := VV n b (en n b p)) x3 x6 he2.2.1 x4 tD h3).1 w2
          exact ⟨s2, x1.trans y1, Dw_tr x2 y2, y3⟩
  · have hN' : ∀ k, 11 ≤ k → k < 16 → ¬ NM n b p k := fun k a c w => hN ⟨k, c, a, w⟩
    refine .inl ⟨2, hd n b p, by omega, by omega, hh.2, fun σ h => ?_, fun σ h y => ?_⟩
    · obtain ⟨s1, x1, x2, x3⟩ := (tt7 h.1 hp h.2.1).2 hk0
      obtain ⟨s2, y1, y2, y3⟩ := ref7 s1 2 x3.2.2.2
      refine ⟨s2, ?_, Dw_tr (Ff_sg (F7_Ff x2)) (Ff_sg y2), y3⟩
      dsimp only
      unfold f_X2_readArm
      rw [x1, bso, if_neg (show ¬ (1 : Int32) = 0 by decide), show f_X2_kindNamed _ = _ from (kin7 x3 hp).2 hN', bso, if_pos rfl, show f_X2_refuse _ 2 = _ from y1, bso, if_pos (.inl rfl)]
    · obtain ⟨y1, y2, y3, y4, y5⟩ := y.2 hk0
      have e15 : σ 60 15 = nI (D 0 1) := h.2.2.2.1.2.1
      obtain ⟨s1, x1, x2, x3⟩ := fail8 2 y1 y2
      have e15' : s1 60 15 = nI (D 0 1) := (x2 60 15 (by omega)).trans e15
      have nh : ∃ w : Int32, f_X8_nameHere σ = some w ∧ ¬ (0 : Int32) ≤ w - 11 := by
        by_cases q : ∃ k, k < 16 ∧ NM n b p k
        · obtain ⟨k, k1, k2⟩ := q
          have : k < 11 := by
            by_cases z : k < 11
            · exact z
            · exact absurd k2 (hN' k (by omega) k1)
          exact ⟨_, (nh8 h.1 h.2.1 hp y hk0).1 k k1 k2, cr_a k this⟩
        · exact ⟨_, (nh8 h.1 h.2.1 hp y hk0).2 fun k a c => q ⟨k, a, c⟩, by decide⟩
      obtain ⟨w, w1, w2⟩ := nh
      have b2 : BR 2 (hd n b p) (va_up s1 66 (upd (s1 66) (D 0 1) (w - 11))) := BR_up (.inl (by decide)) x3
      obtain ⟨v, s2, q1, q2, q3, q4, q5⟩ := jh8_b (f := 2) (by omega) (by omega) b2 ((va_up s1 66 (upd (s1 66) (D 0 1) (w - 11))) 60 19)
      obtain ⟨s3, u1, u2, u3⟩ := brk (va_up s1 66 (upd (s1 66) (D 0 1) (w - 11))) 2 (hd n b p) (by omega) (by omega) ((up_ne _ (.inl (by decide))).trans e15') ⟨_, v, s2, q1, q4, q5, rfl⟩
      refine ⟨s3, ?_, Dw_tr (up_sg (FrJ_sg (Fr8_J x2)) (own_6 _ (by decide) (by decide))) u2, u3⟩
      dsimp only
      unfold f_X8_readMore
      rw [if_pos rfl, w1, bso, if_pos y1, if_neg w2, show f_X8_fails σ 2 = _ from x1, bso, r30 s1 _ e15', step8_b (f := 2) (by omega) (by omega) b2.1, bso]
      exact u1
