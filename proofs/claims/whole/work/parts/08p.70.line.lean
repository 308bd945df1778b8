/-! a line, whole *-/
theorem sfa_le (n : Nat) (b : Nat → Nat) (p : Nat) : sfa n b p ≤ 2 := by
  unfold sfa
  split
  · omega
  · split <;> omega
theorem line_ {n : Nat} {b : Nat → Nat} {p : Nat} {D : NN} {AT MT HJ T U : Nat} (hp : p ≤ n) (hk0 : kk_ n b p ≠ 0) (hk4 : kk_ n b p ≠ 4) (tD : TD D) (lk : LK D AT MT HJ) (tu : TU D T U) :
    (∃ f q, 1 ≤ f ∧ f < 10 ∧ q ≤ n ∧ (∀ σ, CSl n b p D T σ → ∃ σ', f_X2_readLine σ = some (0, σ') ∧ Sg σ σ' ∧ flt f q σ') ∧ (∀ σ, RSl n b p D AT MT HJ U σ → ∃ σ', f_X8_readLine σ = some σ' ∧ Sg σ σ' ∧ BR f q σ')) ∨
    (∃ D' p' AT' MT' HJ' T' U', p < p' ∧ p' ≤ n ∧ TD D' ∧ LK D' AT' MT' HJ' ∧ TU D' T' U' ∧ (∀ σ, CSl n b p D T σ → ∃ σ', f_X2_readLine σ = some (1, σ') ∧ Sg σ σ' ∧ CSl n b p' D' T' σ') ∧ (∀ σ, RSl n b p D AT MT HJ U σ → ∃ σ', f_X8_readLine σ = some σ' ∧ Sg σ σ' ∧ RSl n b p' D' AT' MT' HJ' U' σ')) := by
  have he := en_ge n b hp
  have hh := hd_ge n b hp
  have tb := TD_TB tD
  have hb := kk_le n b p
  have kn4 : ¬ nI (kk_ n b p) = 4 := fun q => hk4 (nI_inj (b := 4) (by omega) (by omega) q)
  have hlt : hd n b p < n := by
    by_cases z : hd n b p < n
    · exact z
    · exfalso
      have e1 : k0 n b p = 4 := by unfold k0; rw [if_neg z]
      have : kk_ n b p = 4 := by unfold kk_; rw [e1, if_neg (by omega)]
      exact hk4 this
  have hpe : p < en n b p := by have := he.2.2 hlt; omega
  -- the class behind the first token
  have clA : ∀ σ, CSl n b p D T σ → ∃ s1, f_X2_readLine σ = ((f_X2_lineNamed s1).bind (fun q2 => if q2 = (-4 : Int32) then ((f_X2_refuse s1 (2 : Int32)).bind (fun q33 => if q33.1 = 0 ∨ q33.1 = 1 then some (q33.1, q33.2) else none)) else (if (((5601 : Int32) &&& nI T) &&& ((1 : Int32) <<< (q2 &&& 31))) = 0 then ((f_X2_isRowOf q2).bind (fun q3 => if q3 = 0 then (f_X2_readLine_89 s1 q2) else ((f_X6_value s1 28 q2).bind (fun q29 => (f_X7_atS 102 q2).bind (fun q30 => if q29 < q30 then (f_X2_readLine_89 s1 q2) else ((f_X2_refuse s1 (5 : Int32)).bind (fun q31 => if q31.1 = 0 ∨ q31.1 = 1 then some (q31.1, q31.2) else none))))))) else ((f_X2_refuse s1 (4 : Int32)).bind (fun q32 => if q32.1 = 0 ∨ q32.1 = 1 then some (q32.1, q32.2) else none))))) ∧ F7 σ s1 ∧ At7 n b p s1 ∧ CSb n b (en n b p) D s1 ∧ s1 39 2 = nI T := by
    intro σ h
    obtain ⟨s1, x1, x2, x3⟩ := (tt7 h.1.1 hp h.1.2.1).2 hk0
    have e2 : s1 39 2 = nI T := (x2 39 2 (by omega)).trans h.2
    refine ⟨s1, ?_, x2, x3, CSb_F7 x2 x3.2.1 h.1, e2⟩
    unfold f_X2_readLine
    rw [x1, bso, if_neg (show ¬ (1 : Int32) = 0 by decide)]
    dsimp only
    rw [if_neg (show ¬ s1 37 3 = 4 from fun q => kn4 (x3.2.2.1.symm.trans q))]
    simp only [e2]
  have cref : ∀ (σ : ZI) (f : Nat), At7 n b p σ → ∃ s2, ((f_X2_refuse σ (nI f)).bind (fun q33 => if q33.1 = 0 ∨ q33.1 = 1 then some (q33.1, q33.2) else none)) = some (0, s2) ∧ Ff σ s2 ∧ flt f (hd n b p) s2 := by
    intro σ f h
    obtain ⟨s2, y1, y2, y3⟩ := ref7 σ f h.2.2.2
    exact ⟨s2, by rw [y1, bso, if_pos (.inl rfl)], y2, y3⟩
  by_cases hN : ∃ k, k < 11 ∧ NM n b p k
  · obtain ⟨k, hk, nm⟩ := hN
    obtain ⟨l1, l2, l3, l4⟩ := li_b k hk
    have lne : ¬ nI (liL.getD k 0) = -4 := nm4 (by omega)
    have mz := mk_z tu.1 l1
    -- the class: twice, full, or on
    have clB : ∀ σ, CSl n b p D T σ → ∃ s1, F7 σ s1 ∧ At7 n b p s1 ∧ CSb n b (en n b p) D s1 ∧ s1 39 2 = nI T ∧ (cr k ≤ 6 ∧ T.testBit (liL.getD k 0) = true → ∃ s2, f_X2_readLine σ = some (0, s2) ∧ Ff s1 s2 ∧ flt 4 (hd n b p) s2) ∧ (¬ (cr k ≤ 6 ∧ T.testBit (liL.getD k 0) = true) → RF k D → ∃ s2, f_X2_readLine σ = some (0, s2) ∧ Ff s1 s2 ∧ flt 5 (hd n b p) s2) ∧ (¬ (cr k ≤ 6 ∧ T.testBit (liL.getD k 0) = true) → ¬ RF k D → f_X2_readLine σ = f_X2_readLine_89 s1 (nI (liL.getD k 0))) := by
      intro σ h
      obtain ⟨s1, x1, x2, x3, x4, x5⟩ := clA σ h
      rw [(lin7 x3 hp).1 k hk nm, bso, if_neg lne] at x1
      refine ⟨s1, x2, x3, x4, x5, fun z => ?_, fun z z2 => ?_, fun z z2 => ?_⟩
      · obtain ⟨s2, y1, y2, y3⟩ := cref s1 4 x3
        exact ⟨s2, by rw [x1, if_neg (fun q => mz.1 q ⟨l3.2 z.1, z.2⟩)]; exact y1, y2, y3⟩
      · obtain ⟨s2, y1, y2, y3⟩ := cref s1 5 x3
        refine ⟨s2, ?_, y2, y3⟩
        rw [x1, if_pos (mz.2 fun q => z ⟨l3.1 q.1, q.2⟩)]
        exact c89 hk x4.2.2.2 tb (fun _ => y1) (fun q => absurd z2 q)
      · rw [x1, if_pos (mz.2 fun q => z ⟨l3.1 q.1, q.2⟩)]
        exact c89 hk x4.2.2.2 tb (fun q => absurd q z2) (fun _ => rfl)
    have rfA : ∀ σ, RSl n b p D AT MT HJ U σ → (∀ w, (RF k D → f_X8_readLine_65 σ (nI (cr k)) = w) → (¬ RF k D → f_X8_readLine_70 σ (nI (cr k)) = w) → f_X8_readLine σ = w) ∧ σ 60 25 = 0 ∧ σ 60 28 = nI (hd n b p) ∧ σ 60 27 = nI (en n b p) := by
      intro σ h
      obtain ⟨y1, y2, y3, y4, y5⟩ := h.2.1.2 hk0
      refine ⟨fun w w1 w2 => ?_, y1, y2, y3⟩
      unfold f_X8_readLine
      rw [(nh8 h.1.1 h.1.2.1 hp h.2.1 hk0).1 k (by omega) nm, bso, show f_X8_in (nI (cr k)).toInt64 0 10 = _ from inN (lo := 0) (hi := 10) (by omega) (by omega) (by omega), if_neg (by omega), bso, if_neg (by decide)]
      exact r70 hk h.1.2.2.2.1.2.1 h.1.2.2.2.1.2.2.1 h.1.2.2.2.1.2.2.2.1 tb w1 w2
    have rowk : RF k D → 6 < cr k := by
      intro z
      have : k = 1 ∨ k = 2 ∨ k = 3 := by unfold RF at z; omega
      rcases this with rfl | rfl | rfl <;> decide
    have gt6 : 6 < cr k → (6 : Int32) < nI (cr k) := fun z => nI_lt (a := 6) z (by omega)
    have ng6 : ¬ 6 < cr k → ¬ (6 : Int32) < nI (cr k) := fun z => nI_nlt (a := 6) (b := cr k) (by omega) (by omega)
    by_cases hd1 : cr k ≤ 6 ∧ T.testBit (liL.getD k 0) = true
    · refine .inl ⟨4, hd n b p, by omega, by omega, hh.2, fun σ h => ?_, fun σ h => ?_⟩
      · obtain ⟨s1, x2, x3, x4, x5, x6, -, -⟩ := clB σ h
        obtain ⟨s2, y1, y2, y3⟩ := x6 hd1
        exact ⟨s2, y1, Dw_tr (Ff_sg (F7_Ff x2)) (Ff_sg y2), y3⟩
      · obtain ⟨x1, x2, x3, x4⟩ := rfA σ h
        obtain ⟨s1, y1, y2, y3⟩ := fail8 4 x2 x3
        obtain ⟨s2, z1, z2, z3⟩ := b93 (f := 4) (by omega) (by omega) y3 (nI (cr k))
        refine ⟨s2, x1 _ (fun q => absurd (rowk q) (by omega)) (fun _ => ?_), Dw_tr (FrJ_sg (Fr8_J y2)) z2, z3⟩
        unfold f_X8_readLine_70
        have ub : U.testBit (cr k) = true := by rw [← tu.2.2.1 k hk hd1.1]; exact hd1.2
        have uu := tu.2.1
        rw [if_neg (ng6 (by omega)), h.2.2, if_pos ((bt1 (by omega) (by omega)).mpr ub), show f_X8_fails σ 4 = _ from y1, bso]
        exact z1
    · by_cases hrf : RF k D
      · refine .inl ⟨5, hd n b p, by omega, by omega, hh.2, fun σ h => ?_, fun σ h => ?_⟩
        · obtain ⟨s1, x2, x3, x4, x5, -, x6, -⟩ := clB σ h
          obtain ⟨s2, y1, y2, y3⟩ := x6 hd1 hrf
          exact ⟨s2, y1, Dw_tr (Ff_sg (F7_Ff x2)) (Ff_sg y2), y3⟩
        · obtain ⟨x1, x2, x3, x4⟩ := rfA σ h
          obtain ⟨s1, y1, y2, y3⟩ := fail8 5 x2 x3
          obtain ⟨s2, z1, z2, z3⟩ := b93 (f := 5) (by omega) (by omega) y3 (nI (cr k))
          refine ⟨s2, x1 _ (fun _ => ?_) (fun q => absurd hrf q), Dw_tr (FrJ_sg (Fr8_J y2)) z2, z3⟩
          unfold f_X8_readLine_65
          rw [show f_X8_fails σ 5 = _ from y1, bso]
          unfold f_X8_readLine_70
          rw [if_pos (gt6 (rowk hrf))]
          exact z1
      · -- the body
        have hh2 := hd_ge n b he.2.1
        have tt := tu.1
        have uu := tu.2.1
        have cl : ∀ σ, CSl n b p D T σ → ∃ s1, f_X2_readLine σ = ((cbk k s1).bind fun q => if q.1 = 0 then some ((0 : Int32), q.2) else (f_X2_takeSign q.2).bind fun q6 => if q6.1 = 0 then some ((0 : Int32), q6.2) else some ((1 : Int32), q6.2)) ∧ Sg σ s1 ∧ CSb n b (en n b p) D s1 ∧ s1 39 2 = nI (T ||| 2 ^ liL.getD k 0) := by
          intro σ h
          obtain ⟨s1, x2, x3, x4, x5, -, -, x6⟩ := clB σ h
          refine ⟨_, by rw [x6 hd1 hrf, l89 hk, ltq], up_sg (Ff_sg (F7_Ff x2)) rfl, CSb_39 x4, ?_⟩
          rw [up_same, x5, sbl (by omega), or_g]
        have rl : ∀ σ, RSl n b p D AT MT HJ U σ → ∃ s1, f_X8_readLine σ = (if (s1 60 25) ≤ 0 then (rbk k s1).bind (fun q5 => f_X8_readLine_136 q5) else some s1) ∧ Sg σ s1 ∧ RSb n b D AT MT HJ s1 ∧ RY n b (en n b p) s1 ∧ s1 60 18 = nI (U ||| 2 ^ cr k) := by
          intro σ h
          obtain ⟨x1, x2, x3, x4⟩ := rfA σ h
          have r1 : RSb n b D AT MT HJ (va_up σ 60 (upd (σ 60) 18 (nI (U ||| 2 ^ cr k)))) := RSb_18 h.1
          obtain ⟨s1, y1, y2, y3⟩ := step8 r1.1 he.2.1 ((up_ne σ (.inr (by decide))).trans x2) ((up_ne σ (.inr (by decide))).trans x4)
          refine ⟨s1, x1 _ (fun q => absurd q hrf) (fun _ => ?_), Dw_tr (up_sg (Dw_refl 0 σ) rfl) (FrJ_sg (Fr8_J y2)), RSb_fr y2 r1, y3, (y2 60 18 (by omega)).trans (up_same _ _ _ _)⟩
          have e93 : f_X8_readLine_70 σ (nI (cr k)) = f_X8_readLine_93 σ (nI (cr k)) := by
            unfold f_X8_readLine_70
            by_cases z : 6 < cr k
            · rw [if_pos (gt6 z)]
            · have ub : ¬ U.testBit (cr k) = true := by
                rw [← tu.2.2.1 k hk (by omega)]
                exact fun q => hd1 ⟨by omega, q⟩
              rw [if_neg (ng6 z), h.2.2, if_neg (fun q => ub ((bt1 (by omega) (by omega)).mp q))]
          rw [e93, r93 hk, h.2.2, sbl (by omega), or_g, ltq, y1, bso]
        by_cases hz : kk_ n b (en n b p) = 0
        · refine .inl ⟨1, hd n b (en n b p), by omega, by omega, hh2.2, fun σ h => ?_, fun σ h => ?_⟩
          · obtain ⟨s1, x1, x2, x3, x4⟩ := cl σ h
            obtain ⟨s2, y1, y2, y3⟩ := cb_0 he.2.1 hz x3 hk
            exact ⟨s2, by rw [x1, y1, bso, if_pos rfl], Dw_tr x2 y2, y3⟩
          · obtain ⟨s1, x1, x2, x3, x4, x5⟩ := rl σ h
            have br := x4.1 hz
            exact ⟨s1, by rw [x1, br.1, if_neg (by decide)], x2, br⟩
        · have bo := bo_all he.2.1 hz tD lk hk (fun z => by have := tb.1; unfold RF at hrf; omega) (fun z => by have := tb.2.1; unfold RF at hrf; omega) (fun z => by have := tb.2.2; unfold RF at hrf; omega) (fun z => by
            subst z
            refine tu.2.2.2 ?_
            have : ¬ T.testBit 5 = true := fun q => hd1 ⟨by decide, q⟩
            simpa using this)
          have rl2 : ∀ σ, RSl n b p D AT MT HJ U σ → ∃ s1, f_X8_readLine σ = (rbk k s1).bind (fun q5 => f_X8_readLine_136 q5) ∧ Sg σ s1 ∧ RSb n b D AT MT HJ s1 ∧ RY n b (en n b p) s1 ∧ s1 60 18 = nI (U ||| 2 ^ cr k) := by
            intro σ h
            obtain ⟨s1, x1, x2, x3, x4, x5⟩ := rl σ h
            exact ⟨s1, by rw [x1, (x4.2 hz).1, if_pos (by decide)], x2, x3, x4, x5⟩
          rcases bo with ⟨f, q, f1, f2, f3, f4, f5⟩ | ⟨D', p', AT', MT', HJ', g1, g2, g3, g4, g5, g6, g7⟩
          · refine .inl ⟨f, q, f1, f2, f3, fun σ h => ?_, fun σ h => ?_⟩
            · obtain ⟨s1, x1, x2, x3, x4⟩ := cl σ h
              obtain ⟨s2, y1, y2, y3⟩ := f4 s1 x3
              exact ⟨s2, by rw [x1, y1, bso, if_pos rfl], Dw_tr x2 y2, y3⟩
            · obtain ⟨s1, x1, x2, x3, x4, x5⟩ := rl2 σ h
              obtain ⟨s2, y1, y2, y3⟩ := f5 s1 x3 x4
              exact ⟨s2, by rw [x1, y1, bso, tail8_b f1 f2 y3], Dw_tr x2 y2, y3⟩
          · have hh3 := hd_ge n b g2
            have he3 := en_ge n b g2
            by_cases hs : sfa n b p' = 0
            · refine .inr ⟨D', en n b p', AT', MT', HJ', T ||| 2 ^ liL.getD k 0, U ||| 2 ^ cr k, by omega, he3.2.1, g3, g4, TU_set hk tu g5, fun σ h => ?_, fun σ h => ?_⟩
              · obtain ⟨s1, x1, x2, x3, x4⟩ := cl σ h
                obtain ⟨s2, y1, y2, y3, y4⟩ := g6 s1 x3
                obtain ⟨s3, z1, z2, z3⟩ := (ts7 y3.1 g2 y3.2.1).2 hs
                refine ⟨s3, ?_, Dw_tr x2 (Dw_tr y2 (Ff_sg (F7_Ff z2))), CSb_F7 z2 z3.2.1 y3, (z2 39 2 (by omega)).trans (y4.trans x4)⟩
                rw [x1, y1, bso, if_neg (show ¬ (1 : Int32) = 0 by decide), z1, bso, if_neg (show ¬ (1 : Int32) = 0 by decide)]
              · obtain ⟨s1, x1, x2, x3, x4, x5⟩ := rl2 σ h
                obtain ⟨s2, y1, y2, y3, y4, y5⟩ := g7 s1 x3 x4
                obtain ⟨s3, z1, z2, z3⟩ := (tail8 y3.1 g2 y4).2 hs
                exact ⟨s3, by rw [x1, y1, bso, z1], Dw_tr x2 (Dw_tr y2 (FrJ_sg (Fr8_J z2))), RSb_fr z2 y3, z3, (z2 60 18 (by omega)).trans (y5.trans x5)⟩
            · have s2' : sfa n b p' < 10 ∧ 1 ≤ sfa n b p' := by have := sfa_le n b p'; omega
              refine .inl ⟨sfa n b p', hd n b p', s2'.2, s2'.1, hh3.2, fun σ h => ?_, fun σ h => ?_⟩
              · obtain ⟨s1, x1, x2, x3, x4⟩ := cl σ h
                obtain ⟨s2, y1, y2, y3, y4⟩ := g6 s1 x3
                obtain ⟨s3, z1, z2, z3⟩ := (ts7 y3.1 g2 y3.2.1).1 hs
                refine ⟨s3, ?_, Dw_tr x2 (Dw_tr y2 (Ff_sg z2)), z3⟩
                rw [x1, y1, bso, if_neg (show ¬ (1 : Int32) = 0 by decide), z1, bso, if_pos rfl]
              · obtain ⟨s1, x1, x2, x3, x4, x5⟩ := rl2 σ h
                obtain ⟨s2, y1, y2, y3, y4, y5⟩ := g7 s1 x3 x4
                obtain ⟨s3, z1, z2, z3⟩ := (tail8 y3.1 g2 y4).1 hs
                exact ⟨s3, by rw [x1, y1, bso, z1], Dw_tr x2 (Dw_tr y2 (FrJ_sg (Fr8_J z2))), z3⟩
  · have hN' : ∀ k, k < 11 → ¬ NM n b p k := fun k a w => hN ⟨k, a, w⟩
    refine .inl ⟨2, hd n b p, by omega, by omega, hh.2, fun σ h => ?_, fun σ h => ?_⟩
    · obtain ⟨s1, x1, x2, x3, x4, x5⟩ := clA σ h
      obtain ⟨s2, y1, y2, y3⟩ := cref s1 2 x3
      refine ⟨s2, ?_, Dw_tr (Ff_sg (F7_Ff x2)) (Ff_sg y2), y3⟩
      rw [x1, (lin7 x3 hp).2 hN', bso, if_pos rfl]
      exact y1
    · obtain ⟨y1, y2, y3, y4, y5⟩ := h.2.1.2 hk0
      obtain ⟨s1, x1, x2, x3⟩ := fail8 2 y1 y2
      refine ⟨s1, ?_, FrJ_sg (Fr8_J x2), x3⟩
      have nh : ∃ w : Int32, f_X8_nameHere σ = some w ∧ f_X8_in w.toInt64 0 10 = some 0 := by
        by_cases q : ∃ k, k < 16 ∧ NM n b p k
        · obtain ⟨k, k1, k2⟩ := q
          have : 11 ≤ k := by
            by_cases z : k < 11
            · exact absurd k2 (hN' k z)
            · omega
          refine ⟨_, (nh8 h.1.1 h.1.2.1 hp h.2.1 hk0).1 k k1 k2, ?_⟩
          have c : ∀ k, k < 16 → 11 ≤ k → 10 < cr k ∧ cr k < 16 := by decide
          have c' := c k k1 this
          rw [show f_X8_in (nI (cr k)).toInt64 0 10 = _ from inN (lo := 0) (hi := 10) (by omega) (by omega) (by omega), if_pos (by omega)]
        · exact ⟨_, (nh8 h.1.1 h.1.2.1 hp h.2.1 hk0).2 fun k a c => q ⟨k, a, c⟩, rfl⟩
      obtain ⟨w, w1, w2⟩ := nh
      unfold f_X8_readLine
      rw [w1, bso, w2, bso, if_pos rfl, show f_X8_fails σ 2 = _ from x1, bso]
