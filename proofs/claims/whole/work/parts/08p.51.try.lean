/-! slack, fast, fog -/
theorem u_slack {σ : ZI} {τ : ZL} (I : Inv σ) (hL : InL τ) (a b : Int32) : RLi (f_X7_slack σ τ a b) (fun s => f_X8_slack s a b) := by
  obtain ⟨t, iT, iR⟩ := id I
  have kk := iT.1
  have k1 := kk.1
  have e7 : σ 2 1 = nI (t 0 1) := iT.2.1.1 1 (by omega)
  have e8 : ∀ s : ZI, s 60 3 = nI (t 0 1) → f_X8_isArm s a = some (if a < 0 ∨ nI (t 0 1) ≤ a then 0 else 1) := fun s h => isA8 h (by omega) a
  unfold f_X7_slack f_X8_slack
  rw [isA7, e7, ten7, ten8]
  obtain ⟨ha, hb⟩ := arms_ten iT a b
  rcases ha with h | ⟨i, hi, rfl⟩
  · exact ri_bad I hL (by rw [if_pos h]; rfl) (by rw [e8 σ iT.2.2.2.2.1, if_pos h]; rfl)
  have hi' := ix_no hi (show t 0 1 < 2 ^ 31 by omega)
  rw [if_neg hi', bso, if_neg (by decide)]
  rcases hb with h | ⟨k, hk1, hk2, rfl⟩
  · exact ri_bad I hL (by rw [if_pos h]) (by rw [e8 σ iT.2.2.2.2.1, if_neg hi', bso, if_neg (by decide), if_pos h]; rfl)
  have hk' : ¬ (nI k < 1 ∨ nI 10 < nI k) := rng' (lo := 1) (by omega) hk2 (by omega)
  rw [if_neg hk', if_pos (by decide), ltq]
  have iB : InvT t (s41 σ (t 0 0)) := InvT_sg (s41_sg _ _) iT
  have r6 : ruP 6 13 1 := by unfold ruP; omega
  have L : ∀ (d f7 f8 : Nat) (σc : ZI) (τ : ZL), d ≤ 11 → d < f7 → d + 1 < f8 → InvT t σc → s41 σc (t 0 0) = s41 σ (t 0 0) → (d = 0 → σc = s41 σ (t 0 0)) → InL τ → ∃ r τ', f_X7_slack_28 (nI i) (nI k) f7 σc τ (nI d + (-1)) = some (r, s41 σ (t 0 0), τ') ∧ InL τ' ∧ ∀ σr, TR (fun i => i = 13) (s41 σ (t 0 0)) σr → ∃ f, f_X8_slack_31 (nI i) (nI k) f8 σr (-4) (nI d + (-1)) = some (r, f) ∧ Sg (s41 σ (t 0 0)) f := by
    intro d
    induction d with
    | zero =>
      intro f7 f8 σc τ h1 h2 h3 h4 h5 h6 h7
      obtain ⟨f7, rfl⟩ : ∃ m, f7 = m + 1 := ⟨f7 - 1, by omega⟩
      obtain ⟨f8, rfl⟩ : ∃ m, f8 = m + 1 := ⟨f8 - 1, by omega⟩
      refine ⟨-4, τ, ?_, h7, fun σr hr => ?_⟩
      · rw [f_X7_slack_28, if_pos (by decide), if_pos (by decide), h6 rfl]
      · obtain ⟨f, g1, g2⟩ := TR_fin (by rintro i rfl; omega) hr
        exact ⟨f, by rw [f_X8_slack_31, if_pos (by decide)]; unfold f_X8_slack_76; rw [g1, bso], g2⟩
    | succ d ih =>
      intro f7 f8 σc τ h1 h2 h3 h4 h5 h6 h7
      obtain ⟨f7, rfl⟩ : ∃ m, f7 = m + 1 := ⟨f7 - 1, by omega⟩
      obtain ⟨f8, rfl⟩ : ∃ m, f8 = m + 1 := ⟨f8 - 1, by omega⟩
      obtain ⟨τ', g1, g2⟩ := hadby7 (τ := τ) h4 h7 hi (k := k) hk2 (s := d) (by omega) (cl := -4) (.inl ⟨rfl, rfl⟩)
      have kd : TK (tset t 0 6 d) := TK_rule r6 kk (by omega)
      have step8 : ∀ σr, TR (fun i => i = 13) (s41 σ (t 0 0)) σr → ∃ σ', f_X8_slack_31 (nI i) (nI k) (f8 + 1) σr (-4) (nI d) = (if SO t d (t 5) (v2 t (t 2 i - 1)) * (hN (t 1 i) (t 0 7) : Int) < (k : Int) * (DN t : Int) then f_X8_slack_31 (nI i) (nI k) f8 σ' (-4) (nI d + (-1)) else f_X8_slack_31 (nI i) (nI k) f8 σ' (nI d) (nI d + (-1))) ∧ TR (fun i => i = 13) (s41 σ (t 0 0)) σ' := by
        intro σr hr
        have hr2 : TR (fun i => i = 13) (s41 σ (t 0 0)) (va_up σr 61 (upd (σr 61) 13 (nI d - nI 1))) := TR_set (v := nI d - nI 1) rfl (by omega) hr
        obtain ⟨σ', q1, q2⟩ := isHad8 (k := k) (i := i) (TR_rule r6 iB kd hr2 (up_same _ _ _ _)) hi hk2
        have e : SO (tset t 0 6 d) (tset t 0 6 d 0 6) (tset t 0 6 d 5) (v3 (tset t 0 6 d) i) = SO t d (t 5) (v2 t (t 2 i - 1)) * (hN (t 1 i) (t 0 7) : Int) := by
          rw [tset_same, ← SO_v3]
          rfl
        have e2 : DN (tset t 0 6 d) = DN t := rfl
        rw [e, e2] at q1
        refine ⟨σ', ?_, TR_Sc hr2 q2⟩
        rw [f_X8_slack_31, if_neg (nI_pos (by omega)), if_pos rfl, ltq, show va_up σr 61 (upd (σr 61) 13 (nI d - 1)) = va_up σr 61 (upd (σr 61) 13 (nI d - nI 1)) from rfl, q1, bso]
        unfold f_X8_slack_69
        dsimp only
        by_cases z : SO t d (t 5) (v2 t (t 2 i - 1)) * (hN (t 1 i) (t 0 7) : Int) < (k : Int) * (DN t : Int)
        · rw [if_pos z, if_pos rfl, if_pos z]
        · rw [if_neg z, if_neg (by decide), if_neg z]
      rw [f_X7_slack_28, if_pos (by decide), pk_m1, show ((stL 101).getD (6 : Int32).toNatClampNeg 0) = (0 : Int32) from rfl, if_neg (nI_pos (by omega)), g1, bso, h5]
      dsimp only
      by_cases z : SO t d (t 5) (v2 t (t 2 i - 1)) * (hN (t 1 i) (t 0 7) : Int) < (k : Int) * (DN t : Int)
      · rw [if_pos z, if_pos rfl]
        obtain ⟨r, τ2, j1, j2, j3⟩ := ih f7 f8 (s41 σ (t 0 0)) τ' (by omega) (by omega) (by omega) iB (s41_2 σ _) (fun _ => rfl) g2
        refine ⟨r, τ2, j1, j2, fun σr hr => ?_⟩
        obtain ⟨σ', x1, x2⟩ := step8 σr hr
        obtain ⟨f, y1, y2⟩ := j3 σ' x2
        exact ⟨f, by rw [x1, if_pos z, y1], y2⟩
      · rw [if_neg z, if_neg (by decide)]
        refine ⟨nI d, τ', rfl, g2, fun σr hr => ?_⟩
        obtain ⟨σ', x1, x2⟩ := step8 σr hr
        obtain ⟨f, y1, y2⟩ := TR_fin (by rintro i rfl; omega) x2
        refine ⟨f, ?_, y2⟩
        obtain ⟨f8, rfl⟩ : ∃ m, f8 = m + 1 := ⟨f8 - 1, by omega⟩
        rw [x1, if_neg z, f_X8_slack_31, if_neg (nI_nm4 (by omega))]
        unfold f_X8_slack_76
        rw [y1, bso]
        split <;> rfl
  obtain ⟨r, τ', j1, j2, j3⟩ := L 11 3000 3000 σ τ (by omega) (by omega) (by omega) iT rfl (fun h => absurd h (by omega)) hL
  obtain ⟨f, y1, y2⟩ := j3 _ (TR_0 _ (s41 σ (t 0 0)))
  refine ⟨r, s41 σ (t 0 0), τ', f, ?_, ?_, Inv_sg y2 (Inv_sg (s41_sg _ _) I), j2⟩
  · exact j1
  · dsimp only
    rw [e8 (s41 σ (t 0 0)) iT.2.2.2.2.1, if_neg hi', bso, if_neg (by decide), if_neg hk', bso, if_neg (by decide), show f_X8_copies (s41 σ (t 0 0)) 0 72 = _ from cop_n (a := 0) (b := 72) (by omega) (by omega) (by omega) _, bso]
    exact y1
theorem u_fast {σ : ZI} {τ : ZL} (I : Inv σ) (hL : InL τ) (a b : Int32) : RLi (f_X7_fast σ τ a b) (fun s => f_X8_fast s a b) := by
  obtain ⟨t, iT, iR⟩ := id I
  have kk := iT.1
  have k1 := kk.1
  have e7 : σ 2 1 = nI (t 0 1) := iT.2.1.1 1 (by omega)
  have e8 : ∀ s : ZI, s 60 3 = nI (t 0 1) → f_X8_isArm s a = some (if a < 0 ∨ nI (t 0 1) ≤ a then 0 else 1) := fun s h => isA8 h (by omega) a
  unfold f_X7_fast f_X8_fast
  rw [isA7, e7, ten7, ten8]
  obtain ⟨ha, hb⟩ := arms_ten iT a b
  rcases ha with h | ⟨i, hi, rfl⟩
  · exact ri_bad I hL (by rw [if_pos h]; rfl) (by rw [e8 σ iT.2.2.2.2.1, if_pos h]; rfl)
  have hi' := ix_no hi (show t 0 1 < 2 ^ 31 by omega)
  rw [if_neg hi', bso, if_neg (by decide)]
  rcases hb with h | ⟨k, hk1, hk2, rfl⟩
  · exact ri_bad I hL (by rw [if_pos h]) (by rw [e8 σ iT.2.2.2.2.1, if_neg hi', bso, if_neg (by decide), if_pos h]; rfl)
  have hk' : ¬ (nI k < 1 ∨ nI 10 < nI k) := rng' (lo := 1) (by omega) hk2 (by omega)
  obtain ⟨t2, b1, b2, b3, b4, b5⟩ := pb7 iT hL
  rw [if_neg hk', b1, bso]
  dsimp only
  rw [if_pos (by decide), ltq]
  have iB : InvT t (s41 σ (t 0 0)) := InvT_sg (s41_sg _ _) iT
  have r7 : ruP 7 14 5 := by unfold ruP; omega
  have ob := SO_b kk (s := t 0 6) (by omega) (cf := t 5) (fun m hm => (kk.2.2.2.1 m hm).2.2) t (t 2 i - 1)
  have L : ∀ (d f7 f8 : Nat), d ≤ 9 → d < f7 → d + 1 < f8 → ∃ r, f_X7_fast_32 (nI i) (nI k) f7 (s41 σ (t 0 0)) t2 (nI d) = some (r, s41 σ (t 0 0), t2) ∧ ∀ σr, TR (fun i => i = 14) (s41 σ (t 0 0)) σr → ∃ f, f_X8_fast_31 (nI i) (nI k) f8 σr (-4) (nI d) = some (r, f) ∧ Sg (s41 σ (t 0 0)) f := by
    intro d
    induction d with
    | zero =>
      intro f7 f8 h1 h2 h3
      obtain ⟨f7, rfl⟩ : ∃ m, f7 = m + 1 := ⟨f7 - 1, by omega⟩
      obtain ⟨f8, rfl⟩ : ∃ m, f8 = m + 1 := ⟨f8 - 1, by omega⟩
      refine ⟨-4, ?_, fun σr hr => ?_⟩
      · rw [f_X7_fast_32, if_pos (by decide), if_pos (by decide)]
      · obtain ⟨f, g1, g2⟩ := TR_fin (by rintro i rfl; omega) hr
        exact ⟨f, by rw [f_X8_fast_31, if_pos (by decide)]; unfold f_X8_fast_76; rw [g1, bso], g2⟩
    | succ d ih =>
      intro f7 f8 h1 h2 h3
      obtain ⟨f7, rfl⟩ : ∃ m, f7 = m + 1 := ⟨f7 - 1, by omega⟩
      obtain ⟨f8, rfl⟩ : ∃ m, f8 = m + 1 := ⟨f8 - 1, by omega⟩
      have kd : TK (tset t 0 7 (d + 1)) := TK_rule r7 kk (by omega)
      have step8 : ∀ σr, TR (fun i => i = 14) (s41 σ (t 0 0)) σr → ∃ σ', f_X8_fast_31 (nI i) (nI k) (f8 + 1) σr (-4) (nI (d + 1)) = (if SO t (t 0 6) (t 5) (v2 t (t 2 i - 1)) * (hN (t 1 i) (d + 1) : Int) < (k : Int) * (DN t : Int) then f_X8_fast_31 (nI i) (nI k) f8 σ' (-4) (nI d) else f_X8_fast_31 (nI i) (nI k) f8 σ' (nI (d + 1)) (nI d)) ∧ TR (fun i => i = 14) (s41 σ (t 0 0)) σ' := by
        intro σr hr
        have hr2 : TR (fun i => i = 14) (s41 σ (t 0 0)) (va_up σr 61 (upd (σr 61) 14 (nI (d + 1) - nI 5))) := TR_set (v := nI (d + 1) - nI 5) rfl (by omega) hr
        obtain ⟨σ', q1, q2⟩ := isHad8 (k := k) (i := i) (TR_rule r7 iB kd hr2 (up_same _ _ _ _)) hi hk2
        have e : SO (tset t 0 7 (d + 1)) (tset t 0 7 (d + 1) 0 6) (tset t 0 7 (d + 1) 5) (v3 (tset t 0 7 (d + 1)) i) = SO t (t 0 6) (t 5) (v2 t (t 2 i - 1)) * (hN (t 1 i) (d + 1) : Int) := SO_mul t (t 0 6) (t 5) (v2 t (t 2 i - 1)) _
        have e2 : DN (tset t 0 7 (d + 1)) = DN t := rfl
        rw [e, e2] at q1
        refine ⟨σ', ?_, TR_Sc hr2 q2⟩
        rw [f_X8_fast_31, if_neg (nI_nle (by omega) (by omega)), if_pos rfl, ltq, show va_up σr 61 (upd (σr 61) 14 (nI (d + 1) - 5)) = va_up σr 61 (upd (σr 61) 14 (nI (d + 1) - nI 5)) from rfl, q1, bso]
        unfold f_X8_fast_69
        dsimp only
        rw [pk_m1]
        by_cases z : SO t (t 0 6) (t 5) (v2 t (t 2 i - 1)) * (hN (t 1 i) (d + 1) : Int) < (k : Int) * (DN t : Int)
        · rw [if_pos z, if_pos rfl, if_pos z]
        · rw [if_neg z, if_neg (by decide), if_neg z]
      rw [f_X7_fast_32, if_pos (by decide), show ((stL 101).getD (7 : Int32).toNatClampNeg 0) = (1 : Int32) from rfl, if_neg (show ¬ nI (d + 1) < 1 from nI_nlt (a := d + 1) (b := 1) (by omega) (by omega)), met7 iT b5 hi, bso, hold7 iT hi (by omega), bso, whole_n kk b2, bso, pk_m1]
      simp only [hb_cmp kk ob (hN_le (t 1 i) (d + 1)) hk2]
      by_cases z : SO t (t 0 6) (t 5) (v2 t (t 2 i - 1)) * (hN (t 1 i) (d + 1) : Int) < (k : Int) * (DN t : Int)
      · simp only [z, if_true]
        obtain ⟨r, j1, j3⟩ := ih f7 f8 (by omega) (by omega) (by omega)
        refine ⟨r, j1, fun σr hr => ?_⟩
        obtain ⟨σ', x1, x2⟩ := step8 σr hr
        obtain ⟨f, y1, y2⟩ := j3 σ' x2
        exact ⟨f, by rw [x1, if_pos z, y1], y2⟩
      · simp only [z, if_false]
        refine ⟨nI (d + 1), rfl, fun σr hr => ?_⟩
        obtain ⟨σ', x1, x2⟩ := step8 σr hr
        obtain ⟨f, y1, y2⟩ := TR_fin (by rintro i rfl; omega) x2
        refine ⟨f, ?_, y2⟩
        obtain ⟨f8, rfl⟩ : ∃ m, f8 = m + 1 := ⟨f8 - 1, by omega⟩
        rw [x1, if_neg z, f_X8_fast_31, if_neg (nI_nm4 (by omega))]
        unfold f_X8_fast_76
        rw [y1, bso]
        split <;> rfl
  obtain ⟨r, j1, j3⟩ := L 9 3000 3000 (by omega) (by omega) (by omega)
  obtain ⟨f, y1, y2⟩ := j3 _ (TR_0 _ (s41 σ (t 0 0)))
  refine ⟨r, s41 σ (t 0 0), t2, f, ?_, ?_, Inv_sg y2 (Inv_sg (s41_sg _ _) I), b3⟩
  · exact j1
  · dsimp only
    rw [e8 (s41 σ (t 0 0)) iT.2.2.2.2.1, if_neg hi', bso, if_neg (by decide), if_neg hk', bso, if_neg (by decide), show f_X8_copies (s41 σ (t 0 0)) 0 72 = _ from cop_n (a := 0) (b := 72) (by omega) (by omega) (by omega) _, bso]
    exact y1
