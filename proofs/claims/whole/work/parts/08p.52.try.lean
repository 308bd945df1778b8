/-! fog, best *-/
def tclr (t : NN) (v : Nat) : NN := fun r i => if r = 5 then v else t r i
theorem TK_clr {t : NN} (k : TK t) {v : Nat} (hv : v ≤ 10) : TK (tclr t v) := by
  obtain ⟨k1, k2, k3, k4, k5, k6⟩ := k
  exact ⟨k1, k2, k3, fun m hm => ⟨(k4 m hm).1, (k4 m hm).2.1, hv⟩, k5, k6⟩
theorem TR_clr {t : NN} {σ a : ZI} {v : Nat} (hv : v ≤ 10) (iT : InvT t σ) (h : TR (fun i => 3 ≤ i ∧ i < 6) σ a) (hs : ∀ m, m < t 0 2 → a 61 (3 + m) = nI v) : R8 (tclr t v) a := by
  have k1 := iT.1.1
  obtain ⟨q1, q2, q3, q4, q5, q6, q7, q8, q9, q10⟩ := iT.2.2.1
  have g : ∀ i, i < 72 → ¬ (3 ≤ i ∧ i < 6) → a 61 (0 + i) = σ 61 (0 + i) := fun i h1 h2 => by rw [Nat.zero_add]; exact h.2.1 i h1 h2
  refine ⟨TK_clr iT.1 hv, ⟨fun i hi => ?_, fun m hm => ?_, fun i hi => ?_, (g 11 (by omega) (by omega)).trans q4, (g 12 (by omega) (by omega)).trans q5, (g 13 (by omega) (by omega)).trans q6, (g 14 (by omega) (by omega)).trans q7, (g 15 (by omega) (by omega)).trans q8, (g 16 (by omega) (by omega)).trans q9, (g 17 (by omega) (by omega)).trans q10⟩, TR_RS h iT.2.2.2⟩
  · have hi' : i < t 0 1 := hi
    exact (g i (by omega) (by omega)).trans (q1 i hi')
  · rw [Nat.zero_add]; exact hs m hm
  · have hi' : i < t 0 3 := hi
    exact (g (6 + i) (by omega) (by omega)).trans (q3 i hi')
theorem u_fog {σ : ZI} {τ : ZL} (I : Inv σ) (hL : InL τ) (a b : Int32) : RLi (f_X7_fog σ τ a b) (fun s => f_X8_fog s a b) := by
  obtain ⟨t, iT, iR⟩ := id I
  have kk := iT.1
  have k1 := kk.1
  have e7 : σ 2 1 = nI (t 0 1) := iT.2.1.1 1 (by omega)
  have e8 : ∀ s : ZI, s 60 3 = nI (t 0 1) → f_X8_isArm s a = some (if a < 0 ∨ nI (t 0 1) ≤ a then 0 else 1) := fun s h => isA8 h (by omega) a
  unfold f_X7_fog f_X8_fog
  rw [isA7, e7, ten7, ten8]
  obtain ⟨ha, hb⟩ := arms_ten iT a b
  rcases ha with h | ⟨i, hi, rfl⟩
  · exact ri_bad I hL (by rw [if_pos h]; rfl) (by rw [e8 σ iT.2.2.2.2.1, if_pos h]; rfl)
  have hi' := ix_no hi (show t 0 1 < 2 ^ 31 by omega)
  rw [if_neg hi', bso, if_neg (by decide)]
  rcases hb with h | ⟨k, hk1, hk2, rfl⟩
  · exact ri_bad I hL (by rw [if_pos h]) (by rw [e8 σ iT.2.2.2.2.1, if_neg hi', bso, if_neg (by decide), if_pos h]; rfl)
  have hk' : ¬ (nI k < 1 ∨ nI 10 < nI k) := rng' (lo := 1) (by omega) hk2 (by omega)
  rw [if_neg hk']
  have iB : InvT t (s41 σ (t 0 0)) := InvT_sg (s41_sg _ _) iT
  have In : ∀ (kf : ZI → Int32 → Int32 → Option (Int32 × ZI)) (v : Nat) (d m fu : Nat) (σr : ZI), m + d = t 0 2 → d < fu → TR (fun i => 3 ≤ i ∧ i < 6) (s41 σ (t 0 0)) σr → (∀ m', m' < m → σr 61 (3 + m') = nI v) → ∃ σ2, f_X8_fog_46 (nI i) (nI k) kf fu σr (nI v) (nI m) = f_X8_fog_46 (nI i) (nI k) kf 1 σ2 (nI v) (nI (t 0 2)) ∧ TR (fun i => 3 ≤ i ∧ i < 6) (s41 σ (t 0 0)) σ2 ∧ ∀ m', m' < t 0 2 → σ2 61 (3 + m') = nI v := by
    intro kf v d
    induction d with
    | zero =>
      intro m fu σr h1 h2 h3 h4
      obtain ⟨fu, rfl⟩ : ∃ m, fu = m + 1 := ⟨fu - 1, by omega⟩
      obtain rfl : m = t 0 2 := by omega
      have e5 : σr 60 5 = nI (t 0 2) := (h3.1 60 5 (by omega) (by omega)).trans iB.2.2.2.2.2.1
      exact ⟨σr, by rw [f_X8_fog_46, f_X8_fog_46, e5, if_pos (Int32.le_refl _), if_pos (Int32.le_refl _)], h3, h4⟩
    | succ d ih =>
      intro m fu σr h1 h2 h3 h4
      obtain ⟨fu, rfl⟩ : ∃ m, fu = m + 1 := ⟨fu - 1, by omega⟩
      have e5 : σr 60 5 = nI (t 0 2) := (h3.1 60 5 (by omega) (by omega)).trans iB.2.2.2.2.2.1
      rw [f_X8_fog_46, e5, if_neg (nI_ge (by omega) (by omega)), show (3 : Int32) + nI m = nI (3 + m) from nI_add 3 m, inB_n (by omega) (by omega), if_pos rfl, nI_clamp (by omega), ltq, nI_1]
      refine ih (m + 1) fu _ (by omega) (by omega) (TR_set ⟨by omega, by omega⟩ (by omega) h3) (fun m' hm => ?_)
      by_cases z : m' = m
      · subst z; exact up_same _ _ _ _
      · rw [up_ne σr (.inr (by omega))]; exact h4 m' (by omega)
  have L : ∀ (d v f7 f8 : Nat) (σc : ZI) (τ : ZL), v + d = 11 → d < f7 → d + 1 < f8 → InvT t σc → s41 σc (t 0 0) = s41 σ (t 0 0) → (d = 0 → σc = s41 σ (t 0 0)) → InL τ → ∃ r τ', f_X7_fog_23 (nI i) (nI k) f7 σc τ (nI v) = some (r, s41 σ (t 0 0), τ') ∧ InL τ' ∧ ∀ σr, TR (fun i => 3 ≤ i ∧ i < 6) (s41 σ (t 0 0)) σr → ∃ f, f_X8_fog_30 (nI i) (nI k) f8 σr (-4) (nI v) = some (r, f) ∧ Sg (s41 σ (t 0 0)) f := by
    intro d
    induction d with
    | zero =>
      intro v f7 f8 σc τ h1 h2 h3 h4 h5 h6 h7
      obtain ⟨f7, rfl⟩ : ∃ m, f7 = m + 1 := ⟨f7 - 1, by omega⟩
      obtain ⟨f8, rfl⟩ : ∃ m, f8 = m + 1 := ⟨f8 - 1, by omega⟩
      obtain rfl : v = 11 := by omega
      refine ⟨-4, τ, ?_, h7, fun σr hr => ?_⟩
      · rw [f_X7_fog_23, if_pos (by decide), h6 rfl]
      · obtain ⟨f, g1, g2⟩ := TR_fin (by rintro i ⟨-, z⟩; omega) hr
        exact ⟨f, by rw [f_X8_fog_30, if_pos (by decide)]; unfold f_X8_fog_95; rw [g1, bso], g2⟩
    | succ d ih =>
      intro v f7 f8 σc τ h1 h2 h3 h4 h5 h6 h7
      obtain ⟨f7, rfl⟩ : ∃ m, f7 = m + 1 := ⟨f7 - 1, by omega⟩
      obtain ⟨f8, rfl⟩ : ∃ m, f8 = m + 1 := ⟨f8 - 1, by omega⟩
      obtain ⟨τ', g1, g2⟩ := hadby7 (τ := τ) h4 h7 hi (k := k) hk2 (s := t 0 6) (by omega) (cl := nI v) (cf := fun _ => v) (.inr ⟨v, by omega, rfl, rfl⟩)
      have n10 : ¬ (10 : Int32) < nI v := nI_nlt (b := v) (a := 10) (by omega) (by omega)
      have step8 : ∀ σr, TR (fun i => 3 ≤ i ∧ i < 6) (s41 σ (t 0 0)) σr → ∃ σ', f_X8_fog_30 (nI i) (nI k) (f8 + 1) σr (-4) (nI v) = (if SO t (t 0 6) (fun _ => v) (v2 t (t 2 i - 1)) * (hN (t 1 i) (t 0 7) : Int) < (k : Int) * (DN t : Int) then f_X8_fog_30 (nI i) (nI k) f8 σ' (-4) (nI (v + 1)) else f_X8_fog_30 (nI i) (nI k) f8 σ' (nI v) (nI (v + 1))) ∧ TR (fun i => 3 ≤ i ∧ i < 6) (s41 σ (t 0 0)) σ' := by
        intro σr hr
        obtain ⟨σ2, x1, x2, x3⟩ := In (fun σ v3 v4 => f_X8_fog_30 (nI i) (nI k) f8 σ v3 v4) v (t 0 2) 0 3000 σr (by omega) (by omega) hr (fun m hm => absurd hm (Nat.not_lt_zero _))
        have r8 := TR_clr (v := v) (by omega) iB x2 x3
        obtain ⟨σ', q1, q2⟩ := isHad8 (k := k) (i := i) r8 hi hk2
        have e : SO (tclr t v) (tclr t v 0 6) (tclr t v 5) (v3 (tclr t v) i) = SO t (t 0 6) (fun _ => v) (v2 t (t 2 i - 1)) * (hN (t 1 i) (t 0 7) : Int) := SO_mul t (t 0 6) (fun _ => v) (v2 t (t 2 i - 1)) _
        have e2 : DN (tclr t v) = DN t := rfl
        rw [e, e2] at q1
        refine ⟨σ', ?_, TR_Sc x2 q2⟩
        rw [f_X8_fog_30, if_neg n10, if_pos rfl]
        refine Eq.trans x1 ?_
        have e5 : σ2 60 5 = nI (t 0 2) := r8.2.2.2.2.1
        rw [f_X8_fog_46, e5, if_pos (Int32.le_refl _), q1, bso]
        unfold f_X8_fog_88
        dsimp only
        rw [nI_1]
        by_cases z : SO t (t 0 6) (fun _ => v) (v2 t (t 2 i - 1)) * (hN (t 1 i) (t 0 7) : Int) < (k : Int) * (DN t : Int)
        · rw [if_pos z, if_pos rfl, if_pos z]
        · rw [if_neg z, if_neg (by decide), if_neg z]
      rw [f_X7_fog_23, if_neg n10, v1_6, bso, show σc 2 6 = _ from h4.2.1.1 6 (by omega), g1, bso, h5, nI_1]
      dsimp only
      by_cases z : SO t (t 0 6) (fun _ => v) (v2 t (t 2 i - 1)) * (hN (t 1 i) (t 0 7) : Int) < (k : Int) * (DN t : Int)
      · rw [if_pos z, if_pos rfl]
        obtain ⟨r, τ2, j1, j2, j3⟩ := ih (v + 1) f7 f8 (s41 σ (t 0 0)) τ' (by omega) (by omega) (by omega) iB (s41_2 σ _) (fun _ => rfl) g2
        refine ⟨r, τ2, j1, j2, fun σr hr => ?_⟩
        obtain ⟨σ', x1, x2⟩ := step8 σr hr
        obtain ⟨f, y1, y2⟩ := j3 σ' x2
        exact ⟨f, by rw [x1, if_pos z, y1], y2⟩
      · rw [if_neg z, if_neg (by decide)]
        refine ⟨nI v, τ', rfl, g2, fun σr hr => ?_⟩
        obtain ⟨σ', x1, x2⟩ := step8 σr hr
        obtain ⟨f, y1, y2⟩ := TR_fin (by rintro i ⟨-, z⟩; omega) x2
        refine ⟨f, ?_, y2⟩
        obtain ⟨f8, rfl⟩ : ∃ m, f8 = m + 1 := ⟨f8 - 1, by omega⟩
        rw [x1, if_neg z, f_X8_fog_30, if_neg (nI_nm4 (k := v) (by omega))]
        unfold f_X8_fog_95
        rw [y1, bso]
        split <;> rfl
  obtain ⟨r, τ', j1, j2, j3⟩ := L 11 0 3000 3000 σ τ (by omega) (by omega) (by omega) iT rfl (fun h => absurd h (by omega)) hL
  obtain ⟨f, y1, y2⟩ := j3 _ (TR_0 _ (s41 σ (t 0 0)))
  refine ⟨r, s41 σ (t 0 0), τ', f, ?_, ?_, Inv_sg y2 (Inv_sg (s41_sg _ _) I), j2⟩
  · exact j1
  · dsimp only
    rw [e8 (s41 σ (t 0 0)) iT.2.2.2.2.1, if_neg hi', bso, if_neg (by decide), if_neg hk', bso, if_neg (by decide), show f_X8_copies (s41 σ (t 0 0)) 0 72 = _ from cop_n (a := 0) (b := 72) (by omega) (by omega) (by omega) _, bso]
    exact y1
def tnet (t : NN) (o i : Nat) : NN := tset (tset t 0 8 o) 0 9 i
theorem ON_net (t : NN) (o i : Nat) : ON t (tnet t o i) := fun r j h => by
  unfold tnet
  rw [tset_ne _ (by omega), tset_ne _ (by omega)]
theorem TK_net {t : NN} (kk : TK t) {o i : Nat} (h1 : 1 ≤ o) (h2 : o ≤ 10) (h3 : o < i) (h4 : i ≤ 11) : TK (tnet t o i) := by
  have k1 := kk.1
  have r8 : ruP 8 15 2 := by unfold ruP; omega
  have r9 : ruP 9 16 4 := by unfold ruP; omega
  have A : TK (tset (tset t 0 9 11) 0 8 o) := TK_rule r8 (TK_rule r9 kk (by refine ⟨?_, ?_, ?_, ?_, ?_, ?_, ?_⟩ <;> intro <;> omega)) (by
    have : tset t 0 9 11 0 9 = 11 := tset_same t 0 9 11
    refine ⟨?_, ?_, ?_, ?_, ?_, ?_, ?_⟩ <;> intro <;> omega)
  have e : tnet t o i = tset (tset (tset t 0 9 11) 0 8 o) 0 9 i := by
    funext r j
    unfold tnet tset
    by_cases hr : r = 0
    · subst hr
      by_cases hi : j = 9
      · simp [hi]
      · simp [hi]
    · simp [hr]
  rw [e]
  refine TK_rule r9 A ?_
  have : tset (tset t 0 9 11) 0 8 o 0 8 = o := tset_same _ 0 8 o
  refine ⟨?_, ?_, ?_, ?_, ?_, ?_, ?_⟩ <;> intro <;> omega
theorem TR_net {t : NN} {σ a : ZI} {o i : Nat} (iT : InvT t σ) (k : TK (tnet t o i)) (h : TR (fun i => i = 15 ∨ i = 16) σ a) (h1 : a 61 15 = nI o - 2) (h2 : a 61 16 = nI i - 4) : R8 (tnet t o i) a := by
  have k1 := iT.1.1
  have on := ON_net t o i
  obtain ⟨q1, q2, q3, q4, q5, q6, q7, q8, q9, q10⟩ := iT.2.2.1
  have g : ∀ i, i < 72 → i ≠ 15 → i ≠ 16 → a 61 (0 + i) = σ 61 (0 + i) := fun i h3 h4 h5 => by rw [Nat.zero_add]; exact h.2.1 i h3 (by omega)
  refine ⟨k, ⟨fun i hi => ?_, fun m hm => ?_, fun i hi => ?_, (g 11 (by omega) (by omega) (by omega)).trans q4, (g 12 (by omega) (by omega) (by omega)).trans q5, (g 13 (by omega) (by omega) (by omega)).trans q6, (g 14 (by omega) (by omega) (by omega)).trans q7, h1, h2, (g 17 (by omega) (by omega) (by omega)).trans q10⟩, TR_RS h ?_⟩
  · have hi' : i < t 0 1 := hi
    exact (g i (by omega) (by omega) (by omega)).trans (q1 i hi')
  · have hi' : m < t 0 2 := hm
    exact (g (3 + m) (by omega) (by omega) (by omega)).trans (q2 m hi')
  · have hi' : i < t 0 3 := hi
    exact (g (6 + i) (by omega) (by omega) (by omega)).trans (q3 i hi')
  · exact iT.2.2.2
theorem u_best {σ : ZI} {τ : ZL} (I : Inv σ) (hL : InL τ) (w : Int32) : RLz (f_X7_best σ τ w) (fun s => f_X8_best s w) := by
  obtain ⟨t, iT, iR⟩ := id I
  have kk := iT.1
  have k1 := kk.1
  have p := p10 kk
  unfold f_X7_best f_X8_best
  rw [show (2 : Int32) = nI 2 from rfl, if2]
  by_cases hw : w < nI 0 ∨ nI 2 < w
  · exact rl_bad I hL (by rw [if_pos hw]) (by rw [in_at 0 2 0 2 rfl rfl, if_pos (show w < 0 ∨ 2 < w from hw)]; rfl)
  have hw' : ¬ (w < 0 ∨ 2 < w) := hw
  obtain ⟨t1, a1, a2, a3⟩ := wb7 (InvT_T7 iT) τ (s := t 0 6) (by omega) (cl := -4) (.inl ⟨rfl, rfl⟩)
  rw [if_neg hw, v1_6, bso, show σ 2 6 = _ from iT.2.1.1 6 (by omega), a1, bso, if_pos (by decide), ltq]
  dsimp only
  have iB : InvT t (s41 σ (t 0 0)) := InvT_sg (s41_sg _ _) iT
  have bdW : ∀ u, TK u → ON t u → -1000 * (DN t : Int) ≤ SO t (t 0 6) (t 5) (v6 u) ∧ SO t (t 0 6) (t 5) (v6 u) ≤ 1000 * (DN t : Int) := fun u ku _ => SN_bd kk (s := t 0 6) (by omega) (cf := t 5) (fun m hm => (kk.2.2.2.1 m hm).2.2) (fun x n => v6_b ku x n)
  have wb : ∀ x : Int, ∃ z : Prop, z := fun _ => ⟨True, trivial⟩
  have In : ∀ (k7 : ZI → ZL → Int32 → Int64 → Int32 → Option (Int64 × ZI × ZL)) (k8 : ZI → Int64 → Int32 → Int32 → Option (Int64 × ZI)) (o : Nat), 1 ≤ o → o ≤ 10 → ∀ (d i f7 f8 : Nat) (τ : ZL) (B : Int32) (num : Int), i + d = 12 → o < i → d < f7 → d < f8 → InL τ → Wg τ (PO t (t 0 6) (t 5)) (t 0 0) → (-1000 * (DN t : Int) ≤ num ∧ num ≤ 1000 * (DN t : Int)) → ∃ τ' B' num', InL τ' ∧ Wg τ' (PO t (t 0 6) (t 5)) (t 0 0) ∧ (-1000 * (DN t : Int) ≤ num' ∧ num' ≤ 1000 * (DN t : Int)) ∧ f_X7_best_65 w k7 f7 (s41 σ (t 0 0)) τ B (iL num) (nI o) (nI i) = k7 (s41 σ (t 0 0)) τ' B' (iL num') (nI (o + 1)) ∧ ∀ σr, TR (fun i => i = 15 ∨ i = 16) (s41 σ (t 0 0)) σr → ∃ σ', TR (fun i => i = 15 ∨ i = 16) (s41 σ (t 0 0)) σ' ∧ f_X8_best_45 w k8 f8 σr (iL num) B (nI o) (nI i) = k8 σ' (iL num') B' (nI (o + 1)) := by
    intro k7 k8 o ho1 ho2 d
    induction d with
    | zero =>
      intro i f7 f8 τ B num h1 h2 h3 h4 h5 h6 h7
      obtain ⟨f7, rfl⟩ : ∃ m, f7 = m + 1 := ⟨f7 - 1, by omega⟩
      obtain ⟨f8, rfl⟩ : ∃ m, f8 = m + 1 := ⟨f8 - 1, by omega⟩
      obtain rfl : i = 12 := by omega
      refine ⟨τ, B, num, h5, h6, h7, ?_, fun σr hr => ⟨σr, hr, ?_⟩⟩
      · rw [f_X7_best_65, if_pos (by decide), if_pos (by decide), nI_1]
      · rw [f_X8_best_45, if_pos (by decide), nI_1]
    | succ d ih =>
      intro i f7 f8 τ B num h1 h2 h3 h4 h5 h6 h7
      obtain ⟨f7, rfl⟩ : ∃ m, f7 = m + 1 := ⟨f7 - 1, by omega⟩
      obtain ⟨f8, rfl⟩ : ∃ m, f8 = m + 1 := ⟨f8 - 1, by omega⟩
      have ku := TK_net kk ho1 ho2 h2 (show i ≤ 11 by omega)
      have on := ON_net t o i
      obtain ⟨t2, b1, b2, b3, b4, b5⟩ := pbo7 (σ := σ) (InvT_T7 iT) ku on h6 h5
      have c1 : tnet t o i 0 8 = o := by unfold tnet; rw [tset_ne _ (by omega), tset_same]
      have c2 : tnet t o i 0 9 = i := tset_same _ _ _ _
      rw [c1, c2] at b1
      have bw := bdW _ ku on
      have W8 : ∀ σr, TR (fun i => i = 15 ∨ i = 16) (s41 σ (t 0 0)) σr → ∃ σ', f_X8_sumOf (va_up (va_up σr 61 (upd (σr 61) 15 (nI o - 2))) 61 (upd (va_up σr 61 (upd (σr 61) 15 (nI o - 2)) 61) 16 (nI i - 4))) 6 0 0 = some (iL (SO t (t 0 6) (t 5) (v6 (tnet t o i))), σ') ∧ TR (fun i => i = 15 ∨ i = 16) (s41 σ (t 0 0)) σ' := by
        intro σr hr
        have r1 : TR (fun i => i = 15 ∨ i = 16) (s41 σ (t 0 0)) (va_up σr 61 (upd (σr 61) 15 (nI o - 2))) := TR_set (.inl rfl) (by omega) hr
        have r2 : TR (fun i => i = 15 ∨ i = 16) (s41 σ (t 0 0)) (va_up (va_up σr 61 (upd (σr 61) 15 (nI o - 2))) 61 (upd (va_up σr 61 (upd (σr 61) 15 (nI o - 2)) 61) 16 (nI i - 4))) := TR_set (.inr rfl) (by omega) r1
        have rr := TR_net iB ku r2 (by rw [up_ne _ (.inr (by omega)), up_same]) (up_same _ _ _ _)
        obtain ⟨⟨σ', s1, s2⟩, -⟩ := mean8 (w := 0) rr (a := 6) (b := 0) (c := 0) (v6 (tnet t o i)) (fun σ' x n h1 h2 h3 => vo_6 (R8_fr h1 rr))
        refine ⟨σ', ?_, TR_Sc r2 s2⟩
        rw [s1]
        have x6 : tnet t o i 0 6 = t 0 6 := on _ _ (by omega)
        have x0 : tnet t o i 0 0 = t 0 0 := on _ _ (by omega)
        have x2 : tnet t o i 0 2 = t 0 2 := on _ _ (by omega)
        have x5 : tnet t o i 5 = t 5 := funext fun j => on _ _ (by omega)
        rw [x6, x0, x2, x5]
      rw [f_X7_best_65, if_pos (by decide), if_neg (show ¬ ((stL 102).getD (9 : Int32).toNatClampNeg 0) < nI i from nI_nlt (b := i) (a := 11) (by omega) (by omega)), v1_5, bso, show (s41 σ (t 0 0)) 2 5 = _ from iT.2.1.1 5 (by omega), b1, bso, wor7 iT b3 b5, bso, ← SO_v6 on]
      unfold f_X7_best_114 f_X7_best_126
      rw [ltq, nI_1]
      have nx : (100 : Int32) * nI o + nI i = nI (100 * o + i) := by rw [show (100 : Int32) * nI o = nI (100 * o) from pk_mul 100 o, nI_add]
      rw [nx]
      have ref : ∀ σr, TR (fun i => i = 15 ∨ i = 16) (s41 σ (t 0 0)) σr → ∃ σ', TR (fun i => i = 15 ∨ i = 16) (s41 σ (t 0 0)) σ' ∧ f_X8_best_45 w k8 (f8 + 1) σr (iL num) B (nI o) (nI i) = (if B = -4 ∨ ¬ (lg_cmp (iL (SO t (t 0 6) (t 5) (v6 (tnet t o i)))) (iL num) ≤ 0) then f_X8_best_45 w k8 f8 σ' (iL (SO t (t 0 6) (t 5) (v6 (tnet t o i)))) (nI (100 * o + i)) (nI o) (nI (i + 1)) else f_X8_best_45 w k8 f8 σ' (iL num) B (nI o) (nI (i + 1))) := by
        intro σr hr
        obtain ⟨σ', x1, x2⟩ := W8 σr hr
        refine ⟨σ', x2, ?_⟩
        rw [f_X8_best_45, if_neg (show ¬ (11 : Int32) < nI i from nI_nlt (b := i) (a := 11) (by omega) (by omega)), ltq, ltq, x1, bso]
        unfold f_X8_best_98 f_X8_best_103 f_X8_best_123 f_X8_best_136
        dsimp only
        rw [nx, nI_1]
        by_cases z : B = -4
        · rw [if_pos z, if_neg (by decide), if_neg (by decide), if_pos (.inl z)]
        · rw [if_neg z]
          by_cases z2 : lg_cmp (iL (SO t (t 0 6) (t 5) (v6 (tnet t o i)))) (iL num) ≤ 0
          · rw [if_pos z2, if_pos rfl, if_pos rfl, if_neg (fun y => y.elim z (fun y => y z2))]
          · rw [if_neg z2, if_neg (by decide), if_neg (by decide), if_pos (.inr z2)]
      by_cases z : B = -4 ∨ ¬ (lg_cmp (iL (SO t (t 0 6) (t 5) (v6 (tnet t o i)))) (iL num) ≤ 0)
      · obtain ⟨τ', B', num', j1, j2, j3, j4, j5⟩ := ih (i + 1) f7 f8 t2 (nI (100 * o + i)) (SO t (t 0 6) (t 5) (v6 (tnet t o i))) (by omega) (by omega) (by omega) (by omega) b3 b2 bw
        refine ⟨τ', B', num', j1, j2, j3, ?_, fun σr hr => ?_⟩
        · rw [← j4]
          by_cases y : B = -4
          · rw [if_pos y]
          · rw [if_neg y, if_neg (z.resolve_left y)]
        · obtain ⟨σ', x1, x2⟩ := ref σr hr
          obtain ⟨σ'', y1, y2⟩ := j5 σ' x1
          exact ⟨σ'', y1, by rw [x2, if_pos z, y2]⟩
      · obtain ⟨τ', B', num', j1, j2, j3, j4, j5⟩ := ih (i + 1) f7 f8 t2 B num (by omega) (by omega) (by omega) (by omega) b3 b2 h7
        refine ⟨τ', B', num', j1, j2, j3, ?_, fun σr hr => ?_⟩
        · rw [← j4, if_neg (fun y => z (.inl y)), if_pos (Decidable.of_not_not fun y => z (.inr y))]
        · obtain ⟨σ', x1, x2⟩ := ref σr hr
          obtain ⟨σ'', y1, y2⟩ := j5 σ' x1
          exact ⟨σ'', y1, by rw [x2, if_neg z, y2]⟩
  have Ou : ∀ (d o f7 f8 : Nat) (τ : ZL) (B : Int32) (num : Int), o + d = 11 → 1 ≤ o → d < f7 → d < f8 → InL τ → Wg τ (PO t (t 0 6) (t 5)) (t 0 0) → (-1000 * (DN t : Int) ≤ num ∧ num ≤ 1000 * (DN t : Int)) → ∃ r τ', f_X7_best_48 w f7 (s41 σ (t 0 0)) τ B (iL num) (nI o) = some (r, s41 σ (t 0 0), τ') ∧ InL τ' ∧ ∀ σr, TR (fun i => i = 15 ∨ i = 16) (s41 σ (t 0 0)) σr → ∃ f, f_X8_best_32 w f8 σr (iL num) B (nI o) = some (r, f) ∧ Sg (s41 σ (t 0 0)) f := by
    intro d
    induction d with
    | zero =>
      intro o f7 f8 τ B num h1 h2 h3 h4 h5 h6 h7
      obtain ⟨f7, rfl⟩ : ∃ m, f7 = m + 1 := ⟨f7 - 1, by omega⟩
      obtain ⟨f8, rfl⟩ : ∃ m, f8 = m + 1 := ⟨f8 - 1, by omega⟩
      obtain rfl : o = 11 := by omega
      have dn : DN t ≤ 10000000000000 ∧ 1 ≤ DN t := ⟨p.2, p.1⟩
      obtain ⟨r, r1, r2⟩ := pl_eq (num := num) (D := 10 * DN t) (by omega) (by omega) (by omega) (w - 1)
      have e10 : (10 : Int64) * iL (DN t) = iL ((10 * DN t : Nat) : Int) := by rw [show (10 : Int64) = iL 10 from rfl, ← iL_mul, Int.natCast_mul]; rfl
      by_cases h0 : w = 0
      · refine ⟨B.toInt64, τ, ?_, h5, fun σr hr => ?_⟩
        · rw [f_X7_best_48, if_pos (by decide), if_pos (by decide), if_pos h0]
        · obtain ⟨f, g1, g2⟩ := TR_fin (by rintro i (rfl | rfl) <;> omega) hr
          exact ⟨f, by rw [f_X8_best_32, if_pos (by decide), g1, bso, if_pos h0], g2⟩
      · refine ⟨r, τ, ?_, h5, fun σr hr => ?_⟩
        · rw [f_X7_best_48, if_pos (by decide), if_pos (by decide), if_neg h0, whole_n kk h6, bso, e10, r1, bso]
        · obtain ⟨f, g1, g2⟩ := TR_fin (by rintro i (rfl | rfl) <;> omega) hr
          refine ⟨f, ?_, g2⟩
          have := aw8_1 (InvT_R8 (InvT_sg g2 iB))
          rw [f_X8_best_32, if_pos (by decide), g1, bso, if_neg h0, this, bso, show (10 : Int) * 10 ^ (t 0 0 + t 0 2) = ((10 * DN t : Nat) : Int) from by unfold DN; rw [Int.natCast_mul, Int.natCast_pow]; rfl, r2, bso]
    | succ d ih =>
      intro o f7 f8 τ B num h1 h2 h3 h4 h5 h6 h7
      obtain ⟨f7, rfl⟩ : ∃ m, f7 = m + 1 := ⟨f7 - 1, by omega⟩
      obtain ⟨f8, rfl⟩ : ∃ m, f8 = m + 1 := ⟨f8 - 1, by omega⟩
      obtain ⟨τ', B', num', j1, j2, j3, j4, j5⟩ := In (fun σ τ v2 v3 v5 => f_X7_best_48 w f7 σ τ v2 v3 v5) (fun σ v2 v4 v5 => f_X8_best_32 w f8 σ v2 v4 v5) o h2 (by omega) (12 - (o + 1)) (o + 1) 3000 3000 τ B num (by omega) (by omega) (by omega) (by omega) h5 h6 h7
      obtain ⟨r, τ2, x1, x2, x3⟩ := ih (o + 1) f7 f8 τ' B' num' (by omega) (by omega) (by omega) (by omega) j1 j2 j3
      refine ⟨r, τ2, ?_, x2, fun σr hr => ?_⟩
      · rw [f_X7_best_48, if_pos (by decide), if_neg (show ¬ ((stL 102).getD (8 : Int32).toNatClampNeg 0) < nI o from nI_nlt (b := o) (a := 10) (by omega) (by omega)), nI_1]
        exact j4.trans x1
      · obtain ⟨σ', y1, y2⟩ := j5 σr hr
        obtain ⟨f, z1, z2⟩ := x3 σ' y1
        refine ⟨f, ?_, z2⟩
        rw [f_X8_best_32, if_neg (show ¬ (10 : Int32) < nI o from nI_nlt (b := o) (a := 10) (by omega) (by omega)), nI_1]
        exact y2.trans z1
  obtain ⟨r, τ', j1, j2, j3⟩ := Ou 10 1 3000 3000 t1 (-4) 0 (by omega) (by omega) (by omega) (by omega) ((a2 50 0 (by omega)).trans hL) a3 (by unfold DN; omega)
  obtain ⟨f, y1, y2⟩ := j3 _ (TR_0 _ (s41 σ (t 0 0)))
  refine ⟨r, s41 σ (t 0 0), τ', f, ?_, ?_, Inv_sg y2 (Inv_sg (s41_sg _ _) I), j2⟩
  · exact j1
  · dsimp only
    rw [in_at 0 2 0 2 rfl rfl, if_neg hw', bso, if_neg (by decide), show f_X8_copies (s41 σ (t 0 0)) 0 72 = _ from cop_n (a := 0) (b := 72) (by omega) (by omega) (by omega) _, bso]
    exact y1
