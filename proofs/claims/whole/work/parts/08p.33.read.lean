/-! read, whole -/
theorem Inv_now6 {t u : NN} {σ σ' : ZI} (q : InvI t σ ∧ InvP σ ∧ InvS t σ ∧ InvH σ ∧ InvF σ ∧ InvK σ) (h : ∀ c i, own c i ≠ 0 → own c i ≠ 1 → own c i ≠ 6 → σ' c i = σ c i) (hs : SS t u) (hu : InvT u σ') (hf : InvF σ') : Inv σ' := by
  obtain ⟨q2, q3, q4, q5, q6, q7⟩ := q
  have ag : ∀ k, k ≠ 0 → k ≠ 1 → k ≠ 6 → Ag k σ σ' := fun k h0 h1 h6 c i e => h c i (by rw [e]; exact h0) (by rw [e]; exact h1) (by rw [e]; exact h6)
  exact ⟨u, hu, InvI_fr hs (ag 2 (by decide) (by decide) (by decide)) q2, InvP_fr (ag 3 (by decide) (by decide) (by decide)) q3, InvS_fr hs (ag 4 (by decide) (by decide) (by decide)) q4, InvH_fr (ag 5 (by decide) (by decide) (by decide)) q5, hf, InvK_fr (ag 7 (by decide) (by decide) (by decide)) q7⟩
def tlet (t : NN) (u : Nat → Nat) : NN := fun r i => if r = 6 then u i else t r i
theorem rd_fin {t : NN} {σ z : ZI} {u : Nat → Nat} {fl : Int32} (iT : InvT t σ) (iR : InvI t σ ∧ InvP σ ∧ InvS t σ ∧ InvH σ ∧ InvF σ ∧ InvK σ) (hu : ∀ i, i < t 0 3 → u i ≤ 99)
    (F1 : ∀ c i, c ≠ 8 → c ≠ 59 → ¬ (c = 0 ∧ i = 12) → ¬ (c = 60 ∧ i = 46) → c ≠ 61 → z c i = σ c i) (F2 : ∀ i, i < t 0 3 → z 8 i = nI (u i)) (F3 : ∀ i, i < 54 → ¬ (6 ≤ i ∧ i < 11) → z 61 i = σ 61 i) (F4 : ∀ i, i < t 0 3 → z 61 (6 + i) = nI (u i)) (F5 : z 0 12 = fl) (F6 : z 60 46 = fl) : Inv z := by
  obtain ⟨k, tv, rp, rs⟩ := iT
  have k1 := k.1
  refine Inv_now6 (u := tlet t u) iR (fun c i q r r6 => ?_) ⟨rfl, rfl, rfl, rfl, rfl, rfl, fun _ _ => ⟨rfl, rfl⟩, fun _ _ => rfl, fun _ _ => rfl⟩ ⟨?_, ?_, ?_, ?_⟩ ⟨?_, ?_⟩
  · by_cases c61 : c = 61
    · subst c61
      have h18 : ¬ i < 18 := fun h => r (own_p h)
      have h54 : i < 54 := by
        rcases Nat.lt_or_ge i 54 with h | h
        · exact h
        · refine absurd ?_ q
          show (if i < 18 then 1 else if i < 54 then 2 else 0) = 0
          rw [if_neg h18, if_neg (by omega)]
      exact F3 i h54 (by omega)
    · refine F1 c i (by rintro rfl; exact r rfl) (by rintro rfl; exact q rfl) (by rintro ⟨rfl, rfl⟩; exact r6 rfl) (by rintro ⟨rfl, rfl⟩; exact r6 rfl) c61
  · obtain ⟨a1, a2, a3, a4, a5, a6⟩ := k
    exact ⟨a1, a2, a3, a4, a5, fun i hi => ⟨hu i hi, (a6 i hi).2⟩⟩
  · obtain ⟨q1, q2, q3, q4⟩ := tv
    have f : ∀ r i, r ≤ 8 → r ≠ 7 → 1 ≤ r → z (1 + r) i = σ (1 + r) i := fun r i h1 h2 h3 => F1 _ _ (by omega) (by omega) (by omega) (by omega) (by omega)
    refine ⟨fun i hi => (f 1 i (by omega) (by omega) (by omega)).trans (q1 i hi), fun i hi => ⟨(f 2 i (by omega) (by omega) (by omega)).trans (q2 i hi).1, (f 3 i (by omega) (by omega) (by omega)).trans (q2 i hi).2.1, (f 4 i (by omega) (by omega) (by omega)).trans (q2 i hi).2.2⟩, fun i hi => ⟨(f 5 i (by omega) (by omega) (by omega)).trans (q3 i hi).1, (f 6 i (by omega) (by omega) (by omega)).trans (q3 i hi).2⟩, fun i hi => ⟨F2 i hi, (f 8 i (by omega) (by omega) (by omega)).trans (q4 i hi).2⟩⟩
  · obtain ⟨q1, q2, q3, q4, q5, q6, q7, q8, q9, q10⟩ := rp
    refine ⟨fun i hi => ?_, fun i hi => ?_, fun i hi => ?_, ?_, ?_, ?_, ?_, ?_, ?_, ?_⟩
    · rw [F3 _ (by have : i < t 0 1 := hi; omega) (by have : i < t 0 1 := hi; omega)]; exact q1 i hi
    · rw [F3 _ (by have : i < t 0 2 := hi; omega) (by have : i < t 0 2 := hi; omega)]; exact q2 i hi
    · rw [Nat.zero_add]; exact F4 i hi
    all_goals (rw [F3 _ (by omega) (by omega)]; assumption)
  · obtain ⟨q1, q2, q3, q4, q5, q6, q7, q8, q9⟩ := rs
    have f : ∀ c i, 62 ≤ c → c ≤ 65 → z c i = σ c i := fun c i h1 h2 => F1 _ _ (by omega) (by omega) (by omega) (by omega) (by omega)
    have g : ∀ i, i ≠ 46 → z 60 i = σ 60 i := fun i h => F1 _ _ (by omega) (by omega) (by omega) (by omega) (by omega)
    exact ⟨(g _ (by omega)).trans q1, (g _ (by omega)).trans q2, (g _ (by omega)).trans q3, (g _ (by omega)).trans q4, (f _ _ (by omega) (by omega)).trans q5, (f _ _ (by omega) (by omega)).trans q6, fun i hi => ⟨(f _ _ (by omega) (by omega)).trans (q7 i hi).1, (f _ _ (by omega) (by omega)).trans (q7 i hi).2⟩, fun i hi => (f _ _ (by omega) (by omega)).trans (q8 i hi), fun i hi => (f _ _ (by omega) (by omega)).trans (q9 i hi)⟩
  · rw [F1 60 24 (by omega) (by omega) (by omega) (by omega) (by omega), F1 0 6 (by omega) (by omega) (by omega) (by omega) (by omega)]
    exact iR.2.2.2.2.1.1
  · rw [F5, F6]
theorem r172_n (σ : ZI) (a b c d v5 v6 : Int32) : f_X7_read_172 a b c d σ v5 v6 = some (v6, va_up (va_up σ 8 (va_cpy (σ 59) (σ 8) 0 0 5)) 0 (upd (σ 0) 12 v5)) := rfl
theorem r196_n (σ : ZI) (a b c d v5 v6 : Int32) : f_X8_read_196 a b c d σ v5 v6 = some (v6, va_up σ 60 (upd (σ 60) 46 v5)) := rfl
theorem r46_n (σ : ZI) (a b c d s : Int32) : f_X7_read_46 a b c d σ s = f_X7_read_68 a b c d 3000 (va_up σ 59 (va_cpy (σ 8) (σ 59) 0 0 5)) s 0 := by
  unfold f_X7_read_46
  rw [if_pos (by decide), ltq]
/-- both stores behind the loops, all read -/
theorem rd_ok {t : NN} {σ : ZI} {f : Int32} {k l n c fl : Nat} {u : Nat → Nat} (iT : InvT t σ) (iR : InvI t σ ∧ InvP σ ∧ InvS t σ ∧ InvH σ ∧ InvF σ ∧ InvK σ) (hu : ∀ i, i < t 0 3 → u i ≤ 99) {X : Option (Int32 × ZI)} {Y : ZI → Option (Int32 × ZI)} (hX : ∃ σ', X = f_X7_read_172 (nI k) (nI l) f (nI n) σ' (nI fl) (nI c) ∧ CPr (va_up σ 59 (va_cpy (σ 8) (σ 59) 0 0 5)) (t 0 3) u σ')
    (hY : ∀ s1 : ZI, (∀ c i, c ≠ 59 → c ≠ 8 → c ≠ 0 → s1 c i = σ c i) → ∃ σ', Y s1 = f_X8_read_196 (nI k) (nI l) f (nI n) σ' (nI fl) (nI c) ∧ RQ (va_up s1 61 (cpf 0 54 0 (s1 61))) (t 0 3) u σ') : ∃ r σ1 σ2, X = some (r, σ1) ∧ Y σ1 = some (r, σ2) ∧ Inv σ2 := by
  obtain ⟨x, ex, cx⟩ := hX
  rw [r172_n] at ex
  have k1 := iT.1.1
  obtain ⟨s1, hs1⟩ : ∃ s1, s1 = va_up (va_up x 8 (va_cpy (x 59) (x 8) 0 0 5)) 0 (upd (x 0) 12 (nI fl)) := ⟨_, rfl⟩
  have s1c : ∀ c i, c ≠ 59 → c ≠ 8 → ¬ (c = 0 ∧ i = 12) → s1 c i = σ c i := by
    intro c i h1 h2 h3
    have e : s1 c i = x c i := by
      rw [hs1]
      by_cases h0 : c = 0
      · subst h0
        show upd (x 0) 12 (nI fl) i = _
        rw [pk_un (by omega)]
      · simp only [va_up, if_neg h0, if_neg h2]
    rw [e, cx.1 c i h1]
    simp only [va_up, if_neg h1]
  obtain ⟨y, ey, cy⟩ := hY s1 (fun c i h1 h2 h3 => s1c c i h1 h2 (fun h => h3 h.1))
  rw [r196_n] at ey
  refine ⟨nI c, s1, _, by rw [ex, hs1], ey, ?_⟩
  have yc : ∀ c i, c ≠ 61 → y c i = s1 c i := fun c i h => by
    rw [cy.1 c i (by omega)]
    simp only [va_up, if_neg h]
  have y6 : ∀ i, i < 54 → ¬ (6 ≤ i ∧ i < 11) → y 61 i = σ 61 i := fun i h1 h2 => by
    rw [cy.1 61 i (by omega)]
    show cpf 0 54 0 (s1 61) i = _
    rw [cpf_out (by omega), s1c _ _ (by omega) (by omega) (by omega)]
  refine rd_fin (u := u) (fl := nI fl) iT iR hu (fun c i a1 a2 a3 a4 a5 => ?_) (fun i hi => ?_) (fun i hi h2 => ?_) (fun i hi => ?_) ?_ ?_
  · have : va_up y 60 (upd (y 60) 46 (nI fl)) c i = y c i := up_ne y (by omega)
    rw [this, yc c i a5, s1c c i a2 a1 a3]
  · show y 8 i = _
    rw [yc 8 i (by omega), hs1]
    show va_cpy (x 59) (x 8) 0 0 5 i = _
    rw [sb_cpy0 (by omega)]
    exact cx.2 i hi
  · show y 61 i = _
    exact y6 i hi h2
  · show y 61 (6 + i) = _
    exact cy.2 i hi
  · show y 0 12 = _
    rw [yc 0 12 (by omega), hs1]
    rfl
  · show upd (y 60) 46 (nI fl) 46 = _
    rw [pk_us]
theorem rd_no {t : NN} {σ : ZI} {c : Nat} (iT : InvT t σ) (iR : InvI t σ ∧ InvP σ ∧ InvS t σ ∧ InvH σ ∧ InvF σ ∧ InvK σ) {X : Option (Int32 × ZI)} {Y : ZI → Option (Int32 × ZI)} (hX : ∃ σ', X = some (-20 - nI c, σ') ∧ (∀ c i, c ≠ 59 → σ' c i = σ c i))
    (hY : ∀ s1 : ZI, (∀ c i, c ≠ 59 → s1 c i = σ c i) → ∃ σ', Y s1 = ((f_X8_copies σ' 54 0).bind fun q9 => some (-20 - nI c, q9)) ∧ (∀ c i, ¬ (c = 61 ∧ 6 ≤ i ∧ i < 11) → σ' c i = (va_up s1 61 (cpf 0 54 0 (s1 61))) c i)) : ∃ r σ1 σ2, X = some (r, σ1) ∧ Y σ1 = some (r, σ2) ∧ Inv σ2 := by
  obtain ⟨x, ex, cx⟩ := hX
  obtain ⟨y, ey, cy⟩ := hY x cx
  rw [show f_X8_copies y 54 0 = _ from cop_n (a := 54) (b := 0) (by omega) (by omega) (by omega) y, bso] at ey
  refine ⟨_, x, _, ex, ey, Inv_sg (σ := σ) (fun c i q _ => ?_) ⟨t, iT, iR⟩⟩
  by_cases c61 : c = 61
  · subst c61
    show cpf 54 0 0 (y 61) i = _
    have e1 : ∀ i, x 61 i = σ 61 i := fun i => cx 61 i (by omega)
    by_cases hi : i < 18
    · have e2 : cpf 54 0 0 (y 61) (0 + i) = y 61 (54 + i) := cpf_in hi
      rw [Nat.zero_add] at e2
      rw [e2, cy 61 (54 + i) (by omega)]
      show cpf 0 54 0 (x 61) (54 + i) = _
      rw [cpf_in hi, Nat.zero_add, e1]
    · rw [cpf_out (by omega), cy 61 i (by omega)]
      have h54 : i < 54 := by
        rcases Nat.lt_or_ge i 54 with h | h
        · exact h
        · refine absurd ?_ q
          show (if i < 18 then 1 else if i < 54 then 2 else 0) = 0
          rw [if_neg hi, if_neg (by omega)]
      show cpf 0 54 0 (x 61) i = _
      rw [cpf_out (by omega), e1]
  · show va_up y 61 _ c i = _
    simp only [va_up, if_neg c61]
    rw [cy c i (by omega)]
    simp only [va_up, if_neg c61]
    exact cx c i (by rintro rfl; exact q rfl)
theorem r68_end {a b f : Int32} {n fl fu : Nat} {σ : ZI} (hn : n ≤ 20) (hf : fl < 4) (h : n = 0 ∨ fl ≠ 0) : f_X7_read_68 a b f (nI n) (fu + 1) σ (nI fl) 0 = f_X7_read_172 a b f (nI n) σ (nI fl) (nI 0) := by
  rw [f_X7_read_68]
  by_cases h0 : n = 0
  · subst h0
    rw [if_pos (by decide)]; rfl
  · rw [if_neg (nI_nle (by omega) (by omega)), if_neg (nI_ne0 (by omega) (by omega))]
    rfl
/-- the reference where the lane is another, or nothing is there -/
theorem r55_x {k l n fl fu : Nat} {f : Int32} {σ : ZI} (hk : k < 4) (hn : n ≤ 20) (hf : fl < 4) (hz : n = 0 → fl = 0) (h : n ≠ 0 → (fl = 1 ∧ σ 76 k = -4) ∨ (fl = 3 ∧ σ 76 k ≠ -4 ∧ σ 76 k ≠ nI l)) : f_X8_read_55 (nI k) (nI l) f (nI n) (fu + 1 + 1) σ 0 0 0 = f_X8_read_196 (nI k) (nI l) f (nI n) σ (nI fl) (nI 0) := by
  by_cases h0 : n = 0
  · subst h0
    rw [hz rfl]
    exact r55_end (n := 0) (v7 := 0) (fu := fu + 1) (by omega) (by omega) (.inl (Nat.le_refl _))
  · have e : f_X8_read_55 (nI k) (nI l) f (nI n) (fu + 1 + 1) σ 0 0 0 = f_X8_read_125 (nI k) (nI l) f (nI n) (fun σ v5 v6 v7 => f_X8_read_55 (nI k) (nI l) f (nI n) (fu + 1) σ v5 v6 v7) σ 0 (nI 0) (nI fl) := by
      rw [f_X8_read_55, show (2 : Int32) * nI n = nI (2 * n) from pk_mul 2 n, if_neg (nI_nle (by omega) (by omega)), if_pos rfl, inB_n hk (by omega), if_pos rfl, nI_clamp (by omega)]
      rcases h h0 with ⟨rfl, h1⟩ | ⟨rfl, h1, h2⟩
      · rw [if_pos h1]; rfl
      · rw [if_neg h1, if_pos rfl, if_neg h2]; rfl
    rw [e, r125_n (fun _ => by omega) (by omega)]
    have : fl ≠ 0 := by rcases h h0 with h | h <;> omega
    exact r55_end (n := n) (v7 := 1) (fu := fu) hn (by omega) (.inr (nI_ne0 (by omega) (by omega)))
theorem u_read {σ : ZI} (I : Inv σ) (a b f w : Int32) : ∃ r σ1 σ2, f_X7_read σ a b f w = some (r, σ1) ∧ f_X8_read σ1 a b f w = some (r, σ2) ∧ Inv σ2 := by
  obtain ⟨t, iT, iR⟩ := id I
  have iH : InvH σ := iR.2.2.2.1
  have k1 := iT.1.1
  unfold f_X7_read f_X8_read
  rw [isS7]
  rcases ix_cases a (n := 4) (by omega) with h | ⟨k, hk, rfl⟩
  · refine ⟨-1, σ, σ, by rw [if_pos h]; rfl, ?_, I⟩
    rw [in_at 0 3 0 3 rfl rfl, if_pos (show a < 0 ∨ 3 < a from hi_of (m := 3) (by omega) rfl h)]; rfl
  rw [if_neg (ix_no hk (by omega)), isL7]
  have ek : f_X8_in (nI k).toInt64 0 3 = some 1 := by rw [in_at 0 3 0 3 rfl rfl, if_neg (show ¬ (nI k < 0 ∨ 3 < nI k) from in_hi (m := 3) hk rfl (by omega))]
  rw [ek]
  rcases ix_cases b (n := 3) (by omega) with h | ⟨l, hl, rfl⟩
  · refine ⟨-1, σ, σ, by rw [if_pos h]; rfl, ?_, I⟩
    rw [in_at 0 2 0 2 rfl rfl, if_pos (show b < 0 ∨ 2 < b from hi_of (m := 2) (by omega) rfl h)]; rfl
  have el : f_X8_in (nI l).toInt64 0 2 = some 1 := by rw [in_at 0 2 0 2 rfl rfl, if_neg (show ¬ (nI l < 0 ∨ 2 < nI l) from in_hi (m := 2) hl rfl (by omega))]
  rw [if_neg (ix_no hl (by omega)), el]
  simp only [bso]
  rw [if_neg (by decide), if_neg (by decide), show (20 : Int32) = nI 20 from rfl, if2]
  by_cases hw : w < nI 0 ∨ nI 20 < w
  · refine ⟨-1, σ, σ, by rw [if_pos hw], ?_, I⟩
    rw [if_neg (by decide), if_neg (by decide), in_at 0 20 0 20 rfl rfl, if_pos (show w < 0 ∨ 20 < w from hw)]; rfl
  obtain ⟨n, n1, n2, rfl⟩ := rng hw (by omega) (by omega)
  rw [if_neg hw]
  have eY : ∀ s1 : ZI, (if (1 : Int32) = 0 then some ((-1 : Int32), s1) else if (1 : Int32) = 0 then some ((-1 : Int32), s1) else (f_X8_in (nI n).toInt64 0 20).bind fun q3 => if q3 = 0 then some ((-1 : Int32), s1) else (f_X8_copies s1 0 54).bind fun q4 => f_X8_read_55 (nI k) (nI l) f (nI n) 3000 q4 0 0 0) = f_X8_read_55 (nI k) (nI l) f (nI n) 3000 (va_up s1 61 (cpf 0 54 0 (s1 61))) 0 0 0 := by
    intro s1
    rw [if_neg (by decide), if_neg (by decide), in_at 0 20 0 20 rfl rfl, if_neg (show ¬ (nI n < 0 ∨ 20 < nI n) from hw), bso, if_neg (by decide), show f_X8_copies s1 0 54 = _ from cop_n (a := 0) (b := 54) (by omega) (by omega) (by omega) s1, bso]
  simp only [eY]
  have eX : ∀ fl : Nat, n ≠ 0 → f_X4_faultOfLane σ (nI k) (nI l) = some (nI fl) → (if nI n = 0 then f_X7_read_46 (nI k) (nI l) f (nI n) σ 0 else (f_X4_faultOfLane σ (nI k) (nI l)).bind fun q3 => f_X7_read_46 (nI k) (nI l) f (nI n) σ q3) = f_X7_read_68 (nI k) (nI l) f (nI n) 3000 (va_up σ 59 (va_cpy (σ 8) (σ 59) 0 0 5)) (nI fl) 0 := by
    intro fl h0 h
    rw [if_neg (nI_ne0 (by omega) (by omega)), h, bso, r46_n]
  have eX0 : n = 0 → (if nI n = 0 then f_X7_read_46 (nI k) (nI l) f (nI n) σ 0 else (f_X4_faultOfLane σ (nI k) (nI l)).bind fun q3 => f_X7_read_46 (nI k) (nI l) f (nI n) σ q3) = f_X7_read_68 (nI k) (nI l) f (nI n) 3000 (va_up σ 59 (va_cpy (σ 8) (σ 59) 0 0 5)) (nI 0) 0 := by
    rintro rfl
    rw [if_pos (by decide), r46_n]
    rfl
  have c0 : CPr (va_up σ 59 (va_cpy (σ 8) (σ 59) 0 0 5)) (t 0 3) (t 6) (va_up σ 59 (va_cpy (σ 8) (σ 59) 0 0 5)) := ⟨fun _ _ _ => rfl, fun j hj => by
    show va_cpy (σ 8) (σ 59) 0 0 5 j = _
    rw [sb_cpy0 (by omega)]
    exact (iT.2.1.2.2.2 j hj).1⟩
  have q0 : ∀ s1 : ZI, (∀ i, s1 61 i = σ 61 i) → RQ (va_up s1 61 (cpf 0 54 0 (s1 61))) (t 0 3) (t 6) (va_up s1 61 (cpf 0 54 0 (s1 61))) := fun s1 h => ⟨fun _ _ _ => rfl, fun j hj => by
    show cpf 0 54 0 (s1 61) (6 + j) = _
    rw [cpf_out (by omega), h]
    have := iT.2.2.1.2.2.1 j hj
    rw [Nat.zero_add] at this
    exact this⟩
  have hu0 : ∀ i, i < t 0 3 → t 6 i ≤ 99 := fun i hi => (iT.1.2.2.2.2.2 i hi).1
  have other : ∀ fl : Nat, fl < 4 → (n = 0 → fl = 0) → (n ≠ 0 → f_X4_faultOfLane σ (nI k) (nI l) = some (nI fl)) → (n ≠ 0 → (fl = 1 ∧ σ 76 k = -4) ∨ (fl = 3 ∧ σ 76 k ≠ -4 ∧ σ 76 k ≠ nI l)) → ∃ r σ1 σ2, (if nI n = 0 then f_X7_read_46 (nI k) (nI l) f (nI n) σ 0 else (f_X4_faultOfLane σ (nI k) (nI l)).bind fun q3 => f_X7_read_46 (nI k) (nI l) f (nI n) σ q3) = some (r, σ1) ∧ f_X8_read_55 (nI k) (nI l) f (nI n) 3000 (va_up σ1 61 (cpf 0 54 0 (σ1 61))) 0 0 0 = some (r, σ2) ∧ Inv σ2 := by
    intro fl h4 h0 hx hy
    refine rd_ok (Y := fun σ1 => f_X8_read_55 (nI k) (nI l) f (nI n) 3000 (va_up σ1 61 (cpf 0 54 0 (σ1 61))) 0 0 0) (k := k) (l := l) (f := f) (n := n) (c := 0) (fl := fl) (u := t 6) iT iR hu0 ⟨_, ?_, c0⟩ (fun s1 hs1 => ⟨_, ?_, q0 s1 (fun i => hs1 61 i (by omega) (by omega) (by omega))⟩)
    · by_cases e : n = 0
      · rw [eX0 e, h0 e]
        exact r68_end (fu := 2999) n2 (by omega) (.inl e)
      · rw [eX fl e (hx e)]
        refine r68_end (fu := 2999) n2 (by omega) (.inr ?_)
        rcases hy e with h | h <;> omega
    · have e76 : (va_up s1 61 (cpf 0 54 0 (s1 61))) 76 k = σ 76 k := hs1 76 k (by omega) (by omega) (by omega)
      exact r55_x (fu := 2998) hk n2 h4 h0 (fun e => by rw [e76]; exact hy e)
  rcases iH.1 k hk with ⟨h1, h2⟩ | ⟨h1, l', N, hl', hN, h2, h3, h4, h5⟩
  · refine other (if n = 0 then 0 else 1) (by split <;> omega) (fun e => if_pos e) (fun e => ?_) (fun e => .inl ⟨if_neg e, h2⟩)
    rw [if_neg e]
    unfold f_X4_faultOfLane
    rw [at_n (N := 4) rfl hk (by omega), bso, h1]; rfl
  · have fo : f_X4_faultOfLane σ (nI k) (nI l) = some (if l' = l then 0 else 3) := by
      unfold f_X4_faultOfLane
      rw [at_n (N := 4) rfl hk (by omega), bso, h1, if_neg (by decide), at_n (N := 4) rfl hk (by omega), bso, h2]
      by_cases e : l' = l
      · rw [if_pos (by rw [e]), if_pos e]
      · rw [if_neg (fun q => e (nI_inj (by omega) (by omega) q)), if_neg e]
    by_cases e : l' = l
    · subst e
      have xx : (if nI n = 0 then f_X7_read_46 (nI k) (nI l') f (nI n) σ 0 else (f_X4_faultOfLane σ (nI k) (nI l')).bind fun q3 => f_X7_read_46 (nI k) (nI l') f (nI n) σ q3) = f_X7_read_68 (nI k) (nI l') f (nI n) 3000 (va_up σ 59 (va_cpy (σ 8) (σ 59) 0 0 5)) (nI 0) (nI 0) := by
        by_cases e : n = 0
        · rw [eX0 e]; rfl
        · rw [eX 0 e (by rw [fo, if_pos rfl]; rfl)]; rfl
      have g8 : ∀ s1 : ZI, (∀ c i, c ≠ 59 → c ≠ 8 → c ≠ 0 → s1 c i = σ c i) → G8 (va_up σ 59 (va_cpy (σ 8) (σ 59) 0 0 5)) k l' N (t 0 3) (va_up s1 61 (cpf 0 54 0 (s1 61))) := fun s1 hs1 => ⟨(hs1 60 7 (by omega) (by omega) (by omega)).trans iT.2.2.2.2.2.2.1, (hs1 76 k (by omega) (by omega) (by omega)).trans h3, (hs1 77 k (by omega) (by omega) (by omega)).trans h5, fun p hp => (hs1 78 p (by omega) (by omega) (by omega)).trans (iH.2 p hp)⟩
      rw [xx]
      rcases rd_sim (f := f) (s0 := va_up σ 59 (va_cpy (σ 8) (σ 59) 0 0 5)) hk hl hN (show t 0 3 ≤ 5 by omega) n2 (iT.2.1.1 3 (by omega)) h1 h4 n 0 (t 6) (by omega) hu0 with ⟨c, i1, i2⟩ | ⟨c, fl, u, i0, i1, i2⟩
      · obtain ⟨x, ex, cx⟩ := i1 3000 _ (by omega) c0
        refine rd_no (Y := fun σ1 => f_X8_read_55 (nI k) (nI l') f (nI n) 3000 (va_up σ1 61 (cpf 0 54 0 (σ1 61))) 0 0 0) (c := c) iT iR ⟨x, ex, fun c i h => (cx c i h).trans (by simp only [va_up, if_neg h])⟩ (fun s1 hs1 => ?_)
        exact i2 _ 3000 _ (g8 s1 fun c i h _ _ => hs1 c i h) (by omega) (q0 s1 (fun i => hs1 61 i (by omega)))
      · obtain ⟨x, ex, cx⟩ := i1 3000 _ (by omega) c0
        refine rd_ok (Y := fun σ1 => f_X8_read_55 (nI k) (nI l') f (nI n) 3000 (va_up σ1 61 (cpf 0 54 0 (σ1 61))) 0 0 0) (k := k) (l := l') (f := f) (n := n) (c := c) (fl := fl) (u := u) iT iR i0 ⟨x, ex, cx⟩ (fun s1 hs1 => ?_)
        exact i2 _ 3000 _ (g8 s1 hs1) (by omega) (q0 s1 (fun i => hs1 61 i (by omega) (by omega) (by omega)))
    · refine other (if n = 0 then 0 else 3) (by split <;> omega) (fun e => if_pos e) (fun e' => ?_) (fun e' => .inr ⟨if_neg e', by rw [h3]; exact nI_nm4 (by omega), by rw [h3]; exact fun q => e (nI_inj (by omega) (by omega) q)⟩)
      rw [fo, if_neg e, if_neg e']; rfl
