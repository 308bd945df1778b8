/-! the class's odds: all joints -/
def K1 : Nat → Nat → Bool := fun _ _ => true
theorem sp_hi {a b n o : Int} {j : Nat} {f : Nat → Int} {c : Nat} (h : j + 1 < c) : sp a b n o j f c = 0 := by
  unfold sp
  rw [if_neg (by omega), if_neg (by omega), if_neg (by omega)]
  rfl
theorem w1_hi {a b n o : Int} {K : Nat → Bool} {j : Nat} {f : Nat → Int} {c : Nat} (h : j + 1 < c) : w1_ a b n o K j f c = 0 := by
  unfold w1_
  rw [sp_hi h]
  split <;> rfl
theorem rw_hi (P : PP) (K : Nat → Nat → Bool) (OUT IN BR : Nat) : ∀ (j c : Nat), j < c → (rw_ P K OUT IN BR j).1 c = 0 ∧ (rw_ P K OUT IN BR j).2 c = 0
  | 0, c, h => ⟨if_neg (show ¬ c = 0 by omega), rfl⟩
  | j + 1, c, h => by
    unfold rw_ st_ h2_
    dsimp only
    rw [w1_hi h, w1_hi h]
    refine ⟨?_, ?_⟩
    · show (if OUT ≤ c then (0 : Int) else 0) = 0
      split <;> rfl
    · show (if j + 1 = BR then (0 : Int) else (if IN ≤ c then 0 else 0) + (if OUT ≤ c then 0 else 0)) = 0
      repeat' split
      all_goals rfl
def G4 (τ : ZL) (P : PP) (OUT IN BR J j : Nat) : Prop := ∀ i, i < j → τ 49 (i + 1) = iL (G_ P K1 OUT IN BR J i) ∧ τ 50 (i + 1) = iL (O_ P K1 OUT IN BR J i)
theorem net_l {σ : ZI} {P : PP} {OUT IN BR J : Nat} (hJ : J ≤ 10) (hO : OUT ≤ 11) (hI : IN ≤ 11) (hB : BR < 2 ^ 31) (h41 : σ 41 0 = nI J) : ∀ (d j fu : Nat) (τ : ZL), j + d = J → d < fu → Wg τ P J → Rw τ 47 (rw_ P K1 OUT IN BR j).1 → Rw τ 48 (rw_ P K1 OUT IN BR j).2 → G4 τ P OUT IN BR J j → ∃ τ', f_X0_passWithNet_7 σ (nI OUT) (nI IN) (nI BR) fu τ (nI (j + 1)) = some τ' ∧ (∀ c k, (c < 47 ∨ 50 < c ∨ (c = 50 ∧ k = 0)) → τ' c k = τ c k) ∧ G4 τ' P OUT IN BR J J := by
  intro d
  induction d with
  | zero =>
    intro j fu τ h1 h2 h3 h4 h5 h6
    obtain ⟨fu, rfl⟩ : ∃ m, fu = m + 1 := ⟨fu - 1, by omega⟩
    obtain rfl : j = J := by omega
    exact ⟨τ, by rw [f_X0_passWithNet_7, h41, if_pos (nI_lt (by omega) (by omega))], fun _ _ _ => rfl, h6⟩
  | succ d ih =>
    intro j fu τ h1 h2 h3 h4 h5 h6
    obtain ⟨fu, rfl⟩ : ∃ m, fu = m + 1 := ⟨fu - 1, by omega⟩
    obtain ⟨p0, p1, p2, p3⟩ := h3.1 j (by omega)
    obtain ⟨t1, a1, a2, a3⟩ := pj7 (r := 47) (.inl rfl) (show j < 10 by omega) h4 (fun k hk _ => (rw_hi P K1 OUT IN BR j k hk).1) p0 p1 p2 p3
    obtain ⟨t2, b1, b2, b3⟩ := pj7 (τ := t1) (r := 48) (f := (rw_ P K1 OUT IN BR j).2) (.inr rfl) (show j < 10 by omega) (fun k hk => by rw [a2 48 k (by omega)]; exact h5 k hk) (fun k hk _ => (rw_hi P K1 OUT IN BR j k hk).2) (by rw [a2 _ _ (by omega)]; exact p0) (by rw [a2 _ _ (by omega)]; exact p1) (by rw [a2 _ _ (by omega)]; exact p2) (by rw [a2 _ _ (by omega)]; exact p3)
    have a3' : Rw t2 47 (sp (P 0 j) (P 1 j) (P 2 j) (P 3 j) j (rw_ P K1 OUT IN BR j).1) := fun k hk => by rw [b2 47 k (by omega)]; exact a3 k hk
    obtain ⟨t3, c1, c2, c3⟩ := take7 (τ := t2) hI b3
    have a3'' : Rw t3 47 (sp (P 0 j) (P 1 j) (P 2 j) (P 3 j) j (rw_ P K1 OUT IN BR j).1) := fun k hk => by rw [c2 47 k (by omega)]; exact a3' k hk
    obtain ⟨t4, d1, d2, d3, d4⟩ := put7 (τ := t3) hO a3'' c3
    have f4 : ∀ c k, c ≠ 47 → c ≠ 48 → t4 c k = τ c k := fun c k h7 h8 => by rw [d2 c k h7 h8, c2 c k h8, b2 c k h8, a2 c k h7]
    have e46 : t4 46 (j + 1) = iL (bh_ P J (J - (j + 1))) := by
      have := h3.2 (J - (j + 1)) (by omega)
      rw [show J - (J - (j + 1)) = j + 1 by omega] at this
      rw [f4 _ _ (by omega) (by omega)]
      exact this
    rw [f_X0_passWithNet_7, h41, if_neg (nI_nlt (by omega) (by omega)), a1, bso, b1, bso, c1, bso, d1, bso, atL_n rfl rfl (by omega), bso, putL_n rfl rfl (by omega), bso]
    obtain ⟨t5, ht5⟩ : ∃ t5, t5 = va_up t4 49 (vp_updL (t4 49) (j + 1) (iL (sm (fun c => if OUT ≤ c then sp (P 0 j) (P 1 j) (P 2 j) (P 3 j) j (rw_ P K1 OUT IN BR j).1 c else 0) 11) * t4 46 (j + 1))) := ⟨_, rfl⟩
    rw [← ht5]
    have f5 : ∀ c k, ¬ (c = 49 ∧ k = j + 1) → t5 c k = t4 c k := fun c k h => by rw [ht5]; exact vu_n t4 (by omega)
    have s48 : Rw t5 48 (h2_ (P 0 j) (P 1 j) (P 2 j) (P 3 j) (K1 j) OUT IN j (rw_ P K1 OUT IN BR j)) := fun k hk => by
      rw [f5 _ _ (by omega), d4 k hk]
      rfl
    rw [sum7 rfl rfl s48, bso, atL_n rfl rfl (by omega), bso, putL_n rfl rfl (by omega), bso]
    obtain ⟨t6, ht6⟩ : ∃ t6, t6 = va_up t5 50 (vp_updL (t5 50) (j + 1) (iL (sm (h2_ (P 0 j) (P 1 j) (P 2 j) (P 3 j) (K1 j) OUT IN j (rw_ P K1 OUT IN BR j)) 11) * t5 46 (j + 1))) := ⟨_, rfl⟩
    rw [← ht6]
    have f6 : ∀ c k, ¬ (c = 50 ∧ k = j + 1) → t6 c k = t5 c k := fun c k h => by rw [ht6]; exact vu_n t5 (by omega)
    have w6 : Wg t6 P J := Wg_fr (fun c k h7 h8 => by rw [f6 c k (by omega), f5 c k (by omega), f4 c k (by omega) (by omega)]) h3
    have r47 : Rw t6 47 (rw_ P K1 OUT IN BR (j + 1)).1 := fun k hk => by
      rw [f6 _ _ (by omega), f5 _ _ (by omega), d3 k hk]
      rfl
    have g6 : G4 t6 P OUT IN BR J (j + 1) := fun i hi => by
      by_cases z : i = j
      · subst z
        refine ⟨?_, ?_⟩
        · rw [f6 _ _ (by omega), ht5, vu_s, e46, ← iL_mul]
          rfl
        · rw [ht6, vu_s, f5 _ _ (by omega), e46, ← iL_mul]
          rfl
      · obtain ⟨x, y⟩ := h6 i (by omega)
        exact ⟨by rw [f6 _ _ (by omega), f5 _ _ (by omega), f4 _ _ (by omega) (by omega)]; exact x, by rw [f6 _ _ (by omega), f5 _ _ (by omega), f4 _ _ (by omega) (by omega)]; exact y⟩
    have f6' : ∀ c k, (c < 47 ∨ 50 < c ∨ (c = 50 ∧ k = 0)) → t6 c k = τ c k := fun c k h => by rw [f6 c k (by omega), f5 c k (by omega), f4 c k (by omega) (by omega)]
    unfold f_X0_passWithNet_105
    rw [nI_1]
    by_cases hb : j + 1 = BR
    · rw [if_pos (by rw [hb])]
      obtain ⟨t7, i1, i2, i3⟩ := fill7 t6 (r := 48) rfl rfl
      rw [i1, bso]
      obtain ⟨τ', x1, x2, x3⟩ := ih (j + 1) fu t7 (by omega) (by omega) (Wg_fr (fun c k _ _ => i2 c k (by omega)) w6) (fun k hk => by rw [i2 47 k (by omega)]; exact r47 k hk) (Rw_cg i3 fun k hk => by
        show (0 : Int) = (if j + 1 = BR then 0 else _)
        rw [if_pos hb]) (fun i hi => by rw [i2 49 _ (by omega), i2 50 _ (by omega)]; exact g6 i hi)
      exact ⟨τ', x1, fun c k h => (x2 c k h).trans ((i2 c k (by omega)).trans (f6' c k h)), x3⟩
    · rw [if_neg (fun z => hb (nI_inj (by omega) (by omega) z))]
      obtain ⟨τ', x1, x2, x3⟩ := ih (j + 1) fu t6 (by omega) (by omega) w6 r47 (fun k hk => by
        rw [f6 48 k (by omega), s48 k hk]
        show _ = iL (if j + 1 = BR then 0 else _)
        rw [if_neg hb]) g6
      exact ⟨τ', x1, fun c k h => (x2 c k h).trans (f6' c k h), x3⟩
theorem net7 {σ : ZI} {τ : ZL} {P : PP} {OUT IN BR J : Nat} (hJ : J ≤ 10) (hO : OUT ≤ 11) (hI : IN ≤ 11) (hB : BR < 2 ^ 31) (h41 : σ 41 0 = nI J) (hW : Wg τ P J) : ∃ τ', f_X0_passWithNet σ τ (nI OUT) (nI IN) (nI BR) = some τ' ∧ (∀ c k, (c < 47 ∨ 50 < c ∨ (c = 50 ∧ k = 0)) → τ' c k = τ c k) ∧ G4 τ' P OUT IN BR J J := by
  obtain ⟨t1, a1, a2, a3, a4⟩ := start7 τ
  unfold f_X0_passWithNet
  rw [a1, bso]
  obtain ⟨τ', x1, x2, x3⟩ := net_l (IN := IN) hJ hO hI hB h41 J 0 3000 t1 (by omega) (by omega) (Wg_fr (fun c k h1 h2 => a2 c k (by omega) (by omega)) hW) a3 a4 (fun i hi => absurd hi (Nat.not_lt_zero _))
  exact ⟨τ', x1, fun c k h => (x2 c k h).trans (a2 c k (by omega) (by omega)), x3⟩
/-- the walk that only counts, to a joint -/
theorem cnt_l {σ : ZI} {P : PP} {J L : Nat} (hJ : J ≤ 10) (hL : L ≤ J) (h41 : σ 41 0 = nI J) : ∀ (d j fu : Nat) (τ : ZL), j + d = L → d < fu → Wg τ P J → Rw τ 47 (rw_ P K1 12 0 0 j).1 → ∃ τ', f_X0_passCounting_6 σ (nI L) fu τ (nI (j + 1)) = some τ' ∧ (∀ c k, c ≠ 47 → τ' c k = τ c k) ∧ Rw τ' 47 (rw_ P K1 12 0 0 L).1 := by
  intro d
  induction d with
  | zero =>
    intro j fu τ h1 h2 h3 h4
    obtain ⟨fu, rfl⟩ : ∃ m, fu = m + 1 := ⟨fu - 1, by omega⟩
    obtain rfl : j = L := by omega
    exact ⟨τ, by rw [f_X0_passCounting_6, if_pos (nI_lt (by omega) (by omega))], fun _ _ _ => rfl, h4⟩
  | succ d ih =>
    intro j fu τ h1 h2 h3 h4
    obtain ⟨fu, rfl⟩ : ∃ m, fu = m + 1 := ⟨fu - 1, by omega⟩
    obtain ⟨p0, p1, p2, p3⟩ := h3.1 j (by omega)
    obtain ⟨t1, a1, a2, a3⟩ := pj7 (r := 47) (.inl rfl) (show j < 10 by omega) h4 (fun k hk _ => (rw_hi P K1 12 0 0 j k hk).1) p0 p1 p2 p3
    rw [f_X0_passCounting_6, if_neg (nI_nlt (by omega) (by omega)), h41, if_neg (nI_nlt (by omega) (by omega)), a1, bso, nI_1]
    obtain ⟨τ', x1, x2, x3⟩ := ih (j + 1) fu t1 (by omega) (by omega) (Wg_fr (fun c k _ _ => a2 c k (by omega)) h3) (Rw_cg a3 fun k hk => by
      show _ = if 12 ≤ k then 0 else _
      rw [if_neg (show ¬ 12 ≤ k by omega)]
      rfl)
    exact ⟨τ', x1, fun c k h => (x2 c k h).trans (a2 c k h), x3⟩
theorem cnt7 {σ : ZI} {τ : ZL} {P : PP} {J L : Nat} (hJ : J ≤ 10) (hL : L ≤ J) (h41 : σ 41 0 = nI J) (hW : Wg τ P J) : ∃ τ', f_X0_passCounting σ τ (nI L) = some τ' ∧ (∀ c k, c ≠ 47 → c ≠ 48 → τ' c k = τ c k) ∧ Rw τ' 47 (rw_ P K1 12 0 0 L).1 := by
  obtain ⟨t1, a1, a2, a3, a4⟩ := start7 τ
  unfold f_X0_passCounting
  rw [a1, bso]
  obtain ⟨τ', x1, x2, x3⟩ := cnt_l hJ hL h41 L 0 3000 t1 (by omega) (by omega) (Wg_fr (fun c k h1 h2 => a2 c k (by omega) (by omega)) hW) a3
  exact ⟨τ', x1, fun c k h1 h2 => (x2 c k h1).trans (a2 c k h1 h2), x3⟩
/-- what was seen -/
def KS (sj sc : Nat → Nat) (j c : Nat) : Nat → Bool
  | 0 => true
  | i + 1 => KS sj sc j c i && (!(sj i == j + 1) || c == sc i)
theorem lo_l (cnt : Nat) (hc : cnt < 2 ^ 31) {f : Nat → Int} : ∀ (d i fu : Nat) (τ : ZL), i + d = 11 → d < fu → Rw τ 47 f → ∃ τ', f_X3_leaveOnly_2 47 (nI cnt) fu τ (nI i) = some τ' ∧ (∀ c k, c ≠ 47 → τ' c k = τ c k) ∧ Rw τ' 47 (fun k => if i ≤ k ∧ k ≠ cnt then 0 else f k) := by
  intro d
  induction d generalizing f with
  | zero =>
    intro i fu τ h1 h2 h3
    obtain ⟨fu, rfl⟩ : ∃ m, fu = m + 1 := ⟨fu - 1, by omega⟩
    obtain rfl : i = 11 := by omega
    exact ⟨τ, by rw [f_X3_leaveOnly_2, if_pos (by decide)], fun _ _ _ => rfl, fun k hk => by dsimp only; rw [if_neg (by omega)]; exact h3 k hk⟩
  | succ d ih =>
    intro i fu τ h1 h2 h3
    obtain ⟨fu, rfl⟩ : ∃ m, fu = m + 1 := ⟨fu - 1, by omega⟩
    rw [f_X3_leaveOnly_2, if_neg (show ¬ nI (ar 47).2 ≤ nI i from nI_ge (b := 11) (by omega) (by omega))]
    unfold f_X3_leaveOnly_17
    rw [nI_1]
    by_cases hz : i = cnt
    · rw [if_pos (by rw [hz])]
      obtain ⟨τ', g1, g2, g3⟩ := ih (f := f) (i + 1) fu τ (by omega) (by omega) h3
      refine ⟨τ', g1, g2, Rw_cg g3 fun k hk => ?_⟩
      by_cases z : i + 1 ≤ k ∧ k ≠ cnt
      · rw [if_pos z, if_pos ⟨by omega, z.2⟩]
      · rw [if_neg z, if_neg (by omega)]
    · rw [if_neg (fun z => hz (nI_inj (by omega) hc z)), show inB (nI i) (ar 47).2 = true from inB11 (by omega), if_pos rfl, ltq, nI_clamp (by omega)]
      obtain ⟨τ', g1, g2, g3⟩ := ih (f := fun k => if k = i then 0 else f k) (i + 1) fu (va_up τ 47 (vp_updL (τ 47) i 0)) (by omega) (by omega) (fun k hk => by
        by_cases z : k = i
        · subst z; rw [vu_s]; dsimp only; rw [if_pos rfl]; rfl
        · rw [vu_n τ (.inr z)]; dsimp only; rw [if_neg z]; exact h3 k hk)
      refine ⟨τ', g1, fun c k h => (g2 c k h).trans (vu_n τ (.inl h)), Rw_cg g3 fun k hk => ?_⟩
      by_cases z : i + 1 ≤ k ∧ k ≠ cnt
      · rw [if_pos z, if_pos ⟨by omega, z.2⟩]
      · rw [if_neg z]
        by_cases z2 : k = i
        · subst z2; rw [if_pos rfl, if_pos ⟨Nat.le_refl _, hz⟩]
        · rw [if_neg z2, if_neg (by omega)]
theorem lo7 {τ : ZL} {cnt : Nat} (hc : cnt < 2 ^ 31) {f : Nat → Int} (hf : Rw τ 47 f) : ∃ τ', f_X3_leaveOnly τ 47 (nI cnt) = some τ' ∧ (∀ c k, c ≠ 47 → τ' c k = τ c k) ∧ Rw τ' 47 (fun k => if k = cnt then f k else 0) := by
  unfold f_X3_leaveOnly
  rw [if_pos (by decide)]
  obtain ⟨τ', g1, g2, g3⟩ := lo_l cnt hc 11 0 3000 τ (by omega) (by omega) hf
  refine ⟨τ', g1, g2, Rw_cg g3 fun k hk => ?_⟩
  by_cases z : k = cnt
  · rw [if_pos z, if_neg (by omega)]
  · rw [if_neg z, if_pos ⟨by omega, z⟩]
theorem li_l {σ : ZI} {n : Nat} {sj sc : Nat → Nat} {j : Nat} (hj : j < 10) (hn : n ≤ 6) (h2 : σ 51 2 = nI n) (h3 : ∀ i, i < n → sj i < 2 ^ 31 ∧ sc i < 2 ^ 31 ∧ σ 52 i = nI (sj i) ∧ σ 53 i = nI (sc i)) {f : Nat → Int} : ∀ (d i fu : Nat) (τ : ZL), i + d = n → d < fu → Rw τ 47 (fun c => if KS sj sc j c i = true then f c else 0) → ∃ τ', f_X3_leaveIn_2 σ 47 (nI (j + 1)) fu τ (nI i) = some τ' ∧ (∀ c k, c ≠ 47 → τ' c k = τ c k) ∧ Rw τ' 47 (fun c => if KS sj sc j c n = true then f c else 0) := by
  intro d
  induction d with
  | zero =>
    intro i fu τ h4 h5 h6
    obtain ⟨fu, rfl⟩ : ∃ m, fu = m + 1 := ⟨fu - 1, by omega⟩
    obtain rfl : i = n := by omega
    exact ⟨τ, by rw [f_X3_leaveIn_2, h2, if_pos (Int32.le_refl _)], fun _ _ _ => rfl, h6⟩
  | succ d ih =>
    intro i fu τ h4 h5 h6
    obtain ⟨fu, rfl⟩ : ∃ m, fu = m + 1 := ⟨fu - 1, by omega⟩
    obtain ⟨b1, b2, b3, b4⟩ := h3 i (by omega)
    rw [f_X3_leaveIn_2, h2, if_neg (nI_ge (by omega) (by omega)), at_n (N := 6) rfl (by omega) (by omega), bso, b3]
    unfold f_X3_leaveIn_34
    rw [nI_1]
    by_cases z : sj i = j + 1
    · rw [if_pos (by rw [z]), at_n (N := 6) rfl (by omega) (by omega), bso, b4]
      obtain ⟨t1, a1, a2, a3⟩ := lo7 (τ := τ) b2 h6
      rw [a1, bso]
      obtain ⟨τ', g1, g2, g3⟩ := ih (i + 1) fu t1 (by omega) (by omega) (Rw_cg a3 fun k hk => by
        have e : KS sj sc j k (i + 1) = (KS sj sc j k i && (!(sj i == j + 1) || k == sc i)) := rfl
        rw [e]
        by_cases w : k = sc i
        · rw [if_pos w]; simp [w]
        · rw [if_neg w]; simp [w, z])
      exact ⟨τ', g1, fun c k h => (g2 c k h).trans (a2 c k h), g3⟩
    · rw [if_neg (fun w => z (nI_inj b1 (by omega) w))]
      obtain ⟨τ', g1, g2, g3⟩ := ih (i + 1) fu τ (by omega) (by omega) (Rw_cg h6 fun k hk => by
        have e : KS sj sc j k (i + 1) = KS sj sc j k i := by
          show (KS sj sc j k i && _) = _
          simp [z]
        rw [e])
      exact ⟨τ', g1, g2, g3⟩
/-- the seen, as the class and the reference have them -/
def S7 (J n : Nat) (sj sc : Nat → Nat) (σ : ZI) : Prop := n ≤ 6 ∧ σ 51 2 = nI n ∧ ∀ i, i < n → 1 ≤ sj i ∧ sj i ≤ J ∧ sc i ≤ 10 ∧ σ 52 i = nI (sj i) ∧ σ 53 i = nI (sc i)
theorem seen_l {σ : ZI} {P : PP} {J n : Nat} {sj sc : Nat → Nat} (hJ : J ≤ 10) (h41 : σ 41 0 = nI J) (hS : S7 J n sj sc σ) : ∀ (d j fu : Nat) (τ : ZL), j + d = J → d < fu → Wt τ P J → Rw τ 47 (rw_ P (fun j c => KS sj sc j c n) 12 0 0 j).1 → ∃ τ', f_X0_passAsSeen_6 σ fu τ (nI (j + 1)) = some (iL (sm (rw_ P (fun j c => KS sj sc j c n) 12 0 0 J).1 11), τ') ∧ (∀ c k, c ≠ 47 → τ' c k = τ c k) := by
  obtain ⟨n6, e51, hs⟩ := hS
  intro d
  induction d with
  | zero =>
    intro j fu τ h1 h2 h3 h4
    obtain ⟨fu, rfl⟩ : ∃ m, fu = m + 1 := ⟨fu - 1, by omega⟩
    obtain rfl : j = J := by omega
    exact ⟨τ, by rw [f_X0_passAsSeen_6, h41, if_pos (nI_lt (by omega) (by omega)), sum7 rfl rfl h4, bso], fun _ _ _ => rfl⟩
  | succ d ih =>
    intro j fu τ h1 h2 h3 h4
    obtain ⟨fu, rfl⟩ : ∃ m, fu = m + 1 := ⟨fu - 1, by omega⟩
    obtain ⟨p0, p1, p2, p3⟩ := h3 j (by omega)
    obtain ⟨t1, a1, a2, a3⟩ := pj7 (r := 47) (.inl rfl) (show j < 10 by omega) h4 (fun k hk _ => (rw_hi P _ 12 0 0 j k hk).1) p0 p1 p2 p3
    obtain ⟨t2, b1, b2, b3⟩ := li_l (σ := σ) (n := n) (sj := sj) (sc := sc) (j := j) (by omega) n6 e51 (fun i hi => by obtain ⟨x1, x2, x3, x4, x5⟩ := hs i hi; exact ⟨by omega, by omega, x4, x5⟩) n 0 3000 t1 (by omega) (by omega) (f := sp (P 0 j) (P 1 j) (P 2 j) (P 3 j) j (rw_ P (fun j c => KS sj sc j c n) 12 0 0 j).1) (Rw_cg a3 fun k hk => by
      rw [if_pos (show KS sj sc j k 0 = true from rfl)])
    rw [f_X0_passAsSeen_6, h41, if_neg (nI_nlt (by omega) (by omega)), a1, bso]
    unfold f_X3_leaveIn
    rw [if_pos (by decide), show f_X3_leaveIn_2 σ 47 (nI (j + 1)) 3000 t1 0 = _ from b1, bso, nI_1]
    obtain ⟨τ', x1, x2⟩ := ih (j + 1) fu t2 (by omega) (by omega) (Wt_fr (fun c k _ _ => by rw [b2 c k (by omega), a2 c k (by omega)]) h3) (Rw_cg b3 fun k hk => by
      show _ = if 12 ≤ k then 0 else _
      rw [if_neg (show ¬ 12 ≤ k by omega)]
      rfl)
    exact ⟨τ', x1, fun c k h => (x2 c k h).trans ((b2 c k h).trans (a2 c k h))⟩
theorem seen7 {σ : ZI} {τ : ZL} {P : PP} {J n : Nat} {sj sc : Nat → Nat} (hJ : J ≤ 10) (h41 : σ 41 0 = nI J) (hS : S7 J n sj sc σ) (hW : Wt τ P J) : ∃ τ', f_X0_passAsSeen σ τ = some (iL (sm (rw_ P (fun j c => KS sj sc j c n) 12 0 0 J).1 11), τ') ∧ (∀ c k, c ≠ 47 → c ≠ 48 → τ' c k = τ c k) := by
  obtain ⟨t1, a1, a2, a3, a4⟩ := start7 τ
  unfold f_X0_passAsSeen
  rw [a1, bso]
  obtain ⟨τ', x1, x2⟩ := seen_l (P := P) hJ h41 hS J 0 3000 t1 (by omega) (by omega) (Wt_fr (fun c k h1 h2 => a2 c k (by omega) (by omega)) hW) a3
  exact ⟨τ', x1, fun c k h1 h2 => (x2 c k h1).trans (a2 c k h1 h2)⟩
