/-! the class's odds: one joint -/
def iL (z : Int) : Int64 := Int64.ofInt z
theorem iL_add (a b : Int) : iL (a + b) = iL a + iL b := Int64.ofInt_add a b
theorem iL_mul (a b : Int) : iL (a * b) = iL a * iL b := Int64.ofInt_mul a b
theorem iL_0 : iL 0 = 0 := rfl
theorem iL_1 : iL 1 = 1 := rfl
theorem lN_iL (n : Nat) : lN n = iL n := by
  unfold lN iL
  exact (Int64.ofInt_eq_ofNat).symm
theorem nI_iL {n : Nat} (h : n < 2 ^ 31) : (nI n).toInt64 = iL n := by rw [nI_l h, lN_iL]
theorem cmp0 (x y : Int64) : lg_cmp x y = 0 ↔ x = y := by
  unfold lg_cmp
  constructor
  · intro h
    by_cases h1 : x > y
    · rw [if_pos h1] at h; exact absurd h (by decide)
    · rw [if_neg h1] at h
      by_cases h2 : x = y
      · exact h2
      · rw [if_neg h2] at h; exact absurd h (by decide)
  · rintro rfl
    rw [if_neg (show ¬ x > x from Int64.lt_irrefl), if_pos rfl]
def Rw (τ : ZL) (r : Nat) (f : Nat → Int) : Prop := ∀ k, k < 11 → τ r k = iL (f k)
theorem Rw_cg {τ : ZL} {r : Nat} {f g : Nat → Int} (h : Rw τ r f) (e : ∀ k, k < 11 → f k = g k) : Rw τ r g := fun k hk => by rw [← e k hk]; exact h k hk
theorem inB11 {k : Nat} (h : k < 11) : inB (nI k) 11 = true := inB_n h (by omega)
/-- the sum from a place on -/
theorem sm_ge (f : Nat → Int) {i n : Nat} (h : i < n) : sm (fun c => if i ≤ c then f c else 0) n = sm (fun c => if i + 1 ≤ c then f c else 0) n + f i := by
  have e : sm (fun c => if i ≤ c then f c else 0) n = sm (fun c => (if i + 1 ≤ c then f c else 0) + if c = i then f i else 0) n := sm_congr fun c _ => by
    by_cases h1 : i + 1 ≤ c
    · rw [if_pos (by omega), if_pos h1, if_neg (by omega)]; omega
    · by_cases h2 : c = i
      · subst h2; rw [if_pos (by omega), if_neg h1, if_pos rfl]; omega
      · rw [if_neg (by omega), if_neg h1, if_neg h2]; omega
  rw [e, sm_add, sm_delta, if_pos h]
/-- the row when all counts from i on are through -/
def pj (a b n o : Int) (j : Nat) (f : Nat → Int) (i k : Nat) : Int :=
  (if k < i then f k else if k ≤ j then f k * (o * a) else 0) + (if i < k ∧ k ≤ j + 1 then f (k - 1) * (o * b) else 0) + (if k = j + 1 then sm (fun c => if i ≤ c then f c else 0) (j + 1) * (n * (a + b)) else 0)
theorem pj_top {a b n o : Int} {j : Nat} {f : Nat → Int} (hz : ∀ k, j < k → k < 11 → f k = 0) (k : Nat) (hk : k < 11) : pj a b n o j f (j + 1) k = f k := by
  unfold pj
  have e : sm (fun c => if j + 1 ≤ c then f c else 0) (j + 1) = 0 := by
    rw [sm_congr (g := fun _ => 0) (fun c hc => if_neg (by omega)), sm_zero]
  rw [e, if_neg (show ¬ (j + 1 < k ∧ k ≤ j + 1) by omega)]
  by_cases h : k < j + 1
  · rw [if_pos h, if_neg (by omega)]; omega
  · rw [if_neg h, if_neg (by omega), hz k (by omega) hk]; simp
theorem pj_bot (a b n o : Int) (j : Nat) (f : Nat → Int) (k : Nat) : pj a b n o j f 0 k = sp a b n o j f k := by
  unfold pj sp
  have e : sm (fun c => if 0 ≤ c then f c else 0) (j + 1) = sm f (j + 1) := sm_congr fun c _ => if_pos (Nat.zero_le c)
  rw [e, if_neg (Nat.not_lt_zero k)]
  have : (0 < k ∧ k ≤ j + 1) = (1 ≤ k ∧ k ≤ j + 1) := rfl
  simp only [this]
theorem pj_step (a b n o : Int) {j : Nat} (f : Nat → Int) {i : Nat} (hi : i ≤ j) (k : Nat) : pj a b n o j f i k = (if k = i then 0 else pj a b n o j f (i + 1) k) + f i * ((if k = i then o * a else 0) + (if k = i + 1 then o * b else 0) + (if k = j + 1 then n * (a + b) else 0)) := by
  have s := sm_ge f (show i < j + 1 by omega)
  unfold pj
  by_cases h1 : k = i
  · subst h1
    simp [hi, show ¬ k = j + 1 by omega]
  · by_cases h2 : k = i + 1
    · subst h2
      by_cases h3 : i = j
      · subst h3
        simp [s]
        grind
      · simp [show ¬ i + 1 = j + 1 by omega, show i + 1 ≤ j by omega]
        grind
    · by_cases h3 : k = j + 1
      · subst h3
        simp [s, show ¬ j + 1 < i by omega, h1, h2, show i < j + 1 by omega, show i + 1 < j + 1 by omega, show ¬ j + 1 < i + 1 by omega]
        grind
      · by_cases h4 : k < i
        · simp [h1, h2, h3, h4, show k < i + 1 by omega, show ¬ i < k by omega, show ¬ i + 1 < k by omega]
        · simp [h1, h2, h3, h4, show ¬ k < i + 1 by omega, show i < k by omega, show i + 1 < k by omega]
theorem vu_s (τ : ZL) (r p : Nat) (v : Int64) : va_up τ r (vp_updL (τ r) p v) r p = v := by simp [va_up, vp_updL]
theorem vu_n (τ : ZL) {r p c k : Nat} {v : Int64} (h : c ≠ r ∨ k ≠ p) : va_up τ r (vp_updL (τ r) p v) c k = τ c k := by
  by_cases h1 : c = r
  · subst h1
    rcases h with h | h
    · exact absurd rfl h
    · simp [va_up, vp_updL, h]
  · simp [va_up, h1]
/-- one count of a joint -/
theorem pj_l {r : Nat} (hr : r = 47 ∨ r = 48) {a b n o : Int} {j : Nat} {f : Nat → Int} (hj : j < 10) : ∀ (i fu : Nat) (τ : ZL), i ≤ j + 1 → i < fu → Rw τ r (pj a b n o j f i) → τ 42 (j + 1) = iL a → τ 43 (j + 1) = iL b → τ 44 (j + 1) = iL n → τ 45 (j + 1) = iL o → ∃ τ', f_X0_passJoint_23 r (nI (j + 1)) fu τ (nI i + (-1)) = some τ' ∧ (∀ c k, c ≠ r → τ' c k = τ c k) ∧ Rw τ' r (pj a b n o j f 0) := by
  have h11 : (ar r).2 = 11 := by rcases hr with rfl | rfl <;> rfl
  intro i
  induction i with
  | zero =>
    intro fu τ h1 h2 h3 e0 e1 e2 e3
    obtain ⟨fu, rfl⟩ : ∃ m, fu = m + 1 := ⟨fu - 1, by omega⟩
    exact ⟨τ, by rw [f_X0_passJoint_23, if_pos (by decide)], fun _ _ _ => rfl, h3⟩
  | succ i ih =>
    intro fu τ h1 h2 h3 e0 e1 e2 e3
    obtain ⟨fu, rfl⟩ : ∃ m, fu = m + 1 := ⟨fu - 1, by omega⟩
    have ew : τ r i = iL (f i) := by
      rw [h3 i (by omega)]
      unfold pj
      simp [show ¬ i = j + 1 by omega, show ¬ i + 1 < i by omega]
    rw [pk_m1, f_X0_passJoint_23, if_neg (nI_pos (by omega)), h11, inB11 (by omega), if_pos rfl, nI_clamp (by omega)]
    unfold f_X0_passJoint_108
    by_cases hw : τ r i = 0
    · rw [if_pos ((cmp0 _ _).mpr hw)]
      refine ih fu τ (by omega) (by omega) (fun k hk => ?_) e0 e1 e2 e3
      rw [pj_step a b n o f (by omega) k, iL_add, iL_mul, ← ew, hw, Int64.zero_mul, Int64.add_zero]
      by_cases hk2 : k = i
      · subst hk2; rw [if_pos rfl, hw, iL_0]
      · rw [if_neg hk2]; exact h3 k hk
    · rw [if_neg (fun q => hw ((cmp0 _ _).mp q)), inB11 (show j + 1 < 11 by omega), if_pos rfl, ltq, if_pos rfl, if_pos rfl, ltq, nI_1, inB11 (show i + 1 < 11 by omega), if_pos rfl, if_pos rfl, if_pos rfl, ltq, if_pos rfl, if_pos rfl, if_pos rfl, if_pos rfl, if_pos rfl, ltq, nI_clamp (show i + 1 < 2 ^ 31 by omega), nI_clamp (show j + 1 < 2 ^ 31 by omega)]
      obtain ⟨t1, ht1⟩ : ∃ t1, t1 = va_up τ r (vp_updL (τ r) i (τ r i * τ 45 (j + 1) * τ 42 (j + 1))) := ⟨_, rfl⟩
      rw [← ht1]
      obtain ⟨t2, ht2⟩ : ∃ t2, t2 = va_up t1 r (vp_updL (t1 r) (i + 1) (t1 r (i + 1) + τ r i * τ 45 (j + 1) * t1 43 (j + 1))) := ⟨_, rfl⟩
      rw [← ht2]
      have o1 : ∀ c k, c ≠ r → t1 c k = τ c k := fun c k h => by rw [ht1]; exact vu_n τ (.inl h)
      have o2 : ∀ c k, c ≠ r → t2 c k = τ c k := fun c k h => by rw [ht2, vu_n t1 (.inl h), o1 c k h]
      have r4 : ∀ c, 42 ≤ c → c ≤ 45 → c ≠ r := fun c _ _ => by omega
      rw [o1 43 _ (r4 43 (by omega) (by omega)), e3, e1] at ht2
      rw [e3, e0] at ht1
      rw [o2 44 _ (r4 44 (by omega) (by omega)), o2 42 _ (r4 42 (by omega) (by omega)), o2 43 _ (r4 43 (by omega) (by omega)), e2, e0, e1]
      obtain ⟨t3, ht3⟩ : ∃ t3, t3 = va_up t2 r (vp_updL (t2 r) (j + 1) (t2 r (j + 1) + τ r i * iL n * (iL a + iL b))) := ⟨_, rfl⟩
      rw [← ht3]
      have o3 : ∀ c k, c ≠ r → t3 c k = τ c k := fun c k h => by rw [ht3, vu_n t2 (.inl h), o2 c k h]
      have hw3 : Rw t3 r (pj a b n o j f i) := fun k hk => by
        rw [pj_step a b n o f (by omega) k]
        have q1 : ∀ k, t1 r k = if k = i then iL (f i * o * a) else τ r k := fun k => by
          by_cases z : k = i
          · subst z; rw [ht1, vu_s, if_pos rfl, ew, iL_mul, iL_mul]
          · rw [ht1, vu_n τ (.inr z), if_neg z]
        have q2 : ∀ k, t2 r k = if k = i + 1 then τ r (i + 1) + iL (f i * o * b) else t1 r k := fun k => by
          by_cases z : k = i + 1
          · subst z; rw [ht2, vu_s, if_pos rfl, ew, iL_mul, iL_mul, q1, if_neg (by omega)]
          · rw [ht2, vu_n t1 (.inr z), if_neg z]
        have q3 : ∀ k, t3 r k = if k = j + 1 then t2 r (j + 1) + iL (f i * n * (a + b)) else t2 r k := fun k => by
          by_cases z : k = j + 1
          · subst z; rw [ht3, vu_s, if_pos rfl, ew, iL_mul, iL_mul, iL_add]
          · rw [ht3, vu_n t2 (.inr z), if_neg z]
        have h3k := fun k (hk : k < 11) => h3 k hk
        by_cases z1 : k = i
        · subst z1
          rw [q3, if_neg (by omega), q2, if_neg (by omega), q1, if_pos rfl, if_pos rfl, if_pos rfl, if_neg (by omega), if_neg (by omega)]
          congr 1
          grind
        · by_cases z2 : k = j + 1
          · subst z2
            rw [q3, if_pos rfl, q2, q1]
            simp only [z1, if_false, eq_self, if_true]
            by_cases z3 : j + 1 = i + 1
            · have z4 : j = i := by omega
              subst z4
              simp only [eq_self, if_true]
              rw [h3 _ hk, ← iL_add, ← iL_add]
              congr 1
              grind
            · simp only [z3, if_false]
              rw [h3 _ hk, ← iL_add]
              congr 1
              grind
          · rw [q3, if_neg z2, q2, q1, if_neg z1, if_neg z1, if_neg z1, if_neg z2]
            by_cases z3 : k = i + 1
            · subst z3
              rw [if_pos rfl, if_pos rfl, h3 _ hk, ← iL_add]
              congr 1
              grind
            · rw [if_neg z3, if_neg z3, h3 _ hk]
              congr 1
              grind
      obtain ⟨τ', g1, g2, g3⟩ := ih fu t3 (by omega) (by omega) hw3 (by rw [o3 42 _ (r4 42 (by omega) (by omega))]; exact e0) (by rw [o3 43 _ (r4 43 (by omega) (by omega))]; exact e1) (by rw [o3 44 _ (r4 44 (by omega) (by omega))]; exact e2) (by rw [o3 45 _ (r4 45 (by omega) (by omega))]; exact e3)
      exact ⟨τ', g1, fun c k h => (g2 c k h).trans (o3 c k h), g3⟩
theorem pj7 {τ : ZL} {r : Nat} (hr : r = 47 ∨ r = 48) {a b n o : Int} {j : Nat} {f : Nat → Int} (hj : j < 10) (hf : Rw τ r f) (hz : ∀ k, j < k → k < 11 → f k = 0) (e0 : τ 42 (j + 1) = iL a) (e1 : τ 43 (j + 1) = iL b) (e2 : τ 44 (j + 1) = iL n) (e3 : τ 45 (j + 1) = iL o) : ∃ τ', f_X0_passJoint τ r (nI (j + 1)) = some τ' ∧ (∀ c k, c ≠ r → τ' c k = τ c k) ∧ Rw τ' r (sp a b n o j f) := by
  obtain ⟨τ', g1, g2, g3⟩ := pj_l hr (a := a) (b := b) (n := n) (o := o) (f := f) hj (j + 1) 3000 τ (by omega) (by omega) (fun k hk => by rw [pj_top hz k hk]; exact hf k hk) e0 e1 e2 e3
  refine ⟨τ', ?_, g2, fun k hk => by rw [g3 k hk, pj_bot]⟩
  have h1 : (ar r).1 = 2 ∧ (ar r).2 = 11 := by rcases hr with rfl | rfl <;> exact ⟨rfl, rfl⟩
  unfold f_X0_passJoint
  rw [h1.1, h1.2, if_pos rfl, if_neg (show ¬ nI (j + 1) < 1 from nI_nlt (a := j + 1) (b := 1) (by omega) (by omega)), if_neg (show ¬ (11 : Int32) ≤ nI (j + 1) from nI_ge (b := 11) (by omega) (by omega)), if_pos (by decide), nI_pred]
  rw [pk_m1] at g1
  exact g1
/-- the other loops over a row -/
theorem fill_l {r : Nat} (h11 : (ar r).2 = 11) : ∀ (d i fu : Nat) (τ : ZL), i + d = 11 → d < fu → (∀ k, k < i → τ r k = 0) → ∃ τ', f_J7_fill_d0a16_6 r 0 fu τ (nI i) (nI 11) = some τ' ∧ (∀ c k, c ≠ r → τ' c k = τ c k) ∧ Rw τ' r (fun _ => 0) := by
  intro d
  induction d with
  | zero =>
    intro i fu τ h1 h2 h3
    obtain ⟨fu, rfl⟩ : ∃ m, fu = m + 1 := ⟨fu - 1, by omega⟩
    obtain rfl : i = 11 := by omega
    exact ⟨τ, by rw [f_J7_fill_d0a16_6, if_pos (Int32.le_refl _)], fun _ _ _ => rfl, fun k hk => h3 k hk⟩
  | succ d ih =>
    intro i fu τ h1 h2 h3
    obtain ⟨fu, rfl⟩ : ∃ m, fu = m + 1 := ⟨fu - 1, by omega⟩
    rw [f_J7_fill_d0a16_6, if_neg (nI_ge (by omega) (by omega)), h11, inB11 (by omega), if_pos rfl, ltq, nI_1, nI_clamp (by omega)]
    obtain ⟨τ', g1, g2, g3⟩ := ih (i + 1) fu (va_up τ r (vp_updL (τ r) i 0)) (by omega) (by omega) (fun k hk => by
      by_cases z : k = i
      · subst z; exact vu_s τ r k 0
      · rw [vu_n τ (.inr z)]; exact h3 k (by omega))
    exact ⟨τ', g1, fun c k h => (g2 c k h).trans (vu_n τ (.inl h)), g3⟩
theorem fill7 (τ : ZL) {r : Nat} (h1 : (ar r).1 = 2) (h11 : (ar r).2 = 11) : ∃ τ', f_J7_fill_d0a16 τ r 0 = some τ' ∧ (∀ c k, c ≠ r → τ' c k = τ c k) ∧ Rw τ' r (fun _ => 0) := by
  unfold f_J7_fill_d0a16
  rw [h1, if_pos rfl, h11]
  exact fill_l h11 11 0 3000 τ (by omega) (by omega) (fun k hk => absurd hk (Nat.not_lt_zero _))
theorem start7 (τ : ZL) : ∃ τ', f_X0_start τ = some τ' ∧ (∀ c k, c ≠ 47 → c ≠ 48 → τ' c k = τ c k) ∧ Rw τ' 47 (fun c => if c = 0 then 1 else 0) ∧ Rw τ' 48 (fun _ => 0) := by
  obtain ⟨t1, a1, a2, a3⟩ := fill7 τ (r := 47) rfl rfl
  obtain ⟨t2, b1, b2, b3⟩ := fill7 t1 (r := 48) rfl rfl
  unfold f_X0_start
  rw [a1, bso, b1, bso, ltq]
  refine ⟨_, rfl, fun c k h1 h2 => ?_, fun k hk => ?_, fun k hk => ?_⟩
  · rw [vu_n t2 (.inl h1), b2 c k h2, a2 c k h1]
  · dsimp only
    by_cases z : k = 0
    · subst z; rw [vu_s, if_pos rfl]; rfl
    · rw [vu_n t2 (.inr z), b2 47 k (by omega), a3 k hk, if_neg z]
  · rw [vu_n t2 (.inl (by omega))]; exact b3 k hk
theorem take_l (x : Int32) {f : Nat → Int} : ∀ (d i fu : Nat) (τ : ZL), i + d = 11 → d < fu → Rw τ 48 f → ∃ τ', f_X0_takeIn_6 x fu τ (nI i) = some τ' ∧ (∀ c k, c ≠ 48 → τ' c k = τ c k) ∧ Rw τ' 48 (fun k => if i ≤ k then 0 else f k) := by
  intro d
  induction d generalizing f with
  | zero =>
    intro i fu τ h1 h2 h3
    obtain ⟨fu, rfl⟩ : ∃ m, fu = m + 1 := ⟨fu - 1, by omega⟩
    obtain rfl : i = 11 := by omega
    exact ⟨τ, by rw [f_X0_takeIn_6, if_pos (Int32.le_refl _)], fun _ _ _ => rfl, fun k hk => by dsimp only; rw [if_neg (by omega)]; exact h3 k hk⟩
  | succ d ih =>
    intro i fu τ h1 h2 h3
    obtain ⟨fu, rfl⟩ : ∃ m, fu = m + 1 := ⟨fu - 1, by omega⟩
    rw [f_X0_takeIn_6, if_neg (nI_ge (by omega) (by omega)), inB11 (by omega), if_pos rfl, ltq, nI_1, nI_clamp (by omega)]
    obtain ⟨τ', g1, g2, g3⟩ := ih (f := fun k => if k = i then 0 else f k) (i + 1) fu (va_up τ 48 (vp_updL (τ 48) i 0)) (by omega) (by omega) (fun k hk => by
      dsimp only
      by_cases z : k = i
      · subst z; rw [vu_s, if_pos rfl]; rfl
      · rw [vu_n τ (.inr z), if_neg z]; exact h3 k hk)
    refine ⟨τ', g1, fun c k h => (g2 c k h).trans (vu_n τ (.inl h)), Rw_cg g3 fun k hk => ?_⟩
    by_cases z : i + 1 ≤ k
    · rw [if_pos z, if_pos (by omega)]
    · rw [if_neg z]
      by_cases z2 : k = i
      · rw [if_pos z2, if_pos (by omega)]
      · rw [if_neg z2, if_neg (by omega)]
theorem take7 {τ : ZL} {f : Nat → Int} {IN : Nat} (h : IN ≤ 11) (hf : Rw τ 48 f) : ∃ τ', f_X0_takeIn τ (nI IN) = some τ' ∧ (∀ c k, c ≠ 48 → τ' c k = τ c k) ∧ Rw τ' 48 (fun k => if IN ≤ k then 0 else f k) := by
  unfold f_X0_takeIn
  rw [ltq, if_neg (nI_pos (by omega))]
  exact take_l (nI IN) (11 - IN) IN 3000 τ (by omega) (by omega) hf
theorem put_l (x : Int32) {f g : Nat → Int} {v : Int} : ∀ (d i fu : Nat) (τ : ZL), i + d = 11 → d < fu → Rw τ 47 f → Rw τ 48 g → ∃ τ', f_X0_putOut_9 x fu τ (iL v) (nI i) = some (iL (v + sm (fun c => if i ≤ c then f c else 0) 11), τ') ∧ (∀ c k, c ≠ 47 → c ≠ 48 → τ' c k = τ c k) ∧ Rw τ' 47 (fun k => if i ≤ k then 0 else f k) ∧ Rw τ' 48 (fun k => g k + if i ≤ k then f k else 0) := by
  intro d
  induction d generalizing f g v with
  | zero =>
    intro i fu τ h1 h2 h3 h4
    obtain ⟨fu, rfl⟩ : ∃ m, fu = m + 1 := ⟨fu - 1, by omega⟩
    obtain rfl : i = 11 := by omega
    have e : sm (fun c => if 11 ≤ c then f c else 0) 11 = 0 := by rw [sm_congr (g := fun _ => 0) (fun c hc => if_neg (by omega)), sm_zero]
    refine ⟨τ, by rw [f_X0_putOut_9, if_pos (Int32.le_refl _), e, Int.add_zero], fun _ _ _ _ => rfl, fun k hk => by dsimp only; rw [if_neg (by omega)]; exact h3 k hk, fun k hk => by dsimp only; rw [if_neg (by omega), Int.add_zero]; exact h4 k hk⟩
  | succ d ih =>
    intro i fu τ h1 h2 h3 h4
    obtain ⟨fu, rfl⟩ : ∃ m, fu = m + 1 := ⟨fu - 1, by omega⟩
    rw [f_X0_putOut_9, if_neg (nI_ge (by omega) (by omega)), if_neg (nI_ge (by omega) (by omega)), inB11 (by omega), if_pos rfl, ltq, if_pos rfl, if_pos rfl, if_pos rfl, ltq, if_pos rfl, ltq, nI_1, nI_clamp (by omega), h3 i (by omega), h4 i (by omega), ← iL_add, ← iL_add]
    obtain ⟨t1, ht1⟩ : ∃ t1, t1 = va_up τ 48 (vp_updL (τ 48) i (iL (g i + f i))) := ⟨_, rfl⟩
    rw [← ht1]
    obtain ⟨t2, ht2⟩ : ∃ t2, t2 = va_up t1 47 (vp_updL (t1 47) i 0) := ⟨_, rfl⟩
    rw [← ht2]
    obtain ⟨τ', g1, g2, g3, g4⟩ := ih (f := fun k => if k = i then 0 else f k) (g := fun k => if k = i then g i + f i else g k) (v := v + f i) (i + 1) fu t2 (by omega) (by omega) (fun k hk => by
      dsimp only
      by_cases z : k = i
      · subst z; rw [ht2, vu_s, if_pos rfl]; rfl
      · rw [ht2, vu_n t1 (.inr z), ht1, vu_n τ (.inl (by omega)), if_neg z]; exact h3 k hk) (fun k hk => by
      dsimp only
      by_cases z : k = i
      · subst z; rw [ht2, vu_n t1 (.inl (by omega)), ht1, vu_s, if_pos rfl]
      · rw [ht2, vu_n t1 (.inl (by omega)), ht1, vu_n τ (.inr z), if_neg z]; exact h4 k hk)
    have e : sm (fun c => if i + 1 ≤ c then (if c = i then 0 else f c) else 0) 11 = sm (fun c => if i + 1 ≤ c then f c else 0) 11 := sm_congr fun c _ => by
      by_cases z : i + 1 ≤ c
      · rw [if_pos z, if_pos z, if_neg (by omega)]
      · rw [if_neg z, if_neg z]
    refine ⟨τ', ?_, fun c k a b => ?_, Rw_cg g3 fun k hk => ?_, Rw_cg g4 fun k hk => ?_⟩
    · rw [g1, e, sm_ge f (show i < 11 by omega)]
      congr 2
      congr 1
      omega
    · rw [g2 c k a b, ht2, vu_n t1 (.inl a), ht1, vu_n τ (.inl b)]
    · by_cases z : i + 1 ≤ k
      · rw [if_pos z, if_pos (by omega)]
      · rw [if_neg z]
        by_cases z2 : k = i
        · rw [if_pos z2, if_pos (by omega)]
        · rw [if_neg z2, if_neg (by omega)]
    · by_cases z2 : k = i
      · subst z2
        rw [if_pos rfl, if_neg (by omega), if_pos (Nat.le_refl _)]
        omega
      · rw [if_neg z2]
        by_cases z : i + 1 ≤ k
        · rw [if_pos z, if_neg z2, if_pos (by omega)]
        · rw [if_neg z, if_neg (by omega)]
theorem put7 {τ : ZL} {f g : Nat → Int} {OUT : Nat} (h : OUT ≤ 11) (hf : Rw τ 47 f) (hg : Rw τ 48 g) : ∃ τ', f_X0_putOut τ (nI OUT) = some (iL (sm (fun c => if OUT ≤ c then f c else 0) 11), τ') ∧ (∀ c k, c ≠ 47 → c ≠ 48 → τ' c k = τ c k) ∧ Rw τ' 47 (fun k => if OUT ≤ k then 0 else f k) ∧ Rw τ' 48 (fun k => g k + if OUT ≤ k then f k else 0) := by
  unfold f_X0_putOut
  rw [ltq, if_neg (nI_pos (by omega))]
  obtain ⟨τ', g1, g2⟩ := put_l (nI OUT) (v := 0) (11 - OUT) OUT 3000 τ (by omega) (by omega) hf hg
  refine ⟨τ', ?_, g2⟩
  rw [Int.zero_add] at g1
  exact g1
theorem sum_l {τ : ZL} {r : Nat} (h11 : (ar r).2 = 11) {f : Nat → Int} (hf : Rw τ r f) : ∀ (d i fu : Nat), i + d = 11 → d < fu → f_X0_sumOf_4 τ r fu (iL (sm f i)) (nI i) = some (iL (sm f 11)) := by
  intro d
  induction d with
  | zero =>
    intro i fu h1 h2
    obtain ⟨fu, rfl⟩ : ∃ m, fu = m + 1 := ⟨fu - 1, by omega⟩
    obtain rfl : i = 11 := by omega
    rw [f_X0_sumOf_4, h11, if_pos (Int32.le_refl _)]
  | succ d ih =>
    intro i fu h1 h2
    obtain ⟨fu, rfl⟩ : ∃ m, fu = m + 1 := ⟨fu - 1, by omega⟩
    rw [f_X0_sumOf_4, h11, if_neg (nI_ge (by omega) (by omega)), inB11 (by omega), if_pos rfl, ltq, nI_1, nI_clamp (by omega), hf i (by omega), ← iL_add]
    exact ih (i + 1) fu (by omega) (by omega)
theorem sum7 {τ : ZL} {r : Nat} (h1 : (ar r).1 = 2) (h11 : (ar r).2 = 11) {f : Nat → Int} (hf : Rw τ r f) : f_X0_sumOf τ r = some (iL (sm f 11)) := by
  unfold f_X0_sumOf
  rw [h1, if_pos rfl]
  exact sum_l h11 hf 11 0 3000 (by omega) (by omega)
theorem atL_n {τ : ZL} {r k : Nat} (h1 : (ar r).1 = 2) (h11 : (ar r).2 = 11) (hk : k < 11) : f_X7_at_ τ r (nI k) = some (τ r k) := by
  unfold f_X7_at_
  rw [h1, h11, if_pos rfl, if_neg (nI_pos (by omega)), if_neg (nI_ge hk (by omega)), inB11 hk, if_pos rfl, nI_clamp (by omega)]
theorem putL_n {τ : ZL} {r k : Nat} {v : Int64} (h1 : (ar r).1 = 2) (h11 : (ar r).2 = 11) (hk : k < 11) : f_X7_put_ τ r (nI k) v = some (va_up τ r (vp_updL (τ r) k v)) := by
  unfold f_X7_put_
  rw [h1, h11, if_pos rfl, if_neg (nI_pos (by omega)), if_neg (nI_ge hk (by omega)), inB11 hk, if_pos rfl, ltq, nI_clamp (by omega)]
