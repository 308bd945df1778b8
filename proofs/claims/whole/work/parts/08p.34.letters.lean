/-! bits; letters -/
theorem sm32 : ∀ i, i < 32 → ((nI i &&& 31).toBitVec.smod 32).toNat = i := by decide +kernel
theorem bt {i s : Nat} (hi : i < 32) (hs : s < 2 ^ 31) : ((nI s >>> (nI i &&& 31)) &&& (1 : Int32)) = nI (s / 2 ^ i % 2) := by
  rw [pk_shrN hs _ i (sm32 i hi), pk_andN (k := 1) (Nat.lt_of_le_of_lt (Nat.div_le_self _ _) (by omega)) (by decide)]
theorem bt1 {i s : Nat} (hi : i < 32) (hs : s < 2 ^ 31) : (((nI s >>> (nI i &&& 31)) &&& (1 : Int32)) = 1) ↔ s.testBit i = true := by
  rw [bt hi hs, Nat.testBit_eq_decide_div_mod_eq]
  have : s / 2 ^ i % 2 < 2 := Nat.mod_lt _ (by omega)
  rw [show (1 : Int32) = nI 1 from rfl, nI_eq (by omega) (by omega)]
  simp
theorem sbl {i : Nat} (hi : i < 31) : ((1 : Int32) <<< (nI i &&& 31)) = nI (2 ^ i) := by
  have h : 2 ^ i < 2 ^ 31 := Nat.pow_lt_pow_right (by omega) hi
  rw [show (1 : Int32) = nI 1 from rfl, pk_shlN _ i (sm32 i (by omega)) (by omega), Nat.one_mul]
def sN (f : Nat → Nat) : Nat → Nat
  | 0 => 0
  | n + 1 => sN f n + f n
theorem sN_le {f : Nat → Nat} {b : Nat} : ∀ {n : Nat}, (∀ i, i < n → f i ≤ b) → sN f n ≤ n * b
  | 0, _ => by simp [sN]
  | n + 1, h => by
    have h1 := sN_le (n := n) fun i hi => h i (by omega)
    have h2 := h n (by omega)
    have e : (n + 1) * b = n * b + b := Nat.succ_mul n b
    simp only [sN]
    omega
theorem sN_le' {f : Nat → Nat} {b m n : Nat} (h : ∀ i, i < n → f i ≤ b) (hn : n ≤ m) : sN f n ≤ m * b := Nat.le_trans (sN_le h) (Nat.mul_le_mul_right b hn)
/-- the sum of all letters -/
theorem all7 {σ : ZI} {T : Nat} {u : Nat → Nat} (hT : T ≤ 5) (h1 : σ 2 3 = nI T) (h2 : ∀ i, i < T → σ 8 i = nI (u i)) : ∀ (d i fu : Nat), i + d = T → d < fu → f_X6_allLetters_4 σ 1 fu (nI (sN u i)) (nI i) = some (nI (sN u T)) := by
  intro d
  induction d with
  | zero =>
    intro i fu h3 h4
    obtain ⟨fu, rfl⟩ : ∃ m, fu = m + 1 := ⟨fu - 1, by omega⟩
    obtain rfl : i = T := by omega
    rw [f_X6_allLetters_4, v1_3, bso, h1, if_pos (Int32.le_refl _)]
  | succ d ih =>
    intro i fu h3 h4
    obtain ⟨fu, rfl⟩ : ∃ m, fu = m + 1 := ⟨fu - 1, by omega⟩
    rw [f_X6_allLetters_4, v1_3, bso, h1, if_neg (nI_ge (by omega) (by omega)), at_n (r := 1 + 7) (N := 5) rfl (by omega) (by omega), bso, show σ (1 + 7) i = _ from h2 i (by omega), nI_add, nI_1]
    exact ih (i + 1) fu (by omega) (by omega)
theorem all8 {σ : ZI} {T : Nat} {u : Nat → Nat} {a : Int32} (hT : T ≤ 5) (h1 : σ 60 7 = nI T) (h2 : ∀ i, i < T → σ 61 (6 + i) = nI (u i)) : ∀ (d i fu : Nat), i + d = T → d < fu → f_X8_count_4 σ a fu (nI (sN u i)) (nI i) = f_X8_count_4 σ a 1 (nI (sN u T)) (nI T) := by
  intro d
  induction d with
  | zero =>
    intro i fu h3 h4
    obtain ⟨fu, rfl⟩ : ∃ m, fu = m + 1 := ⟨fu - 1, by omega⟩
    obtain rfl : i = T := by omega
    rw [f_X8_count_4, f_X8_count_4, h1, if_pos (Int32.le_refl _), if_pos (Int32.le_refl _)]
  | succ d ih =>
    intro i fu h3 h4
    obtain ⟨fu, rfl⟩ : ∃ m, fu = m + 1 := ⟨fu - 1, by omega⟩
    rw [f_X8_count_4, h1, if_neg (nI_ge (by omega) (by omega)), show (6 : Int32) + nI i = nI (6 + i) from nI_add 6 i, inB_n (by omega) (by omega), if_pos rfl, nI_clamp (by omega), h2 i (by omega), nI_add, nI_1, ltq]
    exact ih (i + 1) fu (by omega) (by omega)
/-- how many bits -/
def bs (s k : Nat) : Nat := sN (fun i => s / 2 ^ i % 2) k
theorem bs_le (s k : Nat) : bs s k ≤ k := by
  have := sN_le (f := fun i => s / 2 ^ i % 2) (b := 1) (n := k) fun i _ => by have : s / 2 ^ i % 2 < 2 := Nat.mod_lt _ (by omega); omega
  unfold bs
  omega
theorem bs8_l {s : Nat} (hs : s < 2 ^ 31) : ∀ (d i fu : Nat), i + d = 10 → d < fu → f_X8_bitsOf_4 (nI s) fu (nI (bs s i)) (nI i) = some (nI (bs s 10)) := by
  intro d
  induction d with
  | zero =>
    intro i fu h3 h4
    obtain ⟨fu, rfl⟩ : ∃ m, fu = m + 1 := ⟨fu - 1, by omega⟩
    obtain rfl : i = 10 := by omega
    rw [f_X8_bitsOf_4, if_pos (by decide)]
  | succ d ih =>
    intro i fu h3 h4
    obtain ⟨fu, rfl⟩ : ∃ m, fu = m + 1 := ⟨fu - 1, by omega⟩
    rw [f_X8_bitsOf_4, if_neg (show ¬ (10 : Int32) ≤ nI i from nI_ge (b := 10) (by omega) (by omega)), bt (by omega) hs, nI_add, nI_1, ltq]
    exact ih (i + 1) fu (by omega) (by omega)
theorem bs8 {s : Nat} (hs : s < 2 ^ 31) : f_X8_bitsOf (nI s) = some (nI (bs s 10)) := bs8_l hs 10 0 3000 (by omega) (by omega)
theorem bs7 : ∀ s, s < 1024 → f_J6_bitCount_0f7a4 (nI s) = some (nI (bs s 10)) := by decide +kernel
theorem q_count {σ : ZI} (I : Inv σ) (a : Int32) : ∃ r, f_X7_count σ a = some r ∧ f_X8_count σ a = some r := by
  obtain ⟨t, ⟨kk, tv, rp, rs⟩, ⟨x1, x2, l1, l2, e0, e1, e2, m1, m2⟩, iP, iS, iH, iF, iK⟩ := I
  have k1 := kk.1
  have e7 : σ 2 3 = nI (t 0 3) := tv.1 3 (by omega)
  have e8 : σ 60 7 = nI (t 0 3) := rs.2.2.2.1
  have R : f_X8_count σ a = f_X8_count_4 σ a 1 (nI (sN (t 6) (t 0 3))) (nI (t 0 3)) := all8 (by omega) e8 (fun i hi => by have := rp.2.2.1 i hi; rw [Nat.zero_add] at this; exact this) (t 0 3) 0 3000 (by omega) (by omega)
  rw [R, f_X8_count_4, e8, if_pos (Int32.le_refl _)]
  unfold f_X7_count
  by_cases h0 : a = 0
  · subst h0
    obtain ⟨n, j, c, s1, s2, s3, s4⟩ := iS
    exact ⟨nI n, by rw [if_pos rfl, s2], by rw [if_pos rfl, s3]⟩
  rw [if_neg h0, if_neg h0]
  by_cases h1 : a = 1
  · subst h1
    refine ⟨nI (x1 + x2), ?_, ?_⟩
    · rw [if_pos rfl, e0]
      have c1 : x1 = 0 ∨ x1 = 1 := by omega
      have c2 : x2 = 0 ∨ x2 = 1 := by omega
      rcases c1 with rfl | rfl <;> rcases c2 with rfl | rfl <;> rfl
    · rw [if_pos rfl, e1]
      unfold f_X8_count_87
      rw [e2]
      have c1 : x1 = 0 ∨ x1 = 1 := by omega
      have c2 : x2 = 0 ∨ x2 = 1 := by omega
      rcases c1 with rfl | rfl <;> rcases c2 with rfl | rfl <;> rfl
  rw [if_neg h1, if_neg h1]
  by_cases h2 : a = 2
  · subst h2
    obtain ⟨n, b, n1, t1, t2, t3⟩ := iP
    exact ⟨nI n, by rw [if_pos rfl, t1], by rw [if_pos rfl, t2]⟩
  rw [if_neg h2, if_neg h2]
  by_cases h3 : a = 3
  · subst h3
    rw [if_pos rfl, if_pos rfl]
    unfold f_X4_cellsOf
    rw [show (0 : Int32) = nI 0 from rfl, at_n (N := 4) rfl (by omega) (by omega), bso]
    rcases iH.1 0 (by omega) with ⟨p1, p2⟩ | ⟨p1, l, N, hl, hN, p2, p3, p4, p5⟩
    · refine ⟨-4, ?_, ?_⟩
      · rw [p1]; rfl
      · rw [p2]; rfl
    · refine ⟨nI N, ?_, ?_⟩
      · rw [p1, if_pos rfl, at_n (N := 4) rfl (by omega) (by omega), p4]; rfl
      · rw [p3, if_neg (nI_nm4 (by omega)), p5]
  rw [if_neg h3, if_neg h3]
  by_cases h4 : a = 4
  · subst h4
    refine ⟨nI (sN (t 6) (t 0 3)), ?_, by rw [if_pos rfl]⟩
    rw [if_pos rfl]
    unfold f_X6_allLetters
    rw [if_pos (by decide), show f_X6_allLetters_4 σ 1 3000 0 0 = _ from all7 (by omega) e7 (fun i hi => (tv.2.2.2 i hi).1) (t 0 3) 0 3000 (by omega) (by omega), bso]
  rw [if_neg h4, if_neg h4]
  by_cases h5 : a = 5
  · subst h5
    have hS : t 0 4 < 1024 := Nat.lt_of_lt_of_le k1.2.2.2.2.2.1 (Nat.pow_le_pow_right (n := 2) (by omega) k1.2.1)
    refine ⟨nI (bs (t 0 4) 10), ?_, ?_⟩
    · rw [if_pos rfl, v1_4, bso, show σ 2 4 = _ from tv.1 4 (by omega), bs7 _ hS, bso]
    · rw [if_pos rfl, show σ 61 11 = _ from rp.2.2.2.1, bs8 (by omega), bso]
  · exact ⟨-1, by rw [if_neg h5], by rw [if_neg h5]⟩
/-- minutes of a set by so many hands; what a set of towns is worth -/
def mn (u : Nat → Nat) (x h : Nat) (T : Nat) : Nat := sN (fun i => if x.testBit i then (u i + h - 1) / h else 0) T
def lw (u w : Nat → Nat) (x : Nat) (T : Nat) : Nat := sN (fun i => if x.testBit i then u i * w i else 0) T
theorem mn_le {u : Nat → Nat} {x h T : Nat} (hu : ∀ i, i < T → u i ≤ 99) (h1 : 1 ≤ h) (hT : T ≤ 5) : mn u x h T ≤ 495 := by
  refine sN_le' (b := 99) (m := 5) (fun i hi => ?_) hT
  have := hu i hi
  split
  · refine Nat.div_le_of_le_mul ?_
    have : u i ≤ h * u i := Nat.le_mul_of_pos_left _ h1
    have : h * u i ≤ h * 99 := Nat.mul_le_mul_left _ (hu i hi)
    have : u i + h ≤ h * u i + h ∧ 1 ≤ h := ⟨by omega, h1⟩
    rcases Nat.eq_zero_or_pos (u i) with e | e
    · rw [e]; omega
    · have e3 : h * u i = u i + (h - 1) * u i := by
        obtain ⟨g, rfl⟩ : ∃ g, h = g + 1 := ⟨h - 1, by omega⟩
        rw [Nat.succ_mul]; simp; omega
      have e4 : h - 1 ≤ (h - 1) * u i := Nat.le_mul_of_pos_right _ e
      omega
  · omega
theorem lw_le {u w : Nat → Nat} {x T : Nat} (hu : ∀ i, i < T → u i ≤ 99 ∧ w i ≤ 9) (hT : T ≤ 5) : lw u w x T ≤ 4455 := by
  refine sN_le' (b := 891) (m := 5) (fun i hi => ?_) hT
  split
  · exact Nat.mul_le_mul (hu i hi).1 (hu i hi).2
  · omega
theorem mstep {u h : Nat} (hu : u ≤ 99) (h1 : 1 ≤ h) (h9 : h ≤ 9) : ((nI u + nI h) - (1 : Int32)) / nI h = nI ((u + h - 1) / h) := by
  rw [nI_add, show (1 : Int32) = nI 1 from rfl, pk_sub (by omega), pk_div (by omega) (by omega) (by omega)]
theorem mn7 {σ : ZI} {T h x : Nat} {u : Nat → Nat} (hT : T ≤ 5) (hx : x < 32) (g1 : 1 ≤ h) (g9 : h ≤ 9) (h1 : σ 2 3 = nI T) (h2 : ∀ i, i < T → u i ≤ 99 ∧ σ 8 i = nI (u i)) : ∀ (d i fu : Nat), i + d = T → d < fu → f_X6_minutesOf_12 σ 1 (nI x) (nI h) fu (nI (mn u x h i)) (nI i) = some (nI (mn u x h T)) := by
  intro d
  induction d with
  | zero =>
    intro i fu h3 h4
    obtain ⟨fu, rfl⟩ : ∃ m, fu = m + 1 := ⟨fu - 1, by omega⟩
    obtain rfl : i = T := by omega
    rw [f_X6_minutesOf_12, v1_3, bso, h1, if_pos (Int32.le_refl _)]
  | succ d ih =>
    intro i fu h3 h4
    obtain ⟨fu, rfl⟩ : ∃ m, fu = m + 1 := ⟨fu - 1, by omega⟩
    have e : mn u x h (i + 1) = mn u x h i + if x.testBit i then (u i + h - 1) / h else 0 := rfl
    rw [f_X6_minutesOf_12, v1_3, bso, h1, if_neg (nI_ge (by omega) (by omega))]
    unfold f_X6_minutesOf_50
    by_cases b : x.testBit i = true
    · rw [if_pos ((bt1 (by omega) (by omega)).mpr b), at_n (r := 1 + 7) (N := 5) rfl (by omega) (by omega), bso, show σ (1 + 7) i = _ from (h2 i (by omega)).2, if_neg (nI_ne0 (by omega) (by omega)), mstep (h2 i (by omega)).1 g1 g9, nI_add, nI_1, ltq, ← ih (i + 1) fu (by omega) (by omega), e, if_pos b]
    · rw [if_neg (fun q => b ((bt1 (by omega) (by omega)).mp q)), nI_1, ← ih (i + 1) fu (by omega) (by omega), e, if_neg b]
      rfl
theorem mi7 {σ : ZI} {T h x : Nat} {u : Nat → Nat} (hT : T ≤ 5) (hx : x < 32) (g1 : 1 ≤ h) (g9 : h ≤ 9) (h1 : σ 2 3 = nI T) (h2 : ∀ i, i < T → u i ≤ 99 ∧ σ 8 i = nI (u i)) : f_X6_minutesOf σ 1 (nI x) (nI h) = some (nI (mn u x h T)) := by
  unfold f_X6_minutesOf
  rw [if_pos (by decide), if_pos (show 1 ≤ nI h from nI_le (a := 1) g1 (by omega))]
  exact mn7 hT hx g1 g9 h1 h2 T 0 3000 (by omega) (by omega)
theorem mn8 {σ : ZI} {T h x : Nat} {u : Nat → Nat} (hT : T ≤ 5) (hx : x < 32) (g1 : 1 ≤ h) (g9 : h ≤ 9) (h1 : σ 60 7 = nI T) (h2 : ∀ i, i < T → u i ≤ 99 ∧ σ 61 (6 + i) = nI (u i)) : ∀ (d i fu : Nat), i + d = T → d < fu → f_X8_minutesBy_5 σ (nI x) (nI h) fu (nI (mn u x h i)) (nI i) = some (nI (mn u x h T)) := by
  intro d
  induction d with
  | zero =>
    intro i fu h3 h4
    obtain ⟨fu, rfl⟩ : ∃ m, fu = m + 1 := ⟨fu - 1, by omega⟩
    obtain rfl : i = T := by omega
    rw [f_X8_minutesBy_5, h1, if_pos (Int32.le_refl _)]
  | succ d ih =>
    intro i fu h3 h4
    obtain ⟨fu, rfl⟩ : ∃ m, fu = m + 1 := ⟨fu - 1, by omega⟩
    have e : mn u x h (i + 1) = mn u x h i + if x.testBit i then (u i + h - 1) / h else 0 := rfl
    rw [f_X8_minutesBy_5, h1, if_neg (nI_ge (by omega) (by omega))]
    unfold f_X8_minutesBy_45
    by_cases b : x.testBit i = true
    · rw [if_pos ((bt1 (by omega) (by omega)).mpr b), show (6 : Int32) + nI i = nI (6 + i) from nI_add 6 i, inB_n (by omega) (by omega), if_pos rfl, nI_clamp (by omega), (h2 i (by omega)).2, if_neg (nI_ne0 (by omega) (by omega)), mstep (h2 i (by omega)).1 g1 g9, nI_add, nI_1, ← ih (i + 1) fu (by omega) (by omega), e, if_pos b]
    · rw [if_neg (fun q => b ((bt1 (by omega) (by omega)).mp q)), nI_1, Int32.add_zero, ← ih (i + 1) fu (by omega) (by omega), e, if_neg b]
      rfl
theorem mi8 {σ : ZI} {T h x : Nat} {u : Nat → Nat} (hT : T ≤ 5) (hx : x < 32) (g1 : 1 ≤ h) (g9 : h ≤ 9) (h1 : σ 60 7 = nI T) (h2 : ∀ i, i < T → u i ≤ 99 ∧ σ 61 (6 + i) = nI (u i)) : f_X8_minutesBy σ (nI x) (nI h) = some (nI (mn u x h T)) := mn8 hT hx g1 g9 h1 h2 T 0 3000 (by omega) (by omega)
theorem p2T {T : Nat} (hT : T ≤ 5) : 1 ≤ 2 ^ T ∧ 2 ^ T ≤ 32 := ⟨Nat.one_le_two_pow, (Nat.pow_le_pow_right (by omega) hT : 2 ^ T ≤ 2 ^ 5)⟩
/-- what both sides have of the towns -/
theorem towns {t : NN} {σ : ZI} (q : InvT t σ) : t 0 3 ≤ 5 ∧ σ 2 3 = nI (t 0 3) ∧ σ 60 7 = nI (t 0 3) ∧ (∀ i, i < t 0 3 → t 6 i ≤ 99 ∧ σ 8 i = nI (t 6 i)) ∧ (∀ i, i < t 0 3 → t 6 i ≤ 99 ∧ σ 61 (6 + i) = nI (t 6 i)) ∧ (∀ i, i < t 0 3 → t 6 i ≤ 99 ∧ t 7 i ≤ 9) ∧ (∀ i, i < t 0 3 → σ 9 i = nI (t 7 i) ∧ σ 64 i = nI (t 7 i)) ∧ σ 2 12 = nI (t 0 12) ∧ σ 61 17 + 3 = nI (t 0 12) ∧ 1 ≤ t 0 12 ∧ t 0 12 ≤ 9 := by
  obtain ⟨kk, tv, rp, rs⟩ := q
  have k1 := kk.1
  have k6 := kk.2.2.2.2.2
  refine ⟨by omega, tv.1 3 (by omega), rs.2.2.2.1, fun i hi => ⟨(k6 i hi).1, (tv.2.2.2 i hi).1⟩, fun i hi => ⟨(k6 i hi).1, ?_⟩, k6, fun i hi => ⟨(tv.2.2.2 i hi).2, rs.2.2.2.2.2.2.2.2 i hi⟩, tv.1 12 (by omega), ?_, by omega, by omega⟩
  · have := rp.2.2.1 i hi
    rw [Nat.zero_add] at this
    exact this
  · rw [show σ 61 17 = _ from rp.2.2.2.2.2.2.2.2.2]; exact Int32.sub_add_cancel _ _
theorem q_minutes {σ : ZI} (I : Inv σ) (a : Int32) : ∃ r, f_X7_minutes σ a = some r ∧ f_X8_minutes σ a = some r := by
  obtain ⟨t, iT, -⟩ := I
  obtain ⟨b1, b2, b3, b4, b5, b6, b7, b8, b9, b10, b11⟩ := towns iT
  have p := p2T b1
  unfold f_X7_minutes f_X8_minutes f_X7_areTowns f_X8_handMany
  rw [v1_3, b2, b3, bso, sbl (by omega), in_at 0 _ 0 (nI (2 ^ t 0 3) - 1) rfl rfl]
  simp only [dec_lt (show 2 ^ t 0 3 < 2 ^ 30 by omega)]
  rcases ix_cases a (n := 2 ^ t 0 3) (by omega) with h | ⟨x, hx, rfl⟩
  · refine ⟨-1, ?_, by rw [if_pos h]; rfl⟩
    by_cases h0 : a < 0
    · rw [if_pos h0]; rfl
    · rw [if_neg h0, if_pos (h.resolve_left h0)]; rfl
  · refine ⟨nI (mn (t 6) x (t 0 12) (t 0 3)), ?_, ?_⟩
    · rw [if_neg (nI_pos (by omega)), if_neg (nI_ge hx (by omega)), bso, if_neg (by decide), v1_12, bso, b8, mi7 b1 (by omega) b10 b11 b2 b4]; rfl
    · rw [if_neg (ix_no hx (by omega)), bso, if_neg (by decide), bso, b9, mi8 b1 (by omega) b10 b11 b3 b5]; rfl
theorem q_hands {σ : ZI} (I : Inv σ) (a : Int32) : ∃ r, f_X7_hands σ a = some r ∧ f_X8_hands σ a = some r := by
  obtain ⟨t, iT, -⟩ := I
  obtain ⟨b1, b2, b3, b4, b5, b6, b7, b8, b9, b10, b11⟩ := towns iT
  have p := p2T b1
  unfold f_X7_hands f_X8_hands
  rw [show (99 : Int32) = nI 99 from rfl, if2, in_at 0 99 0 99 rfl rfl]
  by_cases hw : a < nI 0 ∨ nI 99 < a
  · exact ⟨-1, by rw [if_pos hw], by rw [if_pos (show a < 0 ∨ 99 < a from hw)]; rfl⟩
  obtain ⟨v, v1, v2, rfl⟩ := rng hw (by omega) (by omega)
  rw [if_neg hw, if_neg (show ¬ (nI v < 0 ∨ 99 < nI v) from hw), v1_3, bso, bso, if_neg (by decide), b2, sbl (by omega), show nI (2 ^ t 0 3) - (1 : Int32) = nI (2 ^ t 0 3 - 1) from pk_sub (a := 2 ^ t 0 3) (b := 1) (by omega), ltq, if_pos (by decide), ltq]
  have L : ∀ (d h f7 f8 : Nat), h + d = 10 → 1 ≤ h → d < f7 → d < f8 → ∃ r, f_X7_hands_32 σ (nI v) f7 (nI (2 ^ t 0 3 - 1)) (nI h) = some r ∧ f_X8_hands_16 σ (nI v) f8 (nI h) = some r := by
    intro d
    induction d with
    | zero =>
      intro h f7 f8 h1 h2 h3 h4
      obtain ⟨f7, rfl⟩ : ∃ m, f7 = m + 1 := ⟨f7 - 1, by omega⟩
      obtain ⟨f8, rfl⟩ : ∃ m, f8 = m + 1 := ⟨f8 - 1, by omega⟩
      obtain rfl : h = 10 := by omega
      exact ⟨-4, rfl, rfl⟩
    | succ d ih =>
      intro h f7 f8 h1 h2 h3 h4
      obtain ⟨f7, rfl⟩ : ∃ m, f7 = m + 1 := ⟨f7 - 1, by omega⟩
      obtain ⟨f8, rfl⟩ : ∃ m, f8 = m + 1 := ⟨f8 - 1, by omega⟩
      have e9 : ¬ (9 : Int32) < nI h := nI_nlt (b := h) (a := 9) (by omega) (by omega)
      rw [f_X7_hands_32, f_X8_hands_16, if_pos (by decide), if_neg e9, if_neg (show ¬ ((stL 102).getD (12 : Int32).toNatClampNeg 0) < nI h from e9), mi7 b1 (by omega) h2 (by omega) b2 b4, bso, b3, sbl (by omega), show nI (2 ^ t 0 3) - (1 : Int32) = nI (2 ^ t 0 3 - 1) from pk_sub (a := 2 ^ t 0 3) (b := 1) (by omega), mi8 b1 (by omega) h2 (by omega) b3 b5, bso, nI_1]
      by_cases hm : nI v < nI (mn (t 6) (2 ^ t 0 3 - 1) h (t 0 3))
      · rw [if_pos hm, if_pos hm]
        exact ih (h + 1) f7 f8 (by omega) (by omega) (by omega) (by omega)
      · exact ⟨nI h, by rw [if_neg hm], by rw [if_neg hm]⟩
  exact L 9 1 3000 3000 (by omega) (by omega) (by omega) (by omega)
theorem lw7 {σ : ZI} {T x : Nat} {u w : Nat → Nat} (hT : T ≤ 5) (hx : x < 32) (h1 : σ 2 3 = nI T) (h2 : ∀ i, i < T → σ 8 i = nI (u i) ∧ σ 9 i = nI (w i)) : ∀ (d i fu : Nat), i + d = T → d < fu → f_X6_lettersWorth_4 σ 1 (nI x) fu (nI (lw u w x i)) (nI i) = some (nI (lw u w x T)) := by
  intro d
  induction d with
  | zero =>
    intro i fu h3 h4
    obtain ⟨fu, rfl⟩ : ∃ m, fu = m + 1 := ⟨fu - 1, by omega⟩
    obtain rfl : i = T := by omega
    rw [f_X6_lettersWorth_4, v1_3, bso, h1, if_pos (Int32.le_refl _)]
  | succ d ih =>
    intro i fu h3 h4
    obtain ⟨fu, rfl⟩ : ∃ m, fu = m + 1 := ⟨fu - 1, by omega⟩
    have e : lw u w x (i + 1) = lw u w x i + if x.testBit i then u i * w i else 0 := rfl
    rw [f_X6_lettersWorth_4, v1_3, bso, h1, if_neg (nI_ge (by omega) (by omega))]
    unfold f_X6_lettersWorth_42
    by_cases b : x.testBit i = true
    · rw [if_pos ((bt1 (by omega) (by omega)).mpr b), at_n (r := 1 + 7) (N := 5) rfl (by omega) (by omega), bso, at_n (r := 1 + 8) (N := 5) rfl (by omega) (by omega), bso, show σ (1 + 7) i = _ from (h2 i (by omega)).1, show σ (1 + 8) i = _ from (h2 i (by omega)).2, pk_mul, nI_add, nI_1, ← ih (i + 1) fu (by omega) (by omega), e, if_pos b]
    · rw [if_neg (fun q => b ((bt1 (by omega) (by omega)).mp q)), nI_1, ← ih (i + 1) fu (by omega) (by omega), e, if_neg b]
      rfl
theorem lw8 {σ : ZI} {T x : Nat} {u w : Nat → Nat} {a b : Int32} {k : Int32 → Int32 → Int32 → Option Int32} {v3 v4 : Int32} (hT : T ≤ 5) (hx : x < 32) (h1 : σ 60 7 = nI T) (h2 : ∀ i, i < T → σ 61 (6 + i) = nI (u i) ∧ σ 64 i = nI (w i)) : ∀ (d i fu : Nat), i + d = T → d < fu → f_X8_sort_49 σ a b k fu v3 v4 (nI x) (nI (lw u w x i)) (nI i) = f_X8_sort_49 σ a b k 1 v3 v4 (nI x) (nI (lw u w x T)) (nI T) := by
  intro d
  induction d with
  | zero =>
    intro i fu h3 h4
    obtain ⟨fu, rfl⟩ : ∃ m, fu = m + 1 := ⟨fu - 1, by omega⟩
    obtain rfl : i = T := by omega
    rw [f_X8_sort_49, f_X8_sort_49, h1, if_pos (Int32.le_refl _), if_pos (Int32.le_refl _)]
  | succ d ih =>
    intro i fu h3 h4
    obtain ⟨fu, rfl⟩ : ∃ m, fu = m + 1 := ⟨fu - 1, by omega⟩
    have e : lw u w x (i + 1) = lw u w x i + if x.testBit i then u i * w i else 0 := rfl
    rw [f_X8_sort_49, h1, if_neg (nI_ge (by omega) (by omega))]
    unfold f_X8_sort_93
    by_cases b : x.testBit i = true
    · rw [if_pos ((bt1 (by omega) (by omega)).mpr b), show (6 : Int32) + nI i = nI (6 + i) from nI_add 6 i, inB_n (by omega) (by omega), if_pos rfl, inB_n (by omega) (by omega), if_pos rfl, nI_clamp (by omega), nI_clamp (by omega), (h2 i (by omega)).1, (h2 i (by omega)).2, pk_mul, nI_add, nI_1, ← ih (i + 1) fu (by omega) (by omega), e, if_pos b]
    · rw [if_neg (fun q => b ((bt1 (by omega) (by omega)).mp q)), nI_1, Int32.add_zero, ← ih (i + 1) fu (by omega) (by omega), e, if_neg b]
      rfl
theorem q_sort {σ : ZI} (I : Inv σ) (a w : Int32) : ∃ r, f_X7_sort σ a w = some r ∧ f_X8_sort σ a w = some r := by
  obtain ⟨t, iT, -⟩ := I
  obtain ⟨b1, b2, b3, b4, b5, b6, b7, b8, b9, b10, b11⟩ := towns iT
  have p := p2T b1
  unfold f_X7_sort f_X8_sort
  have e99 : ∀ x y : Option Int32, (if a < 0 then x else if 99 < a then x else y) = if a < nI 0 ∨ nI 99 < a then x else y := by
    intro x y
    by_cases h0 : a < 0
    · rw [if_pos h0, if_pos (.inl h0)]
    · rw [if_neg h0]
      by_cases h1 : 99 < a
      · rw [if_pos h1, if_pos (.inr h1)]
      · rw [if_neg h1, if_neg (fun q => q.elim h0 h1)]
  rw [e99, in_at 0 99 0 99 rfl rfl, isP7, in_at 0 1 0 1 rfl rfl]
  by_cases hw : a < nI 0 ∨ nI 99 < a
  · exact ⟨-1, by rw [if_pos hw], by rw [if_pos (show a < 0 ∨ 99 < a from hw)]; rfl⟩
  obtain ⟨v, v1, v2, rfl⟩ := rng hw (by omega) (by omega)
  rw [if_neg hw, if_neg (show ¬ (nI v < 0 ∨ 99 < nI v) from hw)]
  by_cases h2 : w < 0 ∨ 1 < w
  · exact ⟨-1, by rw [if_pos h2]; rfl, by rw [if_pos h2]; rfl⟩
  rw [if_neg h2, bso, bso, bso, if_neg (by decide), if_neg (by decide), if_neg (by decide), v1_3, bso, b2, sbl (by omega), ltq]
  have L := fun i => lw_le (x := i) b6 b1
  have Mn := fun i => mn_le (x := i) (fun j hj => (b6 j hj).1) b10 b1
  have C : ∀ (fu i bS bs : Nat), i < 2 ^ t 0 3 → bs ≤ 4455 → f_X7_sort_39 σ (nI v) w (fu + 1) (nI bS) (nI bs) (nI (2 ^ t 0 3)) (nI i) = if bs < lw (t 6) (t 7) i (t 0 3) ∧ mn (t 6) i (t 0 12) (t 0 3) ≤ v then f_X7_sort_39 σ (nI v) w fu (nI i) (nI (lw (t 6) (t 7) i (t 0 3))) (nI (2 ^ t 0 3)) (nI (i + 1)) else f_X7_sort_39 σ (nI v) w fu (nI bS) (nI bs) (nI (2 ^ t 0 3)) (nI (i + 1)) := by
    intro fu i bS bs hi hb
    have l := L i
    have m := Mn i
    rw [f_X7_sort_39, if_neg (nI_ge hi (by omega))]
    unfold f_X6_lettersWorth f_X7_sort_93
    rw [if_pos (by decide), show f_X6_lettersWorth_4 σ 1 (nI i) 3000 0 0 = _ from lw7 b1 (by omega) b2 (fun j hj => ⟨(b4 j hj).2, (b7 j hj).1⟩) (t 0 3) 0 3000 (by omega) (by omega), bso, nI_1]
    by_cases q : bs < lw (t 6) (t 7) i (t 0 3)
    · rw [if_neg (nI_ge q (by omega)), v1_12, bso, b8, mi7 b1 (by omega) b10 b11 b2 b4, bso]
      by_cases q2 : mn (t 6) i (t 0 12) (t 0 3) ≤ v
      · rw [if_neg (nI_nlt q2 (by omega)), if_pos ⟨q, q2⟩]
      · rw [if_pos (nI_lt (by omega) (by omega)), if_neg (fun z => q2 z.2)]
    · rw [if_pos (nI_le (by omega) (by omega)), if_neg (fun z => q z.1)]
  have C8 : ∀ (fu i bS : Nat) (M : Int32), i < 2 ^ t 0 3 → f_X8_sort_32 σ (nI v) w (fu + 1) M (nI bS) (nI i) = if M < nI (lw (t 6) (t 7) i (t 0 3)) ∧ mn (t 6) i (t 0 12) (t 0 3) ≤ v then f_X8_sort_32 σ (nI v) w fu (nI (lw (t 6) (t 7) i (t 0 3))) (nI i) (nI (i + 1)) else f_X8_sort_32 σ (nI v) w fu M (nI bS) (nI (i + 1)) := by
    intro fu i bS M hi
    have l := L i
    have m := Mn i
    rw [f_X8_sort_32, b3, sbl (by omega), if_neg (nI_ge hi (by omega))]
    rw [show ∀ k : Int32 → Int32 → Int32 → Option Int32, f_X8_sort_49 σ (nI v) w k 3000 M (nI bS) (nI i) 0 0 = _ from fun k => lw8 (k := k) (v3 := M) (v4 := nI bS) (a := nI v) (b := w) b1 (x := i) (by omega) b3 (fun j hj => ⟨(b5 j hj).2, (b7 j hj).2⟩) (t 0 3) 0 3000 (by omega) (by omega)]
    rw [f_X8_sort_49, b3, if_pos (Int32.le_refl _)]
    unfold f_X8_sort_126 f_X8_sort_127 f_X8_sort_141 f_X8_sort_154 f_X8_handMany
    rw [nI_1, bso, b9, mi8 b1 (by omega) b10 b11 b3 b5, bso]
    by_cases q : M < nI (lw (t 6) (t 7) i (t 0 3))
    · rw [if_neg (Int32.not_le.mpr q)]
      by_cases q2 : mn (t 6) i (t 0 12) (t 0 3) ≤ v
      · rw [if_neg (nI_nlt q2 (by omega)), if_neg (by decide), if_neg (by decide), if_pos ⟨q, q2⟩]
      · rw [if_pos (nI_lt (by omega) (by omega)), if_pos rfl, if_pos rfl, if_neg (fun z => q2 z.2)]
    · rw [if_pos (Int32.not_lt.mp q), if_pos rfl, if_pos rfl, if_neg (fun z => q z.1)]
  have E : ∀ (d i bS bs f7 f8 : Nat), i + d = 2 ^ t 0 3 → d < f7 → d < f8 → bs ≤ 4455 → ∃ r, f_X7_sort_39 σ (nI v) w f7 (nI bS) (nI bs) (nI (2 ^ t 0 3)) (nI i) = some r ∧ f_X8_sort_32 σ (nI v) w f8 (nI bs) (nI bS) (nI i) = some r := by
    intro d
    induction d with
    | zero =>
      intro i bS bs f7 f8 h1 h3 h4 h5
      obtain ⟨f7, rfl⟩ : ∃ m, f7 = m + 1 := ⟨f7 - 1, by omega⟩
      obtain ⟨f8, rfl⟩ : ∃ m, f8 = m + 1 := ⟨f8 - 1, by omega⟩
      obtain rfl : i = 2 ^ t 0 3 := by omega
      rw [f_X7_sort_39, if_pos (Int32.le_refl _), f_X8_sort_32, b3, sbl (by omega), if_pos (Int32.le_refl _)]
      by_cases h0 : w = 0
      · exact ⟨nI bs, by rw [if_pos h0], by rw [if_pos h0]⟩
      · exact ⟨nI bS, by rw [if_neg h0], by rw [if_neg h0]⟩
    | succ d ih =>
      intro i bS bs f7 f8 h1 h3 h4 h5
      obtain ⟨f7, rfl⟩ : ∃ m, f7 = m + 1 := ⟨f7 - 1, by omega⟩
      obtain ⟨f8, rfl⟩ : ∃ m, f8 = m + 1 := ⟨f8 - 1, by omega⟩
      have l := L i
      rw [C f7 i bS bs (by omega) h5, C8 f8 i bS (nI bs) (by omega)]
      simp only [nI_ltI (show bs < 2 ^ 31 by omega) (show lw (t 6) (t 7) i (t 0 3) < 2 ^ 31 by omega)]
      by_cases q : bs < lw (t 6) (t 7) i (t 0 3) ∧ mn (t 6) i (t 0 12) (t 0 3) ≤ v
      · rw [if_pos q, if_pos q]
        exact ih (i + 1) i _ f7 f8 (by omega) (by omega) (by omega) l
      · rw [if_neg q, if_neg q]
        exact ih (i + 1) bS bs f7 f8 (by omega) (by omega) (by omega) h5
  have z1 : lw (t 6) (t 7) 0 (t 0 3) = 0 := by
    have := sN_le (f := fun i => if (0 : Nat).testBit i then t 6 i * t 7 i else 0) (b := 0) (n := t 0 3) (fun i _ => by simp)
    unfold lw
    omega
  have z2 : mn (t 6) 0 (t 0 12) (t 0 3) = 0 := by
    have := sN_le (f := fun i => if (0 : Nat).testBit i then (t 6 i + t 0 12 - 1) / t 0 12 else 0) (b := 0) (n := t 0 3) (fun i _ => by simp)
    unfold mn
    omega
  have s7 := C 2999 0 0 0 (by omega) (by omega)
  have s8 := C8 2999 0 0 (-1) (by omega)
  rw [z1, z2, if_neg (by omega)] at s7
  rw [z1, z2, if_pos ⟨by decide, by omega⟩] at s8
  obtain ⟨r, r1, r2⟩ := E (2 ^ t 0 3 - 1) 1 0 0 2999 2999 (by omega) (by omega) (by omega) (by omega)
  exact ⟨r, s7.trans r1, s8.trans r2⟩
