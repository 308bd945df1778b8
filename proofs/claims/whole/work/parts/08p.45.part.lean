/-! fractions in lowest terms; sums of all weights -/
theorem lN_0 : lN 0 = 0 := rfl
theorem lN_ne {g : Nat} (h : 1 ≤ g) (h2 : g < 2 ^ 62) : ¬ lN g = 0 := by
  intro e
  have := (pk_lEQ (a := g) (b := 0) (by omega) (by omega)).mp (e.trans lN_0.symm)
  omega
theorem eu : ∀ (n a b s f7 f8 : Nat), b < 2 ^ n → a < 2 ^ 62 → n ≤ 62 → (1 ≤ a ∨ 1 ≤ b) → s + 2 * n < 100 → 2 * n < f7 → 2 * n < f8 → ∃ g, 1 ≤ g ∧ g < 2 ^ 62 ∧ (∀ x y, f_X7_greatestShared_9 x y f7 (lN a) (lN b) (nI s) = some (lN g)) ∧ (∀ x y w, f_X8_lowest_17 x y w f8 (lN a) (lN b) = f_X8_lowest_17 x y w 1 (lN g) 0) := by
  have e7 : ∀ (a b s f7 : Nat) (x y : Int64), s < 100 → 1 ≤ b → b < 2 ^ 62 → a < 2 ^ 62 → f_X7_greatestShared_9 x y (f7 + 1) (lN a) (lN b) (nI s) = f_X7_greatestShared_9 x y f7 (lN b) (lN (a % b)) (nI (s + 1)) := by
    intro a b s f7 x y hs hb h1 h2
    rw [f_X7_greatestShared_9, if_neg (show ¬ (100 : Int32) ≤ nI s from nI_ge (b := 100) (by omega) (by omega)), if_neg (fun z => lN_ne hb h1 ((cmp0 _ _).mp z)), if_neg (lN_ne hb h1), pk_lRem (by omega) (by omega) (by omega), nI_1]
  have e8 : ∀ (a b f8 : Nat) (x y : Int64) (w : Int32), 1 ≤ b → b < 2 ^ 62 → a < 2 ^ 62 → f_X8_lowest_17 x y w (f8 + 1) (lN a) (lN b) = f_X8_lowest_17 x y w f8 (lN b) (lN (a % b)) := by
    intro a b f8 x y w hb h1 h2
    rw [f_X8_lowest_17, if_neg (fun z => lN_ne hb h1 ((cmp0 _ _).mp z)), if_neg (lN_ne hb h1), pk_lRem (by omega) (by omega) (by omega)]
  have z7 : ∀ (a s f7 : Nat) (x y : Int64), f_X7_greatestShared_9 x y (f7 + 1) (lN a) (lN 0) (nI s) = some (lN a) := by
    intro a s f7 x y
    rw [f_X7_greatestShared_9, if_pos (show lg_cmp (lN 0) 0 = 0 from (cmp0 _ _).mpr rfl)]
    split <;> rfl
  have z8 : ∀ (a f8 : Nat) (x y : Int64) (w : Int32), f_X8_lowest_17 x y w (f8 + 1) (lN a) (lN 0) = f_X8_lowest_17 x y w 1 (lN a) 0 := by
    intro a f8 x y w
    rw [f_X8_lowest_17, f_X8_lowest_17, if_pos (show lg_cmp (lN 0) 0 = 0 from (cmp0 _ _).mpr rfl), if_pos (show lg_cmp 0 0 = 0 from (cmp0 _ _).mpr rfl)]
  intro n
  induction n with
  | zero =>
    intro a b s f7 f8 h1 h2 h3 h4 h5 h6 h7
    obtain ⟨f7, rfl⟩ : ∃ m, f7 = m + 1 := ⟨f7 - 1, by omega⟩
    obtain ⟨f8, rfl⟩ : ∃ m, f8 = m + 1 := ⟨f8 - 1, by omega⟩
    obtain rfl : b = 0 := by omega
    exact ⟨a, by omega, h2, z7 a s f7, z8 a f8⟩
  | succ n ih =>
    intro a b s f7 f8 h1 h2 h3 h4 h5 h6 h7
    obtain ⟨f7, rfl⟩ : ∃ m, f7 = m + 1 + 1 := ⟨f7 - 2, by omega⟩
    obtain ⟨f8, rfl⟩ : ∃ m, f8 = m + 1 + 1 := ⟨f8 - 2, by omega⟩
    by_cases hb : b = 0
    · subst hb
      exact ⟨a, by omega, h2, z7 a s _, z8 a _⟩
    · have hp : 2 ^ (n + 1) ≤ 2 ^ 62 := Nat.pow_le_pow_right (by omega) h3
      have hr := Nat.mod_lt a (show 0 < b by omega)
      by_cases hc : a % b = 0
      · refine ⟨b, by omega, by omega, fun x y => ?_, fun x y w => ?_⟩
        · rw [e7 a b s _ x y (by omega) (by omega) (by omega) h2, hc, z7]
        · rw [e8 a b _ x y w (by omega) (by omega) h2, hc, z8]
      · have hr2 := Nat.mod_lt b (show 0 < a % b by omega)
        have hd := Nat.div_add_mod b (a % b)
        have hq : 1 ≤ b / (a % b) := Nat.div_pos (by omega) (by omega)
        have hm : a % b ≤ (a % b) * (b / (a % b)) := Nat.le_mul_of_pos_right _ hq
        have h2n : 2 ^ (n + 1) = 2 * 2 ^ n := by rw [Nat.pow_succ, Nat.mul_comm]
        obtain ⟨g, g1, g2, g3, g4⟩ := ih (a % b) (b % (a % b)) (s + 1 + 1) f7 f8 (by omega) (by omega) (by omega) (by omega) (by omega) (by omega) (by omega)
        refine ⟨g, g1, g2, fun x y => ?_, fun x y w => ?_⟩
        · rw [e7 a b s _ x y (by omega) (by omega) (by omega) h2, e7 b (a % b) (s + 1) _ x y (by omega) (by omega) (by omega) (by omega), g3]
        · rw [e8 a b _ x y w (by omega) (by omega) h2, e8 b (a % b) _ x y w (by omega) (by omega) (by omega), g4]
theorem iL_toInt {z : Int} (h : -9223372036854775808 ≤ z ∧ z < 9223372036854775808) : (iL z).toInt = z := by
  unfold iL
  rw [Int64.toInt_ofInt]
  simp only [Int64.size, Int.bmod_def]
  omega
theorem iL_neg (z : Int) : - iL z = iL (-z) := by
  have h : iL (-z) + iL z = 0 := by rw [← iL_add, Int.add_left_neg]; rfl
  grind
theorem pl_eq {num : Int} {D : Nat} (h1 : -4000000000000000000 ≤ num ∧ num ≤ 4000000000000000000) (hD : 1 ≤ D) (hD2 : D < 2 ^ 47) (w : Int32) : ∃ r, f_X7_part (iL num) (iL D) w = some r ∧ f_X8_lowest (iL num) (iL D) w = some r := by
  have hn := iL_toInt (z := num) (by omega)
  have e7 : (if 0 < iL num then iL num else -(iL num)) = lN num.natAbs := by
    rw [lN_iL]
    by_cases h : 0 < num
    · rw [if_pos (by rw [Int64.lt_iff_toInt_lt, hn]; exact h)]
      congr 1; omega
    · rw [if_neg (by rw [Int64.lt_iff_toInt_lt, hn]; exact h), iL_neg]
      congr 1; omega
  have e8 : f_X8_lowest (iL num) (iL D) w = f_X8_lowest_12 (iL num) (iL D) w (lN num.natAbs) := by
    unfold f_X8_lowest
    simp only [lg_cmp_ge]
    rw [lN_iL]
    by_cases h : 0 ≤ num
    · rw [if_pos (by rw [Int64.le_iff_toInt_le, hn]; exact h)]
      congr 2; omega
    · rw [if_neg (by rw [Int64.le_iff_toInt_le, hn]; exact h), iL_neg]
      congr 2; omega
  obtain ⟨g, g1, g2, g3, g4⟩ := eu 47 num.natAbs D 0 3000 3000 hD2 (by omega) (by omega) (.inr hD) (by omega) (by omega) (by omega)
  have gt : ¬ lN g < 1 := by
    rw [show (1 : Int64) = lN 1 from rfl, pk_lLT (by omega) (by omega)]
    omega
  have E7 : f_X7_part (iL num) (iL D) w = if w = 0 then some (iL num / lN g) else some (iL D / lN g) := by
    unfold f_X7_part f_X7_greatestShared
    rw [e7, ← lN_iL D, show f_X7_greatestShared_9 (lN num.natAbs) (lN D) 3000 (lN num.natAbs) (lN D) 0 = _ from g3 _ _, bso, ltq, if_neg gt, if_neg (lN_ne g1 g2), if_neg (lN_ne g1 g2)]
  have E8 : f_X8_lowest (iL num) (iL D) w = if w = 0 then some (iL num / lN g) else some (iL D / lN g) := by
    rw [e8]
    unfold f_X8_lowest_12
    rw [← lN_iL D, g4, f_X8_lowest_17, if_pos ((cmp0 _ _).mpr rfl)]
    unfold f_X8_lowest_52
    rw [if_neg (lN_ne g1 g2), if_neg (lN_ne g1 g2)]
  rw [E7, E8]
  by_cases hw : w = 0
  · exact ⟨iL num / lN g, by rw [if_pos hw], by rw [if_pos hw]⟩
  · exact ⟨iL D / lN g, by rw [if_neg hw], by rw [if_neg hw]⟩
theorem sm_mulr (f : Nat → Int) (a : Int) (n : Nat) : sm (fun i => f i * a) n = sm f n * a := by
  rw [Int.mul_comm, ← sm_mul]
  exact sm_congr fun i _ => Int.mul_comm _ _
theorem wp_sum {q : Nat → Int × Int} {e : Int} (h : ∀ i, (q i).1 + (q i).2 = e) : ∀ k, sm (fun x => wp q x k) (2 ^ k) = e ^ k
  | 0 => by simp [sm, wp]
  | k + 1 => by
    rw [sm_pow, Int.pow_succ, ← wp_sum h k, ← sm_mulr]
    refine sm_congr fun x hx => ?_
    have w1 : wp q x (k + 1) = wp q x k * (q k).2 := by rw [wp, tb_hi hx]; simp
    have w2 : wp q (x + 2 ^ k) (k + 1) = wp q x k * (q k).1 := by rw [wp, tb_add_eq hx, wp_congr (fun i hi => tb_add_lo hi)]; simp
    rw [w1, w2, ← h k]
    grind
theorem wp_nn {q : Nat → Int × Int} (h : ∀ i, 0 ≤ (q i).1 ∧ 0 ≤ (q i).2) (x : Nat) : ∀ k, 0 ≤ wp q x k
  | 0 => by show (0 : Int) ≤ 1; omega
  | k + 1 => by
    unfold wp
    refine Int.mul_nonneg (wp_nn h x k) ?_
    split
    · exact (h k).1
    · exact (h k).2
theorem wp_nn' {q : Nat → Int × Int} (x : Nat) : ∀ k, (∀ i, i < k → 0 ≤ (q i).1 ∧ 0 ≤ (q i).2) → 0 ≤ wp q x k
  | 0, _ => by show (0 : Int) ≤ 1; omega
  | k + 1, h => by
    unfold wp
    refine Int.mul_nonneg (wp_nn' x k fun i hi => h i (by omega)) ?_
    split
    · exact (h k (by omega)).1
    · exact (h k (by omega)).2
theorem sm_le {f g : Nat → Int} : ∀ {n : Nat}, (∀ i, i < n → f i ≤ g i) → sm f n ≤ sm g n
  | 0, _ => Int.le_refl _
  | n + 1, h => Int.add_le_add (sm_le fun i hi => h i (by omega)) (h n (by omega))
theorem SN_le {q r : Nat → Int × Int} {J M : Nat} (hq : ∀ i, i < J → 0 ≤ (q i).1 ∧ 0 ≤ (q i).2) (hr : ∀ i, i < M → 0 ≤ (r i).1 ∧ 0 ≤ (r i).2) {v w : Nat → Nat → Int} (h : ∀ x n, v x n ≤ w x n) : SN q r J M v ≤ SN q r J M w := by
  unfold SN
  exact sm_le fun x _ => Int.mul_le_mul_of_nonneg_left (sm_le fun n _ => Int.mul_le_mul_of_nonneg_left (h x n) (wp_nn' n M hr)) (wp_nn' x J hq)
theorem SN_1 {q r : Nat → Int × Int} {e : Int} (h1 : ∀ i, (q i).1 + (q i).2 = e) (h2 : ∀ i, (r i).1 + (r i).2 = e) (J M : Nat) : SN q r J M (fun _ _ => 1) = e ^ (J + M) := by
  unfold SN
  rw [sm_congr (g := fun x => wp q x J * e ^ M) (fun x _ => by
    rw [sm_congr (g := fun n => wp r n M) (fun n _ => Int.mul_one _), wp_sum h2]), sm_mulr, wp_sum h1, Int.pow_add]
theorem SN_sm (q r : Nat → Int × Int) (J M : Nat) (F : Nat → Nat → Nat → Int) : ∀ k, SN q r J M (fun x n => sm (fun c => F c x n) k) = sm (fun c => SN q r J M (F c)) k
  | 0 => by
    show SN q r J M (fun _ _ => 0) = 0
    have := SN_mul 0 q r J M (fun _ _ => 0)
    simp at this
    exact this
  | k + 1 => by
    show SN q r J M (fun x n => sm (fun c => F c x n) k + F k x n) = sm (fun c => SN q r J M (F c)) k + SN q r J M (F k)
    rw [SN_add, SN_sm q r J M F k]
theorem oq_nn {s : Nat} (h : s ≤ 10) (i : Nat) : 0 ≤ (oq s i).1 ∧ 0 ≤ (oq s i).2 := ⟨by show (0 : Int) ≤ s; omega, by show (0 : Int) ≤ 10 - s; omega⟩
theorem oq_10 (s i : Nat) : (oq s i).1 + (oq s i).2 = 10 := by show (s : Int) + (10 - s) = 10; omega
theorem orr_10 (cf : Nat → Nat) (i : Nat) : (orr cf i).1 + (orr cf i).2 = 10 := by show (cf i : Int) + (10 - cf i) = 10; omega
/-- the marks of a text, as the walk wants them -/
theorem TK_m {t : NN} (k : TK t) : (∀ m, m < t 0 2 → 1 ≤ t 4 m ∧ t 4 m ≤ t 0 0) ∧ (∀ a b, a < t 0 2 → b < t 0 2 → t 4 a = t 4 b → a = b) := ⟨fun m hm => ⟨(k.2.2.2.1 m hm).1, (k.2.2.2.1 m hm).2.1⟩, k.2.2.2.2.1⟩
theorem whole7 {t : NN} (k : TK t) (s : Nat) (cf : Nat → Nat) : bh_ (PO t s cf) (t 0 0) (t 0 0) = ((10 ^ (t 0 0 + t 0 2) : Nat) : Int) := by
  have h := W_SN (TK_m k).1 (TK_m k).2 (oq s) (orr cf) K1 12 0 0 (j := 0) (by omega) 0
  have e : W_ (PQ (oq s) (orr cf) (t 4) (t 0 2)) K1 12 0 0 (t 0 0) 0 0 = bh_ (PO t s cf) (t 0 0) (t 0 0) := by
    show 1 * bh_ (PO t s cf) (t 0 0) (t 0 0 - 0) = _
    rw [Int.one_mul, Nat.sub_zero]
  rw [← e, h, SN_congr (w := fun _ _ => 1) (fun x n _ _ => if_pos ⟨rfl, rfl, rfl⟩), SN_1 (oq_10 s) (orr_10 cf)]
  rw [Int.natCast_pow]
  rfl
theorem SN_bd {t : NN} (k : TK t) {s : Nat} (hs : s ≤ 10) {cf : Nat → Nat} (hc : ∀ m, m < t 0 2 → cf m ≤ 10) {V : Nat → Nat → Int} {a b : Int} (h : ∀ x n, a ≤ V x n ∧ V x n ≤ b) : a * ((10 ^ (t 0 0 + t 0 2) : Nat) : Int) ≤ SN (oq s) (orr cf) (t 0 0) (t 0 2) V ∧ SN (oq s) (orr cf) (t 0 0) (t 0 2) V ≤ b * ((10 ^ (t 0 0 + t 0 2) : Nat) : Int) := by
  have hq : ∀ i, i < t 0 0 → 0 ≤ (oq s i).1 ∧ 0 ≤ (oq s i).2 := fun i _ => oq_nn hs i
  have hr : ∀ i, i < t 0 2 → 0 ≤ (orr cf i).1 ∧ 0 ≤ (orr cf i).2 := fun i hi => by
    have := hc i hi
    exact ⟨by show (0 : Int) ≤ cf i; omega, by show (0 : Int) ≤ 10 - cf i; omega⟩
  have e : ∀ z : Int, SN (oq s) (orr cf) (t 0 0) (t 0 2) (fun _ _ => z) = z * ((10 ^ (t 0 0 + t 0 2) : Nat) : Int) := fun z => by
    have := SN_mul z (oq s) (orr cf) (t 0 0) (t 0 2) (fun _ _ => 1)
    simp only [Int.mul_one] at this
    rw [this, SN_1 (oq_10 s) (orr_10 cf), Int.natCast_pow]
    rfl
  rw [← e, ← e]
  exact ⟨SN_le hq hr fun x n => (h x n).1, SN_le hq hr fun x n => (h x n).2⟩
theorem p10 {t : NN} (k : TK t) : 1 ≤ 10 ^ (t 0 0 + t 0 2) ∧ 10 ^ (t 0 0 + t 0 2) ≤ 10000000000000 := by
  have k1 := k.1
  exact ⟨Nat.one_le_pow _ _ (by omega), (Nat.pow_le_pow_right (by omega) (show t 0 0 + t 0 2 ≤ 13 by omega) : 10 ^ (t 0 0 + t 0 2) ≤ 10 ^ 13)⟩
