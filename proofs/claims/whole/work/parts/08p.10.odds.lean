/-! sums, and the walk by counts (over whole numbers): what the class's rows come to, and the sum over all nights -/
def sm (f : Nat → Int) : Nat → Int
  | 0 => 0
  | n + 1 => sm f n + f n
theorem sm_congr {f g : Nat → Int} {n : Nat} (h : ∀ i, i < n → f i = g i) : sm f n = sm g n := by
  induction n with
  | zero => rfl
  | succ n ih => rw [sm, sm, ih (fun i hi => h i (by omega)), h n (by omega)]
theorem sm_add (f g : Nat → Int) (n : Nat) : sm (fun i => f i + g i) n = sm f n + sm g n := by
  induction n with
  | zero => rfl
  | succ n ih => rw [sm, sm, sm, ih]; omega
theorem sm_mul (a : Int) (f : Nat → Int) (n : Nat) : sm (fun i => a * f i) n = a * sm f n := by
  induction n with
  | zero => simp [sm]
  | succ n ih => rw [sm, sm, ih, Int.mul_add]
theorem sm_zero (n : Nat) : sm (fun _ => 0) n = 0 := by
  induction n with
  | zero => rfl
  | succ n ih => rw [sm, ih]; rfl
theorem sm_lin (a b : Int) {f g h : Nat → Int} {n : Nat} (e : ∀ i, i < n → f i = a * g i + b * h i) : sm f n = a * sm g n + b * sm h n := by
  rw [sm_congr e, sm_add, sm_mul, sm_mul]
theorem sm_split (f : Nat → Int) (m n : Nat) : sm f (m + n) = sm f m + sm (fun i => f (m + i)) n := by
  induction n with
  | zero => simp [sm]
  | succ n ih => rw [← Nat.add_assoc, sm, ih, sm]; omega
theorem sm_delta (v : Int) (c n : Nat) : sm (fun i => if i = c then v else 0) n = if c < n then v else 0 := by
  induction n with
  | zero => simp [sm]
  | succ n ih =>
    rw [sm, ih]
    by_cases h : n = c
    · subst h; simp
    · by_cases h2 : c < n
      · rw [if_pos h2, if_neg h, if_pos (by omega)]; omega
      · rw [if_neg h2, if_neg h, if_neg (by omega)]; rfl
theorem sm_pow (f : Nat → Int) (k : Nat) : sm f (2 ^ (k + 1)) = sm (fun x => f x + f (x + 2 ^ k)) (2 ^ k) := by
  rw [Nat.pow_succ, Nat.mul_two, sm_split, sm_add]
  congr 1
  exact sm_congr (fun i _ => by rw [Nat.add_comm])
/-- a weight of bits -/
def wp (q : Nat → Int × Int) (x : Nat) : Nat → Int
  | 0 => 1
  | k + 1 => wp q x k * (if x.testBit k then (q k).1 else (q k).2)
theorem wp_congr {q : Nat → Int × Int} {x y : Nat} {k : Nat} (h : ∀ i, i < k → x.testBit i = y.testBit i) : wp q x k = wp q y k := by
  induction k with
  | zero => rfl
  | succ k ih => rw [wp, wp, ih (fun i hi => h i (by omega)), h k (by omega)]
theorem tb_hi {x k : Nat} (h : x < 2 ^ k) : x.testBit k = false := Nat.testBit_lt_two_pow h
theorem tb_add_lo {x k i : Nat} (hi : i < k) : (x + 2 ^ k).testBit i = x.testBit i := by
  rw [Nat.add_comm]
  exact Nat.testBit_two_pow_add_gt hi x
theorem tb_add_eq {x k : Nat} (h : x < 2 ^ k) : (x + 2 ^ k).testBit k = true := by
  rw [Nat.add_comm, Nat.testBit_two_pow_add_eq, tb_hi h]
  rfl
/-- pairs: the first k told by bits, the rest as they are -/
def mx (x k : Nat) (q : Nat → Int × Int) : Nat → Int × Int := fun i => if i < k then (if x.testBit i then (1, 0) else (0, 1)) else q i
def MA (K : Nat) (F : (Nat → Int × Int) → Int) : Prop := ∀ (q : Nat → Int × Int) (k : Nat), k < K → F q = (q k).1 * F (fun i => if i = k then (1, 0) else q i) + (q k).2 * F (fun i => if i = k then (0, 1) else q i)
theorem MA_sum {K : Nat} {F : (Nat → Int × Int) → Int} (h : MA K F) (q : Nat → Int × Int) : ∀ k, k ≤ K → F q = sm (fun x => wp q x k * F (mx x k q)) (2 ^ k) := by
  intro k
  induction k with
  | zero =>
    intro _
    have e : mx 0 0 q = q := by funext i; simp [mx]
    show F q = sm _ 1
    rw [sm, sm, e, wp]
    omega
  | succ k ih =>
    intro hk
    rw [ih (by omega), sm_pow]
    refine sm_congr fun x hx => ?_
    rw [h (mx x k q) k (by omega)]
    have e0 : mx x k q k = q k := by simp [mx]
    have e1 : (fun i => if i = k then ((0, 1) : Int × Int) else mx x k q i) = mx x (k + 1) q := by
      funext i
      unfold mx
      by_cases h1 : i = k
      · subst h1; simp [tb_hi hx]
      · by_cases h2 : i < k
        · rw [if_neg h1, if_pos h2, if_pos (show i < k + 1 by omega)]
        · rw [if_neg h1, if_neg h2, if_neg (show ¬ i < k + 1 by omega)]
    have e2 : (fun i => if i = k then ((1, 0) : Int × Int) else mx x k q i) = mx (x + 2 ^ k) (k + 1) q := by
      funext i
      unfold mx
      by_cases h1 : i = k
      · subst h1; simp [tb_add_eq hx]
      · by_cases h2 : i < k
        · rw [if_neg h1, if_pos h2, if_pos (show i < k + 1 by omega), tb_add_lo h2]
        · rw [if_neg h1, if_neg h2, if_neg (show ¬ i < k + 1 by omega)]
    have w1 : wp q x (k + 1) = wp q x k * (q k).2 := by rw [wp, tb_hi hx]; simp
    have w2 : wp q (x + 2 ^ k) (k + 1) = wp q x k * (q k).1 := by rw [wp, tb_add_eq hx, wp_congr (fun i hi => tb_add_lo hi)]; simp
    rw [e0, e1, e2, w1, w2]
    rw [Int.mul_add, Int.mul_assoc, Int.mul_assoc, Int.add_comm]
/-- a step of a row: a, b: he misses, he hears; n, o: he notices, he overlooks -/
def sp (a b n o : Int) (j : Nat) (f : Nat → Int) : Nat → Int := fun c =>
  (if c ≤ j then f c * (o * a) else 0) + (if 1 ≤ c ∧ c ≤ j + 1 then f (c - 1) * (o * b) else 0) + (if c = j + 1 then sm f (j + 1) * (n * (a + b)) else 0)
theorem sp_lin (x y : Int) {a b n o : Int} {j : Nat} {f g h : Nat → Int} (e : ∀ c, f c = x * g c + y * h c) (c : Nat) : sp a b n o j f c = x * sp a b n o j g c + y * sp a b n o j h c := by
  unfold sp
  rw [sm_lin x y (fun i _ => e i), e c, e (c - 1)]
  repeat' split
  all_goals grind
theorem sp_ab (a b n o : Int) (j : Nat) (f : Nat → Int) (c : Nat) : sp a b n o j f c = a * sp 1 0 n o j f c + b * sp 0 1 n o j f c := by
  unfold sp
  repeat' split
  all_goals grind
theorem sp_no (a b n o : Int) (j : Nat) (f : Nat → Int) (c : Nat) : sp a b n o j f c = n * sp a b 1 0 j f c + o * sp a b 0 1 j f c := by
  unfold sp
  repeat' split
  all_goals grind
/-- two rows: the net not out yet, the net out -/
abbrev RR : Type := (Nat → Int) × (Nat → Int)
def w1_ (a b n o : Int) (K : Nat → Bool) (j : Nat) (f : Nat → Int) : Nat → Int := fun c => if K c then sp a b n o j f c else 0
def h2_ (a b n o : Int) (K : Nat → Bool) (OUT IN j : Nat) (s : RR) : Nat → Int := fun c => (if IN ≤ c then 0 else w1_ a b n o K j s.2 c) + (if OUT ≤ c then w1_ a b n o K j s.1 c else 0)
def go_ (a b n o : Int) (K : Nat → Bool) (OUT j : Nat) (s : RR) : Int := sm (fun c => if OUT ≤ c then w1_ a b n o K j s.1 c else 0) 11
def ou_ (a b n o : Int) (K : Nat → Bool) (OUT IN j : Nat) (s : RR) : Int := sm (h2_ a b n o K OUT IN j s) 11
def st_ (a b n o : Int) (K : Nat → Bool) (OUT IN BR j : Nat) (s : RR) : RR := (fun c => if OUT ≤ c then 0 else w1_ a b n o K j s.1 c, fun c => if j + 1 = BR then 0 else h2_ a b n o K OUT IN j s c)
/-- the parameters of the joints: P 0 he misses, P 1 he hears, P 2 he notices, P 3 he overlooks; joint j + 1 has place j -/
abbrev PP : Type := Nat → Nat → Int
def rw_ (P : PP) (K : Nat → Nat → Bool) (OUT IN BR : Nat) : Nat → RR
  | 0 => (fun c => if c = 0 then 1 else 0, fun _ => 0)
  | j + 1 => st_ (P 0 j) (P 1 j) (P 2 j) (P 3 j) (K j) OUT IN BR j (rw_ P K OUT IN BR j)
/-- what is behind joint J - m, of J joints -/
def bh_ (P : PP) (J : Nat) : Nat → Int
  | 0 => 1
  | m + 1 => bh_ P J m * ((P 0 (J - (m + 1)) + P 1 (J - (m + 1))) * (P 2 (J - (m + 1)) + P 3 (J - (m + 1))))
def LC (x y : Int) (s s1 s2 : RR) : Prop := ∀ c, s.1 c = x * s1.1 c + y * s2.1 c ∧ s.2 c = x * s1.2 c + y * s2.2 c
theorem w1_lin {x y : Int} {a b n o : Int} {K : Nat → Bool} {j : Nat} {f g h : Nat → Int} (e : ∀ c, f c = x * g c + y * h c) (c : Nat) : w1_ a b n o K j f c = x * w1_ a b n o K j g c + y * w1_ a b n o K j h c := by
  unfold w1_
  split
  · exact sp_lin x y e c
  · grind
theorem h2_lin {x y : Int} {a b n o : Int} {K : Nat → Bool} {OUT IN j : Nat} {s s1 s2 : RR} (e : LC x y s s1 s2) (c : Nat) : h2_ a b n o K OUT IN j s c = x * h2_ a b n o K OUT IN j s1 c + y * h2_ a b n o K OUT IN j s2 c := by
  unfold h2_
  rw [w1_lin (fun c => (e c).1) c, w1_lin (fun c => (e c).2) c]
  repeat' split
  all_goals grind
theorem st_lin {x y : Int} {a b n o : Int} {K : Nat → Bool} {OUT IN BR j : Nat} {s s1 s2 : RR} (e : LC x y s s1 s2) : LC x y (st_ a b n o K OUT IN BR j s) (st_ a b n o K OUT IN BR j s1) (st_ a b n o K OUT IN BR j s2) := by
  intro c
  refine ⟨?_, ?_⟩
  · show (if OUT ≤ c then 0 else w1_ a b n o K j s.1 c) = x * (if OUT ≤ c then 0 else w1_ a b n o K j s1.1 c) + y * (if OUT ≤ c then 0 else w1_ a b n o K j s2.1 c)
    rw [w1_lin (fun c => (e c).1) c]
    split <;> grind
  · show (if j + 1 = BR then 0 else h2_ a b n o K OUT IN j s c) = x * (if j + 1 = BR then 0 else h2_ a b n o K OUT IN j s1 c) + y * (if j + 1 = BR then 0 else h2_ a b n o K OUT IN j s2 c)
    rw [h2_lin e c]
    split <;> grind
theorem go_lin {x y : Int} {a b n o : Int} {K : Nat → Bool} {OUT j : Nat} {s s1 s2 : RR} (e : LC x y s s1 s2) : go_ a b n o K OUT j s = x * go_ a b n o K OUT j s1 + y * go_ a b n o K OUT j s2 := by
  unfold go_
  refine sm_lin x y fun c _ => ?_
  rw [w1_lin (fun c => (e c).1) c]
  split <;> grind
theorem ou_lin {x y : Int} {a b n o : Int} {K : Nat → Bool} {OUT IN j : Nat} {s s1 s2 : RR} (e : LC x y s s1 s2) : ou_ a b n o K OUT IN j s = x * ou_ a b n o K OUT IN j s1 + y * ou_ a b n o K OUT IN j s2 := by
  unfold ou_
  exact sm_lin x y fun c _ => h2_lin e c
/-- a step is linear in a pair of its parameters: x the first, y the second, over the same rows -/
def L4 (x y a b n o a1 b1 n1 o1 a2 b2 n2 o2 : Int) : Prop := ∀ (j : Nat) (f : Nat → Int) (c : Nat), sp a b n o j f c = x * sp a1 b1 n1 o1 j f c + y * sp a2 b2 n2 o2 j f c
theorem w1_p {x y a b n o a1 b1 n1 o1 a2 b2 n2 o2 : Int} (h : L4 x y a b n o a1 b1 n1 o1 a2 b2 n2 o2) (K : Nat → Bool) (j : Nat) (f : Nat → Int) (c : Nat) : w1_ a b n o K j f c = x * w1_ a1 b1 n1 o1 K j f c + y * w1_ a2 b2 n2 o2 K j f c := by
  unfold w1_
  split
  · exact h j f c
  · grind
theorem h2_p {x y a b n o a1 b1 n1 o1 a2 b2 n2 o2 : Int} (h : L4 x y a b n o a1 b1 n1 o1 a2 b2 n2 o2) (K : Nat → Bool) (OUT IN j : Nat) (s : RR) (c : Nat) : h2_ a b n o K OUT IN j s c = x * h2_ a1 b1 n1 o1 K OUT IN j s c + y * h2_ a2 b2 n2 o2 K OUT IN j s c := by
  unfold h2_
  rw [w1_p h K j s.1 c, w1_p h K j s.2 c]
  repeat' split
  all_goals grind
theorem st_p {x y a b n o a1 b1 n1 o1 a2 b2 n2 o2 : Int} (h : L4 x y a b n o a1 b1 n1 o1 a2 b2 n2 o2) (K : Nat → Bool) (OUT IN BR j : Nat) (s : RR) : LC x y (st_ a b n o K OUT IN BR j s) (st_ a1 b1 n1 o1 K OUT IN BR j s) (st_ a2 b2 n2 o2 K OUT IN BR j s) := by
  intro c
  refine ⟨?_, ?_⟩
  · show (if OUT ≤ c then 0 else w1_ a b n o K j s.1 c) = x * (if OUT ≤ c then 0 else w1_ a1 b1 n1 o1 K j s.1 c) + y * (if OUT ≤ c then 0 else w1_ a2 b2 n2 o2 K j s.1 c)
    rw [w1_p h K j s.1 c]
    split <;> grind
  · show (if j + 1 = BR then 0 else h2_ a b n o K OUT IN j s c) = x * (if j + 1 = BR then 0 else h2_ a1 b1 n1 o1 K OUT IN j s c) + y * (if j + 1 = BR then 0 else h2_ a2 b2 n2 o2 K OUT IN j s c)
    rw [h2_p h K OUT IN j s c]
    split <;> grind
theorem go_p {x y a b n o a1 b1 n1 o1 a2 b2 n2 o2 : Int} (h : L4 x y a b n o a1 b1 n1 o1 a2 b2 n2 o2) (K : Nat → Bool) (OUT j : Nat) (s : RR) : go_ a b n o K OUT j s = x * go_ a1 b1 n1 o1 K OUT j s + y * go_ a2 b2 n2 o2 K OUT j s := by
  unfold go_
  refine sm_lin x y fun c _ => ?_
  rw [w1_p h K j s.1 c]
  split <;> grind
theorem ou_p {x y a b n o a1 b1 n1 o1 a2 b2 n2 o2 : Int} (h : L4 x y a b n o a1 b1 n1 o1 a2 b2 n2 o2) (K : Nat → Bool) (OUT IN j : Nat) (s : RR) : ou_ a b n o K OUT IN j s = x * ou_ a1 b1 n1 o1 K OUT IN j s + y * ou_ a2 b2 n2 o2 K OUT IN j s := by
  unfold ou_
  exact sm_lin x y fun c _ => h2_p h K OUT IN j s c
/-- three sets of parameters: the same but at joint k + 1, where the first is x times the second and y times the third -/
def P3 (x y : Int) (k : Nat) (P P1 P2 : PP) : Prop := (∀ i j, j ≠ k → P1 i j = P i j ∧ P2 i j = P i j) ∧ L4 x y (P 0 k) (P 1 k) (P 2 k) (P 3 k) (P1 0 k) (P1 1 k) (P1 2 k) (P1 3 k) (P2 0 k) (P2 1 k) (P2 2 k) (P2 3 k) ∧ (P 0 k + P 1 k) * (P 2 k + P 3 k) = x * ((P1 0 k + P1 1 k) * (P1 2 k + P1 3 k)) + y * ((P2 0 k + P2 1 k) * (P2 2 k + P2 3 k))
theorem rw_same {x y : Int} {k : Nat} {P P1 P2 : PP} (h : P3 x y k P P1 P2) (K : Nat → Nat → Bool) (OUT IN BR : Nat) : ∀ j, j ≤ k → rw_ P1 K OUT IN BR j = rw_ P K OUT IN BR j ∧ rw_ P2 K OUT IN BR j = rw_ P K OUT IN BR j := by
  intro j
  induction j with
  | zero => intro _; exact ⟨rfl, rfl⟩
  | succ j ih =>
    intro hj
    obtain ⟨h1, h2⟩ := ih (by omega)
    have e : ∀ i, P1 i j = P i j ∧ P2 i j = P i j := fun i => h.1 i j (by omega)
    simp only [rw_]
    rw [h1, h2, (e 0).1, (e 1).1, (e 2).1, (e 3).1, (e 0).2, (e 1).2, (e 2).2, (e 3).2]
    exact ⟨rfl, rfl⟩
theorem rw_LC {x y : Int} {k : Nat} {P P1 P2 : PP} (h : P3 x y k P P1 P2) (K : Nat → Nat → Bool) (OUT IN BR : Nat) : ∀ j, k < j → LC x y (rw_ P K OUT IN BR j) (rw_ P1 K OUT IN BR j) (rw_ P2 K OUT IN BR j) := by
  intro j
  induction j with
  | zero => intro h0; omega
  | succ j ih =>
    intro hj
    simp only [rw_]
    by_cases hk : j = k
    · subst hk
      obtain ⟨h1, h2⟩ := rw_same h K OUT IN BR j (Nat.le_refl _)
      rw [h1, h2]
      exact st_p h.2.1 (K j) OUT IN BR j _
    · have e : ∀ i, P1 i j = P i j ∧ P2 i j = P i j := fun i => h.1 i j hk
      rw [(e 0).1, (e 1).1, (e 2).1, (e 3).1, (e 0).2, (e 1).2, (e 2).2, (e 3).2]
      exact st_lin (ih (by omega))
theorem bh_P3 {x y : Int} {k J : Nat} {P P1 P2 : PP} (h : P3 x y k P P1 P2) : ∀ m, m ≤ J → (J - m ≤ k ∧ k < J → bh_ P J m = x * bh_ P1 J m + y * bh_ P2 J m) ∧ (¬ (J - m ≤ k ∧ k < J) → bh_ P1 J m = bh_ P J m ∧ bh_ P2 J m = bh_ P J m) := by
  intro m
  induction m with
  | zero => intro _; exact ⟨fun q => by omega, fun _ => ⟨rfl, rfl⟩⟩
  | succ m ih =>
    intro hm
    obtain ⟨i1, i2⟩ := ih (by omega)
    by_cases hk : J - (m + 1) = k
    · obtain ⟨g1, g2⟩ := i2 (by omega)
      refine ⟨fun _ => ?_, fun q => absurd ⟨by omega, by omega⟩ q⟩
      simp only [bh_]
      rw [hk, g1, g2, h.2.2]
      grind
    · have e : ∀ i, P1 i (J - (m + 1)) = P i (J - (m + 1)) ∧ P2 i (J - (m + 1)) = P i (J - (m + 1)) := fun i => h.1 i _ hk
      simp only [bh_]
      rw [(e 0).1, (e 1).1, (e 2).1, (e 3).1, (e 0).2, (e 1).2, (e 2).2, (e 3).2]
      refine ⟨fun q => ?_, fun q => ?_⟩
      · rw [i1 (by omega)]
        grind
      · obtain ⟨g1, g2⟩ := i2 (by omega)
        rw [g1, g2]
        exact ⟨rfl, rfl⟩
/-- the three answers, each with what is behind its joint (j ≤ J) -/
def W_ (P : PP) (K : Nat → Nat → Bool) (OUT IN BR J j c : Nat) : Int := (rw_ P K OUT IN BR j).1 c * bh_ P J (J - j)
def G_ (P : PP) (K : Nat → Nat → Bool) (OUT IN BR J j : Nat) : Int := go_ (P 0 j) (P 1 j) (P 2 j) (P 3 j) (K j) OUT j (rw_ P K OUT IN BR j) * bh_ P J (J - (j + 1))
def O_ (P : PP) (K : Nat → Nat → Bool) (OUT IN BR J j : Nat) : Int := ou_ (P 0 j) (P 1 j) (P 2 j) (P 3 j) (K j) OUT IN j (rw_ P K OUT IN BR j) * bh_ P J (J - (j + 1))
theorem W_P3 {x y : Int} {k J : Nat} {P P1 P2 : PP} (h : P3 x y k P P1 P2) (hk : k < J) (K : Nat → Nat → Bool) (OUT IN BR j c : Nat) (hj : j ≤ J) : W_ P K OUT IN BR J j c = x * W_ P1 K OUT IN BR J j c + y * W_ P2 K OUT IN BR J j c := by
  unfold W_
  obtain ⟨b1, b2⟩ := bh_P3 (J := J) h (J - j) (by omega)
  by_cases q : k < j
  · obtain ⟨g1, g2⟩ := b2 (by omega)
    rw [(rw_LC h K OUT IN BR j q c).1, g1, g2]
    grind
  · obtain ⟨g1, g2⟩ := rw_same h K OUT IN BR j (by omega)
    rw [g1, g2, b1 (by omega)]
    grind
theorem G_P3 {x y : Int} {k J : Nat} {P P1 P2 : PP} (h : P3 x y k P P1 P2) (hk : k < J) (K : Nat → Nat → Bool) (OUT IN BR j : Nat) (hj : j < J) : G_ P K OUT IN BR J j = x * G_ P1 K OUT IN BR J j + y * G_ P2 K OUT IN BR J j := by
  unfold G_
  obtain ⟨b1, b2⟩ := bh_P3 (J := J) h (J - (j + 1)) (by omega)
  by_cases q : k < j + 1
  · obtain ⟨g1, g2⟩ := b2 (by omega)
    rw [g1, g2]
    by_cases q2 : j = k
    · subst q2
      obtain ⟨r1, r2⟩ := rw_same h K OUT IN BR j (Nat.le_refl _)
      rw [r1, r2, go_p h.2.1]
      grind
    · have e : ∀ i, P1 i j = P i j ∧ P2 i j = P i j := fun i => h.1 i j q2
      rw [(e 0).1, (e 1).1, (e 2).1, (e 3).1, (e 0).2, (e 1).2, (e 2).2, (e 3).2, go_lin (rw_LC h K OUT IN BR j (by omega))]
      grind
  · obtain ⟨r1, r2⟩ := rw_same h K OUT IN BR j (by omega)
    have e : ∀ i, P1 i j = P i j ∧ P2 i j = P i j := fun i => h.1 i j (by omega)
    rw [r1, r2, (e 0).1, (e 1).1, (e 2).1, (e 3).1, (e 0).2, (e 1).2, (e 2).2, (e 3).2, b1 (by omega)]
    grind
theorem O_P3 {x y : Int} {k J : Nat} {P P1 P2 : PP} (h : P3 x y k P P1 P2) (hk : k < J) (K : Nat → Nat → Bool) (OUT IN BR j : Nat) (hj : j < J) : O_ P K OUT IN BR J j = x * O_ P1 K OUT IN BR J j + y * O_ P2 K OUT IN BR J j := by
  unfold O_
  obtain ⟨b1, b2⟩ := bh_P3 (J := J) h (J - (j + 1)) (by omega)
  by_cases q : k < j + 1
  · obtain ⟨g1, g2⟩ := b2 (by omega)
    rw [g1, g2]
    by_cases q2 : j = k
    · subst q2
      obtain ⟨r1, r2⟩ := rw_same h K OUT IN BR j (Nat.le_refl _)
      rw [r1, r2, ou_p h.2.1]
      grind
    · have e : ∀ i, P1 i j = P i j ∧ P2 i j = P i j := fun i => h.1 i j q2
      rw [(e 0).1, (e 1).1, (e 2).1, (e 3).1, (e 0).2, (e 1).2, (e 2).2, (e 3).2, ou_lin (rw_LC h K OUT IN BR j (by omega))]
      grind
  · obtain ⟨r1, r2⟩ := rw_same h K OUT IN BR j (by omega)
    have e : ∀ i, P1 i j = P i j ∧ P2 i j = P i j := fun i => h.1 i j (by omega)
    rw [r1, r2, (e 0).1, (e 1).1, (e 2).1, (e 3).1, (e 0).2, (e 1).2, (e 2).2, (e 3).2, b1 (by omega)]
    grind
/-- the first place below n, or n -/
def fi (p : Nat → Bool) : Nat → Nat
  | 0 => 0
  | n + 1 => if fi p n < n then fi p n else if p n then n else n + 1
theorem fi_le (p : Nat → Bool) : ∀ n, fi p n ≤ n
  | 0 => Nat.le_refl 0
  | n + 1 => by
    have := fi_le p n
    unfold fi
    split
    · omega
    · split <;> omega
theorem fi_yes {p : Nat → Bool} : ∀ {n : Nat}, fi p n < n → p (fi p n) = true
  | 0, h => absurd h (Nat.not_lt_zero _)
  | n + 1, h => by
    unfold fi at h ⊢
    by_cases q : fi p n < n
    · rw [if_pos q]; exact fi_yes q
    · rw [if_neg q] at h ⊢
      by_cases r : p n = true
      · rw [if_pos r]; exact r
      · rw [if_neg r] at h; omega
theorem fi_no {p : Nat → Bool} : ∀ {n k : Nat}, k < fi p n → p k = false
  | 0, k, h => absurd h (Nat.not_lt_zero _)
  | n + 1, k, h => by
    unfold fi at h
    by_cases q : fi p n < n
    · rw [if_pos q] at h; exact fi_no h
    · rw [if_neg q] at h
      have hn : fi p n = n := by have := fi_le p n; omega
      by_cases r : p n = true
      · rw [if_pos r] at h; exact fi_no (n := n) (by omega)
      · rw [if_neg r] at h
        by_cases e : k = n
        · subst e; simpa using r
        · exact fi_no (n := n) (by omega)
theorem fi_out {p : Nat → Bool} {n : Nat} (h : ∀ k, k < n → p k = false) : fi p n = n := by
  have h1 := fi_le p n
  rcases Nat.lt_or_ge (fi p n) n with q | q
  · have := fi_yes q; rw [h _ q] at this; cases this
  · omega
theorem fi_is {p : Nat → Bool} {n k : Nat} (hk : k < n) (h : p k = true) (u : ∀ i, i < n → p i = true → i = k) : fi p n = k := by
  have h1 := fi_le p n
  rcases Nat.lt_or_ge (fi p n) n with q | q
  · exact u _ q (fi_yes q)
  · have := fi_no (p := p) (n := n) (k := k) (by omega); rw [h] at this; cases this
/-- the mark at joint j + 1 (M: none) -/
def ma (mj : Nat → Nat) (M j : Nat) : Nat := fi (fun m => mj m == j + 1) M
def PQ (q r : Nat → Int × Int) (mj : Nat → Nat) (M : Nat) : PP := fun i j => if i = 0 then (q j).1 else if i = 1 then (q j).2 else if i = 2 then (if ma mj M j < M then (r (ma mj M j)).1 else 0) else (if ma mj M j < M then (r (ma mj M j)).2 else 1)
theorem PQ_q (q r : Nat → Int × Int) (mj : Nat → Nat) (M k : Nat) : P3 (q k).1 (q k).2 k (PQ q r mj M) (PQ (fun i => if i = k then (1, 0) else q i) r mj M) (PQ (fun i => if i = k then (0, 1) else q i) r mj M) := by
  refine ⟨fun i j hj => ?_, fun j f c => ?_, ?_⟩
  · unfold PQ
    simp [hj]
  · unfold PQ
    simp
    exact sp_ab _ _ _ _ j f c
  · unfold PQ
    simp
    grind
theorem ma_is {mj : Nat → Nat} {M m : Nat} (hm : m < M) (h1 : 1 ≤ mj m) (u : ∀ a b, a < M → b < M → mj a = mj b → a = b) : ma mj M (mj m - 1) = m := by
  unfold ma
  refine fi_is hm (by simp; omega) fun i hi h => ?_
  simp at h
  exact u i m hi hm (by omega)
theorem PQ_r (q r : Nat → Int × Int) {mj : Nat → Nat} {M m : Nat} (hm : m < M) (h1 : 1 ≤ mj m) (u : ∀ a b, a < M → b < M → mj a = mj b → a = b) : P3 (r m).1 (r m).2 (mj m - 1) (PQ q r mj M) (PQ q (fun i => if i = m then (1, 0) else r i) mj M) (PQ q (fun i => if i = m then (0, 1) else r i) mj M) := by
  have e := ma_is hm h1 u
  refine ⟨fun i j hj => ?_, fun j f c => ?_, ?_⟩
  · have hne : ma mj M j < M → ma mj M j ≠ m := by
      intro hl he
      have hy := fi_yes (p := fun m => mj m == j + 1) hl
      rw [show fi (fun m => mj m == j + 1) M = m from he] at hy
      simp at hy
      omega
    unfold PQ
    by_cases hl : ma mj M j < M
    · simp [hl, hne hl]
    · simp [hl]
  · unfold PQ
    simp [e, hm]
    exact sp_no _ _ _ _ j f c
  · unfold PQ
    simp [e, hm]
    grind
/-- one of the answers, as a number of the parameters -/
theorem MA_two {J M : Nat} {mj : Nat → Nat} (hm : ∀ m, m < M → 1 ≤ mj m ∧ mj m ≤ J) (u : ∀ a b, a < M → b < M → mj a = mj b → a = b) (F : PP → Int) (hF : ∀ (x y : Int) (k : Nat) (P P1 P2 : PP), k < J → P3 x y k P P1 P2 → F P = x * F P1 + y * F P2) (q r : Nat → Int × Int) :
    F (PQ q r mj M) = sm (fun x => wp q x J * sm (fun n => wp r n M * F (PQ (mx x J q) (mx n M r) mj M)) (2 ^ M)) (2 ^ J) := by
  rw [MA_sum (K := J) (F := fun q => F (PQ q r mj M)) (fun q k hk => hF _ _ k _ _ _ hk (PQ_q q r mj M k)) q J (Nat.le_refl _)]
  refine sm_congr fun x _ => ?_
  rw [MA_sum (K := M) (F := fun r => F (PQ (mx x J q) r mj M)) (fun r k hk => hF _ _ (mj k - 1) _ _ _ (by have := hm k hk; omega) (PQ_r (mx x J q) r hk (hm k hk).1 u)) r M (Nat.le_refl _)]
/-- a night of which all is known: whether he notices at joint j + 1, his count, the net (0 not out yet, 1 out, 2 in, 3 torn) -/
def nt (mj : Nat → Nat) (M n j : Nat) : Bool := decide (ma mj M j < M) && n.testBit (ma mj M j)
def cn (mj : Nat → Nat) (M x n : Nat) : Nat → Nat
  | 0 => 0
  | j + 1 => if nt mj M n j then j + 1 else if x.testBit j then cn mj M x n j else cn mj M x n j + 1
def pa (OUT IN s c : Nat) : Nat := if s = 0 then (if OUT ≤ c then 1 else 0) else if s = 1 then (if IN ≤ c then 2 else 1) else s
def ns (mj : Nat → Nat) (M x n OUT IN BR : Nat) : Nat → Nat
  | 0 => 0
  | j + 1 => if pa OUT IN (ns mj M x n OUT IN BR j) (cn mj M x n (j + 1)) = 1 ∧ j + 1 = BR then 3 else pa OUT IN (ns mj M x n OUT IN BR j) (cn mj M x n (j + 1))
def okK (mj : Nat → Nat) (M x n : Nat) (K : Nat → Nat → Bool) : Nat → Bool
  | 0 => true
  | j + 1 => okK mj M x n K j && K j (cn mj M x n (j + 1))
theorem cn_le (mj : Nat → Nat) (M x n : Nat) : ∀ j, cn mj M x n j ≤ j
  | 0 => Nat.le_refl 0
  | j + 1 => by
    have := cn_le mj M x n j
    unfold cn
    repeat' split
    all_goals omega
theorem sp_det {nb xb : Bool} {j c0 : Nat} {v : Int} (hc : c0 ≤ j) (c : Nat) : sp (if xb then 1 else 0) (if xb then 0 else 1) (if nb then 1 else 0) (if nb then 0 else 1) j (fun c => if c = c0 then v else 0) c = if c = (if nb then j + 1 else if xb then c0 else c0 + 1) then v else 0 := by
  unfold sp
  rw [sm_delta, if_pos (show c0 < j + 1 by omega)]
  cases nb
  · cases xb
    · by_cases h : c = c0 + 1
      · subst h
        have h1 : c0 + 1 ≤ j + 1 := by omega
        simp [hc]
      · have h1 : ¬ (1 ≤ c ∧ c - 1 = c0) := by omega
        by_cases h2 : 1 ≤ c ∧ c ≤ j + 1
        · have h3 : ¬ c - 1 = c0 := by omega
          simp [h, h3]
        · simp [h]
          intros
          omega
    · by_cases h : c = c0
      · subst h
        simp [hc]
      · simp [h]
  · by_cases h : c = j + 1
    · subst h
      cases xb <;> simp
    · simp [h]
theorem PQ_det (x n J : Nat) (q r : Nat → Int × Int) (mj : Nat → Nat) (M : Nat) {j : Nat} (hj : j < J) : PQ (mx x J q) (mx n M r) mj M 0 j = (if x.testBit j then 1 else 0) ∧ PQ (mx x J q) (mx n M r) mj M 1 j = (if x.testBit j then 0 else 1) ∧ PQ (mx x J q) (mx n M r) mj M 2 j = (if nt mj M n j then 1 else 0) ∧ PQ (mx x J q) (mx n M r) mj M 3 j = (if nt mj M n j then 0 else 1) := by
  unfold PQ nt
  refine ⟨?_, ?_, ?_, ?_⟩
  · simp [mx, hj]; split <;> rfl
  · simp [mx, hj]; split <;> rfl
  · by_cases h : ma mj M j < M
    · simp [mx, h]; split <;> rfl
    · simp [h]
  · by_cases h : ma mj M j < M
    · simp [mx, h]; split <;> rfl
    · simp [h]
theorem rw_det (x n : Nat) {J : Nat} (q r : Nat → Int × Int) (mj : Nat → Nat) (M : Nat) (K : Nat → Nat → Bool) (OUT IN BR : Nat) : ∀ j, j ≤ J → ∀ c, (rw_ (PQ (mx x J q) (mx n M r) mj M) K OUT IN BR j).1 c = (if c = cn mj M x n j then (if ns mj M x n OUT IN BR j = 0 ∧ okK mj M x n K j = true then 1 else 0) else 0) ∧ (rw_ (PQ (mx x J q) (mx n M r) mj M) K OUT IN BR j).2 c = (if c = cn mj M x n j then (if ns mj M x n OUT IN BR j = 1 ∧ okK mj M x n K j = true then 1 else 0) else 0) := by
  intro j
  induction j with
  | zero => intro _ c; simp [rw_, cn, ns, okK]
  | succ j ih =>
    intro hj c
    obtain ⟨p0, p1, p2, p3⟩ := PQ_det x n J q r mj M (j := j) (by omega)
    have e1 : (rw_ (PQ (mx x J q) (mx n M r) mj M) K OUT IN BR j).1 = fun c => if c = cn mj M x n j then (if ns mj M x n OUT IN BR j = 0 ∧ okK mj M x n K j = true then 1 else 0) else 0 := funext fun c => (ih (by omega) c).1
    have e2 : (rw_ (PQ (mx x J q) (mx n M r) mj M) K OUT IN BR j).2 = fun c => if c = cn mj M x n j then (if ns mj M x n OUT IN BR j = 1 ∧ okK mj M x n K j = true then 1 else 0) else 0 := funext fun c => (ih (by omega) c).2
    have hc := cn_le mj M x n j
    have s1 := fun c => sp_det (nb := nt mj M n j) (xb := x.testBit j) (v := if ns mj M x n OUT IN BR j = 0 ∧ okK mj M x n K j = true then 1 else 0) hc c
    have s2 := fun c => sp_det (nb := nt mj M n j) (xb := x.testBit j) (v := if ns mj M x n OUT IN BR j = 1 ∧ okK mj M x n K j = true then 1 else 0) hc c
    have ec : cn mj M x n (j + 1) = if nt mj M n j then j + 1 else if x.testBit j then cn mj M x n j else cn mj M x n j + 1 := rfl
    rw [← ec] at s1 s2
    simp only [rw_, st_, h2_, w1_, p0, p1, p2, p3, e1, e2, s1, s2]
    have eo : okK mj M x n K (j + 1) = (okK mj M x n K j && K j (cn mj M x n (j + 1))) := rfl
    have en : ns mj M x n OUT IN BR (j + 1) = if pa OUT IN (ns mj M x n OUT IN BR j) (cn mj M x n (j + 1)) = 1 ∧ j + 1 = BR then 3 else pa OUT IN (ns mj M x n OUT IN BR j) (cn mj M x n (j + 1)) := rfl
    rw [eo, en]
    generalize ns mj M x n OUT IN BR j = s0
    generalize okK mj M x n K j = k0
    generalize cn mj M x n (j + 1) = c1
    clear e1 e2 s1 s2 ec eo en ih p0 p1 p2 p3
    by_cases h : c = c1
    · subst h
      unfold pa
      cases k0 <;> cases K j c <;> by_cases a1 : s0 = 0 <;> by_cases a2 : s0 = 1 <;> by_cases a3 : OUT ≤ c <;> by_cases a4 : IN ≤ c <;> by_cases a5 : j + 1 = BR <;> simp [a1, a2, a3, a4, a5]
    · simp [h]
theorem bh_det (x n : Nat) {J : Nat} (q r : Nat → Int × Int) (mj : Nat → Nat) (M : Nat) : ∀ m, m ≤ J → bh_ (PQ (mx x J q) (mx n M r) mj M) J m = 1 := by
  intro m
  induction m with
  | zero => intro _; rfl
  | succ m ih =>
    intro hm
    obtain ⟨p0, p1, p2, p3⟩ := PQ_det x n J q r mj M (j := J - (m + 1)) (by omega)
    simp only [bh_]
    rw [ih (by omega), p0, p1, p2, p3]
    split <;> split <;> rfl
theorem W_det (x n : Nat) {J : Nat} (q r : Nat → Int × Int) (mj : Nat → Nat) (M : Nat) (K : Nat → Nat → Bool) (OUT IN BR : Nat) {j : Nat} (hj : j ≤ J) (c : Nat) : W_ (PQ (mx x J q) (mx n M r) mj M) K OUT IN BR J j c = if c = cn mj M x n j ∧ ns mj M x n OUT IN BR j = 0 ∧ okK mj M x n K j = true then 1 else 0 := by
  unfold W_
  rw [(rw_det x n q r mj M K OUT IN BR j hj c).1, bh_det x n q r mj M _ (by omega)]
  by_cases h : c = cn mj M x n j <;> simp [h]
theorem G_det (x n : Nat) {J : Nat} (hJ : J ≤ 10) (q r : Nat → Int × Int) (mj : Nat → Nat) (M : Nat) (K : Nat → Nat → Bool) (OUT IN BR : Nat) {j : Nat} (hj : j < J) : G_ (PQ (mx x J q) (mx n M r) mj M) K OUT IN BR J j = if ns mj M x n OUT IN BR j = 0 ∧ OUT ≤ cn mj M x n (j + 1) ∧ okK mj M x n K (j + 1) = true then 1 else 0 := by
  unfold G_ go_ w1_
  obtain ⟨p0, p1, p2, p3⟩ := PQ_det x n J q r mj M (j := j) hj
  have e1 : (rw_ (PQ (mx x J q) (mx n M r) mj M) K OUT IN BR j).1 = fun c => if c = cn mj M x n j then (if ns mj M x n OUT IN BR j = 0 ∧ okK mj M x n K j = true then 1 else 0) else 0 := funext fun c => (rw_det x n q r mj M K OUT IN BR j (by omega) c).1
  have s1 := fun c => sp_det (nb := nt mj M n j) (xb := x.testBit j) (v := if ns mj M x n OUT IN BR j = 0 ∧ okK mj M x n K j = true then 1 else 0) (cn_le mj M x n j) c
  have ec : cn mj M x n (j + 1) = if nt mj M n j then j + 1 else if x.testBit j then cn mj M x n j else cn mj M x n j + 1 := rfl
  rw [← ec] at s1
  rw [bh_det x n q r mj M _ (by omega), p0, p1, p2, p3, e1]
  have hl := cn_le mj M x n (j + 1)
  rw [sm_congr (g := fun c => if c = cn mj M x n (j + 1) then (if ns mj M x n OUT IN BR j = 0 ∧ OUT ≤ cn mj M x n (j + 1) ∧ okK mj M x n K (j + 1) = true then 1 else 0) else 0) (fun c _ => by
    rw [s1 c]
    have eo : okK mj M x n K (j + 1) = (okK mj M x n K j && K j (cn mj M x n (j + 1))) := rfl
    rw [eo]
    by_cases h : c = cn mj M x n (j + 1)
    · subst h
      by_cases a1 : OUT ≤ cn mj M x n (j + 1) <;> by_cases a2 : ns mj M x n OUT IN BR j = 0 <;> cases okK mj M x n K j <;> cases K j (cn mj M x n (j + 1)) <;> simp [a1, a2]
    · simp [h]), sm_delta, if_pos (by omega), Int.mul_one]
theorem O_det (x n : Nat) {J : Nat} (hJ : J ≤ 10) (q r : Nat → Int × Int) (mj : Nat → Nat) (M : Nat) (K : Nat → Nat → Bool) (OUT IN BR : Nat) {j : Nat} (hj : j < J) : O_ (PQ (mx x J q) (mx n M r) mj M) K OUT IN BR J j = if pa OUT IN (ns mj M x n OUT IN BR j) (cn mj M x n (j + 1)) = 1 ∧ okK mj M x n K (j + 1) = true then 1 else 0 := by
  unfold O_ ou_ h2_ w1_
  obtain ⟨p0, p1, p2, p3⟩ := PQ_det x n J q r mj M (j := j) hj
  have e1 : (rw_ (PQ (mx x J q) (mx n M r) mj M) K OUT IN BR j).1 = fun c => if c = cn mj M x n j then (if ns mj M x n OUT IN BR j = 0 ∧ okK mj M x n K j = true then 1 else 0) else 0 := funext fun c => (rw_det x n q r mj M K OUT IN BR j (by omega) c).1
  have e2 : (rw_ (PQ (mx x J q) (mx n M r) mj M) K OUT IN BR j).2 = fun c => if c = cn mj M x n j then (if ns mj M x n OUT IN BR j = 1 ∧ okK mj M x n K j = true then 1 else 0) else 0 := funext fun c => (rw_det x n q r mj M K OUT IN BR j (by omega) c).2
  have s1 := fun c => sp_det (nb := nt mj M n j) (xb := x.testBit j) (v := if ns mj M x n OUT IN BR j = 0 ∧ okK mj M x n K j = true then 1 else 0) (cn_le mj M x n j) c
  have s2 := fun c => sp_det (nb := nt mj M n j) (xb := x.testBit j) (v := if ns mj M x n OUT IN BR j = 1 ∧ okK mj M x n K j = true then 1 else 0) (cn_le mj M x n j) c
  have ec : cn mj M x n (j + 1) = if nt mj M n j then j + 1 else if x.testBit j then cn mj M x n j else cn mj M x n j + 1 := rfl
  rw [← ec] at s1 s2
  rw [bh_det x n q r mj M _ (by omega), p0, p1, p2, p3, e1, e2]
  have hl := cn_le mj M x n (j + 1)
  rw [sm_congr (g := fun c => if c = cn mj M x n (j + 1) then (if pa OUT IN (ns mj M x n OUT IN BR j) (cn mj M x n (j + 1)) = 1 ∧ okK mj M x n K (j + 1) = true then 1 else 0) else 0) (fun c _ => by
    rw [s1 c, s2 c]
    have eo : okK mj M x n K (j + 1) = (okK mj M x n K j && K j (cn mj M x n (j + 1))) := rfl
    rw [eo]
    generalize ns mj M x n OUT IN BR j = s0
    generalize okK mj M x n K j = k0
    generalize cn mj M x n (j + 1) = c1
    by_cases h : c = c1
    · subst h
      unfold pa
      cases k0 <;> cases K j c <;> by_cases a1 : s0 = 0 <;> by_cases a2 : s0 = 1 <;> by_cases a3 : OUT ≤ c <;> by_cases a4 : IN ≤ c <;> simp [a1, a2, a3, a4]
    · simp [h]), sm_delta, if_pos (by omega), Int.mul_one]
/-- the three answers as sums over all nights -/
def SN (q r : Nat → Int × Int) (J M : Nat) (v : Nat → Nat → Int) : Int := sm (fun x => wp q x J * sm (fun n => wp r n M * v x n) (2 ^ M)) (2 ^ J)
theorem SN_congr {q r : Nat → Int × Int} {J M : Nat} {v w : Nat → Nat → Int} (h : ∀ x n, x < 2 ^ J → n < 2 ^ M → v x n = w x n) : SN q r J M v = SN q r J M w := by
  unfold SN
  refine sm_congr fun x hx => ?_
  rw [sm_congr fun n hn => by rw [h x n hx hn]]
theorem SN_add (q r : Nat → Int × Int) (J M : Nat) (v w : Nat → Nat → Int) : SN q r J M (fun x n => v x n + w x n) = SN q r J M v + SN q r J M w := by
  unfold SN
  rw [← sm_add]
  refine sm_congr fun x _ => ?_
  rw [← Int.mul_add, ← sm_add]
  congr 1
  exact sm_congr fun n _ => by rw [Int.mul_add]
theorem SN_mul (a : Int) (q r : Nat → Int × Int) (J M : Nat) (v : Nat → Nat → Int) : SN q r J M (fun x n => a * v x n) = a * SN q r J M v := by
  unfold SN
  rw [← sm_mul]
  refine sm_congr fun x _ => ?_
  have e : sm (fun n => wp r n M * (a * v x n)) (2 ^ M) = a * sm (fun n => wp r n M * v x n) (2 ^ M) := by
    rw [← sm_mul]
    exact sm_congr fun n _ => Int.mul_left_comm _ _ _
  show wp q x J * sm (fun n => wp r n M * (a * v x n)) (2 ^ M) = _
  rw [e, Int.mul_left_comm]
section SNS
variable {J M : Nat} {mj : Nat → Nat}
theorem W_SN (hm : ∀ m, m < M → 1 ≤ mj m ∧ mj m ≤ J) (u : ∀ a b, a < M → b < M → mj a = mj b → a = b) (q r : Nat → Int × Int) (K : Nat → Nat → Bool) (OUT IN BR : Nat) {j : Nat} (hj : j ≤ J) (c : Nat) : W_ (PQ q r mj M) K OUT IN BR J j c = SN q r J M (fun x n => if c = cn mj M x n j ∧ ns mj M x n OUT IN BR j = 0 ∧ okK mj M x n K j = true then 1 else 0) := by
  rw [MA_two hm u (fun P => W_ P K OUT IN BR J j c) (fun x y k P P1 P2 hk h => W_P3 h hk K OUT IN BR j c hj) q r]
  unfold SN
  refine sm_congr fun x _ => ?_
  exact congrArg (fun z => wp q x J * z) (sm_congr fun n _ => by rw [W_det x n q r mj M K OUT IN BR hj c])
theorem G_SN (hm : ∀ m, m < M → 1 ≤ mj m ∧ mj m ≤ J) (u : ∀ a b, a < M → b < M → mj a = mj b → a = b) (q r : Nat → Int × Int) (K : Nat → Nat → Bool) (OUT IN BR : Nat) (hJ : J ≤ 10) {j : Nat} (hj : j < J) : G_ (PQ q r mj M) K OUT IN BR J j = SN q r J M (fun x n => if ns mj M x n OUT IN BR j = 0 ∧ OUT ≤ cn mj M x n (j + 1) ∧ okK mj M x n K (j + 1) = true then 1 else 0) := by
  rw [MA_two hm u (fun P => G_ P K OUT IN BR J j) (fun x y k P P1 P2 hk h => G_P3 h hk K OUT IN BR j hj) q r]
  unfold SN
  refine sm_congr fun x _ => ?_
  exact congrArg (fun z => wp q x J * z) (sm_congr fun n _ => by rw [G_det x n hJ q r mj M K OUT IN BR hj])
theorem O_SN (hm : ∀ m, m < M → 1 ≤ mj m ∧ mj m ≤ J) (u : ∀ a b, a < M → b < M → mj a = mj b → a = b) (q r : Nat → Int × Int) (K : Nat → Nat → Bool) (OUT IN BR : Nat) (hJ : J ≤ 10) {j : Nat} (hj : j < J) : O_ (PQ q r mj M) K OUT IN BR J j = SN q r J M (fun x n => if pa OUT IN (ns mj M x n OUT IN BR j) (cn mj M x n (j + 1)) = 1 ∧ okK mj M x n K (j + 1) = true then 1 else 0) := by
  rw [MA_two hm u (fun P => O_ P K OUT IN BR J j) (fun x y k P P1 P2 hk h => O_P3 h hk K OUT IN BR j hj) q r]
  unfold SN
  refine sm_congr fun x _ => ?_
  exact congrArg (fun z => wp q x J * z) (sm_congr fun n _ => by rw [O_det x n hJ q r mj M K OUT IN BR hj])
end SNS
