/-! a night of which all is known: on both sides -/
theorem fi_first {p : Nat → Bool} {n k : Nat} (hk : k < n) (h : p k = true) (u : ∀ i, i < k → p i = false) : fi p n = k := by
  have h1 := fi_le p n
  rcases Nat.lt_trichotomy (fi p n) k with q | q | q
  · have a := fi_yes (p := p) (n := n) (by omega)
    rw [u _ q] at a; cases a
  · exact q
  · have a := fi_no (p := p) (n := n) (k := k) q
    rw [h] at a; cases a
/-- the first of a row that stands at a joint -/
theorem mk_l {σ : ZI} {b M j : Nat} {mj : Nat → Nat} (h0 : ar b = (11, 0)) (h1 : ar (b + 1) = (1, 13)) (h5 : ar (b + 5) = (1, 3)) (hM : M ≤ 3) (hj : j < 2 ^ 31) (e1 : σ (b + 1) 2 = nI M) (e2 : ∀ m, m < M → mj m < 2 ^ 31 ∧ σ (b + 5) m = nI (mj m)) : ∀ (d i fu : Nat), i + d = M → d < fu → (∀ k, k < i → (mj k == j) = false) → f_X6_markAt_2 σ b (nI j) fu (nI i) = some (if fi (fun m => mj m == j) M < M then nI (fi (fun m => mj m == j) M) else -4) := by
  intro d
  induction d with
  | zero =>
    intro i fu h3 h4 h6
    obtain ⟨fu, rfl⟩ : ∃ m, fu = m + 1 := ⟨fu - 1, by omega⟩
    obtain rfl : i = M := by omega
    have e := fi_out (p := fun m => mj m == j) (n := i) h6
    rw [f_X6_markAt_2, show (2 : Int32) = nI 2 from rfl, val_n h0 h1 (by omega), bso, e1, if_pos (Int32.le_refl _), if_neg (by rw [e]; omega)]
  | succ d ih =>
    intro i fu h3 h4 h6
    obtain ⟨fu, rfl⟩ : ∃ m, fu = m + 1 := ⟨fu - 1, by omega⟩
    obtain ⟨m1, m2⟩ := e2 i (by omega)
    rw [f_X6_markAt_2, show (2 : Int32) = nI 2 from rfl, val_n h0 h1 (by omega), bso, e1, if_neg (nI_ge (by omega) (by omega)), at_n (N := 3) h5 (by omega) (by omega), bso, m2]
    by_cases q : mj i = j
    · have e := fi_first (p := fun m => mj m == j) (n := M) (k := i) (by omega) (by simp [q]) h6
      rw [if_pos (by rw [q]), e, if_pos (by omega)]
    · rw [if_neg (fun z => q (nI_inj m1 hj z)), nI_1]
      refine ih (i + 1) fu (by omega) (by omega) fun k hk => ?_
      by_cases hk2 : k = i
      · subst hk2; simp [q]
      · exact h6 k (by omega)
theorem mk_n {σ : ZI} {b M j : Nat} {mj : Nat → Nat} (h0 : ar b = (11, 0)) (h1 : ar (b + 1) = (1, 13)) (h5 : ar (b + 5) = (1, 3)) (hM : M ≤ 3) (hj : j < 2 ^ 31) (e1 : σ (b + 1) 2 = nI M) (e2 : ∀ m, m < M → mj m < 2 ^ 31 ∧ σ (b + 5) m = nI (mj m)) : f_X6_markAt σ b (nI j) = some (if fi (fun m => mj m == j) M < M then nI (fi (fun m => mj m == j) M) else -4) := by
  unfold f_X6_markAt
  rw [h0, if_pos rfl]
  exact mk_l h0 h1 h5 hM hj e1 e2 M 0 3000 (by omega) (by omega) (fun k hk => absurd hk (Nat.not_lt_zero _))
theorem am_l {σ : ZI} {b M j : Nat} {mj : Nat → Nat} (h0 : ar b = (11, 0)) (h1 : ar (b + 1) = (1, 13)) (h5 : ar (b + 3) = (1, 3)) (hM : M ≤ 3) (hj : j < 2 ^ 31) (e1 : σ (b + 1) 1 = nI M) (e2 : ∀ m, m < M → mj m < 2 ^ 31 ∧ σ (b + 3) m = nI (mj m)) : ∀ (d i fu : Nat), i + d = M → d < fu → (∀ k, k < i → (mj k == j) = false) → f_X6_armAt_2 σ b (nI j) fu (nI i) = some (if fi (fun m => mj m == j) M < M then nI (fi (fun m => mj m == j) M) else -4) := by
  intro d
  induction d with
  | zero =>
    intro i fu h3 h4 h6
    obtain ⟨fu, rfl⟩ : ∃ m, fu = m + 1 := ⟨fu - 1, by omega⟩
    obtain rfl : i = M := by omega
    have e := fi_out (p := fun m => mj m == j) (n := i) h6
    rw [f_X6_armAt_2, show (1 : Int32) = nI 1 from rfl, val_n h0 h1 (by omega), bso, e1, if_pos (Int32.le_refl _), if_neg (by rw [e]; omega)]
  | succ d ih =>
    intro i fu h3 h4 h6
    obtain ⟨fu, rfl⟩ : ∃ m, fu = m + 1 := ⟨fu - 1, by omega⟩
    obtain ⟨m1, m2⟩ := e2 i (by omega)
    rw [f_X6_armAt_2, show f_X6_value σ b 1 = _ from val_n (k := 1) h0 h1 (by omega), bso, e1, if_neg (nI_ge (by omega) (by omega)), at_n (N := 3) h5 (by omega) (by omega), bso, m2]
    by_cases q : mj i = j
    · have e := fi_first (p := fun m => mj m == j) (n := M) (k := i) (by omega) (by simp [q]) h6
      rw [if_pos (by rw [q]), e, if_pos (by omega)]
    · rw [if_neg (fun z => q (nI_inj m1 hj z)), nI_1]
      refine ih (i + 1) fu (by omega) (by omega) fun k hk => ?_
      by_cases hk2 : k = i
      · subst hk2; simp [q]
      · exact h6 k (by omega)
theorem am_n {σ : ZI} {b M j : Nat} {mj : Nat → Nat} (h0 : ar b = (11, 0)) (h1 : ar (b + 1) = (1, 13)) (h5 : ar (b + 3) = (1, 3)) (hM : M ≤ 3) (hj : j < 2 ^ 31) (e1 : σ (b + 1) 1 = nI M) (e2 : ∀ m, m < M → mj m < 2 ^ 31 ∧ σ (b + 3) m = nI (mj m)) : f_X6_armAt σ b (nI j) = some (if fi (fun m => mj m == j) M < M then nI (fi (fun m => mj m == j) M) else -4) := by
  unfold f_X6_armAt
  rw [h0, if_pos rfl]
  exact am_l h0 h1 h5 hM hj e1 e2 M 0 3000 (by omega) (by omega) (fun k hk => absurd hk (Nat.not_lt_zero _))
/-- the count behind joint j + 1 -/
def cb (t : NN) (x n j c : Nat) : Nat := if nt (t 4) (t 0 2) n j then j + 1 else if x.testBit j then c else c + 1
/-- what the class has of the marks and arms -/
def T7 (t : NN) (σ : ZI) : Prop := TK t ∧ TV 1 t σ
theorem cb7 {t : NN} {σ : ZI} (q : T7 t σ) {x n j c : Nat} (hj : j < 10) (hx : x < 2 ^ 31) (hn : n < 2 ^ 31) : f_X6_countBehind σ 1 (nI (j + 1)) (nI c) (nI x) (nI n) = some (nI (cb t x n j c)) := by
  obtain ⟨kk, tv⟩ := q
  have k1 := kk.1
  have k4 := kk.2.2.2.1
  unfold f_X6_countBehind f_X6_countBehind_27
  rw [if_pos (by decide), mk_n (b := 1) (M := t 0 2) (j := j + 1) (mj := t 4) rfl rfl rfl (by omega) (by omega) (tv.1 2 (by omega)) (fun m hm => ⟨by have := k4 m hm; omega, (tv.2.2.1 m hm).1⟩), bso]
  unfold cb nt ma
  have e := fi_le (fun m => t 4 m == j + 1) (t 0 2)
  by_cases h : fi (fun m => t 4 m == j + 1) (t 0 2) < t 0 2
  · rw [if_pos h, if_neg (nI_nm4 (by omega))]
    by_cases h2 : n.testBit (fi (fun m => t 4 m == j + 1) (t 0 2)) = true
    · rw [if_pos ((bt1 (by omega) hn).mpr h2), if_pos (by simp [h, h2])]
    · rw [if_neg (fun z => h2 ((bt1 (by omega) hn).mp z)), nI_pred, if_neg (show ¬ (decide _ && _) = true by simp [h2])]
      by_cases h3 : x.testBit j = true
      · rw [if_pos ((bt1 (by omega) hx).mpr h3), if_pos h3]
      · rw [if_neg (fun z => h3 ((bt1 (by omega) hx).mp z)), if_neg h3, nI_1]
  · rw [if_neg h, if_pos rfl, nI_pred, if_neg (show ¬ (decide _ && _) = true by simp [h])]
    by_cases h3 : x.testBit j = true
    · rw [if_pos ((bt1 (by omega) hx).mpr h3), if_pos h3]
    · rw [if_neg (fun z => h3 ((bt1 (by omega) hx).mp z)), if_neg h3, nI_1]
theorem upd2 (f : Nat → Int32) (i : Nat) (x y : Int32) : upd (upd f i x) i y = upd f i y := by
  funext k
  unfold upd
  by_cases h : k = i <;> simp [h]
theorem upd_id (f : Nat → Int32) (i : Nat) : upd f i (f i) = f := by
  funext k
  unfold upd
  by_cases h : k = i <;> simp [h]
/-- what the reference has of the marks -/
def M8 (t : NN) (σ : ZI) : Prop := TK t ∧ σ 60 5 = nI (t 0 2) ∧ ∀ i, i < t 0 2 → σ 63 i = nI (t 4 i)
def s33 (σ : ZI) (v : Int32) : ZI := va_up σ 60 (upd (σ 60) 33 v)
theorem s33_s33 (σ : ZI) (v w : Int32) : va_up (s33 σ v) 60 (upd ((s33 σ v) 60) 33 w) = s33 σ w := by
  unfold s33
  rw [bx_uu]
  show va_up σ 60 (upd (upd (σ 60) 33 v) 33 w) = _
  rw [upd2]
theorem s33_id (σ : ZI) : s33 σ (σ 60 33) = σ := by
  unfold s33
  rw [upd_id, up_id]
theorem cd_l {t : NN} {σ : ZI} (q : M8 t σ) {x n j : Nat} (hj : j < 10) (hn : n < 2 ^ 31) : ∀ (d m fu : Nat) (v : Int32), m + d = t 0 2 → d < fu → f_X8_counted_28 (nI x) (nI n) (nI (j + 1)) fu (s33 σ v) (nI m) = some (s33 σ (if m ≤ ma (t 4) (t 0 2) j ∧ nt (t 4) (t 0 2) n j = true then nI (j + 1) else v)) := by
  obtain ⟨kk, e5, e63⟩ := q
  have k1 := kk.1
  have k4 := kk.2.2.2.1
  intro d
  induction d with
  | zero =>
    intro m fu v h3 h4
    obtain ⟨fu, rfl⟩ : ∃ m, fu = m + 1 := ⟨fu - 1, by omega⟩
    obtain rfl : m = t 0 2 := by omega
    rw [f_X8_counted_28, show (s33 σ v) 60 5 = _ from e5, if_pos (Int32.le_refl _), if_neg]
    rintro ⟨a, b⟩
    unfold nt at b
    simp at b
    omega
  | succ d ih =>
    intro m fu v h3 h4
    obtain ⟨fu, rfl⟩ : ∃ m, fu = m + 1 := ⟨fu - 1, by omega⟩
    have km := k4 m (by omega)
    rw [f_X8_counted_28, show (s33 σ v) 60 5 = _ from e5, if_neg (nI_ge (by omega) (by omega)), inB_n (by omega) (by omega), if_pos rfl, nI_clamp (by omega), show (s33 σ v) 63 m = _ from e63 m (by omega)]
    unfold f_X8_counted_63 f_X8_counted_67
    rw [nI_1, ltq, ltq, s33_s33, s33_s33, show (s33 σ v) 60 33 = v from (show upd (σ 60) 33 v 33 = v from pk_us)]
    dsimp only
    rw [ih (m + 1) fu _ (by omega) (by omega), ih (m + 1) fu _ (by omega) (by omega)]
    by_cases hm : t 4 m = j + 1
    · have e : ma (t 4) (t 0 2) j = m := by
        have := ma_is (mj := t 4) (M := t 0 2) (m := m) (by omega) km.1 kk.2.2.2.2.1
        rw [hm] at this
        exact this
      rw [if_pos (by rw [hm]), e]
      have en : nt (t 4) (t 0 2) n j = n.testBit m := by unfold nt; rw [e]; simp; omega
      rw [en]
      by_cases hb : n.testBit m = true
      · rw [if_pos ((bt1 (by omega) hn).mpr hb), if_neg (by omega), if_pos ⟨Nat.le_refl _, hb⟩]
      · rw [if_neg (fun z => hb ((bt1 (by omega) hn).mp z)), if_neg (by omega), if_neg (fun z => hb z.2)]
    · rw [if_neg (fun z => hm (nI_inj (by omega) (by omega) z))]
      have e : nt (t 4) (t 0 2) n j = true → ma (t 4) (t 0 2) j ≠ m := by
        intro h he
        unfold nt at h
        simp at h
        have := fi_yes (p := fun m => t 4 m == j + 1) (n := t 0 2) h.1
        rw [show fi (fun m => t 4 m == j + 1) (t 0 2) = m from he] at this
        simp at this
        exact hm this
      by_cases h : m + 1 ≤ ma (t 4) (t 0 2) j ∧ nt (t 4) (t 0 2) n j = true
      · rw [if_pos h, if_pos ⟨by omega, h.2⟩]
      · rw [if_neg h, if_neg]
        rintro ⟨a, b⟩
        have := e b
        exact h ⟨by omega, b⟩
theorem cd8 {t : NN} {σ : ZI} (q : M8 t σ) {x n j c : Nat} (hj : j < 10) (hx : x < 2 ^ 31) (hn : n < 2 ^ 31) (hc : σ 60 33 = nI c) : f_X8_counted σ (nI x) (nI n) (nI (j + 1)) = some (s33 σ (nI (cb t x n j c))) := by
  have e : ∀ v, f_X8_counted_28 (nI x) (nI n) (nI (j + 1)) 3000 (s33 σ v) 0 = some (s33 σ (if nt (t 4) (t 0 2) n j = true then nI (j + 1) else v)) := by
    intro v
    have := q.1.1
    rw [show f_X8_counted_28 (nI x) (nI n) (nI (j + 1)) 3000 (s33 σ v) 0 = _ from cd_l q (x := x) hj hn (t 0 2) 0 3000 v (by omega) (by omega)]
    simp
  unfold f_X8_counted f_X8_counted_21
  rw [nI_pred, hc, ltq, ltq, show va_up σ 60 (upd (σ 60) 33 (nI c + 0)) = s33 σ (nI c + 0) from rfl, show va_up σ 60 (upd (σ 60) 33 (nI c + 1)) = s33 σ (nI c + 1) from rfl, e, e, nI_1, Int32.add_zero]
  unfold cb
  by_cases h2 : nt (t 4) (t 0 2) n j = true
  · rw [if_pos h2, if_pos h2, if_pos h2]
    split <;> rfl
  · rw [if_neg h2, if_neg h2, if_neg h2]
    by_cases h3 : x.testBit j = true
    · rw [if_pos ((bt1 (by omega) hx).mpr h3), if_pos h3]
    · rw [if_neg (fun z => h3 ((bt1 (by omega) hx).mp z)), if_neg h3]
