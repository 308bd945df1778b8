/-! names, on both sides *-/
def bytN : List (List Nat) := [[106, 111, 105, 110, 116, 115], [97, 114, 109], [109, 97, 114, 107], [116, 111, 119, 110], [115, 105, 103, 110, 97, 108], [98, 114, 105, 100, 103, 101], [115, 108, 105, 112], [112, 97, 99, 101], [110, 101, 116], [99, 111, 115, 116], [104, 97, 110, 100, 115], [116, 114, 117, 101], [108, 105, 103, 104, 116], [104, 101, 97, 118, 121], [100, 111, 117, 98, 108, 101], [108, 111, 119]]
def lt__ (k i : Nat) : Nat := (bytN.getD k []).getD i 0
def ln_ (k : Nat) : Nat := lenJS.getD k 0
def NM (n : Nat) (b : Nat → Nat) (p k : Nat) : Prop := kk_ n b p = 1 ∧ en n b p - hd n b p = ln_ k ∧ ∀ i, i < ln_ k → b (hd n b p + i) = lt__ k i
theorem ln_b : ∀ k, k < 16 → 3 ≤ ln_ k ∧ ln_ k ≤ 6 := by decide +kernel
theorem lt_b : ∀ k, k < 16 → ∀ i, i < ln_ k → lt__ k i < 128 := by decide +kernel
theorem nm_d : ∀ k, k < 16 → ∀ k', k' < 16 → ln_ k = ln_ k' → (∀ i, i < ln_ k → lt__ k i = lt__ k' i) → k = k' := by decide +kernel
theorem NM_u {n : Nat} {b : Nat → Nat} {p k k' : Nat} (hk : k < 16) (hk' : k' < 16) (h : NM n b p k) (h' : NM n b p k') : k = k' := by
  obtain ⟨-, a, c⟩ := h
  obtain ⟨-, a', c'⟩ := h'
  refine nm_d k hk k' hk' (a.symm.trans a') fun i hi => ?_
  rw [← c i hi, ← c' i (by omega)]
theorem ch_n : ∀ k, k < 16 → ∀ i, i < ln_ k → f_J0_charAt_5068e k (nI i) = some (nI (lt__ k i)) := by decide +kernel
theorem le_n : ∀ k, k < 16 → f_J0_length_8abf5 k = some (nI (ln_ k)) := by decide +kernel
def At7 (n : Nat) (b : Nat → Nat) (p : Nat) (σ : ZI) : Prop := Tp7 n b σ ∧ σ 37 2 = nI (en n b p) ∧ σ 37 3 = nI (kk_ n b p) ∧ σ 37 4 = nI (hd n b p)
theorem by7' {n : Nat} {b : Nat → Nat} {σ : ZI} (h : Tp7 n b σ) {i : Nat} (hi : i < n) : f_X5_byteAt σ (nI i) = some (nI (b i)) := by
  have := by7_n h hi (σ 37 2) (σ 37 3) (σ 37 4)
  rw [t37_id] at this
  exact this
theorem isn_l {n : Nat} {b : Nat → Nat} {p : Nat} {σ : ZI} (h : At7 n b p σ) (hp : p ≤ n) {k : Nat} (hk : k < 16) (hl : en n b p - hd n b p = ln_ k) : ∀ (d i fu : Nat), i + d = ln_ k → d < fu → (∀ j, j < i → b (hd n b p + j) = lt__ k j) → ((∀ j, j < ln_ k → b (hd n b p + j) = lt__ k j) → f_X5_isName_28 σ k fu (nI i) = some 1) ∧ (¬ (∀ j, j < ln_ k → b (hd n b p + j) = lt__ k j) → f_X5_isName_28 σ k fu (nI i) = some 0) := by
  have lb := ln_b k hk
  have he := en_ge n b hp
  have n160 := h.1.1
  intro d
  induction d with
  | zero =>
    intro i fu h1 h2 h3
    obtain ⟨fu, rfl⟩ : ∃ m, fu = m + 1 := ⟨fu - 1, by omega⟩
    have e : i = ln_ k := by omega
    rw [f_X5_isName_28, le_n k hk, bso, e, if_pos (Int32.le_refl _)]
    rw [e] at h3
    exact ⟨fun _ => rfl, fun w => absurd h3 w⟩
  | succ d ih =>
    intro i fu h1 h2 h3
    obtain ⟨fu, rfl⟩ : ∃ m, fu = m + 1 := ⟨fu - 1, by omega⟩
    have tb := lt_b k hk i (by omega)
    have bb := (h.1.2.2 (hd n b p + i) (by omega)).1
    rw [f_X5_isName_28, le_n k hk, bso, if_neg (nI_ge (by omega) (by omega)), h.2.2.2, nI_add, by7' h.1 (by omega), bso, ch_n k hk i (by omega), bso, nI_1]
    by_cases z : b (hd n b p + i) = lt__ k i
    · rw [if_pos (by rw [z])]
      exact ih (i + 1) fu (by omega) (by omega) fun j hj => by
        by_cases w : j = i
        · rw [w]; exact z
        · exact h3 j (by omega)
    · rw [if_neg (fun w => z (nI_inj (by omega) (by omega) w))]
      exact ⟨fun w => absurd (w i (by omega)) z, fun _ => rfl⟩
theorem isn7 {n : Nat} {b : Nat → Nat} {p : Nat} {σ : ZI} (h : At7 n b p σ) (hp : p ≤ n) {k : Nat} (hk : k < 16) : (NM n b p k → f_X5_isName σ k = some 1) ∧ (¬ NM n b p k → f_X5_isName σ k = some 0) := by
  have lb := ln_b k hk
  have he := en_ge n b hp
  have n160 := h.1.1
  have kb := kk_le n b p
  unfold f_X5_isName
  rw [if_pos hk, h.2.2.1, le_n k hk, bso, h.2.1, h.2.2.2, pk_sub he.1]
  by_cases z : kk_ n b p = 1
  · rw [if_pos (by rw [z]; rfl)]
    by_cases w : en n b p - hd n b p = ln_ k
    · rw [if_pos (by rw [w])]
      have := isn_l h hp hk w (ln_ k) 0 3000 (by omega) (by omega) (fun j hj => absurd hj (Nat.not_lt_zero _))
      exact ⟨fun q => this.1 q.2.2, fun q => this.2 fun r => q ⟨z, w, r⟩⟩
    · rw [if_neg (fun q => w (nI_inj (by omega) (by omega) q))]
      exact ⟨fun q => absurd q.2.1 w, fun _ => rfl⟩
  · rw [if_neg (show ¬ nI (kk_ n b p) = 1 from fun q => z (nI_inj (b := 1) (by omega) (by omega) q))]
    exact ⟨fun q => absurd q.1 z, fun _ => rfl⟩
theorem isn_k {n : Nat} {b : Nat → Nat} {p : Nat} {σ : ZI} (h : At7 n b p σ) (hp : p ≤ n) {k : Nat} (hk : k < 16) (hm : NM n b p k) : ∀ j, j < 16 → f_X5_isName σ j = some (if j = k then 1 else 0) := fun j hj => by
  by_cases z : j = k
  · subst z; rw [if_pos rfl]; exact (isn7 h hp hj).1 hm
  · rw [if_neg z]; exact (isn7 h hp hj).2 fun w => z (NM_u hj hk w hm)
theorem isn_0 {n : Nat} {b : Nat → Nat} {p : Nat} {σ : ZI} (h : At7 n b p σ) (hp : p ≤ n) (hm : ∀ k, k < 16 → ¬ NM n b p k) : ∀ j, j < 16 → f_X5_isName σ j = some 0 := fun j hj => (isn7 h hp hj).2 (hm j hj)
/-- of the class's names: the line, the kind; of the reference's -/
def liL : List Nat := [0, 1, 2, 3, 4, 5, 6, 7, 8, 10, 12]
def c2r : List Nat := [0, 7, 8, 9, 10, 1, 2, 3, 4, 5, 6, 11, 12, 13, 14, 15]
def r2c : List Nat := [0, 5, 6, 7, 8, 9, 10, 1, 2, 3, 4, 11, 12, 13, 14, 15]
theorem lin7 {n : Nat} {b : Nat → Nat} {p : Nat} {σ : ZI} (h : At7 n b p σ) (hp : p ≤ n) : (∀ k, k < 11 → NM n b p k → f_X2_lineNamed σ = some (nI (liL.getD k 0))) ∧ ((∀ k, k < 11 → ¬ NM n b p k) → f_X2_lineNamed σ = some (-4)) := by
  constructor
  · intro k hk hm
    have e := isn_k h hp (show k < 16 by omega) hm
    unfold f_X2_lineNamed
    rw [e 0 (by omega), e 1 (by omega), e 2 (by omega), e 3 (by omega), e 4 (by omega), e 5 (by omega), e 6 (by omega), e 7 (by omega), e 8 (by omega), e 9 (by omega), e 10 (by omega)]
    clear e hm
    have : k = 0 ∨ k = 1 ∨ k = 2 ∨ k = 3 ∨ k = 4 ∨ k = 5 ∨ k = 6 ∨ k = 7 ∨ k = 8 ∨ k = 9 ∨ k = 10 := by omega
    rcases this with rfl | rfl | rfl | rfl | rfl | rfl | rfl | rfl | rfl | rfl | rfl <;> rfl
  · intro hm
    have e : ∀ j, j < 11 → f_X5_isName σ j = some 0 := fun j hj => (isn7 h hp (show j < 16 by omega)).2 (hm j hj)
    unfold f_X2_lineNamed
    rw [e 0 (by omega), e 1 (by omega), e 2 (by omega), e 3 (by omega), e 4 (by omega), e 5 (by omega), e 6 (by omega), e 7 (by omega), e 8 (by omega), e 9 (by omega), e 10 (by omega)]
    rfl
theorem kin7 {n : Nat} {b : Nat → Nat} {p : Nat} {σ : ZI} (h : At7 n b p σ) (hp : p ≤ n) : (∀ k, 11 ≤ k → k < 16 → NM n b p k → f_X2_kindNamed σ = some (nI (k - 11))) ∧ ((∀ k, 11 ≤ k → k < 16 → ¬ NM n b p k) → f_X2_kindNamed σ = some (-4)) := by
  constructor
  · intro k hk1 hk hm
    have e := isn_k h hp hk hm
    unfold f_X2_kindNamed
    rw [e 11 (by omega), e 12 (by omega), e 13 (by omega), e 14 (by omega), e 15 (by omega)]
    clear e hm
    have : k = 11 ∨ k = 12 ∨ k = 13 ∨ k = 14 ∨ k = 15 := by omega
    rcases this with rfl | rfl | rfl | rfl | rfl <;> rfl
  · intro hm
    have e : ∀ j, 11 ≤ j → j < 16 → f_X5_isName σ j = some 0 := fun j h1 hj => (isn7 h hp hj).2 (hm j h1 hj)
    unfold f_X2_kindNamed
    rw [e 11 (by omega) (by omega), e 12 (by omega) (by omega), e 13 (by omega) (by omega), e 14 (by omega) (by omega), e 15 (by omega) (by omega)]
    rfl
/-- the reference's names -/
def rc (m : Nat) : Nat := r2c.getD m 0
def cr (k : Nat) : Nat := c2r.getD k 0
theorem rc_b : ∀ m, m < 16 → rc m < 16 ∧ cr (rc m) = m ∧ cutL.getD (m + 1) 0 = cutL.getD m 0 + ln_ (rc m) ∧ cutL.getD (m + 1) 0 ≤ 72 ∧ ∀ i, i < ln_ (rc m) → letL.getD (cutL.getD m 0 + i) 0 = lt__ (rc m) i := by decide +kernel
theorem cr_b : ∀ k, k < 16 → cr k < 16 ∧ rc (cr k) = k := by decide +kernel
theorem nh_in {n : Nat} {b : Nat → Nat} {p : Nat} {σ : ZI} (h : Tp8 n b σ) (K : InvK σ) (hp : p ≤ n) (e27 : σ 60 27 = nI (en n b p)) (e28 : σ 60 28 = nI (hd n b p)) {m : Nat} (hm : m < 16) (k2 : Int32 → Option Int32) (hl : en n b p - hd n b p = ln_ (rc m)) : ∀ (d i fu : Nat), i + d = ln_ (rc m) → d + 1 < fu → (∀ j, j < i → b (hd n b p + j) = lt__ (rc m) j) → ((∀ j, j < ln_ (rc m) → b (hd n b p + j) = lt__ (rc m) j) → f_X8_nameHere_51 σ k2 fu (nI m) 1 (nI i) = some (nI m)) ∧ (¬ (∀ j, j < ln_ (rc m) → b (hd n b p + j) = lt__ (rc m) j) → f_X8_nameHere_51 σ k2 fu (nI m) 1 (nI i) = k2 (nI (m + 1))) := by
  obtain ⟨r1, r2, r3, r4, r5⟩ := rc_b m hm
  have lb := ln_b _ r1
  have he := en_ge n b hp
  have n160 := h.1
  intro d
  induction d with
  | zero =>
    intro i fu h1 h2 h3
    obtain ⟨fu, rfl⟩ : ∃ m, fu = m + 1 := ⟨fu - 1, by omega⟩
    have e : i = ln_ (rc m) := by omega
    rw [f_X8_nameHere_51, if_neg (by decide), e27, e28, pk_sub he.1, hl, e, if_pos (Int32.le_refl _)]
    unfold f_X8_nameHere_106
    rw [e] at h3
    exact ⟨fun _ => by rw [if_neg (by decide)], fun w => absurd h3 w⟩
  | succ d ih =>
    intro i fu h1 h2 h3
    obtain ⟨fu, rfl⟩ : ∃ m, fu = m + 1 := ⟨fu - 1, by omega⟩
    have tb := lt_b _ r1 i (by omega)
    have bb := (h.2.2 (hd n b p + i) (by omega)).1
    have eb := by8_n h (i := hd n b p + i) (by omega)
    rw [if_pos (by omega)] at eb
    rw [f_X8_nameHere_51, if_neg (by decide), e27, e28, pk_sub he.1, hl, if_neg (nI_ge (by omega) (by omega)), nI_add, eb, bso, inB_n (by omega) (by omega), if_pos rfl, nI_clamp (by omega), K.1 m (by omega), nI_add, inB_n (by omega) (by omega), if_pos rfl, nI_clamp (by omega), K.2 _ (by omega), r5 i (by omega)]
    unfold f_X8_nameHere_99
    rw [nI_1]
    dsimp only
    by_cases z : b (hd n b p + i) = lt__ (rc m) i
    · rw [if_pos (by rw [z])]
      exact ih (i + 1) fu (by omega) (by omega) fun j hj => by
        by_cases w : j = i
        · rw [w]; exact z
        · exact h3 j (by omega)
    · rw [if_neg (fun w => z (nI_inj (by omega) (by omega) w))]
      obtain ⟨fu, rfl⟩ : ∃ m, fu = m + 1 := ⟨fu - 1, by omega⟩
      refine ⟨fun w => absurd (w i (by omega)) z, fun _ => ?_⟩
      rw [f_X8_nameHere_51, if_pos rfl]
      unfold f_X8_nameHere_106
      rw [if_pos rfl, nI_1]
theorem nh_l {n : Nat} {b : Nat → Nat} {p : Nat} {σ : ZI} (h : Tp8 n b σ) (K : InvK σ) (hp : p ≤ n) (e27 : σ 60 27 = nI (en n b p)) (e28 : σ 60 28 = nI (hd n b p)) (e29 : σ 60 29 = nI (tk_ (kk_ n b p))) (hk : kk_ n b p ≠ 0) : ∀ (d m fu : Nat), m + d = 16 → d < fu → (∀ ms, m ≤ ms → ms < 16 → NM n b p (rc ms) → f_X8_nameHere_2 σ fu (nI m) = some (nI ms)) ∧ ((∀ ms, m ≤ ms → ms < 16 → ¬ NM n b p (rc ms)) → f_X8_nameHere_2 σ fu (nI m) = some (-4)) := by
  have he := en_ge n b hp
  have n160 := h.1
  have kb := kk_le n b p
  intro d
  induction d with
  | zero =>
    intro m fu h1 h2
    obtain ⟨fu, rfl⟩ : ∃ m, fu = m + 1 := ⟨fu - 1, by omega⟩
    obtain rfl : m = 16 := by omega
    exact ⟨fun ms a c => by omega, fun _ => by rw [f_X8_nameHere_2, if_pos (by decide)]⟩
  | succ d ih =>
    intro m fu h1 h2
    obtain ⟨fu, rfl⟩ : ∃ m, fu = m + 1 := ⟨fu - 1, by omega⟩
    obtain ⟨r1, r2, r3, r4, r5⟩ := rc_b m (by omega)
    have lb := ln_b _ r1
    obtain ⟨i1, i2⟩ := ih (m + 1) fu (by omega) (by omega)
    by_cases z : kk_ n b p = 1
    · have body : f_X8_nameHere_2 σ (fu + 1) (nI m) = if en n b p - hd n b p = ln_ (rc m) then f_X8_nameHere_51 σ (fun v1 => f_X8_nameHere_2 σ fu v1) 3000 (nI m) 1 0 else f_X8_nameHere_2 σ fu (nI (m + 1)) := by
        rw [f_X8_nameHere_2, if_neg (show ¬ (16 : Int32) ≤ nI m from nI_ge (b := 16) (by omega) (by omega)), e29, if_pos (by rw [z]; rfl), nI_1, inB_n (by omega) (by omega), if_pos rfl, inB_n (by omega) (by omega), if_pos rfl, e27, e28, pk_sub he.1, nI_clamp (by omega), nI_clamp (by omega), K.1 (m + 1) (by omega), K.1 m (by omega), pk_sub (by omega), show cutL.getD (m + 1) 0 - cutL.getD m 0 = ln_ (rc m) by omega]
        unfold f_X8_nameHere_48
        by_cases w : en n b p - hd n b p = ln_ (rc m)
        · rw [if_pos (by rw [w]), if_pos w]
        · rw [if_neg (fun q => w (nI_inj (by omega) (by omega) q)), if_neg w, show f_X8_nameHere_51 σ (fun v1 => f_X8_nameHere_2 σ fu v1) 3000 (nI m) 0 0 = f_X8_nameHere_106 σ (fun v1 => f_X8_nameHere_2 σ fu v1) (nI m) 0 from by rw [f_X8_nameHere_51, if_pos rfl]]
          unfold f_X8_nameHere_106
          rw [if_pos rfl, nI_1]
      rw [body]
      by_cases w : en n b p - hd n b p = ln_ (rc m)
      · rw [if_pos w]
        obtain ⟨j1, j2⟩ := nh_in h K hp e27 e28 (show m < 16 by omega) (fun v1 => f_X8_nameHere_2 σ fu v1) w (ln_ (rc m)) 0 3000 (by omega) (by omega) (fun j hj => absurd hj (Nat.not_lt_zero _))
        by_cases y : ∀ j, j < ln_ (rc m) → b (hd n b p + j) = lt__ (rc m) j
        · have nm : NM n b p (rc m) := ⟨z, w, y⟩
          refine ⟨fun ms a c q => ?_, fun q => absurd nm (q m (Nat.le_refl _) (by omega))⟩
          have e := NM_u r1 (rc_b ms c).1 nm q
          have : m = ms := by rw [← r2, e, (rc_b ms c).2.1]
          subst this
          exact j1 y
        · rw [show f_X8_nameHere_51 σ (fun v1 => f_X8_nameHere_2 σ fu v1) 3000 (nI m) 1 0 = _ from j2 y]
          refine ⟨fun ms a c q => ?_, fun q => i2 fun ms a c => q ms (by omega) c⟩
          by_cases e : ms = m
          · subst e; exact absurd q.2.2 y
          · exact i1 ms (by omega) c q
      · rw [if_neg w]
        refine ⟨fun ms a c q => ?_, fun q => i2 fun ms a c => q ms (by omega) c⟩
        by_cases e : ms = m
        · subst e; exact absurd q.2.1 w
        · exact i1 ms (by omega) c q
    · have t1 : ¬ nI (tk_ (kk_ n b p)) = 1 := by
        intro q
        have := nI_inj (b := 1) (by unfold tk_; split <;> omega) (by omega) q
        unfold tk_ at this
        split at this <;> omega
      refine ⟨fun ms a c q => absurd q.1 z, fun _ => ?_⟩
      rw [f_X8_nameHere_2, if_neg (show ¬ (16 : Int32) ≤ nI m from nI_ge (b := 16) (by omega) (by omega)), e29, if_neg t1]
theorem nh8 {n : Nat} {b : Nat → Nat} {p : Nat} {σ : ZI} (h : Tp8 n b σ) (K : InvK σ) (hp : p ≤ n) (r : RY n b p σ) (hk : kk_ n b p ≠ 0) : (∀ k, k < 16 → NM n b p k → f_X8_nameHere σ = some (nI (cr k))) ∧ ((∀ k, k < 16 → ¬ NM n b p k) → f_X8_nameHere σ = some (-4)) := by
  obtain ⟨y1, y2, y3, y4, -⟩ := r.2 hk
  obtain ⟨i1, i2⟩ := nh_l h K hp y3 y2 y4 hk 16 0 3000 (by omega) (by omega)
  refine ⟨fun k hk' q => ?_, fun q => i2 fun ms _ c => q _ (rc_b ms c).1⟩
  obtain ⟨a, c⟩ := cr_b k hk'
  exact i1 (cr k) (by omega) a (by rw [c]; exact q)
