/-! a night on the reference's side -/
def qf (g : Nat → Int32) (c o i m h to p : Int32) : Nat → Int32 := fun k => if k = 33 then c else if k = 34 then o else if k = 35 then i else if k = 36 then m else if k = 37 then h else if k = 38 then to else if k = 39 then p else g k
def N8 (σ : ZI) (c o i m h to p : Int32) : ZI := va_up σ 60 (qf (σ 60) c o i m h to p)
theorem k7 (k : Nat) : k = 33 ∨ k = 34 ∨ k = 35 ∨ k = 36 ∨ k = 37 ∨ k = 38 ∨ k = 39 ∨ (k ≠ 33 ∧ k ≠ 34 ∧ k ≠ 35 ∧ k ≠ 36 ∧ k ≠ 37 ∧ k ≠ 38 ∧ k ≠ 39) := by omega
section NU
variable (σ : ZI) (c o i m h to p v : Int32)
theorem n8_33 : s33 (N8 σ c o i m h to p) v = N8 σ v o i m h to p := by
  unfold N8 s33; rw [bx_uu]; congr 1; funext k
  rcases k7 k with rfl | rfl | rfl | rfl | rfl | rfl | rfl | ⟨a, b, c, d, e, f, g⟩ <;> first | rfl | simp [upd, va_up, qf, a, b, c, d, e, f, g]
theorem n8_34 : va_up (N8 σ c o i m h to p) 60 (upd ((N8 σ c o i m h to p) 60) 34 v) = N8 σ c v i m h to p := by
  unfold N8; rw [bx_uu]; congr 1; funext k
  rcases k7 k with rfl | rfl | rfl | rfl | rfl | rfl | rfl | ⟨a, b, c, d, e, f, g⟩ <;> first | rfl | simp [upd, va_up, qf, a, b, c, d, e, f, g]
theorem n8_35 : va_up (N8 σ c o i m h to p) 60 (upd ((N8 σ c o i m h to p) 60) 35 v) = N8 σ c o v m h to p := by
  unfold N8; rw [bx_uu]; congr 1; funext k
  rcases k7 k with rfl | rfl | rfl | rfl | rfl | rfl | rfl | ⟨a, b, c, d, e, f, g⟩ <;> first | rfl | simp [upd, va_up, qf, a, b, c, d, e, f, g]
theorem n8_36 : va_up (N8 σ c o i m h to p) 60 (upd ((N8 σ c o i m h to p) 60) 36 v) = N8 σ c o i v h to p := by
  unfold N8; rw [bx_uu]; congr 1; funext k
  rcases k7 k with rfl | rfl | rfl | rfl | rfl | rfl | rfl | ⟨a, b, c, d, e, f, g⟩ <;> first | rfl | simp [upd, va_up, qf, a, b, c, d, e, f, g]
theorem n8_37 : va_up (N8 σ c o i m h to p) 60 (upd ((N8 σ c o i m h to p) 60) 37 v) = N8 σ c o i m v to p := by
  unfold N8; rw [bx_uu]; congr 1; funext k
  rcases k7 k with rfl | rfl | rfl | rfl | rfl | rfl | rfl | ⟨a, b, c, d, e, f, g⟩ <;> first | rfl | simp [upd, va_up, qf, a, b, c, d, e, f, g]
theorem n8_38 : va_up (N8 σ c o i m h to p) 60 (upd ((N8 σ c o i m h to p) 60) 38 v) = N8 σ c o i m h v p := by
  unfold N8; rw [bx_uu]; congr 1; funext k
  rcases k7 k with rfl | rfl | rfl | rfl | rfl | rfl | rfl | ⟨a, b, c, d, e, f, g⟩ <;> first | rfl | simp [upd, va_up, qf, a, b, c, d, e, f, g]
theorem n8_39 : va_up (N8 σ c o i m h to p) 60 (upd ((N8 σ c o i m h to p) 60) 39 v) = N8 σ c o i m h to v := by
  unfold N8; rw [bx_uu]; congr 1; funext k
  rcases k7 k with rfl | rfl | rfl | rfl | rfl | rfl | rfl | ⟨a, b, c, d, e, f, g⟩ <;> first | rfl | simp [upd, va_up, qf, a, b, c, d, e, f, g]
end NU
def R8 (t : NN) (σ : ZI) : Prop := TK t ∧ RP 0 t σ ∧ RS t σ
theorem R8_M8 {t : NN} {σ : ZI} (q : R8 t σ) : M8 t σ := ⟨q.1, q.2.2.2.2.1, q.2.2.2.2.2.2.2.2.2.1⟩
theorem and_n : ∀ i, i < 10 → ∀ s, s < 1024 → (nI s &&& nI (2 ^ i)) = (if s.testBit i = true then nI (2 ^ i) else 0) := by decide +kernel
theorem arm168 {t : NN} {σ : ZI} (q : R8 t σ) {a b : Int32} {j : Nat} (hj : j < 10) (k : ZI → Int32 → Int32 → Option ZI) (c o i h to p v3 : Int32) : ∀ (d m fu me : Nat), m + d = t 0 1 → d < fu → me < 2 ^ 3 → f_X8_nights_168 a b k fu (N8 σ c o i (nI me) h to p) v3 (nI (j + 1)) (nI m) = (if t 0 5 = j + 1 then k (N8 σ c o i (nI (if m ≤ aa t j ∧ aa t j < t 0 1 then me ||| 2 ^ aa t j else me)) h 1 p) 0 (nI (j + 2)) else k (N8 σ c o i (nI (if m ≤ aa t j ∧ aa t j < t 0 1 then me ||| 2 ^ aa t j else me)) h to p) v3 (nI (j + 2))) := by
  obtain ⟨kk, rp, rs⟩ := q
  have k1 := kk.1
  have k2 := kk.2.1
  intro d
  induction d with
  | zero =>
    intro m fu me h3 h4 h5
    obtain ⟨fu, rfl⟩ : ∃ m, fu = m + 1 := ⟨fu - 1, by omega⟩
    obtain rfl : m = t 0 1 := by omega
    rw [f_X8_nights_168, show (N8 σ c o i (nI me) h to p) 60 3 = _ from rs.2.1, if_pos (Int32.le_refl _), show (N8 σ c o i (nI me) h to p) 61 12 = _ from rp.2.2.2.2.1, if_neg (show ¬ (t 0 1 ≤ aa t j ∧ aa t j < t 0 1) by omega)]
    unfold f_X8_nights_233
    rw [nI_1]
    by_cases hb : t 0 5 = j + 1
    · rw [if_pos (by rw [hb]), if_pos hb, ltq, n8_38]
    · rw [if_neg (fun z => hb (nI_inj (by omega) (by omega) z)), if_neg hb]
  | succ d ih =>
    intro m fu me h3 h4 h5
    obtain ⟨fu, rfl⟩ : ∃ m, fu = m + 1 := ⟨fu - 1, by omega⟩
    have km := k2 m (by omega)
    rw [f_X8_nights_168, show (N8 σ c o i (nI me) h to p) 60 3 = _ from rs.2.1, if_neg (nI_ge (by omega) (by omega)), show (2 : Int32) * nI m = nI (2 * m) from pk_mul 2 m, inB_n (by omega) (by omega), if_pos rfl, nI_clamp (by omega), show (N8 σ c o i (nI me) h to p) 62 (2 * m) = _ from (rs.2.2.2.2.2.2.1 m (by omega)).1]
    unfold f_X8_nights_204
    rw [ltq, ltq, n8_36, n8_36, nI_1, show (N8 σ c o i (nI me) h to p) 60 36 = nI me from rfl, Int32.or_zero, sbl (by omega), or_n (by omega) (by omega)]
    dsimp only
    by_cases hm : t 2 m = j + 1
    · have e : aa t j = m := by
        have := ma_is (mj := t 2) (M := t 0 1) (m := m) (by omega) km.2.1 kk.2.2.1
        rw [hm] at this
        exact this
      rw [if_pos (by rw [hm]), ih (m + 1) fu _ (by omega) (by omega) (Nat.or_lt_two_pow h5 (Nat.pow_lt_pow_right (by omega) (by omega))), e, if_neg (show ¬ (m + 1 ≤ m ∧ m < t 0 1) by omega), if_pos (show m ≤ m ∧ m < t 0 1 by omega)]
    · have e : aa t j < t 0 1 → aa t j ≠ m := by
        intro h he
        have := fi_yes (p := fun m => t 2 m == j + 1) (n := t 0 1) h
        rw [show fi (fun m => t 2 m == j + 1) (t 0 1) = m from he] at this
        simp at this
        exact hm this
      rw [if_neg (fun z => hm (nI_inj (by omega) (by omega) z)), ih (m + 1) fu _ (by omega) (by omega) h5]
      have e2 : (if m + 1 ≤ aa t j ∧ aa t j < t 0 1 then me ||| 2 ^ aa t j else me) = (if m ≤ aa t j ∧ aa t j < t 0 1 then me ||| 2 ^ aa t j else me) := by
        by_cases z : m + 1 ≤ aa t j ∧ aa t j < t 0 1
        · rw [if_pos z, if_pos ⟨by omega, z.2⟩]
        · rw [if_neg z, if_neg]
          rintro ⟨z1, z2⟩
          have := e z2
          exact z ⟨by omega, z2⟩
      rw [e2]
def c8 (t : NN) (σ : ZI) (x n j : Nat) : ZI := N8 σ (nI (tC t x n j)) (tO t x n j) (tI t x n j) (nI (tM t x n j)) (nI (tH t x n j)) (nI (tT t x n j)) (nI (tQ t x n j))
theorem go8 {t : NN} {σ : ZI} (q : R8 t σ) {x n : Nat} (hx : x < 2 ^ 31) (hn : n < 2 ^ 31) : ∀ (d j fu : Nat), j + d = t 0 0 → d < fu → f_X8_nights_42 (nI x) (nI n) fu (c8 t σ x n j) (hg t x n j) (nI (j + 1)) = some (c8 t σ x n (t 0 0)) := by
  have kk := q.1
  have k1 := kk.1
  have rp := q.2.1
  have rs := q.2.2
  intro d
  induction d with
  | zero =>
    intro j fu h3 h4
    obtain ⟨fu, rfl⟩ : ∃ m, fu = m + 1 := ⟨fu - 1, by omega⟩
    obtain rfl : j = t 0 0 := by omega
    rw [f_X8_nights_42, show (c8 t σ x n (t 0 0)) 60 1 = _ from rs.1, if_pos (nI_lt (by omega) (by omega))]
  | succ d ih =>
    intro j fu h3 h4
    obtain ⟨fu, rfl⟩ : ∃ m, fu = m + 1 := ⟨fu - 1, by omega⟩
    have hc0 : tC t x n (j + 1) ≤ j + 1 := cn_le (t 4) (t 0 2) x n (j + 1)
    have q' : M8 t (c8 t σ x n j) := ⟨kk, rs.2.2.1, rs.2.2.2.2.2.2.2.1⟩
    rw [f_X8_nights_42, show (c8 t σ x n j) 60 1 = _ from rs.1, if_neg (nI_nlt (by omega) (by omega)), cd8 q' (c := tC t x n j) (by omega) hx hn rfl, bso, ← tC_s]
    unfold c8
    rw [n8_33]
    have pass : ∀ (o i : Int32) (v4 : Int32), v4 = 1 → tp t x n j = 1 → tS t x n j ≠ 3 → f_X8_nights_123 (nI x) (nI n) (fun σ v4 v5 => f_X8_nights_42 (nI x) (nI n) fu σ v4 v5) (N8 σ (nI (tC t x n (j + 1))) o i (nI (tM t x n j)) (nI (tH t x n j)) (nI (tT t x n j)) (nI (tQ t x n j))) v4 (nI (j + 1)) = f_X8_nights_42 (nI x) (nI n) fu (N8 σ (nI (tC t x n (j + 1))) o i (nI (tM t x n (j + 1))) (nI (tH t x n (j + 1))) (nI (tT t x n (j + 1))) (nI (tQ t x n (j + 1)))) (hg t x n (j + 1)) (nI (j + 1 + 1)) := by
      intro o i v4 hv hp hs
      subst hv
      have hM : tM t x n (j + 1) = if aa t j < t 0 1 then tM t x n j ||| 2 ^ aa t j else tM t x n j := by
        simp only [tM, hp, true_and]
      have hH : tH t x n (j + 1) = if (t 0 4).testBit j = true then tH t x n j ||| 2 ^ j else tH t x n j := by
        simp only [tH, hp, true_and]
      have hQ : tQ t x n (j + 1) = tQ t x n j ||| 2 ^ j := by
        simp only [tQ, hp, if_true]
      have t0 : tT t x n j = 0 := if_neg hs
      have e1 : tT t x n (j + 1) = if t 0 5 = j + 1 then 1 else 0 := by
        unfold tT
        rw [tS_s, hp]
        by_cases hb : t 0 5 = j + 1
        · rw [if_pos (show 1 = 1 ∧ j + 1 = t 0 5 from ⟨rfl, hb.symm⟩), if_pos rfl, if_pos hb]
        · rw [if_neg (show ¬ (1 = 1 ∧ j + 1 = t 0 5) from fun z => hb z.2.symm), if_neg (by omega), if_neg hb]
      have e2 : hg t x n (j + 1) = if t 0 5 = j + 1 then 0 else 1 := by
        unfold hg
        rw [tS_s, hp]
        by_cases hb : t 0 5 = j + 1
        · rw [if_pos (show 1 = 1 ∧ j + 1 = t 0 5 from ⟨rfl, hb.symm⟩), if_neg (by omega), if_pos hb]
        · rw [if_neg (show ¬ (1 = 1 ∧ j + 1 = t 0 5) from fun z => hb z.2.symm), if_pos rfl, if_neg hb]
      have hh : (nI (tH t x n j) ||| (nI (t 0 4) &&& nI (2 ^ j))) = nI (tH t x n (j + 1)) := by
        rw [and_n j (by omega) _ (TK_s kk), hH]
        by_cases hb : (t 0 4).testBit j = true
        · rw [if_pos hb, if_pos hb, or_n (by omega) (tH_lt x n j (by omega))]
        · rw [if_neg hb, if_neg hb, Int32.or_zero]
      unfold f_X8_nights_123
      rw [if_neg (by decide), nI_pred, sbl (by omega), ltq, ltq, n8_39, n8_37]
      rw [show ∀ a b c d e f g : Int32, (N8 σ a b c d e f g) 60 39 = g from fun _ _ _ _ _ _ _ => rfl]
      rw [show ∀ a b c d e f g : Int32, (N8 σ a b c d e f g) 60 37 = e from fun _ _ _ _ _ _ _ => rfl]
      rw [show ∀ a b c d e f g : Int32, (N8 σ a b c d e f g) 61 11 = nI (t 0 4) from fun _ _ _ _ _ _ _ => rp.2.2.2.1]
      rw [or_n (by omega) (tQ_lt x n j (by omega)), ← hQ, hh]
      rw [show ∀ (k : ZI → Int32 → Int32 → Option ZI) (a b c d e f g : Int32), f_X8_nights_168 (nI x) (nI n) k 3000 (N8 σ a b c (nI (tM t x n j)) e f g) 1 (nI (j + 1)) 0 = _ from fun k a b c d e f g => arm168 (a := nI x) (b := nI n) q (by omega) k a b c e f g 1 (t 0 1) 0 3000 (tM t x n j) (by omega) (by omega) (tM_lt kk x n j)]
      · have : (0 ≤ aa t j ∧ aa t j < t 0 1) = (aa t j < t 0 1) := by simp
        simp only [this]
        rw [← hM, e1, e2, t0]
        by_cases hb : t 0 5 = j + 1
        · rw [if_pos hb, if_pos hb, if_pos hb]; rfl
        · rw [if_neg hb, if_neg hb, if_neg hb]
      · exact 0
    have rest : ∀ (o i : Int32), tp t x n j ≠ 1 → f_X8_nights_123 (nI x) (nI n) (fun σ v4 v5 => f_X8_nights_42 (nI x) (nI n) fu σ v4 v5) (N8 σ (nI (tC t x n (j + 1))) o i (nI (tM t x n j)) (nI (tH t x n j)) (nI (tT t x n j)) (nI (tQ t x n j))) 0 (nI (j + 1)) = f_X8_nights_42 (nI x) (nI n) fu (N8 σ (nI (tC t x n (j + 1))) o i (nI (tM t x n (j + 1))) (nI (tH t x n (j + 1))) (nI (tT t x n (j + 1))) (nI (tQ t x n (j + 1)))) (hg t x n (j + 1)) (nI (j + 1 + 1)) := by
      intro o i hp
      have hM : tM t x n (j + 1) = tM t x n j := by simp only [tM, hp, false_and, if_false]
      have hH : tH t x n (j + 1) = tH t x n j := by simp only [tH, hp, false_and, if_false]
      have hQ : tQ t x n (j + 1) = tQ t x n j := by simp only [tQ, hp, if_false]
      have hS : tS t x n (j + 1) = tp t x n j := by rw [tS_s, if_neg (fun z => hp z.1)]
      have hT : tT t x n (j + 1) = tT t x n j := by
        unfold tT
        rw [hS]
        by_cases h0 : tS t x n j = 0
        · rw [tp_0 h0, h0]; split <;> rfl
        · by_cases h1 : tS t x n j = 1
          · rw [tp_1 h1, h1]; split <;> rfl
          · rw [tp_2 h0 h1]
      have hh : hg t x n (j + 1) = 0 := by unfold hg; rw [hS, if_neg hp]
      unfold f_X8_nights_123 f_X8_nights_233
      rw [if_pos rfl, hM, hH, hT, hQ, hh, nI_1]
    rw [show ∀ a b c d e f g : Int32, (N8 σ a b c d e f g) 60 34 = b from fun _ _ _ _ _ _ _ => rfl]
    rw [show ∀ a b c d e f g : Int32, (N8 σ a b c d e f g) 60 33 = a from fun _ _ _ _ _ _ _ => rfl]
    rw [show ∀ a b c d e f g : Int32, (N8 σ a b c d e f g) 61 15 = nI (t 0 8) - 2 from fun _ _ _ _ _ _ _ => rp.2.2.2.2.2.2.2.1]
    rw [Int32.sub_add_cancel]
    have o4 := tO_4 (t := t) (x := x) (n := n) j (by omega)
    have fin := ih (j + 1) fu (by omega) (by omega)
    unfold c8 at fin
    rw [← fin]
    have e16 : ∀ a b c d e f g : Int32, (N8 σ a b c d e f g) 61 16 + 4 = nI (t 0 9) := fun _ _ _ _ _ _ _ => by
      show σ 61 16 + 4 = _
      rw [show σ 61 16 = nI (t 0 9) - 4 from rp.2.2.2.2.2.2.2.2.1, Int32.sub_add_cancel]
    by_cases s0 : tS t x n j = 0
    · have hI : tI t x n (j + 1) = tI t x n j := by simp only [tI, s0]; rw [if_neg (by omega)]
      rw [if_pos (o4.mpr s0), hI]
      by_cases a : t 0 8 ≤ tC t x n (j + 1)
      · have hO : tO t x n (j + 1) = nI (j + 1) := by simp only [tO]; rw [if_pos ⟨s0, a⟩]
        rw [if_neg (nI_nlt a (by omega)), ltq, n8_34, pass _ _ 1 rfl (by rw [tp_0 s0, if_pos a]) (by omega), hO]
      · have hO : tO t x n (j + 1) = tO t x n j := by simp only [tO]; rw [if_neg (fun z => a z.2)]
        have h0 : hg t x n j = 0 := by unfold hg; rw [s0, if_neg (by omega)]
        rw [if_pos (nI_lt (by omega) (by omega)), h0]
        unfold f_X8_nights_95
        rw [if_pos rfl, rest _ _ (by rw [tp_0 s0, if_neg a]; omega), hO]
    · have hO : tO t x n (j + 1) = tO t x n j := by simp only [tO]; rw [if_neg (fun z => s0 z.1)]
      rw [if_neg (fun z => s0 (o4.mp z)), hO]
      by_cases s1 : tS t x n j = 1
      · have h1 : hg t x n j = 1 := by unfold hg; rw [if_pos s1]
        rw [h1]
        unfold f_X8_nights_95
        rw [if_neg (by decide), e16]
        rw [show ∀ a b c d e f g : Int32, (N8 σ a b c d e f g) 60 33 = a from fun _ _ _ _ _ _ _ => rfl]
        by_cases a : t 0 9 ≤ tC t x n (j + 1)
        · have hI : tI t x n (j + 1) = nI (j + 1) := by simp only [tI]; rw [if_pos ⟨s1, a⟩]
          rw [if_neg (nI_nlt a (by omega)), ltq, n8_35, rest _ _ (by rw [tp_1 s1, if_pos a]; omega), hI]
        · have hI : tI t x n (j + 1) = tI t x n j := by simp only [tI]; rw [if_neg (fun z => a z.2)]
          rw [if_pos (nI_lt (by omega) (by omega)), pass _ _ 1 rfl (by rw [tp_1 s1, if_neg a]) (by omega), hI]
      · have hI : tI t x n (j + 1) = tI t x n j := by simp only [tI]; rw [if_neg (fun z => s1 z.1)]
        have h0 : hg t x n j = 0 := by unfold hg; rw [if_neg s1]
        rw [h0]
        unfold f_X8_nights_95
        rw [if_pos rfl, rest _ _ (by rw [tp_2 s0 s1]; exact s1), hI]
theorem night8 {t : NN} {σ : ZI} (q : R8 t σ) {x n : Nat} (hx : x < 2 ^ 31) (hn : n < 2 ^ 31) : f_X8_nights σ (nI x) (nI n) = some (c8 t σ x n (t 0 0)) := by
  have e : va_up (va_up (va_up (va_up (va_up (va_up (va_up σ 60 (upd (σ 60) 33 0)) 60 (upd (upd (σ 60) 33 0) 34 (-4))) 60 (upd (upd (upd (σ 60) 33 0) 34 (-4)) 35 (-4))) 60 (upd (upd (upd (upd (σ 60) 33 0) 34 (-4)) 35 (-4)) 36 0)) 60 (upd (upd (upd (upd (upd (σ 60) 33 0) 34 (-4)) 35 (-4)) 36 0) 37 0)) 60 (upd (upd (upd (upd (upd (upd (σ 60) 33 0) 34 (-4)) 35 (-4)) 36 0) 37 0) 38 0)) 60 (upd (upd (upd (upd (upd (upd (upd (σ 60) 33 0) 34 (-4)) 35 (-4)) 36 0) 37 0) 38 0) 39 0) = c8 t σ x n 0 := by
    unfold c8 N8
    rw [bx_uu, bx_uu, bx_uu, bx_uu, bx_uu, bx_uu]
    congr 1; funext k
    rcases k7 k with rfl | rfl | rfl | rfl | rfl | rfl | rfl | ⟨a, b, c, d, e, f, g⟩ <;> first | rfl | simp [upd, qf, a, b, c, d, e, f, g]
  unfold f_X8_nights
  rw [ltq, ltq, ltq, ltq, ltq, ltq, ltq]
  have := q.1.1
  refine Eq.trans ?_ (go8 q hx hn (t 0 0) 0 3000 (by omega) (by omega))
  rw [← e]
  rfl
