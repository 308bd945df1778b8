/-! a night, joint by joint -/
def tC (t : NN) (x n j : Nat) : Nat := cn (t 4) (t 0 2) x n j
def tS (t : NN) (x n j : Nat) : Nat := ns (t 4) (t 0 2) x n (t 0 8) (t 0 9) (t 0 5) j
def tp (t : NN) (x n j : Nat) : Nat := pa (t 0 8) (t 0 9) (tS t x n j) (tC t x n (j + 1))
def aa (t : NN) (j : Nat) : Nat := fi (fun i => t 2 i == j + 1) (t 0 1)
def tO (t : NN) (x n : Nat) : Nat → Int32
  | 0 => -4
  | j + 1 => if tS t x n j = 0 ∧ t 0 8 ≤ tC t x n (j + 1) then nI (j + 1) else tO t x n j
def tI (t : NN) (x n : Nat) : Nat → Int32
  | 0 => -4
  | j + 1 => if tS t x n j = 1 ∧ t 0 9 ≤ tC t x n (j + 1) then nI (j + 1) else tI t x n j
def tM (t : NN) (x n : Nat) : Nat → Nat
  | 0 => 0
  | j + 1 => if tp t x n j = 1 ∧ aa t j < t 0 1 then tM t x n j ||| 2 ^ aa t j else tM t x n j
def tH (t : NN) (x n : Nat) : Nat → Nat
  | 0 => 0
  | j + 1 => if tp t x n j = 1 ∧ (t 0 4).testBit j = true then tH t x n j ||| 2 ^ j else tH t x n j
def tQ (t : NN) (x n : Nat) : Nat → Nat
  | 0 => 0
  | j + 1 => if tp t x n j = 1 then tQ t x n j ||| 2 ^ j else tQ t x n j
def tT (t : NN) (x n j : Nat) : Nat := if tS t x n j = 3 then 1 else 0
theorem tC_s (t : NN) (x n j : Nat) : tC t x n (j + 1) = cb t x n j (tC t x n j) := rfl
theorem tS_s (t : NN) (x n j : Nat) : tS t x n (j + 1) = if tp t x n j = 1 ∧ j + 1 = t 0 5 then 3 else tp t x n j := rfl
theorem tp_0 {t : NN} {x n j : Nat} (h : tS t x n j = 0) : tp t x n j = if t 0 8 ≤ tC t x n (j + 1) then 1 else 0 := by
  unfold tp pa; rw [if_pos h]
theorem tp_1 {t : NN} {x n j : Nat} (h : tS t x n j = 1) : tp t x n j = if t 0 9 ≤ tC t x n (j + 1) then 2 else 1 := by
  unfold tp pa; rw [if_neg (by omega), if_pos h]
theorem tp_2 {t : NN} {x n j : Nat} (h : tS t x n j ≠ 0) (h1 : tS t x n j ≠ 1) : tp t x n j = tS t x n j := by
  unfold tp pa; rw [if_neg h, if_neg h1]
theorem tS_le (t : NN) (x n : Nat) : ∀ j, tS t x n j ≤ 3
  | 0 => by show (0 : Nat) ≤ 3; omega
  | j + 1 => by
    have ih := tS_le t x n j
    rw [tS_s]
    by_cases h0 : tS t x n j = 0
    · rw [tp_0 h0]; repeat' split
      all_goals omega
    · by_cases h1 : tS t x n j = 1
      · rw [tp_1 h1]; repeat' split
        all_goals omega
      · rw [tp_2 h0 h1]; repeat' split
        all_goals omega
theorem tO_4 {t : NN} {x n : Nat} : ∀ j, j ≤ 10 → (tO t x n j = -4 ↔ tS t x n j = 0)
  | 0, _ => ⟨fun _ => rfl, fun _ => rfl⟩
  | j + 1, h => by
    have ih := tO_4 (t := t) (x := x) (n := n) j (by omega)
    rw [tS_s]
    unfold tO
    by_cases h0 : tS t x n j = 0
    · rw [tp_0 h0]
      by_cases h1 : t 0 8 ≤ tC t x n (j + 1)
      · rw [if_pos ⟨h0, h1⟩, if_pos h1]
        refine ⟨fun q => absurd q (nI_nm4 (by omega)), fun q => ?_⟩
        split at q <;> omega
      · rw [if_neg (fun q => h1 q.2), if_neg h1, if_neg (by omega)]
        exact ⟨fun _ => rfl, fun _ => ih.mpr h0⟩
    · rw [if_neg (fun q => h0 q.1)]
      refine ⟨fun q => absurd (ih.mp q) h0, fun q => ?_⟩
      by_cases h1 : tS t x n j = 1
      · rw [tp_1 h1] at q
        by_cases h2 : t 0 9 ≤ tC t x n (j + 1)
        · rw [if_pos h2] at q; split at q <;> omega
        · rw [if_neg h2] at q; split at q <;> omega
      · rw [tp_2 h0 h1] at q; split at q <;> omega
theorem aa_lt {t : NN} (k : TK t) (j : Nat) (h : aa t j < t 0 1) : aa t j < 3 := by have := k.1; omega
theorem tM_lt {t : NN} (k : TK t) (x n : Nat) : ∀ j, tM t x n j < 2 ^ 3
  | 0 => by show 0 < 2 ^ 3; omega
  | j + 1 => by
    have ih := tM_lt k x n j
    unfold tM
    by_cases h : tp t x n j = 1 ∧ aa t j < t 0 1
    · rw [if_pos h]
      exact Nat.or_lt_two_pow ih (Nat.pow_lt_pow_right (by omega) (aa_lt k j h.2))
    · rw [if_neg h]; exact ih
theorem tH_lt {t : NN} (x n : Nat) : ∀ j, j ≤ 10 → tH t x n j < 2 ^ 10
  | 0, _ => by show 0 < 2 ^ 10; omega
  | j + 1, hj => by
    have ih := tH_lt (t := t) x n j (by omega)
    unfold tH
    by_cases h : tp t x n j = 1 ∧ (t 0 4).testBit j = true
    · rw [if_pos h]
      exact Nat.or_lt_two_pow ih (Nat.pow_lt_pow_right (by omega) (by omega))
    · rw [if_neg h]; exact ih
theorem tQ_lt {t : NN} (x n : Nat) : ∀ j, j ≤ 10 → tQ t x n j < 2 ^ 10
  | 0, _ => by show 0 < 2 ^ 10; omega
  | j + 1, hj => by
    have ih := tQ_lt (t := t) x n j (by omega)
    unfold tQ
    by_cases h : tp t x n j = 1
    · rw [if_pos h]
      exact Nat.or_lt_two_pow ih (Nat.pow_lt_pow_right (by omega) (by omega))
    · rw [if_neg h]; exact ih
/-- the class's passage -/
def pf (g : Nat → Int32) (o i m h to c : Int32) : Nat → Int32 := fun k => if k = 0 then o else if k = 1 then i else if k = 2 then m else if k = 3 then h else if k = 4 then to else if k = 5 then c else g k
def P7 (σ : ZI) (o i m h to c : Int32) : ZI := va_up σ 40 (pf (σ 40) o i m h to c)
theorem k6 (k : Nat) : k = 0 ∨ k = 1 ∨ k = 2 ∨ k = 3 ∨ k = 4 ∨ k = 5 ∨ (k ≠ 0 ∧ k ≠ 1 ∧ k ≠ 2 ∧ k ≠ 3 ∧ k ≠ 4 ∧ k ≠ 5) := by omega
section PU
variable (σ : ZI) (o i m h to c v : Int32)
theorem p7_0 : va_up (P7 σ o i m h to c) 40 (upd ((P7 σ o i m h to c) 40) 0 v) = P7 σ v i m h to c := by
  unfold P7; rw [bx_uu]; congr 1; funext k
  rcases k6 k with rfl | rfl | rfl | rfl | rfl | rfl | ⟨a, b, c, d, e, f⟩ <;> first | rfl | simp [upd, va_up, pf, a, b, c, d, e, f]
theorem p7_1 : va_up (P7 σ o i m h to c) 40 (upd ((P7 σ o i m h to c) 40) 1 v) = P7 σ o v m h to c := by
  unfold P7; rw [bx_uu]; congr 1; funext k
  rcases k6 k with rfl | rfl | rfl | rfl | rfl | rfl | ⟨a, b, c, d, e, f⟩ <;> first | rfl | simp [upd, va_up, pf, a, b, c, d, e, f]
theorem p7_2 : va_up (P7 σ o i m h to c) 40 (upd ((P7 σ o i m h to c) 40) 2 v) = P7 σ o i v h to c := by
  unfold P7; rw [bx_uu]; congr 1; funext k
  rcases k6 k with rfl | rfl | rfl | rfl | rfl | rfl | ⟨a, b, c, d, e, f⟩ <;> first | rfl | simp [upd, va_up, pf, a, b, c, d, e, f]
theorem p7_3 : va_up (P7 σ o i m h to c) 40 (upd ((P7 σ o i m h to c) 40) 3 v) = P7 σ o i m v to c := by
  unfold P7; rw [bx_uu]; congr 1; funext k
  rcases k6 k with rfl | rfl | rfl | rfl | rfl | rfl | ⟨a, b, c, d, e, f⟩ <;> first | rfl | simp [upd, va_up, pf, a, b, c, d, e, f]
theorem p7_4 : va_up (P7 σ o i m h to c) 40 (upd ((P7 σ o i m h to c) 40) 4 v) = P7 σ o i m h v c := by
  unfold P7; rw [bx_uu]; congr 1; funext k
  rcases k6 k with rfl | rfl | rfl | rfl | rfl | rfl | ⟨a, b, c, d, e, f⟩ <;> first | rfl | simp [upd, va_up, pf, a, b, c, d, e, f]
theorem p7_5 : va_up (P7 σ o i m h to c) 40 (upd ((P7 σ o i m h to c) 40) 5 v) = P7 σ o i m h to v := by
  unfold P7; rw [bx_uu]; congr 1; funext k
  rcases k6 k with rfl | rfl | rfl | rfl | rfl | rfl | ⟨a, b, c, d, e, f⟩ <;> first | rfl | simp [upd, va_up, pf, a, b, c, d, e, f]
end PU
theorem or_n {s i : Nat} (hi : i < 10) (hs : s < 1024) : (nI s ||| nI (2 ^ i)) = nI (s ||| 2 ^ i) := (sg_bits i hi s hs).2.1
theorem sg7 {σ : ZI} {b s j : Nat} (h0 : ar b = (11, 0)) (h1 : ar (b + 1) = (1, 13)) (hj : j < 10) (hs : s < 1024) (e : σ (b + 1) 4 = nI s) : f_X6_isSignalAt σ b (nI (j + 1)) = some (if s.testBit j = true then 1 else 0) := by
  unfold f_X6_isSignalAt
  rw [h0, if_pos rfl, if_neg (show ¬ nI (j + 1) < 1 from nI_nlt (a := j + 1) (b := 1) (by omega) (by omega)), show f_X6_value σ b 4 = _ from val_n (k := 4) h0 h1 (by omega), bso, e, nI_pred]
  by_cases h : s.testBit j = true
  · rw [if_pos ((bt1 (by omega) (by omega)).mpr h), if_pos h]
  · rw [if_neg (fun z => h ((bt1 (by omega) (by omega)).mp z)), if_neg h]
theorem TK_s {t : NN} (k : TK t) : t 0 4 < 1024 := Nat.lt_of_lt_of_le k.1.2.2.2.2.2.1 (Nat.pow_le_pow_right (n := 2) (by omega) k.1.2.1)
theorem meet7 {t : NN} {σ : ZI} (q : T7 t σ) {j me h : Nat} (hj : j < 10) (hme : me < 2 ^ 3) (hh : h < 2 ^ 10) (o i to c : Int32) : f_X1_meet (P7 σ o i (nI me) (nI h) to c) 1 (nI (j + 1)) = some (P7 σ o i (nI (if aa t j < t 0 1 then me ||| 2 ^ aa t j else me)) (nI (if (t 0 4).testBit j = true then h ||| 2 ^ j else h)) (if t 0 5 = j + 1 then 1 else to) c) := by
  obtain ⟨kk, tv⟩ := q
  have k1 := kk.1
  have k2 := kk.2.1
  have c46 : ∀ (me h : Int32) (to : Int32), f_X1_meet_46 1 (nI (j + 1)) (P7 σ o i me h to c) = some (P7 σ o i me h (if t 0 5 = j + 1 then 1 else to) c) := by
    intro me h to
    unfold f_X1_meet_46
    rw [v1_5, bso, show (P7 σ o i me h to c) 2 5 = _ from tv.1 5 (by omega)]
    by_cases hb : t 0 5 = j + 1
    · rw [if_pos (by rw [hb]), if_pos hb, ltq, p7_4]
    · rw [if_neg (fun z => hb (nI_inj (by omega) (by omega) z)), if_neg hb]
  have c24 : ∀ (me : Int32), f_X1_meet_24 1 (nI (j + 1)) (P7 σ o i me (nI h) to c) = some (P7 σ o i me (nI (if (t 0 4).testBit j = true then h ||| 2 ^ j else h)) (if t 0 5 = j + 1 then 1 else to) c) := by
    intro me
    unfold f_X1_meet_24
    rw [sg7 (σ := P7 σ o i me (nI h) to c) (b := 1) (s := t 0 4) rfl rfl hj (TK_s kk) (tv.1 4 (by omega)), bso, nI_pred, sbl (by omega), ltq]
    by_cases hb : (t 0 4).testBit j = true
    · rw [if_pos hb, if_neg (by decide), p7_3, show (P7 σ o i me (nI h) to c) 40 3 = nI h from rfl, or_n hj hh, c46, if_pos hb]
    · rw [if_neg hb, if_pos rfl, c46, if_neg hb]
  unfold f_X1_meet
  rw [if_pos (by decide), am_n (σ := P7 σ o i (nI me) (nI h) to c) (b := 1) (M := t 0 1) (j := j + 1) (mj := t 2) rfl rfl rfl (by omega) (by omega) (tv.1 1 (by omega)) (fun m hm => ⟨by have := k2 m hm; omega, (tv.2.1 m hm).2.1⟩), bso]
  by_cases ha : aa t j < t 0 1
  · rw [if_pos (show fi (fun i => t 2 i == j + 1) (t 0 1) < t 0 1 from ha), if_neg (nI_nm4 (by have := fi_le (fun i => t 2 i == j + 1) (t 0 1); omega)), if_pos ha, ltq, show fi (fun i => t 2 i == j + 1) (t 0 1) = aa t j from rfl, sbl (by omega), p7_2, show (P7 σ o i (nI me) (nI h) to c) 40 2 = nI me from rfl, or_n (by omega) (by omega), c24]
  · rw [if_neg (show ¬ fi (fun i => t 2 i == j + 1) (t 0 1) < t 0 1 from ha), if_pos rfl, if_neg ha, c24]
/-- the class's night behind joint j -/
def c7 (t : NN) (σ : ZI) (x n j : Nat) : ZI := P7 σ (tO t x n j) (tI t x n j) (nI (tM t x n j)) (nI (tH t x n j)) (nI (tT t x n j)) (nI (tC t x n j))
def hg (t : NN) (x n j : Nat) : Int32 := if tS t x n j = 1 then 1 else 0
theorem go7 {t : NN} {σ : ZI} (q : T7 t σ) {x n : Nat} (hx : x < 2 ^ 31) (hn : n < 2 ^ 31) : ∀ (d j fu : Nat), j + d = t 0 0 → d < fu → f_X1_go_38 1 (nI x) (nI n) fu (c7 t σ x n j) (hg t x n j) (nI (j + 1)) = some (c7 t σ x n (t 0 0)) := by
  have kk := q.1
  have k1 := kk.1
  have tv := q.2
  intro d
  induction d with
  | zero =>
    intro j fu h3 h4
    obtain ⟨fu, rfl⟩ : ∃ m, fu = m + 1 := ⟨fu - 1, by omega⟩
    obtain rfl : j = t 0 0 := by omega
    rw [f_X1_go_38, v1_0, bso, show (c7 t σ x n (t 0 0)) 2 0 = _ from tv.1 0 (by omega), if_pos (nI_lt (by omega) (by omega))]
  | succ d ih =>
    intro j fu h3 h4
    obtain ⟨fu, rfl⟩ : ∃ m, fu = m + 1 := ⟨fu - 1, by omega⟩
    have hc := cn_le (t 4) (t 0 2) x n (j + 1)
    have hc0 : tC t x n (j + 1) ≤ j + 1 := hc
    have q' : T7 t (c7 t σ x n j) := ⟨kk, TV_fr (fun r i h1 h2 => by show va_up σ 40 _ (1 + r) i = _; simp only [va_up, if_neg (show 1 + r ≠ 40 by omega)]) tv⟩
    rw [f_X1_go_38, v1_0, bso, show (c7 t σ x n j) 2 0 = _ from tv.1 0 (by omega), if_neg (nI_nlt (by omega) (by omega)), show (c7 t σ x n j) 40 5 = nI (tC t x n j) from rfl, cb7 q' (by omega) hx hn, bso, ltq, ← tC_s]
    unfold c7
    rw [p7_5]
    have pass : ∀ (o i : Int32) (v4 : Int32), v4 ≠ 0 → tp t x n j = 1 → tS t x n j ≠ 3 → f_X1_go_125 1 (nI x) (nI n) (fun σ v4 v5 => f_X1_go_38 1 (nI x) (nI n) fu σ v4 v5) (P7 σ o i (nI (tM t x n j)) (nI (tH t x n j)) (nI (tT t x n j)) (nI (tC t x n (j + 1)))) v4 (nI (j + 1)) = f_X1_go_38 1 (nI x) (nI n) fu (P7 σ o i (nI (tM t x n (j + 1))) (nI (tH t x n (j + 1))) (nI (tT t x n (j + 1))) (nI (tC t x n (j + 1)))) (hg t x n (j + 1)) (nI (j + 1 + 1)) := by
      intro o i v4 hv hp hs
      have hM : tM t x n (j + 1) = if aa t j < t 0 1 then tM t x n j ||| 2 ^ aa t j else tM t x n j := by
        simp only [tM, hp, true_and]
      have hH : tH t x n (j + 1) = if (t 0 4).testBit j = true then tH t x n j ||| 2 ^ j else tH t x n j := by
        simp only [tH, hp, true_and]
      have t0 : tT t x n j = 0 := if_neg hs
      unfold f_X1_go_125 f_X1_go_149 f_X1_go_151
      rw [if_neg hv, meet7 q (by omega) (tM_lt kk x n j) (tH_lt x n j (by omega)), bso, ← hM, ← hH, t0, nI_1]
      rw [show ∀ a b c d e f : Int32, (P7 σ a b c d e f) 40 4 = e from fun _ _ _ _ _ _ => rfl]
      have e1 : tT t x n (j + 1) = if t 0 5 = j + 1 then 1 else 0 := by
        unfold tT
        rw [tS_s, hp]
        by_cases hb : t 0 5 = j + 1
        · rw [if_pos (show 1 = 1 ∧ j + 1 = t 0 5 from ⟨rfl, hb.symm⟩), if_pos rfl, if_pos hb]
        · rw [if_neg (show ¬ (1 = 1 ∧ j + 1 = t 0 5) from fun z => hb z.2.symm), if_neg (by omega), if_neg hb]
      have e2 : hg t x n (j + 1) = if t 0 5 = j + 1 then 0 else 1 := by
        unfold hg
        rw [tS_s, hp]
        by_cases hb : t 0 5 = j + 1
        · rw [if_pos (show 1 = 1 ∧ j + 1 = t 0 5 from ⟨rfl, hb.symm⟩), if_neg (by omega), if_pos hb]
        · rw [if_neg (show ¬ (1 = 1 ∧ j + 1 = t 0 5) from fun z => hb z.2.symm), if_pos rfl, if_neg hb]
      rw [e1, e2]
      by_cases hb : t 0 5 = j + 1
      · rw [if_pos hb, if_pos hb, if_pos hb, if_neg (by decide)]
        rfl
      · rw [if_neg hb, if_neg hb, if_neg hb, if_pos nI_0]
    have rest : ∀ (o i : Int32), tp t x n j ≠ 1 → f_X1_go_125 1 (nI x) (nI n) (fun σ v4 v5 => f_X1_go_38 1 (nI x) (nI n) fu σ v4 v5) (P7 σ o i (nI (tM t x n j)) (nI (tH t x n j)) (nI (tT t x n j)) (nI (tC t x n (j + 1)))) 0 (nI (j + 1)) = f_X1_go_38 1 (nI x) (nI n) fu (P7 σ o i (nI (tM t x n (j + 1))) (nI (tH t x n (j + 1))) (nI (tT t x n (j + 1))) (nI (tC t x n (j + 1)))) (hg t x n (j + 1)) (nI (j + 1 + 1)) := by
      intro o i hp
      have hM : tM t x n (j + 1) = tM t x n j := by simp only [tM, hp, false_and, if_false]
      have hH : tH t x n (j + 1) = tH t x n j := by simp only [tH, hp, false_and, if_false]
      have hS : tS t x n (j + 1) = tp t x n j := by rw [tS_s, if_neg (fun z => hp z.1)]
      have hT : tT t x n (j + 1) = tT t x n j := by
        unfold tT
        rw [hS]
        by_cases h0 : tS t x n j = 0
        · rw [tp_0 h0, h0]; split <;> rfl
        · by_cases h1 : tS t x n j = 1
          · rw [tp_1 h1, h1]; split <;> rfl
          · rw [tp_2 h0 h1]
      have hh : hg t x n (j + 1) = 0 := by unfold hg; rw [hS, if_neg hp]
      unfold f_X1_go_125 f_X1_go_151
      rw [if_pos rfl, hM, hH, hT, hh, nI_1]
    rw [show ∀ a b c d e f : Int32, (P7 σ a b c d e f) 40 0 = a from fun _ _ _ _ _ _ => rfl]
    rw [show ∀ a b c d e f : Int32, (P7 σ a b c d e f) 40 5 = f from fun _ _ _ _ _ _ => rfl]
    have o4 := tO_4 (t := t) (x := x) (n := n) j (by omega)
    have fin := ih (j + 1) fu (by omega) (by omega)
    unfold c7 at fin
    rw [← fin]
    have v8 : ∀ a b c d e f : Int32, f_X6_value (P7 σ a b c d e f) 1 8 = some (nI (t 0 8)) := fun _ _ _ _ _ _ => by rw [v1_8]; exact congrArg some (tv.1 8 (by omega))
    have v9 : ∀ a b c d e f : Int32, f_X6_value (P7 σ a b c d e f) 1 9 = some (nI (t 0 9)) := fun _ _ _ _ _ _ => by rw [v1_9]; exact congrArg some (tv.1 9 (by omega))
    by_cases s0 : tS t x n j = 0
    · have hI : tI t x n (j + 1) = tI t x n j := by simp only [tI, s0]; rw [if_neg (by omega)]
      rw [if_pos (o4.mpr s0), v8, bso, hI]
      by_cases a : t 0 8 ≤ tC t x n (j + 1)
      · have hO : tO t x n (j + 1) = nI (j + 1) := by simp only [tO]; rw [if_pos ⟨s0, a⟩]
        rw [if_neg (nI_nlt a (by omega)), ltq, p7_0, pass _ _ 1 (by decide) (by rw [tp_0 s0, if_pos a]) (by omega), hO]
      · have hO : tO t x n (j + 1) = tO t x n j := by simp only [tO]; rw [if_neg (fun z => a z.2)]
        have h0 : hg t x n j = 0 := by unfold hg; rw [s0, if_neg (by omega)]
        rw [if_pos (nI_lt (by omega) (by omega)), h0]
        unfold f_X1_go_98
        rw [if_pos rfl, rest _ _ (by rw [tp_0 s0, if_neg a]; omega), hO]
    · have hO : tO t x n (j + 1) = tO t x n j := by simp only [tO]; rw [if_neg (fun z => s0 z.1)]
      rw [if_neg (fun z => s0 (o4.mp z)), hO]
      by_cases s1 : tS t x n j = 1
      · have h1 : hg t x n j = 1 := by unfold hg; rw [if_pos s1]
        rw [h1]
        unfold f_X1_go_98
        rw [if_neg (by decide), v9, bso]
        rw [show ∀ a b c d e f : Int32, (P7 σ a b c d e f) 40 5 = f from fun _ _ _ _ _ _ => rfl]
        by_cases a : t 0 9 ≤ tC t x n (j + 1)
        · have hI : tI t x n (j + 1) = nI (j + 1) := by simp only [tI]; rw [if_pos ⟨s1, a⟩]
          rw [if_neg (nI_nlt a (by omega)), ltq, p7_1, rest _ _ (by rw [tp_1 s1, if_pos a]; omega), hI]
        · have hI : tI t x n (j + 1) = tI t x n j := by simp only [tI]; rw [if_neg (fun z => a z.2)]
          rw [if_pos (nI_lt (by omega) (by omega)), pass _ _ 1 (by decide) (by rw [tp_1 s1, if_neg a]) (by omega), hI]
      · have hI : tI t x n (j + 1) = tI t x n j := by simp only [tI]; rw [if_neg (fun z => s1 z.1)]
        have h0 : hg t x n j = 0 := by unfold hg; rw [if_neg s1]
        rw [h0]
        unfold f_X1_go_98
        rw [if_pos rfl, rest _ _ (by rw [tp_2 s0 s1]; exact s1), hI]
theorem night7 {t : NN} {σ : ZI} (q : T7 t σ) {x n : Nat} (hx : x < 2 ^ 31) (hn : n < 2 ^ 31) : f_X1_go σ 1 (nI x) (nI n) = some (c7 t σ x n (t 0 0)) := by
  have e : va_up (va_up (va_up (va_up (va_up (va_up σ 40 (upd (σ 40) 0 (-4))) 40 (upd (upd (σ 40) 0 (-4)) 1 (-4))) 40 (upd (upd (upd (σ 40) 0 (-4)) 1 (-4)) 2 0)) 40 (upd (upd (upd (upd (σ 40) 0 (-4)) 1 (-4)) 2 0) 3 0)) 40 (upd (upd (upd (upd (upd (σ 40) 0 (-4)) 1 (-4)) 2 0) 3 0) 4 0)) 40 (upd (upd (upd (upd (upd (upd (σ 40) 0 (-4)) 1 (-4)) 2 0) 3 0) 4 0) 5 0) = c7 t σ x n 0 := by
    unfold c7 P7
    rw [bx_uu, bx_uu, bx_uu, bx_uu, bx_uu]
    congr 1; funext k
    rcases k6 k with rfl | rfl | rfl | rfl | rfl | rfl | ⟨a, b, c, d, e, f⟩ <;> first | rfl | simp [upd, pf, a, b, c, d, e, f]
  unfold f_X1_go
  rw [if_pos (by decide), ltq, ltq, ltq, ltq, ltq, ltq]
  have := q.1.1
  refine Eq.trans ?_ (go7 q hx hn (t 0 0) 0 3000 (by omega) (by omega))
  rw [← e]
  rfl
