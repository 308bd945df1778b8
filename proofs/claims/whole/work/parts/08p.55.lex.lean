/-! the tokens of the tape, on both sides *-/
def ru (P : Nat → Bool) : Nat → Nat → Nat
  | 0, p => p
  | d + 1, p => if P p then ru P d (p + 1) else p
theorem ru_ge (P : Nat → Bool) : ∀ d p, p ≤ ru P d p ∧ ru P d p ≤ p + d
  | 0, p => ⟨Nat.le_refl _, Nat.le_refl _⟩
  | d + 1, p => by
    have := ru_ge P d (p + 1)
    unfold ru
    split <;> omega
theorem ru_in (P : Nat → Bool) : ∀ d p i, p ≤ i → i < ru P d p → P i = true
  | 0, p, i, h1, h2 => by unfold ru at h2; omega
  | d + 1, p, i, h1, h2 => by
    unfold ru at h2
    by_cases h : P p = true
    · rw [if_pos h] at h2
      by_cases e : i = p
      · subst e; exact h
      · exact ru_in P d (p + 1) i (by omega) h2
    · rw [if_neg h] at h2; omega
theorem ru_end (P : Nat → Bool) : ∀ d p, ru P d p < p + d → P (ru P d p) = false
  | 0, p, h => by unfold ru at h; omega
  | d + 1, p, h => by
    unfold ru at h ⊢
    by_cases q : P p = true
    · rw [if_pos q] at h ⊢
      exact ru_end P d (p + 1) (by omega)
    · rw [if_neg q]; simpa using q
/-- what a byte is: 1 a letter, 2 a figure, 3 the sign, 0 none -/
def kd (c : Nat) : Nat := if 97 ≤ c ∧ c ≤ 122 then 1 else if 48 ≤ c ∧ c ≤ 57 then 2 else if c = 59 then 3 else 0
section LX
variable (n : Nat) (b : Nat → Nat)
def hd (p : Nat) : Nat := ru (fun i => b i == 32) (n - p) p
def k0 (p : Nat) : Nat := if hd n b p < n then kd (b (hd n b p)) else 4
def en (p : Nat) : Nat := if hd n b p < n then (if k0 n b p = 3 then hd n b p + 1 else ru (fun i => kd (b i) == k0 n b p) (n - hd n b p) (hd n b p)) else hd n b p
def kk_ (p : Nat) : Nat := if k0 n b p = 2 ∧ 2 < en n b p - hd n b p then 0 else k0 n b p
def vv (h m : Nat) : Nat := if m = 0 then 0 else if m = 1 then b h - 48 else 10 * (b h - 48) + (b (h + 1) - 48)
end LX
/-- the tape, as the class and as the reference have it -/
def Tp7 (n : Nat) (b : Nat → Nat) (σ : ZI) : Prop := n ≤ 160 ∧ σ 37 1 = nI n ∧ ∀ i, i < n → b i < 128 ∧ σ 38 i = nI (b i)
def Tp8 (n : Nat) (b : Nat → Nat) (σ : ZI) : Prop := n ≤ 160 ∧ σ 60 23 = nI n ∧ ∀ i, i < n → b i < 128 ∧ σ 71 i = nI (b i)
theorem hd_ge (n : Nat) (b : Nat → Nat) {p : Nat} (h : p ≤ n) : p ≤ hd n b p ∧ hd n b p ≤ n := by
  have := ru_ge (fun i => b i == 32) (n - p) p
  unfold hd
  omega
theorem k0_le (n : Nat) (b : Nat → Nat) (p : Nat) : k0 n b p ≤ 4 := by
  unfold k0 kd
  repeat' split
  all_goals omega
theorem kk_le (n : Nat) (b : Nat → Nat) (p : Nat) : kk_ n b p ≤ 4 := by
  have := k0_le n b p
  unfold kk_
  split <;> omega
theorem en_ge (n : Nat) (b : Nat → Nat) {p : Nat} (h : p ≤ n) : hd n b p ≤ en n b p ∧ en n b p ≤ n ∧ (hd n b p < n → hd n b p < en n b p) := by
  have h1 := hd_ge n b h
  unfold en
  by_cases hh : hd n b p < n
  · rw [if_pos hh]
    by_cases h3 : k0 n b p = 3
    · rw [if_pos h3]; omega
    · rw [if_neg h3]
      have h2 := ru_ge (fun i => kd (b i) == k0 n b p) (n - hd n b p) (hd n b p)
      refine ⟨h2.1, by omega, fun _ => ?_⟩
      obtain ⟨d, hd'⟩ : ∃ d, n - hd n b p = d + 1 := ⟨n - hd n b p - 1, by omega⟩
      rw [hd']
      unfold ru
      have e : k0 n b p = kd (b (hd n b p)) := by unfold k0; rw [if_pos hh]
      rw [e]
      simp only [beq_self_eq_true, if_true]
      have := ru_ge (fun i => kd (b i) == kd (b (hd n b p))) d (hd n b p + 1)
      omega
  · rw [if_neg hh]; omega
/-- the class's token -/
def tf (g : Nat → Int32) (x k y : Int32) : Nat → Int32 := fun i => if i = 2 then x else if i = 3 then k else if i = 4 then y else g i
def T37 (σ : ZI) (x k y : Int32) : ZI := va_up σ 37 (tf (σ 37) x k y)
theorem k3 (i : Nat) : i = 2 ∨ i = 3 ∨ i = 4 ∨ (i ≠ 2 ∧ i ≠ 3 ∧ i ≠ 4) := by omega
theorem t37_2 (σ : ZI) (x k y v : Int32) : va_up (T37 σ x k y) 37 (upd ((T37 σ x k y) 37) 2 v) = T37 σ v k y := by
  unfold T37; rw [bx_uu]; congr 1; funext i
  rcases k3 i with rfl | rfl | rfl | ⟨a, b, c⟩ <;> first | rfl | simp [upd, va_up, tf, a, b, c]
theorem t37_3 (σ : ZI) (x k y v : Int32) : va_up (T37 σ x k y) 37 (upd ((T37 σ x k y) 37) 3 v) = T37 σ x v y := by
  unfold T37; rw [bx_uu]; congr 1; funext i
  rcases k3 i with rfl | rfl | rfl | ⟨a, b, c⟩ <;> first | rfl | simp [upd, va_up, tf, a, b, c]
theorem t37_4 (σ : ZI) (x k y v : Int32) : va_up (T37 σ x k y) 37 (upd ((T37 σ x k y) 37) 4 v) = T37 σ x k v := by
  unfold T37; rw [bx_uu]; congr 1; funext i
  rcases k3 i with rfl | rfl | rfl | ⟨a, b, c⟩ <;> first | rfl | simp [upd, va_up, tf, a, b, c]
theorem t37_id (σ : ZI) : T37 σ (σ 37 2) (σ 37 3) (σ 37 4) = σ := by
  unfold T37
  have : tf (σ 37) (σ 37 2) (σ 37 3) (σ 37 4) = σ 37 := by
    funext i
    rcases k3 i with rfl | rfl | rfl | ⟨a, b, c⟩ <;> first | rfl | simp [tf, a, b, c]
  rw [this, up_id]
theorem by7_n {n : Nat} {b : Nat → Nat} {σ : ZI} (h : Tp7 n b σ) {i : Nat} (hi : i < n) (x k y : Int32) : f_X5_byteAt (T37 σ x k y) (nI i) = some (nI (b i)) := by
  obtain ⟨a, c, d⟩ := h
  unfold f_X5_byteAt
  rw [if_neg (nI_pos (by omega)), show (T37 σ x k y) 37 1 = _ from c, if_neg (nI_ge (by omega) (by omega)), if_neg (nI_ge (by omega) (by omega)), inB_n (by omega) (by omega), if_pos rfl, nI_clamp (by omega)]
  exact congrArg some (d i hi).2
theorem ko_n : ∀ c, c < 128 → f_X5_kindOf (nI c) = some (nI (kd c)) := by decide +kernel
theorem kd_le (c : Nat) : kd c ≤ 3 := by
  unfold kd
  repeat' split
  all_goals omega
theorem rt_0 {n : Nat} {b : Nat → Nat} {σ : ZI} (h : Tp7 n b σ) (k y : Int32) : ∀ (d p fu : Nat), p + d = n → d < fu → f_X5_readToken_0 fu (T37 σ (nI p) k y) = f_X5_readToken_37 (T37 σ (nI (ru (fun i => b i == 32) d p)) k y) := by
  obtain ⟨a, c, e⟩ := id h
  intro d
  induction d with
  | zero =>
    intro p fu h1 h2
    obtain ⟨fu, rfl⟩ : ∃ m, fu = m + 1 := ⟨fu - 1, by omega⟩
    obtain rfl : p = n := by omega
    rw [f_X5_readToken_0, show (T37 σ (nI p) k y) 37 1 = _ from c, show (T37 σ (nI p) k y) 37 2 = nI p from rfl, if_pos (Int32.le_refl _)]
    rfl
  | succ d ih =>
    intro p fu h1 h2
    obtain ⟨fu, rfl⟩ : ∃ m, fu = m + 1 := ⟨fu - 1, by omega⟩
    have hb := (e p (by omega)).1
    rw [f_X5_readToken_0, show (T37 σ (nI p) k y) 37 1 = _ from c, show (T37 σ (nI p) k y) 37 2 = nI p from rfl, if_neg (nI_ge (by omega) (by omega)), by7_n h (by omega), bso]
    unfold ru
    by_cases z : b p = 32
    · rw [if_pos (by rw [z]; rfl), ltq, t37_2, nI_1, ih (p + 1) fu (by omega) (by omega), if_pos (by simp [z])]
    · rw [if_neg (show ¬ nI (b p) = (32 : Int32) from fun w => z (nI_inj (b := 32) (by omega) (by omega) w)), if_neg (by simp [z])]
theorem rt_75 {n : Nat} {b : Nat → Nat} {σ : ZI} (h : Tp7 n b σ) {K : Nat} (hK : K ≤ 4) (h0 : Nat) (hh : h0 < 2 ^ 20) : ∀ (d p fu : Nat), p + d = n → d < fu → h0 ≤ p → (K = 3 → h0 < p) → f_X5_readToken_75 fu (T37 σ (nI p) (nI K) (nI h0)) = f_X5_readToken_136 (T37 σ (nI (if K = 3 then p else ru (fun i => kd (b i) == K) d p)) (nI K) (nI h0)) := by
  obtain ⟨a, c, e⟩ := id h
  intro d
  induction d with
  | zero =>
    intro p fu h1 h2 h3 h4
    obtain ⟨fu, rfl⟩ : ∃ m, fu = m + 1 := ⟨fu - 1, by omega⟩
    obtain rfl : p = n := by omega
    rw [f_X5_readToken_75, show (T37 σ (nI p) (nI K) (nI h0)) 37 1 = _ from c, show (T37 σ (nI p) (nI K) (nI h0)) 37 2 = nI p from rfl, if_pos (Int32.le_refl _)]
    have : (if K = 3 then p else ru (fun i => kd (b i) == K) 0 p) = p := by split <;> rfl
    rw [this]
  | succ d ih =>
    intro p fu h1 h2 h3 h4
    obtain ⟨fu, rfl⟩ : ∃ m, fu = m + 1 := ⟨fu - 1, by omega⟩
    have hb := (e p (by omega)).1
    have hk := kd_le (b p)
    rw [f_X5_readToken_75, show (T37 σ (nI p) (nI K) (nI h0)) 37 1 = _ from c, show (T37 σ (nI p) (nI K) (nI h0)) 37 2 = nI p from rfl, if_neg (nI_ge (by omega) (by omega)), by7_n h (by omega), bso, ko_n _ hb, bso, show (T37 σ (nI p) (nI K) (nI h0)) 37 3 = nI K from rfl, show (T37 σ (nI p) (nI K) (nI h0)) 37 4 = nI h0 from rfl]
    unfold f_X5_readToken_123
    rw [ltq, t37_2, show (T37 σ (nI p) (nI K) (nI h0)) 37 2 = nI p from rfl, nI_1]
    by_cases z : kd (b p) = K
    · rw [if_pos (by rw [z])]
      by_cases z3 : K = 3
      · rw [if_pos (by rw [z3]; rfl), if_neg (fun w => absurd (nI_inj (by omega) (by omega) w) (by have := h4 z3; omega)), if_pos z3]
      · rw [if_neg (show ¬ nI K = (3 : Int32) from fun w => z3 (nI_inj (b := 3) (by omega) (by omega) w))]
        dsimp only
        rw [ih (p + 1) fu (by omega) (by omega) (by omega) (fun w => absurd w z3), if_neg z3, if_neg z3]
        have e2 : ru (fun i => kd (b i) == K) (d + 1) p = ru (fun i => kd (b i) == K) d (p + 1) := by
          show (if (kd (b p) == K) = true then _ else _) = _
          rw [if_pos (by simp [z])]
        rw [e2]
    · rw [if_neg (fun w => z (nI_inj (by omega) (by omega) w))]
      have e2 : (if K = 3 then p else ru (fun i => kd (b i) == K) (d + 1) p) = p := by
        split
        · rfl
        · show (if (kd (b p) == K) = true then _ else _) = _
          rw [if_neg (by simp [z])]
      rw [e2]
theorem lex7 {n : Nat} {b : Nat → Nat} {σ : ZI} (h : Tp7 n b σ) {p : Nat} (hp : p ≤ n) (h2 : σ 37 2 = nI p) : f_X5_readToken σ = some (T37 σ (nI (en n b p)) (nI (kk_ n b p)) (nI (hd n b p))) := by
  obtain ⟨a, c, e⟩ := id h
  have hh := hd_ge n b hp
  have he := en_ge n b hp
  have e0 : f_X5_readToken σ = f_X5_readToken_37 (T37 σ (nI (hd n b p)) (σ 37 3) (σ 37 4)) := by
    have := rt_0 h (σ 37 3) (σ 37 4) (n - p) p 3000 (by omega) (by omega)
    rw [← h2, t37_id] at this
    exact this
  rw [e0]
  unfold f_X5_readToken_37 f_X5_readToken_72
  rw [ltq, t37_4, show (T37 σ (nI (hd n b p)) (σ 37 3) (σ 37 4)) 37 2 = nI (hd n b p) from rfl, show (T37 σ (nI (hd n b p)) (σ 37 3) (nI (hd n b p))) 37 1 = _ from c, show (T37 σ (nI (hd n b p)) (σ 37 3) (nI (hd n b p))) 37 2 = nI (hd n b p) from rfl]
  have fin : ∀ K, K ≤ 4 → k0 n b p = K → f_X5_readToken_136 (T37 σ (nI (en n b p)) (nI K) (nI (hd n b p))) = some (T37 σ (nI (en n b p)) (nI (kk_ n b p)) (nI (hd n b p))) := by
    intro K hK hk
    unfold f_X5_readToken_136
    rw [show (T37 σ (nI (en n b p)) (nI K) (nI (hd n b p))) 37 3 = nI K from rfl, show (T37 σ (nI (en n b p)) (nI K) (nI (hd n b p))) 37 2 = nI (en n b p) from rfl, show (T37 σ (nI (en n b p)) (nI K) (nI (hd n b p))) 37 4 = nI (hd n b p) from rfl, pk_sub he.1, ltq, t37_3]
    unfold kk_
    rw [hk]
    by_cases z : K = 2
    · rw [if_pos (by rw [z]; rfl)]
      by_cases w : 2 < en n b p - hd n b p
      · rw [if_neg (show ¬ nI (en n b p - hd n b p) ≤ 2 from nI_ge (a := 2) w (by omega)), if_pos ⟨z, w⟩]
        rfl
      · rw [if_pos (show nI (en n b p - hd n b p) ≤ 2 from nI_le (b := 2) (by omega) (by omega)), if_neg (fun q => w q.2)]
    · rw [if_neg (show ¬ nI K = (2 : Int32) from fun w => z (nI_inj (b := 2) (by omega) (by omega) w)), if_neg (fun q => z q.1)]
  by_cases hn : hd n b p < n
  · have ek : k0 n b p = kd (b (hd n b p)) := by unfold k0; rw [if_pos hn]
    have hk := kd_le (b (hd n b p))
    rw [if_neg (nI_ge hn (by omega)), by7_n h hn, bso, ko_n _ (e _ hn).1, bso, ltq, t37_3, ← ek]
    by_cases z3 : k0 n b p = 3
    · have step : f_X5_readToken_75 3000 (T37 σ (nI (hd n b p)) (nI (k0 n b p)) (nI (hd n b p))) = f_X5_readToken_75 2999 (T37 σ (nI (hd n b p + 1)) (nI (k0 n b p)) (nI (hd n b p))) := by
        rw [f_X5_readToken_75, show (T37 σ (nI (hd n b p)) (nI (k0 n b p)) (nI (hd n b p))) 37 1 = _ from c, show (T37 σ (nI (hd n b p)) (nI (k0 n b p)) (nI (hd n b p))) 37 2 = nI (hd n b p) from rfl, if_neg (nI_ge hn (by omega)), by7_n h hn, bso, ko_n _ (e _ hn).1, bso, show (T37 σ (nI (hd n b p)) (nI (k0 n b p)) (nI (hd n b p))) 37 3 = nI (k0 n b p) from rfl, show (T37 σ (nI (hd n b p)) (nI (k0 n b p)) (nI (hd n b p))) 37 4 = nI (hd n b p) from rfl, if_pos (by rw [ek]), if_pos (by rw [z3]; rfl), if_pos rfl]
        unfold f_X5_readToken_123
        rw [ltq, t37_2, show (T37 σ (nI (hd n b p)) (nI (k0 n b p)) (nI (hd n b p))) 37 2 = nI (hd n b p) from rfl, nI_1]
      rw [step, rt_75 h (k0_le n b p) (hd n b p) (by omega) (n - (hd n b p + 1)) (hd n b p + 1) 2999 (by omega) (by omega) (by omega) (fun _ => by omega), if_pos z3]
      have ee : en n b p = hd n b p + 1 := by unfold en; rw [if_pos hn, if_pos z3]
      rw [← ee]
      exact fin _ (k0_le n b p) rfl
    · rw [rt_75 h (k0_le n b p) (hd n b p) (by omega) (n - hd n b p) (hd n b p) 3000 (by omega) (by omega) (by omega) (fun w => absurd w z3), if_neg z3]
      have ee : en n b p = ru (fun i => kd (b i) == k0 n b p) (n - hd n b p) (hd n b p) := by unfold en; rw [if_pos hn, if_neg z3]
      rw [← ee]
      exact fin _ (k0_le n b p) rfl
  · have e1 : hd n b p = n := by omega
    have ek : k0 n b p = 4 := by unfold k0; rw [if_neg hn]
    have ee : en n b p = hd n b p := by unfold en; rw [if_neg hn]
    have := rt_75 h (K := 4) (by omega) (hd n b p) (by omega) 0 (hd n b p) 3000 (by omega) (by omega) (by omega) (fun w => by omega)
    rw [if_pos (nI_le (by omega) (by omega)), ltq, t37_3, show (4 : Int32) = nI 4 from rfl, this, if_neg (by omega)]
    have f4 := fin 4 (by omega) ek
    rw [ee] at f4
    exact f4.trans (by rw [ee])
