/-! the reference's token, one ahead *-/
def tk_ (k : Nat) : Nat := if k = 4 then 0 else k
def gf (g : Nat → Int32) (br ba sp he tk va : Int32) : Nat → Int32 := fun i => if i = 25 then br else if i = 26 then ba else if i = 27 then sp else if i = 28 then he else if i = 29 then tk else if i = 30 then va else g i
def G6 (σ : ZI) (br ba sp he tk va : Int32) : ZI := va_up σ 60 (gf (σ 60) br ba sp he tk va)
theorem kg (k : Nat) : k = 25 ∨ k = 26 ∨ k = 27 ∨ k = 28 ∨ k = 29 ∨ k = 30 ∨ (k ≠ 25 ∧ k ≠ 26 ∧ k ≠ 27 ∧ k ≠ 28 ∧ k ≠ 29 ∧ k ≠ 30) := by omega
section GU
variable (σ : ZI) (br ba sp he tk va v : Int32)
theorem g6_25 : va_up (G6 σ br ba sp he tk va) 60 (upd ((G6 σ br ba sp he tk va) 60) 25 v) = G6 σ v ba sp he tk va := by
  unfold G6; rw [bx_uu]; congr 1; funext k
  rcases kg k with rfl | rfl | rfl | rfl | rfl | rfl | ⟨a, b, c, d, e, f⟩ <;> first | rfl | simp [upd, va_up, gf, a, b, c, d, e, f]
theorem g6_26 : va_up (G6 σ br ba sp he tk va) 60 (upd ((G6 σ br ba sp he tk va) 60) 26 v) = G6 σ br v sp he tk va := by
  unfold G6; rw [bx_uu]; congr 1; funext k
  rcases kg k with rfl | rfl | rfl | rfl | rfl | rfl | ⟨a, b, c, d, e, f⟩ <;> first | rfl | simp [upd, va_up, gf, a, b, c, d, e, f]
theorem g6_27 : va_up (G6 σ br ba sp he tk va) 60 (upd ((G6 σ br ba sp he tk va) 60) 27 v) = G6 σ br ba v he tk va := by
  unfold G6; rw [bx_uu]; congr 1; funext k
  rcases kg k with rfl | rfl | rfl | rfl | rfl | rfl | ⟨a, b, c, d, e, f⟩ <;> first | rfl | simp [upd, va_up, gf, a, b, c, d, e, f]
theorem g6_28 : va_up (G6 σ br ba sp he tk va) 60 (upd ((G6 σ br ba sp he tk va) 60) 28 v) = G6 σ br ba sp v tk va := by
  unfold G6; rw [bx_uu]; congr 1; funext k
  rcases kg k with rfl | rfl | rfl | rfl | rfl | rfl | ⟨a, b, c, d, e, f⟩ <;> first | rfl | simp [upd, va_up, gf, a, b, c, d, e, f]
theorem g6_29 : va_up (G6 σ br ba sp he tk va) 60 (upd ((G6 σ br ba sp he tk va) 60) 29 v) = G6 σ br ba sp he v va := by
  unfold G6; rw [bx_uu]; congr 1; funext k
  rcases kg k with rfl | rfl | rfl | rfl | rfl | rfl | ⟨a, b, c, d, e, f⟩ <;> first | rfl | simp [upd, va_up, gf, a, b, c, d, e, f]
theorem g6_30 : va_up (G6 σ br ba sp he tk va) 60 (upd ((G6 σ br ba sp he tk va) 60) 30 v) = G6 σ br ba sp he tk v := by
  unfold G6; rw [bx_uu]; congr 1; funext k
  rcases kg k with rfl | rfl | rfl | rfl | rfl | rfl | ⟨a, b, c, d, e, f⟩ <;> first | rfl | simp [upd, va_up, gf, a, b, c, d, e, f]
theorem g6_id : G6 σ (σ 60 25) (σ 60 26) (σ 60 27) (σ 60 28) (σ 60 29) (σ 60 30) = σ := by
  unfold G6
  have : gf (σ 60) (σ 60 25) (σ 60 26) (σ 60 27) (σ 60 28) (σ 60 29) (σ 60 30) = σ 60 := by
    funext k
    rcases kg k with rfl | rfl | rfl | rfl | rfl | rfl | ⟨a, b, c, d, e, f⟩ <;> first | rfl | simp [gf, a, b, c, d, e, f]
  rw [this, up_id]
end GU
theorem fails_g (σ : ZI) (ba sp he tk va v : Int32) : f_X8_fails (G6 σ 0 ba sp he tk va) v = some (G6 σ v he sp he tk va) := by
  unfold f_X8_fails
  rw [if_pos (show (G6 σ 0 ba sp he tk va) 60 25 = 0 from rfl), ltq, g6_25, ltq, g6_26]
  rfl
def Fr8 (σ σ' : ZI) : Prop := ∀ c i, ¬ (c = 60 ∧ 25 ≤ i ∧ i ≤ 30) → σ' c i = σ c i
theorem Fr8_rf (σ : ZI) : Fr8 σ σ := fun _ _ _ => rfl
theorem Fr8_tr {a b c : ZI} (h : Fr8 a b) (h2 : Fr8 b c) : Fr8 a c := fun x i q => (h2 x i q).trans (h x i q)
theorem G6_Fr (σ : ZI) (br ba sp he tk va : Int32) : Fr8 σ (G6 σ br ba sp he tk va) := fun x k hk => by
  by_cases hx : x = 60
  · subst hx
    show gf (σ 60) br ba sp he tk va k = σ 60 k
    have : k ≠ 25 ∧ k ≠ 26 ∧ k ≠ 27 ∧ k ≠ 28 ∧ k ≠ 29 ∧ k ≠ 30 := by omega
    obtain ⟨a, b, c, d, e, f⟩ := this
    simp [gf, a, b, c, d, e, f]
  · show va_up σ 60 _ x k = _
    simp only [va_up, if_neg hx]
theorem Tp8_fr {n : Nat} {b : Nat → Nat} {σ σ' : ZI} (h : Fr8 σ σ') (q : Tp8 n b σ) : Tp8 n b σ' := ⟨q.1, (h _ _ (by omega)).trans q.2.1, fun i hi => ⟨(q.2.2 i hi).1, (h _ _ (by omega)).trans (q.2.2 i hi).2⟩⟩
theorem by8_n {n : Nat} {b : Nat → Nat} {σ : ZI} (h : Tp8 n b σ) {i : Nat} (hi : i ≤ n) : f_X8_byteAt σ (nI i) = some (if i < n then nI (b i) else -4) := by
  obtain ⟨a, c, d⟩ := h
  unfold f_X8_byteAt
  rw [c]
  by_cases z : i < n
  · rw [if_neg (nI_ge z (by omega)), inB_n (by omega) (by omega), if_pos rfl, nI_clamp (by omega), (d i z).2, if_pos z]
  · rw [if_pos (nI_le (by omega) (by omega)), if_neg z]
def RY (n : Nat) (b : Nat → Nat) (p : Nat) (σ : ZI) : Prop := (kk_ n b p = 0 → σ 60 25 = 1 ∧ σ 60 26 = nI (hd n b p)) ∧ (kk_ n b p ≠ 0 → σ 60 25 = 0 ∧ σ 60 28 = nI (hd n b p) ∧ σ 60 27 = nI (en n b p) ∧ σ 60 29 = nI (tk_ (kk_ n b p)) ∧ (kk_ n b p = 2 → σ 60 30 = nI (vv b (hd n b p) (en n b p - hd n b p))))
theorem in8_l : ∀ c, c < 128 → f_X8_in (nI c).toInt64 97 122 = some (if kd c = 1 then 1 else 0) := by decide +kernel
theorem in8_f : ∀ c, c < 128 → f_X8_in (nI c).toInt64 48 57 = some (if kd c = 2 then 1 else 0) := by decide +kernel
theorem in8_4 : f_X8_in (-4 : Int32).toInt64 97 122 = some 0 ∧ f_X8_in (-4 : Int32).toInt64 48 57 = some 0 := by decide +kernel
theorem s8_0 {n : Nat} {b : Nat → Nat} {σ : ZI} (h : Tp8 n b σ) (ba he tk va : Int32) : ∀ (d p fu : Nat), p + d = n → d < fu → f_X8_step_8 fu (G6 σ 0 ba (nI p) he tk va) = f_X8_step_8 1 (G6 σ 0 ba (nI (ru (fun i => b i == 32) d p)) he tk va) := by
  intro d
  induction d with
  | zero =>
    intro p fu h1 h2
    obtain ⟨fu, rfl⟩ : ∃ m, fu = m + 1 := ⟨fu - 1, by omega⟩
    obtain rfl : p = n := by omega
    have := by8_n (Tp8_fr (G6_Fr σ 0 ba (nI p) he tk va) h) (i := p) (by omega)
    rw [if_neg (by omega)] at this
    show f_X8_step_8 (fu + 1) (G6 σ 0 ba (nI p) he tk va) = f_X8_step_8 1 (G6 σ 0 ba (nI p) he tk va)
    rw [f_X8_step_8, f_X8_step_8, show (G6 σ 0 ba (nI p) he tk va) 60 27 = nI p from rfl, this, bso, bso, if_neg (by decide), if_neg (by decide)]
  | succ d ih =>
    intro p fu h1 h2
    obtain ⟨fu, rfl⟩ : ∃ m, fu = m + 1 := ⟨fu - 1, by omega⟩
    have hb := (h.2.2 p (by omega)).1
    have e := by8_n (Tp8_fr (G6_Fr σ 0 ba (nI p) he tk va) h) (i := p) (by omega)
    rw [if_pos (by omega)] at e
    unfold ru
    by_cases z : b p = 32
    · rw [f_X8_step_8, show (G6 σ 0 ba (nI p) he tk va) 60 27 = nI p from rfl, e, bso, if_pos (by rw [z]; rfl), ltq, g6_27, nI_1, ih (p + 1) fu (by omega) (by omega), if_pos (by simp [z])]
    · rw [if_neg (show ¬ (b p == 32) = true by simp [z])]
      have z' : ¬ nI (b p) = (32 : Int32) := fun w => z (nI_inj (b := 32) (by omega) (by omega) w)
      rw [f_X8_step_8, f_X8_step_8, show (G6 σ 0 ba (nI p) he tk va) 60 27 = nI p from rfl, e, bso, bso, if_neg z', if_neg z']
theorem s8_84 {n : Nat} {b : Nat → Nat} {σ : ZI} (h : Tp8 n b σ) (ba he tk va : Int32) : ∀ (d p fu : Nat), p + d = n → d < fu → f_X8_step_84 fu (G6 σ 0 ba (nI p) he tk va) = some (G6 σ 0 ba (nI (ru (fun i => kd (b i) == 1) d p)) he 1 va) := by
  intro d
  induction d with
  | zero =>
    intro p fu h1 h2
    obtain ⟨fu, rfl⟩ : ∃ m, fu = m + 1 := ⟨fu - 1, by omega⟩
    obtain rfl : p = n := by omega
    have := by8_n (Tp8_fr (G6_Fr σ 0 ba (nI p) he tk va) h) (i := p) (by omega)
    rw [if_neg (by omega)] at this
    rw [f_X8_step_84, show (G6 σ 0 ba (nI p) he tk va) 60 27 = nI p from rfl, this, bso, in8_4.1, bso, if_pos rfl, ltq, g6_29]
    rfl
  | succ d ih =>
    intro p fu h1 h2
    obtain ⟨fu, rfl⟩ : ∃ m, fu = m + 1 := ⟨fu - 1, by omega⟩
    have hb := (h.2.2 p (by omega)).1
    have e := by8_n (Tp8_fr (G6_Fr σ 0 ba (nI p) he tk va) h) (i := p) (by omega)
    rw [if_pos (by omega)] at e
    unfold ru
    rw [f_X8_step_84, show (G6 σ 0 ba (nI p) he tk va) 60 27 = nI p from rfl, e, bso, in8_l _ hb, bso]
    by_cases z : kd (b p) = 1
    · rw [if_pos z, if_neg (by decide), ltq, g6_27, nI_1, ih (p + 1) fu (by omega) (by omega), if_pos (by simp [z])]
    · rw [if_neg z, if_pos rfl, ltq, g6_29, if_neg (by simp [z])]
theorem kd2 {c : Nat} (h : kd c = 2) : 48 ≤ c ∧ c ≤ 57 := by
  unfold kd at h
  by_cases h1 : 97 ≤ c ∧ c ≤ 122
  · rw [if_pos h1] at h; omega
  · rw [if_neg h1] at h
    by_cases h2 : 48 ≤ c ∧ c ≤ 57
    · exact h2
    · rw [if_neg h2] at h; split at h <;> omega
theorem s8_140 {n : Nat} {b : Nat → Nat} {σ : ZI} (h : Tp8 n b σ) (ba tk : Int32) (h0 : Nat) (hf : ∀ i, h0 ≤ i → i < h0 + 2 → i < ru (fun i => kd (b i) == 2) (n - h0) h0 → kd (b i) = 2) : ∀ (d m fu : Nat), h0 + m + d = n → d < fu → h0 + m ≤ ru (fun i => kd (b i) == 2) (n - h0) h0 → ru (fun i => kd (b i) == 2) d (h0 + m) = ru (fun i => kd (b i) == 2) (n - h0) h0 → ∃ σ', f_X8_step_140 fu (G6 σ 0 ba (nI (h0 + m)) (nI h0) tk (nI (vv b h0 m))) = some σ' ∧ Fr8 σ σ' ∧ (2 < ru (fun i => kd (b i) == 2) (n - h0) h0 - h0 → σ' 60 25 = 1 ∧ σ' 60 26 = nI h0) ∧ (¬ 2 < ru (fun i => kd (b i) == 2) (n - h0) h0 - h0 → σ' 60 25 = 0 ∧ σ' 60 28 = nI h0 ∧ σ' 60 27 = nI (ru (fun i => kd (b i) == 2) (n - h0) h0) ∧ σ' 60 29 = 2 ∧ σ' 60 30 = nI (vv b h0 (ru (fun i => kd (b i) == 2) (n - h0) h0 - h0))) := by
  have n160 := h.1
  obtain ⟨E, hE⟩ : ∃ E, E = ru (fun i => kd (b i) == 2) (n - h0) h0 := ⟨_, rfl⟩
  rw [← hE] at hf ⊢
  have stop : ∀ (m : Nat) (s : ZI), h0 + m = E → E ≤ n → s = G6 σ 0 ba (nI (h0 + m)) (nI h0) 2 (nI (vv b h0 m)) → ∃ σ', ((if (s 60 27 - s 60 28) ≤ 2 then some s else (f_X8_fails s 1).bind fun q13 => some q13) : Option ZI) = some σ' ∧ Fr8 σ σ' ∧ (2 < E - h0 → σ' 60 25 = 1 ∧ σ' 60 26 = nI h0) ∧ (¬ 2 < E - h0 → σ' 60 25 = 0 ∧ σ' 60 28 = nI h0 ∧ σ' 60 27 = nI E ∧ σ' 60 29 = 2 ∧ σ' 60 30 = nI (vv b h0 (E - h0))) := by
    intro m s hm hn hs
    have em : E - h0 = m := by omega
    rw [em, hs, show (G6 σ 0 ba (nI (h0 + m)) (nI h0) 2 (nI (vv b h0 m))) 60 27 = nI (h0 + m) from rfl, show (G6 σ 0 ba (nI (h0 + m)) (nI h0) 2 (nI (vv b h0 m))) 60 28 = nI h0 from rfl, pk_sub (by omega), show h0 + m - h0 = m by omega]
    by_cases z : 2 < m
    · rw [if_neg (show ¬ nI m ≤ 2 from nI_ge (a := 2) z (by omega))]
      rw [fails_g, bso]
      exact ⟨_, rfl, G6_Fr _ _ _ _ _ _ _, fun _ => ⟨rfl, rfl⟩, fun w => absurd z w⟩
    · rw [if_pos (show nI m ≤ 2 from nI_le (b := 2) (by omega) (by omega))]
      exact ⟨_, rfl, G6_Fr _ _ _ _ _ _ _, fun w => absurd w z, fun _ => ⟨rfl, rfl, by rw [← hm]; rfl, rfl, rfl⟩⟩
  intro d
  induction d with
  | zero =>
    intro m fu h1 h2 h3 h4
    obtain ⟨fu, rfl⟩ : ∃ m, fu = m + 1 := ⟨fu - 1, by omega⟩
    have hm : h0 + m = n := by omega
    have := by8_n (Tp8_fr (G6_Fr σ 0 ba (nI (h0 + m)) (nI h0) tk (nI (vv b h0 m))) h) (i := h0 + m) (by omega)
    rw [if_neg (by omega)] at this
    rw [f_X8_step_140, show (G6 σ 0 ba (nI (h0 + m)) (nI h0) tk (nI (vv b h0 m))) 60 27 = nI (h0 + m) from rfl, this, bso, in8_4.2, bso, if_pos rfl, ltq, g6_29]
    exact stop m _ h4 (by rw [← h4]; show h0 + m ≤ n; omega) rfl
  | succ d ih =>
    intro m fu h1 h2 h3 h4
    obtain ⟨fu, rfl⟩ : ∃ m, fu = m + 1 := ⟨fu - 1, by omega⟩
    have hb := (h.2.2 (h0 + m) (by omega)).1
    have e := by8_n (Tp8_fr (G6_Fr σ 0 ba (nI (h0 + m)) (nI h0) tk (nI (vv b h0 m))) h) (i := h0 + m) (by omega)
    rw [if_pos (by omega)] at e
    have h5 : (if (kd (b (h0 + m)) == 2) = true then ru (fun i => kd (b i) == 2) d (h0 + m + 1) else h0 + m) = E := h4
    rw [f_X8_step_140, show (G6 σ 0 ba (nI (h0 + m)) (nI h0) tk (nI (vv b h0 m))) 60 27 = nI (h0 + m) from rfl, e, bso, in8_f _ hb, bso]
    by_cases z : kd (b (h0 + m)) = 2
    · rw [if_pos (by simp [z])] at h5
      have z2 := kd2 z
      have ge := ru_ge (fun i => kd (b i) == 2) d (h0 + m + 1)
      rw [if_pos z, if_neg (by decide), show (G6 σ 0 ba (nI (h0 + m)) (nI h0) tk (nI (vv b h0 m))) 60 28 = nI h0 from rfl, pk_sub (by omega), show h0 + m - h0 = m by omega, bso]
      unfold f_X8_step_201
      rw [ltq, g6_30, ltq, g6_27, ltq, g6_30, ltq, g6_27]
      rw [show ∀ x, (G6 σ 0 ba (nI (h0 + m)) (nI h0) tk x) 60 27 = nI (h0 + m) from fun _ => rfl, show (G6 σ 0 ba (nI (h0 + m)) (nI h0) tk (nI (vv b h0 m))) 60 30 = nI (vv b h0 m) from rfl, nI_1]
      rw [show ∀ x, (G6 σ 0 ba (nI (h0 + m)) (nI h0) tk x) 60 27 = nI (h0 + m) from fun _ => rfl, nI_1]
      have hv : vv b h0 m ≤ 99 := by
        unfold vv
        by_cases w0 : m = 0
        · rw [if_pos w0]; omega
        · rw [if_neg w0]
          have f0 := kd2 (hf h0 (by omega) (by omega) (by omega))
          by_cases w1 : m = 1
          · rw [if_pos w1]; omega
          · rw [if_neg w1]
            have f1 := kd2 (hf (h0 + 1) (by omega) (by omega) (by omega))
            omega
      by_cases w : 2 ≤ m
      · rw [if_pos (show (2 : Int32) ≤ nI m from nI_le (a := 2) w (by omega))]
        have ev : vv b h0 (m + 1) = vv b h0 m := by
          unfold vv
          rw [if_neg (by omega), if_neg (by omega), if_neg (by omega), if_neg (by omega)]
        rw [← ev]
        exact ih (m + 1) fu (by omega) (by omega) (by omega) h5
      · rw [if_neg (show ¬ (2 : Int32) ≤ nI m from nI_ge (b := 2) (by omega) (by omega))]
        have ev : (10 : Int32) * nI (vv b h0 m) + nI (b (h0 + m)) - 48 = nI (vv b h0 (m + 1)) := by
          rw [show (10 : Int32) * nI (vv b h0 m) = nI (10 * vv b h0 m) from pk_mul 10 _, nI_add, show (48 : Int32) = nI 48 from rfl, pk_sub (by omega)]
          congr 1
          have : m = 0 ∨ m = 1 := by omega
          rcases this with rfl | rfl
          · show 10 * 0 + b (h0 + 0) - 48 = b h0 - 48
            rw [Nat.add_zero]; omega
          · show 10 * (b h0 - 48) + b (h0 + 1) - 48 = 10 * (b h0 - 48) + (b (h0 + 1) - 48)
            omega
        rw [ev]
        exact ih (m + 1) fu (by omega) (by omega) (by omega) h5
    · rw [if_neg (by simp [z])] at h5
      rw [if_neg z, if_pos rfl, ltq, g6_29]
      exact stop m _ h5 (by omega) rfl
theorem step8 {n : Nat} {b : Nat → Nat} {σ : ZI} (h : Tp8 n b σ) {p : Nat} (hp : p ≤ n) (h25 : σ 60 25 = 0) (h27 : σ 60 27 = nI p) : ∃ σ', f_X8_step σ = some σ' ∧ Fr8 σ σ' ∧ RY n b p σ' := by
  have n160 := h.1
  have hh := hd_ge n b hp
  have he := en_ge n b hp
  have e0 : f_X8_step σ = f_X8_step_8 1 (G6 σ 0 (σ 60 26) (nI (hd n b p)) (σ 60 28) (σ 60 29) (σ 60 30)) := by
    unfold f_X8_step
    have := s8_0 h (σ 60 26) (σ 60 28) (σ 60 29) (σ 60 30) (n - p) p 3000 (by omega) (by omega)
    rw [← h27, ← h25, g6_id] at this
    rw [if_pos (by rw [h25]; decide), this, h25]
    rfl
  have e1 := by8_n (Tp8_fr (G6_Fr σ 0 (σ 60 26) (nI (hd n b p)) (σ 60 28) (σ 60 29) (σ 60 30)) h) (i := hd n b p) (by omega)
  have e2 := by8_n (Tp8_fr (G6_Fr σ 0 (σ 60 26) (nI (hd n b p)) (nI (hd n b p)) (σ 60 29) (σ 60 30)) h) (i := hd n b p) (by omega)
  have n32 : ¬ (if hd n b p < n then nI (b (hd n b p)) else -4) = (32 : Int32) := by
    by_cases z : hd n b p < n
    · rw [if_pos z]
      have w := ru_end (fun i => b i == 32) (n - p) p (by unfold hd at z; omega)
      have hb := (h.2.2 _ z).1
      have w' : ¬ b (hd n b p) = 32 := by
        unfold hd
        simpa using w
      exact fun q => w' (nI_inj (b := 32) (by omega) (by omega) q)
    · rw [if_neg z]; decide
  rw [e0, f_X8_step_8, show (G6 σ 0 (σ 60 26) (nI (hd n b p)) (σ 60 28) (σ 60 29) (σ 60 30)) 60 27 = nI (hd n b p) from rfl, e1, bso, if_neg n32, ltq, g6_28, show (G6 σ 0 (σ 60 26) (nI (hd n b p)) (nI (hd n b p)) (σ 60 29) (σ 60 30)) 60 27 = nI (hd n b p) from rfl, e2, bso, ltq, g6_30]
  by_cases hn : hd n b p < n
  · have hb := (h.2.2 _ hn).1
    have ek : k0 n b p = kd (b (hd n b p)) := by unfold k0; rw [if_pos hn]
    rw [if_pos hn, if_neg (nI_nm4 (by omega)), in8_l _ hb, bso, in8_f _ hb, bso]
    by_cases z1 : kd (b (hd n b p)) = 1
    · have ee : en n b p = ru (fun i => kd (b i) == 1) (n - hd n b p) (hd n b p) := by unfold en; rw [if_pos hn, if_neg (by rw [ek]; omega), ek, z1]
      have ekk : kk_ n b p = 1 := by unfold kk_; rw [ek, z1, if_neg (by omega)]
      rw [if_pos z1, if_neg (by decide), s8_84 h _ _ _ _ (n - hd n b p) (hd n b p) 3000 (by omega) (by omega), ← ee]
      refine ⟨_, rfl, G6_Fr _ _ _ _ _ _ _, fun w => absurd w (by omega), fun _ => ⟨rfl, rfl, rfl, by rw [ekk]; rfl, fun w => absurd w (by omega)⟩⟩
    · rw [if_neg z1, if_pos rfl]
      by_cases z2 : kd (b (hd n b p)) = 2
      · have ee : en n b p = ru (fun i => kd (b i) == 2) (n - hd n b p) (hd n b p) := by unfold en; rw [if_pos hn, if_neg (by rw [ek]; omega), ek, z2]
        obtain ⟨σ', x1, x2, x3, x4⟩ := s8_140 h (σ 60 26) (σ 60 29) (hd n b p) (fun i h1 _ h3 => by
          have := ru_in (fun i => kd (b i) == 2) (n - hd n b p) (hd n b p) i h1 h3
          simpa using this) (n - hd n b p) 0 3000 (by omega) (by omega) (by have := (ru_ge (fun i => kd (b i) == 2) (n - hd n b p) (hd n b p)).1; omega) rfl
        rw [← ee] at x3 x4
        rw [if_pos z2, if_neg (by decide)]
        refine ⟨σ', x1, x2, fun w => ?_, fun w => ?_⟩
        · refine x3 ?_
          unfold kk_ at w
          rw [ek, z2] at w
          by_cases y : 2 < en n b p - hd n b p
          · exact y
          · rw [if_neg (fun q => y q.2)] at w; omega
        · have y : ¬ 2 < en n b p - hd n b p := by
            intro y
            apply w
            unfold kk_
            rw [ek, z2, if_pos ⟨rfl, y⟩]
          have ekk : kk_ n b p = 2 := by unfold kk_; rw [ek, z2, if_neg (fun q => y q.2)]
          obtain ⟨y1, y2, y3, y4, y5⟩ := x4 y
          exact ⟨y1, y2, y3, by rw [ekk]; exact y4, fun _ => y5⟩
      · rw [if_neg z2, if_pos rfl, ltq, g6_29, ltq, g6_27, show (G6 σ 0 (σ 60 26) (nI (hd n b p)) (nI (hd n b p)) 3 0) 60 27 = nI (hd n b p) from rfl, nI_1]
        by_cases z3 : b (hd n b p) = 59
        · have k3 : kd (b (hd n b p)) = 3 := by rw [z3]; rfl
          have ee : en n b p = hd n b p + 1 := by unfold en; rw [if_pos hn, if_pos (by rw [ek, k3])]
          have ekk : kk_ n b p = 3 := by unfold kk_; rw [ek, k3, if_neg (by omega)]
          rw [if_pos (by rw [z3]; rfl), ← ee]
          exact ⟨_, rfl, G6_Fr _ _ _ _ _ _ _, fun w => absurd w (by omega), fun _ => ⟨rfl, rfl, rfl, by rw [ekk]; rfl, fun w => absurd w (by omega)⟩⟩
        · have k0' : kd (b (hd n b p)) = 0 := by
            unfold kd at z1 z2 ⊢
            by_cases a1 : 97 ≤ b (hd n b p) ∧ b (hd n b p) ≤ 122
            · rw [if_pos a1] at z1; exact absurd rfl z1
            · rw [if_neg a1] at z2 ⊢
              by_cases a2 : 48 ≤ b (hd n b p) ∧ b (hd n b p) ≤ 57
              · rw [if_pos a2] at z2; exact absurd rfl z2
              · rw [if_neg a2, if_neg z3]
          have ekk : kk_ n b p = 0 := by unfold kk_; rw [ek, k0', if_neg (by omega)]
          rw [if_neg (show ¬ nI (b (hd n b p)) = (59 : Int32) from fun w => z3 (nI_inj (b := 59) (by omega) (by omega) w))]
          rw [fails_g, bso]
          exact ⟨_, rfl, G6_Fr _ _ _ _ _ _ _, fun _ => ⟨rfl, rfl⟩, fun w => absurd ekk w⟩
  · have ek : k0 n b p = 4 := by unfold k0; rw [if_neg hn]
    have ee : en n b p = hd n b p := by unfold en; rw [if_neg hn]
    have ekk : kk_ n b p = 4 := by unfold kk_; rw [ek, if_neg (by omega)]
    rw [if_neg hn, if_pos rfl, ltq, g6_29]
    exact ⟨_, rfl, G6_Fr _ _ _ _ _ _ _, fun w => absurd w (by omega), fun _ => ⟨rfl, rfl, by rw [ee]; rfl, by rw [ekk]; rfl, fun w => absurd w (by omega)⟩⟩
/-- a reading that is broken goes no step -/
theorem step8_b {σ : ZI} {f : Nat} (hf : 1 ≤ f) (hf2 : f < 10) (h : σ 60 25 = nI f) : f_X8_step σ = some σ := by
  unfold f_X8_step
  rw [h, if_neg (nI_nle (by omega) (by omega))]
