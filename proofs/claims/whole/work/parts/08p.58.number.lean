/-! numbers, on both sides *-/
section NR
variable (n : Nat) (b : Nat → Nat)
def VV (p : Nat) : Nat := vv b (hd n b p) (en n b p - hd n b p)
/-- the fault of a number that should stand at p -/
def nf (p lo hi : Nat) : Nat := if kk_ n b p = 0 then 1 else if kk_ n b p ≠ 2 then 2 else if VV n b p < lo ∨ hi < VV n b p then 3 else 0
end NR
theorem nf_0 {n : Nat} {b : Nat → Nat} {p lo hi : Nat} (h : nf n b p lo hi = 0) : kk_ n b p = 2 ∧ lo ≤ VV n b p ∧ VV n b p ≤ hi := by
  unfold nf at h
  by_cases h1 : kk_ n b p = 0
  · rw [if_pos h1] at h; omega
  · rw [if_neg h1] at h
    by_cases h2 : kk_ n b p ≠ 2
    · rw [if_pos h2] at h; omega
    · rw [if_neg h2] at h
      by_cases h3 : VV n b p < lo ∨ hi < VV n b p
      · rw [if_pos h3] at h; omega
      · exact ⟨Decidable.of_not_not h2, by omega, by omega⟩
theorem nf_le (n : Nat) (b : Nat → Nat) (p lo hi : Nat) : nf n b p lo hi ≤ 3 := by
  unfold nf
  repeat' split
  all_goals omega
/-- figures of a token that is a number -/
theorem num_t {n : Nat} {b : Nat → Nat} {p : Nat} (hp : p ≤ n) (hk : kk_ n b p = 2) : hd n b p < n ∧ (en n b p - hd n b p = 1 ∨ en n b p - hd n b p = 2) ∧ (∀ i, i < en n b p - hd n b p → 48 ≤ b (hd n b p + i) ∧ b (hd n b p + i) ≤ 57) := by
  have he := en_ge n b hp
  have k2 : k0 n b p = 2 ∧ ¬ 2 < en n b p - hd n b p := by
    unfold kk_ at hk
    by_cases z : k0 n b p = 2 ∧ 2 < en n b p - hd n b p
    · rw [if_pos z] at hk; omega
    · rw [if_neg z] at hk
      exact ⟨hk, fun w => z ⟨hk, w⟩⟩
  have hn : hd n b p < n := by
    have h := k2.1
    unfold k0 at h
    by_cases z : hd n b p < n
    · exact z
    · rw [if_neg z] at h; omega
  refine ⟨hn, by have := he.2.2 hn; omega, fun i hi => ?_⟩
  have ee : en n b p = ru (fun i => kd (b i) == 2) (n - hd n b p) (hd n b p) := by unfold en; rw [if_pos hn, if_neg (by omega), k2.1]
  have := ru_in (fun i => kd (b i) == 2) (n - hd n b p) (hd n b p) (hd n b p + i) (by omega) (by omega)
  exact kd2 (by simpa using this)
theorem VV_b {n : Nat} {b : Nat → Nat} {p : Nat} (hp : p ≤ n) (hk : kk_ n b p = 2) : VV n b p ≤ 99 := by
  obtain ⟨h1, h2, h3⟩ := num_t hp hk
  unfold VV vv
  rcases h2 with h | h
  · have := h3 0 (by omega)
    rw [h, if_neg (by omega), if_pos rfl]
    rw [Nat.add_zero] at this
    omega
  · have a := h3 0 (by omega)
    have c := h3 1 (by omega)
    rw [h, if_neg (by omega), if_neg (by omega)]
    rw [Nat.add_zero] at a
    omega
/-- the class -/
def F7 (σ σ' : ZI) : Prop := ∀ c i, ¬ (c = 37 ∧ 2 ≤ i ∧ i ≤ 4) → σ' c i = σ c i
def Ff (σ σ' : ZI) : Prop := ∀ c i, ¬ (c = 37 ∧ 2 ≤ i ∧ i ≤ 4) → ¬ (c = 39 ∧ 3 ≤ i ∧ i ≤ 4) → σ' c i = σ c i
def flt (f q : Nat) (σ : ZI) : Prop := σ 39 3 = nI f ∧ σ 39 4 = nI q
theorem F7_Ff {σ σ' : ZI} (h : F7 σ σ') : Ff σ σ' := fun c i a _ => h c i a
theorem F7_tr {a b c : ZI} (h : F7 a b) (h2 : F7 b c) : F7 a c := fun x i q => (h2 x i q).trans (h x i q)
theorem Ff_tr {a b c : ZI} (h : Ff a b) (h2 : Ff b c) : Ff a c := fun x i q r => (h2 x i q r).trans (h x i q r)
theorem Ff_sg {σ σ' : ZI} (h : Ff σ σ') : Sg σ σ' := fun c i q _ => h c i (by
  rintro ⟨rfl, h1, h2⟩
  have : i = 2 ∨ i = 3 ∨ i = 4 := by omega
  rcases this with rfl | rfl | rfl <;> exact q rfl) (by
  rintro ⟨rfl, h1, h2⟩
  have : i = 3 ∨ i = 4 := by omega
  rcases this with rfl | rfl <;> exact q rfl)
theorem Tp7_Ff {n : Nat} {b : Nat → Nat} {σ σ' : ZI} (h : Ff σ σ') (q : Tp7 n b σ) : Tp7 n b σ' := ⟨q.1, (h _ _ (by omega) (by omega)).trans q.2.1, fun i hi => ⟨(q.2.2 i hi).1, (h _ _ (by omega) (by omega)).trans (q.2.2 i hi).2⟩⟩
theorem T37_F7 (σ : ZI) (x k y : Int32) : F7 σ (T37 σ x k y) := fun c i h => by
  by_cases hc : c = 37
  · subst hc
    show tf (σ 37) x k y i = σ 37 i
    have : i ≠ 2 ∧ i ≠ 3 ∧ i ≠ 4 := by omega
    obtain ⟨a, b, c⟩ := this
    simp [tf, a, b, c]
  · show va_up σ 37 _ c i = _
    simp only [va_up, if_neg hc]
theorem ref7 (σ : ZI) (f : Nat) {q : Nat} (h : σ 37 4 = nI q) : ∃ σ', f_X2_refuse σ (nI f) = some (0, σ') ∧ Ff σ σ' ∧ flt f q σ' := by
  unfold f_X2_refuse
  rw [ltq, ltq]
  refine ⟨_, rfl, fun c i h1 h2 => ?_, ?_, ?_⟩
  · rw [up_ne _ (by omega), up_ne _ (by omega)]
  · rw [up_ne _ (.inr (by omega)), up_same]
  · rw [up_same, up_ne _ (.inl (by omega)), h]
theorem tt7 {n : Nat} {b : Nat → Nat} {p : Nat} {σ : ZI} (h : Tp7 n b σ) (hp : p ≤ n) (h2 : σ 37 2 = nI p) : (kk_ n b p = 0 → ∃ σ', f_X2_takeToken σ = some (0, σ') ∧ Ff σ σ' ∧ flt 1 (hd n b p) σ') ∧ (kk_ n b p ≠ 0 → ∃ σ', f_X2_takeToken σ = some (1, σ') ∧ F7 σ σ' ∧ At7 n b p σ') := by
  have kb := kk_le n b p
  unfold f_X2_takeToken
  rw [lex7 h hp h2, bso, show (T37 σ (nI (en n b p)) (nI (kk_ n b p)) (nI (hd n b p))) 37 3 = nI (kk_ n b p) from rfl]
  have f := T37_F7 σ (nI (en n b p)) (nI (kk_ n b p)) (nI (hd n b p))
  refine ⟨fun z => ?_, fun z => ?_⟩
  · obtain ⟨σ', r1, r2, r3⟩ := ref7 (T37 σ (nI (en n b p)) (nI (kk_ n b p)) (nI (hd n b p))) 1 (q := hd n b p) rfl
    rw [if_pos (by rw [z]; rfl), show f_X2_refuse (T37 σ (nI (en n b p)) (nI (kk_ n b p)) (nI (hd n b p))) 1 = _ from r1, bso]
    exact ⟨σ', rfl, Ff_tr (F7_Ff f) r2, r3⟩
  · rw [if_neg (nI_ne0 (by omega) (by omega))]
    exact ⟨_, rfl, f, Tp7_Ff (F7_Ff f) h, rfl, rfl, rfl⟩
theorem nr7 {n : Nat} {b : Nat → Nat} {p : Nat} {σ : ZI} (h : At7 n b p σ) (hp : p ≤ n) (hk : kk_ n b p = 2) : f_X5_numberRead σ = some (nI (VV n b p)) := by
  obtain ⟨a1, a2, a3, a4⟩ := h
  obtain ⟨h1, h2, h3⟩ := num_t hp hk
  have he := en_ge n b hp
  have n160 := a1.1
  have d0 := h3 0 (by omega)
  rw [Nat.add_zero] at d0
  unfold f_X5_numberRead
  rw [a4, by7' a1 h1, bso, a2, pk_sub he.1, show (48 : Int32) = nI 48 from rfl, pk_sub d0.1]
  unfold VV vv
  rcases h2 with z | z
  · rw [if_pos (by rw [z]; rfl), z, if_neg (by omega), if_pos rfl]
  · have d1 := h3 1 (by omega)
    rw [z, if_neg (show ¬ nI 2 = (1 : Int32) by decide), nI_1, by7' a1 (by omega), bso, show (10 : Int32) * nI (b (hd n b p) - 48) = nI (10 * (b (hd n b p) - 48)) from pk_mul 10 _, nI_add, pk_sub (by omega), if_neg (by omega), if_neg (by omega)]
    congr 2
    omega
theorem tn7 {n : Nat} {b : Nat → Nat} {p lo hi : Nat} {σ : ZI} (h : Tp7 n b σ) (hp : p ≤ n) (h2 : σ 37 2 = nI p) (hhi : hi ≤ 99) (hlo : lo ≤ 99) : (nf n b p lo hi ≠ 0 → ∃ σ', f_X2_takeNumber σ (nI lo) (nI hi) = some (-1, σ') ∧ Ff σ σ' ∧ flt (nf n b p lo hi) (hd n b p) σ') ∧ (nf n b p lo hi = 0 → ∃ σ', f_X2_takeNumber σ (nI lo) (nI hi) = some (nI (VV n b p), σ') ∧ F7 σ σ' ∧ At7 n b p σ') := by
  have kb := kk_le n b p
  obtain ⟨t1, t2⟩ := tt7 h hp h2
  unfold f_X2_takeNumber f_X2_takeNumber_46
  by_cases z : kk_ n b p = 0
  · obtain ⟨σ', r1, r2, r3⟩ := t1 z
    have e : nf n b p lo hi = 1 := by unfold nf; rw [if_pos z]
    rw [r1, bso, e]
    exact ⟨fun _ => ⟨σ', rfl, r2, r3⟩, fun w => absurd w (by omega)⟩
  · obtain ⟨s1, r1, r2, r3⟩ := t2 z
    rw [r1, bso]
    dsimp only
    rw [if_neg (by decide)]
    have f1 : ∀ f, ∃ σ', f_X2_refuse s1 (nI f) = some (0, σ') ∧ Ff σ σ' ∧ flt f (hd n b p) σ' := fun f => by
      obtain ⟨σ', x1, x2, x3⟩ := ref7 s1 f r3.2.2.2
      exact ⟨σ', x1, Ff_tr (F7_Ff r2) x2, x3⟩
    by_cases z2 : kk_ n b p = 2
    · have vb := VV_b hp z2
      rw [if_pos (by rw [r3.2.2.1, z2]; rfl), nr7 r3 hp z2, bso]
      by_cases w : VV n b p < lo ∨ hi < VV n b p
      · have e : nf n b p lo hi = 3 := by unfold nf; rw [if_neg z, if_neg (fun q => q z2), if_pos w]
        rw [e]
        refine ⟨fun _ => ?_, fun w => absurd w (by omega)⟩
        obtain ⟨σ', x1, x2, x3⟩ := f1 3
        refine ⟨σ', ?_, x2, x3⟩
        by_cases w1 : VV n b p < lo
        · rw [if_pos (nI_lt w1 (by omega)), show f_X2_refuse s1 3 = _ from x1, bso]
        · rw [if_neg (nI_nlt (by omega) (by omega)), if_neg (nI_ge (by omega) (by omega)), show f_X2_refuse s1 3 = _ from x1, bso]
      · have e : nf n b p lo hi = 0 := by unfold nf; rw [if_neg z, if_neg (fun q => q z2), if_neg w]
        rw [e]
        refine ⟨fun w => absurd rfl w, fun _ => ⟨s1, ?_, r2, r3⟩⟩
        rw [if_neg (nI_nlt (by omega) (by omega)), if_pos (nI_le (by omega) (by omega))]
    · have e : nf n b p lo hi = 2 := by unfold nf; rw [if_neg z, if_pos z2]
      rw [e, if_neg (show ¬ s1 37 3 = 2 from fun q => z2 (nI_inj (b := 2) (by omega) (by omega) (r3.2.2.1.symm.trans q)))]
      refine ⟨fun _ => ?_, fun w => absurd w (by omega)⟩
      obtain ⟨σ', x1, x2, x3⟩ := f1 2
      exact ⟨σ', by rw [show f_X2_refuse s1 2 = _ from x1, bso], x2, x3⟩
/-- the reference -/
def BR (f q : Nat) (σ : ZI) : Prop := σ 60 25 = nI f ∧ σ 60 26 = nI q
theorem fail8 {σ : ZI} (f : Nat) {q : Nat} (h0 : σ 60 25 = 0) (h : σ 60 28 = nI q) : ∃ σ', f_X8_fails σ (nI f) = some σ' ∧ Fr8 σ σ' ∧ BR f q σ' := by
  unfold f_X8_fails
  rw [if_pos h0, ltq, ltq]
  refine ⟨_, rfl, fun c i h1 => ?_, ?_, ?_⟩
  · rw [up_ne _ (by omega), up_ne _ (by omega)]
  · rw [up_ne _ (.inr (by omega)), up_same]
  · rw [up_same, up_ne _ (.inr (by omega)), h]
theorem fail8_b {σ : ZI} {f q : Nat} (hf : 1 ≤ f) (hf2 : f < 10) (h : BR f q σ) (g : Int32) : f_X8_fails σ g = some σ := by
  unfold f_X8_fails
  rw [h.1, if_neg (nI_ne0 (by omega) (by omega))]
theorem num8_b {σ : ZI} {f q : Nat} (hf : 1 ≤ f) (hf2 : f < 10) (h : BR f q σ) (lo hi : Int32) : f_X8_number σ lo hi = some (lo, σ) := by
  have z : ¬ σ 60 25 = 0 := by rw [h.1]; exact nI_ne0 (by omega) (by omega)
  unfold f_X8_number f_X8_number_20 f_X8_number_47 f_X8_number_62
  rw [if_neg z, if_neg z, if_neg z, step8_b hf hf2 h.1, bso]
theorem inN {v lo hi : Nat} (hv : v < 2 ^ 20) (hlo : lo < 2 ^ 20) (hhi : hi < 2 ^ 20) : f_X8_in (nI v).toInt64 (nI lo).toInt64 (nI hi).toInt64 = some (if v < lo ∨ hi < v then 0 else 1) := by
  rw [in_at _ _ (nI lo) (nI hi) rfl rfl]
  simp only [nI_ltI (show v < 2 ^ 31 by omega) (show lo < 2 ^ 31 by omega), nI_ltI (show hi < 2 ^ 31 by omega) (show v < 2 ^ 31 by omega)]
theorem num8 {n : Nat} {b : Nat → Nat} {p lo hi : Nat} {σ : ZI} (h : Tp8 n b σ) (hp : p ≤ n) (r : RY n b p σ) (hhi : hi ≤ 99) (hlo : lo ≤ 99) : (nf n b p lo hi ≠ 0 → ∃ σ', f_X8_number σ (nI lo) (nI hi) = some (nI lo, σ') ∧ Fr8 σ σ' ∧ BR (nf n b p lo hi) (hd n b p) σ') ∧ (nf n b p lo hi = 0 → ∃ σ', f_X8_number σ (nI lo) (nI hi) = some (nI (VV n b p), σ') ∧ Fr8 σ σ' ∧ RY n b (en n b p) σ') := by
  have kb := kk_le n b p
  have he := en_ge n b hp
  by_cases z : kk_ n b p = 0
  · have e : nf n b p lo hi = 1 := by unfold nf; rw [if_pos z]
    have br : BR 1 (hd n b p) σ := r.1 z
    rw [e]
    exact ⟨fun _ => ⟨σ, num8_b (by omega) (by omega) br _ _, Fr8_rf σ, br⟩, fun w => absurd w (by omega)⟩
  · obtain ⟨y0, y1, y2, y3, y4⟩ := r.2 z
    by_cases z2 : kk_ n b p = 2
    · have vb := VV_b hp z2
      have e30 : σ 60 30 = nI (VV n b p) := y4 z2
      by_cases w : VV n b p < lo ∨ hi < VV n b p
      · have e : nf n b p lo hi = 3 := by unfold nf; rw [if_neg z, if_neg (fun q => q z2), if_pos w]
        rw [e]
        refine ⟨fun _ => ?_, fun w => absurd w (by omega)⟩
        obtain ⟨σ', x1, x2, x3⟩ := fail8 3 y0 y1
        refine ⟨σ', ?_, x2, x3⟩
        have nz : ¬ σ' 60 25 = 0 := by rw [x3.1]; decide
        unfold f_X8_number f_X8_number_20 f_X8_number_47 f_X8_number_62
        rw [if_pos y0, if_pos (by rw [y3, z2]; rfl), if_pos y0, e30, inN (by omega) (by omega) (by omega), if_pos w, bso, if_pos rfl, show f_X8_fails σ 3 = _ from x1, bso, if_neg nz, step8_b (f := 3) (by omega) (by omega) x3.1, bso]
      · have e : nf n b p lo hi = 0 := by unfold nf; rw [if_neg z, if_neg (fun q => q z2), if_neg w]
        rw [e]
        refine ⟨fun w => absurd rfl w, fun _ => ?_⟩
        obtain ⟨σ', x1, x2, x3⟩ := step8 h he.2.1 y0 y2
        refine ⟨σ', ?_, x2, x3⟩
        unfold f_X8_number f_X8_number_20 f_X8_number_47 f_X8_number_62
        rw [if_pos y0, if_pos (by rw [y3, z2]; rfl), if_pos y0, e30, inN (by omega) (by omega) (by omega), if_neg w, bso, if_neg (by decide), if_pos y0, x1, bso]
    · have e : nf n b p lo hi = 2 := by unfold nf; rw [if_neg z, if_pos z2]
      rw [e]
      refine ⟨fun _ => ?_, fun w => absurd w (by omega)⟩
      obtain ⟨σ', x1, x2, x3⟩ := fail8 2 y0 y1
      refine ⟨σ', ?_, x2, x3⟩
      have nz : ¬ σ' 60 25 = 0 := by rw [x3.1]; decide
      have t2 : ¬ σ 60 29 = 2 := by
        rw [y3]
        intro q
        have := nI_inj (b := 2) (by unfold tk_; split <;> omega) (by omega) q
        unfold tk_ at this
        split at this <;> omega
      unfold f_X8_number f_X8_number_20 f_X8_number_47 f_X8_number_62
      rw [if_pos y0, if_neg t2, show f_X8_fails σ 2 = _ from x1, bso, if_neg nz, if_neg nz, step8_b (f := 2) (by omega) (by omega) x3.1, bso]
