/-! the calls that change what is told now -/
def tset (t : NN) (r k v : Nat) : NN := fun r' i => if r' = r then (if i = k then v else t r i) else t r' i
theorem tset_same (t : NN) (r k v : Nat) : tset t r k v r k = v := by simp [tset]
theorem tset_ne (t : NN) {r k v r' i : Nat} (h : r' ≠ r ∨ i ≠ k) : tset t r k v r' i = t r' i := by
  unfold tset
  by_cases h1 : r' = r
  · subst h1
    rcases h with h | h
    · exact absurd rfl h
    · rw [if_pos rfl, if_neg h]
  · rw [if_neg h1]
theorem up_same (σ : ZI) (c p : Nat) (v : Int32) : va_up σ c (upd (σ c) p v) c p = v := by simp [va_up, upd]
theorem up_ne (σ : ZI) {c p c' p' : Nat} {v : Int32} (h : c' ≠ c ∨ p' ≠ p) : va_up σ c (upd (σ c) p v) c' p' = σ c' p' := by
  by_cases h1 : c' = c
  · subst h1
    rcases h with h | h
    · exact absurd rfl h
    · simp [va_up, upd, h]
  · simp [va_up, h1]
/-- the places of the rules that a call may change: rule, place in the page, what is less there -/
def ruP (k p e : Nat) : Prop := (k = 4 ∧ p = 11 ∧ e = 0) ∨ (k = 5 ∧ p = 12 ∧ e = 0) ∨ (k = 6 ∧ p = 13 ∧ e = 1) ∨ (k = 7 ∧ p = 14 ∧ e = 5) ∨ (k = 8 ∧ p = 15 ∧ e = 2) ∨ (k = 9 ∧ p = 16 ∧ e = 4) ∨ (k = 12 ∧ p = 17 ∧ e = 3)
theorem i_sub0 (x : Int32) : x - nI 0 = x := by
  show x - 0 = x
  simp
theorem TV_rule {t : NN} {σ : ZI} {b k v : Nat} (hk : 4 ≤ k) (q : TV b t σ) : TV b (tset t 0 k v) (va_up σ (b + 1) (upd (σ (b + 1)) k (nI v))) := by
  obtain ⟨q1, q2, q3, q4⟩ := q
  have e1 : tset t 0 k v 0 1 = t 0 1 := tset_ne t (.inr (by omega))
  have e2 : tset t 0 k v 0 2 = t 0 2 := tset_ne t (.inr (by omega))
  have e3 : tset t 0 k v 0 3 = t 0 3 := tset_ne t (.inr (by omega))
  refine ⟨fun i hi => ?_, fun i hi => ?_, fun i hi => ?_, fun i hi => ?_⟩
  · by_cases h : i = k
    · subst h; rw [up_same, tset_same]
    · rw [up_ne σ (.inr h), tset_ne t (.inr h)]; exact q1 i hi
  · rw [e1] at hi
    rw [up_ne σ (.inl (by omega)), up_ne σ (.inl (by omega)), up_ne σ (.inl (by omega))]
    exact q2 i hi
  · rw [e2] at hi
    rw [up_ne σ (.inl (by omega)), up_ne σ (.inl (by omega))]
    exact q3 i hi
  · rw [e3] at hi
    rw [up_ne σ (.inl (by omega)), up_ne σ (.inl (by omega))]
    exact q4 i hi
def TB (t : NN) : Prop := t 0 1 ≤ 3 ∧ t 0 2 ≤ 3 ∧ t 0 3 ≤ 5
theorem TK_TB {t : NN} (h : TK t) : TB t := ⟨by have := h.1; omega, by have := h.1; omega, by have := h.1; omega⟩
theorem RP_rule {t : NN} {σ : ZI} {k p e v : Nat} (hp : ruP k p e) (hk : TB t) (q : RP 0 t σ) : RP 0 (tset t 0 k v) (va_up σ 61 (upd (σ 61) p (nI v - nI e))) := by
  obtain ⟨q1, q2, q3, q4, q5, q6, q7, q8, q9, q10⟩ := q
  obtain ⟨m1, m2, m3⟩ := hk
  have hk4 : 4 ≤ k := by rcases hp with h | h | h | h | h | h | h <;> omega
  have hp11 : 11 ≤ p := by rcases hp with h | h | h | h | h | h | h <;> omega
  have e1 : tset t 0 k v 0 1 = t 0 1 := tset_ne t (.inr (by omega))
  have e2 : tset t 0 k v 0 2 = t 0 2 := tset_ne t (.inr (by omega))
  have e3 : tset t 0 k v 0 3 = t 0 3 := tset_ne t (.inr (by omega))
  have B : ∀ K P E : Nat, ruP K P E → σ 61 (0 + P) = nI (t 0 K) - nI E → va_up σ 61 (upd (σ 61) p (nI v - nI e)) 61 (0 + P) = nI (tset t 0 k v 0 K) - nI E := by
    intro K P E hP h
    by_cases hh : K = k
    · subst hh
      have : P = p ∧ E = e := by
        rcases hp with a | a | a | a | a | a | a <;> rcases hP with c | c | c | c | c | c | c <;> omega
      rw [this.1, this.2, Nat.zero_add, up_same, tset_same]
    · have : P ≠ p := by
        rcases hp with a | a | a | a | a | a | a <;> rcases hP with c | c | c | c | c | c | c <;> omega
      rw [up_ne σ (.inr (by omega)), tset_ne t (.inr hh)]
      exact h
  refine ⟨fun i hi => ?_, fun i hi => ?_, fun i hi => ?_, ?_, ?_, ?_, ?_, ?_, ?_, ?_⟩
  · rw [e1] at hi
    rw [up_ne σ (.inr (by omega))]
    exact q1 i hi
  · rw [e2] at hi
    rw [up_ne σ (.inr (by omega))]
    exact q2 i hi
  · rw [e3] at hi
    rw [up_ne σ (.inr (by omega))]
    exact q3 i hi
  · have := B 4 11 0 (by unfold ruP; omega) (by rw [i_sub0]; exact q4)
    rw [i_sub0] at this; exact this
  · have := B 5 12 0 (by unfold ruP; omega) (by rw [i_sub0]; exact q5)
    rw [i_sub0] at this; exact this
  · exact B 6 13 1 (by unfold ruP; omega) q6
  · exact B 7 14 5 (by unfold ruP; omega) q7
  · exact B 8 15 2 (by unfold ruP; omega) q8
  · exact B 9 16 4 (by unfold ruP; omega) q9
  · exact B 12 17 3 (by unfold ruP; omega) q10
theorem RS_rule {t : NN} {σ : ZI} {k p e v : Nat} (hp : ruP k p e) (q : RS t σ) : RS (tset t 0 k v) σ := by
  obtain ⟨q1, q2, q3, q4, q5, q6, q7, q8, q9⟩ := q
  have hk : 4 ≤ k ∧ k ≠ 10 ∧ k ≠ 11 := by rcases hp with h | h | h | h | h | h | h <;> omega
  have e0 : tset t 0 k v 0 0 = t 0 0 := tset_ne t (.inr (by omega))
  have e1 : tset t 0 k v 0 1 = t 0 1 := tset_ne t (.inr (by omega))
  have e2 : tset t 0 k v 0 2 = t 0 2 := tset_ne t (.inr (by omega))
  have e3 : tset t 0 k v 0 3 = t 0 3 := tset_ne t (.inr (by omega))
  have e4 : tset t 0 k v 0 10 = t 0 10 := tset_ne t (.inr (by omega))
  have e5 : tset t 0 k v 0 11 = t 0 11 := tset_ne t (.inr (by omega))
  unfold RS
  rw [e0, e1, e2, e3, e4, e5]
  exact ⟨q1, q2, q3, q4, q5, q6, q7, q8, q9⟩
theorem SS_rule {t : NN} {k p e v : Nat} (hp : ruP k p e) : SS t (tset t 0 k v) := by
  have hk : 4 ≤ k ∧ k ≠ 10 ∧ k ≠ 11 := by rcases hp with h | h | h | h | h | h | h <;> omega
  refine ⟨tset_ne t (.inr (by omega)), tset_ne t (.inr (by omega)), tset_ne t (.inr (by omega)), tset_ne t (.inr (by omega)), tset_ne t (.inr (by omega)), tset_ne t (.inr (by omega)), fun _ _ => ⟨rfl, rfl⟩, fun _ _ => rfl, fun _ _ => rfl⟩
theorem TK_rule {t : NN} {k p e v : Nat} (hp : ruP k p e) (h : TK t) (hv : (k = 4 → v < 2 ^ t 0 0) ∧ (k = 5 → v ≤ t 0 0) ∧ (k = 6 → v ≤ 10) ∧ (k = 7 → 1 ≤ v ∧ v ≤ 9) ∧ (k = 8 → 1 ≤ v ∧ v ≤ 10 ∧ v < t 0 9) ∧ (k = 9 → t 0 8 < v ∧ v ≤ 11) ∧ (k = 12 → 1 ≤ v ∧ v ≤ 9)) : TK (tset t 0 k v) := by
  obtain ⟨k1, k2, k3, k4, k5, k6⟩ := h
  have hk : 4 ≤ k ∧ k ≠ 10 ∧ k ≠ 11 := by rcases hp with h | h | h | h | h | h | h <;> omega
  have e0 : tset t 0 k v 0 0 = t 0 0 := tset_ne t (.inr (by omega))
  have e1 : tset t 0 k v 0 1 = t 0 1 := tset_ne t (.inr (by omega))
  have e2 : tset t 0 k v 0 2 = t 0 2 := tset_ne t (.inr (by omega))
  have e3 : tset t 0 k v 0 3 = t 0 3 := tset_ne t (.inr (by omega))
  have e4 : tset t 0 k v 0 10 = t 0 10 := tset_ne t (.inr (by omega))
  have e5 : tset t 0 k v 0 11 = t 0 11 := tset_ne t (.inr (by omega))
  refine ⟨?_, by rw [e0, e1]; exact k2, by rw [e1]; exact k3, by rw [e0, e2]; exact k4, by rw [e2]; exact k5, by rw [e3]; exact k6⟩
  rw [e0, e1, e2, e3, e4, e5]
  rcases hp with ⟨rfl, -, -⟩ | ⟨rfl, -, -⟩ | ⟨rfl, -, -⟩ | ⟨rfl, -, -⟩ | ⟨rfl, -, -⟩ | ⟨rfl, -, -⟩ | ⟨rfl, -, -⟩ <;> simp [tset] <;> simp at hv <;> omega
/-- one rule, on both sides -/
theorem T_rule {t : NN} {σ : ZI} {k p e v : Nat} (hp : ruP k p e) (q : InvT t σ) (hk : TK (tset t 0 k v)) : InvT (tset t 0 k v) (va_up (va_up σ 2 (upd (σ 2) k (nI v))) 61 (upd (σ 61) p (nI v - nI e))) := by
  obtain ⟨a1, a2, a3, a4⟩ := q
  have hk4 : 4 ≤ k := by rcases hp with h | h | h | h | h | h | h <;> omega
  refine ⟨hk, TV_fr (fun r i h1 h2 => up_ne (va_up σ 2 (upd (σ 2) k (nI v))) (c := 61) (.inl (by omega))) (TV_rule hk4 a2), ?_, RS_fr ⟨rfl, rfl, rfl, rfl⟩ (fun c i h1 h2 => ?_) (RS_rule hp a4)⟩
  · exact RP_rule (σ := va_up σ 2 (upd (σ 2) k (nI v))) hp (TK_TB a1) (RP_fr a1 (fun i _ => rfl) a3)
  · rw [show va_up (va_up σ 2 (upd (σ 2) k (nI v))) 61 (upd (σ 61) p (nI v - nI e)) c i = va_up σ 2 (upd (σ 2) k (nI v)) c i from up_ne (va_up σ 2 (upd (σ 2) k (nI v))) (c := 61) (.inl (by omega))]
theorem D_rule {σ : ZI} {k p : Nat} {x y : Int32} (hp : p < 18) : Dw 1 σ (va_up (va_up σ 2 (upd (σ 2) k x)) 61 (upd (σ 61) p y)) :=
  Dw_up (σ' := va_up σ 2 (upd (σ 2) k x)) (Dw_up (Dw_refl 1 σ) (.inr rfl)) (.inr (own_p hp))
theorem rng {w : Int32} {lo hi : Nat} (h : ¬ (w < nI lo ∨ nI hi < w)) (hh : hi < 2 ^ 30) (hl : lo < 2 ^ 31) : ∃ v, lo ≤ v ∧ v ≤ hi ∧ w = nI v := by
  rcases pk_ix w (n := hi + 1) (by omega) with q | q | ⟨j, hj, rfl⟩
  · refine absurd (.inl ?_) h
    rw [Int32.lt_iff_toInt_lt] at q ⊢
    rw [nI_toInt hl]
    have : (0 : Int32).toInt = 0 := rfl
    omega
  · refine absurd (.inr ?_) h
    rw [Int32.le_iff_toInt_le, nI_toInt (by omega)] at q
    rw [Int32.lt_iff_toInt_lt, nI_toInt (by omega)]
    omega
  · refine ⟨j, ?_, by omega, rfl⟩
    rcases Nat.lt_or_ge j lo with q | q
    · exact absurd (.inl (nI_lt q hl)) h
    · exact q
theorem rng' {v lo hi : Nat} (h1 : lo ≤ v) (h2 : v ≤ hi) (hh : hi < 2 ^ 31) : ¬ (nI v < nI lo ∨ nI hi < nI v) := by
  rintro (q | q)
  · exact nI_nlt h1 (by omega) q
  · exact nI_nlt h2 hh q
theorem wi {σ : ZI} {x w lo hi : Int32} (h1 : f_X7_atS 101 x = some lo) (h2 : f_X7_atS 102 x = some hi) : f_X7_isWithin σ x w = some (if w < lo ∨ hi < w then 0 else 1) := by
  unfold f_X7_isWithin
  rw [h1, h2]
  by_cases a : w < lo
  · simp [a]
  · by_cases b : hi < w <;> simp [a, b]
theorem lays_n {σ : ZI} {c : Prop} [Decidable c] {p : Nat} {v e : Int32} (hp : p < 90) : f_X8_lays σ (if c then 0 else 1) (nI p) v e = if c then some (-1, σ) else some (σ 61 p + e, va_up σ 61 (upd (σ 61) p (v - e))) := by
  unfold f_X8_lays
  by_cases h : c
  · simp [h]
  · rw [if_neg h, if_neg h, if_neg (by decide), inB_n hp (by omega), if_pos rfl, nI_clamp (by omega)]
    rfl
theorem set31 {σ : ZI} {a w lo hi : Int32} {k : Nat} (hk : k < 13) (h1 : f_X7_atS 101 (nI k) = some lo) (h2 : f_X7_atS 102 (nI k) = some hi) : f_X7_set_31 a w σ (nI k) = if w < lo ∨ hi < w then some (-1, σ) else some (σ 2 k, va_up σ 2 (upd (σ 2) k w)) := by
  unfold f_X7_set_31
  have h0 : ¬ nI k = -4 := by
    intro h
    have : (nI k).toInt = (-4 : Int32).toInt := by rw [h]
    rw [nI_toInt (by omega)] at this
    have e : (-4 : Int32).toInt = -4 := rfl
    omega
  rw [if_neg h0, wi h1 h2]
  by_cases a : w < lo ∨ hi < w
  · simp [a]
  · rw [if_neg a, if_neg a]
    show ((f_X6_value σ 1 (nI k)).bind fun q2 => (f_X6_become σ 1 (nI k) w).bind fun q3 => some (q2, q3)) = _
    rw [val_n rfl rfl hk, bec_n rfl rfl hk]
    rfl
theorem RP_get {t : NN} {σ : ZI} {k p e : Nat} (hp : ruP k p e) (q : RP 0 t σ) : σ 61 p + nI e = nI (t 0 k) := by
  obtain ⟨-, -, -, q4, q5, q6, q7, q8, q9, q10⟩ := q
  have z : ∀ x : Int32, x + nI 0 = x := fun x => by show x + 0 = x; simp
  rcases hp with ⟨rfl, rfl, rfl⟩ | ⟨rfl, rfl, rfl⟩ | ⟨rfl, rfl, rfl⟩ | ⟨rfl, rfl, rfl⟩ | ⟨rfl, rfl, rfl⟩ | ⟨rfl, rfl, rfl⟩ | ⟨rfl, rfl, rfl⟩
  · rw [z]; exact q4
  · rw [z]; exact q5
  · rw [show σ 61 13 = _ from q6]; exact Int32.sub_add_cancel _ _
  · rw [show σ 61 14 = _ from q7]; exact Int32.sub_add_cancel _ _
  · rw [show σ 61 15 = _ from q8]; exact Int32.sub_add_cancel _ _
  · rw [show σ 61 16 = _ from q9]; exact Int32.sub_add_cancel _ _
  · rw [show σ 61 17 = _ from q10]; exact Int32.sub_add_cancel _ _
/-- a call that sets one rule -/
theorem u_rule {σ : ZI} (I : Inv σ) {k p e lo hi : Nat} {w : Int32} (hp : ruP k p e) (hh : hi < 2 ^ 30) (hl : lo < 2 ^ 31) (hv : ∀ t v, TK t → lo ≤ v → v ≤ hi → TK (tset t 0 k v))
    {X : Option (Int32 × ZI)} {Y' : ZI → Option (Int32 × ZI)} (hX : X = if w < nI lo ∨ nI hi < w then some (-1, σ) else some (σ 2 k, va_up σ 2 (upd (σ 2) k w))) (hY : ∀ σ', Y' σ' = if w < nI lo ∨ nI hi < w then some (-1, σ') else some (σ' 61 p + nI e, va_up σ' 61 (upd (σ' 61) p (w - nI e)))) : ∃ r σ1 σ2, X = some (r, σ1) ∧ Y' σ1 = some (r, σ2) ∧ Inv σ2 := by
  by_cases h : w < nI lo ∨ nI hi < w
  · exact ⟨-1, σ, σ, by rw [hX, if_pos h], by rw [hY, if_pos h], I⟩
  · obtain ⟨v, v1, v2, rfl⟩ := rng h hh hl
    obtain ⟨t, iT, iR⟩ := I
    have hk13 : k < 13 ∧ p < 18 := by rcases hp with h | h | h | h | h | h | h <;> omega
    have e1 : σ 61 p + nI e = σ 2 k := by rw [RP_get hp iT.2.2.1, iT.2.1.1 k hk13.1]
    refine ⟨σ 2 k, _, va_up (va_up σ 2 (upd (σ 2) k (nI v))) 61 (upd (σ 61) p (nI v - nI e)), by rw [hX, if_neg h], ?_, Inv_now iR (D_rule hk13.2) (SS_rule hp) (T_rule hp iT (hv t v iT.1 v1 v2))⟩
    rw [hY, if_neg h]
    show some (σ 61 p + nI e, _) = _
    rw [e1]
    rfl
theorem ruTK {k p e lo hi : Nat} (hp : ruP k p e) (hb : (k = 6 ∧ hi ≤ 10) ∨ (k = 7 ∧ 1 ≤ lo ∧ hi ≤ 9) ∨ (k = 12 ∧ 1 ≤ lo ∧ hi ≤ 9)) (t : NN) (v : Nat) (h : TK t) (h1 : lo ≤ v) (h2 : v ≤ hi) : TK (tset t 0 k v) := TK_rule hp h (by omega)
theorem u_set {σ : ZI} (I : Inv σ) (a w : Int32) : ∃ r σ1 σ2, f_X7_set σ a w = some (r, σ1) ∧ f_X8_set σ1 a w = some (r, σ2) ∧ Inv σ2 := by
  have r0 : ruP 6 13 1 := by unfold ruP; omega
  have r1 : ruP 12 17 3 := by unfold ruP; omega
  have r2 : ruP 7 14 5 := by unfold ruP; omega
  unfold f_X7_set f_X8_set
  by_cases h0 : a = 0
  · subst h0
    refine u_rule I (lo := 0) (hi := 10) (w := w) r0 (by omega) (by omega) (ruTK r0 (by omega)) (set31 (a := 0) (k := 6) (by omega) rfl rfl) (fun σ' => ?_)
    rw [if_pos rfl, in_at 0 10 0 10 rfl rfl]
    show ((f_X8_lays σ' (if w < 0 ∨ 10 < w then 0 else 1) (nI 13) w 1).bind fun q2 => some (q2.1, q2.2)) = _
    rw [lays_n (by omega)]
    by_cases h : w < 0 ∨ 10 < w
    · rw [if_pos h]; exact (if_pos h).symm
    · rw [if_neg h]; exact (if_neg h).symm
  rw [if_neg h0]
  by_cases h1 : a = 1
  · subst h1
    refine u_rule I (lo := 1) (hi := 9) (w := w) r1 (by omega) (by omega) (ruTK r1 (by omega)) (set31 (a := 1) (k := 12) (by omega) rfl rfl) (fun σ' => ?_)
    rw [if_neg (by decide), if_pos rfl, in_at 1 9 1 9 rfl rfl]
    show ((f_X8_lays σ' (if w < 1 ∨ 9 < w then 0 else 1) (nI 17) w 3).bind fun q2 => some (q2.1, q2.2)) = _
    rw [lays_n (by omega)]
    by_cases h : w < 1 ∨ 9 < w
    · rw [if_pos h]; exact (if_pos h).symm
    · rw [if_neg h]; exact (if_neg h).symm
  rw [if_neg h1]
  by_cases h2 : a = 2
  · subst h2
    refine u_rule I (lo := 1) (hi := 9) (w := w) r2 (by omega) (by omega) (ruTK r2 (by omega)) (set31 (a := 2) (k := 7) (by omega) rfl rfl) (fun σ' => ?_)
    rw [if_neg (by decide), if_neg (by decide), if_pos rfl, in_at 1 9 1 9 rfl rfl]
    show ((f_X8_lays σ' (if w < 1 ∨ 9 < w then 0 else 1) (nI 14) w 5).bind fun q2 => some (q2.1, q2.2)) = _
    rw [lays_n (by omega)]
    by_cases h : w < 1 ∨ 9 < w
    · rw [if_pos h]; exact (if_pos h).symm
    · rw [if_neg h]; exact (if_neg h).symm
  · refine ⟨-1, σ, σ, ?_, ?_, I⟩
    · rw [if_neg h2]; rfl
    · rw [if_neg h0, if_neg h1, if_neg h2]
