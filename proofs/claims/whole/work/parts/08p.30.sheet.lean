/-! sheets; first two rewritings that are no computation (a loop with its fuel as a number must not be computed by the kernel) -/
theorem bso {α β : Type} (a : α) (f : α → Option β) : (some a).bind f = f a := by simp
theorem ltq {α β : Type} (e : α) (f : α → β) : lt_ e f = f e := by
  have h : lt_ e f = f e ∧ True := ⟨rfl, trivial⟩
  exact h.1
def zf (k i : Nat) (f : Nat → Int32) : Nat → Int32 := fun p => if 40 * k + i ≤ p ∧ p < 40 * k + 40 then 0 else f p
theorem zf_up {k i : Nat} {f : Nat → Int32} (h : i < 40) : zf k (i + 1) (upd f (40 * k + i) 0) = zf k i f := by
  funext p
  unfold zf
  by_cases h1 : 40 * k + (i + 1) ≤ p ∧ p < 40 * k + 40
  · rw [if_pos h1, if_pos (by omega)]
  · rw [if_neg h1]
    by_cases h2 : p = 40 * k + i
    · subst h2; rw [pk_us, if_pos (by omega)]
    · rw [pk_un h2, if_neg (by omega)]
theorem zf_end {k : Nat} {f : Nat → Int32} : zf k 40 f = f := by
  funext p
  unfold zf
  rw [if_neg (by omega)]
theorem up_id (σ : ZI) (c : Nat) : va_up σ c (σ c) = σ := by
  funext x
  unfold va_up
  by_cases h : x = c
  · subst h; rw [if_pos rfl]
  · rw [if_neg h]
theorem ren_l {k : Nat} (hk : k < 4) (x y : Int32) : ∀ (d i n : Nat) (σ : ZI), i + d = 40 → d < n → f_X4_renew_30 (nI k) x y n σ (nI i) = some (va_up σ 58 (zf k i (σ 58))) := by
  intro d
  induction d with
  | zero =>
    intro i n σ h1 h2
    obtain ⟨n, rfl⟩ : ∃ m, n = m + 1 := ⟨n - 1, by omega⟩
    obtain rfl : i = 40 := by omega
    rw [f_X4_renew_30, if_pos (by decide), zf_end, up_id]
  | succ d ih =>
    intro i n σ h1 h2
    obtain ⟨n, rfl⟩ : ∃ m, n = m + 1 := ⟨n - 1, by omega⟩
    rw [f_X4_renew_30, if_neg (show ¬ (40 : Int32) ≤ nI i from nI_ge (b := 40) (by omega) (by omega)), show nI k * 40 + nI i = nI (40 * k + i) from by rw [show nI k * (40 : Int32) = nI (k * 40) from pk_mul k 40, nI_add, Nat.mul_comm], put_n (N := 160) rfl (by omega) (by omega), nI_1]
    show f_X4_renew_30 (nI k) x y n (va_up σ 58 (upd (σ 58) (40 * k + i) 0)) (nI (i + 1)) = _
    rw [ih (i + 1) n _ (by omega) (by omega), bx_uu]
    show some (va_up σ 58 (zf k (i + 1) (upd (σ 58) (40 * k + i) 0))) = _
    rw [zf_up (by omega)]
theorem she_l {k : Nat} (hk : k < 4) (x y : Int32) : ∀ (d i n : Nat) (σ : ZI), i + d = 40 → d < n → f_X8_sheet_56 (nI k) x y n σ (nI i) = some (1, va_up σ 78 (zf k i (σ 78))) := by
  intro d
  induction d with
  | zero =>
    intro i n σ h1 h2
    obtain ⟨n, rfl⟩ : ∃ m, n = m + 1 := ⟨n - 1, by omega⟩
    obtain rfl : i = 40 := by omega
    rw [f_X8_sheet_56, if_pos (by decide), zf_end, up_id]
  | succ d ih =>
    intro i n σ h1 h2
    obtain ⟨n, rfl⟩ : ∃ m, n = m + 1 := ⟨n - 1, by omega⟩
    rw [f_X8_sheet_56, if_neg (show ¬ (40 : Int32) ≤ nI i from nI_ge (b := 40) (by omega) (by omega)), show 40 * nI k + nI i = nI (40 * k + i) from by rw [show (40 : Int32) * nI k = nI (40 * k) from pk_mul 40 k, nI_add], inB_n (by omega) (by omega), if_pos rfl, nI_clamp (by omega), nI_1]
    show f_X8_sheet_56 (nI k) x y n (va_up σ 78 (upd (σ 78) (40 * k + i) 0)) (nI (i + 1)) = _
    rw [ih (i + 1) n _ (by omega) (by omega), bx_uu]
    show some ((1 : Int32), va_up σ 78 (zf k (i + 1) (upd (σ 78) (40 * k + i) 0))) = _
    rw [zf_up (by omega)]
theorem hi_of {a : Int32} {n m : Nat} (hn : n < 2 ^ 31) (e : n = m + 1) (h : a < 0 ∨ nI n ≤ a) : a < 0 ∨ nI m < a := by
  rcases h with h | h
  · exact .inl h
  · right
    rw [Int32.le_iff_toInt_le, nI_toInt hn] at h
    rw [Int32.lt_iff_toInt_lt, nI_toInt (by omega)]
    omega
theorem isS7 (a : Int32) : f_X7_isSheet a = some (if a < 0 ∨ nI 4 ≤ a then 0 else 1) := by
  unfold f_X7_isSheet
  by_cases h : a < 0
  · rw [if_pos h, if_pos (.inl h)]
  · rw [if_neg h]
    by_cases h2 : (4 : Int32) ≤ a
    · rw [if_pos h2, if_pos (.inr h2)]
    · rw [if_neg h2, if_neg (fun q => q.elim h h2)]
theorem isL7 (a : Int32) : f_X7_isLane a = some (if a < 0 ∨ nI 3 ≤ a then 0 else 1) := by
  unfold f_X7_isLane
  by_cases h : a < 0
  · rw [if_pos h, if_pos (.inl h)]
  · rw [if_neg h]
    by_cases h2 : (3 : Int32) ≤ a
    · rw [if_pos h2, if_pos (.inr h2)]
    · rw [if_neg h2, if_neg (fun q => q.elim h h2)]
theorem in_hi {j n m : Nat} (h : j < n) (e : n = m + 1) (hn : n < 2 ^ 31) : ¬ (nI j < 0 ∨ nI m < nI j) := by
  rintro (q | q)
  · exact nI_pos (by omega) q
  · exact nI_nlt (a := m) (b := j) (by omega) (by omega) q
def sh7 (σ : ZI) (k l N : Nat) : ZI := va_up (va_up (va_up (va_up σ 55 (upd (σ 55) k 1)) 56 (upd (σ 56) k (nI l))) 57 (upd (σ 57) k (nI N))) 58 (zf k 0 (σ 58))
def sh8 (σ : ZI) (k l N : Nat) : ZI := va_up (va_up (va_up σ 76 (upd (σ 76) k (nI l))) 77 (upd (σ 77) k (nI N))) 78 (zf k 0 (σ 78))
theorem renew_n (σ : ZI) {k l N : Nat} (hk : k < 4) : f_X4_renew σ (nI k) (nI l) (nI N) = some (sh7 σ k l N) := by
  unfold f_X4_renew sh7
  rw [put_n (N := 4) rfl hk (by omega), bso, put_n (N := 4) rfl hk (by omega), bso, put_n (N := 4) rfl hk (by omega), bso]
  exact ren_l hk _ _ 40 0 3000 _ (by omega) (by omega)
theorem sheet8_n (σ : ZI) {k l N : Nat} (hk : k < 4) (hl : l < 3) (hN : N ≤ 40) : f_X8_sheet σ (nI k) (nI l) (nI N) = some (1, sh8 σ k l N) := by
  unfold f_X8_sheet sh8
  rw [in_at 0 3 0 3 rfl rfl, if_neg (show ¬ (nI k < 0 ∨ 3 < nI k) from in_hi (m := 3) hk rfl (by omega)), bso]
  rw [if_neg (by decide), in_at 0 2 0 2 rfl rfl, if_neg (show ¬ (nI l < 0 ∨ 2 < nI l) from in_hi (m := 2) hl rfl (by omega)), bso]
  rw [if_neg (by decide), if_pos (show nI N ≤ 40 from nI_le (b := 40) hN (by omega)), if_pos (nI_pos' (by omega)), inB_n hk (by omega), if_pos rfl, nI_clamp (by omega), ltq, if_pos rfl, ltq]
  exact she_l hk _ _ 40 0 3000 _ (by omega) (by omega)
theorem u_sheet {σ : ZI} (I : Inv σ) (a b c : Int32) : ∃ r σ1 σ2, f_X7_sheet σ a b c = some (r, σ1) ∧ f_X8_sheet σ1 a b c = some (r, σ2) ∧ Inv σ2 := by
  have iH : InvH σ := I.choose_spec.2.2.2.2.1
  unfold f_X7_sheet f_X8_sheet
  rw [isS7]
  rcases ix_cases a (n := 4) (by omega) with h | ⟨k, hk, rfl⟩
  · refine ⟨-1, σ, σ, by rw [if_pos h]; rfl, ?_, I⟩
    rw [in_at 0 3 0 3 rfl rfl, if_pos (show a < 0 ∨ 3 < a from hi_of (m := 3) (by omega) rfl h)]; rfl
  rw [if_neg (ix_no hk (by omega))]
  rw [isL7]
  have ek : ∀ l : ZI, f_X8_in (nI k).toInt64 0 3 = some 1 := fun _ => by rw [in_at 0 3 0 3 rfl rfl, if_neg (show ¬ (nI k < 0 ∨ 3 < nI k) from in_hi (m := 3) hk rfl (by omega))]
  rcases ix_cases b (n := 3) (by omega) with h | ⟨l, hl, rfl⟩
  · refine ⟨-1, σ, σ, by rw [if_pos h]; rfl, ?_, I⟩
    rw [ek σ, in_at 0 2 0 2 rfl rfl, if_pos (show b < 0 ∨ 2 < b from hi_of (m := 2) (by omega) rfl h)]; rfl
  rw [if_neg (ix_no hl (by omega))]
  have el : ∀ l' : ZI, f_X8_in (nI l).toInt64 0 2 = some 1 := fun _ => by rw [in_at 0 2 0 2 rfl rfl, if_neg (show ¬ (nI l < 0 ∨ 2 < nI l) from in_hi (m := 2) hl rfl (by omega))]
  by_cases h40 : c ≤ 40
  · by_cases h0 : 0 ≤ c
    · obtain ⟨N, n1, n2, rfl⟩ := rng (w := c) (lo := 0) (hi := 40) (fun q => q.elim (fun q => Int32.not_le.mpr q h0) (fun q => Int32.not_le.mpr q h40)) (by omega) (by omega)
      obtain ⟨s6, hs6⟩ : ∃ s6, s6 = sh8 (sh7 σ k l N) k l N := ⟨_, rfl⟩
      refine ⟨1, sh7 σ k l N, s6, ?_, ?_, ?_⟩
      · rw [bso, if_neg (by decide), bso, if_neg (by decide), if_pos h40, if_pos h0, renew_n σ hk]
        rfl
      · have := sheet8_n (sh7 σ k l N) hk hl n2
        rw [← hs6] at this
        unfold f_X8_sheet at this
        exact this
      · refine Inv_sht I (fun x i q r => ?_) ⟨fun k' hk' => ?_, fun i hi => ?_⟩
        · have n55 : ¬ ((55 ≤ x ∧ x ≤ 58) ∨ (76 ≤ x ∧ x ≤ 78)) := fun h => r (own_5 i h)
          rw [hs6]
          simp only [va_up, sh7, sh8]
          repeat rw [if_neg (by omega)]
        · by_cases h : k' = k
          · subst h
            right
            rw [hs6]
            exact ⟨pk_us, l, N, hl, n2, pk_us, pk_us, pk_us, pk_us⟩
          · have := iH.1 k' hk'
            unfold ShK at this ⊢
            rw [hs6]
            show (upd (σ 55) k 1 k' = 0 ∧ upd (σ 76) k (nI l) k' = -4) ∨ (upd (σ 55) k 1 k' = 1 ∧ ∃ l' n', l' < 3 ∧ n' ≤ 40 ∧ upd (σ 56) k (nI l) k' = nI l' ∧ upd (σ 76) k (nI l) k' = nI l' ∧ upd (σ 57) k (nI N) k' = nI n' ∧ upd (σ 77) k (nI N) k' = nI n')
            rw [pk_un h, pk_un h, pk_un h, pk_un h, pk_un h]
            exact this
        · rw [hs6]
          show zf k 0 (σ 78) i = zf k 0 (σ 58) i
          unfold zf
          rw [iH.2 i hi]
    · refine ⟨-14, σ, σ, ?_, ?_, I⟩
      · show ((if c ≤ 40 then _ else _) : Option (Int32 × ZI)) = _
        rw [if_pos h40, if_neg h0]
      · rw [ek σ, el σ]
        show ((if c ≤ 40 then _ else _) : Option (Int32 × ZI)) = _
        rw [if_pos h40, if_neg h0]
  · refine ⟨-1, σ, σ, ?_, ?_, I⟩
    · show ((if c ≤ 40 then _ else _) : Option (Int32 × ZI)) = _
      rw [if_neg h40]
    · rw [ek σ, el σ]
      show ((if c ≤ 40 then _ else _) : Option (Int32 × ZI)) = _
      rw [if_neg h40]
