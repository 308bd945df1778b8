/-! lay -/
theorem shl_tn (a : Int32) (k : Nat) (s : Int32) (hs : (s.toBitVec.smod 32).toNat = k) : (a <<< s).toInt = ((a.toBitVec.toNat * 2 ^ k % 2 ^ 32 : Nat) : Int).bmod (2 ^ 32) := by
  rw [← pk_shl a s k hs]
  show (a <<< s).toBitVec.toInt = _
  rw [BitVec.toInt_eq_toNat_bmod]
theorem sh24 (a : Int32) : (a <<< ((24 : Int32) &&& 31)) >>> ((24 : Int32) &&& 31) = a.toInt8.toInt32 := by
  have h := pk_shr (a <<< ((24 : Int32) &&& 31)) ((24 : Int32) &&& 31) 24 (by decide)
  rw [shl_tn a 24 ((24 : Int32) &&& 31) (by decide)] at h
  apply Int32.toInt_inj.mp
  rw [h, Int8.toInt_toInt32, Int32.toInt_toInt8, show a.toInt = a.toBitVec.toInt from rfl, BitVec.toInt_eq_toNat_bmod]
  generalize a.toBitVec.toNat = n
  rw [Int.shiftRight_eq_div_pow]
  simp only [Int.bmod_def]
  omega
theorem sh16 (a : Int32) : (a <<< ((16 : Int32) &&& 31)) >>> ((16 : Int32) &&& 31) = a.toInt16.toInt32 := by
  have h := pk_shr (a <<< ((16 : Int32) &&& 31)) ((16 : Int32) &&& 31) 16 (by decide)
  rw [shl_tn a 16 ((16 : Int32) &&& 31) (by decide)] at h
  apply Int32.toInt_inj.mp
  rw [h, Int16.toInt_toInt32, Int32.toInt_toInt16, show a.toInt = a.toBitVec.toInt from rfl, BitVec.toInt_eq_toNat_bmod]
  generalize a.toBitVec.toNat = n
  rw [Int.shiftRight_eq_div_pow]
  simp only [Int.bmod_def]
  omega
theorem nI_inj {a b : Nat} (ha : a < 2 ^ 31) (hb : b < 2 ^ 31) (h : nI a = nI b) : a = b := (nI_eq ha hb).mp h
theorem nI_nm4 {k : Nat} (hk : k < 2 ^ 31) : ¬ nI k = -4 := by
  intro h
  have : (nI k).toInt = (-4 : Int32).toInt := by rw [h]
  rw [nI_toInt hk] at this
  have e : (-4 : Int32).toInt = -4 := rfl
  omega
theorem wr_n (σ : ZI) {k p l : Nat} {v : Int32} (hk : k < 4) (hp : p < 40) (hl : l < 3) (h : σ 56 k = nI l) : f_X4_write σ (nI k) (nI p) v = some (va_up σ 58 (upd (σ 58) (40 * k + p) (if l = 0 then v.toInt8.toInt32 else if l = 1 then v.toInt16.toInt32 else v))) := by
  unfold f_X4_write f_X4_write_42
  rw [at_n (N := 4) rfl hk (by omega), bso, h, show nI k * 40 + nI p = nI (40 * k + p) from by rw [show nI k * (40 : Int32) = nI (k * 40) from pk_mul k 40, nI_add, Nat.mul_comm]]
  have : l = 0 ∨ l = 1 ∨ l = 2 := by omega
  rcases this with rfl | rfl | rfl
  · rw [if_pos rfl, put_n (N := 160) rfl (by omega) (by omega)]; rfl
  · rw [if_neg (by decide), if_pos rfl, put_n (N := 160) rfl (by omega) (by omega)]; rfl
  · rw [if_neg (by decide), if_neg (by decide), put_n (N := 160) rfl (by omega) (by omega)]; rfl
theorem lay99 (σ : ZI) {q : Nat} {a b c s : Int32} (hq : q < 160) : f_X8_lay_99 a b c σ s (nI q) = some (1, va_up σ 78 (upd (σ 78) q s)) := by
  unfold f_X8_lay_99
  rw [inB_n hq (by omega), if_pos rfl, nI_clamp (by omega)]
  rfl
theorem u_layc {σ : ZI} (I : Inv σ) (a b c : Int32) : ∃ r σ1 σ2, f_X7_lay σ a b c = some (r, σ1) ∧ f_X8_lay σ1 a b c = some (r, σ2) ∧ Inv σ2 := by
  have iH : InvH σ := I.choose_spec.2.2.2.2.1
  unfold f_X7_lay f_X8_lay
  rw [isS7]
  rcases ix_cases a (n := 4) (by omega) with h | ⟨k, hk, rfl⟩
  · refine ⟨-1, σ, σ, by rw [if_pos h]; rfl, ?_, I⟩
    rw [in_at 0 3 0 3 rfl rfl, if_pos (show a < 0 ∨ 3 < a from hi_of (m := 3) (by omega) rfl h)]; rfl
  rw [if_neg (ix_no hk (by omega)), bso, if_neg (by decide)]
  have ek : f_X8_in (nI k).toInt64 0 3 = some 1 := by rw [in_at 0 3 0 3 rfl rfl, if_neg (show ¬ (nI k < 0 ∨ 3 < nI k) from in_hi (m := 3) hk rfl (by omega))]
  unfold f_X4_faultOfCell
  rw [at_n (N := 4) rfl hk (by omega), bso, ek]
  simp only [bso, inB_n hk (show k < 2 ^ 31 by omega), nI_clamp (show k < 2 ^ 31 by omega)]
  rcases iH.1 k hk with ⟨h1, h2⟩ | ⟨h1, l, N, hl, hN, h2, h3, h4, h5⟩
  · refine ⟨-11, σ, σ, ?_, ?_, I⟩
    · rw [h1]; rfl
    · rw [h2, if_neg (by decide), if_pos trivial, if_pos rfl]
  · rw [h1, if_neg (by decide)]
    rcases ix_cases b (n := N) (by omega) with h | ⟨p, hp, rfl⟩
    · refine ⟨-12, σ, σ, ?_, ?_, I⟩
      · by_cases hb : b < 0
        · rw [if_pos hb]; rfl
        · rw [if_neg hb, at_n (N := 4) rfl hk (by omega), bso, h4, if_neg]
          · rfl
          · rcases h with h | h
            · exact absurd h hb
            · exact Int32.not_lt.mpr h
      · rw [h3]
        rw [if_neg (by decide), if_neg (nI_nm4 (by omega)), if_pos trivial, if_pos trivial, h5, in_at 0 _ 0 (nI N - 1) rfl rfl]
        simp only [dec_lt (show N < 2 ^ 30 by omega), if_pos h, bso]
        rfl
    · obtain ⟨z, hz⟩ : ∃ z, z = (if l = 0 then c.toInt8.toInt32 else if l = 1 then c.toInt16.toInt32 else c) := ⟨_, rfl⟩
      refine ⟨1, va_up σ 58 (upd (σ 58) (40 * k + p) z), va_up (va_up σ 58 (upd (σ 58) (40 * k + p) z)) 78 (upd (σ 78) (40 * k + p) z), ?_, ?_, ?_⟩
      · rw [if_neg (nI_pos (by omega)), at_n (N := 4) rfl hk (by omega), bso, h4, if_pos (nI_lt hp (by omega)), bso, if_pos rfl, wr_n σ hk (by omega) hl h2, ← hz]
        rfl
      · have q1 : va_up σ 58 (upd (σ 58) (40 * k + p) z) 76 k = nI l := h3
        have q2 : va_up σ 58 (upd (σ 58) (40 * k + p) z) 77 k = nI N := h5
        rw [q1, q2, if_neg (by decide), if_neg (nI_nm4 (by omega)), if_pos trivial, if_pos trivial, in_at 0 _ 0 (nI N - 1) rfl rfl]
        simp only [dec_lt (show N < 2 ^ 30 by omega), if_neg (ix_no hp (show N < 2 ^ 31 by omega)), bso]
        rw [if_neg (by decide), if_pos trivial, if_pos trivial, show 40 * nI k + nI p = nI (40 * k + p) from by rw [show (40 : Int32) * nI k = nI (40 * k) from pk_mul 40 k, nI_add], sh24, sh16, lay99 _ (by omega), lay99 _ (by omega), lay99 _ (by omega)]
        have : l = 0 ∨ l = 1 ∨ l = 2 := by omega
        rcases this with rfl | rfl | rfl
        · rw [hz]; rfl
        · rw [hz]; rfl
        · rw [hz]; rfl
      · refine Inv_sht I (fun x i q r => ?_) ⟨fun k' hk' => ?_, fun i hi => ?_⟩
        · have n55 : ¬ ((55 ≤ x ∧ x ≤ 58) ∨ (76 ≤ x ∧ x ≤ 78)) := fun h => r (own_5 i h)
          simp only [va_up]
          repeat rw [if_neg (by omega)]
        · exact ShK_fr (fun c hc => by simp only [va_up]; repeat rw [if_neg (by omega)]) (iH.1 k' hk')
        · show upd (σ 78) (40 * k + p) z i = upd (σ 58) (40 * k + p) z i
          unfold upd
          rw [iH.2 i hi]
