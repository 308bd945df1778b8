/-! images -/
def lenT (r : Nat) : Nat := if r = 1 then 13 else if r ≤ 6 then 3 else 5
theorem take_n (σ : ZI) {b b1 : Nat} (hb : ((b = 10 ∨ b = 19) ∧ b1 = 1) ∨ (b = 1 ∧ (b1 = 10 ∨ b1 = 19 ∨ b1 = 28))) : ∃ σ', f_X6_take σ b b1 = some σ' ∧ (∀ r i, 1 ≤ r → r ≤ 8 → i < lenT r → σ' (b + r) i = σ (b1 + r) i) ∧ (∀ c i, c ≤ b ∨ b + 8 < c → σ' c i = σ c i) := by
  have hb' : (b = 10 ∧ b1 = 1) ∨ (b = 19 ∧ b1 = 1) ∨ (b = 1 ∧ b1 = 10) ∨ (b = 1 ∧ b1 = 19) ∨ (b = 1 ∧ b1 = 28) := by omega
  clear hb
  rcases hb' with ⟨rfl, rfl⟩ | ⟨rfl, rfl⟩ | ⟨rfl, rfl⟩ | ⟨rfl, rfl⟩ | ⟨rfl, rfl⟩
  all_goals
    refine ⟨_, rfl, fun r i r1 r2 hi => ?_, fun c i hc => ?_⟩
    · have : r = 1 ∨ r = 2 ∨ r = 3 ∨ r = 4 ∨ r = 5 ∨ r = 6 ∨ r = 7 ∨ r = 8 := by omega
      rcases this with rfl | rfl | rfl | rfl | rfl | rfl | rfl | rfl <;> exact sb_cpy0 hi
    · simp only [va_up]
      repeat rw [if_neg (by omega)]
theorem TV_cp {b b1 : Nat} {t : NN} {σ σ' : ZI} (k : TB t) (h : ∀ r i, 1 ≤ r → r ≤ 8 → i < lenT r → σ' (b + r) i = σ (b1 + r) i) (q : TV b1 t σ) : TV b t σ' := by
  obtain ⟨m1, m2, m3⟩ := k
  obtain ⟨q1, q2, q3, q4⟩ := q
  refine ⟨fun i hi => ?_, fun i hi => ⟨?_, ?_, ?_⟩, fun i hi => ⟨?_, ?_⟩, fun i hi => ⟨?_, ?_⟩⟩
  · rw [h 1 i (by omega) (by omega) hi]; exact q1 i hi
  · rw [h 2 i (by omega) (by omega) (by show i < 3; omega)]; exact (q2 i hi).1
  · rw [h 3 i (by omega) (by omega) (by show i < 3; omega)]; exact (q2 i hi).2.1
  · rw [h 4 i (by omega) (by omega) (by show i < 3; omega)]; exact (q2 i hi).2.2
  · rw [h 5 i (by omega) (by omega) (by show i < 3; omega)]; exact (q3 i hi).1
  · rw [h 6 i (by omega) (by omega) (by show i < 3; omega)]; exact (q3 i hi).2
  · rw [h 7 i (by omega) (by omega) (by show i < 5; omega)]; exact (q4 i hi).1
  · rw [h 8 i (by omega) (by omega) (by show i < 5; omega)]; exact (q4 i hi).2
theorem RP_cp {o o' : Nat} {t : NN} {σ σ' : ZI} (k : TB t) (h : ∀ i, i < 18 → σ' 61 (o' + i) = σ 61 (o + i)) (q : RP o t σ) : RP o' t σ' := by
  obtain ⟨m1, m2, m3⟩ := k
  obtain ⟨q1, q2, q3, q4, q5, q6, q7, q8, q9, q10⟩ := q
  refine ⟨fun i hi => ?_, fun i hi => ?_, fun i hi => ?_, ?_, ?_, ?_, ?_, ?_, ?_, ?_⟩
  · rw [h i (by omega)]; exact q1 i hi
  · rw [h (3 + i) (by omega)]; exact q2 i hi
  · rw [h (6 + i) (by omega)]; exact q3 i hi
  all_goals (rw [h _ (by omega)]; assumption)
theorem RS_SS {t u : NN} {σ : ZI} (s : SS t u) (q : RS t σ) : RS u σ := by
  obtain ⟨a1, a2, a3, a4, a5, a6, a7, a8, a9⟩ := s
  obtain ⟨q1, q2, q3, q4, q5, q6, q7, q8, q9⟩ := q
  refine ⟨by rw [a1]; exact q1, by rw [a2]; exact q2, by rw [a3]; exact q3, by rw [a4]; exact q4, by rw [a5]; exact q5, by rw [a6]; exact q6, fun i hi => ?_, fun i hi => ?_, fun i hi => ?_⟩
  · rw [a2] at hi; rw [(a7 i hi).1, (a7 i hi).2]; exact q7 i hi
  · rw [a3] at hi; rw [a8 i hi]; exact q8 i hi
  · rw [a4] at hi; rw [a9 i hi]; exact q9 i hi
/-- the copies of the reference's pages -/
def cpf (a b i : Nat) (f : Nat → Int32) : Nat → Int32 := fun k => if b + i ≤ k ∧ k < b + 18 then f (a + (k - b)) else f k
theorem cop_l {a b : Nat} (ha : a + 18 ≤ 90) (hb : b + 18 ≤ 90) (hd : a + 18 ≤ b ∨ b + 18 ≤ a) : ∀ (d i n : Nat) (σ : ZI), i + d = 18 → d < n → f_X8_copies_2 (nI a) (nI b) n σ (nI i) = some (va_up σ 61 (cpf a b i (σ 61))) := by
  intro d
  induction d with
  | zero =>
    intro i n σ h1 h2
    obtain ⟨n, rfl⟩ : ∃ m, n = m + 1 := ⟨n - 1, by omega⟩
    obtain rfl : i = 18 := by omega
    rw [f_X8_copies_2, if_pos (by decide)]
    congr 1
    funext c
    by_cases hc : c = 61
    · subst hc
      funext k
      simp only [va_up, if_true, cpf]
      rw [if_neg (by omega)]
    · simp [va_up, hc]
  | succ d ih =>
    intro i n σ h1 h2
    obtain ⟨n, rfl⟩ : ∃ m, n = m + 1 := ⟨n - 1, by omega⟩
    rw [f_X8_copies_2, if_neg (show ¬ (18 : Int32) ≤ nI i from nI_ge (a := i) (b := 18) (by omega) (by omega)), nI_add, nI_add, inB_n (by omega) (by omega), if_pos rfl, inB_n (by omega) (by omega), if_pos rfl, nI_clamp (by omega), nI_clamp (by omega), nI_1]
    show f_X8_copies_2 (nI a) (nI b) n (va_up σ 61 (upd (σ 61) (b + i) (σ 61 (a + i)))) (nI (i + 1)) = _
    rw [ih (i + 1) n _ (by omega) (by omega)]
    congr 1
    rw [bx_uu]
    congr 1
    funext k
    show (if b + (i + 1) ≤ k ∧ k < b + 18 then upd (σ 61) (b + i) (σ 61 (a + i)) (a + (k - b)) else upd (σ 61) (b + i) (σ 61 (a + i)) k) = if b + i ≤ k ∧ k < b + 18 then σ 61 (a + (k - b)) else σ 61 k
    by_cases h : b + (i + 1) ≤ k ∧ k < b + 18
    · rw [if_pos h, if_pos (by omega), pk_un (by omega)]
    · rw [if_neg h]
      by_cases h3 : k = b + i
      · subst h3
        rw [pk_us, if_pos (by omega)]
        congr 1
        omega
      · rw [pk_un h3, if_neg (by omega)]
theorem cop_n {a b : Nat} (ha : a + 18 ≤ 90) (hb : b + 18 ≤ 90) (hd : a + 18 ≤ b ∨ b + 18 ≤ a) (σ : ZI) : f_X8_copies σ (nI a) (nI b) = some (va_up σ 61 (cpf a b 0 (σ 61))) := cop_l ha hb hd 18 0 3000 σ (by omega) (by omega)
theorem cpf_in {a b i : Nat} {f : Nat → Int32} (h : i < 18) : cpf a b 0 f (b + i) = f (a + i) := by
  unfold cpf
  rw [if_pos (by omega)]
  congr 1
  omega
theorem cpf_out {a b k : Nat} {f : Nat → Int32} (h : k < b ∨ b + 18 ≤ k) : cpf a b 0 f k = f k := by
  unfold cpf
  rw [if_neg (by omega)]
theorem u_keep {σ : ZI} (I : Inv σ) (a : Int32) : ∃ r σ1 σ2, f_X7_keep σ a = some (r, σ1) ∧ f_X8_keep σ1 a = some (r, σ2) ∧ Inv σ2 := by
  obtain ⟨t, iT, ⟨x1, x2, l1, l2, e0, e1, e2, m1, m2⟩, iP, iS, iH, iF, iK⟩ := id I
  have kB := TK_TB iT.1
  unfold f_X7_keep f_X8_keep
  by_cases h0 : a = 0
  · subst h0
    obtain ⟨σ', s1, s2, s3⟩ := take_n σ (b := 10) (b1 := 1) (.inl ⟨.inl rfl, rfl⟩)
    obtain ⟨y, hy⟩ : ∃ y, y = va_up σ' 0 (upd (σ' 0) 3 (nI (1 + 2 * x2))) := ⟨_, rfl⟩
    obtain ⟨z, hz⟩ : ∃ z, z = va_up (va_up y 61 (cpf 0 18 0 (y 61))) 75 (upd (y 75) 0 1) := ⟨_, rfl⟩
    have y61 : ∀ i, y 61 i = σ 61 i := fun i => by rw [hy]; exact s3 61 i (by omega)
    have y75 : ∀ i, y 75 i = σ 75 i := fun i => by rw [hy]; exact s3 75 i (by omega)
    refine ⟨nI x1, y, z, ?_, ?_, ?_⟩
    · show ((f_X7_imageOf 0).bind fun q3 => _) = _
      show (((f_X6_take σ 10 1).bind fun q4 => lt_ (va_up q4 0 (upd (q4 0) 3 ((q4 0 3) ||| 1))) (fun σ5 => some ((((σ 0 3) >>> 0) &&& 1), σ5))) : Option (Int32 × ZI)) = _
      rw [s1]
      show some ((((σ 0 3) >>> 0) &&& 1), va_up σ' 0 (upd (σ' 0) 3 ((σ' 0 3) ||| 1))) = _
      rw [s3 0 3 (by omega), e0, hy]
      have c1 : x1 = 0 ∨ x1 = 1 := by omega
      have c2 : x2 = 0 ∨ x2 = 1 := by omega
      rcases c1 with rfl | rfl <;> rcases c2 with rfl | rfl <;> rfl
    · rw [in_at 0 1 0 1 rfl rfl, if_neg (by decide)]
      simp only [Option.bind_some]
      rw [if_neg (by decide), show (18 : Int32) * (0 + 1) = nI 18 from rfl, show f_X8_copies y 0 (nI 18) = _ from cop_n (a := 0) (b := 18) (by omega) (by omega) (by omega) y]
      show ((if y 75 0 = 0 then f_X8_keep_37 0 (va_up y 61 (cpf 0 18 0 (y 61))) 0 else f_X8_keep_37 0 (va_up y 61 (cpf 0 18 0 (y 61))) 1) : Option (Int32 × ZI)) = _
      rw [y75, e1, hz]
      have c1 : x1 = 0 ∨ x1 = 1 := by omega
      rcases c1 with rfl | rfl <;> rfl
    · have zc : ∀ c i, c ≠ 0 → c ≠ 61 → c ≠ 75 → (c ≤ 10 ∨ 18 < c) → z c i = σ c i := fun c i a1 a2 a3 a4 => by
        rw [hz, hy]
        simp only [va_up, if_neg a1, if_neg a2, if_neg a3]
        exact s3 c i a4
      have z61 : ∀ k, k < 18 ∨ 36 ≤ k → z 61 k = σ 61 k := fun k hk => by
        rw [hz]; show cpf 0 18 0 (y 61) k = _
        rw [cpf_out hk, y61]
      refine Inv_img ⟨iT, iP, iS, iH, iF, iK⟩ (fun c i q r => ?_) ⟨1, x2, by omega, by omega, ?_, ?_, ?_, fun _ => ⟨t, iT.1, SS_rfl t, ?_, ?_⟩, ImK_fr (SS_rfl t) (fun r i h1 h2 => zc _ _ (by omega) (by omega) (by omega) (by omega)) (fun i hi => z61 _ (by omega)) m2⟩
      · by_cases c61 : c = 61
        · subst c61
          by_cases hi : 18 ≤ i ∧ i < 54
          · exact absurd (own_q hi.1 hi.2) r
          · exact z61 i (by omega)
        by_cases c0 : c = 0
        · subst c0
          have : i ≠ 3 := by rintro rfl; exact r rfl
          rw [hz, hy]
          show upd (σ' 0) 3 _ i = _
          rw [pk_un this]; exact s3 0 i (by omega)
        have c75 : c ≠ 75 := by rintro rfl; exact r rfl
        refine zc c i c0 c61 c75 ?_
        rcases Nat.lt_or_ge 18 c with h | h
        · exact .inr h
        · rcases Nat.lt_or_ge 10 c with h2 | h2
          · exact absurd (own_2 i (by omega) (by omega)) r
          · exact .inl h2
      · rw [hz, hy]; rfl
      · rw [hz]; rfl
      · rw [hz]; exact (y75 1).trans e2
      · refine TV_cp (b1 := 1) kB (fun r i h1 h2 h3 => ?_) iT.2.1
        rw [← s2 r i h1 h2 h3, hz, hy]
        simp [va_up, show 10 + r ≠ 75 by omega, show 10 + r ≠ 61 by omega]
      · refine RP_cp (o := 0) kB (fun i hi => ?_) iT.2.2.1
        rw [hz]
        show cpf 0 18 0 (y 61) (18 + i) = _
        rw [cpf_in hi, y61]
  by_cases h1 : a = 1
  · subst h1
    obtain ⟨σ', s1, s2, s3⟩ := take_n σ (b := 19) (b1 := 1) (.inl ⟨.inr rfl, rfl⟩)
    obtain ⟨y, hy⟩ : ∃ y, y = va_up σ' 0 (upd (σ' 0) 3 (nI (x1 + 2 * 1))) := ⟨_, rfl⟩
    obtain ⟨z, hz⟩ : ∃ z, z = va_up (va_up y 61 (cpf 0 36 0 (y 61))) 75 (upd (y 75) 1 1) := ⟨_, rfl⟩
    have y61 : ∀ i, y 61 i = σ 61 i := fun i => by rw [hy]; exact s3 61 i (by omega)
    have y75 : ∀ i, y 75 i = σ 75 i := fun i => by rw [hy]; exact s3 75 i (by omega)
    refine ⟨nI x2, y, z, ?_, ?_, ?_⟩
    · show ((f_X7_imageOf 1).bind fun q3 => _) = _
      show (((f_X6_take σ 19 1).bind fun q4 => lt_ (va_up q4 0 (upd (q4 0) 3 ((q4 0 3) ||| 2))) (fun σ5 => some ((((σ 0 3) >>> 1) &&& 1), σ5))) : Option (Int32 × ZI)) = _
      rw [s1]
      show some ((((σ 0 3) >>> 1) &&& 1), va_up σ' 0 (upd (σ' 0) 3 ((σ' 0 3) ||| 2))) = _
      rw [s3 0 3 (by omega), e0, hy]
      have c1 : x1 = 0 ∨ x1 = 1 := by omega
      have c2 : x2 = 0 ∨ x2 = 1 := by omega
      rcases c1 with rfl | rfl <;> rcases c2 with rfl | rfl <;> rfl
    · rw [in_at 0 1 0 1 rfl rfl, if_neg (by decide)]
      simp only [Option.bind_some]
      rw [if_neg (by decide), show (18 : Int32) * (1 + 1) = nI 36 from rfl, show f_X8_copies y 0 (nI 36) = _ from cop_n (a := 0) (b := 36) (by omega) (by omega) (by omega) y]
      show ((if y 75 1 = 0 then f_X8_keep_37 1 (va_up y 61 (cpf 0 36 0 (y 61))) 0 else f_X8_keep_37 1 (va_up y 61 (cpf 0 36 0 (y 61))) 1) : Option (Int32 × ZI)) = _
      rw [y75, e2, hz]
      have c1 : x2 = 0 ∨ x2 = 1 := by omega
      rcases c1 with rfl | rfl <;> rfl
    · have zc : ∀ c i, c ≠ 0 → c ≠ 61 → c ≠ 75 → (c ≤ 19 ∨ 27 < c) → z c i = σ c i := fun c i a1 a2 a3 a4 => by
        rw [hz, hy]
        simp only [va_up, if_neg a1, if_neg a2, if_neg a3]
        exact s3 c i a4
      have z61 : ∀ k, k < 36 ∨ 54 ≤ k → z 61 k = σ 61 k := fun k hk => by
        rw [hz]; show cpf 0 36 0 (y 61) k = _
        rw [cpf_out hk, y61]
      refine Inv_img ⟨iT, iP, iS, iH, iF, iK⟩ (fun c i q r => ?_) ⟨x1, 1, by omega, by omega, ?_, ?_, ?_, ImK_fr (SS_rfl t) (fun r i h1 h2 => zc _ _ (by omega) (by omega) (by omega) (by omega)) (fun i hi => z61 _ (by omega)) m1, fun _ => ⟨t, iT.1, SS_rfl t, ?_, ?_⟩⟩
      · by_cases c61 : c = 61
        · subst c61
          by_cases hi : 18 ≤ i ∧ i < 54
          · exact absurd (own_q hi.1 hi.2) r
          · exact z61 i (by omega)
        by_cases c0 : c = 0
        · subst c0
          have : i ≠ 3 := by rintro rfl; exact r rfl
          rw [hz, hy]
          show upd (σ' 0) 3 _ i = _
          rw [pk_un this]; exact s3 0 i (by omega)
        have c75 : c ≠ 75 := by rintro rfl; exact r rfl
        refine zc c i c0 c61 c75 ?_
        rcases Nat.lt_or_ge 27 c with h | h
        · exact .inr h
        · rcases Nat.lt_or_ge 19 c with h2 | h2
          · exact absurd (own_2 i (by omega) (by omega)) r
          · exact .inl h2
      · rw [hz, hy]; rfl
      · rw [hz]; exact (y75 0).trans e1
      · rw [hz]; rfl
      · refine TV_cp (b1 := 1) kB (fun r i h1 h2 h3 => ?_) iT.2.1
        rw [← s2 r i h1 h2 h3, hz, hy]
        simp [va_up, show 19 + r ≠ 75 by omega, show 19 + r ≠ 61 by omega, show 19 + r ≠ 0 by omega]
      · refine RP_cp (o := 0) kB (fun i hi => ?_) iT.2.2.1
        rw [hz]
        show cpf 0 36 0 (y 61) (36 + i) = _
        rw [cpf_in hi, y61]
  · refine ⟨-1, σ, σ, ?_, ?_, I⟩
    · unfold f_X7_isImage
      rw [if_neg h0, if_neg h1]; rfl
    · rw [in_at 0 1 0 1 rfl rfl, if_pos]
      · rfl
      · rcases ix_cases a (n := 2) (by omega) with h | ⟨j, hj, rfl⟩
        · rcases h with h | h
          · exact .inl h
          · right
            rw [Int32.le_iff_toInt_le] at h
            rw [Int32.lt_iff_toInt_lt]
            have e3 : (nI 2).toInt = 2 := rfl
            have e4 : (1 : Int32).toInt = 1 := rfl
            omega
        · have : j = 0 ∨ j = 1 := by omega
          rcases this with rfl | rfl
          · exact absurd rfl h0
          · exact absurd rfl h1
theorem u_back {σ : ZI} (I : Inv σ) (a : Int32) : ∃ r σ1 σ2, f_X7_back σ a = some (r, σ1) ∧ f_X8_back σ1 a = some (r, σ2) ∧ Inv σ2 := by
  obtain ⟨t, iT, ⟨x1, x2, l1, l2, e0, e1, e2, m1, m2⟩, iP, iS, iH, iF, iK⟩ := id I
  have iI : InvI t σ := ⟨x1, x2, l1, l2, e0, e1, e2, m1, m2⟩
  unfold f_X7_back f_X8_back
  have go : ∀ (b o : Nat) (u : NN), (b = 10 ∨ b = 19) → (o = 18 ∨ o = 36) → TK u → SS t u → TV b u σ → RP o u σ → ∃ σ' z, f_X6_take σ 1 b = some σ' ∧ f_X8_copies σ' (nI o) (nI 0) = some z ∧ Inv z ∧ σ' 2 0 = nI (t 0 0) ∧ z 60 1 = nI (t 0 0) ∧ σ' 75 = σ 75 := by
    intro b o u hb ho k s tv rp
    obtain ⟨σ', s1, s2, s3⟩ := take_n σ (b := 1) (b1 := b) (.inr ⟨rfl, by omega⟩)
    have y61 : ∀ i, σ' 61 i = σ 61 i := fun i => s3 61 i (by omega)
    refine ⟨σ', va_up σ' 61 (cpf o 0 0 (σ' 61)), s1, cop_n (by omega) (by omega) (by omega) σ', ?_, ?_, ?_, ?_⟩
    · refine Inv_now (t := t) (u := u) ⟨iI, iP, iS, iH, iF, iK⟩ (fun c i q r => ?_) s ⟨k, ?_, ?_, ?_⟩
      · by_cases c61 : c = 61
        · subst c61
          have hi : ¬ i < 18 := fun h => r (own_p h)
          show cpf o 0 0 (σ' 61) i = _
          rw [cpf_out (by omega), y61]
        · show va_up σ' 61 _ c i = _
          simp only [va_up, if_neg c61]
          refine s3 c i ?_
          rcases Nat.lt_or_ge 9 c with h | h
          · exact .inr h
          · rcases Nat.lt_or_ge 1 c with h2 | h2
            · exact absurd (own_1 i (by omega) (by omega)) r
            · exact .inl h2
      · refine TV_61 (TV_cp (b1 := b) (TK_TB k) (fun r i h1 h2 h3 => s2 r i h1 h2 h3) tv)
      · refine RP_cp (o := o) (TK_TB k) (fun i hi => ?_) rp
        show cpf o 0 0 (σ' 61) (0 + i) = _
        rw [cpf_in hi, y61]
      · refine RS_61 (RS_fr ⟨s3 _ _ (by omega), s3 _ _ (by omega), s3 _ _ (by omega), s3 _ _ (by omega)⟩ (fun c i h1 h2 => s3 c i (by omega)) (RS_SS s iT.2.2.2))
    · have := s2 1 0 (by omega) (by omega) (by show 0 < 13; omega)
      rw [show σ' 2 0 = _ from this, tv.1 0 (by omega), s.1]
    · show σ' 60 1 = _
      rw [s3 60 1 (by omega)]
      exact iT.2.2.2.1
    · funext i; exact s3 75 i (by omega)
  by_cases h0 : a = 0
  · subst h0
    have c1 : x1 = 0 ∨ x1 = 1 := by omega
    have c2 : x2 = 0 ∨ x2 = 1 := by omega
    rcases c1 with rfl | rfl
    · refine ⟨-2, σ, σ, ?_, ?_, I⟩
      · show ((if (σ 0 3 >>> 0) &&& 1 = 0 then _ else _) : Option (Int32 × ZI)) = _
        rw [if_pos (by rw [e0]; rcases c2 with rfl | rfl <;> rfl)]
      · show ((if σ 75 0 = 0 then _ else _) : Option (Int32 × ZI)) = _
        rw [if_pos (by rw [e1]; rfl)]
    · obtain ⟨u, k, s, tv, rp⟩ := m1 rfl
      obtain ⟨σ', z, g1, g2, g3, g4, g5, g6⟩ := go 10 18 u (by omega) (by omega) k s tv rp
      refine ⟨nI (t 0 0), σ', z, ?_, ?_, g3⟩
      · show ((if (σ 0 3 >>> 0) &&& 1 = 0 then _ else _) : Option (Int32 × ZI)) = _
        rw [if_neg (by rw [e0]; rcases c2 with rfl | rfl <;> decide)]
        show ((f_X6_take σ 1 10).bind fun q3 => (f_X6_value q3 1 0).bind fun q4 => some (q4, q3)) = _
        rw [g1]
        show some (σ' 2 0, σ') = _
        rw [g4]
      · show ((if σ' 75 0 = 0 then _ else _) : Option (Int32 × ZI)) = _
        rw [if_neg (by rw [g6, e1]; decide)]
        show ((f_X8_copies σ' (nI 18) (nI 0)).bind fun q2 => some (q2 60 1, q2)) = _
        rw [g2]
        show some (z 60 1, z) = _
        rw [g5]
  by_cases h1 : a = 1
  · subst h1
    have c1 : x1 = 0 ∨ x1 = 1 := by omega
    have c2 : x2 = 0 ∨ x2 = 1 := by omega
    rcases c2 with rfl | rfl
    · refine ⟨-2, σ, σ, ?_, ?_, I⟩
      · show ((if (σ 0 3 >>> 1) &&& 1 = 0 then _ else _) : Option (Int32 × ZI)) = _
        rw [if_pos (by rw [e0]; rcases c1 with rfl | rfl <;> rfl)]
      · show ((if σ 75 1 = 0 then _ else _) : Option (Int32 × ZI)) = _
        rw [if_pos (by rw [e2]; rfl)]
    · obtain ⟨u, k, s, tv, rp⟩ := m2 rfl
      obtain ⟨σ', z, g1, g2, g3, g4, g5, g6⟩ := go 19 36 u (by omega) (by omega) k s tv rp
      refine ⟨nI (t 0 0), σ', z, ?_, ?_, g3⟩
      · show ((if (σ 0 3 >>> 1) &&& 1 = 0 then _ else _) : Option (Int32 × ZI)) = _
        rw [if_neg (by rw [e0]; rcases c1 with rfl | rfl <;> decide)]
        show ((f_X6_take σ 1 19).bind fun q3 => (f_X6_value q3 1 0).bind fun q4 => some (q4, q3)) = _
        rw [g1]
        show some (σ' 2 0, σ') = _
        rw [g4]
      · show ((if σ' 75 1 = 0 then _ else _) : Option (Int32 × ZI)) = _
        rw [if_neg (by rw [g6, e2]; decide)]
        show ((f_X8_copies σ' (nI 36) (nI 0)).bind fun q2 => some (q2 60 1, q2)) = _
        rw [g2]
        show some (z 60 1, z) = _
        rw [g5]
  · refine ⟨-1, σ, σ, ?_, ?_, I⟩
    · unfold f_X7_isImage
      rw [if_neg h0, if_neg h1]; rfl
    · rw [in_at 0 1 0 1 rfl rfl, if_pos]
      · rfl
      · rcases ix_cases a (n := 2) (by omega) with h | ⟨j, hj, rfl⟩
        · rcases h with h | h
          · exact .inl h
          · right
            rw [Int32.le_iff_toInt_le] at h
            rw [Int32.lt_iff_toInt_lt]
            have e3 : (nI 2).toInt = 2 := rfl
            have e4 : (1 : Int32).toInt = 1 := rfl
            omega
        · have : j = 0 ∨ j = 1 := by omega
          rcases this with rfl | rfl
          · exact absurd rfl h0
          · exact absurd rfl h1
