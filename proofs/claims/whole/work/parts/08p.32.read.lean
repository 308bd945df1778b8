/-! read -/
def CPr (s0 : ZI) (T : Nat) (u : Nat → Nat) (σ : ZI) : Prop := (∀ c i, c ≠ 59 → σ c i = s0 c i) ∧ ∀ j, j < T → σ 59 j = nI (u j)
def RQ (s0 : ZI) (T : Nat) (u : Nat → Nat) (σ : ZI) : Prop := (∀ c i, ¬ (c = 61 ∧ 6 ≤ i ∧ i < 11) → σ c i = s0 c i) ∧ ∀ j, j < T → σ 61 (6 + j) = nI (u j)
theorem pst7 {σ : ZI} {T m v : Nat} {u : Nat → Nat} (hT : T ≤ 5) (h1 : σ 2 3 = nI T) (h2 : ∀ j, j < T → σ 59 j = nI (u j)) (hm : m < T) (hv : u m + v ≤ 99) : f_X7_postedTo σ 59 (nI m) (nI v) = some (nI (u m + v)) := by
  unfold f_X7_postedTo
  rw [if_pos (show (ar 59).1 = 1 from rfl), isT7, h1, if_neg (ix_no hm (by omega)), bso, if_neg (by decide), if_neg (nI_pos (by omega)), if_pos (show nI v ≤ 99 from nI_le (b := 99) (by omega) (by omega)), at_n (N := 5) rfl (by omega) (by omega), bso, h2 m hm, nI_add, if_pos (show nI (u m + v) ≤ 99 from nI_le (b := 99) (by omega) (by omega))]
theorem pst8 {σ : ZI} {T m v : Nat} {u : Nat → Nat} (hT : T ≤ 5) (h1 : σ 60 7 = nI T) (h2 : ∀ j, j < T → σ 61 (6 + j) = nI (u j)) (hm : m < T) (hv : u m + v ≤ 99) : f_X8_posts σ (nI m) (nI v) = some (nI (u m + v), va_up σ 61 (upd (σ 61) (6 + m) (nI (u m + v)))) := by
  unfold f_X8_posts
  rw [inM8 h1 (by omega), if_neg (ix_no hm (by omega)), bso, if_neg (by decide), in_at 0 99 0 99 rfl rfl, if_neg (show ¬ (nI v < 0 ∨ 99 < nI v) from rng' (lo := 0) (hi := 99) (by omega) (by omega) (by omega)), bso, if_neg (by decide), show (6 : Int32) + nI m = nI (6 + m) from nI_add 6 m, inB_n (by omega) (by omega), if_pos rfl, nI_clamp (by omega), h2 m hm, nI_add, if_pos (show nI (u m + v) ≤ 99 from nI_le (b := 99) (by omega) (by omega)), if_pos rfl, if_pos rfl, ltq, if_pos rfl]
  show some (upd (σ 61) (6 + m) (nI (u m + v)) (6 + m), _) = _
  rw [pk_us]
theorem pst {T : Nat} (hT : T ≤ 5) (u : Nat → Nat) (hu : ∀ j, j < T → u j ≤ 99) (a w : Int32) : (∃ m v, m < T ∧ u m + v ≤ 99 ∧ a = nI m ∧ w = nI v) ∨
    ((∀ σ : ZI, σ 2 3 = nI T → (∀ j, j < T → σ 59 j = nI (u j)) → ∃ r, f_X7_postedTo σ 59 a w = some r ∧ r < 0) ∧ (∀ σ : ZI, σ 60 7 = nI T → (∀ j, j < T → σ 61 (6 + j) = nI (u j)) → ∃ r, f_X8_posts σ a w = some (r, σ) ∧ r < 0)) := by
  rcases ix_cases a (n := T) (by omega) with h | ⟨m, hm, rfl⟩
  · refine .inr ⟨fun σ h1 _ => ⟨-1, ?_, by decide⟩, fun σ h1 _ => ⟨-1, ?_, by decide⟩⟩
    · unfold f_X7_postedTo
      rw [if_pos (show (ar 59).1 = 1 from rfl), isT7, h1, if_pos h]; rfl
    · unfold f_X8_posts
      rw [inM8 h1 (by omega), if_pos h]; rfl
  have hm' := ix_no hm (show T < 2 ^ 31 by omega)
  by_cases hw : w < nI 0 ∨ nI 99 < w
  · refine .inr ⟨fun σ h1 _ => ⟨-1, ?_, by decide⟩, fun σ h1 _ => ⟨-1, ?_, by decide⟩⟩
    · unfold f_X7_postedTo
      rw [if_pos (show (ar 59).1 = 1 from rfl), isT7, h1, if_neg hm', show (99 : Int32) = nI 99 from rfl, if2, if_pos hw]; rfl
    · unfold f_X8_posts
      rw [inM8 h1 (by omega), if_neg hm', in_at 0 99 0 99 rfl rfl, if_pos (show w < 0 ∨ 99 < w from hw)]; rfl
  obtain ⟨v, v1, v2, rfl⟩ := rng hw (by omega) (by omega)
  have := hu m hm
  by_cases hs : u m + v ≤ 99
  · exact .inl ⟨m, v, hm, hs, rfl, rfl⟩
  · have l1 : ¬ nI (u m + v) ≤ nI 99 := nI_ge (by omega) (by omega)
    refine .inr ⟨fun σ h1 h2 => ⟨-3, ?_, by decide⟩, fun σ h1 h2 => ⟨-3, ?_, by decide⟩⟩
    · unfold f_X7_postedTo
      rw [if_pos (show (ar 59).1 = 1 from rfl), isT7, h1, if_neg hm', show (99 : Int32) = nI 99 from rfl, if2, if_neg hw, bso, if_neg (by decide), at_n (N := 5) rfl (by omega) (by omega), bso, h2 m hm, nI_add, if_neg l1]
    · unfold f_X8_posts
      rw [inM8 h1 (by omega), if_neg hm', bso, if_neg (by decide), in_at 0 99 0 99 rfl rfl, if_neg (show ¬ (nI v < 0 ∨ 99 < nI v) from hw), bso, if_neg (by decide), show (6 : Int32) + nI m = nI (6 + m) from nI_add 6 m, inB_n (by omega) (by omega), if_pos rfl, nI_clamp (by omega), h2 m hm, nI_add, if_neg (show ¬ nI (u m + v) ≤ 99 from l1)]
theorem fc7 {σ : ZI} {k N : Nat} (hk : k < 4) (h1 : σ 55 k = 1) (h2 : σ 57 k = nI N) (x : Int32) : f_X4_faultOfCell σ (nI k) x = some (if x < 0 ∨ nI N ≤ x then 2 else 0) := by
  unfold f_X4_faultOfCell
  rw [at_n (N := 4) rfl hk (by omega), bso, h1, if_neg (by decide), at_n (N := 4) rfl hk (by omega), bso, h2]
  by_cases a : x < 0
  · rw [if_pos a, if_pos (.inl a)]
  · rw [if_neg a]
    by_cases b : x < nI N
    · rw [if_pos b, if_neg]
      rintro (q | q)
      · exact a q
      · exact Int32.not_lt.mpr q b
    · rw [if_neg b, if_pos (.inr (Int32.not_lt.mp b))]
theorem ti_add {x : Int32} {v : Nat} (hv : v < 2 ^ 20) : ((x + nI v).toInt = x.toInt + v ∧ x.toInt + v < 2 ^ 31) ∨ ((x + nI v).toInt < 0 ∧ 2 ^ 31 ≤ x.toInt + v) := by
  have h1 := Int32.toInt_lt x
  have h2 := Int32.le_toInt x
  rw [Int32.toInt_add, nI_toInt (by omega)]
  simp only [Int.bmod_def]
  omega
/-- the pair that begins at f + 2 i is there: where it lies -/
theorem fp7 {σ : ZI} {k N i : Nat} (hk : k < 4) (hN : N ≤ 40) (hi : i < 21) (h1 : σ 55 k = 1) (h2 : σ 57 k = nI N) (f : Int32) : (∃ p : Nat, p + 1 < N ∧ f.toInt + 2 * i = p ∧ f + nI (2 * i) = nI p ∧ f_X4_faultOfPair σ (nI k) (f + nI (2 * i)) = some 0) ∨ (¬ (0 ≤ f.toInt + 2 * i ∧ f.toInt + 2 * i + 1 < N) ∧ f_X4_faultOfPair σ (nI k) (f + nI (2 * i)) = some 2) := by
  have ht := ti_add (x := f) (v := 2 * i) (by omega)
  unfold f_X4_faultOfPair
  rw [fc7 hk h1 h2, bso]
  rcases ix_cases (f + nI (2 * i)) (n := N) (by omega) with h | ⟨p, hp, e⟩
  · right
    refine ⟨?_, by rw [if_pos h, if_neg (by decide)]⟩
    rcases h with h | h
    · rw [Int32.lt_iff_toInt_lt, show (0 : Int32).toInt = 0 from rfl] at h
      omega
    · rw [Int32.le_iff_toInt_le, nI_toInt (by omega)] at h
      omega
  · rw [e] at ht ⊢
    rw [nI_toInt (by omega)] at ht
    rw [if_neg (ix_no hp (by omega)), if_pos rfl, nI_1, fc7 hk h1 h2, bso]
    by_cases h : p + 1 < N
    · left
      refine ⟨p, h, by omega, rfl, by rw [if_neg (ix_no h (by omega))]⟩
    · right
      refine ⟨by omega, ?_⟩
      rw [if_pos (.inr (nI_le (by omega) (by omega)))]
theorem in8r {f : Int32} {v N : Nat} (hv : v < 2 ^ 20) (hN : N < 2 ^ 20) : f_X8_in (f.toInt64 + (nI v).toInt64) 0 ((nI N - 1).toInt64) = some (if 0 ≤ f.toInt + v ∧ f.toInt + v < N then 1 else 0) := by
  have h1 := Int32.toInt_lt f
  have h2 := Int32.le_toInt f
  have e : (f.toInt64 + (nI v).toInt64).toInt = f.toInt + v := by
    rw [Int64.toInt_add, Int32.toInt_toInt64, Int32.toInt_toInt64, nI_toInt (by omega)]
    simp only [Int.bmod_def]
    omega
  have e2 : ((nI N - 1).toInt64).toInt = (N : Int) - 1 := by
    rw [Int32.toInt_toInt64, show nI N - 1 = nI N - nI 1 from rfl, pk_sub_toInt (by omega) (by omega)]
    rfl
  unfold f_X8_in
  have a1 : (lg_cmp (f.toInt64 + (nI v).toInt64) 0 < 0) ↔ f.toInt + v < 0 := by rw [lg_cmp_lt, Int64.lt_iff_toInt_lt, e]; rfl
  have a2 : (0 < lg_cmp (f.toInt64 + (nI v).toInt64) ((nI N - 1).toInt64)) ↔ (N : Int) - 1 < f.toInt + v := by rw [lg_cmp_gt, Int64.lt_iff_toInt_lt, e, e2]
  simp only [a1, a2]
  by_cases b1 : f.toInt + v < 0
  · rw [if_pos b1, if_neg (by omega)]
  · rw [if_neg b1]
    by_cases b2 : (N : Int) - 1 < f.toInt + v
    · rw [if_pos b2, if_neg (by omega)]
    · rw [if_neg b2, if_pos (by omega)]
theorem cel_n {σ : ZI} {k p : Nat} (hk : k < 4) (hp : p < 40) : f_X4_cell σ (nI k) (nI p) = some (σ 58 (40 * k + p)) := by
  unfold f_X4_cell
  rw [show nI k * 40 + nI p = nI (40 * k + p) from by rw [show nI k * (40 : Int32) = nI (k * 40) from pk_mul k 40, nI_add, Nat.mul_comm], at_n (N := 160) rfl (by omega) (by omega)]
  rfl
theorem r125_n {a b f n s : Int32} {kk : ZI → Int32 → Int32 → Int32 → Option (Int32 × ZI)} {σ : ZI} {v6 : Int32} {v7 : Nat} (h : s = 0 → v7 % 2 = 0) (h7 : v7 < 2 ^ 20) : f_X8_read_125 a b f n kk σ v6 (nI v7) s = kk σ s v6 (nI (v7 + 1)) := by
  unfold f_X8_read_125 f_X8_read_190
  rw [nI_1]
  by_cases hs : s = 0
  · rw [if_pos hs, if_neg]
    rw [show (2 : Int32) = nI 2 from rfl, pk_rem (by omega) (by omega) (by omega), h hs]
    decide
  · rw [if_neg hs]
theorem r55_end {a b f : Int32} {n v7 fu : Nat} {σ : ZI} {v5 v6 : Int32} (hn : n ≤ 20) (h7 : v7 < 2 ^ 20) (h : 2 * n ≤ v7 ∨ v5 ≠ 0) : f_X8_read_55 a b f (nI n) (fu + 1) σ v5 v6 (nI v7) = f_X8_read_196 a b f (nI n) σ v5 v6 := by
  rw [f_X8_read_55, show (2 : Int32) * nI n = nI (2 * n) from pk_mul 2 n]
  by_cases h1 : 2 * n ≤ v7
  · rw [if_pos (nI_le h1 (by omega))]
  · rw [if_neg (nI_ge (by omega) (by omega)), if_neg (h.resolve_left h1)]
/-- one check of the reference, with the lane as told -/
theorem r55_s {k l N n v7 fu : Nat} {f : Int32} {σ : ZI} {v6 : Int32} (hk : k < 4) (hl : l < 3) (hN : N ≤ 40) (hn : n ≤ 20) (h7 : v7 < 2 * n) (h1 : σ 76 k = nI l) (h2 : σ 77 k = nI N) : f_X8_read_55 (nI k) (nI l) f (nI n) (fu + 1) σ 0 v6 (nI v7) = f_X8_read_125 (nI k) (nI l) f (nI n) (fun σ v5 v6 v7 => f_X8_read_55 (nI k) (nI l) f (nI n) fu σ v5 v6 v7) σ v6 (nI v7) (if 0 ≤ f.toInt + v7 ∧ f.toInt + v7 < N then 0 else 2) := by
  rw [f_X8_read_55, show (2 : Int32) * nI n = nI (2 * n) from pk_mul 2 n, if_neg (nI_ge (by omega) (by omega)), if_pos rfl, inB_n hk (by omega), if_pos rfl, nI_clamp (by omega), h1, if_neg (nI_nm4 (by omega)), if_pos rfl, if_pos rfl, if_pos rfl, h2, in8r (by omega) (by omega), bso]
  by_cases h : 0 ≤ f.toInt + v7 ∧ f.toInt + v7 < N
  · rw [if_pos h, if_pos h, if_neg (by decide)]
  · rw [if_neg h, if_neg h, if_pos rfl]
def G8 (s0 : ZI) (k l N T : Nat) (s8 : ZI) : Prop := s8 60 7 = nI T ∧ s8 76 k = nI l ∧ s8 77 k = nI N ∧ ∀ p, p < 160 → s8 78 p = s0 58 p
theorem rd_sim {k l N T n : Nat} {f : Int32} {s0 : ZI} (hk : k < 4) (hl : l < 3) (hN : N ≤ 40) (hT : T ≤ 5) (hn : n ≤ 20) (c1 : s0 2 3 = nI T) (c2 : s0 55 k = 1) (c3 : s0 57 k = nI N) : ∀ (e i : Nat) (u : Nat → Nat), i + e = n → (∀ j, j < T → u j ≤ 99) →
    (∃ c, (∀ fu σ, e < fu → CPr s0 T u σ → ∃ σ', f_X7_read_68 (nI k) (nI l) f (nI n) fu σ 0 (nI i) = some (-20 - nI c, σ') ∧ (∀ c i, c ≠ 59 → σ' c i = s0 c i)) ∧ (∀ s8 fu σ, G8 s0 k l N T s8 → 2 * e < fu → RQ s8 T u σ → ∃ σ', f_X8_read_55 (nI k) (nI l) f (nI n) fu σ 0 (nI i) (nI (2 * i)) = ((f_X8_copies σ' 54 0).bind fun q9 => some (-20 - nI c, q9)) ∧ (∀ c i, ¬ (c = 61 ∧ 6 ≤ i ∧ i < 11) → σ' c i = s8 c i))) ∨
    (∃ (c fl : Nat) (u' : Nat → Nat), (∀ j, j < T → u' j ≤ 99) ∧ (∀ fu σ, e < fu → CPr s0 T u σ → ∃ σ', f_X7_read_68 (nI k) (nI l) f (nI n) fu σ 0 (nI i) = f_X7_read_172 (nI k) (nI l) f (nI n) σ' (nI fl) (nI c) ∧ CPr s0 T u' σ') ∧ (∀ s8 fu σ, G8 s0 k l N T s8 → 2 * e < fu → RQ s8 T u σ → ∃ σ', f_X8_read_55 (nI k) (nI l) f (nI n) fu σ 0 (nI i) (nI (2 * i)) = f_X8_read_196 (nI k) (nI l) f (nI n) σ' (nI fl) (nI c) ∧ RQ s8 T u' σ')) := by
  intro e
  induction e with
  | zero =>
    intro i u hi hu
    obtain rfl : i = n := by omega
    refine .inr ⟨i, 0, u, hu, fun fu σ hf h => ⟨σ, ?_, h⟩, fun s8 fu σ hg hf h => ⟨σ, ?_, h⟩⟩
    · obtain ⟨fu, rfl⟩ : ∃ m, fu = m + 1 := ⟨fu - 1, by omega⟩
      rw [f_X7_read_68, if_pos (Int32.le_refl _)]
      rfl
    · obtain ⟨fu, rfl⟩ : ∃ m, fu = m + 1 := ⟨fu - 1, by omega⟩
      exact r55_end hn (by omega) (.inl (Nat.le_refl _))
  | succ e ih =>
    intro i u hi hu
    have cls : ∀ fu σ, CPr s0 T u σ → f_X7_read_68 (nI k) (nI l) f (nI n) (fu + 1) σ 0 (nI i) = ((f_X4_faultOfPair σ (nI k) (f + nI (2 * i))).bind fun q8 => if q8 = 0 then ((f_X4_cell σ (nI k) (f + nI (2 * i))).bind fun q9 => (f_X4_cell σ (nI k) (f + nI (2 * i) + 1)).bind fun q10 => (f_X7_postedTo σ 59 q9 q10).bind fun q11 => if 0 ≤ q11 then ((f_X7_put σ 59 q9 q11).bind fun q12 => f_X7_read_68 (nI k) (nI l) f (nI n) fu q12 q8 (nI (i + 1))) else some (-20 - nI i, σ)) else f_X7_read_172 (nI k) (nI l) f (nI n) σ q8 (nI i)) := by
      intro fu σ _
      rw [f_X7_read_68, if_neg (nI_ge (by omega) (by omega)), if_pos rfl, ltq, show (2 : Int32) * nI i = nI (2 * i) from pk_mul 2 i, nI_1]
    rcases fp7 (σ := s0) (i := i) hk hN (by omega) c2 c3 f with ⟨p, hp, ep, ef, -⟩ | ⟨hb, -⟩
    · have ec : ∀ σ, CPr s0 T u σ → f_X4_faultOfPair σ (nI k) (f + nI (2 * i)) = some 0 := fun σ h => by
        rcases fp7 (σ := σ) (i := i) hk hN (by omega) (by rw [h.1 _ _ (by omega)]; exact c2) (by rw [h.1 _ _ (by omega)]; exact c3) f with ⟨_, _, _, _, q⟩ | ⟨hb, -⟩
        · exact q
        · exact absurd ⟨by omega, by omega⟩ hb
      have x1 : f + nI (2 * i) + 1 = nI (p + 1) := by rw [ef, nI_1]
      have x7 : (40 : Int32) * nI k + f + nI (2 * i + 1) = nI (40 * k + p + 1) := by
        rw [nI_succ, ← Int32.add_assoc, Int32.add_assoc _ f, ef, show (40 : Int32) * nI k = nI (40 * k) from pk_mul 40 k, nI_add, nI_1]
      have rf : ∀ s8 fu σ, G8 s0 k l N T s8 → RQ s8 T u σ → f_X8_read_55 (nI k) (nI l) f (nI n) (fu + 1 + 1) σ 0 (nI i) (nI (2 * i)) = ((f_X8_posts σ (s0 58 (40 * k + p)) (s0 58 (40 * k + p + 1))).bind fun q8 => if 0 ≤ q8.1 then f_X8_read_55 (nI k) (nI l) f (nI n) fu q8.2 0 (nI (i + 1)) (nI (2 * (i + 1))) else (f_X8_copies q8.2 54 0).bind fun q9 => some (-20 - nI i, q9)) := by
        intro s8 fu σ ⟨g1, g2, g3, hd⟩ h
        have h76 : σ 76 k = nI l := by rw [h.1 _ _ (by omega)]; exact g2
        have h77 : σ 77 k = nI N := by rw [h.1 _ _ (by omega)]; exact g3
        rw [r55_s hk hl hN hn (by omega) h76 h77, if_pos (by omega), r125_n (fun _ => by omega) (by omega)]
        show f_X8_read_55 (nI k) (nI l) f (nI n) (fu + 1) σ 0 (nI i) (nI (2 * i + 1)) = _
        rw [r55_s hk hl hN hn (by omega) h76 h77, if_pos (by omega)]
        unfold f_X8_read_125 f_X8_read_190
        rw [if_pos rfl, if_pos (by rw [show (2 : Int32) = nI 2 from rfl, pk_rem (by omega) (by omega) (by omega), show (2 * i + 1) % 2 = 1 by omega]; rfl), ltq, x7, nI_pred, inB_n (by omega) (by omega), if_pos rfl, inB_n (by omega) (by omega), if_pos rfl, nI_clamp (by omega), nI_clamp (by omega), h.1 _ _ (by omega), h.1 _ _ (by omega), hd _ (by omega), hd _ (by omega), nI_1, nI_1]
        rfl
      rcases pst hT u hu (s0 58 (40 * k + p)) (s0 58 (40 * k + p + 1)) with ⟨m, v, hm, hv, e1, e2⟩ | ⟨b1, b2⟩
      · have hu' : ∀ j, j < T → (if j = m then u m + v else u j) ≤ 99 := fun j hj => by
          split
          · exact hv
          · exact hu j hj
        have nc : ∀ fu σ, CPr s0 T u σ → ∃ σ', CPr s0 T (fun j => if j = m then u m + v else u j) σ' ∧ f_X7_read_68 (nI k) (nI l) f (nI n) (fu + 1) σ 0 (nI i) = f_X7_read_68 (nI k) (nI l) f (nI n) fu σ' 0 (nI (i + 1)) := by
          intro fu σ h
          refine ⟨va_up σ 59 (upd (σ 59) m (nI (u m + v))), ⟨fun c j hc => ?_, fun j hj => ?_⟩, ?_⟩
          · rw [← h.1 c j hc]; simp only [va_up, if_neg hc]
          · show upd (σ 59) m (nI (u m + v)) j = nI (if j = m then u m + v else u j)
            by_cases q : j = m
            · subst q; rw [pk_us, if_pos rfl]
            · rw [pk_un q, if_neg q]; exact h.2 j hj
          · rw [cls fu σ h, ec σ h, bso, if_pos rfl, x1, ef, cel_n hk (by omega), bso, cel_n hk (by omega), bso, h.1 _ _ (by omega), h.1 _ _ (by omega), ← Nat.add_assoc, e1, e2, pst7 hT (by rw [h.1 _ _ (by omega)]; exact c1) h.2 hm hv, bso, if_pos (nI_pos' (by omega)), put_n (N := 5) rfl (by omega) (by omega), bso]
        have nr : ∀ s8 fu σ, G8 s0 k l N T s8 → RQ s8 T u σ → ∃ σ', RQ s8 T (fun j => if j = m then u m + v else u j) σ' ∧ f_X8_read_55 (nI k) (nI l) f (nI n) (fu + 1 + 1) σ 0 (nI i) (nI (2 * i)) = f_X8_read_55 (nI k) (nI l) f (nI n) fu σ' 0 (nI (i + 1)) (nI (2 * (i + 1))) := by
          intro s8 fu σ hg h
          refine ⟨va_up σ 61 (upd (σ 61) (6 + m) (nI (u m + v))), ⟨fun c j hc => ?_, fun j hj => ?_⟩, ?_⟩
          · rw [← h.1 c j hc]
            exact up_ne σ (by omega)
          · show upd (σ 61) (6 + m) (nI (u m + v)) (6 + j) = nI (if j = m then u m + v else u j)
            by_cases q : j = m
            · subst q; rw [pk_us, if_pos rfl]
            · rw [pk_un (by omega), if_neg q]; exact h.2 j hj
          · rw [rf s8 fu σ hg h, e1, e2, pst8 hT (by rw [h.1 _ _ (by omega)]; exact hg.1) h.2 hm hv, bso, if_pos (nI_pos' (by omega))]
        rcases ih (i + 1) (fun j => if j = m then u m + v else u j) (by omega) hu' with ⟨c, i1, i2⟩ | ⟨c, fl, u', i0, i1, i2⟩
        · refine .inl ⟨c, fun fu σ hf h => ?_, fun s8 fu σ hg hf h => ?_⟩
          · obtain ⟨fu, rfl⟩ : ∃ m, fu = m + 1 := ⟨fu - 1, by omega⟩
            obtain ⟨σ', h', e'⟩ := nc fu σ h
            rw [e']
            exact i1 fu σ' (by omega) h'
          · obtain ⟨fu, rfl⟩ : ∃ m, fu = m + 1 + 1 := ⟨fu - 2, by omega⟩
            obtain ⟨σ', h', e'⟩ := nr s8 fu σ hg h
            rw [e']
            exact i2 s8 fu σ' hg (by omega) h'
        · refine .inr ⟨c, fl, u', i0, fun fu σ hf h => ?_, fun s8 fu σ hg hf h => ?_⟩
          · obtain ⟨fu, rfl⟩ : ∃ m, fu = m + 1 := ⟨fu - 1, by omega⟩
            obtain ⟨σ', h', e'⟩ := nc fu σ h
            rw [e']
            exact i1 fu σ' (by omega) h'
          · obtain ⟨fu, rfl⟩ : ∃ m, fu = m + 1 + 1 := ⟨fu - 2, by omega⟩
            obtain ⟨σ', h', e'⟩ := nr s8 fu σ hg h
            rw [e']
            exact i2 s8 fu σ' hg (by omega) h'
      · refine .inl ⟨i, fun fu σ hf h => ⟨σ, ?_, h.1⟩, fun s8 fu σ hg hf h => ⟨σ, ?_, h.1⟩⟩
        · obtain ⟨fu, rfl⟩ : ∃ m, fu = m + 1 := ⟨fu - 1, by omega⟩
          obtain ⟨r, q1, q2⟩ := b1 σ (by rw [h.1 _ _ (by omega)]; exact c1) h.2
          rw [cls fu σ h, ec σ h, bso, if_pos rfl, x1, ef, cel_n hk (by omega), bso, cel_n hk (by omega), bso, h.1 _ _ (by omega), h.1 _ _ (by omega), ← Nat.add_assoc, q1, bso, if_neg (Int32.not_le.mpr q2)]
        · obtain ⟨fu, rfl⟩ : ∃ m, fu = m + 1 + 1 := ⟨fu - 2, by omega⟩
          obtain ⟨r, q1, q2⟩ := b2 σ (by rw [h.1 _ _ (by omega)]; exact hg.1) h.2
          rw [rf s8 fu σ hg h, q1, bso, if_neg (Int32.not_le.mpr q2)]
    · refine .inr ⟨i, 2, u, hu, fun fu σ hf h => ⟨σ, ?_, h⟩, fun s8 fu σ hg hf h => ⟨σ, ?_, h⟩⟩
      · obtain ⟨fu, rfl⟩ : ∃ m, fu = m + 1 := ⟨fu - 1, by omega⟩
        rw [cls fu σ h]
        rcases fp7 (σ := σ) (i := i) hk hN (by omega) (by rw [h.1 _ _ (by omega)]; exact c2) (by rw [h.1 _ _ (by omega)]; exact c3) f with ⟨_, _, _, _, q⟩ | ⟨-, q⟩
        · exact absurd ⟨by omega, by omega⟩ hb
        · rw [q, bso, if_neg (by decide)]
          rfl
      · obtain ⟨fu, rfl⟩ : ∃ m, fu = m + 1 + 1 + 1 := ⟨fu - 3, by omega⟩
        have h76 : σ 76 k = nI l := by rw [h.1 _ _ (by omega)]; exact hg.2.1
        have h77 : σ 77 k = nI N := by rw [h.1 _ _ (by omega)]; exact hg.2.2.1
        rw [r55_s hk hl hN hn (by omega) h76 h77]
        by_cases b1 : 0 ≤ f.toInt + (2 * i : Nat) ∧ f.toInt + (2 * i : Nat) < N
        · rw [if_pos b1, r125_n (fun _ => by omega) (by omega)]
          show f_X8_read_55 (nI k) (nI l) f (nI n) (fu + 1 + 1) σ 0 (nI i) (nI (2 * i + 1)) = _
          rw [r55_s hk hl hN hn (by omega) h76 h77, if_neg (by omega), r125_n (fun h => absurd h (by decide)) (by omega)]
          exact r55_end hn (by omega) (.inr (by decide))
        · rw [if_neg b1, r125_n (fun h => absurd h (by decide)) (by omega)]
          exact r55_end (fu := fu + 1) hn (by omega) (.inr (by decide))
