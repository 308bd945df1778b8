/-! by odds: the calls -/
abbrev DN (t : NN) : Nat := 10 ^ (t 0 0 + t 0 2)
abbrev SO (t : NN) (s : Nat) (cf : Nat → Nat) (V : Nat → Nat → Int) : Int := SN (oq s) (orr cf) (t 0 0) (t 0 2) V
/-- two texts that differ in OUT and IN alone -/
def ON (t u : NN) : Prop := ∀ r i, ¬ (r = 0 ∧ (i = 8 ∨ i = 9)) → u r i = t r i
theorem ON_rf (t : NN) : ON t t := fun _ _ _ => rfl
theorem O_v2 {t u : NN} (k : TK u) (h : ON t u) (s : Nat) (cf : Nat → Nat) {j : Nat} (hj : j < t 0 0) : O_ (PO t s cf) K1 (u 0 8) (u 0 9) (u 0 5) (t 0 0) j = SO t s cf (v2 u j) := by
  have e0 : u 0 0 = t 0 0 := h _ _ (by omega)
  have e2 : u 0 2 = t 0 2 := h _ _ (by omega)
  have e4 : u 4 = t 4 := funext fun i => h _ _ (by omega)
  have m := TK_m k
  have k1 := k.1
  rw [e0, e2, e4] at m
  unfold PO
  rw [O_SN m.1 m.2 (oq s) (orr cf) K1 (u 0 8) (u 0 9) (u 0 5) (by omega) hj]
  refine SN_congr fun x n _ _ => ?_
  unfold v2 tp tS tC
  rw [e2, e4]
  simp only [okK1, and_true]
theorem G_v1 {t : NN} (k : TK t) (s : Nat) (cf : Nat → Nat) {j : Nat} (hj : j < t 0 0) : G_ (PO t s cf) K1 (t 0 8) (t 0 9) (t 0 5) (t 0 0) j = SO t s cf (v1 t j) := by
  have m := TK_m k
  have k1 := k.1
  unfold PO
  rw [G_SN m.1 m.2 (oq s) (orr cf) K1 (t 0 8) (t 0 9) (t 0 5) (by omega) hj]
  refine SN_congr fun x n _ _ => ?_
  unfold v1 tS tC
  simp only [okK1, and_true]
theorem ns12 (mj : Nat → Nat) (M x n IN BR : Nat) : ∀ j, j ≤ 10 → ns mj M x n 12 IN BR j = 0
  | 0, _ => rfl
  | j + 1, h => by
    have ih := ns12 mj M x n IN BR j (by omega)
    have hc := cn_le mj M x n (j + 1)
    have e : pa 12 IN (ns mj M x n 12 IN BR j) (cn mj M x n (j + 1)) = 0 := by
      rw [ih]; unfold pa; rw [if_pos rfl, if_neg (by omega)]
    unfold ns
    rw [e, if_neg (fun z => absurd z.1 (by omega))]
theorem W_v0 {t : NN} (k : TK t) (s : Nat) (cf : Nat → Nat) {j : Nat} (hj : j ≤ t 0 0) (c : Nat) : W_ (PO t s cf) K1 12 0 0 (t 0 0) j c = SO t s cf (v0 t j c) := by
  have m := TK_m k
  have k1 := k.1
  unfold PO
  rw [W_SN m.1 m.2 (oq s) (orr cf) K1 12 0 0 hj c]
  refine SN_congr fun x n _ _ => ?_
  unfold v0 tC
  rw [ns12 _ _ _ _ _ _ _ (by omega)]
  simp only [okK1, and_true]
  by_cases h : cn (t 4) (t 0 2) x n j = c
  · rw [if_pos h.symm, if_pos h]
  · rw [if_neg (fun z => h z.symm), if_neg h]
/-- as seen: joint by joint, or one by one -/
theorem KS_iff (sj sc : Nat → Nat) (j c : Nat) : ∀ n, KS sj sc j c n = true ↔ ∀ i, i < n → sj i = j + 1 → c = sc i
  | 0 => ⟨fun _ i hi => absurd hi (Nat.not_lt_zero _), fun _ => rfl⟩
  | n + 1 => by
    have ih := KS_iff sj sc j c n
    have e : KS sj sc j c (n + 1) = (KS sj sc j c n && (!(sj n == j + 1) || c == sc n)) := rfl
    rw [e, Bool.and_eq_true, ih]
    constructor
    · rintro ⟨a, b⟩ i hi hs
      by_cases z : i = n
      · subst z
        simp [hs] at b
        exact b
      · exact a i (by omega) hs
    · intro h
      refine ⟨fun i hi => h i (by omega), ?_⟩
      by_cases z : sj n = j + 1
      · simp [z, h n (by omega) z]
      · simp [z]
theorem as_iff (t : NN) (sj sc : Nat → Nat) (x n : Nat) : ∀ N, as_ t sj sc x n N = true ↔ ∀ i, i < N → tC t x n (sj i) = sc i
  | 0 => ⟨fun _ i hi => absurd hi (Nat.not_lt_zero _), fun _ => rfl⟩
  | N + 1 => by
    have ih := as_iff t sj sc x n N
    have e : as_ t sj sc x n (N + 1) = (as_ t sj sc x n N && (tC t x n (sj N) == sc N)) := rfl
    rw [e, Bool.and_eq_true, ih]
    constructor
    · rintro ⟨a, b⟩ i hi
      by_cases z : i = N
      · subst z; simpa using b
      · exact a i (by omega)
    · intro h
      exact ⟨fun i hi => h i (by omega), by simp [h N (by omega)]⟩
theorem okK_iff (mj : Nat → Nat) (M x n : Nat) (K : Nat → Nat → Bool) : ∀ j, okK mj M x n K j = true ↔ ∀ i, i < j → K i (cn mj M x n (i + 1)) = true
  | 0 => ⟨fun _ i hi => absurd hi (Nat.not_lt_zero _), fun _ => rfl⟩
  | j + 1 => by
    have ih := okK_iff mj M x n K j
    have e : okK mj M x n K (j + 1) = (okK mj M x n K j && K j (cn mj M x n (j + 1))) := rfl
    rw [e, Bool.and_eq_true, ih]
    constructor
    · rintro ⟨a, b⟩ i hi
      by_cases z : i = j
      · subst z; exact b
      · exact a i (by omega)
    · intro h
      exact ⟨fun i hi => h i (by omega), h j (by omega)⟩
theorem as_ok {t : NN} {N : Nat} {sj sc : Nat → Nat} (h : ∀ i, i < N → 1 ≤ sj i ∧ sj i ≤ t 0 0) (x n : Nat) : okK (t 4) (t 0 2) x n (fun j c => KS sj sc j c N) (t 0 0) = as_ t sj sc x n N := by
  apply Bool.eq_iff_iff.mpr
  rw [okK_iff, as_iff]
  constructor
  · intro a i hi
    obtain ⟨h1, h2⟩ := h i hi
    have := (KS_iff sj sc (sj i - 1) (cn (t 4) (t 0 2) x n (sj i - 1 + 1)) N).mp (a (sj i - 1) (by omega)) i hi (by omega)
    rw [show sj i - 1 + 1 = sj i by omega] at this
    exact this
  · intro a j hj
    refine (KS_iff sj sc j _ N).mpr fun i hi hs => ?_
    have := a i hi
    rw [hs] at this
    exact this
theorem seen_v7 {t : NN} (k : TK t) {N : Nat} {sj sc : Nat → Nat} (h : ∀ i, i < N → 1 ≤ sj i ∧ sj i ≤ t 0 0) (q r : Nat → Int × Int) : sm (rw_ (PQ q r (t 4) (t 0 2)) (fun j c => KS sj sc j c N) 12 0 0 (t 0 0)).1 11 = SN q r (t 0 0) (t 0 2) (v7 t sj sc N) := by
  have m := TK_m k
  have k1 := k.1
  have e : ∀ c, (rw_ (PQ q r (t 4) (t 0 2)) (fun j c => KS sj sc j c N) 12 0 0 (t 0 0)).1 c = SN q r (t 0 0) (t 0 2) (fun x n => if c = tC t x n (t 0 0) then v7 t sj sc N x n else 0) := by
    intro c
    have := W_SN m.1 m.2 q r (fun j c => KS sj sc j c N) 12 0 0 (Nat.le_refl (t 0 0)) c
    unfold W_ at this
    rw [Nat.sub_self] at this
    have e1 : bh_ (PQ q r (t 4) (t 0 2)) (t 0 0) 0 = 1 := rfl
    rw [e1, Int.mul_one] at this
    rw [this]
    refine SN_congr fun x n _ _ => ?_
    rw [ns12 _ _ _ _ _ _ _ (by omega), as_ok h x n]
    unfold v7 tC
    by_cases a : c = cn (t 4) (t 0 2) x n (t 0 0)
    · simp only [a, true_and, if_true]
    · simp only [a, false_and, if_false]
  rw [sm_congr (fun c _ => e c), ← SN_sm]
  refine SN_congr fun x n _ _ => ?_
  have hc : tC t x n (t 0 0) ≤ t 0 0 := cn_le _ _ _ _ _
  rw [sm_delta, if_pos (by omega)]
theorem s41_0 (σ : ZI) (J : Nat) : (s41 σ J) 41 0 = nI J := by
  show upd (σ 41) 0 (nI J) 0 = _
  exact pk_us
/-- what a walk of the net leaves -/
theorem pbo7 {t u : NN} {σ : ZI} {τ : ZL} {s : Nat} {cf : Nat → Nat} (q : T7 t σ) (ku : TK u) (h : ON t u) (hW : Wg τ (PO t s cf) (t 0 0)) (hL : InL τ) : ∃ τ', f_X0_passWithNet (s41 σ (t 0 0)) τ (nI (u 0 8)) (nI (u 0 9)) (nI (t 0 5)) = some τ' ∧ Wg τ' (PO t s cf) (t 0 0) ∧ InL τ' ∧ (∀ j, j < t 0 0 → τ' 49 (j + 1) = iL (G_ (PO t s cf) K1 (u 0 8) (u 0 9) (u 0 5) (t 0 0) j)) ∧ (∀ j, j < t 0 0 → τ' 50 (j + 1) = iL (SO t s cf (v2 u j))) := by
  have k1 := q.1.1
  have u1 := ku.1
  have e5 : u 0 5 = t 0 5 := h _ _ (by omega)
  obtain ⟨τ', g1, g2, g3⟩ := net7 (σ := s41 σ (t 0 0)) (τ := τ) (P := PO t s cf) (OUT := u 0 8) (IN := u 0 9) (BR := u 0 5) (J := t 0 0) (by omega) (by omega) (by omega) (by omega) (s41_0 σ _) hW
  rw [← e5]
  exact ⟨τ', g1, Wg_fr (fun c k _ _ => g2 c k (by omega)) hW, (g2 50 0 (by omega)).trans hL, fun j hj => (g3 j hj).1, fun j hj => by rw [(g3 j hj).2, O_v2 ku h s cf hj]⟩
