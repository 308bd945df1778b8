/-! the class's odds: weights, walks -/
def Wt (τ : ZL) (P : PP) (J : Nat) : Prop := ∀ j, j < J → τ 42 (j + 1) = iL (P 0 j) ∧ τ 43 (j + 1) = iL (P 1 j) ∧ τ 44 (j + 1) = iL (P 2 j) ∧ τ 45 (j + 1) = iL (P 3 j)
def Wg (τ : ZL) (P : PP) (J : Nat) : Prop := Wt τ P J ∧ ∀ m, m ≤ J → τ 46 (J - m) = iL (bh_ P J m)
theorem Wt_fr {τ τ' : ZL} {P : PP} {J : Nat} (h : ∀ c k, 42 ≤ c → c ≤ 45 → τ' c k = τ c k) (q : Wt τ P J) : Wt τ' P J := fun j hj => by
  obtain ⟨a, b, c, d⟩ := q j hj
  exact ⟨(h _ _ (by omega) (by omega)).trans a, (h _ _ (by omega) (by omega)).trans b, (h _ _ (by omega) (by omega)).trans c, (h _ _ (by omega) (by omega)).trans d⟩
theorem Wg_fr {τ τ' : ZL} {P : PP} {J : Nat} (h : ∀ c k, 42 ≤ c → c ≤ 46 → τ' c k = τ c k) (q : Wg τ P J) : Wg τ' P J := ⟨Wt_fr (fun c k h1 h2 => h c k h1 (by omega)) q.1, fun m hm => (h _ _ (by omega) (by omega)).trans (q.2 m hm)⟩
theorem beh_l {σ : ZI} {P : PP} {J : Nat} (hJ : J ≤ 10) : ∀ (d m fu : Nat) (τ : ZL), m + d = J → d < fu → Wt τ P J → (∀ k, k ≤ m → τ 46 (J - k) = iL (bh_ P J k)) → ∃ τ', f_X0_sumBehind_17 σ fu τ (nI d) = some τ' ∧ (∀ c k, c ≠ 46 → τ' c k = τ c k) ∧ Wg τ' P J := by
  intro d
  induction d with
  | zero =>
    intro m fu τ h1 h2 h3 h4
    obtain ⟨fu, rfl⟩ : ∃ m, fu = m + 1 := ⟨fu - 1, by omega⟩
    obtain rfl : m = J := by omega
    exact ⟨τ, by rw [f_X0_sumBehind_17, if_pos (by decide)], fun _ _ _ => rfl, h3, h4⟩
  | succ d ih =>
    intro m fu τ h1 h2 h3 h4
    obtain ⟨fu, rfl⟩ : ∃ m, fu = m + 1 := ⟨fu - 1, by omega⟩
    obtain ⟨a, b, c, e⟩ := h3 d (by omega)
    have hb := h4 m (by omega)
    rw [show J - m = d + 1 by omega] at hb
    have ib : inB (nI (d + 1)) 11 = true := inB11 (by omega)
    rw [f_X0_sumBehind_17, if_neg (show ¬ nI (d + 1) < 1 from nI_nlt (a := d + 1) (b := 1) (by omega) (by omega)), if_pos ib, if_pos ib, if_pos ib, if_pos ib, ltq, if_pos ib, nI_pred, inB11 (by omega), if_pos rfl, ltq, nI_clamp (by omega), nI_clamp (by omega), a, b, c, e, hb, pk_m1]
    obtain ⟨t1, ht1⟩ : ∃ t1, t1 = va_up τ 46 (vp_updL (τ 46) d (iL (bh_ P J m) * ((iL (P 0 d) + iL (P 1 d)) * (iL (P 2 d) + iL (P 3 d))))) := ⟨_, rfl⟩
    rw [← ht1]
    have o1 : ∀ c k, c ≠ 46 → t1 c k = τ c k := fun c k h => by rw [ht1]; exact vu_n τ (.inl h)
    obtain ⟨τ', g1, g2, g3⟩ := ih (m + 1) fu t1 (by omega) (by omega) (Wt_fr (fun c k _ _ => o1 c k (by omega)) h3) (fun k hk => by
      by_cases z : k = m + 1
      · subst z
        rw [show J - (m + 1) = d by omega, ht1, vu_s, ← iL_add, ← iL_add, ← iL_mul, ← iL_mul]
        have e : bh_ P J (m + 1) = bh_ P J m * ((P 0 (J - (m + 1)) + P 1 (J - (m + 1))) * (P 2 (J - (m + 1)) + P 3 (J - (m + 1)))) := rfl
        rw [e, show J - (m + 1) = d by omega]
      · rw [ht1, vu_n τ (.inr (by omega))]
        exact h4 k (by omega))
    exact ⟨τ', g1, fun c k h => (g2 c k h).trans (o1 c k h), g3⟩
theorem beh7 {σ : ZI} {τ : ZL} {P : PP} {J : Nat} (hJ : J ≤ 10) (hs : σ 41 0 = nI J) (h : Wt τ P J) : ∃ τ', f_X0_sumBehind σ τ = some τ' ∧ (∀ c k, c ≠ 46 → τ' c k = τ c k) ∧ Wg τ' P J := by
  unfold f_X0_sumBehind
  rw [hs, putL_n rfl rfl (by omega), bso]
  obtain ⟨τ', g1, g2, g3⟩ := beh_l (σ := σ) (P := P) hJ J 0 3000 (va_up τ 46 (vp_updL (τ 46) J 1)) (by omega) (by omega) (Wt_fr (fun c k _ _ => vu_n τ (.inl (by omega))) h) (fun k hk => by
    obtain rfl : k = 0 := by omega
    rw [Nat.sub_zero, vu_s]; rfl)
  exact ⟨τ', g1, fun c k h => (g2 c k h).trans (vu_n τ (.inl h)), g3⟩
def s41 (σ : ZI) (J : Nat) : ZI := va_up σ 41 (upd (σ 41) 0 (nI J))
theorem s41_sg (σ : ZI) (J : Nat) : Sg σ (s41 σ J) := Dw_up (Dw_refl 0 σ) (.inl rfl)
/-- the pairs of odds: he misses, he notices -/
def oq (s : Nat) : Nat → Int × Int := fun _ => ((s : Int), 10 - (s : Int))
def orr (cf : Nat → Nat) : Nat → Int × Int := fun m => ((cf m : Int), 10 - (cf m : Int))
def PO (t : NN) (s : Nat) (cf : Nat → Nat) : PP := PQ (oq s) (orr cf) (t 4) (t 0 2)
theorem i10 {c : Nat} (h : c ≤ 10) : ((10 : Int32) - nI c).toInt64 = iL (10 - (c : Int)) := by
  rw [show (10 : Int32) = nI 10 from rfl, pk_sub h, nI_iL (by omega)]
  congr 1
  omega
theorem wb_l {t : NN} {σ : ZI} (q : T7 t σ) {s : Nat} (hs : s ≤ 10) {cl : Int32} {cf : Nat → Nat} (hc : (cl = -4 ∧ cf = t 5) ∨ (∃ v, v ≤ 10 ∧ cl = nI v ∧ cf = fun _ => v)) (h41 : σ 41 0 = nI (t 0 0)) : ∀ (d j fu : Nat) (τ : ZL), j + d = t 0 0 → d < fu → Wt τ (PO t s cf) j → ∃ τ', f_X0_weighByOdds_17 1 (nI s) cl fu σ τ (nI (j + 1)) = some (σ, τ') ∧ (∀ c k, c < 42 ∨ 46 < c → τ' c k = τ c k) ∧ Wg τ' (PO t s cf) (t 0 0) := by
  obtain ⟨kk, tv⟩ := q
  have k1 := kk.1
  have k4 := kk.2.2.2.1
  intro d
  induction d with
  | zero =>
    intro j fu τ h1 h2 h3
    obtain ⟨fu, rfl⟩ : ∃ m, fu = m + 1 := ⟨fu - 1, by omega⟩
    obtain rfl : j = t 0 0 := by omega
    obtain ⟨τ', g1, g2, g3⟩ := beh7 (σ := σ) (by omega) h41 h3
    exact ⟨τ', by rw [f_X0_weighByOdds_17, h41, if_pos (nI_lt (by omega) (by omega)), g1, bso], fun c k h => g2 c k (by omega), g3⟩
  | succ d ih =>
    intro j fu τ h1 h2 h3
    obtain ⟨fu, rfl⟩ : ∃ m, fu = m + 1 := ⟨fu - 1, by omega⟩
    have ib : inB (nI (j + 1)) 11 = true := inB11 (by omega)
    rw [f_X0_weighByOdds_17, h41, if_neg (nI_nlt (by omega) (by omega)), mk_n (b := 1) (M := t 0 2) (j := j + 1) (mj := t 4) rfl rfl rfl (by omega) (by omega) (tv.1 2 (by omega)) (fun m hm => ⟨by have := k4 m hm; omega, (tv.2.2.1 m hm).1⟩), bso]
    have hf := fi_le (fun m => t 4 m == j + 1) (t 0 2)
    -- the tail, over what is written
    have tail : ∀ (v5 s0 : Int32) (n0 o0 : Int), n0 = PO t s cf 2 j → o0 = PO t s cf 3 j → (if v5 = -4 then (0 : Int64) else s0.toInt64) = iL n0 → (if v5 = -4 then (1 : Int64) else ((10 : Int32) - s0).toInt64) = iL o0 → ∃ τ', f_X0_weighByOdds_53 1 (nI s) cl (fun σ τ v4 => f_X0_weighByOdds_17 1 (nI s) cl fu σ τ v4) σ τ (nI (j + 1)) v5 s0 = some (σ, τ') ∧ (∀ c k, c < 42 ∨ 46 < c → τ' c k = τ c k) ∧ Wg τ' (PO t s cf) (t 0 0) := by
      intro v5 s0 n0 o0 en eo hn ho
      unfold f_X0_weighByOdds_53 f_X0_weighByOdds_96 f_X0_weighByOdds_120
      have key : ∀ (x y : Int64), x = iL n0 → y = iL o0 → ∃ τ', f_X0_weighByOdds_17 1 (nI s) cl fu σ (va_up (va_up (va_up (va_up τ 42 (vp_updL (τ 42) (j + 1) (iL s))) 43 (vp_updL (va_up τ 42 (vp_updL (τ 42) (j + 1) (iL s)) 43) (j + 1) (iL (10 - (s : Int))))) 44 (vp_updL (va_up (va_up τ 42 (vp_updL (τ 42) (j + 1) (iL s))) 43 (vp_updL (va_up τ 42 (vp_updL (τ 42) (j + 1) (iL s)) 43) (j + 1) (iL (10 - (s : Int)))) 44) (j + 1) x)) 45 (vp_updL (va_up (va_up (va_up τ 42 (vp_updL (τ 42) (j + 1) (iL s))) 43 (vp_updL (va_up τ 42 (vp_updL (τ 42) (j + 1) (iL s)) 43) (j + 1) (iL (10 - (s : Int))))) 44 (vp_updL (va_up (va_up τ 42 (vp_updL (τ 42) (j + 1) (iL s))) 43 (vp_updL (va_up τ 42 (vp_updL (τ 42) (j + 1) (iL s)) 43) (j + 1) (iL (10 - (s : Int)))) 44) (j + 1) x) 45) (j + 1) y)) (nI (j + 1 + 1)) = some (σ, τ') ∧ (∀ c k, c < 42 ∨ 46 < c → τ' c k = τ c k) ∧ Wg τ' (PO t s cf) (t 0 0) := by
        intro x y hx hy
        obtain ⟨t1, ht1⟩ : ∃ t1, t1 = va_up τ 42 (vp_updL (τ 42) (j + 1) (iL s)) := ⟨_, rfl⟩
        rw [← ht1]
        obtain ⟨t2, ht2⟩ : ∃ t2, t2 = va_up t1 43 (vp_updL (t1 43) (j + 1) (iL (10 - (s : Int)))) := ⟨_, rfl⟩
        rw [← ht2]
        obtain ⟨t3, ht3⟩ : ∃ t3, t3 = va_up t2 44 (vp_updL (t2 44) (j + 1) x) := ⟨_, rfl⟩
        rw [← ht3]
        obtain ⟨t4, ht4⟩ : ∃ t4, t4 = va_up t3 45 (vp_updL (t3 45) (j + 1) y) := ⟨_, rfl⟩
        rw [← ht4]
        have o4 : ∀ c k, ¬ (42 ≤ c ∧ c ≤ 45 ∧ k = j + 1) → t4 c k = τ c k := fun c k h => by
          rw [ht4, vu_n t3 (by omega), ht3, vu_n t2 (by omega), ht2, vu_n t1 (by omega), ht1, vu_n τ (by omega)]
        obtain ⟨τ', g1, g2, g3⟩ := ih (j + 1) fu t4 (by omega) (by omega) (fun i hi => by
          by_cases z : i = j
          · subst z
            refine ⟨?_, ?_, ?_, ?_⟩
            · rw [ht4, vu_n t3 (.inl (by omega)), ht3, vu_n t2 (.inl (by omega)), ht2, vu_n t1 (.inl (by omega)), ht1, vu_s]; rfl
            · rw [ht4, vu_n t3 (.inl (by omega)), ht3, vu_n t2 (.inl (by omega)), ht2, vu_s]; rfl
            · rw [ht4, vu_n t3 (.inl (by omega)), ht3, vu_s, hx, en]
            · rw [ht4, vu_s, hy, eo]
          · obtain ⟨a, b, c, e⟩ := h3 i (by omega)
            exact ⟨(o4 _ _ (by omega)).trans a, (o4 _ _ (by omega)).trans b, (o4 _ _ (by omega)).trans c, (o4 _ _ (by omega)).trans e⟩)
        exact ⟨τ', g1, fun c k h => (g2 c k h).trans (o4 c k (by omega)), g3⟩
      by_cases h5 : v5 = -4
      · rw [if_pos h5] at hn ho
        rw [if_pos ib, ltq, if_pos ib, ltq, if_pos h5, if_pos ib, ltq, if_pos h5, if_pos ib, ltq, nI_1, nI_clamp (by omega), nI_iL (by omega), i10 hs]
        exact key _ _ hn ho
      · rw [if_neg h5] at hn ho
        rw [if_pos ib, ltq, if_pos ib, ltq, if_neg h5, if_pos ib, ltq, if_neg h5, if_pos ib, ltq, nI_1, nI_clamp (by omega), nI_iL (by omega), i10 hs]
        exact key _ _ hn ho
    have e2 : PO t s cf 2 j = if fi (fun m => t 4 m == j + 1) (t 0 2) < t 0 2 then (cf (fi (fun m => t 4 m == j + 1) (t 0 2)) : Int) else 0 := rfl
    have e3 : PO t s cf 3 j = if fi (fun m => t 4 m == j + 1) (t 0 2) < t 0 2 then (10 - (cf (fi (fun m => t 4 m == j + 1) (t 0 2)) : Int)) else 1 := rfl
    by_cases hm : fi (fun m => t 4 m == j + 1) (t 0 2) < t 0 2
    · rw [if_pos hm]
      rw [if_pos hm] at e2 e3
      have n4 := nI_nm4 (k := fi (fun m => t 4 m == j + 1) (t 0 2)) (by omega)
      rcases hc with ⟨h1, h2⟩ | ⟨v, hv, h1, h2⟩
      · have c10 := (k4 _ hm).2.2
        rw [if_pos h1, at_n (r := 1 + 6) (N := 3) rfl (by omega) (by omega), bso, show σ (1 + 6) _ = _ from (tv.2.2.1 _ hm).2]
        refine tail _ _ _ _ rfl rfl ?_ ?_
        · rw [if_neg n4, nI_iL (by omega), e2, h2]
        · rw [if_neg n4, i10 c10, e3, h2]
      · rw [if_neg (by rw [h1]; exact nI_nm4 (by omega)), h1]
        rw [h1] at tail
        refine tail _ _ _ _ rfl rfl ?_ ?_
        · rw [if_neg n4, nI_iL (by omega), e2, h2]
        · rw [if_neg n4, i10 hv, e3, h2]
    · rw [if_neg hm]
      rw [if_neg hm] at e2 e3
      rcases hc with ⟨h1, h2⟩ | ⟨v, hv, h1, h2⟩
      · rw [if_pos h1, at_neg (r := 1 + 6) (N := 3) rfl (by decide), bso]
        exact tail _ _ _ _ rfl rfl (by rw [if_pos rfl, e2]; rfl) (by rw [if_pos rfl, e3]; rfl)
      · rw [if_neg (by rw [h1]; exact nI_nm4 (by omega))]
        exact tail _ _ _ _ rfl rfl (by rw [if_pos rfl, e2]; rfl) (by rw [if_pos rfl, e3]; rfl)
theorem wb7 {t : NN} {σ : ZI} (q : T7 t σ) (τ : ZL) {s : Nat} (hs : s ≤ 10) {cl : Int32} {cf : Nat → Nat} (hc : (cl = -4 ∧ cf = t 5) ∨ (∃ v, v ≤ 10 ∧ cl = nI v ∧ cf = fun _ => v)) : ∃ τ', f_X0_weighByOdds σ τ 1 (nI s) cl = some (s41 σ (t 0 0), τ') ∧ (∀ c k, c < 42 ∨ 46 < c → τ' c k = τ c k) ∧ Wg τ' (PO t s cf) (t 0 0) := by
  have k1 := q.1.1
  have q' : T7 t (s41 σ (t 0 0)) := ⟨q.1, TV_fr (fun r i h1 h2 => by show va_up σ 41 _ (1 + r) i = _; simp only [va_up, if_neg (show 1 + r ≠ 41 by omega)]) q.2⟩
  unfold f_X0_weighByOdds
  rw [if_pos (by decide), v1_0, bso, show σ 2 0 = _ from q.2.1 0 (by omega), ltq, if_neg (show ¬ (10 : Int32) < nI (t 0 0) from nI_nlt (b := t 0 0) (a := 10) (by omega) (by omega))]
  exact wb_l q' hs hc (show upd (σ 41) 0 (nI (t 0 0)) 0 = _ from pk_us) (t 0 0) 0 3000 τ (by omega) (by omega) (fun j hj => absurd hj (Nat.not_lt_zero _))
