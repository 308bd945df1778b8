/-! the state as whole numbers, and what is kept between calls -/
abbrev NN : Type := Nat → Nat → Nat
/-- what a text tells, by rows: 0 rules, 1 to 3 arms, 4 and 5 marks, 6 and 7 towns -/
def TK (t : NN) : Prop := (2 ≤ t 0 0 ∧ t 0 0 ≤ 10 ∧ t 0 1 ≤ 3 ∧ t 0 2 ≤ 3 ∧ t 0 3 ≤ 5 ∧ t 0 4 < 2 ^ t 0 0 ∧ t 0 5 ≤ t 0 0 ∧ t 0 6 ≤ 10 ∧ 1 ≤ t 0 7 ∧ t 0 7 ≤ 9 ∧ 1 ≤ t 0 8 ∧ t 0 8 ≤ 10 ∧ t 0 8 < t 0 9 ∧ t 0 9 ≤ 11 ∧ t 0 10 ≤ 9 ∧ t 0 11 ≤ 9 ∧ 1 ≤ t 0 12 ∧ t 0 12 ≤ 9) ∧
  (∀ i, i < t 0 1 → t 1 i ≤ 4 ∧ 1 ≤ t 2 i ∧ t 2 i ≤ t 0 0 ∧ t 3 i ≤ 9) ∧ (∀ i k, i < t 0 1 → k < t 0 1 → t 2 i = t 2 k → i = k) ∧
  (∀ m, m < t 0 2 → 1 ≤ t 4 m ∧ t 4 m ≤ t 0 0 ∧ t 5 m ≤ 10) ∧ (∀ i k, i < t 0 2 → k < t 0 2 → t 4 i = t 4 k → i = k) ∧
  (∀ i, i < t 0 3 → t 6 i ≤ 99 ∧ t 7 i ≤ 9)
def TV (b : Nat) (t : NN) (σ : ZI) : Prop := (∀ i, i < 13 → σ (b + 1) i = nI (t 0 i)) ∧ (∀ i, i < t 0 1 → σ (b + 2) i = nI (t 1 i) ∧ σ (b + 3) i = nI (t 2 i) ∧ σ (b + 4) i = nI (t 3 i)) ∧
  (∀ i, i < t 0 2 → σ (b + 5) i = nI (t 4 i) ∧ σ (b + 6) i = nI (t 5 i)) ∧ (∀ i, i < t 0 3 → σ (b + 7) i = nI (t 6 i) ∧ σ (b + 8) i = nI (t 7 i))
/-- the reference's page -/
def RP (o : Nat) (t : NN) (σ : ZI) : Prop := (∀ i, i < t 0 1 → σ 61 (o + i) = nI (t 1 i)) ∧ (∀ i, i < t 0 2 → σ 61 (o + (3 + i)) = nI (t 5 i)) ∧ (∀ i, i < t 0 3 → σ 61 (o + (6 + i)) = nI (t 6 i)) ∧
  σ 61 (o + 11) = nI (t 0 4) ∧ σ 61 (o + 12) = nI (t 0 5) ∧ σ 61 (o + 13) = nI (t 0 6) - 1 ∧ σ 61 (o + 14) = nI (t 0 7) - 5 ∧ σ 61 (o + 15) = nI (t 0 8) - 2 ∧ σ 61 (o + 16) = nI (t 0 9) - 4 ∧ σ 61 (o + 17) = nI (t 0 12) - 3
def RS (t : NN) (σ : ZI) : Prop := σ 60 1 = nI (t 0 0) ∧ σ 60 3 = nI (t 0 1) ∧ σ 60 5 = nI (t 0 2) ∧ σ 60 7 = nI (t 0 3) ∧ σ 65 0 = nI (t 0 10) ∧ σ 65 1 = nI (t 0 11) ∧
  (∀ i, i < t 0 1 → σ 62 (2 * i) = nI (t 2 i) ∧ σ 62 (2 * i + 1) = nI (t 3 i)) ∧ (∀ i, i < t 0 2 → σ 63 i = nI (t 4 i)) ∧ (∀ i, i < t 0 3 → σ 64 i = nI (t 7 i))
/-- what no call but the text changes is the same -/
def SS (t u : NN) : Prop := u 0 0 = t 0 0 ∧ u 0 1 = t 0 1 ∧ u 0 2 = t 0 2 ∧ u 0 3 = t 0 3 ∧ u 0 10 = t 0 10 ∧ u 0 11 = t 0 11 ∧ (∀ i, i < t 0 1 → u 2 i = t 2 i ∧ u 3 i = t 3 i) ∧ (∀ i, i < t 0 2 → u 4 i = t 4 i) ∧ (∀ i, i < t 0 3 → u 7 i = t 7 i)
def ImK (b o k : Nat) (t : NN) (σ : ZI) : Prop := k = 1 → ∃ u, TK u ∧ SS t u ∧ TV b u σ ∧ RP o u σ
def InvI (t : NN) (σ : ZI) : Prop := ∃ k1 k2 : Nat, k1 ≤ 1 ∧ k2 ≤ 1 ∧ σ 0 3 = nI (k1 + 2 * k2) ∧ σ 75 0 = nI k1 ∧ σ 75 1 = nI k2 ∧ ImK 10 18 k1 t σ ∧ ImK 19 36 k2 t σ
def InvP (σ : ZI) : Prop := ∃ (n : Nat) (b : Nat → Nat), n ≤ 160 ∧ σ 37 1 = nI n ∧ σ 60 23 = nI n ∧ ∀ i, i < n → b i < 128 ∧ σ 38 i = nI (b i) ∧ σ 71 i = nI (b i)
def InvS (t : NN) (σ : ZI) : Prop := ∃ (n : Nat) (j c : Nat → Nat), n ≤ 6 ∧ σ 51 2 = nI n ∧ σ 60 41 = nI n ∧ ∀ i, i < n → 1 ≤ j i ∧ j i ≤ t 0 0 ∧ c i ≤ 10 ∧ σ 52 i = nI (j i) ∧ σ 53 i = nI (c i) ∧ σ 74 (2 * i) = nI (j i) ∧ σ 74 (2 * i + 1) = nI (c i)
def ShK (k : Nat) (σ : ZI) : Prop := (σ 55 k = 0 ∧ σ 76 k = -4) ∨ (σ 55 k = 1 ∧ ∃ l n : Nat, l < 3 ∧ n ≤ 40 ∧ σ 56 k = nI l ∧ σ 76 k = nI l ∧ σ 57 k = nI n ∧ σ 77 k = nI n)
def InvH (σ : ZI) : Prop := (∀ k, k < 4 → ShK k σ) ∧ ∀ i, i < 160 → σ 78 i = σ 58 i
def InvF (σ : ZI) : Prop := σ 60 24 = σ 0 6 ∧ σ 60 46 = σ 0 12
def cutL : List Nat := [0, 6, 12, 16, 20, 23, 27, 32, 35, 39, 43, 49, 53, 58, 63, 69, 72]
def letL : List Nat := [106, 111, 105, 110, 116, 115, 98, 114, 105, 100, 103, 101, 115, 108, 105, 112, 112, 97, 99, 101, 110, 101, 116, 99, 111, 115, 116, 104, 97, 110, 100, 115, 97, 114, 109, 109, 97, 114, 107, 116, 111, 119, 110, 115, 105, 103, 110, 97, 108, 116, 114, 117, 101, 108, 105, 103, 104, 116, 104, 101, 97, 118, 121, 100, 111, 117, 98, 108, 101, 108, 111, 119]
def InvK (σ : ZI) : Prop := (∀ i, i < 17 → σ 72 i = nI (cutL.getD i 0)) ∧ ∀ i, i < 72 → σ 73 i = nI (letL.getD i 0)
def InvT (t : NN) (σ : ZI) : Prop := TK t ∧ TV 1 t σ ∧ RP 0 t σ ∧ RS t σ
def Inv (σ : ZI) : Prop := ∃ t, InvT t σ ∧ InvI t σ ∧ InvP σ ∧ InvS t σ ∧ InvH σ ∧ InvF σ ∧ InvK σ
def InL (τ : ZL) : Prop := τ 50 0 = 0
/-- whose a place is: 1 what is told now, 2 images, 3 the tape, 4 what was seen, 5 sheets, 6 faults, 7 the reference's tables, 0 scratch -/
def own60 (i : Nat) : Nat := if i = 1 ∨ i = 3 ∨ i = 5 ∨ i = 7 then 1 else if i = 23 then 3 else if i = 24 ∨ i = 46 then 6 else if i = 41 then 4 else 0
def own (c i : Nat) : Nat := if c = 0 then (if i = 3 then 2 else 6) else if c ≤ 9 then 1 else if c ≤ 27 then 2 else if c ≤ 36 then 0 else if c = 37 then (if i = 1 then 3 else 0) else if c = 38 then 3 else if c ≤ 50 then 0 else if c ≤ 53 then 4 else if c ≤ 58 then 5 else if c = 59 then 0 else if c = 60 then own60 i else if c = 61 then (if i < 18 then 1 else if i < 54 then 2 else 0) else if c ≤ 65 then 1 else if c ≤ 70 then 0 else if c = 71 then 3 else if c ≤ 73 then 7 else if c = 74 then 4 else if c = 75 then 2 else 5
/-- two stores: the same but for scratch and what k owns -/
def Dw (k : Nat) (σ σ' : ZI) : Prop := ∀ c i, own c i ≠ 0 → own c i ≠ k → σ' c i = σ c i
abbrev Sg (σ σ' : ZI) : Prop := Dw 0 σ σ'
theorem Dw_refl (k : Nat) (σ : ZI) : Dw k σ σ := fun _ _ _ _ => rfl
theorem Dw_tr {k : Nat} {a b c : ZI} (h : Dw k a b) (h2 : Dw k b c) : Dw k a c := fun x i q r => (h2 x i q r).trans (h x i q r)
theorem Sg_Dw {k : Nat} {a b : ZI} (h : Sg a b) : Dw k a b := fun x i q _ => h x i q q
theorem Dw_up {k : Nat} {σ σ' : ZI} {c p : Nat} {v : Int32} (h : Dw k σ σ') (hc : own c p = 0 ∨ own c p = k) : Dw k σ (va_up σ' c (upd (σ' c) p v)) := by
  intro x i q r
  rw [← h x i q r]
  by_cases hx : x = c
  · subst hx
    by_cases hi : i = p
    · subst hi; rcases hc with hc | hc
      · exact absurd hc q
      · exact absurd hc r
    · simp [va_up, upd, hi]
  · simp [va_up, hx]
theorem Dw_cell {k : Nat} {σ σ' : ZI} {c : Nat} {f : Nat → Int32} (h : Dw k σ σ') (hc : ∀ i, own c i = 0 ∨ own c i = k ∨ f i = σ' c i) : Dw k σ (va_up σ' c f) := by
  intro x i q r
  rw [← h x i q r]
  by_cases hx : x = c
  · subst hx
    rcases hc i with e | e | e
    · exact absurd e q
    · exact absurd e r
    · simp [va_up, e]
  · simp [va_up, hx]
theorem own_1 {c : Nat} (i : Nat) (h : 1 ≤ c) (h2 : c ≤ 9) : own c i = 1 := by
  unfold own
  rw [if_neg (by omega), if_pos h2]
theorem own_2 {c : Nat} (i : Nat) (h : 10 ≤ c) (h2 : c ≤ 27) : own c i = 2 := by
  unfold own
  rw [if_neg (by omega), if_neg (by omega), if_pos h2]
theorem own_s {c : Nat} (i : Nat) (h : 62 ≤ c) (h2 : c ≤ 65) : own c i = 1 := by
  have : c = 62 ∨ c = 63 ∨ c = 64 ∨ c = 65 := by omega
  rcases this with rfl | rfl | rfl | rfl <;> rfl
theorem own_p {i : Nat} (h : i < 18) : own 61 i = 1 := by
  show (if i < 18 then 1 else if i < 54 then 2 else 0) = 1
  rw [if_pos h]
theorem own_q {i : Nat} (h : 18 ≤ i) (h2 : i < 54) : own 61 i = 2 := by
  show (if i < 18 then 1 else if i < 54 then 2 else 0) = 2
  rw [if_neg (by omega), if_pos h2]
theorem TV_fr {b : Nat} {t : NN} {σ σ' : ZI} (h : ∀ r i, 1 ≤ r → r ≤ 8 → σ' (b + r) i = σ (b + r) i) (q : TV b t σ) : TV b t σ' := by
  obtain ⟨q1, q2, q3, q4⟩ := q
  refine ⟨fun i hi => ?_, fun i hi => ⟨?_, ?_, ?_⟩, fun i hi => ⟨?_, ?_⟩, fun i hi => ⟨?_, ?_⟩⟩
  · rw [h 1 i (by omega) (by omega)]; exact q1 i hi
  · rw [h 2 i (by omega) (by omega)]; exact (q2 i hi).1
  · rw [h 3 i (by omega) (by omega)]; exact (q2 i hi).2.1
  · rw [h 4 i (by omega) (by omega)]; exact (q2 i hi).2.2
  · rw [h 5 i (by omega) (by omega)]; exact (q3 i hi).1
  · rw [h 6 i (by omega) (by omega)]; exact (q3 i hi).2
  · rw [h 7 i (by omega) (by omega)]; exact (q4 i hi).1
  · rw [h 8 i (by omega) (by omega)]; exact (q4 i hi).2
theorem RP_fr {o : Nat} {t : NN} {σ σ' : ZI} (k : TK t) (h : ∀ i, i < 18 → σ' 61 (o + i) = σ 61 (o + i)) (q : RP o t σ) : RP o t σ' := by
  obtain ⟨q1, q2, q3, q4, q5, q6, q7, q8, q9, q10⟩ := q
  have k1 := k.1
  refine ⟨fun i hi => ?_, fun i hi => ?_, fun i hi => ?_, ?_, ?_, ?_, ?_, ?_, ?_, ?_⟩
  · rw [h i (by omega)]; exact q1 i hi
  · rw [h (3 + i) (by omega)]; exact q2 i hi
  · rw [h (6 + i) (by omega)]; exact q3 i hi
  all_goals (rw [h _ (by omega)]; assumption)
theorem RS_fr {t : NN} {σ σ' : ZI} (h : σ' 60 1 = σ 60 1 ∧ σ' 60 3 = σ 60 3 ∧ σ' 60 5 = σ 60 5 ∧ σ' 60 7 = σ 60 7) (h2 : ∀ c i, 62 ≤ c → c ≤ 65 → σ' c i = σ c i) (q : RS t σ) : RS t σ' := by
  obtain ⟨q1, q2, q3, q4, q5, q6, q7, q8, q9⟩ := q
  refine ⟨h.1.trans q1, h.2.1.trans q2, h.2.2.1.trans q3, h.2.2.2.trans q4, (h2 _ _ (by omega) (by omega)).trans q5, (h2 _ _ (by omega) (by omega)).trans q6, fun i hi => ⟨(h2 _ _ (by omega) (by omega)).trans (q7 i hi).1, (h2 _ _ (by omega) (by omega)).trans (q7 i hi).2⟩, fun i hi => (h2 _ _ (by omega) (by omega)).trans (q8 i hi), fun i hi => (h2 _ _ (by omega) (by omega)).trans (q9 i hi)⟩
/-- one piece over two stores that agree where it looks -/
def Ag (k : Nat) (σ σ' : ZI) : Prop := ∀ c i, own c i = k → σ' c i = σ c i
theorem Dw_Ag {k l : Nat} {σ σ' : ZI} (h : Dw l σ σ') (h0 : k ≠ 0) (h1 : k ≠ l) : Ag k σ σ' := fun c i e => h c i (by rw [e]; exact h0) (by rw [e]; exact h1)
theorem InvT_fr {t : NN} {σ σ' : ZI} (h : Ag 1 σ σ') (q : InvT t σ) : InvT t σ' := by
  obtain ⟨k, tv, rp, rs⟩ := q
  exact ⟨k, TV_fr (fun r i h1 h2 => h _ _ (own_1 i (by omega) (by omega))) tv, RP_fr k (fun i hi => h _ _ (own_p (by omega))) rp, RS_fr ⟨h _ _ rfl, h _ _ rfl, h _ _ rfl, h _ _ rfl⟩ (fun c i h1 h2 => h _ _ (own_s i h1 h2)) rs⟩
theorem SS_tr {t u v : NN} (h : SS t u) (h2 : SS t v) : SS u v := by
  obtain ⟨a1, a2, a3, a4, a5, a6, a7, a8, a9⟩ := h
  obtain ⟨b1, b2, b3, b4, b5, b6, b7, b8, b9⟩ := h2
  refine ⟨b1.trans a1.symm, b2.trans a2.symm, b3.trans a3.symm, b4.trans a4.symm, b5.trans a5.symm, b6.trans a6.symm, fun i hi => ?_, fun i hi => ?_, fun i hi => ?_⟩
  · rw [a2] at hi; exact ⟨(b7 i hi).1.trans (a7 i hi).1.symm, (b7 i hi).2.trans (a7 i hi).2.symm⟩
  · rw [a3] at hi; exact (b8 i hi).trans (a8 i hi).symm
  · rw [a4] at hi; exact (b9 i hi).trans (a9 i hi).symm
theorem SS_rfl (t : NN) : SS t t := ⟨rfl, rfl, rfl, rfl, rfl, rfl, fun _ _ => ⟨rfl, rfl⟩, fun _ _ => rfl, fun _ _ => rfl⟩
theorem ImK_fr {b o k : Nat} {t u : NN} {σ σ' : ZI} (hs : SS t u) (h1 : ∀ r i, 1 ≤ r → r ≤ 8 → σ' (b + r) i = σ (b + r) i) (h2 : ∀ i, i < 18 → σ' 61 (o + i) = σ 61 (o + i)) (q : ImK b o k t σ) : ImK b o k u σ' := by
  intro e
  obtain ⟨v, a1, a2, a3, a4⟩ := q e
  exact ⟨v, a1, SS_tr hs a2, TV_fr h1 a3, RP_fr a1 h2 a4⟩
theorem InvI_fr {t u : NN} {σ σ' : ZI} (hs : SS t u) (h : Ag 2 σ σ') (q : InvI t σ) : InvI u σ' := by
  obtain ⟨k1, k2, i1, i2, i3, i4, i5, m1, m2⟩ := q
  exact ⟨k1, k2, i1, i2, (h _ _ rfl).trans i3, (h _ _ rfl).trans i4, (h _ _ rfl).trans i5, ImK_fr hs (fun r i _ _ => h _ _ (own_2 i (by omega) (by omega))) (fun i hi => h _ _ (own_q (by omega) (by omega))) m1, ImK_fr hs (fun r i _ _ => h _ _ (own_2 i (by omega) (by omega))) (fun i hi => h _ _ (own_q (by omega) (by omega))) m2⟩
theorem InvP_fr {σ σ' : ZI} (h : Ag 3 σ σ') (q : InvP σ) : InvP σ' := by
  obtain ⟨n, b, p1, p2, p3, p4⟩ := q
  exact ⟨n, b, p1, (h _ _ rfl).trans p2, (h _ _ rfl).trans p3, fun i hi => ⟨(p4 i hi).1, (h _ _ rfl).trans (p4 i hi).2.1, (h _ _ rfl).trans (p4 i hi).2.2⟩⟩
theorem InvS_fr {t u : NN} {σ σ' : ZI} (hs : SS t u) (h : Ag 4 σ σ') (q : InvS t σ) : InvS u σ' := by
  obtain ⟨n, j, c, s1, s2, s3, s4⟩ := q
  refine ⟨n, j, c, s1, (h _ _ rfl).trans s2, (h _ _ rfl).trans s3, fun i hi => ?_⟩
  obtain ⟨a1, a2, a3, a4, a5, a6, a7⟩ := s4 i hi
  exact ⟨a1, by rw [hs.1]; exact a2, a3, (h _ _ rfl).trans a4, (h _ _ rfl).trans a5, (h _ _ rfl).trans a6, (h _ _ rfl).trans a7⟩
theorem ShK_fr {k : Nat} {σ σ' : ZI} (h : ∀ c, (55 ≤ c ∧ c ≤ 57) ∨ c = 76 ∨ c = 77 → σ' c k = σ c k) (q : ShK k σ) : ShK k σ' := by
  unfold ShK at q ⊢
  rw [h 55 (by omega), h 76 (by omega), h 56 (by omega), h 57 (by omega), h 77 (by omega)]
  exact q
theorem own_5 {c : Nat} (i : Nat) (h : (55 ≤ c ∧ c ≤ 58) ∨ (76 ≤ c ∧ c ≤ 78)) : own c i = 5 := by
  have : c = 55 ∨ c = 56 ∨ c = 57 ∨ c = 58 ∨ c = 76 ∨ c = 77 ∨ c = 78 := by omega
  rcases this with rfl | rfl | rfl | rfl | rfl | rfl | rfl <;> rfl
theorem InvH_fr {σ σ' : ZI} (h : Ag 5 σ σ') (q : InvH σ) : InvH σ' :=
  ⟨fun k hk => ShK_fr (fun c hc => h _ _ (own_5 k (by omega))) (q.1 k hk), fun i hi => by rw [h 78 i rfl, h 58 i rfl]; exact q.2 i hi⟩
theorem InvF_fr {σ σ' : ZI} (h : Ag 6 σ σ') (q : InvF σ) : InvF σ' := by
  refine ⟨?_, ?_⟩
  · rw [h 60 24 rfl, h 0 6 rfl]; exact q.1
  · rw [h 60 46 rfl, h 0 12 rfl]; exact q.2
theorem InvK_fr {σ σ' : ZI} (h : Ag 7 σ σ') (q : InvK σ) : InvK σ' := ⟨fun i hi => (h _ _ rfl).trans (q.1 i hi), fun i hi => (h _ _ rfl).trans (q.2 i hi)⟩
theorem Inv_sg {σ σ' : ZI} (h : Sg σ σ') (q : Inv σ) : Inv σ' := by
  obtain ⟨t, q1, q2, q3, q4, q5, q6, q7⟩ := q
  exact ⟨t, InvT_fr (Dw_Ag h (by decide) (by decide)) q1, InvI_fr (SS_rfl t) (Dw_Ag h (by decide) (by decide)) q2, InvP_fr (Dw_Ag h (by decide) (by decide)) q3, InvS_fr (SS_rfl t) (Dw_Ag h (by decide) (by decide)) q4, InvH_fr (Dw_Ag h (by decide) (by decide)) q5, InvF_fr (Dw_Ag h (by decide) (by decide)) q6, InvK_fr (Dw_Ag h (by decide) (by decide)) q7⟩
/-- what is told now may change, but for what stays -/
theorem Inv_now {t u : NN} {σ σ' : ZI} (q : InvI t σ ∧ InvP σ ∧ InvS t σ ∧ InvH σ ∧ InvF σ ∧ InvK σ) (h : Dw 1 σ σ') (hs : SS t u) (hu : InvT u σ') : Inv σ' := by
  obtain ⟨q2, q3, q4, q5, q6, q7⟩ := q
  exact ⟨u, hu, InvI_fr hs (Dw_Ag h (by decide) (by decide)) q2, InvP_fr (Dw_Ag h (by decide) (by decide)) q3, InvS_fr hs (Dw_Ag h (by decide) (by decide)) q4, InvH_fr (Dw_Ag h (by decide) (by decide)) q5, InvF_fr (Dw_Ag h (by decide) (by decide)) q6, InvK_fr (Dw_Ag h (by decide) (by decide)) q7⟩
theorem Inv_img {t : NN} {σ σ' : ZI} (q : InvT t σ ∧ InvP σ ∧ InvS t σ ∧ InvH σ ∧ InvF σ ∧ InvK σ) (h : Dw 2 σ σ') (hu : InvI t σ') : Inv σ' := by
  obtain ⟨q2, q3, q4, q5, q6, q7⟩ := q
  exact ⟨t, InvT_fr (Dw_Ag h (by decide) (by decide)) q2, hu, InvP_fr (Dw_Ag h (by decide) (by decide)) q3, InvS_fr (SS_rfl t) (Dw_Ag h (by decide) (by decide)) q4, InvH_fr (Dw_Ag h (by decide) (by decide)) q5, InvF_fr (Dw_Ag h (by decide) (by decide)) q6, InvK_fr (Dw_Ag h (by decide) (by decide)) q7⟩
theorem Inv_tape {σ σ' : ZI} (q : Inv σ) (h : Dw 3 σ σ') (hu : InvP σ') : Inv σ' := by
  obtain ⟨t, q1, q2, q3, q4, q5, q6, q7⟩ := q
  exact ⟨t, InvT_fr (Dw_Ag h (by decide) (by decide)) q1, InvI_fr (SS_rfl t) (Dw_Ag h (by decide) (by decide)) q2, hu, InvS_fr (SS_rfl t) (Dw_Ag h (by decide) (by decide)) q4, InvH_fr (Dw_Ag h (by decide) (by decide)) q5, InvF_fr (Dw_Ag h (by decide) (by decide)) q6, InvK_fr (Dw_Ag h (by decide) (by decide)) q7⟩
theorem Inv_seen {t : NN} {σ σ' : ZI} (q : InvT t σ ∧ InvI t σ ∧ InvP σ ∧ InvH σ ∧ InvF σ ∧ InvK σ) (h : Dw 4 σ σ') (hu : InvS t σ') : Inv σ' := by
  obtain ⟨q1, q2, q3, q5, q6, q7⟩ := q
  exact ⟨t, InvT_fr (Dw_Ag h (by decide) (by decide)) q1, InvI_fr (SS_rfl t) (Dw_Ag h (by decide) (by decide)) q2, InvP_fr (Dw_Ag h (by decide) (by decide)) q3, hu, InvH_fr (Dw_Ag h (by decide) (by decide)) q5, InvF_fr (Dw_Ag h (by decide) (by decide)) q6, InvK_fr (Dw_Ag h (by decide) (by decide)) q7⟩
theorem Inv_sht {σ σ' : ZI} (q : Inv σ) (h : Dw 5 σ σ') (hu : InvH σ') : Inv σ' := by
  obtain ⟨t, q1, q2, q3, q4, q5, q6, q7⟩ := q
  exact ⟨t, InvT_fr (Dw_Ag h (by decide) (by decide)) q1, InvI_fr (SS_rfl t) (Dw_Ag h (by decide) (by decide)) q2, InvP_fr (Dw_Ag h (by decide) (by decide)) q3, InvS_fr (SS_rfl t) (Dw_Ag h (by decide) (by decide)) q4, hu, InvF_fr (Dw_Ag h (by decide) (by decide)) q6, InvK_fr (Dw_Ag h (by decide) (by decide)) q7⟩
theorem Inv_flt {σ σ' : ZI} (q : Inv σ) (h : Dw 6 σ σ') (hu : InvF σ') : Inv σ' := by
  obtain ⟨t, q1, q2, q3, q4, q5, q6, q7⟩ := q
  exact ⟨t, InvT_fr (Dw_Ag h (by decide) (by decide)) q1, InvI_fr (SS_rfl t) (Dw_Ag h (by decide) (by decide)) q2, InvP_fr (Dw_Ag h (by decide) (by decide)) q3, InvS_fr (SS_rfl t) (Dw_Ag h (by decide) (by decide)) q4, InvH_fr (Dw_Ag h (by decide) (by decide)) q5, hu, InvK_fr (Dw_Ag h (by decide) (by decide)) q7⟩
/-! numbers -/
theorem in_at {x : Int32} (l h : Int64) (lo hi : Int32) (e1 : l = lo.toInt64) (e2 : h = hi.toInt64) : f_X8_in x.toInt64 l h = some (if x < lo ∨ hi < x then 0 else 1) := by
  subst e1 e2
  have a1 : (lg_cmp x.toInt64 lo.toInt64 < 0) ↔ x < lo := by rw [lg_cmp_lt, Int64.lt_iff_toInt_lt, Int32.lt_iff_toInt_lt, Int32.toInt_toInt64, Int32.toInt_toInt64]
  have a2 : (0 < lg_cmp x.toInt64 hi.toInt64) ↔ hi < x := by rw [lg_cmp_gt, Int64.lt_iff_toInt_lt, Int32.lt_iff_toInt_lt, Int32.toInt_toInt64, Int32.toInt_toInt64]
  unfold f_X8_in
  simp only [a1, a2]
  by_cases h1 : x < lo
  · simp [h1]
  · by_cases h2 : hi < x
    · simp [h1, h2]
    · simp [h1, h2]
theorem inB_n {k n : Nat} (h : k < n) (hk : k < 2 ^ 31) : inB (nI k) n = true := by
  unfold inB
  rw [nI_toInt hk]
  exact decide_eq_true ⟨by omega, by omega⟩
