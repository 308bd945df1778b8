/-! what is put behind the rows that are told *-/
theorem own_6 {c : Nat} (i : Nat) (h : 66 ≤ c) (h2 : c ≤ 70) : own c i = 0 := by
  unfold own
  rw [if_neg (by omega), if_neg (by omega), if_neg (by omega), if_neg (by omega), if_neg (by omega), if_neg (by omega), if_neg (by omega), if_neg (by omega), if_neg (by omega), if_neg (by omega), if_neg (by omega), if_neg (by omega), if_neg (by omega), if_pos h2]
def rout (D : NN) (c i : Nat) : Prop := (c = 66 ∧ D 0 1 ≤ i ∧ i < 3) ∨ (c = 66 ∧ 3 + D 0 2 ≤ i ∧ i < 6) ∨ (c = 66 ∧ 6 + D 0 3 ≤ i ∧ i < 11) ∨ (c = 67 ∧ 2 * D 0 1 ≤ i) ∨ (c = 68 ∧ D 0 2 ≤ i) ∨ (c = 69 ∧ D 0 3 ≤ i)
theorem RSb_out {n : Nat} {b : Nat → Nat} {D : NN} {AT MT HJ : Nat} {σ : ZI} {c i : Nat} {v : Int32} (ho : rout D c i) (hD : TB D) (q : RSb n b D AT MT HJ σ) : RSb n b D AT MT HJ (va_up σ c (upd (σ c) i v)) := by
  obtain ⟨a1, a2, ⟨b1, b2, b3, b4, b5, b6, b7, b8, b9, b10⟩, ⟨c1, c2, c3, c4, c5, c6⟩, ⟨d1, d2, d3⟩, e1, e2, e3⟩ := q
  obtain ⟨m1, m2, m3⟩ := hD
  have hc : 66 ≤ c ∧ c ≤ 69 := by unfold rout at ho; omega
  have gA : ∀ C P, (C < 66 ∨ 69 < C) → va_up σ c (upd (σ c) i v) C P = σ C P := fun C P z => up_ne σ (.inl (by omega))
  have gB : ∀ P, 11 ≤ P → va_up σ c (upd (σ c) i v) 66 P = σ 66 P := fun P z => up_ne σ (by unfold rout at ho; omega)
  have g1 : ∀ k, k < D 0 1 → va_up σ c (upd (σ c) i v) 66 k = σ 66 k := fun k z => up_ne σ (by unfold rout at ho; omega)
  have g2 : ∀ k, k < D 0 2 → va_up σ c (upd (σ c) i v) 66 (3 + k) = σ 66 (3 + k) := fun k z => up_ne σ (by unfold rout at ho; omega)
  have g3 : ∀ k, k < D 0 3 → va_up σ c (upd (σ c) i v) 66 (6 + k) = σ 66 (6 + k) := fun k z => up_ne σ (by unfold rout at ho; omega)
  have g4 : ∀ k, k < 2 * D 0 1 → va_up σ c (upd (σ c) i v) 67 k = σ 67 k := fun k z => up_ne σ (by unfold rout at ho; omega)
  have g5 : ∀ k, k < D 0 2 → va_up σ c (upd (σ c) i v) 68 k = σ 68 k := fun k z => up_ne σ (by unfold rout at ho; omega)
  have g6 : ∀ k, k < D 0 3 → va_up σ c (upd (σ c) i v) 69 k = σ 69 k := fun k z => up_ne σ (by unfold rout at ho; omega)
  clear ho hc
  exact ⟨⟨a1.1, (gA _ _ (by decide)).trans a1.2.1, fun i hi => ⟨(a1.2.2 i hi).1, (gA _ _ (by decide)).trans (a1.2.2 i hi).2⟩⟩, ⟨fun i hi => (gA _ _ (by decide)).trans (a2.1 i hi), fun i hi => (gA _ _ (by decide)).trans (a2.2 i hi)⟩, ⟨fun i hi => (g1 i hi).trans (b1 i hi), fun i hi => (g2 i hi).trans (b2 i hi), fun i hi => (g3 i hi).trans (b3 i hi), (gB _ (by decide)).trans b4, (gB _ (by decide)).trans b5, (gB _ (by decide)).trans b6, (gB _ (by decide)).trans b7, (gB _ (by decide)).trans b8, (gB _ (by decide)).trans b9, (gB _ (by decide)).trans b10⟩, ⟨(gA _ _ (by decide)).trans c1, (gA _ _ (by decide)).trans c2, (gA _ _ (by decide)).trans c3, (gA _ _ (by decide)).trans c4, (gA _ _ (by decide)).trans c5, (gA _ _ (by decide)).trans c6⟩, ⟨fun i hi => ⟨(g4 _ (by omega)).trans (d1 i hi).1, (g4 _ (by omega)).trans (d1 i hi).2⟩, fun i hi => (g5 i hi).trans (d2 i hi), fun i hi => (g6 i hi).trans (d3 i hi)⟩, (gA _ _ (by decide)).trans e1, (gA _ _ (by decide)).trans e2, (gA _ _ (by decide)).trans e3⟩
theorem RSb_AT {n : Nat} {b : Nat → Nat} {D : NN} {AT MT HJ A : Nat} {σ : ZI} (q : RSb n b D AT MT HJ σ) : RSb n b D A MT HJ (va_up σ 60 (upd (σ 60) 19 (nI A))) := by
  obtain ⟨a1, a2, ⟨b1, b2, b3, b4, b5, b6, b7, b8, b9, b10⟩, ⟨c1, c2, c3, c4, c5, c6⟩, ⟨d1, d2, d3⟩, e1, e2, e3⟩ := q
  have gA : ∀ C P, (C ≠ 60 ∨ P ≠ 19) → va_up σ 60 (upd (σ 60) 19 (nI A)) C P = σ C P := fun C P z => up_ne σ z
  exact ⟨⟨a1.1, (gA _ _ (.inr (by decide))).trans a1.2.1, fun i hi => ⟨(a1.2.2 i hi).1, (gA _ _ (.inl (by decide))).trans (a1.2.2 i hi).2⟩⟩, ⟨fun i hi => (gA _ _ (.inl (by decide))).trans (a2.1 i hi), fun i hi => (gA _ _ (.inl (by decide))).trans (a2.2 i hi)⟩, ⟨fun i hi => (gA _ _ (.inl (by decide))).trans (b1 i hi), fun i hi => (gA _ _ (.inl (by decide))).trans (b2 i hi), fun i hi => (gA _ _ (.inl (by decide))).trans (b3 i hi), b4, b5, b6, b7, b8, b9, b10⟩, ⟨(gA _ _ (.inr (by decide))).trans c1, (gA _ _ (.inr (by decide))).trans c2, (gA _ _ (.inr (by decide))).trans c3, (gA _ _ (.inr (by decide))).trans c4, (gA _ _ (.inl (by decide))).trans c5, (gA _ _ (.inl (by decide))).trans c6⟩, ⟨fun i hi => ⟨(gA _ _ (.inl (by decide))).trans (d1 i hi).1, (gA _ _ (.inl (by decide))).trans (d1 i hi).2⟩, fun i hi => (gA _ _ (.inl (by decide))).trans (d2 i hi), fun i hi => (gA _ _ (.inl (by decide))).trans (d3 i hi)⟩, up_same _ _ _ _, (gA _ _ (.inr (by decide))).trans e2, (gA _ _ (.inr (by decide))).trans e3⟩
theorem RSb_MT {n : Nat} {b : Nat → Nat} {D : NN} {AT MT HJ A : Nat} {σ : ZI} (q : RSb n b D AT MT HJ σ) : RSb n b D AT A HJ (va_up σ 60 (upd (σ 60) 20 (nI A))) := by
  obtain ⟨a1, a2, ⟨b1, b2, b3, b4, b5, b6, b7, b8, b9, b10⟩, ⟨c1, c2, c3, c4, c5, c6⟩, ⟨d1, d2, d3⟩, e1, e2, e3⟩ := q
  have gA : ∀ C P, (C ≠ 60 ∨ P ≠ 20) → va_up σ 60 (upd (σ 60) 20 (nI A)) C P = σ C P := fun C P z => up_ne σ z
  exact ⟨⟨a1.1, (gA _ _ (.inr (by decide))).trans a1.2.1, fun i hi => ⟨(a1.2.2 i hi).1, (gA _ _ (.inl (by decide))).trans (a1.2.2 i hi).2⟩⟩, ⟨fun i hi => (gA _ _ (.inl (by decide))).trans (a2.1 i hi), fun i hi => (gA _ _ (.inl (by decide))).trans (a2.2 i hi)⟩, ⟨fun i hi => (gA _ _ (.inl (by decide))).trans (b1 i hi), fun i hi => (gA _ _ (.inl (by decide))).trans (b2 i hi), fun i hi => (gA _ _ (.inl (by decide))).trans (b3 i hi), b4, b5, b6, b7, b8, b9, b10⟩, ⟨(gA _ _ (.inr (by decide))).trans c1, (gA _ _ (.inr (by decide))).trans c2, (gA _ _ (.inr (by decide))).trans c3, (gA _ _ (.inr (by decide))).trans c4, (gA _ _ (.inl (by decide))).trans c5, (gA _ _ (.inl (by decide))).trans c6⟩, ⟨fun i hi => ⟨(gA _ _ (.inl (by decide))).trans (d1 i hi).1, (gA _ _ (.inl (by decide))).trans (d1 i hi).2⟩, fun i hi => (gA _ _ (.inl (by decide))).trans (d2 i hi), fun i hi => (gA _ _ (.inl (by decide))).trans (d3 i hi)⟩, (gA _ _ (.inr (by decide))).trans e1, up_same _ _ _ _, (gA _ _ (.inr (by decide))).trans e3⟩
/-- a row more -/
def DA (D : NN) (k j g : Nat) : NN := tset (tset (tset (tset D 1 (D 0 1) k) 2 (D 0 1) j) 3 (D 0 1) g) 0 1 (D 0 1 + 1)
def DM (D : NN) (j v : Nat) : NN := tset (tset (tset D 4 (D 0 2) j) 5 (D 0 2) v) 0 2 (D 0 2 + 1)
def DW (D : NN) (a g : Nat) : NN := tset (tset (tset D 6 (D 0 3) a) 7 (D 0 3) g) 0 3 (D 0 3 + 1)
theorem DA_v (D : NN) (k j g i : Nat) : DA D k j g 0 i = (if i = 1 then D 0 1 + 1 else D 0 i) ∧ DA D k j g 1 i = (if i = D 0 1 then k else D 1 i) ∧ DA D k j g 2 i = (if i = D 0 1 then j else D 2 i) ∧ DA D k j g 3 i = (if i = D 0 1 then g else D 3 i) ∧ DA D k j g 4 i = D 4 i ∧ DA D k j g 5 i = D 5 i ∧ DA D k j g 6 i = D 6 i ∧ DA D k j g 7 i = D 7 i := ⟨rfl, rfl, rfl, rfl, rfl, rfl, rfl, rfl⟩
theorem DM_v (D : NN) (j v i : Nat) : DM D j v 0 i = (if i = 2 then D 0 2 + 1 else D 0 i) ∧ DM D j v 1 i = D 1 i ∧ DM D j v 2 i = D 2 i ∧ DM D j v 3 i = D 3 i ∧ DM D j v 4 i = (if i = D 0 2 then j else D 4 i) ∧ DM D j v 5 i = (if i = D 0 2 then v else D 5 i) ∧ DM D j v 6 i = D 6 i ∧ DM D j v 7 i = D 7 i := ⟨rfl, rfl, rfl, rfl, rfl, rfl, rfl, rfl⟩
theorem DW_v (D : NN) (a g i : Nat) : DW D a g 0 i = (if i = 3 then D 0 3 + 1 else D 0 i) ∧ DW D a g 1 i = D 1 i ∧ DW D a g 2 i = D 2 i ∧ DW D a g 3 i = D 3 i ∧ DW D a g 4 i = D 4 i ∧ DW D a g 5 i = D 5 i ∧ DW D a g 6 i = (if i = D 0 3 then a else D 6 i) ∧ DW D a g 7 i = (if i = D 0 3 then g else D 7 i) := ⟨rfl, rfl, rfl, rfl, rfl, rfl, rfl, rfl⟩
/-- RSb after the count is put -/
theorem RSb_M1 {n : Nat} {b : Nat → Nat} {D : NN} {AT MT HJ j v : Nat} {σ : ZI} (hD : TB D) (q : RSb n b D AT MT HJ σ) (h1 : σ 68 (D 0 2) = nI j) (h2 : σ 66 (3 + D 0 2) = nI v) : RSb n b (DM D j v) AT MT HJ (va_up σ 60 (upd (σ 60) 16 (nI (D 0 2 + 1)))) := by
  obtain ⟨a1, a2, ⟨b1, b2, b3, b4, b5, b6, b7, b8, b9, b10⟩, ⟨c1, c2, c3, c4, c5, c6⟩, ⟨d1, d2, d3⟩, e1, e2, e3⟩ := q
  have gA : ∀ C P, (C ≠ 60 ∨ P ≠ 16) → va_up σ 60 (upd (σ 60) 16 (nI (D 0 2 + 1))) C P = σ C P := fun C P z => up_ne σ z
  have k1 : DM D j v 0 1 = D 0 1 := rfl
  have k2 : DM D j v 0 2 = D 0 2 + 1 := rfl
  have k3 : DM D j v 0 3 = D 0 3 := rfl
  refine ⟨⟨a1.1, (gA _ _ (.inr (by decide))).trans a1.2.1, fun i hi => ⟨(a1.2.2 i hi).1, (gA _ _ (.inl (by decide))).trans (a1.2.2 i hi).2⟩⟩, ⟨fun i hi => (gA _ _ (.inl (by decide))).trans (a2.1 i hi), fun i hi => (gA _ _ (.inl (by decide))).trans (a2.2 i hi)⟩, ⟨fun i hi => (gA _ _ (.inl (by decide))).trans (b1 i hi), fun i hi => ?_, fun i hi => (gA _ _ (.inl (by decide))).trans (b3 i hi), b4, b5, b6, b7, b8, b9, b10⟩, ⟨(gA _ _ (.inr (by decide))).trans c1, (gA _ _ (.inr (by decide))).trans c2, up_same _ _ _ _, (gA _ _ (.inr (by decide))).trans c4, (gA _ _ (.inl (by decide))).trans c5, (gA _ _ (.inl (by decide))).trans c6⟩, ⟨fun i hi => ⟨(gA _ _ (.inl (by decide))).trans (d1 i hi).1, (gA _ _ (.inl (by decide))).trans (d1 i hi).2⟩, fun i hi => ?_, fun i hi => (gA _ _ (.inl (by decide))).trans (d3 i hi)⟩, (gA _ _ (.inr (by decide))).trans e1, (gA _ _ (.inr (by decide))).trans e2, (gA _ _ (.inr (by decide))).trans e3⟩
  · rw [gA _ _ (.inl (by decide)), (DM_v D j v i).2.2.2.2.2.1]
    by_cases z : i = D 0 2
    · rw [if_pos z, z, h2]
    · rw [if_neg z]; exact b2 i (by omega)
  · rw [gA _ _ (.inl (by decide)), (DM_v D j v i).2.2.2.2.1]
    by_cases z : i = D 0 2
    · rw [if_pos z, z, h1]
    · rw [if_neg z]; exact d2 i (by omega)
theorem RSb_W1 {n : Nat} {b : Nat → Nat} {D : NN} {AT MT HJ a g : Nat} {σ : ZI} (hD : TB D) (q : RSb n b D AT MT HJ σ) (h1 : σ 66 (6 + D 0 3) = nI a) (h2 : σ 69 (D 0 3) = nI g) : RSb n b (DW D a g) AT MT HJ (va_up σ 60 (upd (σ 60) 17 (nI (D 0 3 + 1)))) := by
  obtain ⟨a1, a2, ⟨b1, b2, b3, b4, b5, b6, b7, b8, b9, b10⟩, ⟨c1, c2, c3, c4, c5, c6⟩, ⟨d1, d2, d3⟩, e1, e2, e3⟩ := q
  have gA : ∀ C P, (C ≠ 60 ∨ P ≠ 17) → va_up σ 60 (upd (σ 60) 17 (nI (D 0 3 + 1))) C P = σ C P := fun C P z => up_ne σ z
  have k1 : DW D a g 0 1 = D 0 1 := rfl
  have k2 : DW D a g 0 2 = D 0 2 := rfl
  have k3 : DW D a g 0 3 = D 0 3 + 1 := rfl
  refine ⟨⟨a1.1, (gA _ _ (.inr (by decide))).trans a1.2.1, fun i hi => ⟨(a1.2.2 i hi).1, (gA _ _ (.inl (by decide))).trans (a1.2.2 i hi).2⟩⟩, ⟨fun i hi => (gA _ _ (.inl (by decide))).trans (a2.1 i hi), fun i hi => (gA _ _ (.inl (by decide))).trans (a2.2 i hi)⟩, ⟨fun i hi => (gA _ _ (.inl (by decide))).trans (b1 i hi), fun i hi => (gA _ _ (.inl (by decide))).trans (b2 i hi), fun i hi => ?_, b4, b5, b6, b7, b8, b9, b10⟩, ⟨(gA _ _ (.inr (by decide))).trans c1, (gA _ _ (.inr (by decide))).trans c2, (gA _ _ (.inr (by decide))).trans c3, up_same _ _ _ _, (gA _ _ (.inl (by decide))).trans c5, (gA _ _ (.inl (by decide))).trans c6⟩, ⟨fun i hi => ⟨(gA _ _ (.inl (by decide))).trans (d1 i hi).1, (gA _ _ (.inl (by decide))).trans (d1 i hi).2⟩, fun i hi => (gA _ _ (.inl (by decide))).trans (d2 i hi), fun i hi => ?_⟩, (gA _ _ (.inr (by decide))).trans e1, (gA _ _ (.inr (by decide))).trans e2, (gA _ _ (.inr (by decide))).trans e3⟩
  · rw [gA _ _ (.inl (by decide)), (DW_v D a g i).2.2.2.2.2.2.1]
    by_cases z : i = D 0 3
    · rw [if_pos z, z, h1]
    · rw [if_neg z]; exact b3 i (by omega)
  · rw [gA _ _ (.inl (by decide)), (DW_v D a g i).2.2.2.2.2.2.2]
    by_cases z : i = D 0 3
    · rw [if_pos z, z, h2]
    · rw [if_neg z]; exact d3 i (by omega)
theorem RSb_A1 {n : Nat} {b : Nat → Nat} {D : NN} {AT MT HJ k j g : Nat} {σ : ZI} (hD : TB D) (q : RSb n b D AT MT HJ σ) (h0 : σ 66 (D 0 1) = nI k) (h1 : σ 67 (2 * D 0 1) = nI j) (h2 : σ 67 (2 * D 0 1 + 1) = nI g) : RSb n b (DA D k j g) AT MT HJ (va_up σ 60 (upd (σ 60) 15 (nI (D 0 1 + 1)))) := by
  obtain ⟨a1, a2, ⟨b1, b2, b3, b4, b5, b6, b7, b8, b9, b10⟩, ⟨c1, c2, c3, c4, c5, c6⟩, ⟨d1, d2, d3⟩, e1, e2, e3⟩ := q
  have gA : ∀ C P, (C ≠ 60 ∨ P ≠ 15) → va_up σ 60 (upd (σ 60) 15 (nI (D 0 1 + 1))) C P = σ C P := fun C P z => up_ne σ z
  have k1 : DA D k j g 0 1 = D 0 1 + 1 := rfl
  have k2 : DA D k j g 0 2 = D 0 2 := rfl
  have k3 : DA D k j g 0 3 = D 0 3 := rfl
  refine ⟨⟨a1.1, (gA _ _ (.inr (by decide))).trans a1.2.1, fun i hi => ⟨(a1.2.2 i hi).1, (gA _ _ (.inl (by decide))).trans (a1.2.2 i hi).2⟩⟩, ⟨fun i hi => (gA _ _ (.inl (by decide))).trans (a2.1 i hi), fun i hi => (gA _ _ (.inl (by decide))).trans (a2.2 i hi)⟩, ⟨fun i hi => ?_, fun i hi => (gA _ _ (.inl (by decide))).trans (b2 i hi), fun i hi => (gA _ _ (.inl (by decide))).trans (b3 i hi), b4, b5, b6, b7, b8, b9, b10⟩, ⟨(gA _ _ (.inr (by decide))).trans c1, up_same _ _ _ _, (gA _ _ (.inr (by decide))).trans c3, (gA _ _ (.inr (by decide))).trans c4, (gA _ _ (.inl (by decide))).trans c5, (gA _ _ (.inl (by decide))).trans c6⟩, ⟨fun i hi => ?_, fun i hi => (gA _ _ (.inl (by decide))).trans (d2 i hi), fun i hi => (gA _ _ (.inl (by decide))).trans (d3 i hi)⟩, (gA _ _ (.inr (by decide))).trans e1, (gA _ _ (.inr (by decide))).trans e2, (gA _ _ (.inr (by decide))).trans e3⟩
  · rw [gA _ _ (.inl (by decide)), (DA_v D k j g i).2.1]
    by_cases z : i = D 0 1
    · rw [if_pos z, z, h0]
    · rw [if_neg z]; exact b1 i (by omega)
  · rw [gA _ _ (.inl (by decide)), gA _ _ (.inl (by decide)), (DA_v D k j g i).2.2.1, (DA_v D k j g i).2.2.2.1]
    by_cases z : i = D 0 1
    · rw [if_pos z, if_pos z, z]; exact ⟨h1, h2⟩
    · rw [if_neg z, if_neg z]; exact d1 i (by omega)
