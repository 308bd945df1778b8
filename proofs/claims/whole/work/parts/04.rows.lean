/-! rows over the two stores -/
def inB (i : Int32) (n : Nat) : Bool := decide (0 ≤ i.toInt ∧ i.toInt < (n : Int))

theorem inB_vp {i : Int32} {n : Nat} (h : inB i n = true) : vp_in i n := vp_in_iff.mpr (of_decide_eq_true h)
theorem gd {α : Type} {c : Prop} [Decidable c] {A : Option α} {r : α} (h : (if c then A else none) = some r) : c ∧ A = some r := by
  by_cases hc : c
  · exact ⟨hc, by rw [if_pos hc] at h; exact h⟩
  · rw [if_neg hc] at h; cases h
theorem bd {α β : Type} {x : Option α} {f : α → Option β} {r : β} (h : x.bind f = some r) : ∃ a, x = some a ∧ f a = some r := Option.bind_eq_some_iff.mp h
theorem ifT {α : Type} {c : Prop} [Decidable c] {A B : α} {r : α} (h : (if c then A else B) = r) (hc : c) : A = r := by rw [if_pos hc] at h; exact h
theorem ifF {α : Type} {c : Prop} [Decidable c] {A B : α} {r : α} (h : (if c then A else B) = r) (hc : ¬ c) : B = r := by rw [if_neg hc] at h; exact h
def lt_ {α β : Type} (e : α) (f : α → β) : β := f e
theorem ltE {α β : Type} {e : α} {f : α → Option β} {r : β} (h : lt_ e f = some r) : ∃ x, x = e ∧ f x = some r := ⟨e, rfl, h⟩
section XR
variable {p : Program} {l : Launch} {e : Env} {R : Room} {s : State} {m : MethodId} {args : Array Value} {below : List Frame} {meth : Method} {c : Code} {H : Heap} {locs : List Loc} {cells slots : Nat} {Q : State → Prop}
variable {cc : ByteArray} {pc nL : Nat} {ls : Array Slot} {rest : List Value} {g : GG} {σ : ZI} {τ : ZL} {own : String}
theorem WS.putI {i : Nat} {f : Nat → Int32} {E : va_E} {H1 : Heap} {locs1 : List Loc} (hP : va_P (gD g) vwCl ((cW g σ τ).set i (gA g i, E)) H1) (hS : va_S (AA g) s.heap H1 locs1) (he : eF g i f (τ i) = E) : WS g (va_up σ i f) τ s H1 locs1 := ⟨by rw [← cW_setI he]; exact hP, hS⟩
theorem WS.putL {i : Nat} {f : Nat → Int64} {E : va_E} {H1 : Heap} {locs1 : List Loc} (hP : va_P (gD g) vwCl ((cW g σ τ).set i (gA g i, E)) H1) (hS : va_S (AA g) s.heap H1 locs1) (he : eF g i (σ i) f = E) : WS g σ (va_up τ i f) s H1 locs1 := ⟨by rw [← cW_setL he]; exact hP, hS⟩
theorem x_get (F : CallFix p m c cc nL s args TBL own) (G : AK g s) (hS : WS g σ τ s H locs) {i ci N index k : Nat} {C : String} {T : u_T} {fs : List Value} {v : Value} (he : eF g i (σ i) (τ i) = .inr (ci, fs)) (hi : i < 79) (hc : vwCl[ci]? = some (C, T, N)) (hin : ∀ w ∈ u_ws C T N, w ∈ TBL) (hk : k < N) (hl : Cond.fieldLink own index C (T k).2.1 (T k).2.2.1 ∈ TBL) (h1 : (T k).1 = C) (hv : fs[k]? = some v) (hdg : decode cc pc = .ok (.getfield index, 3))
    (kk : W p l e R s m args below meth c H locs cells slots Q (F0 m (pc + 3) ls (v :: rest))) : W p l e R s m args below meth c H locs cells slots Q (F0 m pc ls (.ref (gA g i) :: rest)) :=
  va_get F.1 F.2.1 F.2.2.2.2 hin F.2.2.2.1 G.1 hS.1 i (cW_eq hi he) hc k hk (F.2.2.2.2 _ hl) (fun x h => by rw [← h1]; exact h) hv hdg kk
theorem x_getN (F : CallFix p m c cc nL s args TBL own) (G : AK g s) (hS : WS g σ τ s H locs) {i ci N index k : Nat} {C host : String} {T : u_T} {fs : List Value} {v : Value} (he : eF g i (σ i) (τ i) = .inr (ci, fs)) (hi : i < 79) (hc : vwCl[ci]? = some (C, T, N)) (hin : ∀ w ∈ u_ws C T N, w ∈ TBL) (hk : k < N) (hl : Cond.fieldLinkNest own index C (T k).2.1 (T k).2.2.1 host ∈ tables_1) (h1 : (T k).1 = C) (hv : fs[k]? = some v) (hdg : decode cc pc = .ok (.getfield index, 3))
    (kk : W p l e R s m args below meth c H locs cells slots Q (F0 m (pc + 3) ls (v :: rest))) : W p l e R s m args below meth c H locs cells slots Q (F0 m pc ls (.ref (gA g i) :: rest)) :=
  va_getN F.1 F.2.1 F.2.2.2.2 hin F.2.2.2.1 G.1 hS.1 i (cW_eq hi he) hc k hk (va_Nw.use rfl (G.2.2.2.1 _ hl rfl)) (fun x h => by rw [← h1]; exact h) hv hdg kk
theorem x_put (F : CallFix p m c cc nL s args TBL own) (G : AK g s) (hS : WS g σ τ s H locs) {i ci N index k : Nat} {C : String} {T : u_T} {fs : List Value} {x : Int32} (he : eF g i (σ i) (τ i) = .inr (ci, fs)) (hi : i < 79) (hc : vwCl[ci]? = some (C, T, N)) (hin : ∀ w ∈ u_ws C T N, w ∈ TBL) (ty0 : Nat → FieldType) (hty : ∀ k, k < N → parseFieldDescriptor (T k).2.2.1 = some (ty0 k)) (hnm : ∀ a, a < N → ∀ b, b < N → a ≠ b → (T a).2.1 ≠ (T b).2.1) (hk : k < N) (hl : Cond.fieldLink own index C (T k).2.1 (T k).2.2.1 ∈ TBL) (h1 : (T k).1 = C) (hfin : (T k).2.2.2 = false) (hd : ty0 k = .int) (hlen : k < fs.length) (he2 : eF g i (upd (σ i) k x) (τ i) = .inr (ci, fs.set k (.int x))) (hdg : decode cc pc = .ok (.putfield index, 3))
    (kk : ∀ (H1 : Heap) (locs1 : List Loc), WS g (va_up σ i (upd (σ i) k x)) τ s H1 locs1 → W p l e R s m args below meth c H1 locs1 cells slots Q (F0 m (pc + 3) ls rest)) : W p l e R s m args below meth c H locs cells slots Q (F0 m pc ls (.int x :: .ref (gA g i) :: rest)) :=
  va_put F.1 F.2.1 F.2.2.2.2 hin ty0 hty hnm F.2.2.2.1 G.1 hS.1 (G.2.1.D σ τ) hS.2 i (cW_eq hi he) hc k hk (F.2.2.2.2 _ hl) (fun x h => by rw [← h1]; exact h) hfin (ty := .int) (v := .int x) (by rw [hty k hk, hd]) rfl rfl hlen hdg (fun H1 locs1 hP _ hS1 => kk H1 locs1 (WS.putI hP hS1 he2))
theorem x_putN (F : CallFix p m c cc nL s args TBL own) (G : AK g s) (hS : WS g σ τ s H locs) {i ci N index k : Nat} {C host : String} {T : u_T} {fs : List Value} {x : Int32} (he : eF g i (σ i) (τ i) = .inr (ci, fs)) (hi : i < 79) (hc : vwCl[ci]? = some (C, T, N)) (hin : ∀ w ∈ u_ws C T N, w ∈ TBL) (ty0 : Nat → FieldType) (hty : ∀ k, k < N → parseFieldDescriptor (T k).2.2.1 = some (ty0 k)) (hnm : ∀ a, a < N → ∀ b, b < N → a ≠ b → (T a).2.1 ≠ (T b).2.1) (hk : k < N) (hl : Cond.fieldLinkNest own index C (T k).2.1 (T k).2.2.1 host ∈ tables_1) (h1 : (T k).1 = C) (hfin : (T k).2.2.2 = false) (hd : ty0 k = .int) (hlen : k < fs.length) (he2 : eF g i (upd (σ i) k x) (τ i) = .inr (ci, fs.set k (.int x))) (hdg : decode cc pc = .ok (.putfield index, 3))
    (kk : ∀ (H1 : Heap) (locs1 : List Loc), WS g (va_up σ i (upd (σ i) k x)) τ s H1 locs1 → W p l e R s m args below meth c H1 locs1 cells slots Q (F0 m (pc + 3) ls rest)) : W p l e R s m args below meth c H locs cells slots Q (F0 m pc ls (.int x :: .ref (gA g i) :: rest)) :=
  va_putN F.1 F.2.1 F.2.2.2.2 hin ty0 hty hnm F.2.2.2.1 G.1 hS.1 (G.2.1.D σ τ) hS.2 i (cW_eq hi he) hc k hk (va_Nw.use rfl (G.2.2.2.1 _ hl rfl)) (fun x h => by rw [← h1]; exact h) hfin (ty := .int) (v := .int x) (by rw [hty k hk, hd]) rfl rfl hlen hdg (fun H1 locs1 hP _ hS1 => kk H1 locs1 (WS.putI hP hS1 he2))
theorem ar_I {r : Nat} (h : (ar r).1 = 1) (g : GG) (f : Nat → Int32) (t : Nat → Int64) : eF g r f t = .inl (gC g 1, (ar r).2, .inl f) := by unfold eF; rw [if_pos h]
theorem ar_J {r : Nat} (h : (ar r).1 = 2) (g : GG) (f : Nat → Int32) (t : Nat → Int64) : eF g r f t = .inl (gC g 2, (ar r).2, .inr (.inl t)) := by unfold eF; rw [if_neg (by rw [h]; decide), if_pos h]
theorem ar_B {r : Nat} (h : (ar r).1 = 0) (g : GG) (f : Nat → Int32) (t : Nat → Int64) : eF g r f t = .inl (gC g 0, (ar r).2, .inl f) := by unfold eF; rw [if_neg (by rw [h]; decide), if_neg (by rw [h]; decide), if_pos h]
theorem ar_Z {r : Nat} (h : (ar r).1 = 3) (g : GG) (f : Nat → Int32) (t : Nat → Int64) : eF g r f t = .inl (gC g 3, (ar r).2, .inl f) := by unfold eF; rw [if_neg (by rw [h]; decide), if_neg (by rw [h]; decide), if_neg (by rw [h]; decide), if_pos h]
theorem ar_T {b : Nat} (h : (ar b).1 = 11) (g : GG) (f : Nat → Int32) (t : Nat → Int64) : eF g b f t = .inr (6, [.ref (gA g (b + 1)), .ref (gA g (b + 2)), .ref (gA g (b + 3)), .ref (gA g (b + 4)), .ref (gA g (b + 5)), .ref (gA g (b + 6)), .ref (gA g (b + 7)), .ref (gA g (b + 8))]) := by unfold eF; rw [if_neg (by rw [h]; decide), if_neg (by rw [h]; decide), if_neg (by rw [h]; decide), if_neg (by rw [h]; decide), if_pos h]
theorem ar_l1 {r : Nat} (h : (ar r).1 = 1) : r < 79 := ar_lt (by rw [h]; decide)
theorem ar_l2 {r : Nat} (h : (ar r).1 = 2) : r < 79 := ar_lt (by rw [h]; decide)
theorem ar_l0 {r : Nat} (h : (ar r).1 = 0) : r < 79 := ar_lt (by rw [h]; decide)
theorem ar_l3 {r : Nat} (h : (ar r).1 = 3) : r < 79 := ar_lt (by rw [h]; decide)
theorem ar_l11 {r : Nat} (h : (ar r).1 = 11) : r < 79 := ar_lt (by rw [h]; decide)
theorem x_iald (F : CallFix p m c cc nL s args TBL own) (G : AK g s) (hS : WS g σ τ s H locs) (r : Nat) (hr : (ar r).1 = 1) {i : Int32} (hin : inB i (ar r).2 = true) (hdg : decode cc pc = .ok (.iaload, 1))
    (kk : W p l e R s m args below meth c H locs cells slots Q (F0 m (pc + 1) ls (.int (σ r i.toNatClampNeg) :: rest))) : W p l e R s m args below meth c H locs cells slots Q (F0 m pc ls (.int i :: .ref (gA g r) :: rest)) :=
  va_iald F.1 F.2.1 G.1 hS.1 r 1 (cW_eq (ar_l1 hr) (ar_I hr g _ _)) rfl (inB_vp hin) hdg kk
theorem x_bald (F : CallFix p m c cc nL s args TBL own) (G : AK g s) (hS : WS g σ τ s H locs) (r : Nat) (hr : (ar r).1 = 0) {i : Int32} (hin : inB i (ar r).2 = true) (hdg : decode cc pc = .ok (.baload, 1))
    (kk : W p l e R s m args below meth c H locs cells slots Q (F0 m (pc + 1) ls (.int (σ r i.toNatClampNeg) :: rest))) : W p l e R s m args below meth c H locs cells slots Q (F0 m pc ls (.int i :: .ref (gA g r) :: rest)) :=
  va_bald F.1 F.2.1 G.1 hS.1 r 0 (cW_eq (ar_l0 hr) (ar_B hr g _ _)) rfl (inB_vp hin) hdg kk
theorem x_zald (F : CallFix p m c cc nL s args TBL own) (G : AK g s) (hS : WS g σ τ s H locs) (r : Nat) (hr : (ar r).1 = 3) {i : Int32} (hin : inB i (ar r).2 = true) (hdg : decode cc pc = .ok (.baload, 1))
    (kk : W p l e R s m args below meth c H locs cells slots Q (F0 m (pc + 1) ls (.int (σ r i.toNatClampNeg) :: rest))) : W p l e R s m args below meth c H locs cells slots Q (F0 m pc ls (.int i :: .ref (gA g r) :: rest)) :=
  va_zald F.1 F.2.1 G.1 hS.1 r 3 (cW_eq (ar_l3 hr) (ar_Z hr g _ _)) rfl (inB_vp hin) hdg kk
theorem x_lald (F : CallFix p m c cc nL s args TBL own) (G : AK g s) (hS : WS g σ τ s H locs) (r : Nat) (hr : (ar r).1 = 2) {i : Int32} (hin : inB i (ar r).2 = true) (hdg : decode cc pc = .ok (.laload, 1))
    (kk : W p l e R s m args below meth c H locs cells slots Q (F0 m (pc + 1) ls (.long (τ r i.toNatClampNeg) :: rest))) : W p l e R s m args below meth c H locs cells slots Q (F0 m pc ls (.int i :: .ref (gA g r) :: rest)) :=
  va_lald F.1 F.2.1 G.1 hS.1 r 2 (cW_eq (ar_l2 hr) (ar_J hr g _ _)) rfl (inB_vp hin) hdg kk
theorem x_iast (F : CallFix p m c cc nL s args TBL own) (G : AK g s) (hS : WS g σ τ s H locs) (r : Nat) (hr : (ar r).1 = 1) {i x : Int32} (hin : inB i (ar r).2 = true) (hdg : decode cc pc = .ok (.iastore, 1))
    (kk : ∀ (H1 : Heap) (locs1 : List Loc), WS g (va_up σ r (upd (σ r) i.toNatClampNeg x)) τ s H1 locs1 → W p l e R s m args below meth c H1 locs1 cells slots Q (F0 m (pc + 1) ls rest)) : W p l e R s m args below meth c H locs cells slots Q (F0 m pc ls (.int x :: .int i :: .ref (gA g r) :: rest)) :=
  va_iast F.1 F.2.1 G.1 hS.1 (G.2.1.D σ τ) hS.2 r 1 (cW_eq (ar_l1 hr) (ar_I hr g _ _)) rfl (inB_vp hin) hdg (fun H1 locs1 hP _ hS1 => kk H1 locs1 (WS.putI hP hS1 (ar_I hr g _ _)))
theorem x_last (F : CallFix p m c cc nL s args TBL own) (G : AK g s) (hS : WS g σ τ s H locs) (r : Nat) (hr : (ar r).1 = 2) {i : Int32} {x : Int64} (hin : inB i (ar r).2 = true) (hdg : decode cc pc = .ok (.lastore, 1))
    (kk : ∀ (H1 : Heap) (locs1 : List Loc), WS g σ (va_up τ r (vp_updL (τ r) i.toNatClampNeg x)) s H1 locs1 → W p l e R s m args below meth c H1 locs1 cells slots Q (F0 m (pc + 1) ls rest)) : W p l e R s m args below meth c H locs cells slots Q (F0 m pc ls (.long x :: .int i :: .ref (gA g r) :: rest)) :=
  va_last F.1 F.2.1 G.1 hS.1 (G.2.1.D σ τ) hS.2 r 2 (cW_eq (ar_l2 hr) (ar_J hr g _ _)) rfl (inB_vp hin) hdg (fun H1 locs1 hP _ hS1 => kk H1 locs1 (WS.putL hP hS1 (ar_J hr g _ _)))
theorem x_bast (F : CallFix p m c cc nL s args TBL own) (G : AK g s) (hS : WS g σ τ s H locs) (r : Nat) (hr : (ar r).1 = 0) {i x : Int32} (hin : inB i (ar r).2 = true) (hdg : decode cc pc = .ok (.bastore, 1))
    (kk : ∀ (H1 : Heap) (locs1 : List Loc), WS g (va_up σ r (upd (σ r) i.toNatClampNeg (vp_nar .byte x))) τ s H1 locs1 → W p l e R s m args below meth c H1 locs1 cells slots Q (F0 m (pc + 1) ls rest)) : W p l e R s m args below meth c H locs cells slots Q (F0 m pc ls (.int x :: .int i :: .ref (gA g r) :: rest)) :=
  va_bast F.1 F.2.1 G.1 hS.1 (G.2.1.D σ τ) hS.2 r 0 (cW_eq (ar_l0 hr) (ar_B hr g _ _)) rfl (inB_vp hin) hdg (fun H1 locs1 hP _ hS1 => kk H1 locs1 (WS.putI hP hS1 (ar_B hr g _ _)))
theorem x_zast (F : CallFix p m c cc nL s args TBL own) (G : AK g s) (hS : WS g σ τ s H locs) (r : Nat) (hr : (ar r).1 = 3) {i x : Int32} (hin : inB i (ar r).2 = true) (hdg : decode cc pc = .ok (.bastore, 1))
    (kk : ∀ (H1 : Heap) (locs1 : List Loc), WS g (va_up σ r (upd (σ r) i.toNatClampNeg (vp_nar .boolean x))) τ s H1 locs1 → W p l e R s m args below meth c H1 locs1 cells slots Q (F0 m (pc + 1) ls rest)) : W p l e R s m args below meth c H locs cells slots Q (F0 m pc ls (.int x :: .int i :: .ref (gA g r) :: rest)) :=
  va_zast F.1 F.2.1 G.1 hS.1 (G.2.1.D σ τ) hS.2 r 3 (cW_eq (ar_l3 hr) (ar_Z hr g _ _)) rfl (inB_vp hin) hdg (fun H1 locs1 hP _ hS1 => kk H1 locs1 (WS.putI hP hS1 (ar_Z hr g _ _)))
theorem x_alen {t0 : Nat} {cA : ClassId} {x : vp_A} {ty : FieldType} (F : CallFix p m c cc nL s args TBL own) (G : AK g s) (hS : WS g σ τ s H locs) (r : Nat) (he : eF g r (σ r) (τ r) = .inl (cA, x)) (hr : r < 79) (ht : (tyW g)[t0]? = some (cA, ty)) (hdg : decode cc pc = .ok (.arraylength, 1))
    (kk : W p l e R s m args below meth c H locs cells slots Q (F0 m (pc + 1) ls (.int (nI x.1) :: rest))) : W p l e R s m args below meth c H locs cells slots Q (F0 m pc ls (.ref (gA g r) :: rest)) :=
  va_alen F.1 F.2.1 G.1 hS.1 r t0 (cW_eq hr he) ht rfl hdg kk
theorem x_alenI (F : CallFix p m c cc nL s args TBL own) (G : AK g s) (hS : WS g σ τ s H locs) (r : Nat) (hr : (ar r).1 = 1) (hdg : decode cc pc = .ok (.arraylength, 1))
    (kk : W p l e R s m args below meth c H locs cells slots Q (F0 m (pc + 1) ls (.int (nI (ar r).2) :: rest))) : W p l e R s m args below meth c H locs cells slots Q (F0 m pc ls (.ref (gA g r) :: rest)) := x_alen (t0 := 1) F G hS r (ar_I hr g _ _) (ar_l1 hr) rfl hdg kk
theorem x_alenJ (F : CallFix p m c cc nL s args TBL own) (G : AK g s) (hS : WS g σ τ s H locs) (r : Nat) (hr : (ar r).1 = 2) (hdg : decode cc pc = .ok (.arraylength, 1))
    (kk : W p l e R s m args below meth c H locs cells slots Q (F0 m (pc + 1) ls (.int (nI (ar r).2) :: rest))) : W p l e R s m args below meth c H locs cells slots Q (F0 m pc ls (.ref (gA g r) :: rest)) := x_alen (t0 := 2) F G hS r (ar_J hr g _ _) (ar_l2 hr) rfl hdg kk
theorem x_alenB (F : CallFix p m c cc nL s args TBL own) (G : AK g s) (hS : WS g σ τ s H locs) (r : Nat) (hr : (ar r).1 = 0) (hdg : decode cc pc = .ok (.arraylength, 1))
    (kk : W p l e R s m args below meth c H locs cells slots Q (F0 m (pc + 1) ls (.int (nI (ar r).2) :: rest))) : W p l e R s m args below meth c H locs cells slots Q (F0 m pc ls (.ref (gA g r) :: rest)) := x_alen (t0 := 0) F G hS r (ar_B hr g _ _) (ar_l0 hr) rfl hdg kk
theorem x_ialdL (F : CallFix p m c cc nL s args TBL own) (G : AK g s) (hS : WS g σ τ s H locs) (r : Nat) (hr : (ar r).1 = 1) (k : Nat) {i : Int32} (hi : i.toNatClampNeg = k) (hin : inB i (ar r).2 = true) (hdg : decode cc pc = .ok (.iaload, 1))
    (kk : W p l e R s m args below meth c H locs cells slots Q (F0 m (pc + 1) ls (.int (σ r k) :: rest))) : W p l e R s m args below meth c H locs cells slots Q (F0 m pc ls (.int i :: .ref (gA g r) :: rest)) := by
  subst hi
  exact x_iald F G hS r hr hin hdg kk
theorem x_baldL (F : CallFix p m c cc nL s args TBL own) (G : AK g s) (hS : WS g σ τ s H locs) (r : Nat) (hr : (ar r).1 = 0) (k : Nat) {i : Int32} (hi : i.toNatClampNeg = k) (hin : inB i (ar r).2 = true) (hdg : decode cc pc = .ok (.baload, 1))
    (kk : W p l e R s m args below meth c H locs cells slots Q (F0 m (pc + 1) ls (.int (σ r k) :: rest))) : W p l e R s m args below meth c H locs cells slots Q (F0 m pc ls (.int i :: .ref (gA g r) :: rest)) := by
  subst hi
  exact x_bald F G hS r hr hin hdg kk
theorem x_zaldL (F : CallFix p m c cc nL s args TBL own) (G : AK g s) (hS : WS g σ τ s H locs) (r : Nat) (hr : (ar r).1 = 3) (k : Nat) {i : Int32} (hi : i.toNatClampNeg = k) (hin : inB i (ar r).2 = true) (hdg : decode cc pc = .ok (.baload, 1))
    (kk : W p l e R s m args below meth c H locs cells slots Q (F0 m (pc + 1) ls (.int (σ r k) :: rest))) : W p l e R s m args below meth c H locs cells slots Q (F0 m pc ls (.int i :: .ref (gA g r) :: rest)) := by
  subst hi
  exact x_zald F G hS r hr hin hdg kk
theorem x_laldL (F : CallFix p m c cc nL s args TBL own) (G : AK g s) (hS : WS g σ τ s H locs) (r : Nat) (hr : (ar r).1 = 2) (k : Nat) {i : Int32} (hi : i.toNatClampNeg = k) (hin : inB i (ar r).2 = true) (hdg : decode cc pc = .ok (.laload, 1))
    (kk : W p l e R s m args below meth c H locs cells slots Q (F0 m (pc + 1) ls (.long (τ r k) :: rest))) : W p l e R s m args below meth c H locs cells slots Q (F0 m pc ls (.int i :: .ref (gA g r) :: rest)) := by
  subst hi
  exact x_lald F G hS r hr hin hdg kk
theorem x_iastL (F : CallFix p m c cc nL s args TBL own) (G : AK g s) (hS : WS g σ τ s H locs) (r : Nat) (hr : (ar r).1 = 1) (k : Nat) {i x : Int32} (hi : i.toNatClampNeg = k) (hin : inB i (ar r).2 = true) (hdg : decode cc pc = .ok (.iastore, 1))
    (kk : ∀ (H1 : Heap) (locs1 : List Loc), WS g (va_up σ r (upd (σ r) k x)) τ s H1 locs1 → W p l e R s m args below meth c H1 locs1 cells slots Q (F0 m (pc + 1) ls rest)) : W p l e R s m args below meth c H locs cells slots Q (F0 m pc ls (.int x :: .int i :: .ref (gA g r) :: rest)) := by
  subst hi
  exact x_iast F G hS r hr hin hdg kk
theorem x_lastL (F : CallFix p m c cc nL s args TBL own) (G : AK g s) (hS : WS g σ τ s H locs) (r : Nat) (hr : (ar r).1 = 2) (k : Nat) {i : Int32} {x : Int64} (hi : i.toNatClampNeg = k) (hin : inB i (ar r).2 = true) (hdg : decode cc pc = .ok (.lastore, 1))
    (kk : ∀ (H1 : Heap) (locs1 : List Loc), WS g σ (va_up τ r (vp_updL (τ r) k x)) s H1 locs1 → W p l e R s m args below meth c H1 locs1 cells slots Q (F0 m (pc + 1) ls rest)) : W p l e R s m args below meth c H locs cells slots Q (F0 m pc ls (.long x :: .int i :: .ref (gA g r) :: rest)) := by
  subst hi
  exact x_last F G hS r hr hin hdg kk
theorem x_bastL (F : CallFix p m c cc nL s args TBL own) (G : AK g s) (hS : WS g σ τ s H locs) (r : Nat) (hr : (ar r).1 = 0) (k : Nat) {i x : Int32} (hi : i.toNatClampNeg = k) (hin : inB i (ar r).2 = true) (hdg : decode cc pc = .ok (.bastore, 1))
    (kk : ∀ (H1 : Heap) (locs1 : List Loc), WS g (va_up σ r (upd (σ r) k (vp_nar .byte x))) τ s H1 locs1 → W p l e R s m args below meth c H1 locs1 cells slots Q (F0 m (pc + 1) ls rest)) : W p l e R s m args below meth c H locs cells slots Q (F0 m pc ls (.int x :: .int i :: .ref (gA g r) :: rest)) := by
  subst hi
  exact x_bast F G hS r hr hin hdg kk
theorem x_zastL (F : CallFix p m c cc nL s args TBL own) (G : AK g s) (hS : WS g σ τ s H locs) (r : Nat) (hr : (ar r).1 = 3) (k : Nat) {i x : Int32} (hi : i.toNatClampNeg = k) (hin : inB i (ar r).2 = true) (hdg : decode cc pc = .ok (.bastore, 1))
    (kk : ∀ (H1 : Heap) (locs1 : List Loc), WS g (va_up σ r (upd (σ r) k (vp_nar .boolean x))) τ s H1 locs1 → W p l e R s m args below meth c H1 locs1 cells slots Q (F0 m (pc + 1) ls rest)) : W p l e R s m args below meth c H locs cells slots Q (F0 m pc ls (.int x :: .int i :: .ref (gA g r) :: rest)) := by
  subst hi
  exact x_zast F G hS r hr hin hdg kk
/-- static tables -/
theorem x_gets (F : CallFix p m c cc nL s args TBL own) (G : AK g s) (hS : WS g σ τ s H locs) (r : Nat) {index : Nat} (hr : r = 100 ∨ r = 101 ∨ r = 102) (hl : Cond.fieldLink own index "MailCatch" (stN r) "[I" ∈ TBL) (hdg : decode cc pc = .ok (.getstatic index, 3))
    (kk : W p l e R s m args below meth c H locs cells slots Q (F0 m (pc + 3) ls (.ref (gA g r) :: rest))) : W p l e R s m args below meth c H locs cells slots Q (F0 m pc ls rest) := by
  have hZ : STt g r s s.heap := by rcases hr with rfl | rfl | rfl; exact G.2.2.2.2.1.1; exact G.2.2.2.2.1.2.1; exact G.2.2.2.2.1.2.2
  exact va_gets F.1 F.2.1 hZ.1 hS.2 F.2.2.2.1 (F.2.2.2.2 _ hl) (fun x h => h) hdg kk
theorem x_getsN (F : CallFix p m c cc nL s args TBL own) (G : AK g s) (hS : WS g σ τ s H locs) (r : Nat) {index : Nat} {host : String} (hr : r = 100 ∨ r = 101 ∨ r = 102) (hl : Cond.fieldLinkNest own index "MailCatch" (stN r) "[I" host ∈ tables_1) (hdg : decode cc pc = .ok (.getstatic index, 3))
    (kk : W p l e R s m args below meth c H locs cells slots Q (F0 m (pc + 3) ls (.ref (gA g r) :: rest))) : W p l e R s m args below meth c H locs cells slots Q (F0 m pc ls rest) := by
  have hZ : STt g r s s.heap := by rcases hr with rfl | rfl | rfl; exact G.2.2.2.2.1.1; exact G.2.2.2.2.1.2.1; exact G.2.2.2.2.1.2.2
  exact va_getsN F.1 F.2.1 hZ.1 hS.2 F.2.2.2.1 (va_Nw.use rfl (G.2.2.2.1 _ hl rfl)) (fun x h => h) hdg kk
theorem x_salen (F : CallFix p m c cc nL s args TBL own) (G : AK g s) (hS : WS g σ τ s H locs) (r : Nat) (hr : r = 100 ∨ r = 101 ∨ r = 102) (hdg : decode cc pc = .ok (.arraylength, 1))
    (kk : W p l e R s m args below meth c H locs cells slots Q (F0 m (pc + 1) ls (.int (nI 13) :: rest))) : W p l e R s m args below meth c H locs cells slots Q (F0 m pc ls (.ref (gA g r) :: rest)) := by
  have hZ : STt g r s s.heap := by rcases hr with rfl | rfl | rfl; exact G.2.2.2.2.1.1; exact G.2.2.2.2.1.2.1; exact G.2.2.2.2.1.2.2
  exact va_tlen F.1 F.2.1 hZ.2 hS.2 rfl hdg kk
theorem x_siald (F : CallFix p m c cc nL s args TBL own) (G : AK g s) (hS : WS g σ τ s H locs) (r : Nat) (hr : r = 100 ∨ r = 101 ∨ r = 102) {i : Int32} (hin : inB i 13 = true) (hdg : decode cc pc = .ok (.iaload, 1))
    (kk : W p l e R s m args below meth c H locs cells slots Q (F0 m (pc + 1) ls (.int ((stL r).getD i.toNatClampNeg 0) :: rest))) : W p l e R s m args below meth c H locs cells slots Q (F0 m pc ls (.int i :: .ref (gA g r) :: rest)) := by
  have hZ : STt g r s s.heap := by rcases hr with rfl | rfl | rfl; exact G.2.2.2.2.1.1; exact G.2.2.2.2.1.2.1; exact G.2.2.2.2.1.2.2
  exact va_ti F.1 F.2.1 hZ.2 hS.2 (inB_vp hin) rfl hdg kk
/-- ends -/
theorem e_i {post : Int32 → ZI × ZL → Prop} (F : CallFix p m c cc nL s args TBL own) (hS : WS g σ τ s H locs) {v : Int32} (hp : post v (σ, τ)) (hr : meth.sig.returnType = some .int) (hdg : decode cc pc = .ok (.ireturn, 1)) (hk : meth.locks = false) : W p l e R s m args below meth c H locs 0 0 (MQ below (va_Qi post (WQ g) (AA g)) args s 0 0 (AA g)) (F0 m pc ls [.int v]) :=
  W.iret F.1 F.2.1 hr (fun t ht hW => ⟨⟨v, (σ, τ), rfl, hp, by show va_P _ _ _ t.heap; rw [ht]; exact hS.1⟩, hS.2.F ht⟩) hS.2.2.2 hdg hk
theorem e_z {post : Int32 → ZI × ZL → Prop} (F : CallFix p m c cc nL s args TBL own) (hS : WS g σ τ s H locs) {v : Int32} (hv : v = 0 ∨ v = 1) (hp : post v (σ, τ)) (hr : meth.sig.returnType = some .boolean) (hdg : decode cc pc = .ok (.ireturn, 1)) (hk : meth.locks = false) : W p l e R s m args below meth c H locs 0 0 (MQ below (va_Qi post (WQ g) (AA g)) args s 0 0 (AA g)) (F0 m pc ls [.int v]) :=
  W.zret F.1 F.2.1 hr (by rcases hv with rfl | rfl <;> rfl) (fun t ht hW => ⟨⟨v, (σ, τ), rfl, hp, by show va_P _ _ _ t.heap; rw [ht]; exact hS.1⟩, hS.2.F ht⟩) hS.2.2.2 hdg hk
theorem e_l {post : Int64 → ZI × ZL → Prop} (F : CallFix p m c cc nL s args TBL own) (hS : WS g σ τ s H locs) {v : Int64} (hp : post v (σ, τ)) (hr : meth.sig.returnType = some .long) (hdg : decode cc pc = .ok (.lreturn, 1)) (hk : meth.locks = false) : W p l e R s m args below meth c H locs 0 0 (MQ below (va_Ql post (WQ g) (AA g)) args s 0 0 (AA g)) (F0 m pc ls [.long v]) :=
  W.lret F.1 F.2.1 hr (fun t ht hW => ⟨⟨v, (σ, τ), rfl, hp, by show va_P _ _ _ t.heap; rw [ht]; exact hS.1⟩, hS.2.F ht⟩) hS.2.2.2 hdg hk
theorem e_v {post : ZI × ZL → Prop} (F : CallFix p m c cc nL s args TBL own) (hS : WS g σ τ s H locs) (hp : post (σ, τ)) (hr : meth.sig.returnType = none) (hdg : decode cc pc = .ok (.return_, 1)) (hk : meth.locks = false) : W p l e R s m args below meth c H locs 0 0 (MQ below (va_Qv post (WQ g) (AA g)) args s 0 0 (AA g)) (F0 m pc ls []) :=
  W.vret F.1 F.2.1 hr (fun t ht hW => ⟨⟨(σ, τ), rfl, hp, by show va_P _ _ _ t.heap; rw [ht]; exact hS.1⟩, hS.2.F ht⟩) hS.2.2.2 hdg hk
/-- calls -/
abbrev okD (y : MethodName) (n : Nat) : Prop := y.cls ≠ "java/lang/invoke/MethodHandle" ∧ y.cls ≠ "java/lang/invoke/VarHandle" ∧ (parseMethodDescriptor y.desc).map (fun d => d.parameters.length) = some n
abbrev okR (rm R : Room) (maxL : Nat) : Prop := rm.cells = 0 ∧ rm.slots = 0 ∧ rm.frames + 1 ≤ R.frames ∧ 8 + (maxL + 11) + rm.locals ≤ R.locals
abbrev lkV (own : String) (index : Nat) (y : MethodName) (bytes : ByteArray) (maxL : Nat) (ret : Option FieldType) (n : Nat) : Prop := .methodLink own index y ∈ TBL ∧ .instanceMethod y ∈ TBL ∧ .selects y.cls y y ∈ TBL ∧ .initialized y.cls ∈ TBL ∧ .code y bytes maxL ret ∈ TBL ∧ okD y n
abbrev lkS (own : String) (index : Nat) (y : MethodName) (bytes : ByteArray) (maxL : Nat) (ret : Option FieldType) (n : Nat) : Prop := .methodLink own index y ∈ TBL ∧ .static y ∈ TBL ∧ .initialized y.cls ∈ TBL ∧ .code y bytes maxL ret ∈ TBL ∧ okD y n
abbrev lkVN (own : String) (index : Nat) (y : MethodName) (host : String) (bytes : ByteArray) (maxL : Nat) (ret : Option FieldType) (n : Nat) : Prop := .methodLinkNest own index y host ∈ tables_1 ∧ .instanceMethod y ∈ TBL ∧ .selects y.cls y y ∈ TBL ∧ .initialized y.cls ∈ TBL ∧ .code y bytes maxL ret ∈ TBL ∧ okD y n
abbrev lkSN (own : String) (index : Nat) (y : MethodName) (host : String) (bytes : ByteArray) (maxL : Nat) (ret : Option FieldType) (n : Nat) : Prop := .methodLinkNest own index y host ∈ tables_1 ∧ .static y ∈ TBL ∧ .initialized y.cls ∈ TBL ∧ .code y bytes maxL ret ∈ TBL ∧ okD y n
theorem tb_code {y : MethodName} {bytes : ByteArray} {maxL : Nat} {ret : Option FieldType} (h : Cond.code y bytes maxL ret ∈ TBL) : GoodIn TBL (.code y bytes maxL ret :: TBL) := fun w hw => (List.mem_cons.mp hw).elim (fun q => q ▸ tb_good _ h) (fun q => tb_good w q)
theorem k_cwV {y : MethodName} {bytes : ByteArray} {maxL n index : Nat} {ret : Option FieldType} {rm : Room} (F : CallFix p m c cc nL s args TBL own) (h : lkV own index y bytes maxL ret n) (hR : okR rm R maxL) : CallW R s args own y.cls index y bytes maxL ret (.code y bytes maxL ret :: TBL) rm 0 0 n :=
  ⟨callB_of n F.2.2.2.2 (tb_code h.2.2.2.2.1) rfl hR.1 hR.2.1 (F.2.2.2.2 _ h.2.2.2.1) (F.2.2.2.2 _ h.1) h.2.2.2.2.2 hR.2.2, F.2.2.2.2 _ h.2.1, F.2.2.2.2 _ h.2.2.1⟩
theorem k_cwS {y : MethodName} {bytes : ByteArray} {maxL n index : Nat} {ret : Option FieldType} {rm : Room} (F : CallFix p m c cc nL s args TBL own) (h : lkS own index y bytes maxL ret n) (hR : okR rm R maxL) : CallB R s args own index y bytes maxL ret (.code y bytes maxL ret :: TBL) rm 0 0 n ∧ (Cond.static y).before args s = true :=
  ⟨callB_of n F.2.2.2.2 (tb_code h.2.2.2.1) rfl hR.1 hR.2.1 (F.2.2.2.2 _ h.2.2.1) (F.2.2.2.2 _ h.1) h.2.2.2.2 hR.2.2, F.2.2.2.2 _ h.2.1⟩
theorem k_cwVN {y : MethodName} {host : String} {bytes : ByteArray} {maxL n index : Nat} {ret : Option FieldType} {rm : Room} (F : CallFix p m c cc nL s args TBL own) (G : AK g s) (h : lkVN own index y host bytes maxL ret n) (hR : okR rm R maxL) : va_CN R s args own index y host bytes maxL ret (.code y bytes maxL ret :: TBL) rm 0 0 n ∧ (Cond.instanceMethod y).before args s = true ∧ (Cond.selects y.cls y y).before args s = true :=
  ⟨va_cnB n F.2.2.2.2 (tb_code h.2.2.2.2.1) rfl hR.1 hR.2.1 (G.2.2.2.1 _ h.1 rfl) (F.2.2.2.2 _ h.2.2.2.1) h.2.2.2.2.2 hR.2.2, F.2.2.2.2 _ h.2.1, F.2.2.2.2 _ h.2.2.1⟩
theorem k_cwSN {y : MethodName} {host : String} {bytes : ByteArray} {maxL n index : Nat} {ret : Option FieldType} {rm : Room} (F : CallFix p m c cc nL s args TBL own) (G : AK g s) (h : lkSN own index y host bytes maxL ret n) (hR : okR rm R maxL) : va_CN R s args own index y host bytes maxL ret (.code y bytes maxL ret :: TBL) rm 0 0 n ∧ (Cond.static y).before args s = true ∧ True :=
  ⟨va_cnB n F.2.2.2.2 (tb_code h.2.2.2.1) rfl hR.1 hR.2.1 (G.2.2.2.1 _ h.1 rfl) (F.2.2.2.2 _ h.2.2.1) h.2.2.2.2 hR.2.2, F.2.2.2.2 _ h.2.1, trivial⟩
abbrev wz (y : MethodName) (bytes : ByteArray) (maxL : Nat) (ret : Option FieldType) : List Cond := .code y bytes maxL ret :: TBL
abbrev MI (l : Launch) (y : MethodName) (bytes : ByteArray) (maxL : Nat) (ret : Option FieldType) (rm : Room) (g : GG) (av : List Value) (σ : ZI) (τ : ZL) (post : Int32 → ZI × ZL → Prop) : Prop := Met l y (.code y bytes maxL ret :: TBL) rm (va_Pc av (WP g σ τ)) (va_Qi post (WQ g) (AA g)) 0 0 (AA g)
abbrev ML (l : Launch) (y : MethodName) (bytes : ByteArray) (maxL : Nat) (ret : Option FieldType) (rm : Room) (g : GG) (av : List Value) (σ : ZI) (τ : ZL) (post : Int64 → ZI × ZL → Prop) : Prop := Met l y (.code y bytes maxL ret :: TBL) rm (va_Pc av (WP g σ τ)) (va_Ql post (WQ g) (AA g)) 0 0 (AA g)
abbrev MV (l : Launch) (y : MethodName) (bytes : ByteArray) (maxL : Nat) (ret : Option FieldType) (rm : Room) (g : GG) (av : List Value) (σ : ZI) (τ : ZL) (post : ZI × ZL → Prop) : Prop := Met l y (.code y bytes maxL ret :: TBL) rm (va_Pc av (WP g σ τ)) (va_Qv post (WQ g) (AA g)) 0 0 (AA g)
section KV
variable {i n index maxL : Nat} {y : MethodName} {bytes : ByteArray} {ret : Option FieldType} {rm : Room} {As st0 : List Value} {host : String}
theorem x_recv {ci N : Nat} {C : String} {T : u_T} {fs : List Value} (G : AK g s) (hS : WS g σ τ s H locs) (hi : i < 79) (he : eF g i (σ i) (τ i) = .inr (ci, fs)) (hc : vwCl[ci]? = some (C, T, N)) : ∃ cell : Cell, H[gA g i]? = some cell ∧ cell.vm.isStatics = false ∧ s.vm.findClass C = some cell.cls := va_recv G.1 hS.1 hc (cW_eq hi he)
theorem PreV_of {C : String} (F : CallFix p m c cc nL s args TBL own) (G : AK g s) (hS : WS g σ τ s H locs) (hr : ∃ cell : Cell, H[gA g i]? = some cell ∧ cell.vm.isStatics = false ∧ s.vm.findClass C = some cell.cls) : PreV s H C (gA g i) (va_Pc (.ref (gA g i) :: As) (WP g σ τ)) As := ⟨WP.blind _, hr, fun U hU hW => ⟨rfl, hS.next G hU hW⟩⟩
theorem PreS_of (F : CallFix p m c cc nL s args TBL own) (G : AK g s) (hS : WS g σ τ s H locs) : PreS s H (va_Pc As (WP g σ τ)) As := ⟨WP.blind _, fun U hU hW => ⟨rfl, hS.next G hU hW⟩⟩
theorem q_i {post : Int32 → ZI × ZL → Prop} {a : Array Value} (hr : va_Run p l e R s m args below meth c H locs 0 0 0 0 (F0 m pc ls st0) rest (va_Qi post (WQ g) (AA g) a) (AA g)) (hS : WS g σ τ s H locs) (kk : ∀ (r : Int32) (u : ZI × ZL) (H : Heap) (locs : List Loc), post r u → WS g u.1 u.2 s H locs → W p l e R s m args below meth c H locs 0 0 Q (F0 m (pc + 3) ls (.int r :: rest))) : W p l e R s m args below meth c H locs 0 0 Q (F0 m pc ls st0) :=
  va_calli hr hS.2 (fun _ _ h => h) (fun _ h => h) (fun r u t H1 locs1 ht _ hp hB _ _ hS1 => kk r u H1 locs1 hp ⟨by rw [← ht]; exact hB, hS1⟩)
theorem q_l {post : Int64 → ZI × ZL → Prop} {a : Array Value} (hr : va_Run p l e R s m args below meth c H locs 0 0 0 0 (F0 m pc ls st0) rest (va_Ql post (WQ g) (AA g) a) (AA g)) (hS : WS g σ τ s H locs) (kk : ∀ (r : Int64) (u : ZI × ZL) (H : Heap) (locs : List Loc), post r u → WS g u.1 u.2 s H locs → W p l e R s m args below meth c H locs 0 0 Q (F0 m (pc + 3) ls (.long r :: rest))) : W p l e R s m args below meth c H locs 0 0 Q (F0 m pc ls st0) :=
  va_calll hr hS.2 (fun _ _ h => h) (fun _ h => h) (fun r u t H1 locs1 ht _ hp hB _ _ hS1 => kk r u H1 locs1 hp ⟨by rw [← ht]; exact hB, hS1⟩)
theorem q_v {post : ZI × ZL → Prop} {a : Array Value} (hr : va_Run p l e R s m args below meth c H locs 0 0 0 0 (F0 m pc ls st0) rest (va_Qv post (WQ g) (AA g) a) (AA g)) (hS : WS g σ τ s H locs) (kk : ∀ (u : ZI × ZL) (H : Heap) (locs : List Loc), post u → WS g u.1 u.2 s H locs → W p l e R s m args below meth c H locs 0 0 Q (F0 m (pc + 3) ls rest)) : W p l e R s m args below meth c H locs 0 0 Q (F0 m pc ls st0) :=
  va_callv hr hS.2 (fun _ _ h => h) (fun _ h => h) (fun u t H1 locs1 ht _ hp hB _ _ hS1 => kk u H1 locs1 hp ⟨by rw [← ht]; exact hB, hS1⟩)
theorem rVi {post : Int32 → ZI × ZL → Prop} (F : CallFix p m c cc nL s args TBL own) (G : AK g s) (hS : WS g σ τ s H locs) (hl : ls.size = nL) (M : MI l y bytes maxL ret rm g (.ref (gA g i) :: As) σ τ post) (h : lkV own index y bytes maxL ret n) (hR : okR rm R maxL) (hr : ∃ cell : Cell, H[gA g i]? = some cell ∧ cell.vm.isStatics = false ∧ s.vm.findClass y.cls = some cell.cls) (hn : As.length = n) (hst : st0 = As.reverse ++ .ref (gA g i) :: rest) (hw : (rest.map fun v => v.category).sum ≤ 8) (hdg : decode cc pc = .ok (.invokevirtual index, 3)) (kk : ∀ (r : Int32) (u : ZI × ZL) (H : Heap) (locs : List Loc), post r u → WS g u.1 u.2 s H locs → W p l e R s m args below meth c H locs 0 0 Q (F0 m (pc + 3) ls (.int r :: rest))) : W p l e R s m args below meth c H locs 0 0 Q (F0 m pc ls st0) :=
  q_i (va_runV F M (k_cwV F h hR) (PreV_of F G hS hr) rfl hn hl hst (lv_room hw) hdg ⟨Nat.zero_le _, Nat.zero_le _⟩) hS kk
theorem rVl {post : Int64 → ZI × ZL → Prop} (F : CallFix p m c cc nL s args TBL own) (G : AK g s) (hS : WS g σ τ s H locs) (hl : ls.size = nL) (M : ML l y bytes maxL ret rm g (.ref (gA g i) :: As) σ τ post) (h : lkV own index y bytes maxL ret n) (hR : okR rm R maxL) (hr : ∃ cell : Cell, H[gA g i]? = some cell ∧ cell.vm.isStatics = false ∧ s.vm.findClass y.cls = some cell.cls) (hn : As.length = n) (hst : st0 = As.reverse ++ .ref (gA g i) :: rest) (hw : (rest.map fun v => v.category).sum ≤ 8) (hdg : decode cc pc = .ok (.invokevirtual index, 3)) (kk : ∀ (r : Int64) (u : ZI × ZL) (H : Heap) (locs : List Loc), post r u → WS g u.1 u.2 s H locs → W p l e R s m args below meth c H locs 0 0 Q (F0 m (pc + 3) ls (.long r :: rest))) : W p l e R s m args below meth c H locs 0 0 Q (F0 m pc ls st0) :=
  q_l (va_runV F M (k_cwV F h hR) (PreV_of F G hS hr) rfl hn hl hst (lv_room hw) hdg ⟨Nat.zero_le _, Nat.zero_le _⟩) hS kk
theorem rVv {post : ZI × ZL → Prop} (F : CallFix p m c cc nL s args TBL own) (G : AK g s) (hS : WS g σ τ s H locs) (hl : ls.size = nL) (M : MV l y bytes maxL ret rm g (.ref (gA g i) :: As) σ τ post) (h : lkV own index y bytes maxL ret n) (hR : okR rm R maxL) (hr : ∃ cell : Cell, H[gA g i]? = some cell ∧ cell.vm.isStatics = false ∧ s.vm.findClass y.cls = some cell.cls) (hn : As.length = n) (hst : st0 = As.reverse ++ .ref (gA g i) :: rest) (hw : (rest.map fun v => v.category).sum ≤ 8) (hdg : decode cc pc = .ok (.invokevirtual index, 3)) (kk : ∀ (u : ZI × ZL) (H : Heap) (locs : List Loc), post u → WS g u.1 u.2 s H locs → W p l e R s m args below meth c H locs 0 0 Q (F0 m (pc + 3) ls rest)) : W p l e R s m args below meth c H locs 0 0 Q (F0 m pc ls st0) :=
  q_v (va_runV F M (k_cwV F h hR) (PreV_of F G hS hr) rfl hn hl hst (lv_room hw) hdg ⟨Nat.zero_le _, Nat.zero_le _⟩) hS kk
theorem rNi {post : Int32 → ZI × ZL → Prop} (F : CallFix p m c cc nL s args TBL own) (G : AK g s) (hS : WS g σ τ s H locs) (hl : ls.size = nL) (M : MI l y bytes maxL ret rm g (.ref (gA g i) :: As) σ τ post) (h : lkVN own index y host bytes maxL ret n) (hR : okR rm R maxL) (hr : ∃ cell : Cell, H[gA g i]? = some cell ∧ cell.vm.isStatics = false ∧ s.vm.findClass y.cls = some cell.cls) (hn : As.length = n) (hst : st0 = As.reverse ++ .ref (gA g i) :: rest) (hw : (rest.map fun v => v.category).sum ≤ 8) (hdg : decode cc pc = .ok (.invokevirtual index, 3)) (kk : ∀ (r : Int32) (u : ZI × ZL) (H : Heap) (locs : List Loc), post r u → WS g u.1 u.2 s H locs → W p l e R s m args below meth c H locs 0 0 Q (F0 m (pc + 3) ls (.int r :: rest))) : W p l e R s m args below meth c H locs 0 0 Q (F0 m pc ls st0) :=
  q_i (va_runVN F M (k_cwVN F G h hR) (PreV_of F G hS hr) rfl hn hl hst (lv_room hw) hdg ⟨Nat.zero_le _, Nat.zero_le _⟩) hS kk
theorem rNl {post : Int64 → ZI × ZL → Prop} (F : CallFix p m c cc nL s args TBL own) (G : AK g s) (hS : WS g σ τ s H locs) (hl : ls.size = nL) (M : ML l y bytes maxL ret rm g (.ref (gA g i) :: As) σ τ post) (h : lkVN own index y host bytes maxL ret n) (hR : okR rm R maxL) (hr : ∃ cell : Cell, H[gA g i]? = some cell ∧ cell.vm.isStatics = false ∧ s.vm.findClass y.cls = some cell.cls) (hn : As.length = n) (hst : st0 = As.reverse ++ .ref (gA g i) :: rest) (hw : (rest.map fun v => v.category).sum ≤ 8) (hdg : decode cc pc = .ok (.invokevirtual index, 3)) (kk : ∀ (r : Int64) (u : ZI × ZL) (H : Heap) (locs : List Loc), post r u → WS g u.1 u.2 s H locs → W p l e R s m args below meth c H locs 0 0 Q (F0 m (pc + 3) ls (.long r :: rest))) : W p l e R s m args below meth c H locs 0 0 Q (F0 m pc ls st0) :=
  q_l (va_runVN F M (k_cwVN F G h hR) (PreV_of F G hS hr) rfl hn hl hst (lv_room hw) hdg ⟨Nat.zero_le _, Nat.zero_le _⟩) hS kk
theorem rNv {post : ZI × ZL → Prop} (F : CallFix p m c cc nL s args TBL own) (G : AK g s) (hS : WS g σ τ s H locs) (hl : ls.size = nL) (M : MV l y bytes maxL ret rm g (.ref (gA g i) :: As) σ τ post) (h : lkVN own index y host bytes maxL ret n) (hR : okR rm R maxL) (hr : ∃ cell : Cell, H[gA g i]? = some cell ∧ cell.vm.isStatics = false ∧ s.vm.findClass y.cls = some cell.cls) (hn : As.length = n) (hst : st0 = As.reverse ++ .ref (gA g i) :: rest) (hw : (rest.map fun v => v.category).sum ≤ 8) (hdg : decode cc pc = .ok (.invokevirtual index, 3)) (kk : ∀ (u : ZI × ZL) (H : Heap) (locs : List Loc), post u → WS g u.1 u.2 s H locs → W p l e R s m args below meth c H locs 0 0 Q (F0 m (pc + 3) ls rest)) : W p l e R s m args below meth c H locs 0 0 Q (F0 m pc ls st0) :=
  q_v (va_runVN F M (k_cwVN F G h hR) (PreV_of F G hS hr) rfl hn hl hst (lv_room hw) hdg ⟨Nat.zero_le _, Nat.zero_le _⟩) hS kk
theorem rSi {post : Int32 → ZI × ZL → Prop} (F : CallFix p m c cc nL s args TBL own) (G : AK g s) (hS : WS g σ τ s H locs) (hl : ls.size = nL) (M : MI l y bytes maxL ret rm g As σ τ post) (h : lkS own index y bytes maxL ret n) (hR : okR rm R maxL) (hn : As.length = n) (hst : st0 = As.reverse ++ rest) (hw : (rest.map fun v => v.category).sum ≤ 8) (hdg : decode cc pc = .ok (.invokestatic index, 3)) (kk : ∀ (r : Int32) (u : ZI × ZL) (H : Heap) (locs : List Loc), post r u → WS g u.1 u.2 s H locs → W p l e R s m args below meth c H locs 0 0 Q (F0 m (pc + 3) ls (.int r :: rest))) : W p l e R s m args below meth c H locs 0 0 Q (F0 m pc ls st0) :=
  q_i (va_runS F M (k_cwS F h hR) (PreS_of F G hS) rfl hn hl hst (lv_room hw) hdg ⟨Nat.zero_le _, Nat.zero_le _⟩) hS kk
theorem rSl {post : Int64 → ZI × ZL → Prop} (F : CallFix p m c cc nL s args TBL own) (G : AK g s) (hS : WS g σ τ s H locs) (hl : ls.size = nL) (M : ML l y bytes maxL ret rm g As σ τ post) (h : lkS own index y bytes maxL ret n) (hR : okR rm R maxL) (hn : As.length = n) (hst : st0 = As.reverse ++ rest) (hw : (rest.map fun v => v.category).sum ≤ 8) (hdg : decode cc pc = .ok (.invokestatic index, 3)) (kk : ∀ (r : Int64) (u : ZI × ZL) (H : Heap) (locs : List Loc), post r u → WS g u.1 u.2 s H locs → W p l e R s m args below meth c H locs 0 0 Q (F0 m (pc + 3) ls (.long r :: rest))) : W p l e R s m args below meth c H locs 0 0 Q (F0 m pc ls st0) :=
  q_l (va_runS F M (k_cwS F h hR) (PreS_of F G hS) rfl hn hl hst (lv_room hw) hdg ⟨Nat.zero_le _, Nat.zero_le _⟩) hS kk
theorem rSv {post : ZI × ZL → Prop} (F : CallFix p m c cc nL s args TBL own) (G : AK g s) (hS : WS g σ τ s H locs) (hl : ls.size = nL) (M : MV l y bytes maxL ret rm g As σ τ post) (h : lkS own index y bytes maxL ret n) (hR : okR rm R maxL) (hn : As.length = n) (hst : st0 = As.reverse ++ rest) (hw : (rest.map fun v => v.category).sum ≤ 8) (hdg : decode cc pc = .ok (.invokestatic index, 3)) (kk : ∀ (u : ZI × ZL) (H : Heap) (locs : List Loc), post u → WS g u.1 u.2 s H locs → W p l e R s m args below meth c H locs 0 0 Q (F0 m (pc + 3) ls rest)) : W p l e R s m args below meth c H locs 0 0 Q (F0 m pc ls st0) :=
  q_v (va_runS F M (k_cwS F h hR) (PreS_of F G hS) rfl hn hl hst (lv_room hw) hdg ⟨Nat.zero_le _, Nat.zero_le _⟩) hS kk
theorem rTi {post : Int32 → ZI × ZL → Prop} (F : CallFix p m c cc nL s args TBL own) (G : AK g s) (hS : WS g σ τ s H locs) (hl : ls.size = nL) (M : MI l y bytes maxL ret rm g As σ τ post) (h : lkSN own index y host bytes maxL ret n) (hR : okR rm R maxL) (hn : As.length = n) (hst : st0 = As.reverse ++ rest) (hw : (rest.map fun v => v.category).sum ≤ 8) (hdg : decode cc pc = .ok (.invokestatic index, 3)) (kk : ∀ (r : Int32) (u : ZI × ZL) (H : Heap) (locs : List Loc), post r u → WS g u.1 u.2 s H locs → W p l e R s m args below meth c H locs 0 0 Q (F0 m (pc + 3) ls (.int r :: rest))) : W p l e R s m args below meth c H locs 0 0 Q (F0 m pc ls st0) :=
  q_i (va_runSN F M (k_cwSN F G h hR) (PreS_of F G hS) rfl hn hl hst (lv_room hw) hdg ⟨Nat.zero_le _, Nat.zero_le _⟩) hS kk
theorem rTl {post : Int64 → ZI × ZL → Prop} (F : CallFix p m c cc nL s args TBL own) (G : AK g s) (hS : WS g σ τ s H locs) (hl : ls.size = nL) (M : ML l y bytes maxL ret rm g As σ τ post) (h : lkSN own index y host bytes maxL ret n) (hR : okR rm R maxL) (hn : As.length = n) (hst : st0 = As.reverse ++ rest) (hw : (rest.map fun v => v.category).sum ≤ 8) (hdg : decode cc pc = .ok (.invokestatic index, 3)) (kk : ∀ (r : Int64) (u : ZI × ZL) (H : Heap) (locs : List Loc), post r u → WS g u.1 u.2 s H locs → W p l e R s m args below meth c H locs 0 0 Q (F0 m (pc + 3) ls (.long r :: rest))) : W p l e R s m args below meth c H locs 0 0 Q (F0 m pc ls st0) :=
  q_l (va_runSN F M (k_cwSN F G h hR) (PreS_of F G hS) rfl hn hl hst (lv_room hw) hdg ⟨Nat.zero_le _, Nat.zero_le _⟩) hS kk
theorem rTv {post : ZI × ZL → Prop} (F : CallFix p m c cc nL s args TBL own) (G : AK g s) (hS : WS g σ τ s H locs) (hl : ls.size = nL) (M : MV l y bytes maxL ret rm g As σ τ post) (h : lkSN own index y host bytes maxL ret n) (hR : okR rm R maxL) (hn : As.length = n) (hst : st0 = As.reverse ++ rest) (hw : (rest.map fun v => v.category).sum ≤ 8) (hdg : decode cc pc = .ok (.invokestatic index, 3)) (kk : ∀ (u : ZI × ZL) (H : Heap) (locs : List Loc), post u → WS g u.1 u.2 s H locs → W p l e R s m args below meth c H locs 0 0 Q (F0 m (pc + 3) ls rest)) : W p l e R s m args below meth c H locs 0 0 Q (F0 m pc ls st0) :=
  q_v (va_runSN F M (k_cwSN F G h hR) (PreS_of F G hS) rfl hn hl hst (lv_room hw) hdg ⟨Nat.zero_le _, Nat.zero_le _⟩) hS kk
theorem x_topi {x y : Int32} (h : y = x) (k : W p l e R s m args below meth c H locs cells slots Q (F0 m pc ls (.int y :: rest))) : W p l e R s m args below meth c H locs cells slots Q (F0 m pc ls (.int x :: rest)) := h ▸ k
theorem x_topl {x y : Int64} (h : y = x) (k : W p l e R s m args below meth c H locs cells slots Q (F0 m pc ls (.long y :: rest))) : W p l e R s m args below meth c H locs cells slots Q (F0 m pc ls (.long x :: rest)) := h ▸ k
theorem x_getq {C n d : String} {index : Nat} (F : CallFix p m c cc nL s args TBL own) (hS : WS g σ τ s H locs) (hZ : va_Zq C n d (AA g) s s.heap) (hl : (Cond.fieldLink own index C n d).before args s = true) (hdg : decode cc pc = .ok (.getstatic index, 3))
    (kk : ∀ o : Option Nat, W p l e R s m args below meth c H locs cells slots Q (F0 m (pc + 3) ls (va_rf o :: rest))) : W p l e R s m args below meth c H locs cells slots Q (F0 m pc ls rest) := by
  rcases hZ with h | ⟨t, h⟩
  · exact va_gets F.1 F.2.1 h hS.2 F.2.2.2.1 hl (fun x h => h) hdg (kk none)
  · exact va_gets F.1 F.2.1 h hS.2 F.2.2.2.1 hl (fun x h => h) hdg (kk (some t))
theorem e_n {post : Int32 → ZI × ZL → Prop} {ty : FieldType} (F : CallFix p m c cc nL s args TBL own) (hS : WS g σ τ s H locs) {v : Int32} (hv : narrow ty (.int v) = .int v) (hp : post v (σ, τ)) (hr : meth.sig.returnType = some ty) (hdg : decode cc pc = .ok (.ireturn, 1)) (hk : meth.locks = false) : W p l e R s m args below meth c H locs 0 0 (MQ below (va_Qi post (WQ g) (AA g)) args s 0 0 (AA g)) (F0 m pc ls [.int v]) :=
  W.zret F.1 F.2.1 hr hv (fun t ht hW => ⟨⟨v, (σ, τ), rfl, hp, by show va_P _ _ _ t.heap; rw [ht]; exact hS.1⟩, hS.2.F ht⟩) hS.2.2.2 hdg hk
theorem nar_c {v : Int32} (h : v = (v.toUInt32 % 65536).toInt32) : narrow .char (.int v) = .int v := by rw [h]; exact pk_nc v
theorem e_r {i : Nat} {post : Nat × (ZI × ZL) → Prop} {rt : FieldType} (F : CallFix p m c cc nL s args TBL own) (hS : WS g σ τ s H locs) (hrt : (∃ n, rt = .object n) ∨ ∃ t, rt = .array t) (hp : post (i, (σ, τ))) (hr : meth.sig.returnType = some rt) (hdg : decode cc pc = .ok (.areturn, 1)) (hk : meth.locks = false) : W p l e R s m args below meth c H locs 0 0 (MQ below (va_Qr post (fun z a t => a = gA g z.1 ∧ WQ g z.2 t) (AA g)) args s 0 0 (AA g)) (F0 m pc ls [.ref (gA g i)]) :=
  W.aret F.1 F.2.1 hr hrt (Or.inr ⟨_, rfl⟩) (fun t ht hW => ⟨⟨(i, (σ, τ)), gA g i, rfl, hp, rfl, by show va_P _ _ _ t.heap; rw [ht]; exact hS.1⟩, hS.2.F ht⟩) hS.2.2.2 hdg hk
theorem gn {α : Type} {c : Prop} [Decidable c] {A : Option α} {r : α} (h : (if c then none else A) = some r) : ¬ c ∧ A = some r := by
  by_cases hc : c
  · rw [if_pos hc] at h; cases h
  · exact ⟨hc, by rw [if_neg hc] at h; exact h⟩
theorem rVr {post : Nat × (ZI × ZL) → Prop} (F : CallFix p m c cc nL s args TBL own) (G : AK g s) (hS : WS g σ τ s H locs) (hl : ls.size = nL) (M : Met l y (.code y bytes maxL ret :: TBL) rm (va_Pc (.ref (gA g i) :: As) (WP g σ τ)) (va_Qr post (fun z a t => a = gA g z.1 ∧ WQ g z.2 t) (AA g)) 0 0 (AA g)) (h : lkV own index y bytes maxL ret n) (hR : okR rm R maxL) (hr : ∃ cell : Cell, H[gA g i]? = some cell ∧ cell.vm.isStatics = false ∧ s.vm.findClass y.cls = some cell.cls) (hn : As.length = n) (hst : st0 = As.reverse ++ .ref (gA g i) :: rest) (hw : (rest.map fun v => v.category).sum ≤ 8) (hdg : decode cc pc = .ok (.invokevirtual index, 3)) (kk : ∀ (z : Nat × (ZI × ZL)) (H : Heap) (locs : List Loc), post z → WS g z.2.1 z.2.2 s H locs → W p l e R s m args below meth c H locs 0 0 Q (F0 m (pc + 3) ls (.ref (gA g z.1) :: rest))) : W p l e R s m args below meth c H locs 0 0 Q (F0 m pc ls st0) :=
  va_callr (va_runV F M (k_cwV F h hR) (PreV_of F G hS hr) rfl hn hl hst (lv_room hw) hdg ⟨Nat.zero_le _, Nat.zero_le _⟩) hS.2 (fun _ _ h => h) (fun _ h => h) (fun z ra t H1 locs1 ht _ hp hB _ _ hS1 => by rw [hB.1]; exact kk z H1 locs1 hp ⟨by rw [← ht]; exact hB.2, hS1⟩)
theorem x_copy {z : Int32} (F : CallFix p m c cc nL s args TBL own) (G : AK g s) (hS : WS g σ τ s H locs) (hml : c.maxLocals = ls.size) {index : Nat} (hw : (Cond.methodLink own index arraycopyName).before args s = true ∧ (Cond.native arraycopyName).before args s = true ∧ (Cond.static arraycopyName).before args s = true ∧ (Cond.initialized "java/lang/System").before args s = true) (n src dst : Nat) (h1 : (ar src).1 = 1) (h2 : (ar dst).1 = 1) (h3 : n ≤ (ar src).2) (h4 : n ≤ (ar dst).2) (hn : n < 2 ^ 31) (hz : z = nI n) (hf : 1 ≤ R.frames) (hlo : (rest.map fun v => v.category).sum + (nativeFrameWords "java/lang/System" "arraycopy" 5 + 11) ≤ R.locals) (hdg : decode cc pc = .ok (.invokestatic index, 3))
    (kk : ∀ (H : Heap) (locs : List Loc), WS g (va_up σ dst (va_cpy (σ src) (σ dst) 0 0 n)) τ s H locs → W p l e R s m args below meth c H locs cells slots Q (F0 m (pc + 3) ls rest)) : W p l e R s m args below meth c H locs cells slots Q (F0 m pc ls (.int z :: .int 0 :: .ref (gA g dst) :: .int 0 :: .ref (gA g src) :: rest)) := by
  subst hz
  have e0 : (0 : Int32).toNatClampNeg = 0 := rfl
  have en : (nI n).toNatClampNeg = n := nI_clamp hn
  refine va_copyi F.1 F.2.1 hml F.2.2.2.1 hw.1 hw.2.1 hw.2.2.1 hw.2.2.2 G.1 hS.1 (G.2.1.D σ τ) hS.2 src dst 1 1 (cW_eq (ar_l1 h1) (ar_I h1 g _ _)) (cW_eq (ar_l1 h2) (ar_I h2 g _ _)) (ty := .int) rfl rfl rfl (by decide) (by decide) (nI_pos hn) (by rw [e0, en]; omega) (by rw [e0, en]; omega) (fun _ _ => rfl) hf hlo hdg (fun H1 locs1 hP _ hS1 => ?_)
  rw [e0, en] at hP
  exact kk H1 locs1 (WS.putI hP hS1 (ar_I h2 g _ _))
theorem x_copyS {z : Int32} (F : CallFix p m c cc nL s args TBL own) (G : AK g s) (hS : WS g σ τ s H locs) (hml : c.maxLocals = ls.size) {index : Nat} (hw : (Cond.methodLink own index arraycopyName).before args s = true ∧ (Cond.native arraycopyName).before args s = true ∧ (Cond.static arraycopyName).before args s = true ∧ (Cond.initialized "java/lang/System").before args s = true) (n r dst : Nat) (h2 : (ar dst).1 = 1) (h4 : n ≤ (ar dst).2) (hr : r = 100 ∨ r = 101 ∨ r = 102) (hn13 : n ≤ 13) (hz : z = nI n) (hf : 1 ≤ R.frames) (hlo : (rest.map fun v => v.category).sum + (nativeFrameWords "java/lang/System" "arraycopy" 5 + 11) ≤ R.locals) (hdg : decode cc pc = .ok (.invokestatic index, 3))
    (kk : ∀ (H : Heap) (locs : List Loc), WS g (va_up σ dst (va_cpy (fun j => (stL r).getD j 0) (σ dst) 0 0 n)) τ s H locs → W p l e R s m args below meth c H locs cells slots Q (F0 m (pc + 3) ls rest)) : W p l e R s m args below meth c H locs cells slots Q (F0 m pc ls (.int z :: .int 0 :: .ref (gA g dst) :: .int 0 :: .ref (gA g r) :: rest)) := by
  subst hz
  have hn : n < 2 ^ 31 := by omega
  have e0 : (0 : Int32).toNatClampNeg = 0 := rfl
  have en : (nI n).toNatClampNeg = n := nI_clamp hn
  have i0 : (0 : Int32).toInt = 0 := rfl
  have iN : (nI n).toInt = (n : Int) := nI_toInt hn
  have hZ : STt g r s s.heap := by rcases hr with rfl | rfl | rfl; exact G.2.2.2.2.1.1; exact G.2.2.2.2.1.2.1; exact G.2.2.2.2.1.2.2
  obtain ⟨scr, s1, s2, s3, s4, -, s5, s6⟩ := hZ.2
  have hc0 : H[gA g r]? = some scr := by rw [hS.2.2.1 _ (Array.getElem?_eq_some_iff.mp s1).1 s6]; exact s1
  have ha1 : (cW g σ τ)[dst]? = some (gA g dst, .inl (gC g 1, (ar dst).2, .inl (σ dst))) := cW_eq (ar_l1 h2) (ar_I h2 g _ _)
  have hc1 : H[gA g dst]? = some (vp_cell (gC g 1) ((ar dst).2, .inl (σ dst))) := hS.1 dst _ ha1
  obtain ⟨q1, k0, q2, m0, q3⟩ := s2
  obtain ⟨-, k1, q4, m1, q5⟩ := (G.1.2 1 _ rfl).1 (ar dst).2 (fun j => .int (σ dst j))
  have hD := G.2.1.D σ τ
  have hl : gA g dst < H.size := (Array.getElem?_eq_some_iff.mp hc1).1
  intro T hT X
  obtain ⟨vm', X', step⟩ := X.arraycopy F.1 F.2.2.2.1 hw.1 hw.2.1 hw.2.2.1 hw.2.2.2 (src := gA g r) (dst := gA g dst) (cs := scr) (cd := vp_cell (gC g 1) ((ar dst).2, .inl (σ dst))) (srcPos := 0) (destPos := 0) (n := nI n) (by rw [hT]; exact hc0) (by rw [hT]; exact hc1)
    q1 (fun _ h => by cases h) s3 (fun h => by cases h) q2 q4 q3 q5 (by simp [refKind]) (by decide) (by decide) (nI_pos hn)
    (by rw [i0, iN]; omega)
    (by rw [i0, iN]; show ¬ _ > ((arrV (gC g 1) (ar dst).2 (fun j => .int (σ dst j))).slots.size : Int); rw [arrV_size]; omega)
    (fun vm₁ _ i hi => by
      rw [en] at hi
      have e1 : scr.slots.getD ((0 : Int32).toNatClampNeg + i) .null = .int ((stL r).getD i 0) := by
        rw [Array.getD_eq_getD_getElem?, e0, Nat.zero_add, s5 i (by omega)]
        rfl
      rw [e1]
      exact ⟨rfl, trivial⟩)
    (g := F0 m pc ls (.int (nI n) :: .int 0 :: .ref (gA g dst) :: .int 0 :: .ref (gA g r) :: rest)) rfl (by rw [hml]) (rest := rest) rfl (by rw [F.2.1]; exact hdg) hf (by show 2 * 0 + _ + _ ≤ _; omega)
  have ec : copied scr (vp_cell (gC g 1) ((ar dst).2, .inl (σ dst))) 0 0 (nI n) = vp_cell (gC g 1) ((ar dst).2, .inl (va_cpy (fun j => (stL r).getD j 0) (σ dst) 0 0 n)) := by
    have := va_copiedX (n0 := 13) (sp := (0 : Int32).toNatClampNeg) (dp := (0 : Int32).toNatClampNeg) (n := (nI n).toNatClampNeg) (n1 := (ar dst).2) (fun z => .int z) scr (gC g 1) (fun j => (stL r).getD j 0) (σ dst) s5 (by rw [e0, en]; omega)
    rw [e0, en] at this
    show (arrV (gC g 1) (ar dst).2 (fun j => .int (σ dst j))).storeRun (0 : Int32).toNatClampNeg (scr.stretch (0 : Int32).toNatClampNeg (nI n).toNatClampNeg) = _
    rw [e0, en]
    exact this
  rw [ec] at X' step
  have hheap : ((T.setVm vm').setCell (gA g dst) (vp_cell (gC g 1) ((ar dst).2, .inl (va_cpy (fun j => (stL r).getD j 0) (σ dst) 0 0 n)))).heap = H.setIfInBounds (gA g dst) (vp_cell (gC g 1) ((ar dst).2, .inl (va_cpy (fun j => (stL r).getD j 0) (σ dst) 0 0 n))) := by rw [← hT]; rfl
  have oq : ∀ q : Nat, q ≠ gA g dst → (H.setIfInBounds (gA g dst) (vp_cell (gC g 1) ((ar dst).2, .inl (va_cpy (fun j => (stL r).getD j 0) (σ dst) 0 0 n))))[q]? = H[q]? := fun q hq => by simp [Array.getElem?_setIfInBounds, Ne.symm hq]
  have hset := hS.1.set (e := .inl (gC g 1, (ar dst).2, .inl (va_cpy (fun j => (stL r).getD j 0) (σ dst) 0 0 n))) hD ha1 (H1 := H.setIfInBounds (gA g dst) (vp_cell (gC g 1) ((ar dst).2, .inl (va_cpy (fun j => (stL r).getD j 0) (σ dst) 0 0 n)))) (by show (H.setIfInBounds (gA g dst) _)[gA g dst]? = some _; simp [Array.getElem?_setIfInBounds, hl]) oq
  obtain ⟨t, a1, b1⟩ := kk _ _ (WS.putI hset ⟨by simp; exact hS.2.1, fun q g1 g2 => by
      rw [oq q (fun e => g2 (by rw [e]; exact hD.2 dst _ ha1))]
      exact hS.2.2.1 q g1 g2, fun q hq => by
      rcases List.mem_append.mp hq with h | h
      · exact hS.2.2.2 q h
      · obtain ⟨z, -, hz⟩ := List.mem_map.mp h
        rw [← hz]
        exact hD.2 dst _ ha1⟩ (ar_I h2 g _ _)) _ hheap X'
  exact ⟨t, step t a1, b1⟩
theorem kRi {q : Int32} (k : ∀ (H : Heap) (locs : List Loc), WS g σ τ s H locs → W p l e R s m args below meth c H locs 0 0 Q (F0 m (pc + 3) ls (.int q :: rest))) : ∀ (r : Int32) (u : ZI × ZL) (H : Heap) (locs : List Loc), (r = q ∧ u.1 = σ ∧ u.2 = τ) → WS g u.1 u.2 s H locs → W p l e R s m args below meth c H locs 0 0 Q (F0 m (pc + 3) ls (.int r :: rest)) := by
  intro r u H locs hp hS
  obtain ⟨u1, u2⟩ := u
  obtain ⟨rfl, rfl, rfl⟩ := hp
  exact k H locs hS
theorem kIi {q : Int32 × ZI} (k : ∀ (H : Heap) (locs : List Loc), WS g q.2 τ s H locs → W p l e R s m args below meth c H locs 0 0 Q (F0 m (pc + 3) ls (.int q.1 :: rest))) : ∀ (r : Int32) (u : ZI × ZL) (H : Heap) (locs : List Loc), ((r, u.1) = q ∧ u.2 = τ) → WS g u.1 u.2 s H locs → W p l e R s m args below meth c H locs 0 0 Q (F0 m (pc + 3) ls (.int r :: rest)) := by
  intro r u H locs hp hS
  obtain ⟨u1, u2⟩ := u
  obtain ⟨rfl, rfl⟩ := hp
  exact k H locs hS
theorem kJi {q : Int32 × ZL} (k : ∀ (H : Heap) (locs : List Loc), WS g σ q.2 s H locs → W p l e R s m args below meth c H locs 0 0 Q (F0 m (pc + 3) ls (.int q.1 :: rest))) : ∀ (r : Int32) (u : ZI × ZL) (H : Heap) (locs : List Loc), ((r, u.2) = q ∧ u.1 = σ) → WS g u.1 u.2 s H locs → W p l e R s m args below meth c H locs 0 0 Q (F0 m (pc + 3) ls (.int r :: rest)) := by
  intro r u H locs hp hS
  obtain ⟨u1, u2⟩ := u
  obtain ⟨rfl, rfl⟩ := hp
  exact k H locs hS
theorem kBi {q : Int32 × ZI × ZL} (k : ∀ (H : Heap) (locs : List Loc), WS g q.2.1 q.2.2 s H locs → W p l e R s m args below meth c H locs 0 0 Q (F0 m (pc + 3) ls (.int q.1 :: rest))) : ∀ (r : Int32) (u : ZI × ZL) (H : Heap) (locs : List Loc), ((r, u.1, u.2) = q) → WS g u.1 u.2 s H locs → W p l e R s m args below meth c H locs 0 0 Q (F0 m (pc + 3) ls (.int r :: rest)) := by
  intro r u H locs hp hS
  obtain ⟨u1, u2⟩ := u
  subst hp
  exact k H locs hS
theorem kRl {q : Int64} (k : ∀ (H : Heap) (locs : List Loc), WS g σ τ s H locs → W p l e R s m args below meth c H locs 0 0 Q (F0 m (pc + 3) ls (.long q :: rest))) : ∀ (r : Int64) (u : ZI × ZL) (H : Heap) (locs : List Loc), (r = q ∧ u.1 = σ ∧ u.2 = τ) → WS g u.1 u.2 s H locs → W p l e R s m args below meth c H locs 0 0 Q (F0 m (pc + 3) ls (.long r :: rest)) := by
  intro r u H locs hp hS
  obtain ⟨u1, u2⟩ := u
  obtain ⟨rfl, rfl, rfl⟩ := hp
  exact k H locs hS
theorem kIl {q : Int64 × ZI} (k : ∀ (H : Heap) (locs : List Loc), WS g q.2 τ s H locs → W p l e R s m args below meth c H locs 0 0 Q (F0 m (pc + 3) ls (.long q.1 :: rest))) : ∀ (r : Int64) (u : ZI × ZL) (H : Heap) (locs : List Loc), ((r, u.1) = q ∧ u.2 = τ) → WS g u.1 u.2 s H locs → W p l e R s m args below meth c H locs 0 0 Q (F0 m (pc + 3) ls (.long r :: rest)) := by
  intro r u H locs hp hS
  obtain ⟨u1, u2⟩ := u
  obtain ⟨rfl, rfl⟩ := hp
  exact k H locs hS
theorem kJl {q : Int64 × ZL} (k : ∀ (H : Heap) (locs : List Loc), WS g σ q.2 s H locs → W p l e R s m args below meth c H locs 0 0 Q (F0 m (pc + 3) ls (.long q.1 :: rest))) : ∀ (r : Int64) (u : ZI × ZL) (H : Heap) (locs : List Loc), ((r, u.2) = q ∧ u.1 = σ) → WS g u.1 u.2 s H locs → W p l e R s m args below meth c H locs 0 0 Q (F0 m (pc + 3) ls (.long r :: rest)) := by
  intro r u H locs hp hS
  obtain ⟨u1, u2⟩ := u
  obtain ⟨rfl, rfl⟩ := hp
  exact k H locs hS
theorem kBl {q : Int64 × ZI × ZL} (k : ∀ (H : Heap) (locs : List Loc), WS g q.2.1 q.2.2 s H locs → W p l e R s m args below meth c H locs 0 0 Q (F0 m (pc + 3) ls (.long q.1 :: rest))) : ∀ (r : Int64) (u : ZI × ZL) (H : Heap) (locs : List Loc), ((r, u.1, u.2) = q) → WS g u.1 u.2 s H locs → W p l e R s m args below meth c H locs 0 0 Q (F0 m (pc + 3) ls (.long r :: rest)) := by
  intro r u H locs hp hS
  obtain ⟨u1, u2⟩ := u
  subst hp
  exact k H locs hS
theorem kRv (k : ∀ (H : Heap) (locs : List Loc), WS g σ τ s H locs → W p l e R s m args below meth c H locs 0 0 Q (F0 m (pc + 3) ls rest)) : ∀ (u : ZI × ZL) (H : Heap) (locs : List Loc), (u.1 = σ ∧ u.2 = τ) → WS g u.1 u.2 s H locs → W p l e R s m args below meth c H locs 0 0 Q (F0 m (pc + 3) ls rest) := by
  intro u H locs hp hS
  obtain ⟨u1, u2⟩ := u
  obtain ⟨rfl, rfl⟩ := hp
  exact k H locs hS
theorem kIv {q : ZI} (k : ∀ (H : Heap) (locs : List Loc), WS g q τ s H locs → W p l e R s m args below meth c H locs 0 0 Q (F0 m (pc + 3) ls rest)) : ∀ (u : ZI × ZL) (H : Heap) (locs : List Loc), (u.1 = q ∧ u.2 = τ) → WS g u.1 u.2 s H locs → W p l e R s m args below meth c H locs 0 0 Q (F0 m (pc + 3) ls rest) := by
  intro u H locs hp hS
  obtain ⟨u1, u2⟩ := u
  obtain ⟨rfl, rfl⟩ := hp
  exact k H locs hS
theorem kJv {q : ZL} (k : ∀ (H : Heap) (locs : List Loc), WS g σ q s H locs → W p l e R s m args below meth c H locs 0 0 Q (F0 m (pc + 3) ls rest)) : ∀ (u : ZI × ZL) (H : Heap) (locs : List Loc), (u.2 = q ∧ u.1 = σ) → WS g u.1 u.2 s H locs → W p l e R s m args below meth c H locs 0 0 Q (F0 m (pc + 3) ls rest) := by
  intro u H locs hp hS
  obtain ⟨u1, u2⟩ := u
  obtain ⟨rfl, rfl⟩ := hp
  exact k H locs hS
theorem kBv {q : ZI × ZL} (k : ∀ (H : Heap) (locs : List Loc), WS g q.1 q.2 s H locs → W p l e R s m args below meth c H locs 0 0 Q (F0 m (pc + 3) ls rest)) : ∀ (u : ZI × ZL) (H : Heap) (locs : List Loc), ((u.1, u.2) = q) → WS g u.1 u.2 s H locs → W p l e R s m args below meth c H locs 0 0 Q (F0 m (pc + 3) ls rest) := by
  intro u H locs hp hS
  obtain ⟨u1, u2⟩ := u
  subst hp
  exact k H locs hS
theorem kRr {q : Nat} (k : ∀ (H : Heap) (locs : List Loc), WS g σ τ s H locs → W p l e R s m args below meth c H locs 0 0 Q (F0 m (pc + 3) ls (.ref (gA g q) :: rest))) : ∀ (z : Nat × (ZI × ZL)) (H : Heap) (locs : List Loc), (z.1 = q ∧ z.2.1 = σ ∧ z.2.2 = τ) → WS g z.2.1 z.2.2 s H locs → W p l e R s m args below meth c H locs 0 0 Q (F0 m (pc + 3) ls (.ref (gA g z.1) :: rest)) := by
  intro z H locs hp hS
  obtain ⟨z1, u1, u2⟩ := z
  obtain ⟨rfl, rfl, rfl⟩ := hp
  exact k H locs hS
end KV
end XR
