/-! the world: ints by cell and place, longs by cell and place; cells 0 to 59 are the class's, 60 to 78 the reference's -/
abbrev ZI : Type := Nat → Nat → Int32
abbrev ZL : Type := Nat → Nat → Int64
abbrev GG : Type := va_G × (Nat → ClassId) × (Nat → Nat) × Nat
abbrev gD (g : GG) : va_G := g.1
abbrev gC (g : GG) : Nat → ClassId := g.2.1
abbrev gA (g : GG) : Nat → Nat := g.2.2.1
abbrev gB (g : GG) : Nat := g.2.2.2
def AA (g : GG) : Nat → Prop := fun q => gB g ≤ q
def arL : List (Nat × Nat) := [(10, 0), (11, 0), (1, 13), (1, 3), (1, 3), (1, 3), (1, 3), (1, 3), (1, 5), (1, 5), (11, 0), (1, 13), (1, 3), (1, 3), (1, 3), (1, 3), (1, 3), (1, 5), (1, 5), (11, 0), (1, 13), (1, 3), (1, 3), (1, 3), (1, 3), (1, 3), (1, 5), (1, 5), (11, 0), (1, 13), (1, 3), (1, 3), (1, 3), (1, 3), (1, 3), (1, 5), (1, 5), (12, 0), (0, 160), (13, 0), (14, 0), (15, 0), (2, 11), (2, 11), (2, 11), (2, 11), (2, 11), (2, 11), (2, 11), (2, 11), (2, 11), (16, 0), (1, 6), (1, 6), (17, 0), (1, 4), (1, 4), (1, 4), (1, 160), (1, 5), (18, 0), (1, 90), (1, 6), (1, 3), (1, 5), (1, 2), (1, 18), (1, 6), (1, 3), (1, 5), (1, 2), (1, 160), (1, 17), (1, 72), (1, 12), (3, 2), (1, 4), (1, 4), (1, 160)]
def ar (r : Nat) : Nat × Nat := arL.getD r (99, 0)
def eF (g : GG) (j : Nat) (f : Nat → Int32) (t : Nat → Int64) : va_E :=
  if (ar j).1 = 1 then .inl (gC g 1, (ar j).2, .inl f)
  else if (ar j).1 = 2 then .inl (gC g 2, (ar j).2, .inr (.inl t))
  else if (ar j).1 = 0 then .inl (gC g 0, (ar j).2, .inl f)
  else if (ar j).1 = 3 then .inl (gC g 3, (ar j).2, .inl f)
  else if (ar j).1 = 11 then .inr (6, [.ref (gA g (j + 1)), .ref (gA g (j + 2)), .ref (gA g (j + 3)), .ref (gA g (j + 4)), .ref (gA g (j + 5)), .ref (gA g (j + 6)), .ref (gA g (j + 7)), .ref (gA g (j + 8))])
  else if (ar j).1 = 10 then .inr (7, [.ref (gA g 1), .ref (gA g 10), .ref (gA g 19), .int (f 3), .ref (gA g 39), .ref (gA g 37), .int (f 6), .ref (gA g 40), .ref (gA g 41), .ref (gA g 51), .ref (gA g 54), .ref (gA g 59), .int (f 12)])
  else if (ar j).1 = 12 then .inr (5, [.ref (gA g 38), .int (f 1), .int (f 2), .int (f 3), .int (f 4)])
  else if (ar j).1 = 13 then .inr (2, [.ref (gA g 37), .ref (gA g 28), .int (f 2), .int (f 3), .int (f 4)])
  else if (ar j).1 = 14 then .inr (1, [.int (f 0), .int (f 1), .int (f 2), .int (f 3), .int (f 4), .int (f 5)])
  else if (ar j).1 = 15 then .inr (0, [.int (f 0), .ref (gA g 42), .ref (gA g 43), .ref (gA g 44), .ref (gA g 45), .ref (gA g 46), .ref (gA g 47), .ref (gA g 48), .ref (gA g 49), .ref (gA g 50)])
  else if (ar j).1 = 16 then .inr (3, [.ref (gA g 52), .ref (gA g 53), .int (f 2)])
  else if (ar j).1 = 17 then .inr (4, [.ref (gA g 55), .ref (gA g 56), .ref (gA g 57), .ref (gA g 58)])
  else if (ar j).1 = 18 then .inr (8, [.ref (gA g 61), .int (f 1), .ref (gA g 62), .int (f 3), .ref (gA g 63), .int (f 5), .ref (gA g 64), .int (f 7), .ref (gA g 65), .ref (gA g 66), .ref (gA g 67), .ref (gA g 68), .ref (gA g 69), .ref (gA g 70), .int (f 14), .int (f 15), .int (f 16), .int (f 17), .int (f 18), .int (f 19), .int (f 20), .int (f 21), .ref (gA g 71), .int (f 23), .int (f 24), .int (f 25), .int (f 26), .int (f 27), .int (f 28), .int (f 29), .int (f 30), .ref (gA g 72), .ref (gA g 73), .int (f 33), .int (f 34), .int (f 35), .int (f 36), .int (f 37), .int (f 38), .int (f 39), .ref (gA g 74), .int (f 41), .ref (gA g 75), .ref (gA g 76), .ref (gA g 77), .ref (gA g 78), .int (f 46)])
  else .inl (gC g 1, 0, .inl f)
def cW (g : GG) (σ : ZI) (τ : ZL) : va_W := (List.range 79).map (fun i => (gA g i, eF g i (σ i) (τ i)))
theorem ar_lt {r : Nat} (h : (ar r).1 ≠ 99) : r < 79 := by
  rcases Nat.lt_or_ge r 79 with q | q
  · exact q
  · exact absurd (by unfold ar; rw [List.getD_eq_getElem?_getD, List.getElem?_eq_none (by simpa [arL] using q)]; rfl) h
theorem cW_at (g : GG) (σ : ZI) (τ : ZL) {i : Nat} (h : i < 79) : (cW g σ τ)[i]? = some (gA g i, eF g i (σ i) (τ i)) := by
  unfold cW
  rw [List.getElem?_map, List.getElem?_range h]
  rfl
theorem cW_eq {g : GG} {σ : ZI} {τ : ZL} {i : Nat} {e : va_E} (h : i < 79) (he : eF g i (σ i) (τ i) = e) : (cW g σ τ)[i]? = some (gA g i, e) := by rw [← he]; exact cW_at g σ τ h
theorem cW_len (g : GG) (σ : ZI) (τ : ZL) : (cW g σ τ).length = 79 := by simp [cW]
theorem cW_setI {g : GG} {σ : ZI} {τ : ZL} {i : Nat} {f : Nat → Int32} {e : va_E} (he : eF g i f (τ i) = e) : (cW g σ τ).set i (gA g i, e) = cW g (va_up σ i f) τ := by
  refine List.ext_getElem? fun k => ?_
  rw [List.getElem?_set]
  by_cases hk : i = k
  · subst hk
    rw [cW_len]
    by_cases h : i < 79
    · rw [if_pos rfl, if_pos h, cW_at g _ _ h, ← he]
      simp [va_up]
    · rw [if_pos rfl, if_neg h]
      exact (List.getElem?_eq_none (by rw [cW_len]; omega)).symm
  · rw [if_neg hk]
    by_cases h : k < 79
    · rw [cW_at g _ _ h, cW_at g _ _ h]
      simp [va_up, Ne.symm hk]
    · rw [List.getElem?_eq_none (by rw [cW_len]; omega), List.getElem?_eq_none (by rw [cW_len]; omega)]
theorem cW_setL {g : GG} {σ : ZI} {τ : ZL} {i : Nat} {f : Nat → Int64} {e : va_E} (he : eF g i (σ i) f = e) : (cW g σ τ).set i (gA g i, e) = cW g σ (va_up τ i f) := by
  refine List.ext_getElem? fun k => ?_
  rw [List.getElem?_set]
  by_cases hk : i = k
  · subst hk
    rw [cW_len]
    by_cases h : i < 79
    · rw [if_pos rfl, if_pos h, cW_at g _ _ h, ← he]
      simp [va_up]
    · rw [if_pos rfl, if_neg h]
      exact (List.getElem?_eq_none (by rw [cW_len]; omega)).symm
  · rw [if_neg hk]
    by_cases h : k < 79
    · rw [cW_at g _ _ h, cW_at g _ _ h]
      simp [va_up, Ne.symm hk]
    · rw [List.getElem?_eq_none (by rw [cW_len]; omega), List.getElem?_eq_none (by rw [cW_len]; omega)]
/-- nest words and static tables: what the tables say beside the law's own words -/
def isNest : Cond → Bool
  | .methodLinkNest .. => true
  | .fieldLinkNest .. => true
  | _ => false
def NWs (U : State) : Prop := ∀ w ∈ tables_1, isNest w = true → va_Nw w U
theorem NWs.warm {s U : State} (hW : s.WarmedH U.vm) (h : NWs s) : NWs U := by
  intro w hw hn
  have h1 := h w hw hn
  cases w with
  | methodLinkNest a i x b => exact va_Nw.warmM hW h1
  | fieldLinkNest a i b n d x => exact va_Nw.warmF hW h1
  | _ => cases hn
theorem NWs.same {u U : State} (hv : u.vm = U.vm) (h : NWs u) : NWs U := by
  intro w hw hn
  have h1 := h w hw hn
  cases w with
  | methodLinkNest a i x b => exact va_Nw.same rfl hv h1
  | fieldLinkNest a i b n d x => exact va_Nw.same rfl hv h1
  | _ => cases hn
def sAT : List Int32 := [6, 0, 0, 0, 0, 0, 1, 5, 2, 4, 1, 5, 3]
def sLE : List Int32 := [2, 0, 0, 0, 0, 1, 0, 1, 1, 2, 0, 0, 1]
def sMO : List Int32 := [10, 3, 3, 5, 1023, 10, 10, 9, 10, 11, 9, 9, 9]
/-- the static tables: AT_FIRST (100), LEAST (101), MOST (102) -/
def stL (r : Nat) : List Int32 := if r = 100 then sAT else if r = 101 then sLE else sMO
def stN (r : Nat) : String := if r = 100 then "AT_FIRST" else if r = 101 then "LEAST" else "MOST"
def STt (g : GG) (r : Nat) (U : State) (H : Heap) : Prop := va_Z "MailCatch" (stN r) "[I" (.ref (gA g r)) (AA g) U H ∧ va_T .int (gA g r) 13 (fun j => .int ((stL r).getD j 0)) (AA g) U H
def nJS : Nat := 16
def strK : List Nat := [152, 158, 160, 162, 164, 166, 168, 170, 172, 174, 176, 178, 180, 182, 184, 186]
def strT : List String := ["joints", "arm", "mark", "town", "signal", "bridge", "slip", "pace", "net", "cost", "hands", "true", "light", "heavy", "double", "low"]
def lenJS : List Nat := [6, 3, 4, 4, 6, 6, 4, 4, 3, 4, 5, 4, 5, 5, 6, 3]
def bytJS : List (List Int32) := [[106, 111, 105, 110, 116, 115], [97, 114, 109], [109, 97, 114, 107], [116, 111, 119, 110], [115, 105, 103, 110, 97, 108], [98, 114, 105, 100, 103, 101], [115, 108, 105, 112], [112, 97, 99, 101], [110, 101, 116], [99, 111, 115, 116], [104, 97, 110, 100, 115], [116, 114, 117, 101], [108, 105, 103, 104, 116], [104, 101, 97, 118, 121], [100, 111, 117, 98, 108, 101], [108, 111, 119]]
def SR (g : GG) (U : State) : Prop := ∀ i, i < 16 → vk_R "MailCatch$Reader" (strK.getD i 0) (strT.getD i "") (gA g (200 + i)) U
def AM (g : GG) (U : State) (H : Heap) : Prop := NWs U ∧ (STt g 100 U H ∧ STt g 101 U H ∧ STt g 102 U H) ∧ SR g U ∧ vk_S 16 lenJS bytJS (fun i => gA g (200 + i)) (fun i => gA g (300 + i)) (AA g) U H ∧ va_Z "java/lang/String" "COMPACT_STRINGS" "Z" (.int 1) (AA g) U H ∧ va_Zq "jdk/internal/util/Preconditions" "SIOOBE_FORMATTER" "Ljava/util/function/BiFunction;" (AA g) U H
theorem STt.next {g : GG} {r : Nat} {s U : State} {H : Heap} (hv : s.vm.Alike U.vm) (hq : ∀ a : Nat, a < s.heap.size → ¬ AA g a → H[a]? = s.heap[a]?) (h : STt g r s s.heap) : STt g r U H := ⟨(h.1.kept hq).moved hv, (h.2.kept hq).moved hv⟩
theorem AM.next {g : GG} {s U : State} {H : Heap} (hW : s.WarmedH U.vm) (hq : ∀ a : Nat, a < s.heap.size → ¬ AA g a → H[a]? = s.heap[a]?) (h : AM g s s.heap) : AM g U H :=
  ⟨h.1.warm hW, ⟨h.2.1.1.next hW.alike hq, h.2.1.2.1.next hW.alike hq, h.2.1.2.2.next hW.alike hq⟩, fun i hi => (h.2.2.1 i hi).warm hW, (h.2.2.2.1.kept hq).moved hW.alike, (h.2.2.2.2.1.kept hq).moved hW.alike, (h.2.2.2.2.2.kept hq).moved hW.alike⟩
theorem AM.blind {g : GG} {u U : State} {H : Heap} (hv : u.vm = U.vm) (h : AM g u H) : AM g U H := by
  have ha : u.vm.Alike U.vm := hv ▸ Vm.Alike.refl u.vm
  exact ⟨h.1.same hv, ⟨⟨h.2.1.1.1.moved ha, h.2.1.1.2.moved ha⟩, ⟨h.2.1.2.1.1.moved ha, h.2.1.2.1.2.moved ha⟩, ⟨h.2.1.2.2.1.moved ha, h.2.1.2.2.2.moved ha⟩⟩, fun i hi => vk_R.same hv.symm (h.2.2.1 i hi), h.2.2.2.1.moved ha, h.2.2.2.2.1.moved ha, h.2.2.2.2.2.moved ha⟩
abbrev tyW (g : GG) : List (ClassId × FieldType) := [(gC g 0, .byte), (gC g 1, .int), (gC g 2, .long), (gC g 3, .boolean)]
def GD (g : GG) : Prop := (∀ i j : Nat, i < 79 → j < 79 → gA g i = gA g j → i = j) ∧ ∀ i : Nat, i < 79 → gB g ≤ gA g i
def AK (g : GG) (s : State) : Prop := va_K (gD g) vwCl (tyW g) s ∧ GD g ∧ gB g ≤ s.heap.size ∧ AM g s s.heap
def WS (g : GG) (σ : ZI) (τ : ZL) (s : State) (H : Heap) (locs : List Loc) : Prop := va_P (gD g) vwCl (cW g σ τ) H ∧ va_S (AA g) s.heap H locs
def WP (g : GG) (σ : ZI) (τ : ZL) (U : State) : Prop := va_P (gD g) vwCl (cW g σ τ) U.heap ∧ AK g U
def WQ (g : GG) (u : ZI × ZL) (t : State) : Prop := va_P (gD g) vwCl (cW g u.1 u.2) t.heap
theorem GD.D {g : GG} (h : GD g) (σ : ZI) (τ : ZL) : va_D (AA g) (cW g σ τ) := by
  have key : ∀ (k : Nat) (q : Nat × va_E), (cW g σ τ)[k]? = some q → k < 79 ∧ q.1 = gA g k := by
    intro k q hk
    have h1 : k < 79 := by have := (List.getElem?_eq_some_iff.mp hk).1; rwa [cW_len] at this
    rw [cW_at g σ τ h1] at hk
    cases hk
    exact ⟨h1, rfl⟩
  refine ⟨fun i j p q hi hj e => ?_, fun k q hk => ?_⟩
  · obtain ⟨a1, a2⟩ := key i p hi
    obtain ⟨b1, b2⟩ := key j q hj
    exact h.1 i j a1 b1 (by rw [← a2, ← b2]; exact e)
  · obtain ⟨a1, a2⟩ := key k q hk
    show gB g ≤ q.1
    rw [a2]
    exact h.2 k a1
theorem WS.start {g : GG} {σ : ZI} {τ : ZL} {s : State} (h : va_P (gD g) vwCl (cW g σ τ) s.heap) : WS g σ τ s s.heap [] := ⟨h, va_S.rf⟩
theorem WS.next {g : GG} {σ : ZI} {τ : ZL} {s U : State} {H : Heap} {locs : List Loc} (h : WS g σ τ s H locs) (G : AK g s) (hU : U.heap = H) (hW : s.WarmedH U.vm) : WP g σ τ U := by
  subst hU
  exact ⟨h.1, va_K.moved hW.alike G.1, G.2.1, Nat.le_trans G.2.2.1 h.2.1, AM.next hW h.2.2.1 G.2.2.2⟩
theorem WP.blind {g : GG} {σ : ZI} {τ : ZL} (av : List Value) : FrameBlind (va_Pc av (WP g σ τ)) := fun a U g' mk q => ⟨q.1, q.2.1, va_K.moved (u := U) (U := U.calling g' mk a) (Vm.Alike.refl U.vm) q.2.2.1, q.2.2.2.1, q.2.2.2.2.1, AM.blind (u := U) (U := U.calling g' mk a) rfl q.2.2.2.2.2⟩
theorem AK.hA {g : GG} {s : State} (G : AK g s) : ∀ q : Nat, s.heap.size ≤ q → AA g q := fun q h => Nat.le_trans G.2.2.1 h
/-- a start of a method -/
theorem Met_in {l : Launch} {y : MethodName} {bytes : ByteArray} {maxL : Nat} {ret : Option FieldType} {rm : Room} {av : List Value} {g : GG} {σ : ZI} {τ : ZL} {Qc : Array Value → State → Outcome → State → Prop}
    (hy : plainName y.cls = true) (hn : (lg_sl av).length ≤ maxL)
    (body : ∀ (p : Program) (e : Env) (s : State) (m : MethodId) (args : Array Value) (below : List Frame) (meth : Method) (c : Code), CallFix p m c bytes maxL s args TBL y.cls → AK g s → va_P (gD g) vwCl (cW g σ τ) s.heap → meth.sig.returnType = ret → meth.locks = false → ∀ ls : Array Slot, lv_has ls maxL (lv_args 0 av) →
      W p l e rm s m args below meth c s.heap [] 0 0 (MQ below Qc args s 0 0 (AA g)) (F0 m 0 ls [])) : Met l y (.code y bytes maxL ret :: TBL) rm (va_Pc av (WP g σ τ)) Qc 0 0 (AA g) := by
  refine Met.ofW (cc := bytes) (maxL := maxL) (ret := ret) hy rfl ?_
  intro p e s m args below meth c s₁ B hml hv
  obtain ⟨rfl, hP, hK⟩ := hv
  have hts := atoms_spec (ws := .code y bytes maxL ret :: TBL) B.pre
  rw [lg_entry_eq]
  exact body p e s m _ below meth c ⟨B.exec, B.bytes, hml, findClass_of_methodNamed B.named, fun w h => hts w (List.mem_cons_of_mem _ h)⟩ hK hP B.returns B.notSynchronized _ (lv_entry av hn)
