/-! what is known at the start -/
def ap : List Bool → Cond → Cond
  | [], c => c
  | b :: l, c => match c with
    | .and x y => ap l (match b with | false => x | true => y)
    | c => c
theorem ap_ok {args : Array Value} {s : State} : ∀ (l : List Bool) (c : Cond), c.before args s = true → (ap l c).before args s = true := by
  intro l
  induction l with
  | nil => exact fun c h => h
  | cons b l ih =>
    intro c h
    cases c with
    | and x y =>
      rw [Cond.before_and, Bool.and_eq_true] at h
      cases b with
      | false => exact ih x h.1
      | true => exact ih y h.2
    | _ => exact h
theorem at_ {args : Array Value} {s : State} (h : (Cond.and given_1 narrow_1).before args s = true) (l : List Bool) : (ap l (Cond.and given_1 narrow_1)).before args s = true := ap_ok l _ h
theorem li_in {w : Cond} (h : w ∈ tables_1) : w ∈ lw_tbl := List.mem_append_right _ h
theorem nA_ {s : State} : ∀ a : Nat, a < s.heap.size → ¬ s.heap.size ≤ a := fun a h9 => Nat.not_le.mpr h9
set_option maxRecDepth 20000 in
theorem kn_AT_FIRST_e {args : Array Value} {s : State} (h : (Cond.and given_1 narrow_1).before args s = true) : ∀ j : Nat, j < 13 → (Cond.eq (.elem (.static "MailCatch" "AT_FIRST" "[I") (.int (Int32.ofNat j))) (.int (sAT.getD j 0))).before args s = true := fun j hj => match j, hj with
  | 0, _ => at_ h [true, false, false, false, false, false, true, false, true]
  | 1, _ => at_ h [true, false, false, false, false, false, true, true, false]
  | 2, _ => at_ h [true, false, false, false, false, false, true, true, true, false]
  | 3, _ => at_ h [true, false, false, false, false, false, true, true, true, true]
  | 4, _ => at_ h [true, false, false, false, false, true, false, false, false]
  | 5, _ => at_ h [true, false, false, false, false, true, false, false, true]
  | 6, _ => at_ h [true, false, false, false, false, true, false, true, false]
  | 7, _ => at_ h [true, false, false, false, false, true, false, true, true, false]
  | 8, _ => at_ h [true, false, false, false, false, true, false, true, true, true]
  | 9, _ => at_ h [true, false, false, false, false, true, true, false, false]
  | 10, _ => at_ h [true, false, false, false, false, true, true, false, true]
  | 11, _ => at_ h [true, false, false, false, false, true, true, true, false]
  | 12, _ => at_ h [true, false, false, false, false, true, true, true, true, false]
  | k + 13, h9 => absurd h9 (by omega)
set_option maxRecDepth 20000 in
theorem kn_AT_FIRST {args : Array Value} {s : State} (hts : ∀ w ∈ lw_tbl, w.before args s = true) (h : (Cond.and given_1 narrow_1).before args s = true) : ∃ t : Nat, va_Z "MailCatch" "AT_FIRST" "[I" (.ref t) (fun q => s.heap.size ≤ q) s s.heap ∧ va_T .int t 13 (fun j => .int (sAT.getD j 0)) (fun q => s.heap.size ≤ q) s s.heap := by
  obtain ⟨t, h1, h2⟩ := va_Tof (args := args) (s := s) (tm := .static "MailCatch" "AT_FIRST" "[I") (ty := .int) (N := 13) (f := fun j => .int (sAT.getD j 0)) (A := fun q => s.heap.size ≤ q) (by decide) (at_ h [true, false, false, false, false, false, false, true, true]) (va_eqt (at_ h [true, false, false, false, false, false, true, false, false])) (fun j hj => va_eqt (kn_AT_FIRST_e h j hj)) nA_
  exact ⟨t, va_Zref (hts _ (li_in (ts_1 _ (List.mem_of_getElem? (i := 37) rfl)))) (hts _ (li_in (ts_1 _ (List.mem_of_getElem? (i := 1) rfl)))) h1 nA_, h2⟩
set_option maxRecDepth 20000 in
theorem kn_LEAST_e {args : Array Value} {s : State} (h : (Cond.and given_1 narrow_1).before args s = true) : ∀ j : Nat, j < 13 → (Cond.eq (.elem (.static "MailCatch" "LEAST" "[I") (.int (Int32.ofNat j))) (.int (sLE.getD j 0))).before args s = true := fun j hj => match j, hj with
  | 0, _ => at_ h [true, false, false, true, false, false, false, true, true]
  | 1, _ => at_ h [true, false, false, true, false, false, true, false, false]
  | 2, _ => at_ h [true, false, false, true, false, false, true, false, true]
  | 3, _ => at_ h [true, false, false, true, false, false, true, true, false]
  | 4, _ => at_ h [true, false, false, true, false, false, true, true, true, false]
  | 5, _ => at_ h [true, false, false, true, false, false, true, true, true, true]
  | 6, _ => at_ h [true, false, false, true, false, true, false, false, false]
  | 7, _ => at_ h [true, false, false, true, false, true, false, false, true]
  | 8, _ => at_ h [true, false, false, true, false, true, false, true, false]
  | 9, _ => at_ h [true, false, false, true, false, true, false, true, true, false]
  | 10, _ => at_ h [true, false, false, true, false, true, false, true, true, true]
  | 11, _ => at_ h [true, false, false, true, false, true, true, false, false]
  | 12, _ => at_ h [true, false, false, true, false, true, true, false, true]
  | k + 13, h9 => absurd h9 (by omega)
set_option maxRecDepth 20000 in
theorem kn_LEAST {args : Array Value} {s : State} (hts : ∀ w ∈ lw_tbl, w.before args s = true) (h : (Cond.and given_1 narrow_1).before args s = true) : ∃ t : Nat, va_Z "MailCatch" "LEAST" "[I" (.ref t) (fun q => s.heap.size ≤ q) s s.heap ∧ va_T .int t 13 (fun j => .int (sLE.getD j 0)) (fun q => s.heap.size ≤ q) s s.heap := by
  obtain ⟨t, h1, h2⟩ := va_Tof (args := args) (s := s) (tm := .static "MailCatch" "LEAST" "[I") (ty := .int) (N := 13) (f := fun j => .int (sLE.getD j 0)) (A := fun q => s.heap.size ≤ q) (by decide) (at_ h [true, false, false, true, false, false, false, false, true]) (va_eqt (at_ h [true, false, false, true, false, false, false, true, false])) (fun j hj => va_eqt (kn_LEAST_e h j hj)) nA_
  exact ⟨t, va_Zref (hts _ (li_in (ts_2 _ (List.mem_of_getElem? (i := 226) rfl)))) (hts _ (li_in (ts_1 _ (List.mem_of_getElem? (i := 1) rfl)))) h1 nA_, h2⟩
set_option maxRecDepth 20000 in
theorem kn_MOST_e {args : Array Value} {s : State} (h : (Cond.and given_1 narrow_1).before args s = true) : ∀ j : Nat, j < 13 → (Cond.eq (.elem (.static "MailCatch" "MOST" "[I") (.int (Int32.ofNat j))) (.int (sMO.getD j 0))).before args s = true := fun j hj => match j, hj with
  | 0, _ => at_ h [true, false, false, false, true, false, true, true, false]
  | 1, _ => at_ h [true, false, false, false, true, false, true, true, true, false]
  | 2, _ => at_ h [true, false, false, false, true, false, true, true, true, true]
  | 3, _ => at_ h [true, false, false, false, true, true, false, false, false]
  | 4, _ => at_ h [true, false, false, false, true, true, false, false, true]
  | 5, _ => at_ h [true, false, false, false, true, true, false, true, false]
  | 6, _ => at_ h [true, false, false, false, true, true, false, true, true, false]
  | 7, _ => at_ h [true, false, false, false, true, true, false, true, true, true]
  | 8, _ => at_ h [true, false, false, false, true, true, true, false, false]
  | 9, _ => at_ h [true, false, false, false, true, true, true, false, true]
  | 10, _ => at_ h [true, false, false, false, true, true, true, true, false]
  | 11, _ => at_ h [true, false, false, false, true, true, true, true, true, false]
  | 12, _ => at_ h [true, false, false, false, true, true, true, true, true, true]
  | k + 13, h9 => absurd h9 (by omega)
set_option maxRecDepth 20000 in
theorem kn_MOST {args : Array Value} {s : State} (hts : ∀ w ∈ lw_tbl, w.before args s = true) (h : (Cond.and given_1 narrow_1).before args s = true) : ∃ t : Nat, va_Z "MailCatch" "MOST" "[I" (.ref t) (fun q => s.heap.size ≤ q) s s.heap ∧ va_T .int t 13 (fun j => .int (sMO.getD j 0)) (fun q => s.heap.size ≤ q) s s.heap := by
  obtain ⟨t, h1, h2⟩ := va_Tof (args := args) (s := s) (tm := .static "MailCatch" "MOST" "[I") (ty := .int) (N := 13) (f := fun j => .int (sMO.getD j 0)) (A := fun q => s.heap.size ≤ q) (by decide) (at_ h [true, false, false, false, true, false, true, false, false]) (va_eqt (at_ h [true, false, false, false, true, false, true, false, true])) (fun j hj => va_eqt (kn_MOST_e h j hj)) nA_
  exact ⟨t, va_Zref (hts _ (li_in (ts_2 _ (List.mem_of_getElem? (i := 161) rfl)))) (hts _ (li_in (ts_1 _ (List.mem_of_getElem? (i := 1) rfl)))) h1 nA_, h2⟩
def tmS (i : Nat) : Term := .string "MailCatch$Reader" (strK.getD i 0)
set_option maxRecDepth 20000 in
theorem kn_s1 {args : Array Value} {s : State} (h : (Cond.and given_1 narrow_1).before args s = true) : ∀ i : Nat, i < 16 → (Cond.exactly (tmS i) "java/lang/String").before args s = true := fun i hi => match i, hi with
  | 0, _ => at_ h [true, false, false, true, false, true, true, true, false]
  | 1, _ => at_ h [true, false, false, true, true, false, true, true, false]
  | 2, _ => at_ h [true, false, false, true, true, true, true, false, false]
  | 3, _ => at_ h [true, false, true, false, false, false, true, false, true]
  | 4, _ => at_ h [true, false, true, false, false, true, true, true, false]
  | 5, _ => at_ h [true, false, true, false, true, true, false, false, true]
  | 6, _ => at_ h [true, false, true, true, false, false, true, false, true]
  | 7, _ => at_ h [true, false, true, true, true, false, false, false, false]
  | 8, _ => at_ h [true, false, true, true, true, true, true, false, false]
  | 9, _ => at_ h [true, true, false, false, false, true, false, false, true]
  | 10, _ => at_ h [true, true, false, false, true, false, true, true, true, false]
  | 11, _ => at_ h [true, true, false, true, false, false, true, true, true, false]
  | 12, _ => at_ h [true, true, false, true, true, false, true, true, false]
  | 13, _ => at_ h [true, true, true, false, false, false, true, true, true, true]
  | 14, _ => at_ h [true, true, true, false, true, true, false, false, true]
  | 15, _ => at_ h [true, true, true, true, false, true, true, false, false]
  | k + 16, h9 => absurd h9 (by omega)
set_option maxRecDepth 20000 in
theorem kn_s2 {args : Array Value} {s : State} (h : (Cond.and given_1 narrow_1).before args s = true) : ∀ i : Nat, i < 16 → (Cond.eq (.field (tmS i) "java/lang/String" "coder" "B") (.int 0)).before args s = true := fun i hi => match i, hi with
  | 0, _ => at_ h [true, false, false, true, false, true, true, true, true, false]
  | 1, _ => at_ h [true, false, false, true, true, false, true, true, true, false]
  | 2, _ => at_ h [true, false, false, true, true, true, true, false, true]
  | 3, _ => at_ h [true, false, true, false, false, false, true, true, false]
  | 4, _ => at_ h [true, false, true, false, false, true, true, true, true, false]
  | 5, _ => at_ h [true, false, true, false, true, true, false, true, false]
  | 6, _ => at_ h [true, false, true, true, false, false, true, true, false]
  | 7, _ => at_ h [true, false, true, true, true, false, false, false, true]
  | 8, _ => at_ h [true, false, true, true, true, true, true, false, true]
  | 9, _ => at_ h [true, true, false, false, false, true, false, true, false]
  | 10, _ => at_ h [true, true, false, false, true, false, true, true, true, true]
  | 11, _ => at_ h [true, true, false, true, false, false, true, true, true, true]
  | 12, _ => at_ h [true, true, false, true, true, false, true, true, true, false]
  | 13, _ => at_ h [true, true, true, false, false, true, false, false, false]
  | 14, _ => at_ h [true, true, true, false, true, true, false, true, false]
  | 15, _ => at_ h [true, true, true, true, false, true, true, false, true]
  | k + 16, h9 => absurd h9 (by omega)
set_option maxRecDepth 20000 in
theorem kn_s3 {args : Array Value} {s : State} (h : (Cond.and given_1 narrow_1).before args s = true) : ∀ i : Nat, i < 16 → (Cond.arrayOf (.field (tmS i) "java/lang/String" "value" "[B") .byte).before args s = true := fun i hi => match i, hi with
  | 0, _ => at_ h [true, false, false, true, false, true, true, true, true, true]
  | 1, _ => at_ h [true, false, false, true, true, false, true, true, true, true]
  | 2, _ => at_ h [true, false, false, true, true, true, true, true, false]
  | 3, _ => at_ h [true, false, true, false, false, false, true, true, true, false]
  | 4, _ => at_ h [true, false, true, false, false, true, true, true, true, true]
  | 5, _ => at_ h [true, false, true, false, true, true, false, true, true, false]
  | 6, _ => at_ h [true, false, true, true, false, false, true, true, true, false]
  | 7, _ => at_ h [true, false, true, true, true, false, false, true, false]
  | 8, _ => at_ h [true, false, true, true, true, true, true, true, false]
  | 9, _ => at_ h [true, true, false, false, false, true, false, true, true, false]
  | 10, _ => at_ h [true, true, false, false, true, true, false, false, false]
  | 11, _ => at_ h [true, true, false, true, false, true, false, false, false]
  | 12, _ => at_ h [true, true, false, true, true, false, true, true, true, true]
  | 13, _ => at_ h [true, true, true, false, false, true, false, false, true]
  | 14, _ => at_ h [true, true, true, false, true, true, false, true, true, false]
  | 15, _ => at_ h [true, true, true, true, false, true, true, true, false]
  | k + 16, h9 => absurd h9 (by omega)
set_option maxRecDepth 20000 in
theorem kn_s4 {args : Array Value} {s : State} (h : (Cond.and given_1 narrow_1).before args s = true) : ∀ i : Nat, i < 16 → (Cond.eq (.length (.field (tmS i) "java/lang/String" "value" "[B")) (.int (Int32.ofNat (lenJS.getD i 0)))).before args s = true := fun i hi => match i, hi with
  | 0, _ => at_ h [true, false, false, true, true, false, false, false, false]
  | 1, _ => at_ h [true, false, false, true, true, true, false, false, false]
  | 2, _ => at_ h [true, false, false, true, true, true, true, true, true, false]
  | 3, _ => at_ h [true, false, true, false, false, false, true, true, true, true]
  | 4, _ => at_ h [true, false, true, false, true, false, false, false, false]
  | 5, _ => at_ h [true, false, true, false, true, true, false, true, true, true]
  | 6, _ => at_ h [true, false, true, true, false, false, true, true, true, true]
  | 7, _ => at_ h [true, false, true, true, true, false, false, true, true, false]
  | 8, _ => at_ h [true, false, true, true, true, true, true, true, true, false]
  | 9, _ => at_ h [true, true, false, false, false, true, false, true, true, true]
  | 10, _ => at_ h [true, true, false, false, true, true, false, false, true]
  | 11, _ => at_ h [true, true, false, true, false, true, false, false, true]
  | 12, _ => at_ h [true, true, false, true, true, true, false, false, false]
  | 13, _ => at_ h [true, true, true, false, false, true, false, true, false]
  | 14, _ => at_ h [true, true, true, false, true, true, false, true, true, true]
  | 15, _ => at_ h [true, true, true, true, false, true, true, true, true, false]
  | k + 16, h9 => absurd h9 (by omega)
set_option maxRecDepth 20000 in
theorem kn_s5_0 {args : Array Value} {s : State} (h : (Cond.and given_1 narrow_1).before args s = true) : ∀ j : Nat, j < 6 → (Cond.eq (.elem (.field (tmS 0) "java/lang/String" "value" "[B") (.int (Int32.ofNat j))) (.int ((bytJS.getD 0 []).getD j 0))).before args s = true := fun j hj => match j, hj with
  | 0, _ => at_ h [true, false, false, true, true, false, false, false, true]
  | 1, _ => at_ h [true, false, false, true, true, false, false, true, false]
  | 2, _ => at_ h [true, false, false, true, true, false, false, true, true, false]
  | 3, _ => at_ h [true, false, false, true, true, false, false, true, true, true]
  | 4, _ => at_ h [true, false, false, true, true, false, true, false, false]
  | 5, _ => at_ h [true, false, false, true, true, false, true, false, true]
  | k + 6, h9 => absurd h9 (by omega)
set_option maxRecDepth 20000 in
theorem kn_s5_1 {args : Array Value} {s : State} (h : (Cond.and given_1 narrow_1).before args s = true) : ∀ j : Nat, j < 3 → (Cond.eq (.elem (.field (tmS 1) "java/lang/String" "value" "[B") (.int (Int32.ofNat j))) (.int ((bytJS.getD 1 []).getD j 0))).before args s = true := fun j hj => match j, hj with
  | 0, _ => at_ h [true, false, false, true, true, true, false, false, true]
  | 1, _ => at_ h [true, false, false, true, true, true, false, true, false]
  | 2, _ => at_ h [true, false, false, true, true, true, false, true, true, false]
  | k + 3, h9 => absurd h9 (by omega)
set_option maxRecDepth 20000 in
theorem kn_s5_2 {args : Array Value} {s : State} (h : (Cond.and given_1 narrow_1).before args s = true) : ∀ j : Nat, j < 4 → (Cond.eq (.elem (.field (tmS 2) "java/lang/String" "value" "[B") (.int (Int32.ofNat j))) (.int ((bytJS.getD 2 []).getD j 0))).before args s = true := fun j hj => match j, hj with
  | 0, _ => at_ h [true, false, false, true, true, true, true, true, true, true]
  | 1, _ => at_ h [true, false, true, false, false, false, false, false, false]
  | 2, _ => at_ h [true, false, true, false, false, false, false, false, true]
  | 3, _ => at_ h [true, false, true, false, false, false, false, true, false]
  | k + 4, h9 => absurd h9 (by omega)
set_option maxRecDepth 20000 in
theorem kn_s5_3 {args : Array Value} {s : State} (h : (Cond.and given_1 narrow_1).before args s = true) : ∀ j : Nat, j < 4 → (Cond.eq (.elem (.field (tmS 3) "java/lang/String" "value" "[B") (.int (Int32.ofNat j))) (.int ((bytJS.getD 3 []).getD j 0))).before args s = true := fun j hj => match j, hj with
  | 0, _ => at_ h [true, false, true, false, false, true, false, false, false]
  | 1, _ => at_ h [true, false, true, false, false, true, false, false, true]
  | 2, _ => at_ h [true, false, true, false, false, true, false, true, false]
  | 3, _ => at_ h [true, false, true, false, false, true, false, true, true, false]
  | k + 4, h9 => absurd h9 (by omega)
set_option maxRecDepth 20000 in
theorem kn_s5_4 {args : Array Value} {s : State} (h : (Cond.and given_1 narrow_1).before args s = true) : ∀ j : Nat, j < 6 → (Cond.eq (.elem (.field (tmS 4) "java/lang/String" "value" "[B") (.int (Int32.ofNat j))) (.int ((bytJS.getD 4 []).getD j 0))).before args s = true := fun j hj => match j, hj with
  | 0, _ => at_ h [true, false, true, false, true, false, false, false, true]
  | 1, _ => at_ h [true, false, true, false, true, false, false, true, false]
  | 2, _ => at_ h [true, false, true, false, true, false, false, true, true, false]
  | 3, _ => at_ h [true, false, true, false, true, false, false, true, true, true]
  | 4, _ => at_ h [true, false, true, false, true, false, true, false, false]
  | 5, _ => at_ h [true, false, true, false, true, false, true, false, true]
  | k + 6, h9 => absurd h9 (by omega)
set_option maxRecDepth 20000 in
theorem kn_s5_5 {args : Array Value} {s : State} (h : (Cond.and given_1 narrow_1).before args s = true) : ∀ j : Nat, j < 6 → (Cond.eq (.elem (.field (tmS 5) "java/lang/String" "value" "[B") (.int (Int32.ofNat j))) (.int ((bytJS.getD 5 []).getD j 0))).before args s = true := fun j hj => match j, hj with
  | 0, _ => at_ h [true, false, true, false, true, true, true, false, false]
  | 1, _ => at_ h [true, false, true, false, true, true, true, false, true]
  | 2, _ => at_ h [true, false, true, false, true, true, true, true, false]
  | 3, _ => at_ h [true, false, true, false, true, true, true, true, true, false]
  | 4, _ => at_ h [true, false, true, false, true, true, true, true, true, true]
  | 5, _ => at_ h [true, false, true, true, false, false, false, false, false]
  | k + 6, h9 => absurd h9 (by omega)
set_option maxRecDepth 20000 in
theorem kn_s5_6 {args : Array Value} {s : State} (h : (Cond.and given_1 narrow_1).before args s = true) : ∀ j : Nat, j < 4 → (Cond.eq (.elem (.field (tmS 6) "java/lang/String" "value" "[B") (.int (Int32.ofNat j))) (.int ((bytJS.getD 6 []).getD j 0))).before args s = true := fun j hj => match j, hj with
  | 0, _ => at_ h [true, false, true, true, false, true, false, false, false]
  | 1, _ => at_ h [true, false, true, true, false, true, false, false, true]
  | 2, _ => at_ h [true, false, true, true, false, true, false, true, false]
  | 3, _ => at_ h [true, false, true, true, false, true, false, true, true, false]
  | k + 4, h9 => absurd h9 (by omega)
set_option maxRecDepth 20000 in
theorem kn_s5_7 {args : Array Value} {s : State} (h : (Cond.and given_1 narrow_1).before args s = true) : ∀ j : Nat, j < 4 → (Cond.eq (.elem (.field (tmS 7) "java/lang/String" "value" "[B") (.int (Int32.ofNat j))) (.int ((bytJS.getD 7 []).getD j 0))).before args s = true := fun j hj => match j, hj with
  | 0, _ => at_ h [true, false, true, true, true, false, false, true, true, true]
  | 1, _ => at_ h [true, false, true, true, true, false, true, false, false]
  | 2, _ => at_ h [true, false, true, true, true, false, true, false, true]
  | 3, _ => at_ h [true, false, true, true, true, false, true, true, false]
  | k + 4, h9 => absurd h9 (by omega)
set_option maxRecDepth 20000 in
theorem kn_s5_8 {args : Array Value} {s : State} (h : (Cond.and given_1 narrow_1).before args s = true) : ∀ j : Nat, j < 3 → (Cond.eq (.elem (.field (tmS 8) "java/lang/String" "value" "[B") (.int (Int32.ofNat j))) (.int ((bytJS.getD 8 []).getD j 0))).before args s = true := fun j hj => match j, hj with
  | 0, _ => at_ h [true, false, true, true, true, true, true, true, true, true]
  | 1, _ => at_ h [true, true, false, false, false, false, false, false, false]
  | 2, _ => at_ h [true, true, false, false, false, false, false, false, true]
  | k + 3, h9 => absurd h9 (by omega)
set_option maxRecDepth 20000 in
theorem kn_s5_9 {args : Array Value} {s : State} (h : (Cond.and given_1 narrow_1).before args s = true) : ∀ j : Nat, j < 4 → (Cond.eq (.elem (.field (tmS 9) "java/lang/String" "value" "[B") (.int (Int32.ofNat j))) (.int ((bytJS.getD 9 []).getD j 0))).before args s = true := fun j hj => match j, hj with
  | 0, _ => at_ h [true, true, false, false, false, true, true, false, false]
  | 1, _ => at_ h [true, true, false, false, false, true, true, false, true]
  | 2, _ => at_ h [true, true, false, false, false, true, true, true, false]
  | 3, _ => at_ h [true, true, false, false, false, true, true, true, true, false]
  | k + 4, h9 => absurd h9 (by omega)
set_option maxRecDepth 20000 in
theorem kn_s5_10 {args : Array Value} {s : State} (h : (Cond.and given_1 narrow_1).before args s = true) : ∀ j : Nat, j < 5 → (Cond.eq (.elem (.field (tmS 10) "java/lang/String" "value" "[B") (.int (Int32.ofNat j))) (.int ((bytJS.getD 10 []).getD j 0))).before args s = true := fun j hj => match j, hj with
  | 0, _ => at_ h [true, true, false, false, true, true, false, true, false]
  | 1, _ => at_ h [true, true, false, false, true, true, false, true, true, false]
  | 2, _ => at_ h [true, true, false, false, true, true, false, true, true, true]
  | 3, _ => at_ h [true, true, false, false, true, true, true, false, false]
  | 4, _ => at_ h [true, true, false, false, true, true, true, false, true]
  | k + 5, h9 => absurd h9 (by omega)
set_option maxRecDepth 20000 in
theorem kn_s5_11 {args : Array Value} {s : State} (h : (Cond.and given_1 narrow_1).before args s = true) : ∀ j : Nat, j < 4 → (Cond.eq (.elem (.field (tmS 11) "java/lang/String" "value" "[B") (.int (Int32.ofNat j))) (.int ((bytJS.getD 11 []).getD j 0))).before args s = true := fun j hj => match j, hj with
  | 0, _ => at_ h [true, true, false, true, false, true, false, true, false]
  | 1, _ => at_ h [true, true, false, true, false, true, false, true, true, false]
  | 2, _ => at_ h [true, true, false, true, false, true, false, true, true, true]
  | 3, _ => at_ h [true, true, false, true, false, true, true, false, false]
  | k + 4, h9 => absurd h9 (by omega)
set_option maxRecDepth 20000 in
theorem kn_s5_12 {args : Array Value} {s : State} (h : (Cond.and given_1 narrow_1).before args s = true) : ∀ j : Nat, j < 5 → (Cond.eq (.elem (.field (tmS 12) "java/lang/String" "value" "[B") (.int (Int32.ofNat j))) (.int ((bytJS.getD 12 []).getD j 0))).before args s = true := fun j hj => match j, hj with
  | 0, _ => at_ h [true, true, false, true, true, true, false, false, true]
  | 1, _ => at_ h [true, true, false, true, true, true, false, true, false]
  | 2, _ => at_ h [true, true, false, true, true, true, false, true, true, false]
  | 3, _ => at_ h [true, true, false, true, true, true, false, true, true, true]
  | 4, _ => at_ h [true, true, false, true, true, true, true, false, false]
  | k + 5, h9 => absurd h9 (by omega)
set_option maxRecDepth 20000 in
theorem kn_s5_13 {args : Array Value} {s : State} (h : (Cond.and given_1 narrow_1).before args s = true) : ∀ j : Nat, j < 5 → (Cond.eq (.elem (.field (tmS 13) "java/lang/String" "value" "[B") (.int (Int32.ofNat j))) (.int ((bytJS.getD 13 []).getD j 0))).before args s = true := fun j hj => match j, hj with
  | 0, _ => at_ h [true, true, true, false, false, true, false, true, true, false]
  | 1, _ => at_ h [true, true, true, false, false, true, false, true, true, true]
  | 2, _ => at_ h [true, true, true, false, false, true, true, false, false]
  | 3, _ => at_ h [true, true, true, false, false, true, true, false, true]
  | 4, _ => at_ h [true, true, true, false, false, true, true, true, false]
  | k + 5, h9 => absurd h9 (by omega)
set_option maxRecDepth 20000 in
theorem kn_s5_14 {args : Array Value} {s : State} (h : (Cond.and given_1 narrow_1).before args s = true) : ∀ j : Nat, j < 6 → (Cond.eq (.elem (.field (tmS 14) "java/lang/String" "value" "[B") (.int (Int32.ofNat j))) (.int ((bytJS.getD 14 []).getD j 0))).before args s = true := fun j hj => match j, hj with
  | 0, _ => at_ h [true, true, true, false, true, true, true, false, false]
  | 1, _ => at_ h [true, true, true, false, true, true, true, false, true]
  | 2, _ => at_ h [true, true, true, false, true, true, true, true, false]
  | 3, _ => at_ h [true, true, true, false, true, true, true, true, true, false]
  | 4, _ => at_ h [true, true, true, false, true, true, true, true, true, true]
  | 5, _ => at_ h [true, true, true, true, false, false, false, false, false]
  | k + 6, h9 => absurd h9 (by omega)
set_option maxRecDepth 20000 in
theorem kn_s5_15 {args : Array Value} {s : State} (h : (Cond.and given_1 narrow_1).before args s = true) : ∀ j : Nat, j < 3 → (Cond.eq (.elem (.field (tmS 15) "java/lang/String" "value" "[B") (.int (Int32.ofNat j))) (.int ((bytJS.getD 15 []).getD j 0))).before args s = true := fun j hj => match j, hj with
  | 0, _ => at_ h [true, true, true, true, false, true, true, true, true, true]
  | 1, _ => at_ h [true, true, true, true, true, false, false, false, false]
  | 2, _ => at_ h [true, true, true, true, true, false, false, false, true]
  | k + 3, h9 => absurd h9 (by omega)
set_option maxRecDepth 20000 in
theorem kn_s5 {args : Array Value} {s : State} (h : (Cond.and given_1 narrow_1).before args s = true) : ∀ i : Nat, i < 16 → ∀ j : Nat, j < lenJS.getD i 0 → (Cond.eq (.elem (.field (tmS i) "java/lang/String" "value" "[B") (.int (Int32.ofNat j))) (.int ((bytJS.getD i []).getD j 0))).before args s = true := fun i hi => match i, hi with
  | 0, _ => kn_s5_0 h
  | 1, _ => kn_s5_1 h
  | 2, _ => kn_s5_2 h
  | 3, _ => kn_s5_3 h
  | 4, _ => kn_s5_4 h
  | 5, _ => kn_s5_5 h
  | 6, _ => kn_s5_6 h
  | 7, _ => kn_s5_7 h
  | 8, _ => kn_s5_8 h
  | 9, _ => kn_s5_9 h
  | 10, _ => kn_s5_10 h
  | 11, _ => kn_s5_11 h
  | 12, _ => kn_s5_12 h
  | 13, _ => kn_s5_13 h
  | 14, _ => kn_s5_14 h
  | 15, _ => kn_s5_15 h
  | k + 16, h9 => absurd h9 (by omega)
set_option maxRecDepth 20000 in
theorem kn_s6_1 {args : Array Value} {s : State} (h : (Cond.and given_1 narrow_1).before args s = true) : ∀ k : Nat, k < 1 → (Cond.not (.eq (tmS k) (tmS 1))).before args s = true := fun k hk => match k, hk with
  | 0, _ => at_ h [true, false, false, true, true, true, false, true, true, true]
  | k + 1, h9 => absurd h9 (by omega)
set_option maxRecDepth 20000 in
theorem kn_s6_2 {args : Array Value} {s : State} (h : (Cond.and given_1 narrow_1).before args s = true) : ∀ k : Nat, k < 2 → (Cond.not (.eq (tmS k) (tmS 2))).before args s = true := fun k hk => match k, hk with
  | 0, _ => at_ h [true, false, true, false, false, false, false, true, true]
  | 1, _ => at_ h [true, false, true, false, false, false, true, false, false]
  | k + 2, h9 => absurd h9 (by omega)
set_option maxRecDepth 20000 in
theorem kn_s6_3 {args : Array Value} {s : State} (h : (Cond.and given_1 narrow_1).before args s = true) : ∀ k : Nat, k < 3 → (Cond.not (.eq (tmS k) (tmS 3))).before args s = true := fun k hk => match k, hk with
  | 0, _ => at_ h [true, false, true, false, false, true, false, true, true, true]
  | 1, _ => at_ h [true, false, true, false, false, true, true, false, false]
  | 2, _ => at_ h [true, false, true, false, false, true, true, false, true]
  | k + 3, h9 => absurd h9 (by omega)
set_option maxRecDepth 20000 in
theorem kn_s6_4 {args : Array Value} {s : State} (h : (Cond.and given_1 narrow_1).before args s = true) : ∀ k : Nat, k < 4 → (Cond.not (.eq (tmS k) (tmS 4))).before args s = true := fun k hk => match k, hk with
  | 0, _ => at_ h [true, false, true, false, true, false, true, true, false]
  | 1, _ => at_ h [true, false, true, false, true, false, true, true, true, false]
  | 2, _ => at_ h [true, false, true, false, true, false, true, true, true, true]
  | 3, _ => at_ h [true, false, true, false, true, true, false, false, false]
  | k + 4, h9 => absurd h9 (by omega)
set_option maxRecDepth 20000 in
theorem kn_s6_5 {args : Array Value} {s : State} (h : (Cond.and given_1 narrow_1).before args s = true) : ∀ k : Nat, k < 5 → (Cond.not (.eq (tmS k) (tmS 5))).before args s = true := fun k hk => match k, hk with
  | 0, _ => at_ h [true, false, true, true, false, false, false, false, true]
  | 1, _ => at_ h [true, false, true, true, false, false, false, true, false]
  | 2, _ => at_ h [true, false, true, true, false, false, false, true, true, false]
  | 3, _ => at_ h [true, false, true, true, false, false, false, true, true, true]
  | 4, _ => at_ h [true, false, true, true, false, false, true, false, false]
  | k + 5, h9 => absurd h9 (by omega)
set_option maxRecDepth 20000 in
theorem kn_s6_6 {args : Array Value} {s : State} (h : (Cond.and given_1 narrow_1).before args s = true) : ∀ k : Nat, k < 6 → (Cond.not (.eq (tmS k) (tmS 6))).before args s = true := fun k hk => match k, hk with
  | 0, _ => at_ h [true, false, true, true, false, true, false, true, true, true]
  | 1, _ => at_ h [true, false, true, true, false, true, true, false, false]
  | 2, _ => at_ h [true, false, true, true, false, true, true, false, true]
  | 3, _ => at_ h [true, false, true, true, false, true, true, true, false]
  | 4, _ => at_ h [true, false, true, true, false, true, true, true, true, false]
  | 5, _ => at_ h [true, false, true, true, false, true, true, true, true, true]
  | k + 6, h9 => absurd h9 (by omega)
set_option maxRecDepth 20000 in
theorem kn_s6_7 {args : Array Value} {s : State} (h : (Cond.and given_1 narrow_1).before args s = true) : ∀ k : Nat, k < 7 → (Cond.not (.eq (tmS k) (tmS 7))).before args s = true := fun k hk => match k, hk with
  | 0, _ => at_ h [true, false, true, true, true, false, true, true, true, false]
  | 1, _ => at_ h [true, false, true, true, true, false, true, true, true, true]
  | 2, _ => at_ h [true, false, true, true, true, true, false, false, false]
  | 3, _ => at_ h [true, false, true, true, true, true, false, false, true]
  | 4, _ => at_ h [true, false, true, true, true, true, false, true, false]
  | 5, _ => at_ h [true, false, true, true, true, true, false, true, true, false]
  | 6, _ => at_ h [true, false, true, true, true, true, false, true, true, true]
  | k + 7, h9 => absurd h9 (by omega)
set_option maxRecDepth 20000 in
theorem kn_s6_8 {args : Array Value} {s : State} (h : (Cond.and given_1 narrow_1).before args s = true) : ∀ k : Nat, k < 8 → (Cond.not (.eq (tmS k) (tmS 8))).before args s = true := fun k hk => match k, hk with
  | 0, _ => at_ h [true, true, false, false, false, false, false, true, false]
  | 1, _ => at_ h [true, true, false, false, false, false, false, true, true]
  | 2, _ => at_ h [true, true, false, false, false, false, true, false, false]
  | 3, _ => at_ h [true, true, false, false, false, false, true, false, true]
  | 4, _ => at_ h [true, true, false, false, false, false, true, true, false]
  | 5, _ => at_ h [true, true, false, false, false, false, true, true, true, false]
  | 6, _ => at_ h [true, true, false, false, false, false, true, true, true, true]
  | 7, _ => at_ h [true, true, false, false, false, true, false, false, false]
  | k + 8, h9 => absurd h9 (by omega)
set_option maxRecDepth 20000 in
theorem kn_s6_9 {args : Array Value} {s : State} (h : (Cond.and given_1 narrow_1).before args s = true) : ∀ k : Nat, k < 9 → (Cond.not (.eq (tmS k) (tmS 9))).before args s = true := fun k hk => match k, hk with
  | 0, _ => at_ h [true, true, false, false, false, true, true, true, true, true]
  | 1, _ => at_ h [true, true, false, false, true, false, false, false, false]
  | 2, _ => at_ h [true, true, false, false, true, false, false, false, true]
  | 3, _ => at_ h [true, true, false, false, true, false, false, true, false]
  | 4, _ => at_ h [true, true, false, false, true, false, false, true, true, false]
  | 5, _ => at_ h [true, true, false, false, true, false, false, true, true, true]
  | 6, _ => at_ h [true, true, false, false, true, false, true, false, false]
  | 7, _ => at_ h [true, true, false, false, true, false, true, false, true]
  | 8, _ => at_ h [true, true, false, false, true, false, true, true, false]
  | k + 9, h9 => absurd h9 (by omega)
set_option maxRecDepth 20000 in
theorem kn_s6_10 {args : Array Value} {s : State} (h : (Cond.and given_1 narrow_1).before args s = true) : ∀ k : Nat, k < 10 → (Cond.not (.eq (tmS k) (tmS 10))).before args s = true := fun k hk => match k, hk with
  | 0, _ => at_ h [true, true, false, false, true, true, true, true, false]
  | 1, _ => at_ h [true, true, false, false, true, true, true, true, true, false]
  | 2, _ => at_ h [true, true, false, false, true, true, true, true, true, true]
  | 3, _ => at_ h [true, true, false, true, false, false, false, false, false]
  | 4, _ => at_ h [true, true, false, true, false, false, false, false, true]
  | 5, _ => at_ h [true, true, false, true, false, false, false, true, false]
  | 6, _ => at_ h [true, true, false, true, false, false, false, true, true]
  | 7, _ => at_ h [true, true, false, true, false, false, true, false, false]
  | 8, _ => at_ h [true, true, false, true, false, false, true, false, true]
  | 9, _ => at_ h [true, true, false, true, false, false, true, true, false]
  | k + 10, h9 => absurd h9 (by omega)
set_option maxRecDepth 20000 in
theorem kn_s6_11 {args : Array Value} {s : State} (h : (Cond.and given_1 narrow_1).before args s = true) : ∀ k : Nat, k < 11 → (Cond.not (.eq (tmS k) (tmS 11))).before args s = true := fun k hk => match k, hk with
  | 0, _ => at_ h [true, true, false, true, false, true, true, false, true]
  | 1, _ => at_ h [true, true, false, true, false, true, true, true, false]
  | 2, _ => at_ h [true, true, false, true, false, true, true, true, true, false]
  | 3, _ => at_ h [true, true, false, true, false, true, true, true, true, true]
  | 4, _ => at_ h [true, true, false, true, true, false, false, false, false]
  | 5, _ => at_ h [true, true, false, true, true, false, false, false, true]
  | 6, _ => at_ h [true, true, false, true, true, false, false, true, false]
  | 7, _ => at_ h [true, true, false, true, true, false, false, true, true, false]
  | 8, _ => at_ h [true, true, false, true, true, false, false, true, true, true]
  | 9, _ => at_ h [true, true, false, true, true, false, true, false, false]
  | 10, _ => at_ h [true, true, false, true, true, false, true, false, true]
  | k + 11, h9 => absurd h9 (by omega)
set_option maxRecDepth 20000 in
theorem kn_s6_12 {args : Array Value} {s : State} (h : (Cond.and given_1 narrow_1).before args s = true) : ∀ k : Nat, k < 12 → (Cond.not (.eq (tmS k) (tmS 12))).before args s = true := fun k hk => match k, hk with
  | 0, _ => at_ h [true, true, false, true, true, true, true, false, true]
  | 1, _ => at_ h [true, true, false, true, true, true, true, true, false]
  | 2, _ => at_ h [true, true, false, true, true, true, true, true, true, false]
  | 3, _ => at_ h [true, true, false, true, true, true, true, true, true, true]
  | 4, _ => at_ h [true, true, true, false, false, false, false, false, false]
  | 5, _ => at_ h [true, true, true, false, false, false, false, false, true]
  | 6, _ => at_ h [true, true, true, false, false, false, false, true, false]
  | 7, _ => at_ h [true, true, true, false, false, false, false, true, true]
  | 8, _ => at_ h [true, true, true, false, false, false, true, false, false]
  | 9, _ => at_ h [true, true, true, false, false, false, true, false, true]
  | 10, _ => at_ h [true, true, true, false, false, false, true, true, false]
  | 11, _ => at_ h [true, true, true, false, false, false, true, true, true, false]
  | k + 12, h9 => absurd h9 (by omega)
set_option maxRecDepth 20000 in
theorem kn_s6_13 {args : Array Value} {s : State} (h : (Cond.and given_1 narrow_1).before args s = true) : ∀ k : Nat, k < 13 → (Cond.not (.eq (tmS k) (tmS 13))).before args s = true := fun k hk => match k, hk with
  | 0, _ => at_ h [true, true, true, false, false, true, true, true, true, false]
  | 1, _ => at_ h [true, true, true, false, false, true, true, true, true, true]
  | 2, _ => at_ h [true, true, true, false, true, false, false, false, false]
  | 3, _ => at_ h [true, true, true, false, true, false, false, false, true]
  | 4, _ => at_ h [true, true, true, false, true, false, false, true, false]
  | 5, _ => at_ h [true, true, true, false, true, false, false, true, true, false]
  | 6, _ => at_ h [true, true, true, false, true, false, false, true, true, true]
  | 7, _ => at_ h [true, true, true, false, true, false, true, false, false]
  | 8, _ => at_ h [true, true, true, false, true, false, true, false, true]
  | 9, _ => at_ h [true, true, true, false, true, false, true, true, false]
  | 10, _ => at_ h [true, true, true, false, true, false, true, true, true, false]
  | 11, _ => at_ h [true, true, true, false, true, false, true, true, true, true]
  | 12, _ => at_ h [true, true, true, false, true, true, false, false, false]
  | k + 13, h9 => absurd h9 (by omega)
set_option maxRecDepth 20000 in
theorem kn_s6_14 {args : Array Value} {s : State} (h : (Cond.and given_1 narrow_1).before args s = true) : ∀ k : Nat, k < 14 → (Cond.not (.eq (tmS k) (tmS 14))).before args s = true := fun k hk => match k, hk with
  | 0, _ => at_ h [true, true, true, true, false, false, false, false, true]
  | 1, _ => at_ h [true, true, true, true, false, false, false, true, false]
  | 2, _ => at_ h [true, true, true, true, false, false, false, true, true, false]
  | 3, _ => at_ h [true, true, true, true, false, false, false, true, true, true]
  | 4, _ => at_ h [true, true, true, true, false, false, true, false, false]
  | 5, _ => at_ h [true, true, true, true, false, false, true, false, true]
  | 6, _ => at_ h [true, true, true, true, false, false, true, true, false]
  | 7, _ => at_ h [true, true, true, true, false, false, true, true, true, false]
  | 8, _ => at_ h [true, true, true, true, false, false, true, true, true, true]
  | 9, _ => at_ h [true, true, true, true, false, true, false, false, false]
  | 10, _ => at_ h [true, true, true, true, false, true, false, false, true]
  | 11, _ => at_ h [true, true, true, true, false, true, false, true, false]
  | 12, _ => at_ h [true, true, true, true, false, true, false, true, true, false]
  | 13, _ => at_ h [true, true, true, true, false, true, false, true, true, true]
  | k + 14, h9 => absurd h9 (by omega)
set_option maxRecDepth 20000 in
theorem kn_s6_15 {args : Array Value} {s : State} (h : (Cond.and given_1 narrow_1).before args s = true) : ∀ k : Nat, k < 15 → (Cond.not (.eq (tmS k) (tmS 15))).before args s = true := fun k hk => match k, hk with
  | 0, _ => at_ h [true, true, true, true, true, false, false, true, false]
  | 1, _ => at_ h [true, true, true, true, true, false, false, true, true, false]
  | 2, _ => at_ h [true, true, true, true, true, false, false, true, true, true]
  | 3, _ => at_ h [true, true, true, true, true, false, true, false, false]
  | 4, _ => at_ h [true, true, true, true, true, false, true, false, true]
  | 5, _ => at_ h [true, true, true, true, true, false, true, true, false]
  | 6, _ => at_ h [true, true, true, true, true, false, true, true, true, false]
  | 7, _ => at_ h [true, true, true, true, true, false, true, true, true, true]
  | 8, _ => at_ h [true, true, true, true, true, true, false, false, false]
  | 9, _ => at_ h [true, true, true, true, true, true, false, false, true]
  | 10, _ => at_ h [true, true, true, true, true, true, false, true, false]
  | 11, _ => at_ h [true, true, true, true, true, true, false, true, true, false]
  | 12, _ => at_ h [true, true, true, true, true, true, false, true, true, true]
  | 13, _ => at_ h [true, true, true, true, true, true, true, false, false]
  | 14, _ => at_ h [true, true, true, true, true, true, true, false, true]
  | k + 15, h9 => absurd h9 (by omega)
theorem kn_s6 {args : Array Value} {s : State} (h : (Cond.and given_1 narrow_1).before args s = true) : ∀ i : Nat, i < 16 → ∀ k : Nat, k < i → (Cond.not (.eq (tmS k) (tmS i))).before args s = true := fun i hi => match i, hi with
  | 0, _ => fun k hk => absurd hk (Nat.not_lt_zero k)
  | 1, _ => kn_s6_1 h
  | 2, _ => kn_s6_2 h
  | 3, _ => kn_s6_3 h
  | 4, _ => kn_s6_4 h
  | 5, _ => kn_s6_5 h
  | 6, _ => kn_s6_6 h
  | 7, _ => kn_s6_7 h
  | 8, _ => kn_s6_8 h
  | 9, _ => kn_s6_9 h
  | 10, _ => kn_s6_10 h
  | 11, _ => kn_s6_11 h
  | 12, _ => kn_s6_12 h
  | 13, _ => kn_s6_13 h
  | 14, _ => kn_s6_14 h
  | 15, _ => kn_s6_15 h
  | k + 16, h9 => absurd h9 (by omega)
theorem kn_s7 : ∀ i : Nat, i < 16 → lenJS.getD i 0 < 2 ^ 31 := by decide
theorem kn_S {args : Array Value} {s : State} (h : (Cond.and given_1 narrow_1).before args s = true) : ∃ adK adV : Nat → Nat, vk_S 16 lenJS bytJS adK adV (fun q => s.heap.size ≤ q) s s.heap ∧ ∀ i : Nat, i < 16 → (tmS i).eval args s none [] s = some (.ref (adK i)) := by
  refine vk_Sof (args := args) (s := s) (N := 16) (tm := tmS) (len := lenJS) (byt := bytJS) (A := fun q => s.heap.size ≤ q) kn_s7 (kn_s1 h) (kn_s2 h) (kn_s3 h) (kn_s4 h) (kn_s5 h) (fun i j hi hj hij => ?_) nA_
  rcases Nat.lt_or_gt_of_ne hij with q | q
  · exact Or.inl (kn_s6 h j hj i q)
  · exact Or.inr (kn_s6 h i hi j q)
set_option maxRecDepth 20000 in
theorem kn_R {args : Array Value} {s : State} (hts : ∀ w ∈ lw_tbl, w.before args s = true) {adK : Nat → Nat} (hE : ∀ i : Nat, i < 16 → (tmS i).eval args s none [] s = some (.ref (adK i))) : ∀ i : Nat, i < 16 → vk_R "MailCatch$Reader" (strK.getD i 0) (strT.getD i "") (adK i) s := fun i hi => match i, hi with
  | 0, _ => vk_R.of (hts _ (li_in (ts_2 _ (List.mem_of_getElem? (i := 87) rfl)))) (hE 0 (by decide))
  | 1, _ => vk_R.of (hts _ (li_in (ts_2 _ (List.mem_of_getElem? (i := 140) rfl)))) (hE 1 (by decide))
  | 2, _ => vk_R.of (hts _ (li_in (ts_2 _ (List.mem_of_getElem? (i := 141) rfl)))) (hE 2 (by decide))
  | 3, _ => vk_R.of (hts _ (li_in (ts_2 _ (List.mem_of_getElem? (i := 142) rfl)))) (hE 3 (by decide))
  | 4, _ => vk_R.of (hts _ (li_in (ts_2 _ (List.mem_of_getElem? (i := 143) rfl)))) (hE 4 (by decide))
  | 5, _ => vk_R.of (hts _ (li_in (ts_2 _ (List.mem_of_getElem? (i := 144) rfl)))) (hE 5 (by decide))
  | 6, _ => vk_R.of (hts _ (li_in (ts_2 _ (List.mem_of_getElem? (i := 145) rfl)))) (hE 6 (by decide))
  | 7, _ => vk_R.of (hts _ (li_in (ts_2 _ (List.mem_of_getElem? (i := 146) rfl)))) (hE 7 (by decide))
  | 8, _ => vk_R.of (hts _ (li_in (ts_2 _ (List.mem_of_getElem? (i := 147) rfl)))) (hE 8 (by decide))
  | 9, _ => vk_R.of (hts _ (li_in (ts_2 _ (List.mem_of_getElem? (i := 148) rfl)))) (hE 9 (by decide))
  | 10, _ => vk_R.of (hts _ (li_in (ts_2 _ (List.mem_of_getElem? (i := 149) rfl)))) (hE 10 (by decide))
  | 11, _ => vk_R.of (hts _ (li_in (ts_2 _ (List.mem_of_getElem? (i := 171) rfl)))) (hE 11 (by decide))
  | 12, _ => vk_R.of (hts _ (li_in (ts_2 _ (List.mem_of_getElem? (i := 172) rfl)))) (hE 12 (by decide))
  | 13, _ => vk_R.of (hts _ (li_in (ts_2 _ (List.mem_of_getElem? (i := 173) rfl)))) (hE 13 (by decide))
  | 14, _ => vk_R.of (hts _ (li_in (ts_2 _ (List.mem_of_getElem? (i := 174) rfl)))) (hE 14 (by decide))
  | 15, _ => vk_R.of (hts _ (li_in (ts_2 _ (List.mem_of_getElem? (i := 175) rfl)))) (hE 15 (by decide))
  | k + 16, h9 => absurd h9 (by omega)
set_option maxRecDepth 20000 in
theorem kn_C {args : Array Value} {s : State} (hts : ∀ w ∈ lw_tbl, w.before args s = true) (h : (Cond.and given_1 narrow_1).before args s = true) : va_Z "java/lang/String" "COMPACT_STRINGS" "Z" (.int 1) (fun q => s.heap.size ≤ q) s s.heap := va_Zof (hts _ (li_in (ts_2 _ (List.mem_of_getElem? (i := 101) rfl)))) (hts _ (li_in (ts_1 _ (List.mem_of_getElem? (i := 11) rfl)))) (va_eqi (at_ h [true, false, false, false, false, true, true, true, true, true])) nA_
set_option maxRecDepth 20000 in
theorem kn_F {args : Array Value} {s : State} (hts : ∀ w ∈ lw_tbl, w.before args s = true) (h : (Cond.and given_1 narrow_1).before args s = true) : va_Zq "jdk/internal/util/Preconditions" "SIOOBE_FORMATTER" "Ljava/util/function/BiFunction;" (fun q => s.heap.size ≤ q) s s.heap := va_Zqof (hts _ (li_in (ts_2 _ (List.mem_of_getElem? (i := 117) rfl)))) (hts _ (li_in (ts_1 _ (List.mem_of_getElem? (i := 13) rfl)))) (at_ h [true, false, false, false, true, false, false, false, false]) nA_
theorem kn_N {args : Array Value} {s : State} (hts : ∀ w ∈ lw_tbl, w.before args s = true) : NWs s := by
  intro w hw hn
  have h1 := hts w (li_in hw)
  cases w with
  | methodLinkNest a i x b => exact va_Nw.of rfl h1
  | fieldLinkNest a i b n d x => exact va_Nw.of rfl h1
  | _ => cases hn
theorem kn_a_byte {args : Array Value} {s : State} (h : (Cond.arrayClass .byte).before args s = true) : ∃ cA : ClassId, ArrOfT s cA .byte ∧ va_RA s cA .byte := by
  obtain ⟨cA, kA, comp, h1, h2, h3⟩ := Cond.arrayClass_spec h
  exact ⟨cA, fun n z => ⟨fun k h => (by cases h), kA, h2, comp, h3⟩, h1⟩
theorem kn_a_int {args : Array Value} {s : State} (h : (Cond.arrayClass .int).before args s = true) : ∃ cA : ClassId, ArrOfT s cA .int ∧ va_RA s cA .int := by
  obtain ⟨cA, kA, comp, h1, h2, h3⟩ := Cond.arrayClass_spec h
  exact ⟨cA, fun n z => ⟨fun k h => (by cases h), kA, h2, comp, h3⟩, h1⟩
theorem kn_a_long {args : Array Value} {s : State} (h : (Cond.arrayClass .long).before args s = true) : ∃ cA : ClassId, ArrOfT s cA .long ∧ va_RA s cA .long := by
  obtain ⟨cA, kA, comp, h1, h2, h3⟩ := Cond.arrayClass_spec h
  exact ⟨cA, fun n z => ⟨fun k h => (by cases h), kA, h2, comp, h3⟩, h1⟩
theorem kn_a_boolean {args : Array Value} {s : State} (h : (Cond.arrayClass .boolean).before args s = true) : ∃ cA : ClassId, ArrOfT s cA .boolean ∧ va_RA s cA .boolean := by
  obtain ⟨cA, kA, comp, h1, h2, h3⟩ := Cond.arrayClass_spec h
  exact ⟨cA, fun n z => ⟨fun k h => (by cases h), kA, h2, comp, h3⟩, h1⟩
set_option maxRecDepth 20000 in
theorem tw_cl7 : Cond.classLink RL 7 RX7 ∈ TBL := tb_seg (ts_1 _ (List.mem_of_getElem? (i := 18) rfl)) rfl
set_option maxRecDepth 20000 in
theorem tw_in7 : Cond.instantiable RX7 13 ∈ TBL := tb_seg (ts_1 _ (List.mem_of_getElem? (i := 19) rfl)) rfl
set_option maxRecDepth 20000 in
theorem tw_ml7 : Cond.methodLink RL 9 yX7_init ∈ TBL := tb_seg (ts_1 _ (List.mem_of_getElem? (i := 20) rfl)) rfl
set_option maxRecDepth 20000 in
theorem tw_im7 : Cond.instanceMethod yX7_init ∈ TBL := tb_seg (ts_1 _ (List.mem_of_getElem? (i := 21) rfl)) rfl
set_option maxRecDepth 20000 in
theorem tw_cd7 : Cond.code yX7_init cX7_init 1 none ∈ TBL := tb_seg (ts_1 _ (List.mem_of_getElem? (i := 22) rfl)) rfl
set_option maxRecDepth 20000 in
theorem tw_cl8 : Cond.classLink RL 10 RX8 ∈ TBL := tb_seg (ts_4 _ (List.mem_of_getElem? (i := 200) rfl)) rfl
set_option maxRecDepth 20000 in
theorem tw_in8 : Cond.instantiable RX8 47 ∈ TBL := tb_seg (ts_4 _ (List.mem_of_getElem? (i := 201) rfl)) rfl
set_option maxRecDepth 20000 in
theorem tw_ml8 : Cond.methodLink RL 12 yX8_init ∈ TBL := tb_seg (ts_4 _ (List.mem_of_getElem? (i := 202) rfl)) rfl
set_option maxRecDepth 20000 in
theorem tw_im8 : Cond.instanceMethod yX8_init ∈ TBL := tb_seg (ts_4 _ (List.mem_of_getElem? (i := 203) rfl)) rfl
set_option maxRecDepth 20000 in
theorem tw_cd8 : Cond.code yX8_init cX8_init 1 none ∈ TBL := tb_seg (ts_4 _ (List.mem_of_getElem? (i := 204) rfl)) rfl
theorem kn_K {args : Array Value} {s : State} (hts : ∀ w ∈ lw_tbl, w.before args s = true) : ∃ (dC : Nat → ClassId) (dI : Nat → Nat → Nat), ∀ (k : Nat) (q : vw_C), vwCl[k]? = some q → u_Kn s q.1 q.2.1 q.2.2 (dC k) (dI k) := by
  have htt : ∀ w ∈ TBL, w.before args s = true := fun w h => hts w (TBL_sub w h)
  obtain ⟨c0, iS0, hKn0⟩ := u_known (C := RX0) (T := TX0) (N := 10) (n := 10) htt inX0 (htt _ tb_272)
  obtain ⟨c1, iS1, hKn1⟩ := u_known (C := RX1) (T := TX1) (N := 6) (n := 6) htt inX1 (htt _ tb_247)
  obtain ⟨c2, iS2, hKn2⟩ := u_known (C := RX2) (T := TX2) (N := 5) (n := 5) htt inX2 (htt _ tb_191)
  obtain ⟨c3, iS3, hKn3⟩ := u_known (C := RX3) (T := TX3) (N := 3) (n := 3) htt inX3 (htt _ tb_312)
  obtain ⟨c4, iS4, hKn4⟩ := u_known (C := RX4) (T := TX4) (N := 4) (n := 4) htt inX4 (htt _ tb_329)
  obtain ⟨c5, iS5, hKn5⟩ := u_known (C := RX5) (T := TX5) (N := 5) (n := 5) htt inX5 (htt _ tb_197)
  obtain ⟨c6, iS6, hKn6⟩ := u_known (C := RX6) (T := TX6) (N := 8) (n := 8) htt inX6 (htt _ tb_135)
  obtain ⟨c7, iS7, hKn7⟩ := u_known (C := RX7) (T := TX7) (N := 13) (n := 13) htt inX7 (htt _ tw_in7)
  obtain ⟨c8, iS8, hKn8⟩ := u_known (C := RX8) (T := TX8) (N := 47) (n := 47) htt inX8 (htt _ tw_in8)
  refine ⟨fun k => if k = 0 then c0 else if k = 1 then c1 else if k = 2 then c2 else if k = 3 then c3 else if k = 4 then c4 else if k = 5 then c5 else if k = 6 then c6 else if k = 7 then c7 else c8, fun k => if k = 0 then iS0 else if k = 1 then iS1 else if k = 2 then iS2 else if k = 3 then iS3 else if k = 4 then iS4 else if k = 5 then iS5 else if k = 6 then iS6 else if k = 7 then iS7 else iS8, ?_⟩
  intro k q hq
  match k, hq with
  | 0, hq => cases hq; exact hKn0
  | 1, hq => cases hq; exact hKn1
  | 2, hq => cases hq; exact hKn2
  | 3, hq => cases hq; exact hKn3
  | 4, hq => cases hq; exact hKn4
  | 5, hq => cases hq; exact hKn5
  | 6, hq => cases hq; exact hKn6
  | 7, hq => cases hq; exact hKn7
  | 8, hq => cases hq; exact hKn8
  | k + 9, hq => simp [vwCl] at hq
/-- the addresses -/
def gk (dC : Nat → ClassId) (dI : Nat → Nat → Nat) (cs : Nat → ClassId) (tt aK aV : Nat → Nat) (B : Nat) (q : Nat → Nat) : GG := ((dC, dI), cs, fun i => if i < 79 then q i else if i < 200 then tt i else if i < 300 then aK (i - 200) else aV (i - 300), B)
theorem gk_A {dC : Nat → ClassId} {dI : Nat → Nat → Nat} {cs : Nat → ClassId} {tt aK aV : Nat → Nat} {B : Nat} {q : Nat → Nat} (i : Nat) : gA (gk dC dI cs tt aK aV B q) i = if i < 79 then q i else if i < 200 then tt i else if i < 300 then aK (i - 200) else aV (i - 300) := rfl
theorem vkS_cg {N : Nat} {len : List Nat} {byt : List (List Int32)} {adK adV aK aV : Nat → Nat} {A : Nat → Prop} {U : State} {H : Heap} (h : vk_S N len byt adK adV A U H) (e1 : ∀ i, i < N → aK i = adK i) (e2 : ∀ i, i < N → aV i = adV i) : vk_S N len byt aK aV A U H :=
  ⟨fun i hi => by rw [e1 i hi, e2 i hi]; exact h.1 i hi, fun i j hi hj e => h.2 i j hi hj (by rw [← e1 i hi, ← e1 j hj]; exact e)⟩
theorem kn_all {args : Array Value} {s : State} (hts : ∀ w ∈ lw_tbl, w.before args s = true) (h : (Cond.and given_1 narrow_1).before args s = true) : ∃ (dC : Nat → ClassId) (dI : Nat → Nat → Nat) (cs : Nat → ClassId) (tt aK aV : Nat → Nat), ∀ q : Nat → Nat, va_K (gD (gk dC dI cs tt aK aV s.heap.size q)) vwCl (tyW (gk dC dI cs tt aK aV s.heap.size q)) s ∧ AM (gk dC dI cs tt aK aV s.heap.size q) s s.heap := by
  have htt : ∀ w ∈ TBL, w.before args s = true := fun w h => hts w (TBL_sub w h)
  obtain ⟨dC, dI, hK⟩ := kn_K hts
  obtain ⟨t0, z0, y0⟩ := kn_AT_FIRST hts h
  obtain ⟨t1, z1, y1⟩ := kn_LEAST hts h
  obtain ⟨t2, z2, y2⟩ := kn_MOST hts h
  obtain ⟨aK, aV, hS, hE⟩ := kn_S h
  have hR := kn_R hts hE
  obtain ⟨b0, p0, r0⟩ := kn_a_byte (htt _ tb_223)
  obtain ⟨b1, p1, r1⟩ := kn_a_int (htt _ tb_189)
  obtain ⟨b2, p2, r2⟩ := kn_a_long (htt _ tb_310)
  obtain ⟨b3, p3, r3⟩ := kn_a_boolean (htt _ tb_1176)
  refine ⟨dC, dI, fun k => if k = 0 then b0 else if k = 1 then b1 else if k = 2 then b2 else b3, fun i => if i = 100 then t0 else if i = 101 then t1 else t2, aK, aV, fun q => ⟨⟨hK, ?_⟩, kn_N hts, ⟨⟨z0, y0⟩, ⟨z1, y1⟩, ⟨z2, y2⟩⟩, ?_, ?_, kn_C hts h, kn_F hts h⟩⟩
  · intro k x hx
    match k, hx with
    | 0, hx => cases hx; exact ⟨p0, r0⟩
    | 1, hx => cases hx; exact ⟨p1, r1⟩
    | 2, hx => cases hx; exact ⟨p2, r2⟩
    | 3, hx => cases hx; exact ⟨p3, r3⟩
    | k + 4, hx => simp at hx
  · intro i hi
    rw [gk_A, if_neg (by omega), if_neg (by omega), if_pos (by omega), show 200 + i - 200 = i by omega]
    exact hR i hi
  · refine vkS_cg hS (fun i hi => ?_) (fun i hi => ?_)
    · rw [gk_A, if_neg (by omega), if_neg (by omega), if_pos (by omega), show 200 + i - 200 = i by omega]
    · rw [gk_A, if_neg (by omega), if_neg (by omega), if_neg (by omega), show 300 + i - 300 = i by omega]
