section
abbrev ZI : Type := Nat → Nat → Int32
abbrev ZL : Type := Nat → Nat → Int64
def arL : List (Nat × Nat) := [(10, 0), (11, 0), (1, 13), (1, 3), (1, 3), (1, 3), (1, 3), (1, 3), (1, 5), (1, 5), (11, 0), (1, 13), (1, 3), (1, 3), (1, 3), (1, 3), (1, 3), (1, 5), (1, 5), (11, 0), (1, 13), (1, 3), (1, 3), (1, 3), (1, 3), (1, 3), (1, 5), (1, 5), (11, 0), (1, 13), (1, 3), (1, 3), (1, 3), (1, 3), (1, 3), (1, 5), (1, 5), (12, 0), (0, 160), (13, 0), (14, 0), (15, 0), (2, 11), (2, 11), (2, 11), (2, 11), (2, 11), (2, 11), (2, 11), (2, 11), (2, 11), (16, 0), (1, 6), (1, 6), (17, 0), (1, 4), (1, 4), (1, 4), (1, 160), (1, 5), (18, 0), (1, 90), (1, 6), (1, 3), (1, 5), (1, 2), (1, 18), (1, 6), (1, 3), (1, 5), (1, 2), (1, 160), (1, 17), (1, 72), (1, 12), (3, 2), (1, 4), (1, 4), (1, 160)]
def ar (r : Nat) : Nat × Nat := arL.getD r (99, 0)
def sAT : List Int32 := [6, 0, 0, 0, 0, 0, 1, 5, 2, 4, 1, 5, 3]
def sLE : List Int32 := [2, 0, 0, 0, 0, 1, 0, 1, 1, 2, 0, 0, 1]
def sMO : List Int32 := [10, 3, 3, 5, 1023, 10, 10, 9, 10, 11, 9, 9, 9]
def stL (r : Nat) : List Int32 := if r = 100 then sAT else if r = 101 then sLE else sMO
def lenJS : List Nat := [6, 3, 4, 4, 6, 6, 4, 4, 3, 4, 5, 4, 5, 5, 6, 3]
def bytJS : List (List Int32) := [[106, 111, 105, 110, 116, 115], [97, 114, 109], [109, 97, 114, 107], [116, 111, 119, 110], [115, 105, 103, 110, 97, 108], [98, 114, 105, 100, 103, 101], [115, 108, 105, 112], [112, 97, 99, 101], [110, 101, 116], [99, 111, 115, 116], [104, 97, 110, 100, 115], [116, 114, 117, 101], [108, 105, 103, 104, 116], [104, 101, 97, 118, 121], [100, 111, 117, 98, 108, 101], [108, 111, 119]]
def inB (i : Int32) (n : Nat) : Bool := decide (0 ≤ i.toInt ∧ i.toInt < (n : Int))
def lt_ {α β : Type} (e : α) (f : α → β) : β := f e
theorem bd {α β : Type} {x : Option α} {f : α → Option β} {r : β} (h : x.bind f = some r) : ∃ a, x = some a ∧ f a = some r := Option.bind_eq_some_iff.mp h
theorem ltE {α β : Type} {e : α} {f : α → Option β} {r : β} (h : lt_ e f = some r) : ∃ x, x = e ∧ f x = some r := ⟨e, rfl, h⟩
theorem gd {α : Type} {c : Prop} [Decidable c] {A : Option α} {r : α} (h : (if c then A else none) = some r) : c ∧ A = some r := by
  by_cases hc : c
  · exact ⟨hc, by rw [if_pos hc] at h; exact h⟩
  · rw [if_neg hc] at h; cases h
theorem gn {α : Type} {c : Prop} [Decidable c] {A : Option α} {r : α} (h : (if c then none else A) = some r) : ¬ c ∧ A = some r := by
  by_cases hc : c
  · rw [if_pos hc] at h; cases h
  · exact ⟨hc, by rw [if_neg hc] at h; exact h⟩
theorem ifT {α : Type} {c : Prop} [Decidable c] {A B : α} {r : α} (h : (if c then A else B) = r) (hc : c) : A = r := by rw [if_pos hc] at h; exact h
theorem ifF {α : Type} {c : Prop} [Decidable c] {A B : α} {r : α} (h : (if c then A else B) = r) (hc : ¬ c) : B = r := by rw [if_neg hc] at h; exact h
theorem inB_vp {i : Int32} {n : Nat} (h : inB i n = true) : vp_in i n := vp_in_iff.mpr (of_decide_eq_true h)
def f_X5_add (σ : ZI) (a1 : Int32) : Option (Int32 × ZI) := if (σ 37 1) < 0 then (some ((0 : Int32), σ)) else (if (σ 37 1) < (nI 160) then (if inB (σ 37 1) 160 = true then (lt_ (va_up σ 38 (upd (σ 38) (σ 37 1).toNatClampNeg (vp_nar .byte a1.toInt8.toInt32))) (fun σ1 => lt_ (va_up σ1 37 (upd (σ1 37) 1 ((σ1 37 1) + (1 : Int32)))) (fun σ2 => some ((1 : Int32), σ2)))) else none) else (some ((0 : Int32), σ)))
def f_X7_feed (σ : ZI) (a1 : Int32) : Option (Int32 × ZI) := if a1 < 0 then (some ((-1 : Int32), σ)) else (if a1 ≤ (127 : Int32) then ((f_X5_add σ a1).bind (fun q1 => if q1.1 = 0 then (some ((-3 : Int32), q1.2)) else (some ((q1.2 37 1), q1.2)))) else (some ((-1 : Int32), σ)))
def f_X7_end (σ : ZI) (a1 : Int32) : Option (Int32 × ZI) := if a1 < 0 then (some ((-1 : Int32), σ)) else (if a1 ≤ (σ 37 1) then (lt_ (va_up σ 37 (upd (σ 37) 1 a1)) (fun σ1 => some ((σ 37 1), σ1))) else (some ((-1 : Int32), σ)))
def f_X6_restart (σ : ZI) (b : Nat) : Option (ZI) := if (ar b).1 = 11 then (if (ar (b + 1)).1 = 1 ∧ 13 ≤ (ar (b + 1)).2 then (lt_ (va_up σ (b + 1) (va_cpy (fun j => (stL 100).getD j 0) (σ (b + 1)) 0 0 13)) (fun σ1 => some σ1)) else none) else none
def f_X2_start (σ : ZI) : Option (ZI) := lt_ (va_up σ 37 (upd (σ 37) 2 (0 : Int32))) (fun σ1 => (f_X6_restart σ1 28).bind (fun q2 => lt_ (va_up q2 39 (upd (q2 39) 2 (0 : Int32))) (fun σ3 => lt_ (va_up σ3 39 (upd (σ3 39) 3 (0 : Int32))) (fun σ4 => some σ4))))
def f_X5_byteAt (σ : ZI) (a1 : Int32) : Option (Int32) := if a1 < 0 then (some (-1 : Int32)) else (if (σ 37 1) ≤ a1 then (some (-1 : Int32)) else (if (nI 160) ≤ a1 then (some (-1 : Int32)) else (if inB a1 160 = true then (some (σ 38 a1.toNatClampNeg)) else none)))
def f_X5_kindOf_28 (a1 : Int32)   : Option (Int32) := if a1 = (59 : Int32) then (some (3 : Int32)) else (some (0 : Int32))
def f_X5_kindOf_14 (a1 : Int32)   : Option (Int32) := if a1 < (48 : Int32) then (f_X5_kindOf_28 a1 ) else (if (57 : Int32) < a1 then (f_X5_kindOf_28 a1 ) else (some (2 : Int32)))
def f_X5_kindOf (a1 : Int32) : Option (Int32) := if a1 < (97 : Int32) then (f_X5_kindOf_14 a1 ) else (if (122 : Int32) < a1 then (f_X5_kindOf_14 a1 ) else (some (1 : Int32)))
def f_X5_readToken_136   (σ : ZI) : Option (ZI) := if (σ 37 3) = (2 : Int32) then (if ((σ 37 2) - (σ 37 4)) ≤ (2 : Int32) then (some σ) else (lt_ (va_up σ 37 (upd (σ 37) 3 (0 : Int32))) (fun σ3 => some σ3))) else (some σ)
def f_X5_readToken_123  (k_75 : ZI → Option (ZI)) (σ : ZI) : Option (ZI) := lt_ (va_up σ 37 (upd (σ 37) 2 ((σ 37 2) + (1 : Int32)))) (fun σ6 => k_75 σ6)
def f_X5_readToken_75   : Nat → ZI → Option (ZI)
  | 0, _ => none
  | n + 1, σ => if (σ 37 1) ≤ (σ 37 2) then (f_X5_readToken_136 σ) else ((f_X5_byteAt σ (σ 37 2)).bind (fun q4 => (f_X5_kindOf q4).bind (fun q5 => if q5 = (σ 37 3) then (if (σ 37 3) = (3 : Int32) then (if (σ 37 2) = (σ 37 4) then (f_X5_readToken_123 (fun σ => f_X5_readToken_75 n σ) σ) else (f_X5_readToken_136 σ)) else (f_X5_readToken_123 (fun σ => f_X5_readToken_75 n σ) σ)) else (f_X5_readToken_136 σ))))
def f_X5_readToken_72   (σ : ZI) (s0 : Int32) : Option (ZI) := lt_ (va_up σ 37 (upd (σ 37) 3 s0)) (fun σ2 => f_X5_readToken_75 3000 σ2)
def f_X5_readToken_37   (σ : ZI) : Option (ZI) := lt_ (va_up σ 37 (upd (σ 37) 4 (σ 37 2))) (fun σ1 => if (σ1 37 1) ≤ (σ1 37 2) then (f_X5_readToken_72 σ1 (4 : Int32)) else ((f_X5_byteAt σ1 (σ1 37 2)).bind (fun q7 => (f_X5_kindOf q7).bind (fun q8 => f_X5_readToken_72 σ1 q8))))
def f_X5_readToken_0   : Nat → ZI → Option (ZI)
  | 0, _ => none
  | n + 1, σ => if (σ 37 1) ≤ (σ 37 2) then (f_X5_readToken_37 σ) else ((f_X5_byteAt σ (σ 37 2)).bind (fun q9 => if q9 = (32 : Int32) then (lt_ (va_up σ 37 (upd (σ 37) 2 ((σ 37 2) + (1 : Int32)))) (fun σ10 => f_X5_readToken_0 n σ10)) else (f_X5_readToken_37 σ)))
def f_X5_readToken (σ : ZI) : Option (ZI) := f_X5_readToken_0 3000 σ
def f_X2_refuse (σ : ZI) (a1 : Int32) : Option (Int32 × ZI) := lt_ (va_up σ 39 (upd (σ 39) 3 a1)) (fun σ1 => lt_ (va_up σ1 39 (upd (σ1 39) 4 (σ1 37 4))) (fun σ2 => some ((0 : Int32), σ2)))
def f_X2_takeToken (σ : ZI) : Option (Int32 × ZI) := (f_X5_readToken σ).bind (fun q1 => if (q1 37 3) = 0 then ((f_X2_refuse q1 (1 : Int32)).bind (fun q2 => if q2.1 = 0 then (some ((0 : Int32), q2.2)) else (some ((1 : Int32), q2.2)))) else (some ((1 : Int32), q1)))
def f_J0_coder_7d493 (k : Nat) : Option (Int32) := if k < 16 then (if (1 : Int32) = 0 then (some (1 : Int32)) else (some (0 : Int32))) else none
def f_J0_length_8abf5 (k : Nat) : Option (Int32) := if k < 16 then ((f_J0_coder_7d493 k).bind (fun q1 => some ((nI (lenJS.getD k 0)) >>> (q1 &&& 31)))) else none
def f_J0_isLatin1_aae02 (k : Nat) : Option (Int32) := if k < 16 then (if (1 : Int32) = 0 then (some (0 : Int32)) else (if (0 : Int32) = 0 then (some (1 : Int32)) else (some (0 : Int32)))) else none
def f_J3_checkIndex_8e157 (a1 : Int32) (a2 : Int32) : Option (Int32) := if a1 < 0 then (none) else (if a1 < a2 then (some a1) else (none))
def f_J0_checkIndex_df160 (a1 : Int32) (a2 : Int32) : Option (Unit) := (f_J3_checkIndex_8e157 a1 a2).bind (fun q2 => some ())
def f_J1_charAt_3b067 (k1 : Nat) (a2 : Int32) : Option (Int32) := if k1 < 16 then ((f_J0_checkIndex_df160 a2 (nI (lenJS.getD k1 0))).bind (fun q1 => if inB a2 (lenJS.getD k1 0) = true then (if ((((bytJS.getD k1 []).getD a2.toNatClampNeg 0) &&& (255 : Int32)).toUInt32 % 65536).toInt32 = ((((((bytJS.getD k1 []).getD a2.toNatClampNeg 0) &&& (255 : Int32)).toUInt32 % 65536).toInt32).toUInt32 % 65536).toInt32 then some (((((bytJS.getD k1 []).getD a2.toNatClampNeg 0) &&& (255 : Int32)).toUInt32 % 65536).toInt32) else none) else none)) else none
def f_J0_charAt_5068e (k : Nat) (a1 : Int32) : Option (Int32) := if k < 16 then ((f_J0_isLatin1_aae02 k).bind (fun q1 => if q1 = 0 then (none) else ((f_J1_charAt_3b067 k a1).bind (fun q2 => if q2 = (q2.toUInt32 % 65536).toInt32 then some q2 else none)))) else none
def f_X5_isName_28 (σ : ZI) (k1 : Nat)  : Nat → Int32 → Option (Int32)
  | 0, _ => none
  | n + 1, v2 => (f_J0_length_8abf5 k1).bind (fun q2 => if q2 ≤ v2 then (some (1 : Int32)) else ((f_X5_byteAt σ ((σ 37 4) + v2)).bind (fun q3 => (f_J0_charAt_5068e k1 v2).bind (fun q4 => if q3 = q4 then (f_X5_isName_28 σ k1 n (v2 + (1 : Int32))) else (some (0 : Int32))))))
def f_X5_isName (σ : ZI) (k1 : Nat) : Option (Int32) := if k1 < 16 then (if (σ 37 3) = (1 : Int32) then ((f_J0_length_8abf5 k1).bind (fun q1 => if ((σ 37 2) - (σ 37 4)) = q1 then (f_X5_isName_28 σ k1 3000 (0 : Int32)) else (some (0 : Int32)))) else (some (0 : Int32))) else none
def f_X2_lineNamed (σ : ZI) : Option (Int32) := (f_X5_isName σ 0).bind (fun q1 => if q1 = 0 then ((f_X5_isName σ 1).bind (fun q2 => if q2 = 0 then ((f_X5_isName σ 2).bind (fun q3 => if q3 = 0 then ((f_X5_isName σ 3).bind (fun q4 => if q4 = 0 then ((f_X5_isName σ 4).bind (fun q5 => if q5 = 0 then ((f_X5_isName σ 5).bind (fun q6 => if q6 = 0 then ((f_X5_isName σ 6).bind (fun q7 => if q7 = 0 then ((f_X5_isName σ 7).bind (fun q8 => if q8 = 0 then ((f_X5_isName σ 8).bind (fun q9 => if q9 = 0 then ((f_X5_isName σ 9).bind (fun q10 => if q10 = 0 then ((f_X5_isName σ 10).bind (fun q11 => if q11 = 0 then (some (-4 : Int32)) else (some (12 : Int32)))) else (some (10 : Int32)))) else (some (8 : Int32)))) else (some (7 : Int32)))) else (some (6 : Int32)))) else (some (5 : Int32)))) else (some (4 : Int32)))) else (some (3 : Int32)))) else (some (2 : Int32)))) else (some (1 : Int32)))) else (some (0 : Int32)))
def f_X2_isRowOf (a1 : Int32) : Option (Int32) := if a1 = (1 : Int32) then (some (1 : Int32)) else (if a1 = (2 : Int32) then (some (1 : Int32)) else (if a1 = (3 : Int32) then (some (1 : Int32)) else (some (0 : Int32))))
def f_X7_at (σ : ZI) (r1 : Nat) (a2 : Int32) : Option (Int32) := if (ar r1).1 = 1 then (if a2 < 0 then (some (0 : Int32)) else (if (nI (ar r1).2) ≤ a2 then (some (0 : Int32)) else (if inB a2 (ar r1).2 = true then (some (σ r1 a2.toNatClampNeg)) else none))) else none
def f_X7_atS (r1 : Nat) (a2 : Int32) : Option (Int32) := if r1 = 100 ∨ r1 = 101 ∨ r1 = 102 then (if a2 < 0 then (some (0 : Int32)) else (if (nI 13) ≤ a2 then (some (0 : Int32)) else (if inB a2 13 = true then (some ((stL r1).getD a2.toNatClampNeg 0)) else none))) else none
def f_X6_value (σ : ZI) (b : Nat) (a1 : Int32) : Option (Int32) := if (ar b).1 = 11 then ((f_X7_at σ (b + 1) a1).bind (fun q1 => some q1)) else none
def f_X2_kindNamed (σ : ZI) : Option (Int32) := (f_X5_isName σ 11).bind (fun q1 => if q1 = 0 then ((f_X5_isName σ 12).bind (fun q2 => if q2 = 0 then ((f_X5_isName σ 13).bind (fun q3 => if q3 = 0 then ((f_X5_isName σ 14).bind (fun q4 => if q4 = 0 then ((f_X5_isName σ 15).bind (fun q5 => if q5 = 0 then (some (-4 : Int32)) else (some (4 : Int32)))) else (some (3 : Int32)))) else (some (2 : Int32)))) else (some (1 : Int32)))) else (some (0 : Int32)))
def f_X5_numberRead (σ : ZI) : Option (Int32) := (f_X5_byteAt σ (σ 37 4)).bind (fun q1 => if ((σ 37 2) - (σ 37 4)) = (1 : Int32) then (some (q1 - (48 : Int32))) else ((f_X5_byteAt σ ((σ 37 4) + (1 : Int32))).bind (fun q2 => some ((((10 : Int32) * (q1 - (48 : Int32))) + q2) - (48 : Int32)))))
def f_X2_takeNumber_46 (a1 : Int32) (a2 : Int32)  (σ : ZI) : Option (Int32 × ZI) := (f_X2_refuse σ (3 : Int32)).bind (fun q3 => some ((-1 : Int32), q3.2))
def f_X2_takeNumber (σ : ZI) (a1 : Int32) (a2 : Int32) : Option (Int32 × ZI) := (f_X2_takeToken σ).bind (fun q1 => if q1.1 = 0 then (some ((-1 : Int32), q1.2)) else (if (q1.2 37 3) = (2 : Int32) then ((f_X5_numberRead q1.2).bind (fun q2 => if q2 < a1 then (f_X2_takeNumber_46 a1 a2 q1.2) else (if q2 ≤ a2 then (some (q2, q1.2)) else (f_X2_takeNumber_46 a1 a2 q1.2)))) else ((f_X2_refuse q1.2 (2 : Int32)).bind (fun q4 => some ((-1 : Int32), q4.2)))))
def f_X6_armAt_2 (σ : ZI) (b : Nat) (a1 : Int32)  : Nat → Int32 → Option (Int32)
  | 0, _ => none
  | n + 1, v2 => (f_X6_value σ b (1 : Int32)).bind (fun q1 => if q1 ≤ v2 then (some (-4 : Int32)) else ((f_X7_at σ (b + 3) v2).bind (fun q2 => if q2 = a1 then (some v2) else (f_X6_armAt_2 σ b a1 n (v2 + (1 : Int32))))))
def f_X6_armAt (σ : ZI) (b : Nat) (a1 : Int32) : Option (Int32) := if (ar b).1 = 11 then (f_X6_armAt_2 σ b a1 3000 (0 : Int32)) else none
def f_X7_put (σ : ZI) (r1 : Nat) (a2 : Int32) (a3 : Int32) : Option (ZI) := if (ar r1).1 = 1 then (if a2 < 0 then (some σ) else (if (nI (ar r1).2) ≤ a2 then (some σ) else (if inB a2 (ar r1).2 = true then (lt_ (va_up σ r1 (upd (σ r1) a2.toNatClampNeg a3)) (fun σ1 => some σ1)) else none))) else none
def f_X6_become (σ : ZI) (b : Nat) (a1 : Int32) (a2 : Int32) : Option (ZI) := if (ar b).1 = 11 then ((f_X7_put σ (b + 1) a1 a2).bind (fun q1 => some q1)) else none
def f_X2_readArm (σ : ZI) : Option (Int32 × ZI) := (f_X2_takeToken σ).bind (fun q1 => if q1.1 = 0 then (some ((0 : Int32), q1.2)) else ((f_X2_kindNamed q1.2).bind (fun q2 => if q2 = (-4 : Int32) then ((f_X2_refuse q1.2 (2 : Int32)).bind (fun q12 => if q12.1 = 0 ∨ q12.1 = 1 then some (q12.1, q12.2) else none)) else ((f_X2_takeNumber q1.2 (1 : Int32) (10 : Int32)).bind (fun q3 => if q3.1 = (-1 : Int32) then (some ((0 : Int32), q3.2)) else ((f_X6_armAt q3.2 28 q3.1).bind (fun q4 => if q4 = (-4 : Int32) then ((f_X2_takeNumber q3.2 (0 : Int32) (9 : Int32)).bind (fun q5 => if q5.1 = (-1 : Int32) then (some ((0 : Int32), q5.2)) else ((f_X6_value q5.2 28 (1 : Int32)).bind (fun q6 => (f_X7_put q5.2 30 q6 q2).bind (fun q7 => (f_X7_put q7 31 q6 q3.1).bind (fun q8 => (f_X7_put q8 32 q6 q5.1).bind (fun q9 => (f_X6_become q9 28 (1 : Int32) (q6 + (1 : Int32))).bind (fun q10 => some ((1 : Int32), q10))))))))) else ((f_X2_refuse q3.2 (4 : Int32)).bind (fun q11 => if q11.1 = 0 ∨ q11.1 = 1 then some (q11.1, q11.2) else none)))))))))
def f_X2_takeSign (σ : ZI) : Option (Int32 × ZI) := (f_X2_takeToken σ).bind (fun q1 => if q1.1 = 0 then (some ((0 : Int32), q1.2)) else (if (q1.2 37 3) = (3 : Int32) then (some ((1 : Int32), q1.2)) else ((f_X2_refuse q1.2 (2 : Int32)).bind (fun q2 => if q2.1 = 0 then (some ((0 : Int32), q2.2)) else (some ((1 : Int32), q2.2))))))
def f_X6_markAt_2 (σ : ZI) (b : Nat) (a1 : Int32)  : Nat → Int32 → Option (Int32)
  | 0, _ => none
  | n + 1, v2 => (f_X6_value σ b (2 : Int32)).bind (fun q1 => if q1 ≤ v2 then (some (-4 : Int32)) else ((f_X7_at σ (b + 5) v2).bind (fun q2 => if q2 = a1 then (some v2) else (f_X6_markAt_2 σ b a1 n (v2 + (1 : Int32))))))
def f_X6_markAt (σ : ZI) (b : Nat) (a1 : Int32) : Option (Int32) := if (ar b).1 = 11 then (f_X6_markAt_2 σ b a1 3000 (0 : Int32)) else none
def f_X2_readMark (σ : ZI) : Option (Int32 × ZI) := (f_X2_takeNumber σ (1 : Int32) (10 : Int32)).bind (fun q1 => if q1.1 = (-1 : Int32) then (some ((0 : Int32), q1.2)) else ((f_X6_markAt q1.2 28 q1.1).bind (fun q2 => if q2 = (-4 : Int32) then ((f_X2_takeNumber q1.2 (0 : Int32) (10 : Int32)).bind (fun q3 => if q3.1 = (-1 : Int32) then (some ((0 : Int32), q3.2)) else ((f_X6_value q3.2 28 (2 : Int32)).bind (fun q4 => (f_X7_put q3.2 33 q4 q1.1).bind (fun q5 => (f_X7_put q5 34 q4 q3.1).bind (fun q6 => (f_X6_become q6 28 (2 : Int32) (q4 + (1 : Int32))).bind (fun q7 => some ((1 : Int32), q7)))))))) else ((f_X2_refuse q1.2 (4 : Int32)).bind (fun q8 => if q8.1 = 0 ∨ q8.1 = 1 then some (q8.1, q8.2) else none)))))
def f_X2_readTown (σ : ZI) : Option (Int32 × ZI) := (f_X2_takeNumber σ (0 : Int32) (99 : Int32)).bind (fun q1 => if q1.1 = (-1 : Int32) then (some ((0 : Int32), q1.2)) else ((f_X2_takeNumber q1.2 (0 : Int32) (9 : Int32)).bind (fun q2 => if q2.1 = (-1 : Int32) then (some ((0 : Int32), q2.2)) else ((f_X6_value q2.2 28 (3 : Int32)).bind (fun q3 => (f_X7_put q2.2 35 q3 q1.1).bind (fun q4 => (f_X7_put q4 36 q3 q2.1).bind (fun q5 => (f_X6_become q5 28 (3 : Int32) (q3 + (1 : Int32))).bind (fun q6 => some ((1 : Int32), q6)))))))))
def f_X6_isSignalAt (σ : ZI) (b : Nat) (a1 : Int32) : Option (Int32) := if (ar b).1 = 11 then (if a1 < (1 : Int32) then (some (0 : Int32)) else ((f_X6_value σ b (4 : Int32)).bind (fun q1 => if ((q1 >>> ((a1 - (1 : Int32)) &&& 31)) &&& (1 : Int32)) = (1 : Int32) then (some (1 : Int32)) else (some (0 : Int32))))) else none
def f_X2_readSignal (σ : ZI) : Option (Int32 × ZI) := (f_X2_takeNumber σ (1 : Int32) (10 : Int32)).bind (fun q1 => if q1.1 = (-1 : Int32) then (some ((0 : Int32), q1.2)) else ((f_X6_isSignalAt q1.2 28 q1.1).bind (fun q2 => if q2 = 0 then ((f_X6_value q1.2 28 (4 : Int32)).bind (fun q3 => (f_X6_become q1.2 28 (4 : Int32) (q3 ||| ((1 : Int32) <<< ((q1.1 - (1 : Int32)) &&& 31)))).bind (fun q4 => some ((1 : Int32), q4)))) else ((f_X2_refuse q1.2 (4 : Int32)).bind (fun q5 => if q5.1 = 0 ∨ q5.1 = 1 then some (q5.1, q5.2) else none)))))
def f_X2_readRule_27 (a1 : Int32)  (σ : ZI) (s0 : Int32) : Option (Int32 × ZI) := (f_X7_atS 102 a1).bind (fun q2 => (f_X2_takeNumber σ s0 q2).bind (fun q3 => if q3.1 = (-1 : Int32) then (some ((0 : Int32), q3.2)) else ((f_X6_become q3.2 28 a1 q3.1).bind (fun q4 => some ((1 : Int32), q4)))))
def f_X2_readRule (σ : ZI) (a1 : Int32) : Option (Int32 × ZI) := if a1 = (9 : Int32) then ((f_X6_value σ 28 (8 : Int32)).bind (fun q5 => f_X2_readRule_27 a1 σ (q5 + (1 : Int32)))) else ((f_X7_atS 101 a1).bind (fun q1 => f_X2_readRule_27 a1 σ q1))
def f_X2_readLine_89   (σ : ZI) (v1 : Int32) : Option (Int32 × ZI) := lt_ (va_up σ 39 (upd (σ 39) 2 ((σ 39 2) ||| ((1 : Int32) <<< (v1 &&& 31))))) (fun σ4 => if v1 = (1 : Int32) then ((f_X2_readArm σ4).bind (fun q5 => if q5.1 = 0 then (some ((0 : Int32), q5.2)) else ((f_X2_takeSign q5.2).bind (fun q6 => if q6.1 = 0 then (some ((0 : Int32), q6.2)) else (some ((1 : Int32), q6.2)))))) else (if v1 = (2 : Int32) then ((f_X2_readMark σ4).bind (fun q7 => if q7.1 = 0 then (some ((0 : Int32), q7.2)) else ((f_X2_takeSign q7.2).bind (fun q8 => if q8.1 = 0 then (some ((0 : Int32), q8.2)) else (some ((1 : Int32), q8.2)))))) else (if v1 = (3 : Int32) then ((f_X2_readTown σ4).bind (fun q9 => if q9.1 = 0 then (some ((0 : Int32), q9.2)) else ((f_X2_takeSign q9.2).bind (fun q10 => if q10.1 = 0 then (some ((0 : Int32), q10.2)) else (some ((1 : Int32), q10.2)))))) else (if v1 = (4 : Int32) then ((f_X2_readSignal σ4).bind (fun q11 => if q11.1 = 0 then (some ((0 : Int32), q11.2)) else ((f_X2_takeSign q11.2).bind (fun q12 => if q12.1 = 0 then (some ((0 : Int32), q12.2)) else (some ((1 : Int32), q12.2)))))) else (if v1 = (5 : Int32) then ((f_X2_readRule σ4 v1).bind (fun q13 => if q13.1 = 0 then (some ((0 : Int32), q13.2)) else ((f_X2_takeSign q13.2).bind (fun q14 => if q14.1 = 0 then (some ((0 : Int32), q14.2)) else (some ((1 : Int32), q14.2)))))) else (if v1 = (6 : Int32) then ((f_X2_readRule σ4 v1).bind (fun q15 => if q15.1 = 0 then (some ((0 : Int32), q15.2)) else ((f_X2_takeSign q15.2).bind (fun q16 => if q16.1 = 0 then (some ((0 : Int32), q16.2)) else (some ((1 : Int32), q16.2)))))) else (if v1 = (7 : Int32) then ((f_X2_readRule σ4 v1).bind (fun q17 => if q17.1 = 0 then (some ((0 : Int32), q17.2)) else ((f_X2_takeSign q17.2).bind (fun q18 => if q18.1 = 0 then (some ((0 : Int32), q18.2)) else (some ((1 : Int32), q18.2)))))) else (if v1 = (8 : Int32) then ((f_X2_readRule σ4 (8 : Int32)).bind (fun q19 => if q19.1 = 0 then (some ((0 : Int32), q19.2)) else ((f_X2_readRule q19.2 (9 : Int32)).bind (fun q20 => if q20.1 = 0 then (some ((0 : Int32), q20.2)) else ((f_X2_takeSign q20.2).bind (fun q21 => if q21.1 = 0 then (some ((0 : Int32), q21.2)) else (some ((1 : Int32), q21.2)))))))) else (if v1 = (9 : Int32) then ((f_X2_readRule σ4 v1).bind (fun q22 => if q22.1 = 0 then (some ((0 : Int32), q22.2)) else ((f_X2_takeSign q22.2).bind (fun q23 => if q23.1 = 0 then (some ((0 : Int32), q23.2)) else (some ((1 : Int32), q23.2)))))) else (if v1 = (10 : Int32) then ((f_X2_readRule σ4 (10 : Int32)).bind (fun q24 => if q24.1 = 0 then (some ((0 : Int32), q24.2)) else ((f_X2_readRule q24.2 (11 : Int32)).bind (fun q25 => if q25.1 = 0 then (some ((0 : Int32), q25.2)) else ((f_X2_takeSign q25.2).bind (fun q26 => if q26.1 = 0 then (some ((0 : Int32), q26.2)) else (some ((1 : Int32), q26.2)))))))) else ((f_X2_readRule σ4 v1).bind (fun q27 => if q27.1 = 0 then (some ((0 : Int32), q27.2)) else ((f_X2_takeSign q27.2).bind (fun q28 => if q28.1 = 0 then (some ((0 : Int32), q28.2)) else (some ((1 : Int32), q28.2))))))))))))))))
def f_X2_readLine (σ : ZI) : Option (Int32 × ZI) := (f_X2_takeToken σ).bind (fun q1 => if q1.1 = 0 then (some ((0 : Int32), q1.2)) else (if (q1.2 37 3) = (4 : Int32) then (some ((0 : Int32), q1.2)) else ((f_X2_lineNamed q1.2).bind (fun q2 => if q2 = (-4 : Int32) then ((f_X2_refuse q1.2 (2 : Int32)).bind (fun q33 => if q33.1 = 0 ∨ q33.1 = 1 then some (q33.1, q33.2) else none)) else (if (((5601 : Int32) &&& (q1.2 39 2)) &&& ((1 : Int32) <<< (q2 &&& 31))) = 0 then ((f_X2_isRowOf q2).bind (fun q3 => if q3 = 0 then (f_X2_readLine_89 q1.2 q2) else ((f_X6_value q1.2 28 q2).bind (fun q29 => (f_X7_atS 102 q2).bind (fun q30 => if q29 < q30 then (f_X2_readLine_89 q1.2 q2) else ((f_X2_refuse q1.2 (5 : Int32)).bind (fun q31 => if q31.1 = 0 ∨ q31.1 = 1 then some (q31.1, q31.2) else none))))))) else ((f_X2_refuse q1.2 (4 : Int32)).bind (fun q32 => if q32.1 = 0 ∨ q32.1 = 1 then some (q32.1, q32.2) else none)))))))
def f_X2_isJointMissing_75 (σ : ZI)  : Nat → Int32 → Int32 → Option (Int32)
  | 0, _, _ => none
  | n + 1, v1, v2 => (f_X6_value σ 28 (2 : Int32)).bind (fun q5 => if q5 ≤ v2 then (some (0 : Int32)) else ((f_X7_at σ 33 v2).bind (fun q6 => if q6 ≤ v1 then (f_X2_isJointMissing_75 σ n v1 (v2 + (1 : Int32))) else (some (1 : Int32)))))
def f_X2_isJointMissing_38 (σ : ZI)  : Nat → Int32 → Int32 → Option (Int32)
  | 0, _, _ => none
  | n + 1, v1, v2 => (f_X6_value σ 28 (1 : Int32)).bind (fun q4 => if q4 ≤ v2 then (f_X2_isJointMissing_75 σ 3000 v1 (0 : Int32)) else ((f_X7_at σ 31 v2).bind (fun q7 => if q7 ≤ v1 then (f_X2_isJointMissing_38 σ n v1 (v2 + (1 : Int32))) else (some (1 : Int32)))))
def f_X2_isJointMissing (σ : ZI) : Option (Int32) := (f_X6_value σ 28 (0 : Int32)).bind (fun q1 => (f_X6_value σ 28 (5 : Int32)).bind (fun q2 => if q1 < q2 then (some (1 : Int32)) else ((f_X6_value σ 28 (4 : Int32)).bind (fun q3 => if (q3 >>> (q1 &&& 31)) = 0 then (f_X2_isJointMissing_38 σ 3000 q1 (0 : Int32)) else (some (1 : Int32))))))
def f_X2_finish (σ : ZI) : Option (ZI) := if (σ 39 3) = 0 then ((f_X2_isJointMissing σ).bind (fun q1 => if q1 = 0 then (some σ) else (lt_ (va_up σ 39 (upd (σ 39) 3 (6 : Int32))) (fun σ2 => lt_ (va_up σ2 39 (upd (σ2 39) 4 (σ2 37 1))) (fun σ3 => some σ3))))) else (some σ)
def f_X6_take (σ : ZI) (b : Nat) (b1 : Nat) : Option (ZI) := if (ar b).1 = 11 then (if (ar b1).1 = 11 then (if (ar (b1 + 1)).1 = 1 ∧ (ar (b + 1)).1 = 1 ∧ 13 ≤ (ar (b1 + 1)).2 ∧ 13 ≤ (ar (b + 1)).2 then (lt_ (va_up σ (b + 1) (va_cpy (σ (b1 + 1)) (σ (b + 1)) 0 0 13)) (fun σ1 => if (ar (b1 + 2)).1 = 1 ∧ (ar (b + 2)).1 = 1 ∧ 3 ≤ (ar (b1 + 2)).2 ∧ 3 ≤ (ar (b + 2)).2 then (lt_ (va_up σ1 (b + 2) (va_cpy (σ1 (b1 + 2)) (σ1 (b + 2)) 0 0 3)) (fun σ2 => if (ar (b1 + 3)).1 = 1 ∧ (ar (b + 3)).1 = 1 ∧ 3 ≤ (ar (b1 + 3)).2 ∧ 3 ≤ (ar (b + 3)).2 then (lt_ (va_up σ2 (b + 3) (va_cpy (σ2 (b1 + 3)) (σ2 (b + 3)) 0 0 3)) (fun σ3 => if (ar (b1 + 4)).1 = 1 ∧ (ar (b + 4)).1 = 1 ∧ 3 ≤ (ar (b1 + 4)).2 ∧ 3 ≤ (ar (b + 4)).2 then (lt_ (va_up σ3 (b + 4) (va_cpy (σ3 (b1 + 4)) (σ3 (b + 4)) 0 0 3)) (fun σ4 => if (ar (b1 + 5)).1 = 1 ∧ (ar (b + 5)).1 = 1 ∧ 3 ≤ (ar (b1 + 5)).2 ∧ 3 ≤ (ar (b + 5)).2 then (lt_ (va_up σ4 (b + 5) (va_cpy (σ4 (b1 + 5)) (σ4 (b + 5)) 0 0 3)) (fun σ5 => if (ar (b1 + 6)).1 = 1 ∧ (ar (b + 6)).1 = 1 ∧ 3 ≤ (ar (b1 + 6)).2 ∧ 3 ≤ (ar (b + 6)).2 then (lt_ (va_up σ5 (b + 6) (va_cpy (σ5 (b1 + 6)) (σ5 (b + 6)) 0 0 3)) (fun σ6 => if (ar (b1 + 7)).1 = 1 ∧ (ar (b + 7)).1 = 1 ∧ 5 ≤ (ar (b1 + 7)).2 ∧ 5 ≤ (ar (b + 7)).2 then (lt_ (va_up σ6 (b + 7) (va_cpy (σ6 (b1 + 7)) (σ6 (b + 7)) 0 0 5)) (fun σ7 => if (ar (b1 + 8)).1 = 1 ∧ (ar (b + 8)).1 = 1 ∧ 5 ≤ (ar (b1 + 8)).2 ∧ 5 ≤ (ar (b + 8)).2 then (lt_ (va_up σ7 (b + 8) (va_cpy (σ7 (b1 + 8)) (σ7 (b + 8)) 0 0 5)) (fun σ8 => some σ8)) else none)) else none)) else none)) else none)) else none)) else none)) else none)) else none) else none) else none
def f_X7_text_32   (σ : ZI) (v1 : Int32) : Option (Int32 × ZI) := (f_X2_finish σ).bind (fun q2 => lt_ (va_up q2 37 (upd (q2 37) 1 (0 : Int32))) (fun σ3 => lt_ (va_up σ3 0 (upd (σ3 0) 6 (σ3 39 3))) (fun σ4 => if (σ4 0 6) = 0 then ((f_X6_take σ4 1 28).bind (fun q5 => lt_ (va_up q5 51 (upd (q5 51) 2 (0 : Int32))) (fun σ6 => lt_ (va_up σ6 0 (upd (σ6 0) 3 (0 : Int32))) (fun σ7 => some (v1, σ7))))) else (some (((-10 : Int32) - (σ4 39 4)), σ4)))))
def f_X7_text_9   : Nat → ZI → Int32 → Option (Int32 × ZI)
  | 0, _, _ => none
  | n + 1, σ, v1 => if (160 : Int32) ≤ v1 then (f_X7_text_32 σ v1) else ((f_X2_readLine σ).bind (fun q8 => if q8.1 = 0 then (f_X7_text_32 q8.2 v1) else (f_X7_text_9 n q8.2 (v1 + (1 : Int32)))))
def f_X7_text (σ : ZI) : Option (Int32 × ZI) := (f_X2_start σ).bind (fun q1 => f_X7_text_9 3000 q1 (0 : Int32))
def f_X7_fault (σ : ZI) : Option (Int32) := some (σ 0 6)
def f_X7_rule (σ : ZI) (a1 : Int32) : Option (Int32) := if a1 < 0 then (some (-1 : Int32)) else (if a1 < (13 : Int32) then ((f_X6_value σ 1 a1).bind (fun q1 => some q1)) else (some (-1 : Int32)))
def f_X7_isArm (σ : ZI) (a1 : Int32) : Option (Int32) := if a1 < 0 then (some (0 : Int32)) else ((f_X6_value σ 1 (1 : Int32)).bind (fun q1 => if q1 ≤ a1 then (some (0 : Int32)) else (some (1 : Int32))))
def f_X6_holdsOf_66 (σ : ZI) (b : Nat) (a1 : Int32) (a2 : Int32)  (v4 : Int32) : Option (Int32) := some (if (0 : Int32) < v4 then v4 else (0 : Int32))
def f_X6_holdsOf_63 (σ : ZI) (b : Nat) (a1 : Int32) (a2 : Int32)  (v4 : Int32) : Option (Int32) := f_X6_holdsOf_66 σ b a1 a2 (v4 + (-1 : Int32))
def f_X6_holdsOf_53 (σ : ZI) (b : Nat) (a1 : Int32) (a2 : Int32)  (v3 : Int32) (v4 : Int32) : Option (Int32) := if v3 = (3 : Int32) then (f_X6_holdsOf_63 σ b a1 a2 v4) else (if v3 = (4 : Int32) then (f_X6_holdsOf_63 σ b a1 a2 v4) else (f_X6_holdsOf_66 σ b a1 a2 v4))
def f_X6_holdsOf_45 (σ : ZI) (b : Nat) (a1 : Int32) (a2 : Int32)  (v3 : Int32) (v4 : Int32) : Option (Int32) := lt_ ((v4 - (a2 / (3 : Int32)))) (fun x3 => f_X6_holdsOf_53 σ b a1 a2 v3 x3)
def f_X6_holdsOf_35 (σ : ZI) (b : Nat) (a1 : Int32) (a2 : Int32)  (v3 : Int32) (v4 : Int32) : Option (Int32) := if v3 = (2 : Int32) then (f_X6_holdsOf_45 σ b a1 a2 v3 v4) else (if v3 = (3 : Int32) then (f_X6_holdsOf_45 σ b a1 a2 v3 v4) else (f_X6_holdsOf_53 σ b a1 a2 v3 v4))
def f_X6_holdsOf_27 (σ : ZI) (b : Nat) (a1 : Int32) (a2 : Int32)  (v3 : Int32) (v4 : Int32) : Option (Int32) := if a2 < (5 : Int32) then (f_X6_holdsOf_35 σ b a1 a2 v3 v4) else (f_X6_holdsOf_35 σ b a1 a2 v3 (v4 + (-3 : Int32)))
def f_X6_holdsOf (σ : ZI) (b : Nat) (a1 : Int32) (a2 : Int32) : Option (Int32) := if (ar b).1 = 11 then ((f_X7_at σ (b + 2) a1).bind (fun q1 => lt_ (((10 : Int32) - (a2 / (2 : Int32)))) (fun x2 => if q1 = (1 : Int32) then (f_X6_holdsOf_27 σ b a1 a2 q1 x2) else (if q1 = (4 : Int32) then (f_X6_holdsOf_27 σ b a1 a2 q1 x2) else (f_X6_holdsOf_35 σ b a1 a2 q1 x2))))) else none
def f_X7_arm (σ : ZI) (a1 : Int32) (a2 : Int32) : Option (Int32) := (f_X7_isArm σ a1).bind (fun q1 => if q1 = 0 then (some (-1 : Int32)) else (if a2 = (0 : Int32) then ((f_X7_at σ 3 a1).bind (fun q2 => some q2)) else (if a2 = (1 : Int32) then ((f_X7_at σ 4 a1).bind (fun q3 => some q3)) else (if a2 = (2 : Int32) then ((f_X7_at σ 5 a1).bind (fun q4 => some q4)) else (if a2 = (3 : Int32) then ((f_X6_value σ 1 (7 : Int32)).bind (fun q5 => (f_X6_holdsOf σ 1 a1 q5).bind (fun q6 => some q6))) else (some (-1 : Int32)))))))
def f_X7_isMark (σ : ZI) (a1 : Int32) : Option (Int32) := if a1 < 0 then (some (0 : Int32)) else ((f_X6_value σ 1 (2 : Int32)).bind (fun q1 => if q1 ≤ a1 then (some (0 : Int32)) else (some (1 : Int32))))
def f_X7_isPart (a1 : Int32) : Option (Int32) := if a1 = 0 then (some (1 : Int32)) else (if a1 = (1 : Int32) then (some (1 : Int32)) else (some (0 : Int32)))
def f_X7_mark (σ : ZI) (a1 : Int32) (a2 : Int32) : Option (Int32) := (f_X7_isMark σ a1).bind (fun q1 => if q1 = 0 then (some (-1 : Int32)) else ((f_X7_isPart a2).bind (fun q2 => if q2 = 0 then (some (-1 : Int32)) else (if a2 = 0 then ((f_X7_at σ 6 a1).bind (fun q4 => some q4)) else ((f_X7_at σ 7 a1).bind (fun q3 => some q3))))))
def f_X7_isTown (σ : ZI) (a1 : Int32) : Option (Int32) := if a1 < 0 then (some (0 : Int32)) else ((f_X6_value σ 1 (3 : Int32)).bind (fun q1 => if q1 ≤ a1 then (some (0 : Int32)) else (some (1 : Int32))))
def f_X7_town (σ : ZI) (a1 : Int32) (a2 : Int32) : Option (Int32) := (f_X7_isTown σ a1).bind (fun q1 => if q1 = 0 then (some (-1 : Int32)) else ((f_X7_isPart a2).bind (fun q2 => if q2 = 0 then (some (-1 : Int32)) else (if a2 = 0 then ((f_X7_at σ 8 a1).bind (fun q4 => some q4)) else ((f_X7_at σ 9 a1).bind (fun q3 => some q3))))))
def f_X7_isWithin (σ : ZI) (a1 : Int32) (a2 : Int32) : Option (Int32) := (f_X7_atS 101 a1).bind (fun q1 => if a2 < q1 then (some (0 : Int32)) else ((f_X7_atS 102 a1).bind (fun q2 => if q2 < a2 then (some (0 : Int32)) else (some (1 : Int32)))))
def f_X7_set_31 (a1 : Int32) (a2 : Int32)  (σ : ZI) (s0 : Int32) : Option (Int32 × ZI) := if s0 = (-4 : Int32) then (some ((-1 : Int32), σ)) else ((f_X7_isWithin σ s0 a2).bind (fun q1 => if q1 = 0 then (some ((-1 : Int32), σ)) else ((f_X6_value σ 1 s0).bind (fun q2 => (f_X6_become σ 1 s0 a2).bind (fun q3 => some (q2, q3))))))
def f_X7_set (σ : ZI) (a1 : Int32) (a2 : Int32) : Option (Int32 × ZI) := if a1 = 0 then (f_X7_set_31 a1 a2 σ (6 : Int32)) else (if a1 = (1 : Int32) then (f_X7_set_31 a1 a2 σ (12 : Int32)) else (if a1 = (2 : Int32) then (f_X7_set_31 a1 a2 σ (7 : Int32)) else (f_X7_set_31 a1 a2 σ (-4 : Int32))))
def f_X7_net (σ : ZI) (a1 : Int32) (a2 : Int32) : Option (Int32 × ZI) := (f_X7_isWithin σ (8 : Int32) a1).bind (fun q1 => if q1 = 0 then (some ((-1 : Int32), σ)) else ((f_X7_isWithin σ (9 : Int32) a2).bind (fun q2 => if q2 = 0 then (some ((-1 : Int32), σ)) else (if a1 < a2 then ((f_X6_value σ 1 (8 : Int32)).bind (fun q3 => (f_X6_become σ 1 (8 : Int32) a1).bind (fun q4 => (f_X6_become q4 1 (9 : Int32) a2).bind (fun q5 => some (q3, q5))))) else (some ((-1 : Int32), σ))))))
def f_X7_isJoint (σ : ZI) (a1 : Int32) : Option (Int32) := if a1 < (1 : Int32) then (some (0 : Int32)) else ((f_X6_value σ 1 (0 : Int32)).bind (fun q1 => if q1 < a1 then (some (0 : Int32)) else (some (1 : Int32))))
def f_X7_signal_48 (a1 : Int32) (a2 : Int32)  (σ : ZI) (v3 : Int32) (v4 : Int32) (s0 : Int32) (s1 : Int32) : Option (Int32 × ZI) := (f_X6_become σ 1 s1 s0).bind (fun q4 => if (v3 &&& v4) = 0 then (some ((0 : Int32), q4)) else (some ((1 : Int32), q4)))
def f_X7_signal (σ : ZI) (a1 : Int32) (a2 : Int32) : Option (Int32 × ZI) := (f_X7_isJoint σ a1).bind (fun q1 => if q1 = 0 then (some ((-1 : Int32), σ)) else ((f_X6_value σ 1 (4 : Int32)).bind (fun q2 => lt_ (((1 : Int32) <<< ((a1 - (1 : Int32)) &&& 31))) (fun x3 => if a2 = 0 then (f_X7_signal_48 a1 a2 σ q2 x3 (q2 &&& (x3 ^^^ (-1 : Int32))) (4 : Int32)) else (f_X7_signal_48 a1 a2 σ q2 x3 (q2 ||| x3) (4 : Int32))))))
def f_X7_bridge_14 (a1 : Int32)  (σ : ZI) : Option (Int32 × ZI) := (f_X6_value σ 1 (5 : Int32)).bind (fun q1 => (f_X6_become σ 1 (5 : Int32) a1).bind (fun q2 => some (q1, q2)))
def f_X7_bridge (σ : ZI) (a1 : Int32) : Option (Int32 × ZI) := if a1 = 0 then (f_X7_bridge_14 a1 σ) else ((f_X7_isJoint σ a1).bind (fun q3 => if q3 = 0 then (some ((-1 : Int32), σ)) else (f_X7_bridge_14 a1 σ)))
def f_X7_clear (σ : ZI) (a1 : Int32) (a2 : Int32) : Option (Int32 × ZI) := (f_X7_isMark σ a1).bind (fun q1 => if q1 = 0 then (some ((-1 : Int32), σ)) else (if a2 < 0 then (some ((-1 : Int32), σ)) else (if a2 ≤ (10 : Int32) then ((f_X7_at σ 7 a1).bind (fun q2 => (f_X7_put σ 7 a1 a2).bind (fun q3 => some (q2, q3)))) else (some ((-1 : Int32), σ)))))
def f_X7_hang (σ : ZI) (a1 : Int32) (a2 : Int32) : Option (Int32 × ZI) := (f_X7_isArm σ a1).bind (fun q1 => if q1 = 0 then (some ((-1 : Int32), σ)) else (if a2 < 0 then (some ((-1 : Int32), σ)) else (if a2 ≤ (4 : Int32) then ((f_X7_at σ 3 a1).bind (fun q2 => (f_X7_put σ 3 a1 a2).bind (fun q3 => some (q2, q3)))) else (some ((-1 : Int32), σ)))))
def f_X7_postedTo (σ : ZI) (r1 : Nat) (a2 : Int32) (a3 : Int32) : Option (Int32) := if (ar r1).1 = 1 then ((f_X7_isTown σ a2).bind (fun q1 => if q1 = 0 then (some (-1 : Int32)) else (if a3 < 0 then (some (-1 : Int32)) else (if a3 ≤ (99 : Int32) then ((f_X7_at σ r1 a2).bind (fun q2 => if (q2 + a3) ≤ (99 : Int32) then (some (q2 + a3)) else (some (-3 : Int32)))) else (some (-1 : Int32)))))) else none
def f_X7_post (σ : ZI) (a1 : Int32) (a2 : Int32) : Option (Int32 × ZI) := (f_X7_postedTo σ 8 a1 a2).bind (fun q1 => if q1 < 0 then (some (q1, σ)) else ((f_X7_put σ 8 a1 q1).bind (fun q2 => some (q1, q2))))
def f_X7_areJoints (σ : ZI) (a1 : Int32) : Option (Int32) := if a1 < 0 then (some (0 : Int32)) else ((f_X6_value σ 1 (0 : Int32)).bind (fun q1 => if ((1 : Int32) <<< (q1 &&& 31)) ≤ a1 then (some (0 : Int32)) else (some (1 : Int32))))
def f_X7_areMarks (σ : ZI) (a1 : Int32) : Option (Int32) := if a1 < 0 then (some (0 : Int32)) else ((f_X6_value σ 1 (2 : Int32)).bind (fun q1 => if ((1 : Int32) <<< (q1 &&& 31)) ≤ a1 then (some (0 : Int32)) else (some (1 : Int32))))
def f_X7_isNightPart (a1 : Int32) : Option (Int32) := if a1 < 0 then (some (0 : Int32)) else (if (5 : Int32) < a1 then (some (0 : Int32)) else (some (1 : Int32)))
def f_X6_countBehind_27 (σ : ZI) (b : Nat) (a1 : Int32) (a2 : Int32) (a3 : Int32) (a4 : Int32)   : Option (Int32) := if ((a3 >>> ((a1 - (1 : Int32)) &&& 31)) &&& (1 : Int32)) = (1 : Int32) then (some a2) else (some (a2 + (1 : Int32)))
def f_X6_countBehind (σ : ZI) (b : Nat) (a1 : Int32) (a2 : Int32) (a3 : Int32) (a4 : Int32) : Option (Int32) := if (ar b).1 = 11 then ((f_X6_markAt σ b a1).bind (fun q1 => if q1 = (-4 : Int32) then (f_X6_countBehind_27 σ b a1 a2 a3 a4 ) else (if ((a4 >>> (q1 &&& 31)) &&& (1 : Int32)) = (1 : Int32) then (some a1) else (f_X6_countBehind_27 σ b a1 a2 a3 a4 )))) else none
def f_X1_meet_46 (b1 : Nat) (a2 : Int32)  (σ : ZI) : Option (ZI) := (f_X6_value σ b1 (5 : Int32)).bind (fun q3 => if q3 = a2 then (lt_ (va_up σ 40 (upd (σ 40) 4 (1 : Int32))) (fun σ4 => some σ4)) else (some σ))
def f_X1_meet_24 (b1 : Nat) (a2 : Int32)  (σ : ZI) : Option (ZI) := (f_X6_isSignalAt σ b1 a2).bind (fun q2 => if q2 = 0 then (f_X1_meet_46 b1 a2 σ) else (lt_ (va_up σ 40 (upd (σ 40) 3 ((σ 40 3) ||| ((1 : Int32) <<< ((a2 - (1 : Int32)) &&& 31))))) (fun σ5 => f_X1_meet_46 b1 a2 σ5)))
def f_X1_meet (σ : ZI) (b1 : Nat) (a2 : Int32) : Option (ZI) := if (ar b1).1 = 11 then ((f_X6_armAt σ b1 a2).bind (fun q1 => if q1 = (-4 : Int32) then (f_X1_meet_24 b1 a2 σ) else (lt_ (va_up σ 40 (upd (σ 40) 2 ((σ 40 2) ||| ((1 : Int32) <<< (q1 &&& 31))))) (fun σ6 => f_X1_meet_24 b1 a2 σ6)))) else none
def f_X1_go_151 (b1 : Nat) (a2 : Int32) (a3 : Int32) (k_38 : ZI → Int32 → Int32 → Option (ZI)) (σ : ZI) (v4 : Int32) (v5 : Int32) : Option (ZI) := k_38 σ v4 (v5 + (1 : Int32))
def f_X1_go_149 (b1 : Nat) (a2 : Int32) (a3 : Int32) (k_38 : ZI → Int32 → Int32 → Option (ZI)) (σ : ZI) (v5 : Int32) (s0 : Int32) : Option (ZI) := f_X1_go_151 b1 a2 a3 k_38 σ s0 v5
def f_X1_go_125 (b1 : Nat) (a2 : Int32) (a3 : Int32) (k_38 : ZI → Int32 → Int32 → Option (ZI)) (σ : ZI) (v4 : Int32) (v5 : Int32) : Option (ZI) := if v4 = 0 then (f_X1_go_151 b1 a2 a3 k_38 σ v4 v5) else ((f_X1_meet σ b1 v5).bind (fun q10 => if (q10 40 4) = 0 then (f_X1_go_149 b1 a2 a3 k_38 q10 v5 (1 : Int32)) else (f_X1_go_149 b1 a2 a3 k_38 q10 v5 (0 : Int32))))
def f_X1_go_98 (b1 : Nat) (a2 : Int32) (a3 : Int32) (k_38 : ZI → Int32 → Int32 → Option (ZI)) (σ : ZI) (v4 : Int32) (v5 : Int32) : Option (ZI) := if v4 = 0 then (f_X1_go_125 b1 a2 a3 k_38 σ v4 v5) else ((f_X6_value σ b1 (9 : Int32)).bind (fun q11 => if (σ 40 5) < q11 then (f_X1_go_125 b1 a2 a3 k_38 σ v4 v5) else (lt_ (va_up σ 40 (upd (σ 40) 1 v5)) (fun σ12 => f_X1_go_125 b1 a2 a3 k_38 σ12 (0 : Int32) v5))))
def f_X1_go_38 (b1 : Nat) (a2 : Int32) (a3 : Int32)  : Nat → ZI → Int32 → Int32 → Option (ZI)
  | 0, _, _, _ => none
  | n + 1, σ, v4, v5 => (f_X6_value σ b1 (0 : Int32)).bind (fun q7 => if q7 < v5 then (some σ) else ((f_X6_countBehind σ b1 v5 (σ 40 5) a2 a3).bind (fun q8 => lt_ (va_up σ 40 (upd (σ 40) 5 q8)) (fun σ9 => if (σ9 40 0) = (-4 : Int32) then ((f_X6_value σ9 b1 (8 : Int32)).bind (fun q13 => if (σ9 40 5) < q13 then (f_X1_go_98 b1 a2 a3 (fun σ v4 v5 => f_X1_go_38 b1 a2 a3 n σ v4 v5) σ9 v4 v5) else (lt_ (va_up σ9 40 (upd (σ9 40) 0 v5)) (fun σ14 => f_X1_go_125 b1 a2 a3 (fun σ v4 v5 => f_X1_go_38 b1 a2 a3 n σ v4 v5) σ14 (1 : Int32) v5)))) else (f_X1_go_98 b1 a2 a3 (fun σ v4 v5 => f_X1_go_38 b1 a2 a3 n σ v4 v5) σ9 v4 v5)))))
def f_X1_go (σ : ZI) (b1 : Nat) (a2 : Int32) (a3 : Int32) : Option (ZI) := if (ar b1).1 = 11 then (lt_ (va_up σ 40 (upd (σ 40) 0 (-4 : Int32))) (fun σ1 => lt_ (va_up σ1 40 (upd (σ1 40) 1 (-4 : Int32))) (fun σ2 => lt_ (va_up σ2 40 (upd (σ2 40) 2 (0 : Int32))) (fun σ3 => lt_ (va_up σ3 40 (upd (σ3 40) 3 (0 : Int32))) (fun σ4 => lt_ (va_up σ4 40 (upd (σ4 40) 4 (0 : Int32))) (fun σ5 => lt_ (va_up σ5 40 (upd (σ5 40) 5 (0 : Int32))) (fun σ6 => f_X1_go_38 b1 a2 a3 3000 σ6 (0 : Int32) (1 : Int32)))))))) else none
def f_X1_answer (σ : ZI) (a1 : Int32) : Option (Int32) := if a1 = (0 : Int32) then (some (σ 40 0)) else (if a1 = (1 : Int32) then (some (σ 40 1)) else (if a1 = (2 : Int32) then (some (σ 40 2)) else (if a1 = (3 : Int32) then (some (σ 40 3)) else (if a1 = (4 : Int32) then (some (σ 40 4)) else (if a1 = (5 : Int32) then (some (σ 40 5)) else (some (-1 : Int32)))))))
def f_X7_night (σ : ZI) (a1 : Int32) (a2 : Int32) (a3 : Int32) : Option (Int32 × ZI) := (f_X7_areJoints σ a1).bind (fun q1 => if q1 = 0 then (some ((-1 : Int32), σ)) else ((f_X7_areMarks σ a2).bind (fun q2 => if q2 = 0 then (some ((-1 : Int32), σ)) else ((f_X7_isNightPart a3).bind (fun q3 => if q3 = 0 then (some ((-1 : Int32), σ)) else ((f_X1_go σ 1 a1 a2).bind (fun q4 => (f_X1_answer q4 a3).bind (fun q5 => some (q5, q4)))))))))
def f_X7_counts_36 (σ : ZI) (a1 : Int32) (a2 : Int32) (a3 : Int32)  : Nat → Int32 → Int32 → Option (Int32)
  | 0, _, _ => none
  | n + 1, v4, v5 => if a3 < v5 then (some v4) else ((f_X6_countBehind σ 1 v5 v4 a1 a2).bind (fun q3 => f_X7_counts_36 σ a1 a2 a3 n q3 (v5 + (1 : Int32))))
def f_X7_counts_30 (σ : ZI) (a1 : Int32) (a2 : Int32) (a3 : Int32)   : Option (Int32) := f_X7_counts_36 σ a1 a2 a3 3000 (0 : Int32) (1 : Int32)
def f_X7_counts (σ : ZI) (a1 : Int32) (a2 : Int32) (a3 : Int32) : Option (Int32) := (f_X7_areJoints σ a1).bind (fun q1 => if q1 = 0 then (some (-1 : Int32)) else ((f_X7_areMarks σ a2).bind (fun q2 => if q2 = 0 then (some (-1 : Int32)) else (if a3 = 0 then (f_X7_counts_30 σ a1 a2 a3 ) else ((f_X7_isJoint σ a3).bind (fun q4 => if q4 = 0 then (some (-1 : Int32)) else (f_X7_counts_30 σ a1 a2 a3 )))))))
def f_X7_put_ (τ : ZL) (r1 : Nat) (a2 : Int32) (a3 : Int64) : Option (ZL) := if (ar r1).1 = 2 then (if a2 < 0 then (some τ) else (if (nI (ar r1).2) ≤ a2 then (some τ) else (if inB a2 (ar r1).2 = true then (lt_ (va_up τ r1 (vp_updL (τ r1) a2.toNatClampNeg a3)) (fun τ1 => some τ1)) else none))) else none
def f_X0_sumBehind_17 (σ : ZI)  : Nat → ZL → Int32 → Option (ZL)
  | 0, _, _ => none
  | n + 1, τ, v1 => if v1 < (1 : Int32) then (some τ) else (if inB v1 11 = true then (if inB v1 11 = true then (if inB v1 11 = true then (if inB v1 11 = true then (lt_ ((((τ 42 v1.toNatClampNeg) + (τ 43 v1.toNatClampNeg)) * ((τ 44 v1.toNatClampNeg) + (τ 45 v1.toNatClampNeg)))) (fun x2 => if inB v1 11 = true then (if inB (v1 - (1 : Int32)) 11 = true then (lt_ (va_up τ 46 (vp_updL (τ 46) (v1 - (1 : Int32)).toNatClampNeg ((τ 46 v1.toNatClampNeg) * x2))) (fun τ3 => f_X0_sumBehind_17 σ n τ3 (v1 + (-1 : Int32)))) else none) else none)) else none) else none) else none) else none)
def f_X0_sumBehind (σ : ZI) (τ : ZL) : Option (ZL) := (f_X7_put_ τ 46 (σ 41 0) (1 : Int64)).bind (fun q1 => f_X0_sumBehind_17 σ 3000 q1 (σ 41 0))
def f_X0_weighByOdds_120 (b1 : Nat) (a2 : Int32) (a3 : Int32) (k_17 : ZI → ZL → Int32 → Option (ZI × ZL)) (σ : ZI) (τ : ZL) (v4 : Int32) (s0 : Int64) (s1 : Int32) : Option (ZI × ZL) := if inB s1 11 = true then (lt_ (va_up τ 45 (vp_updL (τ 45) s1.toNatClampNeg s0)) (fun τ8 => k_17 σ τ8 (v4 + (1 : Int32)))) else none
def f_X0_weighByOdds_96 (b1 : Nat) (a2 : Int32) (a3 : Int32) (k_17 : ZI → ZL → Int32 → Option (ZI × ZL)) (σ : ZI) (τ : ZL) (v4 : Int32) (v5 : Int32) (v6 : Int32) (s0 : Int64) (s1 : Int32) : Option (ZI × ZL) := if inB s1 11 = true then (lt_ (va_up τ 44 (vp_updL (τ 44) s1.toNatClampNeg s0)) (fun τ7 => if v5 = (-4 : Int32) then (f_X0_weighByOdds_120 b1 a2 a3 k_17 σ τ7 v4 (1 : Int64) v4) else (f_X0_weighByOdds_120 b1 a2 a3 k_17 σ τ7 v4 (((10 : Int32) - v6).toInt64) v4))) else none
def f_X0_weighByOdds_53 (b1 : Nat) (a2 : Int32) (a3 : Int32) (k_17 : ZI → ZL → Int32 → Option (ZI × ZL)) (σ : ZI) (τ : ZL) (v4 : Int32) (v5 : Int32) (s0 : Int32) : Option (ZI × ZL) := if inB v4 11 = true then (lt_ (va_up τ 42 (vp_updL (τ 42) v4.toNatClampNeg a2.toInt64)) (fun τ5 => if inB v4 11 = true then (lt_ (va_up τ5 43 (vp_updL (τ5 43) v4.toNatClampNeg (((10 : Int32) - a2).toInt64))) (fun τ6 => if v5 = (-4 : Int32) then (f_X0_weighByOdds_96 b1 a2 a3 k_17 σ τ6 v4 v5 s0 (0 : Int64) v4) else (f_X0_weighByOdds_96 b1 a2 a3 k_17 σ τ6 v4 v5 s0 s0.toInt64 v4))) else none)) else none
def f_X0_weighByOdds_17 (b1 : Nat) (a2 : Int32) (a3 : Int32)  : Nat → ZI → ZL → Int32 → Option (ZI × ZL)
  | 0, _, _, _ => none
  | n + 1, σ, τ, v4 => if (σ 41 0) < v4 then ((f_X0_sumBehind σ τ).bind (fun q3 => some (σ, q3))) else ((f_X6_markAt σ b1 v4).bind (fun q4 => if a3 = (-4 : Int32) then ((f_X7_at σ (b1 + 6) q4).bind (fun q9 => f_X0_weighByOdds_53 b1 a2 a3 (fun σ τ v4 => f_X0_weighByOdds_17 b1 a2 a3 n σ τ v4) σ τ v4 q4 q9)) else (f_X0_weighByOdds_53 b1 a2 a3 (fun σ τ v4 => f_X0_weighByOdds_17 b1 a2 a3 n σ τ v4) σ τ v4 q4 a3)))
def f_X0_weighByOdds (σ : ZI) (τ : ZL) (b1 : Nat) (a2 : Int32) (a3 : Int32) : Option (ZI × ZL) := if (ar b1).1 = 11 then ((f_X6_value σ b1 (0 : Int32)).bind (fun q1 => lt_ (va_up σ 41 (upd (σ 41) 0 (if (10 : Int32) < q1 then (10 : Int32) else q1))) (fun σ2 => f_X0_weighByOdds_17 b1 a2 a3 3000 σ2 τ (1 : Int32)))) else none
def f_J7_fill_d0a16_6 (r1 : Nat) (a2 : Int64)  : Nat → ZL → Int32 → Int32 → Option (ZL)
  | 0, _, _, _ => none
  | n + 1, τ, v3, v4 => if v4 ≤ v3 then (some τ) else (if inB v3 (ar r1).2 = true then (lt_ (va_up τ r1 (vp_updL (τ r1) v3.toNatClampNeg a2)) (fun τ1 => f_J7_fill_d0a16_6 r1 a2 n τ1 (v3 + (1 : Int32)) v4)) else none)
def f_J7_fill_d0a16 (τ : ZL) (r1 : Nat) (a2 : Int64) : Option (ZL) := if (ar r1).1 = 2 then (f_J7_fill_d0a16_6 r1 a2 3000 τ (0 : Int32) (nI (ar r1).2)) else none
def f_X0_start (τ : ZL) : Option (ZL) := (f_J7_fill_d0a16 τ 47 (0 : Int64)).bind (fun q1 => (f_J7_fill_d0a16 q1 48 (0 : Int64)).bind (fun q2 => lt_ (va_up q2 47 (vp_updL (q2 47) 0 (1 : Int64))) (fun τ3 => some τ3)))
def f_X0_passJoint_108 (r1 : Nat) (a2 : Int32) (k_23 : ZL → Int32 → Option (ZL)) (τ : ZL) (v3 : Int32) : Option (ZL) := k_23 τ (v3 + (-1 : Int32))
def f_X0_passJoint_23 (r1 : Nat) (a2 : Int32)  : Nat → ZL → Int32 → Option (ZL)
  | 0, _, _ => none
  | n + 1, τ, v3 => if v3 < 0 then (some τ) else (if inB v3 (ar r1).2 = true then (if (lg_cmp (τ r1 v3.toNatClampNeg) (0 : Int64)) = 0 then (f_X0_passJoint_108 r1 a2 (fun τ v3 => f_X0_passJoint_23 r1 a2 n τ v3) τ v3) else (if inB a2 11 = true then (lt_ (((τ r1 v3.toNatClampNeg) * (τ 45 a2.toNatClampNeg))) (fun x1 => if inB a2 11 = true then (if inB v3 (ar r1).2 = true then (lt_ (va_up τ r1 (vp_updL (τ r1) v3.toNatClampNeg (x1 * (τ 42 a2.toNatClampNeg)))) (fun τ2 => if inB (v3 + (1 : Int32)) (ar r1).2 = true then (if inB a2 11 = true then (if inB (v3 + (1 : Int32)) (ar r1).2 = true then (lt_ (va_up τ2 r1 (vp_updL (τ2 r1) (v3 + (1 : Int32)).toNatClampNeg ((τ2 r1 (v3 + (1 : Int32)).toNatClampNeg) + (x1 * (τ2 43 a2.toNatClampNeg))))) (fun τ3 => if inB a2 (ar r1).2 = true then (if inB a2 11 = true then (if inB a2 11 = true then (if inB a2 11 = true then (if inB a2 (ar r1).2 = true then (lt_ (va_up τ3 r1 (vp_updL (τ3 r1) a2.toNatClampNeg ((τ3 r1 a2.toNatClampNeg) + (((τ r1 v3.toNatClampNeg) * (τ3 44 a2.toNatClampNeg)) * ((τ3 42 a2.toNatClampNeg) + (τ3 43 a2.toNatClampNeg)))))) (fun τ4 => f_X0_passJoint_108 r1 a2 (fun τ v3 => f_X0_passJoint_23 r1 a2 n τ v3) τ4 v3)) else none) else none) else none) else none) else none)) else none) else none) else none)) else none) else none)) else none)) else none)
def f_X0_passJoint (τ : ZL) (r1 : Nat) (a2 : Int32) : Option (ZL) := if (ar r1).1 = 2 then (if a2 < (1 : Int32) then (some τ) else (if (11 : Int32) ≤ a2 then (some τ) else (if (11 : Int32) ≤ (nI (ar r1).2) then (f_X0_passJoint_23 r1 a2 3000 τ (a2 - (1 : Int32))) else (some τ)))) else none
def f_X0_passCounting_6 (σ : ZI) (a1 : Int32)  : Nat → ZL → Int32 → Option (ZL)
  | 0, _, _ => none
  | n + 1, τ, v2 => if a1 < v2 then (some τ) else (if (σ 41 0) < v2 then (some τ) else ((f_X0_passJoint τ 47 v2).bind (fun q2 => f_X0_passCounting_6 σ a1 n q2 (v2 + (1 : Int32)))))
def f_X0_passCounting (σ : ZI) (τ : ZL) (a1 : Int32) : Option (ZL) := (f_X0_start τ).bind (fun q1 => f_X0_passCounting_6 σ a1 3000 q1 (1 : Int32))
def f_X7_at_ (τ : ZL) (r1 : Nat) (a2 : Int32) : Option (Int64) := if (ar r1).1 = 2 then (if a2 < 0 then (some (0 : Int64)) else (if (nI (ar r1).2) ≤ a2 then (some (0 : Int64)) else (if inB a2 (ar r1).2 = true then (some (τ r1 a2.toNatClampNeg)) else none))) else none
def f_X0_ofCount (τ : ZL) (a1 : Int32) (a2 : Int32) : Option (Int64) := (f_X7_at_ τ 47 a2).bind (fun q1 => (f_X7_at_ τ 46 a1).bind (fun q2 => some (q1 * q2)))
def f_X0_whole (τ : ZL) : Option (Int64) := some (τ 46 0)
def f_X7_greatestShared_9 (a1 : Int64) (a2 : Int64)  : Nat → Int64 → Int64 → Int32 → Option (Int64)
  | 0, _, _, _ => none
  | n + 1, v4, v6, v8 => if (100 : Int32) ≤ v8 then (some v4) else (if (lg_cmp v6 (0 : Int64)) = 0 then (some v4) else (if v6 = 0 then none else (f_X7_greatestShared_9 a1 a2 n v6 (v4 - v4 / v6 * v6) (v8 + (1 : Int32)))))
def f_X7_greatestShared (a1 : Int64) (a2 : Int64) : Option (Int64) := f_X7_greatestShared_9 a1 a2 3000 a1 a2 (0 : Int32)
def f_X7_part (a1 : Int64) (a2 : Int64) (a3 : Int32) : Option (Int64) := (f_X7_greatestShared (if 0 < a1 then a1 else -a1) a2).bind (fun q1 => lt_ ((if q1 < (1 : Int64) then (1 : Int64) else q1)) (fun x2 => if a3 = 0 then (if x2 = 0 then none else (some (a1 / x2))) else (if x2 = 0 then none else (some (a2 / x2)))))
def f_X7_where_12 (a1 : Int32) (a2 : Int32) (a3 : Int32)  (σ : ZI) (τ : ZL) : Option (Int64 × ZI × ZL) := if a2 < 0 then (some ((-1 : Int64), σ, τ)) else (if (10 : Int32) < a2 then (some ((-1 : Int64), σ, τ)) else ((f_X7_isPart a3).bind (fun q1 => if q1 = 0 then (some ((-1 : Int64), σ, τ)) else ((f_X6_value σ 1 (6 : Int32)).bind (fun q2 => (f_X0_weighByOdds σ τ 1 q2 (-4 : Int32)).bind (fun q3 => (f_X0_passCounting q3.1 q3.2 a1).bind (fun q4 => (f_X0_ofCount q4 a1 a2).bind (fun q5 => (f_X0_whole q4).bind (fun q6 => (f_X7_part q5 q6 a3).bind (fun q7 => some (q7, q3.1, q4)))))))))))
def f_X7_where (σ : ZI) (τ : ZL) (a1 : Int32) (a2 : Int32) (a3 : Int32) : Option (Int64 × ZI × ZL) := if a1 = 0 then (f_X7_where_12 a1 a2 a3 σ τ) else ((f_X7_isJoint σ a1).bind (fun q8 => if q8 = 0 then (some ((-1 : Int64), σ, τ)) else (f_X7_where_12 a1 a2 a3 σ τ)))
def f_X0_takeIn_6 (a1 : Int32)  : Nat → ZL → Int32 → Option (ZL)
  | 0, _, _ => none
  | n + 1, τ, v2 => if (nI 11) ≤ v2 then (some τ) else (if inB v2 11 = true then (lt_ (va_up τ 48 (vp_updL (τ 48) v2.toNatClampNeg (0 : Int64))) (fun τ2 => f_X0_takeIn_6 a1 n τ2 (v2 + (1 : Int32)))) else none)
def f_X0_takeIn (τ : ZL) (a1 : Int32) : Option (ZL) := lt_ ((if a1 < (0 : Int32) then (0 : Int32) else a1)) (fun x1 => f_X0_takeIn_6 a1 3000 τ x1)
def f_X0_putOut_9 (a1 : Int32)  : Nat → ZL → Int64 → Int32 → Option (Int64 × ZL)
  | 0, _, _, _ => none
  | n + 1, τ, v2, v4 => if (nI 11) ≤ v4 then (some (v2, τ)) else (if (nI 11) ≤ v4 then (some (v2, τ)) else (if inB v4 11 = true then (lt_ ((v2 + (τ 47 v4.toNatClampNeg))) (fun x2 => if inB v4 11 = true then (if inB v4 11 = true then (if inB v4 11 = true then (lt_ (va_up τ 48 (vp_updL (τ 48) v4.toNatClampNeg ((τ 48 v4.toNatClampNeg) + (τ 47 v4.toNatClampNeg)))) (fun τ3 => if inB v4 11 = true then (lt_ (va_up τ3 47 (vp_updL (τ3 47) v4.toNatClampNeg (0 : Int64))) (fun τ4 => f_X0_putOut_9 a1 n τ4 x2 (v4 + (1 : Int32)))) else none)) else none) else none) else none)) else none))
def f_X0_putOut (τ : ZL) (a1 : Int32) : Option (Int64 × ZL) := lt_ ((if a1 < (0 : Int32) then (0 : Int32) else a1)) (fun x1 => f_X0_putOut_9 a1 3000 τ (0 : Int64) x1)
def f_X0_sumOf_4 (τ : ZL) (r1 : Nat)  : Nat → Int64 → Int32 → Option (Int64)
  | 0, _, _ => none
  | n + 1, v1, v3 => if (nI (ar r1).2) ≤ v3 then (some v1) else (if inB v3 (ar r1).2 = true then (lt_ ((v1 + (τ r1 v3.toNatClampNeg))) (fun x1 => f_X0_sumOf_4 τ r1 n x1 (v3 + (1 : Int32)))) else none)
def f_X0_sumOf (τ : ZL) (r1 : Nat) : Option (Int64) := if (ar r1).1 = 2 then (f_X0_sumOf_4 τ r1 3000 (0 : Int64) (0 : Int32)) else none
def f_X0_passWithNet_105 (σ : ZI) (a1 : Int32) (a2 : Int32) (a3 : Int32) (k_7 : ZL → Int32 → Option (ZL)) (τ : ZL) (v4 : Int32) : Option (ZL) := k_7 τ (v4 + (1 : Int32))
def f_X0_passWithNet_7 (σ : ZI) (a1 : Int32) (a2 : Int32) (a3 : Int32)  : Nat → ZL → Int32 → Option (ZL)
  | 0, _, _ => none
  | n + 1, τ, v4 => if (σ 41 0) < v4 then (some τ) else ((f_X0_passJoint τ 47 v4).bind (fun q2 => (f_X0_passJoint q2 48 v4).bind (fun q3 => (f_X0_takeIn q3 a2).bind (fun q4 => (f_X0_putOut q4 a1).bind (fun q5 => (f_X7_at_ q5.2 46 v4).bind (fun q6 => (f_X7_put_ q5.2 49 v4 (q5.1 * q6)).bind (fun q7 => (f_X0_sumOf q7 48).bind (fun q8 => (f_X7_at_ q7 46 v4).bind (fun q9 => (f_X7_put_ q7 50 v4 (q8 * q9)).bind (fun q10 => if v4 = a3 then ((f_J7_fill_d0a16 q10 48 (0 : Int64)).bind (fun q11 => f_X0_passWithNet_105 σ a1 a2 a3 (fun τ v4 => f_X0_passWithNet_7 σ a1 a2 a3 n τ v4) q11 v4)) else (f_X0_passWithNet_105 σ a1 a2 a3 (fun τ v4 => f_X0_passWithNet_7 σ a1 a2 a3 n τ v4) q10 v4)))))))))))
def f_X0_passWithNet (σ : ZI) (τ : ZL) (a1 : Int32) (a2 : Int32) (a3 : Int32) : Option (ZL) := (f_X0_start τ).bind (fun q1 => f_X0_passWithNet_7 σ a1 a2 a3 3000 q1 (1 : Int32))
def f_X7_passByOdds (σ : ZI) (τ : ZL) : Option (ZI × ZL) := (f_X6_value σ 1 (6 : Int32)).bind (fun q1 => (f_X0_weighByOdds σ τ 1 q1 (-4 : Int32)).bind (fun q2 => (f_X6_value q2.1 1 (8 : Int32)).bind (fun q3 => (f_X6_value q2.1 1 (9 : Int32)).bind (fun q4 => (f_X6_value q2.1 1 (5 : Int32)).bind (fun q5 => (f_X0_passWithNet q2.1 q2.2 q3 q4 q5).bind (fun q6 => some (q2.1, q6)))))))
def f_X7_goes (σ : ZI) (τ : ZL) (a1 : Int32) (a2 : Int32) : Option (Int64 × ZI × ZL) := (f_X7_isJoint σ a1).bind (fun q1 => if q1 = 0 then (some ((-1 : Int64), σ, τ)) else ((f_X7_isPart a2).bind (fun q2 => if q2 = 0 then (some ((-1 : Int64), σ, τ)) else ((f_X7_passByOdds σ τ).bind (fun q3 => (f_X7_at_ q3.2 49 a1).bind (fun q4 => (f_X0_whole q3.2).bind (fun q5 => (f_X7_part q4 q5 a2).bind (fun q6 => some (q6, q3.1, q3.2)))))))))
def f_X7_isOut (σ : ZI) (τ : ZL) (a1 : Int32) (a2 : Int32) : Option (Int64 × ZI × ZL) := (f_X7_isJoint σ a1).bind (fun q1 => if q1 = 0 then (some ((-1 : Int64), σ, τ)) else ((f_X7_isPart a2).bind (fun q2 => if q2 = 0 then (some ((-1 : Int64), σ, τ)) else ((f_X7_passByOdds σ τ).bind (fun q3 => (f_X7_at_ q3.2 50 a1).bind (fun q4 => (f_X0_whole q3.2).bind (fun q5 => (f_X7_part q4 q5 a2).bind (fun q6 => some (q6, q3.1, q3.2)))))))))
def f_X7_metBy (σ : ZI) (τ : ZL) (a1 : Int32) : Option (Int64) := (f_X7_at σ 4 a1).bind (fun q1 => (f_X7_at_ τ 50 q1).bind (fun q2 => some q2))
def f_X7_had (σ : ZI) (τ : ZL) (a1 : Int32) (a2 : Int32) : Option (Int64 × ZI × ZL) := (f_X7_isArm σ a1).bind (fun q1 => if q1 = 0 then (some ((-1 : Int64), σ, τ)) else ((f_X7_isPart a2).bind (fun q2 => if q2 = 0 then (some ((-1 : Int64), σ, τ)) else ((f_X7_passByOdds σ τ).bind (fun q3 => (f_X7_metBy q3.1 q3.2 a1).bind (fun q4 => (f_X6_value q3.1 1 (7 : Int32)).bind (fun q5 => (f_X6_holdsOf q3.1 1 a1 q5).bind (fun q6 => (f_X0_whole q3.2).bind (fun q7 => (f_X7_part (q4 * q6.toInt64) ((10 : Int64) * q7) a2).bind (fun q8 => some (q8, q3.1, q3.2)))))))))))
def f_X7_hitByOdds_41 (σ : ZI) (τ : ZL) (k_4 : Int64 → Int32 → Option (Int64)) (v1 : Int64) (v3 : Int32) : Option (Int64) := k_4 v1 (v3 + (1 : Int32))
def f_X7_hitByOdds_4 (σ : ZI) (τ : ZL)  : Nat → Int64 → Int32 → Option (Int64)
  | 0, _, _ => none
  | n + 1, v1, v3 => (f_X6_value σ 1 (0 : Int32)).bind (fun q1 => if q1 < v3 then (some v1) else ((f_X6_isSignalAt σ 1 v3).bind (fun q2 => if q2 = 0 then (f_X7_hitByOdds_41 σ τ (fun v1 v3 => f_X7_hitByOdds_4 σ τ n v1 v3) v1 v3) else ((f_X7_at_ τ 50 v3).bind (fun q3 => f_X7_hitByOdds_41 σ τ (fun v1 v3 => f_X7_hitByOdds_4 σ τ n v1 v3) (v1 + q3) v3)))))
def f_X7_hitByOdds (σ : ZI) (τ : ZL) : Option (Int64) := f_X7_hitByOdds_4 σ τ 3000 (0 : Int64) (1 : Int32)
def f_X7_hits (σ : ZI) (τ : ZL) (a1 : Int32) : Option (Int64 × ZI × ZL) := (f_X7_isPart a1).bind (fun q1 => if q1 = 0 then (some ((-1 : Int64), σ, τ)) else ((f_X7_passByOdds σ τ).bind (fun q2 => (f_X7_hitByOdds q2.1 q2.2).bind (fun q3 => (f_X0_whole q2.2).bind (fun q4 => (f_X7_part q3 q4 a1).bind (fun q5 => some (q5, q2.1, q2.2)))))))
def f_X7_tornByOdds (σ : ZI) (τ : ZL) : Option (Int64) := (f_X6_value σ 1 (5 : Int32)).bind (fun q1 => (f_X7_at_ τ 50 q1).bind (fun q2 => some q2))
def f_X7_torn (σ : ZI) (τ : ZL) (a1 : Int32) : Option (Int64 × ZI × ZL) := (f_X7_isPart a1).bind (fun q1 => if q1 = 0 then (some ((-1 : Int64), σ, τ)) else ((f_X7_passByOdds σ τ).bind (fun q2 => (f_X7_tornByOdds q2.1 q2.2).bind (fun q3 => (f_X0_whole q2.2).bind (fun q4 => (f_X7_part q3 q4 a1).bind (fun q5 => some (q5, q2.1, q2.2)))))))
def f_X7_worthByOdds_4 (σ : ZI) (τ : ZL)  : Nat → Int64 → Int32 → Option (Int64)
  | 0, _, _ => none
  | n + 1, v1, v3 => (f_X6_value σ 1 (1 : Int32)).bind (fun q1 => if q1 ≤ v3 then ((f_X7_hitByOdds σ τ).bind (fun q2 => (f_X6_value σ 1 (10 : Int32)).bind (fun q3 => (f_X7_tornByOdds σ τ).bind (fun q4 => (f_X6_value σ 1 (11 : Int32)).bind (fun q5 => lt_ (((q2 * q3.toInt64) + (q4 * q5.toInt64))) (fun x6 => some (v1 - ((10 : Int64) * x6)))))))) else ((f_X7_metBy σ τ v3).bind (fun q7 => (f_X6_value σ 1 (7 : Int32)).bind (fun q8 => (f_X6_holdsOf σ 1 v3 q8).bind (fun q9 => (f_X7_at σ 5 v3).bind (fun q10 => lt_ ((v1 + ((q7 * q9.toInt64) * q10.toInt64))) (fun x11 => f_X7_worthByOdds_4 σ τ n x11 (v3 + (1 : Int32)))))))))
def f_X7_worthByOdds (σ : ZI) (τ : ZL) : Option (Int64) := f_X7_worthByOdds_4 σ τ 3000 (0 : Int64) (0 : Int32)
def f_X7_worth (σ : ZI) (τ : ZL) (a1 : Int32) : Option (Int64 × ZI × ZL) := (f_X7_isPart a1).bind (fun q1 => if q1 = 0 then (some ((-1 : Int64), σ, τ)) else ((f_X7_passByOdds σ τ).bind (fun q2 => (f_X7_worthByOdds q2.1 q2.2).bind (fun q3 => (f_X0_whole q2.2).bind (fun q4 => (f_X7_part q3 ((10 : Int64) * q4) a1).bind (fun q5 => some (q5, q2.1, q2.2)))))))
def f_X7_best_126 (a1 : Int32) (k_65 : ZI → ZL → Int32 → Int64 → Int32 → Int32 → Option (Int64 × ZI × ZL)) (σ : ZI) (τ : ZL) (v2 : Int32) (v3 : Int64) (v5 : Int32) (v6 : Int32) : Option (Int64 × ZI × ZL) := k_65 σ τ v2 v3 v5 (v6 + (1 : Int32))
def f_X7_best_114 (a1 : Int32) (k_65 : ZI → ZL → Int32 → Int64 → Int32 → Int32 → Option (Int64 × ZI × ZL)) (σ : ZI) (τ : ZL) (v5 : Int32) (v6 : Int32) (v7 : Int64) : Option (Int64 × ZI × ZL) := lt_ ((((100 : Int32) * v5) + v6)) (fun x9 => f_X7_best_126 a1 k_65 σ τ x9 v7 v5 v6)
def f_X7_best_65 (a1 : Int32) (k_48 : ZI → ZL → Int32 → Int64 → Int32 → Option (Int64 × ZI × ZL)) : Nat → ZI → ZL → Int32 → Int64 → Int32 → Int32 → Option (Int64 × ZI × ZL)
  | 0, _, _, _, _, _, _ => none
  | n + 1, σ, τ, v2, v3, v5, v6 => if inB (9 : Int32) 13 = true then (if ((stL 102).getD (9 : Int32).toNatClampNeg 0) < v6 then (k_48 σ τ v2 v3 (v5 + (1 : Int32))) else ((f_X6_value σ 1 (5 : Int32)).bind (fun q6 => (f_X0_passWithNet σ τ v5 v6 q6).bind (fun q7 => (f_X7_worthByOdds σ q7).bind (fun q8 => if v2 = (-4 : Int32) then (f_X7_best_114 a1 (fun σ τ v2 v3 v5 v6 => f_X7_best_65 a1 k_48 n σ τ v2 v3 v5 v6) σ q7 v5 v6 q8) else (if (lg_cmp q8 v3) ≤ 0 then (f_X7_best_126 a1 (fun σ τ v2 v3 v5 v6 => f_X7_best_65 a1 k_48 n σ τ v2 v3 v5 v6) σ q7 v2 v3 v5 v6) else (f_X7_best_114 a1 (fun σ τ v2 v3 v5 v6 => f_X7_best_65 a1 k_48 n σ τ v2 v3 v5 v6) σ q7 v5 v6 q8))))))) else none
def f_X7_best_48 (a1 : Int32)  : Nat → ZI → ZL → Int32 → Int64 → Int32 → Option (Int64 × ZI × ZL)
  | 0, _, _, _, _, _ => none
  | n + 1, σ, τ, v2, v3, v5 => if inB (8 : Int32) 13 = true then (if ((stL 102).getD (8 : Int32).toNatClampNeg 0) < v5 then (if a1 = 0 then (some (v2.toInt64, σ, τ)) else ((f_X0_whole τ).bind (fun q4 => (f_X7_part v3 ((10 : Int64) * q4) (a1 - (1 : Int32))).bind (fun q5 => some (q5, σ, τ))))) else (f_X7_best_65 a1 (fun σ τ v2 v3 v5 => f_X7_best_48 a1 n σ τ v2 v3 v5) 3000 σ τ v2 v3 v5 (v5 + (1 : Int32)))) else none
def f_X7_best (σ : ZI) (τ : ZL) (a1 : Int32) : Option (Int64 × ZI × ZL) := if a1 < 0 then (some ((-1 : Int64), σ, τ)) else (if a1 ≤ (2 : Int32) then ((f_X6_value σ 1 (6 : Int32)).bind (fun q1 => (f_X0_weighByOdds σ τ 1 q1 (-4 : Int32)).bind (fun q2 => if inB (8 : Int32) 13 = true then (lt_ (((stL 101).getD (8 : Int32).toNatClampNeg 0)) (fun x3 => f_X7_best_48 a1 3000 q2.1 q2.2 (-4 : Int32) (0 : Int64) x3)) else none))) else (some ((-1 : Int64), σ, τ)))
def f_X7_isHadBy (σ : ZI) (τ : ZL) (a1 : Int32) (a2 : Int32) (a3 : Int32) (a4 : Int32) : Option (Int32 × ZI × ZL) := (f_X0_weighByOdds σ τ 1 a3 a4).bind (fun q1 => (f_X6_value q1.1 1 (8 : Int32)).bind (fun q2 => (f_X6_value q1.1 1 (9 : Int32)).bind (fun q3 => (f_X6_value q1.1 1 (5 : Int32)).bind (fun q4 => (f_X0_passWithNet q1.1 q1.2 q2 q3 q4).bind (fun q5 => (f_X7_metBy q1.1 q5 a1).bind (fun q6 => (f_X6_value q1.1 1 (7 : Int32)).bind (fun q7 => (f_X6_holdsOf q1.1 1 a1 q7).bind (fun q8 => (f_X0_whole q5).bind (fun q9 => if (lg_cmp (q6 * q8.toInt64) (a2.toInt64 * q9)) < 0 then (some ((0 : Int32), q1.1, q5)) else (some ((1 : Int32), q1.1, q5)))))))))))
def f_X7_fog_23 (a1 : Int32) (a2 : Int32)  : Nat → ZI → ZL → Int32 → Option (Int32 × ZI × ZL)
  | 0, _, _, _ => none
  | n + 1, σ, τ, v3 => if (10 : Int32) < v3 then (some ((-4 : Int32), σ, τ)) else ((f_X6_value σ 1 (6 : Int32)).bind (fun q2 => (f_X7_isHadBy σ τ a1 a2 q2 v3).bind (fun q3 => if q3.1 = 0 then (f_X7_fog_23 a1 a2 n q3.2.1 q3.2.2 (v3 + (1 : Int32))) else (some (v3, q3.2.1, q3.2.2)))))
def f_X7_fog (σ : ZI) (τ : ZL) (a1 : Int32) (a2 : Int32) : Option (Int32 × ZI × ZL) := (f_X7_isArm σ a1).bind (fun q1 => if q1 = 0 then (some ((-1 : Int32), σ, τ)) else (if a2 < (1 : Int32) then (some ((-1 : Int32), σ, τ)) else (if a2 ≤ (10 : Int32) then (f_X7_fog_23 a1 a2 3000 σ τ (0 : Int32)) else (some ((-1 : Int32), σ, τ)))))
def f_X7_fast_32 (a1 : Int32) (a2 : Int32)  : Nat → ZI → ZL → Int32 → Option (Int32 × ZI × ZL)
  | 0, _, _, _ => none
  | n + 1, σ, τ, v3 => if inB (7 : Int32) 13 = true then (if v3 < ((stL 101).getD (7 : Int32).toNatClampNeg 0) then (some ((-4 : Int32), σ, τ)) else ((f_X7_metBy σ τ a1).bind (fun q4 => (f_X6_holdsOf σ 1 a1 v3).bind (fun q5 => (f_X0_whole τ).bind (fun q6 => if (lg_cmp (q4 * q5.toInt64) (a2.toInt64 * q6)) < 0 then (f_X7_fast_32 a1 a2 n σ τ (v3 + (-1 : Int32))) else (some (v3, σ, τ))))))) else none
def f_X7_fast (σ : ZI) (τ : ZL) (a1 : Int32) (a2 : Int32) : Option (Int32 × ZI × ZL) := (f_X7_isArm σ a1).bind (fun q1 => if q1 = 0 then (some ((-1 : Int32), σ, τ)) else (if a2 < (1 : Int32) then (some ((-1 : Int32), σ, τ)) else (if a2 ≤ (10 : Int32) then ((f_X7_passByOdds σ τ).bind (fun q2 => if inB (7 : Int32) 13 = true then (lt_ (((stL 102).getD (7 : Int32).toNatClampNeg 0)) (fun x3 => f_X7_fast_32 a1 a2 3000 q2.1 q2.2 x3)) else none)) else (some ((-1 : Int32), σ, τ)))))
def f_X7_slack_28 (a1 : Int32) (a2 : Int32)  : Nat → ZI → ZL → Int32 → Option (Int32 × ZI × ZL)
  | 0, _, _, _ => none
  | n + 1, σ, τ, v3 => if inB (6 : Int32) 13 = true then (if v3 < ((stL 101).getD (6 : Int32).toNatClampNeg 0) then (some ((-4 : Int32), σ, τ)) else ((f_X7_isHadBy σ τ a1 a2 v3 (-4 : Int32)).bind (fun q3 => if q3.1 = 0 then (f_X7_slack_28 a1 a2 n q3.2.1 q3.2.2 (v3 + (-1 : Int32))) else (some (v3, q3.2.1, q3.2.2))))) else none
def f_X7_slack (σ : ZI) (τ : ZL) (a1 : Int32) (a2 : Int32) : Option (Int32 × ZI × ZL) := (f_X7_isArm σ a1).bind (fun q1 => if q1 = 0 then (some ((-1 : Int32), σ, τ)) else (if a2 < (1 : Int32) then (some ((-1 : Int32), σ, τ)) else (if a2 ≤ (10 : Int32) then (if inB (6 : Int32) 13 = true then (lt_ (((stL 102).getD (6 : Int32).toNatClampNeg 0)) (fun x2 => f_X7_slack_28 a1 a2 3000 σ τ x2)) else none) else (some ((-1 : Int32), σ, τ)))))
def f_X6_lettersWorth_42 (σ : ZI) (b : Nat) (a1 : Int32) (k_4 : Int32 → Int32 → Option (Int32)) (v2 : Int32) (v3 : Int32) : Option (Int32) := k_4 v2 (v3 + (1 : Int32))
def f_X6_lettersWorth_4 (σ : ZI) (b : Nat) (a1 : Int32)  : Nat → Int32 → Int32 → Option (Int32)
  | 0, _, _ => none
  | n + 1, v2, v3 => (f_X6_value σ b (3 : Int32)).bind (fun q1 => if q1 ≤ v3 then (some v2) else (if ((a1 >>> (v3 &&& 31)) &&& (1 : Int32)) = (1 : Int32) then ((f_X7_at σ (b + 7) v3).bind (fun q2 => (f_X7_at σ (b + 8) v3).bind (fun q3 => f_X6_lettersWorth_42 σ b a1 (fun v2 v3 => f_X6_lettersWorth_4 σ b a1 n v2 v3) (v2 + (q2 * q3)) v3))) else (f_X6_lettersWorth_42 σ b a1 (fun v2 v3 => f_X6_lettersWorth_4 σ b a1 n v2 v3) v2 v3)))
def f_X6_lettersWorth (σ : ZI) (b : Nat) (a1 : Int32) : Option (Int32) := if (ar b).1 = 11 then (f_X6_lettersWorth_4 σ b a1 3000 (0 : Int32) (0 : Int32)) else none
def f_X6_minutesOf_50 (σ : ZI) (b : Nat) (a1 : Int32) (a2 : Int32) (k_12 : Int32 → Int32 → Option (Int32)) (v3 : Int32) (v4 : Int32) : Option (Int32) := k_12 v3 (v4 + (1 : Int32))
def f_X6_minutesOf_12 (σ : ZI) (b : Nat) (a1 : Int32) (a2 : Int32)  : Nat → Int32 → Int32 → Option (Int32)
  | 0, _, _ => none
  | n + 1, v3, v4 => (f_X6_value σ b (3 : Int32)).bind (fun q1 => if q1 ≤ v4 then (some v3) else (if ((a1 >>> (v4 &&& 31)) &&& (1 : Int32)) = (1 : Int32) then ((f_X7_at σ (b + 7) v4).bind (fun q2 => if a2 = 0 then none else (lt_ ((v3 + (((q2 + a2) - (1 : Int32)) / a2))) (fun x3 => f_X6_minutesOf_50 σ b a1 a2 (fun v3 v4 => f_X6_minutesOf_12 σ b a1 a2 n v3 v4) x3 v4)))) else (f_X6_minutesOf_50 σ b a1 a2 (fun v3 v4 => f_X6_minutesOf_12 σ b a1 a2 n v3 v4) v3 v4)))
def f_X6_minutesOf (σ : ZI) (b : Nat) (a1 : Int32) (a2 : Int32) : Option (Int32) := if (ar b).1 = 11 then (if (1 : Int32) ≤ a2 then (f_X6_minutesOf_12 σ b a1 a2 3000 (0 : Int32) (0 : Int32)) else (some (0 : Int32))) else none
def f_X7_sort_93 (σ : ZI) (a1 : Int32) (a2 : Int32) (k_39 : Int32 → Int32 → Int32 → Int32 → Option (Int32)) (v3 : Int32) (v4 : Int32) (v5 : Int32) (v6 : Int32) : Option (Int32) := k_39 v3 v4 v5 (v6 + (1 : Int32))
def f_X7_sort_39 (σ : ZI) (a1 : Int32) (a2 : Int32)  : Nat → Int32 → Int32 → Int32 → Int32 → Option (Int32)
  | 0, _, _, _, _ => none
  | n + 1, v3, v4, v5, v6 => if v5 ≤ v6 then (if a2 = 0 then (some v4) else (some v3)) else ((f_X6_lettersWorth σ 1 v6).bind (fun q4 => if q4 ≤ v4 then (f_X7_sort_93 σ a1 a2 (fun v3 v4 v5 v6 => f_X7_sort_39 σ a1 a2 n v3 v4 v5 v6) v3 v4 v5 v6) else ((f_X6_value σ 1 (12 : Int32)).bind (fun q5 => (f_X6_minutesOf σ 1 v6 q5).bind (fun q6 => if a1 < q6 then (f_X7_sort_93 σ a1 a2 (fun v3 v4 v5 v6 => f_X7_sort_39 σ a1 a2 n v3 v4 v5 v6) v3 v4 v5 v6) else (f_X7_sort_93 σ a1 a2 (fun v3 v4 v5 v6 => f_X7_sort_39 σ a1 a2 n v3 v4 v5 v6) v6 q4 v5 v6))))))
def f_X7_sort (σ : ZI) (a1 : Int32) (a2 : Int32) : Option (Int32) := if a1 < 0 then (some (-1 : Int32)) else (if (99 : Int32) < a1 then (some (-1 : Int32)) else ((f_X7_isPart a2).bind (fun q1 => if q1 = 0 then (some (-1 : Int32)) else ((f_X6_value σ 1 (3 : Int32)).bind (fun q2 => lt_ (((1 : Int32) <<< (q2 &&& 31))) (fun x3 => f_X7_sort_39 σ a1 a2 3000 (0 : Int32) (0 : Int32) x3 (0 : Int32)))))))
def f_X7_areTowns (σ : ZI) (a1 : Int32) : Option (Int32) := if a1 < 0 then (some (0 : Int32)) else ((f_X6_value σ 1 (3 : Int32)).bind (fun q1 => if ((1 : Int32) <<< (q1 &&& 31)) ≤ a1 then (some (0 : Int32)) else (some (1 : Int32))))
def f_X7_minutes (σ : ZI) (a1 : Int32) : Option (Int32) := (f_X7_areTowns σ a1).bind (fun q1 => if q1 = 0 then (some (-1 : Int32)) else ((f_X6_value σ 1 (12 : Int32)).bind (fun q2 => (f_X6_minutesOf σ 1 a1 q2).bind (fun q3 => some q3))))
def f_X7_hands_32 (σ : ZI) (a1 : Int32)  : Nat → Int32 → Int32 → Option (Int32)
  | 0, _, _ => none
  | n + 1, v2, v3 => if inB (12 : Int32) 13 = true then (if ((stL 102).getD (12 : Int32).toNatClampNeg 0) < v3 then (some (-4 : Int32)) else ((f_X6_minutesOf σ 1 v2 v3).bind (fun q4 => if a1 < q4 then (f_X7_hands_32 σ a1 n v2 (v3 + (1 : Int32))) else (some v3)))) else none
def f_X7_hands (σ : ZI) (a1 : Int32) : Option (Int32) := if a1 < 0 then (some (-1 : Int32)) else (if a1 ≤ (99 : Int32) then ((f_X6_value σ 1 (3 : Int32)).bind (fun q1 => lt_ ((((1 : Int32) <<< (q1 &&& 31)) - (1 : Int32))) (fun x2 => if inB (12 : Int32) 13 = true then (lt_ (((stL 101).getD (12 : Int32).toNatClampNeg 0)) (fun x3 => f_X7_hands_32 σ a1 3000 x2 x3)) else none))) else (some (-1 : Int32)))
def f_X3_add (σ : ZI) (a1 : Int32) (a2 : Int32) : Option (Int32 × ZI) := if (σ 51 2) < (6 : Int32) then ((f_X7_put σ 52 (σ 51 2) a1).bind (fun q1 => (f_X7_put q1 53 (q1 51 2) a2).bind (fun q2 => lt_ (va_up q2 51 (upd (q2 51) 2 ((q2 51 2) + (1 : Int32)))) (fun σ3 => some ((1 : Int32), σ3))))) else (some ((0 : Int32), σ))
def f_X7_see (σ : ZI) (a1 : Int32) (a2 : Int32) : Option (Int32 × ZI) := (f_X7_isJoint σ a1).bind (fun q1 => if q1 = 0 then (some ((-1 : Int32), σ)) else (if a2 < 0 then (some ((-1 : Int32), σ)) else (if a2 ≤ (10 : Int32) then ((f_X3_add σ a1 a2).bind (fun q2 => if q2.1 = 0 then (some ((-3 : Int32), q2.2)) else (some ((q2.2 51 2), q2.2)))) else (some ((-1 : Int32), σ)))))
def f_X7_forget (σ : ZI) (a1 : Int32) : Option (Int32 × ZI) := if a1 < 0 then (some ((-1 : Int32), σ)) else (if a1 ≤ (σ 51 2) then (lt_ (va_up σ 51 (upd (σ 51) 2 a1)) (fun σ1 => some ((σ 51 2), σ1))) else (some ((-1 : Int32), σ)))
def f_X0_weighAlike_58 (b1 : Nat) (k_16 : ZI → ZL → Int32 → Option (ZI × ZL)) (σ : ZI) (τ : ZL) (v2 : Int32) (s0 : Int64) (s1 : Int32) : Option (ZI × ZL) := if inB s1 11 = true then (lt_ (va_up τ 44 (vp_updL (τ 44) s1.toNatClampNeg s0)) (fun τ7 => if inB v2 11 = true then (lt_ (va_up τ7 45 (vp_updL (τ7 45) v2.toNatClampNeg (1 : Int64))) (fun τ8 => k_16 σ τ8 (v2 + (1 : Int32)))) else none)) else none
def f_X0_weighAlike_16 (b1 : Nat)  : Nat → ZI → ZL → Int32 → Option (ZI × ZL)
  | 0, _, _, _ => none
  | n + 1, σ, τ, v2 => if (σ 41 0) < v2 then ((f_X0_sumBehind σ τ).bind (fun q3 => some (σ, q3))) else (if inB v2 11 = true then (lt_ (va_up τ 42 (vp_updL (τ 42) v2.toNatClampNeg (1 : Int64))) (fun τ4 => if inB v2 11 = true then (lt_ (va_up τ4 43 (vp_updL (τ4 43) v2.toNatClampNeg (1 : Int64))) (fun τ5 => (f_X6_markAt σ b1 v2).bind (fun q6 => if q6 = (-4 : Int32) then (f_X0_weighAlike_58 b1 (fun σ τ v2 => f_X0_weighAlike_16 b1 n σ τ v2) σ τ5 v2 (0 : Int64) v2) else (f_X0_weighAlike_58 b1 (fun σ τ v2 => f_X0_weighAlike_16 b1 n σ τ v2) σ τ5 v2 (1 : Int64) v2)))) else none)) else none)
def f_X0_weighAlike (σ : ZI) (τ : ZL) (b1 : Nat) : Option (ZI × ZL) := if (ar b1).1 = 11 then ((f_X6_value σ b1 (0 : Int32)).bind (fun q1 => lt_ (va_up σ 41 (upd (σ 41) 0 (if (10 : Int32) < q1 then (10 : Int32) else q1))) (fun σ2 => f_X0_weighAlike_16 b1 3000 σ2 τ (1 : Int32)))) else none
def f_X3_leaveOnly_17 (r1 : Nat) (a2 : Int32) (k_2 : ZL → Int32 → Option (ZL)) (τ : ZL) (v2 : Int32) : Option (ZL) := k_2 τ (v2 + (1 : Int32))
def f_X3_leaveOnly_2 (r1 : Nat) (a2 : Int32)  : Nat → ZL → Int32 → Option (ZL)
  | 0, _, _ => none
  | n + 1, τ, v2 => if (nI (ar r1).2) ≤ v2 then (some τ) else (if v2 = a2 then (f_X3_leaveOnly_17 r1 a2 (fun τ v2 => f_X3_leaveOnly_2 r1 a2 n τ v2) τ v2) else (if inB v2 (ar r1).2 = true then (lt_ (va_up τ r1 (vp_updL (τ r1) v2.toNatClampNeg (0 : Int64))) (fun τ1 => f_X3_leaveOnly_17 r1 a2 (fun τ v2 => f_X3_leaveOnly_2 r1 a2 n τ v2) τ1 v2)) else none))
def f_X3_leaveOnly (τ : ZL) (r1 : Nat) (a2 : Int32) : Option (ZL) := if (ar r1).1 = 2 then (f_X3_leaveOnly_2 r1 a2 3000 τ (0 : Int32)) else none
def f_X3_leaveIn_34 (σ : ZI) (r1 : Nat) (a2 : Int32) (k_2 : ZL → Int32 → Option (ZL)) (τ : ZL) (v3 : Int32) : Option (ZL) := k_2 τ (v3 + (1 : Int32))
def f_X3_leaveIn_2 (σ : ZI) (r1 : Nat) (a2 : Int32)  : Nat → ZL → Int32 → Option (ZL)
  | 0, _, _ => none
  | n + 1, τ, v3 => if (σ 51 2) ≤ v3 then (some τ) else ((f_X7_at σ 52 v3).bind (fun q1 => if q1 = a2 then ((f_X7_at σ 53 v3).bind (fun q2 => (f_X3_leaveOnly τ r1 q2).bind (fun q3 => f_X3_leaveIn_34 σ r1 a2 (fun τ v3 => f_X3_leaveIn_2 σ r1 a2 n τ v3) q3 v3))) else (f_X3_leaveIn_34 σ r1 a2 (fun τ v3 => f_X3_leaveIn_2 σ r1 a2 n τ v3) τ v3)))
def f_X3_leaveIn (σ : ZI) (τ : ZL) (r1 : Nat) (a2 : Int32) : Option (ZL) := if (ar r1).1 = 2 then (f_X3_leaveIn_2 σ r1 a2 3000 τ (0 : Int32)) else none
def f_X0_passAsSeen_6 (σ : ZI)  : Nat → ZL → Int32 → Option (Int64 × ZL)
  | 0, _, _ => none
  | n + 1, τ, v2 => if (σ 41 0) < v2 then ((f_X0_sumOf τ 47).bind (fun q2 => some (q2, τ))) else ((f_X0_passJoint τ 47 v2).bind (fun q3 => (f_X3_leaveIn σ q3 47 v2).bind (fun q4 => f_X0_passAsSeen_6 σ n q4 (v2 + (1 : Int32)))))
def f_X0_passAsSeen (σ : ZI) (τ : ZL) : Option (Int64 × ZL) := (f_X0_start τ).bind (fun q1 => f_X0_passAsSeen_6 σ 3000 q1 (1 : Int32))
def f_X0_forceMiss_31 (a1 : Int32) (a2 : Int32)  (τ : ZL) (s0 : Int64) (s1 : Int32) : Option (ZL) := (f_X7_put_ τ 43 s1 s0).bind (fun q2 => some q2)
def f_X0_forceMiss_14 (a1 : Int32) (a2 : Int32)  (τ : ZL) (s0 : Int64) (s1 : Int32) : Option (ZL) := (f_X7_put_ τ 42 s1 s0).bind (fun q1 => if a2 = 0 then (f_X0_forceMiss_31 a1 a2 q1 (1 : Int64) a1) else (f_X0_forceMiss_31 a1 a2 q1 (0 : Int64) a1))
def f_X0_forceMiss (τ : ZL) (a1 : Int32) (a2 : Int32) : Option (ZL) := if a2 = 0 then (f_X0_forceMiss_14 a1 a2 τ (0 : Int64) a1) else (f_X0_forceMiss_14 a1 a2 τ (1 : Int64) a1)
def f_X7_jointsMissed_68 (a1 : Int32) (k_4 : ZI → ZL → Int32 → Int32 → Option (Int32 × ZI × ZL)) (σ : ZI) (τ : ZL) (v2 : Int32) (v3 : Int32) : Option (Int32 × ZI × ZL) := k_4 σ τ v2 (v3 + (1 : Int32))
def f_X7_jointsMissed_41 (a1 : Int32) (k_4 : ZI → ZL → Int32 → Int32 → Option (Int32 × ZI × ZL)) (σ : ZI) (τ : ZL) (v2 : Int32) (v3 : Int32) (s0 : Int32) (s1 : Int32) : Option (Int32 × ZI × ZL) := (f_X0_forceMiss τ s1 s0).bind (fun q3 => (f_X0_passAsSeen σ q3).bind (fun q4 => if (lg_cmp q4.1 (0 : Int64)) = 0 then (lt_ ((v2 ||| ((1 : Int32) <<< ((v3 - (1 : Int32)) &&& 31)))) (fun x5 => f_X7_jointsMissed_68 a1 k_4 σ q4.2 x5 v3)) else (f_X7_jointsMissed_68 a1 k_4 σ q4.2 v2 v3)))
def f_X7_jointsMissed_4 (a1 : Int32)  : Nat → ZI → ZL → Int32 → Int32 → Option (Int32 × ZI × ZL)
  | 0, _, _, _, _ => none
  | n + 1, σ, τ, v2, v3 => (f_X6_value σ 1 (0 : Int32)).bind (fun q1 => if q1 < v3 then (some (v2, σ, τ)) else ((f_X0_weighAlike σ τ 1).bind (fun q2 => if a1 = 0 then (f_X7_jointsMissed_41 a1 (fun σ τ v2 v3 => f_X7_jointsMissed_4 a1 n σ τ v2 v3) q2.1 q2.2 v2 v3 (1 : Int32) v3) else (f_X7_jointsMissed_41 a1 (fun σ τ v2 v3 => f_X7_jointsMissed_4 a1 n σ τ v2 v3) q2.1 q2.2 v2 v3 (0 : Int32) v3))))
def f_X7_jointsMissed (σ : ZI) (τ : ZL) (a1 : Int32) : Option (Int32 × ZI × ZL) := f_X7_jointsMissed_4 a1 3000 σ τ (0 : Int32) (1 : Int32)
def f_X0_forceNotice_31 (a1 : Int32) (a2 : Int32)  (τ : ZL) (s0 : Int64) (s1 : Int32) : Option (ZL) := (f_X7_put_ τ 45 s1 s0).bind (fun q2 => some q2)
def f_X0_forceNotice_14 (a1 : Int32) (a2 : Int32)  (τ : ZL) (s0 : Int64) (s1 : Int32) : Option (ZL) := (f_X7_put_ τ 44 s1 s0).bind (fun q1 => if a2 = 0 then (f_X0_forceNotice_31 a1 a2 q1 (1 : Int64) a1) else (f_X0_forceNotice_31 a1 a2 q1 (0 : Int64) a1))
def f_X0_forceNotice (τ : ZL) (a1 : Int32) (a2 : Int32) : Option (ZL) := if a2 = 0 then (f_X0_forceNotice_14 a1 a2 τ (0 : Int64) a1) else (f_X0_forceNotice_14 a1 a2 τ (1 : Int64) a1)
def f_X7_marksNoticed_76 (a1 : Int32) (k_4 : ZI → ZL → Int32 → Int32 → Option (Int32 × ZI × ZL)) (σ : ZI) (τ : ZL) (v2 : Int32) (v3 : Int32) : Option (Int32 × ZI × ZL) := k_4 σ τ v2 (v3 + (1 : Int32))
def f_X7_marksNoticed_51 (a1 : Int32) (k_4 : ZI → ZL → Int32 → Int32 → Option (Int32 × ZI × ZL)) (σ : ZI) (τ : ZL) (v2 : Int32) (v3 : Int32) (s0 : Int32) (s1 : Int32) : Option (Int32 × ZI × ZL) := (f_X0_forceNotice τ s1 s0).bind (fun q4 => (f_X0_passAsSeen σ q4).bind (fun q5 => if (lg_cmp q5.1 (0 : Int64)) = 0 then (lt_ ((v2 ||| ((1 : Int32) <<< (v3 &&& 31)))) (fun x6 => f_X7_marksNoticed_76 a1 k_4 σ q5.2 x6 v3)) else (f_X7_marksNoticed_76 a1 k_4 σ q5.2 v2 v3)))
def f_X7_marksNoticed_4 (a1 : Int32)  : Nat → ZI → ZL → Int32 → Int32 → Option (Int32 × ZI × ZL)
  | 0, _, _, _, _ => none
  | n + 1, σ, τ, v2, v3 => (f_X6_value σ 1 (2 : Int32)).bind (fun q1 => if q1 ≤ v3 then (some (v2, σ, τ)) else ((f_X0_weighAlike σ τ 1).bind (fun q2 => (f_X7_at q2.1 6 v3).bind (fun q3 => if a1 = 0 then (f_X7_marksNoticed_51 a1 (fun σ τ v2 v3 => f_X7_marksNoticed_4 a1 n σ τ v2 v3) q2.1 q2.2 v2 v3 (1 : Int32) q3) else (f_X7_marksNoticed_51 a1 (fun σ τ v2 v3 => f_X7_marksNoticed_4 a1 n σ τ v2 v3) q2.1 q2.2 v2 v3 (0 : Int32) q3)))))
def f_X7_marksNoticed (σ : ZI) (τ : ZL) (a1 : Int32) : Option (Int32 × ZI × ZL) := f_X7_marksNoticed_4 a1 3000 σ τ (0 : Int32) (0 : Int32)
def f_X7_fits_63 (a1 : Int32)  (σ : ZI) (τ : ZL) (s0 : Int32) : Option (Int32 × ZI × ZL) := if (2 : Int32) < a1 then ((f_X7_marksNoticed σ τ s0).bind (fun q3 => some (q3.1, q3.2.1, q3.2.2))) else ((f_X7_jointsMissed σ τ s0).bind (fun q4 => some (q4.1, q4.2.1, q4.2.2)))
def f_X7_fits_58 (a1 : Int32)  (σ : ZI) (τ : ZL) : Option (Int32 × ZI × ZL) := f_X7_fits_63 a1 σ τ (1 : Int32)
def f_X7_fits (σ : ZI) (τ : ZL) (a1 : Int32) : Option (Int32 × ZI × ZL) := if a1 < 0 then (some ((-1 : Int32), σ, τ)) else (if a1 ≤ (4 : Int32) then ((f_X0_weighAlike σ τ 1).bind (fun q1 => (f_X0_passAsSeen q1.1 q1.2).bind (fun q2 => if a1 = 0 then (some (q2.1.toInt32, q1.1, q2.2)) else (if q2.1.toInt32 = 0 then (some ((-4 : Int32), q1.1, q2.2)) else (if a1 = (1 : Int32) then (f_X7_fits_58 a1 q1.1 q2.2) else (if a1 = (3 : Int32) then (f_X7_fits_58 a1 q1.1 q2.2) else (f_X7_fits_63 a1 q1.1 q2.2 (0 : Int32)))))))) else (some ((-1 : Int32), σ, τ)))
def f_X7_likely (σ : ZI) (τ : ZL) (a1 : Int32) : Option (Int64 × ZI × ZL) := (f_X7_isPart a1).bind (fun q1 => if q1 = 0 then (some ((-1 : Int64), σ, τ)) else ((f_X6_value σ 1 (6 : Int32)).bind (fun q2 => (f_X0_weighByOdds σ τ 1 q2 (-4 : Int32)).bind (fun q3 => (f_X0_passAsSeen q3.1 q3.2).bind (fun q4 => (f_X0_whole q4.2).bind (fun q5 => (f_X7_part q4.1 q5 a1).bind (fun q6 => some (q6, q3.1, q4.2))))))))
def f_X7_nextSeed (a1 : Int32) : Option (Int32) := some ((a1 * (1103515245 : Int32)) + (12345 : Int32))
def f_X7_figureOf (a1 : Int32) : Option (Int32) := some (((a1 >>> ((16 : Int32) &&& 31)) &&& (32767 : Int32)) - ((a1 >>> ((16 : Int32) &&& 31)) &&& (32767 : Int32)) / (10 : Int32) * (10 : Int32))
def f_X7_drift_120 (a1 : Int32) (a2 : Int32) (k_74 : ZI → Int32 → Int32 → Int32 → Int32 → Option (Int32 × ZI)) (σ : ZI) (v3 : Int32) (v4 : Int32) (v5 : Int32) (v6 : Int32) : Option (Int32 × ZI) := k_74 σ v3 v4 v5 (v6 + (1 : Int32))
def f_X7_drift_74 (a1 : Int32) (a2 : Int32)  : Nat → ZI → Int32 → Int32 → Int32 → Int32 → Option (Int32 × ZI)
  | 0, _, _, _, _, _ => none
  | n + 1, σ, v3, v4, v5, v6 => (f_X6_value σ 1 (2 : Int32)).bind (fun q3 => if q3 ≤ v6 then ((f_X1_go σ 1 v4 v5).bind (fun q4 => (f_X1_answer q4 a2).bind (fun q5 => some (q5, q4)))) else ((f_X7_nextSeed v3).bind (fun q6 => (f_X7_figureOf q6).bind (fun q7 => (f_X7_at σ 7 v6).bind (fun q8 => if q8 ≤ q7 then (f_X7_drift_120 a1 a2 (fun σ v3 v4 v5 v6 => f_X7_drift_74 a1 a2 n σ v3 v4 v5 v6) σ q6 v4 v5 v6) else (lt_ ((v5 ||| ((1 : Int32) <<< (v6 &&& 31)))) (fun x9 => f_X7_drift_120 a1 a2 (fun σ v3 v4 v5 v6 => f_X7_drift_74 a1 a2 n σ v3 v4 v5 v6) σ q6 v4 x9 v6)))))))
def f_X7_drift_62 (a1 : Int32) (a2 : Int32) (k_17 : ZI → Int32 → Int32 → Int32 → Option (Int32 × ZI)) (σ : ZI) (v3 : Int32) (v4 : Int32) (v5 : Int32) : Option (Int32 × ZI) := k_17 σ v3 v4 (v5 + (1 : Int32))
def f_X7_drift_17 (a1 : Int32) (a2 : Int32)  : Nat → ZI → Int32 → Int32 → Int32 → Option (Int32 × ZI)
  | 0, _, _, _, _ => none
  | n + 1, σ, v3, v4, v5 => (f_X6_value σ 1 (0 : Int32)).bind (fun q2 => if q2 < v5 then (f_X7_drift_74 a1 a2 3000 σ v3 v4 (0 : Int32) (0 : Int32)) else ((f_X7_nextSeed v3).bind (fun q10 => (f_X7_figureOf q10).bind (fun q11 => (f_X6_value σ 1 (6 : Int32)).bind (fun q12 => if q12 ≤ q11 then (f_X7_drift_62 a1 a2 (fun σ v3 v4 v5 => f_X7_drift_17 a1 a2 n σ v3 v4 v5) σ q10 v4 v5) else (lt_ ((v4 ||| ((1 : Int32) <<< ((v5 - (1 : Int32)) &&& 31)))) (fun x13 => f_X7_drift_62 a1 a2 (fun σ v3 v4 v5 => f_X7_drift_17 a1 a2 n σ v3 v4 v5) σ q10 x13 v5)))))))
def f_X7_drift (σ : ZI) (a1 : Int32) (a2 : Int32) : Option (Int32 × ZI) := (f_X7_isNightPart a2).bind (fun q1 => if q1 = 0 then (some ((-1 : Int32), σ)) else (f_X7_drift_17 a1 a2 3000 σ a1 (0 : Int32) (1 : Int32)))
def f_X7_isImage (a1 : Int32) : Option (Int32) := if a1 = 0 then (some (1 : Int32)) else (if a1 = (1 : Int32) then (some (1 : Int32)) else (some (0 : Int32)))
def f_X7_imageOf (a1 : Int32) : Option (Nat) := if a1 = 0 then (some 10) else (some 19)
def f_X7_keep (σ : ZI) (a1 : Int32) : Option (Int32 × ZI) := (f_X7_isImage a1).bind (fun q1 => if q1 = 0 then (some ((-1 : Int32), σ)) else (lt_ ((((σ 0 3) >>> (a1 &&& 31)) &&& (1 : Int32))) (fun x2 => (f_X7_imageOf a1).bind (fun q3 => if (ar q3).1 = 11 then ((f_X6_take σ q3 1).bind (fun q4 => lt_ (va_up q4 0 (upd (q4 0) 3 ((q4 0 3) ||| ((1 : Int32) <<< (a1 &&& 31))))) (fun σ5 => some (x2, σ5)))) else none))))
def f_X7_back (σ : ZI) (a1 : Int32) : Option (Int32 × ZI) := (f_X7_isImage a1).bind (fun q1 => if q1 = 0 then (some ((-1 : Int32), σ)) else (if (((σ 0 3) >>> (a1 &&& 31)) &&& (1 : Int32)) = 0 then (some ((-2 : Int32), σ)) else ((f_X7_imageOf a1).bind (fun q2 => (f_X6_take σ 1 q2).bind (fun q3 => (f_X6_value q3 1 (0 : Int32)).bind (fun q4 => some (q4, q3)))))))
def f_X7_isSheet (a1 : Int32) : Option (Int32) := if a1 < 0 then (some (0 : Int32)) else (if (4 : Int32) ≤ a1 then (some (0 : Int32)) else (some (1 : Int32)))
def f_X7_isLane (a1 : Int32) : Option (Int32) := if a1 < 0 then (some (0 : Int32)) else (if (3 : Int32) ≤ a1 then (some (0 : Int32)) else (some (1 : Int32)))
def f_X4_renew_30 (a1 : Int32) (a2 : Int32) (a3 : Int32)  : Nat → ZI → Int32 → Option (ZI)
  | 0, _, _ => none
  | n + 1, σ, v4 => if (40 : Int32) ≤ v4 then (some σ) else ((f_X7_put σ 58 ((a1 * (40 : Int32)) + v4) (0 : Int32)).bind (fun q4 => f_X4_renew_30 a1 a2 a3 n q4 (v4 + (1 : Int32))))
def f_X4_renew (σ : ZI) (a1 : Int32) (a2 : Int32) (a3 : Int32) : Option (ZI) := (f_X7_put σ 55 a1 (1 : Int32)).bind (fun q1 => (f_X7_put q1 56 a1 a2).bind (fun q2 => (f_X7_put q2 57 a1 a3).bind (fun q3 => f_X4_renew_30 a1 a2 a3 3000 q3 (0 : Int32))))
def f_X7_sheet (σ : ZI) (a1 : Int32) (a2 : Int32) (a3 : Int32) : Option (Int32 × ZI) := (f_X7_isSheet a1).bind (fun q1 => if q1 = 0 then (some ((-1 : Int32), σ)) else ((f_X7_isLane a2).bind (fun q2 => if q2 = 0 then (some ((-1 : Int32), σ)) else (if a3 ≤ (40 : Int32) then (if 0 ≤ a3 then ((f_X4_renew σ a1 a2 a3).bind (fun q3 => some ((1 : Int32), q3))) else (some ((-14 : Int32), σ))) else (some ((-1 : Int32), σ))))))
def f_X4_faultOfCell (σ : ZI) (a1 : Int32) (a2 : Int32) : Option (Int32) := (f_X7_at σ 55 a1).bind (fun q1 => if q1 = 0 then (some (1 : Int32)) else (if a2 < 0 then (some (2 : Int32)) else ((f_X7_at σ 57 a1).bind (fun q2 => if a2 < q2 then (some (0 : Int32)) else (some (2 : Int32))))))
def f_X4_write_42 (a1 : Int32) (a2 : Int32) (a3 : Int32)  (σ : ZI) (s0 : Int32) (s1 : Int32) : Option (ZI) := (f_X7_put σ 58 s1 s0).bind (fun q2 => some q2)
def f_X4_write (σ : ZI) (a1 : Int32) (a2 : Int32) (a3 : Int32) : Option (ZI) := (f_X7_at σ 56 a1).bind (fun q1 => if q1 = 0 then (f_X4_write_42 a1 a2 a3 σ a3.toInt8.toInt32 ((a1 * (40 : Int32)) + a2)) else (if q1 = (1 : Int32) then (f_X4_write_42 a1 a2 a3 σ a3.toInt16.toInt32 ((a1 * (40 : Int32)) + a2)) else (f_X4_write_42 a1 a2 a3 σ a3 ((a1 * (40 : Int32)) + a2))))
def f_X7_lay (σ : ZI) (a1 : Int32) (a2 : Int32) (a3 : Int32) : Option (Int32 × ZI) := (f_X7_isSheet a1).bind (fun q1 => if q1 = 0 then (some ((-1 : Int32), σ)) else ((f_X4_faultOfCell σ a1 a2).bind (fun q2 => if q2 = 0 then ((f_X4_write σ a1 a2 a3).bind (fun q3 => some ((1 : Int32), q3))) else (some (((-10 : Int32) - q2), σ)))))
def f_X4_faultOfLane (σ : ZI) (a1 : Int32) (a2 : Int32) : Option (Int32) := (f_X7_at σ 55 a1).bind (fun q1 => if q1 = 0 then (some (1 : Int32)) else ((f_X7_at σ 56 a1).bind (fun q2 => if q2 = a2 then (some (0 : Int32)) else (some (3 : Int32)))))
def f_X4_faultOfPair (σ : ZI) (a1 : Int32) (a2 : Int32) : Option (Int32) := (f_X4_faultOfCell σ a1 a2).bind (fun q1 => if q1 = 0 then ((f_X4_faultOfCell σ a1 (a2 + (1 : Int32))).bind (fun q2 => some q2)) else (some q1))
def f_X4_cell (σ : ZI) (a1 : Int32) (a2 : Int32) : Option (Int32) := (f_X7_at σ 58 ((a1 * (40 : Int32)) + a2)).bind (fun q1 => some q1)
def f_X7_read_172 (a1 : Int32) (a2 : Int32) (a3 : Int32) (a4 : Int32)  (σ : ZI) (v5 : Int32) (v6 : Int32) : Option (Int32 × ZI) := if (ar 59).1 = 1 ∧ (ar 8).1 = 1 ∧ 5 ≤ (ar 59).2 ∧ 5 ≤ (ar 8).2 then (lt_ (va_up σ 8 (va_cpy (σ 59) (σ 8) 0 0 5)) (fun σ5 => lt_ (va_up σ5 0 (upd (σ5 0) 12 v5)) (fun σ6 => some (v6, σ6)))) else none
def f_X7_read_68 (a1 : Int32) (a2 : Int32) (a3 : Int32) (a4 : Int32)  : Nat → ZI → Int32 → Int32 → Option (Int32 × ZI)
  | 0, _, _, _ => none
  | n + 1, σ, v5, v6 => if a4 ≤ v6 then (f_X7_read_172 a1 a2 a3 a4 σ v5 v6) else (if v5 = 0 then (lt_ ((a3 + ((2 : Int32) * v6))) (fun x7 => (f_X4_faultOfPair σ a1 x7).bind (fun q8 => if q8 = 0 then ((f_X4_cell σ a1 x7).bind (fun q9 => (f_X4_cell σ a1 (x7 + (1 : Int32))).bind (fun q10 => (f_X7_postedTo σ 59 q9 q10).bind (fun q11 => if 0 ≤ q11 then ((f_X7_put σ 59 q9 q11).bind (fun q12 => f_X7_read_68 a1 a2 a3 a4 n q12 q8 (v6 + (1 : Int32)))) else (some (((-20 : Int32) - v6), σ)))))) else (f_X7_read_172 a1 a2 a3 a4 σ q8 v6)))) else (f_X7_read_172 a1 a2 a3 a4 σ v5 v6))
def f_X7_read_46 (a1 : Int32) (a2 : Int32) (a3 : Int32) (a4 : Int32)  (σ : ZI) (s0 : Int32) : Option (Int32 × ZI) := if (ar 8).1 = 1 ∧ (ar 59).1 = 1 ∧ 5 ≤ (ar 8).2 ∧ 5 ≤ (ar 59).2 then (lt_ (va_up σ 59 (va_cpy (σ 8) (σ 59) 0 0 5)) (fun σ4 => f_X7_read_68 a1 a2 a3 a4 3000 σ4 s0 (0 : Int32))) else none
def f_X7_read (σ : ZI) (a1 : Int32) (a2 : Int32) (a3 : Int32) (a4 : Int32) : Option (Int32 × ZI) := (f_X7_isSheet a1).bind (fun q1 => if q1 = 0 then (some ((-1 : Int32), σ)) else ((f_X7_isLane a2).bind (fun q2 => if q2 = 0 then (some ((-1 : Int32), σ)) else (if a4 < 0 then (some ((-1 : Int32), σ)) else (if a4 ≤ (20 : Int32) then (if a4 = 0 then (f_X7_read_46 a1 a2 a3 a4 σ (0 : Int32)) else ((f_X4_faultOfLane σ a1 a2).bind (fun q3 => f_X7_read_46 a1 a2 a3 a4 σ q3))) else (some ((-1 : Int32), σ)))))))
def f_X7_split (σ : ZI) : Option (Int32) := some (σ 0 12)
def f_J6_bitCount_0f7a4 (a1 : Int32) : Option (Int32) := lt_ ((a1 - (((a1.toUInt32 >>> ((1 : Int32).toUInt32 &&& Int32.toUInt32 31)).toInt32) &&& (1431655765 : Int32)))) (fun x1 => lt_ (((x1 &&& (858993459 : Int32)) + (((x1.toUInt32 >>> ((2 : Int32).toUInt32 &&& Int32.toUInt32 31)).toInt32) &&& (858993459 : Int32)))) (fun x2 => lt_ (((x2 + ((x2.toUInt32 >>> ((4 : Int32).toUInt32 &&& Int32.toUInt32 31)).toInt32)) &&& (252645135 : Int32))) (fun x3 => lt_ ((x3 + ((x3.toUInt32 >>> ((8 : Int32).toUInt32 &&& Int32.toUInt32 31)).toInt32))) (fun x4 => lt_ ((x4 + ((x4.toUInt32 >>> ((16 : Int32).toUInt32 &&& Int32.toUInt32 31)).toInt32))) (fun x5 => some (x5 &&& (63 : Int32)))))))
def f_X4_cellsOf (σ : ZI) (a1 : Int32) : Option (Int32) := (f_X7_at σ 55 a1).bind (fun q1 => if q1 = (1 : Int32) then ((f_X7_at σ 57 a1).bind (fun q2 => some q2)) else (some (-4 : Int32)))
def f_X6_allLetters_4 (σ : ZI) (b : Nat)  : Nat → Int32 → Int32 → Option (Int32)
  | 0, _, _ => none
  | n + 1, v1, v2 => (f_X6_value σ b (3 : Int32)).bind (fun q1 => if q1 ≤ v2 then (some v1) else ((f_X7_at σ (b + 7) v2).bind (fun q2 => f_X6_allLetters_4 σ b n (v1 + q2) (v2 + (1 : Int32)))))
def f_X6_allLetters (σ : ZI) (b : Nat) : Option (Int32) := if (ar b).1 = 11 then (f_X6_allLetters_4 σ b 3000 (0 : Int32) (0 : Int32)) else none
def f_X7_count (σ : ZI) (a1 : Int32) : Option (Int32) := if a1 = (0 : Int32) then (some (σ 51 2)) else (if a1 = (1 : Int32) then ((f_J6_bitCount_0f7a4 (σ 0 3)).bind (fun q1 => some q1)) else (if a1 = (2 : Int32) then (some (σ 37 1)) else (if a1 = (3 : Int32) then ((f_X4_cellsOf σ (0 : Int32)).bind (fun q2 => some q2)) else (if a1 = (4 : Int32) then ((f_X6_allLetters σ 1).bind (fun q3 => some q3)) else (if a1 = (5 : Int32) then ((f_X6_value σ 1 (4 : Int32)).bind (fun q4 => (f_J6_bitCount_0f7a4 q4).bind (fun q5 => some q5))) else (some (-1 : Int32)))))))
def f_X8_in (a1 : Int64) (a2 : Int64) (a3 : Int64) : Option (Int32) := if (lg_cmp a1 a2) < 0 then (some (0 : Int32)) else (if 0 < (lg_cmp a1 a3) then (some (0 : Int32)) else (some (1 : Int32)))
def f_X8_feed (σ : ZI) (a1 : Int32) : Option (Int32 × ZI) := (f_X8_in a1.toInt64 (0 : Int64) (127 : Int64)).bind (fun q1 => if q1 = 0 then (some ((-1 : Int32), σ)) else (if (σ 60 23) = (160 : Int32) then (some ((-3 : Int32), σ)) else (if inB (σ 60 23) 160 = true then (lt_ (va_up σ 71 (upd (σ 71) (σ 60 23).toNatClampNeg a1)) (fun σ2 => lt_ (va_up σ2 60 (upd (σ2 60) 23 ((σ2 60 23) + (1 : Int32)))) (fun σ3 => some ((σ3 60 23), σ3)))) else none)))
def f_X8_end (σ : ZI) (a1 : Int32) : Option (Int32 × ZI) := (f_X8_in a1.toInt64 (0 : Int64) ((σ 60 23).toInt64)).bind (fun q1 => if q1 = 0 then (some ((-1 : Int32), σ)) else (lt_ (va_up σ 60 (upd (σ 60) 23 a1)) (fun σ2 => some ((σ 60 23), σ2))))
def f_X8_byteAt (σ : ZI) (a1 : Int32) : Option (Int32) := if (σ 60 23) ≤ a1 then (some (-4 : Int32)) else (if inB a1 160 = true then (some (σ 71 a1.toNatClampNeg)) else none)
def f_X8_fails (σ : ZI) (a1 : Int32) : Option (ZI) := if (σ 60 25) = 0 then (lt_ (va_up σ 60 (upd (σ 60) 25 a1)) (fun σ1 => lt_ (va_up σ1 60 (upd (σ1 60) 26 (σ1 60 28))) (fun σ2 => some σ2))) else (some σ)
def f_X8_nameHere_106 (σ : ZI) (k_2 : Int32 → Option (Int32)) (v1 : Int32) (v2 : Int32) : Option (Int32) := if v2 = 0 then (k_2 (v1 + (1 : Int32))) else (some v1)
def f_X8_nameHere_99 (σ : ZI) (k_51 : Int32 → Int32 → Int32 → Option (Int32)) (v1 : Int32) (v3 : Int32) (s0 : Int32) : Option (Int32) := k_51 v1 s0 (v3 + (1 : Int32))
def f_X8_nameHere_51 (σ : ZI) (k_2 : Int32 → Option (Int32)) : Nat → Int32 → Int32 → Int32 → Option (Int32)
  | 0, _, _, _ => none
  | n + 1, v1, v2, v3 => if v2 = 0 then (f_X8_nameHere_106 σ k_2 v1 v2) else (if ((σ 60 27) - (σ 60 28)) ≤ v3 then (f_X8_nameHere_106 σ k_2 v1 v2) else ((f_X8_byteAt σ ((σ 60 28) + v3)).bind (fun q1 => if inB v1 17 = true then (if inB ((σ 72 v1.toNatClampNeg) + v3) 72 = true then (if q1 = (σ 73 ((σ 72 v1.toNatClampNeg) + v3).toNatClampNeg) then (f_X8_nameHere_99 σ (fun v1 v2 v3 => f_X8_nameHere_51 σ k_2 n v1 v2 v3) v1 v3 (1 : Int32)) else (f_X8_nameHere_99 σ (fun v1 v2 v3 => f_X8_nameHere_51 σ k_2 n v1 v2 v3) v1 v3 (0 : Int32))) else none) else none)))
def f_X8_nameHere_48 (σ : ZI) (k_2 : Int32 → Option (Int32)) (v1 : Int32) (s0 : Int32) : Option (Int32) := f_X8_nameHere_51 σ k_2 3000 v1 s0 (0 : Int32)
def f_X8_nameHere_2 (σ : ZI)  : Nat → Int32 → Option (Int32)
  | 0, _ => none
  | n + 1, v1 => if (16 : Int32) ≤ v1 then (some (-4 : Int32)) else (if (σ 60 29) = (1 : Int32) then (if inB (v1 + (1 : Int32)) 17 = true then (if inB v1 17 = true then (if ((σ 60 27) - (σ 60 28)) = ((σ 72 (v1 + (1 : Int32)).toNatClampNeg) - (σ 72 v1.toNatClampNeg)) then (f_X8_nameHere_48 σ (fun v1 => f_X8_nameHere_2 σ n v1) v1 (1 : Int32)) else (f_X8_nameHere_48 σ (fun v1 => f_X8_nameHere_2 σ n v1) v1 (0 : Int32))) else none) else none) else (some (-4 : Int32)))
def f_X8_nameHere (σ : ZI) : Option (Int32) := f_X8_nameHere_2 σ 3000 (0 : Int32)
def f_X8_step_201  (k_140 : ZI → Option (ZI)) (σ : ZI) (s0 : Int32) : Option (ZI) := lt_ (va_up σ 60 (upd (σ 60) 30 s0)) (fun σ14 => lt_ (va_up σ14 60 (upd (σ14 60) 27 ((σ14 60 27) + (1 : Int32)))) (fun σ15 => k_140 σ15))
def f_X8_step_140   : Nat → ZI → Option (ZI)
  | 0, _ => none
  | n + 1, σ => (f_X8_byteAt σ (σ 60 27)).bind (fun q10 => (f_X8_in q10.toInt64 (48 : Int64) (57 : Int64)).bind (fun q11 => if q11 = 0 then (lt_ (va_up σ 60 (upd (σ 60) 29 (2 : Int32))) (fun σ12 => if ((σ12 60 27) - (σ12 60 28)) ≤ (2 : Int32) then (some σ12) else ((f_X8_fails σ12 (1 : Int32)).bind (fun q13 => some q13)))) else (if (2 : Int32) ≤ ((σ 60 27) - (σ 60 28)) then (f_X8_step_201 (fun σ => f_X8_step_140 n σ) σ (σ 60 30)) else ((f_X8_byteAt σ (σ 60 27)).bind (fun q16 => f_X8_step_201 (fun σ => f_X8_step_140 n σ) σ ((((10 : Int32) * (σ 60 30)) + q16) - (48 : Int32)))))))
def f_X8_step_84   : Nat → ZI → Option (ZI)
  | 0, _ => none
  | n + 1, σ => (f_X8_byteAt σ (σ 60 27)).bind (fun q17 => (f_X8_in q17.toInt64 (97 : Int64) (122 : Int64)).bind (fun q18 => if q18 = 0 then (lt_ (va_up σ 60 (upd (σ 60) 29 (1 : Int32))) (fun σ19 => some σ19)) else (lt_ (va_up σ 60 (upd (σ 60) 27 ((σ 60 27) + (1 : Int32)))) (fun σ20 => f_X8_step_84 n σ20))))
def f_X8_step_8   : Nat → ZI → Option (ZI)
  | 0, _ => none
  | n + 1, σ => (f_X8_byteAt σ (σ 60 27)).bind (fun q1 => if q1 = (32 : Int32) then (lt_ (va_up σ 60 (upd (σ 60) 27 ((σ 60 27) + (1 : Int32)))) (fun σ22 => f_X8_step_8 n σ22)) else (lt_ (va_up σ 60 (upd (σ 60) 28 (σ 60 27))) (fun σ2 => (f_X8_byteAt σ2 (σ2 60 27)).bind (fun q3 => lt_ (va_up σ2 60 (upd (σ2 60) 30 (0 : Int32))) (fun σ4 => if q3 = (-4 : Int32) then (lt_ (va_up σ4 60 (upd (σ4 60) 29 (0 : Int32))) (fun σ21 => some σ21)) else ((f_X8_in q3.toInt64 (97 : Int64) (122 : Int64)).bind (fun q5 => if q5 = 0 then ((f_X8_in q3.toInt64 (48 : Int64) (57 : Int64)).bind (fun q6 => if q6 = 0 then (lt_ (va_up σ4 60 (upd (σ4 60) 29 (3 : Int32))) (fun σ7 => lt_ (va_up σ7 60 (upd (σ7 60) 27 ((σ7 60 27) + (1 : Int32)))) (fun σ8 => if q3 = (59 : Int32) then (some σ8) else ((f_X8_fails σ8 (1 : Int32)).bind (fun q9 => some q9))))) else (f_X8_step_140 3000 σ4))) else (f_X8_step_84 3000 σ4))))))))
def f_X8_step (σ : ZI) : Option (ZI) := if (σ 60 25) ≤ 0 then (f_X8_step_8 3000 σ) else (some σ)
def f_X8_number_62 (a1 : Int32) (a2 : Int32)  (σ : ZI) (s0 : Int32) : Option (Int32 × ZI) := (f_X8_step σ).bind (fun q1 => some (s0, q1))
def f_X8_number_47 (a1 : Int32) (a2 : Int32)  (σ : ZI) : Option (Int32 × ZI) := if (σ 60 25) = 0 then (f_X8_number_62 a1 a2 σ (σ 60 30)) else (f_X8_number_62 a1 a2 σ a1)
def f_X8_number_20 (a1 : Int32) (a2 : Int32)  (σ : ZI) : Option (Int32 × ZI) := if (σ 60 25) = 0 then ((f_X8_in ((σ 60 30).toInt64) a1.toInt64 a2.toInt64).bind (fun q2 => if q2 = 0 then ((f_X8_fails σ (3 : Int32)).bind (fun q3 => f_X8_number_47 a1 a2 q3)) else (f_X8_number_47 a1 a2 σ))) else (f_X8_number_47 a1 a2 σ)
def f_X8_number (σ : ZI) (a1 : Int32) (a2 : Int32) : Option (Int32 × ZI) := if (σ 60 25) = 0 then (if (σ 60 29) = (2 : Int32) then (f_X8_number_20 a1 a2 σ) else ((f_X8_fails σ (2 : Int32)).bind (fun q4 => f_X8_number_20 a1 a2 q4))) else (f_X8_number_20 a1 a2 σ)
def f_X8_jointHere_74 (a1 : Int32)  (σ : ZI) (v2 : Int32) (s0 : Int32) : Option (Int32 × ZI) := lt_ (va_up σ 60 (upd (σ 60) 21 s0)) (fun σ2 => some (v2, σ2))
def f_X8_jointHere_49 (a1 : Int32)  (σ : ZI) : Option (Int32 × ZI) := (f_X8_number σ (1 : Int32) (10 : Int32)).bind (fun q1 => if q1.1 ≤ (q1.2 60 21) then (f_X8_jointHere_74 a1 q1.2 q1.1 (q1.2 60 21)) else (f_X8_jointHere_74 a1 q1.2 q1.1 q1.1))
def f_X8_jointHere (σ : ZI) (a1 : Int32) : Option (Int32 × ZI) := if (σ 60 25) = 0 then (if (σ 60 29) = (2 : Int32) then ((f_X8_in ((σ 60 30).toInt64) (1 : Int64) (10 : Int64)).bind (fun q3 => if q3 = 0 then (f_X8_jointHere_49 a1 σ) else (if ((a1 >>> (((σ 60 30) - (1 : Int32)) &&& 31)) &&& (1 : Int32)) = (1 : Int32) then ((f_X8_fails σ (4 : Int32)).bind (fun q4 => f_X8_jointHere_49 a1 q4)) else (f_X8_jointHere_49 a1 σ)))) else (f_X8_jointHere_49 a1 σ)) else (f_X8_jointHere_49 a1 σ)
def f_X8_readOnce (σ : ZI) (a1 : Int32) : Option (ZI) := if a1 = (0 : Int32) then ((f_X8_number σ (2 : Int32) (10 : Int32)).bind (fun q1 => lt_ (va_up q1.2 60 (upd (q1.2 60) 14 q1.1)) (fun σ2 => some σ2))) else (if a1 = (1 : Int32) then ((f_X8_jointHere σ (0 : Int32)).bind (fun q3 => lt_ (va_up q3.2 66 (upd (q3.2 66) 12 q3.1)) (fun σ4 => some σ4))) else (if a1 = (2 : Int32) then ((f_X8_number σ (0 : Int32) (10 : Int32)).bind (fun q5 => lt_ (va_up q5.2 66 (upd (q5.2 66) 13 (q5.1 - (1 : Int32)))) (fun σ6 => some σ6))) else (if a1 = (3 : Int32) then ((f_X8_number σ (1 : Int32) (9 : Int32)).bind (fun q7 => lt_ (va_up q7.2 66 (upd (q7.2 66) 14 (q7.1 - (5 : Int32)))) (fun σ8 => some σ8))) else (if a1 = (4 : Int32) then ((f_X8_number σ (1 : Int32) (10 : Int32)).bind (fun q9 => lt_ (va_up q9.2 66 (upd (q9.2 66) 15 (q9.1 - (2 : Int32)))) (fun σ10 => (f_X8_number σ10 ((σ10 66 15) + (3 : Int32)) (11 : Int32)).bind (fun q11 => lt_ (va_up q11.2 66 (upd (q11.2 66) 16 (q11.1 - (4 : Int32)))) (fun σ12 => some σ12))))) else (if a1 = (5 : Int32) then ((f_X8_number σ (0 : Int32) (9 : Int32)).bind (fun q13 => lt_ (va_up q13.2 70 (upd (q13.2 70) 0 q13.1)) (fun σ14 => (f_X8_number σ14 (0 : Int32) (9 : Int32)).bind (fun q15 => lt_ (va_up q15.2 70 (upd (q15.2 70) 1 q15.1)) (fun σ16 => some σ16))))) else ((f_X8_number σ (1 : Int32) (9 : Int32)).bind (fun q17 => lt_ (va_up q17.2 66 (upd (q17.2 66) 17 (q17.1 - (3 : Int32)))) (fun σ18 => some σ18))))))))
def f_X8_readMore_30 (a1 : Int32)  (σ : ZI) (v2 : Int32) : Option (ZI) := if inB (σ 60 15) 18 = true then (lt_ (va_up σ 66 (upd (σ 66) (σ 60 15).toNatClampNeg v2)) (fun σ15 => (f_X8_step σ15).bind (fun q16 => (f_X8_jointHere q16 (q16 60 19)).bind (fun q17 => lt_ (va_up q17.2 60 (upd (q17.2 60) 19 ((q17.2 60 19) ||| ((1 : Int32) <<< ((q17.1 - (1 : Int32)) &&& 31))))) (fun σ18 => if inB ((2 : Int32) * (σ18 60 15)) 6 = true then (lt_ (va_up σ18 67 (upd (σ18 67) ((2 : Int32) * (σ18 60 15)).toNatClampNeg q17.1)) (fun σ19 => (f_X8_number σ19 (0 : Int32) (9 : Int32)).bind (fun q20 => if inB (((2 : Int32) * (σ19 60 15)) + (1 : Int32)) 6 = true then (lt_ (va_up q20.2 67 (upd (q20.2 67) (((2 : Int32) * (σ19 60 15)) + (1 : Int32)).toNatClampNeg q20.1)) (fun σ21 => lt_ (va_up σ21 60 (upd (σ21 60) 15 ((σ21 60 15) + (1 : Int32)))) (fun σ22 => some σ22))) else none))) else none))))) else none
def f_X8_readMore (σ : ZI) (a1 : Int32) : Option (ZI) := if a1 = (7 : Int32) then ((f_X8_nameHere σ).bind (fun q14 => if (σ 60 25) = 0 then (if 0 ≤ (q14 - (11 : Int32)) then (f_X8_readMore_30 a1 σ (q14 - (11 : Int32))) else ((f_X8_fails σ (2 : Int32)).bind (fun q23 => f_X8_readMore_30 a1 q23 (q14 - (11 : Int32))))) else (f_X8_readMore_30 a1 σ (q14 - (11 : Int32))))) else (if a1 = (8 : Int32) then ((f_X8_jointHere σ (σ 60 20)).bind (fun q8 => lt_ (va_up q8.2 60 (upd (q8.2 60) 20 ((q8.2 60 20) ||| ((1 : Int32) <<< ((q8.1 - (1 : Int32)) &&& 31))))) (fun σ9 => if inB (σ9 60 16) 3 = true then (lt_ (va_up σ9 68 (upd (σ9 68) (σ9 60 16).toNatClampNeg q8.1)) (fun σ10 => (f_X8_number σ10 (0 : Int32) (10 : Int32)).bind (fun q11 => if inB ((3 : Int32) + (σ10 60 16)) 18 = true then (lt_ (va_up q11.2 66 (upd (q11.2 66) ((3 : Int32) + (σ10 60 16)).toNatClampNeg q11.1)) (fun σ12 => lt_ (va_up σ12 60 (upd (σ12 60) 16 ((σ12 60 16) + (1 : Int32)))) (fun σ13 => some σ13))) else none))) else none))) else (if a1 = (9 : Int32) then ((f_X8_number σ (0 : Int32) (99 : Int32)).bind (fun q3 => if inB ((6 : Int32) + (σ 60 17)) 18 = true then (lt_ (va_up q3.2 66 (upd (q3.2 66) ((6 : Int32) + (σ 60 17)).toNatClampNeg q3.1)) (fun σ4 => (f_X8_number σ4 (0 : Int32) (9 : Int32)).bind (fun q5 => if inB (σ4 60 17) 5 = true then (lt_ (va_up q5.2 69 (upd (q5.2 69) (σ4 60 17).toNatClampNeg q5.1)) (fun σ6 => lt_ (va_up σ6 60 (upd (σ6 60) 17 ((σ6 60 17) + (1 : Int32)))) (fun σ7 => some σ7))) else none))) else none)) else ((f_X8_jointHere σ (σ 66 11)).bind (fun q1 => lt_ (va_up q1.2 66 (upd (q1.2 66) 11 ((σ 66 11) ||| ((1 : Int32) <<< ((q1.1 - (1 : Int32)) &&& 31))))) (fun σ2 => some σ2)))))
def f_X8_readLine_156   (σ : ZI) : Option (ZI) := (f_X8_step σ).bind (fun q6 => some q6)
def f_X8_readLine_136   (σ : ZI) : Option (ZI) := if (σ 60 25) = 0 then (if (σ 60 29) = (3 : Int32) then (f_X8_readLine_156 σ) else ((f_X8_fails σ (2 : Int32)).bind (fun q7 => f_X8_readLine_156 q7))) else (f_X8_readLine_156 σ)
def f_X8_readLine_93   (σ : ZI) (v1 : Int32) : Option (ZI) := lt_ (va_up σ 60 (upd (σ 60) 18 ((σ 60 18) ||| ((1 : Int32) <<< (v1 &&& 31))))) (fun σ3 => (f_X8_step σ3).bind (fun q4 => if (q4 60 25) ≤ 0 then (if (6 : Int32) < v1 then ((f_X8_readMore q4 v1).bind (fun q5 => f_X8_readLine_136 q5)) else ((f_X8_readOnce q4 v1).bind (fun q8 => f_X8_readLine_136 q8))) else (some q4)))
def f_X8_readLine_70   (σ : ZI) (v1 : Int32) : Option (ZI) := if (6 : Int32) < v1 then (f_X8_readLine_93 σ v1) else (if (((σ 60 18) >>> (v1 &&& 31)) &&& (1 : Int32)) = (1 : Int32) then ((f_X8_fails σ (4 : Int32)).bind (fun q9 => f_X8_readLine_93 q9 v1)) else (f_X8_readLine_93 σ v1))
def f_X8_readLine_65   (σ : ZI) (v1 : Int32) : Option (ZI) := (f_X8_fails σ (5 : Int32)).bind (fun q10 => f_X8_readLine_70 q10 v1)
def f_X8_readLine_51   (σ : ZI) (v1 : Int32) : Option (ZI) := if v1 = (9 : Int32) then (if (σ 60 17) = (5 : Int32) then (f_X8_readLine_65 σ v1) else (f_X8_readLine_70 σ v1)) else (f_X8_readLine_70 σ v1)
def f_X8_readLine_37   (σ : ZI) (v1 : Int32) : Option (ZI) := if v1 = (8 : Int32) then (if (σ 60 16) = (3 : Int32) then (f_X8_readLine_65 σ v1) else (f_X8_readLine_51 σ v1)) else (f_X8_readLine_51 σ v1)
def f_X8_readLine (σ : ZI) : Option (ZI) := (f_X8_nameHere σ).bind (fun q1 => (f_X8_in q1.toInt64 (0 : Int64) (10 : Int64)).bind (fun q2 => if q2 = 0 then ((f_X8_fails σ (2 : Int32)).bind (fun q11 => some q11)) else (if q1 = (7 : Int32) then (if (σ 60 15) = (3 : Int32) then (f_X8_readLine_65 σ q1) else (f_X8_readLine_37 σ q1)) else (f_X8_readLine_37 σ q1))))
def f_X8_begins_67   : Nat → ZI → Int32 → Option (ZI)
  | 0, _, _ => none
  | n + 1, σ, v1 => if (18 : Int32) ≤ v1 then (some σ) else (if inB v1 18 = true then (lt_ (va_up σ 66 (upd (σ 66) v1.toNatClampNeg (0 : Int32))) (fun σ13 => f_X8_begins_67 n σ13 (v1 + (1 : Int32)))) else none)
def f_X8_begins (σ : ZI) : Option (ZI) := lt_ (va_up σ 60 (upd (σ 60) 25 (0 : Int32))) (fun σ1 => lt_ (va_up σ1 60 (upd (σ1 60) 27 (0 : Int32))) (fun σ2 => lt_ (va_up σ2 60 (upd (σ2 60) 14 (6 : Int32))) (fun σ3 => lt_ (va_up σ3 60 (upd (σ3 60) 15 (0 : Int32))) (fun σ4 => lt_ (va_up σ4 60 (upd (σ4 60) 16 (0 : Int32))) (fun σ5 => lt_ (va_up σ5 60 (upd (σ5 60) 17 (0 : Int32))) (fun σ6 => lt_ (va_up σ6 70 (upd (σ6 70) 0 (1 : Int32))) (fun σ7 => lt_ (va_up σ7 70 (upd (σ7 70) 1 (5 : Int32))) (fun σ8 => lt_ (va_up σ8 60 (upd (σ8 60) 18 (0 : Int32))) (fun σ9 => lt_ (va_up σ9 60 (upd (σ9 60) 19 (0 : Int32))) (fun σ10 => lt_ (va_up σ10 60 (upd (σ10 60) 20 (0 : Int32))) (fun σ11 => lt_ (va_up σ11 60 (upd (σ11 60) 21 (0 : Int32))) (fun σ12 => f_X8_begins_67 3000 σ12 (0 : Int32)))))))))))))
def f_X8_text_88   : Nat → ZI → Int32 → Int32 → Option (Int32 × ZI)
  | 0, _, _, _ => none
  | n + 1, σ, v1, v2 => if (18 : Int32) ≤ v2 then (lt_ (va_up σ 60 (upd (σ 60) 1 (σ 60 14))) (fun σ5 => lt_ (va_up σ5 60 (upd (σ5 60) 3 (σ5 60 15))) (fun σ6 => lt_ (va_up σ6 60 (upd (σ6 60) 5 (σ6 60 16))) (fun σ7 => lt_ (va_up σ7 60 (upd (σ7 60) 7 (σ7 60 17))) (fun σ8 => lt_ (va_up σ8 60 (upd (σ8 60) 41 (0 : Int32))) (fun σ9 => lt_ (va_up σ9 75 (upd (σ9 75) 0 (vp_nar .boolean (0 : Int32)))) (fun σ10 => lt_ (va_up σ10 75 (upd (σ10 75) 1 (vp_nar .boolean (0 : Int32)))) (fun σ11 => some (v1, σ11))))))))) else (if inB v2 18 = true then (if inB v2 90 = true then (lt_ (va_up σ 61 (upd (σ 61) v2.toNatClampNeg (σ 66 v2.toNatClampNeg))) (fun σ12 => if inB (v2 - v2 / (6 : Int32) * (6 : Int32)) 6 = true then (if inB (v2 - v2 / (6 : Int32) * (6 : Int32)) 6 = true then (lt_ (va_up σ12 62 (upd (σ12 62) (v2 - v2 / (6 : Int32) * (6 : Int32)).toNatClampNeg (σ12 67 (v2 - v2 / (6 : Int32) * (6 : Int32)).toNatClampNeg))) (fun σ13 => if inB (v2 - v2 / (3 : Int32) * (3 : Int32)) 3 = true then (if inB (v2 - v2 / (3 : Int32) * (3 : Int32)) 3 = true then (lt_ (va_up σ13 63 (upd (σ13 63) (v2 - v2 / (3 : Int32) * (3 : Int32)).toNatClampNeg (σ13 68 (v2 - v2 / (3 : Int32) * (3 : Int32)).toNatClampNeg))) (fun σ14 => if inB (v2 - v2 / (5 : Int32) * (5 : Int32)) 5 = true then (if inB (v2 - v2 / (5 : Int32) * (5 : Int32)) 5 = true then (lt_ (va_up σ14 64 (upd (σ14 64) (v2 - v2 / (5 : Int32) * (5 : Int32)).toNatClampNeg (σ14 69 (v2 - v2 / (5 : Int32) * (5 : Int32)).toNatClampNeg))) (fun σ15 => if inB (v2 - v2 / (2 : Int32) * (2 : Int32)) 2 = true then (if inB (v2 - v2 / (2 : Int32) * (2 : Int32)) 2 = true then (lt_ (va_up σ15 65 (upd (σ15 65) (v2 - v2 / (2 : Int32) * (2 : Int32)).toNatClampNeg (σ15 70 (v2 - v2 / (2 : Int32) * (2 : Int32)).toNatClampNeg))) (fun σ16 => f_X8_text_88 n σ16 v1 (v2 + (1 : Int32)))) else none) else none)) else none) else none)) else none) else none)) else none) else none)) else none) else none)
def f_X8_text_58   (σ : ZI) (v1 : Int32) : Option (Int32 × ZI) := lt_ (va_up σ 60 (upd (σ 60) 23 (0 : Int32))) (fun σ3 => lt_ (va_up σ3 60 (upd (σ3 60) 24 (σ3 60 25))) (fun σ4 => if (σ4 60 25) ≤ 0 then (f_X8_text_88 3000 σ4 v1 (0 : Int32)) else (some (((-10 : Int32) - (σ4 60 26)), σ4))))
def f_X8_text_34   (σ : ZI) (v1 : Int32) : Option (Int32 × ZI) := if (σ 60 25) = 0 then (if (σ 60 21) ≤ (σ 60 14) then (f_X8_text_58 σ v1) else ((f_X8_fails σ (6 : Int32)).bind (fun q17 => f_X8_text_58 q17 v1))) else (f_X8_text_58 σ v1)
def f_X8_text_10   : Nat → ZI → Int32 → Option (Int32 × ZI)
  | 0, _, _ => none
  | n + 1, σ, v1 => if (σ 60 25) = 0 then (if (σ 60 29) = 0 then (f_X8_text_34 σ v1) else ((f_X8_readLine σ).bind (fun q18 => f_X8_text_10 n q18 (v1 + (1 : Int32))))) else (f_X8_text_34 σ v1)
def f_X8_text (σ : ZI) : Option (Int32 × ZI) := (f_X8_begins σ).bind (fun q1 => (f_X8_step q1).bind (fun q2 => f_X8_text_10 3000 q2 (0 : Int32)))
def f_X8_fault (σ : ZI) : Option (Int32) := some (σ 60 24)
def f_X8_isJoint (σ : ZI) (a1 : Int32) : Option (Int32) := (f_X8_in a1.toInt64 (1 : Int64) ((σ 60 1).toInt64)).bind (fun q1 => if q1 = 0 ∨ q1 = 1 then some q1 else none)
def f_X8_isArm (σ : ZI) (a1 : Int32) : Option (Int32) := (f_X8_in a1.toInt64 (0 : Int64) (((σ 60 3) - (1 : Int32)).toInt64)).bind (fun q1 => if q1 = 0 ∨ q1 = 1 then some q1 else none)
def f_X8_slip (σ : ZI) : Option (Int32) := some ((σ 61 13) + (1 : Int32))
def f_X8_pace (σ : ZI) : Option (Int32) := some ((σ 61 14) + (5 : Int32))
def f_X8_handMany (σ : ZI) : Option (Int32) := some ((σ 61 17) + (3 : Int32))
def f_X8_rule (σ : ZI) (a1 : Int32) : Option (Int32) := if a1 = (0 : Int32) then (some (σ 60 1)) else (if a1 = (1 : Int32) then (some (σ 60 3)) else (if a1 = (2 : Int32) then (some (σ 60 5)) else (if a1 = (3 : Int32) then (some (σ 60 7)) else (if a1 = (4 : Int32) then (if inB (((11 : Int32) + a1) - (4 : Int32)) 90 = true then (some (σ 61 (((11 : Int32) + a1) - (4 : Int32)).toNatClampNeg)) else none) else (if a1 = (5 : Int32) then (if inB (((11 : Int32) + a1) - (4 : Int32)) 90 = true then (some (σ 61 (((11 : Int32) + a1) - (4 : Int32)).toNatClampNeg)) else none) else (if a1 = (6 : Int32) then ((f_X8_slip σ).bind (fun q1 => some q1)) else (if a1 = (7 : Int32) then ((f_X8_pace σ).bind (fun q2 => some q2)) else (if a1 = (8 : Int32) then (some ((σ 61 15) + (2 : Int32))) else (if a1 = (9 : Int32) then (some ((σ 61 16) + (4 : Int32))) else (if a1 = (10 : Int32) then (if inB (a1 - (10 : Int32)) 2 = true then (some (σ 65 (a1 - (10 : Int32)).toNatClampNeg)) else none) else (if a1 = (11 : Int32) then (if inB (a1 - (10 : Int32)) 2 = true then (some (σ 65 (a1 - (10 : Int32)).toNatClampNeg)) else none) else (if a1 = (12 : Int32) then ((f_X8_handMany σ).bind (fun q3 => some q3)) else (some (-1 : Int32))))))))))))))
def f_X8_holdsOf_82 (σ : ZI) (a1 : Int32)  (v3 : Int32) : Option (Int32) := if 0 ≤ v3 then (some v3) else (some (0 : Int32))
def f_X8_holdsOf_51 (σ : ZI) (a1 : Int32)  (s0 : Int32) (s1 : Int32) (s2 : Int32) : Option (Int32) := f_X8_holdsOf_82 σ a1 (s2 - (s1 + s0))
def f_X8_holdsOf_41 (σ : ZI) (a1 : Int32)  (v2 : Int32) (s0 : Int32) (s1 : Int32) : Option (Int32) := if v2 = (4 : Int32) then (f_X8_holdsOf_51 σ a1 (1 : Int32) s0 s1) else (f_X8_holdsOf_51 σ a1 (0 : Int32) s0 s1)
def f_X8_holdsOf_27 (σ : ZI) (a1 : Int32)  (v2 : Int32) (v3 : Int32) : Option (Int32) := (f_X8_pace σ).bind (fun q3 => if q3 < (5 : Int32) then (f_X8_holdsOf_41 σ a1 v2 (0 : Int32) v3) else (f_X8_holdsOf_41 σ a1 v2 (3 : Int32) v3))
def f_X8_holdsOf_79 (σ : ZI) (a1 : Int32)  (s0 : Int32) (s1 : Int32) (s2 : Int32) : Option (Int32) := f_X8_holdsOf_82 σ a1 (s2 - (s1 + s0))
def f_X8_holdsOf (σ : ZI) (a1 : Int32) : Option (Int32) := if inB a1 90 = true then ((f_X8_pace σ).bind (fun q1 => lt_ (((10 : Int32) - (q1 / (2 : Int32)))) (fun x2 => if (σ 61 a1.toNatClampNeg) = (1 : Int32) then (f_X8_holdsOf_27 σ a1 (σ 61 a1.toNatClampNeg) x2) else (if (σ 61 a1.toNatClampNeg) = (4 : Int32) then (f_X8_holdsOf_27 σ a1 (σ 61 a1.toNatClampNeg) x2) else (if (σ 61 a1.toNatClampNeg) ≤ (1 : Int32) then (f_X8_holdsOf_82 σ a1 x2) else ((f_X8_pace σ).bind (fun q4 => if (σ 61 a1.toNatClampNeg) = (3 : Int32) then (f_X8_holdsOf_79 σ a1 (1 : Int32) (q4 / (3 : Int32)) x2) else (f_X8_holdsOf_79 σ a1 (0 : Int32) (q4 / (3 : Int32)) x2)))))))) else none
def f_X8_arm (σ : ZI) (a1 : Int32) (a2 : Int32) : Option (Int32) := (f_X8_isArm σ a1).bind (fun q1 => if q1 = 0 then (some (-1 : Int32)) else (if a2 = (0 : Int32) then (if inB a1 90 = true then (some (σ 61 a1.toNatClampNeg)) else none) else (if a2 = (1 : Int32) then (if inB ((((2 : Int32) * a1) + a2) - (1 : Int32)) 6 = true then (some (σ 62 ((((2 : Int32) * a1) + a2) - (1 : Int32)).toNatClampNeg)) else none) else (if a2 = (2 : Int32) then (if inB ((((2 : Int32) * a1) + a2) - (1 : Int32)) 6 = true then (some (σ 62 ((((2 : Int32) * a1) + a2) - (1 : Int32)).toNatClampNeg)) else none) else (if a2 = (3 : Int32) then ((f_X8_holdsOf σ a1).bind (fun q2 => some q2)) else (some (-1 : Int32)))))))
def f_X8_mark (σ : ZI) (a1 : Int32) (a2 : Int32) : Option (Int32) := (f_X8_in a1.toInt64 (0 : Int64) (((σ 60 5) - (1 : Int32)).toInt64)).bind (fun q1 => if q1 = 0 then (some (-1 : Int32)) else ((f_X8_in a2.toInt64 (0 : Int64) (1 : Int64)).bind (fun q2 => if q2 = 0 then (some (-1 : Int32)) else (if a2 = 0 then (if inB a1 3 = true then (some (σ 63 a1.toNatClampNeg)) else none) else (if inB ((3 : Int32) + a1) 90 = true then (some (σ 61 ((3 : Int32) + a1).toNatClampNeg)) else none)))))
def f_X8_town (σ : ZI) (a1 : Int32) (a2 : Int32) : Option (Int32) := (f_X8_in a1.toInt64 (0 : Int64) (((σ 60 7) - (1 : Int32)).toInt64)).bind (fun q1 => if q1 = 0 then (some (-1 : Int32)) else ((f_X8_in a2.toInt64 (0 : Int64) (1 : Int64)).bind (fun q2 => if q2 = 0 then (some (-1 : Int32)) else (if a2 = 0 then (if inB ((6 : Int32) + a1) 90 = true then (some (σ 61 ((6 : Int32) + a1).toNatClampNeg)) else none) else (if inB a1 5 = true then (some (σ 64 a1.toNatClampNeg)) else none)))))
def f_X8_lays (σ : ZI) (a1 : Int32) (a2 : Int32) (a3 : Int32) (a4 : Int32) : Option (Int32 × ZI) := if a1 = 0 then (some ((-1 : Int32), σ)) else (if inB a2 90 = true then (lt_ (((σ 61 a2.toNatClampNeg) + a4)) (fun x1 => if inB a2 90 = true then (lt_ (va_up σ 61 (upd (σ 61) a2.toNatClampNeg (a3 - a4))) (fun σ2 => some (x1, σ2))) else none)) else none)
def f_X8_set (σ : ZI) (a1 : Int32) (a2 : Int32) : Option (Int32 × ZI) := if a1 = (0 : Int32) then ((f_X8_in a2.toInt64 (0 : Int64) (10 : Int64)).bind (fun q1 => (f_X8_lays σ q1 (13 : Int32) a2 (1 : Int32)).bind (fun q2 => some (q2.1, q2.2)))) else (if a1 = (1 : Int32) then ((f_X8_in a2.toInt64 (1 : Int64) (9 : Int64)).bind (fun q3 => (f_X8_lays σ q3 (17 : Int32) a2 (3 : Int32)).bind (fun q4 => some (q4.1, q4.2)))) else (if a1 = (2 : Int32) then ((f_X8_in a2.toInt64 (1 : Int64) (9 : Int64)).bind (fun q5 => (f_X8_lays σ q5 (14 : Int32) a2 (5 : Int32)).bind (fun q6 => some (q6.1, q6.2)))) else (some ((-1 : Int32), σ))))
def f_X8_net (σ : ZI) (a1 : Int32) (a2 : Int32) : Option (Int32 × ZI) := (f_X8_in a1.toInt64 (1 : Int64) (10 : Int64)).bind (fun q1 => if q1 = 0 then (some ((-1 : Int32), σ)) else ((f_X8_in a2.toInt64 (1 : Int64) (11 : Int64)).bind (fun q2 => if q2 = 0 then (some ((-1 : Int32), σ)) else (if a1 < a2 then (lt_ (va_up σ 61 (upd (σ 61) 16 (a2 - (4 : Int32)))) (fun σ3 => (f_X8_lays σ3 (1 : Int32) (15 : Int32) a1 (2 : Int32)).bind (fun q4 => some (q4.1, q4.2)))) else (some ((-1 : Int32), σ))))))
def f_X8_signal_58 (a1 : Int32) (a2 : Int32)  (σ : ZI) (v3 : Int32) (s0 : Int32) (s1 : Int32) (s2 : Int32) : Option (Int32 × ZI) := if inB s2 90 = true then (lt_ (va_up σ 61 (upd (σ 61) s2.toNatClampNeg (s1 ||| s0))) (fun σ3 => some (v3, σ3))) else none
def f_X8_signal (σ : ZI) (a1 : Int32) (a2 : Int32) : Option (Int32 × ZI) := (f_X8_isJoint σ a1).bind (fun q1 => if q1 = 0 then (some ((-1 : Int32), σ)) else (lt_ ((((σ 61 11) >>> ((a1 - (1 : Int32)) &&& 31)) &&& (1 : Int32))) (fun x2 => if a2 = 0 then (f_X8_signal_58 a1 a2 σ x2 (0 : Int32) ((σ 61 11) &&& (((1 : Int32) <<< ((a1 - (1 : Int32)) &&& 31)) ^^^ (-1 : Int32))) (11 : Int32)) else (f_X8_signal_58 a1 a2 σ x2 ((1 : Int32) <<< ((a1 - (1 : Int32)) &&& 31)) ((σ 61 11) &&& (((1 : Int32) <<< ((a1 - (1 : Int32)) &&& 31)) ^^^ (-1 : Int32))) (11 : Int32)))))
def f_X8_bridge (σ : ZI) (a1 : Int32) : Option (Int32 × ZI) := (f_X8_in a1.toInt64 (0 : Int64) ((σ 60 1).toInt64)).bind (fun q1 => (f_X8_lays σ q1 (12 : Int32) a1 (0 : Int32)).bind (fun q2 => some (q2.1, q2.2)))
def f_X8_clear_34 (a1 : Int32) (a2 : Int32)  (σ : ZI) (s0 : Int32) : Option (Int32 × ZI) := (f_X8_lays σ s0 ((3 : Int32) + a1) a2 (0 : Int32)).bind (fun q2 => some (q2.1, q2.2))
def f_X8_clear_33 (a1 : Int32) (a2 : Int32)  (σ : ZI) : Option (Int32 × ZI) := f_X8_clear_34 a1 a2 σ (0 : Int32)
def f_X8_clear (σ : ZI) (a1 : Int32) (a2 : Int32) : Option (Int32 × ZI) := (f_X8_in a1.toInt64 (0 : Int64) (((σ 60 5) - (1 : Int32)).toInt64)).bind (fun q1 => if q1 = 0 then (f_X8_clear_33 a1 a2 σ) else ((f_X8_in a2.toInt64 (0 : Int64) (10 : Int64)).bind (fun q3 => if q3 = 0 then (f_X8_clear_33 a1 a2 σ) else (f_X8_clear_34 a1 a2 σ (1 : Int32)))))
def f_X8_hang_26 (a1 : Int32) (a2 : Int32)  (σ : ZI) (s0 : Int32) : Option (Int32 × ZI) := (f_X8_lays σ s0 a1 a2 (0 : Int32)).bind (fun q2 => some (q2.1, q2.2))
def f_X8_hang_25 (a1 : Int32) (a2 : Int32)  (σ : ZI) : Option (Int32 × ZI) := f_X8_hang_26 a1 a2 σ (0 : Int32)
def f_X8_hang (σ : ZI) (a1 : Int32) (a2 : Int32) : Option (Int32 × ZI) := (f_X8_isArm σ a1).bind (fun q1 => if q1 = 0 then (f_X8_hang_25 a1 a2 σ) else ((f_X8_in a2.toInt64 (0 : Int64) (4 : Int64)).bind (fun q3 => if q3 = 0 then (f_X8_hang_25 a1 a2 σ) else (f_X8_hang_26 a1 a2 σ (1 : Int32)))))
def f_X8_posts (σ : ZI) (a1 : Int32) (a2 : Int32) : Option (Int32 × ZI) := (f_X8_in a1.toInt64 (0 : Int64) (((σ 60 7) - (1 : Int32)).toInt64)).bind (fun q1 => if q1 = 0 then (some ((-1 : Int32), σ)) else ((f_X8_in a2.toInt64 (0 : Int64) (99 : Int64)).bind (fun q2 => if q2 = 0 then (some ((-1 : Int32), σ)) else (if inB ((6 : Int32) + a1) 90 = true then (if ((σ 61 ((6 : Int32) + a1).toNatClampNeg) + a2) ≤ (99 : Int32) then (if inB ((6 : Int32) + a1) 90 = true then (if inB ((6 : Int32) + a1) 90 = true then (lt_ (va_up σ 61 (upd (σ 61) ((6 : Int32) + a1).toNatClampNeg ((σ 61 ((6 : Int32) + a1).toNatClampNeg) + a2))) (fun σ3 => if inB ((6 : Int32) + a1) 90 = true then (some ((σ3 61 ((6 : Int32) + a1).toNatClampNeg), σ3)) else none)) else none) else none) else (some ((-3 : Int32), σ))) else none))))
def f_X8_post (σ : ZI) (a1 : Int32) (a2 : Int32) : Option (Int32 × ZI) := (f_X8_posts σ a1 a2).bind (fun q1 => some (q1.1, q1.2))
def f_X8_counted_67 (a1 : Int32) (a2 : Int32) (a3 : Int32) (k_28 : ZI → Int32 → Option (ZI)) (σ : ZI) (v4 : Int32) (s0 : Int32) : Option (ZI) := lt_ (va_up σ 60 (upd (σ 60) 33 s0)) (fun σ2 => k_28 σ2 (v4 + (1 : Int32)))
def f_X8_counted_63 (a1 : Int32) (a2 : Int32) (a3 : Int32) (k_28 : ZI → Int32 → Option (ZI)) (σ : ZI) (v4 : Int32) : Option (ZI) := f_X8_counted_67 a1 a2 a3 k_28 σ v4 (σ 60 33)
def f_X8_counted_28 (a1 : Int32) (a2 : Int32) (a3 : Int32)  : Nat → ZI → Int32 → Option (ZI)
  | 0, _, _ => none
  | n + 1, σ, v4 => if (σ 60 5) ≤ v4 then (some σ) else (if inB v4 3 = true then (if (σ 63 v4.toNatClampNeg) = a3 then (if ((a2 >>> (v4 &&& 31)) &&& (1 : Int32)) = (1 : Int32) then (f_X8_counted_67 a1 a2 a3 (fun σ v4 => f_X8_counted_28 a1 a2 a3 n σ v4) σ v4 a3) else (f_X8_counted_63 a1 a2 a3 (fun σ v4 => f_X8_counted_28 a1 a2 a3 n σ v4) σ v4)) else (f_X8_counted_63 a1 a2 a3 (fun σ v4 => f_X8_counted_28 a1 a2 a3 n σ v4) σ v4)) else none)
def f_X8_counted_21 (a1 : Int32) (a2 : Int32) (a3 : Int32)  (σ : ZI) (s0 : Int32) (s1 : Int32) : Option (ZI) := lt_ (va_up σ 60 (upd (σ 60) 33 (s1 + s0))) (fun σ1 => f_X8_counted_28 a1 a2 a3 3000 σ1 (0 : Int32))
def f_X8_counted (σ : ZI) (a1 : Int32) (a2 : Int32) (a3 : Int32) : Option (ZI) := if ((a1 >>> ((a3 - (1 : Int32)) &&& 31)) &&& (1 : Int32)) = (1 : Int32) then (f_X8_counted_21 a1 a2 a3 σ (0 : Int32) (σ 60 33)) else (f_X8_counted_21 a1 a2 a3 σ (1 : Int32) (σ 60 33))
def f_X8_nights_233 (a1 : Int32) (a2 : Int32) (k_42 : ZI → Int32 → Int32 → Option (ZI)) (σ : ZI) (v3 : Int32) (v4 : Int32) : Option (ZI) := k_42 σ v3 (v4 + (1 : Int32))
def f_X8_nights_204 (a1 : Int32) (a2 : Int32) (k_168 : ZI → Int32 → Int32 → Int32 → Option (ZI)) (σ : ZI) (v3 : Int32) (v4 : Int32) (v5 : Int32) (s0 : Int32) (s1 : Int32) : Option (ZI) := lt_ (va_up σ 60 (upd (σ 60) 36 (s1 ||| s0))) (fun σ12 => k_168 σ12 v3 v4 (v5 + (1 : Int32)))
def f_X8_nights_168 (a1 : Int32) (a2 : Int32) (k_42 : ZI → Int32 → Int32 → Option (ZI)) : Nat → ZI → Int32 → Int32 → Int32 → Option (ZI)
  | 0, _, _, _, _ => none
  | n + 1, σ, v3, v4, v5 => if (σ 60 3) ≤ v5 then (if (σ 61 12) = v4 then (lt_ (va_up σ 60 (upd (σ 60) 38 (1 : Int32))) (fun σ11 => f_X8_nights_233 a1 a2 k_42 σ11 (0 : Int32) v4)) else (f_X8_nights_233 a1 a2 k_42 σ v3 v4)) else (if inB ((2 : Int32) * v5) 6 = true then (if (σ 62 ((2 : Int32) * v5).toNatClampNeg) = v4 then (f_X8_nights_204 a1 a2 (fun σ v3 v4 v5 => f_X8_nights_168 a1 a2 k_42 n σ v3 v4 v5) σ v3 v4 v5 ((1 : Int32) <<< (v5 &&& 31)) (σ 60 36)) else (f_X8_nights_204 a1 a2 (fun σ v3 v4 v5 => f_X8_nights_168 a1 a2 k_42 n σ v3 v4 v5) σ v3 v4 v5 (0 : Int32) (σ 60 36))) else none)
def f_X8_nights_123 (a1 : Int32) (a2 : Int32) (k_42 : ZI → Int32 → Int32 → Option (ZI)) (σ : ZI) (v3 : Int32) (v4 : Int32) : Option (ZI) := if v3 = 0 then (f_X8_nights_233 a1 a2 k_42 σ v3 v4) else (lt_ (va_up σ 60 (upd (σ 60) 39 ((σ 60 39) ||| ((1 : Int32) <<< ((v4 - (1 : Int32)) &&& 31))))) (fun σ9 => lt_ (va_up σ9 60 (upd (σ9 60) 37 ((σ9 60 37) ||| ((σ9 61 11) &&& ((1 : Int32) <<< ((v4 - (1 : Int32)) &&& 31)))))) (fun σ10 => f_X8_nights_168 a1 a2 k_42 3000 σ10 v3 v4 (0 : Int32))))
def f_X8_nights_95 (a1 : Int32) (a2 : Int32) (k_42 : ZI → Int32 → Int32 → Option (ZI)) (σ : ZI) (v3 : Int32) (v4 : Int32) : Option (ZI) := if v3 = 0 then (f_X8_nights_123 a1 a2 k_42 σ v3 v4) else (if (σ 60 33) < ((σ 61 16) + (4 : Int32)) then (f_X8_nights_123 a1 a2 k_42 σ v3 v4) else (lt_ (va_up σ 60 (upd (σ 60) 35 v4)) (fun σ13 => f_X8_nights_123 a1 a2 k_42 σ13 (0 : Int32) v4)))
def f_X8_nights_42 (a1 : Int32) (a2 : Int32)  : Nat → ZI → Int32 → Int32 → Option (ZI)
  | 0, _, _, _ => none
  | n + 1, σ, v3, v4 => if (σ 60 1) < v4 then (some σ) else ((f_X8_counted σ a1 a2 v4).bind (fun q8 => if (q8 60 34) = (-4 : Int32) then (if (q8 60 33) < ((q8 61 15) + (2 : Int32)) then (f_X8_nights_95 a1 a2 (fun σ v3 v4 => f_X8_nights_42 a1 a2 n σ v3 v4) q8 v3 v4) else (lt_ (va_up q8 60 (upd (q8 60) 34 v4)) (fun σ14 => f_X8_nights_123 a1 a2 (fun σ v3 v4 => f_X8_nights_42 a1 a2 n σ v3 v4) σ14 (1 : Int32) v4))) else (f_X8_nights_95 a1 a2 (fun σ v3 v4 => f_X8_nights_42 a1 a2 n σ v3 v4) q8 v3 v4)))
def f_X8_nights (σ : ZI) (a1 : Int32) (a2 : Int32) : Option (ZI) := lt_ (va_up σ 60 (upd (σ 60) 33 (0 : Int32))) (fun σ1 => lt_ (va_up σ1 60 (upd (σ1 60) 34 (-4 : Int32))) (fun σ2 => lt_ (va_up σ2 60 (upd (σ2 60) 35 (-4 : Int32))) (fun σ3 => lt_ (va_up σ3 60 (upd (σ3 60) 36 (0 : Int32))) (fun σ4 => lt_ (va_up σ4 60 (upd (σ4 60) 37 (0 : Int32))) (fun σ5 => lt_ (va_up σ5 60 (upd (σ5 60) 38 (0 : Int32))) (fun σ6 => lt_ (va_up σ6 60 (upd (σ6 60) 39 (0 : Int32))) (fun σ7 => f_X8_nights_42 a1 a2 3000 σ7 (0 : Int32) (1 : Int32))))))))
def f_X8_nightTold (σ : ZI) (a1 : Int32) : Option (Int32) := if a1 = 0 then (some (σ 60 34)) else (if a1 = (1 : Int32) then (some (σ 60 35)) else (if a1 = (2 : Int32) then (some (σ 60 36)) else (if a1 = (3 : Int32) then (some (σ 60 37)) else (if a1 = (4 : Int32) then (some (σ 60 38)) else (some (σ 60 33))))))
def f_X8_areSets (σ : ZI) (a1 : Int32) (a2 : Int32) : Option (Int32) := (f_X8_in a1.toInt64 (0 : Int64) ((((1 : Int32) <<< ((σ 60 1) &&& 31)) - (1 : Int32)).toInt64)).bind (fun q1 => if q1 = 0 then (some (0 : Int32)) else ((f_X8_in a2.toInt64 (0 : Int64) ((((1 : Int32) <<< ((σ 60 5) &&& 31)) - (1 : Int32)).toInt64)).bind (fun q2 => if q2 = 0 then (some (0 : Int32)) else (some (1 : Int32)))))
def f_X8_night (σ : ZI) (a1 : Int32) (a2 : Int32) (a3 : Int32) : Option (Int32 × ZI) := (f_X8_areSets σ a1 a2).bind (fun q1 => if q1 = 0 then (some ((-1 : Int32), σ)) else ((f_X8_in a3.toInt64 (0 : Int64) (5 : Int64)).bind (fun q2 => if q2 = 0 then (some ((-1 : Int32), σ)) else ((f_X8_nights σ a1 a2).bind (fun q3 => (f_X8_nightTold q3 a3).bind (fun q4 => some (q4, q3)))))))
def f_X8_countAt_8 (a1 : Int32) (a2 : Int32) (a3 : Int32)  : Nat → ZI → Int32 → Option (Int32 × ZI)
  | 0, _, _ => none
  | n + 1, σ, v4 => if a3 < v4 then (some ((σ 60 33), σ)) else ((f_X8_counted σ a1 a2 v4).bind (fun q2 => f_X8_countAt_8 a1 a2 a3 n q2 (v4 + (1 : Int32))))
def f_X8_countAt (σ : ZI) (a1 : Int32) (a2 : Int32) (a3 : Int32) : Option (Int32 × ZI) := lt_ (va_up σ 60 (upd (σ 60) 33 (0 : Int32))) (fun σ1 => f_X8_countAt_8 a1 a2 a3 3000 σ1 (1 : Int32))
def f_X8_counts (σ : ZI) (a1 : Int32) (a2 : Int32) (a3 : Int32) : Option (Int32 × ZI) := (f_X8_areSets σ a1 a2).bind (fun q1 => if q1 = 0 then (some ((-1 : Int32), σ)) else ((f_X8_in a3.toInt64 (0 : Int64) ((σ 60 1).toInt64)).bind (fun q2 => if q2 = 0 then (some ((-1 : Int32), σ)) else ((f_X8_countAt σ a1 a2 a3).bind (fun q3 => some (q3.1, q3.2))))))
def f_X8_bitsOf_4 (a1 : Int32)  : Nat → Int32 → Int32 → Option (Int32)
  | 0, _, _ => none
  | n + 1, v1, v2 => if (10 : Int32) ≤ v2 then (some v1) else (lt_ ((v1 + ((a1 >>> (v2 &&& 31)) &&& (1 : Int32)))) (fun x1 => f_X8_bitsOf_4 a1 n x1 (v2 + (1 : Int32))))
def f_X8_bitsOf (a1 : Int32) : Option (Int32) := f_X8_bitsOf_4 a1 3000 (0 : Int32) (0 : Int32)
def f_X8_weightOf_98 (σ : ZI) (a1 : Int32) (a2 : Int32) (k_52 : Int64 → Int32 → Option (Int64)) (v5 : Int32) (s0 : Int64) (s1 : Int64) : Option (Int64) := k_52 (s1 * s0) (v5 + (1 : Int32))
def f_X8_weightOf_52 (σ : ZI) (a1 : Int32) (a2 : Int32)  : Nat → Int64 → Int32 → Option (Int64)
  | 0, _, _ => none
  | n + 1, v3, v5 => if (σ 60 5) ≤ v5 then (some v3) else (if ((a2 >>> (v5 &&& 31)) &&& (1 : Int32)) = (1 : Int32) then (if inB ((3 : Int32) + v5) 90 = true then (f_X8_weightOf_98 σ a1 a2 (fun v3 v5 => f_X8_weightOf_52 σ a1 a2 n v3 v5) v5 ((σ 61 ((3 : Int32) + v5).toNatClampNeg).toInt64) v3) else none) else (if inB ((3 : Int32) + v5) 90 = true then (f_X8_weightOf_98 σ a1 a2 (fun v3 v5 => f_X8_weightOf_52 σ a1 a2 n v3 v5) v5 (((10 : Int32) - (σ 61 ((3 : Int32) + v5).toNatClampNeg)).toInt64) v3) else none))
def f_X8_weightOf_41 (σ : ZI) (a1 : Int32) (a2 : Int32) (k_5 : Int64 → Int32 → Option (Int64)) (v5 : Int32) (s0 : Int64) (s1 : Int64) : Option (Int64) := k_5 (s1 * s0) (v5 + (1 : Int32))
def f_X8_weightOf_5 (σ : ZI) (a1 : Int32) (a2 : Int32)  : Nat → Int64 → Int32 → Option (Int64)
  | 0, _, _ => none
  | n + 1, v3, v5 => if (σ 60 1) ≤ v5 then (f_X8_weightOf_52 σ a1 a2 3000 v3 (0 : Int32)) else (if ((a1 >>> (v5 &&& 31)) &&& (1 : Int32)) = (1 : Int32) then ((f_X8_slip σ).bind (fun q2 => f_X8_weightOf_41 σ a1 a2 (fun v3 v5 => f_X8_weightOf_5 σ a1 a2 n v3 v5) v5 q2.toInt64 v3)) else ((f_X8_slip σ).bind (fun q1 => f_X8_weightOf_41 σ a1 a2 (fun v3 v5 => f_X8_weightOf_5 σ a1 a2 n v3 v5) v5 (((10 : Int32) - q1).toInt64) v3)))
def f_X8_weightOf (σ : ZI) (a1 : Int32) (a2 : Int32) : Option (Int64) := f_X8_weightOf_5 σ a1 a2 3000 (1 : Int64) (0 : Int32)
def f_X8_lowest_52 (a1 : Int64) (a2 : Int64) (a3 : Int32)  (v5 : Int64) (s0 : Int64) : Option (Int64) := if v5 = 0 then none else (some (s0 / v5))
def f_X8_lowest_17 (a1 : Int64) (a2 : Int64) (a3 : Int32)  : Nat → Int64 → Int64 → Option (Int64)
  | 0, _, _ => none
  | n + 1, v5, v7 => if (lg_cmp v7 (0 : Int64)) = 0 then (if a3 = 0 then (f_X8_lowest_52 a1 a2 a3 v5 a1) else (f_X8_lowest_52 a1 a2 a3 v5 a2)) else (if v7 = 0 then none else (f_X8_lowest_17 a1 a2 a3 n v7 (v5 - v5 / v7 * v7)))
def f_X8_lowest_12 (a1 : Int64) (a2 : Int64) (a3 : Int32)  (s0 : Int64) : Option (Int64) := f_X8_lowest_17 a1 a2 a3 3000 s0 a2
def f_X8_lowest (a1 : Int64) (a2 : Int64) (a3 : Int32) : Option (Int64) := if 0 ≤ (lg_cmp a1 (0 : Int64)) then (f_X8_lowest_12 a1 a2 a3 a1) else (f_X8_lowest_12 a1 a2 a3 (-a1))
def f_X8_worthNow_76 (σ : ZI) (k_35 : Int32 → Int32 → Option (Int32)) (v2 : Int32) (s0 : Int32) (s1 : Int32) : Option (Int32) := k_35 (s1 + s0) (v2 + (1 : Int32))
def f_X8_worthNow_35 (σ : ZI)  : Nat → Int32 → Int32 → Option (Int32)
  | 0, _, _ => none
  | n + 1, v1, v2 => if (σ 60 3) ≤ v2 then (some v1) else (if (((σ 60 36) >>> (v2 &&& 31)) &&& (1 : Int32)) = (1 : Int32) then (if inB (((2 : Int32) * v2) + (1 : Int32)) 6 = true then ((f_X8_holdsOf σ v2).bind (fun q3 => f_X8_worthNow_76 σ (fun v1 v2 => f_X8_worthNow_35 σ n v1 v2) v2 ((σ 62 (((2 : Int32) * v2) + (1 : Int32)).toNatClampNeg) * q3) v1)) else none) else (f_X8_worthNow_76 σ (fun v1 v2 => f_X8_worthNow_35 σ n v1 v2) v2 (0 : Int32) v1))
def f_X8_worthNow (σ : ZI) : Option (Int32) := (f_X8_bitsOf (σ 60 37)).bind (fun q1 => lt_ (((((-10 : Int32) * (σ 65 0)) * q1) - (((10 : Int32) * (σ 65 1)) * (σ 60 38)))) (fun x2 => f_X8_worthNow_35 σ 3000 x2 (0 : Int32)))
def f_X8_isAsSeen_52 (a1 : Int32) (a2 : Int32) (k_5 : ZI → Int32 → Int32 → Option (Int32 × ZI)) (σ : ZI) (v4 : Int32) (s0 : Int32) : Option (Int32 × ZI) := k_5 σ s0 (v4 + (1 : Int32))
def f_X8_isAsSeen_5 (a1 : Int32) (a2 : Int32)  : Nat → ZI → Int32 → Int32 → Option (Int32 × ZI)
  | 0, _, _, _ => none
  | n + 1, σ, v3, v4 => if (σ 60 41) ≤ v4 then (if v3 = 0 ∨ v3 = 1 then some (v3, σ) else none) else (if v3 = 0 then (if v3 = 0 ∨ v3 = 1 then some (v3, σ) else none) else (if inB ((2 : Int32) * v4) 12 = true then ((f_X8_countAt σ a1 a2 (σ 74 ((2 : Int32) * v4).toNatClampNeg)).bind (fun q1 => if inB (((2 : Int32) * v4) + (1 : Int32)) 12 = true then (if q1.1 = (q1.2 74 (((2 : Int32) * v4) + (1 : Int32)).toNatClampNeg) then (f_X8_isAsSeen_52 a1 a2 (fun σ v3 v4 => f_X8_isAsSeen_5 a1 a2 n σ v3 v4) q1.2 v4 (1 : Int32)) else (f_X8_isAsSeen_52 a1 a2 (fun σ v3 v4 => f_X8_isAsSeen_5 a1 a2 n σ v3 v4) q1.2 v4 (0 : Int32))) else none)) else none))
def f_X8_isAsSeen (σ : ZI) (a1 : Int32) (a2 : Int32) : Option (Int32 × ZI) := f_X8_isAsSeen_5 a1 a2 3000 σ (1 : Int32) (0 : Int32)
def f_X8_valueOf (σ : ZI) (a1 : Int32) (a2 : Int32) (a3 : Int32) (a4 : Int32) (a5 : Int32) : Option (Int32 × ZI) := if a1 = (0 : Int32) then ((f_X8_countAt σ a4 a5 a2).bind (fun q1 => if q1.1 = a3 then (some ((1 : Int32), q1.2)) else (some ((0 : Int32), q1.2)))) else (if a1 = (1 : Int32) then (if (σ 60 34) = a2 then (some ((1 : Int32), σ)) else (some ((0 : Int32), σ))) else (if a1 = (2 : Int32) then (some ((((σ 60 39) >>> ((a2 - (1 : Int32)) &&& 31)) &&& (1 : Int32)), σ)) else (if a1 = (3 : Int32) then ((f_X8_holdsOf σ a2).bind (fun q2 => some (((((σ 60 36) >>> (a2 &&& 31)) &&& (1 : Int32)) * q2), σ))) else (if a1 = (4 : Int32) then ((f_X8_bitsOf (σ 60 37)).bind (fun q3 => some (q3, σ))) else (if a1 = (5 : Int32) then (some ((σ 60 38), σ)) else (if a1 = (6 : Int32) then ((f_X8_worthNow σ).bind (fun q4 => some (q4, σ))) else ((f_X8_isAsSeen σ a4 a5).bind (fun q5 => if q5.1 = 0 then (some ((0 : Int32), q5.2)) else (some ((1 : Int32), q5.2))))))))))
def f_X8_sumOf_76 (a1 : Int32) (a2 : Int32) (a3 : Int32) (k_20 : ZI → Int64 → Int32 → Int32 → Option (Int64 × ZI)) (σ : ZI) (v4 : Int64) (v6 : Int32) (v7 : Int32) : Option (Int64 × ZI) := k_20 σ v4 v6 (v7 + (1 : Int32))
def f_X8_sumOf_20 (a1 : Int32) (a2 : Int32) (a3 : Int32) (k_6 : ZI → Int64 → Int32 → Option (Int64 × ZI)) : Nat → ZI → Int64 → Int32 → Int32 → Option (Int64 × ZI)
  | 0, _, _, _, _ => none
  | n + 1, σ, v4, v6, v7 => if ((1 : Int32) <<< ((σ 60 5) &&& 31)) ≤ v7 then (k_6 σ v4 (v6 + (1 : Int32))) else ((f_X8_weightOf σ v6 v7).bind (fun q1 => if (lg_cmp q1 (0 : Int64)) = 0 then (f_X8_sumOf_76 a1 a2 a3 (fun σ v4 v6 v7 => f_X8_sumOf_20 a1 a2 a3 k_6 n σ v4 v6 v7) σ v4 v6 v7) else ((f_X8_nights σ v6 v7).bind (fun q2 => (f_X8_valueOf q2 a1 a2 a3 v6 v7).bind (fun q3 => lt_ ((v4 + (q1 * q3.1.toInt64))) (fun x4 => f_X8_sumOf_76 a1 a2 a3 (fun σ v4 v6 v7 => f_X8_sumOf_20 a1 a2 a3 k_6 n σ v4 v6 v7) q3.2 x4 v6 v7))))))
def f_X8_sumOf_6 (a1 : Int32) (a2 : Int32) (a3 : Int32)  : Nat → ZI → Int64 → Int32 → Option (Int64 × ZI)
  | 0, _, _, _ => none
  | n + 1, σ, v4, v6 => if ((1 : Int32) <<< ((σ 60 1) &&& 31)) ≤ v6 then (some (v4, σ)) else (f_X8_sumOf_20 a1 a2 a3 (fun σ v4 v6 => f_X8_sumOf_6 a1 a2 a3 n σ v4 v6) 3000 σ v4 v6 (0 : Int32))
def f_X8_sumOf (σ : ZI) (a1 : Int32) (a2 : Int32) (a3 : Int32) : Option (Int64 × ZI) := f_X8_sumOf_6 a1 a2 a3 3000 σ (0 : Int64) (0 : Int32)
def f_X8_allWeight_23 (σ : ZI) (a1 : Int32)  : Nat → Int64 → Int32 → Option (Int64)
  | 0, _, _ => none
  | n + 1, v2, v4 => if v4 ≤ 0 then (some v2) else (f_X8_allWeight_23 σ a1 n (v2 * (10 : Int64)) (v4 + (-1 : Int32)))
def f_X8_allWeight_11 (σ : ZI) (a1 : Int32)  (s0 : Int64) : Option (Int64) := f_X8_allWeight_23 σ a1 3000 s0 ((σ 60 1) + (σ 60 5))
def f_X8_allWeight (σ : ZI) (a1 : Int32) : Option (Int64) := if a1 = 0 then (f_X8_allWeight_11 σ a1 (1 : Int64)) else (f_X8_allWeight_11 σ a1 (10 : Int64))
def f_X8_meanOf_24 (a1 : Int32) (a2 : Int32) (a3 : Int32) (a4 : Int32)  (σ : ZI) (s0 : Int32) (s2 : Int64) : Option (Int64 × ZI) := (f_X8_allWeight σ s0).bind (fun q2 => (f_X8_lowest s2 q2 a4).bind (fun q3 => some (q3, σ)))
def f_X8_meanOf_19 (a1 : Int32) (a2 : Int32) (a3 : Int32) (a4 : Int32)  (σ : ZI) (s1 : Int64) : Option (Int64 × ZI) := f_X8_meanOf_24 a1 a2 a3 a4 σ (1 : Int32) s1
def f_X8_meanOf (σ : ZI) (a1 : Int32) (a2 : Int32) (a3 : Int32) (a4 : Int32) : Option (Int64 × ZI) := (f_X8_sumOf σ a1 a2 a3).bind (fun q1 => if a1 = (3 : Int32) then (f_X8_meanOf_19 a1 a2 a3 a4 q1.2 q1.1) else (if a1 = (6 : Int32) then (f_X8_meanOf_19 a1 a2 a3 a4 q1.2 q1.1) else (f_X8_meanOf_24 a1 a2 a3 a4 q1.2 (0 : Int32) q1.1)))
def f_X8_where (σ : ZI) (a1 : Int32) (a2 : Int32) (a3 : Int32) : Option (Int64 × ZI) := (f_X8_in a1.toInt64 (0 : Int64) ((σ 60 1).toInt64)).bind (fun q1 => if q1 = 0 then (some ((-1 : Int64), σ)) else ((f_X8_in a2.toInt64 (0 : Int64) (10 : Int64)).bind (fun q2 => if q2 = 0 then (some ((-1 : Int64), σ)) else ((f_X8_in a3.toInt64 (0 : Int64) (1 : Int64)).bind (fun q3 => if q3 = 0 then (some ((-1 : Int64), σ)) else ((f_X8_meanOf σ (0 : Int32) a1 a2 a3).bind (fun q4 => some (q4.1, q4.2))))))))
def f_X8_goes (σ : ZI) (a1 : Int32) (a2 : Int32) : Option (Int64 × ZI) := (f_X8_isJoint σ a1).bind (fun q1 => if q1 = 0 then (some ((-1 : Int64), σ)) else ((f_X8_in a2.toInt64 (0 : Int64) (1 : Int64)).bind (fun q2 => if q2 = 0 then (some ((-1 : Int64), σ)) else ((f_X8_meanOf σ (1 : Int32) a1 (0 : Int32) a2).bind (fun q3 => some (q3.1, q3.2))))))
def f_X8_isOut (σ : ZI) (a1 : Int32) (a2 : Int32) : Option (Int64 × ZI) := (f_X8_isJoint σ a1).bind (fun q1 => if q1 = 0 then (some ((-1 : Int64), σ)) else ((f_X8_in a2.toInt64 (0 : Int64) (1 : Int64)).bind (fun q2 => if q2 = 0 then (some ((-1 : Int64), σ)) else ((f_X8_meanOf σ (2 : Int32) a1 (0 : Int32) a2).bind (fun q3 => some (q3.1, q3.2))))))
def f_X8_had (σ : ZI) (a1 : Int32) (a2 : Int32) : Option (Int64 × ZI) := (f_X8_isArm σ a1).bind (fun q1 => if q1 = 0 then (some ((-1 : Int64), σ)) else ((f_X8_in a2.toInt64 (0 : Int64) (1 : Int64)).bind (fun q2 => if q2 = 0 then (some ((-1 : Int64), σ)) else ((f_X8_meanOf σ (3 : Int32) a1 (0 : Int32) a2).bind (fun q3 => some (q3.1, q3.2))))))
def f_X8_hits (σ : ZI) (a1 : Int32) : Option (Int64 × ZI) := (f_X8_in a1.toInt64 (0 : Int64) (1 : Int64)).bind (fun q1 => if q1 = 0 then (some ((-1 : Int64), σ)) else ((f_X8_meanOf σ (4 : Int32) (0 : Int32) (0 : Int32) a1).bind (fun q2 => some (q2.1, q2.2))))
def f_X8_torn (σ : ZI) (a1 : Int32) : Option (Int64 × ZI) := (f_X8_in a1.toInt64 (0 : Int64) (1 : Int64)).bind (fun q1 => if q1 = 0 then (some ((-1 : Int64), σ)) else ((f_X8_meanOf σ (5 : Int32) (0 : Int32) (0 : Int32) a1).bind (fun q2 => some (q2.1, q2.2))))
def f_X8_worth (σ : ZI) (a1 : Int32) : Option (Int64 × ZI) := (f_X8_in a1.toInt64 (0 : Int64) (1 : Int64)).bind (fun q1 => if q1 = 0 then (some ((-1 : Int64), σ)) else ((f_X8_meanOf σ (6 : Int32) (0 : Int32) (0 : Int32) a1).bind (fun q2 => some (q2.1, q2.2))))
def f_X8_copies_2 (a1 : Int32) (a2 : Int32)  : Nat → ZI → Int32 → Option (ZI)
  | 0, _, _ => none
  | n + 1, σ, v3 => if (18 : Int32) ≤ v3 then (some σ) else (if inB (a1 + v3) 90 = true then (if inB (a2 + v3) 90 = true then (lt_ (va_up σ 61 (upd (σ 61) (a2 + v3).toNatClampNeg (σ 61 (a1 + v3).toNatClampNeg))) (fun σ1 => f_X8_copies_2 a1 a2 n σ1 (v3 + (1 : Int32)))) else none) else none)
def f_X8_copies (σ : ZI) (a1 : Int32) (a2 : Int32) : Option (ZI) := f_X8_copies_2 a1 a2 3000 σ (0 : Int32)
def f_X8_best_136 (a1 : Int32) (k_45 : ZI → Int64 → Int32 → Int32 → Int32 → Option (Int64 × ZI)) (σ : ZI) (v4 : Int32) (v5 : Int32) (v6 : Int32) (s0 : Int64) : Option (Int64 × ZI) := k_45 σ s0 v4 v5 (v6 + (1 : Int32))
def f_X8_best_123 (a1 : Int32) (k_45 : ZI → Int64 → Int32 → Int32 → Int32 → Option (Int64 × ZI)) (σ : ZI) (v2 : Int64) (v5 : Int32) (v6 : Int32) (v7 : Int64) (v9 : Int32) (s0 : Int32) : Option (Int64 × ZI) := if v9 = 0 then (f_X8_best_136 a1 k_45 σ s0 v5 v6 v2) else (f_X8_best_136 a1 k_45 σ s0 v5 v6 v7)
def f_X8_best_103 (a1 : Int32) (k_45 : ZI → Int64 → Int32 → Int32 → Int32 → Option (Int64 × ZI)) (σ : ZI) (v2 : Int64) (v4 : Int32) (v5 : Int32) (v6 : Int32) (v7 : Int64) (s0 : Int32) : Option (Int64 × ZI) := if s0 = 0 then (f_X8_best_123 a1 k_45 σ v2 v5 v6 v7 s0 v4) else (f_X8_best_123 a1 k_45 σ v2 v5 v6 v7 s0 (((100 : Int32) * v5) + v6))
def f_X8_best_98 (a1 : Int32) (k_45 : ZI → Int64 → Int32 → Int32 → Int32 → Option (Int64 × ZI)) (σ : ZI) (v2 : Int64) (v4 : Int32) (v5 : Int32) (v6 : Int32) (v7 : Int64) : Option (Int64 × ZI) := f_X8_best_103 a1 k_45 σ v2 v4 v5 v6 v7 (1 : Int32)
def f_X8_best_45 (a1 : Int32) (k_32 : ZI → Int64 → Int32 → Int32 → Option (Int64 × ZI)) : Nat → ZI → Int64 → Int32 → Int32 → Int32 → Option (Int64 × ZI)
  | 0, _, _, _, _, _ => none
  | n + 1, σ, v2, v4, v5, v6 => if (11 : Int32) < v6 then (k_32 σ v2 v4 (v5 + (1 : Int32))) else (lt_ (va_up σ 61 (upd (σ 61) 15 (v5 - (2 : Int32)))) (fun σ6 => lt_ (va_up σ6 61 (upd (σ6 61) 16 (v6 - (4 : Int32)))) (fun σ7 => (f_X8_sumOf σ7 (6 : Int32) (0 : Int32) (0 : Int32)).bind (fun q8 => if v4 = (-4 : Int32) then (f_X8_best_98 a1 (fun σ v2 v4 v5 v6 => f_X8_best_45 a1 k_32 n σ v2 v4 v5 v6) q8.2 v2 v4 v5 v6 q8.1) else (if (lg_cmp q8.1 v2) ≤ 0 then (f_X8_best_103 a1 (fun σ v2 v4 v5 v6 => f_X8_best_45 a1 k_32 n σ v2 v4 v5 v6) q8.2 v2 v4 v5 v6 q8.1 (0 : Int32)) else (f_X8_best_98 a1 (fun σ v2 v4 v5 v6 => f_X8_best_45 a1 k_32 n σ v2 v4 v5 v6) q8.2 v2 v4 v5 v6 q8.1))))))
def f_X8_best_32 (a1 : Int32)  : Nat → ZI → Int64 → Int32 → Int32 → Option (Int64 × ZI)
  | 0, _, _, _, _ => none
  | n + 1, σ, v2, v4, v5 => if (10 : Int32) < v5 then ((f_X8_copies σ (72 : Int32) (0 : Int32)).bind (fun q3 => if a1 = 0 then (some (v4.toInt64, q3)) else ((f_X8_allWeight q3 (1 : Int32)).bind (fun q4 => (f_X8_lowest v2 q4 (a1 - (1 : Int32))).bind (fun q5 => some (q5, q3)))))) else (f_X8_best_45 a1 (fun σ v2 v4 v5 => f_X8_best_32 a1 n σ v2 v4 v5) 3000 σ v2 v4 v5 (v5 + (1 : Int32)))
def f_X8_best (σ : ZI) (a1 : Int32) : Option (Int64 × ZI) := (f_X8_in a1.toInt64 (0 : Int64) (2 : Int64)).bind (fun q1 => if q1 = 0 then (some ((-1 : Int64), σ)) else ((f_X8_copies σ (0 : Int32) (72 : Int32)).bind (fun q2 => f_X8_best_32 a1 3000 q2 (0 : Int64) (-4 : Int32) (1 : Int32))))
def f_X8_isHad (σ : ZI) (a1 : Int32) (a2 : Int32) : Option (Int32 × ZI) := (f_X8_sumOf σ (3 : Int32) a1 (0 : Int32)).bind (fun q1 => (f_X8_allWeight q1.2 (1 : Int32)).bind (fun q2 => if (lg_cmp (q1.1 * (10 : Int64)) (a2.toInt64 * q2)) < 0 then (some ((0 : Int32), q1.2)) else (some ((1 : Int32), q1.2))))
def f_X8_areTenths (a1 : Int32) : Option (Int32) := (f_X8_in a1.toInt64 (1 : Int64) (10 : Int64)).bind (fun q1 => if q1 = 0 ∨ q1 = 1 then some q1 else none)
def f_X8_fog_95 (a1 : Int32) (a2 : Int32)  (σ : ZI) (v3 : Int32) : Option (Int32 × ZI) := (f_X8_copies σ (72 : Int32) (0 : Int32)).bind (fun q4 => some (v3, q4))
def f_X8_fog_88 (a1 : Int32) (a2 : Int32) (k_30 : ZI → Int32 → Int32 → Option (Int32 × ZI)) (σ : ZI) (v4 : Int32) (s0 : Int32) : Option (Int32 × ZI) := k_30 σ s0 (v4 + (1 : Int32))
def f_X8_fog_46 (a1 : Int32) (a2 : Int32) (k_30 : ZI → Int32 → Int32 → Option (Int32 × ZI)) : Nat → ZI → Int32 → Int32 → Option (Int32 × ZI)
  | 0, _, _, _ => none
  | n + 1, σ, v4, v5 => if (σ 60 5) ≤ v5 then ((f_X8_isHad σ a1 a2).bind (fun q5 => if q5.1 = 0 then (f_X8_fog_88 a1 a2 k_30 q5.2 v4 (-4 : Int32)) else (f_X8_fog_88 a1 a2 k_30 q5.2 v4 v4))) else (if inB ((3 : Int32) + v5) 90 = true then (lt_ (va_up σ 61 (upd (σ 61) ((3 : Int32) + v5).toNatClampNeg v4)) (fun σ6 => f_X8_fog_46 a1 a2 k_30 n σ6 v4 (v5 + (1 : Int32)))) else none)
def f_X8_fog_30 (a1 : Int32) (a2 : Int32)  : Nat → ZI → Int32 → Int32 → Option (Int32 × ZI)
  | 0, _, _, _ => none
  | n + 1, σ, v3, v4 => if (10 : Int32) < v4 then (f_X8_fog_95 a1 a2 σ v3) else (if v3 = (-4 : Int32) then (f_X8_fog_46 a1 a2 (fun σ v3 v4 => f_X8_fog_30 a1 a2 n σ v3 v4) 3000 σ v4 (0 : Int32)) else (f_X8_fog_95 a1 a2 σ v3))
def f_X8_fog (σ : ZI) (a1 : Int32) (a2 : Int32) : Option (Int32 × ZI) := (f_X8_isArm σ a1).bind (fun q1 => if q1 = 0 then (some ((-1 : Int32), σ)) else ((f_X8_areTenths a2).bind (fun q2 => if q2 = 0 then (some ((-1 : Int32), σ)) else ((f_X8_copies σ (0 : Int32) (72 : Int32)).bind (fun q3 => f_X8_fog_30 a1 a2 3000 q3 (-4 : Int32) (0 : Int32))))))
def f_X8_fast_76 (a1 : Int32) (a2 : Int32)  (σ : ZI) (v3 : Int32) : Option (Int32 × ZI) := (f_X8_copies σ (72 : Int32) (0 : Int32)).bind (fun q4 => some (v3, q4))
def f_X8_fast_69 (a1 : Int32) (a2 : Int32) (k_31 : ZI → Int32 → Int32 → Option (Int32 × ZI)) (σ : ZI) (v4 : Int32) (s0 : Int32) : Option (Int32 × ZI) := k_31 σ s0 (v4 + (-1 : Int32))
def f_X8_fast_31 (a1 : Int32) (a2 : Int32)  : Nat → ZI → Int32 → Int32 → Option (Int32 × ZI)
  | 0, _, _, _ => none
  | n + 1, σ, v3, v4 => if v4 ≤ 0 then (f_X8_fast_76 a1 a2 σ v3) else (if v3 = (-4 : Int32) then (lt_ (va_up σ 61 (upd (σ 61) 14 (v4 - (5 : Int32)))) (fun σ5 => (f_X8_isHad σ5 a1 a2).bind (fun q6 => if q6.1 = 0 then (f_X8_fast_69 a1 a2 (fun σ v3 v4 => f_X8_fast_31 a1 a2 n σ v3 v4) q6.2 v4 (-4 : Int32)) else (f_X8_fast_69 a1 a2 (fun σ v3 v4 => f_X8_fast_31 a1 a2 n σ v3 v4) q6.2 v4 v4)))) else (f_X8_fast_76 a1 a2 σ v3))
def f_X8_fast (σ : ZI) (a1 : Int32) (a2 : Int32) : Option (Int32 × ZI) := (f_X8_isArm σ a1).bind (fun q1 => if q1 = 0 then (some ((-1 : Int32), σ)) else ((f_X8_areTenths a2).bind (fun q2 => if q2 = 0 then (some ((-1 : Int32), σ)) else ((f_X8_copies σ (0 : Int32) (72 : Int32)).bind (fun q3 => f_X8_fast_31 a1 a2 3000 q3 (-4 : Int32) (9 : Int32))))))
def f_X8_slack_76 (a1 : Int32) (a2 : Int32)  (σ : ZI) (v3 : Int32) : Option (Int32 × ZI) := (f_X8_copies σ (72 : Int32) (0 : Int32)).bind (fun q4 => some (v3, q4))
def f_X8_slack_69 (a1 : Int32) (a2 : Int32) (k_31 : ZI → Int32 → Int32 → Option (Int32 × ZI)) (σ : ZI) (v4 : Int32) (s0 : Int32) : Option (Int32 × ZI) := k_31 σ s0 (v4 + (-1 : Int32))
def f_X8_slack_31 (a1 : Int32) (a2 : Int32)  : Nat → ZI → Int32 → Int32 → Option (Int32 × ZI)
  | 0, _, _, _ => none
  | n + 1, σ, v3, v4 => if v4 < 0 then (f_X8_slack_76 a1 a2 σ v3) else (if v3 = (-4 : Int32) then (lt_ (va_up σ 61 (upd (σ 61) 13 (v4 - (1 : Int32)))) (fun σ5 => (f_X8_isHad σ5 a1 a2).bind (fun q6 => if q6.1 = 0 then (f_X8_slack_69 a1 a2 (fun σ v3 v4 => f_X8_slack_31 a1 a2 n σ v3 v4) q6.2 v4 (-4 : Int32)) else (f_X8_slack_69 a1 a2 (fun σ v3 v4 => f_X8_slack_31 a1 a2 n σ v3 v4) q6.2 v4 v4)))) else (f_X8_slack_76 a1 a2 σ v3))
def f_X8_slack (σ : ZI) (a1 : Int32) (a2 : Int32) : Option (Int32 × ZI) := (f_X8_isArm σ a1).bind (fun q1 => if q1 = 0 then (some ((-1 : Int32), σ)) else ((f_X8_areTenths a2).bind (fun q2 => if q2 = 0 then (some ((-1 : Int32), σ)) else ((f_X8_copies σ (0 : Int32) (72 : Int32)).bind (fun q3 => f_X8_slack_31 a1 a2 3000 q3 (-4 : Int32) (10 : Int32))))))
def f_X8_minutesBy_45 (σ : ZI) (a1 : Int32) (a2 : Int32) (k_5 : Int32 → Int32 → Option (Int32)) (v4 : Int32) (s0 : Int32) (s1 : Int32) : Option (Int32) := k_5 (s1 + s0) (v4 + (1 : Int32))
def f_X8_minutesBy_5 (σ : ZI) (a1 : Int32) (a2 : Int32)  : Nat → Int32 → Int32 → Option (Int32)
  | 0, _, _ => none
  | n + 1, v3, v4 => if (σ 60 7) ≤ v4 then (some v3) else (if ((a1 >>> (v4 &&& 31)) &&& (1 : Int32)) = (1 : Int32) then (if inB ((6 : Int32) + v4) 90 = true then (if a2 = 0 then none else (f_X8_minutesBy_45 σ a1 a2 (fun v3 v4 => f_X8_minutesBy_5 σ a1 a2 n v3 v4) v4 ((((σ 61 ((6 : Int32) + v4).toNatClampNeg) + a2) - (1 : Int32)) / a2) v3)) else none) else (f_X8_minutesBy_45 σ a1 a2 (fun v3 v4 => f_X8_minutesBy_5 σ a1 a2 n v3 v4) v4 (0 : Int32) v3))
def f_X8_minutesBy (σ : ZI) (a1 : Int32) (a2 : Int32) : Option (Int32) := f_X8_minutesBy_5 σ a1 a2 3000 (0 : Int32) (0 : Int32)
def f_X8_sort_154 (σ : ZI) (a1 : Int32) (a2 : Int32) (k_32 : Int32 → Int32 → Int32 → Option (Int32)) (v4 : Int32) (v5 : Int32) (s0 : Int32) : Option (Int32) := k_32 s0 v4 (v5 + (1 : Int32))
def f_X8_sort_141 (σ : ZI) (a1 : Int32) (a2 : Int32) (k_32 : Int32 → Int32 → Int32 → Option (Int32)) (v3 : Int32) (v5 : Int32) (v6 : Int32) (v7 : Int32) (s0 : Int32) : Option (Int32) := if v7 = 0 then (f_X8_sort_154 σ a1 a2 k_32 s0 v5 v3) else (f_X8_sort_154 σ a1 a2 k_32 s0 v5 v6)
def f_X8_sort_127 (σ : ZI) (a1 : Int32) (a2 : Int32) (k_32 : Int32 → Int32 → Int32 → Option (Int32)) (v3 : Int32) (v4 : Int32) (v5 : Int32) (v6 : Int32) (s0 : Int32) : Option (Int32) := if s0 = 0 then (f_X8_sort_141 σ a1 a2 k_32 v3 v5 v6 s0 v4) else (f_X8_sort_141 σ a1 a2 k_32 v3 v5 v6 s0 v5)
def f_X8_sort_126 (σ : ZI) (a1 : Int32) (a2 : Int32) (k_32 : Int32 → Int32 → Int32 → Option (Int32)) (v3 : Int32) (v4 : Int32) (v5 : Int32) (v6 : Int32) : Option (Int32) := f_X8_sort_127 σ a1 a2 k_32 v3 v4 v5 v6 (0 : Int32)
def f_X8_sort_93 (σ : ZI) (a1 : Int32) (a2 : Int32) (k_49 : Int32 → Int32 → Int32 → Int32 → Int32 → Option (Int32)) (v3 : Int32) (v4 : Int32) (v5 : Int32) (v7 : Int32) (s0 : Int32) (s1 : Int32) : Option (Int32) := k_49 v3 v4 v5 (s1 + s0) (v7 + (1 : Int32))
def f_X8_sort_49 (σ : ZI) (a1 : Int32) (a2 : Int32) (k_32 : Int32 → Int32 → Int32 → Option (Int32)) : Nat → Int32 → Int32 → Int32 → Int32 → Int32 → Option (Int32)
  | 0, _, _, _, _, _ => none
  | n + 1, v3, v4, v5, v6, v7 => if (σ 60 7) ≤ v7 then (if v6 ≤ v3 then (f_X8_sort_126 σ a1 a2 k_32 v3 v4 v5 v6) else ((f_X8_handMany σ).bind (fun q3 => (f_X8_minutesBy σ v5 q3).bind (fun q4 => if a1 < q4 then (f_X8_sort_126 σ a1 a2 k_32 v3 v4 v5 v6) else (f_X8_sort_127 σ a1 a2 k_32 v3 v4 v5 v6 (1 : Int32)))))) else (if ((v5 >>> (v7 &&& 31)) &&& (1 : Int32)) = (1 : Int32) then (if inB ((6 : Int32) + v7) 90 = true then (if inB v7 5 = true then (f_X8_sort_93 σ a1 a2 (fun v3 v4 v5 v6 v7 => f_X8_sort_49 σ a1 a2 k_32 n v3 v4 v5 v6 v7) v3 v4 v5 v7 ((σ 61 ((6 : Int32) + v7).toNatClampNeg) * (σ 64 v7.toNatClampNeg)) v6) else none) else none) else (f_X8_sort_93 σ a1 a2 (fun v3 v4 v5 v6 v7 => f_X8_sort_49 σ a1 a2 k_32 n v3 v4 v5 v6 v7) v3 v4 v5 v7 (0 : Int32) v6))
def f_X8_sort_32 (σ : ZI) (a1 : Int32) (a2 : Int32)  : Nat → Int32 → Int32 → Int32 → Option (Int32)
  | 0, _, _, _ => none
  | n + 1, v3, v4, v5 => if ((1 : Int32) <<< ((σ 60 7) &&& 31)) ≤ v5 then (if a2 = 0 then (some v3) else (some v4)) else (f_X8_sort_49 σ a1 a2 (fun v3 v4 v5 => f_X8_sort_32 σ a1 a2 n v3 v4 v5) 3000 v3 v4 v5 (0 : Int32) (0 : Int32))
def f_X8_sort (σ : ZI) (a1 : Int32) (a2 : Int32) : Option (Int32) := (f_X8_in a1.toInt64 (0 : Int64) (99 : Int64)).bind (fun q1 => if q1 = 0 then (some (-1 : Int32)) else ((f_X8_in a2.toInt64 (0 : Int64) (1 : Int64)).bind (fun q2 => if q2 = 0 then (some (-1 : Int32)) else (f_X8_sort_32 σ a1 a2 3000 (-1 : Int32) (0 : Int32) (0 : Int32)))))
def f_X8_minutes (σ : ZI) (a1 : Int32) : Option (Int32) := (f_X8_in a1.toInt64 (0 : Int64) ((((1 : Int32) <<< ((σ 60 7) &&& 31)) - (1 : Int32)).toInt64)).bind (fun q1 => if q1 = 0 then (some (-1 : Int32)) else ((f_X8_handMany σ).bind (fun q2 => (f_X8_minutesBy σ a1 q2).bind (fun q3 => some q3))))
def f_X8_hands_16 (σ : ZI) (a1 : Int32)  : Nat → Int32 → Option (Int32)
  | 0, _ => none
  | n + 1, v2 => if (9 : Int32) < v2 then (some (-4 : Int32)) else ((f_X8_minutesBy σ (((1 : Int32) <<< ((σ 60 7) &&& 31)) - (1 : Int32)) v2).bind (fun q2 => if a1 < q2 then (f_X8_hands_16 σ a1 n (v2 + (1 : Int32))) else (some v2)))
def f_X8_hands (σ : ZI) (a1 : Int32) : Option (Int32) := (f_X8_in a1.toInt64 (0 : Int64) (99 : Int64)).bind (fun q1 => if q1 = 0 then (some (-1 : Int32)) else (f_X8_hands_16 σ a1 3000 (1 : Int32)))
def f_X8_see (σ : ZI) (a1 : Int32) (a2 : Int32) : Option (Int32 × ZI) := (f_X8_isJoint σ a1).bind (fun q1 => if q1 = 0 then (some ((-1 : Int32), σ)) else ((f_X8_in a2.toInt64 (0 : Int64) (10 : Int64)).bind (fun q2 => if q2 = 0 then (some ((-1 : Int32), σ)) else (if (σ 60 41) = (6 : Int32) then (some ((-3 : Int32), σ)) else (if inB ((2 : Int32) * (σ 60 41)) 12 = true then (lt_ (va_up σ 74 (upd (σ 74) ((2 : Int32) * (σ 60 41)).toNatClampNeg a1)) (fun σ3 => if inB (((2 : Int32) * (σ3 60 41)) + (1 : Int32)) 12 = true then (lt_ (va_up σ3 74 (upd (σ3 74) (((2 : Int32) * (σ3 60 41)) + (1 : Int32)).toNatClampNeg a2)) (fun σ4 => lt_ (va_up σ4 60 (upd (σ4 60) 41 ((σ4 60 41) + (1 : Int32)))) (fun σ5 => some ((σ5 60 41), σ5)))) else none)) else none)))))
def f_X8_forget (σ : ZI) (a1 : Int32) : Option (Int32 × ZI) := (f_X8_in a1.toInt64 (0 : Int64) ((σ 60 41).toInt64)).bind (fun q1 => if q1 = 0 then (some ((-1 : Int32), σ)) else (lt_ (va_up σ 60 (upd (σ 60) 41 a1)) (fun σ2 => some ((σ 60 41), σ2))))
def f_X8_fits_134 (a1 : Int32)  (σ : ZI) (v2 : Int32) : Option (Int32 × ZI) := if a1 = 0 then (some (v2, σ)) else (some ((-4 : Int32), σ))
def f_X8_fits_114 (a1 : Int32) (k_59 : ZI → Int32 → Int32 → Int32 → Int32 → Int32 → Int32 → Int32 → Option (Int32 × ZI)) (σ : ZI) (v2 : Int32) (v3 : Int32) (v4 : Int32) (v5 : Int32) (v6 : Int32) (v7 : Int32) (v8 : Int32) : Option (Int32 × ZI) := k_59 σ v2 v3 v4 v5 v6 v7 (v8 + (1 : Int32))
def f_X8_fits_59 (a1 : Int32) (k_45 : ZI → Int32 → Int32 → Int32 → Int32 → Int32 → Int32 → Option (Int32 × ZI)) : Nat → ZI → Int32 → Int32 → Int32 → Int32 → Int32 → Int32 → Int32 → Option (Int32 × ZI)
  | 0, _, _, _, _, _, _, _, _ => none
  | n + 1, σ, v2, v3, v4, v5, v6, v7, v8 => if ((1 : Int32) <<< ((σ 60 5) &&& 31)) ≤ v8 then (k_45 σ v2 v3 v4 v5 v6 (v7 + (1 : Int32))) else ((f_X8_isAsSeen σ v7 v8).bind (fun q4 => if q4.1 = 0 then (f_X8_fits_114 a1 (fun σ v2 v3 v4 v5 v6 v7 v8 => f_X8_fits_59 a1 k_45 n σ v2 v3 v4 v5 v6 v7 v8) q4.2 v2 v3 v4 v5 v6 v7 v8) else (lt_ ((v4 &&& (v7 ^^^ (-1 : Int32)))) (fun x5 => lt_ ((v6 &&& (v8 ^^^ (-1 : Int32)))) (fun x6 => f_X8_fits_114 a1 (fun σ v2 v3 v4 v5 v6 v7 v8 => f_X8_fits_59 a1 k_45 n σ v2 v3 v4 v5 v6 v7 v8) q4.2 (v2 + (1 : Int32)) (v3 &&& v7) x5 (v5 &&& v8) x6 v7 v8)))))
def f_X8_fits_45 (a1 : Int32)  : Nat → ZI → Int32 → Int32 → Int32 → Int32 → Int32 → Int32 → Option (Int32 × ZI)
  | 0, _, _, _, _, _, _, _ => none
  | n + 1, σ, v2, v3, v4, v5, v6, v7 => if ((1 : Int32) <<< ((σ 60 1) &&& 31)) ≤ v7 then (if a1 = 0 then (f_X8_fits_134 a1 σ v2) else (if v2 = 0 then (f_X8_fits_134 a1 σ v2) else (if a1 = (1 : Int32) then (some (v3, σ)) else (if a1 = (2 : Int32) then (some (v4, σ)) else (if a1 = (3 : Int32) then (some (v5, σ)) else (some (v6, σ))))))) else (f_X8_fits_59 a1 (fun σ v2 v3 v4 v5 v6 v7 => f_X8_fits_45 a1 n σ v2 v3 v4 v5 v6 v7) 3000 σ v2 v3 v4 v5 v6 v7 (0 : Int32))
def f_X8_fits (σ : ZI) (a1 : Int32) : Option (Int32 × ZI) := (f_X8_in a1.toInt64 (0 : Int64) (4 : Int64)).bind (fun q1 => if q1 = 0 then (some ((-1 : Int32), σ)) else (lt_ ((((1 : Int32) <<< ((σ 60 1) &&& 31)) - (1 : Int32))) (fun x2 => lt_ ((((1 : Int32) <<< ((σ 60 5) &&& 31)) - (1 : Int32))) (fun x3 => f_X8_fits_45 a1 3000 σ (0 : Int32) x2 x2 x3 x3 (0 : Int32)))))
def f_X8_likely (σ : ZI) (a1 : Int32) : Option (Int64 × ZI) := (f_X8_in a1.toInt64 (0 : Int64) (1 : Int64)).bind (fun q1 => if q1 = 0 then (some ((-1 : Int64), σ)) else ((f_X8_meanOf σ (7 : Int32) (0 : Int32) (0 : Int32) a1).bind (fun q2 => some (q2.1, q2.2))))
def f_X8_drift_136 (a1 : Int32) (a2 : Int32) (k_84 : ZI → Int32 → Int32 → Int32 → Int32 → Option (Int32 × ZI)) (σ : ZI) (v3 : Int32) (v4 : Int32) (v6 : Int32) (s0 : Int32) (s1 : Int32) : Option (Int32 × ZI) := k_84 σ v3 v4 (s1 ||| s0) (v6 + (1 : Int32))
def f_X8_drift_84 (a1 : Int32) (a2 : Int32)  : Nat → ZI → Int32 → Int32 → Int32 → Int32 → Option (Int32 × ZI)
  | 0, _, _, _, _, _ => none
  | n + 1, σ, v3, v4, v5, v6 => if (σ 60 5) ≤ v6 then ((f_X8_nights σ v4 v5).bind (fun q2 => (f_X8_nightTold q2 a2).bind (fun q3 => some (q3, q2)))) else (lt_ (((v3 * (1103515245 : Int32)) + (12345 : Int32))) (fun x4 => if inB ((3 : Int32) + v6) 90 = true then (if (σ 61 ((3 : Int32) + v6).toNatClampNeg) ≤ (((x4 >>> ((16 : Int32) &&& 31)) &&& (32767 : Int32)) - ((x4 >>> ((16 : Int32) &&& 31)) &&& (32767 : Int32)) / (10 : Int32) * (10 : Int32)) then (f_X8_drift_136 a1 a2 (fun σ v3 v4 v5 v6 => f_X8_drift_84 a1 a2 n σ v3 v4 v5 v6) σ x4 v4 v6 (0 : Int32) v5) else (f_X8_drift_136 a1 a2 (fun σ v3 v4 v5 v6 => f_X8_drift_84 a1 a2 n σ v3 v4 v5 v6) σ x4 v4 v6 ((1 : Int32) <<< (v6 &&& 31)) v5)) else none))
def f_X8_drift_72 (a1 : Int32) (a2 : Int32) (k_25 : ZI → Int32 → Int32 → Int32 → Int32 → Option (Int32 × ZI)) (σ : ZI) (v3 : Int32) (v5 : Int32) (v6 : Int32) (s0 : Int32) (s1 : Int32) : Option (Int32 × ZI) := k_25 σ v3 (s1 ||| s0) v5 (v6 + (1 : Int32))
def f_X8_drift_25 (a1 : Int32) (a2 : Int32)  : Nat → ZI → Int32 → Int32 → Int32 → Int32 → Option (Int32 × ZI)
  | 0, _, _, _, _, _ => none
  | n + 1, σ, v3, v4, v5, v6 => if (σ 60 1) ≤ v6 then (f_X8_drift_84 a1 a2 3000 σ v3 v4 v5 (0 : Int32)) else (lt_ (((v3 * (1103515245 : Int32)) + (12345 : Int32))) (fun x5 => (f_X8_slip σ).bind (fun q6 => if q6 ≤ (((x5 >>> ((16 : Int32) &&& 31)) &&& (32767 : Int32)) - ((x5 >>> ((16 : Int32) &&& 31)) &&& (32767 : Int32)) / (10 : Int32) * (10 : Int32)) then (f_X8_drift_72 a1 a2 (fun σ v3 v4 v5 v6 => f_X8_drift_25 a1 a2 n σ v3 v4 v5 v6) σ x5 v5 v6 (0 : Int32) v4) else (f_X8_drift_72 a1 a2 (fun σ v3 v4 v5 v6 => f_X8_drift_25 a1 a2 n σ v3 v4 v5 v6) σ x5 v5 v6 ((1 : Int32) <<< (v6 &&& 31)) v4))))
def f_X8_drift (σ : ZI) (a1 : Int32) (a2 : Int32) : Option (Int32 × ZI) := (f_X8_in a2.toInt64 (0 : Int64) (5 : Int64)).bind (fun q1 => if q1 = 0 then (some ((-1 : Int32), σ)) else (f_X8_drift_25 a1 a2 3000 σ a1 (0 : Int32) (0 : Int32) (0 : Int32)))
def f_X8_keep_37 (a1 : Int32)  (σ : ZI) (s0 : Int32) : Option (Int32 × ZI) := if inB a1 2 = true then (lt_ (va_up σ 75 (upd (σ 75) a1.toNatClampNeg (vp_nar .boolean (1 : Int32)))) (fun σ3 => some (s0, σ3))) else none
def f_X8_keep (σ : ZI) (a1 : Int32) : Option (Int32 × ZI) := (f_X8_in a1.toInt64 (0 : Int64) (1 : Int64)).bind (fun q1 => if q1 = 0 then (some ((-1 : Int32), σ)) else ((f_X8_copies σ (0 : Int32) ((18 : Int32) * (a1 + (1 : Int32)))).bind (fun q2 => if inB a1 2 = true then (if (q2 75 a1.toNatClampNeg) = 0 then (f_X8_keep_37 a1 q2 (0 : Int32)) else (f_X8_keep_37 a1 q2 (1 : Int32))) else none)))
def f_X8_back (σ : ZI) (a1 : Int32) : Option (Int32 × ZI) := (f_X8_in a1.toInt64 (0 : Int64) (1 : Int64)).bind (fun q1 => if q1 = 0 then (some ((-1 : Int32), σ)) else (if inB a1 2 = true then (if (σ 75 a1.toNatClampNeg) = 0 then (some ((-2 : Int32), σ)) else ((f_X8_copies σ ((18 : Int32) * (a1 + (1 : Int32))) (0 : Int32)).bind (fun q2 => some ((q2 60 1), q2)))) else none))
def f_X8_sheet_56 (a1 : Int32) (a2 : Int32) (a3 : Int32)  : Nat → ZI → Int32 → Option (Int32 × ZI)
  | 0, _, _ => none
  | n + 1, σ, v4 => if (40 : Int32) ≤ v4 then (some ((1 : Int32), σ)) else (if inB (((40 : Int32) * a1) + v4) 160 = true then (lt_ (va_up σ 78 (upd (σ 78) (((40 : Int32) * a1) + v4).toNatClampNeg (0 : Int32))) (fun σ5 => f_X8_sheet_56 a1 a2 a3 n σ5 (v4 + (1 : Int32)))) else none)
def f_X8_sheet (σ : ZI) (a1 : Int32) (a2 : Int32) (a3 : Int32) : Option (Int32 × ZI) := (f_X8_in a1.toInt64 (0 : Int64) (3 : Int64)).bind (fun q1 => if q1 = 0 then (some ((-1 : Int32), σ)) else ((f_X8_in a2.toInt64 (0 : Int64) (2 : Int64)).bind (fun q2 => if q2 = 0 then (some ((-1 : Int32), σ)) else (if a3 ≤ (40 : Int32) then (if 0 ≤ a3 then (if inB a1 4 = true then (lt_ (va_up σ 76 (upd (σ 76) a1.toNatClampNeg a2)) (fun σ3 => if inB a1 4 = true then (lt_ (va_up σ3 77 (upd (σ3 77) a1.toNatClampNeg a3)) (fun σ4 => f_X8_sheet_56 a1 a2 a3 3000 σ4 (0 : Int32))) else none)) else none) else (some ((-14 : Int32), σ))) else (some ((-1 : Int32), σ))))))
def f_X8_lay_99 (a1 : Int32) (a2 : Int32) (a3 : Int32)  (σ : ZI) (s0 : Int32) (s1 : Int32) : Option (Int32 × ZI) := if inB s1 160 = true then (lt_ (va_up σ 78 (upd (σ 78) s1.toNatClampNeg s0)) (fun σ3 => some ((1 : Int32), σ3))) else none
def f_X8_lay (σ : ZI) (a1 : Int32) (a2 : Int32) (a3 : Int32) : Option (Int32 × ZI) := (f_X8_in a1.toInt64 (0 : Int64) (3 : Int64)).bind (fun q1 => if q1 = 0 then (some ((-1 : Int32), σ)) else (if inB a1 4 = true then (if (σ 76 a1.toNatClampNeg) = (-4 : Int32) then (some ((-11 : Int32), σ)) else (if inB a1 4 = true then ((f_X8_in a2.toInt64 (0 : Int64) (((σ 77 a1.toNatClampNeg) - (1 : Int32)).toInt64)).bind (fun q2 => if q2 = 0 then (some ((-12 : Int32), σ)) else (if inB a1 4 = true then (if (σ 76 a1.toNatClampNeg) = 0 then (f_X8_lay_99 a1 a2 a3 σ ((a3 <<< ((24 : Int32) &&& 31)) >>> ((24 : Int32) &&& 31)) (((40 : Int32) * a1) + a2)) else (if inB a1 4 = true then (if (σ 76 a1.toNatClampNeg) = (1 : Int32) then (f_X8_lay_99 a1 a2 a3 σ ((a3 <<< ((16 : Int32) &&& 31)) >>> ((16 : Int32) &&& 31)) (((40 : Int32) * a1) + a2)) else (f_X8_lay_99 a1 a2 a3 σ a3 (((40 : Int32) * a1) + a2))) else none)) else none))) else none)) else none))
def f_X8_read_196 (a1 : Int32) (a2 : Int32) (a3 : Int32) (a4 : Int32)  (σ : ZI) (v5 : Int32) (v6 : Int32) : Option (Int32 × ZI) := lt_ (va_up σ 60 (upd (σ 60) 46 v5)) (fun σ5 => some (v6, σ5))
def f_X8_read_190 (a1 : Int32) (a2 : Int32) (a3 : Int32) (a4 : Int32) (k_55 : ZI → Int32 → Int32 → Int32 → Option (Int32 × ZI)) (σ : ZI) (v5 : Int32) (v6 : Int32) (v7 : Int32) : Option (Int32 × ZI) := k_55 σ v5 v6 (v7 + (1 : Int32))
def f_X8_read_125 (a1 : Int32) (a2 : Int32) (a3 : Int32) (a4 : Int32) (k_55 : ZI → Int32 → Int32 → Int32 → Option (Int32 × ZI)) (σ : ZI) (v6 : Int32) (v7 : Int32) (s0 : Int32) : Option (Int32 × ZI) := if s0 = 0 then (if (v7 - v7 / (2 : Int32) * (2 : Int32)) = (1 : Int32) then (lt_ (((((40 : Int32) * a1) + a3) + v7)) (fun x7 => if inB (x7 - (1 : Int32)) 160 = true then (if inB x7 160 = true then ((f_X8_posts σ (σ 78 (x7 - (1 : Int32)).toNatClampNeg) (σ 78 x7.toNatClampNeg)).bind (fun q8 => if 0 ≤ q8.1 then (f_X8_read_190 a1 a2 a3 a4 k_55 q8.2 s0 (v6 + (1 : Int32)) v7) else ((f_X8_copies q8.2 (54 : Int32) (0 : Int32)).bind (fun q9 => some (((-20 : Int32) - v6), q9))))) else none) else none)) else (f_X8_read_190 a1 a2 a3 a4 k_55 σ s0 v6 v7)) else (f_X8_read_190 a1 a2 a3 a4 k_55 σ s0 v6 v7)
def f_X8_read_55 (a1 : Int32) (a2 : Int32) (a3 : Int32) (a4 : Int32)  : Nat → ZI → Int32 → Int32 → Int32 → Option (Int32 × ZI)
  | 0, _, _, _, _ => none
  | n + 1, σ, v5, v6, v7 => if ((2 : Int32) * a4) ≤ v7 then (f_X8_read_196 a1 a2 a3 a4 σ v5 v6) else (if v5 = 0 then (if inB a1 4 = true then (if (σ 76 a1.toNatClampNeg) = (-4 : Int32) then (f_X8_read_125 a1 a2 a3 a4 (fun σ v5 v6 v7 => f_X8_read_55 a1 a2 a3 a4 n σ v5 v6 v7) σ v6 v7 (1 : Int32)) else (if inB a1 4 = true then (if (σ 76 a1.toNatClampNeg) = a2 then (if inB a1 4 = true then ((f_X8_in (a3.toInt64 + v7.toInt64) (0 : Int64) (((σ 77 a1.toNatClampNeg) - (1 : Int32)).toInt64)).bind (fun q6 => if q6 = 0 then (f_X8_read_125 a1 a2 a3 a4 (fun σ v5 v6 v7 => f_X8_read_55 a1 a2 a3 a4 n σ v5 v6 v7) σ v6 v7 (2 : Int32)) else (f_X8_read_125 a1 a2 a3 a4 (fun σ v5 v6 v7 => f_X8_read_55 a1 a2 a3 a4 n σ v5 v6 v7) σ v6 v7 (0 : Int32)))) else none) else (f_X8_read_125 a1 a2 a3 a4 (fun σ v5 v6 v7 => f_X8_read_55 a1 a2 a3 a4 n σ v5 v6 v7) σ v6 v7 (3 : Int32))) else none)) else none) else (f_X8_read_196 a1 a2 a3 a4 σ v5 v6))
def f_X8_read (σ : ZI) (a1 : Int32) (a2 : Int32) (a3 : Int32) (a4 : Int32) : Option (Int32 × ZI) := (f_X8_in a1.toInt64 (0 : Int64) (3 : Int64)).bind (fun q1 => if q1 = 0 then (some ((-1 : Int32), σ)) else ((f_X8_in a2.toInt64 (0 : Int64) (2 : Int64)).bind (fun q2 => if q2 = 0 then (some ((-1 : Int32), σ)) else ((f_X8_in a4.toInt64 (0 : Int64) (20 : Int64)).bind (fun q3 => if q3 = 0 then (some ((-1 : Int32), σ)) else ((f_X8_copies σ (0 : Int32) (54 : Int32)).bind (fun q4 => f_X8_read_55 a1 a2 a3 a4 3000 q4 (0 : Int32) (0 : Int32) (0 : Int32))))))))
def f_X8_split (σ : ZI) : Option (Int32) := some (σ 60 46)
def f_X8_count_87 (σ : ZI) (a1 : Int32)  (s0 : Int32) : Option (Int32) := if (σ 75 1) = 0 then (some (s0 + (0 : Int32))) else (some (s0 + (1 : Int32)))
def f_X8_count_4 (σ : ZI) (a1 : Int32)  : Nat → Int32 → Int32 → Option (Int32)
  | 0, _, _ => none
  | n + 1, v2, v3 => if (σ 60 7) ≤ v3 then (if a1 = (0 : Int32) then (some (σ 60 41)) else (if a1 = (1 : Int32) then (if (σ 75 0) = 0 then (f_X8_count_87 σ a1 (0 : Int32)) else (f_X8_count_87 σ a1 (1 : Int32))) else (if a1 = (2 : Int32) then (some (σ 60 23)) else (if a1 = (3 : Int32) then (if (σ 76 0) = (-4 : Int32) then (some (-4 : Int32)) else (some (σ 77 0))) else (if a1 = (4 : Int32) then (some v2) else (if a1 = (5 : Int32) then ((f_X8_bitsOf (σ 61 11)).bind (fun q1 => some q1)) else (some (-1 : Int32)))))))) else (if inB ((6 : Int32) + v3) 90 = true then (lt_ ((v2 + (σ 61 ((6 : Int32) + v3).toNatClampNeg))) (fun x2 => f_X8_count_4 σ a1 n x2 (v3 + (1 : Int32)))) else none)
def f_X8_count (σ : ZI) (a1 : Int32) : Option (Int32) := f_X8_count_4 σ a1 3000 (0 : Int32) (0 : Int32)
end
section
/-! sums, and the walk by counts (over whole numbers): what the class's rows come to, and the sum over all nights -/
def sm (f : Nat → Int) : Nat → Int
  | 0 => 0
  | n + 1 => sm f n + f n
theorem sm_congr {f g : Nat → Int} {n : Nat} (h : ∀ i, i < n → f i = g i) : sm f n = sm g n := by
  induction n with
  | zero => rfl
  | succ n ih => rw [sm, sm, ih (fun i hi => h i (by omega)), h n (by omega)]
theorem sm_add (f g : Nat → Int) (n : Nat) : sm (fun i => f i + g i) n = sm f n + sm g n := by
  induction n with
  | zero => rfl
  | succ n ih => rw [sm, sm, sm, ih]; omega
theorem sm_mul (a : Int) (f : Nat → Int) (n : Nat) : sm (fun i => a * f i) n = a * sm f n := by
  induction n with
  | zero => simp [sm]
  | succ n ih => rw [sm, sm, ih, Int.mul_add]
theorem sm_zero (n : Nat) : sm (fun _ => 0) n = 0 := by
  induction n with
  | zero => rfl
  | succ n ih => rw [sm, ih]; rfl
theorem sm_lin (a b : Int) {f g h : Nat → Int} {n : Nat} (e : ∀ i, i < n → f i = a * g i + b * h i) : sm f n = a * sm g n + b * sm h n := by
  rw [sm_congr e, sm_add, sm_mul, sm_mul]
theorem sm_split (f : Nat → Int) (m n : Nat) : sm f (m + n) = sm f m + sm (fun i => f (m + i)) n := by
  induction n with
  | zero => simp [sm]
  | succ n ih => rw [← Nat.add_assoc, sm, ih, sm]; omega
theorem sm_delta (v : Int) (c n : Nat) : sm (fun i => if i = c then v else 0) n = if c < n then v else 0 := by
  induction n with
  | zero => simp [sm]
  | succ n ih =>
    rw [sm, ih]
    by_cases h : n = c
    · subst h; simp
    · by_cases h2 : c < n
      · rw [if_pos h2, if_neg h, if_pos (by omega)]; omega
      · rw [if_neg h2, if_neg h, if_neg (by omega)]; rfl
theorem sm_pow (f : Nat → Int) (k : Nat) : sm f (2 ^ (k + 1)) = sm (fun x => f x + f (x + 2 ^ k)) (2 ^ k) := by
  rw [Nat.pow_succ, Nat.mul_two, sm_split, sm_add]
  congr 1
  exact sm_congr (fun i _ => by rw [Nat.add_comm])
/-- a weight of bits -/
def wp (q : Nat → Int × Int) (x : Nat) : Nat → Int
  | 0 => 1
  | k + 1 => wp q x k * (if x.testBit k then (q k).1 else (q k).2)
theorem wp_congr {q : Nat → Int × Int} {x y : Nat} {k : Nat} (h : ∀ i, i < k → x.testBit i = y.testBit i) : wp q x k = wp q y k := by
  induction k with
  | zero => rfl
  | succ k ih => rw [wp, wp, ih (fun i hi => h i (by omega)), h k (by omega)]
theorem tb_hi {x k : Nat} (h : x < 2 ^ k) : x.testBit k = false := Nat.testBit_lt_two_pow h
theorem tb_add_lo {x k i : Nat} (hi : i < k) : (x + 2 ^ k).testBit i = x.testBit i := by
  rw [Nat.add_comm]
  exact Nat.testBit_two_pow_add_gt hi x
theorem tb_add_eq {x k : Nat} (h : x < 2 ^ k) : (x + 2 ^ k).testBit k = true := by
  rw [Nat.add_comm, Nat.testBit_two_pow_add_eq, tb_hi h]
  rfl
/-- pairs: the first k told by bits, the rest as they are -/
def mx (x k : Nat) (q : Nat → Int × Int) : Nat → Int × Int := fun i => if i < k then (if x.testBit i then (1, 0) else (0, 1)) else q i
def MA (K : Nat) (F : (Nat → Int × Int) → Int) : Prop := ∀ (q : Nat → Int × Int) (k : Nat), k < K → F q = (q k).1 * F (fun i => if i = k then (1, 0) else q i) + (q k).2 * F (fun i => if i = k then (0, 1) else q i)
theorem MA_sum {K : Nat} {F : (Nat → Int × Int) → Int} (h : MA K F) (q : Nat → Int × Int) : ∀ k, k ≤ K → F q = sm (fun x => wp q x k * F (mx x k q)) (2 ^ k) := by
  intro k
  induction k with
  | zero =>
    intro _
    have e : mx 0 0 q = q := by funext i; simp [mx]
    show F q = sm _ 1
    rw [sm, sm, e, wp]
    omega
  | succ k ih =>
    intro hk
    rw [ih (by omega), sm_pow]
    refine sm_congr fun x hx => ?_
    rw [h (mx x k q) k (by omega)]
    have e0 : mx x k q k = q k := by simp [mx]
    have e1 : (fun i => if i = k then ((0, 1) : Int × Int) else mx x k q i) = mx x (k + 1) q := by
      funext i
      unfold mx
      by_cases h1 : i = k
      · subst h1; simp [tb_hi hx]
      · by_cases h2 : i < k
        · rw [if_neg h1, if_pos h2, if_pos (show i < k + 1 by omega)]
        · rw [if_neg h1, if_neg h2, if_neg (show ¬ i < k + 1 by omega)]
    have e2 : (fun i => if i = k then ((1, 0) : Int × Int) else mx x k q i) = mx (x + 2 ^ k) (k + 1) q := by
      funext i
      unfold mx
      by_cases h1 : i = k
      · subst h1; simp [tb_add_eq hx]
      · by_cases h2 : i < k
        · rw [if_neg h1, if_pos h2, if_pos (show i < k + 1 by omega), tb_add_lo h2]
        · rw [if_neg h1, if_neg h2, if_neg (show ¬ i < k + 1 by omega)]
    have w1 : wp q x (k + 1) = wp q x k * (q k).2 := by rw [wp, tb_hi hx]; simp
    have w2 : wp q (x + 2 ^ k) (k + 1) = wp q x k * (q k).1 := by rw [wp, tb_add_eq hx, wp_congr (fun i hi => tb_add_lo hi)]; simp
    rw [e0, e1, e2, w1, w2]
    rw [Int.mul_add, Int.mul_assoc, Int.mul_assoc, Int.add_comm]
/-- a step of a row: a, b: he misses, he hears; n, o: he notices, he overlooks -/
def sp (a b n o : Int) (j : Nat) (f : Nat → Int) : Nat → Int := fun c =>
  (if c ≤ j then f c * (o * a) else 0) + (if 1 ≤ c ∧ c ≤ j + 1 then f (c - 1) * (o * b) else 0) + (if c = j + 1 then sm f (j + 1) * (n * (a + b)) else 0)
theorem sp_lin (x y : Int) {a b n o : Int} {j : Nat} {f g h : Nat → Int} (e : ∀ c, f c = x * g c + y * h c) (c : Nat) : sp a b n o j f c = x * sp a b n o j g c + y * sp a b n o j h c := by
  unfold sp
  rw [sm_lin x y (fun i _ => e i), e c, e (c - 1)]
  repeat' split
  all_goals grind
theorem sp_ab (a b n o : Int) (j : Nat) (f : Nat → Int) (c : Nat) : sp a b n o j f c = a * sp 1 0 n o j f c + b * sp 0 1 n o j f c := by
  unfold sp
  repeat' split
  all_goals grind
theorem sp_no (a b n o : Int) (j : Nat) (f : Nat → Int) (c : Nat) : sp a b n o j f c = n * sp a b 1 0 j f c + o * sp a b 0 1 j f c := by
  unfold sp
  repeat' split
  all_goals grind
/-- two rows: the net not out yet, the net out -/
abbrev RR : Type := (Nat → Int) × (Nat → Int)
def w1_ (a b n o : Int) (K : Nat → Bool) (j : Nat) (f : Nat → Int) : Nat → Int := fun c => if K c then sp a b n o j f c else 0
def h2_ (a b n o : Int) (K : Nat → Bool) (OUT IN j : Nat) (s : RR) : Nat → Int := fun c => (if IN ≤ c then 0 else w1_ a b n o K j s.2 c) + (if OUT ≤ c then w1_ a b n o K j s.1 c else 0)
def go_ (a b n o : Int) (K : Nat → Bool) (OUT j : Nat) (s : RR) : Int := sm (fun c => if OUT ≤ c then w1_ a b n o K j s.1 c else 0) 11
def ou_ (a b n o : Int) (K : Nat → Bool) (OUT IN j : Nat) (s : RR) : Int := sm (h2_ a b n o K OUT IN j s) 11
def st_ (a b n o : Int) (K : Nat → Bool) (OUT IN BR j : Nat) (s : RR) : RR := (fun c => if OUT ≤ c then 0 else w1_ a b n o K j s.1 c, fun c => if j + 1 = BR then 0 else h2_ a b n o K OUT IN j s c)
/-- the parameters of the joints: P 0 he misses, P 1 he hears, P 2 he notices, P 3 he overlooks; joint j + 1 has place j -/
abbrev PP : Type := Nat → Nat → Int
def rw_ (P : PP) (K : Nat → Nat → Bool) (OUT IN BR : Nat) : Nat → RR
  | 0 => (fun c => if c = 0 then 1 else 0, fun _ => 0)
  | j + 1 => st_ (P 0 j) (P 1 j) (P 2 j) (P 3 j) (K j) OUT IN BR j (rw_ P K OUT IN BR j)
/-- what is behind joint J - m, of J joints -/
def bh_ (P : PP) (J : Nat) : Nat → Int
  | 0 => 1
  | m + 1 => bh_ P J m * ((P 0 (J - (m + 1)) + P 1 (J - (m + 1))) * (P 2 (J - (m + 1)) + P 3 (J - (m + 1))))
def LC (x y : Int) (s s1 s2 : RR) : Prop := ∀ c, s.1 c = x * s1.1 c + y * s2.1 c ∧ s.2 c = x * s1.2 c + y * s2.2 c
theorem w1_lin {x y : Int} {a b n o : Int} {K : Nat → Bool} {j : Nat} {f g h : Nat → Int} (e : ∀ c, f c = x * g c + y * h c) (c : Nat) : w1_ a b n o K j f c = x * w1_ a b n o K j g c + y * w1_ a b n o K j h c := by
  unfold w1_
  split
  · exact sp_lin x y e c
  · grind
theorem h2_lin {x y : Int} {a b n o : Int} {K : Nat → Bool} {OUT IN j : Nat} {s s1 s2 : RR} (e : LC x y s s1 s2) (c : Nat) : h2_ a b n o K OUT IN j s c = x * h2_ a b n o K OUT IN j s1 c + y * h2_ a b n o K OUT IN j s2 c := by
  unfold h2_
  rw [w1_lin (fun c => (e c).1) c, w1_lin (fun c => (e c).2) c]
  repeat' split
  all_goals grind
theorem st_lin {x y : Int} {a b n o : Int} {K : Nat → Bool} {OUT IN BR j : Nat} {s s1 s2 : RR} (e : LC x y s s1 s2) : LC x y (st_ a b n o K OUT IN BR j s) (st_ a b n o K OUT IN BR j s1) (st_ a b n o K OUT IN BR j s2) := by
  intro c
  refine ⟨?_, ?_⟩
  · show (if OUT ≤ c then 0 else w1_ a b n o K j s.1 c) = x * (if OUT ≤ c then 0 else w1_ a b n o K j s1.1 c) + y * (if OUT ≤ c then 0 else w1_ a b n o K j s2.1 c)
    rw [w1_lin (fun c => (e c).1) c]
    split <;> grind
  · show (if j + 1 = BR then 0 else h2_ a b n o K OUT IN j s c) = x * (if j + 1 = BR then 0 else h2_ a b n o K OUT IN j s1 c) + y * (if j + 1 = BR then 0 else h2_ a b n o K OUT IN j s2 c)
    rw [h2_lin e c]
    split <;> grind
theorem go_lin {x y : Int} {a b n o : Int} {K : Nat → Bool} {OUT j : Nat} {s s1 s2 : RR} (e : LC x y s s1 s2) : go_ a b n o K OUT j s = x * go_ a b n o K OUT j s1 + y * go_ a b n o K OUT j s2 := by
  unfold go_
  refine sm_lin x y fun c _ => ?_
  rw [w1_lin (fun c => (e c).1) c]
  split <;> grind
theorem ou_lin {x y : Int} {a b n o : Int} {K : Nat → Bool} {OUT IN j : Nat} {s s1 s2 : RR} (e : LC x y s s1 s2) : ou_ a b n o K OUT IN j s = x * ou_ a b n o K OUT IN j s1 + y * ou_ a b n o K OUT IN j s2 := by
  unfold ou_
  exact sm_lin x y fun c _ => h2_lin e c
/-- a step is linear in a pair of its parameters: x the first, y the second, over the same rows -/
def L4 (x y a b n o a1 b1 n1 o1 a2 b2 n2 o2 : Int) : Prop := ∀ (j : Nat) (f : Nat → Int) (c : Nat), sp a b n o j f c = x * sp a1 b1 n1 o1 j f c + y * sp a2 b2 n2 o2 j f c
theorem w1_p {x y a b n o a1 b1 n1 o1 a2 b2 n2 o2 : Int} (h : L4 x y a b n o a1 b1 n1 o1 a2 b2 n2 o2) (K : Nat → Bool) (j : Nat) (f : Nat → Int) (c : Nat) : w1_ a b n o K j f c = x * w1_ a1 b1 n1 o1 K j f c + y * w1_ a2 b2 n2 o2 K j f c := by
  unfold w1_
  split
  · exact h j f c
  · grind
theorem h2_p {x y a b n o a1 b1 n1 o1 a2 b2 n2 o2 : Int} (h : L4 x y a b n o a1 b1 n1 o1 a2 b2 n2 o2) (K : Nat → Bool) (OUT IN j : Nat) (s : RR) (c : Nat) : h2_ a b n o K OUT IN j s c = x * h2_ a1 b1 n1 o1 K OUT IN j s c + y * h2_ a2 b2 n2 o2 K OUT IN j s c := by
  unfold h2_
  rw [w1_p h K j s.1 c, w1_p h K j s.2 c]
  repeat' split
  all_goals grind
theorem st_p {x y a b n o a1 b1 n1 o1 a2 b2 n2 o2 : Int} (h : L4 x y a b n o a1 b1 n1 o1 a2 b2 n2 o2) (K : Nat → Bool) (OUT IN BR j : Nat) (s : RR) : LC x y (st_ a b n o K OUT IN BR j s) (st_ a1 b1 n1 o1 K OUT IN BR j s) (st_ a2 b2 n2 o2 K OUT IN BR j s) := by
  intro c
  refine ⟨?_, ?_⟩
  · show (if OUT ≤ c then 0 else w1_ a b n o K j s.1 c) = x * (if OUT ≤ c then 0 else w1_ a1 b1 n1 o1 K j s.1 c) + y * (if OUT ≤ c then 0 else w1_ a2 b2 n2 o2 K j s.1 c)
    rw [w1_p h K j s.1 c]
    split <;> grind
  · show (if j + 1 = BR then 0 else h2_ a b n o K OUT IN j s c) = x * (if j + 1 = BR then 0 else h2_ a1 b1 n1 o1 K OUT IN j s c) + y * (if j + 1 = BR then 0 else h2_ a2 b2 n2 o2 K OUT IN j s c)
    rw [h2_p h K OUT IN j s c]
    split <;> grind
theorem go_p {x y a b n o a1 b1 n1 o1 a2 b2 n2 o2 : Int} (h : L4 x y a b n o a1 b1 n1 o1 a2 b2 n2 o2) (K : Nat → Bool) (OUT j : Nat) (s : RR) : go_ a b n o K OUT j s = x * go_ a1 b1 n1 o1 K OUT j s + y * go_ a2 b2 n2 o2 K OUT j s := by
  unfold go_
  refine sm_lin x y fun c _ => ?_
  rw [w1_p h K j s.1 c]
  split <;> grind
theorem ou_p {x y a b n o a1 b1 n1 o1 a2 b2 n2 o2 : Int} (h : L4 x y a b n o a1 b1 n1 o1 a2 b2 n2 o2) (K : Nat → Bool) (OUT IN j : Nat) (s : RR) : ou_ a b n o K OUT IN j s = x * ou_ a1 b1 n1 o1 K OUT IN j s + y * ou_ a2 b2 n2 o2 K OUT IN j s := by
  unfold ou_
  exact sm_lin x y fun c _ => h2_p h K OUT IN j s c
/-- three sets of parameters: the same but at joint k + 1, where the first is x times the second and y times the third -/
def P3 (x y : Int) (k : Nat) (P P1 P2 : PP) : Prop := (∀ i j, j ≠ k → P1 i j = P i j ∧ P2 i j = P i j) ∧ L4 x y (P 0 k) (P 1 k) (P 2 k) (P 3 k) (P1 0 k) (P1 1 k) (P1 2 k) (P1 3 k) (P2 0 k) (P2 1 k) (P2 2 k) (P2 3 k) ∧ (P 0 k + P 1 k) * (P 2 k + P 3 k) = x * ((P1 0 k + P1 1 k) * (P1 2 k + P1 3 k)) + y * ((P2 0 k + P2 1 k) * (P2 2 k + P2 3 k))
theorem rw_same {x y : Int} {k : Nat} {P P1 P2 : PP} (h : P3 x y k P P1 P2) (K : Nat → Nat → Bool) (OUT IN BR : Nat) : ∀ j, j ≤ k → rw_ P1 K OUT IN BR j = rw_ P K OUT IN BR j ∧ rw_ P2 K OUT IN BR j = rw_ P K OUT IN BR j := by
  intro j
  induction j with
  | zero => intro _; exact ⟨rfl, rfl⟩
  | succ j ih =>
    intro hj
    obtain ⟨h1, h2⟩ := ih (by omega)
    have e : ∀ i, P1 i j = P i j ∧ P2 i j = P i j := fun i => h.1 i j (by omega)
    simp only [rw_]
    rw [h1, h2, (e 0).1, (e 1).1, (e 2).1, (e 3).1, (e 0).2, (e 1).2, (e 2).2, (e 3).2]
    exact ⟨rfl, rfl⟩
theorem rw_LC {x y : Int} {k : Nat} {P P1 P2 : PP} (h : P3 x y k P P1 P2) (K : Nat → Nat → Bool) (OUT IN BR : Nat) : ∀ j, k < j → LC x y (rw_ P K OUT IN BR j) (rw_ P1 K OUT IN BR j) (rw_ P2 K OUT IN BR j) := by
  intro j
  induction j with
  | zero => intro h0; omega
  | succ j ih =>
    intro hj
    simp only [rw_]
    by_cases hk : j = k
    · subst hk
      obtain ⟨h1, h2⟩ := rw_same h K OUT IN BR j (Nat.le_refl _)
      rw [h1, h2]
      exact st_p h.2.1 (K j) OUT IN BR j _
    · have e : ∀ i, P1 i j = P i j ∧ P2 i j = P i j := fun i => h.1 i j hk
      rw [(e 0).1, (e 1).1, (e 2).1, (e 3).1, (e 0).2, (e 1).2, (e 2).2, (e 3).2]
      exact st_lin (ih (by omega))
theorem bh_P3 {x y : Int} {k J : Nat} {P P1 P2 : PP} (h : P3 x y k P P1 P2) : ∀ m, m ≤ J → (J - m ≤ k ∧ k < J → bh_ P J m = x * bh_ P1 J m + y * bh_ P2 J m) ∧ (¬ (J - m ≤ k ∧ k < J) → bh_ P1 J m = bh_ P J m ∧ bh_ P2 J m = bh_ P J m) := by
  intro m
  induction m with
  | zero => intro _; exact ⟨fun q => by omega, fun _ => ⟨rfl, rfl⟩⟩
  | succ m ih =>
    intro hm
    obtain ⟨i1, i2⟩ := ih (by omega)
    by_cases hk : J - (m + 1) = k
    · obtain ⟨g1, g2⟩ := i2 (by omega)
      refine ⟨fun _ => ?_, fun q => absurd ⟨by omega, by omega⟩ q⟩
      simp only [bh_]
      rw [hk, g1, g2, h.2.2]
      grind
    · have e : ∀ i, P1 i (J - (m + 1)) = P i (J - (m + 1)) ∧ P2 i (J - (m + 1)) = P i (J - (m + 1)) := fun i => h.1 i _ hk
      simp only [bh_]
      rw [(e 0).1, (e 1).1, (e 2).1, (e 3).1, (e 0).2, (e 1).2, (e 2).2, (e 3).2]
      refine ⟨fun q => ?_, fun q => ?_⟩
      · rw [i1 (by omega)]
        grind
      · obtain ⟨g1, g2⟩ := i2 (by omega)
        rw [g1, g2]
        exact ⟨rfl, rfl⟩
/-- the three answers, each with what is behind its joint (j ≤ J) -/
def W_ (P : PP) (K : Nat → Nat → Bool) (OUT IN BR J j c : Nat) : Int := (rw_ P K OUT IN BR j).1 c * bh_ P J (J - j)
def G_ (P : PP) (K : Nat → Nat → Bool) (OUT IN BR J j : Nat) : Int := go_ (P 0 j) (P 1 j) (P 2 j) (P 3 j) (K j) OUT j (rw_ P K OUT IN BR j) * bh_ P J (J - (j + 1))
def O_ (P : PP) (K : Nat → Nat → Bool) (OUT IN BR J j : Nat) : Int := ou_ (P 0 j) (P 1 j) (P 2 j) (P 3 j) (K j) OUT IN j (rw_ P K OUT IN BR j) * bh_ P J (J - (j + 1))
theorem W_P3 {x y : Int} {k J : Nat} {P P1 P2 : PP} (h : P3 x y k P P1 P2) (hk : k < J) (K : Nat → Nat → Bool) (OUT IN BR j c : Nat) (hj : j ≤ J) : W_ P K OUT IN BR J j c = x * W_ P1 K OUT IN BR J j c + y * W_ P2 K OUT IN BR J j c := by
  unfold W_
  obtain ⟨b1, b2⟩ := bh_P3 (J := J) h (J - j) (by omega)
  by_cases q : k < j
  · obtain ⟨g1, g2⟩ := b2 (by omega)
    rw [(rw_LC h K OUT IN BR j q c).1, g1, g2]
    grind
  · obtain ⟨g1, g2⟩ := rw_same h K OUT IN BR j (by omega)
    rw [g1, g2, b1 (by omega)]
    grind
theorem G_P3 {x y : Int} {k J : Nat} {P P1 P2 : PP} (h : P3 x y k P P1 P2) (hk : k < J) (K : Nat → Nat → Bool) (OUT IN BR j : Nat) (hj : j < J) : G_ P K OUT IN BR J j = x * G_ P1 K OUT IN BR J j + y * G_ P2 K OUT IN BR J j := by
  unfold G_
  obtain ⟨b1, b2⟩ := bh_P3 (J := J) h (J - (j + 1)) (by omega)
  by_cases q : k < j + 1
  · obtain ⟨g1, g2⟩ := b2 (by omega)
    rw [g1, g2]
    by_cases q2 : j = k
    · subst q2
      obtain ⟨r1, r2⟩ := rw_same h K OUT IN BR j (Nat.le_refl _)
      rw [r1, r2, go_p h.2.1]
      grind
    · have e : ∀ i, P1 i j = P i j ∧ P2 i j = P i j := fun i => h.1 i j q2
      rw [(e 0).1, (e 1).1, (e 2).1, (e 3).1, (e 0).2, (e 1).2, (e 2).2, (e 3).2, go_lin (rw_LC h K OUT IN BR j (by omega))]
      grind
  · obtain ⟨r1, r2⟩ := rw_same h K OUT IN BR j (by omega)
    have e : ∀ i, P1 i j = P i j ∧ P2 i j = P i j := fun i => h.1 i j (by omega)
    rw [r1, r2, (e 0).1, (e 1).1, (e 2).1, (e 3).1, (e 0).2, (e 1).2, (e 2).2, (e 3).2, b1 (by omega)]
    grind
theorem O_P3 {x y : Int} {k J : Nat} {P P1 P2 : PP} (h : P3 x y k P P1 P2) (hk : k < J) (K : Nat → Nat → Bool) (OUT IN BR j : Nat) (hj : j < J) : O_ P K OUT IN BR J j = x * O_ P1 K OUT IN BR J j + y * O_ P2 K OUT IN BR J j := by
  unfold O_
  obtain ⟨b1, b2⟩ := bh_P3 (J := J) h (J - (j + 1)) (by omega)
  by_cases q : k < j + 1
  · obtain ⟨g1, g2⟩ := b2 (by omega)
    rw [g1, g2]
    by_cases q2 : j = k
    · subst q2
      obtain ⟨r1, r2⟩ := rw_same h K OUT IN BR j (Nat.le_refl _)
      rw [r1, r2, ou_p h.2.1]
      grind
    · have e : ∀ i, P1 i j = P i j ∧ P2 i j = P i j := fun i => h.1 i j q2
      rw [(e 0).1, (e 1).1, (e 2).1, (e 3).1, (e 0).2, (e 1).2, (e 2).2, (e 3).2, ou_lin (rw_LC h K OUT IN BR j (by omega))]
      grind
  · obtain ⟨r1, r2⟩ := rw_same h K OUT IN BR j (by omega)
    have e : ∀ i, P1 i j = P i j ∧ P2 i j = P i j := fun i => h.1 i j (by omega)
    rw [r1, r2, (e 0).1, (e 1).1, (e 2).1, (e 3).1, (e 0).2, (e 1).2, (e 2).2, (e 3).2, b1 (by omega)]
    grind
/-- the first place below n, or n -/
def fi (p : Nat → Bool) : Nat → Nat
  | 0 => 0
  | n + 1 => if fi p n < n then fi p n else if p n then n else n + 1
theorem fi_le (p : Nat → Bool) : ∀ n, fi p n ≤ n
  | 0 => Nat.le_refl 0
  | n + 1 => by
    have := fi_le p n
    unfold fi
    split
    · omega
    · split <;> omega
theorem fi_yes {p : Nat → Bool} : ∀ {n : Nat}, fi p n < n → p (fi p n) = true
  | 0, h => absurd h (Nat.not_lt_zero _)
  | n + 1, h => by
    unfold fi at h ⊢
    by_cases q : fi p n < n
    · rw [if_pos q]; exact fi_yes q
    · rw [if_neg q] at h ⊢
      by_cases r : p n = true
      · rw [if_pos r]; exact r
      · rw [if_neg r] at h; omega
theorem fi_no {p : Nat → Bool} : ∀ {n k : Nat}, k < fi p n → p k = false
  | 0, k, h => absurd h (Nat.not_lt_zero _)
  | n + 1, k, h => by
    unfold fi at h
    by_cases q : fi p n < n
    · rw [if_pos q] at h; exact fi_no h
    · rw [if_neg q] at h
      have hn : fi p n = n := by have := fi_le p n; omega
      by_cases r : p n = true
      · rw [if_pos r] at h; exact fi_no (n := n) (by omega)
      · rw [if_neg r] at h
        by_cases e : k = n
        · subst e; simpa using r
        · exact fi_no (n := n) (by omega)
theorem fi_out {p : Nat → Bool} {n : Nat} (h : ∀ k, k < n → p k = false) : fi p n = n := by
  have h1 := fi_le p n
  rcases Nat.lt_or_ge (fi p n) n with q | q
  · have := fi_yes q; rw [h _ q] at this; cases this
  · omega
theorem fi_is {p : Nat → Bool} {n k : Nat} (hk : k < n) (h : p k = true) (u : ∀ i, i < n → p i = true → i = k) : fi p n = k := by
  have h1 := fi_le p n
  rcases Nat.lt_or_ge (fi p n) n with q | q
  · exact u _ q (fi_yes q)
  · have := fi_no (p := p) (n := n) (k := k) (by omega); rw [h] at this; cases this
/-- the mark at joint j + 1 (M: none) -/
def ma (mj : Nat → Nat) (M j : Nat) : Nat := fi (fun m => mj m == j + 1) M
def PQ (q r : Nat → Int × Int) (mj : Nat → Nat) (M : Nat) : PP := fun i j => if i = 0 then (q j).1 else if i = 1 then (q j).2 else if i = 2 then (if ma mj M j < M then (r (ma mj M j)).1 else 0) else (if ma mj M j < M then (r (ma mj M j)).2 else 1)
theorem PQ_q (q r : Nat → Int × Int) (mj : Nat → Nat) (M k : Nat) : P3 (q k).1 (q k).2 k (PQ q r mj M) (PQ (fun i => if i = k then (1, 0) else q i) r mj M) (PQ (fun i => if i = k then (0, 1) else q i) r mj M) := by
  refine ⟨fun i j hj => ?_, fun j f c => ?_, ?_⟩
  · unfold PQ
    simp [hj]
  · unfold PQ
    simp
    exact sp_ab _ _ _ _ j f c
  · unfold PQ
    simp
    grind
theorem ma_is {mj : Nat → Nat} {M m : Nat} (hm : m < M) (h1 : 1 ≤ mj m) (u : ∀ a b, a < M → b < M → mj a = mj b → a = b) : ma mj M (mj m - 1) = m := by
  unfold ma
  refine fi_is hm (by simp; omega) fun i hi h => ?_
  simp at h
  exact u i m hi hm (by omega)
theorem PQ_r (q r : Nat → Int × Int) {mj : Nat → Nat} {M m : Nat} (hm : m < M) (h1 : 1 ≤ mj m) (u : ∀ a b, a < M → b < M → mj a = mj b → a = b) : P3 (r m).1 (r m).2 (mj m - 1) (PQ q r mj M) (PQ q (fun i => if i = m then (1, 0) else r i) mj M) (PQ q (fun i => if i = m then (0, 1) else r i) mj M) := by
  have e := ma_is hm h1 u
  refine ⟨fun i j hj => ?_, fun j f c => ?_, ?_⟩
  · have hne : ma mj M j < M → ma mj M j ≠ m := by
      intro hl he
      have hy := fi_yes (p := fun m => mj m == j + 1) hl
      rw [show fi (fun m => mj m == j + 1) M = m from he] at hy
      simp at hy
      omega
    unfold PQ
    by_cases hl : ma mj M j < M
    · simp [hl, hne hl]
    · simp [hl]
  · unfold PQ
    simp [e, hm]
    exact sp_no _ _ _ _ j f c
  · unfold PQ
    simp [e, hm]
    grind
/-- one of the answers, as a number of the parameters -/
theorem MA_two {J M : Nat} {mj : Nat → Nat} (hm : ∀ m, m < M → 1 ≤ mj m ∧ mj m ≤ J) (u : ∀ a b, a < M → b < M → mj a = mj b → a = b) (F : PP → Int) (hF : ∀ (x y : Int) (k : Nat) (P P1 P2 : PP), k < J → P3 x y k P P1 P2 → F P = x * F P1 + y * F P2) (q r : Nat → Int × Int) :
    F (PQ q r mj M) = sm (fun x => wp q x J * sm (fun n => wp r n M * F (PQ (mx x J q) (mx n M r) mj M)) (2 ^ M)) (2 ^ J) := by
  rw [MA_sum (K := J) (F := fun q => F (PQ q r mj M)) (fun q k hk => hF _ _ k _ _ _ hk (PQ_q q r mj M k)) q J (Nat.le_refl _)]
  refine sm_congr fun x _ => ?_
  rw [MA_sum (K := M) (F := fun r => F (PQ (mx x J q) r mj M)) (fun r k hk => hF _ _ (mj k - 1) _ _ _ (by have := hm k hk; omega) (PQ_r (mx x J q) r hk (hm k hk).1 u)) r M (Nat.le_refl _)]
/-- a night of which all is known: whether he notices at joint j + 1, his count, the net (0 not out yet, 1 out, 2 in, 3 torn) -/
def nt (mj : Nat → Nat) (M n j : Nat) : Bool := decide (ma mj M j < M) && n.testBit (ma mj M j)
def cn (mj : Nat → Nat) (M x n : Nat) : Nat → Nat
  | 0 => 0
  | j + 1 => if nt mj M n j then j + 1 else if x.testBit j then cn mj M x n j else cn mj M x n j + 1
def pa (OUT IN s c : Nat) : Nat := if s = 0 then (if OUT ≤ c then 1 else 0) else if s = 1 then (if IN ≤ c then 2 else 1) else s
def ns (mj : Nat → Nat) (M x n OUT IN BR : Nat) : Nat → Nat
  | 0 => 0
  | j + 1 => if pa OUT IN (ns mj M x n OUT IN BR j) (cn mj M x n (j + 1)) = 1 ∧ j + 1 = BR then 3 else pa OUT IN (ns mj M x n OUT IN BR j) (cn mj M x n (j + 1))
def okK (mj : Nat → Nat) (M x n : Nat) (K : Nat → Nat → Bool) : Nat → Bool
  | 0 => true
  | j + 1 => okK mj M x n K j && K j (cn mj M x n (j + 1))
theorem cn_le (mj : Nat → Nat) (M x n : Nat) : ∀ j, cn mj M x n j ≤ j
  | 0 => Nat.le_refl 0
  | j + 1 => by
    have := cn_le mj M x n j
    unfold cn
    repeat' split
    all_goals omega
theorem sp_det {nb xb : Bool} {j c0 : Nat} {v : Int} (hc : c0 ≤ j) (c : Nat) : sp (if xb then 1 else 0) (if xb then 0 else 1) (if nb then 1 else 0) (if nb then 0 else 1) j (fun c => if c = c0 then v else 0) c = if c = (if nb then j + 1 else if xb then c0 else c0 + 1) then v else 0 := by
  unfold sp
  rw [sm_delta, if_pos (show c0 < j + 1 by omega)]
  cases nb
  · cases xb
    · by_cases h : c = c0 + 1
      · subst h
        have h1 : c0 + 1 ≤ j + 1 := by omega
        simp [hc]
      · have h1 : ¬ (1 ≤ c ∧ c - 1 = c0) := by omega
        by_cases h2 : 1 ≤ c ∧ c ≤ j + 1
        · have h3 : ¬ c - 1 = c0 := by omega
          simp [h, h3]
        · simp [h]
          intros
          omega
    · by_cases h : c = c0
      · subst h
        simp [hc]
      · simp [h]
  · by_cases h : c = j + 1
    · subst h
      cases xb <;> simp
    · simp [h]
theorem PQ_det (x n J : Nat) (q r : Nat → Int × Int) (mj : Nat → Nat) (M : Nat) {j : Nat} (hj : j < J) : PQ (mx x J q) (mx n M r) mj M 0 j = (if x.testBit j then 1 else 0) ∧ PQ (mx x J q) (mx n M r) mj M 1 j = (if x.testBit j then 0 else 1) ∧ PQ (mx x J q) (mx n M r) mj M 2 j = (if nt mj M n j then 1 else 0) ∧ PQ (mx x J q) (mx n M r) mj M 3 j = (if nt mj M n j then 0 else 1) := by
  unfold PQ nt
  refine ⟨?_, ?_, ?_, ?_⟩
  · simp [mx, hj]; split <;> rfl
  · simp [mx, hj]; split <;> rfl
  · by_cases h : ma mj M j < M
    · simp [mx, h]; split <;> rfl
    · simp [h]
  · by_cases h : ma mj M j < M
    · simp [mx, h]; split <;> rfl
    · simp [h]
theorem rw_det (x n : Nat) {J : Nat} (q r : Nat → Int × Int) (mj : Nat → Nat) (M : Nat) (K : Nat → Nat → Bool) (OUT IN BR : Nat) : ∀ j, j ≤ J → ∀ c, (rw_ (PQ (mx x J q) (mx n M r) mj M) K OUT IN BR j).1 c = (if c = cn mj M x n j then (if ns mj M x n OUT IN BR j = 0 ∧ okK mj M x n K j = true then 1 else 0) else 0) ∧ (rw_ (PQ (mx x J q) (mx n M r) mj M) K OUT IN BR j).2 c = (if c = cn mj M x n j then (if ns mj M x n OUT IN BR j = 1 ∧ okK mj M x n K j = true then 1 else 0) else 0) := by
  intro j
  induction j with
  | zero => intro _ c; simp [rw_, cn, ns, okK]
  | succ j ih =>
    intro hj c
    obtain ⟨p0, p1, p2, p3⟩ := PQ_det x n J q r mj M (j := j) (by omega)
    have e1 : (rw_ (PQ (mx x J q) (mx n M r) mj M) K OUT IN BR j).1 = fun c => if c = cn mj M x n j then (if ns mj M x n OUT IN BR j = 0 ∧ okK mj M x n K j = true then 1 else 0) else 0 := funext fun c => (ih (by omega) c).1
    have e2 : (rw_ (PQ (mx x J q) (mx n M r) mj M) K OUT IN BR j).2 = fun c => if c = cn mj M x n j then (if ns mj M x n OUT IN BR j = 1 ∧ okK mj M x n K j = true then 1 else 0) else 0 := funext fun c => (ih (by omega) c).2
    have hc := cn_le mj M x n j
    have s1 := fun c => sp_det (nb := nt mj M n j) (xb := x.testBit j) (v := if ns mj M x n OUT IN BR j = 0 ∧ okK mj M x n K j = true then 1 else 0) hc c
    have s2 := fun c => sp_det (nb := nt mj M n j) (xb := x.testBit j) (v := if ns mj M x n OUT IN BR j = 1 ∧ okK mj M x n K j = true then 1 else 0) hc c
    have ec : cn mj M x n (j + 1) = if nt mj M n j then j + 1 else if x.testBit j then cn mj M x n j else cn mj M x n j + 1 := rfl
    rw [← ec] at s1 s2
    simp only [rw_, st_, h2_, w1_, p0, p1, p2, p3, e1, e2, s1, s2]
    have eo : okK mj M x n K (j + 1) = (okK mj M x n K j && K j (cn mj M x n (j + 1))) := rfl
    have en : ns mj M x n OUT IN BR (j + 1) = if pa OUT IN (ns mj M x n OUT IN BR j) (cn mj M x n (j + 1)) = 1 ∧ j + 1 = BR then 3 else pa OUT IN (ns mj M x n OUT IN BR j) (cn mj M x n (j + 1)) := rfl
    rw [eo, en]
    generalize ns mj M x n OUT IN BR j = s0
    generalize okK mj M x n K j = k0
    generalize cn mj M x n (j + 1) = c1
    clear e1 e2 s1 s2 ec eo en ih p0 p1 p2 p3
    by_cases h : c = c1
    · subst h
      unfold pa
      cases k0 <;> cases K j c <;> by_cases a1 : s0 = 0 <;> by_cases a2 : s0 = 1 <;> by_cases a3 : OUT ≤ c <;> by_cases a4 : IN ≤ c <;> by_cases a5 : j + 1 = BR <;> simp [a1, a2, a3, a4, a5]
    · simp [h]
theorem bh_det (x n : Nat) {J : Nat} (q r : Nat → Int × Int) (mj : Nat → Nat) (M : Nat) : ∀ m, m ≤ J → bh_ (PQ (mx x J q) (mx n M r) mj M) J m = 1 := by
  intro m
  induction m with
  | zero => intro _; rfl
  | succ m ih =>
    intro hm
    obtain ⟨p0, p1, p2, p3⟩ := PQ_det x n J q r mj M (j := J - (m + 1)) (by omega)
    simp only [bh_]
    rw [ih (by omega), p0, p1, p2, p3]
    split <;> split <;> rfl
theorem W_det (x n : Nat) {J : Nat} (q r : Nat → Int × Int) (mj : Nat → Nat) (M : Nat) (K : Nat → Nat → Bool) (OUT IN BR : Nat) {j : Nat} (hj : j ≤ J) (c : Nat) : W_ (PQ (mx x J q) (mx n M r) mj M) K OUT IN BR J j c = if c = cn mj M x n j ∧ ns mj M x n OUT IN BR j = 0 ∧ okK mj M x n K j = true then 1 else 0 := by
  unfold W_
  rw [(rw_det x n q r mj M K OUT IN BR j hj c).1, bh_det x n q r mj M _ (by omega)]
  by_cases h : c = cn mj M x n j <;> simp [h]
theorem G_det (x n : Nat) {J : Nat} (hJ : J ≤ 10) (q r : Nat → Int × Int) (mj : Nat → Nat) (M : Nat) (K : Nat → Nat → Bool) (OUT IN BR : Nat) {j : Nat} (hj : j < J) : G_ (PQ (mx x J q) (mx n M r) mj M) K OUT IN BR J j = if ns mj M x n OUT IN BR j = 0 ∧ OUT ≤ cn mj M x n (j + 1) ∧ okK mj M x n K (j + 1) = true then 1 else 0 := by
  unfold G_ go_ w1_
  obtain ⟨p0, p1, p2, p3⟩ := PQ_det x n J q r mj M (j := j) hj
  have e1 : (rw_ (PQ (mx x J q) (mx n M r) mj M) K OUT IN BR j).1 = fun c => if c = cn mj M x n j then (if ns mj M x n OUT IN BR j = 0 ∧ okK mj M x n K j = true then 1 else 0) else 0 := funext fun c => (rw_det x n q r mj M K OUT IN BR j (by omega) c).1
  have s1 := fun c => sp_det (nb := nt mj M n j) (xb := x.testBit j) (v := if ns mj M x n OUT IN BR j = 0 ∧ okK mj M x n K j = true then 1 else 0) (cn_le mj M x n j) c
  have ec : cn mj M x n (j + 1) = if nt mj M n j then j + 1 else if x.testBit j then cn mj M x n j else cn mj M x n j + 1 := rfl
  rw [← ec] at s1
  rw [bh_det x n q r mj M _ (by omega), p0, p1, p2, p3, e1]
  have hl := cn_le mj M x n (j + 1)
  rw [sm_congr (g := fun c => if c = cn mj M x n (j + 1) then (if ns mj M x n OUT IN BR j = 0 ∧ OUT ≤ cn mj M x n (j + 1) ∧ okK mj M x n K (j + 1) = true then 1 else 0) else 0) (fun c _ => by
    rw [s1 c]
    have eo : okK mj M x n K (j + 1) = (okK mj M x n K j && K j (cn mj M x n (j + 1))) := rfl
    rw [eo]
    by_cases h : c = cn mj M x n (j + 1)
    · subst h
      by_cases a1 : OUT ≤ cn mj M x n (j + 1) <;> by_cases a2 : ns mj M x n OUT IN BR j = 0 <;> cases okK mj M x n K j <;> cases K j (cn mj M x n (j + 1)) <;> simp [a1, a2]
    · simp [h]), sm_delta, if_pos (by omega), Int.mul_one]
theorem O_det (x n : Nat) {J : Nat} (hJ : J ≤ 10) (q r : Nat → Int × Int) (mj : Nat → Nat) (M : Nat) (K : Nat → Nat → Bool) (OUT IN BR : Nat) {j : Nat} (hj : j < J) : O_ (PQ (mx x J q) (mx n M r) mj M) K OUT IN BR J j = if pa OUT IN (ns mj M x n OUT IN BR j) (cn mj M x n (j + 1)) = 1 ∧ okK mj M x n K (j + 1) = true then 1 else 0 := by
  unfold O_ ou_ h2_ w1_
  obtain ⟨p0, p1, p2, p3⟩ := PQ_det x n J q r mj M (j := j) hj
  have e1 : (rw_ (PQ (mx x J q) (mx n M r) mj M) K OUT IN BR j).1 = fun c => if c = cn mj M x n j then (if ns mj M x n OUT IN BR j = 0 ∧ okK mj M x n K j = true then 1 else 0) else 0 := funext fun c => (rw_det x n q r mj M K OUT IN BR j (by omega) c).1
  have e2 : (rw_ (PQ (mx x J q) (mx n M r) mj M) K OUT IN BR j).2 = fun c => if c = cn mj M x n j then (if ns mj M x n OUT IN BR j = 1 ∧ okK mj M x n K j = true then 1 else 0) else 0 := funext fun c => (rw_det x n q r mj M K OUT IN BR j (by omega) c).2
  have s1 := fun c => sp_det (nb := nt mj M n j) (xb := x.testBit j) (v := if ns mj M x n OUT IN BR j = 0 ∧ okK mj M x n K j = true then 1 else 0) (cn_le mj M x n j) c
  have s2 := fun c => sp_det (nb := nt mj M n j) (xb := x.testBit j) (v := if ns mj M x n OUT IN BR j = 1 ∧ okK mj M x n K j = true then 1 else 0) (cn_le mj M x n j) c
  have ec : cn mj M x n (j + 1) = if nt mj M n j then j + 1 else if x.testBit j then cn mj M x n j else cn mj M x n j + 1 := rfl
  rw [← ec] at s1 s2
  rw [bh_det x n q r mj M _ (by omega), p0, p1, p2, p3, e1, e2]
  have hl := cn_le mj M x n (j + 1)
  rw [sm_congr (g := fun c => if c = cn mj M x n (j + 1) then (if pa OUT IN (ns mj M x n OUT IN BR j) (cn mj M x n (j + 1)) = 1 ∧ okK mj M x n K (j + 1) = true then 1 else 0) else 0) (fun c _ => by
    rw [s1 c, s2 c]
    have eo : okK mj M x n K (j + 1) = (okK mj M x n K j && K j (cn mj M x n (j + 1))) := rfl
    rw [eo]
    generalize ns mj M x n OUT IN BR j = s0
    generalize okK mj M x n K j = k0
    generalize cn mj M x n (j + 1) = c1
    by_cases h : c = c1
    · subst h
      unfold pa
      cases k0 <;> cases K j c <;> by_cases a1 : s0 = 0 <;> by_cases a2 : s0 = 1 <;> by_cases a3 : OUT ≤ c <;> by_cases a4 : IN ≤ c <;> simp [a1, a2, a3, a4]
    · simp [h]), sm_delta, if_pos (by omega), Int.mul_one]
/-- the three answers as sums over all nights -/
def SN (q r : Nat → Int × Int) (J M : Nat) (v : Nat → Nat → Int) : Int := sm (fun x => wp q x J * sm (fun n => wp r n M * v x n) (2 ^ M)) (2 ^ J)
theorem SN_congr {q r : Nat → Int × Int} {J M : Nat} {v w : Nat → Nat → Int} (h : ∀ x n, x < 2 ^ J → n < 2 ^ M → v x n = w x n) : SN q r J M v = SN q r J M w := by
  unfold SN
  refine sm_congr fun x hx => ?_
  rw [sm_congr fun n hn => by rw [h x n hx hn]]
theorem SN_add (q r : Nat → Int × Int) (J M : Nat) (v w : Nat → Nat → Int) : SN q r J M (fun x n => v x n + w x n) = SN q r J M v + SN q r J M w := by
  unfold SN
  rw [← sm_add]
  refine sm_congr fun x _ => ?_
  rw [← Int.mul_add, ← sm_add]
  congr 1
  exact sm_congr fun n _ => by rw [Int.mul_add]
theorem SN_mul (a : Int) (q r : Nat → Int × Int) (J M : Nat) (v : Nat → Nat → Int) : SN q r J M (fun x n => a * v x n) = a * SN q r J M v := by
  unfold SN
  rw [← sm_mul]
  refine sm_congr fun x _ => ?_
  have e : sm (fun n => wp r n M * (a * v x n)) (2 ^ M) = a * sm (fun n => wp r n M * v x n) (2 ^ M) := by
    rw [← sm_mul]
    exact sm_congr fun n _ => Int.mul_left_comm _ _ _
  show wp q x J * sm (fun n => wp r n M * (a * v x n)) (2 ^ M) = _
  rw [e, Int.mul_left_comm]
section SNS
variable {J M : Nat} {mj : Nat → Nat}
theorem W_SN (hm : ∀ m, m < M → 1 ≤ mj m ∧ mj m ≤ J) (u : ∀ a b, a < M → b < M → mj a = mj b → a = b) (q r : Nat → Int × Int) (K : Nat → Nat → Bool) (OUT IN BR : Nat) {j : Nat} (hj : j ≤ J) (c : Nat) : W_ (PQ q r mj M) K OUT IN BR J j c = SN q r J M (fun x n => if c = cn mj M x n j ∧ ns mj M x n OUT IN BR j = 0 ∧ okK mj M x n K j = true then 1 else 0) := by
  rw [MA_two hm u (fun P => W_ P K OUT IN BR J j c) (fun x y k P P1 P2 hk h => W_P3 h hk K OUT IN BR j c hj) q r]
  unfold SN
  refine sm_congr fun x _ => ?_
  exact congrArg (fun z => wp q x J * z) (sm_congr fun n _ => by rw [W_det x n q r mj M K OUT IN BR hj c])
theorem G_SN (hm : ∀ m, m < M → 1 ≤ mj m ∧ mj m ≤ J) (u : ∀ a b, a < M → b < M → mj a = mj b → a = b) (q r : Nat → Int × Int) (K : Nat → Nat → Bool) (OUT IN BR : Nat) (hJ : J ≤ 10) {j : Nat} (hj : j < J) : G_ (PQ q r mj M) K OUT IN BR J j = SN q r J M (fun x n => if ns mj M x n OUT IN BR j = 0 ∧ OUT ≤ cn mj M x n (j + 1) ∧ okK mj M x n K (j + 1) = true then 1 else 0) := by
  rw [MA_two hm u (fun P => G_ P K OUT IN BR J j) (fun x y k P P1 P2 hk h => G_P3 h hk K OUT IN BR j hj) q r]
  unfold SN
  refine sm_congr fun x _ => ?_
  exact congrArg (fun z => wp q x J * z) (sm_congr fun n _ => by rw [G_det x n hJ q r mj M K OUT IN BR hj])
theorem O_SN (hm : ∀ m, m < M → 1 ≤ mj m ∧ mj m ≤ J) (u : ∀ a b, a < M → b < M → mj a = mj b → a = b) (q r : Nat → Int × Int) (K : Nat → Nat → Bool) (OUT IN BR : Nat) (hJ : J ≤ 10) {j : Nat} (hj : j < J) : O_ (PQ q r mj M) K OUT IN BR J j = SN q r J M (fun x n => if pa OUT IN (ns mj M x n OUT IN BR j) (cn mj M x n (j + 1)) = 1 ∧ okK mj M x n K (j + 1) = true then 1 else 0) := by
  rw [MA_two hm u (fun P => O_ P K OUT IN BR J j) (fun x y k P P1 P2 hk h => O_P3 h hk K OUT IN BR j hj) q r]
  unfold SN
  refine sm_congr fun x _ => ?_
  exact congrArg (fun z => wp q x J * z) (sm_congr fun n _ => by rw [O_det x n hJ q r mj M K OUT IN BR hj])
end SNS
end
section
/-! the state as whole numbers, and what is kept between calls -/
abbrev NN : Type := Nat → Nat → Nat
/-- what a text tells, by rows: 0 rules, 1 to 3 arms, 4 and 5 marks, 6 and 7 towns -/
def TK (t : NN) : Prop := (2 ≤ t 0 0 ∧ t 0 0 ≤ 10 ∧ t 0 1 ≤ 3 ∧ t 0 2 ≤ 3 ∧ t 0 3 ≤ 5 ∧ t 0 4 < 2 ^ t 0 0 ∧ t 0 5 ≤ t 0 0 ∧ t 0 6 ≤ 10 ∧ 1 ≤ t 0 7 ∧ t 0 7 ≤ 9 ∧ 1 ≤ t 0 8 ∧ t 0 8 ≤ 10 ∧ t 0 8 < t 0 9 ∧ t 0 9 ≤ 11 ∧ t 0 10 ≤ 9 ∧ t 0 11 ≤ 9 ∧ 1 ≤ t 0 12 ∧ t 0 12 ≤ 9) ∧
  (∀ i, i < t 0 1 → t 1 i ≤ 4 ∧ 1 ≤ t 2 i ∧ t 2 i ≤ t 0 0 ∧ t 3 i ≤ 9) ∧ (∀ i k, i < t 0 1 → k < t 0 1 → t 2 i = t 2 k → i = k) ∧
  (∀ m, m < t 0 2 → 1 ≤ t 4 m ∧ t 4 m ≤ t 0 0 ∧ t 5 m ≤ 10) ∧ (∀ i k, i < t 0 2 → k < t 0 2 → t 4 i = t 4 k → i = k) ∧
  (∀ i, i < t 0 3 → t 6 i ≤ 99 ∧ t 7 i ≤ 9)
def TV (b : Nat) (t : NN) (σ : ZI) : Prop := (∀ i, i < 13 → σ (b + 1) i = nI (t 0 i)) ∧ (∀ i, i < t 0 1 → σ (b + 2) i = nI (t 1 i) ∧ σ (b + 3) i = nI (t 2 i) ∧ σ (b + 4) i = nI (t 3 i)) ∧
  (∀ i, i < t 0 2 → σ (b + 5) i = nI (t 4 i) ∧ σ (b + 6) i = nI (t 5 i)) ∧ (∀ i, i < t 0 3 → σ (b + 7) i = nI (t 6 i) ∧ σ (b + 8) i = nI (t 7 i))
/-- the reference's page -/
def RP (o : Nat) (t : NN) (σ : ZI) : Prop := (∀ i, i < t 0 1 → σ 61 (o + i) = nI (t 1 i)) ∧ (∀ i, i < t 0 2 → σ 61 (o + (3 + i)) = nI (t 5 i)) ∧ (∀ i, i < t 0 3 → σ 61 (o + (6 + i)) = nI (t 6 i)) ∧
  σ 61 (o + 11) = nI (t 0 4) ∧ σ 61 (o + 12) = nI (t 0 5) ∧ σ 61 (o + 13) = nI (t 0 6) - 1 ∧ σ 61 (o + 14) = nI (t 0 7) - 5 ∧ σ 61 (o + 15) = nI (t 0 8) - 2 ∧ σ 61 (o + 16) = nI (t 0 9) - 4 ∧ σ 61 (o + 17) = nI (t 0 12) - 3
def RS (t : NN) (σ : ZI) : Prop := σ 60 1 = nI (t 0 0) ∧ σ 60 3 = nI (t 0 1) ∧ σ 60 5 = nI (t 0 2) ∧ σ 60 7 = nI (t 0 3) ∧ σ 65 0 = nI (t 0 10) ∧ σ 65 1 = nI (t 0 11) ∧
  (∀ i, i < t 0 1 → σ 62 (2 * i) = nI (t 2 i) ∧ σ 62 (2 * i + 1) = nI (t 3 i)) ∧ (∀ i, i < t 0 2 → σ 63 i = nI (t 4 i)) ∧ (∀ i, i < t 0 3 → σ 64 i = nI (t 7 i))
/-- what no call but the text changes is the same -/
def SS (t u : NN) : Prop := u 0 0 = t 0 0 ∧ u 0 1 = t 0 1 ∧ u 0 2 = t 0 2 ∧ u 0 3 = t 0 3 ∧ u 0 10 = t 0 10 ∧ u 0 11 = t 0 11 ∧ (∀ i, i < t 0 1 → u 2 i = t 2 i ∧ u 3 i = t 3 i) ∧ (∀ i, i < t 0 2 → u 4 i = t 4 i) ∧ (∀ i, i < t 0 3 → u 7 i = t 7 i)
def ImK (b o k : Nat) (t : NN) (σ : ZI) : Prop := k = 1 → ∃ u, TK u ∧ SS t u ∧ TV b u σ ∧ RP o u σ
def InvI (t : NN) (σ : ZI) : Prop := ∃ k1 k2 : Nat, k1 ≤ 1 ∧ k2 ≤ 1 ∧ σ 0 3 = nI (k1 + 2 * k2) ∧ σ 75 0 = nI k1 ∧ σ 75 1 = nI k2 ∧ ImK 10 18 k1 t σ ∧ ImK 19 36 k2 t σ
def InvP (σ : ZI) : Prop := ∃ (n : Nat) (b : Nat → Nat), n ≤ 160 ∧ σ 37 1 = nI n ∧ σ 60 23 = nI n ∧ ∀ i, i < n → b i < 128 ∧ σ 38 i = nI (b i) ∧ σ 71 i = nI (b i)
def InvS (t : NN) (σ : ZI) : Prop := ∃ (n : Nat) (j c : Nat → Nat), n ≤ 6 ∧ σ 51 2 = nI n ∧ σ 60 41 = nI n ∧ ∀ i, i < n → 1 ≤ j i ∧ j i ≤ t 0 0 ∧ c i ≤ 10 ∧ σ 52 i = nI (j i) ∧ σ 53 i = nI (c i) ∧ σ 74 (2 * i) = nI (j i) ∧ σ 74 (2 * i + 1) = nI (c i)
def ShK (k : Nat) (σ : ZI) : Prop := (σ 55 k = 0 ∧ σ 76 k = -4) ∨ (σ 55 k = 1 ∧ ∃ l n : Nat, l < 3 ∧ n ≤ 40 ∧ σ 56 k = nI l ∧ σ 76 k = nI l ∧ σ 57 k = nI n ∧ σ 77 k = nI n)
def InvH (σ : ZI) : Prop := (∀ k, k < 4 → ShK k σ) ∧ ∀ i, i < 160 → σ 78 i = σ 58 i
def InvF (σ : ZI) : Prop := σ 60 24 = σ 0 6 ∧ σ 60 46 = σ 0 12
def cutL : List Nat := [0, 6, 12, 16, 20, 23, 27, 32, 35, 39, 43, 49, 53, 58, 63, 69, 72]
def letL : List Nat := [106, 111, 105, 110, 116, 115, 98, 114, 105, 100, 103, 101, 115, 108, 105, 112, 112, 97, 99, 101, 110, 101, 116, 99, 111, 115, 116, 104, 97, 110, 100, 115, 97, 114, 109, 109, 97, 114, 107, 116, 111, 119, 110, 115, 105, 103, 110, 97, 108, 116, 114, 117, 101, 108, 105, 103, 104, 116, 104, 101, 97, 118, 121, 100, 111, 117, 98, 108, 101, 108, 111, 119]
def InvK (σ : ZI) : Prop := (∀ i, i < 17 → σ 72 i = nI (cutL.getD i 0)) ∧ ∀ i, i < 72 → σ 73 i = nI (letL.getD i 0)
def InvT (t : NN) (σ : ZI) : Prop := TK t ∧ TV 1 t σ ∧ RP 0 t σ ∧ RS t σ
def Inv (σ : ZI) : Prop := ∃ t, InvT t σ ∧ InvI t σ ∧ InvP σ ∧ InvS t σ ∧ InvH σ ∧ InvF σ ∧ InvK σ
def InL (τ : ZL) : Prop := τ 50 0 = 0
/-- whose a place is: 1 what is told now, 2 images, 3 the tape, 4 what was seen, 5 sheets, 6 faults, 7 the reference's tables, 0 scratch -/
def own60 (i : Nat) : Nat := if i = 1 ∨ i = 3 ∨ i = 5 ∨ i = 7 then 1 else if i = 23 then 3 else if i = 24 ∨ i = 46 then 6 else if i = 41 then 4 else 0
def own (c i : Nat) : Nat := if c = 0 then (if i = 3 then 2 else 6) else if c ≤ 9 then 1 else if c ≤ 27 then 2 else if c ≤ 36 then 0 else if c = 37 then (if i = 1 then 3 else 0) else if c = 38 then 3 else if c ≤ 50 then 0 else if c ≤ 53 then 4 else if c ≤ 58 then 5 else if c = 59 then 0 else if c = 60 then own60 i else if c = 61 then (if i < 18 then 1 else if i < 54 then 2 else 0) else if c ≤ 65 then 1 else if c ≤ 70 then 0 else if c = 71 then 3 else if c ≤ 73 then 7 else if c = 74 then 4 else if c = 75 then 2 else 5
/-- two stores: the same but for scratch and what k owns -/
def Dw (k : Nat) (σ σ' : ZI) : Prop := ∀ c i, own c i ≠ 0 → own c i ≠ k → σ' c i = σ c i
abbrev Sg (σ σ' : ZI) : Prop := Dw 0 σ σ'
theorem Dw_refl (k : Nat) (σ : ZI) : Dw k σ σ := fun _ _ _ _ => rfl
theorem Dw_tr {k : Nat} {a b c : ZI} (h : Dw k a b) (h2 : Dw k b c) : Dw k a c := fun x i q r => (h2 x i q r).trans (h x i q r)
theorem Sg_Dw {k : Nat} {a b : ZI} (h : Sg a b) : Dw k a b := fun x i q _ => h x i q q
theorem Dw_up {k : Nat} {σ σ' : ZI} {c p : Nat} {v : Int32} (h : Dw k σ σ') (hc : own c p = 0 ∨ own c p = k) : Dw k σ (va_up σ' c (upd (σ' c) p v)) := by
  intro x i q r
  rw [← h x i q r]
  by_cases hx : x = c
  · subst hx
    by_cases hi : i = p
    · subst hi; rcases hc with hc | hc
      · exact absurd hc q
      · exact absurd hc r
    · simp [va_up, upd, hi]
  · simp [va_up, hx]
theorem Dw_cell {k : Nat} {σ σ' : ZI} {c : Nat} {f : Nat → Int32} (h : Dw k σ σ') (hc : ∀ i, own c i = 0 ∨ own c i = k ∨ f i = σ' c i) : Dw k σ (va_up σ' c f) := by
  intro x i q r
  rw [← h x i q r]
  by_cases hx : x = c
  · subst hx
    rcases hc i with e | e | e
    · exact absurd e q
    · exact absurd e r
    · simp [va_up, e]
  · simp [va_up, hx]
theorem own_1 {c : Nat} (i : Nat) (h : 1 ≤ c) (h2 : c ≤ 9) : own c i = 1 := by
  unfold own
  rw [if_neg (by omega), if_pos h2]
theorem own_2 {c : Nat} (i : Nat) (h : 10 ≤ c) (h2 : c ≤ 27) : own c i = 2 := by
  unfold own
  rw [if_neg (by omega), if_neg (by omega), if_pos h2]
theorem own_s {c : Nat} (i : Nat) (h : 62 ≤ c) (h2 : c ≤ 65) : own c i = 1 := by
  have : c = 62 ∨ c = 63 ∨ c = 64 ∨ c = 65 := by omega
  rcases this with rfl | rfl | rfl | rfl <;> rfl
theorem own_p {i : Nat} (h : i < 18) : own 61 i = 1 := by
  show (if i < 18 then 1 else if i < 54 then 2 else 0) = 1
  rw [if_pos h]
theorem own_q {i : Nat} (h : 18 ≤ i) (h2 : i < 54) : own 61 i = 2 := by
  show (if i < 18 then 1 else if i < 54 then 2 else 0) = 2
  rw [if_neg (by omega), if_pos h2]
theorem TV_fr {b : Nat} {t : NN} {σ σ' : ZI} (h : ∀ r i, 1 ≤ r → r ≤ 8 → σ' (b + r) i = σ (b + r) i) (q : TV b t σ) : TV b t σ' := by
  obtain ⟨q1, q2, q3, q4⟩ := q
  refine ⟨fun i hi => ?_, fun i hi => ⟨?_, ?_, ?_⟩, fun i hi => ⟨?_, ?_⟩, fun i hi => ⟨?_, ?_⟩⟩
  · rw [h 1 i (by omega) (by omega)]; exact q1 i hi
  · rw [h 2 i (by omega) (by omega)]; exact (q2 i hi).1
  · rw [h 3 i (by omega) (by omega)]; exact (q2 i hi).2.1
  · rw [h 4 i (by omega) (by omega)]; exact (q2 i hi).2.2
  · rw [h 5 i (by omega) (by omega)]; exact (q3 i hi).1
  · rw [h 6 i (by omega) (by omega)]; exact (q3 i hi).2
  · rw [h 7 i (by omega) (by omega)]; exact (q4 i hi).1
  · rw [h 8 i (by omega) (by omega)]; exact (q4 i hi).2
theorem RP_fr {o : Nat} {t : NN} {σ σ' : ZI} (k : TK t) (h : ∀ i, i < 18 → σ' 61 (o + i) = σ 61 (o + i)) (q : RP o t σ) : RP o t σ' := by
  obtain ⟨q1, q2, q3, q4, q5, q6, q7, q8, q9, q10⟩ := q
  have k1 := k.1
  refine ⟨fun i hi => ?_, fun i hi => ?_, fun i hi => ?_, ?_, ?_, ?_, ?_, ?_, ?_, ?_⟩
  · rw [h i (by omega)]; exact q1 i hi
  · rw [h (3 + i) (by omega)]; exact q2 i hi
  · rw [h (6 + i) (by omega)]; exact q3 i hi
  all_goals (rw [h _ (by omega)]; assumption)
theorem RS_fr {t : NN} {σ σ' : ZI} (h : σ' 60 1 = σ 60 1 ∧ σ' 60 3 = σ 60 3 ∧ σ' 60 5 = σ 60 5 ∧ σ' 60 7 = σ 60 7) (h2 : ∀ c i, 62 ≤ c → c ≤ 65 → σ' c i = σ c i) (q : RS t σ) : RS t σ' := by
  obtain ⟨q1, q2, q3, q4, q5, q6, q7, q8, q9⟩ := q
  refine ⟨h.1.trans q1, h.2.1.trans q2, h.2.2.1.trans q3, h.2.2.2.trans q4, (h2 _ _ (by omega) (by omega)).trans q5, (h2 _ _ (by omega) (by omega)).trans q6, fun i hi => ⟨(h2 _ _ (by omega) (by omega)).trans (q7 i hi).1, (h2 _ _ (by omega) (by omega)).trans (q7 i hi).2⟩, fun i hi => (h2 _ _ (by omega) (by omega)).trans (q8 i hi), fun i hi => (h2 _ _ (by omega) (by omega)).trans (q9 i hi)⟩
/-- one piece over two stores that agree where it looks -/
def Ag (k : Nat) (σ σ' : ZI) : Prop := ∀ c i, own c i = k → σ' c i = σ c i
theorem Dw_Ag {k l : Nat} {σ σ' : ZI} (h : Dw l σ σ') (h0 : k ≠ 0) (h1 : k ≠ l) : Ag k σ σ' := fun c i e => h c i (by rw [e]; exact h0) (by rw [e]; exact h1)
theorem InvT_fr {t : NN} {σ σ' : ZI} (h : Ag 1 σ σ') (q : InvT t σ) : InvT t σ' := by
  obtain ⟨k, tv, rp, rs⟩ := q
  exact ⟨k, TV_fr (fun r i h1 h2 => h _ _ (own_1 i (by omega) (by omega))) tv, RP_fr k (fun i hi => h _ _ (own_p (by omega))) rp, RS_fr ⟨h _ _ rfl, h _ _ rfl, h _ _ rfl, h _ _ rfl⟩ (fun c i h1 h2 => h _ _ (own_s i h1 h2)) rs⟩
theorem SS_tr {t u v : NN} (h : SS t u) (h2 : SS t v) : SS u v := by
  obtain ⟨a1, a2, a3, a4, a5, a6, a7, a8, a9⟩ := h
  obtain ⟨b1, b2, b3, b4, b5, b6, b7, b8, b9⟩ := h2
  refine ⟨b1.trans a1.symm, b2.trans a2.symm, b3.trans a3.symm, b4.trans a4.symm, b5.trans a5.symm, b6.trans a6.symm, fun i hi => ?_, fun i hi => ?_, fun i hi => ?_⟩
  · rw [a2] at hi; exact ⟨(b7 i hi).1.trans (a7 i hi).1.symm, (b7 i hi).2.trans (a7 i hi).2.symm⟩
  · rw [a3] at hi; exact (b8 i hi).trans (a8 i hi).symm
  · rw [a4] at hi; exact (b9 i hi).trans (a9 i hi).symm
theorem SS_rfl (t : NN) : SS t t := ⟨rfl, rfl, rfl, rfl, rfl, rfl, fun _ _ => ⟨rfl, rfl⟩, fun _ _ => rfl, fun _ _ => rfl⟩
theorem ImK_fr {b o k : Nat} {t u : NN} {σ σ' : ZI} (hs : SS t u) (h1 : ∀ r i, 1 ≤ r → r ≤ 8 → σ' (b + r) i = σ (b + r) i) (h2 : ∀ i, i < 18 → σ' 61 (o + i) = σ 61 (o + i)) (q : ImK b o k t σ) : ImK b o k u σ' := by
  intro e
  obtain ⟨v, a1, a2, a3, a4⟩ := q e
  exact ⟨v, a1, SS_tr hs a2, TV_fr h1 a3, RP_fr a1 h2 a4⟩
theorem InvI_fr {t u : NN} {σ σ' : ZI} (hs : SS t u) (h : Ag 2 σ σ') (q : InvI t σ) : InvI u σ' := by
  obtain ⟨k1, k2, i1, i2, i3, i4, i5, m1, m2⟩ := q
  exact ⟨k1, k2, i1, i2, (h _ _ rfl).trans i3, (h _ _ rfl).trans i4, (h _ _ rfl).trans i5, ImK_fr hs (fun r i _ _ => h _ _ (own_2 i (by omega) (by omega))) (fun i hi => h _ _ (own_q (by omega) (by omega))) m1, ImK_fr hs (fun r i _ _ => h _ _ (own_2 i (by omega) (by omega))) (fun i hi => h _ _ (own_q (by omega) (by omega))) m2⟩
theorem InvP_fr {σ σ' : ZI} (h : Ag 3 σ σ') (q : InvP σ) : InvP σ' := by
  obtain ⟨n, b, p1, p2, p3, p4⟩ := q
  exact ⟨n, b, p1, (h _ _ rfl).trans p2, (h _ _ rfl).trans p3, fun i hi => ⟨(p4 i hi).1, (h _ _ rfl).trans (p4 i hi).2.1, (h _ _ rfl).trans (p4 i hi).2.2⟩⟩
theorem InvS_fr {t u : NN} {σ σ' : ZI} (hs : SS t u) (h : Ag 4 σ σ') (q : InvS t σ) : InvS u σ' := by
  obtain ⟨n, j, c, s1, s2, s3, s4⟩ := q
  refine ⟨n, j, c, s1, (h _ _ rfl).trans s2, (h _ _ rfl).trans s3, fun i hi => ?_⟩
  obtain ⟨a1, a2, a3, a4, a5, a6, a7⟩ := s4 i hi
  exact ⟨a1, by rw [hs.1]; exact a2, a3, (h _ _ rfl).trans a4, (h _ _ rfl).trans a5, (h _ _ rfl).trans a6, (h _ _ rfl).trans a7⟩
theorem ShK_fr {k : Nat} {σ σ' : ZI} (h : ∀ c, (55 ≤ c ∧ c ≤ 57) ∨ c = 76 ∨ c = 77 → σ' c k = σ c k) (q : ShK k σ) : ShK k σ' := by
  unfold ShK at q ⊢
  rw [h 55 (by omega), h 76 (by omega), h 56 (by omega), h 57 (by omega), h 77 (by omega)]
  exact q
theorem own_5 {c : Nat} (i : Nat) (h : (55 ≤ c ∧ c ≤ 58) ∨ (76 ≤ c ∧ c ≤ 78)) : own c i = 5 := by
  have : c = 55 ∨ c = 56 ∨ c = 57 ∨ c = 58 ∨ c = 76 ∨ c = 77 ∨ c = 78 := by omega
  rcases this with rfl | rfl | rfl | rfl | rfl | rfl | rfl <;> rfl
theorem InvH_fr {σ σ' : ZI} (h : Ag 5 σ σ') (q : InvH σ) : InvH σ' :=
  ⟨fun k hk => ShK_fr (fun c hc => h _ _ (own_5 k (by omega))) (q.1 k hk), fun i hi => by rw [h 78 i rfl, h 58 i rfl]; exact q.2 i hi⟩
theorem InvF_fr {σ σ' : ZI} (h : Ag 6 σ σ') (q : InvF σ) : InvF σ' := by
  refine ⟨?_, ?_⟩
  · rw [h 60 24 rfl, h 0 6 rfl]; exact q.1
  · rw [h 60 46 rfl, h 0 12 rfl]; exact q.2
theorem InvK_fr {σ σ' : ZI} (h : Ag 7 σ σ') (q : InvK σ) : InvK σ' := ⟨fun i hi => (h _ _ rfl).trans (q.1 i hi), fun i hi => (h _ _ rfl).trans (q.2 i hi)⟩
theorem Inv_sg {σ σ' : ZI} (h : Sg σ σ') (q : Inv σ) : Inv σ' := by
  obtain ⟨t, q1, q2, q3, q4, q5, q6, q7⟩ := q
  exact ⟨t, InvT_fr (Dw_Ag h (by decide) (by decide)) q1, InvI_fr (SS_rfl t) (Dw_Ag h (by decide) (by decide)) q2, InvP_fr (Dw_Ag h (by decide) (by decide)) q3, InvS_fr (SS_rfl t) (Dw_Ag h (by decide) (by decide)) q4, InvH_fr (Dw_Ag h (by decide) (by decide)) q5, InvF_fr (Dw_Ag h (by decide) (by decide)) q6, InvK_fr (Dw_Ag h (by decide) (by decide)) q7⟩
/-- what is told now may change, but for what stays -/
theorem Inv_now {t u : NN} {σ σ' : ZI} (q : InvI t σ ∧ InvP σ ∧ InvS t σ ∧ InvH σ ∧ InvF σ ∧ InvK σ) (h : Dw 1 σ σ') (hs : SS t u) (hu : InvT u σ') : Inv σ' := by
  obtain ⟨q2, q3, q4, q5, q6, q7⟩ := q
  exact ⟨u, hu, InvI_fr hs (Dw_Ag h (by decide) (by decide)) q2, InvP_fr (Dw_Ag h (by decide) (by decide)) q3, InvS_fr hs (Dw_Ag h (by decide) (by decide)) q4, InvH_fr (Dw_Ag h (by decide) (by decide)) q5, InvF_fr (Dw_Ag h (by decide) (by decide)) q6, InvK_fr (Dw_Ag h (by decide) (by decide)) q7⟩
theorem Inv_img {t : NN} {σ σ' : ZI} (q : InvT t σ ∧ InvP σ ∧ InvS t σ ∧ InvH σ ∧ InvF σ ∧ InvK σ) (h : Dw 2 σ σ') (hu : InvI t σ') : Inv σ' := by
  obtain ⟨q2, q3, q4, q5, q6, q7⟩ := q
  exact ⟨t, InvT_fr (Dw_Ag h (by decide) (by decide)) q2, hu, InvP_fr (Dw_Ag h (by decide) (by decide)) q3, InvS_fr (SS_rfl t) (Dw_Ag h (by decide) (by decide)) q4, InvH_fr (Dw_Ag h (by decide) (by decide)) q5, InvF_fr (Dw_Ag h (by decide) (by decide)) q6, InvK_fr (Dw_Ag h (by decide) (by decide)) q7⟩
theorem Inv_tape {σ σ' : ZI} (q : Inv σ) (h : Dw 3 σ σ') (hu : InvP σ') : Inv σ' := by
  obtain ⟨t, q1, q2, q3, q4, q5, q6, q7⟩ := q
  exact ⟨t, InvT_fr (Dw_Ag h (by decide) (by decide)) q1, InvI_fr (SS_rfl t) (Dw_Ag h (by decide) (by decide)) q2, hu, InvS_fr (SS_rfl t) (Dw_Ag h (by decide) (by decide)) q4, InvH_fr (Dw_Ag h (by decide) (by decide)) q5, InvF_fr (Dw_Ag h (by decide) (by decide)) q6, InvK_fr (Dw_Ag h (by decide) (by decide)) q7⟩
theorem Inv_seen {t : NN} {σ σ' : ZI} (q : InvT t σ ∧ InvI t σ ∧ InvP σ ∧ InvH σ ∧ InvF σ ∧ InvK σ) (h : Dw 4 σ σ') (hu : InvS t σ') : Inv σ' := by
  obtain ⟨q1, q2, q3, q5, q6, q7⟩ := q
  exact ⟨t, InvT_fr (Dw_Ag h (by decide) (by decide)) q1, InvI_fr (SS_rfl t) (Dw_Ag h (by decide) (by decide)) q2, InvP_fr (Dw_Ag h (by decide) (by decide)) q3, hu, InvH_fr (Dw_Ag h (by decide) (by decide)) q5, InvF_fr (Dw_Ag h (by decide) (by decide)) q6, InvK_fr (Dw_Ag h (by decide) (by decide)) q7⟩
theorem Inv_sht {σ σ' : ZI} (q : Inv σ) (h : Dw 5 σ σ') (hu : InvH σ') : Inv σ' := by
  obtain ⟨t, q1, q2, q3, q4, q5, q6, q7⟩ := q
  exact ⟨t, InvT_fr (Dw_Ag h (by decide) (by decide)) q1, InvI_fr (SS_rfl t) (Dw_Ag h (by decide) (by decide)) q2, InvP_fr (Dw_Ag h (by decide) (by decide)) q3, InvS_fr (SS_rfl t) (Dw_Ag h (by decide) (by decide)) q4, hu, InvF_fr (Dw_Ag h (by decide) (by decide)) q6, InvK_fr (Dw_Ag h (by decide) (by decide)) q7⟩
theorem Inv_flt {σ σ' : ZI} (q : Inv σ) (h : Dw 6 σ σ') (hu : InvF σ') : Inv σ' := by
  obtain ⟨t, q1, q2, q3, q4, q5, q6, q7⟩ := q
  exact ⟨t, InvT_fr (Dw_Ag h (by decide) (by decide)) q1, InvI_fr (SS_rfl t) (Dw_Ag h (by decide) (by decide)) q2, InvP_fr (Dw_Ag h (by decide) (by decide)) q3, InvS_fr (SS_rfl t) (Dw_Ag h (by decide) (by decide)) q4, InvH_fr (Dw_Ag h (by decide) (by decide)) q5, hu, InvK_fr (Dw_Ag h (by decide) (by decide)) q7⟩
/-! numbers -/
theorem in_at {x : Int32} (l h : Int64) (lo hi : Int32) (e1 : l = lo.toInt64) (e2 : h = hi.toInt64) : f_X8_in x.toInt64 l h = some (if x < lo ∨ hi < x then 0 else 1) := by
  subst e1 e2
  have a1 : (lg_cmp x.toInt64 lo.toInt64 < 0) ↔ x < lo := by rw [lg_cmp_lt, Int64.lt_iff_toInt_lt, Int32.lt_iff_toInt_lt, Int32.toInt_toInt64, Int32.toInt_toInt64]
  have a2 : (0 < lg_cmp x.toInt64 hi.toInt64) ↔ hi < x := by rw [lg_cmp_gt, Int64.lt_iff_toInt_lt, Int32.lt_iff_toInt_lt, Int32.toInt_toInt64, Int32.toInt_toInt64]
  unfold f_X8_in
  simp only [a1, a2]
  by_cases h1 : x < lo
  · simp [h1]
  · by_cases h2 : hi < x
    · simp [h1, h2]
    · simp [h1, h2]
theorem inB_n {k n : Nat} (h : k < n) (hk : k < 2 ^ 31) : inB (nI k) n = true := by
  unfold inB
  rw [nI_toInt hk]
  exact decide_eq_true ⟨by omega, by omega⟩
end
section
/-! the simple calls -/
theorem v1_0 (σ : ZI) : f_X6_value σ 1 (0 : Int32) = some (σ 2 0) := rfl
theorem v1_1 (σ : ZI) : f_X6_value σ 1 (1 : Int32) = some (σ 2 1) := rfl
theorem v1_2 (σ : ZI) : f_X6_value σ 1 (2 : Int32) = some (σ 2 2) := rfl
theorem v1_3 (σ : ZI) : f_X6_value σ 1 (3 : Int32) = some (σ 2 3) := rfl
theorem v1_4 (σ : ZI) : f_X6_value σ 1 (4 : Int32) = some (σ 2 4) := rfl
theorem v1_5 (σ : ZI) : f_X6_value σ 1 (5 : Int32) = some (σ 2 5) := rfl
theorem v1_6 (σ : ZI) : f_X6_value σ 1 (6 : Int32) = some (σ 2 6) := rfl
theorem v1_7 (σ : ZI) : f_X6_value σ 1 (7 : Int32) = some (σ 2 7) := rfl
theorem v1_8 (σ : ZI) : f_X6_value σ 1 (8 : Int32) = some (σ 2 8) := rfl
theorem v1_9 (σ : ZI) : f_X6_value σ 1 (9 : Int32) = some (σ 2 9) := rfl
theorem v1_10 (σ : ZI) : f_X6_value σ 1 (10 : Int32) = some (σ 2 10) := rfl
theorem v1_11 (σ : ZI) : f_X6_value σ 1 (11 : Int32) = some (σ 2 11) := rfl
theorem v1_12 (σ : ZI) : f_X6_value σ 1 (12 : Int32) = some (σ 2 12) := rfl
theorem v28_0 (σ : ZI) : f_X6_value σ 28 (0 : Int32) = some (σ 29 0) := rfl
theorem v28_1 (σ : ZI) : f_X6_value σ 28 (1 : Int32) = some (σ 29 1) := rfl
theorem v28_2 (σ : ZI) : f_X6_value σ 28 (2 : Int32) = some (σ 29 2) := rfl
theorem v28_3 (σ : ZI) : f_X6_value σ 28 (3 : Int32) = some (σ 29 3) := rfl
theorem v28_4 (σ : ZI) : f_X6_value σ 28 (4 : Int32) = some (σ 29 4) := rfl
theorem v28_5 (σ : ZI) : f_X6_value σ 28 (5 : Int32) = some (σ 29 5) := rfl
theorem v28_6 (σ : ZI) : f_X6_value σ 28 (6 : Int32) = some (σ 29 6) := rfl
theorem v28_7 (σ : ZI) : f_X6_value σ 28 (7 : Int32) = some (σ 29 7) := rfl
theorem v28_8 (σ : ZI) : f_X6_value σ 28 (8 : Int32) = some (σ 29 8) := rfl
theorem v28_9 (σ : ZI) : f_X6_value σ 28 (9 : Int32) = some (σ 29 9) := rfl
theorem v28_10 (σ : ZI) : f_X6_value σ 28 (10 : Int32) = some (σ 29 10) := rfl
theorem v28_11 (σ : ZI) : f_X6_value σ 28 (11 : Int32) = some (σ 29 11) := rfl
theorem v28_12 (σ : ZI) : f_X6_value σ 28 (12 : Int32) = some (σ 29 12) := rfl
theorem at_n {σ : ZI} {r k N : Nat} (h1 : ar r = (1, N)) (hk : k < N) (hN : N < 2 ^ 31) : f_X7_at σ r (nI k) = some (σ r k) := by
  unfold f_X7_at
  rw [h1]
  rw [if_pos rfl, if_neg (nI_pos (by omega)), if_neg (nI_ge hk hN), if_pos (inB_n hk (by omega)), nI_clamp (by omega)]
theorem at_neg {σ : ZI} {r N : Nat} {x : Int32} (h1 : ar r = (1, N)) (hx : x < 0) : f_X7_at σ r x = some 0 := by
  unfold f_X7_at
  rw [h1, if_pos rfl, if_pos hx]
theorem val_n {σ : ZI} {b k : Nat} (h0 : ar b = (11, 0)) (h1 : ar (b + 1) = (1, 13)) (hk : k < 13) : f_X6_value σ b (nI k) = some (σ (b + 1) k) := by
  unfold f_X6_value
  rw [h0, if_pos rfl, at_n h1 hk (by omega)]
  rfl
theorem put_n {σ : ZI} {r k N : Nat} {v : Int32} (h1 : ar r = (1, N)) (hk : k < N) (hN : N < 2 ^ 31) : f_X7_put σ r (nI k) v = some (va_up σ r (upd (σ r) k v)) := by
  unfold f_X7_put
  rw [h1, if_pos rfl, if_neg (nI_pos (by omega)), if_neg (nI_ge hk hN), if_pos (inB_n hk (by omega)), nI_clamp (by omega)]
  rfl
theorem bec_n {σ : ZI} {b k : Nat} {v : Int32} (h0 : ar b = (11, 0)) (h1 : ar (b + 1) = (1, 13)) (hk : k < 13) : f_X6_become σ b (nI k) v = some (va_up σ (b + 1) (upd (σ (b + 1)) k v)) := by
  unfold f_X6_become
  rw [h0, if_pos rfl, put_n h1 hk (by omega)]
  rfl
theorem dec_lt {n : Nat} (h : n < 2 ^ 30) (a : Int32) : nI n - 1 < a ↔ nI n ≤ a := by
  have e : (nI n - nI 1).toInt = (n : Int) - 1 := pk_sub_toInt h (by omega)
  have e1 : (nI n).toInt = (n : Int) := nI_toInt (by omega)
  have e2 : nI n - 1 = nI n - nI 1 := rfl
  rw [e2, Int32.lt_iff_toInt_lt, Int32.le_iff_toInt_le, e, e1]
  omega
theorem ix_cases (x : Int32) {n : Nat} (hn : n < 2 ^ 31) : (x < 0 ∨ nI n ≤ x) ∨ ∃ j : Nat, j < n ∧ x = nI j := by
  rcases pk_ix x hn with h | h | h
  · exact .inl (.inl h)
  · exact .inl (.inr h)
  · exact .inr h
theorem ix_no {j n : Nat} (h : j < n) (hn : n < 2 ^ 31) : ¬ (nI j < 0 ∨ nI n ≤ nI j) := by
  rintro (q | q)
  · exact nI_pos (by omega) q
  · exact nI_ge h hn q
theorem isJ7 (σ : ZI) (a : Int32) : f_X7_isJoint σ a = some (if a < 1 ∨ σ 2 0 < a then 0 else 1) := by
  unfold f_X7_isJoint
  rw [v1_0]
  by_cases h1 : a < 1
  · simp [h1]
  · by_cases h2 : σ 2 0 < a <;> simp [h1, h2]
theorem isJ8 (σ : ZI) (a : Int32) : f_X8_isJoint σ a = some (if a < 1 ∨ σ 60 1 < a then 0 else 1) := by
  unfold f_X8_isJoint
  rw [in_at 1 _ 1 (σ 60 1) rfl rfl]
  by_cases h1 : a < 1 ∨ σ 60 1 < a <;> simp [h1]
theorem isA7 (σ : ZI) (a : Int32) : f_X7_isArm σ a = some (if a < 0 ∨ σ 2 1 ≤ a then 0 else 1) := by
  unfold f_X7_isArm
  rw [v1_1]
  by_cases h1 : a < 0
  · simp [h1]
  · by_cases h2 : σ 2 1 ≤ a <;> simp [h1, h2]
theorem isA8 {σ : ZI} {n : Nat} (h : σ 60 3 = nI n) (hn : n < 2 ^ 30) (a : Int32) : f_X8_isArm σ a = some (if a < 0 ∨ nI n ≤ a then 0 else 1) := by
  unfold f_X8_isArm
  rw [in_at 0 _ 0 (σ 60 3 - 1) rfl rfl, h]
  simp only [dec_lt hn]
  by_cases h1 : a < 0 ∨ nI n ≤ a <;> simp [h1]
theorem isM7 (σ : ZI) (a : Int32) : f_X7_isMark σ a = some (if a < 0 ∨ σ 2 2 ≤ a then 0 else 1) := by
  unfold f_X7_isMark
  rw [v1_2]
  by_cases h1 : a < 0
  · simp [h1]
  · by_cases h2 : σ 2 2 ≤ a <;> simp [h1, h2]
theorem isT7 (σ : ZI) (a : Int32) : f_X7_isTown σ a = some (if a < 0 ∨ σ 2 3 ≤ a then 0 else 1) := by
  unfold f_X7_isTown
  rw [v1_3]
  by_cases h1 : a < 0
  · simp [h1]
  · by_cases h2 : σ 2 3 ≤ a <;> simp [h1, h2]
theorem isP7 (a : Int32) : f_X7_isPart a = some (if a < 0 ∨ 1 < a then 0 else 1) := by
  unfold f_X7_isPart
  rcases ix_cases a (n := 2) (by omega) with h | ⟨j, hj, rfl⟩
  · have h0 : a ≠ 0 := by rintro rfl; revert h; decide
    have h1 : a ≠ 1 := by rintro rfl; revert h; decide
    have h2 : a < 0 ∨ 1 < a := by
      rcases h with h | h
      · exact .inl h
      · right
        rw [Int32.le_iff_toInt_le, nI_toInt (by omega)] at h
        rw [Int32.lt_iff_toInt_lt]
        have : (1 : Int32).toInt = 1 := rfl
        omega
    simp [h0, h1, h2]
  · have : j = 0 ∨ j = 1 := by omega
    rcases this with rfl | rfl <;> rfl
theorem inM8 {σ : ZI} {c n : Nat} (h : σ 60 c = nI n) (hn : n < 2 ^ 30) (a : Int32) : f_X8_in a.toInt64 (0 : Int64) ((σ 60 c - (1 : Int32)).toInt64) = some (if a < 0 ∨ nI n ≤ a then 0 else 1) := by
  rw [in_at 0 _ 0 (σ 60 c - 1) rfl rfl, h]
  simp only [dec_lt hn]
theorem q_fault {σ : ZI} (I : Inv σ) : ∃ r, f_X7_fault σ = some r ∧ f_X8_fault σ = some r := by
  obtain ⟨t, iT, iI, iP, iS, iH, iF, iK⟩ := I
  exact ⟨σ 0 6, rfl, congrArg some iF.1⟩
theorem q_split {σ : ZI} (I : Inv σ) : ∃ r, f_X7_split σ = some r ∧ f_X8_split σ = some r := by
  obtain ⟨t, iT, iI, iP, iS, iH, iF, iK⟩ := I
  exact ⟨σ 0 12, rfl, congrArg some iF.2⟩
theorem q_rule {σ : ZI} (I : Inv σ) (a : Int32) : ∃ r, f_X7_rule σ a = some r ∧ f_X8_rule σ a = some r := by
  obtain ⟨t, ⟨k, tv, rp, rs⟩, -⟩ := I
  rcases ix_cases a (n := 13) (by omega) with h | ⟨j, hj, rfl⟩
  · refine ⟨-1, ?_, ?_⟩
    · unfold f_X7_rule
      rcases h with h | h
      · rw [if_pos h]
      · by_cases h0 : a < 0
        · rw [if_pos h0]
        · rw [if_neg h0, if_neg]
          intro q
          rw [Int32.lt_iff_toInt_lt] at q
          rw [Int32.le_iff_toInt_le] at h
          exact absurd q (Int.not_lt.mpr h)
    · unfold f_X8_rule
      repeat rw [if_neg (fun e => absurd h (by rw [e]; decide))]
  · obtain ⟨p1, p2, p3, p4, p5, p6, p7, p8, p9, p10⟩ := rp
    obtain ⟨s1, s2, s3, s4, s5, s6, s7, s8, s9⟩ := rs
    have e := tv.1
    have hh : j = 0 ∨ j = 1 ∨ j = 2 ∨ j = 3 ∨ j = 4 ∨ j = 5 ∨ j = 6 ∨ j = 7 ∨ j = 8 ∨ j = 9 ∨ j = 10 ∨ j = 11 ∨ j = 12 := by omega
    rcases hh with rfl | rfl | rfl | rfl | rfl | rfl | rfl | rfl | rfl | rfl | rfl | rfl | rfl
    · exact ⟨σ 2 0, rfl, congrArg some (s1.trans (e 0 (by omega)).symm)⟩
    · exact ⟨σ 2 1, rfl, congrArg some (s2.trans (e 1 (by omega)).symm)⟩
    · exact ⟨σ 2 2, rfl, congrArg some (s3.trans (e 2 (by omega)).symm)⟩
    · exact ⟨σ 2 3, rfl, congrArg some (s4.trans (e 3 (by omega)).symm)⟩
    · exact ⟨σ 2 4, rfl, congrArg some (p4.trans (e 4 (by omega)).symm)⟩
    · exact ⟨σ 2 5, rfl, congrArg some (p5.trans (e 5 (by omega)).symm)⟩
    · refine ⟨σ 2 6, rfl, ?_⟩
      show some (σ 61 13 + 1) = _
      rw [show σ 61 13 = _ from p6, e 6 (by omega), Int32.sub_add_cancel]
    · refine ⟨σ 2 7, rfl, ?_⟩
      show some (σ 61 14 + 5) = _
      rw [show σ 61 14 = _ from p7, e 7 (by omega), Int32.sub_add_cancel]
    · refine ⟨σ 2 8, rfl, ?_⟩
      show some (σ 61 15 + 2) = _
      rw [show σ 61 15 = _ from p8, e 8 (by omega), Int32.sub_add_cancel]
    · refine ⟨σ 2 9, rfl, ?_⟩
      show some (σ 61 16 + 4) = _
      rw [show σ 61 16 = _ from p9, e 9 (by omega), Int32.sub_add_cancel]
    · exact ⟨σ 2 10, rfl, congrArg some (s5.trans (e 10 (by omega)).symm)⟩
    · exact ⟨σ 2 11, rfl, congrArg some (s6.trans (e 11 (by omega)).symm)⟩
    · refine ⟨σ 2 12, rfl, ?_⟩
      show some (σ 61 17 + 3) = _
      rw [show σ 61 17 = _ from p10, e 12 (by omega), Int32.sub_add_cancel]
theorem q_mark {σ : ZI} (I : Inv σ) (a w : Int32) : ∃ r, f_X7_mark σ a w = some r ∧ f_X8_mark σ a w = some r := by
  obtain ⟨t, ⟨k, tv, rp, rs⟩, -⟩ := I
  have k1 := k.1
  have e2 : σ 2 2 = nI (t 0 2) := tv.1 2 (by omega)
  unfold f_X7_mark f_X8_mark
  rw [isM7, isP7, inM8 (c := 5) rs.2.2.1 (by omega), in_at (x := w) 0 1 0 1 rfl rfl, e2]
  by_cases h : a < 0 ∨ nI (t 0 2) ≤ a
  · exact ⟨-1, by simp [h], by simp [h]⟩
  · by_cases h2 : w < 0 ∨ 1 < w
    · exact ⟨-1, by simp [h, h2], by simp [h, h2]⟩
    · rcases ix_cases a (n := t 0 2) (by omega) with q | ⟨m, hm, rfl⟩
      · exact absurd q h
      have a1 := tv.2.2.1 m hm
      have a2 := rs.2.2.2.2.2.2.2.1 m hm
      have a3 := rp.2.1 m hm
      by_cases hw : w = 0
      · refine ⟨nI (t 4 m), ?_, ?_⟩
        · simp [h, h2, hw, at_n (σ := σ) (r := 6) (N := 3) rfl (show m < 3 by omega) (by omega), a1.1]
        · simp [h, h2, hw, inB_n (show m < 3 by omega) (by omega), nI_clamp (show m < 2 ^ 31 by omega), a2]
      · refine ⟨nI (t 5 m), ?_, ?_⟩
        · simp [h, h2, hw, at_n (σ := σ) (r := 7) (N := 3) rfl (show m < 3 by omega) (by omega), a1.2]
        · have e3 : (3 : Int32) + nI m = nI (3 + m) := nI_add 3 m
          simp only [Nat.zero_add] at a3
          simp [h, h2, hw, e3, inB_n (show 3 + m < 90 by omega) (by omega), nI_clamp (show 3 + m < 2 ^ 31 by omega), a3]
theorem q_town {σ : ZI} (I : Inv σ) (a w : Int32) : ∃ r, f_X7_town σ a w = some r ∧ f_X8_town σ a w = some r := by
  obtain ⟨t, ⟨k, tv, rp, rs⟩, -⟩ := I
  have k1 := k.1
  have e2 : σ 2 3 = nI (t 0 3) := tv.1 3 (by omega)
  unfold f_X7_town f_X8_town
  rw [isT7, isP7, inM8 (c := 7) rs.2.2.2.1 (by omega), in_at (x := w) 0 1 0 1 rfl rfl, e2]
  by_cases h : a < 0 ∨ nI (t 0 3) ≤ a
  · exact ⟨-1, by simp [h], by simp [h]⟩
  · by_cases h2 : w < 0 ∨ 1 < w
    · exact ⟨-1, by simp [h, h2], by simp [h, h2]⟩
    · rcases ix_cases a (n := t 0 3) (by omega) with q | ⟨m, hm, rfl⟩
      · exact absurd q h
      have a1 := tv.2.2.2 m hm
      have a2 := rs.2.2.2.2.2.2.2.2 m hm
      have a3 := rp.2.2.1 m hm
      by_cases hw : w = 0
      · refine ⟨nI (t 6 m), ?_, ?_⟩
        · simp [h, h2, hw, at_n (σ := σ) (r := 8) (N := 5) rfl (show m < 5 by omega) (by omega), a1.1]
        · have e3 : (6 : Int32) + nI m = nI (6 + m) := nI_add 6 m
          simp only [Nat.zero_add] at a3
          simp [h, h2, hw, e3, inB_n (show 6 + m < 90 by omega) (by omega), nI_clamp (show 6 + m < 2 ^ 31 by omega), a3]
      · refine ⟨nI (t 7 m), ?_, ?_⟩
        · simp [h, h2, hw, at_n (σ := σ) (r := 9) (N := 5) rfl (show m < 5 by omega) (by omega), a1.2]
        · simp [h, h2, hw, inB_n (show m < 5 by omega) (by omega), nI_clamp (show m < 2 ^ 31 by omega), a2]
end
section
/-! the calls that change what is told now -/
def tset (t : NN) (r k v : Nat) : NN := fun r' i => if r' = r then (if i = k then v else t r i) else t r' i
theorem tset_same (t : NN) (r k v : Nat) : tset t r k v r k = v := by simp [tset]
theorem tset_ne (t : NN) {r k v r' i : Nat} (h : r' ≠ r ∨ i ≠ k) : tset t r k v r' i = t r' i := by
  unfold tset
  by_cases h1 : r' = r
  · subst h1
    rcases h with h | h
    · exact absurd rfl h
    · rw [if_pos rfl, if_neg h]
  · rw [if_neg h1]
theorem up_same (σ : ZI) (c p : Nat) (v : Int32) : va_up σ c (upd (σ c) p v) c p = v := by simp [va_up, upd]
theorem up_ne (σ : ZI) {c p c' p' : Nat} {v : Int32} (h : c' ≠ c ∨ p' ≠ p) : va_up σ c (upd (σ c) p v) c' p' = σ c' p' := by
  by_cases h1 : c' = c
  · subst h1
    rcases h with h | h
    · exact absurd rfl h
    · simp [va_up, upd, h]
  · simp [va_up, h1]
/-- the places of the rules that a call may change: rule, place in the page, what is less there -/
def ruP (k p e : Nat) : Prop := (k = 4 ∧ p = 11 ∧ e = 0) ∨ (k = 5 ∧ p = 12 ∧ e = 0) ∨ (k = 6 ∧ p = 13 ∧ e = 1) ∨ (k = 7 ∧ p = 14 ∧ e = 5) ∨ (k = 8 ∧ p = 15 ∧ e = 2) ∨ (k = 9 ∧ p = 16 ∧ e = 4) ∨ (k = 12 ∧ p = 17 ∧ e = 3)
theorem i_sub0 (x : Int32) : x - nI 0 = x := by
  show x - 0 = x
  simp
theorem TV_rule {t : NN} {σ : ZI} {b k v : Nat} (hk : 4 ≤ k) (q : TV b t σ) : TV b (tset t 0 k v) (va_up σ (b + 1) (upd (σ (b + 1)) k (nI v))) := by
  obtain ⟨q1, q2, q3, q4⟩ := q
  have e1 : tset t 0 k v 0 1 = t 0 1 := tset_ne t (.inr (by omega))
  have e2 : tset t 0 k v 0 2 = t 0 2 := tset_ne t (.inr (by omega))
  have e3 : tset t 0 k v 0 3 = t 0 3 := tset_ne t (.inr (by omega))
  refine ⟨fun i hi => ?_, fun i hi => ?_, fun i hi => ?_, fun i hi => ?_⟩
  · by_cases h : i = k
    · subst h; rw [up_same, tset_same]
    · rw [up_ne σ (.inr h), tset_ne t (.inr h)]; exact q1 i hi
  · rw [e1] at hi
    rw [up_ne σ (.inl (by omega)), up_ne σ (.inl (by omega)), up_ne σ (.inl (by omega))]
    exact q2 i hi
  · rw [e2] at hi
    rw [up_ne σ (.inl (by omega)), up_ne σ (.inl (by omega))]
    exact q3 i hi
  · rw [e3] at hi
    rw [up_ne σ (.inl (by omega)), up_ne σ (.inl (by omega))]
    exact q4 i hi
def TB (t : NN) : Prop := t 0 1 ≤ 3 ∧ t 0 2 ≤ 3 ∧ t 0 3 ≤ 5
theorem TK_TB {t : NN} (h : TK t) : TB t := ⟨by have := h.1; omega, by have := h.1; omega, by have := h.1; omega⟩
theorem RP_rule {t : NN} {σ : ZI} {k p e v : Nat} (hp : ruP k p e) (hk : TB t) (q : RP 0 t σ) : RP 0 (tset t 0 k v) (va_up σ 61 (upd (σ 61) p (nI v - nI e))) := by
  obtain ⟨q1, q2, q3, q4, q5, q6, q7, q8, q9, q10⟩ := q
  obtain ⟨m1, m2, m3⟩ := hk
  have hk4 : 4 ≤ k := by rcases hp with h | h | h | h | h | h | h <;> omega
  have hp11 : 11 ≤ p := by rcases hp with h | h | h | h | h | h | h <;> omega
  have e1 : tset t 0 k v 0 1 = t 0 1 := tset_ne t (.inr (by omega))
  have e2 : tset t 0 k v 0 2 = t 0 2 := tset_ne t (.inr (by omega))
  have e3 : tset t 0 k v 0 3 = t 0 3 := tset_ne t (.inr (by omega))
  have B : ∀ K P E : Nat, ruP K P E → σ 61 (0 + P) = nI (t 0 K) - nI E → va_up σ 61 (upd (σ 61) p (nI v - nI e)) 61 (0 + P) = nI (tset t 0 k v 0 K) - nI E := by
    intro K P E hP h
    by_cases hh : K = k
    · subst hh
      have : P = p ∧ E = e := by
        rcases hp with a | a | a | a | a | a | a <;> rcases hP with c | c | c | c | c | c | c <;> omega
      rw [this.1, this.2, Nat.zero_add, up_same, tset_same]
    · have : P ≠ p := by
        rcases hp with a | a | a | a | a | a | a <;> rcases hP with c | c | c | c | c | c | c <;> omega
      rw [up_ne σ (.inr (by omega)), tset_ne t (.inr hh)]
      exact h
  refine ⟨fun i hi => ?_, fun i hi => ?_, fun i hi => ?_, ?_, ?_, ?_, ?_, ?_, ?_, ?_⟩
  · rw [e1] at hi
    rw [up_ne σ (.inr (by omega))]
    exact q1 i hi
  · rw [e2] at hi
    rw [up_ne σ (.inr (by omega))]
    exact q2 i hi
  · rw [e3] at hi
    rw [up_ne σ (.inr (by omega))]
    exact q3 i hi
  · have := B 4 11 0 (by unfold ruP; omega) (by rw [i_sub0]; exact q4)
    rw [i_sub0] at this; exact this
  · have := B 5 12 0 (by unfold ruP; omega) (by rw [i_sub0]; exact q5)
    rw [i_sub0] at this; exact this
  · exact B 6 13 1 (by unfold ruP; omega) q6
  · exact B 7 14 5 (by unfold ruP; omega) q7
  · exact B 8 15 2 (by unfold ruP; omega) q8
  · exact B 9 16 4 (by unfold ruP; omega) q9
  · exact B 12 17 3 (by unfold ruP; omega) q10
theorem RS_rule {t : NN} {σ : ZI} {k p e v : Nat} (hp : ruP k p e) (q : RS t σ) : RS (tset t 0 k v) σ := by
  obtain ⟨q1, q2, q3, q4, q5, q6, q7, q8, q9⟩ := q
  have hk : 4 ≤ k ∧ k ≠ 10 ∧ k ≠ 11 := by rcases hp with h | h | h | h | h | h | h <;> omega
  have e0 : tset t 0 k v 0 0 = t 0 0 := tset_ne t (.inr (by omega))
  have e1 : tset t 0 k v 0 1 = t 0 1 := tset_ne t (.inr (by omega))
  have e2 : tset t 0 k v 0 2 = t 0 2 := tset_ne t (.inr (by omega))
  have e3 : tset t 0 k v 0 3 = t 0 3 := tset_ne t (.inr (by omega))
  have e4 : tset t 0 k v 0 10 = t 0 10 := tset_ne t (.inr (by omega))
  have e5 : tset t 0 k v 0 11 = t 0 11 := tset_ne t (.inr (by omega))
  unfold RS
  rw [e0, e1, e2, e3, e4, e5]
  exact ⟨q1, q2, q3, q4, q5, q6, q7, q8, q9⟩
theorem SS_rule {t : NN} {k p e v : Nat} (hp : ruP k p e) : SS t (tset t 0 k v) := by
  have hk : 4 ≤ k ∧ k ≠ 10 ∧ k ≠ 11 := by rcases hp with h | h | h | h | h | h | h <;> omega
  refine ⟨tset_ne t (.inr (by omega)), tset_ne t (.inr (by omega)), tset_ne t (.inr (by omega)), tset_ne t (.inr (by omega)), tset_ne t (.inr (by omega)), tset_ne t (.inr (by omega)), fun _ _ => ⟨rfl, rfl⟩, fun _ _ => rfl, fun _ _ => rfl⟩
theorem TK_rule {t : NN} {k p e v : Nat} (hp : ruP k p e) (h : TK t) (hv : (k = 4 → v < 2 ^ t 0 0) ∧ (k = 5 → v ≤ t 0 0) ∧ (k = 6 → v ≤ 10) ∧ (k = 7 → 1 ≤ v ∧ v ≤ 9) ∧ (k = 8 → 1 ≤ v ∧ v ≤ 10 ∧ v < t 0 9) ∧ (k = 9 → t 0 8 < v ∧ v ≤ 11) ∧ (k = 12 → 1 ≤ v ∧ v ≤ 9)) : TK (tset t 0 k v) := by
  obtain ⟨k1, k2, k3, k4, k5, k6⟩ := h
  have hk : 4 ≤ k ∧ k ≠ 10 ∧ k ≠ 11 := by rcases hp with h | h | h | h | h | h | h <;> omega
  have e0 : tset t 0 k v 0 0 = t 0 0 := tset_ne t (.inr (by omega))
  have e1 : tset t 0 k v 0 1 = t 0 1 := tset_ne t (.inr (by omega))
  have e2 : tset t 0 k v 0 2 = t 0 2 := tset_ne t (.inr (by omega))
  have e3 : tset t 0 k v 0 3 = t 0 3 := tset_ne t (.inr (by omega))
  have e4 : tset t 0 k v 0 10 = t 0 10 := tset_ne t (.inr (by omega))
  have e5 : tset t 0 k v 0 11 = t 0 11 := tset_ne t (.inr (by omega))
  refine ⟨?_, by rw [e0, e1]; exact k2, by rw [e1]; exact k3, by rw [e0, e2]; exact k4, by rw [e2]; exact k5, by rw [e3]; exact k6⟩
  rw [e0, e1, e2, e3, e4, e5]
  rcases hp with ⟨rfl, -, -⟩ | ⟨rfl, -, -⟩ | ⟨rfl, -, -⟩ | ⟨rfl, -, -⟩ | ⟨rfl, -, -⟩ | ⟨rfl, -, -⟩ | ⟨rfl, -, -⟩ <;> simp [tset] <;> simp at hv <;> omega
/-- one rule, on both sides -/
theorem T_rule {t : NN} {σ : ZI} {k p e v : Nat} (hp : ruP k p e) (q : InvT t σ) (hk : TK (tset t 0 k v)) : InvT (tset t 0 k v) (va_up (va_up σ 2 (upd (σ 2) k (nI v))) 61 (upd (σ 61) p (nI v - nI e))) := by
  obtain ⟨a1, a2, a3, a4⟩ := q
  have hk4 : 4 ≤ k := by rcases hp with h | h | h | h | h | h | h <;> omega
  refine ⟨hk, TV_fr (fun r i h1 h2 => up_ne (va_up σ 2 (upd (σ 2) k (nI v))) (c := 61) (.inl (by omega))) (TV_rule hk4 a2), ?_, RS_fr ⟨rfl, rfl, rfl, rfl⟩ (fun c i h1 h2 => ?_) (RS_rule hp a4)⟩
  · exact RP_rule (σ := va_up σ 2 (upd (σ 2) k (nI v))) hp (TK_TB a1) (RP_fr a1 (fun i _ => rfl) a3)
  · rw [show va_up (va_up σ 2 (upd (σ 2) k (nI v))) 61 (upd (σ 61) p (nI v - nI e)) c i = va_up σ 2 (upd (σ 2) k (nI v)) c i from up_ne (va_up σ 2 (upd (σ 2) k (nI v))) (c := 61) (.inl (by omega))]
theorem D_rule {σ : ZI} {k p : Nat} {x y : Int32} (hp : p < 18) : Dw 1 σ (va_up (va_up σ 2 (upd (σ 2) k x)) 61 (upd (σ 61) p y)) :=
  Dw_up (σ' := va_up σ 2 (upd (σ 2) k x)) (Dw_up (Dw_refl 1 σ) (.inr rfl)) (.inr (own_p hp))
theorem rng {w : Int32} {lo hi : Nat} (h : ¬ (w < nI lo ∨ nI hi < w)) (hh : hi < 2 ^ 30) (hl : lo < 2 ^ 31) : ∃ v, lo ≤ v ∧ v ≤ hi ∧ w = nI v := by
  rcases pk_ix w (n := hi + 1) (by omega) with q | q | ⟨j, hj, rfl⟩
  · refine absurd (.inl ?_) h
    rw [Int32.lt_iff_toInt_lt] at q ⊢
    rw [nI_toInt hl]
    have : (0 : Int32).toInt = 0 := rfl
    omega
  · refine absurd (.inr ?_) h
    rw [Int32.le_iff_toInt_le, nI_toInt (by omega)] at q
    rw [Int32.lt_iff_toInt_lt, nI_toInt (by omega)]
    omega
  · refine ⟨j, ?_, by omega, rfl⟩
    rcases Nat.lt_or_ge j lo with q | q
    · exact absurd (.inl (nI_lt q hl)) h
    · exact q
theorem rng' {v lo hi : Nat} (h1 : lo ≤ v) (h2 : v ≤ hi) (hh : hi < 2 ^ 31) : ¬ (nI v < nI lo ∨ nI hi < nI v) := by
  rintro (q | q)
  · exact nI_nlt h1 (by omega) q
  · exact nI_nlt h2 hh q
theorem wi {σ : ZI} {x w lo hi : Int32} (h1 : f_X7_atS 101 x = some lo) (h2 : f_X7_atS 102 x = some hi) : f_X7_isWithin σ x w = some (if w < lo ∨ hi < w then 0 else 1) := by
  unfold f_X7_isWithin
  rw [h1, h2]
  by_cases a : w < lo
  · simp [a]
  · by_cases b : hi < w <;> simp [a, b]
theorem lays_n {σ : ZI} {c : Prop} [Decidable c] {p : Nat} {v e : Int32} (hp : p < 90) : f_X8_lays σ (if c then 0 else 1) (nI p) v e = if c then some (-1, σ) else some (σ 61 p + e, va_up σ 61 (upd (σ 61) p (v - e))) := by
  unfold f_X8_lays
  by_cases h : c
  · simp [h]
  · rw [if_neg h, if_neg h, if_neg (by decide), inB_n hp (by omega), if_pos rfl, nI_clamp (by omega)]
    rfl
theorem set31 {σ : ZI} {a w lo hi : Int32} {k : Nat} (hk : k < 13) (h1 : f_X7_atS 101 (nI k) = some lo) (h2 : f_X7_atS 102 (nI k) = some hi) : f_X7_set_31 a w σ (nI k) = if w < lo ∨ hi < w then some (-1, σ) else some (σ 2 k, va_up σ 2 (upd (σ 2) k w)) := by
  unfold f_X7_set_31
  have h0 : ¬ nI k = -4 := by
    intro h
    have : (nI k).toInt = (-4 : Int32).toInt := by rw [h]
    rw [nI_toInt (by omega)] at this
    have e : (-4 : Int32).toInt = -4 := rfl
    omega
  rw [if_neg h0, wi h1 h2]
  by_cases a : w < lo ∨ hi < w
  · simp [a]
  · rw [if_neg a, if_neg a]
    show ((f_X6_value σ 1 (nI k)).bind fun q2 => (f_X6_become σ 1 (nI k) w).bind fun q3 => some (q2, q3)) = _
    rw [val_n rfl rfl hk, bec_n rfl rfl hk]
    rfl
theorem RP_get {t : NN} {σ : ZI} {k p e : Nat} (hp : ruP k p e) (q : RP 0 t σ) : σ 61 p + nI e = nI (t 0 k) := by
  obtain ⟨-, -, -, q4, q5, q6, q7, q8, q9, q10⟩ := q
  have z : ∀ x : Int32, x + nI 0 = x := fun x => by show x + 0 = x; simp
  rcases hp with ⟨rfl, rfl, rfl⟩ | ⟨rfl, rfl, rfl⟩ | ⟨rfl, rfl, rfl⟩ | ⟨rfl, rfl, rfl⟩ | ⟨rfl, rfl, rfl⟩ | ⟨rfl, rfl, rfl⟩ | ⟨rfl, rfl, rfl⟩
  · rw [z]; exact q4
  · rw [z]; exact q5
  · rw [show σ 61 13 = _ from q6]; exact Int32.sub_add_cancel _ _
  · rw [show σ 61 14 = _ from q7]; exact Int32.sub_add_cancel _ _
  · rw [show σ 61 15 = _ from q8]; exact Int32.sub_add_cancel _ _
  · rw [show σ 61 16 = _ from q9]; exact Int32.sub_add_cancel _ _
  · rw [show σ 61 17 = _ from q10]; exact Int32.sub_add_cancel _ _
/-- a call that sets one rule -/
theorem u_rule {σ : ZI} (I : Inv σ) {k p e lo hi : Nat} {w : Int32} (hp : ruP k p e) (hh : hi < 2 ^ 30) (hl : lo < 2 ^ 31) (hv : ∀ t v, TK t → lo ≤ v → v ≤ hi → TK (tset t 0 k v))
    {X : Option (Int32 × ZI)} {Y' : ZI → Option (Int32 × ZI)} (hX : X = if w < nI lo ∨ nI hi < w then some (-1, σ) else some (σ 2 k, va_up σ 2 (upd (σ 2) k w))) (hY : ∀ σ', Y' σ' = if w < nI lo ∨ nI hi < w then some (-1, σ') else some (σ' 61 p + nI e, va_up σ' 61 (upd (σ' 61) p (w - nI e)))) : ∃ r σ1 σ2, X = some (r, σ1) ∧ Y' σ1 = some (r, σ2) ∧ Inv σ2 := by
  by_cases h : w < nI lo ∨ nI hi < w
  · exact ⟨-1, σ, σ, by rw [hX, if_pos h], by rw [hY, if_pos h], I⟩
  · obtain ⟨v, v1, v2, rfl⟩ := rng h hh hl
    obtain ⟨t, iT, iR⟩ := I
    have hk13 : k < 13 ∧ p < 18 := by rcases hp with h | h | h | h | h | h | h <;> omega
    have e1 : σ 61 p + nI e = σ 2 k := by rw [RP_get hp iT.2.2.1, iT.2.1.1 k hk13.1]
    refine ⟨σ 2 k, _, va_up (va_up σ 2 (upd (σ 2) k (nI v))) 61 (upd (σ 61) p (nI v - nI e)), by rw [hX, if_neg h], ?_, Inv_now iR (D_rule hk13.2) (SS_rule hp) (T_rule hp iT (hv t v iT.1 v1 v2))⟩
    rw [hY, if_neg h]
    show some (σ 61 p + nI e, _) = _
    rw [e1]
    rfl
theorem ruTK {k p e lo hi : Nat} (hp : ruP k p e) (hb : (k = 6 ∧ hi ≤ 10) ∨ (k = 7 ∧ 1 ≤ lo ∧ hi ≤ 9) ∨ (k = 12 ∧ 1 ≤ lo ∧ hi ≤ 9)) (t : NN) (v : Nat) (h : TK t) (h1 : lo ≤ v) (h2 : v ≤ hi) : TK (tset t 0 k v) := TK_rule hp h (by omega)
theorem u_set {σ : ZI} (I : Inv σ) (a w : Int32) : ∃ r σ1 σ2, f_X7_set σ a w = some (r, σ1) ∧ f_X8_set σ1 a w = some (r, σ2) ∧ Inv σ2 := by
  have r0 : ruP 6 13 1 := by unfold ruP; omega
  have r1 : ruP 12 17 3 := by unfold ruP; omega
  have r2 : ruP 7 14 5 := by unfold ruP; omega
  unfold f_X7_set f_X8_set
  by_cases h0 : a = 0
  · subst h0
    refine u_rule I (lo := 0) (hi := 10) (w := w) r0 (by omega) (by omega) (ruTK r0 (by omega)) (set31 (a := 0) (k := 6) (by omega) rfl rfl) (fun σ' => ?_)
    rw [if_pos rfl, in_at 0 10 0 10 rfl rfl]
    show ((f_X8_lays σ' (if w < 0 ∨ 10 < w then 0 else 1) (nI 13) w 1).bind fun q2 => some (q2.1, q2.2)) = _
    rw [lays_n (by omega)]
    by_cases h : w < 0 ∨ 10 < w
    · rw [if_pos h]; exact (if_pos h).symm
    · rw [if_neg h]; exact (if_neg h).symm
  rw [if_neg h0]
  by_cases h1 : a = 1
  · subst h1
    refine u_rule I (lo := 1) (hi := 9) (w := w) r1 (by omega) (by omega) (ruTK r1 (by omega)) (set31 (a := 1) (k := 12) (by omega) rfl rfl) (fun σ' => ?_)
    rw [if_neg (by decide), if_pos rfl, in_at 1 9 1 9 rfl rfl]
    show ((f_X8_lays σ' (if w < 1 ∨ 9 < w then 0 else 1) (nI 17) w 3).bind fun q2 => some (q2.1, q2.2)) = _
    rw [lays_n (by omega)]
    by_cases h : w < 1 ∨ 9 < w
    · rw [if_pos h]; exact (if_pos h).symm
    · rw [if_neg h]; exact (if_neg h).symm
  rw [if_neg h1]
  by_cases h2 : a = 2
  · subst h2
    refine u_rule I (lo := 1) (hi := 9) (w := w) r2 (by omega) (by omega) (ruTK r2 (by omega)) (set31 (a := 2) (k := 7) (by omega) rfl rfl) (fun σ' => ?_)
    rw [if_neg (by decide), if_neg (by decide), if_pos rfl, in_at 1 9 1 9 rfl rfl]
    show ((f_X8_lays σ' (if w < 1 ∨ 9 < w then 0 else 1) (nI 14) w 5).bind fun q2 => some (q2.1, q2.2)) = _
    rw [lays_n (by omega)]
    by_cases h : w < 1 ∨ 9 < w
    · rw [if_pos h]; exact (if_pos h).symm
    · rw [if_neg h]; exact (if_neg h).symm
  · refine ⟨-1, σ, σ, ?_, ?_, I⟩
    · rw [if_neg h2]; rfl
    · rw [if_neg h0, if_neg h1, if_neg h2]
end
section
/-! the tape, what was seen -/
theorem by7 : ∀ c, c < 128 → vp_nar .byte (nI c).toInt8.toInt32 = nI c := by decide +kernel
theorem u_feed {σ : ZI} (I : Inv σ) (a : Int32) : ∃ r σ1 σ2, f_X7_feed σ a = some (r, σ1) ∧ f_X8_feed σ1 a = some (r, σ2) ∧ Inv σ2 := by
  obtain ⟨n, b, n1, t1, t2, t3⟩ := I.choose_spec.2.2.1
  unfold f_X7_feed f_X8_feed
  rcases ix_cases a (n := 128) (by omega) with h | ⟨c, hc, rfl⟩
  · have h' : a < 0 ∨ 127 < a := by
      rcases h with h | h
      · exact .inl h
      · right
        rw [Int32.le_iff_toInt_le, nI_toInt (by omega)] at h
        rw [Int32.lt_iff_toInt_lt]
        have : (127 : Int32).toInt = 127 := rfl
        omega
    refine ⟨-1, σ, σ, ?_, ?_, I⟩
    · by_cases h0 : a < 0
      · rw [if_pos h0]
      · rw [if_neg h0, if_neg]
        rcases h' with q | q
        · exact absurd q h0
        · exact Int32.not_le.mpr q
    · rw [in_at 0 127 0 127 rfl rfl, if_pos h']
      rfl
  · have hc0 : ¬ nI c < 0 := nI_pos (by omega)
    have hc1 : nI c ≤ 127 := nI_le (a := c) (b := 127) (by omega) (by omega)
    have hc2 : ¬ (nI c < 0 ∨ 127 < nI c) := by
      rintro (q | q)
      · exact hc0 q
      · exact Int32.not_le.mpr q hc1
    rw [if_neg hc0, if_pos hc1]
    simp only [in_at 0 127 0 127 rfl rfl, if_neg hc2]
    unfold f_X5_add
    rw [t1, if_neg (nI_pos (by omega))]
    by_cases hn : n = 160
    · subst hn
      refine ⟨-3, σ, σ, ?_, ?_, I⟩
      · rw [if_neg (by decide)]; rfl
      · simp only [t2]; rfl
    · have hn2 : n < 160 := by omega
      refine ⟨nI (n + 1), va_up (va_up σ 38 (upd (σ 38) n (nI c))) 37 (upd (σ 37) 1 (nI (n + 1))), va_up (va_up (va_up (va_up σ 38 (upd (σ 38) n (nI c))) 37 (upd (σ 37) 1 (nI (n + 1)))) 71 (upd (σ 71) n (nI c))) 60 (upd (σ 60) 23 (nI (n + 1))), ?_, ?_, ?_⟩
      · rw [if_pos (nI_lt hn2 (by omega)), inB_n hn2 (by omega), if_pos rfl, nI_clamp (by omega), by7 c hc]
        simp [lt_, va_up, upd, t1, nI_1]
      · have e : ¬ nI n = 160 := by
          intro q
          have := (nI_eq (a := n) (b := 160) (by omega) (by omega)).mp q
          omega
        simp [lt_, va_up, upd, t2, e, inB_n hn2 (by omega), nI_clamp (show n < 2 ^ 31 by omega), nI_1]
      · refine Inv_tape I (Dw_up (c := 60) (σ' := va_up (va_up (va_up σ 38 (upd (σ 38) n (nI c))) 37 (upd (σ 37) 1 (nI (n + 1)))) 71 (upd (σ 71) n (nI c))) (Dw_up (c := 71) (σ' := va_up (va_up σ 38 (upd (σ 38) n (nI c))) 37 (upd (σ 37) 1 (nI (n + 1)))) (Dw_up (c := 37) (σ' := va_up σ 38 (upd (σ 38) n (nI c))) (Dw_up (Dw_refl 3 σ) (.inr rfl)) (.inr rfl)) (.inr rfl)) (.inr rfl)) ⟨n + 1, fun i => if i = n then c else b i, by omega, rfl, rfl, fun i hi => ?_⟩
        show (if i = n then c else b i) < 128 ∧ upd (σ 38) n (nI c) i = nI (if i = n then c else b i) ∧ upd (σ 71) n (nI c) i = nI (if i = n then c else b i)
        by_cases h : i = n
        · simp [upd, h, hc]
        · have := t3 i (by omega)
          simp [upd, h, this]
theorem le_rng {a : Int32} {n : Nat} : (if a < 0 then (1 : Nat) else if a ≤ nI n then 0 else 1) = if a < nI 0 ∨ nI n < a then 1 else 0 := by
  by_cases h : a < 0
  · rw [if_pos h, if_pos (.inl h)]
  · rw [if_neg h]
    by_cases h2 : a ≤ nI n
    · rw [if_pos h2, if_neg]
      rintro (q | q)
      · exact h q
      · exact Int32.not_le.mpr q h2
    · rw [if_neg h2, if_pos (.inr (Int32.not_le.mp h2))]
theorem if2 {α : Type} {a : Int32} {n : Nat} {x y : α} : (if a < 0 then x else if a ≤ nI n then y else x) = if a < nI 0 ∨ nI n < a then x else y := by
  by_cases h : a < 0
  · rw [if_pos h, if_pos (.inl h)]
  · rw [if_neg h]
    by_cases h2 : a ≤ nI n
    · rw [if_pos h2, if_neg]
      rintro (q | q)
      · exact h q
      · exact Int32.not_le.mpr q h2
    · rw [if_neg h2, if_pos (.inr (Int32.not_le.mp h2))]
theorem u_end {σ : ZI} (I : Inv σ) (a : Int32) : ∃ r σ1 σ2, f_X7_end σ a = some (r, σ1) ∧ f_X8_end σ1 a = some (r, σ2) ∧ Inv σ2 := by
  obtain ⟨n, b, n1, t1, t2, t3⟩ := I.choose_spec.2.2.1
  unfold f_X7_end f_X8_end
  rw [t1, if2]
  by_cases h : a < nI 0 ∨ nI n < a
  · refine ⟨-1, σ, σ, by rw [if_pos h], ?_, I⟩
    rw [in_at 0 _ 0 (σ 60 23) rfl rfl, t2]
    exact congrArg (fun z => Option.bind z _) (congrArg some (if_pos h))
  · obtain ⟨v, v1, v2, rfl⟩ := rng h (by omega) (by omega)
    refine ⟨nI n, va_up σ 37 (upd (σ 37) 1 (nI v)), va_up (va_up σ 37 (upd (σ 37) 1 (nI v))) 60 (upd (σ 60) 23 (nI v)), by rw [if_neg h]; rfl, ?_, ?_⟩
    · rw [in_at 0 _ 0 (va_up σ 37 (upd (σ 37) 1 (nI v)) 60 23) rfl rfl]
      have e : va_up σ 37 (upd (σ 37) 1 (nI v)) 60 23 = nI n := t2
      rw [e, if_neg (show ¬ (nI v < 0 ∨ nI n < nI v) from h)]
      rfl
    · refine Inv_tape I (Dw_up (c := 60) (σ' := va_up σ 37 (upd (σ 37) 1 (nI v))) (Dw_up (Dw_refl 3 σ) (.inr rfl)) (.inr rfl)) ⟨v, b, by omega, rfl, rfl, fun i hi => t3 i (by omega)⟩
theorem u_forget {σ : ZI} (I : Inv σ) (a : Int32) : ∃ r σ1 σ2, f_X7_forget σ a = some (r, σ1) ∧ f_X8_forget σ1 a = some (r, σ2) ∧ Inv σ2 := by
  obtain ⟨t, iT, iI, iP, ⟨n, j, c, s1, s2, s3, s4⟩, iH, iF, iK⟩ := I
  have I : Inv σ := ⟨t, iT, iI, iP, ⟨n, j, c, s1, s2, s3, s4⟩, iH, iF, iK⟩
  unfold f_X7_forget f_X8_forget
  rw [s2, if2]
  by_cases h : a < nI 0 ∨ nI n < a
  · refine ⟨-1, σ, σ, by rw [if_pos h], ?_, I⟩
    rw [in_at 0 _ 0 (σ 60 41) rfl rfl, s3]
    exact congrArg (fun z => Option.bind z _) (congrArg some (if_pos h))
  · obtain ⟨v, v1, v2, rfl⟩ := rng h (by omega) (by omega)
    refine ⟨nI n, va_up σ 51 (upd (σ 51) 2 (nI v)), va_up (va_up σ 51 (upd (σ 51) 2 (nI v))) 60 (upd (σ 60) 41 (nI v)), by rw [if_neg h]; rfl, ?_, ?_⟩
    · rw [in_at 0 _ 0 (va_up σ 51 (upd (σ 51) 2 (nI v)) 60 41) rfl rfl]
      have e : va_up σ 51 (upd (σ 51) 2 (nI v)) 60 41 = nI n := s3
      rw [e, if_neg (show ¬ (nI v < 0 ∨ nI n < nI v) from h)]
      rfl
    · refine Inv_seen ⟨iT, iI, iP, iH, iF, iK⟩ (Dw_up (c := 60) (σ' := va_up σ 51 (upd (σ 51) 2 (nI v))) (Dw_up (Dw_refl 4 σ) (.inr rfl)) (.inr rfl)) ⟨v, j, c, by omega, rfl, rfl, fun i hi => s4 i (by omega)⟩
theorem u_see {σ : ZI} (I : Inv σ) (a w : Int32) : ∃ r σ1 σ2, f_X7_see σ a w = some (r, σ1) ∧ f_X8_see σ1 a w = some (r, σ2) ∧ Inv σ2 := by
  obtain ⟨t, iT, iI, iP, ⟨n, j, c, s1, s2, s3, s4⟩, iH, iF, iK⟩ := I
  have I : Inv σ := ⟨t, iT, iI, iP, ⟨n, j, c, s1, s2, s3, s4⟩, iH, iF, iK⟩
  have k1 := iT.1.1
  have eJ : σ 2 0 = nI (t 0 0) := iT.2.1.1 0 (by omega)
  have eK : σ 60 1 = nI (t 0 0) := iT.2.2.2.1
  unfold f_X7_see f_X8_see
  by_cases hj : a < nI 1 ∨ nI (t 0 0) < a
  · refine ⟨-1, σ, σ, ?_, ?_, I⟩
    · rw [isJ7, eJ, if_pos (show a < 1 ∨ nI (t 0 0) < a from hj)]; rfl
    · rw [isJ8, eK, if_pos (show a < 1 ∨ nI (t 0 0) < a from hj)]; rfl
  obtain ⟨v, v1, v2, rfl⟩ := rng hj (by omega) (by omega)
  rw [isJ7, eJ, if_neg (show ¬ (nI v < 1 ∨ nI (t 0 0) < nI v) from hj)]
  rw [show (10 : Int32) = nI 10 from rfl, if2]
  by_cases hw : w < nI 0 ∨ nI 10 < w
  · refine ⟨-1, σ, σ, ?_, ?_, I⟩
    · rw [if_pos hw]; rfl
    · rw [isJ8, eK, if_neg (show ¬ (nI v < 1 ∨ nI (t 0 0) < nI v) from hj), in_at 0 10 0 10 rfl rfl, if_pos (show w < 0 ∨ 10 < w from hw)]; rfl
  obtain ⟨u, u1, u2, rfl⟩ := rng hw (by omega) (by omega)
  rw [if_neg hw]
  by_cases hn : n = 6
  · subst hn
    refine ⟨-3, σ, σ, ?_, ?_, I⟩
    · unfold f_X3_add
      rw [s2]; rfl
    · rw [isJ8, eK, if_neg (show ¬ (nI v < 1 ∨ nI (t 0 0) < nI v) from hj), in_at 0 10 0 10 rfl rfl, if_neg (show ¬ (nI u < 0 ∨ 10 < nI u) from hw), s3]; rfl
  · have hn2 : n < 6 := by omega
    refine ⟨nI (n + 1), va_up (va_up (va_up σ 52 (upd (σ 52) n (nI v))) 53 (upd (σ 53) n (nI u))) 51 (upd (σ 51) 2 (nI (n + 1))), va_up (va_up (va_up (va_up (va_up (va_up σ 52 (upd (σ 52) n (nI v))) 53 (upd (σ 53) n (nI u))) 51 (upd (σ 51) 2 (nI (n + 1)))) 74 (upd (σ 74) (2 * n) (nI v))) 74 (upd (upd (σ 74) (2 * n) (nI v)) (2 * n + 1) (nI u))) 60 (upd (σ 60) 41 (nI (n + 1))), ?_, ?_, ?_⟩
    · unfold f_X3_add
      rw [s2, if_pos (show nI n < 6 from nI_lt (b := 6) hn2 (by omega)), put_n (N := 6) rfl hn2 (by omega)]
      show (((f_X7_put (va_up σ 52 (upd (σ 52) n (nI v))) 53 (σ 51 2) (nI u)).bind fun q2 => _).bind _) = _
      rw [s2, put_n (N := 6) rfl hn2 (by omega)]
      simp [lt_, va_up, upd, s2, nI_1]
    · rw [isJ8]
      have e1 : va_up (va_up (va_up σ 52 (upd (σ 52) n (nI v))) 53 (upd (σ 53) n (nI u))) 51 (upd (σ 51) 2 (nI (n + 1))) 60 1 = nI (t 0 0) := eK
      rw [e1, if_neg (show ¬ (nI v < 1 ∨ nI (t 0 0) < nI v) from hj), in_at 0 10 0 10 rfl rfl, if_neg (show ¬ (nI u < 0 ∨ 10 < nI u) from hw)]
      have e2 : ¬ nI n = 6 := by
        intro q
        have := (nI_eq (a := n) (b := 6) (by omega) (by omega)).mp q
        omega
      have e3 : (2 : Int32) * nI n = nI (2 * n) := pk_mul 2 n
      simp [lt_, va_up, upd, s3, e2, e3, inB_n (show 2 * n < 12 by omega) (by omega), inB_n (show 2 * n + 1 < 12 by omega) (by omega), nI_clamp (show 2 * n < 2 ^ 31 by omega), nI_clamp (show 2 * n + 1 < 2 ^ 31 by omega), nI_1]
    · refine Inv_seen ⟨iT, iI, iP, iH, iF, iK⟩ (fun x i q r => ?_) ⟨n + 1, fun i => if i = n then v else j i, fun i => if i = n then u else c i, by omega, rfl, rfl, fun i hi => ?_⟩
      · have : x ≠ 52 ∧ x ≠ 53 ∧ x ≠ 74 ∧ (x = 51 → i ≠ 2) ∧ (x = 60 → i ≠ 41) := ⟨by rintro rfl; exact r rfl, by rintro rfl; exact r rfl, by rintro rfl; exact r rfl, by rintro rfl rfl; exact r rfl, by rintro rfl rfl; exact r rfl⟩
        obtain ⟨g1, g2, g3, g4, g5⟩ := this
        by_cases h60 : x = 60
        · subst h60; simp [va_up, upd, g5 rfl]
        · by_cases h51 : x = 51
          · subst h51; simp [va_up, upd, g4 rfl]
          · simp [va_up, g1, g2, g3, h60, h51]
      · show 1 ≤ (if i = n then v else j i) ∧ (if i = n then v else j i) ≤ t 0 0 ∧ (if i = n then u else c i) ≤ 10 ∧ upd (σ 52) n (nI v) i = nI (if i = n then v else j i) ∧ upd (σ 53) n (nI u) i = nI (if i = n then u else c i) ∧ upd (upd (σ 74) (2 * n) (nI v)) (2 * n + 1) (nI u) (2 * i) = nI (if i = n then v else j i) ∧ upd (upd (σ 74) (2 * n) (nI v)) (2 * n + 1) (nI u) (2 * i + 1) = nI (if i = n then u else c i)
        by_cases h : i = n
        · subst h
          have z : ¬ 2 * i = 2 * i + 1 := by omega
          simp [upd, z]
          omega
        · have h4 := s4 i (by omega)
          have z1 : ¬ 2 * i = 2 * n + 1 := by omega
          have z2 : ¬ 2 * i = 2 * n := by omega
          have z3 : ¬ 2 * i + 1 = 2 * n := by omega
          simp [upd, h, z1, z2, z3]
          exact h4
end
section
/-! net, bridge, clear, hang, post -/
theorem TV_61 {t : NN} {σ : ZI} {f : Nat → Int32} (q : TV 1 t σ) : TV 1 t (va_up σ 61 f) := TV_fr (fun r i h1 h2 => by simp [va_up, show 1 + r ≠ 61 by omega]) q
theorem RS_61 {t : NN} {σ : ZI} {f : Nat → Int32} (q : RS t σ) : RS t (va_up σ 61 f) := RS_fr ⟨rfl, rfl, rfl, rfl⟩ (fun c i h1 h2 => by simp [va_up, show c ≠ 61 by omega]) q
theorem RS_now {t : NN} {σ : ZI} {f : Nat → Int32} {c : Nat} (hc : c ≤ 9) (q : RS t σ) : RS t (va_up σ c f) := RS_fr ⟨by simp [va_up, show 60 ≠ c by omega], by simp [va_up, show 60 ≠ c by omega], by simp [va_up, show 60 ≠ c by omega], by simp [va_up, show 60 ≠ c by omega]⟩ (fun x i h1 h2 => by simp [va_up, show x ≠ c by omega]) q
theorem RP_now {t : NN} {σ : ZI} {f : Nat → Int32} {c : Nat} (hc : c ≤ 9) (k : TK t) (q : RP 0 t σ) : RP 0 t (va_up σ c f) := RP_fr k (fun i _ => by simp [va_up, show 61 ≠ c by omega]) q
theorem u_net {σ : ZI} (I : Inv σ) (a w : Int32) : ∃ r σ1 σ2, f_X7_net σ a w = some (r, σ1) ∧ f_X8_net σ1 a w = some (r, σ2) ∧ Inv σ2 := by
  obtain ⟨t, iT, iR⟩ := id I
  obtain ⟨kk, tv, rp, rs⟩ := id iT
  have k1 := kk.1
  unfold f_X7_net f_X8_net
  rw [wi (x := 8) (lo := 1) (hi := 10) rfl rfl]
  by_cases ha : a < nI 1 ∨ nI 10 < a
  · exact ⟨-1, σ, σ, by rw [if_pos (show a < 1 ∨ 10 < a from ha)]; rfl, by rw [in_at 1 10 1 10 rfl rfl, if_pos (show a < 1 ∨ 10 < a from ha)]; rfl, I⟩
  obtain ⟨v, v1, v2, rfl⟩ := rng ha (by omega) (by omega)
  rw [if_neg (show ¬ (nI v < 1 ∨ 10 < nI v) from ha)]
  rw [wi (x := 9) (lo := 2) (hi := 11) rfl rfl]
  by_cases hw : w < nI 1 ∨ nI 11 < w
  · refine ⟨-1, σ, σ, ?_, by rw [in_at 1 10 1 10 rfl rfl, if_neg (show ¬ (nI v < 1 ∨ 10 < nI v) from ha), in_at 1 11 1 11 rfl rfl, if_pos (show w < 1 ∨ 11 < w from hw)]; rfl, I⟩
    have : w < 2 ∨ 11 < w := by
      rcases hw with h | h
      · left
        rw [Int32.lt_iff_toInt_lt] at h ⊢
        have e1 : (nI 1).toInt = 1 := rfl
        have e2 : (2 : Int32).toInt = 2 := rfl
        omega
      · exact .inr h
    rw [if_pos this]; rfl
  obtain ⟨u, u1, u2, rfl⟩ := rng hw (by omega) (by omega)
  by_cases huv : nI v < nI u
  · have huv2 : v < u := (nI_ltI (by omega) (by omega)).mp huv
    have hw2 : ¬ (nI u < 2 ∨ 11 < nI u) := rng' (lo := 2) (hi := 11) (by omega) u2 (by omega)
    rw [if_neg hw2]
    have r8 : ruP 8 15 2 := by unfold ruP; omega
    have r9 : ruP 9 16 4 := by unfold ruP; omega
    obtain ⟨s1, hs1⟩ : ∃ s1, s1 = va_up (va_up σ 2 (upd (σ 2) 8 (nI v))) 2 (upd (upd (σ 2) 8 (nI v)) 9 (nI u)) := ⟨_, rfl⟩
    obtain ⟨s2, hs2⟩ : ∃ s2, s2 = va_up (va_up s1 61 (upd (σ 61) 16 (nI u - nI 4))) 61 (upd (upd (σ 61) 16 (nI u - nI 4)) 15 (nI v - nI 2)) := ⟨_, rfl⟩
    refine ⟨σ 2 8, s1, s2, ?_, ?_, ?_⟩
    · rw [hs1]
      show ((if nI v < nI u then _ else _) : Option (Int32 × ZI)) = _
      rw [if_pos huv, v1_8]
      show ((f_X6_become σ 1 (nI 8) (nI v)).bind fun q4 => (f_X6_become q4 1 (nI 9) (nI u)).bind fun q5 => some (σ 2 8, q5)) = _
      rw [bec_n rfl rfl (by omega)]
      show ((f_X6_become (va_up σ 2 (upd (σ 2) 8 (nI v))) 1 (nI 9) (nI u)).bind fun q5 => some (σ 2 8, q5)) = _
      rw [bec_n rfl rfl (by omega)]
      rfl
    · rw [in_at 1 10 1 10 rfl rfl, if_neg (show ¬ (nI v < 1 ∨ 10 < nI v) from ha), in_at 1 11 1 11 rfl rfl, if_neg (show ¬ (nI u < 1 ∨ 11 < nI u) from hw)]
      show ((if nI v < nI u then _ else _) : Option (Int32 × ZI)) = _
      rw [if_pos huv]
      show ((f_X8_lays (va_up s1 61 (upd (s1 61) 16 (nI u - nI 4))) (if False then 0 else 1) (nI 15) (nI v) (nI 2)).bind fun q4 => some (q4.1, q4.2)) = _
      rw [lays_n (by omega), if_neg not_false]
      have e1 : s1 61 = σ 61 := by rw [hs1]; rfl
      rw [e1]
      have e2 : va_up s1 61 (upd (σ 61) 16 (nI u - nI 4)) 61 15 + nI 2 = σ 2 8 := by
        show σ 61 15 + nI 2 = σ 2 8
        rw [RP_get r8 rp, tv.1 8 (by omega)]
      rw [e2, hs2]
      rfl
    · have A : TK (tset (tset t 0 9 11) 0 8 v) := TK_rule r8 (TK_rule r9 kk (by refine ⟨?_, ?_, ?_, ?_, ?_, ?_, ?_⟩ <;> intro <;> omega)) (by
        have : tset t 0 9 11 0 9 = 11 := tset_same t 0 9 11
        refine ⟨?_, ?_, ?_, ?_, ?_, ?_, ?_⟩ <;> intro <;> omega)
      have B : TK (tset (tset t 0 8 v) 0 9 u) := by
        have e : tset (tset t 0 8 v) 0 9 u = tset (tset (tset t 0 9 11) 0 8 v) 0 9 u := by
          funext r i
          unfold tset
          by_cases hr : r = 0
          · subst hr
            by_cases hi : i = 9
            · simp [hi]
            · simp [hi]
          · simp [hr]
        rw [e]
        refine TK_rule r9 A ?_
        have : tset (tset t 0 9 11) 0 8 v 0 8 = v := tset_same _ 0 8 v
        refine ⟨?_, ?_, ?_, ?_, ?_, ?_, ?_⟩ <;> intro <;> omega
      refine Inv_now (u := tset (tset t 0 8 v) 0 9 u) iR (fun x i q r => ?_) ?_ ⟨B, ?_, ?_, ?_⟩
      · have h2 : x ≠ 2 := by rintro rfl; exact r rfl
        by_cases h61 : x = 61
        · subst h61
          have h15 : i ≠ 15 := by rintro rfl; exact r rfl
          have h16 : i ≠ 16 := by rintro rfl; exact r rfl
          rw [hs2]; simp [va_up, upd, h15, h16]
        · rw [hs2, hs1]; simp [va_up, h2, h61]
      · have e : ∀ k, k ≠ 8 → k ≠ 9 → tset (tset t 0 8 v) 0 9 u 0 k = t 0 k := fun k h1 h2 => by rw [tset_ne _ (.inr h2), tset_ne _ (.inr h1)]
        exact ⟨e 0 (by omega) (by omega), e 1 (by omega) (by omega), e 2 (by omega) (by omega), e 3 (by omega) (by omega), e 10 (by omega) (by omega), e 11 (by omega) (by omega), fun _ _ => ⟨rfl, rfl⟩, fun _ _ => rfl, fun _ _ => rfl⟩
      · rw [hs2, hs1]
        exact TV_61 (TV_61 (TV_rule (b := 1) (σ := va_up σ 2 (upd (σ 2) 8 (nI v))) (by omega) (TV_rule (b := 1) (by omega) tv)))
      · have z : RP 0 t s1 := by rw [hs1]; exact RP_now (by omega) kk (RP_now (by omega) kk rp)
        have e1 : s1 61 = σ 61 := by rw [hs1]; rfl
        have z1 : RP 0 (tset t 0 9 u) (va_up s1 61 (upd (σ 61) 16 (nI u - nI 4))) := by rw [← e1]; exact RP_rule r9 (TK_TB kk) z
        have e : tset (tset t 0 8 v) 0 9 u = tset (tset t 0 9 u) 0 8 v := by
          funext r i
          unfold tset
          by_cases hr : r = 0
          · subst hr
            by_cases hi : i = 9
            · simp [hi]
            · simp [hi]
          · simp [hr]
        rw [e, hs2]
        refine RP_rule (σ := va_up s1 61 (upd (σ 61) 16 (nI u - nI 4))) r8 (show TB (tset t 0 9 u) from (TK_TB kk : TB t)) z1
      · rw [hs2, hs1]
        exact RS_61 (RS_61 (RS_now (by omega) (RS_now (by omega) (RS_rule r9 (RS_rule r8 rs)))))
  · have key : ((if nI u < 2 ∨ 11 < nI u then (0 : Int32) else 1)) = 0 ∨ (if nI u < 2 ∨ 11 < nI u then (0 : Int32) else 1) = 1 := by
      by_cases h : nI u < 2 ∨ 11 < nI u
      · rw [if_pos h]; exact .inl rfl
      · rw [if_neg h]; exact .inr rfl
    refine ⟨-1, σ, σ, ?_, ?_, I⟩
    · rcases key with h | h
      · rw [h]; rfl
      · rw [h]
        show ((if nI v < nI u then _ else _) : Option (Int32 × ZI)) = _
        rw [if_neg huv]
    · rw [in_at 1 10 1 10 rfl rfl, if_neg (show ¬ (nI v < 1 ∨ 10 < nI v) from ha), in_at 1 11 1 11 rfl rfl, if_neg (show ¬ (nI u < 1 ∨ 11 < nI u) from hw)]
      show ((if nI v < nI u then _ else _) : Option (Int32 × ZI)) = _
      rw [if_neg huv]
end
section
/-! bridge, signal, clear, hang, post -/
theorem u_rulet {σ : ZI} {t : NN} (iT : InvT t σ) (iR : InvI t σ ∧ InvP σ ∧ InvS t σ ∧ InvH σ ∧ InvF σ ∧ InvK σ) {k p e lo hi : Nat} {w : Int32} (hp : ruP k p e) (hh : hi < 2 ^ 30) (hl : lo < 2 ^ 31) (hv : ∀ v, lo ≤ v → v ≤ hi → TK (tset t 0 k v))
    {X : Option (Int32 × ZI)} {Y' : ZI → Option (Int32 × ZI)} (hX : X = if w < nI lo ∨ nI hi < w then some (-1, σ) else some (σ 2 k, va_up σ 2 (upd (σ 2) k w))) (hY : ∀ σ' : ZI, σ' 60 = σ 60 → Y' σ' = if w < nI lo ∨ nI hi < w then some (-1, σ') else some (σ' 61 p + nI e, va_up σ' 61 (upd (σ' 61) p (w - nI e)))) : ∃ r σ1 σ2, X = some (r, σ1) ∧ Y' σ1 = some (r, σ2) ∧ Inv σ2 := by
  by_cases h : w < nI lo ∨ nI hi < w
  · exact ⟨-1, σ, σ, by rw [hX, if_pos h], by rw [hY σ rfl, if_pos h], ⟨t, iT, iR⟩⟩
  · obtain ⟨v, v1, v2, rfl⟩ := rng h hh hl
    have hk13 : k < 13 ∧ p < 18 := by rcases hp with h | h | h | h | h | h | h <;> omega
    have e1 : σ 61 p + nI e = σ 2 k := by rw [RP_get hp iT.2.2.1, iT.2.1.1 k hk13.1]
    refine ⟨σ 2 k, _, va_up (va_up σ 2 (upd (σ 2) k (nI v))) 61 (upd (σ 61) p (nI v - nI e)), by rw [hX, if_neg h], ?_, Inv_now iR (D_rule hk13.2) (SS_rule hp) (T_rule hp iT (hv v v1 v2))⟩
    rw [hY (va_up σ 2 (upd (σ 2) k (nI v))) rfl, if_neg h]
    show some (σ 61 p + nI e, _) = _
    rw [e1]
    rfl
theorem u_bridge {σ : ZI} (I : Inv σ) (a : Int32) : ∃ r σ1 σ2, f_X7_bridge σ a = some (r, σ1) ∧ f_X8_bridge σ1 a = some (r, σ2) ∧ Inv σ2 := by
  obtain ⟨t, iT, iR⟩ := I
  have k1 := iT.1.1
  have eJ : σ 2 0 = nI (t 0 0) := iT.2.1.1 0 (by omega)
  have eK : σ 60 1 = nI (t 0 0) := iT.2.2.2.1
  have r5 : ruP 5 12 0 := by unfold ruP; omega
  have B : f_X7_bridge_14 a σ = some (σ 2 5, va_up σ 2 (upd (σ 2) 5 a)) := by
    unfold f_X7_bridge_14
    rw [v1_5]
    show ((f_X6_become σ 1 (nI 5) a).bind fun q2 => some (σ 2 5, q2)) = _
    rw [bec_n rfl rfl (by omega)]
    rfl
  refine u_rulet iT iR (lo := 0) (hi := t 0 0) (w := a) r5 (by omega) (by omega) (fun v h1 h2 => TK_rule r5 iT.1 (by refine ⟨?_, ?_, ?_, ?_, ?_, ?_, ?_⟩ <;> intro <;> omega)) ?_ (Y' := fun σ' => f_X8_bridge σ' a) (fun σ' h6 => ?_)
  · unfold f_X7_bridge
    by_cases h0 : a = 0
    · subst h0
      rw [if_pos rfl, if_neg, B]
      rintro (q | q)
      · exact absurd q (by decide)
      · exact nI_pos (by omega) q
    · rw [if_neg h0, isJ7, eJ]
      by_cases h : a < 1 ∨ nI (t 0 0) < a
      · have : a < nI 0 ∨ nI (t 0 0) < a := by
          rcases h with h | h
          · left
            have e1 : (1 : Int32).toInt = 1 := rfl
            have e0 : (nI 0).toInt = 0 := rfl
            have e2 : a.toInt ≠ 0 := fun q => h0 (Int32.toInt_inj.mp q)
            rw [Int32.lt_iff_toInt_lt] at h ⊢
            omega
          · exact .inr h
        rw [if_pos h, if_pos this]; rfl
      · have : ¬ (a < nI 0 ∨ nI (t 0 0) < a) := by
          rintro (q | q)
          · refine h (.inl ?_)
            have e1 : (1 : Int32).toInt = 1 := rfl
            have e0 : (nI 0).toInt = 0 := rfl
            rw [Int32.lt_iff_toInt_lt] at q ⊢
            omega
          · exact h (.inr q)
        rw [if_neg h, if_neg this]
        exact B
  · show f_X8_bridge σ' a = _
    unfold f_X8_bridge
    rw [in_at 0 _ 0 (σ' 60 1) rfl rfl, h6, eK]
    show ((f_X8_lays σ' (if a < 0 ∨ nI (t 0 0) < a then 0 else 1) (nI 12) a (nI 0)).bind fun q2 => some (q2.1, q2.2)) = _
    rw [lays_n (by omega)]
    by_cases h : a < 0 ∨ nI (t 0 0) < a
    · rw [if_pos h]; exact (if_pos h).symm
    · rw [if_neg h]; exact (if_neg h).symm
/-- one place of a row of arms, marks, towns: row 1 (kinds), 5 (clears), 6 (letters) -/
theorem T_row {t : NN} {σ : ZI} {r p i v : Nat} (hr : (r = 1 ∧ i < t 0 1 ∧ p = i ∧ v ≤ 4) ∨ (r = 5 ∧ i < t 0 2 ∧ p = 3 + i ∧ v ≤ 10) ∨ (r = 6 ∧ i < t 0 3 ∧ p = 6 + i ∧ v ≤ 99)) (q : InvT t σ) : InvT (tset t r i v) (va_up (va_up σ (r + 2) (upd (σ (r + 2)) i (nI v))) 61 (upd (σ 61) p (nI v))) ∧ SS t (tset t r i v) := by
  obtain ⟨⟨k1, k2, k3, k4, k5, k6⟩, ⟨t1, t2, t3, t4⟩, ⟨p1, p2, p3, p4, p5, p6, p7, p8, p9, p10⟩, ⟨s1, s2, s3, s4, s5, s6, s7, s8, s9⟩⟩ := q
  rcases hr with ⟨rfl, hi, rfl, hv⟩ | ⟨rfl, hi, rfl, hv⟩ | ⟨rfl, hi, rfl, hv⟩
  · refine ⟨⟨⟨k1, fun x hx => ?_, k3, k4, k5, k6⟩, ⟨t1, fun x hx => ?_, t3, t4⟩, ⟨fun x hx => ?_, fun x hx => ?_, fun x hx => ?_, ?_, ?_, ?_, ?_, ?_, ?_, ?_⟩, ⟨s1, s2, s3, s4, s5, s6, s7, s8, s9⟩⟩, ⟨rfl, rfl, rfl, rfl, rfl, rfl, fun _ _ => ⟨rfl, rfl⟩, fun _ _ => rfl, fun _ _ => rfl⟩⟩
    · show (if x = p then v else t 1 x) ≤ 4 ∧ _
      refine ⟨?_, (k2 x hx).2⟩
      have := (k2 x hx).1
      split <;> omega
    · refine ⟨?_, (t2 x hx).2⟩
      show upd (σ 3) p (nI v) x = nI (if x = p then v else t 1 x)
      by_cases h : x = p
      · simp [upd, h]
      · simp [upd, h, (t2 x hx).1]
    · show upd (σ 61) p (nI v) (0 + x) = nI (if x = p then v else t 1 x)
      have hx : x < t 0 1 := hx
      by_cases h : x = p
      · simp [upd, h]
      · have := p1 x hx
        simp only [Nat.zero_add] at this ⊢
        simp [upd, h, this]
    · have hx : x < t 0 2 := hx
      show upd (σ 61) p (nI v) (0 + (3 + x)) = nI (t 5 x)
      rw [← p2 x hx]
      simp [upd, show ¬ 3 + x = p by omega]
    · have hx : x < t 0 3 := hx
      show upd (σ 61) p (nI v) (0 + (6 + x)) = nI (t 6 x)
      rw [← p3 x hx]
      simp [upd, show ¬ 6 + x = p by omega]
    · exact (show upd (σ 61) p (nI v) (0 + 11) = σ 61 (0 + 11) by simp [upd, show ¬ 11 = p by omega]).trans p4
    · exact (show upd (σ 61) p (nI v) (0 + 12) = σ 61 (0 + 12) by simp [upd, show ¬ 12 = p by omega]).trans p5
    · exact (show upd (σ 61) p (nI v) (0 + 13) = σ 61 (0 + 13) by simp [upd, show ¬ 13 = p by omega]).trans p6
    · exact (show upd (σ 61) p (nI v) (0 + 14) = σ 61 (0 + 14) by simp [upd, show ¬ 14 = p by omega]).trans p7
    · exact (show upd (σ 61) p (nI v) (0 + 15) = σ 61 (0 + 15) by simp [upd, show ¬ 15 = p by omega]).trans p8
    · exact (show upd (σ 61) p (nI v) (0 + 16) = σ 61 (0 + 16) by simp [upd, show ¬ 16 = p by omega]).trans p9
    · exact (show upd (σ 61) p (nI v) (0 + 17) = σ 61 (0 + 17) by simp [upd, show ¬ 17 = p by omega]).trans p10
  · refine ⟨⟨⟨k1, k2, k3, fun x hx => ?_, k5, k6⟩, ⟨t1, t2, fun x hx => ?_, t4⟩, ⟨fun x hx => ?_, fun x hx => ?_, fun x hx => ?_, ?_, ?_, ?_, ?_, ?_, ?_, ?_⟩, ⟨s1, s2, s3, s4, s5, s6, s7, s8, s9⟩⟩, ⟨rfl, rfl, rfl, rfl, rfl, rfl, fun _ _ => ⟨rfl, rfl⟩, fun _ _ => rfl, fun _ _ => rfl⟩⟩
    · show _ ∧ _ ∧ (if x = i then v else t 5 x) ≤ 10
      refine ⟨(k4 x hx).1, (k4 x hx).2.1, ?_⟩
      have := (k4 x hx).2.2
      split <;> omega
    · refine ⟨(t3 x hx).1, ?_⟩
      show upd (σ 7) i (nI v) x = nI (if x = i then v else t 5 x)
      by_cases h : x = i
      · simp [upd, h]
      · simp [upd, h, (t3 x hx).2]
    · have hx : x < t 0 1 := hx
      show upd (σ 61) (3 + i) (nI v) (0 + x) = nI (t 1 x)
      rw [← p1 x hx]
      simp [upd, show ¬ x = 3 + i by omega]
    · have hx : x < t 0 2 := hx
      show upd (σ 61) (3 + i) (nI v) (0 + (3 + x)) = nI (if x = i then v else t 5 x)
      by_cases h : x = i
      · simp [upd, h]
      · have := p2 x hx
        simp only [Nat.zero_add] at this ⊢
        simp [upd, h, this]
    · have hx : x < t 0 3 := hx
      show upd (σ 61) (3 + i) (nI v) (0 + (6 + x)) = nI (t 6 x)
      rw [← p3 x hx]
      simp [upd, show ¬ 6 + x = 3 + i by omega]
    · exact (show upd (σ 61) (3 + i) (nI v) (0 + 11) = σ 61 (0 + 11) by simp [upd, show ¬ 11 = 3 + i by omega]).trans p4
    · exact (show upd (σ 61) (3 + i) (nI v) (0 + 12) = σ 61 (0 + 12) by simp [upd, show ¬ 12 = 3 + i by omega]).trans p5
    · exact (show upd (σ 61) (3 + i) (nI v) (0 + 13) = σ 61 (0 + 13) by simp [upd, show ¬ 13 = 3 + i by omega]).trans p6
    · exact (show upd (σ 61) (3 + i) (nI v) (0 + 14) = σ 61 (0 + 14) by simp [upd, show ¬ 14 = 3 + i by omega]).trans p7
    · exact (show upd (σ 61) (3 + i) (nI v) (0 + 15) = σ 61 (0 + 15) by simp [upd, show ¬ 15 = 3 + i by omega]).trans p8
    · exact (show upd (σ 61) (3 + i) (nI v) (0 + 16) = σ 61 (0 + 16) by simp [upd, show ¬ 16 = 3 + i by omega]).trans p9
    · exact (show upd (σ 61) (3 + i) (nI v) (0 + 17) = σ 61 (0 + 17) by simp [upd, show ¬ 17 = 3 + i by omega]).trans p10
  · refine ⟨⟨⟨k1, k2, k3, k4, k5, fun x hx => ?_⟩, ⟨t1, t2, t3, fun x hx => ?_⟩, ⟨fun x hx => ?_, fun x hx => ?_, fun x hx => ?_, ?_, ?_, ?_, ?_, ?_, ?_, ?_⟩, ⟨s1, s2, s3, s4, s5, s6, s7, s8, s9⟩⟩, ⟨rfl, rfl, rfl, rfl, rfl, rfl, fun _ _ => ⟨rfl, rfl⟩, fun _ _ => rfl, fun _ _ => rfl⟩⟩
    · show (if x = i then v else t 6 x) ≤ 99 ∧ _
      refine ⟨?_, (k6 x hx).2⟩
      have := (k6 x hx).1
      split <;> omega
    · refine ⟨?_, (t4 x hx).2⟩
      show upd (σ 8) i (nI v) x = nI (if x = i then v else t 6 x)
      by_cases h : x = i
      · simp [upd, h]
      · simp [upd, h, (t4 x hx).1]
    · have hx : x < t 0 1 := hx
      show upd (σ 61) (6 + i) (nI v) (0 + x) = nI (t 1 x)
      rw [← p1 x hx]
      simp [upd, show ¬ x = 6 + i by omega]
    · have hx : x < t 0 2 := hx
      show upd (σ 61) (6 + i) (nI v) (0 + (3 + x)) = nI (t 5 x)
      rw [← p2 x hx]
      simp [upd, show ¬ 3 + x = 6 + i by omega]
    · have hx : x < t 0 3 := hx
      show upd (σ 61) (6 + i) (nI v) (0 + (6 + x)) = nI (if x = i then v else t 6 x)
      by_cases h : x = i
      · simp [upd, h]
      · have := p3 x hx
        simp only [Nat.zero_add] at this ⊢
        simp [upd, h, this]
    · exact (show upd (σ 61) (6 + i) (nI v) (0 + 11) = σ 61 (0 + 11) by simp [upd, show ¬ 11 = 6 + i by omega]).trans p4
    · exact (show upd (σ 61) (6 + i) (nI v) (0 + 12) = σ 61 (0 + 12) by simp [upd, show ¬ 12 = 6 + i by omega]).trans p5
    · exact (show upd (σ 61) (6 + i) (nI v) (0 + 13) = σ 61 (0 + 13) by simp [upd, show ¬ 13 = 6 + i by omega]).trans p6
    · exact (show upd (σ 61) (6 + i) (nI v) (0 + 14) = σ 61 (0 + 14) by simp [upd, show ¬ 14 = 6 + i by omega]).trans p7
    · exact (show upd (σ 61) (6 + i) (nI v) (0 + 15) = σ 61 (0 + 15) by simp [upd, show ¬ 15 = 6 + i by omega]).trans p8
    · exact (show upd (σ 61) (6 + i) (nI v) (0 + 16) = σ 61 (0 + 16) by simp [upd, show ¬ 16 = 6 + i by omega]).trans p9
    · exact (show upd (σ 61) (6 + i) (nI v) (0 + 17) = σ 61 (0 + 17) by simp [upd, show ¬ 17 = 6 + i by omega]).trans p10
theorem D_row {σ : ZI} {r i p : Nat} {x y : Int32} (hr : 1 ≤ r ∧ r ≤ 7) (hp : p < 18) : Dw 1 σ (va_up (va_up σ (r + 2) (upd (σ (r + 2)) i x)) 61 (upd (σ 61) p y)) := by
  have e : upd (σ 61) p y = upd (va_up σ (r + 2) (upd (σ (r + 2)) i x) 61) p y := by
    rw [show va_up σ (r + 2) (upd (σ (r + 2)) i x) 61 = σ 61 by simp [va_up, show 61 ≠ r + 2 by omega]]
  rw [e]
  exact Dw_up (Dw_up (Dw_refl 1 σ) (.inr (own_1 i (by omega) (by omega)))) (.inr (own_p hp))
end
section
/-! clear, hang, post -/
theorem lays1 {σ : ZI} {p : Nat} {v : Int32} (hp : p < 90) : f_X8_lays σ 1 (nI p) v 0 = some (σ 61 p, va_up σ 61 (upd (σ 61) p v)) := by
  have h := lays_n (σ := σ) (c := False) (p := p) (v := v) (e := 0) hp
  rw [if_neg not_false, if_neg not_false] at h
  rw [h]
  simp
theorem lays0 {σ : ZI} {p v e : Int32} : f_X8_lays σ 0 p v e = some (-1, σ) := rfl
theorem u_clear {σ : ZI} (I : Inv σ) (a w : Int32) : ∃ r σ1 σ2, f_X7_clear σ a w = some (r, σ1) ∧ f_X8_clear σ1 a w = some (r, σ2) ∧ Inv σ2 := by
  obtain ⟨t, iT, iR⟩ := id I
  have k1 := iT.1.1
  have e7 : σ 2 2 = nI (t 0 2) := iT.2.1.1 2 (by omega)
  have e8 : σ 60 5 = nI (t 0 2) := iT.2.2.2.2.2.1
  unfold f_X7_clear f_X8_clear f_X8_clear_33 f_X8_clear_34
  rcases ix_cases a (n := t 0 2) (by omega) with h | ⟨m, hm, rfl⟩
  · refine ⟨-1, σ, σ, ?_, ?_, I⟩
    · rw [isM7, e7, if_pos h]; rfl
    · rw [inM8 e8 (by omega), if_pos h]; rfl
  have hm' := ix_no hm (show t 0 2 < 2 ^ 31 by omega)
  rw [isM7, e7, if_neg hm', show (10 : Int32) = nI 10 from rfl, if2]
  by_cases hw : w < nI 0 ∨ nI 10 < w
  · refine ⟨-1, σ, σ, by rw [if_pos hw]; rfl, ?_, I⟩
    rw [inM8 e8 (by omega), if_neg hm', in_at 0 10 0 10 rfl rfl, if_pos (show w < 0 ∨ 10 < w from hw)]; rfl
  obtain ⟨v, v1, v2, rfl⟩ := rng hw (by omega) (by omega)
  obtain ⟨A, B⟩ := T_row (r := 5) (p := 3 + m) (i := m) (v := v) (.inr (.inl ⟨rfl, hm, rfl, v2⟩)) iT
  have a1 := iT.2.1.2.2.1 m hm
  have a3 := iT.2.2.1.2.1 m hm
  refine ⟨nI (t 5 m), va_up σ 7 (upd (σ 7) m (nI v)), va_up (va_up σ 7 (upd (σ 7) m (nI v))) 61 (upd (σ 61) (3 + m) (nI v)), ?_, ?_, Inv_now iR (D_row (by omega) (by omega)) B A⟩
  · rw [if_neg hw]
    show ((f_X7_at σ 7 (nI m)).bind fun q2 => (f_X7_put σ 7 (nI m) (nI v)).bind fun q3 => some (q2, q3)) = _
    rw [at_n (N := 3) rfl (by omega) (by omega), put_n (N := 3) rfl (by omega) (by omega), show σ 7 m = _ from a1.2]
    rfl
  · rw [inM8 (show va_up σ 7 (upd (σ 7) m (nI v)) 60 5 = nI (t 0 2) from e8) (by omega), if_neg hm', in_at 0 10 0 10 rfl rfl, if_neg (show ¬ (nI v < 0 ∨ 10 < nI v) from hw)]
    show ((f_X8_lays (va_up σ 7 (upd (σ 7) m (nI v))) 1 (nI 3 + nI m) (nI v) 0).bind fun q2 => some (q2.1, q2.2)) = _
    rw [nI_add, lays1 (by omega)]
    show some (σ 61 (3 + m), _) = _
    rw [Nat.zero_add] at a3
    rw [a3]
    rfl
theorem u_hang {σ : ZI} (I : Inv σ) (a w : Int32) : ∃ r σ1 σ2, f_X7_hang σ a w = some (r, σ1) ∧ f_X8_hang σ1 a w = some (r, σ2) ∧ Inv σ2 := by
  obtain ⟨t, iT, iR⟩ := id I
  have k1 := iT.1.1
  have e7 : σ 2 1 = nI (t 0 1) := iT.2.1.1 1 (by omega)
  have e8 : σ 60 3 = nI (t 0 1) := iT.2.2.2.2.1
  unfold f_X7_hang f_X8_hang f_X8_hang_25 f_X8_hang_26
  rcases ix_cases a (n := t 0 1) (by omega) with h | ⟨m, hm, rfl⟩
  · refine ⟨-1, σ, σ, ?_, ?_, I⟩
    · rw [isA7, e7, if_pos h]; rfl
    · rw [isA8 e8 (by omega), if_pos h]; rfl
  have hm' := ix_no hm (show t 0 1 < 2 ^ 31 by omega)
  rw [isA7, e7, if_neg hm', show (4 : Int32) = nI 4 from rfl, if2]
  by_cases hw : w < nI 0 ∨ nI 4 < w
  · refine ⟨-1, σ, σ, by rw [if_pos hw]; rfl, ?_, I⟩
    rw [isA8 e8 (by omega), if_neg hm', in_at 0 4 0 4 rfl rfl, if_pos (show w < 0 ∨ 4 < w from hw)]; rfl
  obtain ⟨v, v1, v2, rfl⟩ := rng hw (by omega) (by omega)
  obtain ⟨A, B⟩ := T_row (r := 1) (p := m) (i := m) (v := v) (.inl ⟨rfl, hm, rfl, v2⟩) iT
  have a1 := iT.2.1.2.1 m hm
  have a3 := iT.2.2.1.1 m hm
  refine ⟨nI (t 1 m), va_up σ 3 (upd (σ 3) m (nI v)), va_up (va_up σ 3 (upd (σ 3) m (nI v))) 61 (upd (σ 61) m (nI v)), ?_, ?_, Inv_now iR (D_row (by omega) (by omega)) B A⟩
  · rw [if_neg hw]
    show ((f_X7_at σ 3 (nI m)).bind fun q2 => (f_X7_put σ 3 (nI m) (nI v)).bind fun q3 => some (q2, q3)) = _
    rw [at_n (N := 3) rfl (by omega) (by omega), put_n (N := 3) rfl (by omega) (by omega), show σ 3 m = _ from a1.1]
    rfl
  · rw [isA8 (show va_up σ 3 (upd (σ 3) m (nI v)) 60 3 = nI (t 0 1) from e8) (by omega), if_neg hm', in_at 0 4 0 4 rfl rfl, if_neg (show ¬ (nI v < 0 ∨ 4 < nI v) from hw)]
    show ((f_X8_lays (va_up σ 3 (upd (σ 3) m (nI v))) 1 (nI m) (nI v) 0).bind fun q2 => some (q2.1, q2.2)) = _
    rw [lays1 (by omega)]
    show some (σ 61 m, _) = _
    rw [Nat.zero_add] at a3
    rw [a3]
    rfl
theorem u_post {σ : ZI} (I : Inv σ) (a w : Int32) : ∃ r σ1 σ2, f_X7_post σ a w = some (r, σ1) ∧ f_X8_post σ1 a w = some (r, σ2) ∧ Inv σ2 := by
  obtain ⟨t, iT, iR⟩ := id I
  have k1 := iT.1.1
  have e7 : σ 2 3 = nI (t 0 3) := iT.2.1.1 3 (by omega)
  have e8 : σ 60 7 = nI (t 0 3) := iT.2.2.2.2.2.2.1
  unfold f_X7_post f_X8_post f_X8_posts f_X7_postedTo
  rw [if_pos (show (ar 8).1 = 1 from rfl)]
  rcases ix_cases a (n := t 0 3) (by omega) with h | ⟨m, hm, rfl⟩
  · refine ⟨-1, σ, σ, ?_, ?_, I⟩
    · rw [isT7, e7, if_pos h]; rfl
    · rw [inM8 e8 (by omega), if_pos h]; rfl
  have hm' := ix_no hm (show t 0 3 < 2 ^ 31 by omega)
  rw [isT7, e7, if_neg hm', show (99 : Int32) = nI 99 from rfl, if2]
  by_cases hw : w < nI 0 ∨ nI 99 < w
  · refine ⟨-1, σ, σ, by rw [if_pos hw]; rfl, ?_, I⟩
    rw [inM8 e8 (by omega), if_neg hm', in_at 0 99 0 99 rfl rfl, if_pos (show w < 0 ∨ 99 < w from hw)]; rfl
  obtain ⟨v, v1, v2, rfl⟩ := rng hw (by omega) (by omega)
  have a1 := iT.2.1.2.2.2 m hm
  have a3 := iT.2.2.1.2.2.1 m hm
  have k6 := (iT.1.2.2.2.2.2 m hm).1
  rw [Nat.zero_add] at a3
  rw [if_neg hw]
  have e6 : (6 : Int32) + nI m = nI (6 + m) := nI_add 6 m
  by_cases hs : t 6 m + v ≤ 99
  · obtain ⟨A, B⟩ := T_row (r := 6) (p := 6 + m) (i := m) (v := t 6 m + v) (.inr (.inr ⟨rfl, hm, rfl, hs⟩)) iT
    have l1 : nI (t 6 m + v) ≤ nI 99 := nI_le hs (by omega)
    refine ⟨nI (t 6 m + v), va_up σ 8 (upd (σ 8) m (nI (t 6 m + v))), va_up (va_up σ 8 (upd (σ 8) m (nI (t 6 m + v)))) 61 (upd (σ 61) (6 + m) (nI (t 6 m + v))), ?_, ?_, Inv_now iR (D_row (by omega) (by omega)) B A⟩
    · simp only [Option.bind_some]
      rw [if_neg (by decide), at_n (N := 5) rfl (by omega) (by omega), show σ 8 m = _ from a1.1]
      simp only [Option.bind_some, nI_add, if_pos l1]
      rw [if_neg (nI_pos (by omega)), put_n (N := 5) rfl (by omega) (by omega)]
      rfl
    · rw [inM8 (show va_up σ 8 (upd (σ 8) m (nI (t 6 m + v))) 60 7 = nI (t 0 3) from e8) (by omega), if_neg hm', in_at 0 99 0 99 rfl rfl, if_neg (show ¬ (nI v < 0 ∨ 99 < nI v) from hw)]
      rw [e6]
      have z : va_up σ 8 (upd (σ 8) m (nI (t 6 m + v))) 61 = σ 61 := rfl
      simp only [Option.bind_some, inB_n (show 6 + m < 90 by omega) (by omega), nI_clamp (show 6 + m < 2 ^ 31 by omega), z, a3, nI_add]
      rw [if_neg (by decide), if_neg (by decide), if_pos trivial, if_pos l1, if_pos trivial, if_pos trivial]
      simp [lt_, va_up, upd]
  · have l1 : ¬ nI (t 6 m + v) ≤ nI 99 := nI_ge (by omega) (by omega)
    refine ⟨-3, σ, σ, ?_, ?_, I⟩
    · simp only [Option.bind_some]
      rw [if_neg (by decide), at_n (N := 5) rfl (by omega) (by omega), show σ 8 m = _ from a1.1]
      simp only [Option.bind_some, nI_add, if_neg l1]
      rfl
    · rw [inM8 e8 (by omega), if_neg hm', in_at 0 99 0 99 rfl rfl, if_neg (show ¬ (nI v < 0 ∨ 99 < nI v) from hw)]
      rw [e6]
      simp only [Option.bind_some, inB_n (show 6 + m < 90 by omega) (by omega), nI_clamp (show 6 + m < 2 ^ 31 by omega), a3, nI_add]
      rw [if_neg (by decide), if_neg (by decide), if_pos trivial, if_neg l1]
      rfl
end
section
/-! signal: the bits of ten joints -/
def clr (s i : Nat) : Nat := s - s / 2 ^ i % 2 * 2 ^ i
theorem sg_bits : ∀ i, i < 10 → ∀ s, s < 1024 → (nI s &&& (nI (2 ^ i) ^^^ (-1 : Int32))) = nI (clr s i) ∧ (nI s ||| nI (2 ^ i)) = nI (s ||| 2 ^ i) ∧ (nI (clr s i) ||| nI (2 ^ i)) = nI (s ||| 2 ^ i) ∧ (nI (clr s i) ||| (0 : Int32)) = nI (clr s i) ∧ ((nI s >>> (nI i &&& 31)) &&& (1 : Int32)) = (if (nI s &&& nI (2 ^ i)) = 0 then 0 else 1) := by decide +kernel
theorem sg_b : ∀ i, i < 10 → ((1 : Int32) <<< (nI i &&& 31)) = nI (2 ^ i) := by decide +kernel
theorem u_signal {σ : ZI} (I : Inv σ) (a w : Int32) : ∃ r σ1 σ2, f_X7_signal σ a w = some (r, σ1) ∧ f_X8_signal σ1 a w = some (r, σ2) ∧ Inv σ2 := by
  obtain ⟨t, iT, iR⟩ := id I
  have k1 := iT.1.1
  have eJ : σ 2 0 = nI (t 0 0) := iT.2.1.1 0 (by omega)
  have eK : σ 60 1 = nI (t 0 0) := iT.2.2.2.1
  have eS : σ 2 4 = nI (t 0 4) := iT.2.1.1 4 (by omega)
  have eR : σ 61 11 = nI (t 0 4) := iT.2.2.1.2.2.2.1
  have r4 : ruP 4 11 0 := by unfold ruP; omega
  have hS : t 0 4 < 1024 := Nat.lt_of_lt_of_le k1.2.2.2.2.2.1 (Nat.pow_le_pow_right (n := 2) (by omega) k1.2.1)
  unfold f_X7_signal f_X8_signal
  by_cases hj : a < nI 1 ∨ nI (t 0 0) < a
  · refine ⟨-1, σ, σ, ?_, ?_, I⟩
    · rw [isJ7, eJ, if_pos (show a < 1 ∨ nI (t 0 0) < a from hj)]; rfl
    · rw [isJ8, eK, if_pos (show a < 1 ∨ nI (t 0 0) < a from hj)]; rfl
  obtain ⟨j, j1, j2, rfl⟩ := rng hj (by omega) (by omega)
  obtain ⟨i, rfl⟩ : ∃ i, j = i + 1 := ⟨j - 1, by omega⟩
  obtain ⟨b1, b2, b3, b4, b5⟩ := sg_bits i (by omega) (t 0 4) hS
  have fin : ∀ v, v < 2 ^ t 0 0 → Inv (va_up (va_up σ 2 (upd (σ 2) 4 (nI v))) 61 (upd (σ 61) 11 (nI v - nI 0))) := fun v hv => Inv_now iR (D_rule (by omega)) (SS_rule r4) (T_rule r4 iT (TK_rule r4 iT.1 (by refine ⟨fun _ => hv, ?_, ?_, ?_, ?_, ?_, ?_⟩ <;> intro <;> omega)))
  have hb : 2 ^ i < 2 ^ t 0 0 := Nat.pow_lt_pow_right (by omega) (by omega)
  have c1 : ∀ v, v < 2 ^ t 0 0 → ∀ x : Int32, x = nI v → f_X7_signal_48 (nI (i + 1)) w σ (nI (t 0 4)) (nI (2 ^ i)) x 4 = some ((if (nI (t 0 4) &&& nI (2 ^ i)) = 0 then 0 else 1), va_up σ 2 (upd (σ 2) 4 (nI v))) := by
    intro v hv x hx
    unfold f_X7_signal_48
    show ((f_X6_become σ 1 (nI 4) x).bind _) = _
    rw [bec_n rfl rfl (by omega), hx]
    by_cases h : (nI (t 0 4) &&& nI (2 ^ i)) = 0
    · simp [h]
    · simp [h]
  have c2 : ∀ (σ' : ZI) (v : Nat) (r x y : Int32), (x ||| y) = nI v → f_X8_signal_58 (nI (i + 1)) w σ' r y x 11 = some (r, va_up σ' 61 (upd (σ' 61) 11 (nI v - nI 0))) := by
    intro σ' v r x y h
    unfold f_X8_signal_58
    rw [if_pos (show inB 11 90 = true from rfl), h, i_sub0]
    rfl
  rw [isJ7, eJ, if_neg (show ¬ (nI (i + 1) < 1 ∨ nI (t 0 0) < nI (i + 1)) from hj)]
  by_cases hw : w = 0
  · have hv : clr (t 0 4) i < 2 ^ t 0 0 := Nat.lt_of_le_of_lt (Nat.sub_le _ _) k1.2.2.2.2.2.1
    refine ⟨if (nI (t 0 4) &&& nI (2 ^ i)) = 0 then 0 else 1, va_up σ 2 (upd (σ 2) 4 (nI (clr (t 0 4) i))), va_up (va_up σ 2 (upd (σ 2) 4 (nI (clr (t 0 4) i)))) 61 (upd (σ 61) 11 (nI (clr (t 0 4) i) - nI 0)), ?_, ?_, fin _ hv⟩
    · simp only [Option.bind_some]
      rw [if_neg (by decide), v1_4, eS]
      simp only [Option.bind_some, lt_]
      rw [nI_pred, sg_b i (by omega), if_pos hw]
      exact c1 _ hv _ b1
    · rw [isJ8, show va_up σ 2 (upd (σ 2) 4 (nI (clr (t 0 4) i))) 60 1 = nI (t 0 0) from eK, if_neg (show ¬ (nI (i + 1) < 1 ∨ nI (t 0 0) < nI (i + 1)) from hj)]
      simp only [Option.bind_some, lt_]
      rw [if_neg (by decide), show va_up σ 2 (upd (σ 2) 4 (nI (clr (t 0 4) i))) 61 11 = nI (t 0 4) from eR, nI_pred, b5, if_pos hw, sg_b i (by omega), b1]
      exact c2 _ _ _ _ _ b4
  · have hv : (t 0 4 ||| 2 ^ i) < 2 ^ t 0 0 := Nat.or_lt_two_pow k1.2.2.2.2.2.1 hb
    refine ⟨if (nI (t 0 4) &&& nI (2 ^ i)) = 0 then 0 else 1, va_up σ 2 (upd (σ 2) 4 (nI (t 0 4 ||| 2 ^ i))), va_up (va_up σ 2 (upd (σ 2) 4 (nI (t 0 4 ||| 2 ^ i)))) 61 (upd (σ 61) 11 (nI (t 0 4 ||| 2 ^ i) - nI 0)), ?_, ?_, fin _ hv⟩
    · simp only [Option.bind_some]
      rw [if_neg (by decide), v1_4, eS]
      simp only [Option.bind_some, lt_]
      rw [nI_pred, sg_b i (by omega), if_neg hw]
      exact c1 _ hv _ b2
    · rw [isJ8, show va_up σ 2 (upd (σ 2) 4 (nI (t 0 4 ||| 2 ^ i))) 60 1 = nI (t 0 0) from eK, if_neg (show ¬ (nI (i + 1) < 1 ∨ nI (t 0 0) < nI (i + 1)) from hj)]
      simp only [Option.bind_some, lt_]
      rw [if_neg (by decide), show va_up σ 2 (upd (σ 2) 4 (nI (t 0 4 ||| 2 ^ i))) 61 11 = nI (t 0 4) from eR, nI_pred, b5, if_neg hw, sg_b i (by omega), b1]
      exact c2 _ _ _ _ _ b3
end
section
/-! arm: how an arm holds -/
def hN (k p : Nat) : Nat := 10 - p / 2 - (if k = 1 ∨ k = 4 then (if 5 ≤ p then 3 else 0) else 0) - (if k = 2 ∨ k = 3 then p / 3 else 0) - (if k = 3 ∨ k = 4 then 1 else 0)
theorem hN_le (k p : Nat) : hN k p ≤ 10 := by unfold hN; omega
theorem ho7 {σ : ZI} {b k p : Nat} {a : Int32} (h0 : ar b = (11, 0)) (h1 : f_X7_at σ (b + 2) a = some (nI k)) (hk : k ≤ 4) (hp : p ≤ 9) : f_X6_holdsOf σ b a (nI p) = some (nI (hN k p)) := by
  unfold f_X6_holdsOf
  rw [h0, if_pos rfl, h1]
  clear h0 h1
  have e1 : k = 0 ∨ k = 1 ∨ k = 2 ∨ k = 3 ∨ k = 4 := by omega
  have e2 : p = 0 ∨ p = 1 ∨ p = 2 ∨ p = 3 ∨ p = 4 ∨ p = 5 ∨ p = 6 ∨ p = 7 ∨ p = 8 ∨ p = 9 := by omega
  rcases e1 with rfl | rfl | rfl | rfl | rfl <;> rcases e2 with rfl | rfl | rfl | rfl | rfl | rfl | rfl | rfl | rfl | rfl <;> rfl
theorem ho8 {σ : ZI} {i k p : Nat} (h1 : σ 61 i = nI k) (h2 : σ 61 14 + 5 = nI p) (hi : i < 90) (hk : k ≤ 4) (hp : p ≤ 9) : f_X8_holdsOf σ (nI i) = some (nI (hN k p)) := by
  unfold f_X8_holdsOf f_X8_holdsOf_27 f_X8_pace
  rw [inB_n hi (by omega), if_pos rfl, nI_clamp (by omega), h1, h2]
  clear h1 h2
  have e1 : k = 0 ∨ k = 1 ∨ k = 2 ∨ k = 3 ∨ k = 4 := by omega
  have e2 : p = 0 ∨ p = 1 ∨ p = 2 ∨ p = 3 ∨ p = 4 ∨ p = 5 ∨ p = 6 ∨ p = 7 ∨ p = 8 ∨ p = 9 := by omega
  rcases e1 with rfl | rfl | rfl | rfl | rfl <;> rcases e2 with rfl | rfl | rfl | rfl | rfl | rfl | rfl | rfl | rfl | rfl <;> rfl
theorem q_arm {σ : ZI} (I : Inv σ) (a w : Int32) : ∃ r, f_X7_arm σ a w = some r ∧ f_X8_arm σ a w = some r := by
  obtain ⟨t, ⟨kk, tv, rp, rs⟩, -⟩ := I
  have k1 := kk.1
  have e7 : σ 2 1 = nI (t 0 1) := tv.1 1 (by omega)
  have e8 : σ 60 3 = nI (t 0 1) := rs.2.1
  unfold f_X7_arm f_X8_arm
  rw [isA7, e7, isA8 e8 (by omega)]
  rcases ix_cases a (n := t 0 1) (by omega) with h | ⟨m, hm, rfl⟩
  · exact ⟨-1, by rw [if_pos h]; rfl, by rw [if_pos h]; rfl⟩
  rw [if_neg (ix_no hm (by omega))]
  have a1 := tv.2.1 m hm
  have a2 := rs.2.2.2.2.2.2.1 m hm
  have a3 := rp.1 m hm
  have a4 := kk.2.1 m hm
  rw [Nat.zero_add] at a3
  have f1 := pk_mul 2 m
  by_cases w0 : w = 0
  · subst w0
    refine ⟨nI (t 1 m), ?_, ?_⟩
    · show ((f_X7_at σ 3 (nI m)).bind fun q2 => some q2) = _
      rw [at_n (N := 3) rfl (by omega) (by omega), show σ 3 m = _ from a1.1]; rfl
    · show (if inB (nI m) 90 = true then (some (σ 61 (nI m).toNatClampNeg)) else none) = _
      rw [inB_n (by omega) (by omega), if_pos rfl, nI_clamp (by omega), a3]
  by_cases w1 : w = 1
  · subst w1
    refine ⟨nI (t 2 m), ?_, ?_⟩
    · show ((f_X7_at σ 4 (nI m)).bind fun q2 => some q2) = _
      rw [at_n (N := 3) rfl (by omega) (by omega), show σ 4 m = _ from a1.2.1]; rfl
    · show (if inB (((nI 2 * nI m) + nI 1) - 1) 6 = true then (some (σ 62 (((nI 2 * nI m) + nI 1) - 1).toNatClampNeg)) else none) = _
      rw [f1, nI_add, nI_pred, inB_n (by omega) (by omega), if_pos rfl, nI_clamp (by omega), a2.1]
  by_cases w2 : w = 2
  · subst w2
    refine ⟨nI (t 3 m), ?_, ?_⟩
    · show ((f_X7_at σ 5 (nI m)).bind fun q2 => some q2) = _
      rw [at_n (N := 3) rfl (by omega) (by omega), show σ 5 m = _ from a1.2.2]; rfl
    · show (if inB (((nI 2 * nI m) + nI 2) - 1) 6 = true then (some (σ 62 (((nI 2 * nI m) + nI 2) - 1).toNatClampNeg)) else none) = _
      rw [f1, nI_add, show 2 * m + 2 = 2 * m + 1 + 1 from rfl, nI_pred, inB_n (by omega) (by omega), if_pos rfl, nI_clamp (by omega), a2.2]
  by_cases w3 : w = 3
  · subst w3
    refine ⟨nI (hN (t 1 m) (t 0 7)), ?_, ?_⟩
    · show ((f_X6_value σ 1 7).bind fun q5 => (f_X6_holdsOf σ 1 (nI m) q5).bind fun q6 => some q6) = _
      rw [v1_7, show σ 2 7 = _ from tv.1 7 (by omega)]
      show ((f_X6_holdsOf σ 1 (nI m) (nI (t 0 7))).bind fun q6 => some q6) = _
      rw [ho7 rfl (by rw [at_n (N := 3) rfl (by omega) (by omega), show σ 3 m = _ from a1.1]) (by omega) (by omega)]
      rfl
    · show ((f_X8_holdsOf σ (nI m)).bind fun q2 => some q2) = _
      rw [ho8 a3 (by rw [show σ 61 14 = _ from rp.2.2.2.2.2.2.1]; exact Int32.sub_add_cancel _ _) (by omega) (by omega) (by omega)]
      rfl
  · refine ⟨-1, ?_, ?_⟩
    · show ((if w = 0 then _ else _) : Option Int32) = _
      rw [if_neg w0, if_neg w1, if_neg w2, if_neg w3]
    · show ((if w = 0 then _ else _) : Option Int32) = _
      rw [if_neg w0, if_neg w1, if_neg w2, if_neg w3]
end
section
/-! images -/
def lenT (r : Nat) : Nat := if r = 1 then 13 else if r ≤ 6 then 3 else 5
theorem take_n (σ : ZI) {b b1 : Nat} (hb : ((b = 10 ∨ b = 19) ∧ b1 = 1) ∨ (b = 1 ∧ (b1 = 10 ∨ b1 = 19 ∨ b1 = 28))) : ∃ σ', f_X6_take σ b b1 = some σ' ∧ (∀ r i, 1 ≤ r → r ≤ 8 → i < lenT r → σ' (b + r) i = σ (b1 + r) i) ∧ (∀ c i, c ≤ b ∨ b + 8 < c → σ' c i = σ c i) := by
  have hb' : (b = 10 ∧ b1 = 1) ∨ (b = 19 ∧ b1 = 1) ∨ (b = 1 ∧ b1 = 10) ∨ (b = 1 ∧ b1 = 19) ∨ (b = 1 ∧ b1 = 28) := by omega
  clear hb
  rcases hb' with ⟨rfl, rfl⟩ | ⟨rfl, rfl⟩ | ⟨rfl, rfl⟩ | ⟨rfl, rfl⟩ | ⟨rfl, rfl⟩
  all_goals
    refine ⟨_, rfl, fun r i r1 r2 hi => ?_, fun c i hc => ?_⟩
    · have : r = 1 ∨ r = 2 ∨ r = 3 ∨ r = 4 ∨ r = 5 ∨ r = 6 ∨ r = 7 ∨ r = 8 := by omega
      rcases this with rfl | rfl | rfl | rfl | rfl | rfl | rfl | rfl <;> exact sb_cpy0 hi
    · simp only [va_up]
      repeat rw [if_neg (by omega)]
theorem TV_cp {b b1 : Nat} {t : NN} {σ σ' : ZI} (k : TB t) (h : ∀ r i, 1 ≤ r → r ≤ 8 → i < lenT r → σ' (b + r) i = σ (b1 + r) i) (q : TV b1 t σ) : TV b t σ' := by
  obtain ⟨m1, m2, m3⟩ := k
  obtain ⟨q1, q2, q3, q4⟩ := q
  refine ⟨fun i hi => ?_, fun i hi => ⟨?_, ?_, ?_⟩, fun i hi => ⟨?_, ?_⟩, fun i hi => ⟨?_, ?_⟩⟩
  · rw [h 1 i (by omega) (by omega) hi]; exact q1 i hi
  · rw [h 2 i (by omega) (by omega) (by show i < 3; omega)]; exact (q2 i hi).1
  · rw [h 3 i (by omega) (by omega) (by show i < 3; omega)]; exact (q2 i hi).2.1
  · rw [h 4 i (by omega) (by omega) (by show i < 3; omega)]; exact (q2 i hi).2.2
  · rw [h 5 i (by omega) (by omega) (by show i < 3; omega)]; exact (q3 i hi).1
  · rw [h 6 i (by omega) (by omega) (by show i < 3; omega)]; exact (q3 i hi).2
  · rw [h 7 i (by omega) (by omega) (by show i < 5; omega)]; exact (q4 i hi).1
  · rw [h 8 i (by omega) (by omega) (by show i < 5; omega)]; exact (q4 i hi).2
theorem RP_cp {o o' : Nat} {t : NN} {σ σ' : ZI} (k : TB t) (h : ∀ i, i < 18 → σ' 61 (o' + i) = σ 61 (o + i)) (q : RP o t σ) : RP o' t σ' := by
  obtain ⟨m1, m2, m3⟩ := k
  obtain ⟨q1, q2, q3, q4, q5, q6, q7, q8, q9, q10⟩ := q
  refine ⟨fun i hi => ?_, fun i hi => ?_, fun i hi => ?_, ?_, ?_, ?_, ?_, ?_, ?_, ?_⟩
  · rw [h i (by omega)]; exact q1 i hi
  · rw [h (3 + i) (by omega)]; exact q2 i hi
  · rw [h (6 + i) (by omega)]; exact q3 i hi
  all_goals (rw [h _ (by omega)]; assumption)
theorem RS_SS {t u : NN} {σ : ZI} (s : SS t u) (q : RS t σ) : RS u σ := by
  obtain ⟨a1, a2, a3, a4, a5, a6, a7, a8, a9⟩ := s
  obtain ⟨q1, q2, q3, q4, q5, q6, q7, q8, q9⟩ := q
  refine ⟨by rw [a1]; exact q1, by rw [a2]; exact q2, by rw [a3]; exact q3, by rw [a4]; exact q4, by rw [a5]; exact q5, by rw [a6]; exact q6, fun i hi => ?_, fun i hi => ?_, fun i hi => ?_⟩
  · rw [a2] at hi; rw [(a7 i hi).1, (a7 i hi).2]; exact q7 i hi
  · rw [a3] at hi; rw [a8 i hi]; exact q8 i hi
  · rw [a4] at hi; rw [a9 i hi]; exact q9 i hi
/-- the copies of the reference's pages -/
def cpf (a b i : Nat) (f : Nat → Int32) : Nat → Int32 := fun k => if b + i ≤ k ∧ k < b + 18 then f (a + (k - b)) else f k
theorem cop_l {a b : Nat} (ha : a + 18 ≤ 90) (hb : b + 18 ≤ 90) (hd : a + 18 ≤ b ∨ b + 18 ≤ a) : ∀ (d i n : Nat) (σ : ZI), i + d = 18 → d < n → f_X8_copies_2 (nI a) (nI b) n σ (nI i) = some (va_up σ 61 (cpf a b i (σ 61))) := by
  intro d
  induction d with
  | zero =>
    intro i n σ h1 h2
    obtain ⟨n, rfl⟩ : ∃ m, n = m + 1 := ⟨n - 1, by omega⟩
    obtain rfl : i = 18 := by omega
    rw [f_X8_copies_2, if_pos (by decide)]
    congr 1
    funext c
    by_cases hc : c = 61
    · subst hc
      funext k
      simp only [va_up, if_true, cpf]
      rw [if_neg (by omega)]
    · simp [va_up, hc]
  | succ d ih =>
    intro i n σ h1 h2
    obtain ⟨n, rfl⟩ : ∃ m, n = m + 1 := ⟨n - 1, by omega⟩
    rw [f_X8_copies_2, if_neg (show ¬ (18 : Int32) ≤ nI i from nI_ge (a := i) (b := 18) (by omega) (by omega)), nI_add, nI_add, inB_n (by omega) (by omega), if_pos rfl, inB_n (by omega) (by omega), if_pos rfl, nI_clamp (by omega), nI_clamp (by omega), nI_1]
    show f_X8_copies_2 (nI a) (nI b) n (va_up σ 61 (upd (σ 61) (b + i) (σ 61 (a + i)))) (nI (i + 1)) = _
    rw [ih (i + 1) n _ (by omega) (by omega)]
    congr 1
    rw [bx_uu]
    congr 1
    funext k
    show (if b + (i + 1) ≤ k ∧ k < b + 18 then upd (σ 61) (b + i) (σ 61 (a + i)) (a + (k - b)) else upd (σ 61) (b + i) (σ 61 (a + i)) k) = if b + i ≤ k ∧ k < b + 18 then σ 61 (a + (k - b)) else σ 61 k
    by_cases h : b + (i + 1) ≤ k ∧ k < b + 18
    · rw [if_pos h, if_pos (by omega), pk_un (by omega)]
    · rw [if_neg h]
      by_cases h3 : k = b + i
      · subst h3
        rw [pk_us, if_pos (by omega)]
        congr 1
        omega
      · rw [pk_un h3, if_neg (by omega)]
theorem cop_n {a b : Nat} (ha : a + 18 ≤ 90) (hb : b + 18 ≤ 90) (hd : a + 18 ≤ b ∨ b + 18 ≤ a) (σ : ZI) : f_X8_copies σ (nI a) (nI b) = some (va_up σ 61 (cpf a b 0 (σ 61))) := cop_l ha hb hd 18 0 3000 σ (by omega) (by omega)
theorem cpf_in {a b i : Nat} {f : Nat → Int32} (h : i < 18) : cpf a b 0 f (b + i) = f (a + i) := by
  unfold cpf
  rw [if_pos (by omega)]
  congr 1
  omega
theorem cpf_out {a b k : Nat} {f : Nat → Int32} (h : k < b ∨ b + 18 ≤ k) : cpf a b 0 f k = f k := by
  unfold cpf
  rw [if_neg (by omega)]
theorem u_keep {σ : ZI} (I : Inv σ) (a : Int32) : ∃ r σ1 σ2, f_X7_keep σ a = some (r, σ1) ∧ f_X8_keep σ1 a = some (r, σ2) ∧ Inv σ2 := by
  obtain ⟨t, iT, ⟨x1, x2, l1, l2, e0, e1, e2, m1, m2⟩, iP, iS, iH, iF, iK⟩ := id I
  have kB := TK_TB iT.1
  unfold f_X7_keep f_X8_keep
  by_cases h0 : a = 0
  · subst h0
    obtain ⟨σ', s1, s2, s3⟩ := take_n σ (b := 10) (b1 := 1) (.inl ⟨.inl rfl, rfl⟩)
    obtain ⟨y, hy⟩ : ∃ y, y = va_up σ' 0 (upd (σ' 0) 3 (nI (1 + 2 * x2))) := ⟨_, rfl⟩
    obtain ⟨z, hz⟩ : ∃ z, z = va_up (va_up y 61 (cpf 0 18 0 (y 61))) 75 (upd (y 75) 0 1) := ⟨_, rfl⟩
    have y61 : ∀ i, y 61 i = σ 61 i := fun i => by rw [hy]; exact s3 61 i (by omega)
    have y75 : ∀ i, y 75 i = σ 75 i := fun i => by rw [hy]; exact s3 75 i (by omega)
    refine ⟨nI x1, y, z, ?_, ?_, ?_⟩
    · show ((f_X7_imageOf 0).bind fun q3 => _) = _
      show (((f_X6_take σ 10 1).bind fun q4 => lt_ (va_up q4 0 (upd (q4 0) 3 ((q4 0 3) ||| 1))) (fun σ5 => some ((((σ 0 3) >>> 0) &&& 1), σ5))) : Option (Int32 × ZI)) = _
      rw [s1]
      show some ((((σ 0 3) >>> 0) &&& 1), va_up σ' 0 (upd (σ' 0) 3 ((σ' 0 3) ||| 1))) = _
      rw [s3 0 3 (by omega), e0, hy]
      have c1 : x1 = 0 ∨ x1 = 1 := by omega
      have c2 : x2 = 0 ∨ x2 = 1 := by omega
      rcases c1 with rfl | rfl <;> rcases c2 with rfl | rfl <;> rfl
    · rw [in_at 0 1 0 1 rfl rfl, if_neg (by decide)]
      simp only [Option.bind_some]
      rw [if_neg (by decide), show (18 : Int32) * (0 + 1) = nI 18 from rfl, show f_X8_copies y 0 (nI 18) = _ from cop_n (a := 0) (b := 18) (by omega) (by omega) (by omega) y]
      show ((if y 75 0 = 0 then f_X8_keep_37 0 (va_up y 61 (cpf 0 18 0 (y 61))) 0 else f_X8_keep_37 0 (va_up y 61 (cpf 0 18 0 (y 61))) 1) : Option (Int32 × ZI)) = _
      rw [y75, e1, hz]
      have c1 : x1 = 0 ∨ x1 = 1 := by omega
      rcases c1 with rfl | rfl <;> rfl
    · have zc : ∀ c i, c ≠ 0 → c ≠ 61 → c ≠ 75 → (c ≤ 10 ∨ 18 < c) → z c i = σ c i := fun c i a1 a2 a3 a4 => by
        rw [hz, hy]
        simp only [va_up, if_neg a1, if_neg a2, if_neg a3]
        exact s3 c i a4
      have z61 : ∀ k, k < 18 ∨ 36 ≤ k → z 61 k = σ 61 k := fun k hk => by
        rw [hz]; show cpf 0 18 0 (y 61) k = _
        rw [cpf_out hk, y61]
      refine Inv_img ⟨iT, iP, iS, iH, iF, iK⟩ (fun c i q r => ?_) ⟨1, x2, by omega, by omega, ?_, ?_, ?_, fun _ => ⟨t, iT.1, SS_rfl t, ?_, ?_⟩, ImK_fr (SS_rfl t) (fun r i h1 h2 => zc _ _ (by omega) (by omega) (by omega) (by omega)) (fun i hi => z61 _ (by omega)) m2⟩
      · by_cases c61 : c = 61
        · subst c61
          by_cases hi : 18 ≤ i ∧ i < 54
          · exact absurd (own_q hi.1 hi.2) r
          · exact z61 i (by omega)
        by_cases c0 : c = 0
        · subst c0
          have : i ≠ 3 := by rintro rfl; exact r rfl
          rw [hz, hy]
          show upd (σ' 0) 3 _ i = _
          rw [pk_un this]; exact s3 0 i (by omega)
        have c75 : c ≠ 75 := by rintro rfl; exact r rfl
        refine zc c i c0 c61 c75 ?_
        rcases Nat.lt_or_ge 18 c with h | h
        · exact .inr h
        · rcases Nat.lt_or_ge 10 c with h2 | h2
          · exact absurd (own_2 i (by omega) (by omega)) r
          · exact .inl h2
      · rw [hz, hy]; rfl
      · rw [hz]; rfl
      · rw [hz]; exact (y75 1).trans e2
      · refine TV_cp (b1 := 1) kB (fun r i h1 h2 h3 => ?_) iT.2.1
        rw [← s2 r i h1 h2 h3, hz, hy]
        simp [va_up, show 10 + r ≠ 75 by omega, show 10 + r ≠ 61 by omega]
      · refine RP_cp (o := 0) kB (fun i hi => ?_) iT.2.2.1
        rw [hz]
        show cpf 0 18 0 (y 61) (18 + i) = _
        rw [cpf_in hi, y61]
  by_cases h1 : a = 1
  · subst h1
    obtain ⟨σ', s1, s2, s3⟩ := take_n σ (b := 19) (b1 := 1) (.inl ⟨.inr rfl, rfl⟩)
    obtain ⟨y, hy⟩ : ∃ y, y = va_up σ' 0 (upd (σ' 0) 3 (nI (x1 + 2 * 1))) := ⟨_, rfl⟩
    obtain ⟨z, hz⟩ : ∃ z, z = va_up (va_up y 61 (cpf 0 36 0 (y 61))) 75 (upd (y 75) 1 1) := ⟨_, rfl⟩
    have y61 : ∀ i, y 61 i = σ 61 i := fun i => by rw [hy]; exact s3 61 i (by omega)
    have y75 : ∀ i, y 75 i = σ 75 i := fun i => by rw [hy]; exact s3 75 i (by omega)
    refine ⟨nI x2, y, z, ?_, ?_, ?_⟩
    · show ((f_X7_imageOf 1).bind fun q3 => _) = _
      show (((f_X6_take σ 19 1).bind fun q4 => lt_ (va_up q4 0 (upd (q4 0) 3 ((q4 0 3) ||| 2))) (fun σ5 => some ((((σ 0 3) >>> 1) &&& 1), σ5))) : Option (Int32 × ZI)) = _
      rw [s1]
      show some ((((σ 0 3) >>> 1) &&& 1), va_up σ' 0 (upd (σ' 0) 3 ((σ' 0 3) ||| 2))) = _
      rw [s3 0 3 (by omega), e0, hy]
      have c1 : x1 = 0 ∨ x1 = 1 := by omega
      have c2 : x2 = 0 ∨ x2 = 1 := by omega
      rcases c1 with rfl | rfl <;> rcases c2 with rfl | rfl <;> rfl
    · rw [in_at 0 1 0 1 rfl rfl, if_neg (by decide)]
      simp only [Option.bind_some]
      rw [if_neg (by decide), show (18 : Int32) * (1 + 1) = nI 36 from rfl, show f_X8_copies y 0 (nI 36) = _ from cop_n (a := 0) (b := 36) (by omega) (by omega) (by omega) y]
      show ((if y 75 1 = 0 then f_X8_keep_37 1 (va_up y 61 (cpf 0 36 0 (y 61))) 0 else f_X8_keep_37 1 (va_up y 61 (cpf 0 36 0 (y 61))) 1) : Option (Int32 × ZI)) = _
      rw [y75, e2, hz]
      have c1 : x2 = 0 ∨ x2 = 1 := by omega
      rcases c1 with rfl | rfl <;> rfl
    · have zc : ∀ c i, c ≠ 0 → c ≠ 61 → c ≠ 75 → (c ≤ 19 ∨ 27 < c) → z c i = σ c i := fun c i a1 a2 a3 a4 => by
        rw [hz, hy]
        simp only [va_up, if_neg a1, if_neg a2, if_neg a3]
        exact s3 c i a4
      have z61 : ∀ k, k < 36 ∨ 54 ≤ k → z 61 k = σ 61 k := fun k hk => by
        rw [hz]; show cpf 0 36 0 (y 61) k = _
        rw [cpf_out hk, y61]
      refine Inv_img ⟨iT, iP, iS, iH, iF, iK⟩ (fun c i q r => ?_) ⟨x1, 1, by omega, by omega, ?_, ?_, ?_, ImK_fr (SS_rfl t) (fun r i h1 h2 => zc _ _ (by omega) (by omega) (by omega) (by omega)) (fun i hi => z61 _ (by omega)) m1, fun _ => ⟨t, iT.1, SS_rfl t, ?_, ?_⟩⟩
      · by_cases c61 : c = 61
        · subst c61
          by_cases hi : 18 ≤ i ∧ i < 54
          · exact absurd (own_q hi.1 hi.2) r
          · exact z61 i (by omega)
        by_cases c0 : c = 0
        · subst c0
          have : i ≠ 3 := by rintro rfl; exact r rfl
          rw [hz, hy]
          show upd (σ' 0) 3 _ i = _
          rw [pk_un this]; exact s3 0 i (by omega)
        have c75 : c ≠ 75 := by rintro rfl; exact r rfl
        refine zc c i c0 c61 c75 ?_
        rcases Nat.lt_or_ge 27 c with h | h
        · exact .inr h
        · rcases Nat.lt_or_ge 19 c with h2 | h2
          · exact absurd (own_2 i (by omega) (by omega)) r
          · exact .inl h2
      · rw [hz, hy]; rfl
      · rw [hz]; exact (y75 0).trans e1
      · rw [hz]; rfl
      · refine TV_cp (b1 := 1) kB (fun r i h1 h2 h3 => ?_) iT.2.1
        rw [← s2 r i h1 h2 h3, hz, hy]
        simp [va_up, show 19 + r ≠ 75 by omega, show 19 + r ≠ 61 by omega, show 19 + r ≠ 0 by omega]
      · refine RP_cp (o := 0) kB (fun i hi => ?_) iT.2.2.1
        rw [hz]
        show cpf 0 36 0 (y 61) (36 + i) = _
        rw [cpf_in hi, y61]
  · refine ⟨-1, σ, σ, ?_, ?_, I⟩
    · unfold f_X7_isImage
      rw [if_neg h0, if_neg h1]; rfl
    · rw [in_at 0 1 0 1 rfl rfl, if_pos]
      · rfl
      · rcases ix_cases a (n := 2) (by omega) with h | ⟨j, hj, rfl⟩
        · rcases h with h | h
          · exact .inl h
          · right
            rw [Int32.le_iff_toInt_le] at h
            rw [Int32.lt_iff_toInt_lt]
            have e3 : (nI 2).toInt = 2 := rfl
            have e4 : (1 : Int32).toInt = 1 := rfl
            omega
        · have : j = 0 ∨ j = 1 := by omega
          rcases this with rfl | rfl
          · exact absurd rfl h0
          · exact absurd rfl h1
theorem u_back {σ : ZI} (I : Inv σ) (a : Int32) : ∃ r σ1 σ2, f_X7_back σ a = some (r, σ1) ∧ f_X8_back σ1 a = some (r, σ2) ∧ Inv σ2 := by
  obtain ⟨t, iT, ⟨x1, x2, l1, l2, e0, e1, e2, m1, m2⟩, iP, iS, iH, iF, iK⟩ := id I
  have iI : InvI t σ := ⟨x1, x2, l1, l2, e0, e1, e2, m1, m2⟩
  unfold f_X7_back f_X8_back
  have go : ∀ (b o : Nat) (u : NN), (b = 10 ∨ b = 19) → (o = 18 ∨ o = 36) → TK u → SS t u → TV b u σ → RP o u σ → ∃ σ' z, f_X6_take σ 1 b = some σ' ∧ f_X8_copies σ' (nI o) (nI 0) = some z ∧ Inv z ∧ σ' 2 0 = nI (t 0 0) ∧ z 60 1 = nI (t 0 0) ∧ σ' 75 = σ 75 := by
    intro b o u hb ho k s tv rp
    obtain ⟨σ', s1, s2, s3⟩ := take_n σ (b := 1) (b1 := b) (.inr ⟨rfl, by omega⟩)
    have y61 : ∀ i, σ' 61 i = σ 61 i := fun i => s3 61 i (by omega)
    refine ⟨σ', va_up σ' 61 (cpf o 0 0 (σ' 61)), s1, cop_n (by omega) (by omega) (by omega) σ', ?_, ?_, ?_, ?_⟩
    · refine Inv_now (t := t) (u := u) ⟨iI, iP, iS, iH, iF, iK⟩ (fun c i q r => ?_) s ⟨k, ?_, ?_, ?_⟩
      · by_cases c61 : c = 61
        · subst c61
          have hi : ¬ i < 18 := fun h => r (own_p h)
          show cpf o 0 0 (σ' 61) i = _
          rw [cpf_out (by omega), y61]
        · show va_up σ' 61 _ c i = _
          simp only [va_up, if_neg c61]
          refine s3 c i ?_
          rcases Nat.lt_or_ge 9 c with h | h
          · exact .inr h
          · rcases Nat.lt_or_ge 1 c with h2 | h2
            · exact absurd (own_1 i (by omega) (by omega)) r
            · exact .inl h2
      · refine TV_61 (TV_cp (b1 := b) (TK_TB k) (fun r i h1 h2 h3 => s2 r i h1 h2 h3) tv)
      · refine RP_cp (o := o) (TK_TB k) (fun i hi => ?_) rp
        show cpf o 0 0 (σ' 61) (0 + i) = _
        rw [cpf_in hi, y61]
      · refine RS_61 (RS_fr ⟨s3 _ _ (by omega), s3 _ _ (by omega), s3 _ _ (by omega), s3 _ _ (by omega)⟩ (fun c i h1 h2 => s3 c i (by omega)) (RS_SS s iT.2.2.2))
    · have := s2 1 0 (by omega) (by omega) (by show 0 < 13; omega)
      rw [show σ' 2 0 = _ from this, tv.1 0 (by omega), s.1]
    · show σ' 60 1 = _
      rw [s3 60 1 (by omega)]
      exact iT.2.2.2.1
    · funext i; exact s3 75 i (by omega)
  by_cases h0 : a = 0
  · subst h0
    have c1 : x1 = 0 ∨ x1 = 1 := by omega
    have c2 : x2 = 0 ∨ x2 = 1 := by omega
    rcases c1 with rfl | rfl
    · refine ⟨-2, σ, σ, ?_, ?_, I⟩
      · show ((if (σ 0 3 >>> 0) &&& 1 = 0 then _ else _) : Option (Int32 × ZI)) = _
        rw [if_pos (by rw [e0]; rcases c2 with rfl | rfl <;> rfl)]
      · show ((if σ 75 0 = 0 then _ else _) : Option (Int32 × ZI)) = _
        rw [if_pos (by rw [e1]; rfl)]
    · obtain ⟨u, k, s, tv, rp⟩ := m1 rfl
      obtain ⟨σ', z, g1, g2, g3, g4, g5, g6⟩ := go 10 18 u (by omega) (by omega) k s tv rp
      refine ⟨nI (t 0 0), σ', z, ?_, ?_, g3⟩
      · show ((if (σ 0 3 >>> 0) &&& 1 = 0 then _ else _) : Option (Int32 × ZI)) = _
        rw [if_neg (by rw [e0]; rcases c2 with rfl | rfl <;> decide)]
        show ((f_X6_take σ 1 10).bind fun q3 => (f_X6_value q3 1 0).bind fun q4 => some (q4, q3)) = _
        rw [g1]
        show some (σ' 2 0, σ') = _
        rw [g4]
      · show ((if σ' 75 0 = 0 then _ else _) : Option (Int32 × ZI)) = _
        rw [if_neg (by rw [g6, e1]; decide)]
        show ((f_X8_copies σ' (nI 18) (nI 0)).bind fun q2 => some (q2 60 1, q2)) = _
        rw [g2]
        show some (z 60 1, z) = _
        rw [g5]
  by_cases h1 : a = 1
  · subst h1
    have c1 : x1 = 0 ∨ x1 = 1 := by omega
    have c2 : x2 = 0 ∨ x2 = 1 := by omega
    rcases c2 with rfl | rfl
    · refine ⟨-2, σ, σ, ?_, ?_, I⟩
      · show ((if (σ 0 3 >>> 1) &&& 1 = 0 then _ else _) : Option (Int32 × ZI)) = _
        rw [if_pos (by rw [e0]; rcases c1 with rfl | rfl <;> rfl)]
      · show ((if σ 75 1 = 0 then _ else _) : Option (Int32 × ZI)) = _
        rw [if_pos (by rw [e2]; rfl)]
    · obtain ⟨u, k, s, tv, rp⟩ := m2 rfl
      obtain ⟨σ', z, g1, g2, g3, g4, g5, g6⟩ := go 19 36 u (by omega) (by omega) k s tv rp
      refine ⟨nI (t 0 0), σ', z, ?_, ?_, g3⟩
      · show ((if (σ 0 3 >>> 1) &&& 1 = 0 then _ else _) : Option (Int32 × ZI)) = _
        rw [if_neg (by rw [e0]; rcases c1 with rfl | rfl <;> decide)]
        show ((f_X6_take σ 1 19).bind fun q3 => (f_X6_value q3 1 0).bind fun q4 => some (q4, q3)) = _
        rw [g1]
        show some (σ' 2 0, σ') = _
        rw [g4]
      · show ((if σ' 75 1 = 0 then _ else _) : Option (Int32 × ZI)) = _
        rw [if_neg (by rw [g6, e2]; decide)]
        show ((f_X8_copies σ' (nI 36) (nI 0)).bind fun q2 => some (q2 60 1, q2)) = _
        rw [g2]
        show some (z 60 1, z) = _
        rw [g5]
  · refine ⟨-1, σ, σ, ?_, ?_, I⟩
    · unfold f_X7_isImage
      rw [if_neg h0, if_neg h1]; rfl
    · rw [in_at 0 1 0 1 rfl rfl, if_pos]
      · rfl
      · rcases ix_cases a (n := 2) (by omega) with h | ⟨j, hj, rfl⟩
        · rcases h with h | h
          · exact .inl h
          · right
            rw [Int32.le_iff_toInt_le] at h
            rw [Int32.lt_iff_toInt_lt]
            have e3 : (nI 2).toInt = 2 := rfl
            have e4 : (1 : Int32).toInt = 1 := rfl
            omega
        · have : j = 0 ∨ j = 1 := by omega
          rcases this with rfl | rfl
          · exact absurd rfl h0
          · exact absurd rfl h1
end
section
/-! sheets; first two rewritings that are no computation (a loop with its fuel as a number must not be computed by the kernel) -/
theorem bso {α β : Type} (a : α) (f : α → Option β) : (some a).bind f = f a := by simp
theorem ltq {α β : Type} (e : α) (f : α → β) : lt_ e f = f e := by
  have h : lt_ e f = f e ∧ True := ⟨rfl, trivial⟩
  exact h.1
def zf (k i : Nat) (f : Nat → Int32) : Nat → Int32 := fun p => if 40 * k + i ≤ p ∧ p < 40 * k + 40 then 0 else f p
theorem zf_up {k i : Nat} {f : Nat → Int32} (h : i < 40) : zf k (i + 1) (upd f (40 * k + i) 0) = zf k i f := by
  funext p
  unfold zf
  by_cases h1 : 40 * k + (i + 1) ≤ p ∧ p < 40 * k + 40
  · rw [if_pos h1, if_pos (by omega)]
  · rw [if_neg h1]
    by_cases h2 : p = 40 * k + i
    · subst h2; rw [pk_us, if_pos (by omega)]
    · rw [pk_un h2, if_neg (by omega)]
theorem zf_end {k : Nat} {f : Nat → Int32} : zf k 40 f = f := by
  funext p
  unfold zf
  rw [if_neg (by omega)]
theorem up_id (σ : ZI) (c : Nat) : va_up σ c (σ c) = σ := by
  funext x
  unfold va_up
  by_cases h : x = c
  · subst h; rw [if_pos rfl]
  · rw [if_neg h]
theorem ren_l {k : Nat} (hk : k < 4) (x y : Int32) : ∀ (d i n : Nat) (σ : ZI), i + d = 40 → d < n → f_X4_renew_30 (nI k) x y n σ (nI i) = some (va_up σ 58 (zf k i (σ 58))) := by
  intro d
  induction d with
  | zero =>
    intro i n σ h1 h2
    obtain ⟨n, rfl⟩ : ∃ m, n = m + 1 := ⟨n - 1, by omega⟩
    obtain rfl : i = 40 := by omega
    rw [f_X4_renew_30, if_pos (by decide), zf_end, up_id]
  | succ d ih =>
    intro i n σ h1 h2
    obtain ⟨n, rfl⟩ : ∃ m, n = m + 1 := ⟨n - 1, by omega⟩
    rw [f_X4_renew_30, if_neg (show ¬ (40 : Int32) ≤ nI i from nI_ge (b := 40) (by omega) (by omega)), show nI k * 40 + nI i = nI (40 * k + i) from by rw [show nI k * (40 : Int32) = nI (k * 40) from pk_mul k 40, nI_add, Nat.mul_comm], put_n (N := 160) rfl (by omega) (by omega), nI_1]
    show f_X4_renew_30 (nI k) x y n (va_up σ 58 (upd (σ 58) (40 * k + i) 0)) (nI (i + 1)) = _
    rw [ih (i + 1) n _ (by omega) (by omega), bx_uu]
    show some (va_up σ 58 (zf k (i + 1) (upd (σ 58) (40 * k + i) 0))) = _
    rw [zf_up (by omega)]
theorem she_l {k : Nat} (hk : k < 4) (x y : Int32) : ∀ (d i n : Nat) (σ : ZI), i + d = 40 → d < n → f_X8_sheet_56 (nI k) x y n σ (nI i) = some (1, va_up σ 78 (zf k i (σ 78))) := by
  intro d
  induction d with
  | zero =>
    intro i n σ h1 h2
    obtain ⟨n, rfl⟩ : ∃ m, n = m + 1 := ⟨n - 1, by omega⟩
    obtain rfl : i = 40 := by omega
    rw [f_X8_sheet_56, if_pos (by decide), zf_end, up_id]
  | succ d ih =>
    intro i n σ h1 h2
    obtain ⟨n, rfl⟩ : ∃ m, n = m + 1 := ⟨n - 1, by omega⟩
    rw [f_X8_sheet_56, if_neg (show ¬ (40 : Int32) ≤ nI i from nI_ge (b := 40) (by omega) (by omega)), show 40 * nI k + nI i = nI (40 * k + i) from by rw [show (40 : Int32) * nI k = nI (40 * k) from pk_mul 40 k, nI_add], inB_n (by omega) (by omega), if_pos rfl, nI_clamp (by omega), nI_1]
    show f_X8_sheet_56 (nI k) x y n (va_up σ 78 (upd (σ 78) (40 * k + i) 0)) (nI (i + 1)) = _
    rw [ih (i + 1) n _ (by omega) (by omega), bx_uu]
    show some ((1 : Int32), va_up σ 78 (zf k (i + 1) (upd (σ 78) (40 * k + i) 0))) = _
    rw [zf_up (by omega)]
theorem hi_of {a : Int32} {n m : Nat} (hn : n < 2 ^ 31) (e : n = m + 1) (h : a < 0 ∨ nI n ≤ a) : a < 0 ∨ nI m < a := by
  rcases h with h | h
  · exact .inl h
  · right
    rw [Int32.le_iff_toInt_le, nI_toInt hn] at h
    rw [Int32.lt_iff_toInt_lt, nI_toInt (by omega)]
    omega
theorem isS7 (a : Int32) : f_X7_isSheet a = some (if a < 0 ∨ nI 4 ≤ a then 0 else 1) := by
  unfold f_X7_isSheet
  by_cases h : a < 0
  · rw [if_pos h, if_pos (.inl h)]
  · rw [if_neg h]
    by_cases h2 : (4 : Int32) ≤ a
    · rw [if_pos h2, if_pos (.inr h2)]
    · rw [if_neg h2, if_neg (fun q => q.elim h h2)]
theorem isL7 (a : Int32) : f_X7_isLane a = some (if a < 0 ∨ nI 3 ≤ a then 0 else 1) := by
  unfold f_X7_isLane
  by_cases h : a < 0
  · rw [if_pos h, if_pos (.inl h)]
  · rw [if_neg h]
    by_cases h2 : (3 : Int32) ≤ a
    · rw [if_pos h2, if_pos (.inr h2)]
    · rw [if_neg h2, if_neg (fun q => q.elim h h2)]
theorem in_hi {j n m : Nat} (h : j < n) (e : n = m + 1) (hn : n < 2 ^ 31) : ¬ (nI j < 0 ∨ nI m < nI j) := by
  rintro (q | q)
  · exact nI_pos (by omega) q
  · exact nI_nlt (a := m) (b := j) (by omega) (by omega) q
def sh7 (σ : ZI) (k l N : Nat) : ZI := va_up (va_up (va_up (va_up σ 55 (upd (σ 55) k 1)) 56 (upd (σ 56) k (nI l))) 57 (upd (σ 57) k (nI N))) 58 (zf k 0 (σ 58))
def sh8 (σ : ZI) (k l N : Nat) : ZI := va_up (va_up (va_up σ 76 (upd (σ 76) k (nI l))) 77 (upd (σ 77) k (nI N))) 78 (zf k 0 (σ 78))
theorem renew_n (σ : ZI) {k l N : Nat} (hk : k < 4) : f_X4_renew σ (nI k) (nI l) (nI N) = some (sh7 σ k l N) := by
  unfold f_X4_renew sh7
  rw [put_n (N := 4) rfl hk (by omega), bso, put_n (N := 4) rfl hk (by omega), bso, put_n (N := 4) rfl hk (by omega), bso]
  exact ren_l hk _ _ 40 0 3000 _ (by omega) (by omega)
theorem sheet8_n (σ : ZI) {k l N : Nat} (hk : k < 4) (hl : l < 3) (hN : N ≤ 40) : f_X8_sheet σ (nI k) (nI l) (nI N) = some (1, sh8 σ k l N) := by
  unfold f_X8_sheet sh8
  rw [in_at 0 3 0 3 rfl rfl, if_neg (show ¬ (nI k < 0 ∨ 3 < nI k) from in_hi (m := 3) hk rfl (by omega)), bso]
  rw [if_neg (by decide), in_at 0 2 0 2 rfl rfl, if_neg (show ¬ (nI l < 0 ∨ 2 < nI l) from in_hi (m := 2) hl rfl (by omega)), bso]
  rw [if_neg (by decide), if_pos (show nI N ≤ 40 from nI_le (b := 40) hN (by omega)), if_pos (nI_pos' (by omega)), inB_n hk (by omega), if_pos rfl, nI_clamp (by omega), ltq, if_pos rfl, ltq]
  exact she_l hk _ _ 40 0 3000 _ (by omega) (by omega)
theorem u_sheet {σ : ZI} (I : Inv σ) (a b c : Int32) : ∃ r σ1 σ2, f_X7_sheet σ a b c = some (r, σ1) ∧ f_X8_sheet σ1 a b c = some (r, σ2) ∧ Inv σ2 := by
  have iH : InvH σ := I.choose_spec.2.2.2.2.1
  unfold f_X7_sheet f_X8_sheet
  rw [isS7]
  rcases ix_cases a (n := 4) (by omega) with h | ⟨k, hk, rfl⟩
  · refine ⟨-1, σ, σ, by rw [if_pos h]; rfl, ?_, I⟩
    rw [in_at 0 3 0 3 rfl rfl, if_pos (show a < 0 ∨ 3 < a from hi_of (m := 3) (by omega) rfl h)]; rfl
  rw [if_neg (ix_no hk (by omega))]
  rw [isL7]
  have ek : ∀ l : ZI, f_X8_in (nI k).toInt64 0 3 = some 1 := fun _ => by rw [in_at 0 3 0 3 rfl rfl, if_neg (show ¬ (nI k < 0 ∨ 3 < nI k) from in_hi (m := 3) hk rfl (by omega))]
  rcases ix_cases b (n := 3) (by omega) with h | ⟨l, hl, rfl⟩
  · refine ⟨-1, σ, σ, by rw [if_pos h]; rfl, ?_, I⟩
    rw [ek σ, in_at 0 2 0 2 rfl rfl, if_pos (show b < 0 ∨ 2 < b from hi_of (m := 2) (by omega) rfl h)]; rfl
  rw [if_neg (ix_no hl (by omega))]
  have el : ∀ l' : ZI, f_X8_in (nI l).toInt64 0 2 = some 1 := fun _ => by rw [in_at 0 2 0 2 rfl rfl, if_neg (show ¬ (nI l < 0 ∨ 2 < nI l) from in_hi (m := 2) hl rfl (by omega))]
  by_cases h40 : c ≤ 40
  · by_cases h0 : 0 ≤ c
    · obtain ⟨N, n1, n2, rfl⟩ := rng (w := c) (lo := 0) (hi := 40) (fun q => q.elim (fun q => Int32.not_le.mpr q h0) (fun q => Int32.not_le.mpr q h40)) (by omega) (by omega)
      obtain ⟨s6, hs6⟩ : ∃ s6, s6 = sh8 (sh7 σ k l N) k l N := ⟨_, rfl⟩
      refine ⟨1, sh7 σ k l N, s6, ?_, ?_, ?_⟩
      · rw [bso, if_neg (by decide), bso, if_neg (by decide), if_pos h40, if_pos h0, renew_n σ hk]
        rfl
      · have := sheet8_n (sh7 σ k l N) hk hl n2
        rw [← hs6] at this
        unfold f_X8_sheet at this
        exact this
      · refine Inv_sht I (fun x i q r => ?_) ⟨fun k' hk' => ?_, fun i hi => ?_⟩
        · have n55 : ¬ ((55 ≤ x ∧ x ≤ 58) ∨ (76 ≤ x ∧ x ≤ 78)) := fun h => r (own_5 i h)
          rw [hs6]
          simp only [va_up, sh7, sh8]
          repeat rw [if_neg (by omega)]
        · by_cases h : k' = k
          · subst h
            right
            rw [hs6]
            exact ⟨pk_us, l, N, hl, n2, pk_us, pk_us, pk_us, pk_us⟩
          · have := iH.1 k' hk'
            unfold ShK at this ⊢
            rw [hs6]
            show (upd (σ 55) k 1 k' = 0 ∧ upd (σ 76) k (nI l) k' = -4) ∨ (upd (σ 55) k 1 k' = 1 ∧ ∃ l' n', l' < 3 ∧ n' ≤ 40 ∧ upd (σ 56) k (nI l) k' = nI l' ∧ upd (σ 76) k (nI l) k' = nI l' ∧ upd (σ 57) k (nI N) k' = nI n' ∧ upd (σ 77) k (nI N) k' = nI n')
            rw [pk_un h, pk_un h, pk_un h, pk_un h, pk_un h]
            exact this
        · rw [hs6]
          show zf k 0 (σ 78) i = zf k 0 (σ 58) i
          unfold zf
          rw [iH.2 i hi]
    · refine ⟨-14, σ, σ, ?_, ?_, I⟩
      · show ((if c ≤ 40 then _ else _) : Option (Int32 × ZI)) = _
        rw [if_pos h40, if_neg h0]
      · rw [ek σ, el σ]
        show ((if c ≤ 40 then _ else _) : Option (Int32 × ZI)) = _
        rw [if_pos h40, if_neg h0]
  · refine ⟨-1, σ, σ, ?_, ?_, I⟩
    · show ((if c ≤ 40 then _ else _) : Option (Int32 × ZI)) = _
      rw [if_neg h40]
    · rw [ek σ, el σ]
      show ((if c ≤ 40 then _ else _) : Option (Int32 × ZI)) = _
      rw [if_neg h40]
end
section
/-! lay -/
theorem shl_tn (a : Int32) (k : Nat) (s : Int32) (hs : (s.toBitVec.smod 32).toNat = k) : (a <<< s).toInt = ((a.toBitVec.toNat * 2 ^ k % 2 ^ 32 : Nat) : Int).bmod (2 ^ 32) := by
  rw [← pk_shl a s k hs]
  show (a <<< s).toBitVec.toInt = _
  rw [BitVec.toInt_eq_toNat_bmod]
theorem sh24 (a : Int32) : (a <<< ((24 : Int32) &&& 31)) >>> ((24 : Int32) &&& 31) = a.toInt8.toInt32 := by
  have h := pk_shr (a <<< ((24 : Int32) &&& 31)) ((24 : Int32) &&& 31) 24 (by decide)
  rw [shl_tn a 24 ((24 : Int32) &&& 31) (by decide)] at h
  apply Int32.toInt_inj.mp
  rw [h, Int8.toInt_toInt32, Int32.toInt_toInt8, show a.toInt = a.toBitVec.toInt from rfl, BitVec.toInt_eq_toNat_bmod]
  generalize a.toBitVec.toNat = n
  rw [Int.shiftRight_eq_div_pow]
  simp only [Int.bmod_def]
  omega
theorem sh16 (a : Int32) : (a <<< ((16 : Int32) &&& 31)) >>> ((16 : Int32) &&& 31) = a.toInt16.toInt32 := by
  have h := pk_shr (a <<< ((16 : Int32) &&& 31)) ((16 : Int32) &&& 31) 16 (by decide)
  rw [shl_tn a 16 ((16 : Int32) &&& 31) (by decide)] at h
  apply Int32.toInt_inj.mp
  rw [h, Int16.toInt_toInt32, Int32.toInt_toInt16, show a.toInt = a.toBitVec.toInt from rfl, BitVec.toInt_eq_toNat_bmod]
  generalize a.toBitVec.toNat = n
  rw [Int.shiftRight_eq_div_pow]
  simp only [Int.bmod_def]
  omega
theorem nI_inj {a b : Nat} (ha : a < 2 ^ 31) (hb : b < 2 ^ 31) (h : nI a = nI b) : a = b := (nI_eq ha hb).mp h
theorem nI_nm4 {k : Nat} (hk : k < 2 ^ 31) : ¬ nI k = -4 := by
  intro h
  have : (nI k).toInt = (-4 : Int32).toInt := by rw [h]
  rw [nI_toInt hk] at this
  have e : (-4 : Int32).toInt = -4 := rfl
  omega
theorem wr_n (σ : ZI) {k p l : Nat} {v : Int32} (hk : k < 4) (hp : p < 40) (hl : l < 3) (h : σ 56 k = nI l) : f_X4_write σ (nI k) (nI p) v = some (va_up σ 58 (upd (σ 58) (40 * k + p) (if l = 0 then v.toInt8.toInt32 else if l = 1 then v.toInt16.toInt32 else v))) := by
  unfold f_X4_write f_X4_write_42
  rw [at_n (N := 4) rfl hk (by omega), bso, h, show nI k * 40 + nI p = nI (40 * k + p) from by rw [show nI k * (40 : Int32) = nI (k * 40) from pk_mul k 40, nI_add, Nat.mul_comm]]
  have : l = 0 ∨ l = 1 ∨ l = 2 := by omega
  rcases this with rfl | rfl | rfl
  · rw [if_pos rfl, put_n (N := 160) rfl (by omega) (by omega)]; rfl
  · rw [if_neg (by decide), if_pos rfl, put_n (N := 160) rfl (by omega) (by omega)]; rfl
  · rw [if_neg (by decide), if_neg (by decide), put_n (N := 160) rfl (by omega) (by omega)]; rfl
theorem lay99 (σ : ZI) {q : Nat} {a b c s : Int32} (hq : q < 160) : f_X8_lay_99 a b c σ s (nI q) = some (1, va_up σ 78 (upd (σ 78) q s)) := by
  unfold f_X8_lay_99
  rw [inB_n hq (by omega), if_pos rfl, nI_clamp (by omega)]
  rfl
theorem u_layc {σ : ZI} (I : Inv σ) (a b c : Int32) : ∃ r σ1 σ2, f_X7_lay σ a b c = some (r, σ1) ∧ f_X8_lay σ1 a b c = some (r, σ2) ∧ Inv σ2 := by
  have iH : InvH σ := I.choose_spec.2.2.2.2.1
  unfold f_X7_lay f_X8_lay
  rw [isS7]
  rcases ix_cases a (n := 4) (by omega) with h | ⟨k, hk, rfl⟩
  · refine ⟨-1, σ, σ, by rw [if_pos h]; rfl, ?_, I⟩
    rw [in_at 0 3 0 3 rfl rfl, if_pos (show a < 0 ∨ 3 < a from hi_of (m := 3) (by omega) rfl h)]; rfl
  rw [if_neg (ix_no hk (by omega)), bso, if_neg (by decide)]
  have ek : f_X8_in (nI k).toInt64 0 3 = some 1 := by rw [in_at 0 3 0 3 rfl rfl, if_neg (show ¬ (nI k < 0 ∨ 3 < nI k) from in_hi (m := 3) hk rfl (by omega))]
  unfold f_X4_faultOfCell
  rw [at_n (N := 4) rfl hk (by omega), bso, ek]
  simp only [bso, inB_n hk (show k < 2 ^ 31 by omega), nI_clamp (show k < 2 ^ 31 by omega)]
  rcases iH.1 k hk with ⟨h1, h2⟩ | ⟨h1, l, N, hl, hN, h2, h3, h4, h5⟩
  · refine ⟨-11, σ, σ, ?_, ?_, I⟩
    · rw [h1]; rfl
    · rw [h2, if_neg (by decide), if_pos trivial, if_pos rfl]
  · rw [h1, if_neg (by decide)]
    rcases ix_cases b (n := N) (by omega) with h | ⟨p, hp, rfl⟩
    · refine ⟨-12, σ, σ, ?_, ?_, I⟩
      · by_cases hb : b < 0
        · rw [if_pos hb]; rfl
        · rw [if_neg hb, at_n (N := 4) rfl hk (by omega), bso, h4, if_neg]
          · rfl
          · rcases h with h | h
            · exact absurd h hb
            · exact Int32.not_lt.mpr h
      · rw [h3]
        rw [if_neg (by decide), if_neg (nI_nm4 (by omega)), if_pos trivial, if_pos trivial, h5, in_at 0 _ 0 (nI N - 1) rfl rfl]
        simp only [dec_lt (show N < 2 ^ 30 by omega), if_pos h, bso]
        rfl
    · obtain ⟨z, hz⟩ : ∃ z, z = (if l = 0 then c.toInt8.toInt32 else if l = 1 then c.toInt16.toInt32 else c) := ⟨_, rfl⟩
      refine ⟨1, va_up σ 58 (upd (σ 58) (40 * k + p) z), va_up (va_up σ 58 (upd (σ 58) (40 * k + p) z)) 78 (upd (σ 78) (40 * k + p) z), ?_, ?_, ?_⟩
      · rw [if_neg (nI_pos (by omega)), at_n (N := 4) rfl hk (by omega), bso, h4, if_pos (nI_lt hp (by omega)), bso, if_pos rfl, wr_n σ hk (by omega) hl h2, ← hz]
        rfl
      · have q1 : va_up σ 58 (upd (σ 58) (40 * k + p) z) 76 k = nI l := h3
        have q2 : va_up σ 58 (upd (σ 58) (40 * k + p) z) 77 k = nI N := h5
        rw [q1, q2, if_neg (by decide), if_neg (nI_nm4 (by omega)), if_pos trivial, if_pos trivial, in_at 0 _ 0 (nI N - 1) rfl rfl]
        simp only [dec_lt (show N < 2 ^ 30 by omega), if_neg (ix_no hp (show N < 2 ^ 31 by omega)), bso]
        rw [if_neg (by decide), if_pos trivial, if_pos trivial, show 40 * nI k + nI p = nI (40 * k + p) from by rw [show (40 : Int32) * nI k = nI (40 * k) from pk_mul 40 k, nI_add], sh24, sh16, lay99 _ (by omega), lay99 _ (by omega), lay99 _ (by omega)]
        have : l = 0 ∨ l = 1 ∨ l = 2 := by omega
        rcases this with rfl | rfl | rfl
        · rw [hz]; rfl
        · rw [hz]; rfl
        · rw [hz]; rfl
      · refine Inv_sht I (fun x i q r => ?_) ⟨fun k' hk' => ?_, fun i hi => ?_⟩
        · have n55 : ¬ ((55 ≤ x ∧ x ≤ 58) ∨ (76 ≤ x ∧ x ≤ 78)) := fun h => r (own_5 i h)
          simp only [va_up]
          repeat rw [if_neg (by omega)]
        · exact ShK_fr (fun c hc => by simp only [va_up]; repeat rw [if_neg (by omega)]) (iH.1 k' hk')
        · show upd (σ 78) (40 * k + p) z i = upd (σ 58) (40 * k + p) z i
          unfold upd
          rw [iH.2 i hi]
end
section
/-! read -/
def CPr (s0 : ZI) (T : Nat) (u : Nat → Nat) (σ : ZI) : Prop := (∀ c i, c ≠ 59 → σ c i = s0 c i) ∧ ∀ j, j < T → σ 59 j = nI (u j)
def RQ (s0 : ZI) (T : Nat) (u : Nat → Nat) (σ : ZI) : Prop := (∀ c i, ¬ (c = 61 ∧ 6 ≤ i ∧ i < 11) → σ c i = s0 c i) ∧ ∀ j, j < T → σ 61 (6 + j) = nI (u j)
theorem pst7 {σ : ZI} {T m v : Nat} {u : Nat → Nat} (hT : T ≤ 5) (h1 : σ 2 3 = nI T) (h2 : ∀ j, j < T → σ 59 j = nI (u j)) (hm : m < T) (hv : u m + v ≤ 99) : f_X7_postedTo σ 59 (nI m) (nI v) = some (nI (u m + v)) := by
  unfold f_X7_postedTo
  rw [if_pos (show (ar 59).1 = 1 from rfl), isT7, h1, if_neg (ix_no hm (by omega)), bso, if_neg (by decide), if_neg (nI_pos (by omega)), if_pos (show nI v ≤ 99 from nI_le (b := 99) (by omega) (by omega)), at_n (N := 5) rfl (by omega) (by omega), bso, h2 m hm, nI_add, if_pos (show nI (u m + v) ≤ 99 from nI_le (b := 99) (by omega) (by omega))]
theorem pst8 {σ : ZI} {T m v : Nat} {u : Nat → Nat} (hT : T ≤ 5) (h1 : σ 60 7 = nI T) (h2 : ∀ j, j < T → σ 61 (6 + j) = nI (u j)) (hm : m < T) (hv : u m + v ≤ 99) : f_X8_posts σ (nI m) (nI v) = some (nI (u m + v), va_up σ 61 (upd (σ 61) (6 + m) (nI (u m + v)))) := by
  unfold f_X8_posts
  rw [inM8 h1 (by omega), if_neg (ix_no hm (by omega)), bso, if_neg (by decide), in_at 0 99 0 99 rfl rfl, if_neg (show ¬ (nI v < 0 ∨ 99 < nI v) from rng' (lo := 0) (hi := 99) (by omega) (by omega) (by omega)), bso, if_neg (by decide), show (6 : Int32) + nI m = nI (6 + m) from nI_add 6 m, inB_n (by omega) (by omega), if_pos rfl, nI_clamp (by omega), h2 m hm, nI_add, if_pos (show nI (u m + v) ≤ 99 from nI_le (b := 99) (by omega) (by omega)), if_pos rfl, if_pos rfl, ltq, if_pos rfl]
  show some (upd (σ 61) (6 + m) (nI (u m + v)) (6 + m), _) = _
  rw [pk_us]
theorem pst {T : Nat} (hT : T ≤ 5) (u : Nat → Nat) (hu : ∀ j, j < T → u j ≤ 99) (a w : Int32) : (∃ m v, m < T ∧ u m + v ≤ 99 ∧ a = nI m ∧ w = nI v) ∨
    ((∀ σ : ZI, σ 2 3 = nI T → (∀ j, j < T → σ 59 j = nI (u j)) → ∃ r, f_X7_postedTo σ 59 a w = some r ∧ r < 0) ∧ (∀ σ : ZI, σ 60 7 = nI T → (∀ j, j < T → σ 61 (6 + j) = nI (u j)) → ∃ r, f_X8_posts σ a w = some (r, σ) ∧ r < 0)) := by
  rcases ix_cases a (n := T) (by omega) with h | ⟨m, hm, rfl⟩
  · refine .inr ⟨fun σ h1 _ => ⟨-1, ?_, by decide⟩, fun σ h1 _ => ⟨-1, ?_, by decide⟩⟩
    · unfold f_X7_postedTo
      rw [if_pos (show (ar 59).1 = 1 from rfl), isT7, h1, if_pos h]; rfl
    · unfold f_X8_posts
      rw [inM8 h1 (by omega), if_pos h]; rfl
  have hm' := ix_no hm (show T < 2 ^ 31 by omega)
  by_cases hw : w < nI 0 ∨ nI 99 < w
  · refine .inr ⟨fun σ h1 _ => ⟨-1, ?_, by decide⟩, fun σ h1 _ => ⟨-1, ?_, by decide⟩⟩
    · unfold f_X7_postedTo
      rw [if_pos (show (ar 59).1 = 1 from rfl), isT7, h1, if_neg hm', show (99 : Int32) = nI 99 from rfl, if2, if_pos hw]; rfl
    · unfold f_X8_posts
      rw [inM8 h1 (by omega), if_neg hm', in_at 0 99 0 99 rfl rfl, if_pos (show w < 0 ∨ 99 < w from hw)]; rfl
  obtain ⟨v, v1, v2, rfl⟩ := rng hw (by omega) (by omega)
  have := hu m hm
  by_cases hs : u m + v ≤ 99
  · exact .inl ⟨m, v, hm, hs, rfl, rfl⟩
  · have l1 : ¬ nI (u m + v) ≤ nI 99 := nI_ge (by omega) (by omega)
    refine .inr ⟨fun σ h1 h2 => ⟨-3, ?_, by decide⟩, fun σ h1 h2 => ⟨-3, ?_, by decide⟩⟩
    · unfold f_X7_postedTo
      rw [if_pos (show (ar 59).1 = 1 from rfl), isT7, h1, if_neg hm', show (99 : Int32) = nI 99 from rfl, if2, if_neg hw, bso, if_neg (by decide), at_n (N := 5) rfl (by omega) (by omega), bso, h2 m hm, nI_add, if_neg l1]
    · unfold f_X8_posts
      rw [inM8 h1 (by omega), if_neg hm', bso, if_neg (by decide), in_at 0 99 0 99 rfl rfl, if_neg (show ¬ (nI v < 0 ∨ 99 < nI v) from hw), bso, if_neg (by decide), show (6 : Int32) + nI m = nI (6 + m) from nI_add 6 m, inB_n (by omega) (by omega), if_pos rfl, nI_clamp (by omega), h2 m hm, nI_add, if_neg (show ¬ nI (u m + v) ≤ 99 from l1)]
theorem fc7 {σ : ZI} {k N : Nat} (hk : k < 4) (h1 : σ 55 k = 1) (h2 : σ 57 k = nI N) (x : Int32) : f_X4_faultOfCell σ (nI k) x = some (if x < 0 ∨ nI N ≤ x then 2 else 0) := by
  unfold f_X4_faultOfCell
  rw [at_n (N := 4) rfl hk (by omega), bso, h1, if_neg (by decide), at_n (N := 4) rfl hk (by omega), bso, h2]
  by_cases a : x < 0
  · rw [if_pos a, if_pos (.inl a)]
  · rw [if_neg a]
    by_cases b : x < nI N
    · rw [if_pos b, if_neg]
      rintro (q | q)
      · exact a q
      · exact Int32.not_lt.mpr q b
    · rw [if_neg b, if_pos (.inr (Int32.not_lt.mp b))]
theorem ti_add {x : Int32} {v : Nat} (hv : v < 2 ^ 20) : ((x + nI v).toInt = x.toInt + v ∧ x.toInt + v < 2 ^ 31) ∨ ((x + nI v).toInt < 0 ∧ 2 ^ 31 ≤ x.toInt + v) := by
  have h1 := Int32.toInt_lt x
  have h2 := Int32.le_toInt x
  rw [Int32.toInt_add, nI_toInt (by omega)]
  simp only [Int.bmod_def]
  omega
/-- the pair that begins at f + 2 i is there: where it lies -/
theorem fp7 {σ : ZI} {k N i : Nat} (hk : k < 4) (hN : N ≤ 40) (hi : i < 21) (h1 : σ 55 k = 1) (h2 : σ 57 k = nI N) (f : Int32) : (∃ p : Nat, p + 1 < N ∧ f.toInt + 2 * i = p ∧ f + nI (2 * i) = nI p ∧ f_X4_faultOfPair σ (nI k) (f + nI (2 * i)) = some 0) ∨ (¬ (0 ≤ f.toInt + 2 * i ∧ f.toInt + 2 * i + 1 < N) ∧ f_X4_faultOfPair σ (nI k) (f + nI (2 * i)) = some 2) := by
  have ht := ti_add (x := f) (v := 2 * i) (by omega)
  unfold f_X4_faultOfPair
  rw [fc7 hk h1 h2, bso]
  rcases ix_cases (f + nI (2 * i)) (n := N) (by omega) with h | ⟨p, hp, e⟩
  · right
    refine ⟨?_, by rw [if_pos h, if_neg (by decide)]⟩
    rcases h with h | h
    · rw [Int32.lt_iff_toInt_lt, show (0 : Int32).toInt = 0 from rfl] at h
      omega
    · rw [Int32.le_iff_toInt_le, nI_toInt (by omega)] at h
      omega
  · rw [e] at ht ⊢
    rw [nI_toInt (by omega)] at ht
    rw [if_neg (ix_no hp (by omega)), if_pos rfl, nI_1, fc7 hk h1 h2, bso]
    by_cases h : p + 1 < N
    · left
      refine ⟨p, h, by omega, rfl, by rw [if_neg (ix_no h (by omega))]⟩
    · right
      refine ⟨by omega, ?_⟩
      rw [if_pos (.inr (nI_le (by omega) (by omega)))]
theorem in8r {f : Int32} {v N : Nat} (hv : v < 2 ^ 20) (hN : N < 2 ^ 20) : f_X8_in (f.toInt64 + (nI v).toInt64) 0 ((nI N - 1).toInt64) = some (if 0 ≤ f.toInt + v ∧ f.toInt + v < N then 1 else 0) := by
  have h1 := Int32.toInt_lt f
  have h2 := Int32.le_toInt f
  have e : (f.toInt64 + (nI v).toInt64).toInt = f.toInt + v := by
    rw [Int64.toInt_add, Int32.toInt_toInt64, Int32.toInt_toInt64, nI_toInt (by omega)]
    simp only [Int.bmod_def]
    omega
  have e2 : ((nI N - 1).toInt64).toInt = (N : Int) - 1 := by
    rw [Int32.toInt_toInt64, show nI N - 1 = nI N - nI 1 from rfl, pk_sub_toInt (by omega) (by omega)]
    rfl
  unfold f_X8_in
  have a1 : (lg_cmp (f.toInt64 + (nI v).toInt64) 0 < 0) ↔ f.toInt + v < 0 := by rw [lg_cmp_lt, Int64.lt_iff_toInt_lt, e]; rfl
  have a2 : (0 < lg_cmp (f.toInt64 + (nI v).toInt64) ((nI N - 1).toInt64)) ↔ (N : Int) - 1 < f.toInt + v := by rw [lg_cmp_gt, Int64.lt_iff_toInt_lt, e, e2]
  simp only [a1, a2]
  by_cases b1 : f.toInt + v < 0
  · rw [if_pos b1, if_neg (by omega)]
  · rw [if_neg b1]
    by_cases b2 : (N : Int) - 1 < f.toInt + v
    · rw [if_pos b2, if_neg (by omega)]
    · rw [if_neg b2, if_pos (by omega)]
theorem cel_n {σ : ZI} {k p : Nat} (hk : k < 4) (hp : p < 40) : f_X4_cell σ (nI k) (nI p) = some (σ 58 (40 * k + p)) := by
  unfold f_X4_cell
  rw [show nI k * 40 + nI p = nI (40 * k + p) from by rw [show nI k * (40 : Int32) = nI (k * 40) from pk_mul k 40, nI_add, Nat.mul_comm], at_n (N := 160) rfl (by omega) (by omega)]
  rfl
theorem r125_n {a b f n s : Int32} {kk : ZI → Int32 → Int32 → Int32 → Option (Int32 × ZI)} {σ : ZI} {v6 : Int32} {v7 : Nat} (h : s = 0 → v7 % 2 = 0) (h7 : v7 < 2 ^ 20) : f_X8_read_125 a b f n kk σ v6 (nI v7) s = kk σ s v6 (nI (v7 + 1)) := by
  unfold f_X8_read_125 f_X8_read_190
  rw [nI_1]
  by_cases hs : s = 0
  · rw [if_pos hs, if_neg]
    rw [show (2 : Int32) = nI 2 from rfl, pk_rem (by omega) (by omega) (by omega), h hs]
    decide
  · rw [if_neg hs]
theorem r55_end {a b f : Int32} {n v7 fu : Nat} {σ : ZI} {v5 v6 : Int32} (hn : n ≤ 20) (h7 : v7 < 2 ^ 20) (h : 2 * n ≤ v7 ∨ v5 ≠ 0) : f_X8_read_55 a b f (nI n) (fu + 1) σ v5 v6 (nI v7) = f_X8_read_196 a b f (nI n) σ v5 v6 := by
  rw [f_X8_read_55, show (2 : Int32) * nI n = nI (2 * n) from pk_mul 2 n]
  by_cases h1 : 2 * n ≤ v7
  · rw [if_pos (nI_le h1 (by omega))]
  · rw [if_neg (nI_ge (by omega) (by omega)), if_neg (h.resolve_left h1)]
/-- one check of the reference, with the lane as told -/
theorem r55_s {k l N n v7 fu : Nat} {f : Int32} {σ : ZI} {v6 : Int32} (hk : k < 4) (hl : l < 3) (hN : N ≤ 40) (hn : n ≤ 20) (h7 : v7 < 2 * n) (h1 : σ 76 k = nI l) (h2 : σ 77 k = nI N) : f_X8_read_55 (nI k) (nI l) f (nI n) (fu + 1) σ 0 v6 (nI v7) = f_X8_read_125 (nI k) (nI l) f (nI n) (fun σ v5 v6 v7 => f_X8_read_55 (nI k) (nI l) f (nI n) fu σ v5 v6 v7) σ v6 (nI v7) (if 0 ≤ f.toInt + v7 ∧ f.toInt + v7 < N then 0 else 2) := by
  rw [f_X8_read_55, show (2 : Int32) * nI n = nI (2 * n) from pk_mul 2 n, if_neg (nI_ge (by omega) (by omega)), if_pos rfl, inB_n hk (by omega), if_pos rfl, nI_clamp (by omega), h1, if_neg (nI_nm4 (by omega)), if_pos rfl, if_pos rfl, if_pos rfl, h2, in8r (by omega) (by omega), bso]
  by_cases h : 0 ≤ f.toInt + v7 ∧ f.toInt + v7 < N
  · rw [if_pos h, if_pos h, if_neg (by decide)]
  · rw [if_neg h, if_neg h, if_pos rfl]
def G8 (s0 : ZI) (k l N T : Nat) (s8 : ZI) : Prop := s8 60 7 = nI T ∧ s8 76 k = nI l ∧ s8 77 k = nI N ∧ ∀ p, p < 160 → s8 78 p = s0 58 p
theorem rd_sim {k l N T n : Nat} {f : Int32} {s0 : ZI} (hk : k < 4) (hl : l < 3) (hN : N ≤ 40) (hT : T ≤ 5) (hn : n ≤ 20) (c1 : s0 2 3 = nI T) (c2 : s0 55 k = 1) (c3 : s0 57 k = nI N) : ∀ (e i : Nat) (u : Nat → Nat), i + e = n → (∀ j, j < T → u j ≤ 99) →
    (∃ c, (∀ fu σ, e < fu → CPr s0 T u σ → ∃ σ', f_X7_read_68 (nI k) (nI l) f (nI n) fu σ 0 (nI i) = some (-20 - nI c, σ') ∧ (∀ c i, c ≠ 59 → σ' c i = s0 c i)) ∧ (∀ s8 fu σ, G8 s0 k l N T s8 → 2 * e < fu → RQ s8 T u σ → ∃ σ', f_X8_read_55 (nI k) (nI l) f (nI n) fu σ 0 (nI i) (nI (2 * i)) = ((f_X8_copies σ' 54 0).bind fun q9 => some (-20 - nI c, q9)) ∧ (∀ c i, ¬ (c = 61 ∧ 6 ≤ i ∧ i < 11) → σ' c i = s8 c i))) ∨
    (∃ (c fl : Nat) (u' : Nat → Nat), (∀ j, j < T → u' j ≤ 99) ∧ (∀ fu σ, e < fu → CPr s0 T u σ → ∃ σ', f_X7_read_68 (nI k) (nI l) f (nI n) fu σ 0 (nI i) = f_X7_read_172 (nI k) (nI l) f (nI n) σ' (nI fl) (nI c) ∧ CPr s0 T u' σ') ∧ (∀ s8 fu σ, G8 s0 k l N T s8 → 2 * e < fu → RQ s8 T u σ → ∃ σ', f_X8_read_55 (nI k) (nI l) f (nI n) fu σ 0 (nI i) (nI (2 * i)) = f_X8_read_196 (nI k) (nI l) f (nI n) σ' (nI fl) (nI c) ∧ RQ s8 T u' σ')) := by
  intro e
  induction e with
  | zero =>
    intro i u hi hu
    obtain rfl : i = n := by omega
    refine .inr ⟨i, 0, u, hu, fun fu σ hf h => ⟨σ, ?_, h⟩, fun s8 fu σ hg hf h => ⟨σ, ?_, h⟩⟩
    · obtain ⟨fu, rfl⟩ : ∃ m, fu = m + 1 := ⟨fu - 1, by omega⟩
      rw [f_X7_read_68, if_pos (Int32.le_refl _)]
      rfl
    · obtain ⟨fu, rfl⟩ : ∃ m, fu = m + 1 := ⟨fu - 1, by omega⟩
      exact r55_end hn (by omega) (.inl (Nat.le_refl _))
  | succ e ih =>
    intro i u hi hu
    have cls : ∀ fu σ, CPr s0 T u σ → f_X7_read_68 (nI k) (nI l) f (nI n) (fu + 1) σ 0 (nI i) = ((f_X4_faultOfPair σ (nI k) (f + nI (2 * i))).bind fun q8 => if q8 = 0 then ((f_X4_cell σ (nI k) (f + nI (2 * i))).bind fun q9 => (f_X4_cell σ (nI k) (f + nI (2 * i) + 1)).bind fun q10 => (f_X7_postedTo σ 59 q9 q10).bind fun q11 => if 0 ≤ q11 then ((f_X7_put σ 59 q9 q11).bind fun q12 => f_X7_read_68 (nI k) (nI l) f (nI n) fu q12 q8 (nI (i + 1))) else some (-20 - nI i, σ)) else f_X7_read_172 (nI k) (nI l) f (nI n) σ q8 (nI i)) := by
      intro fu σ _
      rw [f_X7_read_68, if_neg (nI_ge (by omega) (by omega)), if_pos rfl, ltq, show (2 : Int32) * nI i = nI (2 * i) from pk_mul 2 i, nI_1]
    rcases fp7 (σ := s0) (i := i) hk hN (by omega) c2 c3 f with ⟨p, hp, ep, ef, -⟩ | ⟨hb, -⟩
    · have ec : ∀ σ, CPr s0 T u σ → f_X4_faultOfPair σ (nI k) (f + nI (2 * i)) = some 0 := fun σ h => by
        rcases fp7 (σ := σ) (i := i) hk hN (by omega) (by rw [h.1 _ _ (by omega)]; exact c2) (by rw [h.1 _ _ (by omega)]; exact c3) f with ⟨_, _, _, _, q⟩ | ⟨hb, -⟩
        · exact q
        · exact absurd ⟨by omega, by omega⟩ hb
      have x1 : f + nI (2 * i) + 1 = nI (p + 1) := by rw [ef, nI_1]
      have x7 : (40 : Int32) * nI k + f + nI (2 * i + 1) = nI (40 * k + p + 1) := by
        rw [nI_succ, ← Int32.add_assoc, Int32.add_assoc _ f, ef, show (40 : Int32) * nI k = nI (40 * k) from pk_mul 40 k, nI_add, nI_1]
      have rf : ∀ s8 fu σ, G8 s0 k l N T s8 → RQ s8 T u σ → f_X8_read_55 (nI k) (nI l) f (nI n) (fu + 1 + 1) σ 0 (nI i) (nI (2 * i)) = ((f_X8_posts σ (s0 58 (40 * k + p)) (s0 58 (40 * k + p + 1))).bind fun q8 => if 0 ≤ q8.1 then f_X8_read_55 (nI k) (nI l) f (nI n) fu q8.2 0 (nI (i + 1)) (nI (2 * (i + 1))) else (f_X8_copies q8.2 54 0).bind fun q9 => some (-20 - nI i, q9)) := by
        intro s8 fu σ ⟨g1, g2, g3, hd⟩ h
        have h76 : σ 76 k = nI l := by rw [h.1 _ _ (by omega)]; exact g2
        have h77 : σ 77 k = nI N := by rw [h.1 _ _ (by omega)]; exact g3
        rw [r55_s hk hl hN hn (by omega) h76 h77, if_pos (by omega), r125_n (fun _ => by omega) (by omega)]
        show f_X8_read_55 (nI k) (nI l) f (nI n) (fu + 1) σ 0 (nI i) (nI (2 * i + 1)) = _
        rw [r55_s hk hl hN hn (by omega) h76 h77, if_pos (by omega)]
        unfold f_X8_read_125 f_X8_read_190
        rw [if_pos rfl, if_pos (by rw [show (2 : Int32) = nI 2 from rfl, pk_rem (by omega) (by omega) (by omega), show (2 * i + 1) % 2 = 1 by omega]; rfl), ltq, x7, nI_pred, inB_n (by omega) (by omega), if_pos rfl, inB_n (by omega) (by omega), if_pos rfl, nI_clamp (by omega), nI_clamp (by omega), h.1 _ _ (by omega), h.1 _ _ (by omega), hd _ (by omega), hd _ (by omega), nI_1, nI_1]
        rfl
      rcases pst hT u hu (s0 58 (40 * k + p)) (s0 58 (40 * k + p + 1)) with ⟨m, v, hm, hv, e1, e2⟩ | ⟨b1, b2⟩
      · have hu' : ∀ j, j < T → (if j = m then u m + v else u j) ≤ 99 := fun j hj => by
          split
          · exact hv
          · exact hu j hj
        have nc : ∀ fu σ, CPr s0 T u σ → ∃ σ', CPr s0 T (fun j => if j = m then u m + v else u j) σ' ∧ f_X7_read_68 (nI k) (nI l) f (nI n) (fu + 1) σ 0 (nI i) = f_X7_read_68 (nI k) (nI l) f (nI n) fu σ' 0 (nI (i + 1)) := by
          intro fu σ h
          refine ⟨va_up σ 59 (upd (σ 59) m (nI (u m + v))), ⟨fun c j hc => ?_, fun j hj => ?_⟩, ?_⟩
          · rw [← h.1 c j hc]; simp only [va_up, if_neg hc]
          · show upd (σ 59) m (nI (u m + v)) j = nI (if j = m then u m + v else u j)
            by_cases q : j = m
            · subst q; rw [pk_us, if_pos rfl]
            · rw [pk_un q, if_neg q]; exact h.2 j hj
          · rw [cls fu σ h, ec σ h, bso, if_pos rfl, x1, ef, cel_n hk (by omega), bso, cel_n hk (by omega), bso, h.1 _ _ (by omega), h.1 _ _ (by omega), ← Nat.add_assoc, e1, e2, pst7 hT (by rw [h.1 _ _ (by omega)]; exact c1) h.2 hm hv, bso, if_pos (nI_pos' (by omega)), put_n (N := 5) rfl (by omega) (by omega), bso]
        have nr : ∀ s8 fu σ, G8 s0 k l N T s8 → RQ s8 T u σ → ∃ σ', RQ s8 T (fun j => if j = m then u m + v else u j) σ' ∧ f_X8_read_55 (nI k) (nI l) f (nI n) (fu + 1 + 1) σ 0 (nI i) (nI (2 * i)) = f_X8_read_55 (nI k) (nI l) f (nI n) fu σ' 0 (nI (i + 1)) (nI (2 * (i + 1))) := by
          intro s8 fu σ hg h
          refine ⟨va_up σ 61 (upd (σ 61) (6 + m) (nI (u m + v))), ⟨fun c j hc => ?_, fun j hj => ?_⟩, ?_⟩
          · rw [← h.1 c j hc]
            exact up_ne σ (by omega)
          · show upd (σ 61) (6 + m) (nI (u m + v)) (6 + j) = nI (if j = m then u m + v else u j)
            by_cases q : j = m
            · subst q; rw [pk_us, if_pos rfl]
            · rw [pk_un (by omega), if_neg q]; exact h.2 j hj
          · rw [rf s8 fu σ hg h, e1, e2, pst8 hT (by rw [h.1 _ _ (by omega)]; exact hg.1) h.2 hm hv, bso, if_pos (nI_pos' (by omega))]
        rcases ih (i + 1) (fun j => if j = m then u m + v else u j) (by omega) hu' with ⟨c, i1, i2⟩ | ⟨c, fl, u', i0, i1, i2⟩
        · refine .inl ⟨c, fun fu σ hf h => ?_, fun s8 fu σ hg hf h => ?_⟩
          · obtain ⟨fu, rfl⟩ : ∃ m, fu = m + 1 := ⟨fu - 1, by omega⟩
            obtain ⟨σ', h', e'⟩ := nc fu σ h
            rw [e']
            exact i1 fu σ' (by omega) h'
          · obtain ⟨fu, rfl⟩ : ∃ m, fu = m + 1 + 1 := ⟨fu - 2, by omega⟩
            obtain ⟨σ', h', e'⟩ := nr s8 fu σ hg h
            rw [e']
            exact i2 s8 fu σ' hg (by omega) h'
        · refine .inr ⟨c, fl, u', i0, fun fu σ hf h => ?_, fun s8 fu σ hg hf h => ?_⟩
          · obtain ⟨fu, rfl⟩ : ∃ m, fu = m + 1 := ⟨fu - 1, by omega⟩
            obtain ⟨σ', h', e'⟩ := nc fu σ h
            rw [e']
            exact i1 fu σ' (by omega) h'
          · obtain ⟨fu, rfl⟩ : ∃ m, fu = m + 1 + 1 := ⟨fu - 2, by omega⟩
            obtain ⟨σ', h', e'⟩ := nr s8 fu σ hg h
            rw [e']
            exact i2 s8 fu σ' hg (by omega) h'
      · refine .inl ⟨i, fun fu σ hf h => ⟨σ, ?_, h.1⟩, fun s8 fu σ hg hf h => ⟨σ, ?_, h.1⟩⟩
        · obtain ⟨fu, rfl⟩ : ∃ m, fu = m + 1 := ⟨fu - 1, by omega⟩
          obtain ⟨r, q1, q2⟩ := b1 σ (by rw [h.1 _ _ (by omega)]; exact c1) h.2
          rw [cls fu σ h, ec σ h, bso, if_pos rfl, x1, ef, cel_n hk (by omega), bso, cel_n hk (by omega), bso, h.1 _ _ (by omega), h.1 _ _ (by omega), ← Nat.add_assoc, q1, bso, if_neg (Int32.not_le.mpr q2)]
        · obtain ⟨fu, rfl⟩ : ∃ m, fu = m + 1 + 1 := ⟨fu - 2, by omega⟩
          obtain ⟨r, q1, q2⟩ := b2 σ (by rw [h.1 _ _ (by omega)]; exact hg.1) h.2
          rw [rf s8 fu σ hg h, q1, bso, if_neg (Int32.not_le.mpr q2)]
    · refine .inr ⟨i, 2, u, hu, fun fu σ hf h => ⟨σ, ?_, h⟩, fun s8 fu σ hg hf h => ⟨σ, ?_, h⟩⟩
      · obtain ⟨fu, rfl⟩ : ∃ m, fu = m + 1 := ⟨fu - 1, by omega⟩
        rw [cls fu σ h]
        rcases fp7 (σ := σ) (i := i) hk hN (by omega) (by rw [h.1 _ _ (by omega)]; exact c2) (by rw [h.1 _ _ (by omega)]; exact c3) f with ⟨_, _, _, _, q⟩ | ⟨-, q⟩
        · exact absurd ⟨by omega, by omega⟩ hb
        · rw [q, bso, if_neg (by decide)]
          rfl
      · obtain ⟨fu, rfl⟩ : ∃ m, fu = m + 1 + 1 + 1 := ⟨fu - 3, by omega⟩
        have h76 : σ 76 k = nI l := by rw [h.1 _ _ (by omega)]; exact hg.2.1
        have h77 : σ 77 k = nI N := by rw [h.1 _ _ (by omega)]; exact hg.2.2.1
        rw [r55_s hk hl hN hn (by omega) h76 h77]
        by_cases b1 : 0 ≤ f.toInt + (2 * i : Nat) ∧ f.toInt + (2 * i : Nat) < N
        · rw [if_pos b1, r125_n (fun _ => by omega) (by omega)]
          show f_X8_read_55 (nI k) (nI l) f (nI n) (fu + 1 + 1) σ 0 (nI i) (nI (2 * i + 1)) = _
          rw [r55_s hk hl hN hn (by omega) h76 h77, if_neg (by omega), r125_n (fun h => absurd h (by decide)) (by omega)]
          exact r55_end hn (by omega) (.inr (by decide))
        · rw [if_neg b1, r125_n (fun h => absurd h (by decide)) (by omega)]
          exact r55_end (fu := fu + 1) hn (by omega) (.inr (by decide))
end
section
/-! read, whole -/
theorem Inv_now6 {t u : NN} {σ σ' : ZI} (q : InvI t σ ∧ InvP σ ∧ InvS t σ ∧ InvH σ ∧ InvF σ ∧ InvK σ) (h : ∀ c i, own c i ≠ 0 → own c i ≠ 1 → own c i ≠ 6 → σ' c i = σ c i) (hs : SS t u) (hu : InvT u σ') (hf : InvF σ') : Inv σ' := by
  obtain ⟨q2, q3, q4, q5, q6, q7⟩ := q
  have ag : ∀ k, k ≠ 0 → k ≠ 1 → k ≠ 6 → Ag k σ σ' := fun k h0 h1 h6 c i e => h c i (by rw [e]; exact h0) (by rw [e]; exact h1) (by rw [e]; exact h6)
  exact ⟨u, hu, InvI_fr hs (ag 2 (by decide) (by decide) (by decide)) q2, InvP_fr (ag 3 (by decide) (by decide) (by decide)) q3, InvS_fr hs (ag 4 (by decide) (by decide) (by decide)) q4, InvH_fr (ag 5 (by decide) (by decide) (by decide)) q5, hf, InvK_fr (ag 7 (by decide) (by decide) (by decide)) q7⟩
def tlet (t : NN) (u : Nat → Nat) : NN := fun r i => if r = 6 then u i else t r i
theorem rd_fin {t : NN} {σ z : ZI} {u : Nat → Nat} {fl : Int32} (iT : InvT t σ) (iR : InvI t σ ∧ InvP σ ∧ InvS t σ ∧ InvH σ ∧ InvF σ ∧ InvK σ) (hu : ∀ i, i < t 0 3 → u i ≤ 99)
    (F1 : ∀ c i, c ≠ 8 → c ≠ 59 → ¬ (c = 0 ∧ i = 12) → ¬ (c = 60 ∧ i = 46) → c ≠ 61 → z c i = σ c i) (F2 : ∀ i, i < t 0 3 → z 8 i = nI (u i)) (F3 : ∀ i, i < 54 → ¬ (6 ≤ i ∧ i < 11) → z 61 i = σ 61 i) (F4 : ∀ i, i < t 0 3 → z 61 (6 + i) = nI (u i)) (F5 : z 0 12 = fl) (F6 : z 60 46 = fl) : Inv z := by
  obtain ⟨k, tv, rp, rs⟩ := iT
  have k1 := k.1
  refine Inv_now6 (u := tlet t u) iR (fun c i q r r6 => ?_) ⟨rfl, rfl, rfl, rfl, rfl, rfl, fun _ _ => ⟨rfl, rfl⟩, fun _ _ => rfl, fun _ _ => rfl⟩ ⟨?_, ?_, ?_, ?_⟩ ⟨?_, ?_⟩
  · by_cases c61 : c = 61
    · subst c61
      have h18 : ¬ i < 18 := fun h => r (own_p h)
      have h54 : i < 54 := by
        rcases Nat.lt_or_ge i 54 with h | h
        · exact h
        · refine absurd ?_ q
          show (if i < 18 then 1 else if i < 54 then 2 else 0) = 0
          rw [if_neg h18, if_neg (by omega)]
      exact F3 i h54 (by omega)
    · refine F1 c i (by rintro rfl; exact r rfl) (by rintro rfl; exact q rfl) (by rintro ⟨rfl, rfl⟩; exact r6 rfl) (by rintro ⟨rfl, rfl⟩; exact r6 rfl) c61
  · obtain ⟨a1, a2, a3, a4, a5, a6⟩ := k
    exact ⟨a1, a2, a3, a4, a5, fun i hi => ⟨hu i hi, (a6 i hi).2⟩⟩
  · obtain ⟨q1, q2, q3, q4⟩ := tv
    have f : ∀ r i, r ≤ 8 → r ≠ 7 → 1 ≤ r → z (1 + r) i = σ (1 + r) i := fun r i h1 h2 h3 => F1 _ _ (by omega) (by omega) (by omega) (by omega) (by omega)
    refine ⟨fun i hi => (f 1 i (by omega) (by omega) (by omega)).trans (q1 i hi), fun i hi => ⟨(f 2 i (by omega) (by omega) (by omega)).trans (q2 i hi).1, (f 3 i (by omega) (by omega) (by omega)).trans (q2 i hi).2.1, (f 4 i (by omega) (by omega) (by omega)).trans (q2 i hi).2.2⟩, fun i hi => ⟨(f 5 i (by omega) (by omega) (by omega)).trans (q3 i hi).1, (f 6 i (by omega) (by omega) (by omega)).trans (q3 i hi).2⟩, fun i hi => ⟨F2 i hi, (f 8 i (by omega) (by omega) (by omega)).trans (q4 i hi).2⟩⟩
  · obtain ⟨q1, q2, q3, q4, q5, q6, q7, q8, q9, q10⟩ := rp
    refine ⟨fun i hi => ?_, fun i hi => ?_, fun i hi => ?_, ?_, ?_, ?_, ?_, ?_, ?_, ?_⟩
    · rw [F3 _ (by have : i < t 0 1 := hi; omega) (by have : i < t 0 1 := hi; omega)]; exact q1 i hi
    · rw [F3 _ (by have : i < t 0 2 := hi; omega) (by have : i < t 0 2 := hi; omega)]; exact q2 i hi
    · rw [Nat.zero_add]; exact F4 i hi
    all_goals (rw [F3 _ (by omega) (by omega)]; assumption)
  · obtain ⟨q1, q2, q3, q4, q5, q6, q7, q8, q9⟩ := rs
    have f : ∀ c i, 62 ≤ c → c ≤ 65 → z c i = σ c i := fun c i h1 h2 => F1 _ _ (by omega) (by omega) (by omega) (by omega) (by omega)
    have g : ∀ i, i ≠ 46 → z 60 i = σ 60 i := fun i h => F1 _ _ (by omega) (by omega) (by omega) (by omega) (by omega)
    exact ⟨(g _ (by omega)).trans q1, (g _ (by omega)).trans q2, (g _ (by omega)).trans q3, (g _ (by omega)).trans q4, (f _ _ (by omega) (by omega)).trans q5, (f _ _ (by omega) (by omega)).trans q6, fun i hi => ⟨(f _ _ (by omega) (by omega)).trans (q7 i hi).1, (f _ _ (by omega) (by omega)).trans (q7 i hi).2⟩, fun i hi => (f _ _ (by omega) (by omega)).trans (q8 i hi), fun i hi => (f _ _ (by omega) (by omega)).trans (q9 i hi)⟩
  · rw [F1 60 24 (by omega) (by omega) (by omega) (by omega) (by omega), F1 0 6 (by omega) (by omega) (by omega) (by omega) (by omega)]
    exact iR.2.2.2.2.1.1
  · rw [F5, F6]
theorem r172_n (σ : ZI) (a b c d v5 v6 : Int32) : f_X7_read_172 a b c d σ v5 v6 = some (v6, va_up (va_up σ 8 (va_cpy (σ 59) (σ 8) 0 0 5)) 0 (upd (σ 0) 12 v5)) := rfl
theorem r196_n (σ : ZI) (a b c d v5 v6 : Int32) : f_X8_read_196 a b c d σ v5 v6 = some (v6, va_up σ 60 (upd (σ 60) 46 v5)) := rfl
theorem r46_n (σ : ZI) (a b c d s : Int32) : f_X7_read_46 a b c d σ s = f_X7_read_68 a b c d 3000 (va_up σ 59 (va_cpy (σ 8) (σ 59) 0 0 5)) s 0 := by
  unfold f_X7_read_46
  rw [if_pos (by decide), ltq]
/-- both stores behind the loops, all read -/
theorem rd_ok {t : NN} {σ : ZI} {f : Int32} {k l n c fl : Nat} {u : Nat → Nat} (iT : InvT t σ) (iR : InvI t σ ∧ InvP σ ∧ InvS t σ ∧ InvH σ ∧ InvF σ ∧ InvK σ) (hu : ∀ i, i < t 0 3 → u i ≤ 99) {X : Option (Int32 × ZI)} {Y : ZI → Option (Int32 × ZI)} (hX : ∃ σ', X = f_X7_read_172 (nI k) (nI l) f (nI n) σ' (nI fl) (nI c) ∧ CPr (va_up σ 59 (va_cpy (σ 8) (σ 59) 0 0 5)) (t 0 3) u σ')
    (hY : ∀ s1 : ZI, (∀ c i, c ≠ 59 → c ≠ 8 → c ≠ 0 → s1 c i = σ c i) → ∃ σ', Y s1 = f_X8_read_196 (nI k) (nI l) f (nI n) σ' (nI fl) (nI c) ∧ RQ (va_up s1 61 (cpf 0 54 0 (s1 61))) (t 0 3) u σ') : ∃ r σ1 σ2, X = some (r, σ1) ∧ Y σ1 = some (r, σ2) ∧ Inv σ2 := by
  obtain ⟨x, ex, cx⟩ := hX
  rw [r172_n] at ex
  have k1 := iT.1.1
  obtain ⟨s1, hs1⟩ : ∃ s1, s1 = va_up (va_up x 8 (va_cpy (x 59) (x 8) 0 0 5)) 0 (upd (x 0) 12 (nI fl)) := ⟨_, rfl⟩
  have s1c : ∀ c i, c ≠ 59 → c ≠ 8 → ¬ (c = 0 ∧ i = 12) → s1 c i = σ c i := by
    intro c i h1 h2 h3
    have e : s1 c i = x c i := by
      rw [hs1]
      by_cases h0 : c = 0
      · subst h0
        show upd (x 0) 12 (nI fl) i = _
        rw [pk_un (by omega)]
      · simp only [va_up, if_neg h0, if_neg h2]
    rw [e, cx.1 c i h1]
    simp only [va_up, if_neg h1]
  obtain ⟨y, ey, cy⟩ := hY s1 (fun c i h1 h2 h3 => s1c c i h1 h2 (fun h => h3 h.1))
  rw [r196_n] at ey
  refine ⟨nI c, s1, _, by rw [ex, hs1], ey, ?_⟩
  have yc : ∀ c i, c ≠ 61 → y c i = s1 c i := fun c i h => by
    rw [cy.1 c i (by omega)]
    simp only [va_up, if_neg h]
  have y6 : ∀ i, i < 54 → ¬ (6 ≤ i ∧ i < 11) → y 61 i = σ 61 i := fun i h1 h2 => by
    rw [cy.1 61 i (by omega)]
    show cpf 0 54 0 (s1 61) i = _
    rw [cpf_out (by omega), s1c _ _ (by omega) (by omega) (by omega)]
  refine rd_fin (u := u) (fl := nI fl) iT iR hu (fun c i a1 a2 a3 a4 a5 => ?_) (fun i hi => ?_) (fun i hi h2 => ?_) (fun i hi => ?_) ?_ ?_
  · have : va_up y 60 (upd (y 60) 46 (nI fl)) c i = y c i := up_ne y (by omega)
    rw [this, yc c i a5, s1c c i a2 a1 a3]
  · show y 8 i = _
    rw [yc 8 i (by omega), hs1]
    show va_cpy (x 59) (x 8) 0 0 5 i = _
    rw [sb_cpy0 (by omega)]
    exact cx.2 i hi
  · show y 61 i = _
    exact y6 i hi h2
  · show y 61 (6 + i) = _
    exact cy.2 i hi
  · show y 0 12 = _
    rw [yc 0 12 (by omega), hs1]
    rfl
  · show upd (y 60) 46 (nI fl) 46 = _
    rw [pk_us]
theorem rd_no {t : NN} {σ : ZI} {c : Nat} (iT : InvT t σ) (iR : InvI t σ ∧ InvP σ ∧ InvS t σ ∧ InvH σ ∧ InvF σ ∧ InvK σ) {X : Option (Int32 × ZI)} {Y : ZI → Option (Int32 × ZI)} (hX : ∃ σ', X = some (-20 - nI c, σ') ∧ (∀ c i, c ≠ 59 → σ' c i = σ c i))
    (hY : ∀ s1 : ZI, (∀ c i, c ≠ 59 → s1 c i = σ c i) → ∃ σ', Y s1 = ((f_X8_copies σ' 54 0).bind fun q9 => some (-20 - nI c, q9)) ∧ (∀ c i, ¬ (c = 61 ∧ 6 ≤ i ∧ i < 11) → σ' c i = (va_up s1 61 (cpf 0 54 0 (s1 61))) c i)) : ∃ r σ1 σ2, X = some (r, σ1) ∧ Y σ1 = some (r, σ2) ∧ Inv σ2 := by
  obtain ⟨x, ex, cx⟩ := hX
  obtain ⟨y, ey, cy⟩ := hY x cx
  rw [show f_X8_copies y 54 0 = _ from cop_n (a := 54) (b := 0) (by omega) (by omega) (by omega) y, bso] at ey
  refine ⟨_, x, _, ex, ey, Inv_sg (σ := σ) (fun c i q _ => ?_) ⟨t, iT, iR⟩⟩
  by_cases c61 : c = 61
  · subst c61
    show cpf 54 0 0 (y 61) i = _
    have e1 : ∀ i, x 61 i = σ 61 i := fun i => cx 61 i (by omega)
    by_cases hi : i < 18
    · have e2 : cpf 54 0 0 (y 61) (0 + i) = y 61 (54 + i) := cpf_in hi
      rw [Nat.zero_add] at e2
      rw [e2, cy 61 (54 + i) (by omega)]
      show cpf 0 54 0 (x 61) (54 + i) = _
      rw [cpf_in hi, Nat.zero_add, e1]
    · rw [cpf_out (by omega), cy 61 i (by omega)]
      have h54 : i < 54 := by
        rcases Nat.lt_or_ge i 54 with h | h
        · exact h
        · refine absurd ?_ q
          show (if i < 18 then 1 else if i < 54 then 2 else 0) = 0
          rw [if_neg hi, if_neg (by omega)]
      show cpf 0 54 0 (x 61) i = _
      rw [cpf_out (by omega), e1]
  · show va_up y 61 _ c i = _
    simp only [va_up, if_neg c61]
    rw [cy c i (by omega)]
    simp only [va_up, if_neg c61]
    exact cx c i (by rintro rfl; exact q rfl)
theorem r68_end {a b f : Int32} {n fl fu : Nat} {σ : ZI} (hn : n ≤ 20) (hf : fl < 4) (h : n = 0 ∨ fl ≠ 0) : f_X7_read_68 a b f (nI n) (fu + 1) σ (nI fl) 0 = f_X7_read_172 a b f (nI n) σ (nI fl) (nI 0) := by
  rw [f_X7_read_68]
  by_cases h0 : n = 0
  · subst h0
    rw [if_pos (by decide)]; rfl
  · rw [if_neg (nI_nle (by omega) (by omega)), if_neg (nI_ne0 (by omega) (by omega))]
    rfl
/-- the reference where the lane is another, or nothing is there -/
theorem r55_x {k l n fl fu : Nat} {f : Int32} {σ : ZI} (hk : k < 4) (hn : n ≤ 20) (hf : fl < 4) (hz : n = 0 → fl = 0) (h : n ≠ 0 → (fl = 1 ∧ σ 76 k = -4) ∨ (fl = 3 ∧ σ 76 k ≠ -4 ∧ σ 76 k ≠ nI l)) : f_X8_read_55 (nI k) (nI l) f (nI n) (fu + 1 + 1) σ 0 0 0 = f_X8_read_196 (nI k) (nI l) f (nI n) σ (nI fl) (nI 0) := by
  by_cases h0 : n = 0
  · subst h0
    rw [hz rfl]
    exact r55_end (n := 0) (v7 := 0) (fu := fu + 1) (by omega) (by omega) (.inl (Nat.le_refl _))
  · have e : f_X8_read_55 (nI k) (nI l) f (nI n) (fu + 1 + 1) σ 0 0 0 = f_X8_read_125 (nI k) (nI l) f (nI n) (fun σ v5 v6 v7 => f_X8_read_55 (nI k) (nI l) f (nI n) (fu + 1) σ v5 v6 v7) σ 0 (nI 0) (nI fl) := by
      rw [f_X8_read_55, show (2 : Int32) * nI n = nI (2 * n) from pk_mul 2 n, if_neg (nI_nle (by omega) (by omega)), if_pos rfl, inB_n hk (by omega), if_pos rfl, nI_clamp (by omega)]
      rcases h h0 with ⟨rfl, h1⟩ | ⟨rfl, h1, h2⟩
      · rw [if_pos h1]; rfl
      · rw [if_neg h1, if_pos rfl, if_neg h2]; rfl
    rw [e, r125_n (fun _ => by omega) (by omega)]
    have : fl ≠ 0 := by rcases h h0 with h | h <;> omega
    exact r55_end (n := n) (v7 := 1) (fu := fu) hn (by omega) (.inr (nI_ne0 (by omega) (by omega)))
theorem u_read {σ : ZI} (I : Inv σ) (a b f w : Int32) : ∃ r σ1 σ2, f_X7_read σ a b f w = some (r, σ1) ∧ f_X8_read σ1 a b f w = some (r, σ2) ∧ Inv σ2 := by
  obtain ⟨t, iT, iR⟩ := id I
  have iH : InvH σ := iR.2.2.2.1
  have k1 := iT.1.1
  unfold f_X7_read f_X8_read
  rw [isS7]
  rcases ix_cases a (n := 4) (by omega) with h | ⟨k, hk, rfl⟩
  · refine ⟨-1, σ, σ, by rw [if_pos h]; rfl, ?_, I⟩
    rw [in_at 0 3 0 3 rfl rfl, if_pos (show a < 0 ∨ 3 < a from hi_of (m := 3) (by omega) rfl h)]; rfl
  rw [if_neg (ix_no hk (by omega)), isL7]
  have ek : f_X8_in (nI k).toInt64 0 3 = some 1 := by rw [in_at 0 3 0 3 rfl rfl, if_neg (show ¬ (nI k < 0 ∨ 3 < nI k) from in_hi (m := 3) hk rfl (by omega))]
  rw [ek]
  rcases ix_cases b (n := 3) (by omega) with h | ⟨l, hl, rfl⟩
  · refine ⟨-1, σ, σ, by rw [if_pos h]; rfl, ?_, I⟩
    rw [in_at 0 2 0 2 rfl rfl, if_pos (show b < 0 ∨ 2 < b from hi_of (m := 2) (by omega) rfl h)]; rfl
  have el : f_X8_in (nI l).toInt64 0 2 = some 1 := by rw [in_at 0 2 0 2 rfl rfl, if_neg (show ¬ (nI l < 0 ∨ 2 < nI l) from in_hi (m := 2) hl rfl (by omega))]
  rw [if_neg (ix_no hl (by omega)), el]
  simp only [bso]
  rw [if_neg (by decide), if_neg (by decide), show (20 : Int32) = nI 20 from rfl, if2]
  by_cases hw : w < nI 0 ∨ nI 20 < w
  · refine ⟨-1, σ, σ, by rw [if_pos hw], ?_, I⟩
    rw [if_neg (by decide), if_neg (by decide), in_at 0 20 0 20 rfl rfl, if_pos (show w < 0 ∨ 20 < w from hw)]; rfl
  obtain ⟨n, n1, n2, rfl⟩ := rng hw (by omega) (by omega)
  rw [if_neg hw]
  have eY : ∀ s1 : ZI, (if (1 : Int32) = 0 then some ((-1 : Int32), s1) else if (1 : Int32) = 0 then some ((-1 : Int32), s1) else (f_X8_in (nI n).toInt64 0 20).bind fun q3 => if q3 = 0 then some ((-1 : Int32), s1) else (f_X8_copies s1 0 54).bind fun q4 => f_X8_read_55 (nI k) (nI l) f (nI n) 3000 q4 0 0 0) = f_X8_read_55 (nI k) (nI l) f (nI n) 3000 (va_up s1 61 (cpf 0 54 0 (s1 61))) 0 0 0 := by
    intro s1
    rw [if_neg (by decide), if_neg (by decide), in_at 0 20 0 20 rfl rfl, if_neg (show ¬ (nI n < 0 ∨ 20 < nI n) from hw), bso, if_neg (by decide), show f_X8_copies s1 0 54 = _ from cop_n (a := 0) (b := 54) (by omega) (by omega) (by omega) s1, bso]
  simp only [eY]
  have eX : ∀ fl : Nat, n ≠ 0 → f_X4_faultOfLane σ (nI k) (nI l) = some (nI fl) → (if nI n = 0 then f_X7_read_46 (nI k) (nI l) f (nI n) σ 0 else (f_X4_faultOfLane σ (nI k) (nI l)).bind fun q3 => f_X7_read_46 (nI k) (nI l) f (nI n) σ q3) = f_X7_read_68 (nI k) (nI l) f (nI n) 3000 (va_up σ 59 (va_cpy (σ 8) (σ 59) 0 0 5)) (nI fl) 0 := by
    intro fl h0 h
    rw [if_neg (nI_ne0 (by omega) (by omega)), h, bso, r46_n]
  have eX0 : n = 0 → (if nI n = 0 then f_X7_read_46 (nI k) (nI l) f (nI n) σ 0 else (f_X4_faultOfLane σ (nI k) (nI l)).bind fun q3 => f_X7_read_46 (nI k) (nI l) f (nI n) σ q3) = f_X7_read_68 (nI k) (nI l) f (nI n) 3000 (va_up σ 59 (va_cpy (σ 8) (σ 59) 0 0 5)) (nI 0) 0 := by
    rintro rfl
    rw [if_pos (by decide), r46_n]
    rfl
  have c0 : CPr (va_up σ 59 (va_cpy (σ 8) (σ 59) 0 0 5)) (t 0 3) (t 6) (va_up σ 59 (va_cpy (σ 8) (σ 59) 0 0 5)) := ⟨fun _ _ _ => rfl, fun j hj => by
    show va_cpy (σ 8) (σ 59) 0 0 5 j = _
    rw [sb_cpy0 (by omega)]
    exact (iT.2.1.2.2.2 j hj).1⟩
  have q0 : ∀ s1 : ZI, (∀ i, s1 61 i = σ 61 i) → RQ (va_up s1 61 (cpf 0 54 0 (s1 61))) (t 0 3) (t 6) (va_up s1 61 (cpf 0 54 0 (s1 61))) := fun s1 h => ⟨fun _ _ _ => rfl, fun j hj => by
    show cpf 0 54 0 (s1 61) (6 + j) = _
    rw [cpf_out (by omega), h]
    have := iT.2.2.1.2.2.1 j hj
    rw [Nat.zero_add] at this
    exact this⟩
  have hu0 : ∀ i, i < t 0 3 → t 6 i ≤ 99 := fun i hi => (iT.1.2.2.2.2.2 i hi).1
  have other : ∀ fl : Nat, fl < 4 → (n = 0 → fl = 0) → (n ≠ 0 → f_X4_faultOfLane σ (nI k) (nI l) = some (nI fl)) → (n ≠ 0 → (fl = 1 ∧ σ 76 k = -4) ∨ (fl = 3 ∧ σ 76 k ≠ -4 ∧ σ 76 k ≠ nI l)) → ∃ r σ1 σ2, (if nI n = 0 then f_X7_read_46 (nI k) (nI l) f (nI n) σ 0 else (f_X4_faultOfLane σ (nI k) (nI l)).bind fun q3 => f_X7_read_46 (nI k) (nI l) f (nI n) σ q3) = some (r, σ1) ∧ f_X8_read_55 (nI k) (nI l) f (nI n) 3000 (va_up σ1 61 (cpf 0 54 0 (σ1 61))) 0 0 0 = some (r, σ2) ∧ Inv σ2 := by
    intro fl h4 h0 hx hy
    refine rd_ok (Y := fun σ1 => f_X8_read_55 (nI k) (nI l) f (nI n) 3000 (va_up σ1 61 (cpf 0 54 0 (σ1 61))) 0 0 0) (k := k) (l := l) (f := f) (n := n) (c := 0) (fl := fl) (u := t 6) iT iR hu0 ⟨_, ?_, c0⟩ (fun s1 hs1 => ⟨_, ?_, q0 s1 (fun i => hs1 61 i (by omega) (by omega) (by omega))⟩)
    · by_cases e : n = 0
      · rw [eX0 e, h0 e]
        exact r68_end (fu := 2999) n2 (by omega) (.inl e)
      · rw [eX fl e (hx e)]
        refine r68_end (fu := 2999) n2 (by omega) (.inr ?_)
        rcases hy e with h | h <;> omega
    · have e76 : (va_up s1 61 (cpf 0 54 0 (s1 61))) 76 k = σ 76 k := hs1 76 k (by omega) (by omega) (by omega)
      exact r55_x (fu := 2998) hk n2 h4 h0 (fun e => by rw [e76]; exact hy e)
  rcases iH.1 k hk with ⟨h1, h2⟩ | ⟨h1, l', N, hl', hN, h2, h3, h4, h5⟩
  · refine other (if n = 0 then 0 else 1) (by split <;> omega) (fun e => if_pos e) (fun e => ?_) (fun e => .inl ⟨if_neg e, h2⟩)
    rw [if_neg e]
    unfold f_X4_faultOfLane
    rw [at_n (N := 4) rfl hk (by omega), bso, h1]; rfl
  · have fo : f_X4_faultOfLane σ (nI k) (nI l) = some (if l' = l then 0 else 3) := by
      unfold f_X4_faultOfLane
      rw [at_n (N := 4) rfl hk (by omega), bso, h1, if_neg (by decide), at_n (N := 4) rfl hk (by omega), bso, h2]
      by_cases e : l' = l
      · rw [if_pos (by rw [e]), if_pos e]
      · rw [if_neg (fun q => e (nI_inj (by omega) (by omega) q)), if_neg e]
    by_cases e : l' = l
    · subst e
      have xx : (if nI n = 0 then f_X7_read_46 (nI k) (nI l') f (nI n) σ 0 else (f_X4_faultOfLane σ (nI k) (nI l')).bind fun q3 => f_X7_read_46 (nI k) (nI l') f (nI n) σ q3) = f_X7_read_68 (nI k) (nI l') f (nI n) 3000 (va_up σ 59 (va_cpy (σ 8) (σ 59) 0 0 5)) (nI 0) (nI 0) := by
        by_cases e : n = 0
        · rw [eX0 e]; rfl
        · rw [eX 0 e (by rw [fo, if_pos rfl]; rfl)]; rfl
      have g8 : ∀ s1 : ZI, (∀ c i, c ≠ 59 → c ≠ 8 → c ≠ 0 → s1 c i = σ c i) → G8 (va_up σ 59 (va_cpy (σ 8) (σ 59) 0 0 5)) k l' N (t 0 3) (va_up s1 61 (cpf 0 54 0 (s1 61))) := fun s1 hs1 => ⟨(hs1 60 7 (by omega) (by omega) (by omega)).trans iT.2.2.2.2.2.2.1, (hs1 76 k (by omega) (by omega) (by omega)).trans h3, (hs1 77 k (by omega) (by omega) (by omega)).trans h5, fun p hp => (hs1 78 p (by omega) (by omega) (by omega)).trans (iH.2 p hp)⟩
      rw [xx]
      rcases rd_sim (f := f) (s0 := va_up σ 59 (va_cpy (σ 8) (σ 59) 0 0 5)) hk hl hN (show t 0 3 ≤ 5 by omega) n2 (iT.2.1.1 3 (by omega)) h1 h4 n 0 (t 6) (by omega) hu0 with ⟨c, i1, i2⟩ | ⟨c, fl, u, i0, i1, i2⟩
      · obtain ⟨x, ex, cx⟩ := i1 3000 _ (by omega) c0
        refine rd_no (Y := fun σ1 => f_X8_read_55 (nI k) (nI l') f (nI n) 3000 (va_up σ1 61 (cpf 0 54 0 (σ1 61))) 0 0 0) (c := c) iT iR ⟨x, ex, fun c i h => (cx c i h).trans (by simp only [va_up, if_neg h])⟩ (fun s1 hs1 => ?_)
        exact i2 _ 3000 _ (g8 s1 fun c i h _ _ => hs1 c i h) (by omega) (q0 s1 (fun i => hs1 61 i (by omega)))
      · obtain ⟨x, ex, cx⟩ := i1 3000 _ (by omega) c0
        refine rd_ok (Y := fun σ1 => f_X8_read_55 (nI k) (nI l') f (nI n) 3000 (va_up σ1 61 (cpf 0 54 0 (σ1 61))) 0 0 0) (k := k) (l := l') (f := f) (n := n) (c := c) (fl := fl) (u := u) iT iR i0 ⟨x, ex, cx⟩ (fun s1 hs1 => ?_)
        exact i2 _ 3000 _ (g8 s1 hs1) (by omega) (q0 s1 (fun i => hs1 61 i (by omega) (by omega) (by omega)))
    · refine other (if n = 0 then 0 else 3) (by split <;> omega) (fun e => if_pos e) (fun e' => ?_) (fun e' => .inr ⟨if_neg e', by rw [h3]; exact nI_nm4 (by omega), by rw [h3]; exact fun q => e (nI_inj (by omega) (by omega) q)⟩)
      rw [fo, if_neg e, if_neg e']; rfl
end
section
/-! bits; letters -/
theorem sm32 : ∀ i, i < 32 → ((nI i &&& 31).toBitVec.smod 32).toNat = i := by decide +kernel
theorem bt {i s : Nat} (hi : i < 32) (hs : s < 2 ^ 31) : ((nI s >>> (nI i &&& 31)) &&& (1 : Int32)) = nI (s / 2 ^ i % 2) := by
  rw [pk_shrN hs _ i (sm32 i hi), pk_andN (k := 1) (Nat.lt_of_le_of_lt (Nat.div_le_self _ _) (by omega)) (by decide)]
theorem bt1 {i s : Nat} (hi : i < 32) (hs : s < 2 ^ 31) : (((nI s >>> (nI i &&& 31)) &&& (1 : Int32)) = 1) ↔ s.testBit i = true := by
  rw [bt hi hs, Nat.testBit_eq_decide_div_mod_eq]
  have : s / 2 ^ i % 2 < 2 := Nat.mod_lt _ (by omega)
  rw [show (1 : Int32) = nI 1 from rfl, nI_eq (by omega) (by omega)]
  simp
theorem sbl {i : Nat} (hi : i < 31) : ((1 : Int32) <<< (nI i &&& 31)) = nI (2 ^ i) := by
  have h : 2 ^ i < 2 ^ 31 := Nat.pow_lt_pow_right (by omega) hi
  rw [show (1 : Int32) = nI 1 from rfl, pk_shlN _ i (sm32 i (by omega)) (by omega), Nat.one_mul]
def sN (f : Nat → Nat) : Nat → Nat
  | 0 => 0
  | n + 1 => sN f n + f n
theorem sN_le {f : Nat → Nat} {b : Nat} : ∀ {n : Nat}, (∀ i, i < n → f i ≤ b) → sN f n ≤ n * b
  | 0, _ => by simp [sN]
  | n + 1, h => by
    have h1 := sN_le (n := n) fun i hi => h i (by omega)
    have h2 := h n (by omega)
    have e : (n + 1) * b = n * b + b := Nat.succ_mul n b
    simp only [sN]
    omega
theorem sN_le' {f : Nat → Nat} {b m n : Nat} (h : ∀ i, i < n → f i ≤ b) (hn : n ≤ m) : sN f n ≤ m * b := Nat.le_trans (sN_le h) (Nat.mul_le_mul_right b hn)
/-- the sum of all letters -/
theorem all7 {σ : ZI} {T : Nat} {u : Nat → Nat} (hT : T ≤ 5) (h1 : σ 2 3 = nI T) (h2 : ∀ i, i < T → σ 8 i = nI (u i)) : ∀ (d i fu : Nat), i + d = T → d < fu → f_X6_allLetters_4 σ 1 fu (nI (sN u i)) (nI i) = some (nI (sN u T)) := by
  intro d
  induction d with
  | zero =>
    intro i fu h3 h4
    obtain ⟨fu, rfl⟩ : ∃ m, fu = m + 1 := ⟨fu - 1, by omega⟩
    obtain rfl : i = T := by omega
    rw [f_X6_allLetters_4, v1_3, bso, h1, if_pos (Int32.le_refl _)]
  | succ d ih =>
    intro i fu h3 h4
    obtain ⟨fu, rfl⟩ : ∃ m, fu = m + 1 := ⟨fu - 1, by omega⟩
    rw [f_X6_allLetters_4, v1_3, bso, h1, if_neg (nI_ge (by omega) (by omega)), at_n (r := 1 + 7) (N := 5) rfl (by omega) (by omega), bso, show σ (1 + 7) i = _ from h2 i (by omega), nI_add, nI_1]
    exact ih (i + 1) fu (by omega) (by omega)
theorem all8 {σ : ZI} {T : Nat} {u : Nat → Nat} {a : Int32} (hT : T ≤ 5) (h1 : σ 60 7 = nI T) (h2 : ∀ i, i < T → σ 61 (6 + i) = nI (u i)) : ∀ (d i fu : Nat), i + d = T → d < fu → f_X8_count_4 σ a fu (nI (sN u i)) (nI i) = f_X8_count_4 σ a 1 (nI (sN u T)) (nI T) := by
  intro d
  induction d with
  | zero =>
    intro i fu h3 h4
    obtain ⟨fu, rfl⟩ : ∃ m, fu = m + 1 := ⟨fu - 1, by omega⟩
    obtain rfl : i = T := by omega
    rw [f_X8_count_4, f_X8_count_4, h1, if_pos (Int32.le_refl _), if_pos (Int32.le_refl _)]
  | succ d ih =>
    intro i fu h3 h4
    obtain ⟨fu, rfl⟩ : ∃ m, fu = m + 1 := ⟨fu - 1, by omega⟩
    rw [f_X8_count_4, h1, if_neg (nI_ge (by omega) (by omega)), show (6 : Int32) + nI i = nI (6 + i) from nI_add 6 i, inB_n (by omega) (by omega), if_pos rfl, nI_clamp (by omega), h2 i (by omega), nI_add, nI_1, ltq]
    exact ih (i + 1) fu (by omega) (by omega)
/-- how many bits -/
def bs (s k : Nat) : Nat := sN (fun i => s / 2 ^ i % 2) k
theorem bs_le (s k : Nat) : bs s k ≤ k := by
  have := sN_le (f := fun i => s / 2 ^ i % 2) (b := 1) (n := k) fun i _ => by have : s / 2 ^ i % 2 < 2 := Nat.mod_lt _ (by omega); omega
  unfold bs
  omega
theorem bs8_l {s : Nat} (hs : s < 2 ^ 31) : ∀ (d i fu : Nat), i + d = 10 → d < fu → f_X8_bitsOf_4 (nI s) fu (nI (bs s i)) (nI i) = some (nI (bs s 10)) := by
  intro d
  induction d with
  | zero =>
    intro i fu h3 h4
    obtain ⟨fu, rfl⟩ : ∃ m, fu = m + 1 := ⟨fu - 1, by omega⟩
    obtain rfl : i = 10 := by omega
    rw [f_X8_bitsOf_4, if_pos (by decide)]
  | succ d ih =>
    intro i fu h3 h4
    obtain ⟨fu, rfl⟩ : ∃ m, fu = m + 1 := ⟨fu - 1, by omega⟩
    rw [f_X8_bitsOf_4, if_neg (show ¬ (10 : Int32) ≤ nI i from nI_ge (b := 10) (by omega) (by omega)), bt (by omega) hs, nI_add, nI_1, ltq]
    exact ih (i + 1) fu (by omega) (by omega)
theorem bs8 {s : Nat} (hs : s < 2 ^ 31) : f_X8_bitsOf (nI s) = some (nI (bs s 10)) := bs8_l hs 10 0 3000 (by omega) (by omega)
theorem bs7 : ∀ s, s < 1024 → f_J6_bitCount_0f7a4 (nI s) = some (nI (bs s 10)) := by decide +kernel
theorem q_count {σ : ZI} (I : Inv σ) (a : Int32) : ∃ r, f_X7_count σ a = some r ∧ f_X8_count σ a = some r := by
  obtain ⟨t, ⟨kk, tv, rp, rs⟩, ⟨x1, x2, l1, l2, e0, e1, e2, m1, m2⟩, iP, iS, iH, iF, iK⟩ := I
  have k1 := kk.1
  have e7 : σ 2 3 = nI (t 0 3) := tv.1 3 (by omega)
  have e8 : σ 60 7 = nI (t 0 3) := rs.2.2.2.1
  have R : f_X8_count σ a = f_X8_count_4 σ a 1 (nI (sN (t 6) (t 0 3))) (nI (t 0 3)) := all8 (by omega) e8 (fun i hi => by have := rp.2.2.1 i hi; rw [Nat.zero_add] at this; exact this) (t 0 3) 0 3000 (by omega) (by omega)
  rw [R, f_X8_count_4, e8, if_pos (Int32.le_refl _)]
  unfold f_X7_count
  by_cases h0 : a = 0
  · subst h0
    obtain ⟨n, j, c, s1, s2, s3, s4⟩ := iS
    exact ⟨nI n, by rw [if_pos rfl, s2], by rw [if_pos rfl, s3]⟩
  rw [if_neg h0, if_neg h0]
  by_cases h1 : a = 1
  · subst h1
    refine ⟨nI (x1 + x2), ?_, ?_⟩
    · rw [if_pos rfl, e0]
      have c1 : x1 = 0 ∨ x1 = 1 := by omega
      have c2 : x2 = 0 ∨ x2 = 1 := by omega
      rcases c1 with rfl | rfl <;> rcases c2 with rfl | rfl <;> rfl
    · rw [if_pos rfl, e1]
      unfold f_X8_count_87
      rw [e2]
      have c1 : x1 = 0 ∨ x1 = 1 := by omega
      have c2 : x2 = 0 ∨ x2 = 1 := by omega
      rcases c1 with rfl | rfl <;> rcases c2 with rfl | rfl <;> rfl
  rw [if_neg h1, if_neg h1]
  by_cases h2 : a = 2
  · subst h2
    obtain ⟨n, b, n1, t1, t2, t3⟩ := iP
    exact ⟨nI n, by rw [if_pos rfl, t1], by rw [if_pos rfl, t2]⟩
  rw [if_neg h2, if_neg h2]
  by_cases h3 : a = 3
  · subst h3
    rw [if_pos rfl, if_pos rfl]
    unfold f_X4_cellsOf
    rw [show (0 : Int32) = nI 0 from rfl, at_n (N := 4) rfl (by omega) (by omega), bso]
    rcases iH.1 0 (by omega) with ⟨p1, p2⟩ | ⟨p1, l, N, hl, hN, p2, p3, p4, p5⟩
    · refine ⟨-4, ?_, ?_⟩
      · rw [p1]; rfl
      · rw [p2]; rfl
    · refine ⟨nI N, ?_, ?_⟩
      · rw [p1, if_pos rfl, at_n (N := 4) rfl (by omega) (by omega), p4]; rfl
      · rw [p3, if_neg (nI_nm4 (by omega)), p5]
  rw [if_neg h3, if_neg h3]
  by_cases h4 : a = 4
  · subst h4
    refine ⟨nI (sN (t 6) (t 0 3)), ?_, by rw [if_pos rfl]⟩
    rw [if_pos rfl]
    unfold f_X6_allLetters
    rw [if_pos (by decide), show f_X6_allLetters_4 σ 1 3000 0 0 = _ from all7 (by omega) e7 (fun i hi => (tv.2.2.2 i hi).1) (t 0 3) 0 3000 (by omega) (by omega), bso]
  rw [if_neg h4, if_neg h4]
  by_cases h5 : a = 5
  · subst h5
    have hS : t 0 4 < 1024 := Nat.lt_of_lt_of_le k1.2.2.2.2.2.1 (Nat.pow_le_pow_right (n := 2) (by omega) k1.2.1)
    refine ⟨nI (bs (t 0 4) 10), ?_, ?_⟩
    · rw [if_pos rfl, v1_4, bso, show σ 2 4 = _ from tv.1 4 (by omega), bs7 _ hS, bso]
    · rw [if_pos rfl, show σ 61 11 = _ from rp.2.2.2.1, bs8 (by omega), bso]
  · exact ⟨-1, by rw [if_neg h5], by rw [if_neg h5]⟩
/-- minutes of a set by so many hands; what a set of towns is worth -/
def mn (u : Nat → Nat) (x h : Nat) (T : Nat) : Nat := sN (fun i => if x.testBit i then (u i + h - 1) / h else 0) T
def lw (u w : Nat → Nat) (x : Nat) (T : Nat) : Nat := sN (fun i => if x.testBit i then u i * w i else 0) T
theorem mn_le {u : Nat → Nat} {x h T : Nat} (hu : ∀ i, i < T → u i ≤ 99) (h1 : 1 ≤ h) (hT : T ≤ 5) : mn u x h T ≤ 495 := by
  refine sN_le' (b := 99) (m := 5) (fun i hi => ?_) hT
  have := hu i hi
  split
  · refine Nat.div_le_of_le_mul ?_
    have : u i ≤ h * u i := Nat.le_mul_of_pos_left _ h1
    have : h * u i ≤ h * 99 := Nat.mul_le_mul_left _ (hu i hi)
    have : u i + h ≤ h * u i + h ∧ 1 ≤ h := ⟨by omega, h1⟩
    rcases Nat.eq_zero_or_pos (u i) with e | e
    · rw [e]; omega
    · have e3 : h * u i = u i + (h - 1) * u i := by
        obtain ⟨g, rfl⟩ : ∃ g, h = g + 1 := ⟨h - 1, by omega⟩
        rw [Nat.succ_mul]; simp; omega
      have e4 : h - 1 ≤ (h - 1) * u i := Nat.le_mul_of_pos_right _ e
      omega
  · omega
theorem lw_le {u w : Nat → Nat} {x T : Nat} (hu : ∀ i, i < T → u i ≤ 99 ∧ w i ≤ 9) (hT : T ≤ 5) : lw u w x T ≤ 4455 := by
  refine sN_le' (b := 891) (m := 5) (fun i hi => ?_) hT
  split
  · exact Nat.mul_le_mul (hu i hi).1 (hu i hi).2
  · omega
theorem mstep {u h : Nat} (hu : u ≤ 99) (h1 : 1 ≤ h) (h9 : h ≤ 9) : ((nI u + nI h) - (1 : Int32)) / nI h = nI ((u + h - 1) / h) := by
  rw [nI_add, show (1 : Int32) = nI 1 from rfl, pk_sub (by omega), pk_div (by omega) (by omega) (by omega)]
theorem mn7 {σ : ZI} {T h x : Nat} {u : Nat → Nat} (hT : T ≤ 5) (hx : x < 32) (g1 : 1 ≤ h) (g9 : h ≤ 9) (h1 : σ 2 3 = nI T) (h2 : ∀ i, i < T → u i ≤ 99 ∧ σ 8 i = nI (u i)) : ∀ (d i fu : Nat), i + d = T → d < fu → f_X6_minutesOf_12 σ 1 (nI x) (nI h) fu (nI (mn u x h i)) (nI i) = some (nI (mn u x h T)) := by
  intro d
  induction d with
  | zero =>
    intro i fu h3 h4
    obtain ⟨fu, rfl⟩ : ∃ m, fu = m + 1 := ⟨fu - 1, by omega⟩
    obtain rfl : i = T := by omega
    rw [f_X6_minutesOf_12, v1_3, bso, h1, if_pos (Int32.le_refl _)]
  | succ d ih =>
    intro i fu h3 h4
    obtain ⟨fu, rfl⟩ : ∃ m, fu = m + 1 := ⟨fu - 1, by omega⟩
    have e : mn u x h (i + 1) = mn u x h i + if x.testBit i then (u i + h - 1) / h else 0 := rfl
    rw [f_X6_minutesOf_12, v1_3, bso, h1, if_neg (nI_ge (by omega) (by omega))]
    unfold f_X6_minutesOf_50
    by_cases b : x.testBit i = true
    · rw [if_pos ((bt1 (by omega) (by omega)).mpr b), at_n (r := 1 + 7) (N := 5) rfl (by omega) (by omega), bso, show σ (1 + 7) i = _ from (h2 i (by omega)).2, if_neg (nI_ne0 (by omega) (by omega)), mstep (h2 i (by omega)).1 g1 g9, nI_add, nI_1, ltq, ← ih (i + 1) fu (by omega) (by omega), e, if_pos b]
    · rw [if_neg (fun q => b ((bt1 (by omega) (by omega)).mp q)), nI_1, ← ih (i + 1) fu (by omega) (by omega), e, if_neg b]
      rfl
theorem mi7 {σ : ZI} {T h x : Nat} {u : Nat → Nat} (hT : T ≤ 5) (hx : x < 32) (g1 : 1 ≤ h) (g9 : h ≤ 9) (h1 : σ 2 3 = nI T) (h2 : ∀ i, i < T → u i ≤ 99 ∧ σ 8 i = nI (u i)) : f_X6_minutesOf σ 1 (nI x) (nI h) = some (nI (mn u x h T)) := by
  unfold f_X6_minutesOf
  rw [if_pos (by decide), if_pos (show 1 ≤ nI h from nI_le (a := 1) g1 (by omega))]
  exact mn7 hT hx g1 g9 h1 h2 T 0 3000 (by omega) (by omega)
theorem mn8 {σ : ZI} {T h x : Nat} {u : Nat → Nat} (hT : T ≤ 5) (hx : x < 32) (g1 : 1 ≤ h) (g9 : h ≤ 9) (h1 : σ 60 7 = nI T) (h2 : ∀ i, i < T → u i ≤ 99 ∧ σ 61 (6 + i) = nI (u i)) : ∀ (d i fu : Nat), i + d = T → d < fu → f_X8_minutesBy_5 σ (nI x) (nI h) fu (nI (mn u x h i)) (nI i) = some (nI (mn u x h T)) := by
  intro d
  induction d with
  | zero =>
    intro i fu h3 h4
    obtain ⟨fu, rfl⟩ : ∃ m, fu = m + 1 := ⟨fu - 1, by omega⟩
    obtain rfl : i = T := by omega
    rw [f_X8_minutesBy_5, h1, if_pos (Int32.le_refl _)]
  | succ d ih =>
    intro i fu h3 h4
    obtain ⟨fu, rfl⟩ : ∃ m, fu = m + 1 := ⟨fu - 1, by omega⟩
    have e : mn u x h (i + 1) = mn u x h i + if x.testBit i then (u i + h - 1) / h else 0 := rfl
    rw [f_X8_minutesBy_5, h1, if_neg (nI_ge (by omega) (by omega))]
    unfold f_X8_minutesBy_45
    by_cases b : x.testBit i = true
    · rw [if_pos ((bt1 (by omega) (by omega)).mpr b), show (6 : Int32) + nI i = nI (6 + i) from nI_add 6 i, inB_n (by omega) (by omega), if_pos rfl, nI_clamp (by omega), (h2 i (by omega)).2, if_neg (nI_ne0 (by omega) (by omega)), mstep (h2 i (by omega)).1 g1 g9, nI_add, nI_1, ← ih (i + 1) fu (by omega) (by omega), e, if_pos b]
    · rw [if_neg (fun q => b ((bt1 (by omega) (by omega)).mp q)), nI_1, Int32.add_zero, ← ih (i + 1) fu (by omega) (by omega), e, if_neg b]
      rfl
theorem mi8 {σ : ZI} {T h x : Nat} {u : Nat → Nat} (hT : T ≤ 5) (hx : x < 32) (g1 : 1 ≤ h) (g9 : h ≤ 9) (h1 : σ 60 7 = nI T) (h2 : ∀ i, i < T → u i ≤ 99 ∧ σ 61 (6 + i) = nI (u i)) : f_X8_minutesBy σ (nI x) (nI h) = some (nI (mn u x h T)) := mn8 hT hx g1 g9 h1 h2 T 0 3000 (by omega) (by omega)
theorem p2T {T : Nat} (hT : T ≤ 5) : 1 ≤ 2 ^ T ∧ 2 ^ T ≤ 32 := ⟨Nat.one_le_two_pow, (Nat.pow_le_pow_right (by omega) hT : 2 ^ T ≤ 2 ^ 5)⟩
/-- what both sides have of the towns -/
theorem towns {t : NN} {σ : ZI} (q : InvT t σ) : t 0 3 ≤ 5 ∧ σ 2 3 = nI (t 0 3) ∧ σ 60 7 = nI (t 0 3) ∧ (∀ i, i < t 0 3 → t 6 i ≤ 99 ∧ σ 8 i = nI (t 6 i)) ∧ (∀ i, i < t 0 3 → t 6 i ≤ 99 ∧ σ 61 (6 + i) = nI (t 6 i)) ∧ (∀ i, i < t 0 3 → t 6 i ≤ 99 ∧ t 7 i ≤ 9) ∧ (∀ i, i < t 0 3 → σ 9 i = nI (t 7 i) ∧ σ 64 i = nI (t 7 i)) ∧ σ 2 12 = nI (t 0 12) ∧ σ 61 17 + 3 = nI (t 0 12) ∧ 1 ≤ t 0 12 ∧ t 0 12 ≤ 9 := by
  obtain ⟨kk, tv, rp, rs⟩ := q
  have k1 := kk.1
  have k6 := kk.2.2.2.2.2
  refine ⟨by omega, tv.1 3 (by omega), rs.2.2.2.1, fun i hi => ⟨(k6 i hi).1, (tv.2.2.2 i hi).1⟩, fun i hi => ⟨(k6 i hi).1, ?_⟩, k6, fun i hi => ⟨(tv.2.2.2 i hi).2, rs.2.2.2.2.2.2.2.2 i hi⟩, tv.1 12 (by omega), ?_, by omega, by omega⟩
  · have := rp.2.2.1 i hi
    rw [Nat.zero_add] at this
    exact this
  · rw [show σ 61 17 = _ from rp.2.2.2.2.2.2.2.2.2]; exact Int32.sub_add_cancel _ _
theorem q_minutes {σ : ZI} (I : Inv σ) (a : Int32) : ∃ r, f_X7_minutes σ a = some r ∧ f_X8_minutes σ a = some r := by
  obtain ⟨t, iT, -⟩ := I
  obtain ⟨b1, b2, b3, b4, b5, b6, b7, b8, b9, b10, b11⟩ := towns iT
  have p := p2T b1
  unfold f_X7_minutes f_X8_minutes f_X7_areTowns f_X8_handMany
  rw [v1_3, b2, b3, bso, sbl (by omega), in_at 0 _ 0 (nI (2 ^ t 0 3) - 1) rfl rfl]
  simp only [dec_lt (show 2 ^ t 0 3 < 2 ^ 30 by omega)]
  rcases ix_cases a (n := 2 ^ t 0 3) (by omega) with h | ⟨x, hx, rfl⟩
  · refine ⟨-1, ?_, by rw [if_pos h]; rfl⟩
    by_cases h0 : a < 0
    · rw [if_pos h0]; rfl
    · rw [if_neg h0, if_pos (h.resolve_left h0)]; rfl
  · refine ⟨nI (mn (t 6) x (t 0 12) (t 0 3)), ?_, ?_⟩
    · rw [if_neg (nI_pos (by omega)), if_neg (nI_ge hx (by omega)), bso, if_neg (by decide), v1_12, bso, b8, mi7 b1 (by omega) b10 b11 b2 b4]; rfl
    · rw [if_neg (ix_no hx (by omega)), bso, if_neg (by decide), bso, b9, mi8 b1 (by omega) b10 b11 b3 b5]; rfl
theorem q_hands {σ : ZI} (I : Inv σ) (a : Int32) : ∃ r, f_X7_hands σ a = some r ∧ f_X8_hands σ a = some r := by
  obtain ⟨t, iT, -⟩ := I
  obtain ⟨b1, b2, b3, b4, b5, b6, b7, b8, b9, b10, b11⟩ := towns iT
  have p := p2T b1
  unfold f_X7_hands f_X8_hands
  rw [show (99 : Int32) = nI 99 from rfl, if2, in_at 0 99 0 99 rfl rfl]
  by_cases hw : a < nI 0 ∨ nI 99 < a
  · exact ⟨-1, by rw [if_pos hw], by rw [if_pos (show a < 0 ∨ 99 < a from hw)]; rfl⟩
  obtain ⟨v, v1, v2, rfl⟩ := rng hw (by omega) (by omega)
  rw [if_neg hw, if_neg (show ¬ (nI v < 0 ∨ 99 < nI v) from hw), v1_3, bso, bso, if_neg (by decide), b2, sbl (by omega), show nI (2 ^ t 0 3) - (1 : Int32) = nI (2 ^ t 0 3 - 1) from pk_sub (a := 2 ^ t 0 3) (b := 1) (by omega), ltq, if_pos (by decide), ltq]
  have L : ∀ (d h f7 f8 : Nat), h + d = 10 → 1 ≤ h → d < f7 → d < f8 → ∃ r, f_X7_hands_32 σ (nI v) f7 (nI (2 ^ t 0 3 - 1)) (nI h) = some r ∧ f_X8_hands_16 σ (nI v) f8 (nI h) = some r := by
    intro d
    induction d with
    | zero =>
      intro h f7 f8 h1 h2 h3 h4
      obtain ⟨f7, rfl⟩ : ∃ m, f7 = m + 1 := ⟨f7 - 1, by omega⟩
      obtain ⟨f8, rfl⟩ : ∃ m, f8 = m + 1 := ⟨f8 - 1, by omega⟩
      obtain rfl : h = 10 := by omega
      exact ⟨-4, rfl, rfl⟩
    | succ d ih =>
      intro h f7 f8 h1 h2 h3 h4
      obtain ⟨f7, rfl⟩ : ∃ m, f7 = m + 1 := ⟨f7 - 1, by omega⟩
      obtain ⟨f8, rfl⟩ : ∃ m, f8 = m + 1 := ⟨f8 - 1, by omega⟩
      have e9 : ¬ (9 : Int32) < nI h := nI_nlt (b := h) (a := 9) (by omega) (by omega)
      rw [f_X7_hands_32, f_X8_hands_16, if_pos (by decide), if_neg e9, if_neg (show ¬ ((stL 102).getD (12 : Int32).toNatClampNeg 0) < nI h from e9), mi7 b1 (by omega) h2 (by omega) b2 b4, bso, b3, sbl (by omega), show nI (2 ^ t 0 3) - (1 : Int32) = nI (2 ^ t 0 3 - 1) from pk_sub (a := 2 ^ t 0 3) (b := 1) (by omega), mi8 b1 (by omega) h2 (by omega) b3 b5, bso, nI_1]
      by_cases hm : nI v < nI (mn (t 6) (2 ^ t 0 3 - 1) h (t 0 3))
      · rw [if_pos hm, if_pos hm]
        exact ih (h + 1) f7 f8 (by omega) (by omega) (by omega) (by omega)
      · exact ⟨nI h, by rw [if_neg hm], by rw [if_neg hm]⟩
  exact L 9 1 3000 3000 (by omega) (by omega) (by omega) (by omega)
theorem lw7 {σ : ZI} {T x : Nat} {u w : Nat → Nat} (hT : T ≤ 5) (hx : x < 32) (h1 : σ 2 3 = nI T) (h2 : ∀ i, i < T → σ 8 i = nI (u i) ∧ σ 9 i = nI (w i)) : ∀ (d i fu : Nat), i + d = T → d < fu → f_X6_lettersWorth_4 σ 1 (nI x) fu (nI (lw u w x i)) (nI i) = some (nI (lw u w x T)) := by
  intro d
  induction d with
  | zero =>
    intro i fu h3 h4
    obtain ⟨fu, rfl⟩ : ∃ m, fu = m + 1 := ⟨fu - 1, by omega⟩
    obtain rfl : i = T := by omega
    rw [f_X6_lettersWorth_4, v1_3, bso, h1, if_pos (Int32.le_refl _)]
  | succ d ih =>
    intro i fu h3 h4
    obtain ⟨fu, rfl⟩ : ∃ m, fu = m + 1 := ⟨fu - 1, by omega⟩
    have e : lw u w x (i + 1) = lw u w x i + if x.testBit i then u i * w i else 0 := rfl
    rw [f_X6_lettersWorth_4, v1_3, bso, h1, if_neg (nI_ge (by omega) (by omega))]
    unfold f_X6_lettersWorth_42
    by_cases b : x.testBit i = true
    · rw [if_pos ((bt1 (by omega) (by omega)).mpr b), at_n (r := 1 + 7) (N := 5) rfl (by omega) (by omega), bso, at_n (r := 1 + 8) (N := 5) rfl (by omega) (by omega), bso, show σ (1 + 7) i = _ from (h2 i (by omega)).1, show σ (1 + 8) i = _ from (h2 i (by omega)).2, pk_mul, nI_add, nI_1, ← ih (i + 1) fu (by omega) (by omega), e, if_pos b]
    · rw [if_neg (fun q => b ((bt1 (by omega) (by omega)).mp q)), nI_1, ← ih (i + 1) fu (by omega) (by omega), e, if_neg b]
      rfl
theorem lw8 {σ : ZI} {T x : Nat} {u w : Nat → Nat} {a b : Int32} {k : Int32 → Int32 → Int32 → Option Int32} {v3 v4 : Int32} (hT : T ≤ 5) (hx : x < 32) (h1 : σ 60 7 = nI T) (h2 : ∀ i, i < T → σ 61 (6 + i) = nI (u i) ∧ σ 64 i = nI (w i)) : ∀ (d i fu : Nat), i + d = T → d < fu → f_X8_sort_49 σ a b k fu v3 v4 (nI x) (nI (lw u w x i)) (nI i) = f_X8_sort_49 σ a b k 1 v3 v4 (nI x) (nI (lw u w x T)) (nI T) := by
  intro d
  induction d with
  | zero =>
    intro i fu h3 h4
    obtain ⟨fu, rfl⟩ : ∃ m, fu = m + 1 := ⟨fu - 1, by omega⟩
    obtain rfl : i = T := by omega
    rw [f_X8_sort_49, f_X8_sort_49, h1, if_pos (Int32.le_refl _), if_pos (Int32.le_refl _)]
  | succ d ih =>
    intro i fu h3 h4
    obtain ⟨fu, rfl⟩ : ∃ m, fu = m + 1 := ⟨fu - 1, by omega⟩
    have e : lw u w x (i + 1) = lw u w x i + if x.testBit i then u i * w i else 0 := rfl
    rw [f_X8_sort_49, h1, if_neg (nI_ge (by omega) (by omega))]
    unfold f_X8_sort_93
    by_cases b : x.testBit i = true
    · rw [if_pos ((bt1 (by omega) (by omega)).mpr b), show (6 : Int32) + nI i = nI (6 + i) from nI_add 6 i, inB_n (by omega) (by omega), if_pos rfl, inB_n (by omega) (by omega), if_pos rfl, nI_clamp (by omega), nI_clamp (by omega), (h2 i (by omega)).1, (h2 i (by omega)).2, pk_mul, nI_add, nI_1, ← ih (i + 1) fu (by omega) (by omega), e, if_pos b]
    · rw [if_neg (fun q => b ((bt1 (by omega) (by omega)).mp q)), nI_1, Int32.add_zero, ← ih (i + 1) fu (by omega) (by omega), e, if_neg b]
      rfl
theorem q_sort {σ : ZI} (I : Inv σ) (a w : Int32) : ∃ r, f_X7_sort σ a w = some r ∧ f_X8_sort σ a w = some r := by
  obtain ⟨t, iT, -⟩ := I
  obtain ⟨b1, b2, b3, b4, b5, b6, b7, b8, b9, b10, b11⟩ := towns iT
  have p := p2T b1
  unfold f_X7_sort f_X8_sort
  have e99 : ∀ x y : Option Int32, (if a < 0 then x else if 99 < a then x else y) = if a < nI 0 ∨ nI 99 < a then x else y := by
    intro x y
    by_cases h0 : a < 0
    · rw [if_pos h0, if_pos (.inl h0)]
    · rw [if_neg h0]
      by_cases h1 : 99 < a
      · rw [if_pos h1, if_pos (.inr h1)]
      · rw [if_neg h1, if_neg (fun q => q.elim h0 h1)]
  rw [e99, in_at 0 99 0 99 rfl rfl, isP7, in_at 0 1 0 1 rfl rfl]
  by_cases hw : a < nI 0 ∨ nI 99 < a
  · exact ⟨-1, by rw [if_pos hw], by rw [if_pos (show a < 0 ∨ 99 < a from hw)]; rfl⟩
  obtain ⟨v, v1, v2, rfl⟩ := rng hw (by omega) (by omega)
  rw [if_neg hw, if_neg (show ¬ (nI v < 0 ∨ 99 < nI v) from hw)]
  by_cases h2 : w < 0 ∨ 1 < w
  · exact ⟨-1, by rw [if_pos h2]; rfl, by rw [if_pos h2]; rfl⟩
  rw [if_neg h2, bso, bso, bso, if_neg (by decide), if_neg (by decide), if_neg (by decide), v1_3, bso, b2, sbl (by omega), ltq]
  have L := fun i => lw_le (x := i) b6 b1
  have Mn := fun i => mn_le (x := i) (fun j hj => (b6 j hj).1) b10 b1
  have C : ∀ (fu i bS bs : Nat), i < 2 ^ t 0 3 → bs ≤ 4455 → f_X7_sort_39 σ (nI v) w (fu + 1) (nI bS) (nI bs) (nI (2 ^ t 0 3)) (nI i) = if bs < lw (t 6) (t 7) i (t 0 3) ∧ mn (t 6) i (t 0 12) (t 0 3) ≤ v then f_X7_sort_39 σ (nI v) w fu (nI i) (nI (lw (t 6) (t 7) i (t 0 3))) (nI (2 ^ t 0 3)) (nI (i + 1)) else f_X7_sort_39 σ (nI v) w fu (nI bS) (nI bs) (nI (2 ^ t 0 3)) (nI (i + 1)) := by
    intro fu i bS bs hi hb
    have l := L i
    have m := Mn i
    rw [f_X7_sort_39, if_neg (nI_ge hi (by omega))]
    unfold f_X6_lettersWorth f_X7_sort_93
    rw [if_pos (by decide), show f_X6_lettersWorth_4 σ 1 (nI i) 3000 0 0 = _ from lw7 b1 (by omega) b2 (fun j hj => ⟨(b4 j hj).2, (b7 j hj).1⟩) (t 0 3) 0 3000 (by omega) (by omega), bso, nI_1]
    by_cases q : bs < lw (t 6) (t 7) i (t 0 3)
    · rw [if_neg (nI_ge q (by omega)), v1_12, bso, b8, mi7 b1 (by omega) b10 b11 b2 b4, bso]
      by_cases q2 : mn (t 6) i (t 0 12) (t 0 3) ≤ v
      · rw [if_neg (nI_nlt q2 (by omega)), if_pos ⟨q, q2⟩]
      · rw [if_pos (nI_lt (by omega) (by omega)), if_neg (fun z => q2 z.2)]
    · rw [if_pos (nI_le (by omega) (by omega)), if_neg (fun z => q z.1)]
  have C8 : ∀ (fu i bS : Nat) (M : Int32), i < 2 ^ t 0 3 → f_X8_sort_32 σ (nI v) w (fu + 1) M (nI bS) (nI i) = if M < nI (lw (t 6) (t 7) i (t 0 3)) ∧ mn (t 6) i (t 0 12) (t 0 3) ≤ v then f_X8_sort_32 σ (nI v) w fu (nI (lw (t 6) (t 7) i (t 0 3))) (nI i) (nI (i + 1)) else f_X8_sort_32 σ (nI v) w fu M (nI bS) (nI (i + 1)) := by
    intro fu i bS M hi
    have l := L i
    have m := Mn i
    rw [f_X8_sort_32, b3, sbl (by omega), if_neg (nI_ge hi (by omega))]
    rw [show ∀ k : Int32 → Int32 → Int32 → Option Int32, f_X8_sort_49 σ (nI v) w k 3000 M (nI bS) (nI i) 0 0 = _ from fun k => lw8 (k := k) (v3 := M) (v4 := nI bS) (a := nI v) (b := w) b1 (x := i) (by omega) b3 (fun j hj => ⟨(b5 j hj).2, (b7 j hj).2⟩) (t 0 3) 0 3000 (by omega) (by omega)]
    rw [f_X8_sort_49, b3, if_pos (Int32.le_refl _)]
    unfold f_X8_sort_126 f_X8_sort_127 f_X8_sort_141 f_X8_sort_154 f_X8_handMany
    rw [nI_1, bso, b9, mi8 b1 (by omega) b10 b11 b3 b5, bso]
    by_cases q : M < nI (lw (t 6) (t 7) i (t 0 3))
    · rw [if_neg (Int32.not_le.mpr q)]
      by_cases q2 : mn (t 6) i (t 0 12) (t 0 3) ≤ v
      · rw [if_neg (nI_nlt q2 (by omega)), if_neg (by decide), if_neg (by decide), if_pos ⟨q, q2⟩]
      · rw [if_pos (nI_lt (by omega) (by omega)), if_pos rfl, if_pos rfl, if_neg (fun z => q2 z.2)]
    · rw [if_pos (Int32.not_lt.mp q), if_pos rfl, if_pos rfl, if_neg (fun z => q z.1)]
  have E : ∀ (d i bS bs f7 f8 : Nat), i + d = 2 ^ t 0 3 → d < f7 → d < f8 → bs ≤ 4455 → ∃ r, f_X7_sort_39 σ (nI v) w f7 (nI bS) (nI bs) (nI (2 ^ t 0 3)) (nI i) = some r ∧ f_X8_sort_32 σ (nI v) w f8 (nI bs) (nI bS) (nI i) = some r := by
    intro d
    induction d with
    | zero =>
      intro i bS bs f7 f8 h1 h3 h4 h5
      obtain ⟨f7, rfl⟩ : ∃ m, f7 = m + 1 := ⟨f7 - 1, by omega⟩
      obtain ⟨f8, rfl⟩ : ∃ m, f8 = m + 1 := ⟨f8 - 1, by omega⟩
      obtain rfl : i = 2 ^ t 0 3 := by omega
      rw [f_X7_sort_39, if_pos (Int32.le_refl _), f_X8_sort_32, b3, sbl (by omega), if_pos (Int32.le_refl _)]
      by_cases h0 : w = 0
      · exact ⟨nI bs, by rw [if_pos h0], by rw [if_pos h0]⟩
      · exact ⟨nI bS, by rw [if_neg h0], by rw [if_neg h0]⟩
    | succ d ih =>
      intro i bS bs f7 f8 h1 h3 h4 h5
      obtain ⟨f7, rfl⟩ : ∃ m, f7 = m + 1 := ⟨f7 - 1, by omega⟩
      obtain ⟨f8, rfl⟩ : ∃ m, f8 = m + 1 := ⟨f8 - 1, by omega⟩
      have l := L i
      rw [C f7 i bS bs (by omega) h5, C8 f8 i bS (nI bs) (by omega)]
      simp only [nI_ltI (show bs < 2 ^ 31 by omega) (show lw (t 6) (t 7) i (t 0 3) < 2 ^ 31 by omega)]
      by_cases q : bs < lw (t 6) (t 7) i (t 0 3) ∧ mn (t 6) i (t 0 12) (t 0 3) ≤ v
      · rw [if_pos q, if_pos q]
        exact ih (i + 1) i _ f7 f8 (by omega) (by omega) (by omega) l
      · rw [if_neg q, if_neg q]
        exact ih (i + 1) bS bs f7 f8 (by omega) (by omega) (by omega) h5
  have z1 : lw (t 6) (t 7) 0 (t 0 3) = 0 := by
    have := sN_le (f := fun i => if (0 : Nat).testBit i then t 6 i * t 7 i else 0) (b := 0) (n := t 0 3) (fun i _ => by simp)
    unfold lw
    omega
  have z2 : mn (t 6) 0 (t 0 12) (t 0 3) = 0 := by
    have := sN_le (f := fun i => if (0 : Nat).testBit i then (t 6 i + t 0 12 - 1) / t 0 12 else 0) (b := 0) (n := t 0 3) (fun i _ => by simp)
    unfold mn
    omega
  have s7 := C 2999 0 0 0 (by omega) (by omega)
  have s8 := C8 2999 0 0 (-1) (by omega)
  rw [z1, z2, if_neg (by omega)] at s7
  rw [z1, z2, if_pos ⟨by decide, by omega⟩] at s8
  obtain ⟨r, r1, r2⟩ := E (2 ^ t 0 3 - 1) 1 0 0 2999 2999 (by omega) (by omega) (by omega) (by omega)
  exact ⟨r, s7.trans r1, s8.trans r2⟩
end
section
/-! a night of which all is known: on both sides -/
theorem fi_first {p : Nat → Bool} {n k : Nat} (hk : k < n) (h : p k = true) (u : ∀ i, i < k → p i = false) : fi p n = k := by
  have h1 := fi_le p n
  rcases Nat.lt_trichotomy (fi p n) k with q | q | q
  · have a := fi_yes (p := p) (n := n) (by omega)
    rw [u _ q] at a; cases a
  · exact q
  · have a := fi_no (p := p) (n := n) (k := k) q
    rw [h] at a; cases a
/-- the first of a row that stands at a joint -/
theorem mk_l {σ : ZI} {b M j : Nat} {mj : Nat → Nat} (h0 : ar b = (11, 0)) (h1 : ar (b + 1) = (1, 13)) (h5 : ar (b + 5) = (1, 3)) (hM : M ≤ 3) (hj : j < 2 ^ 31) (e1 : σ (b + 1) 2 = nI M) (e2 : ∀ m, m < M → mj m < 2 ^ 31 ∧ σ (b + 5) m = nI (mj m)) : ∀ (d i fu : Nat), i + d = M → d < fu → (∀ k, k < i → (mj k == j) = false) → f_X6_markAt_2 σ b (nI j) fu (nI i) = some (if fi (fun m => mj m == j) M < M then nI (fi (fun m => mj m == j) M) else -4) := by
  intro d
  induction d with
  | zero =>
    intro i fu h3 h4 h6
    obtain ⟨fu, rfl⟩ : ∃ m, fu = m + 1 := ⟨fu - 1, by omega⟩
    obtain rfl : i = M := by omega
    have e := fi_out (p := fun m => mj m == j) (n := i) h6
    rw [f_X6_markAt_2, show (2 : Int32) = nI 2 from rfl, val_n h0 h1 (by omega), bso, e1, if_pos (Int32.le_refl _), if_neg (by rw [e]; omega)]
  | succ d ih =>
    intro i fu h3 h4 h6
    obtain ⟨fu, rfl⟩ : ∃ m, fu = m + 1 := ⟨fu - 1, by omega⟩
    obtain ⟨m1, m2⟩ := e2 i (by omega)
    rw [f_X6_markAt_2, show (2 : Int32) = nI 2 from rfl, val_n h0 h1 (by omega), bso, e1, if_neg (nI_ge (by omega) (by omega)), at_n (N := 3) h5 (by omega) (by omega), bso, m2]
    by_cases q : mj i = j
    · have e := fi_first (p := fun m => mj m == j) (n := M) (k := i) (by omega) (by simp [q]) h6
      rw [if_pos (by rw [q]), e, if_pos (by omega)]
    · rw [if_neg (fun z => q (nI_inj m1 hj z)), nI_1]
      refine ih (i + 1) fu (by omega) (by omega) fun k hk => ?_
      by_cases hk2 : k = i
      · subst hk2; simp [q]
      · exact h6 k (by omega)
theorem mk_n {σ : ZI} {b M j : Nat} {mj : Nat → Nat} (h0 : ar b = (11, 0)) (h1 : ar (b + 1) = (1, 13)) (h5 : ar (b + 5) = (1, 3)) (hM : M ≤ 3) (hj : j < 2 ^ 31) (e1 : σ (b + 1) 2 = nI M) (e2 : ∀ m, m < M → mj m < 2 ^ 31 ∧ σ (b + 5) m = nI (mj m)) : f_X6_markAt σ b (nI j) = some (if fi (fun m => mj m == j) M < M then nI (fi (fun m => mj m == j) M) else -4) := by
  unfold f_X6_markAt
  rw [h0, if_pos rfl]
  exact mk_l h0 h1 h5 hM hj e1 e2 M 0 3000 (by omega) (by omega) (fun k hk => absurd hk (Nat.not_lt_zero _))
theorem am_l {σ : ZI} {b M j : Nat} {mj : Nat → Nat} (h0 : ar b = (11, 0)) (h1 : ar (b + 1) = (1, 13)) (h5 : ar (b + 3) = (1, 3)) (hM : M ≤ 3) (hj : j < 2 ^ 31) (e1 : σ (b + 1) 1 = nI M) (e2 : ∀ m, m < M → mj m < 2 ^ 31 ∧ σ (b + 3) m = nI (mj m)) : ∀ (d i fu : Nat), i + d = M → d < fu → (∀ k, k < i → (mj k == j) = false) → f_X6_armAt_2 σ b (nI j) fu (nI i) = some (if fi (fun m => mj m == j) M < M then nI (fi (fun m => mj m == j) M) else -4) := by
  intro d
  induction d with
  | zero =>
    intro i fu h3 h4 h6
    obtain ⟨fu, rfl⟩ : ∃ m, fu = m + 1 := ⟨fu - 1, by omega⟩
    obtain rfl : i = M := by omega
    have e := fi_out (p := fun m => mj m == j) (n := i) h6
    rw [f_X6_armAt_2, show (1 : Int32) = nI 1 from rfl, val_n h0 h1 (by omega), bso, e1, if_pos (Int32.le_refl _), if_neg (by rw [e]; omega)]
  | succ d ih =>
    intro i fu h3 h4 h6
    obtain ⟨fu, rfl⟩ : ∃ m, fu = m + 1 := ⟨fu - 1, by omega⟩
    obtain ⟨m1, m2⟩ := e2 i (by omega)
    rw [f_X6_armAt_2, show f_X6_value σ b 1 = _ from val_n (k := 1) h0 h1 (by omega), bso, e1, if_neg (nI_ge (by omega) (by omega)), at_n (N := 3) h5 (by omega) (by omega), bso, m2]
    by_cases q : mj i = j
    · have e := fi_first (p := fun m => mj m == j) (n := M) (k := i) (by omega) (by simp [q]) h6
      rw [if_pos (by rw [q]), e, if_pos (by omega)]
    · rw [if_neg (fun z => q (nI_inj m1 hj z)), nI_1]
      refine ih (i + 1) fu (by omega) (by omega) fun k hk => ?_
      by_cases hk2 : k = i
      · subst hk2; simp [q]
      · exact h6 k (by omega)
theorem am_n {σ : ZI} {b M j : Nat} {mj : Nat → Nat} (h0 : ar b = (11, 0)) (h1 : ar (b + 1) = (1, 13)) (h5 : ar (b + 3) = (1, 3)) (hM : M ≤ 3) (hj : j < 2 ^ 31) (e1 : σ (b + 1) 1 = nI M) (e2 : ∀ m, m < M → mj m < 2 ^ 31 ∧ σ (b + 3) m = nI (mj m)) : f_X6_armAt σ b (nI j) = some (if fi (fun m => mj m == j) M < M then nI (fi (fun m => mj m == j) M) else -4) := by
  unfold f_X6_armAt
  rw [h0, if_pos rfl]
  exact am_l h0 h1 h5 hM hj e1 e2 M 0 3000 (by omega) (by omega) (fun k hk => absurd hk (Nat.not_lt_zero _))
/-- the count behind joint j + 1 -/
def cb (t : NN) (x n j c : Nat) : Nat := if nt (t 4) (t 0 2) n j then j + 1 else if x.testBit j then c else c + 1
/-- what the class has of the marks and arms -/
def T7 (t : NN) (σ : ZI) : Prop := TK t ∧ TV 1 t σ
theorem cb7 {t : NN} {σ : ZI} (q : T7 t σ) {x n j c : Nat} (hj : j < 10) (hx : x < 2 ^ 31) (hn : n < 2 ^ 31) : f_X6_countBehind σ 1 (nI (j + 1)) (nI c) (nI x) (nI n) = some (nI (cb t x n j c)) := by
  obtain ⟨kk, tv⟩ := q
  have k1 := kk.1
  have k4 := kk.2.2.2.1
  unfold f_X6_countBehind f_X6_countBehind_27
  rw [if_pos (by decide), mk_n (b := 1) (M := t 0 2) (j := j + 1) (mj := t 4) rfl rfl rfl (by omega) (by omega) (tv.1 2 (by omega)) (fun m hm => ⟨by have := k4 m hm; omega, (tv.2.2.1 m hm).1⟩), bso]
  unfold cb nt ma
  have e := fi_le (fun m => t 4 m == j + 1) (t 0 2)
  by_cases h : fi (fun m => t 4 m == j + 1) (t 0 2) < t 0 2
  · rw [if_pos h, if_neg (nI_nm4 (by omega))]
    by_cases h2 : n.testBit (fi (fun m => t 4 m == j + 1) (t 0 2)) = true
    · rw [if_pos ((bt1 (by omega) hn).mpr h2), if_pos (by simp [h, h2])]
    · rw [if_neg (fun z => h2 ((bt1 (by omega) hn).mp z)), nI_pred, if_neg (show ¬ (decide _ && _) = true by simp [h2])]
      by_cases h3 : x.testBit j = true
      · rw [if_pos ((bt1 (by omega) hx).mpr h3), if_pos h3]
      · rw [if_neg (fun z => h3 ((bt1 (by omega) hx).mp z)), if_neg h3, nI_1]
  · rw [if_neg h, if_pos rfl, nI_pred, if_neg (show ¬ (decide _ && _) = true by simp [h])]
    by_cases h3 : x.testBit j = true
    · rw [if_pos ((bt1 (by omega) hx).mpr h3), if_pos h3]
    · rw [if_neg (fun z => h3 ((bt1 (by omega) hx).mp z)), if_neg h3, nI_1]
theorem upd2 (f : Nat → Int32) (i : Nat) (x y : Int32) : upd (upd f i x) i y = upd f i y := by
  funext k
  unfold upd
  by_cases h : k = i <;> simp [h]
theorem upd_id (f : Nat → Int32) (i : Nat) : upd f i (f i) = f := by
  funext k
  unfold upd
  by_cases h : k = i <;> simp [h]
/-- what the reference has of the marks -/
def M8 (t : NN) (σ : ZI) : Prop := TK t ∧ σ 60 5 = nI (t 0 2) ∧ ∀ i, i < t 0 2 → σ 63 i = nI (t 4 i)
def s33 (σ : ZI) (v : Int32) : ZI := va_up σ 60 (upd (σ 60) 33 v)
theorem s33_s33 (σ : ZI) (v w : Int32) : va_up (s33 σ v) 60 (upd ((s33 σ v) 60) 33 w) = s33 σ w := by
  unfold s33
  rw [bx_uu]
  show va_up σ 60 (upd (upd (σ 60) 33 v) 33 w) = _
  rw [upd2]
theorem s33_id (σ : ZI) : s33 σ (σ 60 33) = σ := by
  unfold s33
  rw [upd_id, up_id]
theorem cd_l {t : NN} {σ : ZI} (q : M8 t σ) {x n j : Nat} (hj : j < 10) (hn : n < 2 ^ 31) : ∀ (d m fu : Nat) (v : Int32), m + d = t 0 2 → d < fu → f_X8_counted_28 (nI x) (nI n) (nI (j + 1)) fu (s33 σ v) (nI m) = some (s33 σ (if m ≤ ma (t 4) (t 0 2) j ∧ nt (t 4) (t 0 2) n j = true then nI (j + 1) else v)) := by
  obtain ⟨kk, e5, e63⟩ := q
  have k1 := kk.1
  have k4 := kk.2.2.2.1
  intro d
  induction d with
  | zero =>
    intro m fu v h3 h4
    obtain ⟨fu, rfl⟩ : ∃ m, fu = m + 1 := ⟨fu - 1, by omega⟩
    obtain rfl : m = t 0 2 := by omega
    rw [f_X8_counted_28, show (s33 σ v) 60 5 = _ from e5, if_pos (Int32.le_refl _), if_neg]
    rintro ⟨a, b⟩
    unfold nt at b
    simp at b
    omega
  | succ d ih =>
    intro m fu v h3 h4
    obtain ⟨fu, rfl⟩ : ∃ m, fu = m + 1 := ⟨fu - 1, by omega⟩
    have km := k4 m (by omega)
    rw [f_X8_counted_28, show (s33 σ v) 60 5 = _ from e5, if_neg (nI_ge (by omega) (by omega)), inB_n (by omega) (by omega), if_pos rfl, nI_clamp (by omega), show (s33 σ v) 63 m = _ from e63 m (by omega)]
    unfold f_X8_counted_63 f_X8_counted_67
    rw [nI_1, ltq, ltq, s33_s33, s33_s33, show (s33 σ v) 60 33 = v from (show upd (σ 60) 33 v 33 = v from pk_us)]
    dsimp only
    rw [ih (m + 1) fu _ (by omega) (by omega), ih (m + 1) fu _ (by omega) (by omega)]
    by_cases hm : t 4 m = j + 1
    · have e : ma (t 4) (t 0 2) j = m := by
        have := ma_is (mj := t 4) (M := t 0 2) (m := m) (by omega) km.1 kk.2.2.2.2.1
        rw [hm] at this
        exact this
      rw [if_pos (by rw [hm]), e]
      have en : nt (t 4) (t 0 2) n j = n.testBit m := by unfold nt; rw [e]; simp; omega
      rw [en]
      by_cases hb : n.testBit m = true
      · rw [if_pos ((bt1 (by omega) hn).mpr hb), if_neg (by omega), if_pos ⟨Nat.le_refl _, hb⟩]
      · rw [if_neg (fun z => hb ((bt1 (by omega) hn).mp z)), if_neg (by omega), if_neg (fun z => hb z.2)]
    · rw [if_neg (fun z => hm (nI_inj (by omega) (by omega) z))]
      have e : nt (t 4) (t 0 2) n j = true → ma (t 4) (t 0 2) j ≠ m := by
        intro h he
        unfold nt at h
        simp at h
        have := fi_yes (p := fun m => t 4 m == j + 1) (n := t 0 2) h.1
        rw [show fi (fun m => t 4 m == j + 1) (t 0 2) = m from he] at this
        simp at this
        exact hm this
      by_cases h : m + 1 ≤ ma (t 4) (t 0 2) j ∧ nt (t 4) (t 0 2) n j = true
      · rw [if_pos h, if_pos ⟨by omega, h.2⟩]
      · rw [if_neg h, if_neg]
        rintro ⟨a, b⟩
        have := e b
        exact h ⟨by omega, b⟩
theorem cd8 {t : NN} {σ : ZI} (q : M8 t σ) {x n j c : Nat} (hj : j < 10) (hx : x < 2 ^ 31) (hn : n < 2 ^ 31) (hc : σ 60 33 = nI c) : f_X8_counted σ (nI x) (nI n) (nI (j + 1)) = some (s33 σ (nI (cb t x n j c))) := by
  have e : ∀ v, f_X8_counted_28 (nI x) (nI n) (nI (j + 1)) 3000 (s33 σ v) 0 = some (s33 σ (if nt (t 4) (t 0 2) n j = true then nI (j + 1) else v)) := by
    intro v
    have := q.1.1
    rw [show f_X8_counted_28 (nI x) (nI n) (nI (j + 1)) 3000 (s33 σ v) 0 = _ from cd_l q (x := x) hj hn (t 0 2) 0 3000 v (by omega) (by omega)]
    simp
  unfold f_X8_counted f_X8_counted_21
  rw [nI_pred, hc, ltq, ltq, show va_up σ 60 (upd (σ 60) 33 (nI c + 0)) = s33 σ (nI c + 0) from rfl, show va_up σ 60 (upd (σ 60) 33 (nI c + 1)) = s33 σ (nI c + 1) from rfl, e, e, nI_1, Int32.add_zero]
  unfold cb
  by_cases h2 : nt (t 4) (t 0 2) n j = true
  · rw [if_pos h2, if_pos h2, if_pos h2]
    split <;> rfl
  · rw [if_neg h2, if_neg h2, if_neg h2]
    by_cases h3 : x.testBit j = true
    · rw [if_pos ((bt1 (by omega) hx).mpr h3), if_pos h3]
    · rw [if_neg (fun z => h3 ((bt1 (by omega) hx).mp z)), if_neg h3]
end
section
/-! a night, joint by joint -/
def tC (t : NN) (x n j : Nat) : Nat := cn (t 4) (t 0 2) x n j
def tS (t : NN) (x n j : Nat) : Nat := ns (t 4) (t 0 2) x n (t 0 8) (t 0 9) (t 0 5) j
def tp (t : NN) (x n j : Nat) : Nat := pa (t 0 8) (t 0 9) (tS t x n j) (tC t x n (j + 1))
def aa (t : NN) (j : Nat) : Nat := fi (fun i => t 2 i == j + 1) (t 0 1)
def tO (t : NN) (x n : Nat) : Nat → Int32
  | 0 => -4
  | j + 1 => if tS t x n j = 0 ∧ t 0 8 ≤ tC t x n (j + 1) then nI (j + 1) else tO t x n j
def tI (t : NN) (x n : Nat) : Nat → Int32
  | 0 => -4
  | j + 1 => if tS t x n j = 1 ∧ t 0 9 ≤ tC t x n (j + 1) then nI (j + 1) else tI t x n j
def tM (t : NN) (x n : Nat) : Nat → Nat
  | 0 => 0
  | j + 1 => if tp t x n j = 1 ∧ aa t j < t 0 1 then tM t x n j ||| 2 ^ aa t j else tM t x n j
def tH (t : NN) (x n : Nat) : Nat → Nat
  | 0 => 0
  | j + 1 => if tp t x n j = 1 ∧ (t 0 4).testBit j = true then tH t x n j ||| 2 ^ j else tH t x n j
def tQ (t : NN) (x n : Nat) : Nat → Nat
  | 0 => 0
  | j + 1 => if tp t x n j = 1 then tQ t x n j ||| 2 ^ j else tQ t x n j
def tT (t : NN) (x n j : Nat) : Nat := if tS t x n j = 3 then 1 else 0
theorem tC_s (t : NN) (x n j : Nat) : tC t x n (j + 1) = cb t x n j (tC t x n j) := rfl
theorem tS_s (t : NN) (x n j : Nat) : tS t x n (j + 1) = if tp t x n j = 1 ∧ j + 1 = t 0 5 then 3 else tp t x n j := rfl
theorem tp_0 {t : NN} {x n j : Nat} (h : tS t x n j = 0) : tp t x n j = if t 0 8 ≤ tC t x n (j + 1) then 1 else 0 := by
  unfold tp pa; rw [if_pos h]
theorem tp_1 {t : NN} {x n j : Nat} (h : tS t x n j = 1) : tp t x n j = if t 0 9 ≤ tC t x n (j + 1) then 2 else 1 := by
  unfold tp pa; rw [if_neg (by omega), if_pos h]
theorem tp_2 {t : NN} {x n j : Nat} (h : tS t x n j ≠ 0) (h1 : tS t x n j ≠ 1) : tp t x n j = tS t x n j := by
  unfold tp pa; rw [if_neg h, if_neg h1]
theorem tS_le (t : NN) (x n : Nat) : ∀ j, tS t x n j ≤ 3
  | 0 => by show (0 : Nat) ≤ 3; omega
  | j + 1 => by
    have ih := tS_le t x n j
    rw [tS_s]
    by_cases h0 : tS t x n j = 0
    · rw [tp_0 h0]; repeat' split
      all_goals omega
    · by_cases h1 : tS t x n j = 1
      · rw [tp_1 h1]; repeat' split
        all_goals omega
      · rw [tp_2 h0 h1]; repeat' split
        all_goals omega
theorem tO_4 {t : NN} {x n : Nat} : ∀ j, j ≤ 10 → (tO t x n j = -4 ↔ tS t x n j = 0)
  | 0, _ => ⟨fun _ => rfl, fun _ => rfl⟩
  | j + 1, h => by
    have ih := tO_4 (t := t) (x := x) (n := n) j (by omega)
    rw [tS_s]
    unfold tO
    by_cases h0 : tS t x n j = 0
    · rw [tp_0 h0]
      by_cases h1 : t 0 8 ≤ tC t x n (j + 1)
      · rw [if_pos ⟨h0, h1⟩, if_pos h1]
        refine ⟨fun q => absurd q (nI_nm4 (by omega)), fun q => ?_⟩
        split at q <;> omega
      · rw [if_neg (fun q => h1 q.2), if_neg h1, if_neg (by omega)]
        exact ⟨fun _ => rfl, fun _ => ih.mpr h0⟩
    · rw [if_neg (fun q => h0 q.1)]
      refine ⟨fun q => absurd (ih.mp q) h0, fun q => ?_⟩
      by_cases h1 : tS t x n j = 1
      · rw [tp_1 h1] at q
        by_cases h2 : t 0 9 ≤ tC t x n (j + 1)
        · rw [if_pos h2] at q; split at q <;> omega
        · rw [if_neg h2] at q; split at q <;> omega
      · rw [tp_2 h0 h1] at q; split at q <;> omega
theorem aa_lt {t : NN} (k : TK t) (j : Nat) (h : aa t j < t 0 1) : aa t j < 3 := by have := k.1; omega
theorem tM_lt {t : NN} (k : TK t) (x n : Nat) : ∀ j, tM t x n j < 2 ^ 3
  | 0 => by show 0 < 2 ^ 3; omega
  | j + 1 => by
    have ih := tM_lt k x n j
    unfold tM
    by_cases h : tp t x n j = 1 ∧ aa t j < t 0 1
    · rw [if_pos h]
      exact Nat.or_lt_two_pow ih (Nat.pow_lt_pow_right (by omega) (aa_lt k j h.2))
    · rw [if_neg h]; exact ih
theorem tH_lt {t : NN} (x n : Nat) : ∀ j, j ≤ 10 → tH t x n j < 2 ^ 10
  | 0, _ => by show 0 < 2 ^ 10; omega
  | j + 1, hj => by
    have ih := tH_lt (t := t) x n j (by omega)
    unfold tH
    by_cases h : tp t x n j = 1 ∧ (t 0 4).testBit j = true
    · rw [if_pos h]
      exact Nat.or_lt_two_pow ih (Nat.pow_lt_pow_right (by omega) (by omega))
    · rw [if_neg h]; exact ih
theorem tQ_lt {t : NN} (x n : Nat) : ∀ j, j ≤ 10 → tQ t x n j < 2 ^ 10
  | 0, _ => by show 0 < 2 ^ 10; omega
  | j + 1, hj => by
    have ih := tQ_lt (t := t) x n j (by omega)
    unfold tQ
    by_cases h : tp t x n j = 1
    · rw [if_pos h]
      exact Nat.or_lt_two_pow ih (Nat.pow_lt_pow_right (by omega) (by omega))
    · rw [if_neg h]; exact ih
/-- the class's passage -/
def pf (g : Nat → Int32) (o i m h to c : Int32) : Nat → Int32 := fun k => if k = 0 then o else if k = 1 then i else if k = 2 then m else if k = 3 then h else if k = 4 then to else if k = 5 then c else g k
def P7 (σ : ZI) (o i m h to c : Int32) : ZI := va_up σ 40 (pf (σ 40) o i m h to c)
theorem k6 (k : Nat) : k = 0 ∨ k = 1 ∨ k = 2 ∨ k = 3 ∨ k = 4 ∨ k = 5 ∨ (k ≠ 0 ∧ k ≠ 1 ∧ k ≠ 2 ∧ k ≠ 3 ∧ k ≠ 4 ∧ k ≠ 5) := by omega
section PU
variable (σ : ZI) (o i m h to c v : Int32)
theorem p7_0 : va_up (P7 σ o i m h to c) 40 (upd ((P7 σ o i m h to c) 40) 0 v) = P7 σ v i m h to c := by
  unfold P7; rw [bx_uu]; congr 1; funext k
  rcases k6 k with rfl | rfl | rfl | rfl | rfl | rfl | ⟨a, b, c, d, e, f⟩ <;> first | rfl | simp [upd, va_up, pf, a, b, c, d, e, f]
theorem p7_1 : va_up (P7 σ o i m h to c) 40 (upd ((P7 σ o i m h to c) 40) 1 v) = P7 σ o v m h to c := by
  unfold P7; rw [bx_uu]; congr 1; funext k
  rcases k6 k with rfl | rfl | rfl | rfl | rfl | rfl | ⟨a, b, c, d, e, f⟩ <;> first | rfl | simp [upd, va_up, pf, a, b, c, d, e, f]
theorem p7_2 : va_up (P7 σ o i m h to c) 40 (upd ((P7 σ o i m h to c) 40) 2 v) = P7 σ o i v h to c := by
  unfold P7; rw [bx_uu]; congr 1; funext k
  rcases k6 k with rfl | rfl | rfl | rfl | rfl | rfl | ⟨a, b, c, d, e, f⟩ <;> first | rfl | simp [upd, va_up, pf, a, b, c, d, e, f]
theorem p7_3 : va_up (P7 σ o i m h to c) 40 (upd ((P7 σ o i m h to c) 40) 3 v) = P7 σ o i m v to c := by
  unfold P7; rw [bx_uu]; congr 1; funext k
  rcases k6 k with rfl | rfl | rfl | rfl | rfl | rfl | ⟨a, b, c, d, e, f⟩ <;> first | rfl | simp [upd, va_up, pf, a, b, c, d, e, f]
theorem p7_4 : va_up (P7 σ o i m h to c) 40 (upd ((P7 σ o i m h to c) 40) 4 v) = P7 σ o i m h v c := by
  unfold P7; rw [bx_uu]; congr 1; funext k
  rcases k6 k with rfl | rfl | rfl | rfl | rfl | rfl | ⟨a, b, c, d, e, f⟩ <;> first | rfl | simp [upd, va_up, pf, a, b, c, d, e, f]
theorem p7_5 : va_up (P7 σ o i m h to c) 40 (upd ((P7 σ o i m h to c) 40) 5 v) = P7 σ o i m h to v := by
  unfold P7; rw [bx_uu]; congr 1; funext k
  rcases k6 k with rfl | rfl | rfl | rfl | rfl | rfl | ⟨a, b, c, d, e, f⟩ <;> first | rfl | simp [upd, va_up, pf, a, b, c, d, e, f]
end PU
theorem or_n {s i : Nat} (hi : i < 10) (hs : s < 1024) : (nI s ||| nI (2 ^ i)) = nI (s ||| 2 ^ i) := (sg_bits i hi s hs).2.1
theorem sg7 {σ : ZI} {b s j : Nat} (h0 : ar b = (11, 0)) (h1 : ar (b + 1) = (1, 13)) (hj : j < 10) (hs : s < 1024) (e : σ (b + 1) 4 = nI s) : f_X6_isSignalAt σ b (nI (j + 1)) = some (if s.testBit j = true then 1 else 0) := by
  unfold f_X6_isSignalAt
  rw [h0, if_pos rfl, if_neg (show ¬ nI (j + 1) < 1 from nI_nlt (a := j + 1) (b := 1) (by omega) (by omega)), show f_X6_value σ b 4 = _ from val_n (k := 4) h0 h1 (by omega), bso, e, nI_pred]
  by_cases h : s.testBit j = true
  · rw [if_pos ((bt1 (by omega) (by omega)).mpr h), if_pos h]
  · rw [if_neg (fun z => h ((bt1 (by omega) (by omega)).mp z)), if_neg h]
theorem TK_s {t : NN} (k : TK t) : t 0 4 < 1024 := Nat.lt_of_lt_of_le k.1.2.2.2.2.2.1 (Nat.pow_le_pow_right (n := 2) (by omega) k.1.2.1)
theorem meet7 {t : NN} {σ : ZI} (q : T7 t σ) {j me h : Nat} (hj : j < 10) (hme : me < 2 ^ 3) (hh : h < 2 ^ 10) (o i to c : Int32) : f_X1_meet (P7 σ o i (nI me) (nI h) to c) 1 (nI (j + 1)) = some (P7 σ o i (nI (if aa t j < t 0 1 then me ||| 2 ^ aa t j else me)) (nI (if (t 0 4).testBit j = true then h ||| 2 ^ j else h)) (if t 0 5 = j + 1 then 1 else to) c) := by
  obtain ⟨kk, tv⟩ := q
  have k1 := kk.1
  have k2 := kk.2.1
  have c46 : ∀ (me h : Int32) (to : Int32), f_X1_meet_46 1 (nI (j + 1)) (P7 σ o i me h to c) = some (P7 σ o i me h (if t 0 5 = j + 1 then 1 else to) c) := by
    intro me h to
    unfold f_X1_meet_46
    rw [v1_5, bso, show (P7 σ o i me h to c) 2 5 = _ from tv.1 5 (by omega)]
    by_cases hb : t 0 5 = j + 1
    · rw [if_pos (by rw [hb]), if_pos hb, ltq, p7_4]
    · rw [if_neg (fun z => hb (nI_inj (by omega) (by omega) z)), if_neg hb]
  have c24 : ∀ (me : Int32), f_X1_meet_24 1 (nI (j + 1)) (P7 σ o i me (nI h) to c) = some (P7 σ o i me (nI (if (t 0 4).testBit j = true then h ||| 2 ^ j else h)) (if t 0 5 = j + 1 then 1 else to) c) := by
    intro me
    unfold f_X1_meet_24
    rw [sg7 (σ := P7 σ o i me (nI h) to c) (b := 1) (s := t 0 4) rfl rfl hj (TK_s kk) (tv.1 4 (by omega)), bso, nI_pred, sbl (by omega), ltq]
    by_cases hb : (t 0 4).testBit j = true
    · rw [if_pos hb, if_neg (by decide), p7_3, show (P7 σ o i me (nI h) to c) 40 3 = nI h from rfl, or_n hj hh, c46, if_pos hb]
    · rw [if_neg hb, if_pos rfl, c46, if_neg hb]
  unfold f_X1_meet
  rw [if_pos (by decide), am_n (σ := P7 σ o i (nI me) (nI h) to c) (b := 1) (M := t 0 1) (j := j + 1) (mj := t 2) rfl rfl rfl (by omega) (by omega) (tv.1 1 (by omega)) (fun m hm => ⟨by have := k2 m hm; omega, (tv.2.1 m hm).2.1⟩), bso]
  by_cases ha : aa t j < t 0 1
  · rw [if_pos (show fi (fun i => t 2 i == j + 1) (t 0 1) < t 0 1 from ha), if_neg (nI_nm4 (by have := fi_le (fun i => t 2 i == j + 1) (t 0 1); omega)), if_pos ha, ltq, show fi (fun i => t 2 i == j + 1) (t 0 1) = aa t j from rfl, sbl (by omega), p7_2, show (P7 σ o i (nI me) (nI h) to c) 40 2 = nI me from rfl, or_n (by omega) (by omega), c24]
  · rw [if_neg (show ¬ fi (fun i => t 2 i == j + 1) (t 0 1) < t 0 1 from ha), if_pos rfl, if_neg ha, c24]
/-- the class's night behind joint j -/
def c7 (t : NN) (σ : ZI) (x n j : Nat) : ZI := P7 σ (tO t x n j) (tI t x n j) (nI (tM t x n j)) (nI (tH t x n j)) (nI (tT t x n j)) (nI (tC t x n j))
def hg (t : NN) (x n j : Nat) : Int32 := if tS t x n j = 1 then 1 else 0
theorem go7 {t : NN} {σ : ZI} (q : T7 t σ) {x n : Nat} (hx : x < 2 ^ 31) (hn : n < 2 ^ 31) : ∀ (d j fu : Nat), j + d = t 0 0 → d < fu → f_X1_go_38 1 (nI x) (nI n) fu (c7 t σ x n j) (hg t x n j) (nI (j + 1)) = some (c7 t σ x n (t 0 0)) := by
  have kk := q.1
  have k1 := kk.1
  have tv := q.2
  intro d
  induction d with
  | zero =>
    intro j fu h3 h4
    obtain ⟨fu, rfl⟩ : ∃ m, fu = m + 1 := ⟨fu - 1, by omega⟩
    obtain rfl : j = t 0 0 := by omega
    rw [f_X1_go_38, v1_0, bso, show (c7 t σ x n (t 0 0)) 2 0 = _ from tv.1 0 (by omega), if_pos (nI_lt (by omega) (by omega))]
  | succ d ih =>
    intro j fu h3 h4
    obtain ⟨fu, rfl⟩ : ∃ m, fu = m + 1 := ⟨fu - 1, by omega⟩
    have hc := cn_le (t 4) (t 0 2) x n (j + 1)
    have hc0 : tC t x n (j + 1) ≤ j + 1 := hc
    have q' : T7 t (c7 t σ x n j) := ⟨kk, TV_fr (fun r i h1 h2 => by show va_up σ 40 _ (1 + r) i = _; simp only [va_up, if_neg (show 1 + r ≠ 40 by omega)]) tv⟩
    rw [f_X1_go_38, v1_0, bso, show (c7 t σ x n j) 2 0 = _ from tv.1 0 (by omega), if_neg (nI_nlt (by omega) (by omega)), show (c7 t σ x n j) 40 5 = nI (tC t x n j) from rfl, cb7 q' (by omega) hx hn, bso, ltq, ← tC_s]
    unfold c7
    rw [p7_5]
    have pass : ∀ (o i : Int32) (v4 : Int32), v4 ≠ 0 → tp t x n j = 1 → tS t x n j ≠ 3 → f_X1_go_125 1 (nI x) (nI n) (fun σ v4 v5 => f_X1_go_38 1 (nI x) (nI n) fu σ v4 v5) (P7 σ o i (nI (tM t x n j)) (nI (tH t x n j)) (nI (tT t x n j)) (nI (tC t x n (j + 1)))) v4 (nI (j + 1)) = f_X1_go_38 1 (nI x) (nI n) fu (P7 σ o i (nI (tM t x n (j + 1))) (nI (tH t x n (j + 1))) (nI (tT t x n (j + 1))) (nI (tC t x n (j + 1)))) (hg t x n (j + 1)) (nI (j + 1 + 1)) := by
      intro o i v4 hv hp hs
      have hM : tM t x n (j + 1) = if aa t j < t 0 1 then tM t x n j ||| 2 ^ aa t j else tM t x n j := by
        simp only [tM, hp, true_and]
      have hH : tH t x n (j + 1) = if (t 0 4).testBit j = true then tH t x n j ||| 2 ^ j else tH t x n j := by
        simp only [tH, hp, true_and]
      have t0 : tT t x n j = 0 := if_neg hs
      unfold f_X1_go_125 f_X1_go_149 f_X1_go_151
      rw [if_neg hv, meet7 q (by omega) (tM_lt kk x n j) (tH_lt x n j (by omega)), bso, ← hM, ← hH, t0, nI_1]
      rw [show ∀ a b c d e f : Int32, (P7 σ a b c d e f) 40 4 = e from fun _ _ _ _ _ _ => rfl]
      have e1 : tT t x n (j + 1) = if t 0 5 = j + 1 then 1 else 0 := by
        unfold tT
        rw [tS_s, hp]
        by_cases hb : t 0 5 = j + 1
        · rw [if_pos (show 1 = 1 ∧ j + 1 = t 0 5 from ⟨rfl, hb.symm⟩), if_pos rfl, if_pos hb]
        · rw [if_neg (show ¬ (1 = 1 ∧ j + 1 = t 0 5) from fun z => hb z.2.symm), if_neg (by omega), if_neg hb]
      have e2 : hg t x n (j + 1) = if t 0 5 = j + 1 then 0 else 1 := by
        unfold hg
        rw [tS_s, hp]
        by_cases hb : t 0 5 = j + 1
        · rw [if_pos (show 1 = 1 ∧ j + 1 = t 0 5 from ⟨rfl, hb.symm⟩), if_neg (by omega), if_pos hb]
        · rw [if_neg (show ¬ (1 = 1 ∧ j + 1 = t 0 5) from fun z => hb z.2.symm), if_pos rfl, if_neg hb]
      rw [e1, e2]
      by_cases hb : t 0 5 = j + 1
      · rw [if_pos hb, if_pos hb, if_pos hb, if_neg (by decide)]
        rfl
      · rw [if_neg hb, if_neg hb, if_neg hb, if_pos nI_0]
    have rest : ∀ (o i : Int32), tp t x n j ≠ 1 → f_X1_go_125 1 (nI x) (nI n) (fun σ v4 v5 => f_X1_go_38 1 (nI x) (nI n) fu σ v4 v5) (P7 σ o i (nI (tM t x n j)) (nI (tH t x n j)) (nI (tT t x n j)) (nI (tC t x n (j + 1)))) 0 (nI (j + 1)) = f_X1_go_38 1 (nI x) (nI n) fu (P7 σ o i (nI (tM t x n (j + 1))) (nI (tH t x n (j + 1))) (nI (tT t x n (j + 1))) (nI (tC t x n (j + 1)))) (hg t x n (j + 1)) (nI (j + 1 + 1)) := by
      intro o i hp
      have hM : tM t x n (j + 1) = tM t x n j := by simp only [tM, hp, false_and, if_false]
      have hH : tH t x n (j + 1) = tH t x n j := by simp only [tH, hp, false_and, if_false]
      have hS : tS t x n (j + 1) = tp t x n j := by rw [tS_s, if_neg (fun z => hp z.1)]
      have hT : tT t x n (j + 1) = tT t x n j := by
        unfold tT
        rw [hS]
        by_cases h0 : tS t x n j = 0
        · rw [tp_0 h0, h0]; split <;> rfl
        · by_cases h1 : tS t x n j = 1
          · rw [tp_1 h1, h1]; split <;> rfl
          · rw [tp_2 h0 h1]
      have hh : hg t x n (j + 1) = 0 := by unfold hg; rw [hS, if_neg hp]
      unfold f_X1_go_125 f_X1_go_151
      rw [if_pos rfl, hM, hH, hT, hh, nI_1]
    rw [show ∀ a b c d e f : Int32, (P7 σ a b c d e f) 40 0 = a from fun _ _ _ _ _ _ => rfl]
    rw [show ∀ a b c d e f : Int32, (P7 σ a b c d e f) 40 5 = f from fun _ _ _ _ _ _ => rfl]
    have o4 := tO_4 (t := t) (x := x) (n := n) j (by omega)
    have fin := ih (j + 1) fu (by omega) (by omega)
    unfold c7 at fin
    rw [← fin]
    have v8 : ∀ a b c d e f : Int32, f_X6_value (P7 σ a b c d e f) 1 8 = some (nI (t 0 8)) := fun _ _ _ _ _ _ => by rw [v1_8]; exact congrArg some (tv.1 8 (by omega))
    have v9 : ∀ a b c d e f : Int32, f_X6_value (P7 σ a b c d e f) 1 9 = some (nI (t 0 9)) := fun _ _ _ _ _ _ => by rw [v1_9]; exact congrArg some (tv.1 9 (by omega))
    by_cases s0 : tS t x n j = 0
    · have hI : tI t x n (j + 1) = tI t x n j := by simp only [tI, s0]; rw [if_neg (by omega)]
      rw [if_pos (o4.mpr s0), v8, bso, hI]
      by_cases a : t 0 8 ≤ tC t x n (j + 1)
      · have hO : tO t x n (j + 1) = nI (j + 1) := by simp only [tO]; rw [if_pos ⟨s0, a⟩]
        rw [if_neg (nI_nlt a (by omega)), ltq, p7_0, pass _ _ 1 (by decide) (by rw [tp_0 s0, if_pos a]) (by omega), hO]
      · have hO : tO t x n (j + 1) = tO t x n j := by simp only [tO]; rw [if_neg (fun z => a z.2)]
        have h0 : hg t x n j = 0 := by unfold hg; rw [s0, if_neg (by omega)]
        rw [if_pos (nI_lt (by omega) (by omega)), h0]
        unfold f_X1_go_98
        rw [if_pos rfl, rest _ _ (by rw [tp_0 s0, if_neg a]; omega), hO]
    · have hO : tO t x n (j + 1) = tO t x n j := by simp only [tO]; rw [if_neg (fun z => s0 z.1)]
      rw [if_neg (fun z => s0 (o4.mp z)), hO]
      by_cases s1 : tS t x n j = 1
      · have h1 : hg t x n j = 1 := by unfold hg; rw [if_pos s1]
        rw [h1]
        unfold f_X1_go_98
        rw [if_neg (by decide), v9, bso]
        rw [show ∀ a b c d e f : Int32, (P7 σ a b c d e f) 40 5 = f from fun _ _ _ _ _ _ => rfl]
        by_cases a : t 0 9 ≤ tC t x n (j + 1)
        · have hI : tI t x n (j + 1) = nI (j + 1) := by simp only [tI]; rw [if_pos ⟨s1, a⟩]
          rw [if_neg (nI_nlt a (by omega)), ltq, p7_1, rest _ _ (by rw [tp_1 s1, if_pos a]; omega), hI]
        · have hI : tI t x n (j + 1) = tI t x n j := by simp only [tI]; rw [if_neg (fun z => a z.2)]
          rw [if_pos (nI_lt (by omega) (by omega)), pass _ _ 1 (by decide) (by rw [tp_1 s1, if_neg a]) (by omega), hI]
      · have hI : tI t x n (j + 1) = tI t x n j := by simp only [tI]; rw [if_neg (fun z => s1 z.1)]
        have h0 : hg t x n j = 0 := by unfold hg; rw [if_neg s1]
        rw [h0]
        unfold f_X1_go_98
        rw [if_pos rfl, rest _ _ (by rw [tp_2 s0 s1]; exact s1), hI]
theorem night7 {t : NN} {σ : ZI} (q : T7 t σ) {x n : Nat} (hx : x < 2 ^ 31) (hn : n < 2 ^ 31) : f_X1_go σ 1 (nI x) (nI n) = some (c7 t σ x n (t 0 0)) := by
  have e : va_up (va_up (va_up (va_up (va_up (va_up σ 40 (upd (σ 40) 0 (-4))) 40 (upd (upd (σ 40) 0 (-4)) 1 (-4))) 40 (upd (upd (upd (σ 40) 0 (-4)) 1 (-4)) 2 0)) 40 (upd (upd (upd (upd (σ 40) 0 (-4)) 1 (-4)) 2 0) 3 0)) 40 (upd (upd (upd (upd (upd (σ 40) 0 (-4)) 1 (-4)) 2 0) 3 0) 4 0)) 40 (upd (upd (upd (upd (upd (upd (σ 40) 0 (-4)) 1 (-4)) 2 0) 3 0) 4 0) 5 0) = c7 t σ x n 0 := by
    unfold c7 P7
    rw [bx_uu, bx_uu, bx_uu, bx_uu, bx_uu]
    congr 1; funext k
    rcases k6 k with rfl | rfl | rfl | rfl | rfl | rfl | ⟨a, b, c, d, e, f⟩ <;> first | rfl | simp [upd, pf, a, b, c, d, e, f]
  unfold f_X1_go
  rw [if_pos (by decide), ltq, ltq, ltq, ltq, ltq, ltq]
  have := q.1.1
  refine Eq.trans ?_ (go7 q hx hn (t 0 0) 0 3000 (by omega) (by omega))
  rw [← e]
  rfl
end
section
/-! a night on the reference's side -/
def qf (g : Nat → Int32) (c o i m h to p : Int32) : Nat → Int32 := fun k => if k = 33 then c else if k = 34 then o else if k = 35 then i else if k = 36 then m else if k = 37 then h else if k = 38 then to else if k = 39 then p else g k
def N8 (σ : ZI) (c o i m h to p : Int32) : ZI := va_up σ 60 (qf (σ 60) c o i m h to p)
theorem k7 (k : Nat) : k = 33 ∨ k = 34 ∨ k = 35 ∨ k = 36 ∨ k = 37 ∨ k = 38 ∨ k = 39 ∨ (k ≠ 33 ∧ k ≠ 34 ∧ k ≠ 35 ∧ k ≠ 36 ∧ k ≠ 37 ∧ k ≠ 38 ∧ k ≠ 39) := by omega
section NU
variable (σ : ZI) (c o i m h to p v : Int32)
theorem n8_33 : s33 (N8 σ c o i m h to p) v = N8 σ v o i m h to p := by
  unfold N8 s33; rw [bx_uu]; congr 1; funext k
  rcases k7 k with rfl | rfl | rfl | rfl | rfl | rfl | rfl | ⟨a, b, c, d, e, f, g⟩ <;> first | rfl | simp [upd, va_up, qf, a, b, c, d, e, f, g]
theorem n8_34 : va_up (N8 σ c o i m h to p) 60 (upd ((N8 σ c o i m h to p) 60) 34 v) = N8 σ c v i m h to p := by
  unfold N8; rw [bx_uu]; congr 1; funext k
  rcases k7 k with rfl | rfl | rfl | rfl | rfl | rfl | rfl | ⟨a, b, c, d, e, f, g⟩ <;> first | rfl | simp [upd, va_up, qf, a, b, c, d, e, f, g]
theorem n8_35 : va_up (N8 σ c o i m h to p) 60 (upd ((N8 σ c o i m h to p) 60) 35 v) = N8 σ c o v m h to p := by
  unfold N8; rw [bx_uu]; congr 1; funext k
  rcases k7 k with rfl | rfl | rfl | rfl | rfl | rfl | rfl | ⟨a, b, c, d, e, f, g⟩ <;> first | rfl | simp [upd, va_up, qf, a, b, c, d, e, f, g]
theorem n8_36 : va_up (N8 σ c o i m h to p) 60 (upd ((N8 σ c o i m h to p) 60) 36 v) = N8 σ c o i v h to p := by
  unfold N8; rw [bx_uu]; congr 1; funext k
  rcases k7 k with rfl | rfl | rfl | rfl | rfl | rfl | rfl | ⟨a, b, c, d, e, f, g⟩ <;> first | rfl | simp [upd, va_up, qf, a, b, c, d, e, f, g]
theorem n8_37 : va_up (N8 σ c o i m h to p) 60 (upd ((N8 σ c o i m h to p) 60) 37 v) = N8 σ c o i m v to p := by
  unfold N8; rw [bx_uu]; congr 1; funext k
  rcases k7 k with rfl | rfl | rfl | rfl | rfl | rfl | rfl | ⟨a, b, c, d, e, f, g⟩ <;> first | rfl | simp [upd, va_up, qf, a, b, c, d, e, f, g]
theorem n8_38 : va_up (N8 σ c o i m h to p) 60 (upd ((N8 σ c o i m h to p) 60) 38 v) = N8 σ c o i m h v p := by
  unfold N8; rw [bx_uu]; congr 1; funext k
  rcases k7 k with rfl | rfl | rfl | rfl | rfl | rfl | rfl | ⟨a, b, c, d, e, f, g⟩ <;> first | rfl | simp [upd, va_up, qf, a, b, c, d, e, f, g]
theorem n8_39 : va_up (N8 σ c o i m h to p) 60 (upd ((N8 σ c o i m h to p) 60) 39 v) = N8 σ c o i m h to v := by
  unfold N8; rw [bx_uu]; congr 1; funext k
  rcases k7 k with rfl | rfl | rfl | rfl | rfl | rfl | rfl | ⟨a, b, c, d, e, f, g⟩ <;> first | rfl | simp [upd, va_up, qf, a, b, c, d, e, f, g]
end NU
def R8 (t : NN) (σ : ZI) : Prop := TK t ∧ RP 0 t σ ∧ RS t σ
theorem R8_M8 {t : NN} {σ : ZI} (q : R8 t σ) : M8 t σ := ⟨q.1, q.2.2.2.2.1, q.2.2.2.2.2.2.2.2.2.1⟩
theorem and_n : ∀ i, i < 10 → ∀ s, s < 1024 → (nI s &&& nI (2 ^ i)) = (if s.testBit i = true then nI (2 ^ i) else 0) := by decide +kernel
theorem arm168 {t : NN} {σ : ZI} (q : R8 t σ) {a b : Int32} {j : Nat} (hj : j < 10) (k : ZI → Int32 → Int32 → Option ZI) (c o i h to p v3 : Int32) : ∀ (d m fu me : Nat), m + d = t 0 1 → d < fu → me < 2 ^ 3 → f_X8_nights_168 a b k fu (N8 σ c o i (nI me) h to p) v3 (nI (j + 1)) (nI m) = (if t 0 5 = j + 1 then k (N8 σ c o i (nI (if m ≤ aa t j ∧ aa t j < t 0 1 then me ||| 2 ^ aa t j else me)) h 1 p) 0 (nI (j + 2)) else k (N8 σ c o i (nI (if m ≤ aa t j ∧ aa t j < t 0 1 then me ||| 2 ^ aa t j else me)) h to p) v3 (nI (j + 2))) := by
  obtain ⟨kk, rp, rs⟩ := q
  have k1 := kk.1
  have k2 := kk.2.1
  intro d
  induction d with
  | zero =>
    intro m fu me h3 h4 h5
    obtain ⟨fu, rfl⟩ : ∃ m, fu = m + 1 := ⟨fu - 1, by omega⟩
    obtain rfl : m = t 0 1 := by omega
    rw [f_X8_nights_168, show (N8 σ c o i (nI me) h to p) 60 3 = _ from rs.2.1, if_pos (Int32.le_refl _), show (N8 σ c o i (nI me) h to p) 61 12 = _ from rp.2.2.2.2.1, if_neg (show ¬ (t 0 1 ≤ aa t j ∧ aa t j < t 0 1) by omega)]
    unfold f_X8_nights_233
    rw [nI_1]
    by_cases hb : t 0 5 = j + 1
    · rw [if_pos (by rw [hb]), if_pos hb, ltq, n8_38]
    · rw [if_neg (fun z => hb (nI_inj (by omega) (by omega) z)), if_neg hb]
  | succ d ih =>
    intro m fu me h3 h4 h5
    obtain ⟨fu, rfl⟩ : ∃ m, fu = m + 1 := ⟨fu - 1, by omega⟩
    have km := k2 m (by omega)
    rw [f_X8_nights_168, show (N8 σ c o i (nI me) h to p) 60 3 = _ from rs.2.1, if_neg (nI_ge (by omega) (by omega)), show (2 : Int32) * nI m = nI (2 * m) from pk_mul 2 m, inB_n (by omega) (by omega), if_pos rfl, nI_clamp (by omega), show (N8 σ c o i (nI me) h to p) 62 (2 * m) = _ from (rs.2.2.2.2.2.2.1 m (by omega)).1]
    unfold f_X8_nights_204
    rw [ltq, ltq, n8_36, n8_36, nI_1, show (N8 σ c o i (nI me) h to p) 60 36 = nI me from rfl, Int32.or_zero, sbl (by omega), or_n (by omega) (by omega)]
    dsimp only
    by_cases hm : t 2 m = j + 1
    · have e : aa t j = m := by
        have := ma_is (mj := t 2) (M := t 0 1) (m := m) (by omega) km.2.1 kk.2.2.1
        rw [hm] at this
        exact this
      rw [if_pos (by rw [hm]), ih (m + 1) fu _ (by omega) (by omega) (Nat.or_lt_two_pow h5 (Nat.pow_lt_pow_right (by omega) (by omega))), e, if_neg (show ¬ (m + 1 ≤ m ∧ m < t 0 1) by omega), if_pos (show m ≤ m ∧ m < t 0 1 by omega)]
    · have e : aa t j < t 0 1 → aa t j ≠ m := by
        intro h he
        have := fi_yes (p := fun m => t 2 m == j + 1) (n := t 0 1) h
        rw [show fi (fun m => t 2 m == j + 1) (t 0 1) = m from he] at this
        simp at this
        exact hm this
      rw [if_neg (fun z => hm (nI_inj (by omega) (by omega) z)), ih (m + 1) fu _ (by omega) (by omega) h5]
      have e2 : (if m + 1 ≤ aa t j ∧ aa t j < t 0 1 then me ||| 2 ^ aa t j else me) = (if m ≤ aa t j ∧ aa t j < t 0 1 then me ||| 2 ^ aa t j else me) := by
        by_cases z : m + 1 ≤ aa t j ∧ aa t j < t 0 1
        · rw [if_pos z, if_pos ⟨by omega, z.2⟩]
        · rw [if_neg z, if_neg]
          rintro ⟨z1, z2⟩
          have := e z2
          exact z ⟨by omega, z2⟩
      rw [e2]
def c8 (t : NN) (σ : ZI) (x n j : Nat) : ZI := N8 σ (nI (tC t x n j)) (tO t x n j) (tI t x n j) (nI (tM t x n j)) (nI (tH t x n j)) (nI (tT t x n j)) (nI (tQ t x n j))
theorem go8 {t : NN} {σ : ZI} (q : R8 t σ) {x n : Nat} (hx : x < 2 ^ 31) (hn : n < 2 ^ 31) : ∀ (d j fu : Nat), j + d = t 0 0 → d < fu → f_X8_nights_42 (nI x) (nI n) fu (c8 t σ x n j) (hg t x n j) (nI (j + 1)) = some (c8 t σ x n (t 0 0)) := by
  have kk := q.1
  have k1 := kk.1
  have rp := q.2.1
  have rs := q.2.2
  intro d
  induction d with
  | zero =>
    intro j fu h3 h4
    obtain ⟨fu, rfl⟩ : ∃ m, fu = m + 1 := ⟨fu - 1, by omega⟩
    obtain rfl : j = t 0 0 := by omega
    rw [f_X8_nights_42, show (c8 t σ x n (t 0 0)) 60 1 = _ from rs.1, if_pos (nI_lt (by omega) (by omega))]
  | succ d ih =>
    intro j fu h3 h4
    obtain ⟨fu, rfl⟩ : ∃ m, fu = m + 1 := ⟨fu - 1, by omega⟩
    have hc0 : tC t x n (j + 1) ≤ j + 1 := cn_le (t 4) (t 0 2) x n (j + 1)
    have q' : M8 t (c8 t σ x n j) := ⟨kk, rs.2.2.1, rs.2.2.2.2.2.2.2.1⟩
    rw [f_X8_nights_42, show (c8 t σ x n j) 60 1 = _ from rs.1, if_neg (nI_nlt (by omega) (by omega)), cd8 q' (c := tC t x n j) (by omega) hx hn rfl, bso, ← tC_s]
    unfold c8
    rw [n8_33]
    have pass : ∀ (o i : Int32) (v4 : Int32), v4 = 1 → tp t x n j = 1 → tS t x n j ≠ 3 → f_X8_nights_123 (nI x) (nI n) (fun σ v4 v5 => f_X8_nights_42 (nI x) (nI n) fu σ v4 v5) (N8 σ (nI (tC t x n (j + 1))) o i (nI (tM t x n j)) (nI (tH t x n j)) (nI (tT t x n j)) (nI (tQ t x n j))) v4 (nI (j + 1)) = f_X8_nights_42 (nI x) (nI n) fu (N8 σ (nI (tC t x n (j + 1))) o i (nI (tM t x n (j + 1))) (nI (tH t x n (j + 1))) (nI (tT t x n (j + 1))) (nI (tQ t x n (j + 1)))) (hg t x n (j + 1)) (nI (j + 1 + 1)) := by
      intro o i v4 hv hp hs
      subst hv
      have hM : tM t x n (j + 1) = if aa t j < t 0 1 then tM t x n j ||| 2 ^ aa t j else tM t x n j := by
        simp only [tM, hp, true_and]
      have hH : tH t x n (j + 1) = if (t 0 4).testBit j = true then tH t x n j ||| 2 ^ j else tH t x n j := by
        simp only [tH, hp, true_and]
      have hQ : tQ t x n (j + 1) = tQ t x n j ||| 2 ^ j := by
        simp only [tQ, hp, if_true]
      have t0 : tT t x n j = 0 := if_neg hs
      have e1 : tT t x n (j + 1) = if t 0 5 = j + 1 then 1 else 0 := by
        unfold tT
        rw [tS_s, hp]
        by_cases hb : t 0 5 = j + 1
        · rw [if_pos (show 1 = 1 ∧ j + 1 = t 0 5 from ⟨rfl, hb.symm⟩), if_pos rfl, if_pos hb]
        · rw [if_neg (show ¬ (1 = 1 ∧ j + 1 = t 0 5) from fun z => hb z.2.symm), if_neg (by omega), if_neg hb]
      have e2 : hg t x n (j + 1) = if t 0 5 = j + 1 then 0 else 1 := by
        unfold hg
        rw [tS_s, hp]
        by_cases hb : t 0 5 = j + 1
        · rw [if_pos (show 1 = 1 ∧ j + 1 = t 0 5 from ⟨rfl, hb.symm⟩), if_neg (by omega), if_pos hb]
        · rw [if_neg (show ¬ (1 = 1 ∧ j + 1 = t 0 5) from fun z => hb z.2.symm), if_pos rfl, if_neg hb]
      have hh : (nI (tH t x n j) ||| (nI (t 0 4) &&& nI (2 ^ j))) = nI (tH t x n (j + 1)) := by
        rw [and_n j (by omega) _ (TK_s kk), hH]
        by_cases hb : (t 0 4).testBit j = true
        · rw [if_pos hb, if_pos hb, or_n (by omega) (tH_lt x n j (by omega))]
        · rw [if_neg hb, if_neg hb, Int32.or_zero]
      unfold f_X8_nights_123
      rw [if_neg (by decide), nI_pred, sbl (by omega), ltq, ltq, n8_39, n8_37]
      rw [show ∀ a b c d e f g : Int32, (N8 σ a b c d e f g) 60 39 = g from fun _ _ _ _ _ _ _ => rfl]
      rw [show ∀ a b c d e f g : Int32, (N8 σ a b c d e f g) 60 37 = e from fun _ _ _ _ _ _ _ => rfl]
      rw [show ∀ a b c d e f g : Int32, (N8 σ a b c d e f g) 61 11 = nI (t 0 4) from fun _ _ _ _ _ _ _ => rp.2.2.2.1]
      rw [or_n (by omega) (tQ_lt x n j (by omega)), ← hQ, hh]
      rw [show ∀ (k : ZI → Int32 → Int32 → Option ZI) (a b c d e f g : Int32), f_X8_nights_168 (nI x) (nI n) k 3000 (N8 σ a b c (nI (tM t x n j)) e f g) 1 (nI (j + 1)) 0 = _ from fun k a b c d e f g => arm168 (a := nI x) (b := nI n) q (by omega) k a b c e f g 1 (t 0 1) 0 3000 (tM t x n j) (by omega) (by omega) (tM_lt kk x n j)]
      · have : (0 ≤ aa t j ∧ aa t j < t 0 1) = (aa t j < t 0 1) := by simp
        simp only [this]
        rw [← hM, e1, e2, t0]
        by_cases hb : t 0 5 = j + 1
        · rw [if_pos hb, if_pos hb, if_pos hb]; rfl
        · rw [if_neg hb, if_neg hb, if_neg hb]
      · exact 0
    have rest : ∀ (o i : Int32), tp t x n j ≠ 1 → f_X8_nights_123 (nI x) (nI n) (fun σ v4 v5 => f_X8_nights_42 (nI x) (nI n) fu σ v4 v5) (N8 σ (nI (tC t x n (j + 1))) o i (nI (tM t x n j)) (nI (tH t x n j)) (nI (tT t x n j)) (nI (tQ t x n j))) 0 (nI (j + 1)) = f_X8_nights_42 (nI x) (nI n) fu (N8 σ (nI (tC t x n (j + 1))) o i (nI (tM t x n (j + 1))) (nI (tH t x n (j + 1))) (nI (tT t x n (j + 1))) (nI (tQ t x n (j + 1)))) (hg t x n (j + 1)) (nI (j + 1 + 1)) := by
      intro o i hp
      have hM : tM t x n (j + 1) = tM t x n j := by simp only [tM, hp, false_and, if_false]
      have hH : tH t x n (j + 1) = tH t x n j := by simp only [tH, hp, false_and, if_false]
      have hQ : tQ t x n (j + 1) = tQ t x n j := by simp only [tQ, hp, if_false]
      have hS : tS t x n (j + 1) = tp t x n j := by rw [tS_s, if_neg (fun z => hp z.1)]
      have hT : tT t x n (j + 1) = tT t x n j := by
        unfold tT
        rw [hS]
        by_cases h0 : tS t x n j = 0
        · rw [tp_0 h0, h0]; split <;> rfl
        · by_cases h1 : tS t x n j = 1
          · rw [tp_1 h1, h1]; split <;> rfl
          · rw [tp_2 h0 h1]
      have hh : hg t x n (j + 1) = 0 := by unfold hg; rw [hS, if_neg hp]
      unfold f_X8_nights_123 f_X8_nights_233
      rw [if_pos rfl, hM, hH, hT, hQ, hh, nI_1]
    rw [show ∀ a b c d e f g : Int32, (N8 σ a b c d e f g) 60 34 = b from fun _ _ _ _ _ _ _ => rfl]
    rw [show ∀ a b c d e f g : Int32, (N8 σ a b c d e f g) 60 33 = a from fun _ _ _ _ _ _ _ => rfl]
    rw [show ∀ a b c d e f g : Int32, (N8 σ a b c d e f g) 61 15 = nI (t 0 8) - 2 from fun _ _ _ _ _ _ _ => rp.2.2.2.2.2.2.2.1]
    rw [Int32.sub_add_cancel]
    have o4 := tO_4 (t := t) (x := x) (n := n) j (by omega)
    have fin := ih (j + 1) fu (by omega) (by omega)
    unfold c8 at fin
    rw [← fin]
    have e16 : ∀ a b c d e f g : Int32, (N8 σ a b c d e f g) 61 16 + 4 = nI (t 0 9) := fun _ _ _ _ _ _ _ => by
      show σ 61 16 + 4 = _
      rw [show σ 61 16 = nI (t 0 9) - 4 from rp.2.2.2.2.2.2.2.2.1, Int32.sub_add_cancel]
    by_cases s0 : tS t x n j = 0
    · have hI : tI t x n (j + 1) = tI t x n j := by simp only [tI, s0]; rw [if_neg (by omega)]
      rw [if_pos (o4.mpr s0), hI]
      by_cases a : t 0 8 ≤ tC t x n (j + 1)
      · have hO : tO t x n (j + 1) = nI (j + 1) := by simp only [tO]; rw [if_pos ⟨s0, a⟩]
        rw [if_neg (nI_nlt a (by omega)), ltq, n8_34, pass _ _ 1 rfl (by rw [tp_0 s0, if_pos a]) (by omega), hO]
      · have hO : tO t x n (j + 1) = tO t x n j := by simp only [tO]; rw [if_neg (fun z => a z.2)]
        have h0 : hg t x n j = 0 := by unfold hg; rw [s0, if_neg (by omega)]
        rw [if_pos (nI_lt (by omega) (by omega)), h0]
        unfold f_X8_nights_95
        rw [if_pos rfl, rest _ _ (by rw [tp_0 s0, if_neg a]; omega), hO]
    · have hO : tO t x n (j + 1) = tO t x n j := by simp only [tO]; rw [if_neg (fun z => s0 z.1)]
      rw [if_neg (fun z => s0 (o4.mp z)), hO]
      by_cases s1 : tS t x n j = 1
      · have h1 : hg t x n j = 1 := by unfold hg; rw [if_pos s1]
        rw [h1]
        unfold f_X8_nights_95
        rw [if_neg (by decide), e16]
        rw [show ∀ a b c d e f g : Int32, (N8 σ a b c d e f g) 60 33 = a from fun _ _ _ _ _ _ _ => rfl]
        by_cases a : t 0 9 ≤ tC t x n (j + 1)
        · have hI : tI t x n (j + 1) = nI (j + 1) := by simp only [tI]; rw [if_pos ⟨s1, a⟩]
          rw [if_neg (nI_nlt a (by omega)), ltq, n8_35, rest _ _ (by rw [tp_1 s1, if_pos a]; omega), hI]
        · have hI : tI t x n (j + 1) = tI t x n j := by simp only [tI]; rw [if_neg (fun z => a z.2)]
          rw [if_pos (nI_lt (by omega) (by omega)), pass _ _ 1 rfl (by rw [tp_1 s1, if_neg a]) (by omega), hI]
      · have hI : tI t x n (j + 1) = tI t x n j := by simp only [tI]; rw [if_neg (fun z => s1 z.1)]
        have h0 : hg t x n j = 0 := by unfold hg; rw [if_neg s1]
        rw [h0]
        unfold f_X8_nights_95
        rw [if_pos rfl, rest _ _ (by rw [tp_2 s0 s1]; exact s1), hI]
theorem night8 {t : NN} {σ : ZI} (q : R8 t σ) {x n : Nat} (hx : x < 2 ^ 31) (hn : n < 2 ^ 31) : f_X8_nights σ (nI x) (nI n) = some (c8 t σ x n (t 0 0)) := by
  have e : va_up (va_up (va_up (va_up (va_up (va_up (va_up σ 60 (upd (σ 60) 33 0)) 60 (upd (upd (σ 60) 33 0) 34 (-4))) 60 (upd (upd (upd (σ 60) 33 0) 34 (-4)) 35 (-4))) 60 (upd (upd (upd (upd (σ 60) 33 0) 34 (-4)) 35 (-4)) 36 0)) 60 (upd (upd (upd (upd (upd (σ 60) 33 0) 34 (-4)) 35 (-4)) 36 0) 37 0)) 60 (upd (upd (upd (upd (upd (upd (σ 60) 33 0) 34 (-4)) 35 (-4)) 36 0) 37 0) 38 0)) 60 (upd (upd (upd (upd (upd (upd (upd (σ 60) 33 0) 34 (-4)) 35 (-4)) 36 0) 37 0) 38 0) 39 0) = c8 t σ x n 0 := by
    unfold c8 N8
    rw [bx_uu, bx_uu, bx_uu, bx_uu, bx_uu, bx_uu]
    congr 1; funext k
    rcases k7 k with rfl | rfl | rfl | rfl | rfl | rfl | rfl | ⟨a, b, c, d, e, f, g⟩ <;> first | rfl | simp [upd, qf, a, b, c, d, e, f, g]
  unfold f_X8_nights
  rw [ltq, ltq, ltq, ltq, ltq, ltq, ltq]
  have := q.1.1
  refine Eq.trans ?_ (go8 q hx hn (t 0 0) 0 3000 (by omega) (by omega))
  rw [← e]
  rfl
end
section
/-! night, counts, drift -/
theorem P7_sg (σ : ZI) (o i m h to c : Int32) : Sg σ (P7 σ o i m h to c) := Dw_cell (Dw_refl 0 σ) (fun _ => .inl rfl)
theorem N8_sg (σ : ZI) (c o i m h to p : Int32) : Sg σ (N8 σ c o i m h to p) := Dw_cell (Dw_refl 0 σ) (fun k => by
  rcases k7 k with rfl | rfl | rfl | rfl | rfl | rfl | rfl | ⟨a, b, c, d, e, f, g⟩
  all_goals first | exact .inl rfl | exact .inr (.inr (by simp [qf, a, b, c, d, e, f, g])))
theorem s33_sg (σ : ZI) (v : Int32) : Sg σ (s33 σ v) := Dw_up (Dw_refl 0 σ) (.inl rfl)
theorem InvT_R8 {t : NN} {σ : ZI} (q : InvT t σ) : R8 t σ := ⟨q.1, q.2.2.1, q.2.2.2⟩
theorem InvT_T7 {t : NN} {σ : ZI} (q : InvT t σ) : T7 t σ := ⟨q.1, q.2.1⟩
theorem InvT_sg {t : NN} {σ σ' : ZI} (h : Sg σ σ') (q : InvT t σ) : InvT t σ' := InvT_fr (Dw_Ag h (by decide) (by decide)) q
theorem lo_hi {α : Type} {a : Int32} {n : Nat} {x y : α} : (if a < 0 then x else if nI n < a then x else y) = if a < nI 0 ∨ nI n < a then x else y := by
  by_cases h0 : a < 0
  · rw [if_pos h0, if_pos (.inl h0)]
  · rw [if_neg h0]
    by_cases h1 : nI n < a
    · rw [if_pos h1, if_pos (.inr h1)]
    · rw [if_neg h1, if_neg (fun q => q.elim h0 h1)]
theorem lo_ge {α : Type} {a : Int32} {n : Nat} {x y : α} : (if a < 0 then x else if nI n ≤ a then x else y) = if a < 0 ∨ nI n ≤ a then x else y := by
  by_cases h0 : a < 0
  · rw [if_pos h0, if_pos (.inl h0)]
  · rw [if_neg h0]
    by_cases h1 : nI n ≤ a
    · rw [if_pos h1, if_pos (.inr h1)]
    · rw [if_neg h1, if_neg (fun q => q.elim h0 h1)]
theorem p2J {J : Nat} (h : J ≤ 10) : 1 ≤ 2 ^ J ∧ 2 ^ J ≤ 1024 := ⟨Nat.one_le_two_pow, (Nat.pow_le_pow_right (by omega) h : 2 ^ J ≤ 2 ^ 10)⟩
theorem aJ7 {t : NN} {σ : ZI} (q : T7 t σ) (a : Int32) : f_X7_areJoints σ a = some (if a < 0 ∨ nI (2 ^ t 0 0) ≤ a then 0 else 1) := by
  have k1 := q.1.1
  unfold f_X7_areJoints
  rw [v1_0, bso, show σ 2 0 = _ from q.2.1 0 (by omega), sbl (by omega), lo_ge]
  split <;> rfl
theorem aM7 {t : NN} {σ : ZI} (q : T7 t σ) (a : Int32) : f_X7_areMarks σ a = some (if a < 0 ∨ nI (2 ^ t 0 2) ≤ a then 0 else 1) := by
  have k1 := q.1.1
  unfold f_X7_areMarks
  rw [v1_2, bso, show σ 2 2 = _ from q.2.1 2 (by omega), sbl (by omega), lo_ge]
  split <;> rfl
theorem aS8 {t : NN} {σ : ZI} (q : R8 t σ) (a b : Int32) : f_X8_areSets σ a b = some (if a < 0 ∨ nI (2 ^ t 0 0) ≤ a then 0 else if b < 0 ∨ nI (2 ^ t 0 2) ≤ b then 0 else 1) := by
  have k1 := q.1.1
  have p1 := p2J (J := t 0 0) (by omega)
  have p2 := p2J (J := t 0 2) (by omega)
  unfold f_X8_areSets
  rw [show σ 60 1 = _ from q.2.2.1, show σ 60 5 = _ from q.2.2.2.2.1, sbl (by omega), sbl (by omega), in_at 0 _ 0 (nI (2 ^ t 0 0) - 1) rfl rfl, in_at 0 _ 0 (nI (2 ^ t 0 2) - 1) rfl rfl]
  simp only [dec_lt (show 2 ^ t 0 0 < 2 ^ 30 by omega), dec_lt (show 2 ^ t 0 2 < 2 ^ 30 by omega), bso]
  by_cases h : a < 0 ∨ nI (2 ^ t 0 0) ≤ a
  · rw [if_pos h, if_pos h, if_pos rfl]
  · rw [if_neg h, if_neg h, if_neg (by decide)]
    by_cases h2 : b < 0 ∨ nI (2 ^ t 0 2) ≤ b
    · rw [if_pos h2, if_pos rfl]
    · rw [if_neg h2, if_neg (by decide)]
theorem isN7 (a : Int32) : f_X7_isNightPart a = some (if a < nI 0 ∨ nI 5 < a then 0 else 1) := by
  unfold f_X7_isNightPart
  rw [show (5 : Int32) = nI 5 from rfl, lo_hi]
  split <;> rfl
theorem ans7 (σ : ZI) (o i m h to c : Int32) {w : Nat} (hw : w ≤ 5) : f_X1_answer (P7 σ o i m h to c) (nI w) = some (if w = 0 then o else if w = 1 then i else if w = 2 then m else if w = 3 then h else if w = 4 then to else c) := by
  have : w = 0 ∨ w = 1 ∨ w = 2 ∨ w = 3 ∨ w = 4 ∨ w = 5 := by omega
  rcases this with rfl | rfl | rfl | rfl | rfl | rfl <;> rfl
theorem ans8 (σ : ZI) (c o i m h to p : Int32) {w : Nat} (hw : w ≤ 5) : f_X8_nightTold (N8 σ c o i m h to p) (nI w) = some (if w = 0 then o else if w = 1 then i else if w = 2 then m else if w = 3 then h else if w = 4 then to else c) := by
  have : w = 0 ∨ w = 1 ∨ w = 2 ∨ w = 3 ∨ w = 4 ∨ w = 5 := by omega
  rcases this with rfl | rfl | rfl | rfl | rfl | rfl <;> rfl
/-- one night, on both sides, and asked -/
theorem both_n {t : NN} {σ : ZI} (I : Inv σ) (iT : InvT t σ) {x n w : Nat} (hx : x < 2 ^ 31) (hn : n < 2 ^ 31) (hw : w ≤ 5) : ∃ r σ1 σ2, ((f_X1_go σ 1 (nI x) (nI n)).bind fun q4 => (f_X1_answer q4 (nI w)).bind fun q5 => some (q5, q4)) = some (r, σ1) ∧ ((f_X8_nights σ1 (nI x) (nI n)).bind fun q3 => (f_X8_nightTold q3 (nI w)).bind fun q4 => some (q4, q3)) = some (r, σ2) ∧ Inv σ2 ∧ R8 t σ1 := by
  have r8 : R8 t (c7 t σ x n (t 0 0)) := InvT_R8 (InvT_sg (P7_sg _ _ _ _ _ _ _) iT)
  refine ⟨if w = 0 then tO t x n (t 0 0) else if w = 1 then tI t x n (t 0 0) else if w = 2 then nI (tM t x n (t 0 0)) else if w = 3 then nI (tH t x n (t 0 0)) else if w = 4 then nI (tT t x n (t 0 0)) else nI (tC t x n (t 0 0)), c7 t σ x n (t 0 0), c8 t (c7 t σ x n (t 0 0)) x n (t 0 0), ?_, ?_, ?_, r8⟩
  · rw [night7 (InvT_T7 iT) hx hn, bso]
    unfold c7
    rw [ans7 _ _ _ _ _ _ _ hw, bso]
  · rw [night8 r8 hx hn, bso]
    show ((f_X8_nightTold (c8 t (c7 t σ x n (t 0 0)) x n (t 0 0)) (nI w)).bind fun q4 => some (q4, c8 t (c7 t σ x n (t 0 0)) x n (t 0 0))) = _
    unfold c8
    rw [ans8 _ _ _ _ _ _ _ _ hw, bso]
  · exact Inv_sg (N8_sg _ _ _ _ _ _ _ _) (Inv_sg (P7_sg _ _ _ _ _ _ _) I)
theorem u_night {σ : ZI} (I : Inv σ) (a b w : Int32) : ∃ r σ1 σ2, f_X7_night σ a b w = some (r, σ1) ∧ f_X8_night σ1 a b w = some (r, σ2) ∧ Inv σ2 := by
  obtain ⟨t, iT, iR⟩ := id I
  have k1 := iT.1.1
  have p1 := p2J (J := t 0 0) (by omega)
  have p2 := p2J (J := t 0 2) (by omega)
  unfold f_X7_night f_X8_night
  rw [aJ7 (InvT_T7 iT), aM7 (InvT_T7 iT), isN7]
  simp only [bso]
  rcases ix_cases a (n := 2 ^ t 0 0) (by omega) with h | ⟨x, hx, rfl⟩
  · exact ⟨-1, σ, σ, by rw [if_pos h]; rfl, by rw [aS8 (InvT_R8 iT), if_pos h]; rfl, I⟩
  have hx' := ix_no hx (show 2 ^ t 0 0 < 2 ^ 31 by omega)
  rw [if_neg hx', if_neg (by decide)]
  rcases ix_cases b (n := 2 ^ t 0 2) (by omega) with h | ⟨n, hn, rfl⟩
  · exact ⟨-1, σ, σ, by rw [if_pos h]; rfl, by rw [aS8 (InvT_R8 iT), if_neg hx', if_pos h]; rfl, I⟩
  have hn' := ix_no hn (show 2 ^ t 0 2 < 2 ^ 31 by omega)
  rw [if_neg hn', if_neg (by decide)]
  by_cases hw : w < nI 0 ∨ nI 5 < w
  · refine ⟨-1, σ, σ, by rw [if_pos hw]; rfl, ?_, I⟩
    rw [aS8 (InvT_R8 iT), if_neg hx', if_neg hn', bso, if_neg (by decide), in_at 0 5 0 5 rfl rfl, if_pos (show w < 0 ∨ 5 < w from hw)]
    rfl
  obtain ⟨v, v1, v2, rfl⟩ := rng hw (by omega) (by omega)
  rw [if_neg hw, if_neg (by decide)]
  obtain ⟨r, s1, s2, e1, e2, e3, e4⟩ := both_n I iT (x := x) (n := n) (w := v) (by omega) (by omega) v2
  refine ⟨r, s1, s2, e1, ?_, e3⟩
  rw [aS8 e4, if_neg hx', if_neg hn', bso, if_neg (by decide), in_at 0 5 0 5 rfl rfl, if_neg (show ¬ (nI v < 0 ∨ 5 < nI v) from hw), bso, if_neg (by decide)]
  exact e2
theorem ct7 {t : NN} {σ : ZI} (q : T7 t σ) {x n J : Nat} (hx : x < 2 ^ 31) (hn : n < 2 ^ 31) (hJ : J ≤ 10) : ∀ (d j fu : Nat), j + d = J → d < fu → f_X7_counts_36 σ (nI x) (nI n) (nI J) fu (nI (tC t x n j)) (nI (j + 1)) = some (nI (tC t x n J)) := by
  intro d
  induction d with
  | zero =>
    intro j fu h3 h4
    obtain ⟨fu, rfl⟩ : ∃ m, fu = m + 1 := ⟨fu - 1, by omega⟩
    obtain rfl : j = J := by omega
    rw [f_X7_counts_36, if_pos (nI_lt (by omega) (by omega))]
  | succ d ih =>
    intro j fu h3 h4
    obtain ⟨fu, rfl⟩ : ∃ m, fu = m + 1 := ⟨fu - 1, by omega⟩
    rw [f_X7_counts_36, if_neg (nI_nlt (by omega) (by omega)), cb7 q (by omega) hx hn, bso, ← tC_s, nI_1, ih (j + 1) fu (by omega) (by omega)]
theorem ct8_l {t : NN} {σ : ZI} (q : M8 t σ) {x n J : Nat} (hx : x < 2 ^ 31) (hn : n < 2 ^ 31) (hJ : J ≤ 10) : ∀ (d j fu : Nat), j + d = J → d < fu → f_X8_countAt_8 (nI x) (nI n) (nI J) fu (s33 σ (nI (tC t x n j))) (nI (j + 1)) = some (nI (tC t x n J), s33 σ (nI (tC t x n J))) := by
  intro d
  induction d with
  | zero =>
    intro j fu h3 h4
    obtain ⟨fu, rfl⟩ : ∃ m, fu = m + 1 := ⟨fu - 1, by omega⟩
    obtain rfl : j = J := by omega
    rw [f_X8_countAt_8, if_pos (nI_lt (by omega) (by omega))]
    rfl
  | succ d ih =>
    intro j fu h3 h4
    obtain ⟨fu, rfl⟩ : ∃ m, fu = m + 1 := ⟨fu - 1, by omega⟩
    have q' : M8 t (s33 σ (nI (tC t x n j))) := ⟨q.1, q.2.1, q.2.2⟩
    have e : s33 (s33 σ (nI (tC t x n j))) (nI (cb t x n j (tC t x n j))) = s33 σ (nI (tC t x n (j + 1))) := s33_s33 σ _ _
    rw [f_X8_countAt_8, if_neg (nI_nlt (by omega) (by omega)), cd8 q' (c := tC t x n j) (by omega) hx hn rfl, bso, nI_1, e, ih (j + 1) fu (by omega) (by omega)]
theorem ct8 {t : NN} {σ : ZI} (q : M8 t σ) {x n J : Nat} (hx : x < 2 ^ 31) (hn : n < 2 ^ 31) (hJ : J ≤ 10) : f_X8_countAt σ (nI x) (nI n) (nI J) = some (nI (tC t x n J), s33 σ (nI (tC t x n J))) := by
  unfold f_X8_countAt
  rw [ltq]
  exact ct8_l q hx hn hJ J 0 3000 (by omega) (by omega)
theorem u_counts {σ : ZI} (I : Inv σ) (a b w : Int32) : ∃ r σ2, f_X7_counts σ a b w = some r ∧ f_X8_counts σ a b w = some (r, σ2) ∧ Inv σ2 := by
  obtain ⟨t, iT, iR⟩ := id I
  have k1 := iT.1.1
  have p1 := p2J (J := t 0 0) (by omega)
  have p2 := p2J (J := t 0 2) (by omega)
  unfold f_X7_counts f_X8_counts
  rw [aJ7 (InvT_T7 iT), aM7 (InvT_T7 iT), aS8 (InvT_R8 iT)]
  simp only [bso]
  rcases ix_cases a (n := 2 ^ t 0 0) (by omega) with h | ⟨x, hx, rfl⟩
  · exact ⟨-1, σ, by rw [if_pos h]; rfl, by rw [if_pos h]; rfl, I⟩
  have hx' := ix_no hx (show 2 ^ t 0 0 < 2 ^ 31 by omega)
  rw [if_neg hx', if_neg hx', if_neg (by decide)]
  rcases ix_cases b (n := 2 ^ t 0 2) (by omega) with h | ⟨n, hn, rfl⟩
  · exact ⟨-1, σ, by rw [if_pos h]; rfl, by rw [if_pos h]; rfl, I⟩
  have hn' := ix_no hn (show 2 ^ t 0 2 < 2 ^ 31 by omega)
  have eK : σ 60 1 = nI (t 0 0) := iT.2.2.2.1
  rw [if_neg hn', if_neg (show ¬ (1 : Int32) = 0 by decide), if_neg (show ¬ (1 : Int32) = 0 by decide), in_at 0 _ 0 (σ 60 1) rfl rfl, eK, isJ7, show σ 2 0 = _ from iT.2.1.1 0 (by omega), bso]
  have J7 : ∀ J, J ≤ t 0 0 → f_X7_counts_30 σ (nI x) (nI n) (nI J) = some (nI (tC t x n J)) := fun J hJ => ct7 (InvT_T7 iT) (by omega) (by omega) (by omega) J 0 3000 (by omega) (by omega)
  by_cases hj : w < nI 0 ∨ nI (t 0 0) < w
  · refine ⟨-1, σ, ?_, by rw [if_pos (show w < 0 ∨ nI (t 0 0) < w from hj)]; rfl, I⟩
    have h0 : w ≠ 0 := by rintro rfl; exact absurd hj (rng' (v := 0) (lo := 0) (hi := t 0 0) (by omega) (by omega) (by omega))
    have h1 : w < 1 ∨ nI (t 0 0) < w := by
      rcases hj with h | h
      · left
        rw [Int32.lt_iff_toInt_lt] at h ⊢
        have e1 : (nI 0).toInt = 0 := rfl
        have e2 : (1 : Int32).toInt = 1 := rfl
        omega
      · exact .inr h
    rw [if_neg h0, if_pos h1]; rfl
  obtain ⟨j, j1, j2, rfl⟩ := rng hj (by omega) (by omega)
  refine ⟨nI (tC t x n j), s33 σ (nI (tC t x n j)), ?_, ?_, Inv_sg (s33_sg _ _) I⟩
  · by_cases h0 : j = 0
    · subst h0
      rw [if_pos nI_0]
      exact J7 0 (by omega)
    · rw [if_neg (nI_ne0 (by omega) (by omega)), if_neg (show ¬ (nI j < 1 ∨ nI (t 0 0) < nI j) from rng' (lo := 1) (by omega) j2 (by omega)), if_neg (by decide)]
      exact J7 j j2
  · rw [if_neg (show ¬ (nI j < 0 ∨ nI (t 0 0) < nI j) from hj), bso, if_neg (by decide), ct8 (R8_M8 (InvT_R8 iT)) (by omega) (by omega) (by omega)]
    rfl
def fg (s : Int32) : Int32 := (((s >>> ((16 : Int32) &&& 31)) &&& (32767 : Int32)) - ((s >>> ((16 : Int32) &&& 31)) &&& (32767 : Int32)) / (10 : Int32) * (10 : Int32))
def sd (s : Int32) : Int32 := (s * (1103515245 : Int32)) + (12345 : Int32)
theorem dr1 {t : NN} {σ : ZI} (iT : InvT t σ) {a w : Int32} : ∀ (d j : Nat) (s : Int32) (m : Nat), j + d = t 0 0 → m < 2 ^ 10 → ∃ s' m', m' < 2 ^ 10 ∧ (∀ fu, d < fu → f_X7_drift_17 a w fu σ s (nI m) (nI (j + 1)) = f_X7_drift_74 a w 3000 σ s' (nI m') 0 0) ∧ (∀ fu σ', R8 t σ' → d < fu → f_X8_drift_25 a w fu σ' s (nI m) 0 (nI j) = f_X8_drift_84 a w 3000 σ' s' (nI m') 0 0) := by
  have k1 := iT.1.1
  intro d
  induction d with
  | zero =>
    intro j s m hj hm
    obtain rfl : j = t 0 0 := by omega
    refine ⟨s, m, hm, fun fu hf => ?_, fun fu σ' r8 hf => ?_⟩
    · obtain ⟨fu, rfl⟩ : ∃ m, fu = m + 1 := ⟨fu - 1, by omega⟩
      rw [f_X7_drift_17, v1_0, bso, show σ 2 0 = _ from iT.2.1.1 0 (by omega), if_pos (nI_lt (by omega) (by omega))]
    · obtain ⟨fu, rfl⟩ : ∃ m, fu = m + 1 := ⟨fu - 1, by omega⟩
      rw [f_X8_drift_25, show σ' 60 1 = _ from r8.2.2.1, if_pos (Int32.le_refl _)]
  | succ d ih =>
    intro j s m hj hm
    by_cases hs : nI (t 0 6) ≤ fg (sd s)
    · obtain ⟨s', m', i0, i1, i2⟩ := ih (j + 1) (sd s) m (by omega) hm
      refine ⟨s', m', i0, fun fu hf => ?_, fun fu σ' r8 hf => ?_⟩
      · obtain ⟨fu, rfl⟩ : ∃ m, fu = m + 1 := ⟨fu - 1, by omega⟩
        rw [f_X7_drift_17, v1_0, bso, show σ 2 0 = _ from iT.2.1.1 0 (by omega), if_neg (nI_nlt (by omega) (by omega)), show f_X7_nextSeed s = some (sd s) from rfl, bso, show f_X7_figureOf (sd s) = some (fg (sd s)) from rfl, bso, v1_6, bso, show σ 2 6 = _ from iT.2.1.1 6 (by omega), if_pos hs]
        unfold f_X7_drift_62
        rw [nI_1]
        exact i1 fu (by omega)
      · obtain ⟨fu, rfl⟩ : ∃ m, fu = m + 1 := ⟨fu - 1, by omega⟩
        have e : f_X8_slip σ' = some (nI (t 0 6)) := by
          unfold f_X8_slip
          rw [show σ' 61 13 = _ from r8.2.1.2.2.2.2.2.1, Int32.sub_add_cancel]
        rw [f_X8_drift_25, show σ' 60 1 = _ from r8.2.2.1, if_neg (nI_ge (by omega) (by omega)), ltq, e, bso]
        refine (if_pos hs).trans ?_
        unfold f_X8_drift_72
        rw [nI_1, Int32.or_zero]
        exact i2 fu σ' r8 (by omega)
    · obtain ⟨s', m', i0, i1, i2⟩ := ih (j + 1) (sd s) (m ||| 2 ^ j) (by omega) (Nat.or_lt_two_pow hm (Nat.pow_lt_pow_right (by omega) (by omega)))
      refine ⟨s', m', i0, fun fu hf => ?_, fun fu σ' r8 hf => ?_⟩
      · obtain ⟨fu, rfl⟩ : ∃ m, fu = m + 1 := ⟨fu - 1, by omega⟩
        rw [f_X7_drift_17, v1_0, bso, show σ 2 0 = _ from iT.2.1.1 0 (by omega), if_neg (nI_nlt (by omega) (by omega)), show f_X7_nextSeed s = some (sd s) from rfl, bso, show f_X7_figureOf (sd s) = some (fg (sd s)) from rfl, bso, v1_6, bso, show σ 2 6 = _ from iT.2.1.1 6 (by omega), if_neg hs]
        unfold f_X7_drift_62
        rw [nI_pred, sbl (by omega), or_n (by omega) hm, ltq, nI_1]
        exact i1 fu (by omega)
      · obtain ⟨fu, rfl⟩ : ∃ m, fu = m + 1 := ⟨fu - 1, by omega⟩
        have e : f_X8_slip σ' = some (nI (t 0 6)) := by
          unfold f_X8_slip
          rw [show σ' 61 13 = _ from r8.2.1.2.2.2.2.2.1, Int32.sub_add_cancel]
        rw [f_X8_drift_25, show σ' 60 1 = _ from r8.2.2.1, if_neg (nI_ge (by omega) (by omega)), ltq, e, bso]
        refine (if_neg hs).trans ?_
        unfold f_X8_drift_72
        rw [nI_1, sbl (by omega), or_n (by omega) hm]
        exact i2 fu σ' r8 (by omega)
theorem dr2 {t : NN} {σ : ZI} (iT : InvT t σ) {a w : Int32} {x : Int32} : ∀ (d j : Nat) (s : Int32) (m : Nat), j + d = t 0 2 → m < 2 ^ 3 → ∃ m', m' < 2 ^ 3 ∧ (∀ fu, d < fu → f_X7_drift_74 a w fu σ s x (nI m) (nI j) = (f_X1_go σ 1 x (nI m')).bind fun q4 => (f_X1_answer q4 w).bind fun q5 => some (q5, q4)) ∧ (∀ fu σ', R8 t σ' → d < fu → f_X8_drift_84 a w fu σ' s x (nI m) (nI j) = (f_X8_nights σ' x (nI m')).bind fun q2 => (f_X8_nightTold q2 w).bind fun q3 => some (q3, q2)) := by
  have k1 := iT.1.1
  have k4 := iT.1.2.2.2.1
  intro d
  induction d with
  | zero =>
    intro j s m hj hm
    obtain rfl : j = t 0 2 := by omega
    refine ⟨m, hm, fun fu hf => ?_, fun fu σ' r8 hf => ?_⟩
    · obtain ⟨fu, rfl⟩ : ∃ m, fu = m + 1 := ⟨fu - 1, by omega⟩
      rw [f_X7_drift_74, v1_2, bso, show σ 2 2 = _ from iT.2.1.1 2 (by omega), if_pos (Int32.le_refl _)]
    · obtain ⟨fu, rfl⟩ : ∃ m, fu = m + 1 := ⟨fu - 1, by omega⟩
      rw [f_X8_drift_84, show σ' 60 5 = _ from r8.2.2.2.2.1, if_pos (Int32.le_refl _)]
  | succ d ih =>
    intro j s m hj hm
    have e7 : f_X7_at σ 7 (nI j) = some (nI (t 5 j)) := by rw [at_n (N := 3) rfl (by omega) (by omega)]; exact congrArg some (iT.2.1.2.2.1 j (by omega)).2
    have e8 : ∀ σ' : ZI, R8 t σ' → σ' 61 (3 + j) = nI (t 5 j) := fun σ' r8 => by
      have := r8.2.1.2.1 j (by omega)
      rw [Nat.zero_add] at this
      exact this
    by_cases hs : nI (t 5 j) ≤ fg (sd s)
    · obtain ⟨m', i0, i1, i2⟩ := ih (j + 1) (sd s) m (by omega) hm
      refine ⟨m', i0, fun fu hf => ?_, fun fu σ' r8 hf => ?_⟩
      · obtain ⟨fu, rfl⟩ : ∃ m, fu = m + 1 := ⟨fu - 1, by omega⟩
        rw [f_X7_drift_74, v1_2, bso, show σ 2 2 = _ from iT.2.1.1 2 (by omega), if_neg (nI_ge (by omega) (by omega)), show f_X7_nextSeed s = some (sd s) from rfl, bso, show f_X7_figureOf (sd s) = some (fg (sd s)) from rfl, bso, e7, bso, if_pos hs]
        unfold f_X7_drift_120
        rw [nI_1]
        exact i1 fu (by omega)
      · obtain ⟨fu, rfl⟩ : ∃ m, fu = m + 1 := ⟨fu - 1, by omega⟩
        rw [f_X8_drift_84, show σ' 60 5 = _ from r8.2.2.2.2.1, if_neg (nI_ge (by omega) (by omega)), ltq, show (3 : Int32) + nI j = nI (3 + j) from nI_add 3 j, inB_n (by omega) (by omega), if_pos rfl, nI_clamp (by omega), e8 σ' r8]
        refine (if_pos hs).trans ?_
        unfold f_X8_drift_136
        rw [nI_1, Int32.or_zero]
        exact i2 fu σ' r8 (by omega)
    · obtain ⟨m', i0, i1, i2⟩ := ih (j + 1) (sd s) (m ||| 2 ^ j) (by omega) (Nat.or_lt_two_pow hm (Nat.pow_lt_pow_right (by omega) (by omega)))
      refine ⟨m', i0, fun fu hf => ?_, fun fu σ' r8 hf => ?_⟩
      · obtain ⟨fu, rfl⟩ : ∃ m, fu = m + 1 := ⟨fu - 1, by omega⟩
        rw [f_X7_drift_74, v1_2, bso, show σ 2 2 = _ from iT.2.1.1 2 (by omega), if_neg (nI_ge (by omega) (by omega)), show f_X7_nextSeed s = some (sd s) from rfl, bso, show f_X7_figureOf (sd s) = some (fg (sd s)) from rfl, bso, e7, bso, if_neg hs]
        unfold f_X7_drift_120
        rw [sbl (by omega), or_n (by omega) (by omega), ltq, nI_1]
        exact i1 fu (by omega)
      · obtain ⟨fu, rfl⟩ : ∃ m, fu = m + 1 := ⟨fu - 1, by omega⟩
        rw [f_X8_drift_84, show σ' 60 5 = _ from r8.2.2.2.2.1, if_neg (nI_ge (by omega) (by omega)), ltq, show (3 : Int32) + nI j = nI (3 + j) from nI_add 3 j, inB_n (by omega) (by omega), if_pos rfl, nI_clamp (by omega), e8 σ' r8]
        refine (if_neg hs).trans ?_
        unfold f_X8_drift_136
        rw [nI_1, sbl (by omega), or_n (by omega) (by omega)]
        exact i2 fu σ' r8 (by omega)
theorem u_drift {σ : ZI} (I : Inv σ) (a w : Int32) : ∃ r σ1 σ2, f_X7_drift σ a w = some (r, σ1) ∧ f_X8_drift σ1 a w = some (r, σ2) ∧ Inv σ2 := by
  obtain ⟨t, iT, iR⟩ := id I
  have k1 := iT.1.1
  unfold f_X7_drift f_X8_drift
  rw [isN7, bso]
  by_cases hw : w < nI 0 ∨ nI 5 < w
  · refine ⟨-1, σ, σ, by rw [if_pos hw]; rfl, ?_, I⟩
    rw [in_at 0 5 0 5 rfl rfl, if_pos (show w < 0 ∨ 5 < w from hw)]
    rfl
  obtain ⟨v, v1, v2, rfl⟩ := rng hw (by omega) (by omega)
  rw [if_neg hw, if_neg (by decide), in_at 0 5 0 5 rfl rfl, if_neg (show ¬ (nI v < 0 ∨ 5 < nI v) from hw)]
  obtain ⟨s', x, hx, d1, d2⟩ := dr1 iT (a := a) (w := nI v) (t 0 0) 0 a 0 (by omega) (by omega)
  obtain ⟨n, hn, d3, d4⟩ := dr2 iT (a := a) (w := nI v) (x := nI x) (t 0 2) 0 s' 0 (by omega) (by omega)
  obtain ⟨r, s1, s2, e1, e2, e3, e4⟩ := both_n I iT (x := x) (n := n) (w := v) (by omega) (by omega) v2
  refine ⟨r, s1, s2, ?_, ?_, e3⟩
  · exact ((d1 3000 (by omega)).trans (d3 3000 (by omega))).trans e1
  · simp only [bso]
    rw [if_neg (by decide)]
    exact ((d2 3000 s1 e4 (by omega)).trans (d4 3000 s1 e4 (by omega))).trans e2
end
section
/-! the class's odds: one joint -/
def iL (z : Int) : Int64 := Int64.ofInt z
theorem iL_add (a b : Int) : iL (a + b) = iL a + iL b := Int64.ofInt_add a b
theorem iL_mul (a b : Int) : iL (a * b) = iL a * iL b := Int64.ofInt_mul a b
theorem iL_0 : iL 0 = 0 := rfl
theorem iL_1 : iL 1 = 1 := rfl
theorem lN_iL (n : Nat) : lN n = iL n := by
  unfold lN iL
  exact (Int64.ofInt_eq_ofNat).symm
theorem nI_iL {n : Nat} (h : n < 2 ^ 31) : (nI n).toInt64 = iL n := by rw [nI_l h, lN_iL]
theorem cmp0 (x y : Int64) : lg_cmp x y = 0 ↔ x = y := by
  unfold lg_cmp
  constructor
  · intro h
    by_cases h1 : x > y
    · rw [if_pos h1] at h; exact absurd h (by decide)
    · rw [if_neg h1] at h
      by_cases h2 : x = y
      · exact h2
      · rw [if_neg h2] at h; exact absurd h (by decide)
  · rintro rfl
    rw [if_neg (show ¬ x > x from Int64.lt_irrefl), if_pos rfl]
def Rw (τ : ZL) (r : Nat) (f : Nat → Int) : Prop := ∀ k, k < 11 → τ r k = iL (f k)
theorem Rw_cg {τ : ZL} {r : Nat} {f g : Nat → Int} (h : Rw τ r f) (e : ∀ k, k < 11 → f k = g k) : Rw τ r g := fun k hk => by rw [← e k hk]; exact h k hk
theorem inB11 {k : Nat} (h : k < 11) : inB (nI k) 11 = true := inB_n h (by omega)
/-- the sum from a place on -/
theorem sm_ge (f : Nat → Int) {i n : Nat} (h : i < n) : sm (fun c => if i ≤ c then f c else 0) n = sm (fun c => if i + 1 ≤ c then f c else 0) n + f i := by
  have e : sm (fun c => if i ≤ c then f c else 0) n = sm (fun c => (if i + 1 ≤ c then f c else 0) + if c = i then f i else 0) n := sm_congr fun c _ => by
    by_cases h1 : i + 1 ≤ c
    · rw [if_pos (by omega), if_pos h1, if_neg (by omega)]; omega
    · by_cases h2 : c = i
      · subst h2; rw [if_pos (by omega), if_neg h1, if_pos rfl]; omega
      · rw [if_neg (by omega), if_neg h1, if_neg h2]; omega
  rw [e, sm_add, sm_delta, if_pos h]
/-- the row when all counts from i on are through -/
def pj (a b n o : Int) (j : Nat) (f : Nat → Int) (i k : Nat) : Int :=
  (if k < i then f k else if k ≤ j then f k * (o * a) else 0) + (if i < k ∧ k ≤ j + 1 then f (k - 1) * (o * b) else 0) + (if k = j + 1 then sm (fun c => if i ≤ c then f c else 0) (j + 1) * (n * (a + b)) else 0)
theorem pj_top {a b n o : Int} {j : Nat} {f : Nat → Int} (hz : ∀ k, j < k → k < 11 → f k = 0) (k : Nat) (hk : k < 11) : pj a b n o j f (j + 1) k = f k := by
  unfold pj
  have e : sm (fun c => if j + 1 ≤ c then f c else 0) (j + 1) = 0 := by
    rw [sm_congr (g := fun _ => 0) (fun c hc => if_neg (by omega)), sm_zero]
  rw [e, if_neg (show ¬ (j + 1 < k ∧ k ≤ j + 1) by omega)]
  by_cases h : k < j + 1
  · rw [if_pos h, if_neg (by omega)]; omega
  · rw [if_neg h, if_neg (by omega), hz k (by omega) hk]; simp
theorem pj_bot (a b n o : Int) (j : Nat) (f : Nat → Int) (k : Nat) : pj a b n o j f 0 k = sp a b n o j f k := by
  unfold pj sp
  have e : sm (fun c => if 0 ≤ c then f c else 0) (j + 1) = sm f (j + 1) := sm_congr fun c _ => if_pos (Nat.zero_le c)
  rw [e, if_neg (Nat.not_lt_zero k)]
  have : (0 < k ∧ k ≤ j + 1) = (1 ≤ k ∧ k ≤ j + 1) := rfl
  simp only [this]
theorem pj_step (a b n o : Int) {j : Nat} (f : Nat → Int) {i : Nat} (hi : i ≤ j) (k : Nat) : pj a b n o j f i k = (if k = i then 0 else pj a b n o j f (i + 1) k) + f i * ((if k = i then o * a else 0) + (if k = i + 1 then o * b else 0) + (if k = j + 1 then n * (a + b) else 0)) := by
  have s := sm_ge f (show i < j + 1 by omega)
  unfold pj
  by_cases h1 : k = i
  · subst h1
    simp [hi, show ¬ k = j + 1 by omega]
  · by_cases h2 : k = i + 1
    · subst h2
      by_cases h3 : i = j
      · subst h3
        simp [s]
        grind
      · simp [show ¬ i + 1 = j + 1 by omega, show i + 1 ≤ j by omega]
        grind
    · by_cases h3 : k = j + 1
      · subst h3
        simp [s, show ¬ j + 1 < i by omega, h1, h2, show i < j + 1 by omega, show i + 1 < j + 1 by omega, show ¬ j + 1 < i + 1 by omega]
        grind
      · by_cases h4 : k < i
        · simp [h1, h2, h3, h4, show k < i + 1 by omega, show ¬ i < k by omega, show ¬ i + 1 < k by omega]
        · simp [h1, h2, h3, h4, show ¬ k < i + 1 by omega, show i < k by omega, show i + 1 < k by omega]
theorem vu_s (τ : ZL) (r p : Nat) (v : Int64) : va_up τ r (vp_updL (τ r) p v) r p = v := by simp [va_up, vp_updL]
theorem vu_n (τ : ZL) {r p c k : Nat} {v : Int64} (h : c ≠ r ∨ k ≠ p) : va_up τ r (vp_updL (τ r) p v) c k = τ c k := by
  by_cases h1 : c = r
  · subst h1
    rcases h with h | h
    · exact absurd rfl h
    · simp [va_up, vp_updL, h]
  · simp [va_up, h1]
/-- one count of a joint -/
theorem pj_l {r : Nat} (hr : r = 47 ∨ r = 48) {a b n o : Int} {j : Nat} {f : Nat → Int} (hj : j < 10) : ∀ (i fu : Nat) (τ : ZL), i ≤ j + 1 → i < fu → Rw τ r (pj a b n o j f i) → τ 42 (j + 1) = iL a → τ 43 (j + 1) = iL b → τ 44 (j + 1) = iL n → τ 45 (j + 1) = iL o → ∃ τ', f_X0_passJoint_23 r (nI (j + 1)) fu τ (nI i + (-1)) = some τ' ∧ (∀ c k, c ≠ r → τ' c k = τ c k) ∧ Rw τ' r (pj a b n o j f 0) := by
  have h11 : (ar r).2 = 11 := by rcases hr with rfl | rfl <;> rfl
  intro i
  induction i with
  | zero =>
    intro fu τ h1 h2 h3 e0 e1 e2 e3
    obtain ⟨fu, rfl⟩ : ∃ m, fu = m + 1 := ⟨fu - 1, by omega⟩
    exact ⟨τ, by rw [f_X0_passJoint_23, if_pos (by decide)], fun _ _ _ => rfl, h3⟩
  | succ i ih =>
    intro fu τ h1 h2 h3 e0 e1 e2 e3
    obtain ⟨fu, rfl⟩ : ∃ m, fu = m + 1 := ⟨fu - 1, by omega⟩
    have ew : τ r i = iL (f i) := by
      rw [h3 i (by omega)]
      unfold pj
      simp [show ¬ i = j + 1 by omega, show ¬ i + 1 < i by omega]
    rw [pk_m1, f_X0_passJoint_23, if_neg (nI_pos (by omega)), h11, inB11 (by omega), if_pos rfl, nI_clamp (by omega)]
    unfold f_X0_passJoint_108
    by_cases hw : τ r i = 0
    · rw [if_pos ((cmp0 _ _).mpr hw)]
      refine ih fu τ (by omega) (by omega) (fun k hk => ?_) e0 e1 e2 e3
      rw [pj_step a b n o f (by omega) k, iL_add, iL_mul, ← ew, hw, Int64.zero_mul, Int64.add_zero]
      by_cases hk2 : k = i
      · subst hk2; rw [if_pos rfl, hw, iL_0]
      · rw [if_neg hk2]; exact h3 k hk
    · rw [if_neg (fun q => hw ((cmp0 _ _).mp q)), inB11 (show j + 1 < 11 by omega), if_pos rfl, ltq, if_pos rfl, if_pos rfl, ltq, nI_1, inB11 (show i + 1 < 11 by omega), if_pos rfl, if_pos rfl, if_pos rfl, ltq, if_pos rfl, if_pos rfl, if_pos rfl, if_pos rfl, if_pos rfl, ltq, nI_clamp (show i + 1 < 2 ^ 31 by omega), nI_clamp (show j + 1 < 2 ^ 31 by omega)]
      obtain ⟨t1, ht1⟩ : ∃ t1, t1 = va_up τ r (vp_updL (τ r) i (τ r i * τ 45 (j + 1) * τ 42 (j + 1))) := ⟨_, rfl⟩
      rw [← ht1]
      obtain ⟨t2, ht2⟩ : ∃ t2, t2 = va_up t1 r (vp_updL (t1 r) (i + 1) (t1 r (i + 1) + τ r i * τ 45 (j + 1) * t1 43 (j + 1))) := ⟨_, rfl⟩
      rw [← ht2]
      have o1 : ∀ c k, c ≠ r → t1 c k = τ c k := fun c k h => by rw [ht1]; exact vu_n τ (.inl h)
      have o2 : ∀ c k, c ≠ r → t2 c k = τ c k := fun c k h => by rw [ht2, vu_n t1 (.inl h), o1 c k h]
      have r4 : ∀ c, 42 ≤ c → c ≤ 45 → c ≠ r := fun c _ _ => by omega
      rw [o1 43 _ (r4 43 (by omega) (by omega)), e3, e1] at ht2
      rw [e3, e0] at ht1
      rw [o2 44 _ (r4 44 (by omega) (by omega)), o2 42 _ (r4 42 (by omega) (by omega)), o2 43 _ (r4 43 (by omega) (by omega)), e2, e0, e1]
      obtain ⟨t3, ht3⟩ : ∃ t3, t3 = va_up t2 r (vp_updL (t2 r) (j + 1) (t2 r (j + 1) + τ r i * iL n * (iL a + iL b))) := ⟨_, rfl⟩
      rw [← ht3]
      have o3 : ∀ c k, c ≠ r → t3 c k = τ c k := fun c k h => by rw [ht3, vu_n t2 (.inl h), o2 c k h]
      have hw3 : Rw t3 r (pj a b n o j f i) := fun k hk => by
        rw [pj_step a b n o f (by omega) k]
        have q1 : ∀ k, t1 r k = if k = i then iL (f i * o * a) else τ r k := fun k => by
          by_cases z : k = i
          · subst z; rw [ht1, vu_s, if_pos rfl, ew, iL_mul, iL_mul]
          · rw [ht1, vu_n τ (.inr z), if_neg z]
        have q2 : ∀ k, t2 r k = if k = i + 1 then τ r (i + 1) + iL (f i * o * b) else t1 r k := fun k => by
          by_cases z : k = i + 1
          · subst z; rw [ht2, vu_s, if_pos rfl, ew, iL_mul, iL_mul, q1, if_neg (by omega)]
          · rw [ht2, vu_n t1 (.inr z), if_neg z]
        have q3 : ∀ k, t3 r k = if k = j + 1 then t2 r (j + 1) + iL (f i * n * (a + b)) else t2 r k := fun k => by
          by_cases z : k = j + 1
          · subst z; rw [ht3, vu_s, if_pos rfl, ew, iL_mul, iL_mul, iL_add]
          · rw [ht3, vu_n t2 (.inr z), if_neg z]
        have h3k := fun k (hk : k < 11) => h3 k hk
        by_cases z1 : k = i
        · subst z1
          rw [q3, if_neg (by omega), q2, if_neg (by omega), q1, if_pos rfl, if_pos rfl, if_pos rfl, if_neg (by omega), if_neg (by omega)]
          congr 1
          grind
        · by_cases z2 : k = j + 1
          · subst z2
            rw [q3, if_pos rfl, q2, q1]
            simp only [z1, if_false, eq_self, if_true]
            by_cases z3 : j + 1 = i + 1
            · have z4 : j = i := by omega
              subst z4
              simp only [eq_self, if_true]
              rw [h3 _ hk, ← iL_add, ← iL_add]
              congr 1
              grind
            · simp only [z3, if_false]
              rw [h3 _ hk, ← iL_add]
              congr 1
              grind
          · rw [q3, if_neg z2, q2, q1, if_neg z1, if_neg z1, if_neg z1, if_neg z2]
            by_cases z3 : k = i + 1
            · subst z3
              rw [if_pos rfl, if_pos rfl, h3 _ hk, ← iL_add]
              congr 1
              grind
            · rw [if_neg z3, if_neg z3, h3 _ hk]
              congr 1
              grind
      obtain ⟨τ', g1, g2, g3⟩ := ih fu t3 (by omega) (by omega) hw3 (by rw [o3 42 _ (r4 42 (by omega) (by omega))]; exact e0) (by rw [o3 43 _ (r4 43 (by omega) (by omega))]; exact e1) (by rw [o3 44 _ (r4 44 (by omega) (by omega))]; exact e2) (by rw [o3 45 _ (r4 45 (by omega) (by omega))]; exact e3)
      exact ⟨τ', g1, fun c k h => (g2 c k h).trans (o3 c k h), g3⟩
theorem pj7 {τ : ZL} {r : Nat} (hr : r = 47 ∨ r = 48) {a b n o : Int} {j : Nat} {f : Nat → Int} (hj : j < 10) (hf : Rw τ r f) (hz : ∀ k, j < k → k < 11 → f k = 0) (e0 : τ 42 (j + 1) = iL a) (e1 : τ 43 (j + 1) = iL b) (e2 : τ 44 (j + 1) = iL n) (e3 : τ 45 (j + 1) = iL o) : ∃ τ', f_X0_passJoint τ r (nI (j + 1)) = some τ' ∧ (∀ c k, c ≠ r → τ' c k = τ c k) ∧ Rw τ' r (sp a b n o j f) := by
  obtain ⟨τ', g1, g2, g3⟩ := pj_l hr (a := a) (b := b) (n := n) (o := o) (f := f) hj (j + 1) 3000 τ (by omega) (by omega) (fun k hk => by rw [pj_top hz k hk]; exact hf k hk) e0 e1 e2 e3
  refine ⟨τ', ?_, g2, fun k hk => by rw [g3 k hk, pj_bot]⟩
  have h1 : (ar r).1 = 2 ∧ (ar r).2 = 11 := by rcases hr with rfl | rfl <;> exact ⟨rfl, rfl⟩
  unfold f_X0_passJoint
  rw [h1.1, h1.2, if_pos rfl, if_neg (show ¬ nI (j + 1) < 1 from nI_nlt (a := j + 1) (b := 1) (by omega) (by omega)), if_neg (show ¬ (11 : Int32) ≤ nI (j + 1) from nI_ge (b := 11) (by omega) (by omega)), if_pos (by decide), nI_pred]
  rw [pk_m1] at g1
  exact g1
/-- the other loops over a row -/
theorem fill_l {r : Nat} (h11 : (ar r).2 = 11) : ∀ (d i fu : Nat) (τ : ZL), i + d = 11 → d < fu → (∀ k, k < i → τ r k = 0) → ∃ τ', f_J7_fill_d0a16_6 r 0 fu τ (nI i) (nI 11) = some τ' ∧ (∀ c k, c ≠ r → τ' c k = τ c k) ∧ Rw τ' r (fun _ => 0) := by
  intro d
  induction d with
  | zero =>
    intro i fu τ h1 h2 h3
    obtain ⟨fu, rfl⟩ : ∃ m, fu = m + 1 := ⟨fu - 1, by omega⟩
    obtain rfl : i = 11 := by omega
    exact ⟨τ, by rw [f_J7_fill_d0a16_6, if_pos (Int32.le_refl _)], fun _ _ _ => rfl, fun k hk => h3 k hk⟩
  | succ d ih =>
    intro i fu τ h1 h2 h3
    obtain ⟨fu, rfl⟩ : ∃ m, fu = m + 1 := ⟨fu - 1, by omega⟩
    rw [f_J7_fill_d0a16_6, if_neg (nI_ge (by omega) (by omega)), h11, inB11 (by omega), if_pos rfl, ltq, nI_1, nI_clamp (by omega)]
    obtain ⟨τ', g1, g2, g3⟩ := ih (i + 1) fu (va_up τ r (vp_updL (τ r) i 0)) (by omega) (by omega) (fun k hk => by
      by_cases z : k = i
      · subst z; exact vu_s τ r k 0
      · rw [vu_n τ (.inr z)]; exact h3 k (by omega))
    exact ⟨τ', g1, fun c k h => (g2 c k h).trans (vu_n τ (.inl h)), g3⟩
theorem fill7 (τ : ZL) {r : Nat} (h1 : (ar r).1 = 2) (h11 : (ar r).2 = 11) : ∃ τ', f_J7_fill_d0a16 τ r 0 = some τ' ∧ (∀ c k, c ≠ r → τ' c k = τ c k) ∧ Rw τ' r (fun _ => 0) := by
  unfold f_J7_fill_d0a16
  rw [h1, if_pos rfl, h11]
  exact fill_l h11 11 0 3000 τ (by omega) (by omega) (fun k hk => absurd hk (Nat.not_lt_zero _))
theorem start7 (τ : ZL) : ∃ τ', f_X0_start τ = some τ' ∧ (∀ c k, c ≠ 47 → c ≠ 48 → τ' c k = τ c k) ∧ Rw τ' 47 (fun c => if c = 0 then 1 else 0) ∧ Rw τ' 48 (fun _ => 0) := by
  obtain ⟨t1, a1, a2, a3⟩ := fill7 τ (r := 47) rfl rfl
  obtain ⟨t2, b1, b2, b3⟩ := fill7 t1 (r := 48) rfl rfl
  unfold f_X0_start
  rw [a1, bso, b1, bso, ltq]
  refine ⟨_, rfl, fun c k h1 h2 => ?_, fun k hk => ?_, fun k hk => ?_⟩
  · rw [vu_n t2 (.inl h1), b2 c k h2, a2 c k h1]
  · dsimp only
    by_cases z : k = 0
    · subst z; rw [vu_s, if_pos rfl]; rfl
    · rw [vu_n t2 (.inr z), b2 47 k (by omega), a3 k hk, if_neg z]
  · rw [vu_n t2 (.inl (by omega))]; exact b3 k hk
theorem take_l (x : Int32) {f : Nat → Int} : ∀ (d i fu : Nat) (τ : ZL), i + d = 11 → d < fu → Rw τ 48 f → ∃ τ', f_X0_takeIn_6 x fu τ (nI i) = some τ' ∧ (∀ c k, c ≠ 48 → τ' c k = τ c k) ∧ Rw τ' 48 (fun k => if i ≤ k then 0 else f k) := by
  intro d
  induction d generalizing f with
  | zero =>
    intro i fu τ h1 h2 h3
    obtain ⟨fu, rfl⟩ : ∃ m, fu = m + 1 := ⟨fu - 1, by omega⟩
    obtain rfl : i = 11 := by omega
    exact ⟨τ, by rw [f_X0_takeIn_6, if_pos (Int32.le_refl _)], fun _ _ _ => rfl, fun k hk => by dsimp only; rw [if_neg (by omega)]; exact h3 k hk⟩
  | succ d ih =>
    intro i fu τ h1 h2 h3
    obtain ⟨fu, rfl⟩ : ∃ m, fu = m + 1 := ⟨fu - 1, by omega⟩
    rw [f_X0_takeIn_6, if_neg (nI_ge (by omega) (by omega)), inB11 (by omega), if_pos rfl, ltq, nI_1, nI_clamp (by omega)]
    obtain ⟨τ', g1, g2, g3⟩ := ih (f := fun k => if k = i then 0 else f k) (i + 1) fu (va_up τ 48 (vp_updL (τ 48) i 0)) (by omega) (by omega) (fun k hk => by
      dsimp only
      by_cases z : k = i
      · subst z; rw [vu_s, if_pos rfl]; rfl
      · rw [vu_n τ (.inr z), if_neg z]; exact h3 k hk)
    refine ⟨τ', g1, fun c k h => (g2 c k h).trans (vu_n τ (.inl h)), Rw_cg g3 fun k hk => ?_⟩
    by_cases z : i + 1 ≤ k
    · rw [if_pos z, if_pos (by omega)]
    · rw [if_neg z]
      by_cases z2 : k = i
      · rw [if_pos z2, if_pos (by omega)]
      · rw [if_neg z2, if_neg (by omega)]
theorem take7 {τ : ZL} {f : Nat → Int} {IN : Nat} (h : IN ≤ 11) (hf : Rw τ 48 f) : ∃ τ', f_X0_takeIn τ (nI IN) = some τ' ∧ (∀ c k, c ≠ 48 → τ' c k = τ c k) ∧ Rw τ' 48 (fun k => if IN ≤ k then 0 else f k) := by
  unfold f_X0_takeIn
  rw [ltq, if_neg (nI_pos (by omega))]
  exact take_l (nI IN) (11 - IN) IN 3000 τ (by omega) (by omega) hf
theorem put_l (x : Int32) {f g : Nat → Int} {v : Int} : ∀ (d i fu : Nat) (τ : ZL), i + d = 11 → d < fu → Rw τ 47 f → Rw τ 48 g → ∃ τ', f_X0_putOut_9 x fu τ (iL v) (nI i) = some (iL (v + sm (fun c => if i ≤ c then f c else 0) 11), τ') ∧ (∀ c k, c ≠ 47 → c ≠ 48 → τ' c k = τ c k) ∧ Rw τ' 47 (fun k => if i ≤ k then 0 else f k) ∧ Rw τ' 48 (fun k => g k + if i ≤ k then f k else 0) := by
  intro d
  induction d generalizing f g v with
  | zero =>
    intro i fu τ h1 h2 h3 h4
    obtain ⟨fu, rfl⟩ : ∃ m, fu = m + 1 := ⟨fu - 1, by omega⟩
    obtain rfl : i = 11 := by omega
    have e : sm (fun c => if 11 ≤ c then f c else 0) 11 = 0 := by rw [sm_congr (g := fun _ => 0) (fun c hc => if_neg (by omega)), sm_zero]
    refine ⟨τ, by rw [f_X0_putOut_9, if_pos (Int32.le_refl _), e, Int.add_zero], fun _ _ _ _ => rfl, fun k hk => by dsimp only; rw [if_neg (by omega)]; exact h3 k hk, fun k hk => by dsimp only; rw [if_neg (by omega), Int.add_zero]; exact h4 k hk⟩
  | succ d ih =>
    intro i fu τ h1 h2 h3 h4
    obtain ⟨fu, rfl⟩ : ∃ m, fu = m + 1 := ⟨fu - 1, by omega⟩
    rw [f_X0_putOut_9, if_neg (nI_ge (by omega) (by omega)), if_neg (nI_ge (by omega) (by omega)), inB11 (by omega), if_pos rfl, ltq, if_pos rfl, if_pos rfl, if_pos rfl, ltq, if_pos rfl, ltq, nI_1, nI_clamp (by omega), h3 i (by omega), h4 i (by omega), ← iL_add, ← iL_add]
    obtain ⟨t1, ht1⟩ : ∃ t1, t1 = va_up τ 48 (vp_updL (τ 48) i (iL (g i + f i))) := ⟨_, rfl⟩
    rw [← ht1]
    obtain ⟨t2, ht2⟩ : ∃ t2, t2 = va_up t1 47 (vp_updL (t1 47) i 0) := ⟨_, rfl⟩
    rw [← ht2]
    obtain ⟨τ', g1, g2, g3, g4⟩ := ih (f := fun k => if k = i then 0 else f k) (g := fun k => if k = i then g i + f i else g k) (v := v + f i) (i + 1) fu t2 (by omega) (by omega) (fun k hk => by
      dsimp only
      by_cases z : k = i
      · subst z; rw [ht2, vu_s, if_pos rfl]; rfl
      · rw [ht2, vu_n t1 (.inr z), ht1, vu_n τ (.inl (by omega)), if_neg z]; exact h3 k hk) (fun k hk => by
      dsimp only
      by_cases z : k = i
      · subst z; rw [ht2, vu_n t1 (.inl (by omega)), ht1, vu_s, if_pos rfl]
      · rw [ht2, vu_n t1 (.inl (by omega)), ht1, vu_n τ (.inr z), if_neg z]; exact h4 k hk)
    have e : sm (fun c => if i + 1 ≤ c then (if c = i then 0 else f c) else 0) 11 = sm (fun c => if i + 1 ≤ c then f c else 0) 11 := sm_congr fun c _ => by
      by_cases z : i + 1 ≤ c
      · rw [if_pos z, if_pos z, if_neg (by omega)]
      · rw [if_neg z, if_neg z]
    refine ⟨τ', ?_, fun c k a b => ?_, Rw_cg g3 fun k hk => ?_, Rw_cg g4 fun k hk => ?_⟩
    · rw [g1, e, sm_ge f (show i < 11 by omega)]
      congr 2
      congr 1
      omega
    · rw [g2 c k a b, ht2, vu_n t1 (.inl a), ht1, vu_n τ (.inl b)]
    · by_cases z : i + 1 ≤ k
      · rw [if_pos z, if_pos (by omega)]
      · rw [if_neg z]
        by_cases z2 : k = i
        · rw [if_pos z2, if_pos (by omega)]
        · rw [if_neg z2, if_neg (by omega)]
    · by_cases z2 : k = i
      · subst z2
        rw [if_pos rfl, if_neg (by omega), if_pos (Nat.le_refl _)]
        omega
      · rw [if_neg z2]
        by_cases z : i + 1 ≤ k
        · rw [if_pos z, if_neg z2, if_pos (by omega)]
        · rw [if_neg z, if_neg (by omega)]
theorem put7 {τ : ZL} {f g : Nat → Int} {OUT : Nat} (h : OUT ≤ 11) (hf : Rw τ 47 f) (hg : Rw τ 48 g) : ∃ τ', f_X0_putOut τ (nI OUT) = some (iL (sm (fun c => if OUT ≤ c then f c else 0) 11), τ') ∧ (∀ c k, c ≠ 47 → c ≠ 48 → τ' c k = τ c k) ∧ Rw τ' 47 (fun k => if OUT ≤ k then 0 else f k) ∧ Rw τ' 48 (fun k => g k + if OUT ≤ k then f k else 0) := by
  unfold f_X0_putOut
  rw [ltq, if_neg (nI_pos (by omega))]
  obtain ⟨τ', g1, g2⟩ := put_l (nI OUT) (v := 0) (11 - OUT) OUT 3000 τ (by omega) (by omega) hf hg
  refine ⟨τ', ?_, g2⟩
  rw [Int.zero_add] at g1
  exact g1
theorem sum_l {τ : ZL} {r : Nat} (h11 : (ar r).2 = 11) {f : Nat → Int} (hf : Rw τ r f) : ∀ (d i fu : Nat), i + d = 11 → d < fu → f_X0_sumOf_4 τ r fu (iL (sm f i)) (nI i) = some (iL (sm f 11)) := by
  intro d
  induction d with
  | zero =>
    intro i fu h1 h2
    obtain ⟨fu, rfl⟩ : ∃ m, fu = m + 1 := ⟨fu - 1, by omega⟩
    obtain rfl : i = 11 := by omega
    rw [f_X0_sumOf_4, h11, if_pos (Int32.le_refl _)]
  | succ d ih =>
    intro i fu h1 h2
    obtain ⟨fu, rfl⟩ : ∃ m, fu = m + 1 := ⟨fu - 1, by omega⟩
    rw [f_X0_sumOf_4, h11, if_neg (nI_ge (by omega) (by omega)), inB11 (by omega), if_pos rfl, ltq, nI_1, nI_clamp (by omega), hf i (by omega), ← iL_add]
    exact ih (i + 1) fu (by omega) (by omega)
theorem sum7 {τ : ZL} {r : Nat} (h1 : (ar r).1 = 2) (h11 : (ar r).2 = 11) {f : Nat → Int} (hf : Rw τ r f) : f_X0_sumOf τ r = some (iL (sm f 11)) := by
  unfold f_X0_sumOf
  rw [h1, if_pos rfl]
  exact sum_l h11 hf 11 0 3000 (by omega) (by omega)
theorem atL_n {τ : ZL} {r k : Nat} (h1 : (ar r).1 = 2) (h11 : (ar r).2 = 11) (hk : k < 11) : f_X7_at_ τ r (nI k) = some (τ r k) := by
  unfold f_X7_at_
  rw [h1, h11, if_pos rfl, if_neg (nI_pos (by omega)), if_neg (nI_ge hk (by omega)), inB11 hk, if_pos rfl, nI_clamp (by omega)]
theorem putL_n {τ : ZL} {r k : Nat} {v : Int64} (h1 : (ar r).1 = 2) (h11 : (ar r).2 = 11) (hk : k < 11) : f_X7_put_ τ r (nI k) v = some (va_up τ r (vp_updL (τ r) k v)) := by
  unfold f_X7_put_
  rw [h1, h11, if_pos rfl, if_neg (nI_pos (by omega)), if_neg (nI_ge hk (by omega)), inB11 hk, if_pos rfl, ltq, nI_clamp (by omega)]
end
section
/-! the class's odds: weights, walks -/
def Wt (τ : ZL) (P : PP) (J : Nat) : Prop := ∀ j, j < J → τ 42 (j + 1) = iL (P 0 j) ∧ τ 43 (j + 1) = iL (P 1 j) ∧ τ 44 (j + 1) = iL (P 2 j) ∧ τ 45 (j + 1) = iL (P 3 j)
def Wg (τ : ZL) (P : PP) (J : Nat) : Prop := Wt τ P J ∧ ∀ m, m ≤ J → τ 46 (J - m) = iL (bh_ P J m)
theorem Wt_fr {τ τ' : ZL} {P : PP} {J : Nat} (h : ∀ c k, 42 ≤ c → c ≤ 45 → τ' c k = τ c k) (q : Wt τ P J) : Wt τ' P J := fun j hj => by
  obtain ⟨a, b, c, d⟩ := q j hj
  exact ⟨(h _ _ (by omega) (by omega)).trans a, (h _ _ (by omega) (by omega)).trans b, (h _ _ (by omega) (by omega)).trans c, (h _ _ (by omega) (by omega)).trans d⟩
theorem Wg_fr {τ τ' : ZL} {P : PP} {J : Nat} (h : ∀ c k, 42 ≤ c → c ≤ 46 → τ' c k = τ c k) (q : Wg τ P J) : Wg τ' P J := ⟨Wt_fr (fun c k h1 h2 => h c k h1 (by omega)) q.1, fun m hm => (h _ _ (by omega) (by omega)).trans (q.2 m hm)⟩
theorem beh_l {σ : ZI} {P : PP} {J : Nat} (hJ : J ≤ 10) : ∀ (d m fu : Nat) (τ : ZL), m + d = J → d < fu → Wt τ P J → (∀ k, k ≤ m → τ 46 (J - k) = iL (bh_ P J k)) → ∃ τ', f_X0_sumBehind_17 σ fu τ (nI d) = some τ' ∧ (∀ c k, c ≠ 46 → τ' c k = τ c k) ∧ Wg τ' P J := by
  intro d
  induction d with
  | zero =>
    intro m fu τ h1 h2 h3 h4
    obtain ⟨fu, rfl⟩ : ∃ m, fu = m + 1 := ⟨fu - 1, by omega⟩
    obtain rfl : m = J := by omega
    exact ⟨τ, by rw [f_X0_sumBehind_17, if_pos (by decide)], fun _ _ _ => rfl, h3, h4⟩
  | succ d ih =>
    intro m fu τ h1 h2 h3 h4
    obtain ⟨fu, rfl⟩ : ∃ m, fu = m + 1 := ⟨fu - 1, by omega⟩
    obtain ⟨a, b, c, e⟩ := h3 d (by omega)
    have hb := h4 m (by omega)
    rw [show J - m = d + 1 by omega] at hb
    have ib : inB (nI (d + 1)) 11 = true := inB11 (by omega)
    rw [f_X0_sumBehind_17, if_neg (show ¬ nI (d + 1) < 1 from nI_nlt (a := d + 1) (b := 1) (by omega) (by omega)), if_pos ib, if_pos ib, if_pos ib, if_pos ib, ltq, if_pos ib, nI_pred, inB11 (by omega), if_pos rfl, ltq, nI_clamp (by omega), nI_clamp (by omega), a, b, c, e, hb, pk_m1]
    obtain ⟨t1, ht1⟩ : ∃ t1, t1 = va_up τ 46 (vp_updL (τ 46) d (iL (bh_ P J m) * ((iL (P 0 d) + iL (P 1 d)) * (iL (P 2 d) + iL (P 3 d))))) := ⟨_, rfl⟩
    rw [← ht1]
    have o1 : ∀ c k, c ≠ 46 → t1 c k = τ c k := fun c k h => by rw [ht1]; exact vu_n τ (.inl h)
    obtain ⟨τ', g1, g2, g3⟩ := ih (m + 1) fu t1 (by omega) (by omega) (Wt_fr (fun c k _ _ => o1 c k (by omega)) h3) (fun k hk => by
      by_cases z : k = m + 1
      · subst z
        rw [show J - (m + 1) = d by omega, ht1, vu_s, ← iL_add, ← iL_add, ← iL_mul, ← iL_mul]
        have e : bh_ P J (m + 1) = bh_ P J m * ((P 0 (J - (m + 1)) + P 1 (J - (m + 1))) * (P 2 (J - (m + 1)) + P 3 (J - (m + 1)))) := rfl
        rw [e, show J - (m + 1) = d by omega]
      · rw [ht1, vu_n τ (.inr (by omega))]
        exact h4 k (by omega))
    exact ⟨τ', g1, fun c k h => (g2 c k h).trans (o1 c k h), g3⟩
theorem beh7 {σ : ZI} {τ : ZL} {P : PP} {J : Nat} (hJ : J ≤ 10) (hs : σ 41 0 = nI J) (h : Wt τ P J) : ∃ τ', f_X0_sumBehind σ τ = some τ' ∧ (∀ c k, c ≠ 46 → τ' c k = τ c k) ∧ Wg τ' P J := by
  unfold f_X0_sumBehind
  rw [hs, putL_n rfl rfl (by omega), bso]
  obtain ⟨τ', g1, g2, g3⟩ := beh_l (σ := σ) (P := P) hJ J 0 3000 (va_up τ 46 (vp_updL (τ 46) J 1)) (by omega) (by omega) (Wt_fr (fun c k _ _ => vu_n τ (.inl (by omega))) h) (fun k hk => by
    obtain rfl : k = 0 := by omega
    rw [Nat.sub_zero, vu_s]; rfl)
  exact ⟨τ', g1, fun c k h => (g2 c k h).trans (vu_n τ (.inl h)), g3⟩
def s41 (σ : ZI) (J : Nat) : ZI := va_up σ 41 (upd (σ 41) 0 (nI J))
theorem s41_sg (σ : ZI) (J : Nat) : Sg σ (s41 σ J) := Dw_up (Dw_refl 0 σ) (.inl rfl)
/-- the pairs of odds: he misses, he notices -/
def oq (s : Nat) : Nat → Int × Int := fun _ => ((s : Int), 10 - (s : Int))
def orr (cf : Nat → Nat) : Nat → Int × Int := fun m => ((cf m : Int), 10 - (cf m : Int))
def PO (t : NN) (s : Nat) (cf : Nat → Nat) : PP := PQ (oq s) (orr cf) (t 4) (t 0 2)
theorem i10 {c : Nat} (h : c ≤ 10) : ((10 : Int32) - nI c).toInt64 = iL (10 - (c : Int)) := by
  rw [show (10 : Int32) = nI 10 from rfl, pk_sub h, nI_iL (by omega)]
  congr 1
  omega
theorem wb_l {t : NN} {σ : ZI} (q : T7 t σ) {s : Nat} (hs : s ≤ 10) {cl : Int32} {cf : Nat → Nat} (hc : (cl = -4 ∧ cf = t 5) ∨ (∃ v, v ≤ 10 ∧ cl = nI v ∧ cf = fun _ => v)) (h41 : σ 41 0 = nI (t 0 0)) : ∀ (d j fu : Nat) (τ : ZL), j + d = t 0 0 → d < fu → Wt τ (PO t s cf) j → ∃ τ', f_X0_weighByOdds_17 1 (nI s) cl fu σ τ (nI (j + 1)) = some (σ, τ') ∧ (∀ c k, c < 42 ∨ 46 < c → τ' c k = τ c k) ∧ Wg τ' (PO t s cf) (t 0 0) := by
  obtain ⟨kk, tv⟩ := q
  have k1 := kk.1
  have k4 := kk.2.2.2.1
  intro d
  induction d with
  | zero =>
    intro j fu τ h1 h2 h3
    obtain ⟨fu, rfl⟩ : ∃ m, fu = m + 1 := ⟨fu - 1, by omega⟩
    obtain rfl : j = t 0 0 := by omega
    obtain ⟨τ', g1, g2, g3⟩ := beh7 (σ := σ) (by omega) h41 h3
    exact ⟨τ', by rw [f_X0_weighByOdds_17, h41, if_pos (nI_lt (by omega) (by omega)), g1, bso], fun c k h => g2 c k (by omega), g3⟩
  | succ d ih =>
    intro j fu τ h1 h2 h3
    obtain ⟨fu, rfl⟩ : ∃ m, fu = m + 1 := ⟨fu - 1, by omega⟩
    have ib : inB (nI (j + 1)) 11 = true := inB11 (by omega)
    rw [f_X0_weighByOdds_17, h41, if_neg (nI_nlt (by omega) (by omega)), mk_n (b := 1) (M := t 0 2) (j := j + 1) (mj := t 4) rfl rfl rfl (by omega) (by omega) (tv.1 2 (by omega)) (fun m hm => ⟨by have := k4 m hm; omega, (tv.2.2.1 m hm).1⟩), bso]
    have hf := fi_le (fun m => t 4 m == j + 1) (t 0 2)
    -- the tail, over what is written
    have tail : ∀ (v5 s0 : Int32) (n0 o0 : Int), n0 = PO t s cf 2 j → o0 = PO t s cf 3 j → (if v5 = -4 then (0 : Int64) else s0.toInt64) = iL n0 → (if v5 = -4 then (1 : Int64) else ((10 : Int32) - s0).toInt64) = iL o0 → ∃ τ', f_X0_weighByOdds_53 1 (nI s) cl (fun σ τ v4 => f_X0_weighByOdds_17 1 (nI s) cl fu σ τ v4) σ τ (nI (j + 1)) v5 s0 = some (σ, τ') ∧ (∀ c k, c < 42 ∨ 46 < c → τ' c k = τ c k) ∧ Wg τ' (PO t s cf) (t 0 0) := by
      intro v5 s0 n0 o0 en eo hn ho
      unfold f_X0_weighByOdds_53 f_X0_weighByOdds_96 f_X0_weighByOdds_120
      have key : ∀ (x y : Int64), x = iL n0 → y = iL o0 → ∃ τ', f_X0_weighByOdds_17 1 (nI s) cl fu σ (va_up (va_up (va_up (va_up τ 42 (vp_updL (τ 42) (j + 1) (iL s))) 43 (vp_updL (va_up τ 42 (vp_updL (τ 42) (j + 1) (iL s)) 43) (j + 1) (iL (10 - (s : Int))))) 44 (vp_updL (va_up (va_up τ 42 (vp_updL (τ 42) (j + 1) (iL s))) 43 (vp_updL (va_up τ 42 (vp_updL (τ 42) (j + 1) (iL s)) 43) (j + 1) (iL (10 - (s : Int)))) 44) (j + 1) x)) 45 (vp_updL (va_up (va_up (va_up τ 42 (vp_updL (τ 42) (j + 1) (iL s))) 43 (vp_updL (va_up τ 42 (vp_updL (τ 42) (j + 1) (iL s)) 43) (j + 1) (iL (10 - (s : Int))))) 44 (vp_updL (va_up (va_up τ 42 (vp_updL (τ 42) (j + 1) (iL s))) 43 (vp_updL (va_up τ 42 (vp_updL (τ 42) (j + 1) (iL s)) 43) (j + 1) (iL (10 - (s : Int)))) 44) (j + 1) x) 45) (j + 1) y)) (nI (j + 1 + 1)) = some (σ, τ') ∧ (∀ c k, c < 42 ∨ 46 < c → τ' c k = τ c k) ∧ Wg τ' (PO t s cf) (t 0 0) := by
        intro x y hx hy
        obtain ⟨t1, ht1⟩ : ∃ t1, t1 = va_up τ 42 (vp_updL (τ 42) (j + 1) (iL s)) := ⟨_, rfl⟩
        rw [← ht1]
        obtain ⟨t2, ht2⟩ : ∃ t2, t2 = va_up t1 43 (vp_updL (t1 43) (j + 1) (iL (10 - (s : Int)))) := ⟨_, rfl⟩
        rw [← ht2]
        obtain ⟨t3, ht3⟩ : ∃ t3, t3 = va_up t2 44 (vp_updL (t2 44) (j + 1) x) := ⟨_, rfl⟩
        rw [← ht3]
        obtain ⟨t4, ht4⟩ : ∃ t4, t4 = va_up t3 45 (vp_updL (t3 45) (j + 1) y) := ⟨_, rfl⟩
        rw [← ht4]
        have o4 : ∀ c k, ¬ (42 ≤ c ∧ c ≤ 45 ∧ k = j + 1) → t4 c k = τ c k := fun c k h => by
          rw [ht4, vu_n t3 (by omega), ht3, vu_n t2 (by omega), ht2, vu_n t1 (by omega), ht1, vu_n τ (by omega)]
        obtain ⟨τ', g1, g2, g3⟩ := ih (j + 1) fu t4 (by omega) (by omega) (fun i hi => by
          by_cases z : i = j
          · subst z
            refine ⟨?_, ?_, ?_, ?_⟩
            · rw [ht4, vu_n t3 (.inl (by omega)), ht3, vu_n t2 (.inl (by omega)), ht2, vu_n t1 (.inl (by omega)), ht1, vu_s]; rfl
            · rw [ht4, vu_n t3 (.inl (by omega)), ht3, vu_n t2 (.inl (by omega)), ht2, vu_s]; rfl
            · rw [ht4, vu_n t3 (.inl (by omega)), ht3, vu_s, hx, en]
            · rw [ht4, vu_s, hy, eo]
          · obtain ⟨a, b, c, e⟩ := h3 i (by omega)
            exact ⟨(o4 _ _ (by omega)).trans a, (o4 _ _ (by omega)).trans b, (o4 _ _ (by omega)).trans c, (o4 _ _ (by omega)).trans e⟩)
        exact ⟨τ', g1, fun c k h => (g2 c k h).trans (o4 c k (by omega)), g3⟩
      by_cases h5 : v5 = -4
      · rw [if_pos h5] at hn ho
        rw [if_pos ib, ltq, if_pos ib, ltq, if_pos h5, if_pos ib, ltq, if_pos h5, if_pos ib, ltq, nI_1, nI_clamp (by omega), nI_iL (by omega), i10 hs]
        exact key _ _ hn ho
      · rw [if_neg h5] at hn ho
        rw [if_pos ib, ltq, if_pos ib, ltq, if_neg h5, if_pos ib, ltq, if_neg h5, if_pos ib, ltq, nI_1, nI_clamp (by omega), nI_iL (by omega), i10 hs]
        exact key _ _ hn ho
    have e2 : PO t s cf 2 j = if fi (fun m => t 4 m == j + 1) (t 0 2) < t 0 2 then (cf (fi (fun m => t 4 m == j + 1) (t 0 2)) : Int) else 0 := rfl
    have e3 : PO t s cf 3 j = if fi (fun m => t 4 m == j + 1) (t 0 2) < t 0 2 then (10 - (cf (fi (fun m => t 4 m == j + 1) (t 0 2)) : Int)) else 1 := rfl
    by_cases hm : fi (fun m => t 4 m == j + 1) (t 0 2) < t 0 2
    · rw [if_pos hm]
      rw [if_pos hm] at e2 e3
      have n4 := nI_nm4 (k := fi (fun m => t 4 m == j + 1) (t 0 2)) (by omega)
      rcases hc with ⟨h1, h2⟩ | ⟨v, hv, h1, h2⟩
      · have c10 := (k4 _ hm).2.2
        rw [if_pos h1, at_n (r := 1 + 6) (N := 3) rfl (by omega) (by omega), bso, show σ (1 + 6) _ = _ from (tv.2.2.1 _ hm).2]
        refine tail _ _ _ _ rfl rfl ?_ ?_
        · rw [if_neg n4, nI_iL (by omega), e2, h2]
        · rw [if_neg n4, i10 c10, e3, h2]
      · rw [if_neg (by rw [h1]; exact nI_nm4 (by omega)), h1]
        rw [h1] at tail
        refine tail _ _ _ _ rfl rfl ?_ ?_
        · rw [if_neg n4, nI_iL (by omega), e2, h2]
        · rw [if_neg n4, i10 hv, e3, h2]
    · rw [if_neg hm]
      rw [if_neg hm] at e2 e3
      rcases hc with ⟨h1, h2⟩ | ⟨v, hv, h1, h2⟩
      · rw [if_pos h1, at_neg (r := 1 + 6) (N := 3) rfl (by decide), bso]
        exact tail _ _ _ _ rfl rfl (by rw [if_pos rfl, e2]; rfl) (by rw [if_pos rfl, e3]; rfl)
      · rw [if_neg (by rw [h1]; exact nI_nm4 (by omega))]
        exact tail _ _ _ _ rfl rfl (by rw [if_pos rfl, e2]; rfl) (by rw [if_pos rfl, e3]; rfl)
theorem wb7 {t : NN} {σ : ZI} (q : T7 t σ) (τ : ZL) {s : Nat} (hs : s ≤ 10) {cl : Int32} {cf : Nat → Nat} (hc : (cl = -4 ∧ cf = t 5) ∨ (∃ v, v ≤ 10 ∧ cl = nI v ∧ cf = fun _ => v)) : ∃ τ', f_X0_weighByOdds σ τ 1 (nI s) cl = some (s41 σ (t 0 0), τ') ∧ (∀ c k, c < 42 ∨ 46 < c → τ' c k = τ c k) ∧ Wg τ' (PO t s cf) (t 0 0) := by
  have k1 := q.1.1
  have q' : T7 t (s41 σ (t 0 0)) := ⟨q.1, TV_fr (fun r i h1 h2 => by show va_up σ 41 _ (1 + r) i = _; simp only [va_up, if_neg (show 1 + r ≠ 41 by omega)]) q.2⟩
  unfold f_X0_weighByOdds
  rw [if_pos (by decide), v1_0, bso, show σ 2 0 = _ from q.2.1 0 (by omega), ltq, if_neg (show ¬ (10 : Int32) < nI (t 0 0) from nI_nlt (b := t 0 0) (a := 10) (by omega) (by omega))]
  exact wb_l q' hs hc (show upd (σ 41) 0 (nI (t 0 0)) 0 = _ from pk_us) (t 0 0) 0 3000 τ (by omega) (by omega) (fun j hj => absurd hj (Nat.not_lt_zero _))
end
section
/-! the class's odds: all joints -/
def K1 : Nat → Nat → Bool := fun _ _ => true
theorem sp_hi {a b n o : Int} {j : Nat} {f : Nat → Int} {c : Nat} (h : j + 1 < c) : sp a b n o j f c = 0 := by
  unfold sp
  rw [if_neg (by omega), if_neg (by omega), if_neg (by omega)]
  rfl
theorem w1_hi {a b n o : Int} {K : Nat → Bool} {j : Nat} {f : Nat → Int} {c : Nat} (h : j + 1 < c) : w1_ a b n o K j f c = 0 := by
  unfold w1_
  rw [sp_hi h]
  split <;> rfl
theorem rw_hi (P : PP) (K : Nat → Nat → Bool) (OUT IN BR : Nat) : ∀ (j c : Nat), j < c → (rw_ P K OUT IN BR j).1 c = 0 ∧ (rw_ P K OUT IN BR j).2 c = 0
  | 0, c, h => ⟨if_neg (show ¬ c = 0 by omega), rfl⟩
  | j + 1, c, h => by
    unfold rw_ st_ h2_
    dsimp only
    rw [w1_hi h, w1_hi h]
    refine ⟨?_, ?_⟩
    · show (if OUT ≤ c then (0 : Int) else 0) = 0
      split <;> rfl
    · show (if j + 1 = BR then (0 : Int) else (if IN ≤ c then 0 else 0) + (if OUT ≤ c then 0 else 0)) = 0
      repeat' split
      all_goals rfl
def G4 (τ : ZL) (P : PP) (OUT IN BR J j : Nat) : Prop := ∀ i, i < j → τ 49 (i + 1) = iL (G_ P K1 OUT IN BR J i) ∧ τ 50 (i + 1) = iL (O_ P K1 OUT IN BR J i)
theorem net_l {σ : ZI} {P : PP} {OUT IN BR J : Nat} (hJ : J ≤ 10) (hO : OUT ≤ 11) (hI : IN ≤ 11) (hB : BR < 2 ^ 31) (h41 : σ 41 0 = nI J) : ∀ (d j fu : Nat) (τ : ZL), j + d = J → d < fu → Wg τ P J → Rw τ 47 (rw_ P K1 OUT IN BR j).1 → Rw τ 48 (rw_ P K1 OUT IN BR j).2 → G4 τ P OUT IN BR J j → ∃ τ', f_X0_passWithNet_7 σ (nI OUT) (nI IN) (nI BR) fu τ (nI (j + 1)) = some τ' ∧ (∀ c k, (c < 47 ∨ 50 < c ∨ (c = 50 ∧ k = 0)) → τ' c k = τ c k) ∧ G4 τ' P OUT IN BR J J := by
  intro d
  induction d with
  | zero =>
    intro j fu τ h1 h2 h3 h4 h5 h6
    obtain ⟨fu, rfl⟩ : ∃ m, fu = m + 1 := ⟨fu - 1, by omega⟩
    obtain rfl : j = J := by omega
    exact ⟨τ, by rw [f_X0_passWithNet_7, h41, if_pos (nI_lt (by omega) (by omega))], fun _ _ _ => rfl, h6⟩
  | succ d ih =>
    intro j fu τ h1 h2 h3 h4 h5 h6
    obtain ⟨fu, rfl⟩ : ∃ m, fu = m + 1 := ⟨fu - 1, by omega⟩
    obtain ⟨p0, p1, p2, p3⟩ := h3.1 j (by omega)
    obtain ⟨t1, a1, a2, a3⟩ := pj7 (r := 47) (.inl rfl) (show j < 10 by omega) h4 (fun k hk _ => (rw_hi P K1 OUT IN BR j k hk).1) p0 p1 p2 p3
    obtain ⟨t2, b1, b2, b3⟩ := pj7 (τ := t1) (r := 48) (f := (rw_ P K1 OUT IN BR j).2) (.inr rfl) (show j < 10 by omega) (fun k hk => by rw [a2 48 k (by omega)]; exact h5 k hk) (fun k hk _ => (rw_hi P K1 OUT IN BR j k hk).2) (by rw [a2 _ _ (by omega)]; exact p0) (by rw [a2 _ _ (by omega)]; exact p1) (by rw [a2 _ _ (by omega)]; exact p2) (by rw [a2 _ _ (by omega)]; exact p3)
    have a3' : Rw t2 47 (sp (P 0 j) (P 1 j) (P 2 j) (P 3 j) j (rw_ P K1 OUT IN BR j).1) := fun k hk => by rw [b2 47 k (by omega)]; exact a3 k hk
    obtain ⟨t3, c1, c2, c3⟩ := take7 (τ := t2) hI b3
    have a3'' : Rw t3 47 (sp (P 0 j) (P 1 j) (P 2 j) (P 3 j) j (rw_ P K1 OUT IN BR j).1) := fun k hk => by rw [c2 47 k (by omega)]; exact a3' k hk
    obtain ⟨t4, d1, d2, d3, d4⟩ := put7 (τ := t3) hO a3'' c3
    have f4 : ∀ c k, c ≠ 47 → c ≠ 48 → t4 c k = τ c k := fun c k h7 h8 => by rw [d2 c k h7 h8, c2 c k h8, b2 c k h8, a2 c k h7]
    have e46 : t4 46 (j + 1) = iL (bh_ P J (J - (j + 1))) := by
      have := h3.2 (J - (j + 1)) (by omega)
      rw [show J - (J - (j + 1)) = j + 1 by omega] at this
      rw [f4 _ _ (by omega) (by omega)]
      exact this
    rw [f_X0_passWithNet_7, h41, if_neg (nI_nlt (by omega) (by omega)), a1, bso, b1, bso, c1, bso, d1, bso, atL_n rfl rfl (by omega), bso, putL_n rfl rfl (by omega), bso]
    obtain ⟨t5, ht5⟩ : ∃ t5, t5 = va_up t4 49 (vp_updL (t4 49) (j + 1) (iL (sm (fun c => if OUT ≤ c then sp (P 0 j) (P 1 j) (P 2 j) (P 3 j) j (rw_ P K1 OUT IN BR j).1 c else 0) 11) * t4 46 (j + 1))) := ⟨_, rfl⟩
    rw [← ht5]
    have f5 : ∀ c k, ¬ (c = 49 ∧ k = j + 1) → t5 c k = t4 c k := fun c k h => by rw [ht5]; exact vu_n t4 (by omega)
    have s48 : Rw t5 48 (h2_ (P 0 j) (P 1 j) (P 2 j) (P 3 j) (K1 j) OUT IN j (rw_ P K1 OUT IN BR j)) := fun k hk => by
      rw [f5 _ _ (by omega), d4 k hk]
      rfl
    rw [sum7 rfl rfl s48, bso, atL_n rfl rfl (by omega), bso, putL_n rfl rfl (by omega), bso]
    obtain ⟨t6, ht6⟩ : ∃ t6, t6 = va_up t5 50 (vp_updL (t5 50) (j + 1) (iL (sm (h2_ (P 0 j) (P 1 j) (P 2 j) (P 3 j) (K1 j) OUT IN j (rw_ P K1 OUT IN BR j)) 11) * t5 46 (j + 1))) := ⟨_, rfl⟩
    rw [← ht6]
    have f6 : ∀ c k, ¬ (c = 50 ∧ k = j + 1) → t6 c k = t5 c k := fun c k h => by rw [ht6]; exact vu_n t5 (by omega)
    have w6 : Wg t6 P J := Wg_fr (fun c k h7 h8 => by rw [f6 c k (by omega), f5 c k (by omega), f4 c k (by omega) (by omega)]) h3
    have r47 : Rw t6 47 (rw_ P K1 OUT IN BR (j + 1)).1 := fun k hk => by
      rw [f6 _ _ (by omega), f5 _ _ (by omega), d3 k hk]
      rfl
    have g6 : G4 t6 P OUT IN BR J (j + 1) := fun i hi => by
      by_cases z : i = j
      · subst z
        refine ⟨?_, ?_⟩
        · rw [f6 _ _ (by omega), ht5, vu_s, e46, ← iL_mul]
          rfl
        · rw [ht6, vu_s, f5 _ _ (by omega), e46, ← iL_mul]
          rfl
      · obtain ⟨x, y⟩ := h6 i (by omega)
        exact ⟨by rw [f6 _ _ (by omega), f5 _ _ (by omega), f4 _ _ (by omega) (by omega)]; exact x, by rw [f6 _ _ (by omega), f5 _ _ (by omega), f4 _ _ (by omega) (by omega)]; exact y⟩
    have f6' : ∀ c k, (c < 47 ∨ 50 < c ∨ (c = 50 ∧ k = 0)) → t6 c k = τ c k := fun c k h => by rw [f6 c k (by omega), f5 c k (by omega), f4 c k (by omega) (by omega)]
    unfold f_X0_passWithNet_105
    rw [nI_1]
    by_cases hb : j + 1 = BR
    · rw [if_pos (by rw [hb])]
      obtain ⟨t7, i1, i2, i3⟩ := fill7 t6 (r := 48) rfl rfl
      rw [i1, bso]
      obtain ⟨τ', x1, x2, x3⟩ := ih (j + 1) fu t7 (by omega) (by omega) (Wg_fr (fun c k _ _ => i2 c k (by omega)) w6) (fun k hk => by rw [i2 47 k (by omega)]; exact r47 k hk) (Rw_cg i3 fun k hk => by
        show (0 : Int) = (if j + 1 = BR then 0 else _)
        rw [if_pos hb]) (fun i hi => by rw [i2 49 _ (by omega), i2 50 _ (by omega)]; exact g6 i hi)
      exact ⟨τ', x1, fun c k h => (x2 c k h).trans ((i2 c k (by omega)).trans (f6' c k h)), x3⟩
    · rw [if_neg (fun z => hb (nI_inj (by omega) (by omega) z))]
      obtain ⟨τ', x1, x2, x3⟩ := ih (j + 1) fu t6 (by omega) (by omega) w6 r47 (fun k hk => by
        rw [f6 48 k (by omega), s48 k hk]
        show _ = iL (if j + 1 = BR then 0 else _)
        rw [if_neg hb]) g6
      exact ⟨τ', x1, fun c k h => (x2 c k h).trans (f6' c k h), x3⟩
theorem net7 {σ : ZI} {τ : ZL} {P : PP} {OUT IN BR J : Nat} (hJ : J ≤ 10) (hO : OUT ≤ 11) (hI : IN ≤ 11) (hB : BR < 2 ^ 31) (h41 : σ 41 0 = nI J) (hW : Wg τ P J) : ∃ τ', f_X0_passWithNet σ τ (nI OUT) (nI IN) (nI BR) = some τ' ∧ (∀ c k, (c < 47 ∨ 50 < c ∨ (c = 50 ∧ k = 0)) → τ' c k = τ c k) ∧ G4 τ' P OUT IN BR J J := by
  obtain ⟨t1, a1, a2, a3, a4⟩ := start7 τ
  unfold f_X0_passWithNet
  rw [a1, bso]
  obtain ⟨τ', x1, x2, x3⟩ := net_l (IN := IN) hJ hO hI hB h41 J 0 3000 t1 (by omega) (by omega) (Wg_fr (fun c k h1 h2 => a2 c k (by omega) (by omega)) hW) a3 a4 (fun i hi => absurd hi (Nat.not_lt_zero _))
  exact ⟨τ', x1, fun c k h => (x2 c k h).trans (a2 c k (by omega) (by omega)), x3⟩
/-- the walk that only counts, to a joint -/
theorem cnt_l {σ : ZI} {P : PP} {J L : Nat} (hJ : J ≤ 10) (hL : L ≤ J) (h41 : σ 41 0 = nI J) : ∀ (d j fu : Nat) (τ : ZL), j + d = L → d < fu → Wg τ P J → Rw τ 47 (rw_ P K1 12 0 0 j).1 → ∃ τ', f_X0_passCounting_6 σ (nI L) fu τ (nI (j + 1)) = some τ' ∧ (∀ c k, c ≠ 47 → τ' c k = τ c k) ∧ Rw τ' 47 (rw_ P K1 12 0 0 L).1 := by
  intro d
  induction d with
  | zero =>
    intro j fu τ h1 h2 h3 h4
    obtain ⟨fu, rfl⟩ : ∃ m, fu = m + 1 := ⟨fu - 1, by omega⟩
    obtain rfl : j = L := by omega
    exact ⟨τ, by rw [f_X0_passCounting_6, if_pos (nI_lt (by omega) (by omega))], fun _ _ _ => rfl, h4⟩
  | succ d ih =>
    intro j fu τ h1 h2 h3 h4
    obtain ⟨fu, rfl⟩ : ∃ m, fu = m + 1 := ⟨fu - 1, by omega⟩
    obtain ⟨p0, p1, p2, p3⟩ := h3.1 j (by omega)
    obtain ⟨t1, a1, a2, a3⟩ := pj7 (r := 47) (.inl rfl) (show j < 10 by omega) h4 (fun k hk _ => (rw_hi P K1 12 0 0 j k hk).1) p0 p1 p2 p3
    rw [f_X0_passCounting_6, if_neg (nI_nlt (by omega) (by omega)), h41, if_neg (nI_nlt (by omega) (by omega)), a1, bso, nI_1]
    obtain ⟨τ', x1, x2, x3⟩ := ih (j + 1) fu t1 (by omega) (by omega) (Wg_fr (fun c k _ _ => a2 c k (by omega)) h3) (Rw_cg a3 fun k hk => by
      show _ = if 12 ≤ k then 0 else _
      rw [if_neg (show ¬ 12 ≤ k by omega)]
      rfl)
    exact ⟨τ', x1, fun c k h => (x2 c k h).trans (a2 c k h), x3⟩
theorem cnt7 {σ : ZI} {τ : ZL} {P : PP} {J L : Nat} (hJ : J ≤ 10) (hL : L ≤ J) (h41 : σ 41 0 = nI J) (hW : Wg τ P J) : ∃ τ', f_X0_passCounting σ τ (nI L) = some τ' ∧ (∀ c k, c ≠ 47 → c ≠ 48 → τ' c k = τ c k) ∧ Rw τ' 47 (rw_ P K1 12 0 0 L).1 := by
  obtain ⟨t1, a1, a2, a3, a4⟩ := start7 τ
  unfold f_X0_passCounting
  rw [a1, bso]
  obtain ⟨τ', x1, x2, x3⟩ := cnt_l hJ hL h41 L 0 3000 t1 (by omega) (by omega) (Wg_fr (fun c k h1 h2 => a2 c k (by omega) (by omega)) hW) a3
  exact ⟨τ', x1, fun c k h1 h2 => (x2 c k h1).trans (a2 c k h1 h2), x3⟩
/-- what was seen -/
def KS (sj sc : Nat → Nat) (j c : Nat) : Nat → Bool
  | 0 => true
  | i + 1 => KS sj sc j c i && (!(sj i == j + 1) || c == sc i)
theorem lo_l (cnt : Nat) (hc : cnt < 2 ^ 31) {f : Nat → Int} : ∀ (d i fu : Nat) (τ : ZL), i + d = 11 → d < fu → Rw τ 47 f → ∃ τ', f_X3_leaveOnly_2 47 (nI cnt) fu τ (nI i) = some τ' ∧ (∀ c k, c ≠ 47 → τ' c k = τ c k) ∧ Rw τ' 47 (fun k => if i ≤ k ∧ k ≠ cnt then 0 else f k) := by
  intro d
  induction d generalizing f with
  | zero =>
    intro i fu τ h1 h2 h3
    obtain ⟨fu, rfl⟩ : ∃ m, fu = m + 1 := ⟨fu - 1, by omega⟩
    obtain rfl : i = 11 := by omega
    exact ⟨τ, by rw [f_X3_leaveOnly_2, if_pos (by decide)], fun _ _ _ => rfl, fun k hk => by dsimp only; rw [if_neg (by omega)]; exact h3 k hk⟩
  | succ d ih =>
    intro i fu τ h1 h2 h3
    obtain ⟨fu, rfl⟩ : ∃ m, fu = m + 1 := ⟨fu - 1, by omega⟩
    rw [f_X3_leaveOnly_2, if_neg (show ¬ nI (ar 47).2 ≤ nI i from nI_ge (b := 11) (by omega) (by omega))]
    unfold f_X3_leaveOnly_17
    rw [nI_1]
    by_cases hz : i = cnt
    · rw [if_pos (by rw [hz])]
      obtain ⟨τ', g1, g2, g3⟩ := ih (f := f) (i + 1) fu τ (by omega) (by omega) h3
      refine ⟨τ', g1, g2, Rw_cg g3 fun k hk => ?_⟩
      by_cases z : i + 1 ≤ k ∧ k ≠ cnt
      · rw [if_pos z, if_pos ⟨by omega, z.2⟩]
      · rw [if_neg z, if_neg (by omega)]
    · rw [if_neg (fun z => hz (nI_inj (by omega) hc z)), show inB (nI i) (ar 47).2 = true from inB11 (by omega), if_pos rfl, ltq, nI_clamp (by omega)]
      obtain ⟨τ', g1, g2, g3⟩ := ih (f := fun k => if k = i then 0 else f k) (i + 1) fu (va_up τ 47 (vp_updL (τ 47) i 0)) (by omega) (by omega) (fun k hk => by
        by_cases z : k = i
        · subst z; rw [vu_s]; dsimp only; rw [if_pos rfl]; rfl
        · rw [vu_n τ (.inr z)]; dsimp only; rw [if_neg z]; exact h3 k hk)
      refine ⟨τ', g1, fun c k h => (g2 c k h).trans (vu_n τ (.inl h)), Rw_cg g3 fun k hk => ?_⟩
      by_cases z : i + 1 ≤ k ∧ k ≠ cnt
      · rw [if_pos z, if_pos ⟨by omega, z.2⟩]
      · rw [if_neg z]
        by_cases z2 : k = i
        · subst z2; rw [if_pos rfl, if_pos ⟨Nat.le_refl _, hz⟩]
        · rw [if_neg z2, if_neg (by omega)]
theorem lo7 {τ : ZL} {cnt : Nat} (hc : cnt < 2 ^ 31) {f : Nat → Int} (hf : Rw τ 47 f) : ∃ τ', f_X3_leaveOnly τ 47 (nI cnt) = some τ' ∧ (∀ c k, c ≠ 47 → τ' c k = τ c k) ∧ Rw τ' 47 (fun k => if k = cnt then f k else 0) := by
  unfold f_X3_leaveOnly
  rw [if_pos (by decide)]
  obtain ⟨τ', g1, g2, g3⟩ := lo_l cnt hc 11 0 3000 τ (by omega) (by omega) hf
  refine ⟨τ', g1, g2, Rw_cg g3 fun k hk => ?_⟩
  by_cases z : k = cnt
  · rw [if_pos z, if_neg (by omega)]
  · rw [if_neg z, if_pos ⟨by omega, z⟩]
theorem li_l {σ : ZI} {n : Nat} {sj sc : Nat → Nat} {j : Nat} (hj : j < 10) (hn : n ≤ 6) (h2 : σ 51 2 = nI n) (h3 : ∀ i, i < n → sj i < 2 ^ 31 ∧ sc i < 2 ^ 31 ∧ σ 52 i = nI (sj i) ∧ σ 53 i = nI (sc i)) {f : Nat → Int} : ∀ (d i fu : Nat) (τ : ZL), i + d = n → d < fu → Rw τ 47 (fun c => if KS sj sc j c i = true then f c else 0) → ∃ τ', f_X3_leaveIn_2 σ 47 (nI (j + 1)) fu τ (nI i) = some τ' ∧ (∀ c k, c ≠ 47 → τ' c k = τ c k) ∧ Rw τ' 47 (fun c => if KS sj sc j c n = true then f c else 0) := by
  intro d
  induction d with
  | zero =>
    intro i fu τ h4 h5 h6
    obtain ⟨fu, rfl⟩ : ∃ m, fu = m + 1 := ⟨fu - 1, by omega⟩
    obtain rfl : i = n := by omega
    exact ⟨τ, by rw [f_X3_leaveIn_2, h2, if_pos (Int32.le_refl _)], fun _ _ _ => rfl, h6⟩
  | succ d ih =>
    intro i fu τ h4 h5 h6
    obtain ⟨fu, rfl⟩ : ∃ m, fu = m + 1 := ⟨fu - 1, by omega⟩
    obtain ⟨b1, b2, b3, b4⟩ := h3 i (by omega)
    rw [f_X3_leaveIn_2, h2, if_neg (nI_ge (by omega) (by omega)), at_n (N := 6) rfl (by omega) (by omega), bso, b3]
    unfold f_X3_leaveIn_34
    rw [nI_1]
    by_cases z : sj i = j + 1
    · rw [if_pos (by rw [z]), at_n (N := 6) rfl (by omega) (by omega), bso, b4]
      obtain ⟨t1, a1, a2, a3⟩ := lo7 (τ := τ) b2 h6
      rw [a1, bso]
      obtain ⟨τ', g1, g2, g3⟩ := ih (i + 1) fu t1 (by omega) (by omega) (Rw_cg a3 fun k hk => by
        have e : KS sj sc j k (i + 1) = (KS sj sc j k i && (!(sj i == j + 1) || k == sc i)) := rfl
        rw [e]
        by_cases w : k = sc i
        · rw [if_pos w]; simp [w]
        · rw [if_neg w]; simp [w, z])
      exact ⟨τ', g1, fun c k h => (g2 c k h).trans (a2 c k h), g3⟩
    · rw [if_neg (fun w => z (nI_inj b1 (by omega) w))]
      obtain ⟨τ', g1, g2, g3⟩ := ih (i + 1) fu τ (by omega) (by omega) (Rw_cg h6 fun k hk => by
        have e : KS sj sc j k (i + 1) = KS sj sc j k i := by
          show (KS sj sc j k i && _) = _
          simp [z]
        rw [e])
      exact ⟨τ', g1, g2, g3⟩
/-- the seen, as the class and the reference have them -/
def S7 (J n : Nat) (sj sc : Nat → Nat) (σ : ZI) : Prop := n ≤ 6 ∧ σ 51 2 = nI n ∧ ∀ i, i < n → 1 ≤ sj i ∧ sj i ≤ J ∧ sc i ≤ 10 ∧ σ 52 i = nI (sj i) ∧ σ 53 i = nI (sc i)
theorem seen_l {σ : ZI} {P : PP} {J n : Nat} {sj sc : Nat → Nat} (hJ : J ≤ 10) (h41 : σ 41 0 = nI J) (hS : S7 J n sj sc σ) : ∀ (d j fu : Nat) (τ : ZL), j + d = J → d < fu → Wt τ P J → Rw τ 47 (rw_ P (fun j c => KS sj sc j c n) 12 0 0 j).1 → ∃ τ', f_X0_passAsSeen_6 σ fu τ (nI (j + 1)) = some (iL (sm (rw_ P (fun j c => KS sj sc j c n) 12 0 0 J).1 11), τ') ∧ (∀ c k, c ≠ 47 → τ' c k = τ c k) := by
  obtain ⟨n6, e51, hs⟩ := hS
  intro d
  induction d with
  | zero =>
    intro j fu τ h1 h2 h3 h4
    obtain ⟨fu, rfl⟩ : ∃ m, fu = m + 1 := ⟨fu - 1, by omega⟩
    obtain rfl : j = J := by omega
    exact ⟨τ, by rw [f_X0_passAsSeen_6, h41, if_pos (nI_lt (by omega) (by omega)), sum7 rfl rfl h4, bso], fun _ _ _ => rfl⟩
  | succ d ih =>
    intro j fu τ h1 h2 h3 h4
    obtain ⟨fu, rfl⟩ : ∃ m, fu = m + 1 := ⟨fu - 1, by omega⟩
    obtain ⟨p0, p1, p2, p3⟩ := h3 j (by omega)
    obtain ⟨t1, a1, a2, a3⟩ := pj7 (r := 47) (.inl rfl) (show j < 10 by omega) h4 (fun k hk _ => (rw_hi P _ 12 0 0 j k hk).1) p0 p1 p2 p3
    obtain ⟨t2, b1, b2, b3⟩ := li_l (σ := σ) (n := n) (sj := sj) (sc := sc) (j := j) (by omega) n6 e51 (fun i hi => by obtain ⟨x1, x2, x3, x4, x5⟩ := hs i hi; exact ⟨by omega, by omega, x4, x5⟩) n 0 3000 t1 (by omega) (by omega) (f := sp (P 0 j) (P 1 j) (P 2 j) (P 3 j) j (rw_ P (fun j c => KS sj sc j c n) 12 0 0 j).1) (Rw_cg a3 fun k hk => by
      rw [if_pos (show KS sj sc j k 0 = true from rfl)])
    rw [f_X0_passAsSeen_6, h41, if_neg (nI_nlt (by omega) (by omega)), a1, bso]
    unfold f_X3_leaveIn
    rw [if_pos (by decide), show f_X3_leaveIn_2 σ 47 (nI (j + 1)) 3000 t1 0 = _ from b1, bso, nI_1]
    obtain ⟨τ', x1, x2⟩ := ih (j + 1) fu t2 (by omega) (by omega) (Wt_fr (fun c k _ _ => by rw [b2 c k (by omega), a2 c k (by omega)]) h3) (Rw_cg b3 fun k hk => by
      show _ = if 12 ≤ k then 0 else _
      rw [if_neg (show ¬ 12 ≤ k by omega)]
      rfl)
    exact ⟨τ', x1, fun c k h => (x2 c k h).trans ((b2 c k h).trans (a2 c k h))⟩
theorem seen7 {σ : ZI} {τ : ZL} {P : PP} {J n : Nat} {sj sc : Nat → Nat} (hJ : J ≤ 10) (h41 : σ 41 0 = nI J) (hS : S7 J n sj sc σ) (hW : Wt τ P J) : ∃ τ', f_X0_passAsSeen σ τ = some (iL (sm (rw_ P (fun j c => KS sj sc j c n) 12 0 0 J).1 11), τ') ∧ (∀ c k, c ≠ 47 → c ≠ 48 → τ' c k = τ c k) := by
  obtain ⟨t1, a1, a2, a3, a4⟩ := start7 τ
  unfold f_X0_passAsSeen
  rw [a1, bso]
  obtain ⟨τ', x1, x2⟩ := seen_l (P := P) hJ h41 hS J 0 3000 t1 (by omega) (by omega) (Wt_fr (fun c k h1 h2 => a2 c k (by omega) (by omega)) hW) a3
  exact ⟨τ', x1, fun c k h1 h2 => (x2 c k h1).trans (a2 c k h1 h2)⟩
end
section
/-! the reference's sums over all nights -/
def Sc (σ σ' : ZI) : Prop := ∀ c i, ¬ (c = 60 ∧ 33 ≤ i ∧ i ≤ 39) → σ' c i = σ c i
theorem Sc_rf (σ : ZI) : Sc σ σ := fun _ _ _ => rfl
theorem Sc_tr {a b c : ZI} (h : Sc a b) (h2 : Sc b c) : Sc a c := fun x i q => (h2 x i q).trans (h x i q)
theorem Sc_sg {σ σ' : ZI} (h : Sc σ σ') : Sg σ σ' := fun c i q _ => h c i (by
  rintro ⟨rfl, h1, h2⟩
  have : i = 33 ∨ i = 34 ∨ i = 35 ∨ i = 36 ∨ i = 37 ∨ i = 38 ∨ i = 39 := by omega
  rcases this with rfl | rfl | rfl | rfl | rfl | rfl | rfl <;> exact q rfl)
theorem R8_fr {t : NN} {σ σ' : ZI} (h : Sc σ σ') (q : R8 t σ) : R8 t σ' := ⟨q.1, RP_fr q.1 (fun i _ => h _ _ (by omega)) q.2.1, RS_fr ⟨h _ _ (by omega), h _ _ (by omega), h _ _ (by omega), h _ _ (by omega)⟩ (fun c i h1 h2 => h _ _ (by omega)) q.2.2⟩
theorem N8_Sc (σ : ZI) (c o i m h to p : Int32) : Sc σ (N8 σ c o i m h to p) := fun x k hk => by
  by_cases hx : x = 60
  · subst hx
    show qf (σ 60) c o i m h to p k = σ 60 k
    have : k ≠ 33 ∧ k ≠ 34 ∧ k ≠ 35 ∧ k ≠ 36 ∧ k ≠ 37 ∧ k ≠ 38 ∧ k ≠ 39 := by omega
    obtain ⟨a, b, c, d, e, f, g⟩ := this
    simp [qf, a, b, c, d, e, f, g]
  · show va_up σ 60 _ x k = _
    simp only [va_up, if_neg hx]
theorem s33_Sc (σ : ZI) (v : Int32) : Sc σ (s33 σ v) := fun x k hk => up_ne σ (by omega)
theorem slip8 {t : NN} {σ : ZI} (q : R8 t σ) : f_X8_slip σ = some (nI (t 0 6)) := by
  unfold f_X8_slip
  rw [show σ 61 13 = _ from q.2.1.2.2.2.2.2.1, Int32.sub_add_cancel]
theorem wgt2 {t : NN} {σ : ZI} (q : R8 t σ) {x n : Nat} (hn : n < 2 ^ 31) (A : Int) : ∀ (d i fu : Nat), i + d = t 0 2 → d < fu → f_X8_weightOf_52 σ (nI x) (nI n) fu (iL (A * wp (orr (t 5)) n i)) (nI i) = some (iL (A * wp (orr (t 5)) n (t 0 2))) := by
  have k1 := q.1.1
  have k4 := q.1.2.2.2.1
  intro d
  induction d with
  | zero =>
    intro i fu h1 h2
    obtain ⟨fu, rfl⟩ : ∃ m, fu = m + 1 := ⟨fu - 1, by omega⟩
    obtain rfl : i = t 0 2 := by omega
    rw [f_X8_weightOf_52, show σ 60 5 = _ from q.2.2.2.2.1, if_pos (Int32.le_refl _)]
  | succ d ih =>
    intro i fu h1 h2
    obtain ⟨fu, rfl⟩ : ∃ m, fu = m + 1 := ⟨fu - 1, by omega⟩
    have c10 := (k4 i (by omega)).2.2
    have e3 : σ 61 (3 + i) = nI (t 5 i) := by have := q.2.1.2.1 i (by omega); rw [Nat.zero_add] at this; exact this
    have e : wp (orr (t 5)) n (i + 1) = wp (orr (t 5)) n i * (if n.testBit i then (t 5 i : Int) else 10 - (t 5 i : Int)) := rfl
    rw [f_X8_weightOf_52, show σ 60 5 = _ from q.2.2.2.2.1, if_neg (nI_ge (by omega) (by omega)), show (3 : Int32) + nI i = nI (3 + i) from nI_add 3 i, inB_n (by omega) (by omega), nI_clamp (by omega), e3]
    unfold f_X8_weightOf_98
    rw [if_pos rfl, if_pos rfl, nI_1, nI_iL (by omega), i10 c10, ← iL_mul, ← iL_mul, Int.mul_assoc, Int.mul_assoc]
    dsimp only
    by_cases b : n.testBit i = true
    · rw [if_pos ((bt1 (by omega) hn).mpr b), ← ih (i + 1) fu (by omega) (by omega), e, if_pos b]
    · rw [if_neg (fun z => b ((bt1 (by omega) hn).mp z)), ← ih (i + 1) fu (by omega) (by omega), e, if_neg b]
theorem wgt8 {t : NN} {σ : ZI} (q : R8 t σ) {x n : Nat} (hx : x < 2 ^ 31) (hn : n < 2 ^ 31) : f_X8_weightOf σ (nI x) (nI n) = some (iL (wp (oq (t 0 6)) x (t 0 0) * wp (orr (t 5)) n (t 0 2))) := by
  have k1 := q.1.1
  have L : ∀ (d i fu : Nat), i + d = t 0 0 → d < fu → f_X8_weightOf_5 σ (nI x) (nI n) fu (iL (wp (oq (t 0 6)) x i)) (nI i) = some (iL (wp (oq (t 0 6)) x (t 0 0) * wp (orr (t 5)) n (t 0 2))) := by
    intro d
    induction d with
    | zero =>
      intro i fu h1 h2
      obtain ⟨fu, rfl⟩ : ∃ m, fu = m + 1 := ⟨fu - 1, by omega⟩
      obtain rfl : i = t 0 0 := by omega
      rw [f_X8_weightOf_5, show σ 60 1 = _ from q.2.2.1, if_pos (Int32.le_refl _)]
      have := wgt2 q (x := x) hn (wp (oq (t 0 6)) x (t 0 0)) (t 0 2) 0 3000 (by omega) (by omega)
      rw [← this]
      show _ = f_X8_weightOf_52 σ (nI x) (nI n) 3000 (iL (_ * 1)) 0
      rw [Int.mul_one]
    | succ d ih =>
      intro i fu h1 h2
      obtain ⟨fu, rfl⟩ : ∃ m, fu = m + 1 := ⟨fu - 1, by omega⟩
      have e : wp (oq (t 0 6)) x (i + 1) = wp (oq (t 0 6)) x i * (if x.testBit i then (t 0 6 : Int) else 10 - (t 0 6 : Int)) := rfl
      rw [f_X8_weightOf_5, show σ 60 1 = _ from q.2.2.1, if_neg (nI_ge (by omega) (by omega)), slip8 q, bso, bso]
      unfold f_X8_weightOf_41
      rw [nI_1, nI_iL (by omega), i10 (by omega), ← iL_mul, ← iL_mul]
      dsimp only
      by_cases b : x.testBit i = true
      · rw [if_pos ((bt1 (by omega) hx).mpr b), ← ih (i + 1) fu (by omega) (by omega), e, if_pos b]
      · rw [if_neg (fun z => b ((bt1 (by omega) hx).mp z)), ← ih (i + 1) fu (by omega) (by omega), e, if_neg b]
  exact L (t 0 0) 0 3000 (by omega) (by omega)
theorem sum8 {t : NN} {σ : ZI} (q : R8 t σ) {a b c : Int32} (V : Nat → Nat → Int) (hV : ∀ (σ' : ZI) (x n : Nat), Sc σ σ' → x < 2 ^ t 0 0 → n < 2 ^ t 0 2 → ∃ v σ'', f_X8_valueOf (c8 t σ' x n (t 0 0)) a b c (nI x) (nI n) = some (v, σ'') ∧ v.toInt64 = iL (V x n) ∧ Sc σ σ'') : ∃ σ', f_X8_sumOf σ a b c = some (iL (SN (oq (t 0 6)) (orr (t 5)) (t 0 0) (t 0 2) V), σ') ∧ Sc σ σ' := by
  have k1 := q.1.1
  have p1 := p2J (J := t 0 0) (by omega)
  have p2 : 2 ^ t 0 2 ≤ 8 := (Nat.pow_le_pow_right (by omega) (show t 0 2 ≤ 3 by omega) : 2 ^ t 0 2 ≤ 2 ^ 3)
  have In : ∀ (k : ZI → Int64 → Int32 → Option (Int64 × ZI)) (A : Int) (x : Nat), x < 2 ^ t 0 0 → ∀ (d n fu : Nat) (σ' : ZI), n + d = 2 ^ t 0 2 → d < fu → Sc σ σ' → ∃ σ'', Sc σ σ'' ∧ f_X8_sumOf_20 a b c k fu σ' (iL (A + wp (oq (t 0 6)) x (t 0 0) * sm (fun n => wp (orr (t 5)) n (t 0 2) * V x n) n)) (nI x) (nI n) = k σ'' (iL (A + wp (oq (t 0 6)) x (t 0 0) * sm (fun n => wp (orr (t 5)) n (t 0 2) * V x n) (2 ^ t 0 2))) (nI (x + 1)) := by
    intro k A x hx d
    induction d with
    | zero =>
      intro n fu σ' h1 h2 h3
      obtain ⟨fu, rfl⟩ : ∃ m, fu = m + 1 := ⟨fu - 1, by omega⟩
      obtain rfl : n = 2 ^ t 0 2 := by omega
      have q' := R8_fr h3 q
      exact ⟨σ', h3, by rw [f_X8_sumOf_20, show σ' 60 5 = _ from q'.2.2.2.2.1, sbl (by omega), if_pos (Int32.le_refl _), nI_1]⟩
    | succ d ih =>
      intro n fu σ' h1 h2 h3
      obtain ⟨fu, rfl⟩ : ∃ m, fu = m + 1 := ⟨fu - 1, by omega⟩
      have q' := R8_fr h3 q
      rw [f_X8_sumOf_20, show σ' 60 5 = _ from q'.2.2.2.2.1, sbl (by omega), if_neg (nI_ge (by omega) (by omega)), wgt8 q' (by omega) (by omega), bso]
      unfold f_X8_sumOf_76
      rw [nI_1]
      have es : A + wp (oq (t 0 6)) x (t 0 0) * sm (fun n => wp (orr (t 5)) n (t 0 2) * V x n) (n + 1) = (A + wp (oq (t 0 6)) x (t 0 0) * sm (fun n => wp (orr (t 5)) n (t 0 2) * V x n) n) + (wp (oq (t 0 6)) x (t 0 0) * wp (orr (t 5)) n (t 0 2)) * V x n := by
        simp only [sm]
        grind
      have es' := (congrArg iL es).trans ((iL_add _ _).trans (congrArg (fun z => iL (A + wp (oq (t 0 6)) x (t 0 0) * sm (fun n => wp (orr (t 5)) n (t 0 2) * V x n) n) + z) (iL_mul _ _)))
      by_cases hz : iL (wp (oq (t 0 6)) x (t 0 0) * wp (orr (t 5)) n (t 0 2)) = 0
      · rw [if_pos ((cmp0 _ _).mpr hz)]
        obtain ⟨σ'', g1, g2⟩ := ih (n + 1) fu σ' (by omega) (by omega) h3
        refine ⟨σ'', g1, ?_⟩
        rw [← g2, es', hz, Int64.zero_mul, Int64.add_zero]
      · rw [if_neg (fun z => hz ((cmp0 _ _).mp z)), night8 q' (by omega) (by omega), bso]
        obtain ⟨v, σ2, v1, v2, v3⟩ := hV σ' x n h3 hx (by omega)
        rw [v1, bso, ltq]
        obtain ⟨σ'', g1, g2⟩ := ih (n + 1) fu σ2 (by omega) (by omega) v3
        refine ⟨σ'', g1, ?_⟩
        rw [← g2, es', v2]
  have Ou : ∀ (d x fu : Nat) (σ' : ZI), x + d = 2 ^ t 0 0 → d < fu → Sc σ σ' → ∃ σ'', f_X8_sumOf_6 a b c fu σ' (iL (sm (fun x => wp (oq (t 0 6)) x (t 0 0) * sm (fun n => wp (orr (t 5)) n (t 0 2) * V x n) (2 ^ t 0 2)) x)) (nI x) = some (iL (SN (oq (t 0 6)) (orr (t 5)) (t 0 0) (t 0 2) V), σ'') ∧ Sc σ σ'' := by
    intro d
    induction d with
    | zero =>
      intro x fu σ' h1 h2 h3
      obtain ⟨fu, rfl⟩ : ∃ m, fu = m + 1 := ⟨fu - 1, by omega⟩
      obtain rfl : x = 2 ^ t 0 0 := by omega
      have q' := R8_fr h3 q
      refine ⟨σ', ?_, h3⟩
      rw [f_X8_sumOf_6, show σ' 60 1 = _ from q'.2.2.1, sbl (by omega), if_pos (Int32.le_refl _)]
      rfl
    | succ d ih =>
      intro x fu σ' h1 h2 h3
      obtain ⟨fu, rfl⟩ : ∃ m, fu = m + 1 := ⟨fu - 1, by omega⟩
      have q' := R8_fr h3 q
      obtain ⟨σ2, g1, g2⟩ := In (fun σ v4 v6 => f_X8_sumOf_6 a b c fu σ v4 v6) (sm (fun x => wp (oq (t 0 6)) x (t 0 0) * sm (fun n => wp (orr (t 5)) n (t 0 2) * V x n) (2 ^ t 0 2)) x) x (by omega) (2 ^ t 0 2) 0 3000 σ' (by omega) (by omega) h3
      obtain ⟨σ'', e1, e2⟩ := ih (x + 1) fu σ2 (by omega) (by omega) g1
      refine ⟨σ'', ?_, e2⟩
      rw [f_X8_sumOf_6, show σ' 60 1 = _ from q'.2.2.1, sbl (by omega), if_neg (nI_ge (by omega) (by omega))]
      rw [← e1]
      refine Eq.trans ?_ g2
      show f_X8_sumOf_20 a b c _ 3000 σ' _ (nI x) 0 = f_X8_sumOf_20 a b c _ 3000 σ' (iL (_ + _ * 0)) (nI x) 0
      rw [Int.mul_zero, Int.add_zero]
  exact Ou (2 ^ t 0 0) 0 3000 σ (by omega) (by omega) (Sc_rf σ)
theorem aw_l {σ : ZI} : ∀ (d fu : Nat) (A : Int) (x : Int32), d < 2 ^ 31 → d < fu → f_X8_allWeight_23 σ x fu (iL A) (nI d) = some (iL (A * 10 ^ d)) := by
  intro d
  induction d with
  | zero =>
    intro fu A x h0 h
    obtain ⟨fu, rfl⟩ : ∃ m, fu = m + 1 := ⟨fu - 1, by omega⟩
    rw [f_X8_allWeight_23, if_pos (by decide), Int.pow_zero, Int.mul_one]
  | succ d ih =>
    intro fu A x h0 h
    obtain ⟨fu, rfl⟩ : ∃ m, fu = m + 1 := ⟨fu - 1, by omega⟩
    rw [f_X8_allWeight_23, if_neg (nI_nle (by omega) (by omega)), pk_m1, show iL A * 10 = iL (A * 10) from (iL_mul A 10).symm, ih fu _ x (by omega) (by omega), Int.pow_succ]
    congr 2
    grind
theorem aw8_0 {t : NN} {σ : ZI} (q : R8 t σ) : f_X8_allWeight σ 0 = some (iL (1 * 10 ^ (t 0 0 + t 0 2))) := by
  have k1 := q.1.1
  unfold f_X8_allWeight f_X8_allWeight_11
  rw [show σ 60 1 = _ from q.2.2.1, show σ 60 5 = _ from q.2.2.2.2.1, nI_add, if_pos rfl]
  exact aw_l _ 3000 1 _ (by omega) (by omega)
theorem aw8_1 {t : NN} {σ : ZI} (q : R8 t σ) : f_X8_allWeight σ 1 = some (iL (10 * 10 ^ (t 0 0 + t 0 2))) := by
  have k1 := q.1.1
  unfold f_X8_allWeight f_X8_allWeight_11
  rw [show σ 60 1 = _ from q.2.2.1, show σ 60 5 = _ from q.2.2.2.2.1, nI_add, if_neg (by decide)]
  exact aw_l _ 3000 10 _ (by omega) (by omega)
end
section
/-! what a night of which all is known is worth -/
theorem okK1 (mj : Nat → Nat) (M x n : Nat) : ∀ j, okK mj M x n K1 j = true
  | 0 => rfl
  | j + 1 => by unfold okK; rw [okK1 mj M x n j]; rfl
theorem tQ_bit {t : NN} {x n j : Nat} : ∀ m, (tQ t x n m).testBit j = decide (j < m ∧ tp t x n j = 1)
  | 0 => by
    show (0 : Nat).testBit j = _
    simp
  | m + 1 => by
    have ih := tQ_bit (t := t) (x := x) (n := n) (j := j) m
    unfold tQ
    by_cases h : tp t x n m = 1
    · rw [if_pos h, Nat.testBit_or, ih, Nat.testBit_two_pow]
      by_cases e : m = j
      · subst e; simp [h]
      · have : (j < m + 1) = (j < m) := by apply propext; omega
        simp [e, this]
    · rw [if_neg h, ih]
      by_cases e : m = j
      · subst e; simp [h]
      · have : (j < m + 1) = (j < m) := by apply propext; omega
        simp [this]
theorem tH_bit {t : NN} {x n j : Nat} : ∀ m, (tH t x n m).testBit j = decide (j < m ∧ tp t x n j = 1 ∧ (t 0 4).testBit j = true)
  | 0 => by
    show (0 : Nat).testBit j = _
    simp
  | m + 1 => by
    have ih := tH_bit (t := t) (x := x) (n := n) (j := j) m
    unfold tH
    by_cases h : tp t x n m = 1 ∧ (t 0 4).testBit m = true
    · rw [if_pos h, Nat.testBit_or, ih, Nat.testBit_two_pow]
      by_cases e : m = j
      · subst e; simp [h]
      · have : (j < m + 1) = (j < m) := by apply propext; omega
        simp [e, this]
    · rw [if_neg h, ih]
      by_cases e : m = j
      · subst e
        simp
        intro a
        exact Bool.eq_false_iff.mpr (fun b => h ⟨a, b⟩)
      · have : (j < m + 1) = (j < m) := by apply propext; omega
        simp [this]
theorem aa_iff {t : NN} (k : TK t) {i : Nat} (hi : i < t 0 1) (j : Nat) : (aa t j < t 0 1 ∧ aa t j = i) ↔ j + 1 = t 2 i := by
  have k2 := k.2.1 i hi
  constructor
  · rintro ⟨h1, h2⟩
    have := fi_yes (p := fun m => t 2 m == j + 1) (n := t 0 1) h1
    rw [show fi (fun m => t 2 m == j + 1) (t 0 1) = i from h2] at this
    simp at this
    omega
  · intro h
    have := ma_is (mj := t 2) (M := t 0 1) (m := i) hi k2.2.1 k.2.2.1
    rw [← h] at this
    have e : aa t j = i := this
    exact ⟨by omega, e⟩
theorem tM_bit {t : NN} (k : TK t) {x n i : Nat} (hi : i < t 0 1) : ∀ m, (tM t x n m).testBit i = decide (t 2 i ≤ m ∧ tp t x n (t 2 i - 1) = 1)
  | 0 => by
    have k2 := k.2.1 i hi
    show (0 : Nat).testBit i = _
    simp
    omega
  | m + 1 => by
    have k2 := k.2.1 i hi
    have ih := tM_bit k (x := x) (n := n) hi m
    have ai := aa_iff k hi m
    unfold tM
    by_cases h : tp t x n m = 1 ∧ aa t m < t 0 1
    · rw [if_pos h, Nat.testBit_or, ih, Nat.testBit_two_pow]
      by_cases e : aa t m = i
      · have e2 := ai.mp ⟨h.2, e⟩
        rw [← e2]
        simp [e, h.1]
      · have e2 : ¬ m + 1 = t 2 i := fun z => e (ai.mpr z).2
        have : (t 2 i ≤ m + 1) = (t 2 i ≤ m) := by apply propext; omega
        simp [e, this]
    · rw [if_neg h, ih]
      by_cases e : m + 1 = t 2 i
      · rw [← e]
        simp
        intro a
        exact (h ⟨a, (ai.mpr e).1⟩).elim
      · have : (t 2 i ≤ m + 1) = (t 2 i ≤ m) := by apply propext; omega
        simp [this]
theorem tS_3 {t : NN} {x n : Nat} : ∀ m, tS t x n m = 3 ↔ (1 ≤ t 0 5 ∧ t 0 5 ≤ m ∧ tp t x n (t 0 5 - 1) = 1)
  | 0 => ⟨fun h => absurd (show (0 : Nat) = 3 from h) (by omega), fun h => by omega⟩
  | m + 1 => by
    have ih := tS_3 (t := t) (x := x) (n := n) m
    rw [tS_s]
    have h3 : tp t x n m = 3 ↔ tS t x n m = 3 := by
      by_cases h0 : tS t x n m = 0
      · rw [tp_0 h0, h0]; split <;> omega
      · by_cases h1 : tS t x n m = 1
        · rw [tp_1 h1, h1]; split <;> omega
        · rw [tp_2 h0 h1]
    by_cases h : tp t x n m = 1 ∧ m + 1 = t 0 5
    · rw [if_pos h]
      refine ⟨fun _ => ⟨by omega, by omega, ?_⟩, fun _ => rfl⟩
      rw [← h.2]; exact h.1
    · rw [if_neg h, h3, ih]
      constructor
      · rintro ⟨a, b, c⟩; exact ⟨a, by omega, c⟩
      · rintro ⟨a, b, c⟩
        refine ⟨a, ?_, c⟩
        rcases Nat.lt_or_ge m (t 0 5) with z | z
        · have e : m + 1 = t 0 5 := by omega
          rw [← e] at c
          exact absurd ⟨c, e⟩ h
        · exact z
theorem tS_up {t : NN} {x n j : Nat} (h : tS t x n j ≠ 0) : ∀ d, tS t x n (j + d) ≠ 0
  | 0 => h
  | d + 1 => by
    have ih := tS_up h d
    rw [← Nat.add_assoc, tS_s]
    by_cases h1 : tS t x n (j + d) = 1
    · rw [tp_1 h1]; repeat' split
      all_goals omega
    · rw [tp_2 ih h1]; split
      · omega
      · exact ih
theorem tO_is {t : NN} {x n j : Nat} (hj : j < 10) : ∀ m, m ≤ 10 → (tO t x n m = nI (j + 1) ↔ (j < m ∧ tS t x n j = 0 ∧ t 0 8 ≤ tC t x n (j + 1)))
  | 0, _ => ⟨fun h => absurd h.symm (nI_nm4 (by omega)), fun h => absurd h.1 (Nat.not_lt_zero _)⟩
  | m + 1, hm => by
    have ih := tO_is (t := t) (x := x) (n := n) hj m (by omega)
    unfold tO
    by_cases h : tS t x n m = 0 ∧ t 0 8 ≤ tC t x n (m + 1)
    · rw [if_pos h]
      constructor
      · intro e
        have e2 : m = j := by have := nI_inj (a := m + 1) (b := j + 1) (by omega) (by omega) e; omega
        subst e2
        exact ⟨by omega, h⟩
      · rintro ⟨a, b, c⟩
        by_cases e2 : m = j
        · rw [e2]
        · refine absurd h.1 ?_
          have e3 : tS t x n (j + 1) ≠ 0 := by
            rw [tS_s, tp_0 b, if_pos c]; split <;> omega
          have := tS_up e3 (m - (j + 1))
          rw [show j + 1 + (m - (j + 1)) = m by omega] at this
          exact this
    · rw [if_neg h, ih]
      constructor
      · rintro ⟨a, b⟩; exact ⟨by omega, b⟩
      · rintro ⟨a, b, c⟩
        refine ⟨?_, b, c⟩
        rcases Nat.lt_or_ge j m with z | z
        · exact z
        · have e : j = m := by omega
          subst e
          exact absurd ⟨b, c⟩ h
/-- values -/
def v0 (t : NN) (a b : Nat) : Nat → Nat → Int := fun x n => if tC t x n a = b then 1 else 0
def v1 (t : NN) (j : Nat) : Nat → Nat → Int := fun x n => if tS t x n j = 0 ∧ t 0 8 ≤ tC t x n (j + 1) then 1 else 0
def v2 (t : NN) (j : Nat) : Nat → Nat → Int := fun x n => if tp t x n j = 1 then 1 else 0
def v3 (t : NN) (i : Nat) : Nat → Nat → Int := fun x n => v2 t (t 2 i - 1) x n * (hN (t 1 i) (t 0 7) : Int)
def v4 (t : NN) : Nat → Nat → Int := fun x n => sm (fun j => if (t 0 4).testBit j = true then v2 t j x n else 0) (t 0 0)
def v5 (t : NN) : Nat → Nat → Int := fun x n => if 1 ≤ t 0 5 then v2 t (t 0 5 - 1) x n else 0
def v6 (t : NN) : Nat → Nat → Int := fun x n => sm (fun i => v3 t i x n * (t 3 i : Int)) (t 0 1) - 10 * (v4 t x n * (t 0 10 : Int) + v5 t x n * (t 0 11 : Int))
theorem v2_01 (t : NN) (j x n : Nat) : v2 t j x n = 0 ∨ v2 t j x n = 1 := by unfold v2; split <;> simp
theorem sm_sN (f : Nat → Nat) : ∀ n, ((sN f n : Nat) : Int) = sm (fun i => (f i : Int)) n
  | 0 => rfl
  | n + 1 => by rw [sN, sm, ← sm_sN f n]; exact Int.natCast_add _ _
theorem bit01 (s i : Nat) : ((s / 2 ^ i % 2 : Nat) : Int) = if s.testBit i = true then 1 else 0 := by
  rw [Nat.testBit_eq_decide_div_mod_eq]
  have : s / 2 ^ i % 2 < 2 := Nat.mod_lt _ (by omega)
  by_cases h : s / 2 ^ i % 2 = 1
  · simp [h]
  · have : s / 2 ^ i % 2 = 0 := by omega
    simp [this]
theorem bs_v4 {t : NN} (k : TK t) (x n : Nat) : ((bs (tH t x n (t 0 0)) 10 : Nat) : Int) = v4 t x n := by
  have k1 := k.1
  unfold bs v4
  rw [sm_sN, show (10 : Nat) = t 0 0 + (10 - t 0 0) by omega, sm_split]
  have e : sm (fun i => (((fun i => tH t x n (t 0 0) / 2 ^ i % 2) (t 0 0 + i) : Nat) : Int)) (10 - t 0 0) = 0 := by
    rw [sm_congr (g := fun _ => 0) (fun i _ => by
      rw [bit01, tH_bit, if_neg]
      simp
      omega), sm_zero]
  rw [e, Int.add_zero]
  refine sm_congr fun i hi => ?_
  rw [bit01, tH_bit]
  unfold v2
  by_cases h1 : (t 0 4).testBit i = true
  · by_cases h2 : tp t x n i = 1
    · simp [hi, h1, h2]
    · simp [h1, h2]
  · simp [h1]
theorem tT_v5 {t : NN} (k : TK t) (x n : Nat) : ((tT t x n (t 0 0) : Nat) : Int) = v5 t x n := by
  have k1 := k.1
  unfold tT v5 v2
  have h := tS_3 (t := t) (x := x) (n := n) (t 0 0)
  by_cases b : 1 ≤ t 0 5
  · rw [if_pos b]
    by_cases c : tp t x n (t 0 5 - 1) = 1
    · rw [if_pos (h.mpr ⟨b, by omega, c⟩), if_pos c]; rfl
    · rw [if_neg (fun z => c (h.mp z).2.2), if_neg c]; rfl
  · rw [if_neg (fun z => b (h.mp z).1), if_neg b]; rfl
theorem met_v2 {t : NN} (k : TK t) {x n i : Nat} (hi : i < t 0 1) : ((tM t x n (t 0 0) / 2 ^ i % 2 : Nat) : Int) = v2 t (t 2 i - 1) x n := by
  have k2 := k.2.1 i hi
  rw [bit01, tM_bit k hi]
  unfold v2
  by_cases c : tp t x n (t 2 i - 1) = 1
  · simp [c]; omega
  · simp [c]
theorem sm_nn {f : Nat → Int} : ∀ {n : Nat}, (∀ i, i < n → 0 ≤ f i) → 0 ≤ sm f n
  | 0, _ => Int.le_refl 0
  | n + 1, h => Int.add_nonneg (sm_nn fun i hi => h i (by omega)) (h n (by omega))
theorem sm_ub {f : Nat → Int} {b : Int} : ∀ {n : Nat}, (∀ i, i < n → f i ≤ b) → sm f n ≤ n * b
  | 0, _ => by simp [sm]
  | n + 1, h => by
    have h1 := sm_ub (n := n) fun i hi => h i (by omega)
    have h2 := h n (by omega)
    have e : ((n + 1 : Nat) : Int) * b = n * b + b := by rw [Int.natCast_add, Int.add_mul]; simp
    rw [e]
    exact Int.add_le_add h1 h2
theorem v4_b {t : NN} (k : TK t) (x n : Nat) : 0 ≤ v4 t x n ∧ v4 t x n ≤ 10 := by
  rw [← bs_v4 k]
  have := bs_le (tH t x n (t 0 0)) 10
  omega
theorem v5_b (t : NN) (x n : Nat) : 0 ≤ v5 t x n ∧ v5 t x n ≤ 1 := by
  unfold v5
  split
  · rcases v2_01 t (t 0 5 - 1) x n with h | h <;> rw [h] <;> omega
  · omega
theorem v3_b {t : NN} (x n i : Nat) : 0 ≤ v3 t i x n ∧ v3 t i x n ≤ 10 := by
  have := hN_le (t 1 i) (t 0 7)
  unfold v3
  rcases v2_01 t (t 2 i - 1) x n with h | h <;> rw [h] <;> omega
theorem mul_b {a b p q : Int} (h1 : 0 ≤ a ∧ a ≤ p) (h2 : 0 ≤ b ∧ b ≤ q) (hp : 0 ≤ p) : 0 ≤ a * b ∧ a * b ≤ p * q := ⟨Int.mul_nonneg h1.1 h2.1, Int.mul_le_mul h1.2 h2.2 h2.1 hp⟩
theorem v6_b {t : NN} (k : TK t) (x n : Nat) : -1000 ≤ v6 t x n ∧ v6 t x n ≤ 1000 := by
  have k1 := k.1
  have k2 := k.2.1
  have h : ∀ i, i < t 0 1 → 0 ≤ v3 t i x n * (t 3 i : Int) ∧ v3 t i x n * (t 3 i : Int) ≤ 90 := fun i hi => by
    have := (k2 i hi).2.2.2
    exact mul_b (v3_b x n i) (q := 9) (by omega) (by omega)
  have a1 := sm_nn (n := t 0 1) fun i hi => (h i hi).1
  have a2 := sm_ub (n := t 0 1) fun i hi => (h i hi).2
  have b1 := mul_b (v4_b k x n) (b := (t 0 10 : Int)) (q := 9) (by omega) (by omega)
  have b2 := mul_b (v5_b t x n) (b := (t 0 11 : Int)) (q := 9) (by omega) (by omega)
  unfold v6
  omega
/-- whole numbers of 32 bits -/
def iI (z : Int) : Int32 := Int32.ofInt z
theorem iI_add (a b : Int) : iI a + iI b = iI (a + b) := (Int32.ofInt_add a b).symm
theorem iI_mul (a b : Int) : iI a * iI b = iI (a * b) := (Int32.ofInt_mul a b).symm
theorem iI_sub (a b : Int) : iI a - iI b = iI (a - b) := (Int32.ofInt_sub a b).symm
theorem nI_iI (n : Nat) : nI n = iI n := (Int32.ofInt_eq_ofNat).symm
theorem iI_iL {z : Int} (h : -2147483648 ≤ z ∧ z < 2147483648) : (iI z).toInt64 = iL z := by
  apply Int64.toInt_inj.mp
  unfold iI iL
  rw [Int32.toInt_toInt64, Int32.toInt_ofInt, Int64.toInt_ofInt]
  simp only [Int32.size, Int64.size, Int.bmod_def]
  omega
theorem wn_l {t : NN} {σ : ZI} (q : R8 t σ) {x n : Nat} : ∀ (d i fu : Nat) (A : Int), i + d = t 0 1 → d < fu → f_X8_worthNow_35 (c8 t σ x n (t 0 0)) fu (iI (sm (fun i => v3 t i x n * (t 3 i : Int)) i + A)) (nI i) = some (iI (sm (fun i => v3 t i x n * (t 3 i : Int)) (t 0 1) + A)) := by
  have k1 := q.1.1
  have k2 := q.1.2.1
  have q' : R8 t (c8 t σ x n (t 0 0)) := R8_fr (N8_Sc _ _ _ _ _ _ _ _) q
  intro d
  induction d with
  | zero =>
    intro i fu A h1 h2
    obtain ⟨fu, rfl⟩ : ∃ m, fu = m + 1 := ⟨fu - 1, by omega⟩
    obtain rfl : i = t 0 1 := by omega
    rw [f_X8_worthNow_35, show (c8 t σ x n (t 0 0)) 60 3 = _ from q.2.2.2.1, if_pos (Int32.le_refl _)]
  | succ d ih =>
    intro i fu A h1 h2
    obtain ⟨fu, rfl⟩ : ∃ m, fu = m + 1 := ⟨fu - 1, by omega⟩
    have ki := k2 i (by omega)
    have mt := met_v2 q.1 (x := x) (n := n) (i := i) (by omega)
    have bl := tM_lt q.1 x n (t 0 0)
    have e62 : (c8 t σ x n (t 0 0)) 62 (2 * i + 1) = nI (t 3 i) := (q.2.2.2.2.2.2.2.2.1 i (by omega)).2
    have eh : f_X8_holdsOf (c8 t σ x n (t 0 0)) (nI i) = some (nI (hN (t 1 i) (t 0 7))) := ho8 (by have := q'.2.1.1 i (by omega); rw [Nat.zero_add] at this; exact this) (by rw [show (c8 t σ x n (t 0 0)) 61 14 = _ from q'.2.1.2.2.2.2.2.2.1]; exact Int32.sub_add_cancel _ _) (by omega) (by omega) (by omega)
    have es : sm (fun i => v3 t i x n * (t 3 i : Int)) (i + 1) = sm (fun i => v3 t i x n * (t 3 i : Int)) i + v3 t i x n * (t 3 i : Int) := rfl
    rw [f_X8_worthNow_35, show (c8 t σ x n (t 0 0)) 60 3 = _ from q.2.2.2.1, if_neg (nI_ge (by omega) (by omega)), show (c8 t σ x n (t 0 0)) 60 36 = nI (tM t x n (t 0 0)) from rfl, bt (by omega) (by omega), show (2 : Int32) * nI i = nI (2 * i) from pk_mul 2 i, nI_1, inB_n (by omega) (by omega), if_pos rfl, eh, bso, nI_clamp (by omega), e62]
    unfold f_X8_worthNow_76
    rw [nI_1]
    have bl2 : tM t x n (t 0 0) / 2 ^ i % 2 < 2 := Nat.mod_lt _ (by omega)
    rw [← ih (i + 1) fu A (by omega) (by omega), es]
    unfold v3
    rw [← mt]
    by_cases c : tM t x n (t 0 0) / 2 ^ i % 2 = 1
    · rw [c, if_pos (by decide), nI_iI, nI_iI, iI_mul, iI_add]
      congr 2
      simp
      grind
    · have c0 : tM t x n (t 0 0) / 2 ^ i % 2 = 0 := by omega
      rw [c0, if_neg (by decide), Int32.add_zero]
      congr 2
      simp
theorem wn8 {t : NN} {σ : ZI} (q : R8 t σ) {x n : Nat} : f_X8_worthNow (c8 t σ x n (t 0 0)) = some (iI (v6 t x n)) := by
  have k1 := q.1.1
  have bh := tH_lt (t := t) x n (t 0 0) (by omega)
  unfold f_X8_worthNow
  rw [show (c8 t σ x n (t 0 0)) 60 37 = nI (tH t x n (t 0 0)) from rfl, bs8 (by omega), bso, ltq, show (c8 t σ x n (t 0 0)) 65 0 = _ from q.2.2.2.2.2.2.1, show (c8 t σ x n (t 0 0)) 65 1 = _ from q.2.2.2.2.2.2.2.1, show (c8 t σ x n (t 0 0)) 60 38 = nI (tT t x n (t 0 0)) from rfl]
  have e : ((((-10 : Int32) * nI (t 0 10)) * nI (bs (tH t x n (t 0 0)) 10)) - (((10 : Int32) * nI (t 0 11)) * nI (tT t x n (t 0 0)))) = iI (sm (fun i => v3 t i x n * (t 3 i : Int)) 0 + (-(10 * (v4 t x n * (t 0 10 : Int) + v5 t x n * (t 0 11 : Int))))) := by
    rw [show (-10 : Int32) = iI (-10) from rfl, show (10 : Int32) = iI 10 from rfl, nI_iI, nI_iI, nI_iI, nI_iI, iI_mul, iI_mul, iI_mul, iI_mul, iI_sub, bs_v4 q.1, tT_v5 q.1]
    congr 1
    simp only [sm]
    grind
  rw [e, show f_X8_worthNow_35 (c8 t σ x n (t 0 0)) 3000 (iI (sm (fun i => v3 t i x n * (t 3 i : Int)) 0 + (-(10 * (v4 t x n * (t 0 10 : Int) + v5 t x n * (t 0 11 : Int)))))) 0 = _ from wn_l q (t 0 1) 0 3000 _ (by omega) (by omega)]
  congr 2
end
section
/-! fractions in lowest terms; sums of all weights -/
theorem lN_0 : lN 0 = 0 := rfl
theorem lN_ne {g : Nat} (h : 1 ≤ g) (h2 : g < 2 ^ 62) : ¬ lN g = 0 := by
  intro e
  have := (pk_lEQ (a := g) (b := 0) (by omega) (by omega)).mp (e.trans lN_0.symm)
  omega
theorem eu : ∀ (n a b s f7 f8 : Nat), b < 2 ^ n → a < 2 ^ 62 → n ≤ 62 → (1 ≤ a ∨ 1 ≤ b) → s + 2 * n < 100 → 2 * n < f7 → 2 * n < f8 → ∃ g, 1 ≤ g ∧ g < 2 ^ 62 ∧ (∀ x y, f_X7_greatestShared_9 x y f7 (lN a) (lN b) (nI s) = some (lN g)) ∧ (∀ x y w, f_X8_lowest_17 x y w f8 (lN a) (lN b) = f_X8_lowest_17 x y w 1 (lN g) 0) := by
  have e7 : ∀ (a b s f7 : Nat) (x y : Int64), s < 100 → 1 ≤ b → b < 2 ^ 62 → a < 2 ^ 62 → f_X7_greatestShared_9 x y (f7 + 1) (lN a) (lN b) (nI s) = f_X7_greatestShared_9 x y f7 (lN b) (lN (a % b)) (nI (s + 1)) := by
    intro a b s f7 x y hs hb h1 h2
    rw [f_X7_greatestShared_9, if_neg (show ¬ (100 : Int32) ≤ nI s from nI_ge (b := 100) (by omega) (by omega)), if_neg (fun z => lN_ne hb h1 ((cmp0 _ _).mp z)), if_neg (lN_ne hb h1), pk_lRem (by omega) (by omega) (by omega), nI_1]
  have e8 : ∀ (a b f8 : Nat) (x y : Int64) (w : Int32), 1 ≤ b → b < 2 ^ 62 → a < 2 ^ 62 → f_X8_lowest_17 x y w (f8 + 1) (lN a) (lN b) = f_X8_lowest_17 x y w f8 (lN b) (lN (a % b)) := by
    intro a b f8 x y w hb h1 h2
    rw [f_X8_lowest_17, if_neg (fun z => lN_ne hb h1 ((cmp0 _ _).mp z)), if_neg (lN_ne hb h1), pk_lRem (by omega) (by omega) (by omega)]
  have z7 : ∀ (a s f7 : Nat) (x y : Int64), f_X7_greatestShared_9 x y (f7 + 1) (lN a) (lN 0) (nI s) = some (lN a) := by
    intro a s f7 x y
    rw [f_X7_greatestShared_9, if_pos (show lg_cmp (lN 0) 0 = 0 from (cmp0 _ _).mpr rfl)]
    split <;> rfl
  have z8 : ∀ (a f8 : Nat) (x y : Int64) (w : Int32), f_X8_lowest_17 x y w (f8 + 1) (lN a) (lN 0) = f_X8_lowest_17 x y w 1 (lN a) 0 := by
    intro a f8 x y w
    rw [f_X8_lowest_17, f_X8_lowest_17, if_pos (show lg_cmp (lN 0) 0 = 0 from (cmp0 _ _).mpr rfl), if_pos (show lg_cmp 0 0 = 0 from (cmp0 _ _).mpr rfl)]
  intro n
  induction n with
  | zero =>
    intro a b s f7 f8 h1 h2 h3 h4 h5 h6 h7
    obtain ⟨f7, rfl⟩ : ∃ m, f7 = m + 1 := ⟨f7 - 1, by omega⟩
    obtain ⟨f8, rfl⟩ : ∃ m, f8 = m + 1 := ⟨f8 - 1, by omega⟩
    obtain rfl : b = 0 := by omega
    exact ⟨a, by omega, h2, z7 a s f7, z8 a f8⟩
  | succ n ih =>
    intro a b s f7 f8 h1 h2 h3 h4 h5 h6 h7
    obtain ⟨f7, rfl⟩ : ∃ m, f7 = m + 1 + 1 := ⟨f7 - 2, by omega⟩
    obtain ⟨f8, rfl⟩ : ∃ m, f8 = m + 1 + 1 := ⟨f8 - 2, by omega⟩
    by_cases hb : b = 0
    · subst hb
      exact ⟨a, by omega, h2, z7 a s _, z8 a _⟩
    · have hp : 2 ^ (n + 1) ≤ 2 ^ 62 := Nat.pow_le_pow_right (by omega) h3
      have hr := Nat.mod_lt a (show 0 < b by omega)
      by_cases hc : a % b = 0
      · refine ⟨b, by omega, by omega, fun x y => ?_, fun x y w => ?_⟩
        · rw [e7 a b s _ x y (by omega) (by omega) (by omega) h2, hc, z7]
        · rw [e8 a b _ x y w (by omega) (by omega) h2, hc, z8]
      · have hr2 := Nat.mod_lt b (show 0 < a % b by omega)
        have hd := Nat.div_add_mod b (a % b)
        have hq : 1 ≤ b / (a % b) := Nat.div_pos (by omega) (by omega)
        have hm : a % b ≤ (a % b) * (b / (a % b)) := Nat.le_mul_of_pos_right _ hq
        have h2n : 2 ^ (n + 1) = 2 * 2 ^ n := by rw [Nat.pow_succ, Nat.mul_comm]
        obtain ⟨g, g1, g2, g3, g4⟩ := ih (a % b) (b % (a % b)) (s + 1 + 1) f7 f8 (by omega) (by omega) (by omega) (by omega) (by omega) (by omega) (by omega)
        refine ⟨g, g1, g2, fun x y => ?_, fun x y w => ?_⟩
        · rw [e7 a b s _ x y (by omega) (by omega) (by omega) h2, e7 b (a % b) (s + 1) _ x y (by omega) (by omega) (by omega) (by omega), g3]
        · rw [e8 a b _ x y w (by omega) (by omega) h2, e8 b (a % b) _ x y w (by omega) (by omega) (by omega), g4]
theorem iL_toInt {z : Int} (h : -9223372036854775808 ≤ z ∧ z < 9223372036854775808) : (iL z).toInt = z := by
  unfold iL
  rw [Int64.toInt_ofInt]
  simp only [Int64.size, Int.bmod_def]
  omega
theorem iL_neg (z : Int) : - iL z = iL (-z) := by
  have h : iL (-z) + iL z = 0 := by rw [← iL_add, Int.add_left_neg]; rfl
  grind
theorem pl_eq {num : Int} {D : Nat} (h1 : -4000000000000000000 ≤ num ∧ num ≤ 4000000000000000000) (hD : 1 ≤ D) (hD2 : D < 2 ^ 47) (w : Int32) : ∃ r, f_X7_part (iL num) (iL D) w = some r ∧ f_X8_lowest (iL num) (iL D) w = some r := by
  have hn := iL_toInt (z := num) (by omega)
  have e7 : (if 0 < iL num then iL num else -(iL num)) = lN num.natAbs := by
    rw [lN_iL]
    by_cases h : 0 < num
    · rw [if_pos (by rw [Int64.lt_iff_toInt_lt, hn]; exact h)]
      congr 1; omega
    · rw [if_neg (by rw [Int64.lt_iff_toInt_lt, hn]; exact h), iL_neg]
      congr 1; omega
  have e8 : f_X8_lowest (iL num) (iL D) w = f_X8_lowest_12 (iL num) (iL D) w (lN num.natAbs) := by
    unfold f_X8_lowest
    simp only [lg_cmp_ge]
    rw [lN_iL]
    by_cases h : 0 ≤ num
    · rw [if_pos (by rw [Int64.le_iff_toInt_le, hn]; exact h)]
      congr 2; omega
    · rw [if_neg (by rw [Int64.le_iff_toInt_le, hn]; exact h), iL_neg]
      congr 2; omega
  obtain ⟨g, g1, g2, g3, g4⟩ := eu 47 num.natAbs D 0 3000 3000 hD2 (by omega) (by omega) (.inr hD) (by omega) (by omega) (by omega)
  have gt : ¬ lN g < 1 := by
    rw [show (1 : Int64) = lN 1 from rfl, pk_lLT (by omega) (by omega)]
    omega
  have E7 : f_X7_part (iL num) (iL D) w = if w = 0 then some (iL num / lN g) else some (iL D / lN g) := by
    unfold f_X7_part f_X7_greatestShared
    rw [e7, ← lN_iL D, show f_X7_greatestShared_9 (lN num.natAbs) (lN D) 3000 (lN num.natAbs) (lN D) 0 = _ from g3 _ _, bso, ltq, if_neg gt, if_neg (lN_ne g1 g2), if_neg (lN_ne g1 g2)]
  have E8 : f_X8_lowest (iL num) (iL D) w = if w = 0 then some (iL num / lN g) else some (iL D / lN g) := by
    rw [e8]
    unfold f_X8_lowest_12
    rw [← lN_iL D, g4, f_X8_lowest_17, if_pos ((cmp0 _ _).mpr rfl)]
    unfold f_X8_lowest_52
    rw [if_neg (lN_ne g1 g2), if_neg (lN_ne g1 g2)]
  rw [E7, E8]
  by_cases hw : w = 0
  · exact ⟨iL num / lN g, by rw [if_pos hw], by rw [if_pos hw]⟩
  · exact ⟨iL D / lN g, by rw [if_neg hw], by rw [if_neg hw]⟩
theorem sm_mulr (f : Nat → Int) (a : Int) (n : Nat) : sm (fun i => f i * a) n = sm f n * a := by
  rw [Int.mul_comm, ← sm_mul]
  exact sm_congr fun i _ => Int.mul_comm _ _
theorem wp_sum {q : Nat → Int × Int} {e : Int} (h : ∀ i, (q i).1 + (q i).2 = e) : ∀ k, sm (fun x => wp q x k) (2 ^ k) = e ^ k
  | 0 => by simp [sm, wp]
  | k + 1 => by
    rw [sm_pow, Int.pow_succ, ← wp_sum h k, ← sm_mulr]
    refine sm_congr fun x hx => ?_
    have w1 : wp q x (k + 1) = wp q x k * (q k).2 := by rw [wp, tb_hi hx]; simp
    have w2 : wp q (x + 2 ^ k) (k + 1) = wp q x k * (q k).1 := by rw [wp, tb_add_eq hx, wp_congr (fun i hi => tb_add_lo hi)]; simp
    rw [w1, w2, ← h k]
    grind
theorem wp_nn {q : Nat → Int × Int} (h : ∀ i, 0 ≤ (q i).1 ∧ 0 ≤ (q i).2) (x : Nat) : ∀ k, 0 ≤ wp q x k
  | 0 => by show (0 : Int) ≤ 1; omega
  | k + 1 => by
    unfold wp
    refine Int.mul_nonneg (wp_nn h x k) ?_
    split
    · exact (h k).1
    · exact (h k).2
theorem wp_nn' {q : Nat → Int × Int} (x : Nat) : ∀ k, (∀ i, i < k → 0 ≤ (q i).1 ∧ 0 ≤ (q i).2) → 0 ≤ wp q x k
  | 0, _ => by show (0 : Int) ≤ 1; omega
  | k + 1, h => by
    unfold wp
    refine Int.mul_nonneg (wp_nn' x k fun i hi => h i (by omega)) ?_
    split
    · exact (h k (by omega)).1
    · exact (h k (by omega)).2
theorem sm_le {f g : Nat → Int} : ∀ {n : Nat}, (∀ i, i < n → f i ≤ g i) → sm f n ≤ sm g n
  | 0, _ => Int.le_refl _
  | n + 1, h => Int.add_le_add (sm_le fun i hi => h i (by omega)) (h n (by omega))
theorem SN_le {q r : Nat → Int × Int} {J M : Nat} (hq : ∀ i, i < J → 0 ≤ (q i).1 ∧ 0 ≤ (q i).2) (hr : ∀ i, i < M → 0 ≤ (r i).1 ∧ 0 ≤ (r i).2) {v w : Nat → Nat → Int} (h : ∀ x n, v x n ≤ w x n) : SN q r J M v ≤ SN q r J M w := by
  unfold SN
  exact sm_le fun x _ => Int.mul_le_mul_of_nonneg_left (sm_le fun n _ => Int.mul_le_mul_of_nonneg_left (h x n) (wp_nn' n M hr)) (wp_nn' x J hq)
theorem SN_1 {q r : Nat → Int × Int} {e : Int} (h1 : ∀ i, (q i).1 + (q i).2 = e) (h2 : ∀ i, (r i).1 + (r i).2 = e) (J M : Nat) : SN q r J M (fun _ _ => 1) = e ^ (J + M) := by
  unfold SN
  rw [sm_congr (g := fun x => wp q x J * e ^ M) (fun x _ => by
    rw [sm_congr (g := fun n => wp r n M) (fun n _ => Int.mul_one _), wp_sum h2]), sm_mulr, wp_sum h1, Int.pow_add]
theorem SN_sm (q r : Nat → Int × Int) (J M : Nat) (F : Nat → Nat → Nat → Int) : ∀ k, SN q r J M (fun x n => sm (fun c => F c x n) k) = sm (fun c => SN q r J M (F c)) k
  | 0 => by
    show SN q r J M (fun _ _ => 0) = 0
    have := SN_mul 0 q r J M (fun _ _ => 0)
    simp at this
    exact this
  | k + 1 => by
    show SN q r J M (fun x n => sm (fun c => F c x n) k + F k x n) = sm (fun c => SN q r J M (F c)) k + SN q r J M (F k)
    rw [SN_add, SN_sm q r J M F k]
theorem oq_nn {s : Nat} (h : s ≤ 10) (i : Nat) : 0 ≤ (oq s i).1 ∧ 0 ≤ (oq s i).2 := ⟨by show (0 : Int) ≤ s; omega, by show (0 : Int) ≤ 10 - s; omega⟩
theorem oq_10 (s i : Nat) : (oq s i).1 + (oq s i).2 = 10 := by show (s : Int) + (10 - s) = 10; omega
theorem orr_10 (cf : Nat → Nat) (i : Nat) : (orr cf i).1 + (orr cf i).2 = 10 := by show (cf i : Int) + (10 - cf i) = 10; omega
/-- the marks of a text, as the walk wants them -/
theorem TK_m {t : NN} (k : TK t) : (∀ m, m < t 0 2 → 1 ≤ t 4 m ∧ t 4 m ≤ t 0 0) ∧ (∀ a b, a < t 0 2 → b < t 0 2 → t 4 a = t 4 b → a = b) := ⟨fun m hm => ⟨(k.2.2.2.1 m hm).1, (k.2.2.2.1 m hm).2.1⟩, k.2.2.2.2.1⟩
theorem whole7 {t : NN} (k : TK t) (s : Nat) (cf : Nat → Nat) : bh_ (PO t s cf) (t 0 0) (t 0 0) = ((10 ^ (t 0 0 + t 0 2) : Nat) : Int) := by
  have h := W_SN (TK_m k).1 (TK_m k).2 (oq s) (orr cf) K1 12 0 0 (j := 0) (by omega) 0
  have e : W_ (PQ (oq s) (orr cf) (t 4) (t 0 2)) K1 12 0 0 (t 0 0) 0 0 = bh_ (PO t s cf) (t 0 0) (t 0 0) := by
    show 1 * bh_ (PO t s cf) (t 0 0) (t 0 0 - 0) = _
    rw [Int.one_mul, Nat.sub_zero]
  rw [← e, h, SN_congr (w := fun _ _ => 1) (fun x n _ _ => if_pos ⟨rfl, rfl, rfl⟩), SN_1 (oq_10 s) (orr_10 cf)]
  rw [Int.natCast_pow]
  rfl
theorem SN_bd {t : NN} (k : TK t) {s : Nat} (hs : s ≤ 10) {cf : Nat → Nat} (hc : ∀ m, m < t 0 2 → cf m ≤ 10) {V : Nat → Nat → Int} {a b : Int} (h : ∀ x n, a ≤ V x n ∧ V x n ≤ b) : a * ((10 ^ (t 0 0 + t 0 2) : Nat) : Int) ≤ SN (oq s) (orr cf) (t 0 0) (t 0 2) V ∧ SN (oq s) (orr cf) (t 0 0) (t 0 2) V ≤ b * ((10 ^ (t 0 0 + t 0 2) : Nat) : Int) := by
  have hq : ∀ i, i < t 0 0 → 0 ≤ (oq s i).1 ∧ 0 ≤ (oq s i).2 := fun i _ => oq_nn hs i
  have hr : ∀ i, i < t 0 2 → 0 ≤ (orr cf i).1 ∧ 0 ≤ (orr cf i).2 := fun i hi => by
    have := hc i hi
    exact ⟨by show (0 : Int) ≤ cf i; omega, by show (0 : Int) ≤ 10 - cf i; omega⟩
  have e : ∀ z : Int, SN (oq s) (orr cf) (t 0 0) (t 0 2) (fun _ _ => z) = z * ((10 ^ (t 0 0 + t 0 2) : Nat) : Int) := fun z => by
    have := SN_mul z (oq s) (orr cf) (t 0 0) (t 0 2) (fun _ _ => 1)
    simp only [Int.mul_one] at this
    rw [this, SN_1 (oq_10 s) (orr_10 cf), Int.natCast_pow]
    rfl
  rw [← e, ← e]
  exact ⟨SN_le hq hr fun x n => (h x n).1, SN_le hq hr fun x n => (h x n).2⟩
theorem p10 {t : NN} (k : TK t) : 1 ≤ 10 ^ (t 0 0 + t 0 2) ∧ 10 ^ (t 0 0 + t 0 2) ≤ 10000000000000 := by
  have k1 := k.1
  exact ⟨Nat.one_le_pow _ _ (by omega), (Nat.pow_le_pow_right (by omega) (show t 0 0 + t 0 2 ≤ 13 by omega) : 10 ^ (t 0 0 + t 0 2) ≤ 10 ^ 13)⟩
end
section
/-! the reference's values *-/
def VO (t : NN) (σ : ZI) (a b c : Int32) (x n : Nat) (z : Int) : Prop := ∃ v σ'', f_X8_valueOf (c8 t σ x n (t 0 0)) a b c (nI x) (nI n) = some (v, σ'') ∧ v.toInt64 = iL z ∧ Sc σ σ''
theorem c8_Sc (t : NN) (σ : ZI) (x n j : Nat) : Sc σ (c8 t σ x n j) := N8_Sc _ _ _ _ _ _ _ _
theorem vo_0 {t : NN} {σ : ZI} (q : R8 t σ) {x n a b : Nat} (hx : x < 2 ^ 31) (hn : n < 2 ^ 31) (ha : a ≤ t 0 0) (hb : b < 2 ^ 31) : VO t σ 0 (nI a) (nI b) x n (v0 t a b x n) := by
  have k1 := q.1.1
  have hc : tC t x n a ≤ a := cn_le _ _ _ _ _
  have e := ct8 (R8_M8 (R8_fr (c8_Sc t σ x n (t 0 0)) q)) (J := a) hx hn (by omega)
  unfold VO f_X8_valueOf v0
  rw [if_pos rfl, e, bso]
  refine ⟨if tC t x n a = b then 1 else 0, s33 (c8 t σ x n (t 0 0)) (nI (tC t x n a)), ?_, ?_, Sc_tr (c8_Sc t σ x n (t 0 0)) (s33_Sc _ _)⟩
  · by_cases h : tC t x n a = b
    · rw [if_pos (by rw [h]), if_pos h]
    · rw [if_neg (fun z => h (nI_inj (by omega) hb z)), if_neg h]
  · split <;> rfl
theorem vo_1 {t : NN} {σ : ZI} (q : R8 t σ) {x n j : Nat} {c : Int32} (hj : j < t 0 0) : VO t σ 1 (nI (j + 1)) c x n (v1 t j x n) := by
  have k1 := q.1.1
  have e := tO_is (t := t) (x := x) (n := n) (j := j) (by omega) (t 0 0) (by omega)
  unfold VO f_X8_valueOf v1
  rw [if_neg (by decide), if_pos rfl, show (c8 t σ x n (t 0 0)) 60 34 = tO t x n (t 0 0) from rfl]
  refine ⟨if tS t x n j = 0 ∧ t 0 8 ≤ tC t x n (j + 1) then 1 else 0, c8 t σ x n (t 0 0), ?_, ?_, c8_Sc t σ x n (t 0 0)⟩
  · by_cases h : tS t x n j = 0 ∧ t 0 8 ≤ tC t x n (j + 1)
    · rw [if_pos (e.mpr ⟨hj, h⟩), if_pos h]
    · rw [if_neg (fun z => h (e.mp z).2), if_neg h]
  · split <;> rfl
theorem vo_2 {t : NN} {σ : ZI} (q : R8 t σ) {x n j : Nat} {c : Int32} (hj : j < t 0 0) : VO t σ 2 (nI (j + 1)) c x n (v2 t j x n) := by
  have k1 := q.1.1
  have bq := tQ_lt (t := t) x n (t 0 0) (by omega)
  unfold VO f_X8_valueOf v2
  rw [if_neg (by decide), if_neg (by decide), if_pos rfl, show (c8 t σ x n (t 0 0)) 60 39 = nI (tQ t x n (t 0 0)) from rfl, nI_pred, bt (by omega) (by omega)]
  refine ⟨nI (tQ t x n (t 0 0) / 2 ^ j % 2), c8 t σ x n (t 0 0), rfl, ?_, c8_Sc t σ x n (t 0 0)⟩
  have : tQ t x n (t 0 0) / 2 ^ j % 2 < 2 := Nat.mod_lt _ (by omega)
  rw [nI_iL (by omega), bit01, tQ_bit]
  by_cases h : tp t x n j = 1
  · simp [h, hj]
  · simp [h]
theorem vo_3 {t : NN} {σ : ZI} (q : R8 t σ) {x n i : Nat} {c : Int32} (hi : i < t 0 1) : VO t σ 3 (nI i) c x n (v3 t i x n) := by
  have k1 := q.1.1
  have k2 := q.1.2.1 i hi
  have bm := tM_lt q.1 x n (t 0 0)
  have q' := R8_fr (c8_Sc t σ x n (t 0 0)) q
  have eh : f_X8_holdsOf (c8 t σ x n (t 0 0)) (nI i) = some (nI (hN (t 1 i) (t 0 7))) := ho8 (by have := q'.2.1.1 i hi; rw [Nat.zero_add] at this; exact this) (by rw [show (c8 t σ x n (t 0 0)) 61 14 = _ from q'.2.1.2.2.2.2.2.2.1]; exact Int32.sub_add_cancel _ _) (by omega) (by omega) (by omega)
  have hl := hN_le (t 1 i) (t 0 7)
  have m2 : tM t x n (t 0 0) / 2 ^ i % 2 < 2 := Nat.mod_lt _ (by omega)
  have mb : tM t x n (t 0 0) / 2 ^ i % 2 * hN (t 1 i) (t 0 7) ≤ 1 * 10 := Nat.mul_le_mul (by omega) hl
  unfold VO f_X8_valueOf
  rw [if_neg (by decide), if_neg (by decide), if_neg (by decide), if_pos rfl, eh, bso, show (c8 t σ x n (t 0 0)) 60 36 = nI (tM t x n (t 0 0)) from rfl, bt (by omega) (by omega), pk_mul]
  refine ⟨_, c8 t σ x n (t 0 0), rfl, ?_, c8_Sc t σ x n (t 0 0)⟩
  rw [nI_iL (by omega)]
  unfold v3
  rw [← met_v2 q.1 hi]
  congr 1
theorem vo_4 {t : NN} {σ : ZI} (q : R8 t σ) {x n : Nat} {b c : Int32} : VO t σ 4 b c x n (v4 t x n) := by
  have k1 := q.1.1
  have bh := tH_lt (t := t) x n (t 0 0) (by omega)
  have bl := bs_le (tH t x n (t 0 0)) 10
  unfold VO f_X8_valueOf
  rw [if_neg (by decide), if_neg (by decide), if_neg (by decide), if_neg (by decide), if_pos rfl, show (c8 t σ x n (t 0 0)) 60 37 = nI (tH t x n (t 0 0)) from rfl, bs8 (by omega), bso]
  exact ⟨_, c8 t σ x n (t 0 0), rfl, by rw [nI_iL (by omega), bs_v4 q.1], c8_Sc t σ x n (t 0 0)⟩
theorem vo_5 {t : NN} {σ : ZI} (q : R8 t σ) {x n : Nat} {b c : Int32} : VO t σ 5 b c x n (v5 t x n) := by
  have h : tT t x n (t 0 0) ≤ 1 := by unfold tT; split <;> omega
  unfold VO f_X8_valueOf
  rw [if_neg (by decide), if_neg (by decide), if_neg (by decide), if_neg (by decide), if_neg (by decide), if_pos rfl, show (c8 t σ x n (t 0 0)) 60 38 = nI (tT t x n (t 0 0)) from rfl]
  exact ⟨_, c8 t σ x n (t 0 0), rfl, by rw [nI_iL (by omega), tT_v5 q.1], c8_Sc t σ x n (t 0 0)⟩
theorem vo_6 {t : NN} {σ : ZI} (q : R8 t σ) {x n : Nat} {b c : Int32} : VO t σ 6 b c x n (v6 t x n) := by
  have h := v6_b q.1 x n
  unfold VO f_X8_valueOf
  rw [if_neg (by decide), if_neg (by decide), if_neg (by decide), if_neg (by decide), if_neg (by decide), if_neg (by decide), if_pos rfl, wn8 q, bso]
  exact ⟨_, c8 t σ x n (t 0 0), rfl, iI_iL (by omega), c8_Sc t σ x n (t 0 0)⟩
/-- what was seen, on the reference's side -/
def S8 (J n : Nat) (sj sc : Nat → Nat) (σ : ZI) : Prop := n ≤ 6 ∧ σ 60 41 = nI n ∧ ∀ i, i < n → 1 ≤ sj i ∧ sj i ≤ J ∧ sc i ≤ 10 ∧ σ 74 (2 * i) = nI (sj i) ∧ σ 74 (2 * i + 1) = nI (sc i)
theorem S8_fr {J n : Nat} {sj sc : Nat → Nat} {σ σ' : ZI} (h : Sc σ σ') (q : S8 J n sj sc σ) : S8 J n sj sc σ' := by
  obtain ⟨a, b, c⟩ := q
  refine ⟨a, (h _ _ (by omega)).trans b, fun i hi => ?_⟩
  obtain ⟨c1, c2, c3, c4, c5⟩ := c i hi
  exact ⟨c1, c2, c3, (h _ _ (by omega)).trans c4, (h _ _ (by omega)).trans c5⟩
/-- all is as seen -/
def as_ (t : NN) (sj sc : Nat → Nat) (x n : Nat) : Nat → Bool
  | 0 => true
  | i + 1 => as_ t sj sc x n i && (tC t x n (sj i) == sc i)
theorem as_l {t : NN} {σ : ZI} (q : M8 t σ) {N : Nat} {sj sc : Nat → Nat} (hS : S8 (t 0 0) N sj sc σ) {x n : Nat} (hx : x < 2 ^ 31) (hn : n < 2 ^ 31) : ∀ (d i fu : Nat) (σ' : ZI), i + d = N → d < fu → Sc σ σ' → ∃ σ'', f_X8_isAsSeen_5 (nI x) (nI n) fu σ' (if as_ t sj sc x n i = true then 1 else 0) (nI i) = some (if as_ t sj sc x n N = true then 1 else 0, σ'') ∧ Sc σ σ'' := by
  have k1 := q.1.1
  have fin : ∀ (c : Prop) [Decidable c] (s : ZI), (if (if c then (1 : Int32) else 0) = 0 ∨ (if c then (1 : Int32) else 0) = 1 then some ((if c then (1 : Int32) else 0), s) else none) = some ((if c then (1 : Int32) else 0), s) := by
    intro c _ s
    by_cases h : c
    · simp [h]
    · simp [h]
  intro d
  induction d with
  | zero =>
    intro i fu σ' h1 h2 h3
    obtain ⟨fu, rfl⟩ : ∃ m, fu = m + 1 := ⟨fu - 1, by omega⟩
    obtain rfl : i = N := by omega
    exact ⟨σ', by rw [f_X8_isAsSeen_5, show σ' 60 41 = _ from (S8_fr h3 hS).2.1, if_pos (Int32.le_refl _), fin], h3⟩
  | succ d ih =>
    intro i fu σ' h1 h2 h3
    obtain ⟨fu, rfl⟩ : ∃ m, fu = m + 1 := ⟨fu - 1, by omega⟩
    have hS' := S8_fr h3 hS
    have n6 := hS.1
    obtain ⟨c1, c2, c3, c4, c5⟩ := hS'.2.2 i (by omega)
    have e1 : as_ t sj sc x n (i + 1) = (as_ t sj sc x n i && (tC t x n (sj i) == sc i)) := rfl
    rw [f_X8_isAsSeen_5, show σ' 60 41 = _ from hS'.2.1, if_neg (nI_ge (by omega) (by omega))]
    by_cases h : as_ t sj sc x n i = true
    · have q' : M8 t σ' := ⟨q.1, (h3 _ _ (by omega)).trans q.2.1, fun j hj => (h3 _ _ (by omega)).trans (q.2.2 j hj)⟩
      have hc : tC t x n (sj i) ≤ sj i := cn_le _ _ _ _ _
      rw [if_pos h, if_neg (by decide), show (2 : Int32) * nI i = nI (2 * i) from pk_mul 2 i, nI_1, inB_n (by omega) (by omega), if_pos rfl, nI_clamp (by omega), c4, ct8 q' hx hn (by omega), bso, inB_n (by omega) (by omega), if_pos rfl, nI_clamp (by omega)]
      dsimp only
      simp only [show (s33 σ' (nI (tC t x n (sj i)))) 74 (2 * i + 1) = nI (sc i) from c5]
      unfold f_X8_isAsSeen_52
      rw [nI_1]
      obtain ⟨σ'', g1, g2⟩ := ih (i + 1) fu (s33 σ' (nI (tC t x n (sj i)))) (by omega) (by omega) (Sc_tr h3 (s33_Sc _ _))
      refine ⟨σ'', ?_, g2⟩
      rw [← g1, e1, h]
      by_cases w : tC t x n (sj i) = sc i
      · rw [if_pos (by rw [w]), if_pos (show (true && (tC t x n (sj i) == sc i)) = true by simp [w])]
      · rw [if_neg (fun z => w (nI_inj (by omega) (by omega) z)), if_neg (show ¬ (true && (tC t x n (sj i) == sc i)) = true by simp [w])]
    · have hN : ∀ e, as_ t sj sc x n (i + e) ≠ true := by
        intro e
        induction e with
        | zero => exact h
        | succ e ihe =>
          intro z
          have : (as_ t sj sc x n (i + e) && (tC t x n (sj (i + e)) == sc (i + e))) = true := z
          rw [Bool.and_eq_true] at this
          exact ihe this.1
      have hNN := hN (d + 1)
      rw [h1] at hNN
      exact ⟨σ', by rw [if_neg h, if_pos rfl, if_pos (.inl rfl), if_neg hNN], h3⟩
theorem as8 {t : NN} {σ : ZI} (q : M8 t σ) {N : Nat} {sj sc : Nat → Nat} (hS : S8 (t 0 0) N sj sc σ) {x n : Nat} (hx : x < 2 ^ 31) (hn : n < 2 ^ 31) : ∃ σ'', f_X8_isAsSeen σ (nI x) (nI n) = some (if as_ t sj sc x n N = true then 1 else 0, σ'') ∧ Sc σ σ'' := as_l q hS hx hn N 0 3000 σ (by omega) (by have := hS.1; omega) (Sc_rf σ)
def v7 (t : NN) (sj sc : Nat → Nat) (N : Nat) : Nat → Nat → Int := fun x n => if as_ t sj sc x n N = true then 1 else 0
theorem vo_7 {t : NN} {σ : ZI} (q : R8 t σ) {N : Nat} {sj sc : Nat → Nat} (hS : S8 (t 0 0) N sj sc σ) {x n : Nat} (hx : x < 2 ^ 31) (hn : n < 2 ^ 31) {b c : Int32} : VO t σ 7 b c x n (v7 t sj sc N x n) := by
  obtain ⟨σ'', g1, g2⟩ := as8 (R8_M8 (R8_fr (c8_Sc t σ x n (t 0 0)) q)) (S8_fr (c8_Sc t σ x n (t 0 0)) hS) hx hn
  unfold VO f_X8_valueOf v7
  rw [if_neg (by decide), if_neg (by decide), if_neg (by decide), if_neg (by decide), if_neg (by decide), if_neg (by decide), if_neg (by decide), g1, bso]
  refine ⟨if as_ t sj sc x n N = true then 1 else 0, σ'', ?_, ?_, Sc_tr (c8_Sc t σ x n (t 0 0)) g2⟩
  · by_cases h : as_ t sj sc x n N = true
    · rw [if_pos h]; rfl
    · rw [if_neg h]; rfl
  · split <;> rfl
/-- the mean, on the reference's side -/
theorem mean8 {t : NN} {σ : ZI} (q : R8 t σ) {a b c w : Int32} (V : Nat → Nat → Int) (hV : ∀ (σ' : ZI) (x n : Nat), Sc σ σ' → x < 2 ^ t 0 0 → n < 2 ^ t 0 2 → VO t σ' a b c x n (V x n)) : (∃ σ', f_X8_sumOf σ a b c = some (iL (SN (oq (t 0 6)) (orr (t 5)) (t 0 0) (t 0 2) V), σ') ∧ Sc σ σ') ∧ ∃ σ', Sc σ σ' ∧ f_X8_meanOf σ a b c w = (f_X8_lowest (iL (SN (oq (t 0 6)) (orr (t 5)) (t 0 0) (t 0 2) V)) (iL (((if a = 3 ∨ a = 6 then 10 else 1) * 10 ^ (t 0 0 + t 0 2) : Nat) : Int)) w).bind fun q3 => some (q3, σ') := by
  obtain ⟨σ', s1, s2⟩ := sum8 q (a := a) (b := b) (c := c) V (fun σ' x n h1 h2 h3 => by
    obtain ⟨v, σ'', e1, e2, e3⟩ := hV σ' x n h1 h2 h3
    exact ⟨v, σ'', e1, e2, Sc_tr h1 e3⟩)
  have q' := R8_fr s2 q
  refine ⟨⟨σ', s1, s2⟩, σ', s2, ?_⟩
  unfold f_X8_meanOf f_X8_meanOf_19 f_X8_meanOf_24
  rw [s1, bso]
  by_cases h3 : a = 3
  · rw [if_pos h3, aw8_1 q', bso, if_pos (.inl h3), Int.natCast_mul, Int.natCast_pow]; rfl
  · rw [if_neg h3]
    by_cases h6 : a = 6
    · rw [if_pos h6, aw8_1 q', bso, if_pos (.inr h6), Int.natCast_mul, Int.natCast_pow]; rfl
    · rw [if_neg h6, aw8_0 q', bso, if_neg (fun z => z.elim h3 h6), Int.natCast_mul, Int.natCast_pow]; rfl
end
section
/-! by odds: the calls -/
abbrev DN (t : NN) : Nat := 10 ^ (t 0 0 + t 0 2)
abbrev SO (t : NN) (s : Nat) (cf : Nat → Nat) (V : Nat → Nat → Int) : Int := SN (oq s) (orr cf) (t 0 0) (t 0 2) V
/-- two texts that differ in OUT and IN alone -/
def ON (t u : NN) : Prop := ∀ r i, ¬ (r = 0 ∧ (i = 8 ∨ i = 9)) → u r i = t r i
theorem ON_rf (t : NN) : ON t t := fun _ _ _ => rfl
theorem O_v2 {t u : NN} (k : TK u) (h : ON t u) (s : Nat) (cf : Nat → Nat) {j : Nat} (hj : j < t 0 0) : O_ (PO t s cf) K1 (u 0 8) (u 0 9) (u 0 5) (t 0 0) j = SO t s cf (v2 u j) := by
  have e0 : u 0 0 = t 0 0 := h _ _ (by omega)
  have e2 : u 0 2 = t 0 2 := h _ _ (by omega)
  have e4 : u 4 = t 4 := funext fun i => h _ _ (by omega)
  have m := TK_m k
  have k1 := k.1
  rw [e0, e2, e4] at m
  unfold PO
  rw [O_SN m.1 m.2 (oq s) (orr cf) K1 (u 0 8) (u 0 9) (u 0 5) (by omega) hj]
  refine SN_congr fun x n _ _ => ?_
  unfold v2 tp tS tC
  rw [e2, e4]
  simp only [okK1, and_true]
theorem G_v1 {t : NN} (k : TK t) (s : Nat) (cf : Nat → Nat) {j : Nat} (hj : j < t 0 0) : G_ (PO t s cf) K1 (t 0 8) (t 0 9) (t 0 5) (t 0 0) j = SO t s cf (v1 t j) := by
  have m := TK_m k
  have k1 := k.1
  unfold PO
  rw [G_SN m.1 m.2 (oq s) (orr cf) K1 (t 0 8) (t 0 9) (t 0 5) (by omega) hj]
  refine SN_congr fun x n _ _ => ?_
  unfold v1 tS tC
  simp only [okK1, and_true]
theorem ns12 (mj : Nat → Nat) (M x n IN BR : Nat) : ∀ j, j ≤ 10 → ns mj M x n 12 IN BR j = 0
  | 0, _ => rfl
  | j + 1, h => by
    have ih := ns12 mj M x n IN BR j (by omega)
    have hc := cn_le mj M x n (j + 1)
    have e : pa 12 IN (ns mj M x n 12 IN BR j) (cn mj M x n (j + 1)) = 0 := by
      rw [ih]; unfold pa; rw [if_pos rfl, if_neg (by omega)]
    unfold ns
    rw [e, if_neg (fun z => absurd z.1 (by omega))]
theorem W_v0 {t : NN} (k : TK t) (s : Nat) (cf : Nat → Nat) {j : Nat} (hj : j ≤ t 0 0) (c : Nat) : W_ (PO t s cf) K1 12 0 0 (t 0 0) j c = SO t s cf (v0 t j c) := by
  have m := TK_m k
  have k1 := k.1
  unfold PO
  rw [W_SN m.1 m.2 (oq s) (orr cf) K1 12 0 0 hj c]
  refine SN_congr fun x n _ _ => ?_
  unfold v0 tC
  rw [ns12 _ _ _ _ _ _ _ (by omega)]
  simp only [okK1, and_true]
  by_cases h : cn (t 4) (t 0 2) x n j = c
  · rw [if_pos h.symm, if_pos h]
  · rw [if_neg (fun z => h z.symm), if_neg h]
/-- as seen: joint by joint, or one by one -/
theorem KS_iff (sj sc : Nat → Nat) (j c : Nat) : ∀ n, KS sj sc j c n = true ↔ ∀ i, i < n → sj i = j + 1 → c = sc i
  | 0 => ⟨fun _ i hi => absurd hi (Nat.not_lt_zero _), fun _ => rfl⟩
  | n + 1 => by
    have ih := KS_iff sj sc j c n
    have e : KS sj sc j c (n + 1) = (KS sj sc j c n && (!(sj n == j + 1) || c == sc n)) := rfl
    rw [e, Bool.and_eq_true, ih]
    constructor
    · rintro ⟨a, b⟩ i hi hs
      by_cases z : i = n
      · subst z
        simp [hs] at b
        exact b
      · exact a i (by omega) hs
    · intro h
      refine ⟨fun i hi => h i (by omega), ?_⟩
      by_cases z : sj n = j + 1
      · simp [z, h n (by omega) z]
      · simp [z]
theorem as_iff (t : NN) (sj sc : Nat → Nat) (x n : Nat) : ∀ N, as_ t sj sc x n N = true ↔ ∀ i, i < N → tC t x n (sj i) = sc i
  | 0 => ⟨fun _ i hi => absurd hi (Nat.not_lt_zero _), fun _ => rfl⟩
  | N + 1 => by
    have ih := as_iff t sj sc x n N
    have e : as_ t sj sc x n (N + 1) = (as_ t sj sc x n N && (tC t x n (sj N) == sc N)) := rfl
    rw [e, Bool.and_eq_true, ih]
    constructor
    · rintro ⟨a, b⟩ i hi
      by_cases z : i = N
      · subst z; simpa using b
      · exact a i (by omega)
    · intro h
      exact ⟨fun i hi => h i (by omega), by simp [h N (by omega)]⟩
theorem okK_iff (mj : Nat → Nat) (M x n : Nat) (K : Nat → Nat → Bool) : ∀ j, okK mj M x n K j = true ↔ ∀ i, i < j → K i (cn mj M x n (i + 1)) = true
  | 0 => ⟨fun _ i hi => absurd hi (Nat.not_lt_zero _), fun _ => rfl⟩
  | j + 1 => by
    have ih := okK_iff mj M x n K j
    have e : okK mj M x n K (j + 1) = (okK mj M x n K j && K j (cn mj M x n (j + 1))) := rfl
    rw [e, Bool.and_eq_true, ih]
    constructor
    · rintro ⟨a, b⟩ i hi
      by_cases z : i = j
      · subst z; exact b
      · exact a i (by omega)
    · intro h
      exact ⟨fun i hi => h i (by omega), h j (by omega)⟩
theorem as_ok {t : NN} {N : Nat} {sj sc : Nat → Nat} (h : ∀ i, i < N → 1 ≤ sj i ∧ sj i ≤ t 0 0) (x n : Nat) : okK (t 4) (t 0 2) x n (fun j c => KS sj sc j c N) (t 0 0) = as_ t sj sc x n N := by
  apply Bool.eq_iff_iff.mpr
  rw [okK_iff, as_iff]
  constructor
  · intro a i hi
    obtain ⟨h1, h2⟩ := h i hi
    have := (KS_iff sj sc (sj i - 1) (cn (t 4) (t 0 2) x n (sj i - 1 + 1)) N).mp (a (sj i - 1) (by omega)) i hi (by omega)
    rw [show sj i - 1 + 1 = sj i by omega] at this
    exact this
  · intro a j hj
    refine (KS_iff sj sc j _ N).mpr fun i hi hs => ?_
    have := a i hi
    rw [hs] at this
    exact this
theorem seen_v7 {t : NN} (k : TK t) {N : Nat} {sj sc : Nat → Nat} (h : ∀ i, i < N → 1 ≤ sj i ∧ sj i ≤ t 0 0) (q r : Nat → Int × Int) : sm (rw_ (PQ q r (t 4) (t 0 2)) (fun j c => KS sj sc j c N) 12 0 0 (t 0 0)).1 11 = SN q r (t 0 0) (t 0 2) (v7 t sj sc N) := by
  have m := TK_m k
  have k1 := k.1
  have e : ∀ c, (rw_ (PQ q r (t 4) (t 0 2)) (fun j c => KS sj sc j c N) 12 0 0 (t 0 0)).1 c = SN q r (t 0 0) (t 0 2) (fun x n => if c = tC t x n (t 0 0) then v7 t sj sc N x n else 0) := by
    intro c
    have := W_SN m.1 m.2 q r (fun j c => KS sj sc j c N) 12 0 0 (Nat.le_refl (t 0 0)) c
    unfold W_ at this
    rw [Nat.sub_self] at this
    have e1 : bh_ (PQ q r (t 4) (t 0 2)) (t 0 0) 0 = 1 := rfl
    rw [e1, Int.mul_one] at this
    rw [this]
    refine SN_congr fun x n _ _ => ?_
    rw [ns12 _ _ _ _ _ _ _ (by omega), as_ok h x n]
    unfold v7 tC
    by_cases a : c = cn (t 4) (t 0 2) x n (t 0 0)
    · simp only [a, true_and, if_true]
    · simp only [a, false_and, if_false]
  rw [sm_congr (fun c _ => e c), ← SN_sm]
  refine SN_congr fun x n _ _ => ?_
  have hc : tC t x n (t 0 0) ≤ t 0 0 := cn_le _ _ _ _ _
  rw [sm_delta, if_pos (by omega)]
theorem s41_0 (σ : ZI) (J : Nat) : (s41 σ J) 41 0 = nI J := by
  show upd (σ 41) 0 (nI J) 0 = _
  exact pk_us
/-- what a walk of the net leaves -/
theorem pbo7 {t u : NN} {σ : ZI} {τ : ZL} {s : Nat} {cf : Nat → Nat} (q : T7 t σ) (ku : TK u) (h : ON t u) (hW : Wg τ (PO t s cf) (t 0 0)) (hL : InL τ) : ∃ τ', f_X0_passWithNet (s41 σ (t 0 0)) τ (nI (u 0 8)) (nI (u 0 9)) (nI (t 0 5)) = some τ' ∧ Wg τ' (PO t s cf) (t 0 0) ∧ InL τ' ∧ (∀ j, j < t 0 0 → τ' 49 (j + 1) = iL (G_ (PO t s cf) K1 (u 0 8) (u 0 9) (u 0 5) (t 0 0) j)) ∧ (∀ j, j < t 0 0 → τ' 50 (j + 1) = iL (SO t s cf (v2 u j))) := by
  have k1 := q.1.1
  have u1 := ku.1
  have e5 : u 0 5 = t 0 5 := h _ _ (by omega)
  obtain ⟨τ', g1, g2, g3⟩ := net7 (σ := s41 σ (t 0 0)) (τ := τ) (P := PO t s cf) (OUT := u 0 8) (IN := u 0 9) (BR := u 0 5) (J := t 0 0) (by omega) (by omega) (by omega) (by omega) (s41_0 σ _) hW
  rw [← e5]
  exact ⟨τ', g1, Wg_fr (fun c k _ _ => g2 c k (by omega)) hW, (g2 50 0 (by omega)).trans hL, fun j hj => (g3 j hj).1, fun j hj => by rw [(g3 j hj).2, O_v2 ku h s cf hj]⟩
end
section
/-! by odds: the calls, on both sides -/
def RLz (X : Option (Int64 × ZI × ZL)) (Y : ZI → Option (Int64 × ZI)) : Prop := ∃ r σ1 τ1 σ2, X = some (r, σ1, τ1) ∧ Y σ1 = some (r, σ2) ∧ Inv σ2 ∧ InL τ1
theorem rl_bad {σ : ZI} {τ : ZL} (I : Inv σ) (hL : InL τ) {X : Option (Int64 × ZI × ZL)} {Y : ZI → Option (Int64 × ZI)} (hX : X = some (-1, σ, τ)) (hY : Y σ = some (-1, σ)) : RLz X Y := ⟨-1, σ, τ, σ, hX, hY, I, hL⟩
theorem rl_fin {t : NN} {σ : ZI} {τ1 : ZL} {a b c w : Int32} {V : Nat → Nat → Int} {num : Int} {D : Nat} (I : Inv σ) (iT : InvT t σ) (hL : InL τ1) (hn : num = SO t (t 0 6) (t 5) V) (hD : D = (if a = 3 ∨ a = 6 then 10 else 1) * DN t) (bd : ∀ x n, -1000 ≤ V x n ∧ V x n ≤ 1000) (hV : ∀ (σ' : ZI) (x n : Nat), Sc (s41 σ (t 0 0)) σ' → x < 2 ^ t 0 0 → n < 2 ^ t 0 2 → VO t σ' a b c x n (V x n)) {X : Option (Int64 × ZI × ZL)} {Y : ZI → Option (Int64 × ZI)}
    (hX : X = (f_X7_part (iL num) (iL D) w).bind fun q7 => some (q7, s41 σ (t 0 0), τ1)) (hY : Y (s41 σ (t 0 0)) = (f_X8_meanOf (s41 σ (t 0 0)) a b c w).bind fun q => some (q.1, q.2)) : RLz X Y := by
  have k := iT.1
  have k1 := k.1
  have p := p10 k
  have iT' : InvT t (s41 σ (t 0 0)) := InvT_sg (s41_sg _ _) iT
  obtain ⟨-, σ', m1, m2⟩ := mean8 (w := w) (InvT_R8 iT') V hV
  have bb := SN_bd k (s := t 0 6) (by omega) (cf := t 5) (fun m hm => (k.2.2.2.1 m hm).2.2) bd
  have hD1 : 1 ≤ D ∧ D < 2 ^ 47 := by
    rw [hD]
    unfold DN
    split <;> omega
  have hn2 : -4000000000000000000 ≤ num ∧ num ≤ 4000000000000000000 := by
    rw [hn]
    unfold SO
    omega
  obtain ⟨r, r1, r2⟩ := pl_eq hn2 hD1.1 hD1.2 w
  refine ⟨r, s41 σ (t 0 0), τ1, σ', ?_, ?_, Inv_sg (Sc_sg m1) (Inv_sg (s41_sg _ _) I), hL⟩
  · rw [hX, r1, bso]
  · rw [hn, hD] at r2
    rw [hY, m2, show f_X8_lowest _ _ w = _ from r2, bso, bso]
theorem whole_n {t : NN} {τ : ZL} {s : Nat} {cf : Nat → Nat} (k : TK t) (hW : Wg τ (PO t s cf) (t 0 0)) : f_X0_whole τ = some (iL (DN t)) := by
  have := hW.2 (t 0 0) (Nat.le_refl _)
  rw [Nat.sub_self, whole7 k] at this
  exact congrArg some this
theorem S_bd {t : NN} {x n : Nat} (j : Nat) : -1000 ≤ v2 t j x n ∧ v2 t j x n ≤ 1000 := by rcases v2_01 t j x n with h | h <;> rw [h] <;> omega
/-- the class's walk as the text has it -/
theorem pb7 {t : NN} {σ : ZI} {τ : ZL} (iT : InvT t σ) (hL : InL τ) : ∃ τ', f_X7_passByOdds σ τ = some (s41 σ (t 0 0), τ') ∧ Wg τ' (PO t (t 0 6) (t 5)) (t 0 0) ∧ InL τ' ∧ (∀ j, j < t 0 0 → τ' 49 (j + 1) = iL (SO t (t 0 6) (t 5) (v1 t j))) ∧ (∀ j, j < t 0 0 → τ' 50 (j + 1) = iL (SO t (t 0 6) (t 5) (v2 t j))) := by
  have k1 := iT.1.1
  have e := iT.2.1.1
  obtain ⟨t1, a1, a2, a3⟩ := wb7 (InvT_T7 iT) τ (s := t 0 6) (by omega) (cl := -4) (.inl ⟨rfl, rfl⟩)
  obtain ⟨τ', b1, b2, b3, b4, b5⟩ := pbo7 (InvT_T7 iT) iT.1 (ON_rf t) a3 ((a2 50 0 (by omega)).trans hL)
  refine ⟨τ', ?_, b2, b3, fun j hj => by rw [b4 j hj, G_v1 iT.1 _ _ hj], b5⟩
  unfold f_X7_passByOdds
  rw [v1_6, bso, show σ 2 6 = _ from e 6 (by omega), a1, bso, v1_8, bso, v1_9, bso, v1_5, bso]
  dsimp only
  rw [show (s41 σ (t 0 0)) 2 8 = _ from e 8 (by omega), show (s41 σ (t 0 0)) 2 9 = _ from e 9 (by omega), show (s41 σ (t 0 0)) 2 5 = _ from e 5 (by omega), b1, bso]
/-- the parts of what is read of the walk -/
theorem met7 {t : NN} {σ : ZI} {τ : ZL} (iT : InvT t σ) {O : Nat → Int} (h : ∀ j, j < t 0 0 → τ 50 (j + 1) = iL (O j)) {i : Nat} (hi : i < t 0 1) : f_X7_metBy (s41 σ (t 0 0)) τ (nI i) = some (iL (O (t 2 i - 1))) := by
  have k1 := iT.1.1
  have k2 := iT.1.2.1 i hi
  unfold f_X7_metBy
  rw [at_n (N := 3) rfl (by omega) (by omega), bso, show (s41 σ (t 0 0)) 4 i = _ from (iT.2.1.2.1 i hi).2.1, atL_n rfl rfl (by omega), bso]
  have := h (t 2 i - 1) (by omega)
  rw [show t 2 i - 1 + 1 = t 2 i by omega] at this
  rw [this]
theorem hold7 {t : NN} {σ : ZI} (iT : InvT t σ) {i p : Nat} (hi : i < t 0 1) (hp : p ≤ 9) : f_X6_holdsOf (s41 σ (t 0 0)) 1 (nI i) (nI p) = some (nI (hN (t 1 i) p)) := by
  have k1 := iT.1.1
  have k2 := iT.1.2.1 i hi
  exact ho7 rfl (by rw [at_n (N := 3) rfl (by omega) (by omega)]; exact congrArg some (iT.2.1.2.1 i hi).1) k2.1 hp
theorem hit7_l {t : NN} {σ : ZI} {τ : ZL} (iT : InvT t σ) {O : Nat → Int} (h : ∀ j, j < t 0 0 → τ 50 (j + 1) = iL (O j)) : ∀ (d j fu : Nat), j + d = t 0 0 → d < fu → f_X7_hitByOdds_4 (s41 σ (t 0 0)) τ fu (iL (sm (fun j => if (t 0 4).testBit j = true then O j else 0) j)) (nI (j + 1)) = some (iL (sm (fun j => if (t 0 4).testBit j = true then O j else 0) (t 0 0))) := by
  have k1 := iT.1.1
  intro d
  induction d with
  | zero =>
    intro j fu h1 h2
    obtain ⟨fu, rfl⟩ : ∃ m, fu = m + 1 := ⟨fu - 1, by omega⟩
    obtain rfl : j = t 0 0 := by omega
    rw [f_X7_hitByOdds_4, v1_0, bso, show (s41 σ (t 0 0)) 2 0 = _ from iT.2.1.1 0 (by omega), if_pos (nI_lt (by omega) (by omega))]
  | succ d ih =>
    intro j fu h1 h2
    obtain ⟨fu, rfl⟩ : ∃ m, fu = m + 1 := ⟨fu - 1, by omega⟩
    rw [f_X7_hitByOdds_4, v1_0, bso, show (s41 σ (t 0 0)) 2 0 = _ from iT.2.1.1 0 (by omega), if_neg (nI_nlt (by omega) (by omega)), sg7 (σ := s41 σ (t 0 0)) (b := 1) (s := t 0 4) rfl rfl (by omega) (TK_s iT.1) (iT.2.1.1 4 (by omega)), bso, atL_n rfl rfl (by omega), bso]
    unfold f_X7_hitByOdds_41
    rw [nI_1, h j (by omega), ← iL_add, ← ih (j + 1) fu (by omega) (by omega)]
    have e : sm (fun j => if (t 0 4).testBit j = true then O j else 0) (j + 1) = sm (fun j => if (t 0 4).testBit j = true then O j else 0) j + (if (t 0 4).testBit j = true then O j else 0) := rfl
    rw [e]
    by_cases b : (t 0 4).testBit j = true
    · rw [if_pos b, if_pos b, if_neg (by decide)]
    · rw [if_neg b, if_neg b, if_pos rfl, Int.add_zero]
theorem hit7 {t : NN} {σ : ZI} {τ : ZL} (iT : InvT t σ) {O : Nat → Int} (h : ∀ j, j < t 0 0 → τ 50 (j + 1) = iL (O j)) : f_X7_hitByOdds (s41 σ (t 0 0)) τ = some (iL (sm (fun j => if (t 0 4).testBit j = true then O j else 0) (t 0 0))) := hit7_l iT h (t 0 0) 0 3000 (by omega) (by have := iT.1.1; omega)
theorem torn7 {t : NN} {σ : ZI} {τ : ZL} (iT : InvT t σ) (hL : InL τ) {O : Nat → Int} (h : ∀ j, j < t 0 0 → τ 50 (j + 1) = iL (O j)) : f_X7_tornByOdds (s41 σ (t 0 0)) τ = some (iL (if 1 ≤ t 0 5 then O (t 0 5 - 1) else 0)) := by
  have k1 := iT.1.1
  unfold f_X7_tornByOdds
  rw [v1_5, bso, show (s41 σ (t 0 0)) 2 5 = _ from iT.2.1.1 5 (by omega), atL_n rfl rfl (by omega), bso]
  by_cases b : 1 ≤ t 0 5
  · have := h (t 0 5 - 1) (by omega)
    rw [show t 0 5 - 1 + 1 = t 0 5 by omega] at this
    rw [if_pos b, this]
  · rw [if_neg b, show t 0 5 = 0 by omega]
    exact congrArg some hL
def WW (t : NN) (O : Nat → Int) : Int := sm (fun i => O (t 2 i - 1) * (hN (t 1 i) (t 0 7) : Int) * (t 3 i : Int)) (t 0 1) - 10 * (sm (fun j => if (t 0 4).testBit j = true then O j else 0) (t 0 0) * (t 0 10 : Int) + (if 1 ≤ t 0 5 then O (t 0 5 - 1) else 0) * (t 0 11 : Int))
theorem iL_sub (a b : Int) : iL a - iL b = iL (a - b) := (Int64.ofInt_sub a b).symm
theorem wor7 {t : NN} {σ : ZI} {τ : ZL} (iT : InvT t σ) (hL : InL τ) {O : Nat → Int} (h : ∀ j, j < t 0 0 → τ 50 (j + 1) = iL (O j)) : f_X7_worthByOdds (s41 σ (t 0 0)) τ = some (iL (WW t O)) := by
  have k1 := iT.1.1
  have L : ∀ (d i fu : Nat), i + d = t 0 1 → d < fu → f_X7_worthByOdds_4 (s41 σ (t 0 0)) τ fu (iL (sm (fun i => O (t 2 i - 1) * (hN (t 1 i) (t 0 7) : Int) * (t 3 i : Int)) i)) (nI i) = some (iL (WW t O)) := by
    intro d
    induction d with
    | zero =>
      intro i fu h1 h2
      obtain ⟨fu, rfl⟩ : ∃ m, fu = m + 1 := ⟨fu - 1, by omega⟩
      obtain rfl : i = t 0 1 := by omega
      rw [f_X7_worthByOdds_4, v1_1, bso, show (s41 σ (t 0 0)) 2 1 = _ from iT.2.1.1 1 (by omega), if_pos (Int32.le_refl _), hit7 iT h, bso, v1_10, bso, torn7 iT hL h, bso, v1_11, bso, ltq, show (s41 σ (t 0 0)) 2 10 = _ from iT.2.1.1 10 (by omega), show (s41 σ (t 0 0)) 2 11 = _ from iT.2.1.1 11 (by omega), nI_iL (by omega), nI_iL (by omega), ← iL_mul, ← iL_mul, ← iL_add, show (10 : Int64) = iL 10 from rfl, ← iL_mul, iL_sub]
      rfl
    | succ d ih =>
      intro i fu h1 h2
      obtain ⟨fu, rfl⟩ : ∃ m, fu = m + 1 := ⟨fu - 1, by omega⟩
      have ki := iT.1.2.1 i (by omega)
      have hl := hN_le (t 1 i) (t 0 7)
      rw [f_X7_worthByOdds_4, v1_1, bso, show (s41 σ (t 0 0)) 2 1 = _ from iT.2.1.1 1 (by omega), if_neg (nI_ge (by omega) (by omega)), met7 iT h (by omega), bso, v1_7, bso, show (s41 σ (t 0 0)) 2 7 = _ from iT.2.1.1 7 (by omega), hold7 iT (by omega) (by omega), bso, at_n (N := 3) rfl (by omega) (by omega), bso, show (s41 σ (t 0 0)) 5 i = _ from (iT.2.1.2.1 i (by omega)).2.2, ltq, nI_iL (by omega), nI_iL (by omega), ← iL_mul, ← iL_mul, ← iL_add, nI_1]
      exact ih (i + 1) fu (by omega) (by omega)
  unfold f_X7_worthByOdds
  exact L (t 0 1) 0 3000 (by omega) (by omega)
theorem SO_mul (t : NN) (s : Nat) (cf : Nat → Nat) (V : Nat → Nat → Int) (a : Int) : SO t s cf (fun x n => V x n * a) = SO t s cf V * a := by
  unfold SO
  rw [SN_congr (w := fun x n => a * V x n) (fun x n _ _ => Int.mul_comm _ _), SN_mul, Int.mul_comm]
theorem SO_sub (t : NN) (s : Nat) (cf : Nat → Nat) (V W : Nat → Nat → Int) : SO t s cf (fun x n => V x n - W x n) = SO t s cf V - SO t s cf W := by
  unfold SO
  have h := SN_mul (-1) (oq s) (orr cf) (t 0 0) (t 0 2) W
  rw [SN_congr (w := fun x n => V x n + -1 * W x n) (fun x n _ _ => by omega), SN_add, h]
  omega
theorem SO_0 (t : NN) (s : Nat) (cf : Nat → Nat) : SO t s cf (fun _ _ => 0) = 0 := by
  have := SN_mul 0 (oq s) (orr cf) (t 0 0) (t 0 2) (fun _ _ => 0)
  simp at this
  exact this
theorem SO_v4 {t u : NN} (h : ON t u) (s : Nat) (cf : Nat → Nat) : SO t s cf (v4 u) = sm (fun j => if (t 0 4).testBit j = true then SO t s cf (v2 u j) else 0) (t 0 0) := by
  have e4 : u 0 4 = t 0 4 := h _ _ (by omega)
  have e0 : u 0 0 = t 0 0 := h _ _ (by omega)
  have e : SO t s cf (v4 u) = sm (fun j => SO t s cf (fun x n => if (t 0 4).testBit j = true then v2 u j x n else 0)) (t 0 0) := by
    unfold SO v4
    rw [e4, e0]
    exact SN_sm _ _ _ _ (fun j x n => if (t 0 4).testBit j = true then v2 u j x n else 0) (t 0 0)
  rw [e]
  refine sm_congr fun j _ => ?_
  by_cases b : (t 0 4).testBit j = true
  · simp only [b, if_true]
  · simp only [b, if_false]
    exact SO_0 t s cf
theorem SO_v5 {t u : NN} (h : ON t u) (s : Nat) (cf : Nat → Nat) : SO t s cf (v5 u) = if 1 ≤ t 0 5 then SO t s cf (v2 u (t 0 5 - 1)) else 0 := by
  have e5 : u 0 5 = t 0 5 := h _ _ (by omega)
  unfold v5
  rw [e5]
  by_cases b : 1 ≤ t 0 5
  · simp only [b, if_true]
  · simp only [b, if_false]
    exact SO_0 t s cf
theorem SO_v6 {t u : NN} (h : ON t u) (s : Nat) (cf : Nat → Nat) : SO t s cf (v6 u) = WW t (fun j => SO t s cf (v2 u j)) := by
  have e1 : u 0 1 = t 0 1 := h _ _ (by omega)
  have e7 : u 0 7 = t 0 7 := h _ _ (by omega)
  have e10 : u 0 10 = t 0 10 := h _ _ (by omega)
  have e11 : u 0 11 = t 0 11 := h _ _ (by omega)
  have a : SO t s cf (fun x n => sm (fun i => v3 u i x n * (u 3 i : Int)) (u 0 1)) = sm (fun i => SO t s cf (v2 u (t 2 i - 1)) * (hN (t 1 i) (t 0 7) : Int) * (t 3 i : Int)) (t 0 1) := by
    rw [e1]
    have : SO t s cf (fun x n => sm (fun i => v3 u i x n * (u 3 i : Int)) (t 0 1)) = sm (fun i => SO t s cf (fun x n => v3 u i x n * (u 3 i : Int))) (t 0 1) := SN_sm _ _ _ _ (fun i x n => v3 u i x n * (u 3 i : Int)) (t 0 1)
    rw [this]
    refine sm_congr fun i _ => ?_
    unfold v3
    rw [show u 2 i = t 2 i from h _ _ (by omega), show u 1 i = t 1 i from h _ _ (by omega), show u 3 i = t 3 i from h _ _ (by omega), e7, SO_mul, SO_mul]
  have b : SO t s cf (fun x n => v4 u x n * (u 0 10 : Int) + v5 u x n * (u 0 11 : Int)) = SO t s cf (v4 u) * (t 0 10 : Int) + SO t s cf (v5 u) * (t 0 11 : Int) := by
    rw [e10, e11, ← SO_mul, ← SO_mul]
    exact SN_add _ _ _ _ _ _
  have c : SO t s cf (fun x n => 10 * (v4 u x n * (u 0 10 : Int) + v5 u x n * (u 0 11 : Int))) = 10 * SO t s cf (fun x n => v4 u x n * (u 0 10 : Int) + v5 u x n * (u 0 11 : Int)) := SN_mul 10 _ _ _ _ _
  have d : SO t s cf (v6 u) = SO t s cf (fun x n => sm (fun i => v3 u i x n * (u 3 i : Int)) (u 0 1)) - SO t s cf (fun x n => 10 * (v4 u x n * (u 0 10 : Int) + v5 u x n * (u 0 11 : Int))) := SO_sub t s cf _ _
  rw [d, a, c, b, SO_v4 h, SO_v5 h]
  rfl
end
section
/-! by odds: call by call -/
theorem u_where {σ : ZI} {τ : ZL} (I : Inv σ) (hL : InL τ) (a b w : Int32) : RLz (f_X7_where σ τ a b w) (fun s => f_X8_where s a b w) := by
  obtain ⟨t, iT, iR⟩ := id I
  have k := iT.1
  have k1 := k.1
  have eJ : σ 2 0 = nI (t 0 0) := iT.2.1.1 0 (by omega)
  have eK : ∀ s : ZI, s 60 1 = nI (t 0 0) → f_X8_in a.toInt64 0 ((s 60 1).toInt64) = some (if a < 0 ∨ nI (t 0 0) < a then 0 else 1) := fun s h => by rw [in_at 0 _ 0 (s 60 1) rfl rfl, h]
  have z7 : f_X7_where σ τ a b w = if a < 0 ∨ nI (t 0 0) < a then some (-1, σ, τ) else f_X7_where_12 a b w σ τ := by
    unfold f_X7_where
    rw [isJ7, eJ, bso]
    by_cases h0 : a = 0
    · subst h0
      rw [if_pos rfl, if_neg]
      exact rng' (v := 0) (lo := 0) (hi := t 0 0) (by omega) (by omega) (by omega)
    · rw [if_neg h0]
      by_cases h : a < 0 ∨ nI (t 0 0) < a
      · have hc : a < 1 ∨ nI (t 0 0) < a := by
          rcases h with h | h
          · left
            rw [Int32.lt_iff_toInt_lt] at h ⊢
            have e1 : (0 : Int32).toInt = 0 := rfl
            have e2 : (1 : Int32).toInt = 1 := rfl
            omega
          · exact .inr h
        rw [if_pos h, if_pos hc, if_pos rfl]
      · have hc : ¬ (a < 1 ∨ nI (t 0 0) < a) := by
          rintro (z | z)
          · refine h (.inl ?_)
            rw [Int32.lt_iff_toInt_lt] at z ⊢
            have e1 : (0 : Int32).toInt = 0 := rfl
            have e2 : (1 : Int32).toInt = 1 := rfl
            have e3 : a.toInt ≠ 0 := fun q => h0 (Int32.toInt_inj.mp q)
            omega
          · exact h (.inr z)
        rw [if_neg h, if_neg hc, if_neg (by decide)]
  rw [z7]
  unfold f_X8_where
  by_cases hj : a < nI 0 ∨ nI (t 0 0) < a
  · refine rl_bad I hL (if_pos hj) ?_
    rw [eK σ iT.2.2.2.1, if_pos (show a < 0 ∨ nI (t 0 0) < a from hj)]; rfl
  obtain ⟨j, j1, j2, rfl⟩ := rng hj (by omega) (by omega)
  have hj' : ¬ (nI j < 0 ∨ nI (t 0 0) < nI j) := hj
  rw [if_neg hj']
  unfold f_X7_where_12
  rw [show (10 : Int32) = nI 10 from rfl, lo_hi]
  by_cases hb : b < nI 0 ∨ nI 10 < b
  · refine rl_bad I hL (if_pos hb) ?_
    rw [eK σ iT.2.2.2.1, if_neg hj', bso, if_neg (by decide), in_at 0 10 0 10 rfl rfl, if_pos (show b < 0 ∨ 10 < b from hb)]; rfl
  obtain ⟨c, c1, c2, rfl⟩ := rng hb (by omega) (by omega)
  rw [if_neg hb, isP7]
  by_cases hw : w < 0 ∨ 1 < w
  · refine rl_bad I hL (by rw [if_pos hw]; rfl) ?_
    rw [eK σ iT.2.2.2.1, if_neg hj', bso, if_neg (by decide), in_at 0 10 0 10 rfl rfl, if_neg (show ¬ (nI c < 0 ∨ 10 < nI c) from hb), bso, if_neg (by decide), in_at 0 1 0 1 rfl rfl, if_pos hw]; rfl
  obtain ⟨t1, a1, a2, a3⟩ := wb7 (InvT_T7 iT) τ (s := t 0 6) (by omega) (cl := -4) (.inl ⟨rfl, rfl⟩)
  obtain ⟨t2, b1, b2, b3⟩ := cnt7 (σ := s41 σ (t 0 0)) (L := j) (by omega) j2 (s41_0 σ _) a3
  have w2 : Wg t2 (PO t (t 0 6) (t 5)) (t 0 0) := Wg_fr (fun c k _ _ => b2 c k (by omega) (by omega)) a3
  refine rl_fin (t := t) (a := 0) (b := nI j) (c := nI c) (w := w) (V := v0 t j c) (D := DN t) (τ1 := t2) I iT ((b2 50 0 (by omega) (by omega)).trans ((a2 50 0 (by omega)).trans hL)) (W_v0 k (t 0 6) (t 5) j2 c) (by rw [if_neg (by decide), Nat.one_mul]) (fun x n => by unfold v0; split <;> omega) (fun σ' x n h1 h2 h3 => vo_0 (R8_fr h1 (InvT_R8 (InvT_sg (s41_sg _ _) iT))) (by have := p2J k1.2.1; omega) (by have := p2J (J := t 0 2) (by omega); omega) j2 (by omega)) ?_ ?_
  · have e46 : t2 46 j = iL (bh_ (PO t (t 0 6) (t 5)) (t 0 0) (t 0 0 - j)) := by
      have := w2.2 (t 0 0 - j) (by omega)
      rw [show t 0 0 - (t 0 0 - j) = j by omega] at this
      exact this
    rw [if_neg hw, bso, if_neg (by decide), v1_6, bso, show σ 2 6 = _ from iT.2.1.1 6 (by omega), a1, bso]
    dsimp only
    rw [b1, bso]
    unfold f_X0_ofCount
    rw [atL_n rfl rfl (by omega), bso, atL_n rfl rfl (by omega), bso, bso, whole_n k w2, bso, b3 c (by omega), e46, ← iL_mul]
    rfl
  · rw [eK (s41 σ (t 0 0)) iT.2.2.2.1, if_neg hj', bso, if_neg (by decide), in_at 0 10 0 10 rfl rfl, if_neg (show ¬ (nI c < 0 ∨ 10 < nI c) from hb), bso, if_neg (by decide), in_at 0 1 0 1 rfl rfl, if_neg hw, bso, if_neg (by decide)]
theorem u_goes {σ : ZI} {τ : ZL} (I : Inv σ) (hL : InL τ) (a w : Int32) : RLz (f_X7_goes σ τ a w) (fun s => f_X8_goes s a w) := by
  obtain ⟨t, iT, iR⟩ := id I
  have k := iT.1
  have k1 := k.1
  have eJ : σ 2 0 = nI (t 0 0) := iT.2.1.1 0 (by omega)
  unfold f_X7_goes f_X8_goes
  rw [isJ7, eJ]
  by_cases hj : a < nI 1 ∨ nI (t 0 0) < a
  · refine rl_bad I hL (by rw [if_pos (show a < 1 ∨ nI (t 0 0) < a from hj)]; rfl) ?_
    rw [isJ8, show σ 60 1 = _ from iT.2.2.2.1, if_pos (show a < 1 ∨ nI (t 0 0) < a from hj)]; rfl
  obtain ⟨j', j1, j2, rfl⟩ := rng hj (by omega) (by omega)
  obtain ⟨j, rfl⟩ : ∃ j, j' = j + 1 := ⟨j' - 1, by omega⟩
  have hj' : ¬ (nI (j + 1) < 1 ∨ nI (t 0 0) < nI (j + 1)) := hj
  rw [if_neg hj', bso, if_neg (by decide), isP7]
  by_cases hw : w < 0 ∨ 1 < w
  · refine rl_bad I hL (by rw [if_pos hw]; rfl) ?_
    rw [isJ8, show σ 60 1 = _ from iT.2.2.2.1, if_neg hj', bso, if_neg (by decide), in_at 0 1 0 1 rfl rfl, if_pos hw]; rfl
  obtain ⟨t2, b1, b2, b3, b4, b5⟩ := pb7 iT hL
  refine rl_fin (t := t) (a := 1) (b := nI (j + 1)) (c := 0) (w := w) (V := v1 t j) (D := DN t) (τ1 := t2) I iT b3 rfl (by rw [if_neg (by decide), Nat.one_mul]) (fun x n => by unfold v1; split <;> omega) (fun σ' x n h1 h2 h3 => vo_1 (R8_fr h1 (InvT_R8 (InvT_sg (s41_sg _ _) iT))) (by omega)) ?_ ?_
  · rw [if_neg hw, bso, if_neg (by decide), b1, bso]
    dsimp only
    rw [atL_n rfl rfl (by omega), bso, whole_n k b2, bso, b4 j (by omega)]
  · rw [isJ8, show (s41 σ (t 0 0)) 60 1 = _ from iT.2.2.2.1, if_neg hj', bso, if_neg (by decide), in_at 0 1 0 1 rfl rfl, if_neg hw, bso, if_neg (by decide)]
theorem u_isOut {σ : ZI} {τ : ZL} (I : Inv σ) (hL : InL τ) (a w : Int32) : RLz (f_X7_isOut σ τ a w) (fun s => f_X8_isOut s a w) := by
  obtain ⟨t, iT, iR⟩ := id I
  have k := iT.1
  have k1 := k.1
  have eJ : σ 2 0 = nI (t 0 0) := iT.2.1.1 0 (by omega)
  unfold f_X7_isOut f_X8_isOut
  rw [isJ7, eJ]
  by_cases hj : a < nI 1 ∨ nI (t 0 0) < a
  · refine rl_bad I hL (by rw [if_pos (show a < 1 ∨ nI (t 0 0) < a from hj)]; rfl) ?_
    rw [isJ8, show σ 60 1 = _ from iT.2.2.2.1, if_pos (show a < 1 ∨ nI (t 0 0) < a from hj)]; rfl
  obtain ⟨j', j1, j2, rfl⟩ := rng hj (by omega) (by omega)
  obtain ⟨j, rfl⟩ : ∃ j, j' = j + 1 := ⟨j' - 1, by omega⟩
  have hj' : ¬ (nI (j + 1) < 1 ∨ nI (t 0 0) < nI (j + 1)) := hj
  rw [if_neg hj', bso, if_neg (by decide), isP7]
  by_cases hw : w < 0 ∨ 1 < w
  · refine rl_bad I hL (by rw [if_pos hw]; rfl) ?_
    rw [isJ8, show σ 60 1 = _ from iT.2.2.2.1, if_neg hj', bso, if_neg (by decide), in_at 0 1 0 1 rfl rfl, if_pos hw]; rfl
  obtain ⟨t2, b1, b2, b3, b4, b5⟩ := pb7 iT hL
  refine rl_fin (t := t) (a := 2) (b := nI (j + 1)) (c := 0) (w := w) (V := v2 t j) (D := DN t) (τ1 := t2) I iT b3 rfl (by rw [if_neg (by decide), Nat.one_mul]) (fun x n => S_bd j) (fun σ' x n h1 h2 h3 => vo_2 (R8_fr h1 (InvT_R8 (InvT_sg (s41_sg _ _) iT))) (by omega)) ?_ ?_
  · rw [if_neg hw, bso, if_neg (by decide), b1, bso]
    dsimp only
    rw [atL_n rfl rfl (by omega), bso, whole_n k b2, bso, b5 j (by omega)]
  · rw [isJ8, show (s41 σ (t 0 0)) 60 1 = _ from iT.2.2.2.1, if_neg hj', bso, if_neg (by decide), in_at 0 1 0 1 rfl rfl, if_neg hw, bso, if_neg (by decide)]
theorem SO_v3 (t : NN) (s : Nat) (cf : Nat → Nat) (i : Nat) : SO t s cf (v3 t i) = SO t s cf (v2 t (t 2 i - 1)) * (hN (t 1 i) (t 0 7) : Int) := SO_mul t s cf _ _
theorem v3_bd {t : NN} {x n : Nat} (i : Nat) : -1000 ≤ v3 t i x n ∧ v3 t i x n ≤ 1000 := by have := v3_b (t := t) x n i; omega
theorem u_had {σ : ZI} {τ : ZL} (I : Inv σ) (hL : InL τ) (a w : Int32) : RLz (f_X7_had σ τ a w) (fun s => f_X8_had s a w) := by
  obtain ⟨t, iT, iR⟩ := id I
  have k := iT.1
  have k1 := k.1
  have e7 : σ 2 1 = nI (t 0 1) := iT.2.1.1 1 (by omega)
  unfold f_X7_had f_X8_had
  rw [isA7, e7]
  rcases ix_cases a (n := t 0 1) (by omega) with h | ⟨i, hi, rfl⟩
  · refine rl_bad I hL (by rw [if_pos h]; rfl) ?_
    rw [isA8 (show σ 60 3 = _ from iT.2.2.2.2.1) (by omega), if_pos h]; rfl
  have hi' := ix_no hi (show t 0 1 < 2 ^ 31 by omega)
  rw [if_neg hi', bso, if_neg (by decide), isP7]
  by_cases hw : w < 0 ∨ 1 < w
  · refine rl_bad I hL (by rw [if_pos hw]; rfl) ?_
    rw [isA8 (show σ 60 3 = _ from iT.2.2.2.2.1) (by omega), if_neg hi', bso, if_neg (by decide), in_at 0 1 0 1 rfl rfl, if_pos hw]; rfl
  obtain ⟨t2, b1, b2, b3, b4, b5⟩ := pb7 iT hL
  have hl := hN_le (t 1 i) (t 0 7)
  refine rl_fin (t := t) (a := 3) (b := nI i) (c := 0) (w := w) (V := v3 t i) (D := 10 * DN t) (τ1 := t2) I iT b3 rfl (by rw [if_pos (.inl rfl)]) (fun x n => v3_bd i) (fun σ' x n h1 h2 h3 => vo_3 (R8_fr h1 (InvT_R8 (InvT_sg (s41_sg _ _) iT))) hi) ?_ ?_
  · rw [if_neg hw, bso, if_neg (by decide), b1, bso]
    dsimp only
    rw [met7 iT b5 hi, bso, v1_7, bso, show (s41 σ (t 0 0)) 2 7 = _ from iT.2.1.1 7 (by omega), hold7 iT hi (by omega), bso, whole_n k b2, bso, nI_iL (by omega), ← iL_mul, ← SO_v3, show (10 : Int64) = iL 10 from rfl, ← iL_mul, Int.natCast_mul]
    rfl
  · rw [isA8 (show (s41 σ (t 0 0)) 60 3 = _ from iT.2.2.2.2.1) (by omega), if_neg hi', bso, if_neg (by decide), in_at 0 1 0 1 rfl rfl, if_neg hw, bso, if_neg (by decide)]
theorem u_hits {σ : ZI} {τ : ZL} (I : Inv σ) (hL : InL τ) (w : Int32) : RLz (f_X7_hits σ τ w) (fun s => f_X8_hits s w) := by
  obtain ⟨t, iT, iR⟩ := id I
  have k := iT.1
  unfold f_X7_hits f_X8_hits
  rw [isP7]
  by_cases hw : w < 0 ∨ 1 < w
  · refine rl_bad I hL (by rw [if_pos hw]; rfl) ?_
    rw [in_at 0 1 0 1 rfl rfl, if_pos hw]; rfl
  obtain ⟨t2, b1, b2, b3, b4, b5⟩ := pb7 iT hL
  refine rl_fin (t := t) (a := 4) (b := 0) (c := 0) (w := w) (V := v4 t) (D := DN t) (τ1 := t2) I iT b3 rfl (by rw [if_neg (by decide), Nat.one_mul]) (fun x n => by have := v4_b k x n; omega) (fun σ' x n h1 h2 h3 => vo_4 (R8_fr h1 (InvT_R8 (InvT_sg (s41_sg _ _) iT)))) ?_ ?_
  · rw [if_neg hw, bso, if_neg (by decide), b1, bso]
    dsimp only
    rw [hit7 iT b5, bso, whole_n k b2, bso, ← SO_v4 (ON_rf t)]
  · rw [in_at 0 1 0 1 rfl rfl, if_neg hw, bso, if_neg (by decide)]
theorem u_torn {σ : ZI} {τ : ZL} (I : Inv σ) (hL : InL τ) (w : Int32) : RLz (f_X7_torn σ τ w) (fun s => f_X8_torn s w) := by
  obtain ⟨t, iT, iR⟩ := id I
  have k := iT.1
  unfold f_X7_torn f_X8_torn
  rw [isP7]
  by_cases hw : w < 0 ∨ 1 < w
  · refine rl_bad I hL (by rw [if_pos hw]; rfl) ?_
    rw [in_at 0 1 0 1 rfl rfl, if_pos hw]; rfl
  obtain ⟨t2, b1, b2, b3, b4, b5⟩ := pb7 iT hL
  refine rl_fin (t := t) (a := 5) (b := 0) (c := 0) (w := w) (V := v5 t) (D := DN t) (τ1 := t2) I iT b3 rfl (by rw [if_neg (by decide), Nat.one_mul]) (fun x n => by have := v5_b t x n; omega) (fun σ' x n h1 h2 h3 => vo_5 (R8_fr h1 (InvT_R8 (InvT_sg (s41_sg _ _) iT)))) ?_ ?_
  · rw [if_neg hw, bso, if_neg (by decide), b1, bso]
    dsimp only
    rw [torn7 iT b3 b5, bso, whole_n k b2, bso, ← SO_v5 (ON_rf t)]
  · rw [in_at 0 1 0 1 rfl rfl, if_neg hw, bso, if_neg (by decide)]
theorem u_worth {σ : ZI} {τ : ZL} (I : Inv σ) (hL : InL τ) (w : Int32) : RLz (f_X7_worth σ τ w) (fun s => f_X8_worth s w) := by
  obtain ⟨t, iT, iR⟩ := id I
  have k := iT.1
  unfold f_X7_worth f_X8_worth
  rw [isP7]
  by_cases hw : w < 0 ∨ 1 < w
  · refine rl_bad I hL (by rw [if_pos hw]; rfl) ?_
    rw [in_at 0 1 0 1 rfl rfl, if_pos hw]; rfl
  obtain ⟨t2, b1, b2, b3, b4, b5⟩ := pb7 iT hL
  refine rl_fin (t := t) (a := 6) (b := 0) (c := 0) (w := w) (V := v6 t) (D := 10 * DN t) (τ1 := t2) I iT b3 rfl (by rw [if_pos (.inr rfl)]) (fun x n => v6_b k x n) (fun σ' x n h1 h2 h3 => vo_6 (R8_fr h1 (InvT_R8 (InvT_sg (s41_sg _ _) iT)))) ?_ ?_
  · rw [if_neg hw, bso, if_neg (by decide), b1, bso]
    dsimp only
    rw [wor7 iT b3 b5, bso, whole_n k b2, bso, ← SO_v6 (ON_rf t), show (10 : Int64) = iL 10 from rfl, ← iL_mul, Int.natCast_mul]
    rfl
  · rw [in_at 0 1 0 1 rfl rfl, if_neg hw, bso, if_neg (by decide)]
/-- what was seen, on both sides -/
theorem seen_b {t : NN} {σ : ZI} (iS : InvS t σ) : ∃ N sj sc, S7 (t 0 0) N sj sc (s41 σ (t 0 0)) ∧ S8 (t 0 0) N sj sc (s41 σ (t 0 0)) ∧ ∀ i, i < N → 1 ≤ sj i ∧ sj i ≤ t 0 0 := by
  obtain ⟨n, j, c, s1, s2, s3, s4⟩ := iS
  refine ⟨n, j, c, ⟨s1, s2, fun i hi => ?_⟩, ⟨s1, s3, fun i hi => ?_⟩, fun i hi => ⟨(s4 i hi).1, (s4 i hi).2.1⟩⟩
  · obtain ⟨a1, a2, a3, a4, a5, a6, a7⟩ := s4 i hi
    exact ⟨a1, a2, a3, a4, a5⟩
  · obtain ⟨a1, a2, a3, a4, a5, a6, a7⟩ := s4 i hi
    exact ⟨a1, a2, a3, a6, a7⟩
theorem u_likely {σ : ZI} {τ : ZL} (I : Inv σ) (hL : InL τ) (w : Int32) : RLz (f_X7_likely σ τ w) (fun s => f_X8_likely s w) := by
  obtain ⟨t, iT, iR⟩ := id I
  have k := iT.1
  have k1 := k.1
  unfold f_X7_likely f_X8_likely
  rw [isP7]
  by_cases hw : w < 0 ∨ 1 < w
  · refine rl_bad I hL (by rw [if_pos hw]; rfl) ?_
    rw [in_at 0 1 0 1 rfl rfl, if_pos hw]; rfl
  obtain ⟨N, sj, sc, S1, S2, S3⟩ := seen_b iR.2.2.1
  obtain ⟨t1, a1, a2, a3⟩ := wb7 (InvT_T7 iT) τ (s := t 0 6) (by omega) (cl := -4) (.inl ⟨rfl, rfl⟩)
  obtain ⟨t2, b1, b2⟩ := seen7 (σ := s41 σ (t 0 0)) (by omega) (s41_0 σ _) S1 a3.1
  have w2 : Wg t2 (PO t (t 0 6) (t 5)) (t 0 0) := Wg_fr (fun c k _ _ => b2 c k (by omega) (by omega)) a3
  refine rl_fin (t := t) (a := 7) (b := 0) (c := 0) (w := w) (V := v7 t sj sc N) (D := DN t) (τ1 := t2) I iT ((b2 50 0 (by omega) (by omega)).trans ((a2 50 0 (by omega)).trans hL)) (seen_v7 k S3 (oq (t 0 6)) (orr (t 5))) (by rw [if_neg (by decide), Nat.one_mul]) (fun x n => by unfold v7; split <;> omega) (fun σ' x n h1 h2 h3 => vo_7 (R8_fr h1 (InvT_R8 (InvT_sg (s41_sg _ _) iT))) (S8_fr h1 S2) (by have := p2J k1.2.1; omega) (by have := p2J (J := t 0 2) (by omega); omega)) ?_ ?_
  · rw [if_neg hw, bso, if_neg (by decide), v1_6, bso, show σ 2 6 = _ from iT.2.1.1 6 (by omega), a1, bso]
    dsimp only
    rw [b1, bso]
    dsimp only
    rw [whole_n k w2, bso]
    rfl
  · rw [in_at 0 1 0 1 rfl rfl, if_neg hw, bso, if_neg (by decide)]
end
section
/-! what to do: what is tried, and put back -/
def RLi (X : Option (Int32 × ZI × ZL)) (Y : ZI → Option (Int32 × ZI)) : Prop := ∃ r σ1 τ1 σ2, X = some (r, σ1, τ1) ∧ Y σ1 = some (r, σ2) ∧ Inv σ2 ∧ InL τ1
theorem ri_bad {σ : ZI} {τ : ZL} (I : Inv σ) (hL : InL τ) {X : Option (Int32 × ZI × ZL)} {Y : ZI → Option (Int32 × ZI)} (hX : X = some (-1, σ, τ)) (hY : Y σ = some (-1, σ)) : RLi X Y := ⟨-1, σ, τ, σ, hX, hY, I, hL⟩
def TR (m : Nat → Prop) (σ σr : ZI) : Prop := (∀ c i, ¬ (c = 60 ∧ 33 ≤ i ∧ i ≤ 39) → c ≠ 61 → σr c i = σ c i) ∧ (∀ i, i < 72 → ¬ m i → σr 61 i = σ 61 i) ∧ (∀ i, i < 18 → σr 61 (72 + i) = σ 61 i)
theorem TR_0 (m : Nat → Prop) (σ : ZI) : TR m σ (va_up σ 61 (cpf 0 72 0 (σ 61))) := by
  refine ⟨fun c i _ h => ?_, fun i hi _ => ?_, fun i hi => ?_⟩
  · simp only [va_up, if_neg h]
  · show cpf 0 72 0 (σ 61) i = _
    rw [cpf_out (by omega)]
  · show cpf 0 72 0 (σ 61) (72 + i) = _
    rw [cpf_in hi, Nat.zero_add]
theorem TR_Sc {m : Nat → Prop} {σ a b : ZI} (h : TR m σ a) (h2 : Sc a b) : TR m σ b := ⟨fun c i q r => (h2 c i q).trans (h.1 c i q r), fun i hi q => (h2 61 i (by omega)).trans (h.2.1 i hi q), fun i hi => (h2 61 _ (by omega)).trans (h.2.2 i hi)⟩
theorem TR_set {m : Nat → Prop} {σ a : ZI} {p : Nat} {v : Int32} (hm : m p) (hp : p < 18) (h : TR m σ a) : TR m σ (va_up a 61 (upd (a 61) p v)) := by
  refine ⟨fun c i q r => ?_, fun i hi q => ?_, fun i hi => ?_⟩
  · rw [up_ne a (.inl r)]; exact h.1 c i q r
  · rw [up_ne a (.inr (by rintro rfl; exact q hm))]; exact h.2.1 i hi q
  · rw [up_ne a (.inr (by omega))]; exact h.2.2 i hi
theorem TR_fin {m : Nat → Prop} {σ a : ZI} (hm : ∀ i, m i → i < 18) (h : TR m σ a) : ∃ f, f_X8_copies a 72 0 = some f ∧ Sg σ f := by
  refine ⟨_, cop_n (a := 72) (b := 0) (by omega) (by omega) (by omega) a, fun c i q _ => ?_⟩
  by_cases c61 : c = 61
  · subst c61
    show cpf 72 0 0 (a 61) i = _
    by_cases hi : i < 18
    · have e := cpf_in (a := 72) (b := 0) (f := a 61) hi
      rw [Nat.zero_add] at e
      rw [e, h.2.2 i hi]
    · have h54 : i < 54 := by
        rcases Nat.lt_or_ge i 54 with z | z
        · exact z
        · refine absurd ?_ q
          show (if i < 18 then 1 else if i < 54 then 2 else 0) = 0
          rw [if_neg hi, if_neg (by omega)]
      rw [cpf_out (by omega)]
      exact h.2.1 i (by omega) (fun z => hi (hm i z))
  · show va_up a 61 _ c i = _
    simp only [va_up, if_neg c61]
    refine h.1 c i ?_ c61
    rintro ⟨rfl, h1, h2⟩
    have : i = 33 ∨ i = 34 ∨ i = 35 ∨ i = 36 ∨ i = 37 ∨ i = 38 ∨ i = 39 := by omega
    rcases this with rfl | rfl | rfl | rfl | rfl | rfl | rfl <;> exact q rfl
theorem TR_RS {m : Nat → Prop} {t : NN} {σ a : ZI} (h : TR m σ a) (q : RS t σ) : RS t a := RS_fr ⟨h.1 _ _ (by omega) (by omega), h.1 _ _ (by omega) (by omega), h.1 _ _ (by omega) (by omega), h.1 _ _ (by omega) (by omega)⟩ (fun c i _ _ => h.1 _ _ (by omega) (by omega)) q
theorem TR_rule {t : NN} {σ a : ZI} {k p e v : Nat} (hp : ruP k p e) (iT : InvT t σ) (hk : TK (tset t 0 k v)) (h : TR (fun i => i = p) σ a) (hv : a 61 p = nI v - nI e) : R8 (tset t 0 k v) a := by
  refine ⟨hk, RP_fr (σ := va_up σ 61 (upd (σ 61) p (nI v - nI e))) hk (fun i hi => ?_) (RP_rule hp (TK_TB iT.1) iT.2.2.1), RS_rule hp (TR_RS h iT.2.2.2)⟩
  rw [Nat.zero_add]
  by_cases z : i = p
  · subst z; rw [hv, up_same]
  · rw [up_ne σ (.inr z)]; exact h.2.1 i (by omega) z
/-- the reference asks whether a bag is had -/
theorem isHad8 {t : NN} {σ : ZI} (q : R8 t σ) {i k : Nat} (hi : i < t 0 1) (hk : k ≤ 10) : ∃ σ', f_X8_isHad σ (nI i) (nI k) = some (if SO t (t 0 6) (t 5) (v3 t i) < (k : Int) * (DN t : Int) then 0 else 1, σ') ∧ Sc σ σ' := by
  have kk := q.1
  have k1 := kk.1
  have p := p10 kk
  obtain ⟨⟨σ', s1, s2⟩, -⟩ := mean8 (w := 0) q (a := 3) (b := nI i) (c := 0) (v3 t i) (fun σ' x n h1 h2 h3 => vo_3 (R8_fr h1 q) hi)
  have bb := SN_bd kk (s := t 0 6) (by omega) (cf := t 5) (fun m hm => (kk.2.2.2.1 m hm).2.2) (V := v3 t i) (a := 0) (b := 10) (fun x n => v3_b x n i)
  refine ⟨σ', ?_, s2⟩
  unfold f_X8_isHad
  rw [s1, bso]
  dsimp only
  rw [aw8_1 (R8_fr s2 q), bso, show (10 : Int64) = iL 10 from rfl, nI_iL (by omega), ← iL_mul, ← iL_mul]
  simp only [lg_cmp_lt]
  have e : (10 : Int) * 10 ^ (t 0 0 + t 0 2) = 10 * (DN t : Int) := by
    rw [show (DN t : Int) = 10 ^ (t 0 0 + t 0 2) from by unfold DN; rw [Int.natCast_pow]; rfl]
  rw [e]
  have kb : (k : Int) * (DN t : Int) ≤ 10 * (DN t : Int) ∧ 0 ≤ (k : Int) * (DN t : Int) := ⟨Int.mul_le_mul_of_nonneg_right (by omega) (by omega), Int.mul_nonneg (by omega) (by omega)⟩
  have e2 : (k : Int) * (10 * (DN t : Int)) = 10 * ((k : Int) * (DN t : Int)) := Int.mul_left_comm _ _ _
  have dn : (DN t : Int) ≤ 10000000000000 := by unfold DN; omega
  have key : iL (SN (oq (t 0 6)) (orr (t 5)) (t 0 0) (t 0 2) (v3 t i) * 10) < iL ((k : Int) * (10 * (DN t : Int))) ↔ SO t (t 0 6) (t 5) (v3 t i) < (k : Int) * (DN t : Int) := by
    rw [Int64.lt_iff_toInt_lt, iL_toInt (by unfold DN at dn; omega), iL_toInt (by omega), e2]
    unfold SO
    omega
  simp only [key]
  split <;> rfl
theorem hb_cmp {t : NN} (kk : TK t) {O : Int} {h k : Nat} (hO : 0 ≤ O ∧ O ≤ (DN t : Int)) (hh : h ≤ 10) (hk : k ≤ 10) : (lg_cmp (iL O * (nI h).toInt64) ((nI k).toInt64 * iL (DN t)) < 0) ↔ O * (h : Int) < (k : Int) * (DN t : Int) := by
  have p := p10 kk
  have dn : (DN t : Int) ≤ 10000000000000 := by unfold DN; omega
  have kb : (k : Int) * (DN t : Int) ≤ 10 * (DN t : Int) ∧ 0 ≤ (k : Int) * (DN t : Int) := ⟨Int.mul_le_mul_of_nonneg_right (by omega) (by omega), Int.mul_nonneg (by omega) (by omega)⟩
  have ob : O * (h : Int) ≤ (DN t : Int) * 10 ∧ 0 ≤ O * (h : Int) := ⟨Int.mul_le_mul hO.2 (by omega) (by omega) (by omega), Int.mul_nonneg hO.1 (by omega)⟩
  rw [lg_cmp_lt, nI_iL (by omega), nI_iL (by omega), ← iL_mul, ← iL_mul, Int64.lt_iff_toInt_lt, iL_toInt (by omega), iL_toInt (by omega)]
theorem SO_b {t : NN} (kk : TK t) {s : Nat} (hs : s ≤ 10) {cf : Nat → Nat} (hc : ∀ m, m < t 0 2 → cf m ≤ 10) (u : NN) (j : Nat) : 0 ≤ SO t s cf (v2 u j) ∧ SO t s cf (v2 u j) ≤ (DN t : Int) := by
  have := SN_bd kk hs hc (V := v2 u j) (a := 0) (b := 1) (fun x n => by rcases v2_01 u j x n with h | h <;> rw [h] <;> omega)
  unfold SO DN
  omega
theorem s41_2 (σ : ZI) (J : Nat) : s41 (s41 σ J) J = s41 σ J := by
  unfold s41
  rw [bx_uu]
  show va_up σ 41 (upd (upd (σ 41) 0 (nI J)) 0 (nI J)) = _
  rw [upd2]
/-- the class asks whether a bag is had -/
theorem hadby7 {t : NN} {σ : ZI} {τ : ZL} (iT : InvT t σ) (hL : InL τ) {i k s : Nat} (hi : i < t 0 1) (hk : k ≤ 10) (hs : s ≤ 10) {cl : Int32} {cf : Nat → Nat} (hc : (cl = -4 ∧ cf = t 5) ∨ (∃ v, v ≤ 10 ∧ cl = nI v ∧ cf = fun _ => v)) : ∃ τ', f_X7_isHadBy σ τ (nI i) (nI k) (nI s) cl = some (if SO t s cf (v2 t (t 2 i - 1)) * (hN (t 1 i) (t 0 7) : Int) < (k : Int) * (DN t : Int) then 0 else 1, s41 σ (t 0 0), τ') ∧ InL τ' := by
  have kk := iT.1
  have k1 := kk.1
  have e := iT.2.1.1
  have c10 : ∀ m, m < t 0 2 → cf m ≤ 10 := fun m hm => by
    rcases hc with ⟨-, h⟩ | ⟨v, hv, -, h⟩
    · rw [h]; exact (kk.2.2.2.1 m hm).2.2
    · rw [h]; exact hv
  obtain ⟨t1, a1, a2, a3⟩ := wb7 (InvT_T7 iT) τ hs hc
  obtain ⟨τ', b1, b2, b3, b4, b5⟩ := pbo7 (InvT_T7 iT) kk (ON_rf t) a3 ((a2 50 0 (by omega)).trans hL)
  refine ⟨τ', ?_, b3⟩
  unfold f_X7_isHadBy
  rw [a1, bso]
  dsimp only
  rw [v1_8, bso, v1_9, bso, v1_5, bso, show (s41 σ (t 0 0)) 2 8 = _ from e 8 (by omega), show (s41 σ (t 0 0)) 2 9 = _ from e 9 (by omega), show (s41 σ (t 0 0)) 2 5 = _ from e 5 (by omega), b1, bso, met7 iT b5 hi, bso, v1_7, bso, show (s41 σ (t 0 0)) 2 7 = _ from e 7 (by omega), hold7 iT hi (by omega), bso, whole_n kk b2, bso]
  simp only [hb_cmp kk (SO_b kk hs c10 t (t 2 i - 1)) (hN_le (t 1 i) (t 0 7)) hk]
  split <;> rfl
theorem arms_ten {σ : ZI} {t : NN} (iT : InvT t σ) (a k : Int32) : ((a < 0 ∨ nI (t 0 1) ≤ a) ∨ ∃ i, i < t 0 1 ∧ a = nI i) ∧ ((k < 1 ∨ nI 10 < k) ∨ ∃ j, 1 ≤ j ∧ j ≤ 10 ∧ k = nI j) := by
  have k1 := iT.1.1
  refine ⟨ix_cases a (by omega), ?_⟩
  by_cases h : k < 1 ∨ nI 10 < k
  · exact .inl h
  · obtain ⟨v, v1, v2, rfl⟩ := rng (lo := 1) (hi := 10) h (by omega) (by omega)
    exact .inr ⟨v, v1, v2, rfl⟩
theorem ten7 {α : Type} {k : Int32} {x y : α} : (if k < 1 then x else if k ≤ 10 then y else x) = if k < 1 ∨ nI 10 < k then x else y := by
  by_cases h : k < 1
  · rw [if_pos h, if_pos (.inl h)]
  · rw [if_neg h]
    by_cases h2 : k ≤ 10
    · rw [if_pos h2, if_neg]
      rintro (q | q)
      · exact h q
      · exact Int32.not_le.mpr q h2
    · rw [if_neg h2, if_pos (.inr (Int32.not_le.mp h2))]
theorem ten8 (k : Int32) : f_X8_areTenths k = some (if k < 1 ∨ nI 10 < k then 0 else 1) := by
  unfold f_X8_areTenths
  rw [in_at 1 10 1 10 rfl rfl]
  by_cases h : k < 1 ∨ nI 10 < k
  · rw [if_pos (show k < 1 ∨ 10 < k from h), if_pos h]; rfl
  · rw [if_neg (show ¬ (k < 1 ∨ 10 < k) from h), if_neg h]; rfl
end
section
/-! slack, fast, fog -/
theorem u_slack {σ : ZI} {τ : ZL} (I : Inv σ) (hL : InL τ) (a b : Int32) : RLi (f_X7_slack σ τ a b) (fun s => f_X8_slack s a b) := by
  obtain ⟨t, iT, iR⟩ := id I
  have kk := iT.1
  have k1 := kk.1
  have e7 : σ 2 1 = nI (t 0 1) := iT.2.1.1 1 (by omega)
  have e8 : ∀ s : ZI, s 60 3 = nI (t 0 1) → f_X8_isArm s a = some (if a < 0 ∨ nI (t 0 1) ≤ a then 0 else 1) := fun s h => isA8 h (by omega) a
  unfold f_X7_slack f_X8_slack
  rw [isA7, e7, ten7, ten8]
  obtain ⟨ha, hb⟩ := arms_ten iT a b
  rcases ha with h | ⟨i, hi, rfl⟩
  · exact ri_bad I hL (by rw [if_pos h]; rfl) (by rw [e8 σ iT.2.2.2.2.1, if_pos h]; rfl)
  have hi' := ix_no hi (show t 0 1 < 2 ^ 31 by omega)
  rw [if_neg hi', bso, if_neg (by decide)]
  rcases hb with h | ⟨k, hk1, hk2, rfl⟩
  · exact ri_bad I hL (by rw [if_pos h]) (by rw [e8 σ iT.2.2.2.2.1, if_neg hi', bso, if_neg (by decide), if_pos h]; rfl)
  have hk' : ¬ (nI k < 1 ∨ nI 10 < nI k) := rng' (lo := 1) (by omega) hk2 (by omega)
  rw [if_neg hk', if_pos (by decide), ltq]
  have iB : InvT t (s41 σ (t 0 0)) := InvT_sg (s41_sg _ _) iT
  have r6 : ruP 6 13 1 := by unfold ruP; omega
  have L : ∀ (d f7 f8 : Nat) (σc : ZI) (τ : ZL), d ≤ 11 → d < f7 → d + 1 < f8 → InvT t σc → s41 σc (t 0 0) = s41 σ (t 0 0) → (d = 0 → σc = s41 σ (t 0 0)) → InL τ → ∃ r τ', f_X7_slack_28 (nI i) (nI k) f7 σc τ (nI d + (-1)) = some (r, s41 σ (t 0 0), τ') ∧ InL τ' ∧ ∀ σr, TR (fun i => i = 13) (s41 σ (t 0 0)) σr → ∃ f, f_X8_slack_31 (nI i) (nI k) f8 σr (-4) (nI d + (-1)) = some (r, f) ∧ Sg (s41 σ (t 0 0)) f := by
    intro d
    induction d with
    | zero =>
      intro f7 f8 σc τ h1 h2 h3 h4 h5 h6 h7
      obtain ⟨f7, rfl⟩ : ∃ m, f7 = m + 1 := ⟨f7 - 1, by omega⟩
      obtain ⟨f8, rfl⟩ : ∃ m, f8 = m + 1 := ⟨f8 - 1, by omega⟩
      refine ⟨-4, τ, ?_, h7, fun σr hr => ?_⟩
      · rw [f_X7_slack_28, if_pos (by decide), if_pos (by decide), h6 rfl]
      · obtain ⟨f, g1, g2⟩ := TR_fin (by rintro i rfl; omega) hr
        exact ⟨f, by rw [f_X8_slack_31, if_pos (by decide)]; unfold f_X8_slack_76; rw [g1, bso], g2⟩
    | succ d ih =>
      intro f7 f8 σc τ h1 h2 h3 h4 h5 h6 h7
      obtain ⟨f7, rfl⟩ : ∃ m, f7 = m + 1 := ⟨f7 - 1, by omega⟩
      obtain ⟨f8, rfl⟩ : ∃ m, f8 = m + 1 := ⟨f8 - 1, by omega⟩
      obtain ⟨τ', g1, g2⟩ := hadby7 (τ := τ) h4 h7 hi (k := k) hk2 (s := d) (by omega) (cl := -4) (.inl ⟨rfl, rfl⟩)
      have kd : TK (tset t 0 6 d) := TK_rule r6 kk (by omega)
      have step8 : ∀ σr, TR (fun i => i = 13) (s41 σ (t 0 0)) σr → ∃ σ', f_X8_slack_31 (nI i) (nI k) (f8 + 1) σr (-4) (nI d) = (if SO t d (t 5) (v2 t (t 2 i - 1)) * (hN (t 1 i) (t 0 7) : Int) < (k : Int) * (DN t : Int) then f_X8_slack_31 (nI i) (nI k) f8 σ' (-4) (nI d + (-1)) else f_X8_slack_31 (nI i) (nI k) f8 σ' (nI d) (nI d + (-1))) ∧ TR (fun i => i = 13) (s41 σ (t 0 0)) σ' := by
        intro σr hr
        have hr2 : TR (fun i => i = 13) (s41 σ (t 0 0)) (va_up σr 61 (upd (σr 61) 13 (nI d - nI 1))) := TR_set (v := nI d - nI 1) rfl (by omega) hr
        obtain ⟨σ', q1, q2⟩ := isHad8 (k := k) (i := i) (TR_rule r6 iB kd hr2 (up_same _ _ _ _)) hi hk2
        have e : SO (tset t 0 6 d) (tset t 0 6 d 0 6) (tset t 0 6 d 5) (v3 (tset t 0 6 d) i) = SO t d (t 5) (v2 t (t 2 i - 1)) * (hN (t 1 i) (t 0 7) : Int) := by
          rw [tset_same, ← SO_v3]
          rfl
        have e2 : DN (tset t 0 6 d) = DN t := rfl
        rw [e, e2] at q1
        refine ⟨σ', ?_, TR_Sc hr2 q2⟩
        rw [f_X8_slack_31, if_neg (nI_pos (by omega)), if_pos rfl, ltq, show va_up σr 61 (upd (σr 61) 13 (nI d - 1)) = va_up σr 61 (upd (σr 61) 13 (nI d - nI 1)) from rfl, q1, bso]
        unfold f_X8_slack_69
        dsimp only
        by_cases z : SO t d (t 5) (v2 t (t 2 i - 1)) * (hN (t 1 i) (t 0 7) : Int) < (k : Int) * (DN t : Int)
        · rw [if_pos z, if_pos rfl, if_pos z]
        · rw [if_neg z, if_neg (by decide), if_neg z]
      rw [f_X7_slack_28, if_pos (by decide), pk_m1, show ((stL 101).getD (6 : Int32).toNatClampNeg 0) = (0 : Int32) from rfl, if_neg (nI_pos (by omega)), g1, bso, h5]
      dsimp only
      by_cases z : SO t d (t 5) (v2 t (t 2 i - 1)) * (hN (t 1 i) (t 0 7) : Int) < (k : Int) * (DN t : Int)
      · rw [if_pos z, if_pos rfl]
        obtain ⟨r, τ2, j1, j2, j3⟩ := ih f7 f8 (s41 σ (t 0 0)) τ' (by omega) (by omega) (by omega) iB (s41_2 σ _) (fun _ => rfl) g2
        refine ⟨r, τ2, j1, j2, fun σr hr => ?_⟩
        obtain ⟨σ', x1, x2⟩ := step8 σr hr
        obtain ⟨f, y1, y2⟩ := j3 σ' x2
        exact ⟨f, by rw [x1, if_pos z, y1], y2⟩
      · rw [if_neg z, if_neg (by decide)]
        refine ⟨nI d, τ', rfl, g2, fun σr hr => ?_⟩
        obtain ⟨σ', x1, x2⟩ := step8 σr hr
        obtain ⟨f, y1, y2⟩ := TR_fin (by rintro i rfl; omega) x2
        refine ⟨f, ?_, y2⟩
        obtain ⟨f8, rfl⟩ : ∃ m, f8 = m + 1 := ⟨f8 - 1, by omega⟩
        rw [x1, if_neg z, f_X8_slack_31, if_neg (nI_nm4 (by omega))]
        unfold f_X8_slack_76
        rw [y1, bso]
        split <;> rfl
  obtain ⟨r, τ', j1, j2, j3⟩ := L 11 3000 3000 σ τ (by omega) (by omega) (by omega) iT rfl (fun h => absurd h (by omega)) hL
  obtain ⟨f, y1, y2⟩ := j3 _ (TR_0 _ (s41 σ (t 0 0)))
  refine ⟨r, s41 σ (t 0 0), τ', f, ?_, ?_, Inv_sg y2 (Inv_sg (s41_sg _ _) I), j2⟩
  · exact j1
  · dsimp only
    rw [e8 (s41 σ (t 0 0)) iT.2.2.2.2.1, if_neg hi', bso, if_neg (by decide), if_neg hk', bso, if_neg (by decide), show f_X8_copies (s41 σ (t 0 0)) 0 72 = _ from cop_n (a := 0) (b := 72) (by omega) (by omega) (by omega) _, bso]
    exact y1
theorem u_fast {σ : ZI} {τ : ZL} (I : Inv σ) (hL : InL τ) (a b : Int32) : RLi (f_X7_fast σ τ a b) (fun s => f_X8_fast s a b) := by
  obtain ⟨t, iT, iR⟩ := id I
  have kk := iT.1
  have k1 := kk.1
  have e7 : σ 2 1 = nI (t 0 1) := iT.2.1.1 1 (by omega)
  have e8 : ∀ s : ZI, s 60 3 = nI (t 0 1) → f_X8_isArm s a = some (if a < 0 ∨ nI (t 0 1) ≤ a then 0 else 1) := fun s h => isA8 h (by omega) a
  unfold f_X7_fast f_X8_fast
  rw [isA7, e7, ten7, ten8]
  obtain ⟨ha, hb⟩ := arms_ten iT a b
  rcases ha with h | ⟨i, hi, rfl⟩
  · exact ri_bad I hL (by rw [if_pos h]; rfl) (by rw [e8 σ iT.2.2.2.2.1, if_pos h]; rfl)
  have hi' := ix_no hi (show t 0 1 < 2 ^ 31 by omega)
  rw [if_neg hi', bso, if_neg (by decide)]
  rcases hb with h | ⟨k, hk1, hk2, rfl⟩
  · exact ri_bad I hL (by rw [if_pos h]) (by rw [e8 σ iT.2.2.2.2.1, if_neg hi', bso, if_neg (by decide), if_pos h]; rfl)
  have hk' : ¬ (nI k < 1 ∨ nI 10 < nI k) := rng' (lo := 1) (by omega) hk2 (by omega)
  obtain ⟨t2, b1, b2, b3, b4, b5⟩ := pb7 iT hL
  rw [if_neg hk', b1, bso]
  dsimp only
  rw [if_pos (by decide), ltq]
  have iB : InvT t (s41 σ (t 0 0)) := InvT_sg (s41_sg _ _) iT
  have r7 : ruP 7 14 5 := by unfold ruP; omega
  have ob := SO_b kk (s := t 0 6) (by omega) (cf := t 5) (fun m hm => (kk.2.2.2.1 m hm).2.2) t (t 2 i - 1)
  have L : ∀ (d f7 f8 : Nat), d ≤ 9 → d < f7 → d + 1 < f8 → ∃ r, f_X7_fast_32 (nI i) (nI k) f7 (s41 σ (t 0 0)) t2 (nI d) = some (r, s41 σ (t 0 0), t2) ∧ ∀ σr, TR (fun i => i = 14) (s41 σ (t 0 0)) σr → ∃ f, f_X8_fast_31 (nI i) (nI k) f8 σr (-4) (nI d) = some (r, f) ∧ Sg (s41 σ (t 0 0)) f := by
    intro d
    induction d with
    | zero =>
      intro f7 f8 h1 h2 h3
      obtain ⟨f7, rfl⟩ : ∃ m, f7 = m + 1 := ⟨f7 - 1, by omega⟩
      obtain ⟨f8, rfl⟩ : ∃ m, f8 = m + 1 := ⟨f8 - 1, by omega⟩
      refine ⟨-4, ?_, fun σr hr => ?_⟩
      · rw [f_X7_fast_32, if_pos (by decide), if_pos (by decide)]
      · obtain ⟨f, g1, g2⟩ := TR_fin (by rintro i rfl; omega) hr
        exact ⟨f, by rw [f_X8_fast_31, if_pos (by decide)]; unfold f_X8_fast_76; rw [g1, bso], g2⟩
    | succ d ih =>
      intro f7 f8 h1 h2 h3
      obtain ⟨f7, rfl⟩ : ∃ m, f7 = m + 1 := ⟨f7 - 1, by omega⟩
      obtain ⟨f8, rfl⟩ : ∃ m, f8 = m + 1 := ⟨f8 - 1, by omega⟩
      have kd : TK (tset t 0 7 (d + 1)) := TK_rule r7 kk (by omega)
      have step8 : ∀ σr, TR (fun i => i = 14) (s41 σ (t 0 0)) σr → ∃ σ', f_X8_fast_31 (nI i) (nI k) (f8 + 1) σr (-4) (nI (d + 1)) = (if SO t (t 0 6) (t 5) (v2 t (t 2 i - 1)) * (hN (t 1 i) (d + 1) : Int) < (k : Int) * (DN t : Int) then f_X8_fast_31 (nI i) (nI k) f8 σ' (-4) (nI d) else f_X8_fast_31 (nI i) (nI k) f8 σ' (nI (d + 1)) (nI d)) ∧ TR (fun i => i = 14) (s41 σ (t 0 0)) σ' := by
        intro σr hr
        have hr2 : TR (fun i => i = 14) (s41 σ (t 0 0)) (va_up σr 61 (upd (σr 61) 14 (nI (d + 1) - nI 5))) := TR_set (v := nI (d + 1) - nI 5) rfl (by omega) hr
        obtain ⟨σ', q1, q2⟩ := isHad8 (k := k) (i := i) (TR_rule r7 iB kd hr2 (up_same _ _ _ _)) hi hk2
        have e : SO (tset t 0 7 (d + 1)) (tset t 0 7 (d + 1) 0 6) (tset t 0 7 (d + 1) 5) (v3 (tset t 0 7 (d + 1)) i) = SO t (t 0 6) (t 5) (v2 t (t 2 i - 1)) * (hN (t 1 i) (d + 1) : Int) := SO_mul t (t 0 6) (t 5) (v2 t (t 2 i - 1)) _
        have e2 : DN (tset t 0 7 (d + 1)) = DN t := rfl
        rw [e, e2] at q1
        refine ⟨σ', ?_, TR_Sc hr2 q2⟩
        rw [f_X8_fast_31, if_neg (nI_nle (by omega) (by omega)), if_pos rfl, ltq, show va_up σr 61 (upd (σr 61) 14 (nI (d + 1) - 5)) = va_up σr 61 (upd (σr 61) 14 (nI (d + 1) - nI 5)) from rfl, q1, bso]
        unfold f_X8_fast_69
        dsimp only
        rw [pk_m1]
        by_cases z : SO t (t 0 6) (t 5) (v2 t (t 2 i - 1)) * (hN (t 1 i) (d + 1) : Int) < (k : Int) * (DN t : Int)
        · rw [if_pos z, if_pos rfl, if_pos z]
        · rw [if_neg z, if_neg (by decide), if_neg z]
      rw [f_X7_fast_32, if_pos (by decide), show ((stL 101).getD (7 : Int32).toNatClampNeg 0) = (1 : Int32) from rfl, if_neg (show ¬ nI (d + 1) < 1 from nI_nlt (a := d + 1) (b := 1) (by omega) (by omega)), met7 iT b5 hi, bso, hold7 iT hi (by omega), bso, whole_n kk b2, bso, pk_m1]
      simp only [hb_cmp kk ob (hN_le (t 1 i) (d + 1)) hk2]
      by_cases z : SO t (t 0 6) (t 5) (v2 t (t 2 i - 1)) * (hN (t 1 i) (d + 1) : Int) < (k : Int) * (DN t : Int)
      · simp only [z, if_true]
        obtain ⟨r, j1, j3⟩ := ih f7 f8 (by omega) (by omega) (by omega)
        refine ⟨r, j1, fun σr hr => ?_⟩
        obtain ⟨σ', x1, x2⟩ := step8 σr hr
        obtain ⟨f, y1, y2⟩ := j3 σ' x2
        exact ⟨f, by rw [x1, if_pos z, y1], y2⟩
      · simp only [z, if_false]
        refine ⟨nI (d + 1), rfl, fun σr hr => ?_⟩
        obtain ⟨σ', x1, x2⟩ := step8 σr hr
        obtain ⟨f, y1, y2⟩ := TR_fin (by rintro i rfl; omega) x2
        refine ⟨f, ?_, y2⟩
        obtain ⟨f8, rfl⟩ : ∃ m, f8 = m + 1 := ⟨f8 - 1, by omega⟩
        rw [x1, if_neg z, f_X8_fast_31, if_neg (nI_nm4 (by omega))]
        unfold f_X8_fast_76
        rw [y1, bso]
        split <;> rfl
  obtain ⟨r, j1, j3⟩ := L 9 3000 3000 (by omega) (by omega) (by omega)
  obtain ⟨f, y1, y2⟩ := j3 _ (TR_0 _ (s41 σ (t 0 0)))
  refine ⟨r, s41 σ (t 0 0), t2, f, ?_, ?_, Inv_sg y2 (Inv_sg (s41_sg _ _) I), b3⟩
  · exact j1
  · dsimp only
    rw [e8 (s41 σ (t 0 0)) iT.2.2.2.2.1, if_neg hi', bso, if_neg (by decide), if_neg hk', bso, if_neg (by decide), show f_X8_copies (s41 σ (t 0 0)) 0 72 = _ from cop_n (a := 0) (b := 72) (by omega) (by omega) (by omega) _, bso]
    exact y1
end
section
/-! fog, best *-/
def tclr (t : NN) (v : Nat) : NN := fun r i => if r = 5 then v else t r i
theorem TK_clr {t : NN} (k : TK t) {v : Nat} (hv : v ≤ 10) : TK (tclr t v) := by
  obtain ⟨k1, k2, k3, k4, k5, k6⟩ := k
  exact ⟨k1, k2, k3, fun m hm => ⟨(k4 m hm).1, (k4 m hm).2.1, hv⟩, k5, k6⟩
theorem TR_clr {t : NN} {σ a : ZI} {v : Nat} (hv : v ≤ 10) (iT : InvT t σ) (h : TR (fun i => 3 ≤ i ∧ i < 6) σ a) (hs : ∀ m, m < t 0 2 → a 61 (3 + m) = nI v) : R8 (tclr t v) a := by
  have k1 := iT.1.1
  obtain ⟨q1, q2, q3, q4, q5, q6, q7, q8, q9, q10⟩ := iT.2.2.1
  have g : ∀ i, i < 72 → ¬ (3 ≤ i ∧ i < 6) → a 61 (0 + i) = σ 61 (0 + i) := fun i h1 h2 => by rw [Nat.zero_add]; exact h.2.1 i h1 h2
  refine ⟨TK_clr iT.1 hv, ⟨fun i hi => ?_, fun m hm => ?_, fun i hi => ?_, (g 11 (by omega) (by omega)).trans q4, (g 12 (by omega) (by omega)).trans q5, (g 13 (by omega) (by omega)).trans q6, (g 14 (by omega) (by omega)).trans q7, (g 15 (by omega) (by omega)).trans q8, (g 16 (by omega) (by omega)).trans q9, (g 17 (by omega) (by omega)).trans q10⟩, TR_RS h iT.2.2.2⟩
  · have hi' : i < t 0 1 := hi
    exact (g i (by omega) (by omega)).trans (q1 i hi')
  · rw [Nat.zero_add]; exact hs m hm
  · have hi' : i < t 0 3 := hi
    exact (g (6 + i) (by omega) (by omega)).trans (q3 i hi')
theorem u_fog {σ : ZI} {τ : ZL} (I : Inv σ) (hL : InL τ) (a b : Int32) : RLi (f_X7_fog σ τ a b) (fun s => f_X8_fog s a b) := by
  obtain ⟨t, iT, iR⟩ := id I
  have kk := iT.1
  have k1 := kk.1
  have e7 : σ 2 1 = nI (t 0 1) := iT.2.1.1 1 (by omega)
  have e8 : ∀ s : ZI, s 60 3 = nI (t 0 1) → f_X8_isArm s a = some (if a < 0 ∨ nI (t 0 1) ≤ a then 0 else 1) := fun s h => isA8 h (by omega) a
  unfold f_X7_fog f_X8_fog
  rw [isA7, e7, ten7, ten8]
  obtain ⟨ha, hb⟩ := arms_ten iT a b
  rcases ha with h | ⟨i, hi, rfl⟩
  · exact ri_bad I hL (by rw [if_pos h]; rfl) (by rw [e8 σ iT.2.2.2.2.1, if_pos h]; rfl)
  have hi' := ix_no hi (show t 0 1 < 2 ^ 31 by omega)
  rw [if_neg hi', bso, if_neg (by decide)]
  rcases hb with h | ⟨k, hk1, hk2, rfl⟩
  · exact ri_bad I hL (by rw [if_pos h]) (by rw [e8 σ iT.2.2.2.2.1, if_neg hi', bso, if_neg (by decide), if_pos h]; rfl)
  have hk' : ¬ (nI k < 1 ∨ nI 10 < nI k) := rng' (lo := 1) (by omega) hk2 (by omega)
  rw [if_neg hk']
  have iB : InvT t (s41 σ (t 0 0)) := InvT_sg (s41_sg _ _) iT
  have In : ∀ (kf : ZI → Int32 → Int32 → Option (Int32 × ZI)) (v : Nat) (d m fu : Nat) (σr : ZI), m + d = t 0 2 → d < fu → TR (fun i => 3 ≤ i ∧ i < 6) (s41 σ (t 0 0)) σr → (∀ m', m' < m → σr 61 (3 + m') = nI v) → ∃ σ2, f_X8_fog_46 (nI i) (nI k) kf fu σr (nI v) (nI m) = f_X8_fog_46 (nI i) (nI k) kf 1 σ2 (nI v) (nI (t 0 2)) ∧ TR (fun i => 3 ≤ i ∧ i < 6) (s41 σ (t 0 0)) σ2 ∧ ∀ m', m' < t 0 2 → σ2 61 (3 + m') = nI v := by
    intro kf v d
    induction d with
    | zero =>
      intro m fu σr h1 h2 h3 h4
      obtain ⟨fu, rfl⟩ : ∃ m, fu = m + 1 := ⟨fu - 1, by omega⟩
      obtain rfl : m = t 0 2 := by omega
      have e5 : σr 60 5 = nI (t 0 2) := (h3.1 60 5 (by omega) (by omega)).trans iB.2.2.2.2.2.1
      exact ⟨σr, by rw [f_X8_fog_46, f_X8_fog_46, e5, if_pos (Int32.le_refl _), if_pos (Int32.le_refl _)], h3, h4⟩
    | succ d ih =>
      intro m fu σr h1 h2 h3 h4
      obtain ⟨fu, rfl⟩ : ∃ m, fu = m + 1 := ⟨fu - 1, by omega⟩
      have e5 : σr 60 5 = nI (t 0 2) := (h3.1 60 5 (by omega) (by omega)).trans iB.2.2.2.2.2.1
      rw [f_X8_fog_46, e5, if_neg (nI_ge (by omega) (by omega)), show (3 : Int32) + nI m = nI (3 + m) from nI_add 3 m, inB_n (by omega) (by omega), if_pos rfl, nI_clamp (by omega), ltq, nI_1]
      refine ih (m + 1) fu _ (by omega) (by omega) (TR_set ⟨by omega, by omega⟩ (by omega) h3) (fun m' hm => ?_)
      by_cases z : m' = m
      · subst z; exact up_same _ _ _ _
      · rw [up_ne σr (.inr (by omega))]; exact h4 m' (by omega)
  have L : ∀ (d v f7 f8 : Nat) (σc : ZI) (τ : ZL), v + d = 11 → d < f7 → d + 1 < f8 → InvT t σc → s41 σc (t 0 0) = s41 σ (t 0 0) → (d = 0 → σc = s41 σ (t 0 0)) → InL τ → ∃ r τ', f_X7_fog_23 (nI i) (nI k) f7 σc τ (nI v) = some (r, s41 σ (t 0 0), τ') ∧ InL τ' ∧ ∀ σr, TR (fun i => 3 ≤ i ∧ i < 6) (s41 σ (t 0 0)) σr → ∃ f, f_X8_fog_30 (nI i) (nI k) f8 σr (-4) (nI v) = some (r, f) ∧ Sg (s41 σ (t 0 0)) f := by
    intro d
    induction d with
    | zero =>
      intro v f7 f8 σc τ h1 h2 h3 h4 h5 h6 h7
      obtain ⟨f7, rfl⟩ : ∃ m, f7 = m + 1 := ⟨f7 - 1, by omega⟩
      obtain ⟨f8, rfl⟩ : ∃ m, f8 = m + 1 := ⟨f8 - 1, by omega⟩
      obtain rfl : v = 11 := by omega
      refine ⟨-4, τ, ?_, h7, fun σr hr => ?_⟩
      · rw [f_X7_fog_23, if_pos (by decide), h6 rfl]
      · obtain ⟨f, g1, g2⟩ := TR_fin (by rintro i ⟨-, z⟩; omega) hr
        exact ⟨f, by rw [f_X8_fog_30, if_pos (by decide)]; unfold f_X8_fog_95; rw [g1, bso], g2⟩
    | succ d ih =>
      intro v f7 f8 σc τ h1 h2 h3 h4 h5 h6 h7
      obtain ⟨f7, rfl⟩ : ∃ m, f7 = m + 1 := ⟨f7 - 1, by omega⟩
      obtain ⟨f8, rfl⟩ : ∃ m, f8 = m + 1 := ⟨f8 - 1, by omega⟩
      obtain ⟨τ', g1, g2⟩ := hadby7 (τ := τ) h4 h7 hi (k := k) hk2 (s := t 0 6) (by omega) (cl := nI v) (cf := fun _ => v) (.inr ⟨v, by omega, rfl, rfl⟩)
      have n10 : ¬ (10 : Int32) < nI v := nI_nlt (b := v) (a := 10) (by omega) (by omega)
      have step8 : ∀ σr, TR (fun i => 3 ≤ i ∧ i < 6) (s41 σ (t 0 0)) σr → ∃ σ', f_X8_fog_30 (nI i) (nI k) (f8 + 1) σr (-4) (nI v) = (if SO t (t 0 6) (fun _ => v) (v2 t (t 2 i - 1)) * (hN (t 1 i) (t 0 7) : Int) < (k : Int) * (DN t : Int) then f_X8_fog_30 (nI i) (nI k) f8 σ' (-4) (nI (v + 1)) else f_X8_fog_30 (nI i) (nI k) f8 σ' (nI v) (nI (v + 1))) ∧ TR (fun i => 3 ≤ i ∧ i < 6) (s41 σ (t 0 0)) σ' := by
        intro σr hr
        obtain ⟨σ2, x1, x2, x3⟩ := In (fun σ v3 v4 => f_X8_fog_30 (nI i) (nI k) f8 σ v3 v4) v (t 0 2) 0 3000 σr (by omega) (by omega) hr (fun m hm => absurd hm (Nat.not_lt_zero _))
        have r8 := TR_clr (v := v) (by omega) iB x2 x3
        obtain ⟨σ', q1, q2⟩ := isHad8 (k := k) (i := i) r8 hi hk2
        have e : SO (tclr t v) (tclr t v 0 6) (tclr t v 5) (v3 (tclr t v) i) = SO t (t 0 6) (fun _ => v) (v2 t (t 2 i - 1)) * (hN (t 1 i) (t 0 7) : Int) := SO_mul t (t 0 6) (fun _ => v) (v2 t (t 2 i - 1)) _
        have e2 : DN (tclr t v) = DN t := rfl
        rw [e, e2] at q1
        refine ⟨σ', ?_, TR_Sc x2 q2⟩
        rw [f_X8_fog_30, if_neg n10, if_pos rfl]
        refine Eq.trans x1 ?_
        have e5 : σ2 60 5 = nI (t 0 2) := r8.2.2.2.2.1
        rw [f_X8_fog_46, e5, if_pos (Int32.le_refl _), q1, bso]
        unfold f_X8_fog_88
        dsimp only
        rw [nI_1]
        by_cases z : SO t (t 0 6) (fun _ => v) (v2 t (t 2 i - 1)) * (hN (t 1 i) (t 0 7) : Int) < (k : Int) * (DN t : Int)
        · rw [if_pos z, if_pos rfl, if_pos z]
        · rw [if_neg z, if_neg (by decide), if_neg z]
      rw [f_X7_fog_23, if_neg n10, v1_6, bso, show σc 2 6 = _ from h4.2.1.1 6 (by omega), g1, bso, h5, nI_1]
      dsimp only
      by_cases z : SO t (t 0 6) (fun _ => v) (v2 t (t 2 i - 1)) * (hN (t 1 i) (t 0 7) : Int) < (k : Int) * (DN t : Int)
      · rw [if_pos z, if_pos rfl]
        obtain ⟨r, τ2, j1, j2, j3⟩ := ih (v + 1) f7 f8 (s41 σ (t 0 0)) τ' (by omega) (by omega) (by omega) iB (s41_2 σ _) (fun _ => rfl) g2
        refine ⟨r, τ2, j1, j2, fun σr hr => ?_⟩
        obtain ⟨σ', x1, x2⟩ := step8 σr hr
        obtain ⟨f, y1, y2⟩ := j3 σ' x2
        exact ⟨f, by rw [x1, if_pos z, y1], y2⟩
      · rw [if_neg z, if_neg (by decide)]
        refine ⟨nI v, τ', rfl, g2, fun σr hr => ?_⟩
        obtain ⟨σ', x1, x2⟩ := step8 σr hr
        obtain ⟨f, y1, y2⟩ := TR_fin (by rintro i ⟨-, z⟩; omega) x2
        refine ⟨f, ?_, y2⟩
        obtain ⟨f8, rfl⟩ : ∃ m, f8 = m + 1 := ⟨f8 - 1, by omega⟩
        rw [x1, if_neg z, f_X8_fog_30, if_neg (nI_nm4 (k := v) (by omega))]
        unfold f_X8_fog_95
        rw [y1, bso]
        split <;> rfl
  obtain ⟨r, τ', j1, j2, j3⟩ := L 11 0 3000 3000 σ τ (by omega) (by omega) (by omega) iT rfl (fun h => absurd h (by omega)) hL
  obtain ⟨f, y1, y2⟩ := j3 _ (TR_0 _ (s41 σ (t 0 0)))
  refine ⟨r, s41 σ (t 0 0), τ', f, ?_, ?_, Inv_sg y2 (Inv_sg (s41_sg _ _) I), j2⟩
  · exact j1
  · dsimp only
    rw [e8 (s41 σ (t 0 0)) iT.2.2.2.2.1, if_neg hi', bso, if_neg (by decide), if_neg hk', bso, if_neg (by decide), show f_X8_copies (s41 σ (t 0 0)) 0 72 = _ from cop_n (a := 0) (b := 72) (by omega) (by omega) (by omega) _, bso]
    exact y1
def tnet (t : NN) (o i : Nat) : NN := tset (tset t 0 8 o) 0 9 i
theorem ON_net (t : NN) (o i : Nat) : ON t (tnet t o i) := fun r j h => by
  unfold tnet
  rw [tset_ne _ (by omega), tset_ne _ (by omega)]
theorem TK_net {t : NN} (kk : TK t) {o i : Nat} (h1 : 1 ≤ o) (h2 : o ≤ 10) (h3 : o < i) (h4 : i ≤ 11) : TK (tnet t o i) := by
  have k1 := kk.1
  have r8 : ruP 8 15 2 := by unfold ruP; omega
  have r9 : ruP 9 16 4 := by unfold ruP; omega
  have A : TK (tset (tset t 0 9 11) 0 8 o) := TK_rule r8 (TK_rule r9 kk (by refine ⟨?_, ?_, ?_, ?_, ?_, ?_, ?_⟩ <;> intro <;> omega)) (by
    have : tset t 0 9 11 0 9 = 11 := tset_same t 0 9 11
    refine ⟨?_, ?_, ?_, ?_, ?_, ?_, ?_⟩ <;> intro <;> omega)
  have e : tnet t o i = tset (tset (tset t 0 9 11) 0 8 o) 0 9 i := by
    funext r j
    unfold tnet tset
    by_cases hr : r = 0
    · subst hr
      by_cases hi : j = 9
      · simp [hi]
      · simp [hi]
    · simp [hr]
  rw [e]
  refine TK_rule r9 A ?_
  have : tset (tset t 0 9 11) 0 8 o 0 8 = o := tset_same _ 0 8 o
  refine ⟨?_, ?_, ?_, ?_, ?_, ?_, ?_⟩ <;> intro <;> omega
theorem TR_net {t : NN} {σ a : ZI} {o i : Nat} (iT : InvT t σ) (k : TK (tnet t o i)) (h : TR (fun i => i = 15 ∨ i = 16) σ a) (h1 : a 61 15 = nI o - 2) (h2 : a 61 16 = nI i - 4) : R8 (tnet t o i) a := by
  have k1 := iT.1.1
  have on := ON_net t o i
  obtain ⟨q1, q2, q3, q4, q5, q6, q7, q8, q9, q10⟩ := iT.2.2.1
  have g : ∀ i, i < 72 → i ≠ 15 → i ≠ 16 → a 61 (0 + i) = σ 61 (0 + i) := fun i h3 h4 h5 => by rw [Nat.zero_add]; exact h.2.1 i h3 (by omega)
  refine ⟨k, ⟨fun i hi => ?_, fun m hm => ?_, fun i hi => ?_, (g 11 (by omega) (by omega) (by omega)).trans q4, (g 12 (by omega) (by omega) (by omega)).trans q5, (g 13 (by omega) (by omega) (by omega)).trans q6, (g 14 (by omega) (by omega) (by omega)).trans q7, h1, h2, (g 17 (by omega) (by omega) (by omega)).trans q10⟩, TR_RS h ?_⟩
  · have hi' : i < t 0 1 := hi
    exact (g i (by omega) (by omega) (by omega)).trans (q1 i hi')
  · have hi' : m < t 0 2 := hm
    exact (g (3 + m) (by omega) (by omega) (by omega)).trans (q2 m hi')
  · have hi' : i < t 0 3 := hi
    exact (g (6 + i) (by omega) (by omega) (by omega)).trans (q3 i hi')
  · exact iT.2.2.2
theorem u_best {σ : ZI} {τ : ZL} (I : Inv σ) (hL : InL τ) (w : Int32) : RLz (f_X7_best σ τ w) (fun s => f_X8_best s w) := by
  obtain ⟨t, iT, iR⟩ := id I
  have kk := iT.1
  have k1 := kk.1
  have p := p10 kk
  unfold f_X7_best f_X8_best
  rw [show (2 : Int32) = nI 2 from rfl, if2]
  by_cases hw : w < nI 0 ∨ nI 2 < w
  · exact rl_bad I hL (by rw [if_pos hw]) (by rw [in_at 0 2 0 2 rfl rfl, if_pos (show w < 0 ∨ 2 < w from hw)]; rfl)
  have hw' : ¬ (w < 0 ∨ 2 < w) := hw
  obtain ⟨t1, a1, a2, a3⟩ := wb7 (InvT_T7 iT) τ (s := t 0 6) (by omega) (cl := -4) (.inl ⟨rfl, rfl⟩)
  rw [if_neg hw, v1_6, bso, show σ 2 6 = _ from iT.2.1.1 6 (by omega), a1, bso, if_pos (by decide), ltq]
  dsimp only
  have iB : InvT t (s41 σ (t 0 0)) := InvT_sg (s41_sg _ _) iT
  have bdW : ∀ u, TK u → ON t u → -1000 * (DN t : Int) ≤ SO t (t 0 6) (t 5) (v6 u) ∧ SO t (t 0 6) (t 5) (v6 u) ≤ 1000 * (DN t : Int) := fun u ku _ => SN_bd kk (s := t 0 6) (by omega) (cf := t 5) (fun m hm => (kk.2.2.2.1 m hm).2.2) (fun x n => v6_b ku x n)
  have wb : ∀ x : Int, ∃ z : Prop, z := fun _ => ⟨True, trivial⟩
  have In : ∀ (k7 : ZI → ZL → Int32 → Int64 → Int32 → Option (Int64 × ZI × ZL)) (k8 : ZI → Int64 → Int32 → Int32 → Option (Int64 × ZI)) (o : Nat), 1 ≤ o → o ≤ 10 → ∀ (d i f7 f8 : Nat) (τ : ZL) (B : Int32) (num : Int), i + d = 12 → o < i → d < f7 → d < f8 → InL τ → Wg τ (PO t (t 0 6) (t 5)) (t 0 0) → (-1000 * (DN t : Int) ≤ num ∧ num ≤ 1000 * (DN t : Int)) → ∃ τ' B' num', InL τ' ∧ Wg τ' (PO t (t 0 6) (t 5)) (t 0 0) ∧ (-1000 * (DN t : Int) ≤ num' ∧ num' ≤ 1000 * (DN t : Int)) ∧ f_X7_best_65 w k7 f7 (s41 σ (t 0 0)) τ B (iL num) (nI o) (nI i) = k7 (s41 σ (t 0 0)) τ' B' (iL num') (nI (o + 1)) ∧ ∀ σr, TR (fun i => i = 15 ∨ i = 16) (s41 σ (t 0 0)) σr → ∃ σ', TR (fun i => i = 15 ∨ i = 16) (s41 σ (t 0 0)) σ' ∧ f_X8_best_45 w k8 f8 σr (iL num) B (nI o) (nI i) = k8 σ' (iL num') B' (nI (o + 1)) := by
    intro k7 k8 o ho1 ho2 d
    induction d with
    | zero =>
      intro i f7 f8 τ B num h1 h2 h3 h4 h5 h6 h7
      obtain ⟨f7, rfl⟩ : ∃ m, f7 = m + 1 := ⟨f7 - 1, by omega⟩
      obtain ⟨f8, rfl⟩ : ∃ m, f8 = m + 1 := ⟨f8 - 1, by omega⟩
      obtain rfl : i = 12 := by omega
      refine ⟨τ, B, num, h5, h6, h7, ?_, fun σr hr => ⟨σr, hr, ?_⟩⟩
      · rw [f_X7_best_65, if_pos (by decide), if_pos (by decide), nI_1]
      · rw [f_X8_best_45, if_pos (by decide), nI_1]
    | succ d ih =>
      intro i f7 f8 τ B num h1 h2 h3 h4 h5 h6 h7
      obtain ⟨f7, rfl⟩ : ∃ m, f7 = m + 1 := ⟨f7 - 1, by omega⟩
      obtain ⟨f8, rfl⟩ : ∃ m, f8 = m + 1 := ⟨f8 - 1, by omega⟩
      have ku := TK_net kk ho1 ho2 h2 (show i ≤ 11 by omega)
      have on := ON_net t o i
      obtain ⟨t2, b1, b2, b3, b4, b5⟩ := pbo7 (σ := σ) (InvT_T7 iT) ku on h6 h5
      have c1 : tnet t o i 0 8 = o := by unfold tnet; rw [tset_ne _ (by omega), tset_same]
      have c2 : tnet t o i 0 9 = i := tset_same _ _ _ _
      rw [c1, c2] at b1
      have bw := bdW _ ku on
      have W8 : ∀ σr, TR (fun i => i = 15 ∨ i = 16) (s41 σ (t 0 0)) σr → ∃ σ', f_X8_sumOf (va_up (va_up σr 61 (upd (σr 61) 15 (nI o - 2))) 61 (upd (va_up σr 61 (upd (σr 61) 15 (nI o - 2)) 61) 16 (nI i - 4))) 6 0 0 = some (iL (SO t (t 0 6) (t 5) (v6 (tnet t o i))), σ') ∧ TR (fun i => i = 15 ∨ i = 16) (s41 σ (t 0 0)) σ' := by
        intro σr hr
        have r1 : TR (fun i => i = 15 ∨ i = 16) (s41 σ (t 0 0)) (va_up σr 61 (upd (σr 61) 15 (nI o - 2))) := TR_set (.inl rfl) (by omega) hr
        have r2 : TR (fun i => i = 15 ∨ i = 16) (s41 σ (t 0 0)) (va_up (va_up σr 61 (upd (σr 61) 15 (nI o - 2))) 61 (upd (va_up σr 61 (upd (σr 61) 15 (nI o - 2)) 61) 16 (nI i - 4))) := TR_set (.inr rfl) (by omega) r1
        have rr := TR_net iB ku r2 (by rw [up_ne _ (.inr (by omega)), up_same]) (up_same _ _ _ _)
        obtain ⟨⟨σ', s1, s2⟩, -⟩ := mean8 (w := 0) rr (a := 6) (b := 0) (c := 0) (v6 (tnet t o i)) (fun σ' x n h1 h2 h3 => vo_6 (R8_fr h1 rr))
        refine ⟨σ', ?_, TR_Sc r2 s2⟩
        rw [s1]
        have x6 : tnet t o i 0 6 = t 0 6 := on _ _ (by omega)
        have x0 : tnet t o i 0 0 = t 0 0 := on _ _ (by omega)
        have x2 : tnet t o i 0 2 = t 0 2 := on _ _ (by omega)
        have x5 : tnet t o i 5 = t 5 := funext fun j => on _ _ (by omega)
        rw [x6, x0, x2, x5]
      rw [f_X7_best_65, if_pos (by decide), if_neg (show ¬ ((stL 102).getD (9 : Int32).toNatClampNeg 0) < nI i from nI_nlt (b := i) (a := 11) (by omega) (by omega)), v1_5, bso, show (s41 σ (t 0 0)) 2 5 = _ from iT.2.1.1 5 (by omega), b1, bso, wor7 iT b3 b5, bso, ← SO_v6 on]
      unfold f_X7_best_114 f_X7_best_126
      rw [ltq, nI_1]
      have nx : (100 : Int32) * nI o + nI i = nI (100 * o + i) := by rw [show (100 : Int32) * nI o = nI (100 * o) from pk_mul 100 o, nI_add]
      rw [nx]
      have ref : ∀ σr, TR (fun i => i = 15 ∨ i = 16) (s41 σ (t 0 0)) σr → ∃ σ', TR (fun i => i = 15 ∨ i = 16) (s41 σ (t 0 0)) σ' ∧ f_X8_best_45 w k8 (f8 + 1) σr (iL num) B (nI o) (nI i) = (if B = -4 ∨ ¬ (lg_cmp (iL (SO t (t 0 6) (t 5) (v6 (tnet t o i)))) (iL num) ≤ 0) then f_X8_best_45 w k8 f8 σ' (iL (SO t (t 0 6) (t 5) (v6 (tnet t o i)))) (nI (100 * o + i)) (nI o) (nI (i + 1)) else f_X8_best_45 w k8 f8 σ' (iL num) B (nI o) (nI (i + 1))) := by
        intro σr hr
        obtain ⟨σ', x1, x2⟩ := W8 σr hr
        refine ⟨σ', x2, ?_⟩
        rw [f_X8_best_45, if_neg (show ¬ (11 : Int32) < nI i from nI_nlt (b := i) (a := 11) (by omega) (by omega)), ltq, ltq, x1, bso]
        unfold f_X8_best_98 f_X8_best_103 f_X8_best_123 f_X8_best_136
        dsimp only
        rw [nx, nI_1]
        by_cases z : B = -4
        · rw [if_pos z, if_neg (by decide), if_neg (by decide), if_pos (.inl z)]
        · rw [if_neg z]
          by_cases z2 : lg_cmp (iL (SO t (t 0 6) (t 5) (v6 (tnet t o i)))) (iL num) ≤ 0
          · rw [if_pos z2, if_pos rfl, if_pos rfl, if_neg (fun y => y.elim z (fun y => y z2))]
          · rw [if_neg z2, if_neg (by decide), if_neg (by decide), if_pos (.inr z2)]
      by_cases z : B = -4 ∨ ¬ (lg_cmp (iL (SO t (t 0 6) (t 5) (v6 (tnet t o i)))) (iL num) ≤ 0)
      · obtain ⟨τ', B', num', j1, j2, j3, j4, j5⟩ := ih (i + 1) f7 f8 t2 (nI (100 * o + i)) (SO t (t 0 6) (t 5) (v6 (tnet t o i))) (by omega) (by omega) (by omega) (by omega) b3 b2 bw
        refine ⟨τ', B', num', j1, j2, j3, ?_, fun σr hr => ?_⟩
        · rw [← j4]
          by_cases y : B = -4
          · rw [if_pos y]
          · rw [if_neg y, if_neg (z.resolve_left y)]
        · obtain ⟨σ', x1, x2⟩ := ref σr hr
          obtain ⟨σ'', y1, y2⟩ := j5 σ' x1
          exact ⟨σ'', y1, by rw [x2, if_pos z, y2]⟩
      · obtain ⟨τ', B', num', j1, j2, j3, j4, j5⟩ := ih (i + 1) f7 f8 t2 B num (by omega) (by omega) (by omega) (by omega) b3 b2 h7
        refine ⟨τ', B', num', j1, j2, j3, ?_, fun σr hr => ?_⟩
        · rw [← j4, if_neg (fun y => z (.inl y)), if_pos (Decidable.of_not_not fun y => z (.inr y))]
        · obtain ⟨σ', x1, x2⟩ := ref σr hr
          obtain ⟨σ'', y1, y2⟩ := j5 σ' x1
          exact ⟨σ'', y1, by rw [x2, if_neg z, y2]⟩
  have Ou : ∀ (d o f7 f8 : Nat) (τ : ZL) (B : Int32) (num : Int), o + d = 11 → 1 ≤ o → d < f7 → d < f8 → InL τ → Wg τ (PO t (t 0 6) (t 5)) (t 0 0) → (-1000 * (DN t : Int) ≤ num ∧ num ≤ 1000 * (DN t : Int)) → ∃ r τ', f_X7_best_48 w f7 (s41 σ (t 0 0)) τ B (iL num) (nI o) = some (r, s41 σ (t 0 0), τ') ∧ InL τ' ∧ ∀ σr, TR (fun i => i = 15 ∨ i = 16) (s41 σ (t 0 0)) σr → ∃ f, f_X8_best_32 w f8 σr (iL num) B (nI o) = some (r, f) ∧ Sg (s41 σ (t 0 0)) f := by
    intro d
    induction d with
    | zero =>
      intro o f7 f8 τ B num h1 h2 h3 h4 h5 h6 h7
      obtain ⟨f7, rfl⟩ : ∃ m, f7 = m + 1 := ⟨f7 - 1, by omega⟩
      obtain ⟨f8, rfl⟩ : ∃ m, f8 = m + 1 := ⟨f8 - 1, by omega⟩
      obtain rfl : o = 11 := by omega
      have dn : DN t ≤ 10000000000000 ∧ 1 ≤ DN t := ⟨p.2, p.1⟩
      obtain ⟨r, r1, r2⟩ := pl_eq (num := num) (D := 10 * DN t) (by omega) (by omega) (by omega) (w - 1)
      have e10 : (10 : Int64) * iL (DN t) = iL ((10 * DN t : Nat) : Int) := by rw [show (10 : Int64) = iL 10 from rfl, ← iL_mul, Int.natCast_mul]; rfl
      by_cases h0 : w = 0
      · refine ⟨B.toInt64, τ, ?_, h5, fun σr hr => ?_⟩
        · rw [f_X7_best_48, if_pos (by decide), if_pos (by decide), if_pos h0]
        · obtain ⟨f, g1, g2⟩ := TR_fin (by rintro i (rfl | rfl) <;> omega) hr
          exact ⟨f, by rw [f_X8_best_32, if_pos (by decide), g1, bso, if_pos h0], g2⟩
      · refine ⟨r, τ, ?_, h5, fun σr hr => ?_⟩
        · rw [f_X7_best_48, if_pos (by decide), if_pos (by decide), if_neg h0, whole_n kk h6, bso, e10, r1, bso]
        · obtain ⟨f, g1, g2⟩ := TR_fin (by rintro i (rfl | rfl) <;> omega) hr
          refine ⟨f, ?_, g2⟩
          have := aw8_1 (InvT_R8 (InvT_sg g2 iB))
          rw [f_X8_best_32, if_pos (by decide), g1, bso, if_neg h0, this, bso, show (10 : Int) * 10 ^ (t 0 0 + t 0 2) = ((10 * DN t : Nat) : Int) from by unfold DN; rw [Int.natCast_mul, Int.natCast_pow]; rfl, r2, bso]
    | succ d ih =>
      intro o f7 f8 τ B num h1 h2 h3 h4 h5 h6 h7
      obtain ⟨f7, rfl⟩ : ∃ m, f7 = m + 1 := ⟨f7 - 1, by omega⟩
      obtain ⟨f8, rfl⟩ : ∃ m, f8 = m + 1 := ⟨f8 - 1, by omega⟩
      obtain ⟨τ', B', num', j1, j2, j3, j4, j5⟩ := In (fun σ τ v2 v3 v5 => f_X7_best_48 w f7 σ τ v2 v3 v5) (fun σ v2 v4 v5 => f_X8_best_32 w f8 σ v2 v4 v5) o h2 (by omega) (12 - (o + 1)) (o + 1) 3000 3000 τ B num (by omega) (by omega) (by omega) (by omega) h5 h6 h7
      obtain ⟨r, τ2, x1, x2, x3⟩ := ih (o + 1) f7 f8 τ' B' num' (by omega) (by omega) (by omega) (by omega) j1 j2 j3
      refine ⟨r, τ2, ?_, x2, fun σr hr => ?_⟩
      · rw [f_X7_best_48, if_pos (by decide), if_neg (show ¬ ((stL 102).getD (8 : Int32).toNatClampNeg 0) < nI o from nI_nlt (b := o) (a := 10) (by omega) (by omega)), nI_1]
        exact j4.trans x1
      · obtain ⟨σ', y1, y2⟩ := j5 σr hr
        obtain ⟨f, z1, z2⟩ := x3 σ' y1
        refine ⟨f, ?_, z2⟩
        rw [f_X8_best_32, if_neg (show ¬ (10 : Int32) < nI o from nI_nlt (b := o) (a := 10) (by omega) (by omega)), nI_1]
        exact y2.trans z1
  obtain ⟨r, τ', j1, j2, j3⟩ := Ou 10 1 3000 3000 t1 (-4) 0 (by omega) (by omega) (by omega) (by omega) ((a2 50 0 (by omega)).trans hL) a3 (by unfold DN; omega)
  obtain ⟨f, y1, y2⟩ := j3 _ (TR_0 _ (s41 σ (t 0 0)))
  refine ⟨r, s41 σ (t 0 0), τ', f, ?_, ?_, Inv_sg y2 (Inv_sg (s41_sg _ _) I), j2⟩
  · exact j1
  · dsimp only
    rw [in_at 0 2 0 2 rfl rfl, if_neg hw', bso, if_neg (by decide), show f_X8_copies (s41 σ (t 0 0)) 0 72 = _ from cop_n (a := 0) (b := 72) (by omega) (by omega) (by omega) _, bso]
    exact y1
end
section
/-! fits: the class's side *-/
def q1_ : Nat → Int × Int := fun _ => (1, 1)
def fz (j : Nat) (b : Bool) : Nat → Int × Int := fun i => if i = j then (if b then (1, 0) else (0, 1)) else (1, 1)
def PA (t : NN) : PP := PQ q1_ q1_ (t 4) (t 0 2)
theorem PA_2 (t : NN) (j : Nat) : PA t 2 j = if fi (fun m => t 4 m == j + 1) (t 0 2) < t 0 2 then 1 else 0 := rfl
theorem PA_3 (t : NN) (j : Nat) : PA t 3 j = 1 := by
  show (if ma (t 4) (t 0 2) j < t 0 2 then (1 : Int) else 1) = 1
  split <;> rfl
theorem wa_l {t : NN} {σ : ZI} (q : T7 t σ) (h41 : σ 41 0 = nI (t 0 0)) : ∀ (d j fu : Nat) (τ : ZL), j + d = t 0 0 → d < fu → Wt τ (PA t) j → ∃ τ', f_X0_weighAlike_16 1 fu σ τ (nI (j + 1)) = some (σ, τ') ∧ (∀ c k, c < 42 ∨ 46 < c → τ' c k = τ c k) ∧ Wt τ' (PA t) (t 0 0) := by
  obtain ⟨kk, tv⟩ := q
  have k1 := kk.1
  have k4 := kk.2.2.2.1
  intro d
  induction d with
  | zero =>
    intro j fu τ h1 h2 h3
    obtain ⟨fu, rfl⟩ : ∃ m, fu = m + 1 := ⟨fu - 1, by omega⟩
    obtain rfl : j = t 0 0 := by omega
    obtain ⟨τ', g1, g2, g3⟩ := beh7 (σ := σ) (by omega) h41 h3
    exact ⟨τ', by rw [f_X0_weighAlike_16, h41, if_pos (nI_lt (by omega) (by omega)), g1, bso], fun c k h => g2 c k (by omega), g3.1⟩
  | succ d ih =>
    intro j fu τ h1 h2 h3
    obtain ⟨fu, rfl⟩ : ∃ m, fu = m + 1 := ⟨fu - 1, by omega⟩
    have ib : inB (nI (j + 1)) 11 = true := inB11 (by omega)
    have em := mk_n (σ := σ) (b := 1) (M := t 0 2) (j := j + 1) (mj := t 4) rfl rfl rfl (by omega) (by omega) (tv.1 2 (by omega)) (fun m hm => ⟨by have := k4 m hm; omega, (tv.2.2.1 m hm).1⟩)
    have hf := fi_le (fun m => t 4 m == j + 1) (t 0 2)
    have key : ∀ (x : Int64), x = iL (PA t 2 j) → ∃ τ', f_X0_weighAlike_58 1 (fun σ τ v2 => f_X0_weighAlike_16 1 fu σ τ v2) σ (va_up (va_up τ 42 (vp_updL (τ 42) (j + 1) 1)) 43 (vp_updL (va_up τ 42 (vp_updL (τ 42) (j + 1) 1) 43) (j + 1) 1)) (nI (j + 1)) x (nI (j + 1)) = some (σ, τ') ∧ (∀ c k, c < 42 ∨ 46 < c → τ' c k = τ c k) ∧ Wt τ' (PA t) (t 0 0) := by
      intro x hx
      unfold f_X0_weighAlike_58
      rw [if_pos ib, ltq, if_pos ib, ltq, nI_1, nI_clamp (by omega)]
      obtain ⟨t1, ht1⟩ : ∃ t1, t1 = va_up τ 42 (vp_updL (τ 42) (j + 1) 1) := ⟨_, rfl⟩
      rw [← ht1]
      obtain ⟨t2, ht2⟩ : ∃ t2, t2 = va_up t1 43 (vp_updL (t1 43) (j + 1) 1) := ⟨_, rfl⟩
      rw [← ht2]
      obtain ⟨t3, ht3⟩ : ∃ t3, t3 = va_up t2 44 (vp_updL (t2 44) (j + 1) x) := ⟨_, rfl⟩
      rw [← ht3]
      obtain ⟨t4, ht4⟩ : ∃ t4, t4 = va_up t3 45 (vp_updL (t3 45) (j + 1) 1) := ⟨_, rfl⟩
      rw [← ht4]
      have o4 : ∀ c k, ¬ (42 ≤ c ∧ c ≤ 45 ∧ k = j + 1) → t4 c k = τ c k := fun c k h => by
        rw [ht4, vu_n t3 (by omega), ht3, vu_n t2 (by omega), ht2, vu_n t1 (by omega), ht1, vu_n τ (by omega)]
      obtain ⟨τ', g1, g2, g3⟩ := ih (j + 1) fu t4 (by omega) (by omega) (fun i hi => by
        by_cases z : i = j
        · subst z
          refine ⟨?_, ?_, ?_, ?_⟩
          · rw [ht4, vu_n t3 (.inl (by omega)), ht3, vu_n t2 (.inl (by omega)), ht2, vu_n t1 (.inl (by omega)), ht1, vu_s]; rfl
          · rw [ht4, vu_n t3 (.inl (by omega)), ht3, vu_n t2 (.inl (by omega)), ht2, vu_s]; rfl
          · rw [ht4, vu_n t3 (.inl (by omega)), ht3, vu_s, hx]
          · rw [ht4, vu_s, PA_3]; rfl
        · obtain ⟨a, b, c, e⟩ := h3 i (by omega)
          exact ⟨(o4 _ _ (by omega)).trans a, (o4 _ _ (by omega)).trans b, (o4 _ _ (by omega)).trans c, (o4 _ _ (by omega)).trans e⟩)
      exact ⟨τ', g1, fun c k h => (g2 c k h).trans (o4 c k (by omega)), g3⟩
    rw [f_X0_weighAlike_16, h41, if_neg (nI_nlt (by omega) (by omega)), if_pos ib, ltq, if_pos ib, ltq, em, bso, nI_clamp (by omega)]
    by_cases hm : fi (fun m => t 4 m == j + 1) (t 0 2) < t 0 2
    · rw [if_pos hm, if_neg (nI_nm4 (by omega))]
      exact key _ (by rw [PA_2, if_pos hm]; rfl)
    · rw [if_neg hm, if_pos rfl]
      exact key _ (by rw [PA_2, if_neg hm]; rfl)
theorem wa7 {t : NN} {σ : ZI} (q : T7 t σ) (τ : ZL) : ∃ τ', f_X0_weighAlike σ τ 1 = some (s41 σ (t 0 0), τ') ∧ (∀ c k, c < 42 ∨ 46 < c → τ' c k = τ c k) ∧ Wt τ' (PA t) (t 0 0) := by
  have k1 := q.1.1
  have q' : T7 t (s41 σ (t 0 0)) := ⟨q.1, TV_fr (fun r i h1 h2 => by show va_up σ 41 _ (1 + r) i = _; simp only [va_up, if_neg (show 1 + r ≠ 41 by omega)]) q.2⟩
  unfold f_X0_weighAlike
  rw [if_pos (by decide), v1_0, bso, show σ 2 0 = _ from q.2.1 0 (by omega), ltq, if_neg (show ¬ (10 : Int32) < nI (t 0 0) from nI_nlt (b := t 0 0) (a := 10) (by omega) (by omega))]
  exact wa_l q' (s41_0 σ _) (t 0 0) 0 3000 τ (by omega) (by omega) (fun j hj => absurd hj (Nat.not_lt_zero _))
theorem fm7 {τ : ZL} {j : Nat} (hj : j < 11) (b : Bool) : ∃ τ', f_X0_forceMiss τ (nI j) (if b then 1 else 0) = some τ' ∧ (∀ c k, ¬ ((c = 42 ∨ c = 43) ∧ k = j) → τ' c k = τ c k) ∧ τ' 42 j = iL (if b then 1 else 0) ∧ τ' 43 j = iL (if b then 0 else 1) := by
  unfold f_X0_forceMiss f_X0_forceMiss_14 f_X0_forceMiss_31
  cases b
  · simp only [Bool.false_eq_true, if_false]
    rw [if_pos trivial, putL_n rfl rfl hj, bso, if_pos trivial, putL_n rfl rfl hj, bso]
    refine ⟨_, rfl, fun c k h => ?_, ?_, vu_s _ _ _ _⟩
    · rw [vu_n _ (by omega), vu_n _ (by omega)]
    · rw [vu_n _ (.inl (by omega)), vu_s]; rfl
  · simp only [if_true]
    rw [if_neg (by decide), putL_n rfl rfl hj, bso, if_neg (by decide), putL_n rfl rfl hj, bso]
    refine ⟨_, rfl, fun c k h => ?_, ?_, vu_s _ _ _ _⟩
    · rw [vu_n _ (by omega), vu_n _ (by omega)]
    · rw [vu_n _ (.inl (by omega)), vu_s]; rfl
theorem fn7 {τ : ZL} {j : Nat} (hj : j < 11) (b : Bool) : ∃ τ', f_X0_forceNotice τ (nI j) (if b then 1 else 0) = some τ' ∧ (∀ c k, ¬ ((c = 44 ∨ c = 45) ∧ k = j) → τ' c k = τ c k) ∧ τ' 44 j = iL (if b then 1 else 0) ∧ τ' 45 j = iL (if b then 0 else 1) := by
  unfold f_X0_forceNotice f_X0_forceNotice_14 f_X0_forceNotice_31
  cases b
  · simp only [Bool.false_eq_true, if_false]
    rw [if_pos trivial, putL_n rfl rfl hj, bso, if_pos trivial, putL_n rfl rfl hj, bso]
    refine ⟨_, rfl, fun c k h => ?_, ?_, vu_s _ _ _ _⟩
    · rw [vu_n _ (by omega), vu_n _ (by omega)]
    · rw [vu_n _ (.inl (by omega)), vu_s]; rfl
  · simp only [if_true]
    rw [if_neg (by decide), putL_n rfl rfl hj, bso, if_neg (by decide), putL_n rfl rfl hj, bso]
    refine ⟨_, rfl, fun c k h => ?_, ?_, vu_s _ _ _ _⟩
    · rw [vu_n _ (by omega), vu_n _ (by omega)]
    · rw [vu_n _ (.inl (by omega)), vu_s]; rfl
/-- weights that are 0 or 1 -/
def W01 (q : Nat → Int × Int) (k : Nat) : Prop := ∀ x, wp q x k = 0 ∨ wp q x k = 1
theorem wp_q1 (x : Nat) : ∀ k, wp q1_ x k = 1
  | 0 => rfl
  | k + 1 => by
    unfold wp
    rw [wp_q1 x k]
    split <;> rfl
theorem wp_fz (j : Nat) (b : Bool) (x : Nat) : ∀ k, wp (fz j b) x k = if j < k ∧ x.testBit j ≠ b then 0 else 1
  | 0 => by rw [if_neg (by omega)]; rfl
  | k + 1 => by
    unfold wp
    rw [wp_fz j b x k]
    unfold fz
    by_cases h : k = j
    · subst h
      rw [if_neg (by omega)]
      cases b <;> cases x.testBit k <;> simp
    · by_cases h2 : j < k ∧ x.testBit j ≠ b
      · rw [if_pos h2, Int.zero_mul, if_pos (show j < k + 1 ∧ x.testBit j ≠ b from ⟨by omega, h2.2⟩)]
      · rw [if_neg h2, if_neg (show ¬ (j < k + 1 ∧ x.testBit j ≠ b) from fun z => h2 ⟨by omega, z.2⟩), if_neg h]
        split <;> rfl
theorem W01_q1 (k : Nat) : W01 q1_ k := fun x => .inr (wp_q1 x k)
theorem W01_fz (j : Nat) (b : Bool) (k : Nat) : W01 (fz j b) k := fun x => by
  rw [wp_fz]
  split
  · exact .inl rfl
  · exact .inr rfl
theorem sm_z {f : Nat → Int} : ∀ {n : Nat}, (∀ i, i < n → 0 ≤ f i) → (sm f n = 0 ↔ ∀ i, i < n → f i = 0)
  | 0, _ => ⟨fun _ i hi => absurd hi (Nat.not_lt_zero _), fun _ => rfl⟩
  | n + 1, h => by
    have h1 := sm_nn (n := n) fun i hi => h i (by omega)
    have h2 := h n (by omega)
    have ih := sm_z (n := n) fun i hi => h i (by omega)
    have e : sm f (n + 1) = sm f n + f n := rfl
    constructor
    · intro z i hi
      by_cases y : i = n
      · subst y; omega
      · exact ih.mp (by omega) i (by omega)
    · intro z
      rw [e, ih.mpr fun i hi => z i (by omega), z n (by omega)]
      rfl
theorem SN_01 {q r : Nat → Int × Int} {J M : Nat} (hq : W01 q J) (hr : W01 r M) {V : Nat → Nat → Int} (hV : ∀ x n, 0 ≤ V x n ∧ V x n ≤ 1) (hJ : J ≤ 10) (hM : M ≤ 3) : 0 ≤ SN q r J M V ∧ SN q r J M V ≤ 8192 ∧ (SN q r J M V = 0 ↔ ∀ x, x < 2 ^ J → ∀ n, n < 2 ^ M → wp q x J * (wp r n M * V x n) = 0) := by
  have p1 : 2 ^ J ≤ 2 ^ 10 := Nat.pow_le_pow_right (by omega) hJ
  have p2 : 2 ^ M ≤ 2 ^ 3 := Nat.pow_le_pow_right (by omega) hM
  have i1 : ∀ x n, 0 ≤ wp r n M * V x n ∧ wp r n M * V x n ≤ 1 := fun x n => by
    have := hV x n
    rcases hr n with h | h <;> rw [h] <;> omega
  have i2 : ∀ x, 0 ≤ sm (fun n => wp r n M * V x n) (2 ^ M) ∧ sm (fun n => wp r n M * V x n) (2 ^ M) ≤ 8 := fun x => by
    have a := sm_nn (n := 2 ^ M) fun n _ => (i1 x n).1
    have b := sm_ub (n := 2 ^ M) fun n _ => (i1 x n).2
    omega
  have i3 : ∀ x, 0 ≤ wp q x J * sm (fun n => wp r n M * V x n) (2 ^ M) ∧ wp q x J * sm (fun n => wp r n M * V x n) (2 ^ M) ≤ 8 := fun x => by
    have := i2 x
    rcases hq x with h | h <;> rw [h] <;> omega
  have a := sm_nn (n := 2 ^ J) fun x _ => (i3 x).1
  have b := sm_ub (n := 2 ^ J) fun x _ => (i3 x).2
  unfold SN
  refine ⟨a, by omega, ?_⟩
  rw [sm_z fun x _ => (i3 x).1]
  constructor
  · intro h x hx n hn
    rcases hq x with z | z
    · rw [z, Int.zero_mul]
    · have := h x hx
      rw [z, Int.one_mul, sm_z fun n _ => (i1 x n).1] at this
      rw [this n hn, Int.mul_zero]
  · intro h x hx
    rcases hq x with z | z
    · rw [z, Int.zero_mul]
    · rw [z, Int.one_mul, sm_z fun n _ => (i1 x n).1]
      intro n hn
      have := h x hx n hn
      rw [z, Int.one_mul] at this
      exact this
theorem iL_z {z : Int} (h : 0 ≤ z ∧ z ≤ 8192) : iL z = 0 ↔ z = 0 := by
  constructor
  · intro e
    have := iL_toInt (z := z) (by omega)
    rw [e] at this
    exact this.symm
  · rintro rfl; rfl
theorem v7_01 (t : NN) (sj sc : Nat → Nat) (N x n : Nat) : 0 ≤ v7 t sj sc N x n ∧ v7 t sj sc N x n ≤ 1 := by unfold v7; split <;> omega
def FN (t : NN) (sj sc : Nat → Nat) (N : Nat) (q r : Nat → Int × Int) : Int := SN q r (t 0 0) (t 0 2) (v7 t sj sc N)
theorem jm_l {t : NN} {σ : ZI} (iT : InvT t σ) {N : Nat} {sj sc : Nat → Nat} (S1 : S7 (t 0 0) N sj sc (s41 σ (t 0 0))) (S3 : ∀ i, i < N → 1 ≤ sj i ∧ sj i ≤ t 0 0) (ba : Bool) : ∀ (d j fu : Nat) (τ : ZL) (z : Nat), j + d = t 0 0 → d < fu → InL τ → z < 2 ^ j → ∃ z' τ', z' < 2 ^ t 0 0 ∧ InL τ' ∧ f_X7_jointsMissed_4 (if ba then 1 else 0) fu (s41 σ (t 0 0)) τ (nI z) (nI (j + 1)) = some (nI z', s41 σ (t 0 0), τ') ∧ ∀ i, i < t 0 0 → z'.testBit i = if i < j then z.testBit i else decide (FN t sj sc N (fz i (!ba)) q1_ = 0) := by
  have kk := iT.1
  have k1 := kk.1
  have iB : InvT t (s41 σ (t 0 0)) := InvT_sg (s41_sg _ _) iT
  intro d
  induction d with
  | zero =>
    intro j fu τ z h1 h2 h3 h4
    obtain ⟨fu, rfl⟩ : ∃ m, fu = m + 1 := ⟨fu - 1, by omega⟩
    obtain rfl : j = t 0 0 := by omega
    exact ⟨z, τ, h4, h3, by rw [f_X7_jointsMissed_4, v1_0, bso, show (s41 σ (t 0 0)) 2 0 = _ from iT.2.1.1 0 (by omega), if_pos (nI_lt (by omega) (by omega))], fun i hi => by rw [if_pos hi]⟩
  | succ d ih =>
    intro j fu τ z h1 h2 h3 h4
    obtain ⟨fu, rfl⟩ : ∃ m, fu = m + 1 := ⟨fu - 1, by omega⟩
    obtain ⟨t1, a1, a2, a3⟩ := wa7 (InvT_T7 iB) τ
    rw [s41_2] at a1
    obtain ⟨t2, b1, b2, b3, b4⟩ := fm7 (τ := t1) (j := j + 1) (by omega) (!ba)
    have w2 : Wt t2 (PQ (fz j (!ba)) q1_ (t 4) (t 0 2)) (t 0 0) := fun i hi => by
      obtain ⟨x1, x2, x3, x4⟩ := a3 i hi
      refine ⟨?_, ?_, (b2 _ _ (by omega)).trans x3, (b2 _ _ (by omega)).trans x4⟩
      · show t2 42 (i + 1) = iL (fz j (!ba) i).1
        unfold fz
        by_cases y : i = j
        · subst y; rw [b3, if_pos rfl]; cases ba <;> rfl
        · rw [if_neg y, b2 _ _ (by omega)]; exact x1
      · show t2 43 (i + 1) = iL (fz j (!ba) i).2
        unfold fz
        by_cases y : i = j
        · subst y; rw [b4, if_pos rfl]; cases ba <;> rfl
        · rw [if_neg y, b2 _ _ (by omega)]; exact x2
    obtain ⟨t3, c1, c2⟩ := seen7 (σ := s41 σ (t 0 0)) (by omega) (s41_0 σ _) S1 w2
    rw [seen_v7 kk S3] at c1
    have bd := SN_01 (W01_fz j (!ba) (t 0 0)) (W01_q1 (t 0 2)) (v7_01 t sj sc N) (by omega) (by omega)
    have L3 : InL t3 := by
      show t3 50 0 = 0
      rw [c2 50 0 (by omega) (by omega), b2 50 0 (by omega), a2 50 0 (by omega)]; exact h3
    have e41 : ∀ (v2 : Int32), f_X7_jointsMissed_41 (if ba then 1 else 0) (fun σ τ v2 v3 => f_X7_jointsMissed_4 (if ba then 1 else 0) fu σ τ v2 v3) (s41 σ (t 0 0)) t1 v2 (nI (j + 1)) (if !ba then 1 else 0) (nI (j + 1)) = if FN t sj sc N (fz j (!ba)) q1_ = 0 then f_X7_jointsMissed_4 (if ba then 1 else 0) fu (s41 σ (t 0 0)) t3 (v2 ||| nI (2 ^ j)) (nI (j + 1 + 1)) else f_X7_jointsMissed_4 (if ba then 1 else 0) fu (s41 σ (t 0 0)) t3 v2 (nI (j + 1 + 1)) := by
      intro v2
      unfold f_X7_jointsMissed_41 f_X7_jointsMissed_68
      rw [b1, bso, c1, bso]
      dsimp only
      rw [nI_pred, sbl (by omega), ltq, nI_1]
      by_cases y : FN t sj sc N (fz j (!ba)) q1_ = 0
      · rw [if_pos y, if_pos ((cmp0 _ _).mpr ((iL_z ⟨bd.1, bd.2.1⟩).mpr y))]
      · rw [if_neg y, if_neg (fun w => y ((iL_z ⟨bd.1, bd.2.1⟩).mp ((cmp0 _ _).mp w)))]
    have body : f_X7_jointsMissed_4 (if ba then 1 else 0) (fu + 1) (s41 σ (t 0 0)) τ (nI z) (nI (j + 1)) = if FN t sj sc N (fz j (!ba)) q1_ = 0 then f_X7_jointsMissed_4 (if ba then 1 else 0) fu (s41 σ (t 0 0)) t3 (nI z ||| nI (2 ^ j)) (nI (j + 1 + 1)) else f_X7_jointsMissed_4 (if ba then 1 else 0) fu (s41 σ (t 0 0)) t3 (nI z) (nI (j + 1 + 1)) := by
      rw [← e41, f_X7_jointsMissed_4, v1_0, bso, show (s41 σ (t 0 0)) 2 0 = _ from iT.2.1.1 0 (by omega), if_neg (nI_nlt (by omega) (by omega)), a1, bso]
      cases ba <;> rfl
    have zj : z < 2 ^ 10 := Nat.lt_of_lt_of_le h4 (Nat.pow_le_pow_right (by omega) (by omega))
    rw [body]
    by_cases y : FN t sj sc N (fz j (!ba)) q1_ = 0
    · rw [if_pos y, or_n (by omega) zj]
      obtain ⟨z', τ', g1, g2, g3, g4⟩ := ih (j + 1) fu t3 (z ||| 2 ^ j) (by omega) (by omega) L3 (Nat.or_lt_two_pow (Nat.lt_of_lt_of_le h4 (Nat.pow_le_pow_right (by omega) (by omega))) (Nat.pow_lt_pow_right (by omega) (by omega)))
      refine ⟨z', τ', g1, g2, g3, fun i hi => ?_⟩
      rw [g4 i hi, Nat.testBit_or, Nat.testBit_two_pow]
      by_cases w : i < j
      · rw [if_pos (by omega), if_pos w]; simp [show ¬ j = i by omega]
      · by_cases w2 : i = j
        · subst w2; rw [if_pos (by omega), if_neg w]; simp [y]
        · rw [if_neg (by omega), if_neg w]
    · rw [if_neg y]
      obtain ⟨z', τ', g1, g2, g3, g4⟩ := ih (j + 1) fu t3 z (by omega) (by omega) L3 (Nat.lt_of_lt_of_le h4 (Nat.pow_le_pow_right (by omega) (by omega)))
      refine ⟨z', τ', g1, g2, g3, fun i hi => ?_⟩
      rw [g4 i hi]
      by_cases w : i < j
      · rw [if_pos (by omega), if_pos w]
      · by_cases w2 : i = j
        · subst w2; rw [if_pos (by omega), if_neg w, tb_hi h4]; simp [y]
        · rw [if_neg (by omega), if_neg w]
theorem mm_l {t : NN} {σ : ZI} (iT : InvT t σ) {N : Nat} {sj sc : Nat → Nat} (S1 : S7 (t 0 0) N sj sc (s41 σ (t 0 0))) (S3 : ∀ i, i < N → 1 ≤ sj i ∧ sj i ≤ t 0 0) (ba : Bool) : ∀ (d j fu : Nat) (τ : ZL) (z : Nat), j + d = t 0 2 → d < fu → InL τ → z < 2 ^ j → ∃ z' τ', z' < 2 ^ t 0 2 ∧ InL τ' ∧ f_X7_marksNoticed_4 (if ba then 1 else 0) fu (s41 σ (t 0 0)) τ (nI z) (nI j) = some (nI z', s41 σ (t 0 0), τ') ∧ ∀ i, i < t 0 2 → z'.testBit i = if i < j then z.testBit i else decide (FN t sj sc N q1_ (fz i (!ba)) = 0) := by
  have kk := iT.1
  have k1 := kk.1
  have k4 := kk.2.2.2.1
  have iB : InvT t (s41 σ (t 0 0)) := InvT_sg (s41_sg _ _) iT
  intro d
  induction d with
  | zero =>
    intro j fu τ z h1 h2 h3 h4
    obtain ⟨fu, rfl⟩ : ∃ m, fu = m + 1 := ⟨fu - 1, by omega⟩
    obtain rfl : j = t 0 2 := by omega
    exact ⟨z, τ, h4, h3, by rw [f_X7_marksNoticed_4, v1_2, bso, show (s41 σ (t 0 0)) 2 2 = _ from iT.2.1.1 2 (by omega), if_pos (Int32.le_refl _)], fun i hi => by rw [if_pos hi]⟩
  | succ d ih =>
    intro j fu τ z h1 h2 h3 h4
    obtain ⟨fu, rfl⟩ : ∃ m, fu = m + 1 := ⟨fu - 1, by omega⟩
    have kj := k4 j (by omega)
    have emj := ma_is (mj := t 4) (M := t 0 2) (m := j) (by omega) kj.1 kk.2.2.2.2.1
    obtain ⟨t1, a1, a2, a3⟩ := wa7 (InvT_T7 iB) τ
    rw [s41_2] at a1
    obtain ⟨t2, b1, b2, b3, b4⟩ := fn7 (τ := t1) (j := t 4 j) (by omega) (!ba)
    have w2 : Wt t2 (PQ q1_ (fz j (!ba)) (t 4) (t 0 2)) (t 0 0) := fun i hi => by
      obtain ⟨x1, x2, x3, x4⟩ := a3 i hi
      have y1 : i + 1 = t 4 j → ma (t 4) (t 0 2) i = j := fun y => by
        rw [← y] at emj; exact emj
      have y2 : ma (t 4) (t 0 2) i < t 0 2 → ma (t 4) (t 0 2) i = j → i + 1 = t 4 j := fun a b => by
        have := fi_yes (p := fun m => t 4 m == i + 1) (n := t 0 2) a
        rw [show fi (fun m => t 4 m == i + 1) (t 0 2) = j from b] at this
        simp at this
        omega
      refine ⟨(b2 _ _ (by omega)).trans x1, (b2 _ _ (by omega)).trans x2, ?_, ?_⟩
      · show t2 44 (i + 1) = iL (if ma (t 4) (t 0 2) i < t 0 2 then (fz j (!ba) (ma (t 4) (t 0 2) i)).1 else 0)
        by_cases y : i + 1 = t 4 j
        · rw [y, b3, y1 y, if_pos (show j < t 0 2 by omega)]
          unfold fz
          rw [if_pos rfl]
          cases ba <;> rfl
        · rw [b2 _ _ (by omega), x3, PA_2]
          by_cases w : ma (t 4) (t 0 2) i < t 0 2
          · rw [if_pos w, if_pos (show fi (fun m => t 4 m == i + 1) (t 0 2) < t 0 2 from w)]
            unfold fz
            rw [if_neg (fun v => y (y2 w v))]
          · rw [if_neg w, if_neg (show ¬ fi (fun m => t 4 m == i + 1) (t 0 2) < t 0 2 from w)]
      · show t2 45 (i + 1) = iL (if ma (t 4) (t 0 2) i < t 0 2 then (fz j (!ba) (ma (t 4) (t 0 2) i)).2 else 1)
        by_cases y : i + 1 = t 4 j
        · rw [y, b4, y1 y, if_pos (show j < t 0 2 by omega)]
          unfold fz
          rw [if_pos rfl]
          cases ba <;> rfl
        · rw [b2 _ _ (by omega), x4, PA_3]
          by_cases w : ma (t 4) (t 0 2) i < t 0 2
          · rw [if_pos w]
            unfold fz
            rw [if_neg (fun v => y (y2 w v))]
          · rw [if_neg w]
    obtain ⟨t3, c1, c2⟩ := seen7 (σ := s41 σ (t 0 0)) (by omega) (s41_0 σ _) S1 w2
    rw [seen_v7 kk S3] at c1
    have bd := SN_01 (W01_q1 (t 0 0)) (W01_fz j (!ba) (t 0 2)) (v7_01 t sj sc N) (by omega) (by omega)
    have L3 : InL t3 := by
      show t3 50 0 = 0
      rw [c2 50 0 (by omega) (by omega), b2 50 0 (by omega), a2 50 0 (by omega)]; exact h3
    have e41 : ∀ (v2 : Int32), f_X7_marksNoticed_51 (if ba then 1 else 0) (fun σ τ v2 v3 => f_X7_marksNoticed_4 (if ba then 1 else 0) fu σ τ v2 v3) (s41 σ (t 0 0)) t1 v2 (nI j) (if !ba then 1 else 0) (nI (t 4 j)) = if FN t sj sc N q1_ (fz j (!ba)) = 0 then f_X7_marksNoticed_4 (if ba then 1 else 0) fu (s41 σ (t 0 0)) t3 (v2 ||| nI (2 ^ j)) (nI (j + 1)) else f_X7_marksNoticed_4 (if ba then 1 else 0) fu (s41 σ (t 0 0)) t3 v2 (nI (j + 1)) := by
      intro v2
      unfold f_X7_marksNoticed_51 f_X7_marksNoticed_76
      rw [b1, bso, c1, bso]
      dsimp only
      rw [sbl (by omega), ltq, nI_1]
      by_cases y : FN t sj sc N q1_ (fz j (!ba)) = 0
      · rw [if_pos y, if_pos ((cmp0 _ _).mpr ((iL_z ⟨bd.1, bd.2.1⟩).mpr y))]
      · rw [if_neg y, if_neg (fun w => y ((iL_z ⟨bd.1, bd.2.1⟩).mp ((cmp0 _ _).mp w)))]
    have body : f_X7_marksNoticed_4 (if ba then 1 else 0) (fu + 1) (s41 σ (t 0 0)) τ (nI z) (nI j) = if FN t sj sc N q1_ (fz j (!ba)) = 0 then f_X7_marksNoticed_4 (if ba then 1 else 0) fu (s41 σ (t 0 0)) t3 (nI z ||| nI (2 ^ j)) (nI (j + 1)) else f_X7_marksNoticed_4 (if ba then 1 else 0) fu (s41 σ (t 0 0)) t3 (nI z) (nI (j + 1)) := by
      rw [← e41, f_X7_marksNoticed_4, v1_2, bso, show (s41 σ (t 0 0)) 2 2 = _ from iT.2.1.1 2 (by omega), if_neg (nI_ge (by omega) (by omega)), a1, bso, at_n (N := 3) rfl (by omega) (by omega), bso]
      dsimp only
      rw [show (s41 σ (t 0 0)) 6 j = _ from (iT.2.1.2.2.1 j (by omega)).1]
      cases ba <;> rfl
    have zj : z < 2 ^ 10 := Nat.lt_of_lt_of_le h4 (Nat.pow_le_pow_right (by omega) (by omega))
    rw [body]
    by_cases y : FN t sj sc N q1_ (fz j (!ba)) = 0
    · rw [if_pos y, or_n (by omega) zj]
      obtain ⟨z', τ', g1, g2, g3, g4⟩ := ih (j + 1) fu t3 (z ||| 2 ^ j) (by omega) (by omega) L3 (Nat.or_lt_two_pow (Nat.lt_of_lt_of_le h4 (Nat.pow_le_pow_right (by omega) (by omega))) (Nat.pow_lt_pow_right (by omega) (by omega)))
      refine ⟨z', τ', g1, g2, g3, fun i hi => ?_⟩
      rw [g4 i hi, Nat.testBit_or, Nat.testBit_two_pow]
      by_cases w : i < j
      · rw [if_pos (by omega), if_pos w]; simp [show ¬ j = i by omega]
      · by_cases w2 : i = j
        · subst w2; rw [if_pos (by omega), if_neg w]; simp [y]
        · rw [if_neg (by omega), if_neg w]
    · rw [if_neg y]
      obtain ⟨z', τ', g1, g2, g3, g4⟩ := ih (j + 1) fu t3 z (by omega) (by omega) L3 (Nat.lt_of_lt_of_le h4 (Nat.pow_le_pow_right (by omega) (by omega)))
      refine ⟨z', τ', g1, g2, g3, fun i hi => ?_⟩
      rw [g4 i hi]
      by_cases w : i < j
      · rw [if_pos (by omega), if_pos w]
      · by_cases w2 : i = j
        · subst w2; rw [if_pos (by omega), if_neg w, tb_hi h4]; simp [y]
        · rw [if_neg (by omega), if_neg w]
end
section
/-! fits, on both sides *-/
theorem an_n (a b : Nat) : nI a &&& nI b = nI (a &&& b) := by
  apply Int32.toBitVec_inj.mp
  apply BitVec.eq_of_getLsbD_eq
  intro i hi
  show ((BitVec.ofNat 32 a) &&& (BitVec.ofNat 32 b)).getLsbD i = (BitVec.ofNat 32 (a &&& b)).getLsbD i
  simp [BitVec.getLsbD_and, BitVec.getLsbD_ofNat, Nat.testBit_and, hi]
theorem nn_n {a : Nat} (ha : a < 2 ^ 10) (x : Nat) : nI a &&& (nI x ^^^ (-1 : Int32)) = nI (a &&& (1023 ^^^ x)) := by
  apply Int32.toBitVec_inj.mp
  apply BitVec.eq_of_getLsbD_eq
  intro i hi
  show ((BitVec.ofNat 32 a) &&& ((BitVec.ofNat 32 x) ^^^ (BitVec.allOnes 32))).getLsbD i = (BitVec.ofNat 32 (a &&& (1023 ^^^ x))).getLsbD i
  simp only [BitVec.getLsbD_and, BitVec.getLsbD_ofNat, BitVec.getLsbD_xor, BitVec.getLsbD_allOnes, Nat.testBit_and, Nat.testBit_xor, hi, decide_true, Bool.true_and]
  by_cases h : i < 10
  · have e : (1023 : Nat).testBit i = true := by
      rw [show (1023 : Nat) = 2 ^ 10 - 1 by rfl, Nat.testBit_two_pow_sub_one]
      simp [h]
    rw [e]
    cases a.testBit i <;> cases x.testBit i <;> rfl
  · have : a.testBit i = false := Nat.testBit_lt_two_pow (Nat.lt_of_lt_of_le ha (Nat.pow_le_pow_right (by omega) (by omega)))
    rw [this]; rfl
theorem nx_bit {x i : Nat} (h : i < 10) : (1023 ^^^ x).testBit i = !x.testBit i := by
  have e : (1023 : Nat).testBit i = true := by
    rw [show (1023 : Nat) = 2 ^ 10 - 1 by rfl, Nat.testBit_two_pow_sub_one]
    simp [h]
  rw [Nat.testBit_xor, e]
  cases x.testBit i <;> rfl
section FT
variable (t : NN) (sj sc : Nat → Nat) (N : Nat)
def Pr (x n x' n' : Nat) : Prop := n' < 2 ^ t 0 2 ∧ (x' < x ∨ (x' = x ∧ n' < n))
/-- the bits that all have (b true), or that none has -/
def AB (x n : Nat) (f : Nat → Nat → Nat) (K : Nat) (b : Bool) (z : Nat) : Prop := z < 2 ^ K ∧ ∀ j, j < K → (z.testBit j = true ↔ ∀ x' n', Pr t x n x' n' → as_ t sj sc x' n' N = true → (f x' n').testBit j = b)
def ST (x n c am nm an nn : Nat) : Prop := ((c : Int) = sm (fun x => sm (fun n => v7 t sj sc N x n) (2 ^ t 0 2)) x + sm (fun n => v7 t sj sc N x n) n) ∧ AB t sj sc N x n (fun x _ => x) (t 0 0) true am ∧ AB t sj sc N x n (fun x _ => x) (t 0 0) false nm ∧ AB t sj sc N x n (fun _ n => n) (t 0 2) true an ∧ AB t sj sc N x n (fun _ n => n) (t 0 2) false nn
end FT
theorem AB_0 (t : NN) (sj sc : Nat → Nat) (N : Nat) (f : Nat → Nat → Nat) (K : Nat) (b : Bool) : AB t sj sc N 0 0 f K b (2 ^ K - 1) := by
  have := Nat.one_le_two_pow (n := K)
  refine ⟨by omega, fun j hj => ?_⟩
  rw [Nat.testBit_two_pow_sub_one]
  simp only [hj, decide_true, true_iff]
  rintro x' n' ⟨_, h | ⟨_, h⟩⟩ <;> omega
theorem AB_nx {t : NN} {sj sc : Nat → Nat} {N x : Nat} {f : Nat → Nat → Nat} {K : Nat} {b : Bool} {z : Nat} (h : AB t sj sc N x (2 ^ t 0 2) f K b z) : AB t sj sc N (x + 1) 0 f K b z := by
  refine ⟨h.1, fun j hj => ?_⟩
  rw [h.2 j hj]
  have e : ∀ x' n', Pr t (x + 1) 0 x' n' ↔ Pr t x (2 ^ t 0 2) x' n' := by
    intro x' n'
    unfold Pr
    omega
  simp only [e]
theorem AB_no {t : NN} {sj sc : Nat → Nat} {N x n : Nat} {f : Nat → Nat → Nat} {K : Nat} {b : Bool} {z : Nat} (h : AB t sj sc N x n f K b z) (hf : as_ t sj sc x n N ≠ true) : AB t sj sc N x (n + 1) f K b z := by
  refine ⟨h.1, fun j hj => ?_⟩
  rw [h.2 j hj]
  constructor
  · intro a x' n' p q
    by_cases e : x' = x ∧ n' = n
    · rw [e.1, e.2] at q; exact absurd q hf
    · refine a x' n' ?_ q
      unfold Pr at p ⊢
      omega
  · intro a x' n' p q
    refine a x' n' ?_ q
    unfold Pr at p ⊢
    omega
theorem AB_ye {t : NN} {sj sc : Nat → Nat} {N x n : Nat} {f : Nat → Nat → Nat} {K : Nat} {b : Bool} {z w : Nat} (h : AB t sj sc N x n f K b z) (hn : n < 2 ^ t 0 2) (hf : as_ t sj sc x n N = true) (hw : ∀ j, j < K → (w.testBit j = true ↔ (f x n).testBit j = b)) : AB t sj sc N x (n + 1) f K b (z &&& w) := by
  refine ⟨Nat.lt_of_le_of_lt Nat.and_le_left h.1, fun j hj => ?_⟩
  rw [Nat.testBit_and, Bool.and_eq_true, h.2 j hj, hw j hj]
  constructor
  · rintro ⟨a, c⟩ x' n' p q
    by_cases e : x' = x ∧ n' = n
    · rw [e.1, e.2]; exact c
    · refine a x' n' ?_ q
      unfold Pr at p ⊢
      omega
  · intro a
    refine ⟨fun x' n' p q => a x' n' ?_ q, a x n ⟨hn, .inr ⟨rfl, by omega⟩⟩ hf⟩
    unfold Pr at p ⊢
    omega
theorem fits8 {t : NN} {σ : ZI} (q : M8 t σ) (e1 : σ 60 1 = nI (t 0 0)) {N : Nat} {sj sc : Nat → Nat} (hS : S8 (t 0 0) N sj sc σ) (a : Int32) : ∃ c am nm an nn σ', ST t sj sc N (2 ^ t 0 0) 0 c am nm an nn ∧ Sc σ σ' ∧ f_X8_fits_45 a 3000 σ 0 (nI (2 ^ t 0 0 - 1)) (nI (2 ^ t 0 0 - 1)) (nI (2 ^ t 0 2 - 1)) (nI (2 ^ t 0 2 - 1)) 0 = f_X8_fits_45 a 1 σ' (nI c) (nI am) (nI nm) (nI an) (nI nn) (nI (2 ^ t 0 0)) := by
  have k1 := q.1.1
  have p1 := p2J (J := t 0 0) (by omega)
  have p2 : 2 ^ t 0 2 ≤ 8 := (Nat.pow_le_pow_right (by omega) (show t 0 2 ≤ 3 by omega) : 2 ^ t 0 2 ≤ 2 ^ 3)
  have pj : 2 ^ t 0 0 ≤ 2 ^ 10 := Nat.pow_le_pow_right (by omega) k1.2.1
  have pm : 2 ^ t 0 2 ≤ 2 ^ 10 := Nat.pow_le_pow_right (by omega) (by omega)
  have sh : ∀ σ', Sc σ σ' → σ' 60 1 = nI (t 0 0) ∧ σ' 60 5 = nI (t 0 2) ∧ M8 t σ' ∧ S8 (t 0 0) N sj sc σ' := fun σ' h => ⟨(h _ _ (by omega)).trans e1, (h _ _ (by omega)).trans q.2.1, ⟨q.1, (h _ _ (by omega)).trans q.2.1, fun j hj => (h _ _ (by omega)).trans (q.2.2 j hj)⟩, S8_fr h hS⟩
  have In : ∀ (k : ZI → Int32 → Int32 → Int32 → Int32 → Int32 → Int32 → Option (Int32 × ZI)) (x : Nat), x < 2 ^ t 0 0 → ∀ (d n fu : Nat) (σ' : ZI) (c am nm an nn : Nat), n + d = 2 ^ t 0 2 → d < fu → Sc σ σ' → ST t sj sc N x n c am nm an nn → ∃ c' am' nm' an' nn' σ'', ST t sj sc N x (2 ^ t 0 2) c' am' nm' an' nn' ∧ Sc σ σ'' ∧ f_X8_fits_59 a k fu σ' (nI c) (nI am) (nI nm) (nI an) (nI nn) (nI x) (nI n) = k σ'' (nI c') (nI am') (nI nm') (nI an') (nI nn') (nI (x + 1)) := by
    intro k x hx d
    induction d with
    | zero =>
      intro n fu σ' c am nm an nn h1 h2 h3 h4
      obtain ⟨fu, rfl⟩ : ∃ m, fu = m + 1 := ⟨fu - 1, by omega⟩
      obtain rfl : n = 2 ^ t 0 2 := by omega
      exact ⟨c, am, nm, an, nn, σ', h4, h3, by rw [f_X8_fits_59, (sh σ' h3).2.1, sbl (by omega), if_pos (Int32.le_refl _), nI_1]⟩
    | succ d ih =>
      intro n fu σ' c am nm an nn h1 h2 h3 h4
      obtain ⟨fu, rfl⟩ : ∃ m, fu = m + 1 := ⟨fu - 1, by omega⟩
      obtain ⟨s1, s2, s3, s4⟩ := sh σ' h3
      obtain ⟨σ2, g1, g2⟩ := as8 s3 s4 (x := x) (n := n) (by omega) (by omega)
      obtain ⟨c1, c2, c3, c4, c5⟩ := h4
      have ec : sm (fun n => v7 t sj sc N x n) (n + 1) = sm (fun n => v7 t sj sc N x n) n + v7 t sj sc N x n := rfl
      rw [f_X8_fits_59, s2, sbl (by omega), if_neg (nI_ge (by omega) (by omega)), g1, bso]
      unfold f_X8_fits_114
      dsimp only
      rw [nI_1]
      by_cases hf : as_ t sj sc x n N = true
      · rw [if_pos hf, if_neg (by decide), ltq, ltq, nI_1, an_n, an_n, nn_n (Nat.lt_of_lt_of_le c3.1 pj), nn_n (Nat.lt_of_lt_of_le c5.1 pm)]
        refine ih (n + 1) fu σ2 (c + 1) (am &&& x) (nm &&& (1023 ^^^ x)) (an &&& n) (nn &&& (1023 ^^^ n)) (by omega) (by omega) (Sc_tr h3 g2) ⟨?_, AB_ye c2 (by omega) hf (fun j _ => Iff.rfl), AB_ye c3 (by omega) hf (fun j hj => by rw [nx_bit (by omega)]; simp), AB_ye c4 (by omega) hf (fun j _ => Iff.rfl), AB_ye c5 (by omega) hf (fun j hj => by rw [nx_bit (by omega)]; simp)⟩
        rw [ec]
        unfold v7 at c1 ⊢
        rw [if_pos hf, Int.natCast_add, c1]
        omega
      · rw [if_neg hf, if_pos rfl]
        refine ih (n + 1) fu σ2 c am nm an nn (by omega) (by omega) (Sc_tr h3 g2) ⟨?_, AB_no c2 hf, AB_no c3 hf, AB_no c4 hf, AB_no c5 hf⟩
        rw [ec]
        unfold v7 at c1 ⊢
        rw [if_neg hf, c1]
        omega
  have Ou : ∀ (d x fu : Nat) (σ' : ZI) (c am nm an nn : Nat), x + d = 2 ^ t 0 0 → d < fu → Sc σ σ' → ST t sj sc N x 0 c am nm an nn → ∃ c' am' nm' an' nn' σ'', ST t sj sc N (2 ^ t 0 0) 0 c' am' nm' an' nn' ∧ Sc σ σ'' ∧ f_X8_fits_45 a fu σ' (nI c) (nI am) (nI nm) (nI an) (nI nn) (nI x) = f_X8_fits_45 a 1 σ'' (nI c') (nI am') (nI nm') (nI an') (nI nn') (nI (2 ^ t 0 0)) := by
    intro d
    induction d with
    | zero =>
      intro x fu σ' c am nm an nn h1 h2 h3 h4
      obtain ⟨fu, rfl⟩ : ∃ m, fu = m + 1 := ⟨fu - 1, by omega⟩
      obtain rfl : x = 2 ^ t 0 0 := by omega
      refine ⟨c, am, nm, an, nn, σ', h4, h3, ?_⟩
      rw [f_X8_fits_45, f_X8_fits_45, (sh σ' h3).1, sbl (by omega), if_pos (Int32.le_refl _), if_pos (Int32.le_refl _)]
    | succ d ih =>
      intro x fu σ' c am nm an nn h1 h2 h3 h4
      obtain ⟨fu, rfl⟩ : ∃ m, fu = m + 1 := ⟨fu - 1, by omega⟩
      obtain ⟨c', am', nm', an', nn', σ2, x1, x2, x3⟩ := In (fun σ v2 v3 v4 v5 v6 v7 => f_X8_fits_45 a fu σ v2 v3 v4 v5 v6 v7) x (by omega) (2 ^ t 0 2) 0 3000 σ' c am nm an nn (by omega) (by omega) h3 h4
      obtain ⟨y1, y2, y3, y4, y5⟩ := x1
      obtain ⟨c'', am'', nm'', an'', nn'', σ3, z1, z2, z3⟩ := ih (x + 1) fu σ2 c' am' nm' an' nn' (by omega) (by omega) x2 ⟨by rw [y1]; simp only [sm]; omega, AB_nx y2, AB_nx y3, AB_nx y4, AB_nx y5⟩
      refine ⟨c'', am'', nm'', an'', nn'', σ3, z1, z2, ?_⟩
      rw [f_X8_fits_45, (sh σ' h3).1, sbl (by omega), if_neg (nI_ge (by omega) (by omega))]
      exact x3.trans z3
  exact Ou (2 ^ t 0 0) 0 3000 σ 0 (2 ^ t 0 0 - 1) (2 ^ t 0 0 - 1) (2 ^ t 0 2 - 1) (2 ^ t 0 2 - 1) (by omega) (by omega) (Sc_rf σ) ⟨rfl, AB_0 t sj sc N _ _ _, AB_0 t sj sc N _ _ _, AB_0 t sj sc N _ _ _, AB_0 t sj sc N _ _ _⟩
theorem FN_x {t : NN} (k : TK t) {sj sc : Nat → Nat} {N i : Nat} (hi : i < t 0 0) (b : Bool) : FN t sj sc N (fz i b) q1_ = 0 ↔ ∀ x, x < 2 ^ t 0 0 → ∀ n, n < 2 ^ t 0 2 → as_ t sj sc x n N = true → x.testBit i = !b := by
  have k1 := k.1
  unfold FN
  rw [(SN_01 (W01_fz i b (t 0 0)) (W01_q1 (t 0 2)) (v7_01 t sj sc N) (by omega) (by omega)).2.2]
  constructor
  · intro h x hx n hn hf
    have := h x hx n hn
    rw [wp_fz, wp_q1] at this
    unfold v7 at this
    rw [if_pos hf] at this
    by_cases y : x.testBit i = !b
    · exact y
    · rw [if_neg] at this
      · simp at this
      · rintro ⟨-, z⟩
        revert y z
        cases x.testBit i <;> cases b <;> simp
  · intro h x hx n hn
    rw [wp_fz, wp_q1]
    unfold v7
    by_cases hf : as_ t sj sc x n N = true
    · have := h x hx n hn hf
      rw [if_pos (show i < t 0 0 ∧ x.testBit i ≠ b from ⟨hi, by rw [this]; cases b <;> simp⟩), Int.zero_mul]
    · rw [if_neg hf]; simp
theorem FN_n {t : NN} (k : TK t) {sj sc : Nat → Nat} {N i : Nat} (hi : i < t 0 2) (b : Bool) : FN t sj sc N q1_ (fz i b) = 0 ↔ ∀ x, x < 2 ^ t 0 0 → ∀ n, n < 2 ^ t 0 2 → as_ t sj sc x n N = true → n.testBit i = !b := by
  have k1 := k.1
  unfold FN
  rw [(SN_01 (W01_q1 (t 0 0)) (W01_fz i b (t 0 2)) (v7_01 t sj sc N) (by omega) (by omega)).2.2]
  constructor
  · intro h x hx n hn hf
    have := h x hx n hn
    rw [wp_fz, wp_q1] at this
    unfold v7 at this
    rw [if_pos hf] at this
    by_cases y : n.testBit i = !b
    · exact y
    · rw [if_neg] at this
      · simp at this
      · rintro ⟨-, z⟩
        revert y z
        cases n.testBit i <;> cases b <;> simp
  · intro h x hx n hn
    rw [wp_fz, wp_q1]
    unfold v7
    by_cases hf : as_ t sj sc x n N = true
    · have := h x hx n hn hf
      rw [if_pos (show i < t 0 2 ∧ n.testBit i ≠ b from ⟨hi, by rw [this]; cases b <;> simp⟩), Int.zero_mul, Int.mul_zero]
    · rw [if_neg hf]; simp
theorem bits_eq {a b K : Nat} (ha : a < 2 ^ K) (hb : b < 2 ^ K) (h : ∀ i, i < K → (a.testBit i = true ↔ b.testBit i = true)) : a = b := by
  refine Nat.eq_of_testBit_eq fun i => ?_
  by_cases hi : i < K
  · exact Bool.eq_iff_iff.mpr (h i hi)
  · have e : 2 ^ K ≤ 2 ^ i := Nat.pow_le_pow_right (by omega) (by omega)
    rw [Nat.testBit_lt_two_pow (Nat.lt_of_lt_of_le ha e), Nat.testBit_lt_two_pow (Nat.lt_of_lt_of_le hb e)]
theorem u_fitsc {σ : ZI} {τ : ZL} (I : Inv σ) (hL : InL τ) (w : Int32) : RLi (f_X7_fits σ τ w) (fun s => f_X8_fits s w) := by
  obtain ⟨t, iT, iR⟩ := id I
  have kk := iT.1
  have k1 := kk.1
  have p1 := p2J (J := t 0 0) (by omega)
  have p2 := p2J (J := t 0 2) (by omega)
  have iB : InvT t (s41 σ (t 0 0)) := InvT_sg (s41_sg _ _) iT
  unfold f_X7_fits f_X8_fits
  rw [show (4 : Int32) = nI 4 from rfl, if2]
  by_cases hw : w < nI 0 ∨ nI 4 < w
  · exact ri_bad I hL (by rw [if_pos hw]) (by rw [in_at 0 4 0 4 rfl rfl, if_pos (show w < 0 ∨ 4 < w from hw)]; rfl)
  obtain ⟨v, v1, v2, rfl⟩ := rng hw (by omega) (by omega)
  obtain ⟨N, sj, sc, S1, S2, S3⟩ := seen_b iR.2.2.1
  obtain ⟨t1, a1, a2, a3⟩ := wa7 (InvT_T7 iT) τ
  obtain ⟨t2, b1, b2⟩ := seen7 (σ := s41 σ (t 0 0)) (by omega) (s41_0 σ _) S1 a3
  have L2 : InL t2 := (b2 50 0 (by omega) (by omega)).trans ((a2 50 0 (by omega)).trans hL)
  obtain ⟨c, am, nm, an, nn, σ', hst, hsc, hr⟩ := fits8 (R8_M8 (InvT_R8 iB)) iB.2.2.2.1 S2 (nI v)
  obtain ⟨c1, c2, c3, c4, c5⟩ := hst
  have eS : sm (rw_ (PA t) (fun j c => KS sj sc j c N) 12 0 0 (t 0 0)).1 11 = (c : Int) := by
    rw [show sm (rw_ (PA t) (fun j c => KS sj sc j c N) 12 0 0 (t 0 0)).1 11 = _ from seen_v7 kk S3 q1_ q1_, c1]
    unfold SN
    rw [show sm (fun n => v7 t sj sc N (2 ^ t 0 0) n) 0 = 0 from rfl, Int.add_zero]
    refine sm_congr fun x _ => ?_
    rw [wp_q1, Int.one_mul]
    exact sm_congr fun n _ => by rw [wp_q1, Int.one_mul]
  have cb : (c : Int) ≤ 8192 := by
    have := (SN_01 (W01_q1 (t 0 0)) (W01_q1 (t 0 2)) (v7_01 t sj sc N) (by omega) (by omega)).2.1
    have e := seen_v7 (sc := sc) kk S3 q1_ q1_
    rw [← e] at this
    rw [← eS]
    exact this
  rw [eS] at b1
  have e32 : (iL (c : Int)).toInt32 = nI c := by rw [← lN_iL, lN_i]
  have hX : f_X7_fits_58 (nI v) (s41 σ (t 0 0)) t2 = f_X7_fits_63 (nI v) (s41 σ (t 0 0)) t2 1 := rfl
  have Y : ∀ r, f_X8_fits_45 (nI v) 1 σ' (nI c) (nI am) (nI nm) (nI an) (nI nn) (nI (2 ^ t 0 0)) = some (r, σ') → (f_X8_in (nI v).toInt64 0 4).bind (fun q1 => if q1 = 0 then some (-1, s41 σ (t 0 0)) else lt_ ((1 : Int32) <<< ((s41 σ (t 0 0)) 60 1 &&& 31) - 1) fun x2 => lt_ ((1 : Int32) <<< ((s41 σ (t 0 0)) 60 5 &&& 31) - 1) fun x3 => f_X8_fits_45 (nI v) 3000 (s41 σ (t 0 0)) 0 x2 x2 x3 x3 0) = some (r, σ') := by
    intro r h
    rw [in_at 0 4 0 4 rfl rfl, if_neg (show ¬ (nI v < 0 ∨ 4 < nI v) from hw), bso, if_neg (by decide), ltq, ltq, show (s41 σ (t 0 0)) 60 1 = _ from iB.2.2.2.1, show (s41 σ (t 0 0)) 60 5 = _ from iB.2.2.2.2.2.1, sbl (by omega), sbl (by omega), show nI (2 ^ t 0 0) - (1 : Int32) = nI (2 ^ t 0 0 - 1) from pk_sub (a := 2 ^ t 0 0) (b := 1) (by omega), show nI (2 ^ t 0 2) - (1 : Int32) = nI (2 ^ t 0 2 - 1) from pk_sub (a := 2 ^ t 0 2) (b := 1) (by omega), hr, h]
  have e60 : σ' 60 1 = nI (t 0 0) := (hsc _ _ (by omega)).trans iB.2.2.2.1
  have R : f_X8_fits_45 (nI v) 1 σ' (nI c) (nI am) (nI nm) (nI an) (nI nn) (nI (2 ^ t 0 0)) = some (if v = 0 then nI c else if c = 0 then -4 else if v = 1 then nI am else if v = 2 then nI nm else if v = 3 then nI an else nI nn, σ') := by
    rw [f_X8_fits_45, e60, sbl (by omega), if_pos (Int32.le_refl _)]
    unfold f_X8_fits_134
    have hv : v = 0 ∨ v = 1 ∨ v = 2 ∨ v = 3 ∨ v = 4 := by omega
    by_cases hc : c = 0
    · subst hc
      rcases hv with rfl | rfl | rfl | rfl | rfl <;> rfl
    · have hc' : ¬ nI c = 0 := nI_ne0 (by omega) (by omega)
      simp only [hc', hc, if_false]
      rcases hv with rfl | rfl | rfl | rfl | rfl <;> rfl
  have fin : Inv σ' := Inv_sg (Sc_sg hsc) (Inv_sg (s41_sg _ _) I)
  have X : ∀ r τ', InL τ' → ((if nI v = 0 then some ((iL (c : Int)).toInt32, s41 σ (t 0 0), t2) else if (iL (c : Int)).toInt32 = 0 then some (-4, s41 σ (t 0 0), t2) else if nI v = 1 then f_X7_fits_58 (nI v) (s41 σ (t 0 0)) t2 else if nI v = 3 then f_X7_fits_58 (nI v) (s41 σ (t 0 0)) t2 else f_X7_fits_63 (nI v) (s41 σ (t 0 0)) t2 0) : Option (Int32 × ZI × ZL)) = some (r, s41 σ (t 0 0), τ') → r = (if v = 0 then nI c else if c = 0 then -4 else if v = 1 then nI am else if v = 2 then nI nm else if v = 3 then nI an else nI nn) → RLi (if nI v < nI 0 ∨ nI 4 < nI v then some (-1, σ, τ) else (f_X0_weighAlike σ τ 1).bind fun q1 => (f_X0_passAsSeen q1.1 q1.2).bind fun q2 => if nI v = 0 then some (q2.1.toInt32, q1.1, q2.2) else if q2.1.toInt32 = 0 then some (-4, q1.1, q2.2) else if nI v = 1 then f_X7_fits_58 (nI v) q1.1 q2.2 else if nI v = 3 then f_X7_fits_58 (nI v) q1.1 q2.2 else f_X7_fits_63 (nI v) q1.1 q2.2 0) (fun s => (f_X8_in (nI v).toInt64 0 4).bind (fun q1 => if q1 = 0 then some (-1, s) else lt_ ((1 : Int32) <<< (s 60 1 &&& 31) - 1) fun x2 => lt_ ((1 : Int32) <<< (s 60 5 &&& 31) - 1) fun x3 => f_X8_fits_45 (nI v) 3000 s 0 x2 x2 x3 x3 0)) := by
    intro r τ' hl hx hrr
    refine ⟨r, s41 σ (t 0 0), τ', σ', ?_, Y r (by rw [R, hrr]), fin, hl⟩
    rw [if_neg hw, a1, bso]
    dsimp only
    rw [b1, bso]
    exact hx
  have cases5 : v = 0 ∨ v = 1 ∨ v = 2 ∨ v = 3 ∨ v = 4 := by omega
  by_cases h0 : v = 0
  · subst h0
    exact X (nI c) t2 L2 (by rw [if_pos nI_0, e32]) rfl
  have h0' : ¬ nI v = 0 := nI_ne0 (by omega) (by omega)
  by_cases hc : c = 0
  · refine X (-4) t2 L2 ?_ ?_
    · rw [if_neg h0', if_pos (by rw [e32, hc]; rfl)]
    · rw [if_neg h0, if_pos hc]
  have hc' : ¬ (iL (c : Int)).toInt32 = 0 := by rw [e32]; exact nI_ne0 (by omega) (by omega)
  have pr : ∀ x n, Pr t (2 ^ t 0 0) 0 x n ↔ (x < 2 ^ t 0 0 ∧ n < 2 ^ t 0 2) := fun x n => by unfold Pr; omega
  have J : ∀ ba : Bool, ∃ τ', InL τ' ∧ f_X7_jointsMissed (s41 σ (t 0 0)) t2 (if ba then 1 else 0) = some (nI (if ba then am else nm), s41 σ (t 0 0), τ') := by
    intro ba
    obtain ⟨z, τ', g1, g2, g3, g4⟩ := jm_l iT S1 S3 ba (t 0 0) 0 3000 t2 0 (by omega) (by omega) L2 (by omega)
    refine ⟨τ', g2, ?_⟩
    have e : z = if ba then am else nm := by
      refine bits_eq (K := t 0 0) g1 (by cases ba <;> first | exact c2.1 | exact c3.1) fun i hi => ?_
      rw [g4 i hi, if_neg (Nat.not_lt_zero _), decide_eq_true_iff, FN_x kk hi]
      cases ba
      · show _ ↔ nm.testBit i = true
        rw [c3.2 i hi]
        constructor
        · intro h x n p q; exact h x ((pr x n).mp p).1 n ((pr x n).mp p).2 q
        · intro h x hx n hn q; exact h x n ((pr x n).mpr ⟨hx, hn⟩) q
      · show _ ↔ am.testBit i = true
        rw [c2.2 i hi]
        constructor
        · intro h x n p q; exact h x ((pr x n).mp p).1 n ((pr x n).mp p).2 q
        · intro h x hx n hn q; exact h x n ((pr x n).mpr ⟨hx, hn⟩) q
    unfold f_X7_jointsMissed
    rw [← e]
    exact g3
  have M : ∀ ba : Bool, ∃ τ', InL τ' ∧ f_X7_marksNoticed (s41 σ (t 0 0)) t2 (if ba then 1 else 0) = some (nI (if ba then an else nn), s41 σ (t 0 0), τ') := by
    intro ba
    obtain ⟨z, τ', g1, g2, g3, g4⟩ := mm_l iT S1 S3 ba (t 0 2) 0 3000 t2 0 (by omega) (by omega) L2 (by omega)
    refine ⟨τ', g2, ?_⟩
    have e : z = if ba then an else nn := by
      refine bits_eq (K := t 0 2) g1 (by cases ba <;> first | exact c4.1 | exact c5.1) fun i hi => ?_
      rw [g4 i hi, if_neg (Nat.not_lt_zero _), decide_eq_true_iff, FN_n kk hi]
      cases ba
      · show _ ↔ nn.testBit i = true
        rw [c5.2 i hi]
        constructor
        · intro h x n p q; exact h x ((pr x n).mp p).1 n ((pr x n).mp p).2 q
        · intro h x hx n hn q; exact h x n ((pr x n).mpr ⟨hx, hn⟩) q
      · show _ ↔ an.testBit i = true
        rw [c4.2 i hi]
        constructor
        · intro h x n p q; exact h x ((pr x n).mp p).1 n ((pr x n).mp p).2 q
        · intro h x hx n hn q; exact h x n ((pr x n).mpr ⟨hx, hn⟩) q
    unfold f_X7_marksNoticed
    rw [← e]
    exact g3
  by_cases h1 : v = 1
  · subst h1
    obtain ⟨τ', g1, g2⟩ := J true
    refine X (nI am) τ' g1 ?_ (by rw [if_neg h0, if_neg hc]; rfl)
    rw [if_neg h0', if_neg hc', if_pos (by rfl), hX]
    unfold f_X7_fits_63
    rw [if_neg (by decide), show f_X7_jointsMissed (s41 σ (t 0 0)) t2 1 = _ from g2, bso]
    rfl
  by_cases h2 : v = 2
  · subst h2
    obtain ⟨τ', g1, g2⟩ := J false
    refine X (nI nm) τ' g1 ?_ (by rw [if_neg h0, if_neg hc]; rfl)
    rw [if_neg h0', if_neg hc', if_neg (by decide), if_neg (by decide)]
    unfold f_X7_fits_63
    rw [if_neg (by decide), show f_X7_jointsMissed (s41 σ (t 0 0)) t2 0 = _ from g2, bso]
    rfl
  by_cases h3 : v = 3
  · subst h3
    obtain ⟨τ', g1, g2⟩ := M true
    refine X (nI an) τ' g1 ?_ (by rw [if_neg h0, if_neg hc]; rfl)
    rw [if_neg h0', if_neg hc', if_neg (by decide), if_pos (by rfl), hX]
    unfold f_X7_fits_63
    rw [if_pos (by decide), show f_X7_marksNoticed (s41 σ (t 0 0)) t2 1 = _ from g2, bso]
    rfl
  · obtain rfl : v = 4 := by omega
    obtain ⟨τ', g1, g2⟩ := M false
    refine X (nI nn) τ' g1 ?_ (by rw [if_neg h0, if_neg hc]; rfl)
    rw [if_neg h0', if_neg hc', if_neg (by decide), if_neg (by decide)]
    unfold f_X7_fits_63
    rw [if_pos (by decide), show f_X7_marksNoticed (s41 σ (t 0 0)) t2 0 = _ from g2, bso]
    rfl
end
section
/-! the tokens of the tape, on both sides *-/
def ru (P : Nat → Bool) : Nat → Nat → Nat
  | 0, p => p
  | d + 1, p => if P p then ru P d (p + 1) else p
theorem ru_ge (P : Nat → Bool) : ∀ d p, p ≤ ru P d p ∧ ru P d p ≤ p + d
  | 0, p => ⟨Nat.le_refl _, Nat.le_refl _⟩
  | d + 1, p => by
    have := ru_ge P d (p + 1)
    unfold ru
    split <;> omega
theorem ru_in (P : Nat → Bool) : ∀ d p i, p ≤ i → i < ru P d p → P i = true
  | 0, p, i, h1, h2 => by unfold ru at h2; omega
  | d + 1, p, i, h1, h2 => by
    unfold ru at h2
    by_cases h : P p = true
    · rw [if_pos h] at h2
      by_cases e : i = p
      · subst e; exact h
      · exact ru_in P d (p + 1) i (by omega) h2
    · rw [if_neg h] at h2; omega
theorem ru_end (P : Nat → Bool) : ∀ d p, ru P d p < p + d → P (ru P d p) = false
  | 0, p, h => by unfold ru at h; omega
  | d + 1, p, h => by
    unfold ru at h ⊢
    by_cases q : P p = true
    · rw [if_pos q] at h ⊢
      exact ru_end P d (p + 1) (by omega)
    · rw [if_neg q]; simpa using q
/-- what a byte is: 1 a letter, 2 a figure, 3 the sign, 0 none -/
def kd (c : Nat) : Nat := if 97 ≤ c ∧ c ≤ 122 then 1 else if 48 ≤ c ∧ c ≤ 57 then 2 else if c = 59 then 3 else 0
section LX
variable (n : Nat) (b : Nat → Nat)
def hd (p : Nat) : Nat := ru (fun i => b i == 32) (n - p) p
def k0 (p : Nat) : Nat := if hd n b p < n then kd (b (hd n b p)) else 4
def en (p : Nat) : Nat := if hd n b p < n then (if k0 n b p = 3 then hd n b p + 1 else ru (fun i => kd (b i) == k0 n b p) (n - hd n b p) (hd n b p)) else hd n b p
def kk_ (p : Nat) : Nat := if k0 n b p = 2 ∧ 2 < en n b p - hd n b p then 0 else k0 n b p
def vv (h m : Nat) : Nat := if m = 0 then 0 else if m = 1 then b h - 48 else 10 * (b h - 48) + (b (h + 1) - 48)
end LX
/-- the tape, as the class and as the reference have it -/
def Tp7 (n : Nat) (b : Nat → Nat) (σ : ZI) : Prop := n ≤ 160 ∧ σ 37 1 = nI n ∧ ∀ i, i < n → b i < 128 ∧ σ 38 i = nI (b i)
def Tp8 (n : Nat) (b : Nat → Nat) (σ : ZI) : Prop := n ≤ 160 ∧ σ 60 23 = nI n ∧ ∀ i, i < n → b i < 128 ∧ σ 71 i = nI (b i)
theorem hd_ge (n : Nat) (b : Nat → Nat) {p : Nat} (h : p ≤ n) : p ≤ hd n b p ∧ hd n b p ≤ n := by
  have := ru_ge (fun i => b i == 32) (n - p) p
  unfold hd
  omega
theorem k0_le (n : Nat) (b : Nat → Nat) (p : Nat) : k0 n b p ≤ 4 := by
  unfold k0 kd
  repeat' split
  all_goals omega
theorem kk_le (n : Nat) (b : Nat → Nat) (p : Nat) : kk_ n b p ≤ 4 := by
  have := k0_le n b p
  unfold kk_
  split <;> omega
theorem en_ge (n : Nat) (b : Nat → Nat) {p : Nat} (h : p ≤ n) : hd n b p ≤ en n b p ∧ en n b p ≤ n ∧ (hd n b p < n → hd n b p < en n b p) := by
  have h1 := hd_ge n b h
  unfold en
  by_cases hh : hd n b p < n
  · rw [if_pos hh]
    by_cases h3 : k0 n b p = 3
    · rw [if_pos h3]; omega
    · rw [if_neg h3]
      have h2 := ru_ge (fun i => kd (b i) == k0 n b p) (n - hd n b p) (hd n b p)
      refine ⟨h2.1, by omega, fun _ => ?_⟩
      obtain ⟨d, hd'⟩ : ∃ d, n - hd n b p = d + 1 := ⟨n - hd n b p - 1, by omega⟩
      rw [hd']
      unfold ru
      have e : k0 n b p = kd (b (hd n b p)) := by unfold k0; rw [if_pos hh]
      rw [e]
      simp only [beq_self_eq_true, if_true]
      have := ru_ge (fun i => kd (b i) == kd (b (hd n b p))) d (hd n b p + 1)
      omega
  · rw [if_neg hh]; omega
/-- the class's token -/
def tf (g : Nat → Int32) (x k y : Int32) : Nat → Int32 := fun i => if i = 2 then x else if i = 3 then k else if i = 4 then y else g i
def T37 (σ : ZI) (x k y : Int32) : ZI := va_up σ 37 (tf (σ 37) x k y)
theorem k3 (i : Nat) : i = 2 ∨ i = 3 ∨ i = 4 ∨ (i ≠ 2 ∧ i ≠ 3 ∧ i ≠ 4) := by omega
theorem t37_2 (σ : ZI) (x k y v : Int32) : va_up (T37 σ x k y) 37 (upd ((T37 σ x k y) 37) 2 v) = T37 σ v k y := by
  unfold T37; rw [bx_uu]; congr 1; funext i
  rcases k3 i with rfl | rfl | rfl | ⟨a, b, c⟩ <;> first | rfl | simp [upd, va_up, tf, a, b, c]
theorem t37_3 (σ : ZI) (x k y v : Int32) : va_up (T37 σ x k y) 37 (upd ((T37 σ x k y) 37) 3 v) = T37 σ x v y := by
  unfold T37; rw [bx_uu]; congr 1; funext i
  rcases k3 i with rfl | rfl | rfl | ⟨a, b, c⟩ <;> first | rfl | simp [upd, va_up, tf, a, b, c]
theorem t37_4 (σ : ZI) (x k y v : Int32) : va_up (T37 σ x k y) 37 (upd ((T37 σ x k y) 37) 4 v) = T37 σ x k v := by
  unfold T37; rw [bx_uu]; congr 1; funext i
  rcases k3 i with rfl | rfl | rfl | ⟨a, b, c⟩ <;> first | rfl | simp [upd, va_up, tf, a, b, c]
theorem t37_id (σ : ZI) : T37 σ (σ 37 2) (σ 37 3) (σ 37 4) = σ := by
  unfold T37
  have : tf (σ 37) (σ 37 2) (σ 37 3) (σ 37 4) = σ 37 := by
    funext i
    rcases k3 i with rfl | rfl | rfl | ⟨a, b, c⟩ <;> first | rfl | simp [tf, a, b, c]
  rw [this, up_id]
theorem by7_n {n : Nat} {b : Nat → Nat} {σ : ZI} (h : Tp7 n b σ) {i : Nat} (hi : i < n) (x k y : Int32) : f_X5_byteAt (T37 σ x k y) (nI i) = some (nI (b i)) := by
  obtain ⟨a, c, d⟩ := h
  unfold f_X5_byteAt
  rw [if_neg (nI_pos (by omega)), show (T37 σ x k y) 37 1 = _ from c, if_neg (nI_ge (by omega) (by omega)), if_neg (nI_ge (by omega) (by omega)), inB_n (by omega) (by omega), if_pos rfl, nI_clamp (by omega)]
  exact congrArg some (d i hi).2
theorem ko_n : ∀ c, c < 128 → f_X5_kindOf (nI c) = some (nI (kd c)) := by decide +kernel
theorem kd_le (c : Nat) : kd c ≤ 3 := by
  unfold kd
  repeat' split
  all_goals omega
theorem rt_0 {n : Nat} {b : Nat → Nat} {σ : ZI} (h : Tp7 n b σ) (k y : Int32) : ∀ (d p fu : Nat), p + d = n → d < fu → f_X5_readToken_0 fu (T37 σ (nI p) k y) = f_X5_readToken_37 (T37 σ (nI (ru (fun i => b i == 32) d p)) k y) := by
  obtain ⟨a, c, e⟩ := id h
  intro d
  induction d with
  | zero =>
    intro p fu h1 h2
    obtain ⟨fu, rfl⟩ : ∃ m, fu = m + 1 := ⟨fu - 1, by omega⟩
    obtain rfl : p = n := by omega
    rw [f_X5_readToken_0, show (T37 σ (nI p) k y) 37 1 = _ from c, show (T37 σ (nI p) k y) 37 2 = nI p from rfl, if_pos (Int32.le_refl _)]
    rfl
  | succ d ih =>
    intro p fu h1 h2
    obtain ⟨fu, rfl⟩ : ∃ m, fu = m + 1 := ⟨fu - 1, by omega⟩
    have hb := (e p (by omega)).1
    rw [f_X5_readToken_0, show (T37 σ (nI p) k y) 37 1 = _ from c, show (T37 σ (nI p) k y) 37 2 = nI p from rfl, if_neg (nI_ge (by omega) (by omega)), by7_n h (by omega), bso]
    unfold ru
    by_cases z : b p = 32
    · rw [if_pos (by rw [z]; rfl), ltq, t37_2, nI_1, ih (p + 1) fu (by omega) (by omega), if_pos (by simp [z])]
    · rw [if_neg (show ¬ nI (b p) = (32 : Int32) from fun w => z (nI_inj (b := 32) (by omega) (by omega) w)), if_neg (by simp [z])]
theorem rt_75 {n : Nat} {b : Nat → Nat} {σ : ZI} (h : Tp7 n b σ) {K : Nat} (hK : K ≤ 4) (h0 : Nat) (hh : h0 < 2 ^ 20) : ∀ (d p fu : Nat), p + d = n → d < fu → h0 ≤ p → (K = 3 → h0 < p) → f_X5_readToken_75 fu (T37 σ (nI p) (nI K) (nI h0)) = f_X5_readToken_136 (T37 σ (nI (if K = 3 then p else ru (fun i => kd (b i) == K) d p)) (nI K) (nI h0)) := by
  obtain ⟨a, c, e⟩ := id h
  intro d
  induction d with
  | zero =>
    intro p fu h1 h2 h3 h4
    obtain ⟨fu, rfl⟩ : ∃ m, fu = m + 1 := ⟨fu - 1, by omega⟩
    obtain rfl : p = n := by omega
    rw [f_X5_readToken_75, show (T37 σ (nI p) (nI K) (nI h0)) 37 1 = _ from c, show (T37 σ (nI p) (nI K) (nI h0)) 37 2 = nI p from rfl, if_pos (Int32.le_refl _)]
    have : (if K = 3 then p else ru (fun i => kd (b i) == K) 0 p) = p := by split <;> rfl
    rw [this]
  | succ d ih =>
    intro p fu h1 h2 h3 h4
    obtain ⟨fu, rfl⟩ : ∃ m, fu = m + 1 := ⟨fu - 1, by omega⟩
    have hb := (e p (by omega)).1
    have hk := kd_le (b p)
    rw [f_X5_readToken_75, show (T37 σ (nI p) (nI K) (nI h0)) 37 1 = _ from c, show (T37 σ (nI p) (nI K) (nI h0)) 37 2 = nI p from rfl, if_neg (nI_ge (by omega) (by omega)), by7_n h (by omega), bso, ko_n _ hb, bso, show (T37 σ (nI p) (nI K) (nI h0)) 37 3 = nI K from rfl, show (T37 σ (nI p) (nI K) (nI h0)) 37 4 = nI h0 from rfl]
    unfold f_X5_readToken_123
    rw [ltq, t37_2, show (T37 σ (nI p) (nI K) (nI h0)) 37 2 = nI p from rfl, nI_1]
    by_cases z : kd (b p) = K
    · rw [if_pos (by rw [z])]
      by_cases z3 : K = 3
      · rw [if_pos (by rw [z3]; rfl), if_neg (fun w => absurd (nI_inj (by omega) (by omega) w) (by have := h4 z3; omega)), if_pos z3]
      · rw [if_neg (show ¬ nI K = (3 : Int32) from fun w => z3 (nI_inj (b := 3) (by omega) (by omega) w))]
        dsimp only
        rw [ih (p + 1) fu (by omega) (by omega) (by omega) (fun w => absurd w z3), if_neg z3, if_neg z3]
        have e2 : ru (fun i => kd (b i) == K) (d + 1) p = ru (fun i => kd (b i) == K) d (p + 1) := by
          show (if (kd (b p) == K) = true then _ else _) = _
          rw [if_pos (by simp [z])]
        rw [e2]
    · rw [if_neg (fun w => z (nI_inj (by omega) (by omega) w))]
      have e2 : (if K = 3 then p else ru (fun i => kd (b i) == K) (d + 1) p) = p := by
        split
        · rfl
        · show (if (kd (b p) == K) = true then _ else _) = _
          rw [if_neg (by simp [z])]
      rw [e2]
theorem lex7 {n : Nat} {b : Nat → Nat} {σ : ZI} (h : Tp7 n b σ) {p : Nat} (hp : p ≤ n) (h2 : σ 37 2 = nI p) : f_X5_readToken σ = some (T37 σ (nI (en n b p)) (nI (kk_ n b p)) (nI (hd n b p))) := by
  obtain ⟨a, c, e⟩ := id h
  have hh := hd_ge n b hp
  have he := en_ge n b hp
  have e0 : f_X5_readToken σ = f_X5_readToken_37 (T37 σ (nI (hd n b p)) (σ 37 3) (σ 37 4)) := by
    have := rt_0 h (σ 37 3) (σ 37 4) (n - p) p 3000 (by omega) (by omega)
    rw [← h2, t37_id] at this
    exact this
  rw [e0]
  unfold f_X5_readToken_37 f_X5_readToken_72
  rw [ltq, t37_4, show (T37 σ (nI (hd n b p)) (σ 37 3) (σ 37 4)) 37 2 = nI (hd n b p) from rfl, show (T37 σ (nI (hd n b p)) (σ 37 3) (nI (hd n b p))) 37 1 = _ from c, show (T37 σ (nI (hd n b p)) (σ 37 3) (nI (hd n b p))) 37 2 = nI (hd n b p) from rfl]
  have fin : ∀ K, K ≤ 4 → k0 n b p = K → f_X5_readToken_136 (T37 σ (nI (en n b p)) (nI K) (nI (hd n b p))) = some (T37 σ (nI (en n b p)) (nI (kk_ n b p)) (nI (hd n b p))) := by
    intro K hK hk
    unfold f_X5_readToken_136
    rw [show (T37 σ (nI (en n b p)) (nI K) (nI (hd n b p))) 37 3 = nI K from rfl, show (T37 σ (nI (en n b p)) (nI K) (nI (hd n b p))) 37 2 = nI (en n b p) from rfl, show (T37 σ (nI (en n b p)) (nI K) (nI (hd n b p))) 37 4 = nI (hd n b p) from rfl, pk_sub he.1, ltq, t37_3]
    unfold kk_
    rw [hk]
    by_cases z : K = 2
    · rw [if_pos (by rw [z]; rfl)]
      by_cases w : 2 < en n b p - hd n b p
      · rw [if_neg (show ¬ nI (en n b p - hd n b p) ≤ 2 from nI_ge (a := 2) w (by omega)), if_pos ⟨z, w⟩]
        rfl
      · rw [if_pos (show nI (en n b p - hd n b p) ≤ 2 from nI_le (b := 2) (by omega) (by omega)), if_neg (fun q => w q.2)]
    · rw [if_neg (show ¬ nI K = (2 : Int32) from fun w => z (nI_inj (b := 2) (by omega) (by omega) w)), if_neg (fun q => z q.1)]
  by_cases hn : hd n b p < n
  · have ek : k0 n b p = kd (b (hd n b p)) := by unfold k0; rw [if_pos hn]
    have hk := kd_le (b (hd n b p))
    rw [if_neg (nI_ge hn (by omega)), by7_n h hn, bso, ko_n _ (e _ hn).1, bso, ltq, t37_3, ← ek]
    by_cases z3 : k0 n b p = 3
    · have step : f_X5_readToken_75 3000 (T37 σ (nI (hd n b p)) (nI (k0 n b p)) (nI (hd n b p))) = f_X5_readToken_75 2999 (T37 σ (nI (hd n b p + 1)) (nI (k0 n b p)) (nI (hd n b p))) := by
        rw [f_X5_readToken_75, show (T37 σ (nI (hd n b p)) (nI (k0 n b p)) (nI (hd n b p))) 37 1 = _ from c, show (T37 σ (nI (hd n b p)) (nI (k0 n b p)) (nI (hd n b p))) 37 2 = nI (hd n b p) from rfl, if_neg (nI_ge hn (by omega)), by7_n h hn, bso, ko_n _ (e _ hn).1, bso, show (T37 σ (nI (hd n b p)) (nI (k0 n b p)) (nI (hd n b p))) 37 3 = nI (k0 n b p) from rfl, show (T37 σ (nI (hd n b p)) (nI (k0 n b p)) (nI (hd n b p))) 37 4 = nI (hd n b p) from rfl, if_pos (by rw [ek]), if_pos (by rw [z3]; rfl), if_pos rfl]
        unfold f_X5_readToken_123
        rw [ltq, t37_2, show (T37 σ (nI (hd n b p)) (nI (k0 n b p)) (nI (hd n b p))) 37 2 = nI (hd n b p) from rfl, nI_1]
      rw [step, rt_75 h (k0_le n b p) (hd n b p) (by omega) (n - (hd n b p + 1)) (hd n b p + 1) 2999 (by omega) (by omega) (by omega) (fun _ => by omega), if_pos z3]
      have ee : en n b p = hd n b p + 1 := by unfold en; rw [if_pos hn, if_pos z3]
      rw [← ee]
      exact fin _ (k0_le n b p) rfl
    · rw [rt_75 h (k0_le n b p) (hd n b p) (by omega) (n - hd n b p) (hd n b p) 3000 (by omega) (by omega) (by omega) (fun w => absurd w z3), if_neg z3]
      have ee : en n b p = ru (fun i => kd (b i) == k0 n b p) (n - hd n b p) (hd n b p) := by unfold en; rw [if_pos hn, if_neg z3]
      rw [← ee]
      exact fin _ (k0_le n b p) rfl
  · have e1 : hd n b p = n := by omega
    have ek : k0 n b p = 4 := by unfold k0; rw [if_neg hn]
    have ee : en n b p = hd n b p := by unfold en; rw [if_neg hn]
    have := rt_75 h (K := 4) (by omega) (hd n b p) (by omega) 0 (hd n b p) 3000 (by omega) (by omega) (by omega) (fun w => by omega)
    rw [if_pos (nI_le (by omega) (by omega)), ltq, t37_3, show (4 : Int32) = nI 4 from rfl, this, if_neg (by omega)]
    have f4 := fin 4 (by omega) ek
    rw [ee] at f4
    exact f4.trans (by rw [ee])
end
section
/-! the reference's token, one ahead *-/
def tk_ (k : Nat) : Nat := if k = 4 then 0 else k
def gf (g : Nat → Int32) (br ba sp he tk va : Int32) : Nat → Int32 := fun i => if i = 25 then br else if i = 26 then ba else if i = 27 then sp else if i = 28 then he else if i = 29 then tk else if i = 30 then va else g i
def G6 (σ : ZI) (br ba sp he tk va : Int32) : ZI := va_up σ 60 (gf (σ 60) br ba sp he tk va)
theorem kg (k : Nat) : k = 25 ∨ k = 26 ∨ k = 27 ∨ k = 28 ∨ k = 29 ∨ k = 30 ∨ (k ≠ 25 ∧ k ≠ 26 ∧ k ≠ 27 ∧ k ≠ 28 ∧ k ≠ 29 ∧ k ≠ 30) := by omega
section GU
variable (σ : ZI) (br ba sp he tk va v : Int32)
theorem g6_25 : va_up (G6 σ br ba sp he tk va) 60 (upd ((G6 σ br ba sp he tk va) 60) 25 v) = G6 σ v ba sp he tk va := by
  unfold G6; rw [bx_uu]; congr 1; funext k
  rcases kg k with rfl | rfl | rfl | rfl | rfl | rfl | ⟨a, b, c, d, e, f⟩ <;> first | rfl | simp [upd, va_up, gf, a, b, c, d, e, f]
theorem g6_26 : va_up (G6 σ br ba sp he tk va) 60 (upd ((G6 σ br ba sp he tk va) 60) 26 v) = G6 σ br v sp he tk va := by
  unfold G6; rw [bx_uu]; congr 1; funext k
  rcases kg k with rfl | rfl | rfl | rfl | rfl | rfl | ⟨a, b, c, d, e, f⟩ <;> first | rfl | simp [upd, va_up, gf, a, b, c, d, e, f]
theorem g6_27 : va_up (G6 σ br ba sp he tk va) 60 (upd ((G6 σ br ba sp he tk va) 60) 27 v) = G6 σ br ba v he tk va := by
  unfold G6; rw [bx_uu]; congr 1; funext k
  rcases kg k with rfl | rfl | rfl | rfl | rfl | rfl | ⟨a, b, c, d, e, f⟩ <;> first | rfl | simp [upd, va_up, gf, a, b, c, d, e, f]
theorem g6_28 : va_up (G6 σ br ba sp he tk va) 60 (upd ((G6 σ br ba sp he tk va) 60) 28 v) = G6 σ br ba sp v tk va := by
  unfold G6; rw [bx_uu]; congr 1; funext k
  rcases kg k with rfl | rfl | rfl | rfl | rfl | rfl | ⟨a, b, c, d, e, f⟩ <;> first | rfl | simp [upd, va_up, gf, a, b, c, d, e, f]
theorem g6_29 : va_up (G6 σ br ba sp he tk va) 60 (upd ((G6 σ br ba sp he tk va) 60) 29 v) = G6 σ br ba sp he v va := by
  unfold G6; rw [bx_uu]; congr 1; funext k
  rcases kg k with rfl | rfl | rfl | rfl | rfl | rfl | ⟨a, b, c, d, e, f⟩ <;> first | rfl | simp [upd, va_up, gf, a, b, c, d, e, f]
theorem g6_30 : va_up (G6 σ br ba sp he tk va) 60 (upd ((G6 σ br ba sp he tk va) 60) 30 v) = G6 σ br ba sp he tk v := by
  unfold G6; rw [bx_uu]; congr 1; funext k
  rcases kg k with rfl | rfl | rfl | rfl | rfl | rfl | ⟨a, b, c, d, e, f⟩ <;> first | rfl | simp [upd, va_up, gf, a, b, c, d, e, f]
theorem g6_id : G6 σ (σ 60 25) (σ 60 26) (σ 60 27) (σ 60 28) (σ 60 29) (σ 60 30) = σ := by
  unfold G6
  have : gf (σ 60) (σ 60 25) (σ 60 26) (σ 60 27) (σ 60 28) (σ 60 29) (σ 60 30) = σ 60 := by
    funext k
    rcases kg k with rfl | rfl | rfl | rfl | rfl | rfl | ⟨a, b, c, d, e, f⟩ <;> first | rfl | simp [gf, a, b, c, d, e, f]
  rw [this, up_id]
end GU
theorem fails_g (σ : ZI) (ba sp he tk va v : Int32) : f_X8_fails (G6 σ 0 ba sp he tk va) v = some (G6 σ v he sp he tk va) := by
  unfold f_X8_fails
  rw [if_pos (show (G6 σ 0 ba sp he tk va) 60 25 = 0 from rfl), ltq, g6_25, ltq, g6_26]
  rfl
def Fr8 (σ σ' : ZI) : Prop := ∀ c i, ¬ (c = 60 ∧ 25 ≤ i ∧ i ≤ 30) → σ' c i = σ c i
theorem Fr8_rf (σ : ZI) : Fr8 σ σ := fun _ _ _ => rfl
theorem Fr8_tr {a b c : ZI} (h : Fr8 a b) (h2 : Fr8 b c) : Fr8 a c := fun x i q => (h2 x i q).trans (h x i q)
theorem G6_Fr (σ : ZI) (br ba sp he tk va : Int32) : Fr8 σ (G6 σ br ba sp he tk va) := fun x k hk => by
  by_cases hx : x = 60
  · subst hx
    show gf (σ 60) br ba sp he tk va k = σ 60 k
    have : k ≠ 25 ∧ k ≠ 26 ∧ k ≠ 27 ∧ k ≠ 28 ∧ k ≠ 29 ∧ k ≠ 30 := by omega
    obtain ⟨a, b, c, d, e, f⟩ := this
    simp [gf, a, b, c, d, e, f]
  · show va_up σ 60 _ x k = _
    simp only [va_up, if_neg hx]
theorem Tp8_fr {n : Nat} {b : Nat → Nat} {σ σ' : ZI} (h : Fr8 σ σ') (q : Tp8 n b σ) : Tp8 n b σ' := ⟨q.1, (h _ _ (by omega)).trans q.2.1, fun i hi => ⟨(q.2.2 i hi).1, (h _ _ (by omega)).trans (q.2.2 i hi).2⟩⟩
theorem by8_n {n : Nat} {b : Nat → Nat} {σ : ZI} (h : Tp8 n b σ) {i : Nat} (hi : i ≤ n) : f_X8_byteAt σ (nI i) = some (if i < n then nI (b i) else -4) := by
  obtain ⟨a, c, d⟩ := h
  unfold f_X8_byteAt
  rw [c]
  by_cases z : i < n
  · rw [if_neg (nI_ge z (by omega)), inB_n (by omega) (by omega), if_pos rfl, nI_clamp (by omega), (d i z).2, if_pos z]
  · rw [if_pos (nI_le (by omega) (by omega)), if_neg z]
def RY (n : Nat) (b : Nat → Nat) (p : Nat) (σ : ZI) : Prop := (kk_ n b p = 0 → σ 60 25 = 1 ∧ σ 60 26 = nI (hd n b p)) ∧ (kk_ n b p ≠ 0 → σ 60 25 = 0 ∧ σ 60 28 = nI (hd n b p) ∧ σ 60 27 = nI (en n b p) ∧ σ 60 29 = nI (tk_ (kk_ n b p)) ∧ (kk_ n b p = 2 → σ 60 30 = nI (vv b (hd n b p) (en n b p - hd n b p))))
theorem in8_l : ∀ c, c < 128 → f_X8_in (nI c).toInt64 97 122 = some (if kd c = 1 then 1 else 0) := by decide +kernel
theorem in8_f : ∀ c, c < 128 → f_X8_in (nI c).toInt64 48 57 = some (if kd c = 2 then 1 else 0) := by decide +kernel
theorem in8_4 : f_X8_in (-4 : Int32).toInt64 97 122 = some 0 ∧ f_X8_in (-4 : Int32).toInt64 48 57 = some 0 := by decide +kernel
theorem s8_0 {n : Nat} {b : Nat → Nat} {σ : ZI} (h : Tp8 n b σ) (ba he tk va : Int32) : ∀ (d p fu : Nat), p + d = n → d < fu → f_X8_step_8 fu (G6 σ 0 ba (nI p) he tk va) = f_X8_step_8 1 (G6 σ 0 ba (nI (ru (fun i => b i == 32) d p)) he tk va) := by
  intro d
  induction d with
  | zero =>
    intro p fu h1 h2
    obtain ⟨fu, rfl⟩ : ∃ m, fu = m + 1 := ⟨fu - 1, by omega⟩
    obtain rfl : p = n := by omega
    have := by8_n (Tp8_fr (G6_Fr σ 0 ba (nI p) he tk va) h) (i := p) (by omega)
    rw [if_neg (by omega)] at this
    show f_X8_step_8 (fu + 1) (G6 σ 0 ba (nI p) he tk va) = f_X8_step_8 1 (G6 σ 0 ba (nI p) he tk va)
    rw [f_X8_step_8, f_X8_step_8, show (G6 σ 0 ba (nI p) he tk va) 60 27 = nI p from rfl, this, bso, bso, if_neg (by decide), if_neg (by decide)]
  | succ d ih =>
    intro p fu h1 h2
    obtain ⟨fu, rfl⟩ : ∃ m, fu = m + 1 := ⟨fu - 1, by omega⟩
    have hb := (h.2.2 p (by omega)).1
    have e := by8_n (Tp8_fr (G6_Fr σ 0 ba (nI p) he tk va) h) (i := p) (by omega)
    rw [if_pos (by omega)] at e
    unfold ru
    by_cases z : b p = 32
    · rw [f_X8_step_8, show (G6 σ 0 ba (nI p) he tk va) 60 27 = nI p from rfl, e, bso, if_pos (by rw [z]; rfl), ltq, g6_27, nI_1, ih (p + 1) fu (by omega) (by omega), if_pos (by simp [z])]
    · rw [if_neg (show ¬ (b p == 32) = true by simp [z])]
      have z' : ¬ nI (b p) = (32 : Int32) := fun w => z (nI_inj (b := 32) (by omega) (by omega) w)
      rw [f_X8_step_8, f_X8_step_8, show (G6 σ 0 ba (nI p) he tk va) 60 27 = nI p from rfl, e, bso, bso, if_neg z', if_neg z']
theorem s8_84 {n : Nat} {b : Nat → Nat} {σ : ZI} (h : Tp8 n b σ) (ba he tk va : Int32) : ∀ (d p fu : Nat), p + d = n → d < fu → f_X8_step_84 fu (G6 σ 0 ba (nI p) he tk va) = some (G6 σ 0 ba (nI (ru (fun i => kd (b i) == 1) d p)) he 1 va) := by
  intro d
  induction d with
  | zero =>
    intro p fu h1 h2
    obtain ⟨fu, rfl⟩ : ∃ m, fu = m + 1 := ⟨fu - 1, by omega⟩
    obtain rfl : p = n := by omega
    have := by8_n (Tp8_fr (G6_Fr σ 0 ba (nI p) he tk va) h) (i := p) (by omega)
    rw [if_neg (by omega)] at this
    rw [f_X8_step_84, show (G6 σ 0 ba (nI p) he tk va) 60 27 = nI p from rfl, this, bso, in8_4.1, bso, if_pos rfl, ltq, g6_29]
    rfl
  | succ d ih =>
    intro p fu h1 h2
    obtain ⟨fu, rfl⟩ : ∃ m, fu = m + 1 := ⟨fu - 1, by omega⟩
    have hb := (h.2.2 p (by omega)).1
    have e := by8_n (Tp8_fr (G6_Fr σ 0 ba (nI p) he tk va) h) (i := p) (by omega)
    rw [if_pos (by omega)] at e
    unfold ru
    rw [f_X8_step_84, show (G6 σ 0 ba (nI p) he tk va) 60 27 = nI p from rfl, e, bso, in8_l _ hb, bso]
    by_cases z : kd (b p) = 1
    · rw [if_pos z, if_neg (by decide), ltq, g6_27, nI_1, ih (p + 1) fu (by omega) (by omega), if_pos (by simp [z])]
    · rw [if_neg z, if_pos rfl, ltq, g6_29, if_neg (by simp [z])]
theorem kd2 {c : Nat} (h : kd c = 2) : 48 ≤ c ∧ c ≤ 57 := by
  unfold kd at h
  by_cases h1 : 97 ≤ c ∧ c ≤ 122
  · rw [if_pos h1] at h; omega
  · rw [if_neg h1] at h
    by_cases h2 : 48 ≤ c ∧ c ≤ 57
    · exact h2
    · rw [if_neg h2] at h; split at h <;> omega
theorem s8_140 {n : Nat} {b : Nat → Nat} {σ : ZI} (h : Tp8 n b σ) (ba tk : Int32) (h0 : Nat) (hf : ∀ i, h0 ≤ i → i < h0 + 2 → i < ru (fun i => kd (b i) == 2) (n - h0) h0 → kd (b i) = 2) : ∀ (d m fu : Nat), h0 + m + d = n → d < fu → h0 + m ≤ ru (fun i => kd (b i) == 2) (n - h0) h0 → ru (fun i => kd (b i) == 2) d (h0 + m) = ru (fun i => kd (b i) == 2) (n - h0) h0 → ∃ σ', f_X8_step_140 fu (G6 σ 0 ba (nI (h0 + m)) (nI h0) tk (nI (vv b h0 m))) = some σ' ∧ Fr8 σ σ' ∧ (2 < ru (fun i => kd (b i) == 2) (n - h0) h0 - h0 → σ' 60 25 = 1 ∧ σ' 60 26 = nI h0) ∧ (¬ 2 < ru (fun i => kd (b i) == 2) (n - h0) h0 - h0 → σ' 60 25 = 0 ∧ σ' 60 28 = nI h0 ∧ σ' 60 27 = nI (ru (fun i => kd (b i) == 2) (n - h0) h0) ∧ σ' 60 29 = 2 ∧ σ' 60 30 = nI (vv b h0 (ru (fun i => kd (b i) == 2) (n - h0) h0 - h0))) := by
  have n160 := h.1
  obtain ⟨E, hE⟩ : ∃ E, E = ru (fun i => kd (b i) == 2) (n - h0) h0 := ⟨_, rfl⟩
  rw [← hE] at hf ⊢
  have stop : ∀ (m : Nat) (s : ZI), h0 + m = E → E ≤ n → s = G6 σ 0 ba (nI (h0 + m)) (nI h0) 2 (nI (vv b h0 m)) → ∃ σ', ((if (s 60 27 - s 60 28) ≤ 2 then some s else (f_X8_fails s 1).bind fun q13 => some q13) : Option ZI) = some σ' ∧ Fr8 σ σ' ∧ (2 < E - h0 → σ' 60 25 = 1 ∧ σ' 60 26 = nI h0) ∧ (¬ 2 < E - h0 → σ' 60 25 = 0 ∧ σ' 60 28 = nI h0 ∧ σ' 60 27 = nI E ∧ σ' 60 29 = 2 ∧ σ' 60 30 = nI (vv b h0 (E - h0))) := by
    intro m s hm hn hs
    have em : E - h0 = m := by omega
    rw [em, hs, show (G6 σ 0 ba (nI (h0 + m)) (nI h0) 2 (nI (vv b h0 m))) 60 27 = nI (h0 + m) from rfl, show (G6 σ 0 ba (nI (h0 + m)) (nI h0) 2 (nI (vv b h0 m))) 60 28 = nI h0 from rfl, pk_sub (by omega), show h0 + m - h0 = m by omega]
    by_cases z : 2 < m
    · rw [if_neg (show ¬ nI m ≤ 2 from nI_ge (a := 2) z (by omega))]
      rw [fails_g, bso]
      exact ⟨_, rfl, G6_Fr _ _ _ _ _ _ _, fun _ => ⟨rfl, rfl⟩, fun w => absurd z w⟩
    · rw [if_pos (show nI m ≤ 2 from nI_le (b := 2) (by omega) (by omega))]
      exact ⟨_, rfl, G6_Fr _ _ _ _ _ _ _, fun w => absurd w z, fun _ => ⟨rfl, rfl, by rw [← hm]; rfl, rfl, rfl⟩⟩
  intro d
  induction d with
  | zero =>
    intro m fu h1 h2 h3 h4
    obtain ⟨fu, rfl⟩ : ∃ m, fu = m + 1 := ⟨fu - 1, by omega⟩
    have hm : h0 + m = n := by omega
    have := by8_n (Tp8_fr (G6_Fr σ 0 ba (nI (h0 + m)) (nI h0) tk (nI (vv b h0 m))) h) (i := h0 + m) (by omega)
    rw [if_neg (by omega)] at this
    rw [f_X8_step_140, show (G6 σ 0 ba (nI (h0 + m)) (nI h0) tk (nI (vv b h0 m))) 60 27 = nI (h0 + m) from rfl, this, bso, in8_4.2, bso, if_pos rfl, ltq, g6_29]
    exact stop m _ h4 (by rw [← h4]; show h0 + m ≤ n; omega) rfl
  | succ d ih =>
    intro m fu h1 h2 h3 h4
    obtain ⟨fu, rfl⟩ : ∃ m, fu = m + 1 := ⟨fu - 1, by omega⟩
    have hb := (h.2.2 (h0 + m) (by omega)).1
    have e := by8_n (Tp8_fr (G6_Fr σ 0 ba (nI (h0 + m)) (nI h0) tk (nI (vv b h0 m))) h) (i := h0 + m) (by omega)
    rw [if_pos (by omega)] at e
    have h5 : (if (kd (b (h0 + m)) == 2) = true then ru (fun i => kd (b i) == 2) d (h0 + m + 1) else h0 + m) = E := h4
    rw [f_X8_step_140, show (G6 σ 0 ba (nI (h0 + m)) (nI h0) tk (nI (vv b h0 m))) 60 27 = nI (h0 + m) from rfl, e, bso, in8_f _ hb, bso]
    by_cases z : kd (b (h0 + m)) = 2
    · rw [if_pos (by simp [z])] at h5
      have z2 := kd2 z
      have ge := ru_ge (fun i => kd (b i) == 2) d (h0 + m + 1)
      rw [if_pos z, if_neg (by decide), show (G6 σ 0 ba (nI (h0 + m)) (nI h0) tk (nI (vv b h0 m))) 60 28 = nI h0 from rfl, pk_sub (by omega), show h0 + m - h0 = m by omega, bso]
      unfold f_X8_step_201
      rw [ltq, g6_30, ltq, g6_27, ltq, g6_30, ltq, g6_27]
      rw [show ∀ x, (G6 σ 0 ba (nI (h0 + m)) (nI h0) tk x) 60 27 = nI (h0 + m) from fun _ => rfl, show (G6 σ 0 ba (nI (h0 + m)) (nI h0) tk (nI (vv b h0 m))) 60 30 = nI (vv b h0 m) from rfl, nI_1]
      rw [show ∀ x, (G6 σ 0 ba (nI (h0 + m)) (nI h0) tk x) 60 27 = nI (h0 + m) from fun _ => rfl, nI_1]
      have hv : vv b h0 m ≤ 99 := by
        unfold vv
        by_cases w0 : m = 0
        · rw [if_pos w0]; omega
        · rw [if_neg w0]
          have f0 := kd2 (hf h0 (by omega) (by omega) (by omega))
          by_cases w1 : m = 1
          · rw [if_pos w1]; omega
          · rw [if_neg w1]
            have f1 := kd2 (hf (h0 + 1) (by omega) (by omega) (by omega))
            omega
      by_cases w : 2 ≤ m
      · rw [if_pos (show (2 : Int32) ≤ nI m from nI_le (a := 2) w (by omega))]
        have ev : vv b h0 (m + 1) = vv b h0 m := by
          unfold vv
          rw [if_neg (by omega), if_neg (by omega), if_neg (by omega), if_neg (by omega)]
        rw [← ev]
        exact ih (m + 1) fu (by omega) (by omega) (by omega) h5
      · rw [if_neg (show ¬ (2 : Int32) ≤ nI m from nI_ge (b := 2) (by omega) (by omega))]
        have ev : (10 : Int32) * nI (vv b h0 m) + nI (b (h0 + m)) - 48 = nI (vv b h0 (m + 1)) := by
          rw [show (10 : Int32) * nI (vv b h0 m) = nI (10 * vv b h0 m) from pk_mul 10 _, nI_add, show (48 : Int32) = nI 48 from rfl, pk_sub (by omega)]
          congr 1
          have : m = 0 ∨ m = 1 := by omega
          rcases this with rfl | rfl
          · show 10 * 0 + b (h0 + 0) - 48 = b h0 - 48
            rw [Nat.add_zero]; omega
          · show 10 * (b h0 - 48) + b (h0 + 1) - 48 = 10 * (b h0 - 48) + (b (h0 + 1) - 48)
            omega
        rw [ev]
        exact ih (m + 1) fu (by omega) (by omega) (by omega) h5
    · rw [if_neg (by simp [z])] at h5
      rw [if_neg z, if_pos rfl, ltq, g6_29]
      exact stop m _ h5 (by omega) rfl
theorem step8 {n : Nat} {b : Nat → Nat} {σ : ZI} (h : Tp8 n b σ) {p : Nat} (hp : p ≤ n) (h25 : σ 60 25 = 0) (h27 : σ 60 27 = nI p) : ∃ σ', f_X8_step σ = some σ' ∧ Fr8 σ σ' ∧ RY n b p σ' := by
  have n160 := h.1
  have hh := hd_ge n b hp
  have he := en_ge n b hp
  have e0 : f_X8_step σ = f_X8_step_8 1 (G6 σ 0 (σ 60 26) (nI (hd n b p)) (σ 60 28) (σ 60 29) (σ 60 30)) := by
    unfold f_X8_step
    have := s8_0 h (σ 60 26) (σ 60 28) (σ 60 29) (σ 60 30) (n - p) p 3000 (by omega) (by omega)
    rw [← h27, ← h25, g6_id] at this
    rw [if_pos (by rw [h25]; decide), this, h25]
    rfl
  have e1 := by8_n (Tp8_fr (G6_Fr σ 0 (σ 60 26) (nI (hd n b p)) (σ 60 28) (σ 60 29) (σ 60 30)) h) (i := hd n b p) (by omega)
  have e2 := by8_n (Tp8_fr (G6_Fr σ 0 (σ 60 26) (nI (hd n b p)) (nI (hd n b p)) (σ 60 29) (σ 60 30)) h) (i := hd n b p) (by omega)
  have n32 : ¬ (if hd n b p < n then nI (b (hd n b p)) else -4) = (32 : Int32) := by
    by_cases z : hd n b p < n
    · rw [if_pos z]
      have w := ru_end (fun i => b i == 32) (n - p) p (by unfold hd at z; omega)
      have hb := (h.2.2 _ z).1
      have w' : ¬ b (hd n b p) = 32 := by
        unfold hd
        simpa using w
      exact fun q => w' (nI_inj (b := 32) (by omega) (by omega) q)
    · rw [if_neg z]; decide
  rw [e0, f_X8_step_8, show (G6 σ 0 (σ 60 26) (nI (hd n b p)) (σ 60 28) (σ 60 29) (σ 60 30)) 60 27 = nI (hd n b p) from rfl, e1, bso, if_neg n32, ltq, g6_28, show (G6 σ 0 (σ 60 26) (nI (hd n b p)) (nI (hd n b p)) (σ 60 29) (σ 60 30)) 60 27 = nI (hd n b p) from rfl, e2, bso, ltq, g6_30]
  by_cases hn : hd n b p < n
  · have hb := (h.2.2 _ hn).1
    have ek : k0 n b p = kd (b (hd n b p)) := by unfold k0; rw [if_pos hn]
    rw [if_pos hn, if_neg (nI_nm4 (by omega)), in8_l _ hb, bso, in8_f _ hb, bso]
    by_cases z1 : kd (b (hd n b p)) = 1
    · have ee : en n b p = ru (fun i => kd (b i) == 1) (n - hd n b p) (hd n b p) := by unfold en; rw [if_pos hn, if_neg (by rw [ek]; omega), ek, z1]
      have ekk : kk_ n b p = 1 := by unfold kk_; rw [ek, z1, if_neg (by omega)]
      rw [if_pos z1, if_neg (by decide), s8_84 h _ _ _ _ (n - hd n b p) (hd n b p) 3000 (by omega) (by omega), ← ee]
      refine ⟨_, rfl, G6_Fr _ _ _ _ _ _ _, fun w => absurd w (by omega), fun _ => ⟨rfl, rfl, rfl, by rw [ekk]; rfl, fun w => absurd w (by omega)⟩⟩
    · rw [if_neg z1, if_pos rfl]
      by_cases z2 : kd (b (hd n b p)) = 2
      · have ee : en n b p = ru (fun i => kd (b i) == 2) (n - hd n b p) (hd n b p) := by unfold en; rw [if_pos hn, if_neg (by rw [ek]; omega), ek, z2]
        obtain ⟨σ', x1, x2, x3, x4⟩ := s8_140 h (σ 60 26) (σ 60 29) (hd n b p) (fun i h1 _ h3 => by
          have := ru_in (fun i => kd (b i) == 2) (n - hd n b p) (hd n b p) i h1 h3
          simpa using this) (n - hd n b p) 0 3000 (by omega) (by omega) (by have := (ru_ge (fun i => kd (b i) == 2) (n - hd n b p) (hd n b p)).1; omega) rfl
        rw [← ee] at x3 x4
        rw [if_pos z2, if_neg (by decide)]
        refine ⟨σ', x1, x2, fun w => ?_, fun w => ?_⟩
        · refine x3 ?_
          unfold kk_ at w
          rw [ek, z2] at w
          by_cases y : 2 < en n b p - hd n b p
          · exact y
          · rw [if_neg (fun q => y q.2)] at w; omega
        · have y : ¬ 2 < en n b p - hd n b p := by
            intro y
            apply w
            unfold kk_
            rw [ek, z2, if_pos ⟨rfl, y⟩]
          have ekk : kk_ n b p = 2 := by unfold kk_; rw [ek, z2, if_neg (fun q => y q.2)]
          obtain ⟨y1, y2, y3, y4, y5⟩ := x4 y
          exact ⟨y1, y2, y3, by rw [ekk]; exact y4, fun _ => y5⟩
      · rw [if_neg z2, if_pos rfl, ltq, g6_29, ltq, g6_27, show (G6 σ 0 (σ 60 26) (nI (hd n b p)) (nI (hd n b p)) 3 0) 60 27 = nI (hd n b p) from rfl, nI_1]
        by_cases z3 : b (hd n b p) = 59
        · have k3 : kd (b (hd n b p)) = 3 := by rw [z3]; rfl
          have ee : en n b p = hd n b p + 1 := by unfold en; rw [if_pos hn, if_pos (by rw [ek, k3])]
          have ekk : kk_ n b p = 3 := by unfold kk_; rw [ek, k3, if_neg (by omega)]
          rw [if_pos (by rw [z3]; rfl), ← ee]
          exact ⟨_, rfl, G6_Fr _ _ _ _ _ _ _, fun w => absurd w (by omega), fun _ => ⟨rfl, rfl, rfl, by rw [ekk]; rfl, fun w => absurd w (by omega)⟩⟩
        · have k0' : kd (b (hd n b p)) = 0 := by
            unfold kd at z1 z2 ⊢
            by_cases a1 : 97 ≤ b (hd n b p) ∧ b (hd n b p) ≤ 122
            · rw [if_pos a1] at z1; exact absurd rfl z1
            · rw [if_neg a1] at z2 ⊢
              by_cases a2 : 48 ≤ b (hd n b p) ∧ b (hd n b p) ≤ 57
              · rw [if_pos a2] at z2; exact absurd rfl z2
              · rw [if_neg a2, if_neg z3]
          have ekk : kk_ n b p = 0 := by unfold kk_; rw [ek, k0', if_neg (by omega)]
          rw [if_neg (show ¬ nI (b (hd n b p)) = (59 : Int32) from fun w => z3 (nI_inj (b := 59) (by omega) (by omega) w))]
          rw [fails_g, bso]
          exact ⟨_, rfl, G6_Fr _ _ _ _ _ _ _, fun _ => ⟨rfl, rfl⟩, fun w => absurd ekk w⟩
  · have ek : k0 n b p = 4 := by unfold k0; rw [if_neg hn]
    have ee : en n b p = hd n b p := by unfold en; rw [if_neg hn]
    have ekk : kk_ n b p = 4 := by unfold kk_; rw [ek, if_neg (by omega)]
    rw [if_neg hn, if_pos rfl, ltq, g6_29]
    exact ⟨_, rfl, G6_Fr _ _ _ _ _ _ _, fun w => absurd w (by omega), fun _ => ⟨rfl, rfl, by rw [ee]; rfl, by rw [ekk]; rfl, fun w => absurd w (by omega)⟩⟩
/-- a reading that is broken goes no step -/
theorem step8_b {σ : ZI} {f : Nat} (hf : 1 ≤ f) (hf2 : f < 10) (h : σ 60 25 = nI f) : f_X8_step σ = some σ := by
  unfold f_X8_step
  rw [h, if_neg (nI_nle (by omega) (by omega))]
end
section
/-! names, on both sides *-/
def bytN : List (List Nat) := [[106, 111, 105, 110, 116, 115], [97, 114, 109], [109, 97, 114, 107], [116, 111, 119, 110], [115, 105, 103, 110, 97, 108], [98, 114, 105, 100, 103, 101], [115, 108, 105, 112], [112, 97, 99, 101], [110, 101, 116], [99, 111, 115, 116], [104, 97, 110, 100, 115], [116, 114, 117, 101], [108, 105, 103, 104, 116], [104, 101, 97, 118, 121], [100, 111, 117, 98, 108, 101], [108, 111, 119]]
def lt__ (k i : Nat) : Nat := (bytN.getD k []).getD i 0
def ln_ (k : Nat) : Nat := lenJS.getD k 0
def NM (n : Nat) (b : Nat → Nat) (p k : Nat) : Prop := kk_ n b p = 1 ∧ en n b p - hd n b p = ln_ k ∧ ∀ i, i < ln_ k → b (hd n b p + i) = lt__ k i
theorem ln_b : ∀ k, k < 16 → 3 ≤ ln_ k ∧ ln_ k ≤ 6 := by decide +kernel
theorem lt_b : ∀ k, k < 16 → ∀ i, i < ln_ k → lt__ k i < 128 := by decide +kernel
theorem nm_d : ∀ k, k < 16 → ∀ k', k' < 16 → ln_ k = ln_ k' → (∀ i, i < ln_ k → lt__ k i = lt__ k' i) → k = k' := by decide +kernel
theorem NM_u {n : Nat} {b : Nat → Nat} {p k k' : Nat} (hk : k < 16) (hk' : k' < 16) (h : NM n b p k) (h' : NM n b p k') : k = k' := by
  obtain ⟨-, a, c⟩ := h
  obtain ⟨-, a', c'⟩ := h'
  refine nm_d k hk k' hk' (a.symm.trans a') fun i hi => ?_
  rw [← c i hi, ← c' i (by omega)]
theorem ch_n : ∀ k, k < 16 → ∀ i, i < ln_ k → f_J0_charAt_5068e k (nI i) = some (nI (lt__ k i)) := by decide +kernel
theorem le_n : ∀ k, k < 16 → f_J0_length_8abf5 k = some (nI (ln_ k)) := by decide +kernel
def At7 (n : Nat) (b : Nat → Nat) (p : Nat) (σ : ZI) : Prop := Tp7 n b σ ∧ σ 37 2 = nI (en n b p) ∧ σ 37 3 = nI (kk_ n b p) ∧ σ 37 4 = nI (hd n b p)
theorem by7' {n : Nat} {b : Nat → Nat} {σ : ZI} (h : Tp7 n b σ) {i : Nat} (hi : i < n) : f_X5_byteAt σ (nI i) = some (nI (b i)) := by
  have := by7_n h hi (σ 37 2) (σ 37 3) (σ 37 4)
  rw [t37_id] at this
  exact this
theorem isn_l {n : Nat} {b : Nat → Nat} {p : Nat} {σ : ZI} (h : At7 n b p σ) (hp : p ≤ n) {k : Nat} (hk : k < 16) (hl : en n b p - hd n b p = ln_ k) : ∀ (d i fu : Nat), i + d = ln_ k → d < fu → (∀ j, j < i → b (hd n b p + j) = lt__ k j) → ((∀ j, j < ln_ k → b (hd n b p + j) = lt__ k j) → f_X5_isName_28 σ k fu (nI i) = some 1) ∧ (¬ (∀ j, j < ln_ k → b (hd n b p + j) = lt__ k j) → f_X5_isName_28 σ k fu (nI i) = some 0) := by
  have lb := ln_b k hk
  have he := en_ge n b hp
  have n160 := h.1.1
  intro d
  induction d with
  | zero =>
    intro i fu h1 h2 h3
    obtain ⟨fu, rfl⟩ : ∃ m, fu = m + 1 := ⟨fu - 1, by omega⟩
    have e : i = ln_ k := by omega
    rw [f_X5_isName_28, le_n k hk, bso, e, if_pos (Int32.le_refl _)]
    rw [e] at h3
    exact ⟨fun _ => rfl, fun w => absurd h3 w⟩
  | succ d ih =>
    intro i fu h1 h2 h3
    obtain ⟨fu, rfl⟩ : ∃ m, fu = m + 1 := ⟨fu - 1, by omega⟩
    have tb := lt_b k hk i (by omega)
    have bb := (h.1.2.2 (hd n b p + i) (by omega)).1
    rw [f_X5_isName_28, le_n k hk, bso, if_neg (nI_ge (by omega) (by omega)), h.2.2.2, nI_add, by7' h.1 (by omega), bso, ch_n k hk i (by omega), bso, nI_1]
    by_cases z : b (hd n b p + i) = lt__ k i
    · rw [if_pos (by rw [z])]
      exact ih (i + 1) fu (by omega) (by omega) fun j hj => by
        by_cases w : j = i
        · rw [w]; exact z
        · exact h3 j (by omega)
    · rw [if_neg (fun w => z (nI_inj (by omega) (by omega) w))]
      exact ⟨fun w => absurd (w i (by omega)) z, fun _ => rfl⟩
theorem isn7 {n : Nat} {b : Nat → Nat} {p : Nat} {σ : ZI} (h : At7 n b p σ) (hp : p ≤ n) {k : Nat} (hk : k < 16) : (NM n b p k → f_X5_isName σ k = some 1) ∧ (¬ NM n b p k → f_X5_isName σ k = some 0) := by
  have lb := ln_b k hk
  have he := en_ge n b hp
  have n160 := h.1.1
  have kb := kk_le n b p
  unfold f_X5_isName
  rw [if_pos hk, h.2.2.1, le_n k hk, bso, h.2.1, h.2.2.2, pk_sub he.1]
  by_cases z : kk_ n b p = 1
  · rw [if_pos (by rw [z]; rfl)]
    by_cases w : en n b p - hd n b p = ln_ k
    · rw [if_pos (by rw [w])]
      have := isn_l h hp hk w (ln_ k) 0 3000 (by omega) (by omega) (fun j hj => absurd hj (Nat.not_lt_zero _))
      exact ⟨fun q => this.1 q.2.2, fun q => this.2 fun r => q ⟨z, w, r⟩⟩
    · rw [if_neg (fun q => w (nI_inj (by omega) (by omega) q))]
      exact ⟨fun q => absurd q.2.1 w, fun _ => rfl⟩
  · rw [if_neg (show ¬ nI (kk_ n b p) = 1 from fun q => z (nI_inj (b := 1) (by omega) (by omega) q))]
    exact ⟨fun q => absurd q.1 z, fun _ => rfl⟩
theorem isn_k {n : Nat} {b : Nat → Nat} {p : Nat} {σ : ZI} (h : At7 n b p σ) (hp : p ≤ n) {k : Nat} (hk : k < 16) (hm : NM n b p k) : ∀ j, j < 16 → f_X5_isName σ j = some (if j = k then 1 else 0) := fun j hj => by
  by_cases z : j = k
  · subst z; rw [if_pos rfl]; exact (isn7 h hp hj).1 hm
  · rw [if_neg z]; exact (isn7 h hp hj).2 fun w => z (NM_u hj hk w hm)
theorem isn_0 {n : Nat} {b : Nat → Nat} {p : Nat} {σ : ZI} (h : At7 n b p σ) (hp : p ≤ n) (hm : ∀ k, k < 16 → ¬ NM n b p k) : ∀ j, j < 16 → f_X5_isName σ j = some 0 := fun j hj => (isn7 h hp hj).2 (hm j hj)
/-- of the class's names: the line, the kind; of the reference's -/
def liL : List Nat := [0, 1, 2, 3, 4, 5, 6, 7, 8, 10, 12]
def c2r : List Nat := [0, 7, 8, 9, 10, 1, 2, 3, 4, 5, 6, 11, 12, 13, 14, 15]
def r2c : List Nat := [0, 5, 6, 7, 8, 9, 10, 1, 2, 3, 4, 11, 12, 13, 14, 15]
theorem lin7 {n : Nat} {b : Nat → Nat} {p : Nat} {σ : ZI} (h : At7 n b p σ) (hp : p ≤ n) : (∀ k, k < 11 → NM n b p k → f_X2_lineNamed σ = some (nI (liL.getD k 0))) ∧ ((∀ k, k < 11 → ¬ NM n b p k) → f_X2_lineNamed σ = some (-4)) := by
  constructor
  · intro k hk hm
    have e := isn_k h hp (show k < 16 by omega) hm
    unfold f_X2_lineNamed
    rw [e 0 (by omega), e 1 (by omega), e 2 (by omega), e 3 (by omega), e 4 (by omega), e 5 (by omega), e 6 (by omega), e 7 (by omega), e 8 (by omega), e 9 (by omega), e 10 (by omega)]
    clear e hm
    have : k = 0 ∨ k = 1 ∨ k = 2 ∨ k = 3 ∨ k = 4 ∨ k = 5 ∨ k = 6 ∨ k = 7 ∨ k = 8 ∨ k = 9 ∨ k = 10 := by omega
    rcases this with rfl | rfl | rfl | rfl | rfl | rfl | rfl | rfl | rfl | rfl | rfl <;> rfl
  · intro hm
    have e : ∀ j, j < 11 → f_X5_isName σ j = some 0 := fun j hj => (isn7 h hp (show j < 16 by omega)).2 (hm j hj)
    unfold f_X2_lineNamed
    rw [e 0 (by omega), e 1 (by omega), e 2 (by omega), e 3 (by omega), e 4 (by omega), e 5 (by omega), e 6 (by omega), e 7 (by omega), e 8 (by omega), e 9 (by omega), e 10 (by omega)]
    rfl
theorem kin7 {n : Nat} {b : Nat → Nat} {p : Nat} {σ : ZI} (h : At7 n b p σ) (hp : p ≤ n) : (∀ k, 11 ≤ k → k < 16 → NM n b p k → f_X2_kindNamed σ = some (nI (k - 11))) ∧ ((∀ k, 11 ≤ k → k < 16 → ¬ NM n b p k) → f_X2_kindNamed σ = some (-4)) := by
  constructor
  · intro k hk1 hk hm
    have e := isn_k h hp hk hm
    unfold f_X2_kindNamed
    rw [e 11 (by omega), e 12 (by omega), e 13 (by omega), e 14 (by omega), e 15 (by omega)]
    clear e hm
    have : k = 11 ∨ k = 12 ∨ k = 13 ∨ k = 14 ∨ k = 15 := by omega
    rcases this with rfl | rfl | rfl | rfl | rfl <;> rfl
  · intro hm
    have e : ∀ j, 11 ≤ j → j < 16 → f_X5_isName σ j = some 0 := fun j h1 hj => (isn7 h hp hj).2 (hm j h1 hj)
    unfold f_X2_kindNamed
    rw [e 11 (by omega) (by omega), e 12 (by omega) (by omega), e 13 (by omega) (by omega), e 14 (by omega) (by omega), e 15 (by omega) (by omega)]
    rfl
/-- the reference's names -/
def rc (m : Nat) : Nat := r2c.getD m 0
def cr (k : Nat) : Nat := c2r.getD k 0
theorem rc_b : ∀ m, m < 16 → rc m < 16 ∧ cr (rc m) = m ∧ cutL.getD (m + 1) 0 = cutL.getD m 0 + ln_ (rc m) ∧ cutL.getD (m + 1) 0 ≤ 72 ∧ ∀ i, i < ln_ (rc m) → letL.getD (cutL.getD m 0 + i) 0 = lt__ (rc m) i := by decide +kernel
theorem cr_b : ∀ k, k < 16 → cr k < 16 ∧ rc (cr k) = k := by decide +kernel
theorem nh_in {n : Nat} {b : Nat → Nat} {p : Nat} {σ : ZI} (h : Tp8 n b σ) (K : InvK σ) (hp : p ≤ n) (e27 : σ 60 27 = nI (en n b p)) (e28 : σ 60 28 = nI (hd n b p)) {m : Nat} (hm : m < 16) (k2 : Int32 → Option Int32) (hl : en n b p - hd n b p = ln_ (rc m)) : ∀ (d i fu : Nat), i + d = ln_ (rc m) → d + 1 < fu → (∀ j, j < i → b (hd n b p + j) = lt__ (rc m) j) → ((∀ j, j < ln_ (rc m) → b (hd n b p + j) = lt__ (rc m) j) → f_X8_nameHere_51 σ k2 fu (nI m) 1 (nI i) = some (nI m)) ∧ (¬ (∀ j, j < ln_ (rc m) → b (hd n b p + j) = lt__ (rc m) j) → f_X8_nameHere_51 σ k2 fu (nI m) 1 (nI i) = k2 (nI (m + 1))) := by
  obtain ⟨r1, r2, r3, r4, r5⟩ := rc_b m hm
  have lb := ln_b _ r1
  have he := en_ge n b hp
  have n160 := h.1
  intro d
  induction d with
  | zero =>
    intro i fu h1 h2 h3
    obtain ⟨fu, rfl⟩ : ∃ m, fu = m + 1 := ⟨fu - 1, by omega⟩
    have e : i = ln_ (rc m) := by omega
    rw [f_X8_nameHere_51, if_neg (by decide), e27, e28, pk_sub he.1, hl, e, if_pos (Int32.le_refl _)]
    unfold f_X8_nameHere_106
    rw [e] at h3
    exact ⟨fun _ => by rw [if_neg (by decide)], fun w => absurd h3 w⟩
  | succ d ih =>
    intro i fu h1 h2 h3
    obtain ⟨fu, rfl⟩ : ∃ m, fu = m + 1 := ⟨fu - 1, by omega⟩
    have tb := lt_b _ r1 i (by omega)
    have bb := (h.2.2 (hd n b p + i) (by omega)).1
    have eb := by8_n h (i := hd n b p + i) (by omega)
    rw [if_pos (by omega)] at eb
    rw [f_X8_nameHere_51, if_neg (by decide), e27, e28, pk_sub he.1, hl, if_neg (nI_ge (by omega) (by omega)), nI_add, eb, bso, inB_n (by omega) (by omega), if_pos rfl, nI_clamp (by omega), K.1 m (by omega), nI_add, inB_n (by omega) (by omega), if_pos rfl, nI_clamp (by omega), K.2 _ (by omega), r5 i (by omega)]
    unfold f_X8_nameHere_99
    rw [nI_1]
    dsimp only
    by_cases z : b (hd n b p + i) = lt__ (rc m) i
    · rw [if_pos (by rw [z])]
      exact ih (i + 1) fu (by omega) (by omega) fun j hj => by
        by_cases w : j = i
        · rw [w]; exact z
        · exact h3 j (by omega)
    · rw [if_neg (fun w => z (nI_inj (by omega) (by omega) w))]
      obtain ⟨fu, rfl⟩ : ∃ m, fu = m + 1 := ⟨fu - 1, by omega⟩
      refine ⟨fun w => absurd (w i (by omega)) z, fun _ => ?_⟩
      rw [f_X8_nameHere_51, if_pos rfl]
      unfold f_X8_nameHere_106
      rw [if_pos rfl, nI_1]
theorem nh_l {n : Nat} {b : Nat → Nat} {p : Nat} {σ : ZI} (h : Tp8 n b σ) (K : InvK σ) (hp : p ≤ n) (e27 : σ 60 27 = nI (en n b p)) (e28 : σ 60 28 = nI (hd n b p)) (e29 : σ 60 29 = nI (tk_ (kk_ n b p))) (hk : kk_ n b p ≠ 0) : ∀ (d m fu : Nat), m + d = 16 → d < fu → (∀ ms, m ≤ ms → ms < 16 → NM n b p (rc ms) → f_X8_nameHere_2 σ fu (nI m) = some (nI ms)) ∧ ((∀ ms, m ≤ ms → ms < 16 → ¬ NM n b p (rc ms)) → f_X8_nameHere_2 σ fu (nI m) = some (-4)) := by
  have he := en_ge n b hp
  have n160 := h.1
  have kb := kk_le n b p
  intro d
  induction d with
  | zero =>
    intro m fu h1 h2
    obtain ⟨fu, rfl⟩ : ∃ m, fu = m + 1 := ⟨fu - 1, by omega⟩
    obtain rfl : m = 16 := by omega
    exact ⟨fun ms a c => by omega, fun _ => by rw [f_X8_nameHere_2, if_pos (by decide)]⟩
  | succ d ih =>
    intro m fu h1 h2
    obtain ⟨fu, rfl⟩ : ∃ m, fu = m + 1 := ⟨fu - 1, by omega⟩
    obtain ⟨r1, r2, r3, r4, r5⟩ := rc_b m (by omega)
    have lb := ln_b _ r1
    obtain ⟨i1, i2⟩ := ih (m + 1) fu (by omega) (by omega)
    by_cases z : kk_ n b p = 1
    · have body : f_X8_nameHere_2 σ (fu + 1) (nI m) = if en n b p - hd n b p = ln_ (rc m) then f_X8_nameHere_51 σ (fun v1 => f_X8_nameHere_2 σ fu v1) 3000 (nI m) 1 0 else f_X8_nameHere_2 σ fu (nI (m + 1)) := by
        rw [f_X8_nameHere_2, if_neg (show ¬ (16 : Int32) ≤ nI m from nI_ge (b := 16) (by omega) (by omega)), e29, if_pos (by rw [z]; rfl), nI_1, inB_n (by omega) (by omega), if_pos rfl, inB_n (by omega) (by omega), if_pos rfl, e27, e28, pk_sub he.1, nI_clamp (by omega), nI_clamp (by omega), K.1 (m + 1) (by omega), K.1 m (by omega), pk_sub (by omega), show cutL.getD (m + 1) 0 - cutL.getD m 0 = ln_ (rc m) by omega]
        unfold f_X8_nameHere_48
        by_cases w : en n b p - hd n b p = ln_ (rc m)
        · rw [if_pos (by rw [w]), if_pos w]
        · rw [if_neg (fun q => w (nI_inj (by omega) (by omega) q)), if_neg w, show f_X8_nameHere_51 σ (fun v1 => f_X8_nameHere_2 σ fu v1) 3000 (nI m) 0 0 = f_X8_nameHere_106 σ (fun v1 => f_X8_nameHere_2 σ fu v1) (nI m) 0 from by rw [f_X8_nameHere_51, if_pos rfl]]
          unfold f_X8_nameHere_106
          rw [if_pos rfl, nI_1]
      rw [body]
      by_cases w : en n b p - hd n b p = ln_ (rc m)
      · rw [if_pos w]
        obtain ⟨j1, j2⟩ := nh_in h K hp e27 e28 (show m < 16 by omega) (fun v1 => f_X8_nameHere_2 σ fu v1) w (ln_ (rc m)) 0 3000 (by omega) (by omega) (fun j hj => absurd hj (Nat.not_lt_zero _))
        by_cases y : ∀ j, j < ln_ (rc m) → b (hd n b p + j) = lt__ (rc m) j
        · have nm : NM n b p (rc m) := ⟨z, w, y⟩
          refine ⟨fun ms a c q => ?_, fun q => absurd nm (q m (Nat.le_refl _) (by omega))⟩
          have e := NM_u r1 (rc_b ms c).1 nm q
          have : m = ms := by rw [← r2, e, (rc_b ms c).2.1]
          subst this
          exact j1 y
        · rw [show f_X8_nameHere_51 σ (fun v1 => f_X8_nameHere_2 σ fu v1) 3000 (nI m) 1 0 = _ from j2 y]
          refine ⟨fun ms a c q => ?_, fun q => i2 fun ms a c => q ms (by omega) c⟩
          by_cases e : ms = m
          · subst e; exact absurd q.2.2 y
          · exact i1 ms (by omega) c q
      · rw [if_neg w]
        refine ⟨fun ms a c q => ?_, fun q => i2 fun ms a c => q ms (by omega) c⟩
        by_cases e : ms = m
        · subst e; exact absurd q.2.1 w
        · exact i1 ms (by omega) c q
    · have t1 : ¬ nI (tk_ (kk_ n b p)) = 1 := by
        intro q
        have := nI_inj (b := 1) (by unfold tk_; split <;> omega) (by omega) q
        unfold tk_ at this
        split at this <;> omega
      refine ⟨fun ms a c q => absurd q.1 z, fun _ => ?_⟩
      rw [f_X8_nameHere_2, if_neg (show ¬ (16 : Int32) ≤ nI m from nI_ge (b := 16) (by omega) (by omega)), e29, if_neg t1]
theorem nh8 {n : Nat} {b : Nat → Nat} {p : Nat} {σ : ZI} (h : Tp8 n b σ) (K : InvK σ) (hp : p ≤ n) (r : RY n b p σ) (hk : kk_ n b p ≠ 0) : (∀ k, k < 16 → NM n b p k → f_X8_nameHere σ = some (nI (cr k))) ∧ ((∀ k, k < 16 → ¬ NM n b p k) → f_X8_nameHere σ = some (-4)) := by
  obtain ⟨y1, y2, y3, y4, -⟩ := r.2 hk
  obtain ⟨i1, i2⟩ := nh_l h K hp y3 y2 y4 hk 16 0 3000 (by omega) (by omega)
  refine ⟨fun k hk' q => ?_, fun q => i2 fun ms _ c => q _ (rc_b ms c).1⟩
  obtain ⟨a, c⟩ := cr_b k hk'
  exact i1 (cr k) (by omega) a (by rw [c]; exact q)
end
section
/-! numbers, on both sides *-/
section NR
variable (n : Nat) (b : Nat → Nat)
def VV (p : Nat) : Nat := vv b (hd n b p) (en n b p - hd n b p)
/-- the fault of a number that should stand at p -/
def nf (p lo hi : Nat) : Nat := if kk_ n b p = 0 then 1 else if kk_ n b p ≠ 2 then 2 else if VV n b p < lo ∨ hi < VV n b p then 3 else 0
end NR
theorem nf_0 {n : Nat} {b : Nat → Nat} {p lo hi : Nat} (h : nf n b p lo hi = 0) : kk_ n b p = 2 ∧ lo ≤ VV n b p ∧ VV n b p ≤ hi := by
  unfold nf at h
  by_cases h1 : kk_ n b p = 0
  · rw [if_pos h1] at h; omega
  · rw [if_neg h1] at h
    by_cases h2 : kk_ n b p ≠ 2
    · rw [if_pos h2] at h; omega
    · rw [if_neg h2] at h
      by_cases h3 : VV n b p < lo ∨ hi < VV n b p
      · rw [if_pos h3] at h; omega
      · exact ⟨Decidable.of_not_not h2, by omega, by omega⟩
theorem nf_le (n : Nat) (b : Nat → Nat) (p lo hi : Nat) : nf n b p lo hi ≤ 3 := by
  unfold nf
  repeat' split
  all_goals omega
/-- figures of a token that is a number -/
theorem num_t {n : Nat} {b : Nat → Nat} {p : Nat} (hp : p ≤ n) (hk : kk_ n b p = 2) : hd n b p < n ∧ (en n b p - hd n b p = 1 ∨ en n b p - hd n b p = 2) ∧ (∀ i, i < en n b p - hd n b p → 48 ≤ b (hd n b p + i) ∧ b (hd n b p + i) ≤ 57) := by
  have he := en_ge n b hp
  have k2 : k0 n b p = 2 ∧ ¬ 2 < en n b p - hd n b p := by
    unfold kk_ at hk
    by_cases z : k0 n b p = 2 ∧ 2 < en n b p - hd n b p
    · rw [if_pos z] at hk; omega
    · rw [if_neg z] at hk
      exact ⟨hk, fun w => z ⟨hk, w⟩⟩
  have hn : hd n b p < n := by
    have h := k2.1
    unfold k0 at h
    by_cases z : hd n b p < n
    · exact z
    · rw [if_neg z] at h; omega
  refine ⟨hn, by have := he.2.2 hn; omega, fun i hi => ?_⟩
  have ee : en n b p = ru (fun i => kd (b i) == 2) (n - hd n b p) (hd n b p) := by unfold en; rw [if_pos hn, if_neg (by omega), k2.1]
  have := ru_in (fun i => kd (b i) == 2) (n - hd n b p) (hd n b p) (hd n b p + i) (by omega) (by omega)
  exact kd2 (by simpa using this)
theorem VV_b {n : Nat} {b : Nat → Nat} {p : Nat} (hp : p ≤ n) (hk : kk_ n b p = 2) : VV n b p ≤ 99 := by
  obtain ⟨h1, h2, h3⟩ := num_t hp hk
  unfold VV vv
  rcases h2 with h | h
  · have := h3 0 (by omega)
    rw [h, if_neg (by omega), if_pos rfl]
    rw [Nat.add_zero] at this
    omega
  · have a := h3 0 (by omega)
    have c := h3 1 (by omega)
    rw [h, if_neg (by omega), if_neg (by omega)]
    rw [Nat.add_zero] at a
    omega
/-- the class -/
def F7 (σ σ' : ZI) : Prop := ∀ c i, ¬ (c = 37 ∧ 2 ≤ i ∧ i ≤ 4) → σ' c i = σ c i
def Ff (σ σ' : ZI) : Prop := ∀ c i, ¬ (c = 37 ∧ 2 ≤ i ∧ i ≤ 4) → ¬ (c = 39 ∧ 3 ≤ i ∧ i ≤ 4) → σ' c i = σ c i
def flt (f q : Nat) (σ : ZI) : Prop := σ 39 3 = nI f ∧ σ 39 4 = nI q
theorem F7_Ff {σ σ' : ZI} (h : F7 σ σ') : Ff σ σ' := fun c i a _ => h c i a
theorem F7_tr {a b c : ZI} (h : F7 a b) (h2 : F7 b c) : F7 a c := fun x i q => (h2 x i q).trans (h x i q)
theorem Ff_tr {a b c : ZI} (h : Ff a b) (h2 : Ff b c) : Ff a c := fun x i q r => (h2 x i q r).trans (h x i q r)
theorem Ff_sg {σ σ' : ZI} (h : Ff σ σ') : Sg σ σ' := fun c i q _ => h c i (by
  rintro ⟨rfl, h1, h2⟩
  have : i = 2 ∨ i = 3 ∨ i = 4 := by omega
  rcases this with rfl | rfl | rfl <;> exact q rfl) (by
  rintro ⟨rfl, h1, h2⟩
  have : i = 3 ∨ i = 4 := by omega
  rcases this with rfl | rfl <;> exact q rfl)
theorem Tp7_Ff {n : Nat} {b : Nat → Nat} {σ σ' : ZI} (h : Ff σ σ') (q : Tp7 n b σ) : Tp7 n b σ' := ⟨q.1, (h _ _ (by omega) (by omega)).trans q.2.1, fun i hi => ⟨(q.2.2 i hi).1, (h _ _ (by omega) (by omega)).trans (q.2.2 i hi).2⟩⟩
theorem T37_F7 (σ : ZI) (x k y : Int32) : F7 σ (T37 σ x k y) := fun c i h => by
  by_cases hc : c = 37
  · subst hc
    show tf (σ 37) x k y i = σ 37 i
    have : i ≠ 2 ∧ i ≠ 3 ∧ i ≠ 4 := by omega
    obtain ⟨a, b, c⟩ := this
    simp [tf, a, b, c]
  · show va_up σ 37 _ c i = _
    simp only [va_up, if_neg hc]
theorem ref7 (σ : ZI) (f : Nat) {q : Nat} (h : σ 37 4 = nI q) : ∃ σ', f_X2_refuse σ (nI f) = some (0, σ') ∧ Ff σ σ' ∧ flt f q σ' := by
  unfold f_X2_refuse
  rw [ltq, ltq]
  refine ⟨_, rfl, fun c i h1 h2 => ?_, ?_, ?_⟩
  · rw [up_ne _ (by omega), up_ne _ (by omega)]
  · rw [up_ne _ (.inr (by omega)), up_same]
  · rw [up_same, up_ne _ (.inl (by omega)), h]
theorem tt7 {n : Nat} {b : Nat → Nat} {p : Nat} {σ : ZI} (h : Tp7 n b σ) (hp : p ≤ n) (h2 : σ 37 2 = nI p) : (kk_ n b p = 0 → ∃ σ', f_X2_takeToken σ = some (0, σ') ∧ Ff σ σ' ∧ flt 1 (hd n b p) σ') ∧ (kk_ n b p ≠ 0 → ∃ σ', f_X2_takeToken σ = some (1, σ') ∧ F7 σ σ' ∧ At7 n b p σ') := by
  have kb := kk_le n b p
  unfold f_X2_takeToken
  rw [lex7 h hp h2, bso, show (T37 σ (nI (en n b p)) (nI (kk_ n b p)) (nI (hd n b p))) 37 3 = nI (kk_ n b p) from rfl]
  have f := T37_F7 σ (nI (en n b p)) (nI (kk_ n b p)) (nI (hd n b p))
  refine ⟨fun z => ?_, fun z => ?_⟩
  · obtain ⟨σ', r1, r2, r3⟩ := ref7 (T37 σ (nI (en n b p)) (nI (kk_ n b p)) (nI (hd n b p))) 1 (q := hd n b p) rfl
    rw [if_pos (by rw [z]; rfl), show f_X2_refuse (T37 σ (nI (en n b p)) (nI (kk_ n b p)) (nI (hd n b p))) 1 = _ from r1, bso]
    exact ⟨σ', rfl, Ff_tr (F7_Ff f) r2, r3⟩
  · rw [if_neg (nI_ne0 (by omega) (by omega))]
    exact ⟨_, rfl, f, Tp7_Ff (F7_Ff f) h, rfl, rfl, rfl⟩
theorem nr7 {n : Nat} {b : Nat → Nat} {p : Nat} {σ : ZI} (h : At7 n b p σ) (hp : p ≤ n) (hk : kk_ n b p = 2) : f_X5_numberRead σ = some (nI (VV n b p)) := by
  obtain ⟨a1, a2, a3, a4⟩ := h
  obtain ⟨h1, h2, h3⟩ := num_t hp hk
  have he := en_ge n b hp
  have n160 := a1.1
  have d0 := h3 0 (by omega)
  rw [Nat.add_zero] at d0
  unfold f_X5_numberRead
  rw [a4, by7' a1 h1, bso, a2, pk_sub he.1, show (48 : Int32) = nI 48 from rfl, pk_sub d0.1]
  unfold VV vv
  rcases h2 with z | z
  · rw [if_pos (by rw [z]; rfl), z, if_neg (by omega), if_pos rfl]
  · have d1 := h3 1 (by omega)
    rw [z, if_neg (show ¬ nI 2 = (1 : Int32) by decide), nI_1, by7' a1 (by omega), bso, show (10 : Int32) * nI (b (hd n b p) - 48) = nI (10 * (b (hd n b p) - 48)) from pk_mul 10 _, nI_add, pk_sub (by omega), if_neg (by omega), if_neg (by omega)]
    congr 2
    omega
theorem tn7 {n : Nat} {b : Nat → Nat} {p lo hi : Nat} {σ : ZI} (h : Tp7 n b σ) (hp : p ≤ n) (h2 : σ 37 2 = nI p) (hhi : hi ≤ 99) (hlo : lo ≤ 99) : (nf n b p lo hi ≠ 0 → ∃ σ', f_X2_takeNumber σ (nI lo) (nI hi) = some (-1, σ') ∧ Ff σ σ' ∧ flt (nf n b p lo hi) (hd n b p) σ') ∧ (nf n b p lo hi = 0 → ∃ σ', f_X2_takeNumber σ (nI lo) (nI hi) = some (nI (VV n b p), σ') ∧ F7 σ σ' ∧ At7 n b p σ') := by
  have kb := kk_le n b p
  obtain ⟨t1, t2⟩ := tt7 h hp h2
  unfold f_X2_takeNumber f_X2_takeNumber_46
  by_cases z : kk_ n b p = 0
  · obtain ⟨σ', r1, r2, r3⟩ := t1 z
    have e : nf n b p lo hi = 1 := by unfold nf; rw [if_pos z]
    rw [r1, bso, e]
    exact ⟨fun _ => ⟨σ', rfl, r2, r3⟩, fun w => absurd w (by omega)⟩
  · obtain ⟨s1, r1, r2, r3⟩ := t2 z
    rw [r1, bso]
    dsimp only
    rw [if_neg (by decide)]
    have f1 : ∀ f, ∃ σ', f_X2_refuse s1 (nI f) = some (0, σ') ∧ Ff σ σ' ∧ flt f (hd n b p) σ' := fun f => by
      obtain ⟨σ', x1, x2, x3⟩ := ref7 s1 f r3.2.2.2
      exact ⟨σ', x1, Ff_tr (F7_Ff r2) x2, x3⟩
    by_cases z2 : kk_ n b p = 2
    · have vb := VV_b hp z2
      rw [if_pos (by rw [r3.2.2.1, z2]; rfl), nr7 r3 hp z2, bso]
      by_cases w : VV n b p < lo ∨ hi < VV n b p
      · have e : nf n b p lo hi = 3 := by unfold nf; rw [if_neg z, if_neg (fun q => q z2), if_pos w]
        rw [e]
        refine ⟨fun _ => ?_, fun w => absurd w (by omega)⟩
        obtain ⟨σ', x1, x2, x3⟩ := f1 3
        refine ⟨σ', ?_, x2, x3⟩
        by_cases w1 : VV n b p < lo
        · rw [if_pos (nI_lt w1 (by omega)), show f_X2_refuse s1 3 = _ from x1, bso]
        · rw [if_neg (nI_nlt (by omega) (by omega)), if_neg (nI_ge (by omega) (by omega)), show f_X2_refuse s1 3 = _ from x1, bso]
      · have e : nf n b p lo hi = 0 := by unfold nf; rw [if_neg z, if_neg (fun q => q z2), if_neg w]
        rw [e]
        refine ⟨fun w => absurd rfl w, fun _ => ⟨s1, ?_, r2, r3⟩⟩
        rw [if_neg (nI_nlt (by omega) (by omega)), if_pos (nI_le (by omega) (by omega))]
    · have e : nf n b p lo hi = 2 := by unfold nf; rw [if_neg z, if_pos z2]
      rw [e, if_neg (show ¬ s1 37 3 = 2 from fun q => z2 (nI_inj (b := 2) (by omega) (by omega) (r3.2.2.1.symm.trans q)))]
      refine ⟨fun _ => ?_, fun w => absurd w (by omega)⟩
      obtain ⟨σ', x1, x2, x3⟩ := f1 2
      exact ⟨σ', by rw [show f_X2_refuse s1 2 = _ from x1, bso], x2, x3⟩
/-- the reference -/
def BR (f q : Nat) (σ : ZI) : Prop := σ 60 25 = nI f ∧ σ 60 26 = nI q
theorem fail8 {σ : ZI} (f : Nat) {q : Nat} (h0 : σ 60 25 = 0) (h : σ 60 28 = nI q) : ∃ σ', f_X8_fails σ (nI f) = some σ' ∧ Fr8 σ σ' ∧ BR f q σ' := by
  unfold f_X8_fails
  rw [if_pos h0, ltq, ltq]
  refine ⟨_, rfl, fun c i h1 => ?_, ?_, ?_⟩
  · rw [up_ne _ (by omega), up_ne _ (by omega)]
  · rw [up_ne _ (.inr (by omega)), up_same]
  · rw [up_same, up_ne _ (.inr (by omega)), h]
theorem fail8_b {σ : ZI} {f q : Nat} (hf : 1 ≤ f) (hf2 : f < 10) (h : BR f q σ) (g : Int32) : f_X8_fails σ g = some σ := by
  unfold f_X8_fails
  rw [h.1, if_neg (nI_ne0 (by omega) (by omega))]
theorem num8_b {σ : ZI} {f q : Nat} (hf : 1 ≤ f) (hf2 : f < 10) (h : BR f q σ) (lo hi : Int32) : f_X8_number σ lo hi = some (lo, σ) := by
  have z : ¬ σ 60 25 = 0 := by rw [h.1]; exact nI_ne0 (by omega) (by omega)
  unfold f_X8_number f_X8_number_20 f_X8_number_47 f_X8_number_62
  rw [if_neg z, if_neg z, if_neg z, step8_b hf hf2 h.1, bso]
theorem inN {v lo hi : Nat} (hv : v < 2 ^ 20) (hlo : lo < 2 ^ 20) (hhi : hi < 2 ^ 20) : f_X8_in (nI v).toInt64 (nI lo).toInt64 (nI hi).toInt64 = some (if v < lo ∨ hi < v then 0 else 1) := by
  rw [in_at _ _ (nI lo) (nI hi) rfl rfl]
  simp only [nI_ltI (show v < 2 ^ 31 by omega) (show lo < 2 ^ 31 by omega), nI_ltI (show hi < 2 ^ 31 by omega) (show v < 2 ^ 31 by omega)]
theorem num8 {n : Nat} {b : Nat → Nat} {p lo hi : Nat} {σ : ZI} (h : Tp8 n b σ) (hp : p ≤ n) (r : RY n b p σ) (hhi : hi ≤ 99) (hlo : lo ≤ 99) : (nf n b p lo hi ≠ 0 → ∃ σ', f_X8_number σ (nI lo) (nI hi) = some (nI lo, σ') ∧ Fr8 σ σ' ∧ BR (nf n b p lo hi) (hd n b p) σ') ∧ (nf n b p lo hi = 0 → ∃ σ', f_X8_number σ (nI lo) (nI hi) = some (nI (VV n b p), σ') ∧ Fr8 σ σ' ∧ RY n b (en n b p) σ') := by
  have kb := kk_le n b p
  have he := en_ge n b hp
  by_cases z : kk_ n b p = 0
  · have e : nf n b p lo hi = 1 := by unfold nf; rw [if_pos z]
    have br : BR 1 (hd n b p) σ := r.1 z
    rw [e]
    exact ⟨fun _ => ⟨σ, num8_b (by omega) (by omega) br _ _, Fr8_rf σ, br⟩, fun w => absurd w (by omega)⟩
  · obtain ⟨y0, y1, y2, y3, y4⟩ := r.2 z
    by_cases z2 : kk_ n b p = 2
    · have vb := VV_b hp z2
      have e30 : σ 60 30 = nI (VV n b p) := y4 z2
      by_cases w : VV n b p < lo ∨ hi < VV n b p
      · have e : nf n b p lo hi = 3 := by unfold nf; rw [if_neg z, if_neg (fun q => q z2), if_pos w]
        rw [e]
        refine ⟨fun _ => ?_, fun w => absurd w (by omega)⟩
        obtain ⟨σ', x1, x2, x3⟩ := fail8 3 y0 y1
        refine ⟨σ', ?_, x2, x3⟩
        have nz : ¬ σ' 60 25 = 0 := by rw [x3.1]; decide
        unfold f_X8_number f_X8_number_20 f_X8_number_47 f_X8_number_62
        rw [if_pos y0, if_pos (by rw [y3, z2]; rfl), if_pos y0, e30, inN (by omega) (by omega) (by omega), if_pos w, bso, if_pos rfl, show f_X8_fails σ 3 = _ from x1, bso, if_neg nz, step8_b (f := 3) (by omega) (by omega) x3.1, bso]
      · have e : nf n b p lo hi = 0 := by unfold nf; rw [if_neg z, if_neg (fun q => q z2), if_neg w]
        rw [e]
        refine ⟨fun w => absurd rfl w, fun _ => ?_⟩
        obtain ⟨σ', x1, x2, x3⟩ := step8 h he.2.1 y0 y2
        refine ⟨σ', ?_, x2, x3⟩
        unfold f_X8_number f_X8_number_20 f_X8_number_47 f_X8_number_62
        rw [if_pos y0, if_pos (by rw [y3, z2]; rfl), if_pos y0, e30, inN (by omega) (by omega) (by omega), if_neg w, bso, if_neg (by decide), if_pos y0, x1, bso]
    · have e : nf n b p lo hi = 2 := by unfold nf; rw [if_neg z, if_pos z2]
      rw [e]
      refine ⟨fun _ => ?_, fun w => absurd w (by omega)⟩
      obtain ⟨σ', x1, x2, x3⟩ := fail8 2 y0 y1
      refine ⟨σ', ?_, x2, x3⟩
      have nz : ¬ σ' 60 25 = 0 := by rw [x3.1]; decide
      have t2 : ¬ σ 60 29 = 2 := by
        rw [y3]
        intro q
        have := nI_inj (b := 2) (by unfold tk_; split <;> omega) (by omega) q
        unfold tk_ at this
        split at this <;> omega
      unfold f_X8_number f_X8_number_20 f_X8_number_47 f_X8_number_62
      rw [if_pos y0, if_neg t2, show f_X8_fails σ 2 = _ from x1, bso, if_neg nz, if_neg nz, step8_b (f := 2) (by omega) (by omega) x3.1, bso]
end
section
/-! joints, signs; what is read so far *-/
def sfa (n : Nat) (b : Nat → Nat) (p : Nat) : Nat := if kk_ n b p = 0 then 1 else if kk_ n b p ≠ 3 then 2 else 0
theorem ts7 {n : Nat} {b : Nat → Nat} {p : Nat} {σ : ZI} (h : Tp7 n b σ) (hp : p ≤ n) (h2 : σ 37 2 = nI p) : (sfa n b p ≠ 0 → ∃ σ', f_X2_takeSign σ = some (0, σ') ∧ Ff σ σ' ∧ flt (sfa n b p) (hd n b p) σ') ∧ (sfa n b p = 0 → ∃ σ', f_X2_takeSign σ = some (1, σ') ∧ F7 σ σ' ∧ At7 n b p σ') := by
  have kb := kk_le n b p
  obtain ⟨t1, t2⟩ := tt7 h hp h2
  unfold f_X2_takeSign
  by_cases z : kk_ n b p = 0
  · obtain ⟨σ', r1, r2, r3⟩ := t1 z
    have e : sfa n b p = 1 := by unfold sfa; rw [if_pos z]
    rw [r1, bso, e]
    exact ⟨fun _ => ⟨σ', rfl, r2, r3⟩, fun w => absurd w (by omega)⟩
  · obtain ⟨s1, r1, r2, r3⟩ := t2 z
    rw [r1, bso]
    dsimp only
    rw [if_neg (by decide)]
    by_cases z3 : kk_ n b p = 3
    · have e : sfa n b p = 0 := by unfold sfa; rw [if_neg z, if_neg (fun q => q z3)]
      rw [e, if_pos (by rw [r3.2.2.1, z3]; rfl)]
      exact ⟨fun w => absurd rfl w, fun _ => ⟨s1, rfl, r2, r3⟩⟩
    · have e : sfa n b p = 2 := by unfold sfa; rw [if_neg z, if_pos z3]
      rw [e, if_neg (show ¬ s1 37 3 = 3 from fun q => z3 (nI_inj (b := 3) (by omega) (by omega) (r3.2.2.1.symm.trans q)))]
      refine ⟨fun _ => ?_, fun w => absurd w (by omega)⟩
      obtain ⟨σ', x1, x2, x3⟩ := ref7 s1 2 r3.2.2.2
      exact ⟨σ', by rw [show f_X2_refuse s1 2 = _ from x1, bso]; rfl, Ff_tr (F7_Ff r2) x2, x3⟩
theorem tail8_b {σ : ZI} {f q : Nat} (hf : 1 ≤ f) (hf2 : f < 10) (h : BR f q σ) : f_X8_readLine_136 σ = some σ := by
  have z : ¬ σ 60 25 = 0 := by rw [h.1]; exact nI_ne0 (by omega) (by omega)
  unfold f_X8_readLine_136 f_X8_readLine_156
  rw [if_neg z, step8_b hf hf2 h.1, bso]
theorem tail8 {n : Nat} {b : Nat → Nat} {p : Nat} {σ : ZI} (h : Tp8 n b σ) (hp : p ≤ n) (r : RY n b p σ) : (sfa n b p ≠ 0 → ∃ σ', f_X8_readLine_136 σ = some σ' ∧ Fr8 σ σ' ∧ BR (sfa n b p) (hd n b p) σ') ∧ (sfa n b p = 0 → ∃ σ', f_X8_readLine_136 σ = some σ' ∧ Fr8 σ σ' ∧ RY n b (en n b p) σ') := by
  have kb := kk_le n b p
  have he := en_ge n b hp
  by_cases z : kk_ n b p = 0
  · have e : sfa n b p = 1 := by unfold sfa; rw [if_pos z]
    have br : BR 1 (hd n b p) σ := r.1 z
    rw [e]
    exact ⟨fun _ => ⟨σ, tail8_b (by omega) (by omega) br, Fr8_rf σ, br⟩, fun w => absurd w (by omega)⟩
  · obtain ⟨y0, y1, y2, y3, y4⟩ := r.2 z
    by_cases z3 : kk_ n b p = 3
    · have e : sfa n b p = 0 := by unfold sfa; rw [if_neg z, if_neg (fun q => q z3)]
      rw [e]
      refine ⟨fun w => absurd rfl w, fun _ => ?_⟩
      obtain ⟨σ', x1, x2, x3⟩ := step8 h he.2.1 y0 y2
      refine ⟨σ', ?_, x2, x3⟩
      unfold f_X8_readLine_136 f_X8_readLine_156
      rw [if_pos y0, if_pos (by rw [y3, z3]; rfl), x1, bso]
    · have e : sfa n b p = 2 := by unfold sfa; rw [if_neg z, if_pos z3]
      rw [e]
      refine ⟨fun _ => ?_, fun w => absurd w (by omega)⟩
      obtain ⟨σ', x1, x2, x3⟩ := fail8 2 y0 y1
      refine ⟨σ', ?_, x2, x3⟩
      have t3 : ¬ σ 60 29 = 3 := by
        rw [y3]
        intro q
        have := nI_inj (b := 3) (by unfold tk_; split <;> omega) (by omega) q
        unfold tk_ at this
        split at this <;> omega
      unfold f_X8_readLine_136 f_X8_readLine_156
      rw [if_pos y0, if_neg t3, show f_X8_fails σ 2 = _ from x1, bso, step8_b (f := 2) (by omega) (by omega) x3.1, bso]
/-- a joint, told already or not -/
def jc (n : Nat) (b : Nat → Nat) (p s : Nat) : Nat := if nf n b p 1 10 ≠ 0 then nf n b p 1 10 else if s.testBit (VV n b p - 1) = true then 4 else 0
def FrJ (σ σ' : ZI) : Prop := ∀ c i, ¬ (c = 60 ∧ (i = 21 ∨ (25 ≤ i ∧ i ≤ 30))) → σ' c i = σ c i
theorem Fr8_J {σ σ' : ZI} (h : Fr8 σ σ') : FrJ σ σ' := fun c i q => h c i (by omega)
theorem FrJ_tr {a b c : ZI} (h : FrJ a b) (h2 : FrJ b c) : FrJ a c := fun x i q => (h2 x i q).trans (h x i q)
theorem FrJ_sg {σ σ' : ZI} (h : FrJ σ σ') : Sg σ σ' := fun c i q _ => h c i (by
  rintro ⟨rfl, h1⟩
  have : i = 21 ∨ i = 25 ∨ i = 26 ∨ i = 27 ∨ i = 28 ∨ i = 29 ∨ i = 30 := by omega
  rcases this with rfl | rfl | rfl | rfl | rfl | rfl | rfl <;> exact q rfl)
theorem jc_le (n : Nat) (b : Nat → Nat) (p s : Nat) : jc n b p s ≤ 4 := by
  have := nf_le n b p 1 10
  unfold jc
  repeat' split
  all_goals omega
theorem jh8_b {σ : ZI} {f q : Nat} (hf : 1 ≤ f) (hf2 : f < 10) (h : BR f q σ) (s : Int32) : ∃ v σ', f_X8_jointHere σ s = some (nI v, σ') ∧ 1 ≤ v ∧ v ≤ 10 ∧ FrJ σ σ' ∧ BR f q σ' := by
  have z : ¬ σ 60 25 = 0 := by rw [h.1]; exact nI_ne0 (by omega) (by omega)
  unfold f_X8_jointHere f_X8_jointHere_49 f_X8_jointHere_74
  rw [if_neg z, num8_b hf hf2 h, bso]
  dsimp only
  refine ⟨1, if 1 ≤ σ 60 21 then va_up σ 60 (upd (σ 60) 21 (σ 60 21)) else va_up σ 60 (upd (σ 60) 21 1), ?_, by omega, by omega, fun c i h1 => ?_, ?_, ?_⟩
  · rw [ltq, ltq]
    split <;> rfl
  · split <;> exact up_ne _ (by omega)
  · split <;> exact (up_ne _ (.inr (by omega))).trans h.1
  · split <;> exact (up_ne _ (.inr (by omega))).trans h.2
theorem jh8 {n : Nat} {b : Nat → Nat} {p s : Nat} {σ : ZI} (h : Tp8 n b σ) (hp : p ≤ n) (r : RY n b p σ) (hs : s < 2 ^ 10) {HJ : Nat} (hj : HJ ≤ 10) (e21 : σ 60 21 = nI HJ) : (jc n b p s ≠ 0 → ∃ v σ', f_X8_jointHere σ (nI s) = some (nI v, σ') ∧ 1 ≤ v ∧ v ≤ 10 ∧ FrJ σ σ' ∧ BR (jc n b p s) (hd n b p) σ') ∧ (jc n b p s = 0 → ∃ σ', f_X8_jointHere σ (nI s) = some (nI (VV n b p), σ') ∧ FrJ σ σ' ∧ σ' 60 21 = nI (max HJ (VV n b p)) ∧ RY n b (en n b p) σ') := by
  have kb := kk_le n b p
  have he := en_ge n b hp
  -- what comes behind the number
  have fin : ∀ (v : Nat) (s1 : ZI), v ≤ 10 → s1 60 21 = nI HJ → ∃ σ', ((if nI v ≤ s1 60 21 then f_X8_jointHere_74 (nI s) s1 (nI v) (s1 60 21) else f_X8_jointHere_74 (nI s) s1 (nI v) (nI v)) : Option (Int32 × ZI)) = some (nI v, σ') ∧ σ' = va_up s1 60 (upd (s1 60) 21 (nI (max HJ v))) := by
    intro v s1 hv e
    refine ⟨_, ?_, rfl⟩
    unfold f_X8_jointHere_74
    rw [e, ltq, ltq]
    by_cases z : v ≤ HJ
    · rw [if_pos (nI_le z (by omega)), show max HJ v = HJ by omega]
    · rw [if_neg (nI_ge (by omega) (by omega)), show max HJ v = v by omega]
  obtain ⟨n1, n2⟩ := num8 (lo := 1) (hi := 10) h hp r (by omega) (by omega)
  by_cases z : kk_ n b p = 0
  · have br : BR 1 (hd n b p) σ := r.1 z
    have e : jc n b p s = 1 := by
      unfold jc
      have : nf n b p 1 10 = 1 := by unfold nf; rw [if_pos z]
      rw [if_pos (by omega), this]
    rw [e]
    exact ⟨fun _ => jh8_b (by omega) (by omega) br _, fun w => absurd w (by omega)⟩
  · obtain ⟨y0, y1, y2, y3, y4⟩ := r.2 z
    have plain : f_X8_jointHere σ (nI s) = f_X8_jointHere_49 (nI s) σ → (jc n b p s ≠ 0 → jc n b p s = nf n b p 1 10) → (jc n b p s = 0 → nf n b p 1 10 = 0) → (jc n b p s ≠ 0 → ∃ v σ', f_X8_jointHere σ (nI s) = some (nI v, σ') ∧ 1 ≤ v ∧ v ≤ 10 ∧ FrJ σ σ' ∧ BR (jc n b p s) (hd n b p) σ') ∧ (jc n b p s = 0 → ∃ σ', f_X8_jointHere σ (nI s) = some (nI (VV n b p), σ') ∧ FrJ σ σ' ∧ σ' 60 21 = nI (max HJ (VV n b p)) ∧ RY n b (en n b p) σ') := by
      intro e0 e1 e2
      rw [e0]
      unfold f_X8_jointHere_49
      refine ⟨fun w => ?_, fun w => ?_⟩
      · obtain ⟨s1, x1, x2, x3⟩ := n1 (by rw [← e1 w]; exact w)
        obtain ⟨σ', f1, f2⟩ := fin 1 s1 (by omega) ((x2 _ _ (by omega)).trans e21)
        refine ⟨1, σ', ?_, by omega, by omega, ?_, ?_⟩
        · rw [show f_X8_number σ 1 10 = _ from x1, bso]; exact f1
        · rw [f2]; exact FrJ_tr (Fr8_J x2) fun c i q => up_ne _ (by omega)
        · rw [f2, e1 w]; exact ⟨(up_ne _ (.inr (by omega))).trans x3.1, (up_ne _ (.inr (by omega))).trans x3.2⟩
      · have nz := nf_0 (e2 w)
        obtain ⟨s1, x1, x2, x3⟩ := n2 (e2 w)
        obtain ⟨σ', f1, f2⟩ := fin (VV n b p) s1 nz.2.2 ((x2 _ _ (by omega)).trans e21)
        refine ⟨σ', ?_, ?_, ?_, ?_⟩
        · rw [show f_X8_number σ 1 10 = _ from x1, bso]; exact f1
        · rw [f2]; exact FrJ_tr (Fr8_J x2) fun c i q => up_ne _ (by omega)
        · rw [f2, up_same]
        · rw [f2]
          obtain ⟨u1, u2⟩ := x3
          refine ⟨fun q => ?_, fun q => ?_⟩
          · obtain ⟨w1, w2⟩ := u1 q
            exact ⟨(up_ne _ (.inr (by omega))).trans w1, (up_ne _ (.inr (by omega))).trans w2⟩
          · obtain ⟨w1, w2, w3, w4, w5⟩ := u2 q
            exact ⟨(up_ne _ (.inr (by omega))).trans w1, (up_ne _ (.inr (by omega))).trans w2, (up_ne _ (.inr (by omega))).trans w3, (up_ne _ (.inr (by omega))).trans w4, fun q2 => (up_ne _ (.inr (by omega))).trans (w5 q2)⟩
    by_cases z2 : kk_ n b p = 2
    · have vb := VV_b hp z2
      have e30 : σ 60 30 = nI (VV n b p) := y4 z2
      have t2 : σ 60 29 = 2 := by rw [y3, z2]; rfl
      by_cases w : VV n b p < 1 ∨ 10 < VV n b p
      · have en3 : nf n b p 1 10 = 3 := by unfold nf; rw [if_neg z, if_neg (fun q => q z2), if_pos w]
        refine plain ?_ (fun _ => by unfold jc; rw [if_pos (by omega)]) (fun q => absurd q (by unfold jc; rw [if_pos (by omega)]; omega))
        unfold f_X8_jointHere
        rw [if_pos y0, if_pos t2, e30, show f_X8_in (nI (VV n b p)).toInt64 1 10 = _ from inN (lo := 1) (hi := 10) (by omega) (by omega) (by omega), if_pos w, bso, if_pos rfl]
      · have en0 : nf n b p 1 10 = 0 := by unfold nf; rw [if_neg z, if_neg (fun q => q z2), if_neg w]
        obtain ⟨v, hv⟩ : ∃ v, VV n b p = v + 1 := ⟨VV n b p - 1, by omega⟩
        have pre : f_X8_jointHere σ (nI s) = if s.testBit (VV n b p - 1) = true then (f_X8_fails σ 4).bind fun q4 => f_X8_jointHere_49 (nI s) q4 else f_X8_jointHere_49 (nI s) σ := by
          unfold f_X8_jointHere
          rw [if_pos y0, if_pos t2, e30, show f_X8_in (nI (VV n b p)).toInt64 1 10 = _ from inN (lo := 1) (hi := 10) (by omega) (by omega) (by omega), if_neg w, bso, if_neg (by decide), hv, nI_pred, show v + 1 - 1 = v by omega]
          by_cases y : s.testBit v = true
          · rw [if_pos ((bt1 (by omega) (by omega)).mpr y), if_pos y]
          · rw [if_neg (fun q => y ((bt1 (by omega) (by omega)).mp q)), if_neg y]
        by_cases y : s.testBit (VV n b p - 1) = true
        · have e : jc n b p s = 4 := by unfold jc; rw [if_neg (by omega), if_pos y]
          rw [e]
          refine ⟨fun _ => ?_, fun q => absurd q (by omega)⟩
          obtain ⟨s1, x1, x2, x3⟩ := fail8 4 y0 y1
          obtain ⟨σ', f1, f2⟩ := fin 1 s1 (by omega) ((x2 _ _ (by omega)).trans e21)
          refine ⟨1, σ', ?_, by omega, by omega, ?_, ?_⟩
          · rw [pre, if_pos y, show f_X8_fails σ 4 = _ from x1, bso]
            unfold f_X8_jointHere_49
            rw [num8_b (f := 4) (by omega) (by omega) x3, bso]
            exact f1
          · rw [f2]; exact FrJ_tr (Fr8_J x2) fun c i q => up_ne _ (by omega)
          · rw [f2]; exact ⟨(up_ne _ (.inr (by omega))).trans x3.1, (up_ne _ (.inr (by omega))).trans x3.2⟩
        · have e : jc n b p s = 0 := by unfold jc; rw [if_neg (by omega), if_neg y]
          exact plain (by rw [pre, if_neg y]) (fun q => absurd e q) (fun _ => en0)
    · have en2 : nf n b p 1 10 = 2 := by unfold nf; rw [if_neg z, if_pos z2]
      have t2 : ¬ σ 60 29 = 2 := by
        rw [y3]
        intro q
        have := nI_inj (b := 2) (by unfold tk_; split <;> omega) (by omega) q
        unfold tk_ at this
        split at this <;> omega
      refine plain ?_ (fun _ => by unfold jc; rw [if_pos (by omega)]) (fun q => absurd q (by unfold jc; rw [if_pos (by omega)]; omega))
      unfold f_X8_jointHere
      rw [if_pos y0, if_neg t2]
end
section
/-! what is told so far, on both sides; lines of single numbers *-/
def TD (D : NN) : Prop := (2 ≤ D 0 0 ∧ D 0 0 ≤ 10 ∧ D 0 1 ≤ 3 ∧ D 0 2 ≤ 3 ∧ D 0 3 ≤ 5 ∧ D 0 4 < 2 ^ 10 ∧ D 0 5 ≤ 10 ∧ D 0 6 ≤ 10 ∧ 1 ≤ D 0 7 ∧ D 0 7 ≤ 9 ∧ 1 ≤ D 0 8 ∧ D 0 8 ≤ 10 ∧ D 0 8 < D 0 9 ∧ D 0 9 ≤ 11 ∧ D 0 10 ≤ 9 ∧ D 0 11 ≤ 9 ∧ 1 ≤ D 0 12 ∧ D 0 12 ≤ 9) ∧
  (∀ i, i < D 0 1 → D 1 i ≤ 4 ∧ 1 ≤ D 2 i ∧ D 2 i ≤ 10 ∧ D 3 i ≤ 9) ∧ (∀ i k, i < D 0 1 → k < D 0 1 → D 2 i = D 2 k → i = k) ∧
  (∀ m, m < D 0 2 → 1 ≤ D 4 m ∧ D 4 m ≤ 10 ∧ D 5 m ≤ 10) ∧ (∀ i k, i < D 0 2 → k < D 0 2 → D 4 i = D 4 k → i = k) ∧
  (∀ i, i < D 0 3 → D 6 i ≤ 99 ∧ D 7 i ≤ 9)
def LK (D : NN) (AT MT HJ : Nat) : Prop := AT < 2 ^ 10 ∧ MT < 2 ^ 10 ∧ HJ ≤ 10 ∧ (∀ j, j < 10 → (AT.testBit j = true ↔ ∃ i, i < D 0 1 ∧ D 2 i = j + 1)) ∧ (∀ j, j < 10 → (MT.testBit j = true ↔ ∃ i, i < D 0 2 ∧ D 4 i = j + 1)) ∧ (∀ J, HJ ≤ J ↔ (D 0 5 ≤ J ∧ (∀ i, i < D 0 1 → D 2 i ≤ J) ∧ (∀ i, i < D 0 2 → D 4 i ≤ J) ∧ ∀ j, j < 10 → (D 0 4).testBit j = true → j + 1 ≤ J))
def CSb (n : Nat) (b : Nat → Nat) (p : Nat) (D : NN) (σ : ZI) : Prop := Tp7 n b σ ∧ σ 37 2 = nI p ∧ σ 39 3 = 0 ∧ TV 28 D σ
def PgD (D : NN) (σ : ZI) : Prop := (∀ i, i < D 0 1 → σ 66 i = nI (D 1 i)) ∧ (∀ i, i < D 0 2 → σ 66 (3 + i) = nI (D 5 i)) ∧ (∀ i, i < D 0 3 → σ 66 (6 + i) = nI (D 6 i)) ∧ σ 66 11 = nI (D 0 4) ∧ σ 66 12 = nI (D 0 5) ∧ σ 66 13 = nI (D 0 6) - nI 1 ∧ σ 66 14 = nI (D 0 7) - nI 5 ∧ σ 66 15 = nI (D 0 8) - nI 2 ∧ σ 66 16 = nI (D 0 9) - nI 4 ∧ σ 66 17 = nI (D 0 12) - nI 3
def RgD (D : NN) (σ : ZI) : Prop := σ 60 14 = nI (D 0 0) ∧ σ 60 15 = nI (D 0 1) ∧ σ 60 16 = nI (D 0 2) ∧ σ 60 17 = nI (D 0 3) ∧ σ 70 0 = nI (D 0 10) ∧ σ 70 1 = nI (D 0 11)
def RwD (D : NN) (σ : ZI) : Prop := (∀ i, i < D 0 1 → σ 67 (2 * i) = nI (D 2 i) ∧ σ 67 (2 * i + 1) = nI (D 3 i)) ∧ (∀ i, i < D 0 2 → σ 68 i = nI (D 4 i)) ∧ (∀ i, i < D 0 3 → σ 69 i = nI (D 7 i))
def RSb (n : Nat) (b : Nat → Nat) (D : NN) (AT MT HJ : Nat) (σ : ZI) : Prop := Tp8 n b σ ∧ InvK σ ∧ PgD D σ ∧ RgD D σ ∧ RwD D σ ∧ σ 60 19 = nI AT ∧ σ 60 20 = nI MT ∧ σ 60 21 = nI HJ
theorem RSb_fr {n : Nat} {b : Nat → Nat} {D : NN} {AT MT HJ : Nat} {σ σ' : ZI} (h : Fr8 σ σ') (q : RSb n b D AT MT HJ σ) : RSb n b D AT MT HJ σ' := by
  obtain ⟨a1, a2, ⟨b1, b2, b3, b4, b5, b6, b7, b8, b9, b10⟩, ⟨c1, c2, c3, c4, c5, c6⟩, ⟨d1, d2, d3⟩, e1, e2, e3⟩ := q
  have g : ∀ c i, c ≠ 60 → σ' c i = σ c i := fun c i z => h c i (by omega)
  have g6 : ∀ i, i < 25 → σ' 60 i = σ 60 i := fun i z => h 60 i (by omega)
  exact ⟨Tp8_fr h a1, ⟨fun i hi => (g _ _ (by omega)).trans (a2.1 i hi), fun i hi => (g _ _ (by omega)).trans (a2.2 i hi)⟩, ⟨fun i hi => (g _ _ (by omega)).trans (b1 i hi), fun i hi => (g _ _ (by omega)).trans (b2 i hi), fun i hi => (g _ _ (by omega)).trans (b3 i hi), (g _ _ (by omega)).trans b4, (g _ _ (by omega)).trans b5, (g _ _ (by omega)).trans b6, (g _ _ (by omega)).trans b7, (g _ _ (by omega)).trans b8, (g _ _ (by omega)).trans b9, (g _ _ (by omega)).trans b10⟩, ⟨(g6 _ (by omega)).trans c1, (g6 _ (by omega)).trans c2, (g6 _ (by omega)).trans c3, (g6 _ (by omega)).trans c4, (g _ _ (by omega)).trans c5, (g _ _ (by omega)).trans c6⟩, ⟨fun i hi => ⟨(g _ _ (by omega)).trans (d1 i hi).1, (g _ _ (by omega)).trans (d1 i hi).2⟩, fun i hi => (g _ _ (by omega)).trans (d2 i hi), fun i hi => (g _ _ (by omega)).trans (d3 i hi)⟩, (g6 _ (by omega)).trans e1, (g6 _ (by omega)).trans e2, (g6 _ (by omega)).trans e3⟩
theorem RSb_J {n : Nat} {b : Nat → Nat} {D : NN} {AT MT HJ H : Nat} {σ σ' : ZI} (h : FrJ σ σ') (h2 : σ' 60 21 = nI H) (q : RSb n b D AT MT HJ σ) : RSb n b D AT MT H σ' := by
  obtain ⟨a1, a2, ⟨b1, b2, b3, b4, b5, b6, b7, b8, b9, b10⟩, ⟨c1, c2, c3, c4, c5, c6⟩, ⟨d1, d2, d3⟩, e1, e2, e3⟩ := q
  have g : ∀ c i, c ≠ 60 → σ' c i = σ c i := fun c i z => h c i (by omega)
  have g6 : ∀ i, i < 25 → i ≠ 21 → σ' 60 i = σ 60 i := fun i z z2 => h 60 i (by omega)
  exact ⟨⟨a1.1, (g6 _ (by omega) (by omega)).trans a1.2.1, fun i hi => ⟨(a1.2.2 i hi).1, (g _ _ (by omega)).trans (a1.2.2 i hi).2⟩⟩, ⟨fun i hi => (g _ _ (by omega)).trans (a2.1 i hi), fun i hi => (g _ _ (by omega)).trans (a2.2 i hi)⟩, ⟨fun i hi => (g _ _ (by omega)).trans (b1 i hi), fun i hi => (g _ _ (by omega)).trans (b2 i hi), fun i hi => (g _ _ (by omega)).trans (b3 i hi), (g _ _ (by omega)).trans b4, (g _ _ (by omega)).trans b5, (g _ _ (by omega)).trans b6, (g _ _ (by omega)).trans b7, (g _ _ (by omega)).trans b8, (g _ _ (by omega)).trans b9, (g _ _ (by omega)).trans b10⟩, ⟨(g6 _ (by omega) (by omega)).trans c1, (g6 _ (by omega) (by omega)).trans c2, (g6 _ (by omega) (by omega)).trans c3, (g6 _ (by omega) (by omega)).trans c4, (g _ _ (by omega)).trans c5, (g _ _ (by omega)).trans c6⟩, ⟨fun i hi => ⟨(g _ _ (by omega)).trans (d1 i hi).1, (g _ _ (by omega)).trans (d1 i hi).2⟩, fun i hi => (g _ _ (by omega)).trans (d2 i hi), fun i hi => (g _ _ (by omega)).trans (d3 i hi)⟩, (g6 _ (by omega) (by omega)).trans e1, (g6 _ (by omega) (by omega)).trans e2, h2⟩
/-- what becomes of the two sides in the body of a line -/
def BO (kq n : Nat) (b : Nat → Nat) (p : Nat) (D : NN) (AT MT HJ : Nat) (cb : ZI → Option (Int32 × ZI)) (rb : ZI → Option ZI) : Prop :=
  (∃ f q, 1 ≤ f ∧ f < 10 ∧ q ≤ n ∧ (∀ σ, CSb n b p D σ → ∃ σ', cb σ = some (0, σ') ∧ Sg σ σ' ∧ flt f q σ') ∧ (∀ σ, RSb n b D AT MT HJ σ → RY n b p σ → ∃ σ', rb σ = some σ' ∧ Sg σ σ' ∧ BR f q σ')) ∨
  (∃ D' p' AT' MT' HJ', p ≤ p' ∧ p' ≤ n ∧ TD D' ∧ LK D' AT' MT' HJ' ∧ (kq ≠ 5 → D' 0 5 = D 0 5) ∧ (∀ σ, CSb n b p D σ → ∃ σ', cb σ = some (1, σ') ∧ Sg σ σ' ∧ CSb n b p' D' σ' ∧ σ' 39 2 = σ 39 2) ∧ (∀ σ, RSb n b D AT MT HJ σ → RY n b p σ → ∃ σ', rb σ = some σ' ∧ Sg σ σ' ∧ RSb n b D' AT' MT' HJ' σ' ∧ RY n b p' σ' ∧ σ' 60 18 = σ 60 18))
theorem TV_r {D : NN} {σ : ZI} {b k v : Nat} (hk : k ≠ 1 ∧ k ≠ 2 ∧ k ≠ 3) (q : TV b D σ) : TV b (tset D 0 k v) (va_up σ (b + 1) (upd (σ (b + 1)) k (nI v))) := by
  obtain ⟨q1, q2, q3, q4⟩ := q
  have e1 : tset D 0 k v 0 1 = D 0 1 := tset_ne D (.inr (by omega))
  have e2 : tset D 0 k v 0 2 = D 0 2 := tset_ne D (.inr (by omega))
  have e3 : tset D 0 k v 0 3 = D 0 3 := tset_ne D (.inr (by omega))
  refine ⟨fun i hi => ?_, fun i hi => ?_, fun i hi => ?_, fun i hi => ?_⟩
  · by_cases h : i = k
    · subst h; rw [up_same, tset_same]
    · rw [up_ne σ (.inr h), tset_ne D (.inr h)]; exact q1 i hi
  · rw [e1] at hi
    rw [up_ne σ (.inl (by omega)), up_ne σ (.inl (by omega)), up_ne σ (.inl (by omega))]
    exact q2 i hi
  · rw [e2] at hi
    rw [up_ne σ (.inl (by omega)), up_ne σ (.inl (by omega))]
    exact q3 i hi
  · rw [e3] at hi
    rw [up_ne σ (.inl (by omega)), up_ne σ (.inl (by omega))]
    exact q4 i hi
theorem CSb_F7 {n : Nat} {b : Nat → Nat} {p p' : Nat} {D : NN} {σ σ' : ZI} (h : F7 σ σ') (h2 : σ' 37 2 = nI p') (q : CSb n b p D σ) : CSb n b p' D σ' := ⟨Tp7_Ff (F7_Ff h) q.1, h2, (h _ _ (by omega)).trans q.2.2.1, TV_fr (fun r i _ _ => h _ _ (by omega)) q.2.2.2⟩
theorem up_sg {k : Nat} {σ σ' : ZI} {c p : Nat} {v : Int32} (h : Dw k σ σ') (hc : own c p = 0) : Dw k σ (va_up σ' c (upd (σ' c) p v)) := Dw_up h (.inl hc)
theorem CSb_set {n : Nat} {b : Nat → Nat} {p : Nat} {D D' : NN} {σ : ZI} {c i : Nat} {v : Int32} (hc : 29 ≤ c ∧ c ≤ 36) (q : CSb n b p D σ) (h : TV 28 D' (va_up σ c (upd (σ c) i v))) : CSb n b p D' (va_up σ c (upd (σ c) i v)) := by
  obtain ⟨⟨a1, a2, a3⟩, b1, c1, d1⟩ := q
  exact ⟨⟨a1, (up_ne σ (.inl (by omega))).trans a2, fun i hi => ⟨(a3 i hi).1, (up_ne σ (.inl (by omega))).trans (a3 i hi).2⟩⟩, (up_ne σ (.inl (by omega))).trans b1, (up_ne σ (.inl (by omega))).trans c1, h⟩
theorem own_d {c : Nat} (i : Nat) (h : 28 ≤ c) (h2 : c ≤ 36) : own c i = 0 := by
  unfold own
  rw [if_neg (by omega), if_neg (by omega), if_neg (by omega), if_pos h2]
/-- one number of a line -/
theorem rl7 {n : Nat} {b : Nat → Nat} {p : Nat} {D : NN} {σ : ZI} (h : CSb n b p D σ) (hp : p ≤ n) {r lo hi : Nat} (hr : r < 13) (hr1 : r ≠ 1 ∧ r ≠ 2 ∧ r ≠ 3) (hlo : lo ≤ 99) (hhi : hi ≤ 99) (e1 : r ≠ 9 → f_X7_atS 101 (nI r) = some (nI lo)) (e9 : r = 9 → lo = D 0 8 + 1) (e2 : f_X7_atS 102 (nI r) = some (nI hi)) : (nf n b p lo hi ≠ 0 → ∃ σ', f_X2_readRule σ (nI r) = some (0, σ') ∧ Sg σ σ' ∧ flt (nf n b p lo hi) (hd n b p) σ') ∧ (nf n b p lo hi = 0 → ∃ σ', f_X2_readRule σ (nI r) = some (1, σ') ∧ Sg σ σ' ∧ CSb n b (en n b p) (tset D 0 r (VV n b p)) σ' ∧ σ' 39 2 = σ 39 2) := by
  have e0 : f_X2_readRule σ (nI r) = f_X2_readRule_27 (nI r) σ (nI lo) := by
    unfold f_X2_readRule
    by_cases z : r = 9
    · subst z
      rw [if_pos (show nI 9 = (9 : Int32) from rfl), v28_8, bso, show σ 29 8 = _ from h.2.2.2.1 8 (by omega), nI_1, ← e9 rfl]
    · rw [if_neg (show ¬ nI r = (9 : Int32) from fun q => z (nI_inj (b := 9) (by omega) (by omega) q)), e1 z, bso]
  obtain ⟨t1, t2⟩ := tn7 (lo := lo) (hi := hi) h.1 hp h.2.1 hhi hlo
  rw [e0]
  unfold f_X2_readRule_27
  rw [e2, bso]
  refine ⟨fun z => ?_, fun z => ?_⟩
  · obtain ⟨σ', x1, x2, x3⟩ := t1 z
    exact ⟨σ', by rw [x1, bso, if_pos rfl], Ff_sg x2, x3⟩
  · obtain ⟨s1, x1, x2, x3⟩ := t2 z
    have nz := nf_0 z
    have vb := VV_b hp nz.1
    have nm : ¬ nI (VV n b p) = -1 := by
      intro q
      have : (nI (VV n b p)).toInt = (-1 : Int32).toInt := by rw [q]
      rw [nI_toInt (by omega)] at this
      have e : (-1 : Int32).toInt = -1 := rfl
      omega
    have c1 := CSb_F7 x2 x3.2.1 h
    rw [x1, bso]
    dsimp only
    rw [if_neg nm, bec_n (b := 28) rfl rfl hr, bso]
    refine ⟨_, rfl, up_sg (Ff_sg (F7_Ff x2)) (own_d _ (by omega) (by omega)), CSb_set (c := 29) (by omega) c1 (TV_r (b := 28) hr1 c1.2.2.2), ?_⟩
    exact (up_ne s1 (.inl (by omega))).trans (x2 39 2 (by omega))
/-- where the reference has a rule while it reads -/
def rt (r c p e : Nat) : Prop := (r = 0 ∧ c = 60 ∧ p = 14 ∧ e = 0) ∨ (r = 4 ∧ c = 66 ∧ p = 11 ∧ e = 0) ∨ (r = 5 ∧ c = 66 ∧ p = 12 ∧ e = 0) ∨ (r = 6 ∧ c = 66 ∧ p = 13 ∧ e = 1) ∨ (r = 7 ∧ c = 66 ∧ p = 14 ∧ e = 5) ∨ (r = 8 ∧ c = 66 ∧ p = 15 ∧ e = 2) ∨ (r = 9 ∧ c = 66 ∧ p = 16 ∧ e = 4) ∨ (r = 12 ∧ c = 66 ∧ p = 17 ∧ e = 3) ∨ (r = 10 ∧ c = 70 ∧ p = 0 ∧ e = 0) ∨ (r = 11 ∧ c = 70 ∧ p = 1 ∧ e = 0)
theorem rt_1 {r c p e R C P E : Nat} (h : rt r c p e) (h2 : rt R C P E) : R = r → C = c ∧ P = p ∧ E = e := by
  intro q
  rcases h with h | h | h | h | h | h | h | h | h | h <;> rcases h2 with h2 | h2 | h2 | h2 | h2 | h2 | h2 | h2 | h2 | h2 <;> omega
theorem rt_2 {r c p e R C P E : Nat} (h : rt r c p e) (h2 : rt R C P E) : R ≠ r → C ≠ c ∨ P ≠ p := by
  intro q
  rcases h with h | h | h | h | h | h | h | h | h | h <;> rcases h2 with h2 | h2 | h2 | h2 | h2 | h2 | h2 | h2 | h2 | h2 <;> omega
theorem rt_c {r c p e : Nat} (h : rt r c p e) : (c = 60 ∧ p = 14) ∨ (c = 66 ∧ 11 ≤ p ∧ p ≤ 17) ∨ (c = 70 ∧ p ≤ 1) := by
  rcases h with h | h | h | h | h | h | h | h | h | h <;> omega
theorem rt_r {r c p e : Nat} (h : rt r c p e) : r < 13 ∧ r ≠ 1 ∧ r ≠ 2 ∧ r ≠ 3 := by
  rcases h with h | h | h | h | h | h | h | h | h | h <;> omega
theorem RSb_rule {n : Nat} {b : Nat → Nat} {D : NN} {AT MT HJ : Nat} {σ : ZI} {r c p e v : Nat} (hr : rt r c p e) (hD : TB D) (q : RSb n b D AT MT HJ σ) : RSb n b (tset D 0 r v) AT MT HJ (va_up σ c (upd (σ c) p (nI v - nI e))) := by
  obtain ⟨a1, a2, ⟨b1, b2, b3, b4, b5, b6, b7, b8, b9, b10⟩, ⟨c1, c2, c3, c4, c5, c6⟩, ⟨d1, d2, d3⟩, f1, f2, f3⟩ := q
  obtain ⟨m1, m2, m3⟩ := hD
  have hc := rt_c hr
  have hr1 := (rt_r hr).2
  have g : ∀ C P, (C ≠ c ∨ P ≠ p) → va_up σ c (upd (σ c) p (nI v - nI e)) C P = σ C P := fun C P h => up_ne σ h
  have B : ∀ R C P E : Nat, rt R C P E → σ C P = nI (D 0 R) - nI E → va_up σ c (upd (σ c) p (nI v - nI e)) C P = nI (tset D 0 r v 0 R) - nI E := by
    intro R C P E hR h
    by_cases hh : R = r
    · have := rt_1 hr hR hh
      subst hh
      rw [this.1, this.2.1, this.2.2, up_same, tset_same]
    · rw [g C P (rt_2 hr hR hh), tset_ne D (.inr hh)]
      exact h
  have e1 : tset D 0 r v 0 1 = D 0 1 := tset_ne D (.inr (Ne.symm hr1.1))
  have e2 : tset D 0 r v 0 2 = D 0 2 := tset_ne D (.inr (Ne.symm hr1.2.1))
  have e3 : tset D 0 r v 0 3 = D 0 3 := tset_ne D (.inr (Ne.symm hr1.2.2))
  have gA : ∀ C P, C ≠ 60 → C ≠ 66 → C ≠ 70 → va_up σ c (upd (σ c) p (nI v - nI e)) C P = σ C P := fun C P z1 z2 z3 => g C P (.inl (by rcases hc with w | w | w <;> rw [w.1] <;> assumption))
  have gB : ∀ P, P ≠ 14 → va_up σ c (upd (σ c) p (nI v - nI e)) 60 P = σ 60 P := fun P z => g 60 P (by
    rcases hc with w | w | w
    · exact .inr (by rw [w.2]; exact z)
    · exact .inl (by rw [w.1]; decide)
    · exact .inl (by rw [w.1]; decide))
  have gC : ∀ P, P < 11 → va_up σ c (upd (σ c) p (nI v - nI e)) 66 P = σ 66 P := fun P z => g 66 P (by
    rcases hc with w | w | w
    · exact .inl (by rw [w.1]; decide)
    · exact .inr (by omega)
    · exact .inl (by rw [w.1]; decide))
  have B0 : ∀ R C P : Nat, rt R C P 0 → σ C P = nI (D 0 R) → va_up σ c (upd (σ c) p (nI v - nI e)) C P = nI (tset D 0 r v 0 R) := fun R C P hR h => by
    have := B R C P 0 hR (by rw [i_sub0]; exact h)
    rw [i_sub0] at this; exact this
  clear hc hr1 g hr
  have pg : PgD (tset D 0 r v) (va_up σ c (upd (σ c) p (nI v - nI e))) := by
    refine ⟨fun i hi => ?_, fun i hi => ?_, fun i hi => ?_, B0 4 66 11 (by unfold rt; decide) b4, B0 5 66 12 (by unfold rt; decide) b5, B 6 66 13 1 (by unfold rt; decide) b6, B 7 66 14 5 (by unfold rt; decide) b7, B 8 66 15 2 (by unfold rt; decide) b8, B 9 66 16 4 (by unfold rt; decide) b9, B 12 66 17 3 (by unfold rt; decide) b10⟩
    · rw [e1] at hi; exact (gC _ (by omega)).trans (b1 i hi)
    · rw [e2] at hi; exact (gC _ (by omega)).trans (b2 i hi)
    · rw [e3] at hi; exact (gC _ (by omega)).trans (b3 i hi)
  have rg : RgD (tset D 0 r v) (va_up σ c (upd (σ c) p (nI v - nI e))) := by
    refine ⟨B0 0 60 14 (by unfold rt; decide) c1, ?_, ?_, ?_, B0 10 70 0 (by unfold rt; decide) c5, B0 11 70 1 (by unfold rt; decide) c6⟩
    · rw [e1]; exact (gB _ (by decide)).trans c2
    · rw [e2]; exact (gB _ (by decide)).trans c3
    · rw [e3]; exact (gB _ (by decide)).trans c4
  have rw_ : RwD (tset D 0 r v) (va_up σ c (upd (σ c) p (nI v - nI e))) := by
    refine ⟨fun i hi => ?_, fun i hi => ?_, fun i hi => ?_⟩
    · rw [e1] at hi; exact ⟨(gA _ _ (by decide) (by decide) (by decide)).trans (d1 i hi).1, (gA _ _ (by decide) (by decide) (by decide)).trans (d1 i hi).2⟩
    · rw [e2] at hi; exact (gA _ _ (by decide) (by decide) (by decide)).trans (d2 i hi)
    · rw [e3] at hi; exact (gA _ _ (by decide) (by decide) (by decide)).trans (d3 i hi)
  exact ⟨⟨a1.1, (gB _ (by decide)).trans a1.2.1, fun i hi => ⟨(a1.2.2 i hi).1, (gA _ _ (by decide) (by decide) (by decide)).trans (a1.2.2 i hi).2⟩⟩, ⟨fun i hi => (gA _ _ (by decide) (by decide) (by decide)).trans (a2.1 i hi), fun i hi => (gA _ _ (by decide) (by decide) (by decide)).trans (a2.2 i hi)⟩, pg, rg, rw_, (gB _ (by decide)).trans f1, (gB _ (by decide)).trans f2, (gB _ (by decide)).trans f3⟩
theorem TD_TB {D : NN} (h : TD D) : TB D := ⟨by have := h.1; omega, by have := h.1; omega, by have := h.1; omega⟩
theorem RY_up {n : Nat} {b : Nat → Nat} {p : Nat} {σ : ZI} {c i : Nat} {v : Int32} (h : c ≠ 60 ∨ i < 25) (q : RY n b p σ) : RY n b p (va_up σ c (upd (σ c) i v)) := by
  have g : ∀ P, 25 ≤ P → va_up σ c (upd (σ c) i v) 60 P = σ 60 P := fun P hP => up_ne σ (by omega)
  refine ⟨fun z => ?_, fun z => ?_⟩
  · obtain ⟨a, c⟩ := q.1 z
    exact ⟨(g _ (by omega)).trans a, (g _ (by omega)).trans c⟩
  · obtain ⟨w1, w2, w3, w4, w5⟩ := q.2 z
    exact ⟨(g _ (by omega)).trans w1, (g _ (by omega)).trans w2, (g _ (by omega)).trans w3, (g _ (by omega)).trans w4, fun y => (g _ (by omega)).trans (w5 y)⟩
theorem BR_up {f q : Nat} {σ : ZI} {c i : Nat} {v : Int32} (h : c ≠ 60 ∨ i < 25) (z : BR f q σ) : BR f q (va_up σ c (upd (σ c) i v)) := ⟨(up_ne σ (by omega)).trans z.1, (up_ne σ (by omega)).trans z.2⟩
theorem rt_own {r c p e : Nat} (h : rt r c p e) : own c p = 0 := by
  rcases h with ⟨-, rfl, rfl, -⟩ | ⟨-, rfl, rfl, -⟩ | ⟨-, rfl, rfl, -⟩ | ⟨-, rfl, rfl, -⟩ | ⟨-, rfl, rfl, -⟩ | ⟨-, rfl, rfl, -⟩ | ⟨-, rfl, rfl, -⟩ | ⟨-, rfl, rfl, -⟩ | ⟨-, rfl, rfl, -⟩ | ⟨-, rfl, rfl, -⟩ <;> rfl
/-- one number on the reference's side, and put -/
theorem rr8 {n : Nat} {b : Nat → Nat} {p : Nat} {D : NN} {AT MT HJ : Nat} {σ : ZI} (h : RSb n b D AT MT HJ σ) (hp : p ≤ n) (y : RY n b p σ) (hD : TB D) {r c pl e lo hi : Nat} (hr : rt r c pl e) (hlo : lo ≤ 99) (hhi : hi ≤ 99) {α : Type} (K : ZI → Option α) : (nf n b p lo hi ≠ 0 → ∃ σ', ((f_X8_number σ (nI lo) (nI hi)).bind fun q => lt_ (va_up q.2 c (upd (q.2 c) pl (q.1 - nI e))) K) = K σ' ∧ Sg σ σ' ∧ BR (nf n b p lo hi) (hd n b p) σ') ∧ (nf n b p lo hi = 0 → ∃ σ', ((f_X8_number σ (nI lo) (nI hi)).bind fun q => lt_ (va_up q.2 c (upd (q.2 c) pl (q.1 - nI e))) K) = K σ' ∧ Sg σ σ' ∧ RSb n b (tset D 0 r (VV n b p)) AT MT HJ σ' ∧ RY n b (en n b p) σ' ∧ σ' 60 18 = σ 60 18) := by
  obtain ⟨t1, t2⟩ := num8 (lo := lo) (hi := hi) h.1 hp y hhi hlo
  have cp : c ≠ 60 ∨ pl < 25 := by unfold rt at hr; omega
  have cp2 : 60 ≠ c ∨ 18 ≠ pl := by unfold rt at hr; omega
  refine ⟨fun z => ?_, fun z => ?_⟩
  · obtain ⟨s1, x1, x2, x3⟩ := t1 z
    exact ⟨_, by rw [x1, bso, ltq], up_sg (FrJ_sg (Fr8_J x2)) (rt_own hr), BR_up cp x3⟩
  · obtain ⟨s1, x1, x2, x3⟩ := t2 z
    exact ⟨_, by rw [x1, bso, ltq], up_sg (FrJ_sg (Fr8_J x2)) (rt_own hr), RSb_rule hr hD (RSb_fr x2 h), RY_up cp x3, (up_ne s1 cp2).trans (x2 60 18 (by omega))⟩
theorem LK_rule {D : NN} {AT MT HJ r v : Nat} (hr : r ≠ 1 ∧ r ≠ 2 ∧ r ≠ 4 ∧ r ≠ 5) (h : LK D AT MT HJ) : LK (tset D 0 r v) AT MT HJ := by
  have e1 : tset D 0 r v 0 1 = D 0 1 := tset_ne D (.inr (by omega))
  have e2 : tset D 0 r v 0 2 = D 0 2 := tset_ne D (.inr (by omega))
  have e4 : tset D 0 r v 0 4 = D 0 4 := tset_ne D (.inr (by omega))
  have e5 : tset D 0 r v 0 5 = D 0 5 := tset_ne D (.inr (by omega))
  unfold LK
  rw [e1, e2, e4, e5]
  exact h
theorem TD_rule {D : NN} {r v : Nat} (hr : r = 0 ∨ (4 ≤ r ∧ r < 13)) (h : TD D) (hv : (r = 0 → 2 ≤ v ∧ v ≤ 10) ∧ (r = 4 → v < 2 ^ 10) ∧ (r = 5 → v ≤ 10) ∧ (r = 6 → v ≤ 10) ∧ (r = 7 → 1 ≤ v ∧ v ≤ 9) ∧ (r = 8 → 1 ≤ v ∧ v ≤ 10 ∧ v < D 0 9) ∧ (r = 9 → D 0 8 < v ∧ v ≤ 11) ∧ (r = 10 → v ≤ 9) ∧ (r = 11 → v ≤ 9) ∧ (r = 12 → 1 ≤ v ∧ v ≤ 9)) : TD (tset D 0 r v) := by
  obtain ⟨k1, k2, k3, k4, k5, k6⟩ := h
  have e1 : tset D 0 r v 0 1 = D 0 1 := tset_ne D (.inr (by omega))
  have e2 : tset D 0 r v 0 2 = D 0 2 := tset_ne D (.inr (by omega))
  have e3 : tset D 0 r v 0 3 = D 0 3 := tset_ne D (.inr (by omega))
  refine ⟨?_, by rw [e1]; exact k2, by rw [e1]; exact k3, by rw [e2]; exact k4, by rw [e2]; exact k5, by rw [e3]; exact k6⟩
  rw [e1, e2, e3]
  have hr2 : r = 0 ∨ r = 4 ∨ r = 5 ∨ r = 6 ∨ r = 7 ∨ r = 8 ∨ r = 9 ∨ r = 10 ∨ r = 11 ∨ r = 12 := by omega
  rcases hr2 with rfl | rfl | rfl | rfl | rfl | rfl | rfl | rfl | rfl | rfl <;> simp [tset] <;> simp at hv <;> omega
/-- a line of one number -/
theorem bo_1 {kq n : Nat} {b : Nat → Nat} {p : Nat} {D : NN} {AT MT HJ : Nat} (hp : p ≤ n) (tD : TD D) (lk : LK D AT MT HJ) {r c pl e lo hi : Nat} (hr : rt r c pl e) (hr9 : r ≠ 9 ∧ r ≠ 8 ∧ r ≠ 4 ∧ r ≠ 5) (hlo : lo ≤ 99) (hhi : hi ≤ 99) (e1 : f_X7_atS 101 (nI r) = some (nI lo)) (e2 : f_X7_atS 102 (nI r) = some (nI hi)) (hv : ∀ v, lo ≤ v → v ≤ hi → TD (tset D 0 r v)) {rb : ZI → Option ZI} (hrb : ∀ σ, rb σ = (f_X8_number σ (nI lo) (nI hi)).bind fun q => lt_ (va_up q.2 c (upd (q.2 c) pl (q.1 - nI e))) some) : BO kq n b p D AT MT HJ (fun σ => f_X2_readRule σ (nI r)) rb := by
  have hr13 : r < 13 ∧ r ≠ 1 ∧ r ≠ 2 ∧ r ≠ 3 := by unfold rt at hr; omega
  have he := en_ge n b hp
  have hh := hd_ge n b hp
  by_cases z : nf n b p lo hi = 0
  · have nz := nf_0 z
    refine .inr ⟨tset D 0 r (VV n b p), en n b p, AT, MT, HJ, by omega, he.2.1, hv _ nz.2.1 nz.2.2, LK_rule (by omega) lk, fun _ => tset_ne D (.inr (by omega)), fun σ h => ?_, fun σ h y => ?_⟩
    · exact (rl7 h hp hr13.1 hr13.2 hlo hhi (fun _ => e1) (fun w => absurd w hr9.1) e2).2 z
    · rw [hrb]; exact (rr8 h hp y (TD_TB tD) hr hlo hhi some).2 z
  · refine .inl ⟨nf n b p lo hi, hd n b p, by omega, by have := nf_le n b p lo hi; omega, hh.2, fun σ h => ?_, fun σ h y => ?_⟩
    · exact (rl7 h hp hr13.1 hr13.2 hlo hhi (fun _ => e1) (fun w => absurd w hr9.1) e2).1 z
    · rw [hrb]; exact (rr8 h hp y (TD_TB tD) hr hlo hhi some).1 z
end
section
/-! lines of two numbers, and the bridge *-/
/-- a line of two numbers -/
theorem bo_2 {kq n : Nat} {b : Nat → Nat} {p : Nat} {D : NN} {AT MT HJ : Nat} (hp : p ≤ n) (tD : TD D) (lk : LK D AT MT HJ) {r c pl e lo hi r2 c2 pl2 e2 hi2 : Nat} {lo2 : Nat → Nat} (hr : rt r c pl e) (hr2 : rt r2 c2 pl2 e2) (h4 : r ≠ 9 ∧ r ≠ 4 ∧ r ≠ 5) (h42 : r2 ≠ 4 ∧ r2 ≠ 5) (h9 : r2 = 9 → r = 8 ∧ ∀ v, lo2 v = v + 1) (hlo : lo ≤ 99) (hhi : hi ≤ 98) (hhi2 : hi2 ≤ 99) (hlo2 : ∀ v, v ≤ hi → lo2 v ≤ 99) (a1 : f_X7_atS 101 (nI r) = some (nI lo)) (a2 : f_X7_atS 102 (nI r) = some (nI hi)) (b1 : ∀ v, r2 ≠ 9 → f_X7_atS 101 (nI r2) = some (nI (lo2 v))) (b2 : f_X7_atS 102 (nI r2) = some (nI hi2)) (hv : ∀ v w, lo ≤ v → v ≤ hi → lo2 v ≤ w → w ≤ hi2 → TD (tset (tset D 0 r v) 0 r2 w)) {L : ZI → Int32} (hL : ∀ σ v, RSb n b (tset D 0 r v) AT MT HJ σ → L σ = nI (lo2 v)) {rb : ZI → Option ZI} (hrb : ∀ σ, rb σ = (f_X8_number σ (nI lo) (nI hi)).bind fun q => lt_ (va_up q.2 c (upd (q.2 c) pl (q.1 - nI e))) fun s => (f_X8_number s (L s) (nI hi2)).bind fun q => lt_ (va_up q.2 c2 (upd (q.2 c2) pl2 (q.1 - nI e2))) some) : BO kq n b p D AT MT HJ (fun σ => (f_X2_readRule σ (nI r)).bind fun q => if q.1 = 0 then some ((0 : Int32), q.2) else f_X2_readRule q.2 (nI r2)) rb := by
  have hq := rt_r hr
  have hq2 := rt_r hr2
  have he := en_ge n b hp
  have hh := hd_ge n b hp
  have cp : c2 ≠ 60 ∨ pl2 < 25 := by have := rt_c hr2; omega
  have tb := TD_TB tD
  by_cases z : nf n b p lo hi = 0
  · have nz := nf_0 z
    have he2 := en_ge n b he.2.1
    have hh2 := hd_ge n b he.2.1
    have hl := hlo2 _ nz.2.2
    have tb2 : TB (tset D 0 r (VV n b p)) := ⟨by rw [tset_ne D (.inr (Ne.symm hq.2.1))]; exact tb.1, by rw [tset_ne D (.inr (Ne.symm hq.2.2.1))]; exact tb.2.1, by rw [tset_ne D (.inr (Ne.symm hq.2.2.2))]; exact tb.2.2⟩
    have e9 : r2 = 9 → lo2 (VV n b p) = tset D 0 r (VV n b p) 0 8 + 1 := fun w => by rw [(h9 w).2, (h9 w).1, tset_same]
    by_cases z2 : nf n b (en n b p) (lo2 (VV n b p)) hi2 = 0
    · have nz2 := nf_0 z2
      refine .inr ⟨tset (tset D 0 r (VV n b p)) 0 r2 (VV n b (en n b p)), en n b (en n b p), AT, MT, HJ, by omega, he2.2.1, hv _ _ nz.2.1 nz.2.2 nz2.2.1 nz2.2.2, LK_rule (by omega) (LK_rule (by omega) lk), fun _ => (tset_ne _ (.inr (by omega))).trans (tset_ne D (.inr (by omega))), fun σ h => ?_, fun σ h y => ?_⟩
      · obtain ⟨s1, x1, x2, x3, x4⟩ := (rl7 h hp hq.1 hq.2 hlo (by omega) (fun _ => a1) (fun w => absurd w h4.1) a2).2 z
        obtain ⟨s2, y1, y2, y3, y4⟩ := (rl7 x3 he.2.1 hq2.1 hq2.2 hl hhi2 (b1 _) e9 b2).2 z2
        exact ⟨s2, by dsimp only; rw [x1, bso]; dsimp only; rw [if_neg (by decide), y1], Dw_tr x2 y2, y3, y4.trans x4⟩
      · obtain ⟨s1, x1, x2, x3, x4, x5⟩ := (rr8 h hp y tb hr hlo (by omega) (fun s => (f_X8_number s (L s) (nI hi2)).bind fun q => lt_ (va_up q.2 c2 (upd (q.2 c2) pl2 (q.1 - nI e2))) some)).2 z
        obtain ⟨s2, y1, y2, y3, y4, y5⟩ := (rr8 x3 he.2.1 x4 tb2 hr2 hl hhi2 some).2 z2
        exact ⟨s2, by rw [hrb, x1, hL _ _ x3]; exact y1, Dw_tr x2 y2, y3, y4, y5.trans x5⟩
    · refine .inl ⟨nf n b (en n b p) (lo2 (VV n b p)) hi2, hd n b (en n b p), by omega, by have := nf_le n b (en n b p) (lo2 (VV n b p)) hi2; omega, hh2.2, fun σ h => ?_, fun σ h y => ?_⟩
      · obtain ⟨s1, x1, x2, x3, x4⟩ := (rl7 h hp hq.1 hq.2 hlo (by omega) (fun _ => a1) (fun w => absurd w h4.1) a2).2 z
        obtain ⟨s2, y1, y2, y3⟩ := (rl7 x3 he.2.1 hq2.1 hq2.2 hl hhi2 (b1 _) e9 b2).1 z2
        exact ⟨s2, by dsimp only; rw [x1, bso]; dsimp only; rw [if_neg (by decide), y1], Dw_tr x2 y2, y3⟩
      · obtain ⟨s1, x1, x2, x3, x4, x5⟩ := (rr8 h hp y tb hr hlo (by omega) (fun s => (f_X8_number s (L s) (nI hi2)).bind fun q => lt_ (va_up q.2 c2 (upd (q.2 c2) pl2 (q.1 - nI e2))) some)).2 z
        obtain ⟨s2, y1, y2, y3⟩ := (rr8 x3 he.2.1 x4 tb2 hr2 hl hhi2 some).1 z2
        exact ⟨s2, by rw [hrb, x1, hL _ _ x3]; exact y1, Dw_tr x2 y2, y3⟩
  · have f1 : nf n b p lo hi < 10 := by have := nf_le n b p lo hi; omega
    refine .inl ⟨nf n b p lo hi, hd n b p, by omega, f1, hh.2, fun σ h => ?_, fun σ h y => ?_⟩
    · obtain ⟨s1, x1, x2, x3⟩ := (rl7 h hp hq.1 hq.2 hlo (by omega) (fun _ => a1) (fun w => absurd w h4.1) a2).1 z
      exact ⟨s1, by dsimp only; rw [x1, bso, if_pos rfl], x2, x3⟩
    · obtain ⟨s1, x1, x2, x3⟩ := (rr8 h hp y tb hr hlo (by omega) (fun s => (f_X8_number s (L s) (nI hi2)).bind fun q => lt_ (va_up q.2 c2 (upd (q.2 c2) pl2 (q.1 - nI e2))) some)).1 z
      exact ⟨_, by rw [hrb, x1, num8_b (by omega) f1 x3, bso, ltq], up_sg x2 (rt_own hr2), BR_up cp x3⟩
theorem jc_0 (n : Nat) (b : Nat → Nat) (p : Nat) : jc n b p 0 = nf n b p 1 10 := by
  unfold jc
  by_cases h : nf n b p 1 10 = 0
  · rw [if_neg (by omega), if_neg (by simp), h]
  · rw [if_pos h]
theorem LK_5 {D : NN} {AT MT HJ v : Nat} (hv : v ≤ 10) (h0 : D 0 5 = 0) (h : LK D AT MT HJ) : LK (tset D 0 5 v) AT MT (max HJ v) := by
  have e1 : tset D 0 5 v 0 1 = D 0 1 := tset_ne D (.inr (by omega))
  have e2 : tset D 0 5 v 0 2 = D 0 2 := tset_ne D (.inr (by omega))
  have e4 : tset D 0 5 v 0 4 = D 0 4 := tset_ne D (.inr (by omega))
  have e5 : tset D 0 5 v 0 5 = v := tset_same D 0 5 v
  obtain ⟨h1, h2, h3, h4, h5, h6⟩ := h
  refine ⟨h1, h2, by omega, by rw [e1]; exact h4, by rw [e2]; exact h5, fun J => ?_⟩
  rw [e1, e2, e4, e5]
  have := h6 J
  rw [h0] at this
  constructor
  · intro q
    exact ⟨by omega, (this.1 (by omega)).2⟩
  · intro q
    have := this.2 ⟨by omega, q.2⟩
    have := q.1
    omega
theorem bo_5 {n : Nat} {b : Nat → Nat} {p : Nat} {D : NN} {AT MT HJ : Nat} (hp : p ≤ n) (tD : TD D) (lk : LK D AT MT HJ) (h0 : D 0 5 = 0) {rb : ZI → Option ZI} (hrb : ∀ σ, rb σ = (f_X8_jointHere σ (nI 0)).bind fun q => lt_ (va_up q.2 66 (upd (q.2 66) 12 q.1)) some) : BO 5 n b p D AT MT HJ (fun σ => f_X2_readRule σ (nI 5)) rb := by
  have he := en_ge n b hp
  have hh := hd_ge n b hp
  have r5 : rt 5 66 12 0 := by unfold rt; decide
  by_cases z : nf n b p 1 10 = 0
  · have nz := nf_0 z
    refine .inr ⟨tset D 0 5 (VV n b p), en n b p, AT, MT, max HJ (VV n b p), by omega, he.2.1, TD_rule (.inr ⟨by omega, by omega⟩) tD (by have := nz.2; omega), LK_5 nz.2.2 h0 lk, fun z => absurd rfl z, fun σ h => ?_, fun σ h y => ?_⟩
    · exact (rl7 h hp (by omega) (by omega) (by omega) (by omega) (fun _ => rfl) (fun w => absurd w (by omega)) rfl).2 z
    · obtain ⟨s1, x1, x2, x3, x4⟩ := (jh8 h.1 hp y (s := 0) (by omega) lk.2.2.1 h.2.2.2.2.2.2.2).2 (by rw [jc_0]; exact z)
      have := RSb_rule (v := VV n b p) r5 (TD_TB tD) (RSb_J x2 x3 h)
      rw [i_sub0] at this
      exact ⟨_, by rw [hrb, x1, bso, ltq], up_sg (FrJ_sg x2) (rt_own r5), this, RY_up (.inl (by decide)) x4, (up_ne s1 (.inl (by decide))).trans (x2 60 18 (by omega))⟩
  · have f1 : nf n b p 1 10 < 10 := by have := nf_le n b p 1 10; omega
    refine .inl ⟨nf n b p 1 10, hd n b p, by omega, f1, hh.2, fun σ h => ?_, fun σ h y => ?_⟩
    · exact (rl7 h hp (by omega) (by omega) (by omega) (by omega) (fun _ => rfl) (fun w => absurd w (by omega)) rfl).1 z
    · obtain ⟨v, s1, x1, x2, x3, x4, x5⟩ := (jh8 h.1 hp y (s := 0) (by omega) lk.2.2.1 h.2.2.2.2.2.2.2).1 (by rw [jc_0]; exact z)
      rw [jc_0] at x5
      exact ⟨_, by rw [hrb, x1, bso, ltq], up_sg (FrJ_sg x4) (rt_own r5), BR_up (.inl (by decide)) x5⟩
/-- the reference's lines of numbers -/
theorem bo_n {kq n : Nat} {b : Nat → Nat} {p : Nat} {D : NN} {AT MT HJ : Nat} (hp : p ≤ n) (tD : TD D) (lk : LK D AT MT HJ) : BO kq n b p D AT MT HJ (fun σ => f_X2_readRule σ (nI 0)) (fun σ => f_X8_readOnce σ 0) ∧ BO kq n b p D AT MT HJ (fun σ => f_X2_readRule σ (nI 6)) (fun σ => f_X8_readOnce σ 2) ∧ BO kq n b p D AT MT HJ (fun σ => f_X2_readRule σ (nI 7)) (fun σ => f_X8_readOnce σ 3) ∧ BO kq n b p D AT MT HJ (fun σ => f_X2_readRule σ (nI 12)) (fun σ => f_X8_readOnce σ 6) := by
  refine ⟨bo_1 (r := 0) (c := 60) (pl := 14) (e := 0) (lo := 2) (hi := 10) hp tD lk (by unfold rt; decide) (by omega) (by omega) (by omega) rfl rfl (fun v a c => TD_rule (.inl rfl) tD (by omega)) (fun σ => ?_), bo_1 (r := 6) (c := 66) (pl := 13) (e := 1) (lo := 0) (hi := 10) hp tD lk (by unfold rt; decide) (by omega) (by omega) (by omega) rfl rfl (fun v a c => TD_rule (.inr ⟨by omega, by omega⟩) tD (by omega)) (fun σ => ?_), bo_1 (r := 7) (c := 66) (pl := 14) (e := 5) (lo := 1) (hi := 9) hp tD lk (by unfold rt; decide) (by omega) (by omega) (by omega) rfl rfl (fun v a c => TD_rule (.inr ⟨by omega, by omega⟩) tD (by omega)) (fun σ => ?_), bo_1 (r := 12) (c := 66) (pl := 17) (e := 3) (lo := 1) (hi := 9) hp tD lk (by unfold rt; decide) (by omega) (by omega) (by omega) rfl rfl (fun v a c => TD_rule (.inr ⟨by omega, by omega⟩) tD (by omega)) (fun σ => ?_)⟩
  · unfold f_X8_readOnce
    rw [if_pos rfl]
    simp only [i_sub0]
    rfl
  · unfold f_X8_readOnce
    rw [if_neg (by decide), if_neg (by decide), if_pos rfl]
    rfl
  · unfold f_X8_readOnce
    rw [if_neg (by decide), if_neg (by decide), if_neg (by decide), if_pos rfl]
    rfl
  · unfold f_X8_readOnce
    rw [if_neg (by decide), if_neg (by decide), if_neg (by decide), if_neg (by decide), if_neg (by decide), if_neg (by decide)]
    rfl
theorem bo_m {kq n : Nat} {b : Nat → Nat} {p : Nat} {D : NN} {AT MT HJ : Nat} (hp : p ≤ n) (tD : TD D) (lk : LK D AT MT HJ) : (D 0 5 = 0 → BO 5 n b p D AT MT HJ (fun σ => f_X2_readRule σ (nI 5)) (fun σ => f_X8_readOnce σ 1)) ∧ BO kq n b p D AT MT HJ (fun σ => (f_X2_readRule σ (nI 8)).bind fun q => if q.1 = 0 then some ((0 : Int32), q.2) else f_X2_readRule q.2 (nI 9)) (fun σ => f_X8_readOnce σ 4) ∧ BO kq n b p D AT MT HJ (fun σ => (f_X2_readRule σ (nI 10)).bind fun q => if q.1 = 0 then some ((0 : Int32), q.2) else f_X2_readRule q.2 (nI 11)) (fun σ => f_X8_readOnce σ 5) := by
  refine ⟨fun h0 => bo_5 hp tD lk h0 (fun σ => ?_), bo_2 (r := 8) (c := 66) (pl := 15) (e := 2) (lo := 1) (hi := 10) (r2 := 9) (c2 := 66) (pl2 := 16) (e2 := 4) (hi2 := 11) (lo2 := fun v => v + 1) (L := fun s => s 66 15 + 3) hp tD lk (by unfold rt; decide) (by unfold rt; decide) (by omega) (by omega) (fun _ => ⟨rfl, fun _ => rfl⟩) (by omega) (by omega) (by omega) (fun v h => by omega) rfl rfl (fun v h => absurd rfl h) rfl (fun v w v1 v2 w1 w2 => ?_) (fun σ v h => ?_) (fun σ => ?_), bo_2 (r := 10) (c := 70) (pl := 0) (e := 0) (lo := 0) (hi := 9) (r2 := 11) (c2 := 70) (pl2 := 1) (e2 := 0) (hi2 := 9) (lo2 := fun v => 0) (L := fun s => 0) hp tD lk (by unfold rt; decide) (by unfold rt; decide) (by omega) (by omega) (fun w => absurd w (by omega)) (by omega) (by omega) (by omega) (fun v h => by omega) rfl rfl (fun v h => rfl) rfl (fun v w v1 v2 w1 w2 => TD_rule (.inr ⟨by omega, by omega⟩) (TD_rule (.inr ⟨by omega, by omega⟩) tD (by omega)) (by omega)) (fun σ v h => rfl) (fun σ => ?_)⟩
  · unfold f_X8_readOnce
    rw [if_neg (by decide), if_pos rfl]
    rfl
  · obtain ⟨k1, k2, k3, k4, k5, k6⟩ := tD
    have e1 : tset (tset D 0 8 v) 0 9 w 0 1 = D 0 1 := by rw [tset_ne _ (.inr (by omega)), tset_ne _ (.inr (by omega))]
    have e2 : tset (tset D 0 8 v) 0 9 w 0 2 = D 0 2 := by rw [tset_ne _ (.inr (by omega)), tset_ne _ (.inr (by omega))]
    have e3 : tset (tset D 0 8 v) 0 9 w 0 3 = D 0 3 := by rw [tset_ne _ (.inr (by omega)), tset_ne _ (.inr (by omega))]
    refine ⟨?_, by rw [e1]; exact k2, by rw [e1]; exact k3, by rw [e2]; exact k4, by rw [e2]; exact k5, by rw [e3]; exact k6⟩
    rw [e1, e2, e3]
    simp [tset]
    omega
  · have := h.2.2.1.2.2.2.2.2.2.2.1
    rw [tset_same] at this
    rw [this, ← nI_add, show nI v - nI 2 + 3 = nI v + (3 - nI 2) from by rw [Int32.sub_eq_add_neg, Int32.add_assoc]; rfl]
    rfl
  · unfold f_X8_readOnce
    rw [if_neg (by decide), if_neg (by decide), if_neg (by decide), if_neg (by decide), if_pos rfl]
    rfl
  · unfold f_X8_readOnce
    rw [if_neg (by decide), if_neg (by decide), if_neg (by decide), if_neg (by decide), if_neg (by decide), if_pos rfl]
    simp only [i_sub0]
    rfl
end
section
/-! a line of a signal *-/
theorem nm1 {v : Nat} (h : v ≤ 99) : ¬ nI v = -1 := by
  intro q
  have : (nI v).toInt = (-1 : Int32).toInt := by rw [q]
  rw [nI_toInt (by omega)] at this
  have e : (-1 : Int32).toInt = -1 := rfl
  omega
theorem nm4 {v : Nat} (h : v ≤ 99) : ¬ nI v = -4 := by
  intro q
  have : (nI v).toInt = (-4 : Int32).toInt := by rw [q]
  rw [nI_toInt (by omega)] at this
  have e : (-4 : Int32).toInt = -4 := rfl
  omega
/-- what the class does with a joint: no number, or a number told before, or a new one -/
theorem jc7 {n : Nat} {b : Nat → Nat} {p s : Nat} : (jc n b p s ≠ 0 ∧ nf n b p 1 10 ≠ 0 ∧ jc n b p s = nf n b p 1 10) ∨ (jc n b p s ≠ 0 ∧ nf n b p 1 10 = 0 ∧ s.testBit (VV n b p - 1) = true ∧ jc n b p s = 4) ∨ (jc n b p s = 0 ∧ nf n b p 1 10 = 0 ∧ s.testBit (VV n b p - 1) = false) := by
  unfold jc
  by_cases h : nf n b p 1 10 = 0
  · rw [if_neg (by omega)]
    by_cases h2 : s.testBit (VV n b p - 1) = true
    · rw [if_pos h2]; exact .inr (.inl ⟨by omega, h, h2, rfl⟩)
    · rw [if_neg h2]; exact .inr (.inr ⟨rfl, h, by simpa using h2⟩)
  · rw [if_pos h]; exact .inl ⟨h, h, rfl⟩
theorem or_b {s v j : Nat} (hv : 1 ≤ v) : (s ||| 2 ^ (v - 1)).testBit j = true ↔ (s.testBit j = true ∨ j + 1 = v) := by
  rw [Nat.testBit_or, Nat.testBit_two_pow, Bool.or_eq_true, decide_eq_true_iff]
  constructor
  · rintro (h | h)
    · exact .inl h
    · exact .inr (by omega)
  · rintro (h | h)
    · exact .inl h
    · exact .inr (by omega)
theorem LK_4 {D : NN} {AT MT HJ v : Nat} (hv : v ≤ 10) (h1 : 1 ≤ v) (h : LK D AT MT HJ) : LK (tset D 0 4 (D 0 4 ||| 2 ^ (v - 1))) AT MT (max HJ v) := by
  have e1 : tset D 0 4 (D 0 4 ||| 2 ^ (v - 1)) 0 1 = D 0 1 := tset_ne D (.inr (by omega))
  have e2 : tset D 0 4 (D 0 4 ||| 2 ^ (v - 1)) 0 2 = D 0 2 := tset_ne D (.inr (by omega))
  have e4 : tset D 0 4 (D 0 4 ||| 2 ^ (v - 1)) 0 4 = (D 0 4 ||| 2 ^ (v - 1)) := tset_same D 0 4 _
  have e5 : tset D 0 4 (D 0 4 ||| 2 ^ (v - 1)) 0 5 = D 0 5 := tset_ne D (.inr (by omega))
  obtain ⟨h1', h2, h3, h4, h5, h6⟩ := h
  refine ⟨h1', h2, by omega, by rw [e1]; exact h4, by rw [e2]; exact h5, fun J => ?_⟩
  rw [e1, e2, e4, e5]
  have := h6 J
  constructor
  · intro q
    obtain ⟨a1, a2, a3, a4⟩ := this.1 (by omega)
    refine ⟨a1, a2, a3, fun j hj w => ?_⟩
    rcases (or_b h1).1 w with w | w
    · exact a4 j hj w
    · omega
  · rintro ⟨a1, a2, a3, a4⟩
    have l1 := this.2 ⟨a1, a2, a3, fun j hj w => a4 j hj ((or_b h1).2 (.inl w))⟩
    have l2 := a4 (v - 1) (by omega) ((or_b h1).2 (.inr (by omega)))
    omega
theorem or_lt {s v : Nat} (hs : s < 2 ^ 10) (h1 : 1 ≤ v) (hv : v ≤ 10) : (s ||| 2 ^ (v - 1)) < 2 ^ 10 := Nat.or_lt_two_pow hs (Nat.pow_lt_pow_right (by omega) (by omega))
theorem bit_n {v : Nat} (h1 : 1 ≤ v) (hv : v ≤ 10) : ((1 : Int32) <<< ((nI v - 1) &&& 31)) = nI (2 ^ (v - 1)) := by
  obtain ⟨w, rfl⟩ : ∃ w, v = w + 1 := ⟨v - 1, by omega⟩
  rw [nI_pred, sbl (by omega), show w + 1 - 1 = w by omega]
theorem bo_4 {kq n : Nat} {b : Nat → Nat} {p : Nat} {D : NN} {AT MT HJ : Nat} (hp : p ≤ n) (tD : TD D) (lk : LK D AT MT HJ) : BO kq n b p D AT MT HJ (fun σ => f_X2_readSignal σ) (fun σ => f_X8_readMore σ 10) := by
  have he := en_ge n b hp
  have hh := hd_ge n b hp
  have r4 : rt 4 66 11 0 := by unfold rt; decide
  have s10 : D 0 4 < 2 ^ 10 := tD.1.2.2.2.2.2.1
  have hrb : ∀ σ : ZI, f_X8_readMore σ 10 = (f_X8_jointHere σ (σ 66 11)).bind fun q => lt_ (va_up q.2 66 (upd (q.2 66) 11 ((σ 66 11) ||| ((1 : Int32) <<< ((q.1 - 1) &&& 31))))) some := fun σ => by
    unfold f_X8_readMore
    rw [if_neg (by decide), if_neg (by decide), if_neg (by decide)]
  have cl : ∀ σ, CSb n b p D σ → nf n b p 1 10 = 0 → ∃ s1, f_X2_readSignal σ = (f_X6_isSignalAt s1 28 (nI (VV n b p))).bind (fun q2 => if q2 = 0 then ((f_X6_value s1 28 (4 : Int32)).bind (fun q3 => (f_X6_become s1 28 (4 : Int32) (q3 ||| ((1 : Int32) <<< ((nI (VV n b p) - (1 : Int32)) &&& 31)))).bind (fun q4 => some ((1 : Int32), q4)))) else ((f_X2_refuse s1 (4 : Int32)).bind (fun q5 => if q5.1 = 0 ∨ q5.1 = 1 then some (q5.1, q5.2) else none))) ∧ F7 σ s1 ∧ At7 n b p s1 ∧ CSb n b (en n b p) D s1 := by
    intro σ h z
    have nz := nf_0 z
    obtain ⟨s1, x1, x2, x3⟩ := (tn7 (lo := 1) (hi := 10) h.1 hp h.2.1 (by omega) (by omega)).2 z
    refine ⟨s1, ?_, x2, x3, CSb_F7 x2 x3.2.1 h⟩
    unfold f_X2_readSignal
    rw [show f_X2_takeNumber σ 1 10 = _ from x1, bso, if_neg (nm1 (by omega))]
  rcases jc7 (n := n) (b := b) (p := p) (s := D 0 4) with ⟨z, z2, z3⟩ | ⟨z, z2, z3, z4⟩ | ⟨z, z2, z3⟩
  · have f1 := nf_le n b p 1 10
    refine .inl ⟨nf n b p 1 10, hd n b p, by omega, by omega, hh.2, fun σ h => ?_, fun σ h y => ?_⟩
    · obtain ⟨s1, x1, x2, x3⟩ := (tn7 (lo := 1) (hi := 10) h.1 hp h.2.1 (by omega) (by omega)).1 z2
      refine ⟨s1, ?_, Ff_sg x2, x3⟩
      dsimp only
      unfold f_X2_readSignal
      rw [show f_X2_takeNumber σ 1 10 = _ from x1, bso, if_pos rfl]
    · obtain ⟨v, s1, x1, x2, x3, x4, x5⟩ := (jh8 h.1 hp y (s := D 0 4) s10 lk.2.2.1 h.2.2.2.2.2.2.2).1 z
      rw [z3] at x5
      exact ⟨_, by dsimp only; rw [hrb, h.2.2.1.2.2.2.1, x1, bso, ltq], up_sg (FrJ_sg x4) (rt_own r4), BR_up (.inl (by decide)) x5⟩
  · have nz := nf_0 z2
    refine .inl ⟨4, hd n b p, by omega, by omega, hh.2, fun σ h => ?_, fun σ h y => ?_⟩
    · obtain ⟨s1, x1, x2, x3, x4⟩ := cl σ h z2
      obtain ⟨s2, y1, y2, y3⟩ := ref7 s1 4 x3.2.2.2
      obtain ⟨w, hw⟩ : ∃ w, VV n b p = w + 1 := ⟨VV n b p - 1, by omega⟩
      rw [hw, show w + 1 - 1 = w by omega] at z3
      refine ⟨s2, ?_, Dw_tr (Ff_sg (F7_Ff x2)) (Ff_sg y2), y3⟩
      dsimp only
      rw [x1, hw, sg7 (j := w) rfl rfl (by omega) s10 (x4.2.2.2.1 4 (by omega)), if_pos z3, bso, if_neg (by decide), show f_X2_refuse s1 4 = _ from y1, bso, if_pos (.inl rfl)]
    · obtain ⟨v, s1, x1, x2, x3, x4, x5⟩ := (jh8 h.1 hp y (s := D 0 4) s10 lk.2.2.1 h.2.2.2.2.2.2.2).1 z
      rw [z4] at x5
      exact ⟨_, by dsimp only; rw [hrb, h.2.2.1.2.2.2.1, x1, bso, ltq], up_sg (FrJ_sg x4) (rt_own r4), BR_up (.inl (by decide)) x5⟩
  · have nz := nf_0 z2
    have ol := or_lt s10 nz.2.1 nz.2.2
    refine .inr ⟨tset D 0 4 (D 0 4 ||| 2 ^ (VV n b p - 1)), en n b p, AT, MT, max HJ (VV n b p), by omega, he.2.1, TD_rule (.inr ⟨by omega, by omega⟩) tD ⟨by omega, fun _ => ol, by omega, by omega, by omega, by omega, by omega, by omega, by omega, by omega⟩, LK_4 nz.2.2 nz.2.1 lk, fun _ => tset_ne D (.inr (by omega)), fun σ h => ?_, fun σ h y => ?_⟩
    · obtain ⟨s1, x1, x2, x3, x4⟩ := cl σ h z2
      have e4 : s1 29 4 = nI (D 0 4) := x4.2.2.2.1 4 (by omega)
      have key : f_X2_readSignal σ = some (1, va_up s1 29 (upd (s1 29) 4 (nI (D 0 4 ||| 2 ^ (VV n b p - 1))))) := by
        rw [x1]
        have e0 : f_X6_isSignalAt s1 28 (nI (VV n b p)) = some 0 := by
          obtain ⟨w, hw⟩ : ∃ w, VV n b p = w + 1 := ⟨VV n b p - 1, by omega⟩
          rw [hw, show w + 1 - 1 = w by omega] at z3
          rw [hw, sg7 (j := w) rfl rfl (by omega) s10 e4, if_neg (by rw [z3]; decide)]
        rw [e0, bso, if_pos rfl, v28_4, bso, bit_n nz.2.1 nz.2.2, e4, or_n (by omega) (by omega), show f_X6_become s1 28 4 _ = _ from bec_n (b := 28) (k := 4) rfl rfl (by omega), bso]
      refine ⟨_, key, up_sg (Ff_sg (F7_Ff x2)) (own_d _ (by omega) (by omega)), CSb_set (c := 29) (by omega) x4 (TV_r (b := 28) (by omega) x4.2.2.2), ?_⟩
      exact (up_ne s1 (.inl (by omega))).trans (x2 39 2 (by omega))
    · obtain ⟨s1, x1, x2, x3, x4⟩ := (jh8 h.1 hp y (s := D 0 4) s10 lk.2.2.1 h.2.2.2.2.2.2.2).2 z
      have := RSb_rule (v := D 0 4 ||| 2 ^ (VV n b p - 1)) r4 (TD_TB tD) (RSb_J x2 x3 h)
      rw [i_sub0] at this
      exact ⟨_, by dsimp only; rw [hrb, h.2.2.1.2.2.2.1, x1, bso, bit_n nz.2.1 nz.2.2, or_n (by omega) (by omega), ltq], up_sg (FrJ_sg x2) (rt_own r4), this, RY_up (.inl (by decide)) x4, (up_ne s1 (.inl (by decide))).trans (x2 60 18 (by omega))⟩
end
section
/-! what is put behind the rows that are told *-/
theorem own_6 {c : Nat} (i : Nat) (h : 66 ≤ c) (h2 : c ≤ 70) : own c i = 0 := by
  unfold own
  rw [if_neg (by omega), if_neg (by omega), if_neg (by omega), if_neg (by omega), if_neg (by omega), if_neg (by omega), if_neg (by omega), if_neg (by omega), if_neg (by omega), if_neg (by omega), if_neg (by omega), if_neg (by omega), if_neg (by omega), if_pos h2]
def rout (D : NN) (c i : Nat) : Prop := (c = 66 ∧ D 0 1 ≤ i ∧ i < 3) ∨ (c = 66 ∧ 3 + D 0 2 ≤ i ∧ i < 6) ∨ (c = 66 ∧ 6 + D 0 3 ≤ i ∧ i < 11) ∨ (c = 67 ∧ 2 * D 0 1 ≤ i) ∨ (c = 68 ∧ D 0 2 ≤ i) ∨ (c = 69 ∧ D 0 3 ≤ i)
theorem RSb_out {n : Nat} {b : Nat → Nat} {D : NN} {AT MT HJ : Nat} {σ : ZI} {c i : Nat} {v : Int32} (ho : rout D c i) (hD : TB D) (q : RSb n b D AT MT HJ σ) : RSb n b D AT MT HJ (va_up σ c (upd (σ c) i v)) := by
  obtain ⟨a1, a2, ⟨b1, b2, b3, b4, b5, b6, b7, b8, b9, b10⟩, ⟨c1, c2, c3, c4, c5, c6⟩, ⟨d1, d2, d3⟩, e1, e2, e3⟩ := q
  obtain ⟨m1, m2, m3⟩ := hD
  have hc : 66 ≤ c ∧ c ≤ 69 := by unfold rout at ho; omega
  have gA : ∀ C P, (C < 66 ∨ 69 < C) → va_up σ c (upd (σ c) i v) C P = σ C P := fun C P z => up_ne σ (.inl (by omega))
  have gB : ∀ P, 11 ≤ P → va_up σ c (upd (σ c) i v) 66 P = σ 66 P := fun P z => up_ne σ (by unfold rout at ho; omega)
  have g1 : ∀ k, k < D 0 1 → va_up σ c (upd (σ c) i v) 66 k = σ 66 k := fun k z => up_ne σ (by unfold rout at ho; omega)
  have g2 : ∀ k, k < D 0 2 → va_up σ c (upd (σ c) i v) 66 (3 + k) = σ 66 (3 + k) := fun k z => up_ne σ (by unfold rout at ho; omega)
  have g3 : ∀ k, k < D 0 3 → va_up σ c (upd (σ c) i v) 66 (6 + k) = σ 66 (6 + k) := fun k z => up_ne σ (by unfold rout at ho; omega)
  have g4 : ∀ k, k < 2 * D 0 1 → va_up σ c (upd (σ c) i v) 67 k = σ 67 k := fun k z => up_ne σ (by unfold rout at ho; omega)
  have g5 : ∀ k, k < D 0 2 → va_up σ c (upd (σ c) i v) 68 k = σ 68 k := fun k z => up_ne σ (by unfold rout at ho; omega)
  have g6 : ∀ k, k < D 0 3 → va_up σ c (upd (σ c) i v) 69 k = σ 69 k := fun k z => up_ne σ (by unfold rout at ho; omega)
  clear ho hc
  exact ⟨⟨a1.1, (gA _ _ (by decide)).trans a1.2.1, fun i hi => ⟨(a1.2.2 i hi).1, (gA _ _ (by decide)).trans (a1.2.2 i hi).2⟩⟩, ⟨fun i hi => (gA _ _ (by decide)).trans (a2.1 i hi), fun i hi => (gA _ _ (by decide)).trans (a2.2 i hi)⟩, ⟨fun i hi => (g1 i hi).trans (b1 i hi), fun i hi => (g2 i hi).trans (b2 i hi), fun i hi => (g3 i hi).trans (b3 i hi), (gB _ (by decide)).trans b4, (gB _ (by decide)).trans b5, (gB _ (by decide)).trans b6, (gB _ (by decide)).trans b7, (gB _ (by decide)).trans b8, (gB _ (by decide)).trans b9, (gB _ (by decide)).trans b10⟩, ⟨(gA _ _ (by decide)).trans c1, (gA _ _ (by decide)).trans c2, (gA _ _ (by decide)).trans c3, (gA _ _ (by decide)).trans c4, (gA _ _ (by decide)).trans c5, (gA _ _ (by decide)).trans c6⟩, ⟨fun i hi => ⟨(g4 _ (by omega)).trans (d1 i hi).1, (g4 _ (by omega)).trans (d1 i hi).2⟩, fun i hi => (g5 i hi).trans (d2 i hi), fun i hi => (g6 i hi).trans (d3 i hi)⟩, (gA _ _ (by decide)).trans e1, (gA _ _ (by decide)).trans e2, (gA _ _ (by decide)).trans e3⟩
theorem RSb_AT {n : Nat} {b : Nat → Nat} {D : NN} {AT MT HJ A : Nat} {σ : ZI} (q : RSb n b D AT MT HJ σ) : RSb n b D A MT HJ (va_up σ 60 (upd (σ 60) 19 (nI A))) := by
  obtain ⟨a1, a2, ⟨b1, b2, b3, b4, b5, b6, b7, b8, b9, b10⟩, ⟨c1, c2, c3, c4, c5, c6⟩, ⟨d1, d2, d3⟩, e1, e2, e3⟩ := q
  have gA : ∀ C P, (C ≠ 60 ∨ P ≠ 19) → va_up σ 60 (upd (σ 60) 19 (nI A)) C P = σ C P := fun C P z => up_ne σ z
  exact ⟨⟨a1.1, (gA _ _ (.inr (by decide))).trans a1.2.1, fun i hi => ⟨(a1.2.2 i hi).1, (gA _ _ (.inl (by decide))).trans (a1.2.2 i hi).2⟩⟩, ⟨fun i hi => (gA _ _ (.inl (by decide))).trans (a2.1 i hi), fun i hi => (gA _ _ (.inl (by decide))).trans (a2.2 i hi)⟩, ⟨fun i hi => (gA _ _ (.inl (by decide))).trans (b1 i hi), fun i hi => (gA _ _ (.inl (by decide))).trans (b2 i hi), fun i hi => (gA _ _ (.inl (by decide))).trans (b3 i hi), b4, b5, b6, b7, b8, b9, b10⟩, ⟨(gA _ _ (.inr (by decide))).trans c1, (gA _ _ (.inr (by decide))).trans c2, (gA _ _ (.inr (by decide))).trans c3, (gA _ _ (.inr (by decide))).trans c4, (gA _ _ (.inl (by decide))).trans c5, (gA _ _ (.inl (by decide))).trans c6⟩, ⟨fun i hi => ⟨(gA _ _ (.inl (by decide))).trans (d1 i hi).1, (gA _ _ (.inl (by decide))).trans (d1 i hi).2⟩, fun i hi => (gA _ _ (.inl (by decide))).trans (d2 i hi), fun i hi => (gA _ _ (.inl (by decide))).trans (d3 i hi)⟩, up_same _ _ _ _, (gA _ _ (.inr (by decide))).trans e2, (gA _ _ (.inr (by decide))).trans e3⟩
theorem RSb_MT {n : Nat} {b : Nat → Nat} {D : NN} {AT MT HJ A : Nat} {σ : ZI} (q : RSb n b D AT MT HJ σ) : RSb n b D AT A HJ (va_up σ 60 (upd (σ 60) 20 (nI A))) := by
  obtain ⟨a1, a2, ⟨b1, b2, b3, b4, b5, b6, b7, b8, b9, b10⟩, ⟨c1, c2, c3, c4, c5, c6⟩, ⟨d1, d2, d3⟩, e1, e2, e3⟩ := q
  have gA : ∀ C P, (C ≠ 60 ∨ P ≠ 20) → va_up σ 60 (upd (σ 60) 20 (nI A)) C P = σ C P := fun C P z => up_ne σ z
  exact ⟨⟨a1.1, (gA _ _ (.inr (by decide))).trans a1.2.1, fun i hi => ⟨(a1.2.2 i hi).1, (gA _ _ (.inl (by decide))).trans (a1.2.2 i hi).2⟩⟩, ⟨fun i hi => (gA _ _ (.inl (by decide))).trans (a2.1 i hi), fun i hi => (gA _ _ (.inl (by decide))).trans (a2.2 i hi)⟩, ⟨fun i hi => (gA _ _ (.inl (by decide))).trans (b1 i hi), fun i hi => (gA _ _ (.inl (by decide))).trans (b2 i hi), fun i hi => (gA _ _ (.inl (by decide))).trans (b3 i hi), b4, b5, b6, b7, b8, b9, b10⟩, ⟨(gA _ _ (.inr (by decide))).trans c1, (gA _ _ (.inr (by decide))).trans c2, (gA _ _ (.inr (by decide))).trans c3, (gA _ _ (.inr (by decide))).trans c4, (gA _ _ (.inl (by decide))).trans c5, (gA _ _ (.inl (by decide))).trans c6⟩, ⟨fun i hi => ⟨(gA _ _ (.inl (by decide))).trans (d1 i hi).1, (gA _ _ (.inl (by decide))).trans (d1 i hi).2⟩, fun i hi => (gA _ _ (.inl (by decide))).trans (d2 i hi), fun i hi => (gA _ _ (.inl (by decide))).trans (d3 i hi)⟩, (gA _ _ (.inr (by decide))).trans e1, up_same _ _ _ _, (gA _ _ (.inr (by decide))).trans e3⟩
/-- a row more -/
def DA (D : NN) (k j g : Nat) : NN := tset (tset (tset (tset D 1 (D 0 1) k) 2 (D 0 1) j) 3 (D 0 1) g) 0 1 (D 0 1 + 1)
def DM (D : NN) (j v : Nat) : NN := tset (tset (tset D 4 (D 0 2) j) 5 (D 0 2) v) 0 2 (D 0 2 + 1)
def DW (D : NN) (a g : Nat) : NN := tset (tset (tset D 6 (D 0 3) a) 7 (D 0 3) g) 0 3 (D 0 3 + 1)
theorem DA_v (D : NN) (k j g i : Nat) : DA D k j g 0 i = (if i = 1 then D 0 1 + 1 else D 0 i) ∧ DA D k j g 1 i = (if i = D 0 1 then k else D 1 i) ∧ DA D k j g 2 i = (if i = D 0 1 then j else D 2 i) ∧ DA D k j g 3 i = (if i = D 0 1 then g else D 3 i) ∧ DA D k j g 4 i = D 4 i ∧ DA D k j g 5 i = D 5 i ∧ DA D k j g 6 i = D 6 i ∧ DA D k j g 7 i = D 7 i := ⟨rfl, rfl, rfl, rfl, rfl, rfl, rfl, rfl⟩
theorem DM_v (D : NN) (j v i : Nat) : DM D j v 0 i = (if i = 2 then D 0 2 + 1 else D 0 i) ∧ DM D j v 1 i = D 1 i ∧ DM D j v 2 i = D 2 i ∧ DM D j v 3 i = D 3 i ∧ DM D j v 4 i = (if i = D 0 2 then j else D 4 i) ∧ DM D j v 5 i = (if i = D 0 2 then v else D 5 i) ∧ DM D j v 6 i = D 6 i ∧ DM D j v 7 i = D 7 i := ⟨rfl, rfl, rfl, rfl, rfl, rfl, rfl, rfl⟩
theorem DW_v (D : NN) (a g i : Nat) : DW D a g 0 i = (if i = 3 then D 0 3 + 1 else D 0 i) ∧ DW D a g 1 i = D 1 i ∧ DW D a g 2 i = D 2 i ∧ DW D a g 3 i = D 3 i ∧ DW D a g 4 i = D 4 i ∧ DW D a g 5 i = D 5 i ∧ DW D a g 6 i = (if i = D 0 3 then a else D 6 i) ∧ DW D a g 7 i = (if i = D 0 3 then g else D 7 i) := ⟨rfl, rfl, rfl, rfl, rfl, rfl, rfl, rfl⟩
/-- RSb after the count is put -/
theorem RSb_M1 {n : Nat} {b : Nat → Nat} {D : NN} {AT MT HJ j v : Nat} {σ : ZI} (hD : TB D) (q : RSb n b D AT MT HJ σ) (h1 : σ 68 (D 0 2) = nI j) (h2 : σ 66 (3 + D 0 2) = nI v) : RSb n b (DM D j v) AT MT HJ (va_up σ 60 (upd (σ 60) 16 (nI (D 0 2 + 1)))) := by
  obtain ⟨a1, a2, ⟨b1, b2, b3, b4, b5, b6, b7, b8, b9, b10⟩, ⟨c1, c2, c3, c4, c5, c6⟩, ⟨d1, d2, d3⟩, e1, e2, e3⟩ := q
  have gA : ∀ C P, (C ≠ 60 ∨ P ≠ 16) → va_up σ 60 (upd (σ 60) 16 (nI (D 0 2 + 1))) C P = σ C P := fun C P z => up_ne σ z
  have k1 : DM D j v 0 1 = D 0 1 := rfl
  have k2 : DM D j v 0 2 = D 0 2 + 1 := rfl
  have k3 : DM D j v 0 3 = D 0 3 := rfl
  refine ⟨⟨a1.1, (gA _ _ (.inr (by decide))).trans a1.2.1, fun i hi => ⟨(a1.2.2 i hi).1, (gA _ _ (.inl (by decide))).trans (a1.2.2 i hi).2⟩⟩, ⟨fun i hi => (gA _ _ (.inl (by decide))).trans (a2.1 i hi), fun i hi => (gA _ _ (.inl (by decide))).trans (a2.2 i hi)⟩, ⟨fun i hi => (gA _ _ (.inl (by decide))).trans (b1 i hi), fun i hi => ?_, fun i hi => (gA _ _ (.inl (by decide))).trans (b3 i hi), b4, b5, b6, b7, b8, b9, b10⟩, ⟨(gA _ _ (.inr (by decide))).trans c1, (gA _ _ (.inr (by decide))).trans c2, up_same _ _ _ _, (gA _ _ (.inr (by decide))).trans c4, (gA _ _ (.inl (by decide))).trans c5, (gA _ _ (.inl (by decide))).trans c6⟩, ⟨fun i hi => ⟨(gA _ _ (.inl (by decide))).trans (d1 i hi).1, (gA _ _ (.inl (by decide))).trans (d1 i hi).2⟩, fun i hi => ?_, fun i hi => (gA _ _ (.inl (by decide))).trans (d3 i hi)⟩, (gA _ _ (.inr (by decide))).trans e1, (gA _ _ (.inr (by decide))).trans e2, (gA _ _ (.inr (by decide))).trans e3⟩
  · rw [gA _ _ (.inl (by decide)), (DM_v D j v i).2.2.2.2.2.1]
    by_cases z : i = D 0 2
    · rw [if_pos z, z, h2]
    · rw [if_neg z]; exact b2 i (by omega)
  · rw [gA _ _ (.inl (by decide)), (DM_v D j v i).2.2.2.2.1]
    by_cases z : i = D 0 2
    · rw [if_pos z, z, h1]
    · rw [if_neg z]; exact d2 i (by omega)
theorem RSb_W1 {n : Nat} {b : Nat → Nat} {D : NN} {AT MT HJ a g : Nat} {σ : ZI} (hD : TB D) (q : RSb n b D AT MT HJ σ) (h1 : σ 66 (6 + D 0 3) = nI a) (h2 : σ 69 (D 0 3) = nI g) : RSb n b (DW D a g) AT MT HJ (va_up σ 60 (upd (σ 60) 17 (nI (D 0 3 + 1)))) := by
  obtain ⟨a1, a2, ⟨b1, b2, b3, b4, b5, b6, b7, b8, b9, b10⟩, ⟨c1, c2, c3, c4, c5, c6⟩, ⟨d1, d2, d3⟩, e1, e2, e3⟩ := q
  have gA : ∀ C P, (C ≠ 60 ∨ P ≠ 17) → va_up σ 60 (upd (σ 60) 17 (nI (D 0 3 + 1))) C P = σ C P := fun C P z => up_ne σ z
  have k1 : DW D a g 0 1 = D 0 1 := rfl
  have k2 : DW D a g 0 2 = D 0 2 := rfl
  have k3 : DW D a g 0 3 = D 0 3 + 1 := rfl
  refine ⟨⟨a1.1, (gA _ _ (.inr (by decide))).trans a1.2.1, fun i hi => ⟨(a1.2.2 i hi).1, (gA _ _ (.inl (by decide))).trans (a1.2.2 i hi).2⟩⟩, ⟨fun i hi => (gA _ _ (.inl (by decide))).trans (a2.1 i hi), fun i hi => (gA _ _ (.inl (by decide))).trans (a2.2 i hi)⟩, ⟨fun i hi => (gA _ _ (.inl (by decide))).trans (b1 i hi), fun i hi => (gA _ _ (.inl (by decide))).trans (b2 i hi), fun i hi => ?_, b4, b5, b6, b7, b8, b9, b10⟩, ⟨(gA _ _ (.inr (by decide))).trans c1, (gA _ _ (.inr (by decide))).trans c2, (gA _ _ (.inr (by decide))).trans c3, up_same _ _ _ _, (gA _ _ (.inl (by decide))).trans c5, (gA _ _ (.inl (by decide))).trans c6⟩, ⟨fun i hi => ⟨(gA _ _ (.inl (by decide))).trans (d1 i hi).1, (gA _ _ (.inl (by decide))).trans (d1 i hi).2⟩, fun i hi => (gA _ _ (.inl (by decide))).trans (d2 i hi), fun i hi => ?_⟩, (gA _ _ (.inr (by decide))).trans e1, (gA _ _ (.inr (by decide))).trans e2, (gA _ _ (.inr (by decide))).trans e3⟩
  · rw [gA _ _ (.inl (by decide)), (DW_v D a g i).2.2.2.2.2.2.1]
    by_cases z : i = D 0 3
    · rw [if_pos z, z, h1]
    · rw [if_neg z]; exact b3 i (by omega)
  · rw [gA _ _ (.inl (by decide)), (DW_v D a g i).2.2.2.2.2.2.2]
    by_cases z : i = D 0 3
    · rw [if_pos z, z, h2]
    · rw [if_neg z]; exact d3 i (by omega)
theorem RSb_A1 {n : Nat} {b : Nat → Nat} {D : NN} {AT MT HJ k j g : Nat} {σ : ZI} (hD : TB D) (q : RSb n b D AT MT HJ σ) (h0 : σ 66 (D 0 1) = nI k) (h1 : σ 67 (2 * D 0 1) = nI j) (h2 : σ 67 (2 * D 0 1 + 1) = nI g) : RSb n b (DA D k j g) AT MT HJ (va_up σ 60 (upd (σ 60) 15 (nI (D 0 1 + 1)))) := by
  obtain ⟨a1, a2, ⟨b1, b2, b3, b4, b5, b6, b7, b8, b9, b10⟩, ⟨c1, c2, c3, c4, c5, c6⟩, ⟨d1, d2, d3⟩, e1, e2, e3⟩ := q
  have gA : ∀ C P, (C ≠ 60 ∨ P ≠ 15) → va_up σ 60 (upd (σ 60) 15 (nI (D 0 1 + 1))) C P = σ C P := fun C P z => up_ne σ z
  have k1 : DA D k j g 0 1 = D 0 1 + 1 := rfl
  have k2 : DA D k j g 0 2 = D 0 2 := rfl
  have k3 : DA D k j g 0 3 = D 0 3 := rfl
  refine ⟨⟨a1.1, (gA _ _ (.inr (by decide))).trans a1.2.1, fun i hi => ⟨(a1.2.2 i hi).1, (gA _ _ (.inl (by decide))).trans (a1.2.2 i hi).2⟩⟩, ⟨fun i hi => (gA _ _ (.inl (by decide))).trans (a2.1 i hi), fun i hi => (gA _ _ (.inl (by decide))).trans (a2.2 i hi)⟩, ⟨fun i hi => ?_, fun i hi => (gA _ _ (.inl (by decide))).trans (b2 i hi), fun i hi => (gA _ _ (.inl (by decide))).trans (b3 i hi), b4, b5, b6, b7, b8, b9, b10⟩, ⟨(gA _ _ (.inr (by decide))).trans c1, up_same _ _ _ _, (gA _ _ (.inr (by decide))).trans c3, (gA _ _ (.inr (by decide))).trans c4, (gA _ _ (.inl (by decide))).trans c5, (gA _ _ (.inl (by decide))).trans c6⟩, ⟨fun i hi => ?_, fun i hi => (gA _ _ (.inl (by decide))).trans (d2 i hi), fun i hi => (gA _ _ (.inl (by decide))).trans (d3 i hi)⟩, (gA _ _ (.inr (by decide))).trans e1, (gA _ _ (.inr (by decide))).trans e2, (gA _ _ (.inr (by decide))).trans e3⟩
  · rw [gA _ _ (.inl (by decide)), (DA_v D k j g i).2.1]
    by_cases z : i = D 0 1
    · rw [if_pos z, z, h0]
    · rw [if_neg z]; exact b1 i (by omega)
  · rw [gA _ _ (.inl (by decide)), gA _ _ (.inl (by decide)), (DA_v D k j g i).2.2.1, (DA_v D k j g i).2.2.2.1]
    by_cases z : i = D 0 1
    · rw [if_pos z, if_pos z, z]; exact ⟨h1, h2⟩
    · rw [if_neg z, if_neg z]; exact d1 i (by omega)
end
section
/-! a line of a town *-/
theorem TD_W {D : NN} {a g : Nat} (h : TD D) (h3 : D 0 3 < 5) (ha : a ≤ 99) (hg : g ≤ 9) : TD (DW D a g) := by
  obtain ⟨k1, k2, k3, k4, k5, k6⟩ := h
  refine ⟨?_, k2, k3, k4, k5, fun i hi => ?_⟩
  · have e : DW D a g 0 3 = D 0 3 + 1 := rfl
    have e0 : DW D a g 0 0 = D 0 0 ∧ DW D a g 0 1 = D 0 1 ∧ DW D a g 0 2 = D 0 2 ∧ DW D a g 0 4 = D 0 4 ∧ DW D a g 0 5 = D 0 5 ∧ DW D a g 0 6 = D 0 6 ∧ DW D a g 0 7 = D 0 7 ∧ DW D a g 0 8 = D 0 8 ∧ DW D a g 0 9 = D 0 9 ∧ DW D a g 0 10 = D 0 10 ∧ DW D a g 0 11 = D 0 11 ∧ DW D a g 0 12 = D 0 12 := ⟨rfl, rfl, rfl, rfl, rfl, rfl, rfl, rfl, rfl, rfl, rfl, rfl⟩
    omega
  · have hi' : i < D 0 3 + 1 := hi
    rw [(DW_v D a g i).2.2.2.2.2.2.1, (DW_v D a g i).2.2.2.2.2.2.2]
    by_cases z : i = D 0 3
    · rw [if_pos z, if_pos z]; exact ⟨ha, hg⟩
    · rw [if_neg z, if_neg z]; exact k6 i (by omega)
theorem TV_W {D : NN} {a g : Nat} {σ : ZI} (q : TV 28 D σ) (x1 : σ 35 (D 0 3) = nI a) (x2 : σ 36 (D 0 3) = nI g) : TV 28 (DW D a g) (va_up σ 29 (upd (σ 29) 3 (nI (D 0 3 + 1)))) := by
  obtain ⟨q1, q2, q3, q4⟩ := q
  have gA : ∀ C P, (C ≠ 29 ∨ P ≠ 3) → va_up σ 29 (upd (σ 29) 3 (nI (D 0 3 + 1))) C P = σ C P := fun C P z => up_ne σ z
  refine ⟨fun i hi => ?_, fun i hi => ?_, fun i hi => ?_, fun i hi => ?_⟩
  · rw [(DW_v D a g i).1]
    by_cases z : i = 3
    · subst z; rw [if_pos rfl]; exact up_same _ _ _ _
    · rw [if_neg z]; exact (gA _ _ (.inr z)).trans (q1 i hi)
  · have := q2 i hi
    exact ⟨(gA _ _ (.inl (by decide))).trans this.1, (gA _ _ (.inl (by decide))).trans this.2.1, (gA _ _ (.inl (by decide))).trans this.2.2⟩
  · have := q3 i hi
    exact ⟨(gA _ _ (.inl (by decide))).trans this.1, (gA _ _ (.inl (by decide))).trans this.2⟩
  · have hi' : i < D 0 3 + 1 := hi
    rw [(DW_v D a g i).2.2.2.2.2.2.1, (DW_v D a g i).2.2.2.2.2.2.2, gA _ _ (.inl (by decide)), gA _ _ (.inl (by decide))]
    by_cases z : i = D 0 3
    · rw [if_pos z, if_pos z, z]; exact ⟨x1, x2⟩
    · rw [if_neg z, if_neg z]; exact q4 i (by omega)
/-- a write of the class behind what is told -/
theorem CSb_out {n : Nat} {b : Nat → Nat} {p : Nat} {D : NN} {σ : ZI} {c i : Nat} {v : Int32} (ho : (30 ≤ c ∧ c ≤ 32 ∧ D 0 1 ≤ i) ∨ (33 ≤ c ∧ c ≤ 34 ∧ D 0 2 ≤ i) ∨ (35 ≤ c ∧ c ≤ 36 ∧ D 0 3 ≤ i)) (q : CSb n b p D σ) : CSb n b p D (va_up σ c (upd (σ c) i v)) := by
  refine CSb_set (by omega) q ?_
  obtain ⟨q1, q2, q3, q4⟩ := q.2.2.2
  refine ⟨fun k hk => (up_ne σ (.inl (by omega))).trans (q1 k hk), fun k hk => ?_, fun k hk => ?_, fun k hk => ?_⟩
  · have := q2 k hk
    exact ⟨(up_ne σ (by omega)).trans this.1, (up_ne σ (by omega)).trans this.2.1, (up_ne σ (by omega)).trans this.2.2⟩
  · have := q3 k hk
    exact ⟨(up_ne σ (by omega)).trans this.1, (up_ne σ (by omega)).trans this.2⟩
  · have := q4 k hk
    exact ⟨(up_ne σ (by omega)).trans this.1, (up_ne σ (by omega)).trans this.2⟩
theorem CSb_29 {n : Nat} {b : Nat → Nat} {p : Nat} {D D' : NN} {σ : ZI} {i : Nat} {v : Int32} (q : CSb n b p D σ) (h : TV 28 D' (va_up σ 29 (upd (σ 29) i v))) : CSb n b p D' (va_up σ 29 (upd (σ 29) i v)) := CSb_set (c := 29) (by omega) q h
def twR (s : ZI) (w : Int32) : Option ZI := if inB (6 + s 60 17) 18 = true then lt_ (va_up s 66 (upd (s 66) (6 + s 60 17).toNatClampNeg w)) (fun σ4 => (f_X8_number σ4 0 9).bind fun q5 => if inB (σ4 60 17) 5 = true then lt_ (va_up q5.2 69 (upd (q5.2 69) (σ4 60 17).toNatClampNeg q5.1)) (fun σ6 => lt_ (va_up σ6 60 (upd (σ6 60) 17 ((σ6 60 17) + 1))) some) else none) else none
theorem twR_e {s : ZI} {M : Nat} (hM : M < 5) (e : s 60 17 = nI M) (w : Int32) : twR s w = (f_X8_number (va_up s 66 (upd (s 66) (6 + M) w)) 0 9).bind fun q5 => lt_ (va_up q5.2 69 (upd (q5.2 69) M q5.1)) (fun σ6 => lt_ (va_up σ6 60 (upd (σ6 60) 17 ((σ6 60 17) + 1))) some) := by
  unfold twR
  have e2 : va_up s 66 (upd (s 66) (6 + M) w) 60 17 = nI M := (up_ne s (.inl (by decide))).trans e
  rw [e, show (6 : Int32) + nI M = nI (6 + M) from nI_add 6 M, inB_n (by omega) (by omega), if_pos rfl, nI_clamp (by omega), ltq, e2, inB_n (by omega) (by omega), nI_clamp (by omega)]
  simp only [if_true]
theorem twR_b {s : ZI} {M f q : Nat} (hf : 1 ≤ f) (hf2 : f < 10) (hM : M < 5) (e : s 60 17 = nI M) (h : BR f q s) (w : Int32) : ∃ σ', twR s w = some σ' ∧ Sg s σ' ∧ BR f q σ' := by
  rw [twR_e hM e, num8_b hf hf2 (BR_up (.inl (by decide)) h), bso, ltq, ltq]
  exact ⟨_, rfl, up_sg (up_sg (up_sg (Dw_refl 0 s) (own_6 _ (by decide) (by decide))) (own_6 _ (by decide) (by decide))) rfl, BR_up (.inr (by decide)) (BR_up (.inl (by decide)) (BR_up (.inl (by decide)) h))⟩
theorem twR_n {n : Nat} {b : Nat → Nat} {p a : Nat} {D : NN} {AT MT HJ : Nat} {s : ZI} (h : RSb n b D AT MT HJ s) (hp : p ≤ n) (y : RY n b p s) (tD : TD D) (h3 : D 0 3 < 5) : (nf n b p 0 9 ≠ 0 → ∃ σ', twR s (nI a) = some σ' ∧ Sg s σ' ∧ BR (nf n b p 0 9) (hd n b p) σ') ∧ (nf n b p 0 9 = 0 → ∃ σ', twR s (nI a) = some σ' ∧ Sg s σ' ∧ RSb n b (DW D a (VV n b p)) AT MT HJ σ' ∧ RY n b (en n b p) σ' ∧ σ' 60 18 = s 60 18) := by
  have tb := TD_TB tD
  have tb3 := tb.1
  have tb4 := tb.2.1
  have e : s 60 17 = nI (D 0 3) := h.2.2.2.1.2.2.2.1
  have r1 : RSb n b D AT MT HJ (va_up s 66 (upd (s 66) (6 + D 0 3) (nI a))) := RSb_out (.inr (.inr (.inl ⟨rfl, Nat.le_refl _, by omega⟩))) tb h
  have y1 : RY n b p (va_up s 66 (upd (s 66) (6 + D 0 3) (nI a))) := RY_up (.inl (by decide)) y
  have s0 : Sg s (va_up s 66 (upd (s 66) (6 + D 0 3) (nI a))) := up_sg (Dw_refl 0 s) (own_6 _ (by decide) (by decide))
  obtain ⟨t1, t2⟩ := num8 (lo := 0) (hi := 9) r1.1 hp y1 (by omega) (by omega)
  refine ⟨fun z => ?_, fun z => ?_⟩
  · obtain ⟨s1, x1, x2, x3⟩ := t1 z
    rw [twR_e h3 e, show f_X8_number _ 0 9 = _ from x1, bso, ltq, ltq]
    exact ⟨_, rfl, Dw_tr s0 (up_sg (up_sg (FrJ_sg (Fr8_J x2)) (own_6 _ (by decide) (by decide))) rfl), BR_up (.inr (by decide)) (BR_up (.inl (by decide)) x3)⟩
  · obtain ⟨s1, x1, x2, x3⟩ := t2 z
    have r2 := RSb_fr x2 r1
    have r3 : RSb n b D AT MT HJ (va_up s1 69 (upd (s1 69) (D 0 3) (nI (VV n b p)))) := RSb_out (.inr (.inr (.inr (.inr (.inr ⟨rfl, Nat.le_refl _⟩))))) tb r2
    have e2 : va_up s1 69 (upd (s1 69) (D 0 3) (nI (VV n b p))) 60 17 = nI (D 0 3) := r3.2.2.2.1.2.2.2.1
    rw [twR_e h3 e, show f_X8_number _ 0 9 = _ from x1, bso, ltq, ltq, e2, nI_1]
    refine ⟨_, rfl, Dw_tr s0 (up_sg (up_sg (FrJ_sg (Fr8_J x2)) (own_6 _ (by decide) (by decide))) rfl), RSb_W1 tb r3 ?_ (up_same _ _ _ _), RY_up (.inr (by decide)) (RY_up (.inl (by decide)) x3), ?_⟩
    · exact (up_ne s1 (.inl (by decide))).trans ((x2 _ _ (by omega)).trans (up_same _ _ _ _))
    · exact (up_ne _ (.inr (by decide))).trans ((up_ne _ (.inl (by decide))).trans ((x2 _ _ (by omega)).trans (up_ne _ (.inl (by decide)))))
theorem bo_w {kq n : Nat} {b : Nat → Nat} {p : Nat} {D : NN} {AT MT HJ : Nat} (hp : p ≤ n) (tD : TD D) (lk : LK D AT MT HJ) (h3 : D 0 3 < 5) : BO kq n b p D AT MT HJ (fun σ => f_X2_readTown σ) (fun σ => f_X8_readMore σ 9) := by
  have he := en_ge n b hp
  have hh := hd_ge n b hp
  have tb := TD_TB tD
  have hrb : ∀ σ : ZI, σ 60 17 = nI (D 0 3) → f_X8_readMore σ 9 = (f_X8_number σ 0 99).bind fun q => if inB (6 + nI (D 0 3)) 18 = true then lt_ (va_up q.2 66 (upd (q.2 66) (6 + nI (D 0 3)).toNatClampNeg q.1)) (fun σ4 => (f_X8_number σ4 0 9).bind fun q5 => if inB (σ4 60 17) 5 = true then lt_ (va_up q5.2 69 (upd (q5.2 69) (σ4 60 17).toNatClampNeg q5.1)) (fun σ6 => lt_ (va_up σ6 60 (upd (σ6 60) 17 ((σ6 60 17) + 1))) some) else none) else none := fun σ e => by
    unfold f_X8_readMore
    rw [if_neg (by decide), if_neg (by decide), if_pos rfl, e]
  have tw : ∀ (s : ZI) (w : Int32), s 60 17 = nI (D 0 3) → (if inB (6 + nI (D 0 3)) 18 = true then lt_ (va_up s 66 (upd (s 66) (6 + nI (D 0 3)).toNatClampNeg w)) (fun σ4 => (f_X8_number σ4 0 9).bind fun q5 => if inB (σ4 60 17) 5 = true then lt_ (va_up q5.2 69 (upd (q5.2 69) (σ4 60 17).toNatClampNeg q5.1)) (fun σ6 => lt_ (va_up σ6 60 (upd (σ6 60) 17 ((σ6 60 17) + 1))) some) else none) else none : Option ZI) = twR s w := fun s w e => by
    unfold twR
    rw [e]
  by_cases z : nf n b p 0 99 = 0
  · have nz := nf_0 z
    have hh2 := hd_ge n b he.2.1
    have he2 := en_ge n b he.2.1
    have cl : ∀ σ, CSb n b p D σ → ∃ s1, f_X2_readTown σ = (f_X2_takeNumber s1 0 9).bind (fun q2 => if q2.1 = (-1 : Int32) then (some ((0 : Int32), q2.2)) else ((f_X6_value q2.2 28 (3 : Int32)).bind (fun q3 => (f_X7_put q2.2 35 q3 (nI (VV n b p))).bind (fun q4 => (f_X7_put q4 36 q3 q2.1).bind (fun q5 => (f_X6_become q5 28 (3 : Int32) (q3 + (1 : Int32))).bind (fun q6 => some ((1 : Int32), q6))))))) ∧ F7 σ s1 ∧ CSb n b (en n b p) D s1 := by
      intro σ h
      obtain ⟨s1, x1, x2, x3⟩ := (tn7 (lo := 0) (hi := 99) h.1 hp h.2.1 (by omega) (by omega)).2 z
      refine ⟨s1, ?_, x2, CSb_F7 x2 x3.2.1 h⟩
      unfold f_X2_readTown
      rw [show f_X2_takeNumber σ 0 99 = _ from x1, bso, if_neg (nm1 (by omega))]
    have rl : ∀ σ, RSb n b D AT MT HJ σ → RY n b p σ → ∃ s1, f_X8_readMore σ 9 = twR s1 (nI (VV n b p)) ∧ Sg σ s1 ∧ RSb n b D AT MT HJ s1 ∧ RY n b (en n b p) s1 ∧ s1 60 18 = σ 60 18 := by
      intro σ h y
      obtain ⟨s1, x1, x2, x3⟩ := (num8 (lo := 0) (hi := 99) h.1 hp y (by omega) (by omega)).2 z
      have r2 := RSb_fr x2 h
      exact ⟨s1, by rw [hrb σ h.2.2.2.1.2.2.2.1, show f_X8_number σ 0 99 = _ from x1, bso]; exact tw s1 _ r2.2.2.2.1.2.2.2.1, FrJ_sg (Fr8_J x2), r2, x3, x2 60 18 (by omega)⟩
    by_cases z2 : nf n b (en n b p) 0 9 = 0
    · have nz2 := nf_0 z2
      refine .inr ⟨DW D (VV n b p) (VV n b (en n b p)), en n b (en n b p), AT, MT, HJ, by omega, he2.2.1, TD_W tD h3 nz.2.2 nz2.2.2, lk, fun _ => rfl, fun σ h => ?_, fun σ h y => ?_⟩
      · obtain ⟨s1, x1, x2, x3⟩ := cl σ h
        obtain ⟨s2, y1, y2, y3⟩ := (tn7 (lo := 0) (hi := 9) x3.1 he.2.1 x3.2.1 (by omega) (by omega)).2 z2
        have c2 := CSb_F7 y2 y3.2.1 x3
        have c3 : CSb n b (en n b (en n b p)) D (va_up s2 35 (upd (s2 35) (D 0 3) (nI (VV n b p)))) := CSb_out (.inr (.inr ⟨by omega, by omega, Nat.le_refl _⟩)) c2
        have c4 := CSb_out (c := 36) (i := D 0 3) (v := nI (VV n b (en n b p))) (.inr (.inr ⟨by omega, by omega, Nat.le_refl _⟩)) c3
        have e3 : s2 29 3 = nI (D 0 3) := c2.2.2.2.1 3 (by omega)
        have c5 := CSb_29 c4 (TV_W (a := VV n b p) (g := VV n b (en n b p)) c4.2.2.2 ((up_ne _ (.inl (by decide))).trans (up_same _ _ _ _)) (up_same _ _ _ _))
        refine ⟨_, ?_, ?_, c5, ?_⟩
        · dsimp only
          rw [x1, show f_X2_takeNumber s1 0 9 = _ from y1, bso, if_neg (nm1 (by omega))]
          dsimp only
          rw [v28_3, bso, e3, put_n (N := 5) rfl h3 (by omega), bso, put_n (N := 5) rfl h3 (by omega), bso, nI_1, show f_X6_become _ 28 3 _ = _ from bec_n (b := 28) (k := 3) rfl rfl (by omega), bso]
        · exact up_sg (up_sg (up_sg (Dw_tr (Ff_sg (F7_Ff x2)) (Ff_sg (F7_Ff y2))) (own_d _ (by omega) (by omega))) (own_d _ (by omega) (by omega))) (own_d _ (by omega) (by omega))
        · exact (up_ne _ (.inl (by decide))).trans ((up_ne _ (.inl (by decide))).trans ((up_ne _ (.inl (by decide))).trans ((y2 39 2 (by omega)).trans (x2 39 2 (by omega)))))
      · obtain ⟨s1, x1, x2, x3, x4, x5⟩ := rl σ h y
        obtain ⟨s2, y1, y2, y3, y4, y5⟩ := (twR_n (a := VV n b p) x3 he.2.1 x4 tD h3).2 z2
        exact ⟨s2, x1.trans y1, Dw_tr x2 y2, y3, y4, y5.trans x5⟩
    · have := nf_le n b (en n b p) 0 9
      refine .inl ⟨nf n b (en n b p) 0 9, hd n b (en n b p), by omega, by omega, hh2.2, fun σ h => ?_, fun σ h y => ?_⟩
      · obtain ⟨s1, x1, x2, x3⟩ := cl σ h
        obtain ⟨s2, y1, y2, y3⟩ := (tn7 (lo := 0) (hi := 9) x3.1 he.2.1 x3.2.1 (by omega) (by omega)).1 z2
        refine ⟨s2, ?_, Dw_tr (Ff_sg (F7_Ff x2)) (Ff_sg y2), y3⟩
        dsimp only
        rw [x1, show f_X2_takeNumber s1 0 9 = _ from y1, bso, if_pos rfl]
      · obtain ⟨s1, x1, x2, x3, x4, x5⟩ := rl σ h y
        obtain ⟨s2, y1, y2, y3⟩ := (twR_n (a := VV n b p) x3 he.2.1 x4 tD h3).1 z2
        exact ⟨s2, x1.trans y1, Dw_tr x2 y2, y3⟩
  · have := nf_le n b p 0 99
    refine .inl ⟨nf n b p 0 99, hd n b p, by omega, by omega, hh.2, fun σ h => ?_, fun σ h y => ?_⟩
    · obtain ⟨s1, x1, x2, x3⟩ := (tn7 (lo := 0) (hi := 99) h.1 hp h.2.1 (by omega) (by omega)).1 z
      refine ⟨s1, ?_, Ff_sg x2, x3⟩
      dsimp only
      unfold f_X2_readTown
      rw [show f_X2_takeNumber σ 0 99 = _ from x1, bso, if_pos rfl]
    · obtain ⟨s1, x1, x2, x3⟩ := (num8 (lo := 0) (hi := 99) h.1 hp y (by omega) (by omega)).1 z
      have e17 : s1 60 17 = nI (D 0 3) := (x2 60 17 (by omega)).trans h.2.2.2.1.2.2.2.1
      obtain ⟨s2, y1, y2, y3⟩ := twR_b (f := nf n b p 0 99) (by omega) (by omega) h3 e17 x3 0
      refine ⟨s2, ?_, Dw_tr (FrJ_sg (Fr8_J x2)) y2, y3⟩
      dsimp only
      rw [hrb σ h.2.2.2.1.2.2.2.1, show f_X8_number σ 0 99 = _ from x1, bso]
      exact (tw s1 _ e17).trans y1
end
section
/-! a line of a mark *-/
theorem nd_b {D : NN} {M r c S v : Nat} (hS : ∀ j, j < 10 → (S.testBit j = true ↔ ∃ i, i < D 0 c ∧ D r i = j + 1)) (hM : M = D 0 c) (h1 : 1 ≤ v) (hv : v ≤ 10) : (S.testBit (v - 1) = true → fi (fun m => D r m == v) M < M) ∧ (S.testBit (v - 1) = false → ¬ fi (fun m => D r m == v) M < M ∧ ∀ i, i < M → D r i ≠ v) := by
  have h := hS (v - 1) (by omega)
  rw [show v - 1 + 1 = v by omega, ← hM] at h
  refine ⟨fun z => ?_, fun z => ⟨fun w => ?_, fun i hi w => ?_⟩⟩
  · obtain ⟨i, i1, i2⟩ := h.1 z
    have l := fi_le (fun m => D r m == v) M
    by_cases w : fi (fun m => D r m == v) M < M
    · exact w
    · have := fi_no (p := fun m => D r m == v) (n := M) (k := i) (by omega)
      rw [i2] at this
      simp at this
  · have := fi_yes w
    have q := h.2 ⟨_, w, by simpa using this⟩
    rw [z] at q; exact absurd q (by decide)
  · have q := h.2 ⟨i, hi, w⟩
    rw [z] at q; exact absurd q (by decide)
theorem TD_M {D : NN} {j v : Nat} (h : TD D) (h3 : D 0 2 < 3) (h1 : 1 ≤ j) (hj : j ≤ 10) (hv : v ≤ 10) (hn : ∀ i, i < D 0 2 → D 4 i ≠ j) : TD (DM D j v) := by
  obtain ⟨k1, k2, k3, k4, k5, k6⟩ := h
  refine ⟨?_, k2, k3, fun i hi => ?_, fun i k hi hk => ?_, k6⟩
  · have e : DM D j v 0 2 = D 0 2 + 1 := rfl
    have e0 : DM D j v 0 0 = D 0 0 ∧ DM D j v 0 1 = D 0 1 ∧ DM D j v 0 3 = D 0 3 ∧ DM D j v 0 4 = D 0 4 ∧ DM D j v 0 5 = D 0 5 ∧ DM D j v 0 6 = D 0 6 ∧ DM D j v 0 7 = D 0 7 ∧ DM D j v 0 8 = D 0 8 ∧ DM D j v 0 9 = D 0 9 ∧ DM D j v 0 10 = D 0 10 ∧ DM D j v 0 11 = D 0 11 ∧ DM D j v 0 12 = D 0 12 := ⟨rfl, rfl, rfl, rfl, rfl, rfl, rfl, rfl, rfl, rfl, rfl, rfl⟩
    omega
  · have hi' : i < D 0 2 + 1 := hi
    rw [(DM_v D j v i).2.2.2.2.1, (DM_v D j v i).2.2.2.2.2.1]
    by_cases z : i = D 0 2
    · rw [if_pos z, if_pos z]; exact ⟨h1, hj, hv⟩
    · rw [if_neg z, if_neg z]; exact k4 i (by omega)
  · have hi' : i < D 0 2 + 1 := hi
    have hk' : k < D 0 2 + 1 := hk
    rw [(DM_v D j v i).2.2.2.2.1, (DM_v D j v k).2.2.2.2.1]
    by_cases z : i = D 0 2
    · by_cases w : k = D 0 2
      · intro _; omega
      · rw [if_pos z, if_neg w]; exact fun q => absurd q.symm (hn k (by omega))
    · by_cases w : k = D 0 2
      · rw [if_neg z, if_pos w]; exact fun q => absurd q (hn i (by omega))
      · rw [if_neg z, if_neg w]; exact k5 i k (by omega) (by omega)
theorem LK_M {D : NN} {AT MT HJ j v : Nat} (h1 : 1 ≤ j) (hj : j ≤ 10) (h : LK D AT MT HJ) : LK (DM D j v) AT (MT ||| 2 ^ (j - 1)) (max HJ j) := by
  obtain ⟨h1', h2, h3, h4, h5, h6⟩ := h
  refine ⟨h1', or_lt h2 h1 hj, by omega, h4, fun k hk => ?_, fun J => ?_⟩
  · rw [or_b h1, h5 k hk]
    constructor
    · rintro (⟨i, i1, i2⟩ | w)
      · exact ⟨i, (by omega : i < D 0 2 + 1), by rw [(DM_v D j v i).2.2.2.2.1, if_neg (by omega)]; exact i2⟩
      · exact ⟨D 0 2, (by omega : D 0 2 < D 0 2 + 1), by rw [(DM_v D j v _).2.2.2.2.1, if_pos rfl]; exact w.symm⟩
    · rintro ⟨i, i1, i2⟩
      have i1' : i < D 0 2 + 1 := i1
      rw [(DM_v D j v i).2.2.2.2.1] at i2
      by_cases z : i = D 0 2
      · rw [if_pos z] at i2; exact .inr i2.symm
      · rw [if_neg z] at i2; exact .inl ⟨i, by omega, i2⟩
  · have := h6 J
    constructor
    · intro q
      obtain ⟨a1, a2, a3, a4⟩ := this.1 (by omega)
      refine ⟨a1, a2, fun i hi => ?_, a4⟩
      have hi' : i < D 0 2 + 1 := hi
      rw [(DM_v D j v i).2.2.2.2.1]
      by_cases z : i = D 0 2
      · rw [if_pos z]; omega
      · rw [if_neg z]; exact a3 i (by omega)
    · rintro ⟨a1, a2, a3, a4⟩
      have l1 := this.2 ⟨a1, a2, fun i hi => by
        have := a3 i (by omega : i < D 0 2 + 1)
        rw [(DM_v D j v i).2.2.2.2.1, if_neg (by omega)] at this
        exact this, a4⟩
      have l2 := a3 (D 0 2) (by omega : D 0 2 < D 0 2 + 1)
      rw [(DM_v D j v _).2.2.2.2.1, if_pos rfl] at l2
      omega
theorem TV_M {D : NN} {j v : Nat} {σ : ZI} (q : TV 28 D σ) (x1 : σ 33 (D 0 2) = nI j) (x2 : σ 34 (D 0 2) = nI v) : TV 28 (DM D j v) (va_up σ 29 (upd (σ 29) 2 (nI (D 0 2 + 1)))) := by
  obtain ⟨q1, q2, q3, q4⟩ := q
  have gA : ∀ C P, (C ≠ 29 ∨ P ≠ 2) → va_up σ 29 (upd (σ 29) 2 (nI (D 0 2 + 1))) C P = σ C P := fun C P z => up_ne σ z
  refine ⟨fun i hi => ?_, fun i hi => ?_, fun i hi => ?_, fun i hi => ?_⟩
  · rw [(DM_v D j v i).1]
    by_cases z : i = 2
    · subst z; rw [if_pos rfl]; exact up_same _ _ _ _
    · rw [if_neg z]; exact (gA _ _ (.inr z)).trans (q1 i hi)
  · have := q2 i hi
    exact ⟨(gA _ _ (.inl (by decide))).trans this.1, (gA _ _ (.inl (by decide))).trans this.2.1, (gA _ _ (.inl (by decide))).trans this.2.2⟩
  · have hi' : i < D 0 2 + 1 := hi
    rw [(DM_v D j v i).2.2.2.2.1, (DM_v D j v i).2.2.2.2.2.1, gA _ _ (.inl (by decide)), gA _ _ (.inl (by decide))]
    by_cases z : i = D 0 2
    · rw [if_pos z, if_pos z, z]; exact ⟨x1, x2⟩
    · rw [if_neg z, if_neg z]; exact q3 i (by omega)
  · have := q4 i hi
    exact ⟨(gA _ _ (.inl (by decide))).trans this.1, (gA _ _ (.inl (by decide))).trans this.2⟩
def mkR (s : ZI) (w : Int32) : Option ZI := if inB (s 60 16) 3 = true then lt_ (va_up s 68 (upd (s 68) (s 60 16).toNatClampNeg w)) (fun σ10 => (f_X8_number σ10 0 10).bind fun q11 => if inB (3 + σ10 60 16) 18 = true then lt_ (va_up q11.2 66 (upd (q11.2 66) (3 + σ10 60 16).toNatClampNeg q11.1)) (fun σ12 => lt_ (va_up σ12 60 (upd (σ12 60) 16 ((σ12 60 16) + 1))) some) else none) else none
theorem mkR_e {s : ZI} {M : Nat} (hM : M < 3) (e : s 60 16 = nI M) (w : Int32) : mkR s w = (f_X8_number (va_up s 68 (upd (s 68) M w)) 0 10).bind fun q5 => lt_ (va_up q5.2 66 (upd (q5.2 66) (3 + M) q5.1)) (fun σ6 => lt_ (va_up σ6 60 (upd (σ6 60) 16 ((σ6 60 16) + 1))) some) := by
  unfold mkR
  have e2 : va_up s 68 (upd (s 68) M w) 60 16 = nI M := (up_ne s (.inl (by decide))).trans e
  rw [e, inB_n (by omega) (by omega), if_pos rfl, nI_clamp (by omega), ltq, e2, show (3 : Int32) + nI M = nI (3 + M) from nI_add 3 M, inB_n (by omega) (by omega), nI_clamp (by omega)]
  simp only [if_true]
theorem mkR_b {s : ZI} {M f q : Nat} (hf : 1 ≤ f) (hf2 : f < 10) (hM : M < 3) (e : s 60 16 = nI M) (h : BR f q s) (w : Int32) : ∃ σ', mkR s w = some σ' ∧ Sg s σ' ∧ BR f q σ' := by
  rw [mkR_e hM e, num8_b hf hf2 (BR_up (.inl (by decide)) h), bso, ltq, ltq]
  exact ⟨_, rfl, up_sg (up_sg (up_sg (Dw_refl 0 s) (own_6 _ (by decide) (by decide))) (own_6 _ (by decide) (by decide))) rfl, BR_up (.inr (by decide)) (BR_up (.inl (by decide)) (BR_up (.inl (by decide)) h))⟩
theorem mkR_n {n : Nat} {b : Nat → Nat} {p j : Nat} {D : NN} {AT MT HJ : Nat} {s : ZI} (h : RSb n b D AT MT HJ s) (hp : p ≤ n) (y : RY n b p s) (tD : TD D) (h3 : D 0 2 < 3) : (nf n b p 0 10 ≠ 0 → ∃ σ', mkR s (nI j) = some σ' ∧ Sg s σ' ∧ BR (nf n b p 0 10) (hd n b p) σ') ∧ (nf n b p 0 10 = 0 → ∃ σ', mkR s (nI j) = some σ' ∧ Sg s σ' ∧ RSb n b (DM D j (VV n b p)) AT MT HJ σ' ∧ RY n b (en n b p) σ' ∧ σ' 60 18 = s 60 18) := by
  have tb := TD_TB tD
  have tb3 := tb.1
  have tb4 := tb.2.2
  have e : s 60 16 = nI (D 0 2) := h.2.2.2.1.2.2.1
  have r1 : RSb n b D AT MT HJ (va_up s 68 (upd (s 68) (D 0 2) (nI j))) := RSb_out (.inr (.inr (.inr (.inr (.inl ⟨rfl, Nat.le_refl _⟩))))) tb h
  have y1 : RY n b p (va_up s 68 (upd (s 68) (D 0 2) (nI j))) := RY_up (.inl (by decide)) y
  have s0 : Sg s (va_up s 68 (upd (s 68) (D 0 2) (nI j))) := up_sg (Dw_refl 0 s) (own_6 _ (by decide) (by decide))
  obtain ⟨t1, t2⟩ := num8 (lo := 0) (hi := 10) r1.1 hp y1 (by omega) (by omega)
  refine ⟨fun z => ?_, fun z => ?_⟩
  · obtain ⟨s1, x1, x2, x3⟩ := t1 z
    rw [mkR_e h3 e, show f_X8_number _ 0 10 = _ from x1, bso, ltq, ltq]
    exact ⟨_, rfl, Dw_tr s0 (up_sg (up_sg (FrJ_sg (Fr8_J x2)) (own_6 _ (by decide) (by decide))) rfl), BR_up (.inr (by decide)) (BR_up (.inl (by decide)) x3)⟩
  · obtain ⟨s1, x1, x2, x3⟩ := t2 z
    have r2 := RSb_fr x2 r1
    have r3 : RSb n b D AT MT HJ (va_up s1 66 (upd (s1 66) (3 + D 0 2) (nI (VV n b p)))) := RSb_out (.inr (.inl ⟨rfl, Nat.le_refl _, by omega⟩)) tb r2
    have e2 : va_up s1 66 (upd (s1 66) (3 + D 0 2) (nI (VV n b p))) 60 16 = nI (D 0 2) := r3.2.2.2.1.2.2.1
    rw [mkR_e h3 e, show f_X8_number _ 0 10 = _ from x1, bso, ltq, ltq, e2, nI_1]
    refine ⟨_, rfl, Dw_tr s0 (up_sg (up_sg (FrJ_sg (Fr8_J x2)) (own_6 _ (by decide) (by decide))) rfl), RSb_M1 tb r3 ?_ (up_same _ _ _ _), RY_up (.inr (by decide)) (RY_up (.inl (by decide)) x3), ?_⟩
    · exact (up_ne s1 (.inl (by decide))).trans ((x2 _ _ (by omega)).trans (up_same _ _ _ _))
    · exact (up_ne _ (.inr (by decide))).trans ((up_ne _ (.inl (by decide))).trans ((x2 _ _ (by omega)).trans (up_ne _ (.inl (by decide)))))
theorem bo_k {kq n : Nat} {b : Nat → Nat} {p : Nat} {D : NN} {AT MT HJ : Nat} (hp : p ≤ n) (tD : TD D) (lk : LK D AT MT HJ) (h3 : D 0 2 < 3) : BO kq n b p D AT MT HJ (fun σ => f_X2_readMark σ) (fun σ => f_X8_readMore σ 8) := by
  have he := en_ge n b hp
  have hh := hd_ge n b hp
  have tb := TD_TB tD
  have hrb : ∀ σ : ZI, f_X8_readMore σ 8 = (f_X8_jointHere σ (σ 60 20)).bind fun q => lt_ (va_up q.2 60 (upd (q.2 60) 20 ((q.2 60 20) ||| ((1 : Int32) <<< ((q.1 - 1) &&& 31))))) fun σ9 => mkR σ9 q.1 := fun σ => by
    unfold f_X8_readMore mkR
    rw [if_neg (by decide), if_pos rfl]
  have brk : ∀ σ f q, 1 ≤ f → f < 10 → RSb n b D AT MT HJ σ → (∃ v s1, f_X8_jointHere σ (nI MT) = some (nI v, s1) ∧ 1 ≤ v ∧ v ≤ 10 ∧ FrJ σ s1 ∧ BR f q s1) → ∃ σ', f_X8_readMore σ 8 = some σ' ∧ Sg σ σ' ∧ BR f q σ' := by
    rintro σ f q hf hf2 h ⟨v, s1, x1, x2, x3, x4, x5⟩
    have e16 : σ 60 16 = nI (D 0 2) := h.2.2.2.1.2.2.1
    have e20 : σ 60 20 = nI MT := h.2.2.2.2.2.2.1
    obtain ⟨s2, y1, y2, y3⟩ := mkR_b (s := va_up s1 60 (upd (s1 60) 20 ((s1 60 20) ||| ((1 : Int32) <<< ((nI v - 1) &&& 31))))) hf hf2 h3 ((up_ne s1 (.inr (by decide))).trans ((x4 60 16 (by omega)).trans e16)) (BR_up (.inr (by decide)) x5) (nI v)
    exact ⟨s2, by rw [hrb, e20, x1, bso, ltq]; exact y1, Dw_tr (up_sg (FrJ_sg x4) rfl) y2, y3⟩
  have cl : ∀ σ, CSb n b p D σ → nf n b p 1 10 = 0 → ∃ s1, f_X2_readMark σ = ((f_X6_markAt s1 28 (nI (VV n b p))).bind (fun q2 => if q2 = (-4 : Int32) then ((f_X2_takeNumber s1 (0 : Int32) (10 : Int32)).bind (fun q3 => if q3.1 = (-1 : Int32) then (some ((0 : Int32), q3.2)) else ((f_X6_value q3.2 28 (2 : Int32)).bind (fun q4 => (f_X7_put q3.2 33 q4 (nI (VV n b p))).bind (fun q5 => (f_X7_put q5 34 q4 q3.1).bind (fun q6 => (f_X6_become q6 28 (2 : Int32) (q4 + (1 : Int32))).bind (fun q7 => some ((1 : Int32), q7)))))))) else ((f_X2_refuse s1 (4 : Int32)).bind (fun q8 => if q8.1 = 0 ∨ q8.1 = 1 then some (q8.1, q8.2) else none)))) ∧ F7 σ s1 ∧ At7 n b p s1 ∧ CSb n b (en n b p) D s1 ∧ f_X6_markAt s1 28 (nI (VV n b p)) = some (if fi (fun m => D 4 m == VV n b p) (D 0 2) < D 0 2 then nI (fi (fun m => D 4 m == VV n b p) (D 0 2)) else -4) := by
    intro σ h z
    have nz := nf_0 z
    obtain ⟨s1, x1, x2, x3⟩ := (tn7 (lo := 1) (hi := 10) h.1 hp h.2.1 (by omega) (by omega)).2 z
    have c1 := CSb_F7 x2 x3.2.1 h
    refine ⟨s1, ?_, x2, x3, c1, mk_n rfl rfl rfl (by omega) (by omega) (c1.2.2.2.1 2 (by omega)) (fun m hm => ⟨by have := tD.2.2.2.1 m hm; omega, (c1.2.2.2.2.2.1 m hm).1⟩)⟩
    unfold f_X2_readMark
    rw [show f_X2_takeNumber σ 1 10 = _ from x1, bso, if_neg (nm1 (by omega))]
  rcases jc7 (n := n) (b := b) (p := p) (s := MT) with ⟨z, z2, z3⟩ | ⟨z, z2, z3, z4⟩ | ⟨z, z2, z3⟩
  · have f1 := nf_le n b p 1 10
    refine .inl ⟨nf n b p 1 10, hd n b p, by omega, by omega, hh.2, fun σ h => ?_, fun σ h y => ?_⟩
    · obtain ⟨s1, x1, x2, x3⟩ := (tn7 (lo := 1) (hi := 10) h.1 hp h.2.1 (by omega) (by omega)).1 z2
      refine ⟨s1, ?_, Ff_sg x2, x3⟩
      dsimp only
      unfold f_X2_readMark
      rw [show f_X2_takeNumber σ 1 10 = _ from x1, bso, if_pos rfl]
    · have := (jh8 h.1 hp y (s := MT) lk.2.1 lk.2.2.1 h.2.2.2.2.2.2.2).1 z
      rw [z3] at this
      exact brk σ _ _ (by omega) (by omega) h this
  · have nz := nf_0 z2
    have nd := (nd_b lk.2.2.2.2.1 (rfl : D 0 2 = D 0 2) nz.2.1 nz.2.2).1 z3
    refine .inl ⟨4, hd n b p, by omega, by omega, hh.2, fun σ h => ?_, fun σ h y => ?_⟩
    · obtain ⟨s1, x1, x2, x3, x4, x5⟩ := cl σ h z2
      obtain ⟨s2, y1, y2, y3⟩ := ref7 s1 4 x3.2.2.2
      refine ⟨s2, ?_, Dw_tr (Ff_sg (F7_Ff x2)) (Ff_sg y2), y3⟩
      dsimp only
      rw [x1, x5, if_pos nd, bso, if_neg (nm4 (by omega)), show f_X2_refuse s1 4 = _ from y1, bso, if_pos (.inl rfl)]
    · have := (jh8 h.1 hp y (s := MT) lk.2.1 lk.2.2.1 h.2.2.2.2.2.2.2).1 z
      rw [z4] at this
      exact brk σ _ _ (by omega) (by omega) h this
  · have nz := nf_0 z2
    have nd := (nd_b lk.2.2.2.2.1 (rfl : D 0 2 = D 0 2) nz.2.1 nz.2.2).2 z3
    have hh2 := hd_ge n b he.2.1
    have he2 := en_ge n b he.2.1
    have mt := lk.2.1
    have cl2 : ∀ σ, CSb n b p D σ → ∃ s1, f_X2_readMark σ = ((f_X2_takeNumber s1 (0 : Int32) (10 : Int32)).bind (fun q3 => if q3.1 = (-1 : Int32) then (some ((0 : Int32), q3.2)) else ((f_X6_value q3.2 28 (2 : Int32)).bind (fun q4 => (f_X7_put q3.2 33 q4 (nI (VV n b p))).bind (fun q5 => (f_X7_put q5 34 q4 q3.1).bind (fun q6 => (f_X6_become q6 28 (2 : Int32) (q4 + (1 : Int32))).bind (fun q7 => some ((1 : Int32), q7)))))))) ∧ F7 σ s1 ∧ CSb n b (en n b p) D s1 := by
      intro σ h
      obtain ⟨s1, x1, x2, x3, x4, x5⟩ := cl σ h z2
      exact ⟨s1, by rw [x1, x5, if_neg nd.1, bso, if_pos rfl], x2, x4⟩
    have rl : ∀ σ, RSb n b D AT MT HJ σ → RY n b p σ → ∃ s1, f_X8_readMore σ 8 = mkR s1 (nI (VV n b p)) ∧ Sg σ s1 ∧ RSb n b D AT (MT ||| 2 ^ (VV n b p - 1)) (max HJ (VV n b p)) s1 ∧ RY n b (en n b p) s1 ∧ s1 60 18 = σ 60 18 := by
      intro σ h y
      obtain ⟨s1, x1, x2, x3, x4⟩ := (jh8 h.1 hp y (s := MT) lk.2.1 lk.2.2.1 h.2.2.2.2.2.2.2).2 z
      have e20 : σ 60 20 = nI MT := h.2.2.2.2.2.2.1
      have e20' : s1 60 20 = nI MT := (x2 60 20 (by omega)).trans e20
      have r2 := RSb_J x2 x3 h
      refine ⟨_, by rw [hrb, e20, x1, bso, ltq]; dsimp only; rw [e20', bit_n nz.2.1 nz.2.2, or_n (by omega) (by omega)], up_sg (FrJ_sg x2) rfl, RSb_MT r2, RY_up (.inr (by decide)) x4, (up_ne _ (.inr (by decide))).trans (x2 60 18 (by omega))⟩
    by_cases w2 : nf n b (en n b p) 0 10 = 0
    · have nz2 := nf_0 w2
      refine .inr ⟨DM D (VV n b p) (VV n b (en n b p)), en n b (en n b p), AT, MT ||| 2 ^ (VV n b p - 1), max HJ (VV n b p), by omega, he2.2.1, TD_M tD h3 nz.2.1 nz.2.2 nz2.2.2 nd.2, LK_M nz.2.1 nz.2.2 lk, fun _ => rfl, fun σ h => ?_, fun σ h y => ?_⟩
      · obtain ⟨s1, x1, x2, x3⟩ := cl2 σ h
        obtain ⟨s2, y1, y2, y3⟩ := (tn7 (lo := 0) (hi := 10) x3.1 he.2.1 x3.2.1 (by omega) (by omega)).2 w2
        have c2 := CSb_F7 y2 y3.2.1 x3
        have c3 : CSb n b (en n b (en n b p)) D (va_up s2 33 (upd (s2 33) (D 0 2) (nI (VV n b p)))) := CSb_out (.inr (.inl ⟨by omega, by omega, Nat.le_refl _⟩)) c2
        have c4 := CSb_out (c := 34) (i := D 0 2) (v := nI (VV n b (en n b p))) (.inr (.inl ⟨by omega, by omega, Nat.le_refl _⟩)) c3
        have e3 : s2 29 2 = nI (D 0 2) := c2.2.2.2.1 2 (by omega)
        have c5 := CSb_29 c4 (TV_M (j := VV n b p) (v := VV n b (en n b p)) c4.2.2.2 ((up_ne _ (.inl (by decide))).trans (up_same _ _ _ _)) (up_same _ _ _ _))
        refine ⟨_, ?_, ?_, c5, ?_⟩
        · dsimp only
          rw [x1, show f_X2_takeNumber s1 0 10 = _ from y1, bso, if_neg (nm1 (by omega))]
          dsimp only
          rw [v28_2, bso, e3, put_n (N := 3) rfl h3 (by omega), bso, put_n (N := 3) rfl h3 (by omega), bso, nI_1, show f_X6_become _ 28 2 _ = _ from bec_n (b := 28) (k := 2) rfl rfl (by omega), bso]
        · exact up_sg (up_sg (up_sg (Dw_tr (Ff_sg (F7_Ff x2)) (Ff_sg (F7_Ff y2))) (own_d _ (by omega) (by omega))) (own_d _ (by omega) (by omega))) (own_d _ (by omega) (by omega))
        · exact (up_ne _ (.inl (by decide))).trans ((up_ne _ (.inl (by decide))).trans ((up_ne _ (.inl (by decide))).trans ((y2 39 2 (by omega)).trans (x2 39 2 (by omega)))))
      · obtain ⟨s1, x1, x2, x3, x4, x5⟩ := rl σ h y
        obtain ⟨s2, y1, y2, y3, y4, y5⟩ := (mkR_n (j := VV n b p) x3 he.2.1 x4 tD h3).2 w2
        exact ⟨s2, x1.trans y1, Dw_tr x2 y2, y3, y4, y5.trans x5⟩
    · have := nf_le n b (en n b p) 0 10
      refine .inl ⟨nf n b (en n b p) 0 10, hd n b (en n b p), by omega, by omega, hh2.2, fun σ h => ?_, fun σ h y => ?_⟩
      · obtain ⟨s1, x1, x2, x3⟩ := cl2 σ h
        obtain ⟨s2, y1, y2, y3⟩ := (tn7 (lo := 0) (hi := 10) x3.1 he.2.1 x3.2.1 (by omega) (by omega)).1 w2
        refine ⟨s2, ?_, Dw_tr (Ff_sg (F7_Ff x2)) (Ff_sg y2), y3⟩
        dsimp only
        rw [x1, show f_X2_takeNumber s1 0 10 = _ from y1, bso, if_pos rfl]
      · obtain ⟨s1, x1, x2, x3, x4, x5⟩ := rl σ h y
        obtain ⟨s2, y1, y2, y3⟩ := (mkR_n (j := VV n b p) x3 he.2.1 x4 tD h3).1 w2
        exact ⟨s2, x1.trans y1, Dw_tr x2 y2, y3⟩
end
section
/-! a line of an arm *-/
theorem TD_A {D : NN} {k j g : Nat} (h : TD D) (h3 : D 0 1 < 3) (hk4 : k ≤ 4) (h1 : 1 ≤ j) (hj : j ≤ 10) (hg : g ≤ 9) (hn : ∀ i, i < D 0 1 → D 2 i ≠ j) : TD (DA D k j g) := by
  obtain ⟨k1, k2, k3, k4, k5, k6⟩ := h
  refine ⟨?_, fun i hi => ?_, fun i m hi hm => ?_, k4, k5, k6⟩
  · have e : DA D k j g 0 1 = D 0 1 + 1 := rfl
    have e0 : DA D k j g 0 0 = D 0 0 ∧ DA D k j g 0 2 = D 0 2 ∧ DA D k j g 0 3 = D 0 3 ∧ DA D k j g 0 4 = D 0 4 ∧ DA D k j g 0 5 = D 0 5 ∧ DA D k j g 0 6 = D 0 6 ∧ DA D k j g 0 7 = D 0 7 ∧ DA D k j g 0 8 = D 0 8 ∧ DA D k j g 0 9 = D 0 9 ∧ DA D k j g 0 10 = D 0 10 ∧ DA D k j g 0 11 = D 0 11 ∧ DA D k j g 0 12 = D 0 12 := ⟨rfl, rfl, rfl, rfl, rfl, rfl, rfl, rfl, rfl, rfl, rfl, rfl⟩
    omega
  · have hi' : i < D 0 1 + 1 := hi
    rw [(DA_v D k j g i).2.1, (DA_v D k j g i).2.2.1, (DA_v D k j g i).2.2.2.1]
    by_cases z : i = D 0 1
    · rw [if_pos z, if_pos z, if_pos z]; exact ⟨hk4, h1, hj, hg⟩
    · rw [if_neg z, if_neg z, if_neg z]; exact k2 i (by omega)
  · have hi' : i < D 0 1 + 1 := hi
    have hm' : m < D 0 1 + 1 := hm
    rw [(DA_v D k j g i).2.2.1, (DA_v D k j g m).2.2.1]
    by_cases z : i = D 0 1
    · by_cases w : m = D 0 1
      · intro _; omega
      · rw [if_pos z, if_neg w]; exact fun q => absurd q.symm (hn m (by omega))
    · by_cases w : m = D 0 1
      · rw [if_neg z, if_pos w]; exact fun q => absurd q (hn i (by omega))
      · rw [if_neg z, if_neg w]; exact k3 i m (by omega) (by omega)
theorem LK_A {D : NN} {AT MT HJ k j g : Nat} (h1 : 1 ≤ j) (hj : j ≤ 10) (h : LK D AT MT HJ) : LK (DA D k j g) (AT ||| 2 ^ (j - 1)) MT (max HJ j) := by
  obtain ⟨h1', h2, h3, h4, h5, h6⟩ := h
  refine ⟨or_lt h1' h1 hj, h2, by omega, fun m hm => ?_, h5, fun J => ?_⟩
  · rw [or_b h1, h4 m hm]
    constructor
    · rintro (⟨i, i1, i2⟩ | w)
      · exact ⟨i, (by omega : i < D 0 1 + 1), by rw [(DA_v D k j g i).2.2.1, if_neg (by omega)]; exact i2⟩
      · exact ⟨D 0 1, (by omega : D 0 1 < D 0 1 + 1), by rw [(DA_v D k j g _).2.2.1, if_pos rfl]; exact w.symm⟩
    · rintro ⟨i, i1, i2⟩
      have i1' : i < D 0 1 + 1 := i1
      rw [(DA_v D k j g i).2.2.1] at i2
      by_cases z : i = D 0 1
      · rw [if_pos z] at i2; exact .inr i2.symm
      · rw [if_neg z] at i2; exact .inl ⟨i, by omega, i2⟩
  · have := h6 J
    constructor
    · intro q
      obtain ⟨a1, a2, a3, a4⟩ := this.1 (by omega)
      refine ⟨a1, fun i hi => ?_, a3, a4⟩
      have hi' : i < D 0 1 + 1 := hi
      rw [(DA_v D k j g i).2.2.1]
      by_cases z : i = D 0 1
      · rw [if_pos z]; omega
      · rw [if_neg z]; exact a2 i (by omega)
    · rintro ⟨a1, a2, a3, a4⟩
      have l1 := this.2 ⟨a1, fun i hi => by
        have := a2 i (by omega : i < D 0 1 + 1)
        rw [(DA_v D k j g i).2.2.1, if_neg (by omega)] at this
        exact this, a3, a4⟩
      have l2 := a2 (D 0 1) (by omega : D 0 1 < D 0 1 + 1)
      rw [(DA_v D k j g _).2.2.1, if_pos rfl] at l2
      omega
theorem TV_A {D : NN} {k j g : Nat} {σ : ZI} (q : TV 28 D σ) (x0 : σ 30 (D 0 1) = nI k) (x1 : σ 31 (D 0 1) = nI j) (x2 : σ 32 (D 0 1) = nI g) : TV 28 (DA D k j g) (va_up σ 29 (upd (σ 29) 1 (nI (D 0 1 + 1)))) := by
  obtain ⟨q1, q2, q3, q4⟩ := q
  have gA : ∀ C P, (C ≠ 29 ∨ P ≠ 1) → va_up σ 29 (upd (σ 29) 1 (nI (D 0 1 + 1))) C P = σ C P := fun C P z => up_ne σ z
  refine ⟨fun i hi => ?_, fun i hi => ?_, fun i hi => ?_, fun i hi => ?_⟩
  · rw [(DA_v D k j g i).1]
    by_cases z : i = 1
    · subst z; rw [if_pos rfl]; exact up_same _ _ _ _
    · rw [if_neg z]; exact (gA _ _ (.inr z)).trans (q1 i hi)
  · have hi' : i < D 0 1 + 1 := hi
    rw [(DA_v D k j g i).2.1, (DA_v D k j g i).2.2.1, (DA_v D k j g i).2.2.2.1, gA _ _ (.inl (by decide)), gA _ _ (.inl (by decide)), gA _ _ (.inl (by decide))]
    by_cases z : i = D 0 1
    · rw [if_pos z, if_pos z, if_pos z, z]; exact ⟨x0, x1, x2⟩
    · rw [if_neg z, if_neg z, if_neg z]; exact q2 i (by omega)
  · have := q3 i hi
    exact ⟨(gA _ _ (.inl (by decide))).trans this.1, (gA _ _ (.inl (by decide))).trans this.2⟩
  · have := q4 i hi
    exact ⟨(gA _ _ (.inl (by decide))).trans this.1, (gA _ _ (.inl (by decide))).trans this.2⟩
theorem two_n {M : Nat} (h : M < 3) : (2 : Int32) * nI M = nI (2 * M) := by
  have : M = 0 ∨ M = 1 ∨ M = 2 := by omega
  rcases this with rfl | rfl | rfl <;> rfl
/-- the reference behind the joint of an arm -/
def amR (s : ZI) (w : Int32) : Option ZI := if inB (2 * s 60 15) 6 = true then lt_ (va_up s 67 (upd (s 67) (2 * s 60 15).toNatClampNeg w)) (fun σ19 => (f_X8_number σ19 0 9).bind fun q20 => if inB (2 * σ19 60 15 + 1) 6 = true then lt_ (va_up q20.2 67 (upd (q20.2 67) (2 * σ19 60 15 + 1).toNatClampNeg q20.1)) (fun σ21 => lt_ (va_up σ21 60 (upd (σ21 60) 15 ((σ21 60 15) + 1))) some) else none) else none
theorem amR_e {s : ZI} {M : Nat} (hM : M < 3) (e : s 60 15 = nI M) (w : Int32) : amR s w = (f_X8_number (va_up s 67 (upd (s 67) (2 * M) w)) 0 9).bind fun q5 => lt_ (va_up q5.2 67 (upd (q5.2 67) (2 * M + 1) q5.1)) (fun σ6 => lt_ (va_up σ6 60 (upd (σ6 60) 15 ((σ6 60 15) + 1))) some) := by
  unfold amR
  have e2 : va_up s 67 (upd (s 67) (2 * M) w) 60 15 = nI M := (up_ne s (.inl (by decide))).trans e
  rw [e, two_n hM, inB_n (by omega) (by omega), if_pos rfl, nI_clamp (by omega), ltq, e2, two_n hM, nI_1, inB_n (by omega) (by omega), nI_clamp (by omega)]
  simp only [if_true]
theorem amR_b {s : ZI} {M f q : Nat} (hf : 1 ≤ f) (hf2 : f < 10) (hM : M < 3) (e : s 60 15 = nI M) (h : BR f q s) (w : Int32) : ∃ σ', amR s w = some σ' ∧ Sg s σ' ∧ BR f q σ' := by
  rw [amR_e hM e, num8_b hf hf2 (BR_up (.inl (by decide)) h), bso, ltq, ltq]
  exact ⟨_, rfl, up_sg (up_sg (up_sg (Dw_refl 0 s) (own_6 _ (by decide) (by decide))) (own_6 _ (by decide) (by decide))) rfl, BR_up (.inr (by decide)) (BR_up (.inl (by decide)) (BR_up (.inl (by decide)) h))⟩
theorem amR_n {n : Nat} {b : Nat → Nat} {p k j : Nat} {D : NN} {AT MT HJ : Nat} {s : ZI} (h : RSb n b D AT MT HJ s) (h0 : s 66 (D 0 1) = nI k) (hp : p ≤ n) (y : RY n b p s) (tD : TD D) (h3 : D 0 1 < 3) : (nf n b p 0 9 ≠ 0 → ∃ σ', amR s (nI j) = some σ' ∧ Sg s σ' ∧ BR (nf n b p 0 9) (hd n b p) σ') ∧ (nf n b p 0 9 = 0 → ∃ σ', amR s (nI j) = some σ' ∧ Sg s σ' ∧ RSb n b (DA D k j (VV n b p)) AT MT HJ σ' ∧ RY n b (en n b p) σ' ∧ σ' 60 18 = s 60 18) := by
  have tb := TD_TB tD
  have e : s 60 15 = nI (D 0 1) := h.2.2.2.1.2.1
  have r1 : RSb n b D AT MT HJ (va_up s 67 (upd (s 67) (2 * D 0 1) (nI j))) := RSb_out (.inr (.inr (.inr (.inl ⟨rfl, Nat.le_refl _⟩)))) tb h
  have y1 : RY n b p (va_up s 67 (upd (s 67) (2 * D 0 1) (nI j))) := RY_up (.inl (by decide)) y
  have s0 : Sg s (va_up s 67 (upd (s 67) (2 * D 0 1) (nI j))) := up_sg (Dw_refl 0 s) (own_6 _ (by decide) (by decide))
  obtain ⟨t1, t2⟩ := num8 (lo := 0) (hi := 9) r1.1 hp y1 (by omega) (by omega)
  refine ⟨fun z => ?_, fun z => ?_⟩
  · obtain ⟨s1, x1, x2, x3⟩ := t1 z
    rw [amR_e h3 e, show f_X8_number _ 0 9 = _ from x1, bso, ltq, ltq]
    exact ⟨_, rfl, Dw_tr s0 (up_sg (up_sg (FrJ_sg (Fr8_J x2)) (own_6 _ (by decide) (by decide))) rfl), BR_up (.inr (by decide)) (BR_up (.inl (by decide)) x3)⟩
  · obtain ⟨s1, x1, x2, x3⟩ := t2 z
    have r2 := RSb_fr x2 r1
    have r3 : RSb n b D AT MT HJ (va_up s1 67 (upd (s1 67) (2 * D 0 1 + 1) (nI (VV n b p)))) := RSb_out (.inr (.inr (.inr (.inl ⟨rfl, by omega⟩)))) tb r2
    have e2 : va_up s1 67 (upd (s1 67) (2 * D 0 1 + 1) (nI (VV n b p))) 60 15 = nI (D 0 1) := r3.2.2.2.1.2.1
    rw [amR_e h3 e, show f_X8_number _ 0 9 = _ from x1, bso, ltq, ltq, e2, nI_1]
    refine ⟨_, rfl, Dw_tr s0 (up_sg (up_sg (FrJ_sg (Fr8_J x2)) (own_6 _ (by decide) (by decide))) rfl), RSb_A1 tb r3 ?_ ?_ (up_same _ _ _ _), RY_up (.inr (by decide)) (RY_up (.inl (by decide)) x3), ?_⟩
    · exact (up_ne s1 (.inl (by decide))).trans ((x2 _ _ (by omega)).trans ((up_ne _ (.inl (by decide))).trans h0))
    · exact (up_ne s1 (.inr (by omega))).trans ((x2 _ _ (by omega)).trans (up_same _ _ _ _))
    · exact (up_ne _ (.inr (by decide))).trans ((up_ne _ (.inl (by decide))).trans ((x2 _ _ (by omega)).trans (up_ne _ (.inl (by decide)))))
end
section
/-! a line of an arm, whole *-/
theorem cr_a : ∀ k, k < 11 → ¬ (0 : Int32) ≤ nI (cr k) - 11 := by decide
theorem cr_k : ∀ k, k < 16 → 11 ≤ k → nI (cr k) - 11 = nI (k - 11) ∧ (0 : Int32) ≤ nI (k - 11) ∧ nI (k - 11) ≠ -4 := by decide
theorem bo_a {kq n : Nat} {b : Nat → Nat} {p : Nat} {D : NN} {AT MT HJ : Nat} (hp : p ≤ n) (hk0 : kk_ n b p ≠ 0) (tD : TD D) (lk : LK D AT MT HJ) (h3 : D 0 1 < 3) : BO kq n b p D AT MT HJ (fun σ => f_X2_readArm σ) (fun σ => f_X8_readMore σ 7) := by
  have he := en_ge n b hp
  have hh := hd_ge n b hp
  have tb := TD_TB tD
  have at_ := lk.1
  have hh2 := hd_ge n b he.2.1
  have he2 := en_ge n b he.2.1
  have r30 : ∀ (σ : ZI) (v : Int32), σ 60 15 = nI (D 0 1) → f_X8_readMore_30 7 σ v = (f_X8_step (va_up σ 66 (upd (σ 66) (D 0 1) v))).bind fun q16 => (f_X8_jointHere q16 (q16 60 19)).bind fun q17 => lt_ (va_up q17.2 60 (upd (q17.2 60) 19 ((q17.2 60 19) ||| ((1 : Int32) <<< ((q17.1 - 1) &&& 31))))) fun σ18 => amR σ18 q17.1 := fun σ v e => by
    unfold f_X8_readMore_30 amR
    rw [e, inB_n (by omega) (by omega), if_pos rfl, nI_clamp (by omega), ltq]
  have brk : ∀ (s : ZI) (f q : Nat), 1 ≤ f → f < 10 → s 60 15 = nI (D 0 1) → (∃ x v s1, f_X8_jointHere s x = some (nI v, s1) ∧ FrJ s s1 ∧ BR f q s1 ∧ s 60 19 = x) → ∃ σ', ((f_X8_jointHere s (s 60 19)).bind fun q17 => lt_ (va_up q17.2 60 (upd (q17.2 60) 19 ((q17.2 60 19) ||| ((1 : Int32) <<< ((q17.1 - 1) &&& 31))))) fun σ18 => amR σ18 q17.1) = some σ' ∧ Sg s σ' ∧ BR f q σ' := by
    rintro s f q hf hf2 e ⟨x, v, s1, x1, x4, x5, x6⟩
    obtain ⟨s2, y1, y2, y3⟩ := amR_b (s := va_up s1 60 (upd (s1 60) 19 ((s1 60 19) ||| ((1 : Int32) <<< ((nI v - 1) &&& 31))))) hf hf2 h3 ((up_ne s1 (.inr (by decide))).trans ((x4 60 15 (by omega)).trans e)) (BR_up (.inr (by decide)) x5) (nI v)
    exact ⟨s2, by rw [x6, x1, bso, ltq]; exact y1, Dw_tr (up_sg (FrJ_sg x4) rfl) y2, y3⟩
  by_cases hN : ∃ k, k < 16 ∧ 11 ≤ k ∧ NM n b p k
  · obtain ⟨k, hk, hk11, nm⟩ := hN
    obtain ⟨ck1, ck2, ck3⟩ := cr_k k hk hk11
    have kb : k - 11 ≤ 4 := by omega
    -- the class up to the joint
    have clA : ∀ σ, CSb n b p D σ → ∃ s1, f_X2_readArm σ = ((f_X2_takeNumber s1 (1 : Int32) (10 : Int32)).bind (fun q3 => if q3.1 = (-1 : Int32) then (some ((0 : Int32), q3.2)) else ((f_X6_armAt q3.2 28 q3.1).bind (fun q4 => if q4 = (-4 : Int32) then ((f_X2_takeNumber q3.2 (0 : Int32) (9 : Int32)).bind (fun q5 => if q5.1 = (-1 : Int32) then (some ((0 : Int32), q5.2)) else ((f_X6_value q5.2 28 (1 : Int32)).bind (fun q6 => (f_X7_put q5.2 30 q6 (nI (k - 11))).bind (fun q7 => (f_X7_put q7 31 q6 q3.1).bind (fun q8 => (f_X7_put q8 32 q6 q5.1).bind (fun q9 => (f_X6_become q9 28 (1 : Int32) (q6 + (1 : Int32))).bind (fun q10 => some ((1 : Int32), q10))))))))) else ((f_X2_refuse q3.2 (4 : Int32)).bind (fun q11 => if q11.1 = 0 ∨ q11.1 = 1 then some (q11.1, q11.2) else none)))))) ∧ F7 σ s1 ∧ CSb n b (en n b p) D s1 := by
      intro σ h
      obtain ⟨s1, x1, x2, x3⟩ := (tt7 h.1 hp h.2.1).2 hk0
      refine ⟨s1, ?_, x2, CSb_F7 x2 x3.2.1 h⟩
      unfold f_X2_readArm
      rw [x1, bso, if_neg (show ¬ (1 : Int32) = 0 by decide), show f_X2_kindNamed _ = _ from (kin7 x3 hp).1 k hk11 hk nm, bso, if_neg ck3]
    have clB : ∀ σ, CSb n b p D σ → nf n b (en n b p) 1 10 = 0 → ∃ s1, f_X2_readArm σ = (if (if fi (fun m => D 2 m == VV n b (en n b p)) (D 0 1) < D 0 1 then nI (fi (fun m => D 2 m == VV n b (en n b p)) (D 0 1)) else -4) = (-4 : Int32) then ((f_X2_takeNumber s1 (0 : Int32) (9 : Int32)).bind (fun q5 => if q5.1 = (-1 : Int32) then (some ((0 : Int32), q5.2)) else ((f_X6_value q5.2 28 (1 : Int32)).bind (fun q6 => (f_X7_put q5.2 30 q6 (nI (k - 11))).bind (fun q7 => (f_X7_put q7 31 q6 (nI (VV n b (en n b p)))).bind (fun q8 => (f_X7_put q8 32 q6 q5.1).bind (fun q9 => (f_X6_become q9 28 (1 : Int32) (q6 + (1 : Int32))).bind (fun q10 => some ((1 : Int32), q10))))))))) else ((f_X2_refuse s1 (4 : Int32)).bind (fun q11 => if q11.1 = 0 ∨ q11.1 = 1 then some (q11.1, q11.2) else none))) ∧ F7 σ s1 ∧ At7 n b (en n b p) s1 ∧ CSb n b (en n b (en n b p)) D s1 := by
      intro σ h z
      have nz := nf_0 z
      obtain ⟨s0, w1, w2, w3⟩ := clA σ h
      obtain ⟨s1, x1, x2, x3⟩ := (tn7 (lo := 1) (hi := 10) w3.1 he.2.1 w3.2.1 (by omega) (by omega)).2 z
      have c1 := CSb_F7 x2 x3.2.1 w3
      have e := am_n (σ := s1) (b := 28) (M := D 0 1) (j := VV n b (en n b p)) (mj := fun m => D 2 m) rfl rfl rfl (by omega) (by omega) (c1.2.2.2.1 1 (by omega)) (fun m hm => ⟨by have := tD.2.1 m hm; omega, (c1.2.2.2.2.1 m hm).2.1⟩)
      refine ⟨s1, ?_, F7_tr w2 x2, x3, c1⟩
      rw [w1, show f_X2_takeNumber s0 1 10 = _ from x1, bso, if_neg (nm1 (by omega))]
      dsimp only
      rw [e, bso]
    -- the reference up to the joint
    have rfA : ∀ σ, RSb n b D AT MT HJ σ → RY n b p σ → ∃ s1, f_X8_readMore σ 7 = ((f_X8_jointHere s1 (s1 60 19)).bind fun q17 => lt_ (va_up q17.2 60 (upd (q17.2 60) 19 ((q17.2 60 19) ||| ((1 : Int32) <<< ((q17.1 - 1) &&& 31))))) fun σ18 => amR σ18 q17.1) ∧ Sg σ s1 ∧ RSb n b D AT MT HJ s1 ∧ RY n b (en n b p) s1 ∧ s1 60 18 = σ 60 18 ∧ s1 66 (D 0 1) = nI (k - 11) := by
      intro σ h y
      obtain ⟨y1, y2, y3, y4, y5⟩ := y.2 hk0
      have r1 : RSb n b D AT MT HJ (va_up σ 66 (upd (σ 66) (D 0 1) (nI (k - 11)))) := RSb_out (.inl ⟨rfl, Nat.le_refl _, h3⟩) tb h
      obtain ⟨s1, x1, x2, x3⟩ := step8 r1.1 he.2.1 ((up_ne σ (.inl (by decide))).trans y1) ((up_ne σ (.inl (by decide))).trans y3)
      refine ⟨s1, ?_, Dw_tr (up_sg (Dw_refl 0 σ) (own_6 _ (by decide) (by decide))) (FrJ_sg (Fr8_J x2)), RSb_fr x2 r1, x3, (x2 60 18 (by omega)).trans (up_ne σ (.inl (by decide))), (x2 _ _ (by omega)).trans (up_same _ _ _ _)⟩
      unfold f_X8_readMore
      rw [if_pos rfl, show f_X8_nameHere σ = _ from (nh8 h.1 h.2.1 hp y hk0).1 k hk nm, bso, if_pos y1, ck1, if_pos ck2, r30 σ _ h.2.2.2.1.2.1, x1, bso]
    rcases jc7 (n := n) (b := b) (p := en n b p) (s := AT) with ⟨z, z2, z3⟩ | ⟨z, z2, z3, z4⟩ | ⟨z, z2, z3⟩
    · have f1 := nf_le n b (en n b p) 1 10
      refine .inl ⟨nf n b (en n b p) 1 10, hd n b (en n b p), by omega, by omega, hh2.2, fun σ h => ?_, fun σ h y => ?_⟩
      · obtain ⟨s0, w1, w2, w3⟩ := clA σ h
        obtain ⟨s1, x1, x2, x3⟩ := (tn7 (lo := 1) (hi := 10) w3.1 he.2.1 w3.2.1 (by omega) (by omega)).1 z2
        refine ⟨s1, ?_, Dw_tr (Ff_sg (F7_Ff w2)) (Ff_sg x2), x3⟩
        dsimp only
        rw [w1, show f_X2_takeNumber s0 1 10 = _ from x1, bso, if_pos rfl]
      · obtain ⟨s1, x1, x2, x3, x4, x5, x6⟩ := rfA σ h y
        obtain ⟨v, s2, q1, q2, q3, q4, q5⟩ := (jh8 x3.1 he.2.1 x4 (s := AT) lk.1 lk.2.2.1 x3.2.2.2.2.2.2.2).1 z
        rw [z3] at q5
        obtain ⟨s3, u1, u2, u3⟩ := brk s1 _ _ (by omega) (by omega) x3.2.2.2.1.2.1 ⟨_, v, s2, q1, q4, q5, x3.2.2.2.2.2.1⟩
        exact ⟨s3, x1.trans u1, Dw_tr x2 u2, u3⟩
    · have nz := nf_0 z2
      have nd := (nd_b lk.2.2.2.1 (rfl : D 0 1 = D 0 1) nz.2.1 nz.2.2).1 z3
      refine .inl ⟨4, hd n b (en n b p), by omega, by omega, hh2.2, fun σ h => ?_, fun σ h y => ?_⟩
      · obtain ⟨s1, x1, x2, x3, x4⟩ := clB σ h z2
        obtain ⟨s2, y1, y2, y3⟩ := ref7 s1 4 x3.2.2.2
        refine ⟨s2, ?_, Dw_tr (Ff_sg (F7_Ff x2)) (Ff_sg y2), y3⟩
        dsimp only
        rw [x1, if_pos nd, if_neg (nm4 (by omega)), show f_X2_refuse s1 4 = _ from y1, bso, if_pos (.inl rfl)]
      · obtain ⟨s1, x1, x2, x3, x4, x5, x6⟩ := rfA σ h y
        obtain ⟨v, s2, q1, q2, q3, q4, q5⟩ := (jh8 x3.1 he.2.1 x4 (s := AT) lk.1 lk.2.2.1 x3.2.2.2.2.2.2.2).1 z
        rw [z4] at q5
        obtain ⟨s3, u1, u2, u3⟩ := brk s1 _ _ (by omega) (by omega) x3.2.2.2.1.2.1 ⟨_, v, s2, q1, q4, q5, x3.2.2.2.2.2.1⟩
        exact ⟨s3, x1.trans u1, Dw_tr x2 u2, u3⟩
    · have nz := nf_0 z2
      have nd := (nd_b lk.2.2.2.1 (rfl : D 0 1 = D 0 1) nz.2.1 nz.2.2).2 z3
      have hh3 := hd_ge n b he2.2.1
      have he3 := en_ge n b he2.2.1
      have rl : ∀ σ, RSb n b D AT MT HJ σ → RY n b p σ → ∃ s1, f_X8_readMore σ 7 = amR s1 (nI (VV n b (en n b p))) ∧ Sg σ s1 ∧ RSb n b D (AT ||| 2 ^ (VV n b (en n b p) - 1)) MT (max HJ (VV n b (en n b p))) s1 ∧ RY n b (en n b (en n b p)) s1 ∧ s1 60 18 = σ 60 18 ∧ s1 66 (D 0 1) = nI (k - 11) := by
        intro σ h y
        obtain ⟨s0, w1, w2, w3, w4, w5, w6⟩ := rfA σ h y
        obtain ⟨s1, x1, x2, x3, x4⟩ := (jh8 w3.1 he.2.1 w4 (s := AT) lk.1 lk.2.2.1 w3.2.2.2.2.2.2.2).2 z
        have e19 : s0 60 19 = nI AT := w3.2.2.2.2.2.1
        have e19' : s1 60 19 = nI AT := (x2 60 19 (by omega)).trans e19
        have r2 := RSb_J x2 x3 w3
        refine ⟨_, by rw [w1, e19, x1, bso, ltq]; dsimp only; rw [e19', bit_n nz.2.1 nz.2.2, or_n (by omega) (by omega)], Dw_tr w2 (up_sg (FrJ_sg x2) rfl), RSb_AT r2, RY_up (.inr (by decide)) x4, (up_ne _ (.inr (by decide))).trans ((x2 60 18 (by omega)).trans w5), (up_ne _ (.inl (by decide))).trans ((x2 _ _ (by omega)).trans w6)⟩
      by_cases w2 : nf n b (en n b (en n b p)) 0 9 = 0
      · have nz2 := nf_0 w2
        refine .inr ⟨DA D (k - 11) (VV n b (en n b p)) (VV n b (en n b (en n b p))), en n b (en n b (en n b p)), AT ||| 2 ^ (VV n b (en n b p) - 1), MT, max HJ (VV n b (en n b p)), by omega, he3.2.1, TD_A tD h3 kb nz.2.1 nz.2.2 nz2.2.2 nd.2, LK_A nz.2.1 nz.2.2 lk, fun _ => rfl, fun σ h => ?_, fun σ h y => ?_⟩
        · obtain ⟨s1, x1, x2, x2', x3⟩ := clB σ h z2
          obtain ⟨s2, y1, y2, y3⟩ := (tn7 (lo := 0) (hi := 9) x3.1 he2.2.1 x3.2.1 (by omega) (by omega)).2 w2
          have c2 := CSb_F7 y2 y3.2.1 x3
          have c3 := CSb_out (c := 30) (i := D 0 1) (v := nI (k - 11)) (.inl ⟨by omega, by omega, Nat.le_refl _⟩) c2
          have c4 := CSb_out (c := 31) (i := D 0 1) (v := nI (VV n b (en n b p))) (.inl ⟨by omega, by omega, Nat.le_refl _⟩) c3
          have c4' := CSb_out (c := 32) (i := D 0 1) (v := nI (VV n b (en n b (en n b p)))) (.inl ⟨by omega, by omega, Nat.le_refl _⟩) c4
          have e3 : s2 29 1 = nI (D 0 1) := c2.2.2.2.1 1 (by omega)
          have c5 := CSb_29 c4' (TV_A (k := k - 11) (j := VV n b (en n b p)) (g := VV n b (en n b (en n b p))) c4'.2.2.2 ((up_ne _ (.inl (by decide))).trans ((up_ne _ (.inl (by decide))).trans (up_same _ _ _ _))) ((up_ne _ (.inl (by decide))).trans (up_same _ _ _ _)) (up_same _ _ _ _))
          refine ⟨_, ?_, ?_, c5, ?_⟩
          · dsimp only
            rw [x1, if_neg nd.1, if_pos rfl, show f_X2_takeNumber s1 0 9 = _ from y1, bso, if_neg (nm1 (by omega))]
            dsimp only
            rw [v28_1, bso, e3, put_n (N := 3) rfl h3 (by omega), bso, put_n (N := 3) rfl h3 (by omega), bso, put_n (N := 3) rfl h3 (by omega), bso, nI_1, show f_X6_become _ 28 1 _ = _ from bec_n (b := 28) (k := 1) rfl rfl (by omega), bso]
          · exact up_sg (up_sg (up_sg (up_sg (Dw_tr (Ff_sg (F7_Ff x2)) (Ff_sg (F7_Ff y2))) (own_d _ (by omega) (by omega))) (own_d _ (by omega) (by omega))) (own_d _ (by omega) (by omega))) (own_d _ (by omega) (by omega))
          · exact (up_ne _ (.inl (by decide))).trans ((up_ne _ (.inl (by decide))).trans ((up_ne _ (.inl (by decide))).trans ((up_ne _ (.inl (by decide))).trans ((y2 39 2 (by omega)).trans (x2 39 2 (by omega))))))
        · obtain ⟨s1, x1, x2, x3, x4, x5, x6⟩ := rl σ h y
          obtain ⟨s2, y1, y2, y3, y4, y5⟩ := (amR_n (j := VV n b (en n b p)) x3 x6 he2.2.1 x4 tD h3).2 w2
          exact ⟨s2, x1.trans y1, Dw_tr x2 y2, y3, y4, y5.trans x5⟩
      · have := nf_le n b (en n b (en n b p)) 0 9
        refine .inl ⟨nf n b (en n b (en n b p)) 0 9, hd n b (en n b (en n b p)), by omega, by omega, hh3.2, fun σ h => ?_, fun σ h y => ?_⟩
        · obtain ⟨s1, x1, x2, x2', x3⟩ := clB σ h z2
          obtain ⟨s2, y1, y2, y3⟩ := (tn7 (lo := 0) (hi := 9) x3.1 he2.2.1 x3.2.1 (by omega) (by omega)).1 w2
          refine ⟨s2, ?_, Dw_tr (Ff_sg (F7_Ff x2)) (Ff_sg y2), y3⟩
          dsimp only
          rw [x1, if_neg nd.1, if_pos rfl, show f_X2_takeNumber s1 0 9 = _ from y1, bso, if_pos rfl]
        · obtain ⟨s1, x1, x2, x3, x4, x5, x6⟩ := rl σ h y
          obtain ⟨s2, y1, y2, y3⟩ := (amR_n (j := VV n b (en n b p)) x3 x6 he2.2.1 x4 tD h3).1 w2
          exact ⟨s2, x1.trans y1, Dw_tr x2 y2, y3⟩
  · have hN' : ∀ k, 11 ≤ k → k < 16 → ¬ NM n b p k := fun k a c w => hN ⟨k, c, a, w⟩
    refine .inl ⟨2, hd n b p, by omega, by omega, hh.2, fun σ h => ?_, fun σ h y => ?_⟩
    · obtain ⟨s1, x1, x2, x3⟩ := (tt7 h.1 hp h.2.1).2 hk0
      obtain ⟨s2, y1, y2, y3⟩ := ref7 s1 2 x3.2.2.2
      refine ⟨s2, ?_, Dw_tr (Ff_sg (F7_Ff x2)) (Ff_sg y2), y3⟩
      dsimp only
      unfold f_X2_readArm
      rw [x1, bso, if_neg (show ¬ (1 : Int32) = 0 by decide), show f_X2_kindNamed _ = _ from (kin7 x3 hp).2 hN', bso, if_pos rfl, show f_X2_refuse _ 2 = _ from y1, bso, if_pos (.inl rfl)]
    · obtain ⟨y1, y2, y3, y4, y5⟩ := y.2 hk0
      have e15 : σ 60 15 = nI (D 0 1) := h.2.2.2.1.2.1
      obtain ⟨s1, x1, x2, x3⟩ := fail8 2 y1 y2
      have e15' : s1 60 15 = nI (D 0 1) := (x2 60 15 (by omega)).trans e15
      have nh : ∃ w : Int32, f_X8_nameHere σ = some w ∧ ¬ (0 : Int32) ≤ w - 11 := by
        by_cases q : ∃ k, k < 16 ∧ NM n b p k
        · obtain ⟨k, k1, k2⟩ := q
          have : k < 11 := by
            by_cases z : k < 11
            · exact z
            · exact absurd k2 (hN' k (by omega) k1)
          exact ⟨_, (nh8 h.1 h.2.1 hp y hk0).1 k k1 k2, cr_a k this⟩
        · exact ⟨_, (nh8 h.1 h.2.1 hp y hk0).2 fun k a c => q ⟨k, a, c⟩, by decide⟩
      obtain ⟨w, w1, w2⟩ := nh
      have b2 : BR 2 (hd n b p) (va_up s1 66 (upd (s1 66) (D 0 1) (w - 11))) := BR_up (.inl (by decide)) x3
      obtain ⟨v, s2, q1, q2, q3, q4, q5⟩ := jh8_b (f := 2) (by omega) (by omega) b2 ((va_up s1 66 (upd (s1 66) (D 0 1) (w - 11))) 60 19)
      obtain ⟨s3, u1, u2, u3⟩ := brk (va_up s1 66 (upd (s1 66) (D 0 1) (w - 11))) 2 (hd n b p) (by omega) (by omega) ((up_ne _ (.inl (by decide))).trans e15') ⟨_, v, s2, q1, q4, q5, rfl⟩
      refine ⟨s3, ?_, Dw_tr (up_sg (FrJ_sg (Fr8_J x2)) (own_6 _ (by decide) (by decide))) u2, u3⟩
      dsimp only
      unfold f_X8_readMore
      rw [if_pos rfl, w1, bso, if_pos y1, if_neg w2, show f_X8_fails σ 2 = _ from x1, bso, r30 s1 _ e15', step8_b (f := 2) (by omega) (by omega) b2.1, bso]
      exact u1
end
section
/-! the bodies of the lines, by the name *-/
def cbk (k : Nat) (σ : ZI) : Option (Int32 × ZI) := match k with
  | 0 => f_X2_readRule σ (nI 0)
  | 1 => f_X2_readArm σ
  | 2 => f_X2_readMark σ
  | 3 => f_X2_readTown σ
  | 4 => f_X2_readSignal σ
  | 5 => f_X2_readRule σ (nI 5)
  | 6 => f_X2_readRule σ (nI 6)
  | 7 => f_X2_readRule σ (nI 7)
  | 8 => (f_X2_readRule σ (nI 8)).bind fun q => if q.1 = 0 then some ((0 : Int32), q.2) else f_X2_readRule q.2 (nI 9)
  | 9 => (f_X2_readRule σ (nI 10)).bind fun q => if q.1 = 0 then some ((0 : Int32), q.2) else f_X2_readRule q.2 (nI 11)
  | _ => f_X2_readRule σ (nI 12)
def rbk (k : Nat) (σ : ZI) : Option ZI := match k with
  | 0 => f_X8_readOnce σ 0
  | 1 => f_X8_readMore σ 7
  | 2 => f_X8_readMore σ 8
  | 3 => f_X8_readMore σ 9
  | 4 => f_X8_readMore σ 10
  | 5 => f_X8_readOnce σ 1
  | 6 => f_X8_readOnce σ 2
  | 7 => f_X8_readOnce σ 3
  | 8 => f_X8_readOnce σ 4
  | 9 => f_X8_readOnce σ 5
  | _ => f_X8_readOnce σ 6
theorem k11 {k : Nat} (h : k < 11) : k = 0 ∨ k = 1 ∨ k = 2 ∨ k = 3 ∨ k = 4 ∨ k = 5 ∨ k = 6 ∨ k = 7 ∨ k = 8 ∨ k = 9 ∨ k = 10 := by omega
theorem two_b (A : Option (Int32 × ZI)) (B : ZI → Option (Int32 × ZI)) (T : ZI → Option (Int32 × ZI)) : (A.bind fun q => if q.1 = 0 then some ((0 : Int32), q.2) else (B q.2).bind fun q2 => if q2.1 = 0 then some ((0 : Int32), q2.2) else T q2.2) = (A.bind fun q => if q.1 = 0 then some ((0 : Int32), q.2) else B q.2).bind fun q2 => if q2.1 = 0 then some ((0 : Int32), q2.2) else T q2.2 := by
  cases A with
  | none => rfl
  | some a =>
    rw [bso, bso]
    by_cases z : a.1 = 0
    · rw [if_pos z, if_pos z, bso, if_pos rfl]
    · rw [if_neg z, if_neg z]
theorem l89 {k : Nat} (hk : k < 11) (σ : ZI) : f_X2_readLine_89 σ (nI (liL.getD k 0)) = lt_ (va_up σ 39 (upd (σ 39) 2 ((σ 39 2) ||| ((1 : Int32) <<< (nI (liL.getD k 0) &&& 31))))) fun σ4 => (cbk k σ4).bind fun q => if q.1 = 0 then some ((0 : Int32), q.2) else (f_X2_takeSign q.2).bind fun q6 => if q6.1 = 0 then some ((0 : Int32), q6.2) else some ((1 : Int32), q6.2) := by
  rcases k11 hk with rfl | rfl | rfl | rfl | rfl | rfl | rfl | rfl | rfl | rfl | rfl
  · unfold f_X2_readLine_89
    rw [ltq, ltq, if_neg (by decide), if_neg (by decide), if_neg (by decide), if_neg (by decide), if_neg (by decide), if_neg (by decide), if_neg (by decide), if_neg (by decide), if_neg (by decide), if_neg (by decide)]
    rfl
  · unfold f_X2_readLine_89
    rw [ltq, ltq, if_pos (by decide)]
    rfl
  · unfold f_X2_readLine_89
    rw [ltq, ltq, if_neg (by decide), if_pos (by decide)]
    rfl
  · unfold f_X2_readLine_89
    rw [ltq, ltq, if_neg (by decide), if_neg (by decide), if_pos (by decide)]
    rfl
  · unfold f_X2_readLine_89
    rw [ltq, ltq, if_neg (by decide), if_neg (by decide), if_neg (by decide), if_pos (by decide)]
    rfl
  · unfold f_X2_readLine_89
    rw [ltq, ltq, if_neg (by decide), if_neg (by decide), if_neg (by decide), if_neg (by decide), if_pos (by decide)]
    rfl
  · unfold f_X2_readLine_89
    rw [ltq, ltq, if_neg (by decide), if_neg (by decide), if_neg (by decide), if_neg (by decide), if_neg (by decide), if_pos (by decide)]
    rfl
  · unfold f_X2_readLine_89
    rw [ltq, ltq, if_neg (by decide), if_neg (by decide), if_neg (by decide), if_neg (by decide), if_neg (by decide), if_neg (by decide), if_pos (by decide)]
    rfl
  · unfold f_X2_readLine_89
    rw [ltq, ltq, if_neg (by decide), if_neg (by decide), if_neg (by decide), if_neg (by decide), if_neg (by decide), if_neg (by decide), if_neg (by decide), if_pos (by decide)]
    exact two_b (f_X2_readRule _ (nI 8)) (fun s => f_X2_readRule s (nI 9)) (fun s => (f_X2_takeSign s).bind fun q6 => if q6.1 = 0 then some ((0 : Int32), q6.2) else some ((1 : Int32), q6.2))
  · unfold f_X2_readLine_89
    rw [ltq, ltq, if_neg (by decide), if_neg (by decide), if_neg (by decide), if_neg (by decide), if_neg (by decide), if_neg (by decide), if_neg (by decide), if_neg (by decide), if_neg (by decide), if_pos (by decide)]
    exact two_b (f_X2_readRule _ (nI 10)) (fun s => f_X2_readRule s (nI 11)) (fun s => (f_X2_takeSign s).bind fun q6 => if q6.1 = 0 then some ((0 : Int32), q6.2) else some ((1 : Int32), q6.2))
  · unfold f_X2_readLine_89
    rw [ltq, ltq, if_neg (by decide), if_neg (by decide), if_neg (by decide), if_neg (by decide), if_neg (by decide), if_neg (by decide), if_neg (by decide), if_neg (by decide), if_neg (by decide), if_neg (by decide)]
    rfl
/-- no token: the class's body ends there -/
theorem cb_0 {n : Nat} {b : Nat → Nat} {p : Nat} {D : NN} {σ : ZI} (hp : p ≤ n) (hk0 : kk_ n b p = 0) (h : CSb n b p D σ) {k : Nat} (hk : k < 11) : ∃ σ', cbk k σ = some (0, σ') ∧ Sg σ σ' ∧ flt 1 (hd n b p) σ' := by
  obtain ⟨s1, x1, x2, x3⟩ := (tt7 h.1 hp h.2.1).1 hk0
  have tn : ∀ lo hi, f_X2_takeNumber σ lo hi = some (-1, s1) := fun lo hi => by
    unfold f_X2_takeNumber
    rw [x1, bso, if_pos rfl]
  have rr : ∀ r : Nat, r < 13 → f_X2_readRule σ (nI r) = some (0, s1) := by
    intro r hr
    have : ∀ lo, ∃ hi, f_X2_readRule_27 (nI r) σ lo = (some hi : Option Int32).bind fun q3 => (f_X2_takeNumber σ lo q3).bind fun q4 => if q4.1 = -1 then some (0, q4.2) else (f_X6_become q4.2 28 (nI r) q4.1).bind fun q5 => some (1, q5) := by
      intro lo
      have a2 : ∃ hi, f_X7_atS 102 (nI r) = some hi := by
        have : r = 0 ∨ r = 1 ∨ r = 2 ∨ r = 3 ∨ r = 4 ∨ r = 5 ∨ r = 6 ∨ r = 7 ∨ r = 8 ∨ r = 9 ∨ r = 10 ∨ r = 11 ∨ r = 12 := by omega
        rcases this with rfl | rfl | rfl | rfl | rfl | rfl | rfl | rfl | rfl | rfl | rfl | rfl | rfl <;> exact ⟨_, rfl⟩
      obtain ⟨hi, e⟩ := a2
      exact ⟨hi, by unfold f_X2_readRule_27; rw [e]⟩
    have fin : ∀ lo, f_X2_readRule_27 (nI r) σ lo = some (0, s1) := by
      intro lo
      obtain ⟨hi, e⟩ := this lo
      rw [e, bso, tn, bso, if_pos rfl]
    unfold f_X2_readRule
    by_cases z : nI r = (9 : Int32)
    · rw [if_pos z, v28_8, bso]; exact fin _
    · rw [if_neg z]
      have a1 : ∃ lo, f_X7_atS 101 (nI r) = some lo := by
        have : r = 0 ∨ r = 1 ∨ r = 2 ∨ r = 3 ∨ r = 4 ∨ r = 5 ∨ r = 6 ∨ r = 7 ∨ r = 8 ∨ r = 9 ∨ r = 10 ∨ r = 11 ∨ r = 12 := by omega
        rcases this with rfl | rfl | rfl | rfl | rfl | rfl | rfl | rfl | rfl | rfl | rfl | rfl | rfl <;> exact ⟨_, rfl⟩
      obtain ⟨lo, e⟩ := a1
      rw [e, bso]; exact fin _
  refine ⟨s1, ?_, Ff_sg x2, x3⟩
  rcases k11 hk with rfl | rfl | rfl | rfl | rfl | rfl | rfl | rfl | rfl | rfl | rfl
  · exact rr 0 (by omega)
  · show f_X2_readArm σ = _
    unfold f_X2_readArm
    rw [x1, bso, if_pos rfl]
  · show f_X2_readMark σ = _
    unfold f_X2_readMark
    rw [tn, bso, if_pos rfl]
  · show f_X2_readTown σ = _
    unfold f_X2_readTown
    rw [tn, bso, if_pos rfl]
  · show f_X2_readSignal σ = _
    unfold f_X2_readSignal
    rw [tn, bso, if_pos rfl]
  · exact rr 5 (by omega)
  · exact rr 6 (by omega)
  · exact rr 7 (by omega)
  · show ((f_X2_readRule σ (nI 8)).bind fun q => if q.1 = 0 then some ((0 : Int32), q.2) else f_X2_readRule q.2 (nI 9)) = _
    rw [rr 8 (by omega), bso, if_pos rfl]
  · show ((f_X2_readRule σ (nI 10)).bind fun q => if q.1 = 0 then some ((0 : Int32), q.2) else f_X2_readRule q.2 (nI 11)) = _
    rw [rr 10 (by omega), bso, if_pos rfl]
  · exact rr 12 (by omega)
theorem bo_all {n : Nat} {b : Nat → Nat} {p : Nat} {D : NN} {AT MT HJ : Nat} (hp : p ≤ n) (hk0 : kk_ n b p ≠ 0) (tD : TD D) (lk : LK D AT MT HJ) {k : Nat} (hk : k < 11) (h1 : k = 1 → D 0 1 < 3) (h2 : k = 2 → D 0 2 < 3) (h3 : k = 3 → D 0 3 < 5) (h5 : k = 5 → D 0 5 = 0) : BO k n b p D AT MT HJ (cbk k) (rbk k) := by
  rcases k11 hk with rfl | rfl | rfl | rfl | rfl | rfl | rfl | rfl | rfl | rfl | rfl
  · exact (bo_n hp tD lk).1
  · exact bo_a hp hk0 tD lk (h1 rfl)
  · exact bo_k hp tD lk (h2 rfl)
  · exact bo_w hp tD lk (h3 rfl)
  · exact bo_4 hp tD lk
  · exact (bo_m (kq := 5) hp tD lk).1 (h5 rfl)
  · exact (bo_n hp tD lk).2.1
  · exact (bo_n hp tD lk).2.2.1
  · exact (bo_m hp tD lk).2.1
  · exact (bo_m hp tD lk).2.2
  · exact (bo_n hp tD lk).2.2.2
end
section
/-! a line *-/
theorem and_g (a b : Nat) : nI a &&& nI b = nI (a &&& b) := by
  unfold nI
  apply Int32.toBitVec_inj.1
  rw [Int32.toBitVec_and]
  show BitVec.ofNat 32 a &&& BitVec.ofNat 32 b = BitVec.ofNat 32 (a &&& b)
  apply BitVec.eq_of_getLsbD_eq
  intro i hi
  simp [BitVec.getLsbD_ofNat, Nat.testBit_and, hi]
theorem or_g (a b : Nat) : nI a ||| nI b = nI (a ||| b) := by
  unfold nI
  apply Int32.toBitVec_inj.1
  rw [Int32.toBitVec_or]
  show BitVec.ofNat 32 a ||| BitVec.ofNat 32 b = BitVec.ofNat 32 (a ||| b)
  apply BitVec.eq_of_getLsbD_eq
  intro i hi
  simp [BitVec.getLsbD_ofNat, Nat.testBit_or, hi]
theorem and_z (x r : Nat) : x &&& 2 ^ r = 0 ↔ x.testBit r = false := by
  constructor
  · intro h
    have : (x &&& 2 ^ r).testBit r = (0 : Nat).testBit r := by rw [h]
    simpa [Nat.testBit_and, Nat.testBit_two_pow] using this
  · intro h
    apply Nat.eq_of_testBit_eq
    intro i
    rw [Nat.testBit_and, Nat.testBit_two_pow]
    by_cases z : r = i
    · subst z; simp [h]
    · simp [z]
theorem mk_z {T r : Nat} (hT : T < 2 ^ 13) (hr : r < 13) : (((5601 : Int32) &&& nI T) &&& ((1 : Int32) <<< (nI r &&& 31))) = 0 ↔ ¬ ((5601 : Nat).testBit r = true ∧ T.testBit r = true) := by
  rw [sbl (by omega), show (5601 : Int32) = nI 5601 from rfl, and_g, and_g]
  have hl : (5601 &&& T &&& 2 ^ r) < 2 ^ 31 := Nat.lt_of_le_of_lt Nat.and_le_right (Nat.pow_lt_pow_right (by omega) (by omega))
  have e : nI (5601 &&& T &&& 2 ^ r) = 0 ↔ (5601 &&& T &&& 2 ^ r) = 0 := ⟨fun q => nI_inj (b := 0) hl (by omega) q, fun q => by rw [q]; rfl⟩
  rw [e, and_z, Nat.testBit_and]
  cases (5601 : Nat).testBit r <;> cases T.testBit r <;> simp
def TU (D : NN) (T U : Nat) : Prop := T < 2 ^ 13 ∧ U < 2 ^ 11 ∧ (∀ k, k < 11 → cr k ≤ 6 → T.testBit (liL.getD k 0) = U.testBit (cr k)) ∧ (T.testBit 5 = false → D 0 5 = 0)
theorem li_b : ∀ k, k < 11 → liL.getD k 0 < 13 ∧ cr k ≤ 10 ∧ ((5601 : Nat).testBit (liL.getD k 0) = true ↔ cr k ≤ 6) ∧ (k ≠ 5 → liL.getD k 0 ≠ 5) := by decide
theorem li_u : ∀ k, k < 11 → ∀ k', k' < 11 → (liL.getD k 0 = liL.getD k' 0 ↔ cr k = cr k') := by decide
theorem TU_set {D D' : NN} {T U k : Nat} (hk : k < 11) (h : TU D T U) (h5 : k ≠ 5 → D' 0 5 = D 0 5) : TU D' (T ||| 2 ^ liL.getD k 0) (U ||| 2 ^ cr k) := by
  obtain ⟨h1, h2, h3, h4⟩ := h
  obtain ⟨l1, l2, l3, l4⟩ := li_b k hk
  refine ⟨Nat.or_lt_two_pow h1 (Nat.pow_lt_pow_right (by omega) l1), Nat.or_lt_two_pow h2 (Nat.pow_lt_pow_right (by omega) (by omega)), fun k' hk' z => ?_, fun z => ?_⟩
  · rw [Nat.testBit_or, Nat.testBit_or, Nat.testBit_two_pow, Nat.testBit_two_pow, h3 k' hk' z]
    have := li_u k hk k' hk'
    by_cases w : cr k = cr k'
    · rw [decide_eq_true w, decide_eq_true (this.2 w)]
    · rw [decide_eq_false w, decide_eq_false (fun q => w (this.1 q))]
  · rw [Nat.testBit_or, Nat.testBit_two_pow, Bool.or_eq_false_iff] at z
    have k5 : k ≠ 5 := by
      intro q
      subst q
      exact absurd z.2 (by decide)
    rw [h5 k5]
    exact h4 z.1
def CSl (n : Nat) (b : Nat → Nat) (p : Nat) (D : NN) (T : Nat) (σ : ZI) : Prop := CSb n b p D σ ∧ σ 39 2 = nI T
def RSl (n : Nat) (b : Nat → Nat) (p : Nat) (D : NN) (AT MT HJ U : Nat) (σ : ZI) : Prop := RSb n b D AT MT HJ σ ∧ RY n b p σ ∧ σ 60 18 = nI U
theorem CSb_39 {n : Nat} {b : Nat → Nat} {p : Nat} {D : NN} {σ : ZI} {v : Int32} (q : CSb n b p D σ) : CSb n b p D (va_up σ 39 (upd (σ 39) 2 v)) := by
  obtain ⟨⟨a1, a2, a3⟩, b1, c1, d1⟩ := q
  exact ⟨⟨a1, (up_ne σ (.inl (by decide))).trans a2, fun i hi => ⟨(a3 i hi).1, (up_ne σ (.inl (by decide))).trans (a3 i hi).2⟩⟩, (up_ne σ (.inl (by decide))).trans b1, (up_ne σ (.inr (by decide))).trans c1, TV_fr (fun r i _ _ => up_ne σ (.inl (by omega))) d1⟩
theorem RSb_18 {n : Nat} {b : Nat → Nat} {D : NN} {AT MT HJ : Nat} {σ : ZI} {v : Int32} (q : RSb n b D AT MT HJ σ) : RSb n b D AT MT HJ (va_up σ 60 (upd (σ 60) 18 v)) := by
  obtain ⟨a1, a2, ⟨b1, b2, b3, b4, b5, b6, b7, b8, b9, b10⟩, ⟨c1, c2, c3, c4, c5, c6⟩, ⟨d1, d2, d3⟩, e1, e2, e3⟩ := q
  have gA : ∀ C P, (C ≠ 60 ∨ P ≠ 18) → va_up σ 60 (upd (σ 60) 18 v) C P = σ C P := fun C P z => up_ne σ z
  exact ⟨⟨a1.1, (gA _ _ (.inr (by decide))).trans a1.2.1, fun i hi => ⟨(a1.2.2 i hi).1, (gA _ _ (.inl (by decide))).trans (a1.2.2 i hi).2⟩⟩, ⟨fun i hi => (gA _ _ (.inl (by decide))).trans (a2.1 i hi), fun i hi => (gA _ _ (.inl (by decide))).trans (a2.2 i hi)⟩, ⟨fun i hi => (gA _ _ (.inl (by decide))).trans (b1 i hi), fun i hi => (gA _ _ (.inl (by decide))).trans (b2 i hi), fun i hi => (gA _ _ (.inl (by decide))).trans (b3 i hi), b4, b5, b6, b7, b8, b9, b10⟩, ⟨(gA _ _ (.inr (by decide))).trans c1, (gA _ _ (.inr (by decide))).trans c2, (gA _ _ (.inr (by decide))).trans c3, (gA _ _ (.inr (by decide))).trans c4, (gA _ _ (.inl (by decide))).trans c5, (gA _ _ (.inl (by decide))).trans c6⟩, ⟨fun i hi => ⟨(gA _ _ (.inl (by decide))).trans (d1 i hi).1, (gA _ _ (.inl (by decide))).trans (d1 i hi).2⟩, fun i hi => (gA _ _ (.inl (by decide))).trans (d2 i hi), fun i hi => (gA _ _ (.inl (by decide))).trans (d3 i hi)⟩, (gA _ _ (.inr (by decide))).trans e1, (gA _ _ (.inr (by decide))).trans e2, (gA _ _ (.inr (by decide))).trans e3⟩
def RF (k : Nat) (D : NN) : Prop := (k = 1 ∧ D 0 1 = 3) ∨ (k = 2 ∧ D 0 2 = 3) ∨ (k = 3 ∧ D 0 3 = 5)
theorem b93 {s : ZI} {f q : Nat} (hf : 1 ≤ f) (hf2 : f < 10) (h : BR f q s) (v : Int32) : ∃ s', f_X8_readLine_93 s v = some s' ∧ Sg s s' ∧ BR f q s' := by
  unfold f_X8_readLine_93
  have h2 : BR f q (va_up s 60 (upd (s 60) 18 ((s 60 18) ||| ((1 : Int32) <<< (v &&& 31))))) := BR_up (.inr (by decide)) h
  rw [ltq, step8_b hf hf2 h2.1, bso, h2.1, if_neg (show ¬ nI f ≤ (0 : Int32) from nI_ge (show 0 < f by omega) (by omega))]
  exact ⟨_, rfl, up_sg (Dw_refl 0 s) rfl, h2⟩
theorem r93 {k : Nat} (hk : k < 11) (σ : ZI) : f_X8_readLine_93 σ (nI (cr k)) = lt_ (va_up σ 60 (upd (σ 60) 18 ((σ 60 18) ||| ((1 : Int32) <<< (nI (cr k) &&& 31))))) fun s => (f_X8_step s).bind fun q4 => if (q4 60 25) ≤ 0 then (rbk k q4).bind (fun q5 => f_X8_readLine_136 q5) else some q4 := by
  rcases k11 hk with rfl | rfl | rfl | rfl | rfl | rfl | rfl | rfl | rfl | rfl | rfl <;> rfl
theorem r70 {k : Nat} (hk : k < 11) {D : NN} {σ : ZI} (e15 : σ 60 15 = nI (D 0 1)) (e16 : σ 60 16 = nI (D 0 2)) (e17 : σ 60 17 = nI (D 0 3)) (tb : TB D) {w : Option ZI} (h1 : RF k D → f_X8_readLine_65 σ (nI (cr k)) = w) (h2 : ¬ RF k D → f_X8_readLine_70 σ (nI (cr k)) = w) : (if nI (cr k) = 7 then (if (σ 60 15) = (3 : Int32) then f_X8_readLine_65 σ (nI (cr k)) else f_X8_readLine_37 σ (nI (cr k))) else f_X8_readLine_37 σ (nI (cr k))) = w := by
  have n3 : ∀ x, x ≤ 5 → ∀ y, y ≤ 5 → (nI x = nI y → x = y) := fun x hx y hy q => nI_inj (by omega) (by omega) q
  obtain ⟨m1, m2, m3⟩ := tb
  rcases k11 hk with rfl | rfl | rfl | rfl | rfl | rfl | rfl | rfl | rfl | rfl | rfl
  · exact h2 (by unfold RF; omega)
  · rw [if_pos (by decide), e15]
    by_cases z : D 0 1 = 3
    · rw [if_pos (by rw [z]; rfl)]; exact h1 (.inl ⟨rfl, z⟩)
    · rw [if_neg (show ¬ nI (D 0 1) = (3 : Int32) from fun q => z (n3 _ (by omega) 3 (by omega) q))]; exact h2 (by unfold RF; omega)
  · rw [if_neg (by decide)]
    unfold f_X8_readLine_37
    rw [if_pos (by decide), e16]
    by_cases z : D 0 2 = 3
    · rw [if_pos (by rw [z]; rfl)]; exact h1 (.inr (.inl ⟨rfl, z⟩))
    · rw [if_neg (show ¬ nI (D 0 2) = (3 : Int32) from fun q => z (n3 _ (by omega) 3 (by omega) q))]; exact h2 (by unfold RF; omega)
  · rw [if_neg (by decide)]
    unfold f_X8_readLine_37
    rw [if_neg (by decide)]
    unfold f_X8_readLine_51
    rw [if_pos (by decide), e17]
    by_cases z : D 0 3 = 5
    · rw [if_pos (by rw [z]; rfl)]; exact h1 (.inr (.inr ⟨rfl, z⟩))
    · rw [if_neg (show ¬ nI (D 0 3) = (5 : Int32) from fun q => z (n3 _ (by omega) 5 (by omega) q))]; exact h2 (by unfold RF; omega)
  · exact h2 (by unfold RF; omega)
  · exact h2 (by unfold RF; omega)
  · exact h2 (by unfold RF; omega)
  · exact h2 (by unfold RF; omega)
  · exact h2 (by unfold RF; omega)
  · exact h2 (by unfold RF; omega)
  · exact h2 (by unfold RF; omega)
theorem c89 {k : Nat} (hk : k < 11) {D : NN} {σ : ZI} (tv : TV 28 D σ) (tb : TB D) {w : Option (Int32 × ZI)} (h1 : RF k D → ((f_X2_refuse σ (5 : Int32)).bind (fun q31 => if q31.1 = 0 ∨ q31.1 = 1 then some (q31.1, q31.2) else none)) = w) (h2 : ¬ RF k D → f_X2_readLine_89 σ (nI (liL.getD k 0)) = w) : ((f_X2_isRowOf (nI (liL.getD k 0))).bind (fun q3 => if q3 = 0 then (f_X2_readLine_89 σ (nI (liL.getD k 0))) else ((f_X6_value σ 28 (nI (liL.getD k 0))).bind (fun q29 => (f_X7_atS 102 (nI (liL.getD k 0))).bind (fun q30 => if q29 < q30 then (f_X2_readLine_89 σ (nI (liL.getD k 0))) else ((f_X2_refuse σ (5 : Int32)).bind (fun q31 => if q31.1 = 0 ∨ q31.1 = 1 then some (q31.1, q31.2) else none))))))) = w := by
  obtain ⟨m1, m2, m3⟩ := tb
  rcases k11 hk with rfl | rfl | rfl | rfl | rfl | rfl | rfl | rfl | rfl | rfl | rfl
  · exact h2 (by unfold RF; omega)
  · rw [show f_X2_isRowOf (nI (liL.getD 1 0)) = some 1 from rfl, bso, if_neg (by decide), show f_X6_value σ 28 (nI (liL.getD 1 0)) = some (σ 29 1) from rfl, bso, show f_X7_atS 102 (nI (liL.getD 1 0)) = some (nI 3) from rfl, bso, show σ 29 1 = _ from tv.1 1 (by omega)]
    by_cases z : D 0 1 = 3
    · rw [if_neg (nI_nlt (by omega) (by omega))]; exact h1 (.inl ⟨rfl, z⟩)
    · rw [if_pos (nI_lt (by omega) (by omega))]; exact h2 (by unfold RF; omega)
  · rw [show f_X2_isRowOf (nI (liL.getD 2 0)) = some 1 from rfl, bso, if_neg (by decide), show f_X6_value σ 28 (nI (liL.getD 2 0)) = some (σ 29 2) from rfl, bso, show f_X7_atS 102 (nI (liL.getD 2 0)) = some (nI 3) from rfl, bso, show σ 29 2 = _ from tv.1 2 (by omega)]
    by_cases z : D 0 2 = 3
    · rw [if_neg (nI_nlt (by omega) (by omega))]; exact h1 (.inr (.inl ⟨rfl, z⟩))
    · rw [if_pos (nI_lt (by omega) (by omega))]; exact h2 (by unfold RF; omega)
  · rw [show f_X2_isRowOf (nI (liL.getD 3 0)) = some 1 from rfl, bso, if_neg (by decide), show f_X6_value σ 28 (nI (liL.getD 3 0)) = some (σ 29 3) from rfl, bso, show f_X7_atS 102 (nI (liL.getD 3 0)) = some (nI 5) from rfl, bso, show σ 29 3 = _ from tv.1 3 (by omega)]
    by_cases z : D 0 3 = 5
    · rw [if_neg (nI_nlt (by omega) (by omega))]; exact h1 (.inr (.inr ⟨rfl, z⟩))
    · rw [if_pos (nI_lt (by omega) (by omega))]; exact h2 (by unfold RF; omega)
  · exact h2 (by unfold RF; omega)
  · exact h2 (by unfold RF; omega)
  · exact h2 (by unfold RF; omega)
  · exact h2 (by unfold RF; omega)
  · exact h2 (by unfold RF; omega)
  · exact h2 (by unfold RF; omega)
  · exact h2 (by unfold RF; omega)
end
section
/-! a line, whole *-/
theorem sfa_le (n : Nat) (b : Nat → Nat) (p : Nat) : sfa n b p ≤ 2 := by
  unfold sfa
  split
  · omega
  · split <;> omega
theorem line_ {n : Nat} {b : Nat → Nat} {p : Nat} {D : NN} {AT MT HJ T U : Nat} (hp : p ≤ n) (hk0 : kk_ n b p ≠ 0) (hk4 : kk_ n b p ≠ 4) (tD : TD D) (lk : LK D AT MT HJ) (tu : TU D T U) :
    (∃ f q, 1 ≤ f ∧ f < 10 ∧ q ≤ n ∧ (∀ σ, CSl n b p D T σ → ∃ σ', f_X2_readLine σ = some (0, σ') ∧ Sg σ σ' ∧ flt f q σ') ∧ (∀ σ, RSl n b p D AT MT HJ U σ → ∃ σ', f_X8_readLine σ = some σ' ∧ Sg σ σ' ∧ BR f q σ')) ∨
    (∃ D' p' AT' MT' HJ' T' U', p < p' ∧ p' ≤ n ∧ TD D' ∧ LK D' AT' MT' HJ' ∧ TU D' T' U' ∧ (∀ σ, CSl n b p D T σ → ∃ σ', f_X2_readLine σ = some (1, σ') ∧ Sg σ σ' ∧ CSl n b p' D' T' σ') ∧ (∀ σ, RSl n b p D AT MT HJ U σ → ∃ σ', f_X8_readLine σ = some σ' ∧ Sg σ σ' ∧ RSl n b p' D' AT' MT' HJ' U' σ')) := by
  have he := en_ge n b hp
  have hh := hd_ge n b hp
  have tb := TD_TB tD
  have hb := kk_le n b p
  have kn4 : ¬ nI (kk_ n b p) = 4 := fun q => hk4 (nI_inj (b := 4) (by omega) (by omega) q)
  have hlt : hd n b p < n := by
    by_cases z : hd n b p < n
    · exact z
    · exfalso
      have e1 : k0 n b p = 4 := by unfold k0; rw [if_neg z]
      have : kk_ n b p = 4 := by unfold kk_; rw [e1, if_neg (by omega)]
      exact hk4 this
  have hpe : p < en n b p := by have := he.2.2 hlt; omega
  -- the class behind the first token
  have clA : ∀ σ, CSl n b p D T σ → ∃ s1, f_X2_readLine σ = ((f_X2_lineNamed s1).bind (fun q2 => if q2 = (-4 : Int32) then ((f_X2_refuse s1 (2 : Int32)).bind (fun q33 => if q33.1 = 0 ∨ q33.1 = 1 then some (q33.1, q33.2) else none)) else (if (((5601 : Int32) &&& nI T) &&& ((1 : Int32) <<< (q2 &&& 31))) = 0 then ((f_X2_isRowOf q2).bind (fun q3 => if q3 = 0 then (f_X2_readLine_89 s1 q2) else ((f_X6_value s1 28 q2).bind (fun q29 => (f_X7_atS 102 q2).bind (fun q30 => if q29 < q30 then (f_X2_readLine_89 s1 q2) else ((f_X2_refuse s1 (5 : Int32)).bind (fun q31 => if q31.1 = 0 ∨ q31.1 = 1 then some (q31.1, q31.2) else none))))))) else ((f_X2_refuse s1 (4 : Int32)).bind (fun q32 => if q32.1 = 0 ∨ q32.1 = 1 then some (q32.1, q32.2) else none))))) ∧ F7 σ s1 ∧ At7 n b p s1 ∧ CSb n b (en n b p) D s1 ∧ s1 39 2 = nI T := by
    intro σ h
    obtain ⟨s1, x1, x2, x3⟩ := (tt7 h.1.1 hp h.1.2.1).2 hk0
    have e2 : s1 39 2 = nI T := (x2 39 2 (by omega)).trans h.2
    refine ⟨s1, ?_, x2, x3, CSb_F7 x2 x3.2.1 h.1, e2⟩
    unfold f_X2_readLine
    rw [x1, bso, if_neg (show ¬ (1 : Int32) = 0 by decide)]
    dsimp only
    rw [if_neg (show ¬ s1 37 3 = 4 from fun q => kn4 (x3.2.2.1.symm.trans q))]
    simp only [e2]
  have cref : ∀ (σ : ZI) (f : Nat), At7 n b p σ → ∃ s2, ((f_X2_refuse σ (nI f)).bind (fun q33 => if q33.1 = 0 ∨ q33.1 = 1 then some (q33.1, q33.2) else none)) = some (0, s2) ∧ Ff σ s2 ∧ flt f (hd n b p) s2 := by
    intro σ f h
    obtain ⟨s2, y1, y2, y3⟩ := ref7 σ f h.2.2.2
    exact ⟨s2, by rw [y1, bso, if_pos (.inl rfl)], y2, y3⟩
  by_cases hN : ∃ k, k < 11 ∧ NM n b p k
  · obtain ⟨k, hk, nm⟩ := hN
    obtain ⟨l1, l2, l3, l4⟩ := li_b k hk
    have lne : ¬ nI (liL.getD k 0) = -4 := nm4 (by omega)
    have mz := mk_z tu.1 l1
    -- the class: twice, full, or on
    have clB : ∀ σ, CSl n b p D T σ → ∃ s1, F7 σ s1 ∧ At7 n b p s1 ∧ CSb n b (en n b p) D s1 ∧ s1 39 2 = nI T ∧ (cr k ≤ 6 ∧ T.testBit (liL.getD k 0) = true → ∃ s2, f_X2_readLine σ = some (0, s2) ∧ Ff s1 s2 ∧ flt 4 (hd n b p) s2) ∧ (¬ (cr k ≤ 6 ∧ T.testBit (liL.getD k 0) = true) → RF k D → ∃ s2, f_X2_readLine σ = some (0, s2) ∧ Ff s1 s2 ∧ flt 5 (hd n b p) s2) ∧ (¬ (cr k ≤ 6 ∧ T.testBit (liL.getD k 0) = true) → ¬ RF k D → f_X2_readLine σ = f_X2_readLine_89 s1 (nI (liL.getD k 0))) := by
      intro σ h
      obtain ⟨s1, x1, x2, x3, x4, x5⟩ := clA σ h
      rw [(lin7 x3 hp).1 k hk nm, bso, if_neg lne] at x1
      refine ⟨s1, x2, x3, x4, x5, fun z => ?_, fun z z2 => ?_, fun z z2 => ?_⟩
      · obtain ⟨s2, y1, y2, y3⟩ := cref s1 4 x3
        exact ⟨s2, by rw [x1, if_neg (fun q => mz.1 q ⟨l3.2 z.1, z.2⟩)]; exact y1, y2, y3⟩
      · obtain ⟨s2, y1, y2, y3⟩ := cref s1 5 x3
        refine ⟨s2, ?_, y2, y3⟩
        rw [x1, if_pos (mz.2 fun q => z ⟨l3.1 q.1, q.2⟩)]
        exact c89 hk x4.2.2.2 tb (fun _ => y1) (fun q => absurd z2 q)
      · rw [x1, if_pos (mz.2 fun q => z ⟨l3.1 q.1, q.2⟩)]
        exact c89 hk x4.2.2.2 tb (fun q => absurd q z2) (fun _ => rfl)
    have rfA : ∀ σ, RSl n b p D AT MT HJ U σ → (∀ w, (RF k D → f_X8_readLine_65 σ (nI (cr k)) = w) → (¬ RF k D → f_X8_readLine_70 σ (nI (cr k)) = w) → f_X8_readLine σ = w) ∧ σ 60 25 = 0 ∧ σ 60 28 = nI (hd n b p) ∧ σ 60 27 = nI (en n b p) := by
      intro σ h
      obtain ⟨y1, y2, y3, y4, y5⟩ := h.2.1.2 hk0
      refine ⟨fun w w1 w2 => ?_, y1, y2, y3⟩
      unfold f_X8_readLine
      rw [(nh8 h.1.1 h.1.2.1 hp h.2.1 hk0).1 k (by omega) nm, bso, show f_X8_in (nI (cr k)).toInt64 0 10 = _ from inN (lo := 0) (hi := 10) (by omega) (by omega) (by omega), if_neg (by omega), bso, if_neg (by decide)]
      exact r70 hk h.1.2.2.2.1.2.1 h.1.2.2.2.1.2.2.1 h.1.2.2.2.1.2.2.2.1 tb w1 w2
    have rowk : RF k D → 6 < cr k := by
      intro z
      have : k = 1 ∨ k = 2 ∨ k = 3 := by unfold RF at z; omega
      rcases this with rfl | rfl | rfl <;> decide
    have gt6 : 6 < cr k → (6 : Int32) < nI (cr k) := fun z => nI_lt (a := 6) z (by omega)
    have ng6 : ¬ 6 < cr k → ¬ (6 : Int32) < nI (cr k) := fun z => nI_nlt (a := 6) (b := cr k) (by omega) (by omega)
    by_cases hd1 : cr k ≤ 6 ∧ T.testBit (liL.getD k 0) = true
    · refine .inl ⟨4, hd n b p, by omega, by omega, hh.2, fun σ h => ?_, fun σ h => ?_⟩
      · obtain ⟨s1, x2, x3, x4, x5, x6, -, -⟩ := clB σ h
        obtain ⟨s2, y1, y2, y3⟩ := x6 hd1
        exact ⟨s2, y1, Dw_tr (Ff_sg (F7_Ff x2)) (Ff_sg y2), y3⟩
      · obtain ⟨x1, x2, x3, x4⟩ := rfA σ h
        obtain ⟨s1, y1, y2, y3⟩ := fail8 4 x2 x3
        obtain ⟨s2, z1, z2, z3⟩ := b93 (f := 4) (by omega) (by omega) y3 (nI (cr k))
        refine ⟨s2, x1 _ (fun q => absurd (rowk q) (by omega)) (fun _ => ?_), Dw_tr (FrJ_sg (Fr8_J y2)) z2, z3⟩
        unfold f_X8_readLine_70
        have ub : U.testBit (cr k) = true := by rw [← tu.2.2.1 k hk hd1.1]; exact hd1.2
        have uu := tu.2.1
        rw [if_neg (ng6 (by omega)), h.2.2, if_pos ((bt1 (by omega) (by omega)).mpr ub), show f_X8_fails σ 4 = _ from y1, bso]
        exact z1
    · by_cases hrf : RF k D
      · refine .inl ⟨5, hd n b p, by omega, by omega, hh.2, fun σ h => ?_, fun σ h => ?_⟩
        · obtain ⟨s1, x2, x3, x4, x5, -, x6, -⟩ := clB σ h
          obtain ⟨s2, y1, y2, y3⟩ := x6 hd1 hrf
          exact ⟨s2, y1, Dw_tr (Ff_sg (F7_Ff x2)) (Ff_sg y2), y3⟩
        · obtain ⟨x1, x2, x3, x4⟩ := rfA σ h
          obtain ⟨s1, y1, y2, y3⟩ := fail8 5 x2 x3
          obtain ⟨s2, z1, z2, z3⟩ := b93 (f := 5) (by omega) (by omega) y3 (nI (cr k))
          refine ⟨s2, x1 _ (fun _ => ?_) (fun q => absurd hrf q), Dw_tr (FrJ_sg (Fr8_J y2)) z2, z3⟩
          unfold f_X8_readLine_65
          rw [show f_X8_fails σ 5 = _ from y1, bso]
          unfold f_X8_readLine_70
          rw [if_pos (gt6 (rowk hrf))]
          exact z1
      · -- the body
        have hh2 := hd_ge n b he.2.1
        have tt := tu.1
        have uu := tu.2.1
        have cl : ∀ σ, CSl n b p D T σ → ∃ s1, f_X2_readLine σ = ((cbk k s1).bind fun q => if q.1 = 0 then some ((0 : Int32), q.2) else (f_X2_takeSign q.2).bind fun q6 => if q6.1 = 0 then some ((0 : Int32), q6.2) else some ((1 : Int32), q6.2)) ∧ Sg σ s1 ∧ CSb n b (en n b p) D s1 ∧ s1 39 2 = nI (T ||| 2 ^ liL.getD k 0) := by
          intro σ h
          obtain ⟨s1, x2, x3, x4, x5, -, -, x6⟩ := clB σ h
          refine ⟨_, by rw [x6 hd1 hrf, l89 hk, ltq], up_sg (Ff_sg (F7_Ff x2)) rfl, CSb_39 x4, ?_⟩
          rw [up_same, x5, sbl (by omega), or_g]
        have rl : ∀ σ, RSl n b p D AT MT HJ U σ → ∃ s1, f_X8_readLine σ = (if (s1 60 25) ≤ 0 then (rbk k s1).bind (fun q5 => f_X8_readLine_136 q5) else some s1) ∧ Sg σ s1 ∧ RSb n b D AT MT HJ s1 ∧ RY n b (en n b p) s1 ∧ s1 60 18 = nI (U ||| 2 ^ cr k) := by
          intro σ h
          obtain ⟨x1, x2, x3, x4⟩ := rfA σ h
          have r1 : RSb n b D AT MT HJ (va_up σ 60 (upd (σ 60) 18 (nI (U ||| 2 ^ cr k)))) := RSb_18 h.1
          obtain ⟨s1, y1, y2, y3⟩ := step8 r1.1 he.2.1 ((up_ne σ (.inr (by decide))).trans x2) ((up_ne σ (.inr (by decide))).trans x4)
          refine ⟨s1, x1 _ (fun q => absurd q hrf) (fun _ => ?_), Dw_tr (up_sg (Dw_refl 0 σ) rfl) (FrJ_sg (Fr8_J y2)), RSb_fr y2 r1, y3, (y2 60 18 (by omega)).trans (up_same _ _ _ _)⟩
          have e93 : f_X8_readLine_70 σ (nI (cr k)) = f_X8_readLine_93 σ (nI (cr k)) := by
            unfold f_X8_readLine_70
            by_cases z : 6 < cr k
            · rw [if_pos (gt6 z)]
            · have ub : ¬ U.testBit (cr k) = true := by
                rw [← tu.2.2.1 k hk (by omega)]
                exact fun q => hd1 ⟨by omega, q⟩
              rw [if_neg (ng6 z), h.2.2, if_neg (fun q => ub ((bt1 (by omega) (by omega)).mp q))]
          rw [e93, r93 hk, h.2.2, sbl (by omega), or_g, ltq, y1, bso]
        by_cases hz : kk_ n b (en n b p) = 0
        · refine .inl ⟨1, hd n b (en n b p), by omega, by omega, hh2.2, fun σ h => ?_, fun σ h => ?_⟩
          · obtain ⟨s1, x1, x2, x3, x4⟩ := cl σ h
            obtain ⟨s2, y1, y2, y3⟩ := cb_0 he.2.1 hz x3 hk
            exact ⟨s2, by rw [x1, y1, bso, if_pos rfl], Dw_tr x2 y2, y3⟩
          · obtain ⟨s1, x1, x2, x3, x4, x5⟩ := rl σ h
            have br := x4.1 hz
            exact ⟨s1, by rw [x1, br.1, if_neg (by decide)], x2, br⟩
        · have bo := bo_all he.2.1 hz tD lk hk (fun z => by have := tb.1; unfold RF at hrf; omega) (fun z => by have := tb.2.1; unfold RF at hrf; omega) (fun z => by have := tb.2.2; unfold RF at hrf; omega) (fun z => by
            subst z
            refine tu.2.2.2 ?_
            have : ¬ T.testBit 5 = true := fun q => hd1 ⟨by decide, q⟩
            simpa using this)
          have rl2 : ∀ σ, RSl n b p D AT MT HJ U σ → ∃ s1, f_X8_readLine σ = (rbk k s1).bind (fun q5 => f_X8_readLine_136 q5) ∧ Sg σ s1 ∧ RSb n b D AT MT HJ s1 ∧ RY n b (en n b p) s1 ∧ s1 60 18 = nI (U ||| 2 ^ cr k) := by
            intro σ h
            obtain ⟨s1, x1, x2, x3, x4, x5⟩ := rl σ h
            exact ⟨s1, by rw [x1, (x4.2 hz).1, if_pos (by decide)], x2, x3, x4, x5⟩
          rcases bo with ⟨f, q, f1, f2, f3, f4, f5⟩ | ⟨D', p', AT', MT', HJ', g1, g2, g3, g4, g5, g6, g7⟩
          · refine .inl ⟨f, q, f1, f2, f3, fun σ h => ?_, fun σ h => ?_⟩
            · obtain ⟨s1, x1, x2, x3, x4⟩ := cl σ h
              obtain ⟨s2, y1, y2, y3⟩ := f4 s1 x3
              exact ⟨s2, by rw [x1, y1, bso, if_pos rfl], Dw_tr x2 y2, y3⟩
            · obtain ⟨s1, x1, x2, x3, x4, x5⟩ := rl2 σ h
              obtain ⟨s2, y1, y2, y3⟩ := f5 s1 x3 x4
              exact ⟨s2, by rw [x1, y1, bso, tail8_b f1 f2 y3], Dw_tr x2 y2, y3⟩
          · have hh3 := hd_ge n b g2
            have he3 := en_ge n b g2
            by_cases hs : sfa n b p' = 0
            · refine .inr ⟨D', en n b p', AT', MT', HJ', T ||| 2 ^ liL.getD k 0, U ||| 2 ^ cr k, by omega, he3.2.1, g3, g4, TU_set hk tu g5, fun σ h => ?_, fun σ h => ?_⟩
              · obtain ⟨s1, x1, x2, x3, x4⟩ := cl σ h
                obtain ⟨s2, y1, y2, y3, y4⟩ := g6 s1 x3
                obtain ⟨s3, z1, z2, z3⟩ := (ts7 y3.1 g2 y3.2.1).2 hs
                refine ⟨s3, ?_, Dw_tr x2 (Dw_tr y2 (Ff_sg (F7_Ff z2))), CSb_F7 z2 z3.2.1 y3, (z2 39 2 (by omega)).trans (y4.trans x4)⟩
                rw [x1, y1, bso, if_neg (show ¬ (1 : Int32) = 0 by decide), z1, bso, if_neg (show ¬ (1 : Int32) = 0 by decide)]
              · obtain ⟨s1, x1, x2, x3, x4, x5⟩ := rl2 σ h
                obtain ⟨s2, y1, y2, y3, y4, y5⟩ := g7 s1 x3 x4
                obtain ⟨s3, z1, z2, z3⟩ := (tail8 y3.1 g2 y4).2 hs
                exact ⟨s3, by rw [x1, y1, bso, z1], Dw_tr x2 (Dw_tr y2 (FrJ_sg (Fr8_J z2))), RSb_fr z2 y3, z3, (z2 60 18 (by omega)).trans (y5.trans x5)⟩
            · have s2' : sfa n b p' < 10 ∧ 1 ≤ sfa n b p' := by have := sfa_le n b p'; omega
              refine .inl ⟨sfa n b p', hd n b p', s2'.2, s2'.1, hh3.2, fun σ h => ?_, fun σ h => ?_⟩
              · obtain ⟨s1, x1, x2, x3, x4⟩ := cl σ h
                obtain ⟨s2, y1, y2, y3, y4⟩ := g6 s1 x3
                obtain ⟨s3, z1, z2, z3⟩ := (ts7 y3.1 g2 y3.2.1).1 hs
                refine ⟨s3, ?_, Dw_tr x2 (Dw_tr y2 (Ff_sg z2)), z3⟩
                rw [x1, y1, bso, if_neg (show ¬ (1 : Int32) = 0 by decide), z1, bso, if_pos rfl]
              · obtain ⟨s1, x1, x2, x3, x4, x5⟩ := rl2 σ h
                obtain ⟨s2, y1, y2, y3, y4, y5⟩ := g7 s1 x3 x4
                obtain ⟨s3, z1, z2, z3⟩ := (tail8 y3.1 g2 y4).1 hs
                exact ⟨s3, by rw [x1, y1, bso, z1], Dw_tr x2 (Dw_tr y2 (FrJ_sg (Fr8_J z2))), z3⟩
  · have hN' : ∀ k, k < 11 → ¬ NM n b p k := fun k a w => hN ⟨k, a, w⟩
    refine .inl ⟨2, hd n b p, by omega, by omega, hh.2, fun σ h => ?_, fun σ h => ?_⟩
    · obtain ⟨s1, x1, x2, x3, x4, x5⟩ := clA σ h
      obtain ⟨s2, y1, y2, y3⟩ := cref s1 2 x3
      refine ⟨s2, ?_, Dw_tr (Ff_sg (F7_Ff x2)) (Ff_sg y2), y3⟩
      rw [x1, (lin7 x3 hp).2 hN', bso, if_pos rfl]
      exact y1
    · obtain ⟨y1, y2, y3, y4, y5⟩ := h.2.1.2 hk0
      obtain ⟨s1, x1, x2, x3⟩ := fail8 2 y1 y2
      refine ⟨s1, ?_, FrJ_sg (Fr8_J x2), x3⟩
      have nh : ∃ w : Int32, f_X8_nameHere σ = some w ∧ f_X8_in w.toInt64 0 10 = some 0 := by
        by_cases q : ∃ k, k < 16 ∧ NM n b p k
        · obtain ⟨k, k1, k2⟩ := q
          have : 11 ≤ k := by
            by_cases z : k < 11
            · exact absurd k2 (hN' k z)
            · omega
          refine ⟨_, (nh8 h.1.1 h.1.2.1 hp h.2.1 hk0).1 k k1 k2, ?_⟩
          have c : ∀ k, k < 16 → 11 ≤ k → 10 < cr k ∧ cr k < 16 := by decide
          have c' := c k k1 this
          rw [show f_X8_in (nI (cr k)).toInt64 0 10 = _ from inN (lo := 0) (hi := 10) (by omega) (by omega) (by omega), if_pos (by omega)]
        · exact ⟨_, (nh8 h.1.1 h.1.2.1 hp h.2.1 hk0).2 fun k a c => q ⟨k, a, c⟩, rfl⟩
      obtain ⟨w, w1, w2⟩ := nh
      unfold f_X8_readLine
      rw [w1, bso, w2, bso, if_pos rfl, show f_X8_fails σ 2 = _ from x1, bso]
end
section
/-! the lines of a text *-/
theorem k4_hd {n : Nat} {b : Nat → Nat} {p : Nat} (h : kk_ n b p ≠ 4) : hd n b p < n := by
  by_cases z : hd n b p < n
  · exact z
  · exfalso
    have e1 : k0 n b p = 4 := by unfold k0; rw [if_neg z]
    have : kk_ n b p = 4 := by unfold kk_; rw [e1, if_neg (by omega)]
    exact h this
theorem k4_n {n : Nat} {b : Nat → Nat} {p : Nat} (hp : p ≤ n) (h : kk_ n b p = 4) : hd n b p = n := by
  have hh := hd_ge n b hp
  by_cases z : hd n b p < n
  · exfalso
    have := kd_le (b (hd n b p))
    have e1 : k0 n b p = kd (b (hd n b p)) := by unfold k0; rw [if_pos z]
    have : kk_ n b p ≤ 3 := by unfold kk_; rw [e1]; split <;> omega
    omega
  · omega
theorem walk {n : Nat} {b : Nat → Nat} (hn : n ≤ 160) : ∀ (d p i fc fr : Nat) (D : NN) (AT MT HJ T U : Nat), n - p < d → p ≤ n → i ≤ p → d ≤ fc → d ≤ fr → TD D → LK D AT MT HJ → TU D T U →
    (∃ f q, 1 ≤ f ∧ f < 10 ∧ q ≤ n ∧ (∀ σ, CSl n b p D T σ → ∃ σ' v, f_X7_text_9 fc σ (nI i) = f_X7_text_32 σ' v ∧ Sg σ σ' ∧ flt f q σ') ∧ (∀ σ, RSl n b p D AT MT HJ U σ → ∃ σ' v, f_X8_text_10 fr σ (nI i) = f_X8_text_34 σ' v ∧ Sg σ σ' ∧ BR f q σ')) ∨
    (∃ D' AT' MT' HJ' m, m ≤ n ∧ TD D' ∧ LK D' AT' MT' HJ' ∧ (∀ σ, CSl n b p D T σ → ∃ σ', f_X7_text_9 fc σ (nI i) = f_X7_text_32 σ' (nI m) ∧ Sg σ σ' ∧ TV 28 D' σ' ∧ σ' 39 3 = 0) ∧ (∀ σ, RSl n b p D AT MT HJ U σ → ∃ σ', f_X8_text_10 fr σ (nI i) = f_X8_text_34 σ' (nI m) ∧ Sg σ σ' ∧ RSb n b D' AT' MT' HJ' σ' ∧ σ' 60 25 = 0 ∧ σ' 60 28 = nI n)) := by
  intro d
  induction d with
  | zero => intro p i fc fr D AT MT HJ T U h; omega
  | succ d ih =>
    intro p i fc fr D AT MT HJ T U hd1 hp hi hfc hfr tD lk tu
    obtain ⟨fc, rfl⟩ : ∃ m, fc = m + 1 := ⟨fc - 1, by omega⟩
    obtain ⟨fr, rfl⟩ : ∃ m, fr = m + 1 := ⟨fr - 1, by omega⟩
    have hh := hd_ge n b hp
    have hb := kk_le n b p
    by_cases k4 : kk_ n b p = 4
    · refine .inr ⟨D, AT, MT, HJ, i, by omega, tD, lk, fun σ h => ?_, fun σ h => ?_⟩
      · by_cases z : 160 ≤ i
        · exact ⟨σ, by rw [f_X7_text_9, if_pos (show (160 : Int32) ≤ nI i from nI_le (a := 160) z (by omega))], Dw_refl 0 σ, h.1.2.2.2, h.1.2.2.1⟩
        · obtain ⟨s1, x1, x2, x3⟩ := (tt7 h.1.1 hp h.1.2.1).2 (by omega)
          have c1 := CSb_F7 x2 x3.2.1 h.1
          refine ⟨s1, ?_, Ff_sg (F7_Ff x2), c1.2.2.2, c1.2.2.1⟩
          have e : f_X2_readLine σ = some (0, s1) := by
            unfold f_X2_readLine
            rw [x1, bso, if_neg (show ¬ (1 : Int32) = 0 by decide), if_pos (show s1 37 3 = 4 from x3.2.2.1.trans (by rw [k4]; rfl))]
          rw [f_X7_text_9, if_neg (show ¬ (160 : Int32) ≤ nI i from nI_ge (b := 160) (by omega) (by omega)), e, bso, if_pos rfl]
      · obtain ⟨y1, y2, y3, y4, y5⟩ := h.2.1.2 (by omega)
        exact ⟨σ, by rw [f_X8_text_10, if_pos y1, if_pos (show σ 60 29 = 0 from y4.trans (by rw [k4]; rfl))], Dw_refl 0 σ, h.1, y1, y2.trans (by rw [k4_n hp k4])⟩
    · have hl := k4_hd k4
      have i160 : ¬ (160 : Int32) ≤ nI i := nI_ge (b := 160) (by omega) (by omega)
      by_cases k0 : kk_ n b p = 0
      · refine .inl ⟨1, hd n b p, by omega, by omega, hh.2, fun σ h => ?_, fun σ h => ?_⟩
        · obtain ⟨s1, x1, x2, x3⟩ := (tt7 h.1.1 hp h.1.2.1).1 k0
          have e : f_X2_readLine σ = some (0, s1) := by
            unfold f_X2_readLine
            rw [x1, bso, if_pos rfl]
          exact ⟨s1, _, by rw [f_X7_text_9, if_neg i160, e, bso, if_pos rfl], Ff_sg x2, x3⟩
        · have br := h.2.1.1 k0
          exact ⟨σ, _, by rw [f_X8_text_10, if_neg (show ¬ σ 60 25 = 0 from fun q => absurd (br.1.symm.trans q) (by decide))], Dw_refl 0 σ, br⟩
      · have n29 : ∀ σ : ZI, RSl n b p D AT MT HJ U σ → σ 60 25 = 0 ∧ ¬ σ 60 29 = 0 := by
          intro σ h
          obtain ⟨y1, y2, y3, y4, y5⟩ := h.2.1.2 k0
          refine ⟨y1, fun q => ?_⟩
          have := nI_inj (b := 0) (by unfold tk_; split <;> omega) (by omega) (y4.symm.trans q)
          unfold tk_ at this
          split at this <;> omega
        rcases line_ hp k0 k4 tD lk tu with ⟨f, q, f1, f2, f3, f4, f5⟩ | ⟨D', p', AT', MT', HJ', T', U', g1, g2, g3, g4, g5, g6, g7⟩
        · refine .inl ⟨f, q, f1, f2, f3, fun σ h => ?_, fun σ h => ?_⟩
          · obtain ⟨s1, x1, x2, x3⟩ := f4 σ h
            exact ⟨s1, _, by rw [f_X7_text_9, if_neg i160, x1, bso, if_pos rfl], x2, x3⟩
          · obtain ⟨s1, x1, x2, x3⟩ := f5 σ h
            obtain ⟨fr, rfl⟩ : ∃ m, fr = m + 1 := ⟨fr - 1, by omega⟩
            have nf0 : ¬ s1 60 25 = 0 := fun z => by
              have := nI_inj (b := 0) (by omega) (by omega) (x3.1.symm.trans z)
              omega
            exact ⟨s1, _, by rw [f_X8_text_10, if_pos (n29 σ h).1, if_neg (n29 σ h).2, x1, bso, f_X8_text_10, if_neg nf0], x2, x3⟩
        · have cs : ∀ σ, CSl n b p D T σ → ∃ s1, f_X7_text_9 (fc + 1) σ (nI i) = f_X7_text_9 fc s1 (nI (i + 1)) ∧ Sg σ s1 ∧ CSl n b p' D' T' s1 := by
            intro σ h
            obtain ⟨s1, x1, x2, x3⟩ := g6 σ h
            exact ⟨s1, by rw [f_X7_text_9, if_neg i160, x1, bso, if_neg (show ¬ (1 : Int32) = 0 by decide), nI_1], x2, x3⟩
          have rs : ∀ σ, RSl n b p D AT MT HJ U σ → ∃ s1, f_X8_text_10 (fr + 1) σ (nI i) = f_X8_text_10 fr s1 (nI (i + 1)) ∧ Sg σ s1 ∧ RSl n b p' D' AT' MT' HJ' U' s1 := by
            intro σ h
            obtain ⟨s1, x1, x2, x3⟩ := g7 σ h
            exact ⟨s1, by rw [f_X8_text_10, if_pos (n29 σ h).1, if_neg (n29 σ h).2, x1, bso, nI_1], x2, x3⟩
          rcases ih p' (i + 1) fc fr D' AT' MT' HJ' T' U' (by omega) g2 (by omega) (by omega) (by omega) g3 g4 g5 with ⟨f, q, f1, f2, f3, f4, f5⟩ | ⟨D2, AT2, MT2, HJ2, m, m1, m2, m3, m4, m5⟩
          · refine .inl ⟨f, q, f1, f2, f3, fun σ h => ?_, fun σ h => ?_⟩
            · obtain ⟨s1, x1, x2, x3⟩ := cs σ h
              obtain ⟨s2, v, y1, y2, y3⟩ := f4 s1 x3
              exact ⟨s2, v, x1.trans y1, Dw_tr x2 y2, y3⟩
            · obtain ⟨s1, x1, x2, x3⟩ := rs σ h
              obtain ⟨s2, v, y1, y2, y3⟩ := f5 s1 x3
              exact ⟨s2, v, x1.trans y1, Dw_tr x2 y2, y3⟩
          · refine .inr ⟨D2, AT2, MT2, HJ2, m, m1, m2, m3, fun σ h => ?_, fun σ h => ?_⟩
            · obtain ⟨s1, x1, x2, x3⟩ := cs σ h
              obtain ⟨s2, y1, y2, y3⟩ := m4 s1 x3
              exact ⟨s2, x1.trans y1, Dw_tr x2 y2, y3⟩
            · obtain ⟨s1, x1, x2, x3⟩ := rs σ h
              obtain ⟨s2, y1, y2, y3⟩ := m5 s1 x3
              exact ⟨s2, x1.trans y1, Dw_tr x2 y2, y3⟩
end
section
/-! the end of a text: a joint that is missing; the class *-/
theorem jm75 {D : NN} {σ : ZI} (tD : TD D) (tv : TV 28 D σ) {J : Nat} (hJ : J ≤ 10) : ∀ (d i fu : Nat), i + d = D 0 2 → d < fu → ((∀ m, i ≤ m → m < D 0 2 → D 4 m ≤ J) → f_X2_isJointMissing_75 σ fu (nI J) (nI i) = some 0) ∧ (¬ (∀ m, i ≤ m → m < D 0 2 → D 4 m ≤ J) → f_X2_isJointMissing_75 σ fu (nI J) (nI i) = some 1) := by
  have tb := (TD_TB tD).2.1
  intro d
  induction d with
  | zero =>
    intro i fu h1 h2
    obtain ⟨fu, rfl⟩ : ∃ m, fu = m + 1 := ⟨fu - 1, by omega⟩
    have e : f_X2_isJointMissing_75 σ (fu + 1) (nI J) (nI i) = some 0 := by
      rw [f_X2_isJointMissing_75, v28_2, bso, if_pos (show σ 29 2 ≤ nI i by rw [show σ 29 2 = _ from tv.1 2 (by omega)]; exact nI_le (by omega) (by omega))]
    exact ⟨fun _ => e, fun h => absurd (fun m a c => by omega) h⟩
  | succ d ih =>
    intro i fu h1 h2
    obtain ⟨fu, rfl⟩ : ∃ m, fu = m + 1 := ⟨fu - 1, by omega⟩
    obtain ⟨i1, i2⟩ := ih (i + 1) fu (by omega) (by omega)
    have b4 := tD.2.2.2.1 i (by omega)
    have pre : f_X2_isJointMissing_75 σ (fu + 1) (nI J) (nI i) = if nI (D 4 i) ≤ nI J then f_X2_isJointMissing_75 σ fu (nI J) (nI (i + 1)) else some 1 := by
      rw [f_X2_isJointMissing_75, v28_2, bso, if_neg (show ¬ σ 29 2 ≤ nI i by rw [show σ 29 2 = _ from tv.1 2 (by omega)]; exact nI_ge (by omega) (by omega)), at_n (N := 3) rfl (by omega) (by omega), bso, nI_1]
      simp only [show σ 33 i = _ from (tv.2.2.1 i (by omega)).1]
    rw [pre]
    by_cases z : D 4 i ≤ J
    · rw [if_pos (nI_le z (by omega))]
      refine ⟨fun h => i1 fun m a c => h m (by omega) c, fun h => i2 fun q => h fun m a c => ?_⟩
      by_cases w : m = i
      · subst w; exact z
      · exact q m (by omega) c
    · rw [if_neg (nI_ge (by omega) (by omega))]
      exact ⟨fun h => absurd (h i (Nat.le_refl _) (by omega)) z, fun _ => rfl⟩
theorem jm38 {D : NN} {σ : ZI} (tD : TD D) (tv : TV 28 D σ) {J : Nat} (hJ : J ≤ 10) : ∀ (d i fu : Nat), i + d = D 0 1 → d < fu → ((∀ m, i ≤ m → m < D 0 1 → D 2 m ≤ J) → f_X2_isJointMissing_38 σ fu (nI J) (nI i) = f_X2_isJointMissing_75 σ 3000 (nI J) 0) ∧ (¬ (∀ m, i ≤ m → m < D 0 1 → D 2 m ≤ J) → f_X2_isJointMissing_38 σ fu (nI J) (nI i) = some 1) := by
  have tb := (TD_TB tD).1
  intro d
  induction d with
  | zero =>
    intro i fu h1 h2
    obtain ⟨fu, rfl⟩ : ∃ m, fu = m + 1 := ⟨fu - 1, by omega⟩
    have e : f_X2_isJointMissing_38 σ (fu + 1) (nI J) (nI i) = f_X2_isJointMissing_75 σ 3000 (nI J) 0 := by
      rw [f_X2_isJointMissing_38, v28_1, bso, if_pos (show σ 29 1 ≤ nI i by rw [show σ 29 1 = _ from tv.1 1 (by omega)]; exact nI_le (by omega) (by omega))]
    exact ⟨fun _ => e, fun h => absurd (fun m a c => by omega) h⟩
  | succ d ih =>
    intro i fu h1 h2
    obtain ⟨fu, rfl⟩ : ∃ m, fu = m + 1 := ⟨fu - 1, by omega⟩
    obtain ⟨i1, i2⟩ := ih (i + 1) fu (by omega) (by omega)
    have b4 := tD.2.1 i (by omega)
    have pre : f_X2_isJointMissing_38 σ (fu + 1) (nI J) (nI i) = if nI (D 2 i) ≤ nI J then f_X2_isJointMissing_38 σ fu (nI J) (nI (i + 1)) else some 1 := by
      rw [f_X2_isJointMissing_38, v28_1, bso, if_neg (show ¬ σ 29 1 ≤ nI i by rw [show σ 29 1 = _ from tv.1 1 (by omega)]; exact nI_ge (by omega) (by omega)), at_n (N := 3) rfl (by omega) (by omega), bso, nI_1]
      simp only [show σ 31 i = _ from (tv.2.1 i (by omega)).2.1]
    rw [pre]
    by_cases z : D 2 i ≤ J
    · rw [if_pos (nI_le z (by omega))]
      refine ⟨fun h => i1 fun m a c => h m (by omega) c, fun h => i2 fun q => h fun m a c => ?_⟩
      by_cases w : m = i
      · subst w; exact z
      · exact q m (by omega) c
    · rw [if_neg (nI_ge (by omega) (by omega))]
      exact ⟨fun h => absurd (h i (Nat.le_refl _) (by omega)) z, fun _ => rfl⟩
theorem bits_lt {s J : Nat} (hs : s < 2 ^ 10) : s < 2 ^ J ↔ ∀ j, j < 10 → s.testBit j = true → j + 1 ≤ J := by
  constructor
  · intro h j hj w
    by_cases z : j + 1 ≤ J
    · exact z
    · exfalso
      have : s < 2 ^ j := Nat.lt_of_lt_of_le h (Nat.pow_le_pow_right (by omega) (by omega))
      rw [Nat.testBit_lt_two_pow this] at w
      exact absurd w (by decide)
  · intro h
    apply Nat.lt_pow_two_of_testBit
    intro i hi
    by_cases z : i < 10
    · by_cases w : s.testBit i = true
      · have := h i z w; omega
      · simpa using w
    · exact Nat.testBit_lt_two_pow (Nat.lt_of_lt_of_le hs (Nat.pow_le_pow_right (by omega) (by omega)))
theorem jm7 {D : NN} {AT MT HJ : Nat} {σ : ZI} (tD : TD D) (lk : LK D AT MT HJ) (tv : TV 28 D σ) : (HJ ≤ D 0 0 → f_X2_isJointMissing σ = some 0) ∧ (¬ HJ ≤ D 0 0 → f_X2_isJointMissing σ = some 1) := by
  have k := tD.1
  have h := lk.2.2.2.2.2 (D 0 0)
  have hJ : D 0 0 ≤ 10 := k.2.1
  have hs : D 0 4 < 2 ^ 10 := k.2.2.2.2.2.1
  rw [← bits_lt hs] at h
  have pre : f_X2_isJointMissing σ = if nI (D 0 0) < nI (D 0 5) then some 1 else if nI (D 0 4 / 2 ^ D 0 0) = 0 then f_X2_isJointMissing_38 σ 3000 (nI (D 0 0)) 0 else some 1 := by
    unfold f_X2_isJointMissing
    rw [v28_0, bso, v28_5, bso, v28_4, bso, show σ 29 0 = _ from tv.1 0 (by omega), show σ 29 5 = _ from tv.1 5 (by omega), show σ 29 4 = _ from tv.1 4 (by omega), pk_shrN (by omega) _ (D 0 0) (sm32 (D 0 0) (by omega))]
  rw [pre]
  have dz : nI (D 0 4 / 2 ^ D 0 0) = 0 ↔ D 0 4 < 2 ^ D 0 0 := by
    have l : D 0 4 / 2 ^ D 0 0 ≤ D 0 4 := Nat.div_le_self _ _
    constructor
    · intro q
      have := nI_inj (b := 0) (by omega) (by omega) q
      exact (Nat.div_eq_zero_iff_lt (Nat.two_pow_pos _)).1 this
    · intro q
      rw [Nat.div_eq_of_lt q]; rfl
  obtain ⟨a1, a2⟩ := jm38 tD tv hJ (D 0 1) 0 3000 (by omega) (by omega)
  obtain ⟨c1, c2⟩ := jm75 tD tv hJ (D 0 2) 0 3000 (by omega) (by omega)
  refine ⟨fun z => ?_, fun z => ?_⟩
  · obtain ⟨h1, h2, h3, h4⟩ := h.1 z
    rw [if_neg (nI_nlt h1 (by omega)), if_pos (dz.2 h4), show f_X2_isJointMissing_38 σ 3000 (nI (D 0 0)) 0 = _ from a1 fun m _ c => h2 m c]
    exact c1 fun m _ c => h3 m c
  · by_cases w1 : D 0 5 ≤ D 0 0
    · rw [if_neg (nI_nlt w1 (by omega))]
      by_cases w4 : D 0 4 < 2 ^ D 0 0
      · rw [if_pos (dz.2 w4)]
        by_cases w2 : ∀ m, 0 ≤ m → m < D 0 1 → D 2 m ≤ D 0 0
        · rw [show f_X2_isJointMissing_38 σ 3000 (nI (D 0 0)) 0 = _ from a1 w2]
          exact c2 fun q => z (h.2 ⟨w1, fun m c => w2 m (by omega) c, fun m c => q m (by omega) c, w4⟩)
        · exact a2 w2
      · rw [if_neg (fun q => w4 (dz.1 q))]
    · rw [if_pos (nI_lt (by omega) (by omega))]
/-- the class's end -/
def Fe (σ σ' : ZI) : Prop := ∀ c i, own c i ≠ 0 → ¬ (c = 37 ∧ i = 1) → ¬ (c = 0 ∧ i = 6) → σ' c i = σ c i
theorem ce_x {σ : ZI} {v : Int32} {f : Nat} (hf : 1 ≤ f) (hf2 : f < 10) (h : f_X2_finish σ = some σ) (h3 : σ 39 3 = nI f) : ∃ σ', f_X7_text_32 σ v = some (-10 - σ 39 4, σ') ∧ σ' 37 1 = 0 ∧ σ' 0 6 = nI f ∧ Fe σ σ' := by
  unfold f_X7_text_32
  have e3 : va_up σ 37 (upd (σ 37) 1 0) 39 3 = nI f := (up_ne σ (.inl (by decide))).trans h3
  have n0 : ¬ nI f = 0 := fun q => by have := nI_inj (b := 0) (by omega) (by omega) q; omega
  rw [h, bso, ltq, ltq, e3, up_same, if_neg n0]
  refine ⟨_, rfl, (up_ne _ (.inl (by decide))).trans (up_same _ _ _ _), up_same _ _ _ _, fun c i _ h1 h2 => ?_⟩
  exact (up_ne _ (by omega)).trans (up_ne _ (by omega))
theorem ce_f {σ : ZI} {v : Int32} {f q : Nat} (hf : 1 ≤ f) (hf2 : f < 10) (h : flt f q σ) : ∃ σ', f_X7_text_32 σ v = some (-10 - nI q, σ') ∧ σ' 37 1 = 0 ∧ σ' 0 6 = nI f ∧ Fe σ σ' := by
  have n0 : ¬ σ 39 3 = 0 := fun q => by have := nI_inj (b := 0) (by omega) (by omega) (h.1.symm.trans q); omega
  have := ce_x (v := v) hf hf2 (show f_X2_finish σ = some σ by unfold f_X2_finish; rw [if_neg n0]) h.1
  rw [h.2] at this
  exact this
end
section
/-! the end of a text, on both sides *-/
theorem ce_m {n : Nat} {b : Nat → Nat} {D : NN} {AT MT HJ : Nat} {σ : ZI} {v : Int32} (tD : TD D) (lk : LK D AT MT HJ) (tv : TV 28 D σ) (h3 : σ 39 3 = 0) (e37 : σ 37 1 = nI n) (hJ : ¬ HJ ≤ D 0 0) : ∃ σ', f_X7_text_32 σ v = some (-10 - nI n, σ') ∧ σ' 37 1 = 0 ∧ σ' 0 6 = nI 6 ∧ Fe σ σ' := by
  have e : f_X2_finish σ = some (va_up (va_up σ 39 (upd (σ 39) 3 6)) 39 (upd (va_up σ 39 (upd (σ 39) 3 6) 39) 4 (nI n))) := by
    unfold f_X2_finish
    rw [if_pos h3, (jm7 tD lk tv).2 hJ, bso, if_neg (show ¬ (1 : Int32) = 0 by decide), ltq, ltq, show va_up σ 39 (upd (σ 39) 3 6) 37 1 = _ from (up_ne σ (.inl (by decide))).trans e37]
  obtain ⟨s1, hs1⟩ : ∃ s1, s1 = va_up (va_up σ 39 (upd (σ 39) 3 6)) 39 (upd (va_up σ 39 (upd (σ 39) 3 6) 39) 4 (nI n)) := ⟨_, rfl⟩
  rw [← hs1] at e
  have g3 : s1 39 3 = nI 6 := by rw [hs1]; exact (up_ne _ (.inr (by decide))).trans (up_same _ _ _ _)
  have g4 : s1 39 4 = nI n := by rw [hs1]; exact up_same _ _ _ _
  have fin1 : f_X2_finish s1 = some s1 := by
    unfold f_X2_finish
    rw [if_neg (show ¬ s1 39 3 = 0 from fun q => absurd (g3.symm.trans q) (by decide))]
  obtain ⟨σ', x1, x2, x3, x4⟩ := ce_x (v := v) (f := 6) (by omega) (by omega) fin1 g3
  rw [g4] at x1
  refine ⟨σ', ?_, x2, x3, fun c i o h1 h2 => (x4 c i o h1 h2).trans ?_⟩
  · have t1 : f_X7_text_32 σ v = f_X7_text_32 s1 v := by
      unfold f_X7_text_32
      rw [e, fin1]
    rw [t1, x1]
  · rw [hs1]
    have c39 : c ≠ 39 := by
      intro q; subst q; exact o rfl
    exact (up_ne _ (.inl c39)).trans (up_ne _ (.inl c39))
theorem ce_ok {n : Nat} {b : Nat → Nat} {D : NN} {AT MT HJ : Nat} {σ : ZI} {v : Int32} (tD : TD D) (lk : LK D AT MT HJ) (tv : TV 28 D σ) (h3 : σ 39 3 = 0) (hJ : HJ ≤ D 0 0) : ∃ σ', f_X7_text_32 σ v = some (v, σ') ∧ σ' 37 1 = 0 ∧ σ' 0 6 = 0 ∧ σ' 0 3 = 0 ∧ σ' 51 2 = 0 ∧ TV 1 D σ' ∧ (∀ c i, own c i ≠ 0 → own c i ≠ 1 → ¬ (c = 37 ∧ i = 1) → ¬ (c = 0 ∧ i = 6) → ¬ (c = 0 ∧ i = 3) → ¬ (c = 51 ∧ i = 2) → σ' c i = σ c i) := by
  have fin1 : f_X2_finish σ = some σ := by
    unfold f_X2_finish
    rw [if_pos h3, (jm7 tD lk tv).1 hJ, bso, if_pos rfl]
  obtain ⟨s1, hs1⟩ : ∃ s1, s1 = va_up (va_up σ 37 (upd (σ 37) 1 0)) 0 (upd (va_up σ 37 (upd (σ 37) 1 0) 0) 6 0) := ⟨_, rfl⟩
  obtain ⟨s2, x1, x2, x3⟩ := take_n s1 (b := 1) (b1 := 28) (.inr ⟨rfl, .inr (.inr rfl)⟩)
  have e3 : va_up σ 37 (upd (σ 37) 1 0) 39 3 = 0 := (up_ne σ (.inl (by decide))).trans h3
  have tv1 : TV 28 D s1 := by
    rw [hs1]
    exact TV_fr (fun r i _ _ => (up_ne _ (.inl (by omega))).trans (up_ne _ (.inl (by omega)))) tv
  refine ⟨va_up (va_up s2 51 (upd (s2 51) 2 0)) 0 (upd (va_up s2 51 (upd (s2 51) 2 0) 0) 3 0), ?_, ?_, ?_, up_same _ _ _ _, ?_, ?_, fun c i o1 o2 n1 n2 n3 n4 => ?_⟩
  · unfold f_X7_text_32
    rw [fin1, bso, ltq, ltq, e3, up_same, if_pos rfl, ← hs1, x1, bso, ltq, ltq]
  · refine (up_ne _ (.inl (by decide))).trans ((up_ne _ (.inl (by decide))).trans ((x3 _ _ (by omega)).trans ?_))
    rw [hs1]; exact (up_ne _ (.inl (by decide))).trans (up_same _ _ _ _)
  · refine (up_ne _ (.inr (by decide))).trans ((up_ne _ (.inl (by decide))).trans ((x3 _ _ (by omega)).trans ?_))
    rw [hs1]; exact up_same _ _ _ _
  · exact (up_ne _ (.inl (by decide))).trans (up_same _ _ _ _)
  · exact TV_fr (fun r i _ _ => (up_ne _ (.inl (by omega))).trans (up_ne _ (.inl (by omega)))) (TV_cp (TD_TB tD) x2 tv1)
  · have c9 : c = 0 ∨ 9 < c := by
      by_cases z : c = 0 ∨ 9 < c
      · exact z
      · exact absurd (own_1 i (by omega) (by omega)) o2
    refine (up_ne _ (by omega)).trans ((up_ne _ (by omega)).trans ((x3 _ _ (by omega)).trans ?_))
    rw [hs1]; exact (up_ne _ (by omega)).trans (up_ne _ (by omega))
/-- the reference's end, with a fault -/
def Fr_ (σ σ' : ZI) : Prop := ∀ c i, own c i ≠ 0 → ¬ (c = 60 ∧ (i = 23 ∨ i = 24)) → σ' c i = σ c i
theorem re_f {σ : ZI} {v : Int32} {f q : Nat} (hf : 1 ≤ f) (hf2 : f < 10) (h : BR f q σ) : ∃ σ', f_X8_text_34 σ v = some (-10 - nI q, σ') ∧ σ' 60 23 = 0 ∧ σ' 60 24 = nI f ∧ Fr_ σ σ' := by
  have n0 : ¬ σ 60 25 = 0 := fun z => by have := nI_inj (b := 0) (by omega) (by omega) (h.1.symm.trans z); omega
  have e25 : va_up σ 60 (upd (σ 60) 23 0) 60 25 = nI f := (up_ne σ (.inr (by decide))).trans h.1
  unfold f_X8_text_34
  rw [if_neg n0]
  unfold f_X8_text_58
  rw [ltq, ltq, e25]
  have e25' : va_up (va_up σ 60 (upd (σ 60) 23 0)) 60 (upd (va_up σ 60 (upd (σ 60) 23 0) 60) 24 (nI f)) 60 25 = nI f := (up_ne _ (.inr (by decide))).trans e25
  have e26 : va_up (va_up σ 60 (upd (σ 60) 23 0)) 60 (upd (va_up σ 60 (upd (σ 60) 23 0) 60) 24 (nI f)) 60 26 = nI q := (up_ne _ (.inr (by decide))).trans ((up_ne _ (.inr (by decide))).trans h.2)
  rw [e25', if_neg (show ¬ nI f ≤ (0 : Int32) from nI_ge (show 0 < f by omega) (by omega)), e26]
  exact ⟨_, rfl, (up_ne _ (.inr (by decide))).trans (up_same _ _ _ _), up_same _ _ _ _, fun c i _ hc => (up_ne _ (by omega)).trans (up_ne _ (by omega))⟩
theorem re_m {σ : ZI} {v : Int32} {n HJ J : Nat} (hJ2 : HJ ≤ 10) (h25 : σ 60 25 = 0) (h28 : σ 60 28 = nI n) (h21 : σ 60 21 = nI HJ) (h14 : σ 60 14 = nI J) (hJ : ¬ HJ ≤ J) : ∃ σ', f_X8_text_34 σ v = some (-10 - nI n, σ') ∧ σ' 60 23 = 0 ∧ σ' 60 24 = nI 6 ∧ Fr_ σ σ' := by
  obtain ⟨s1, x1, x2, x3⟩ := fail8 6 h25 h28
  obtain ⟨s2, y1, y2, y3, y4⟩ := re_f (v := v) (f := 6) (by omega) (by omega) x3
  refine ⟨s2, ?_, y2, y3, fun c i o hc => (y4 c i o hc).trans (FrJ_sg (Fr8_J x2) c i o o)⟩
  have n0 : ¬ s1 60 25 = 0 := fun z => absurd (x3.1.symm.trans z) (by decide)
  have t1 : f_X8_text_34 s1 v = f_X8_text_58 s1 v := by unfold f_X8_text_34; rw [if_neg n0]
  unfold f_X8_text_34
  rw [if_pos h25, if_neg (show ¬ σ 60 21 ≤ σ 60 14 by rw [h21, h14]; exact nI_ge (by omega) (by omega)), show f_X8_fails σ 6 = _ from x1, bso, ← t1]
  exact y1
/-- the reference's copy -/
theorem put_c {σ : ZI} {c k i : Nat} {v w : Int32} (h : k = i → v = w) (h2 : k ≠ i → σ c k = w) : va_up σ c (upd (σ c) i v) c k = w := by
  by_cases z : k = i
  · subst z; rw [up_same]; exact h rfl
  · rw [up_ne σ (.inr z)]; exact h2 z
theorem t88 (m : Int32) : ∀ (d i fu : Nat) (σ : ZI), i + d = 18 → d < fu → ∃ σ', f_X8_text_88 fu σ m (nI i) = f_X8_text_88 1 σ' m (nI 18) ∧ (∀ c k, (c < 61 ∨ 65 < c) → σ' c k = σ c k) ∧ (∀ k, (i ≤ k ∧ k < 18 → σ' 61 k = σ 66 k) ∧ (k < i ∨ 18 ≤ k → σ' 61 k = σ 61 k)) ∧
    (∀ k, k < 6 → (∃ j, i ≤ j ∧ j < 18 ∧ j % 6 = k) ∨ σ 62 k = σ 67 k → σ' 62 k = σ 67 k) ∧ (∀ k, k < 3 → (∃ j, i ≤ j ∧ j < 18 ∧ j % 3 = k) ∨ σ 63 k = σ 68 k → σ' 63 k = σ 68 k) ∧ (∀ k, k < 5 → (∃ j, i ≤ j ∧ j < 18 ∧ j % 5 = k) ∨ σ 64 k = σ 69 k → σ' 64 k = σ 69 k) ∧ (∀ k, k < 2 → (∃ j, i ≤ j ∧ j < 18 ∧ j % 2 = k) ∨ σ 65 k = σ 70 k → σ' 65 k = σ 70 k) := by
  intro d
  induction d with
  | zero =>
    intro i fu σ h1 h2
    obtain ⟨fu, rfl⟩ : ∃ m, fu = m + 1 := ⟨fu - 1, by omega⟩
    obtain rfl : i = 18 := by omega
    refine ⟨σ, by rw [f_X8_text_88, f_X8_text_88, if_pos (by decide), if_pos (by decide)], fun _ _ _ => rfl, fun k => ⟨fun h => by omega, fun _ => rfl⟩, ?_, ?_, ?_, ?_⟩
    all_goals
      rintro k hk (⟨j, j1, j2, -⟩ | h)
      · omega
      · exact h
  | succ d ih =>
    intro i fu σ h1 h2
    obtain ⟨fu, rfl⟩ : ∃ m, fu = m + 1 := ⟨fu - 1, by omega⟩
    obtain ⟨s1, hs1⟩ : ∃ s, s = va_up σ 61 (upd (σ 61) i (σ 66 i)) := ⟨_, rfl⟩
    obtain ⟨s2, hs2⟩ : ∃ s, s = va_up s1 62 (upd (s1 62) (i % 6) (s1 67 (i % 6))) := ⟨_, rfl⟩
    obtain ⟨s3, hs3⟩ : ∃ s, s = va_up s2 63 (upd (s2 63) (i % 3) (s2 68 (i % 3))) := ⟨_, rfl⟩
    obtain ⟨s4, hs4⟩ : ∃ s, s = va_up s3 64 (upd (s3 64) (i % 5) (s3 69 (i % 5))) := ⟨_, rfl⟩
    obtain ⟨s5, hs5⟩ : ∃ s, s = va_up s4 65 (upd (s4 65) (i % 2) (s4 70 (i % 2))) := ⟨_, rfl⟩
    have st : f_X8_text_88 (fu + 1) σ m (nI i) = f_X8_text_88 fu s5 m (nI (i + 1)) := by
      have m6 := Nat.mod_lt i (show 6 > 0 by omega)
      have m3 := Nat.mod_lt i (show 3 > 0 by omega)
      have m5 := Nat.mod_lt i (show 5 > 0 by omega)
      have m2 := Nat.mod_lt i (show 2 > 0 by omega)
      have r6 : nI i - nI i / (6 : Int32) * (6 : Int32) = nI (i % 6) := by rw [show (6 : Int32) = nI 6 from rfl, pk_rem (by omega) (by omega) (by omega)]
      have r3 : nI i - nI i / (3 : Int32) * (3 : Int32) = nI (i % 3) := by rw [show (3 : Int32) = nI 3 from rfl, pk_rem (by omega) (by omega) (by omega)]
      have r5 : nI i - nI i / (5 : Int32) * (5 : Int32) = nI (i % 5) := by rw [show (5 : Int32) = nI 5 from rfl, pk_rem (by omega) (by omega) (by omega)]
      have r2 : nI i - nI i / (2 : Int32) * (2 : Int32) = nI (i % 2) := by rw [show (2 : Int32) = nI 2 from rfl, pk_rem (by omega) (by omega) (by omega)]
      rw [f_X8_text_88, if_neg (show ¬ (18 : Int32) ≤ nI i from nI_ge (b := 18) (by omega) (by omega)), inB_n (by omega) (by omega), if_pos rfl, inB_n (by omega) (by omega), if_pos rfl, nI_clamp (by omega), ltq, ← hs1, r6, inB_n m6 (by omega), if_pos rfl, if_pos rfl, nI_clamp (by omega), ltq, ← hs2, r3, inB_n m3 (by omega), if_pos rfl, if_pos rfl, nI_clamp (by omega), ltq, ← hs3, r5, inB_n m5 (by omega), if_pos rfl, if_pos rfl, nI_clamp (by omega), ltq, ← hs4, r2, inB_n m2 (by omega), if_pos rfl, if_pos rfl, nI_clamp (by omega), ltq, ← hs5, nI_1]
    have ff : ∀ c k, (c < 61 ∨ 65 < c) → s5 c k = σ c k := by
      intro c k hc
      rw [hs5, up_ne _ (.inl (by omega)), hs4, up_ne _ (.inl (by omega)), hs3, up_ne _ (.inl (by omega)), hs2, up_ne _ (.inl (by omega)), hs1, up_ne _ (.inl (by omega))]
    have f61 : ∀ k, s5 61 k = s1 61 k := fun k => by
      rw [hs5, up_ne _ (.inl (by decide)), hs4, up_ne _ (.inl (by decide)), hs3, up_ne _ (.inl (by decide)), hs2, up_ne _ (.inl (by decide))]
    have g1 : ∀ k, s1 67 k = σ 67 k := fun k => by rw [hs1, up_ne _ (.inl (by decide))]
    have g2 : ∀ k, s2 68 k = σ 68 k := fun k => by rw [hs2, up_ne _ (.inl (by decide)), hs1, up_ne _ (.inl (by decide))]
    have g3 : ∀ k, s3 69 k = σ 69 k := fun k => by rw [hs3, up_ne _ (.inl (by decide)), hs2, up_ne _ (.inl (by decide)), hs1, up_ne _ (.inl (by decide))]
    have g4 : ∀ k, s4 70 k = σ 70 k := fun k => by rw [hs4, up_ne _ (.inl (by decide)), hs3, up_ne _ (.inl (by decide)), hs2, up_ne _ (.inl (by decide)), hs1, up_ne _ (.inl (by decide))]
    have f62 : ∀ k, s5 62 k = s2 62 k := fun k => by
      rw [hs5, up_ne _ (.inl (by decide)), hs4, up_ne _ (.inl (by decide)), hs3, up_ne _ (.inl (by decide))]
    have f63 : ∀ k, s5 63 k = s3 63 k := fun k => by
      rw [hs5, up_ne _ (.inl (by decide)), hs4, up_ne _ (.inl (by decide))]
    have f64 : ∀ k, s5 64 k = s4 64 k := fun k => by
      rw [hs5, up_ne _ (.inl (by decide))]
    obtain ⟨σ', x1, x2, x3, x4, x5, x6, x7⟩ := ih (i + 1) fu s5 (by omega) (by omega)
    refine ⟨σ', st.trans x1, fun c k hc => (x2 c k hc).trans (ff c k hc), fun k => ⟨fun h => ?_, fun h => ?_⟩, fun k hk h => ?_, fun k hk h => ?_, fun k hk h => ?_, fun k hk h => ?_⟩
    · by_cases z : k = i
      · subst z
        rw [(x3 k).2 (by omega), f61, hs1, up_same]
      · rw [(x3 k).1 (by omega), ff 66 k (by omega)]
    · rw [(x3 k).2 (by omega), f61, hs1, up_ne _ (.inr (by omega))]
    · rw [x4 k hk, ff 67 k (by omega)]
      rcases h with ⟨j, j1, j2, j3⟩ | h
      · by_cases z : j = i
        · subst z; subst j3; right; rw [f62, hs2, up_same, g1, ff 67 _ (by omega)]
        · exact .inl ⟨j, by omega, j2, j3⟩
      · right
        rw [f62, ff 67 k (by omega), hs2]
        exact put_c (fun z => by rw [g1, z]) (fun _ => by rw [hs1, up_ne _ (.inl (by decide))]; exact h)
    · rw [x5 k hk, ff 68 k (by omega)]
      rcases h with ⟨j, j1, j2, j3⟩ | h
      · by_cases z : j = i
        · subst z; subst j3; right; rw [f63, hs3, up_same, g2, ff 68 _ (by omega)]
        · exact .inl ⟨j, by omega, j2, j3⟩
      · right
        rw [f63, ff 68 k (by omega), hs3]
        exact put_c (fun z => by rw [g2, z]) (fun _ => by rw [hs2, up_ne _ (.inl (by decide)), hs1, up_ne _ (.inl (by decide))]; exact h)
    · rw [x6 k hk, ff 69 k (by omega)]
      rcases h with ⟨j, j1, j2, j3⟩ | h
      · by_cases z : j = i
        · subst z; subst j3; right; rw [f64, hs4, up_same, g3, ff 69 _ (by omega)]
        · exact .inl ⟨j, by omega, j2, j3⟩
      · right
        rw [f64, ff 69 k (by omega), hs4]
        exact put_c (fun z => by rw [g3, z]) (fun _ => by rw [hs3, up_ne _ (.inl (by decide)), hs2, up_ne _ (.inl (by decide)), hs1, up_ne _ (.inl (by decide))]; exact h)
    · rw [x7 k hk, ff 70 k (by omega)]
      rcases h with ⟨j, j1, j2, j3⟩ | h
      · by_cases z : j = i
        · subst z; subst j3; right; rw [ff 70 _ (by omega), hs5, up_same, g4]
        · exact .inl ⟨j, by omega, j2, j3⟩
      · right
        rw [ff 70 k (by omega), hs5]
        exact put_c (fun z => by rw [g4, z]) (fun _ => by rw [hs4, up_ne _ (.inl (by decide)), hs3, up_ne _ (.inl (by decide)), hs2, up_ne _ (.inl (by decide)), hs1, up_ne _ (.inl (by decide))]; exact h)
end
section
/-! the reference's end without a fault; how a text begins *-/
theorem TK_ok {D : NN} {AT MT HJ : Nat} (tD : TD D) (lk : LK D AT MT HJ) (hJ : HJ ≤ D 0 0) : TK D := by
  obtain ⟨h1, h2, h3, h4⟩ := (lk.2.2.2.2.2 (D 0 0)).1 hJ
  obtain ⟨k1, k2, k3, k4, k5, k6⟩ := tD
  have h4' := (bits_lt k1.2.2.2.2.2.1).2 h4
  refine ⟨⟨k1.1, k1.2.1, k1.2.2.1, k1.2.2.2.1, k1.2.2.2.2.1, h4', h1, k1.2.2.2.2.2.2.2⟩, fun i hi => ?_, k3, fun i hi => ?_, k5, k6⟩
  · have := k2 i hi
    exact ⟨this.1, this.2.1, h2 i hi, this.2.2.2⟩
  · have := k4 i hi
    exact ⟨this.1, h3 i hi, this.2.2⟩
theorem re_ok {n : Nat} {b : Nat → Nat} {D : NN} {AT MT HJ : Nat} {σ : ZI} {v : Int32} (tD : TD D) (lk : LK D AT MT HJ) (h : RSb n b D AT MT HJ σ) (h25 : σ 60 25 = 0) (hJ : HJ ≤ D 0 0) : ∃ σ', f_X8_text_34 σ v = some (v, σ') ∧ σ' 60 23 = 0 ∧ σ' 60 24 = 0 ∧ σ' 60 41 = 0 ∧ σ' 75 0 = 0 ∧ σ' 75 1 = 0 ∧ RP 0 D σ' ∧ RS D σ' ∧ (∀ c i, own c i ≠ 0 → (own c i ≠ 1 ∨ c ≤ 9) → ¬ (c = 60 ∧ (i = 23 ∨ i = 24 ∨ i = 41)) → ¬ (c = 75 ∧ i ≤ 1) → σ' c i = σ c i) := by
  have tb := TD_TB tD
  obtain ⟨m1, m2, m3⟩ := tb
  obtain ⟨-, -, ⟨b1, b2, b3, b4, b5, b6, b7, b8, b9, b10⟩, ⟨c1, c2, c3, c4, c5, c6⟩, ⟨d1, d2, d3⟩, -, -, e3⟩ := h
  obtain ⟨s0, hs0⟩ : ∃ s, s = va_up (va_up σ 60 (upd (σ 60) 23 0)) 60 (upd (va_up σ 60 (upd (σ 60) 23 0) 60) 24 0) := ⟨_, rfl⟩
  have f0 : ∀ c i, ¬ (c = 60 ∧ (i = 23 ∨ i = 24)) → s0 c i = σ c i := fun c i z => by
    rw [hs0, up_ne _ (by omega), up_ne _ (by omega)]
  obtain ⟨w, x1, x2, x3, x4, x5, x6, x7⟩ := t88 v 18 0 3000 s0 (by omega) (by omega)
  obtain ⟨a1, h1⟩ : ∃ s, s = va_up w 60 (upd (w 60) 1 (w 60 14)) := ⟨_, rfl⟩
  obtain ⟨a2, h2⟩ : ∃ s, s = va_up a1 60 (upd (a1 60) 3 (a1 60 15)) := ⟨_, rfl⟩
  obtain ⟨a3, h3⟩ : ∃ s, s = va_up a2 60 (upd (a2 60) 5 (a2 60 16)) := ⟨_, rfl⟩
  obtain ⟨a4, h4⟩ : ∃ s, s = va_up a3 60 (upd (a3 60) 7 (a3 60 17)) := ⟨_, rfl⟩
  obtain ⟨a5, h5⟩ : ∃ s, s = va_up a4 60 (upd (a4 60) 41 0) := ⟨_, rfl⟩
  obtain ⟨a6, h6⟩ : ∃ s, s = va_up a5 75 (upd (a5 75) 0 0) := ⟨_, rfl⟩
  obtain ⟨a7, h7⟩ : ∃ s, s = va_up a6 75 (upd (a6 75) 1 0) := ⟨_, rfl⟩
  have fA : ∀ c i, ¬ (c = 60 ∧ (i = 1 ∨ i = 3 ∨ i = 5 ∨ i = 7 ∨ i = 41)) → ¬ (c = 75 ∧ i ≤ 1) → a7 c i = w c i := fun c i z z2 => by
    rw [h7, up_ne _ (by omega), h6, up_ne _ (by omega), h5, up_ne _ (by omega), h4, up_ne _ (by omega), h3, up_ne _ (by omega), h2, up_ne _ (by omega), h1, up_ne _ (by omega)]
  have w60 : ∀ i, i ≠ 23 → i ≠ 24 → w 60 i = σ 60 i := fun i z z2 => (x2 60 i (by omega)).trans (f0 60 i (by omega))
  have v1 : a7 60 1 = σ 60 14 := by
    rw [h7, up_ne _ (.inl (by decide)), h6, up_ne _ (.inl (by decide)), h5, up_ne _ (.inr (by decide)), h4, up_ne _ (.inr (by decide)), h3, up_ne _ (.inr (by decide)), h2, up_ne _ (.inr (by decide)), h1, up_same, w60 _ (by decide) (by decide)]
  have v3 : a7 60 3 = σ 60 15 := by
    rw [h7, up_ne _ (.inl (by decide)), h6, up_ne _ (.inl (by decide)), h5, up_ne _ (.inr (by decide)), h4, up_ne _ (.inr (by decide)), h3, up_ne _ (.inr (by decide)), h2, up_same, h1, up_ne _ (.inr (by decide)), w60 _ (by decide) (by decide)]
  have v5 : a7 60 5 = σ 60 16 := by
    rw [h7, up_ne _ (.inl (by decide)), h6, up_ne _ (.inl (by decide)), h5, up_ne _ (.inr (by decide)), h4, up_ne _ (.inr (by decide)), h3, up_same, h2, up_ne _ (.inr (by decide)), h1, up_ne _ (.inr (by decide)), w60 _ (by decide) (by decide)]
  have v7 : a7 60 7 = σ 60 17 := by
    rw [h7, up_ne _ (.inl (by decide)), h6, up_ne _ (.inl (by decide)), h5, up_ne _ (.inr (by decide)), h4, up_same, h3, up_ne _ (.inr (by decide)), h2, up_ne _ (.inr (by decide)), h1, up_ne _ (.inr (by decide)), w60 _ (by decide) (by decide)]
  have v41 : a7 60 41 = 0 := by
    rw [h7, up_ne _ (.inl (by decide)), h6, up_ne _ (.inl (by decide)), h5, up_same]
  have P : ∀ k, k < 18 → a7 61 (0 + k) = σ 66 k := fun k hk => by
    rw [Nat.zero_add, fA _ _ (by omega) (by omega), (x3 k).1 ⟨by omega, hk⟩, f0 _ _ (by omega)]
  have Q2 : ∀ k, k < 6 → a7 62 k = σ 67 k := fun k hk => by
    rw [fA _ _ (by omega) (by omega), x4 k hk (.inl ⟨k, by omega, by omega, Nat.mod_eq_of_lt hk⟩), f0 _ _ (by omega)]
  have Q3 : ∀ k, k < 3 → a7 63 k = σ 68 k := fun k hk => by
    rw [fA _ _ (by omega) (by omega), x5 k hk (.inl ⟨k, by omega, by omega, Nat.mod_eq_of_lt hk⟩), f0 _ _ (by omega)]
  have Q4 : ∀ k, k < 5 → a7 64 k = σ 69 k := fun k hk => by
    rw [fA _ _ (by omega) (by omega), x6 k hk (.inl ⟨k, by omega, by omega, Nat.mod_eq_of_lt hk⟩), f0 _ _ (by omega)]
  have Q5 : ∀ k, k < 2 → a7 65 k = σ 70 k := fun k hk => by
    rw [fA _ _ (by omega) (by omega), x7 k hk (.inl ⟨k, by omega, by omega, Nat.mod_eq_of_lt hk⟩), f0 _ _ (by omega)]
  refine ⟨a7, ?_, ?_, ?_, v41, ?_, ?_, ⟨fun i hi => (P _ (by omega)).trans (b1 i hi), fun i hi => (P _ (by omega)).trans (b2 i hi), fun i hi => (P _ (by omega)).trans (b3 i hi), (P _ (by omega)).trans b4, (P _ (by omega)).trans b5, (P _ (by omega)).trans b6, (P _ (by omega)).trans b7, (P _ (by omega)).trans b8, (P _ (by omega)).trans b9, (P _ (by omega)).trans b10⟩, ⟨v1.trans c1, v3.trans c2, v5.trans c3, v7.trans c4, (Q5 _ (by omega)).trans c5, (Q5 _ (by omega)).trans c6, fun i hi => ⟨(Q2 _ (by omega)).trans (d1 i hi).1, (Q2 _ (by omega)).trans (d1 i hi).2⟩, fun i hi => (Q3 _ (by omega)).trans (d2 i hi), fun i hi => (Q4 _ (by omega)).trans (d3 i hi)⟩, fun c i o1 o2 z z2 => ?_⟩
  · unfold f_X8_text_34
    rw [if_pos h25, if_pos (show σ 60 21 ≤ σ 60 14 by rw [e3, c1]; exact nI_le hJ (by have := tD.1.2.1; omega))]
    unfold f_X8_text_58
    rw [ltq, ltq, show va_up σ 60 (upd (σ 60) 23 0) 60 25 = 0 from (up_ne σ (.inr (by decide))).trans h25, ← hs0, if_pos (show s0 60 25 ≤ 0 by rw [f0 60 25 (by omega), h25]; decide), show f_X8_text_88 3000 s0 v 0 = _ from x1, f_X8_text_88, if_pos (by decide), ltq, ← h1, ltq, ← h2, ltq, ← h3, ltq, ← h4, ltq, ← h5, ltq, show vp_nar .boolean (0 : Int32) = 0 from rfl, ← h6, ltq, ← h7]
  · rw [fA _ _ (by omega) (by omega), x2 _ _ (by omega), hs0, up_ne _ (.inr (by decide)), up_same]
  · rw [fA _ _ (by omega) (by omega), x2 _ _ (by omega), hs0, up_same]
  · rw [h7, up_ne _ (.inr (by decide)), h6, up_same]
  · rw [h7, up_same]
  · have o2' : 9 < c → own c i ≠ 1 := fun z => o2.resolve_right (by omega)
    have n1 : ¬ (c = 60 ∧ (i = 1 ∨ i = 3 ∨ i = 5 ∨ i = 7 ∨ i = 41)) := by
      rintro ⟨rfl, rfl | rfl | rfl | rfl | rfl⟩
      · exact o2' (by decide) rfl
      · exact o2' (by decide) rfl
      · exact o2' (by decide) rfl
      · exact o2' (by decide) rfl
      · exact z ⟨rfl, by omega⟩
    have n2 : c = 61 ∨ c < 61 ∨ 65 < c := by
      by_cases q : 62 ≤ c ∧ c ≤ 65
      · exact absurd (own_s i q.1 q.2) (o2' (by omega))
      · omega
    rw [fA _ _ n1 z2]
    rcases n2 with n2 | n2
    · subst n2
      have : 18 ≤ i := by
        by_cases q : i < 18
        · exact absurd (own_p q) (o2' (by decide))
        · omega
      rw [(x3 i).2 (by omega), f0 _ _ (by omega)]
    · rw [x2 c i n2, f0 _ _ (by omega)]
/-- what is told when nothing is -/
def defL : List Nat := [6, 0, 0, 0, 0, 0, 1, 5, 2, 4, 1, 5, 3]
def D0 : NN := fun r i => if r = 0 then defL.getD i 0 else 0
theorem TD_0 : TD D0 := ⟨by decide, fun i hi => absurd hi (Nat.not_lt_zero i), fun i k hi => absurd hi (Nat.not_lt_zero i), fun i hi => absurd hi (Nat.not_lt_zero i), fun i k hi => absurd hi (Nat.not_lt_zero i), fun i hi => absurd hi (Nat.not_lt_zero i)⟩
theorem LK_0 : LK D0 0 0 0 := by
  refine ⟨by decide, by decide, by decide, fun j _ => ⟨fun h => ?_, fun h => ?_⟩, fun j _ => ⟨fun h => ?_, fun h => ?_⟩, fun J => ⟨fun _ => ⟨Nat.zero_le J, fun i hi => absurd hi (Nat.not_lt_zero i), fun i hi => absurd hi (Nat.not_lt_zero i), fun j _ h => ?_⟩, fun _ => Nat.zero_le J⟩⟩
  · rw [Nat.zero_testBit] at h; exact absurd h (by decide)
  · obtain ⟨i, hi, -⟩ := h; exact absurd hi (Nat.not_lt_zero i)
  · rw [Nat.zero_testBit] at h; exact absurd h (by decide)
  · obtain ⟨i, hi, -⟩ := h; exact absurd hi (Nat.not_lt_zero i)
  · rw [show D0 0 4 = 0 from rfl, Nat.zero_testBit] at h; exact absurd h (by decide)
theorem TU_0 : TU D0 0 0 := ⟨by decide, by decide, fun k _ _ => by rw [Nat.zero_testBit, Nat.zero_testBit], fun _ => rfl⟩
theorem st_d : ∀ i, i < 13 → (stL 100).getD i 0 = nI (D0 0 i) := by decide
theorem cs0 {n : Nat} {b : Nat → Nat} {σ : ZI} (h : Tp7 n b σ) : ∃ σ', f_X2_start σ = some σ' ∧ Sg σ σ' ∧ CSl n b 0 D0 0 σ' := by
  obtain ⟨s1, h1⟩ : ∃ s, s = va_up σ 37 (upd (σ 37) 2 0) := ⟨_, rfl⟩
  obtain ⟨s2, h2⟩ : ∃ s, s = va_up s1 29 (va_cpy (fun j => (stL 100).getD j 0) (s1 29) 0 0 13) := ⟨_, rfl⟩
  obtain ⟨s3, h3⟩ : ∃ s, s = va_up s2 39 (upd (s2 39) 2 0) := ⟨_, rfl⟩
  obtain ⟨s4, h4⟩ : ∃ s, s = va_up s3 39 (upd (s3 39) 3 0) := ⟨_, rfl⟩
  have rs : f_X6_restart s1 28 = some s2 := by rw [h2]; rfl
  have f2 : ∀ c i, c ≠ 29 → s2 c i = s1 c i := fun c i z => by rw [h2]; simp [va_up, z]
  have ff : ∀ c i, c ≠ 29 → c ≠ 39 → ¬ (c = 37 ∧ i = 2) → s4 c i = σ c i := fun c i z1 z2 z3 => by
    rw [h4, up_ne _ (.inl z2), h3, up_ne _ (.inl z2), f2 c i z1, h1, up_ne _ (by omega)]
  refine ⟨s4, ?_, fun c i o _ => ?_, ⟨⟨h.1, (ff _ _ (by decide) (by decide) (by omega)).trans h.2.1, fun i hi => ⟨(h.2.2 i hi).1, (ff _ _ (by decide) (by decide) (by omega)).trans (h.2.2 i hi).2⟩⟩, ?_, ?_, fun i hi => ?_, fun i hi => absurd hi (Nat.not_lt_zero i), fun i hi => absurd hi (Nat.not_lt_zero i), fun i hi => absurd hi (Nat.not_lt_zero i)⟩, ?_⟩
  · unfold f_X2_start
    rw [ltq, ← h1, rs, bso, ltq, ← h3, ltq, ← h4]
  · exact ff c i (fun q => by subst q; exact o (own_d i (by omega) (by omega))) (fun q => by subst q; exact o rfl) (fun q => by obtain ⟨rfl, rfl⟩ := q; exact o rfl)
  · rw [h4, up_ne _ (.inl (by decide)), h3, up_ne _ (.inl (by decide)), f2 _ _ (by decide), h1, up_same]; rfl
  · rw [h4, up_same]
  · rw [← st_d i hi, h4, up_ne _ (.inl (by decide)), h3, up_ne _ (.inl (by decide)), h2]
    refine Eq.trans (b := va_cpy (fun j => (stL 100).getD j 0) (s1 29) 0 0 13 i) ?_ (sb_cpy0 hi)
    simp [va_up]
  · rw [h4, up_ne _ (.inr (by decide)), h3, up_same]; rfl
theorem bg67 : ∀ (d i fu : Nat) (σ : ZI), i + d = 18 → d < fu → ∃ σ', f_X8_begins_67 fu σ (nI i) = some σ' ∧ (∀ c k, c ≠ 66 → σ' c k = σ c k) ∧ (∀ k, k < 18 → (i ≤ k → σ' 66 k = 0) ∧ (k < i → σ' 66 k = σ 66 k)) := by
  intro d
  induction d with
  | zero =>
    intro i fu σ h1 h2
    obtain ⟨fu, rfl⟩ : ∃ m, fu = m + 1 := ⟨fu - 1, by omega⟩
    obtain rfl : i = 18 := by omega
    exact ⟨σ, by rw [f_X8_begins_67, if_pos (by decide)], fun _ _ _ => rfl, fun k hk => ⟨fun h => by omega, fun _ => rfl⟩⟩
  | succ d ih =>
    intro i fu σ h1 h2
    obtain ⟨fu, rfl⟩ : ∃ m, fu = m + 1 := ⟨fu - 1, by omega⟩
    obtain ⟨σ', x1, x2, x3⟩ := ih (i + 1) fu (va_up σ 66 (upd (σ 66) i 0)) (by omega) (by omega)
    refine ⟨σ', ?_, fun c k hc => (x2 c k hc).trans (up_ne σ (.inl hc)), fun k hk => ⟨fun h => ?_, fun h => ?_⟩⟩
    · rw [f_X8_begins_67, if_neg (show ¬ (18 : Int32) ≤ nI i from nI_ge (b := 18) (by omega) (by omega)), inB_n (by omega) (by omega), if_pos rfl, nI_clamp (by omega), ltq, nI_1]
      exact x1
    · by_cases z : k = i
      · subst z; rw [(x3 k hk).2 (by omega), up_same]
      · exact (x3 k hk).1 (by omega)
    · rw [(x3 k hk).2 (by omega), up_ne σ (.inr (by omega))]
end
section
/-! a text, whole *-/
theorem rs0 {n : Nat} {b : Nat → Nat} {σ : ZI} (h : Tp8 n b σ) (hK : InvK σ) : ∃ σ', ((f_X8_begins σ).bind fun q1 => f_X8_step q1) = some σ' ∧ Sg σ σ' ∧ RSl n b 0 D0 0 0 0 0 σ' := by
  obtain ⟨s1, h1⟩ : ∃ s, s = va_up σ 60 (upd (σ 60) 25 0) := ⟨_, rfl⟩
  obtain ⟨s2, h2⟩ : ∃ s, s = va_up s1 60 (upd (s1 60) 27 0) := ⟨_, rfl⟩
  obtain ⟨s3, h3⟩ : ∃ s, s = va_up s2 60 (upd (s2 60) 14 6) := ⟨_, rfl⟩
  obtain ⟨s4, h4⟩ : ∃ s, s = va_up s3 60 (upd (s3 60) 15 0) := ⟨_, rfl⟩
  obtain ⟨s5, h5⟩ : ∃ s, s = va_up s4 60 (upd (s4 60) 16 0) := ⟨_, rfl⟩
  obtain ⟨s6, h6⟩ : ∃ s, s = va_up s5 60 (upd (s5 60) 17 0) := ⟨_, rfl⟩
  obtain ⟨s7, h7⟩ : ∃ s, s = va_up s6 70 (upd (s6 70) 0 1) := ⟨_, rfl⟩
  obtain ⟨s8, h8⟩ : ∃ s, s = va_up s7 70 (upd (s7 70) 1 5) := ⟨_, rfl⟩
  obtain ⟨s9, h9⟩ : ∃ s, s = va_up s8 60 (upd (s8 60) 18 0) := ⟨_, rfl⟩
  obtain ⟨s10, h10⟩ : ∃ s, s = va_up s9 60 (upd (s9 60) 19 0) := ⟨_, rfl⟩
  obtain ⟨s11, h11⟩ : ∃ s, s = va_up s10 60 (upd (s10 60) 20 0) := ⟨_, rfl⟩
  obtain ⟨s12, h12⟩ : ∃ s, s = va_up s11 60 (upd (s11 60) 21 0) := ⟨_, rfl⟩
  obtain ⟨w, x1, x2, x3⟩ := bg67 18 0 3000 s12 (by omega) (by omega)
  have e0 : f_X8_begins σ = some w := by
    unfold f_X8_begins
    rw [ltq, ← h1, ltq, ← h2, ltq, ← h3, ltq, ← h4, ltq, ← h5, ltq, ← h6, ltq, ← h7, ltq, ← h8, ltq, ← h9, ltq, ← h10, ltq, ← h11, ltq, ← h12]
    exact x1
  have fo : ∀ c i, (c ≠ 60 ∧ c ≠ 70) ∨ (c = 60 ∧ i = 23) → s12 c i = σ c i := fun c i z => by
    rw [h12, up_ne _ (by omega), h11, up_ne _ (by omega), h10, up_ne _ (by omega), h9, up_ne _ (by omega), h8, up_ne _ (by omega), h7, up_ne _ (by omega), h6, up_ne _ (by omega), h5, up_ne _ (by omega), h4, up_ne _ (by omega), h3, up_ne _ (by omega), h2, up_ne _ (by omega), h1, up_ne _ (by omega)]
  have sg : Sg σ s12 := by
    rw [h12, h11, h10, h9, h8, h7, h6, h5, h4, h3, h2, h1]
    exact up_sg (up_sg (up_sg (up_sg (up_sg (up_sg (up_sg (up_sg (up_sg (up_sg (up_sg (up_sg (Dw_refl 0 σ) rfl) rfl) rfl) rfl) rfl) rfl) rfl) rfl) rfl) rfl) rfl) rfl
  have sgw : Sg σ w := Dw_tr sg fun c i o _ => x2 c i fun q => by subst q; exact o (own_6 i (by decide) (by decide))
  have v60 : s12 60 25 = 0 ∧ s12 60 27 = 0 ∧ s12 60 14 = 6 ∧ s12 60 15 = 0 ∧ s12 60 16 = 0 ∧ s12 60 17 = 0 ∧ s12 70 0 = 1 ∧ s12 70 1 = 5 ∧ s12 60 18 = 0 ∧ s12 60 19 = 0 ∧ s12 60 20 = 0 ∧ s12 60 21 = 0 := by
    rw [h12, h11, h10, h9, h8, h7, h6, h5, h4, h3, h2, h1]
    exact ⟨rfl, rfl, rfl, rfl, rfl, rfl, rfl, rfl, rfl, rfl, rfl, rfl⟩
  obtain ⟨v25, v27, v14, v15, v16, v17, u0, u1, v18, v19, v20, v21⟩ := v60
  have g6 : ∀ i, w 60 i = s12 60 i := fun i => x2 60 i (by decide)
  have p6 : ∀ k, k < 18 → w 66 k = 0 := fun k hk => (x3 k hk).1 (Nat.zero_le k)
  have tp : Tp8 n b w := ⟨h.1, (g6 23).trans ((fo 60 23 (by omega)).trans h.2.1), fun i hi => ⟨(h.2.2 i hi).1, (x2 _ _ (by decide)).trans ((fo _ _ (by omega)).trans (h.2.2 i hi).2)⟩⟩
  have r0 : RSb n b D0 0 0 0 w := by
    refine ⟨tp, ⟨fun i hi => (x2 _ _ (by decide)).trans ((fo _ _ (by omega)).trans (hK.1 i hi)), fun i hi => (x2 _ _ (by decide)).trans ((fo _ _ (by omega)).trans (hK.2 i hi))⟩, ⟨fun i hi => absurd hi (Nat.not_lt_zero i), fun i hi => absurd hi (Nat.not_lt_zero i), fun i hi => absurd hi (Nat.not_lt_zero i), (p6 11 (by omega)).trans rfl, (p6 12 (by omega)).trans rfl, (p6 13 (by omega)).trans rfl, (p6 14 (by omega)).trans rfl, (p6 15 (by omega)).trans rfl, (p6 16 (by omega)).trans rfl, (p6 17 (by omega)).trans rfl⟩, ⟨(g6 14).trans v14, (g6 15).trans v15, (g6 16).trans v16, (g6 17).trans v17, (x2 70 0 (by decide)).trans u0, (x2 70 1 (by decide)).trans u1⟩, ⟨fun i hi => absurd hi (Nat.not_lt_zero i), fun i hi => absurd hi (Nat.not_lt_zero i), fun i hi => absurd hi (Nat.not_lt_zero i)⟩, (g6 19).trans v19, (g6 20).trans v20, (g6 21).trans v21⟩
  obtain ⟨s, y1, y2, y3⟩ := step8 tp (Nat.zero_le n) ((g6 25).trans v25) ((g6 27).trans v27)
  exact ⟨s, by rw [e0, bso, y1], Dw_tr sgw (FrJ_sg (Fr8_J y2)), RSb_fr y2 r0, y3, (y2 60 18 (by omega)).trans ((g6 18).trans v18)⟩
theorem Inv_tx {t : NN} {σ σ' : ZI} (q : InvT t σ ∧ InvI t σ ∧ InvS t σ ∧ InvH σ ∧ InvK σ) (h : ∀ c i, own c i ≠ 0 → own c i ≠ 3 → own c i ≠ 6 → σ' c i = σ c i) (p : InvP σ') (f : InvF σ') : Inv σ' := by
  obtain ⟨q1, q2, q4, q5, q7⟩ := q
  have ag : ∀ k, k ≠ 0 → k ≠ 3 → k ≠ 6 → Ag k σ σ' := fun k a c d x i e => h x i (by rw [e]; exact a) (by rw [e]; exact c) (by rw [e]; exact d)
  exact ⟨t, InvT_fr (ag 1 (by decide) (by decide) (by decide)) q1, InvI_fr (SS_rfl t) (ag 2 (by decide) (by decide) (by decide)) q2, p, InvS_fr (SS_rfl t) (ag 4 (by decide) (by decide) (by decide)) q4, InvH_fr (ag 5 (by decide) (by decide) (by decide)) q5, f, InvK_fr (ag 7 (by decide) (by decide) (by decide)) q7⟩
theorem InvP_0 {σ : ZI} (h : σ 37 1 = 0) (h2 : σ 60 23 = 0) : InvP σ := ⟨0, fun _ => 0, by omega, h, h2, fun i hi => absurd hi (Nat.not_lt_zero i)⟩
/-- a text with a fault -/
theorem tx_f {t : NN} {σ σ1 σ2 σ3 σ4 σ5 σ6 : ZI} {f : Nat} (q : InvT t σ ∧ InvI t σ ∧ InvS t σ ∧ InvH σ ∧ InvK σ) (hF : InvF σ) (h1 : Sg σ σ1) (h2 : Sg σ1 σ2) (h3 : Fe σ2 σ3) (h4 : Sg σ3 σ4) (h5 : Sg σ4 σ5) (h6 : Fr_ σ5 σ6) (e1 : σ3 37 1 = 0) (e2 : σ3 0 6 = nI f) (e3 : σ6 60 23 = 0) (e4 : σ6 60 24 = nI f) : Inv σ6 := by
  have fr : ∀ c i, own c i ≠ 0 → ¬ (c = 60 ∧ (i = 23 ∨ i = 24)) → σ6 c i = σ3 c i := fun c i o z => (h6 c i o z).trans ((h5 c i o o).trans (h4 c i o o))
  have al : ∀ c i, own c i ≠ 0 → ¬ (c = 37 ∧ i = 1) → ¬ (c = 0 ∧ i = 6) → ¬ (c = 60 ∧ (i = 23 ∨ i = 24)) → σ6 c i = σ c i := fun c i o a b z => (fr c i o z).trans ((h3 c i o a b).trans ((h2 c i o o).trans (h1 c i o o)))
  refine Inv_tx q (fun c i o a d => al c i o (fun w => ?_) (fun w => ?_) (fun w => ?_)) (InvP_0 ((fr 37 1 (by decide) (by omega)).trans e1) e3) ⟨?_, ?_⟩
  · obtain ⟨rfl, rfl⟩ := w; exact a rfl
  · obtain ⟨rfl, rfl⟩ := w; exact d rfl
  · obtain ⟨rfl, rfl | rfl⟩ := w
    · exact a rfl
    · exact d rfl
  · rw [e4, fr 0 6 (by decide) (by omega), e2]
  · rw [al 60 46 (by decide) (by omega) (by omega) (by omega), al 0 12 (by decide) (by omega) (by omega) (by omega)]; exact hF.2
theorem u_text {σ : ZI} (h : Inv σ) : ∃ r σ1 σ2, f_X7_text σ = some (r, σ1) ∧ f_X8_text σ1 = some (r, σ2) ∧ Inv σ2 := by
  obtain ⟨t, iT, iI, ⟨n, b, n160, p2, p3, p4⟩, iS, iH, iF, iK⟩ := h
  have q : InvT t σ ∧ InvI t σ ∧ InvS t σ ∧ InvH σ ∧ InvK σ := ⟨iT, iI, iS, iH, iK⟩
  have tp7 : Tp7 n b σ := ⟨n160, p2, fun i hi => ⟨(p4 i hi).1, (p4 i hi).2.1⟩⟩
  have tp8 : Tp8 n b σ := ⟨n160, p3, fun i hi => ⟨(p4 i hi).1, (p4 i hi).2.2⟩⟩
  obtain ⟨s1, x1, x2, x3⟩ := cs0 tp7
  have cA : f_X7_text σ = f_X7_text_9 3000 s1 (nI 0) := by
    unfold f_X7_text
    rw [x1, bso]
    rfl
  have rA : ∀ s3 s4, ((f_X8_begins s3).bind fun q1 => f_X8_step q1) = some s4 → f_X8_text s3 = f_X8_text_10 3000 s4 (nI 0) := by
    intro s3 s4 e
    unfold f_X8_text
    cases hb : f_X8_begins s3 with
    | none => rw [hb] at e; exact absurd e (by simp)
    | some a =>
      rw [hb, bso] at e
      rw [bso, e, bso]
      rfl
  have tpk : ∀ s3 : ZI, (∀ c i, own c i ≠ 0 → own c i ≠ 1 → ¬ (c = 37 ∧ i = 1) → ¬ (c = 0 ∧ i = 6) → ¬ (c = 0 ∧ i = 3) → ¬ (c = 51 ∧ i = 2) → s3 c i = σ c i) → Tp8 n b s3 ∧ InvK s3 := fun s3 z => ⟨⟨n160, (z 60 23 (by decide) (by decide) (by omega) (by omega) (by omega) (by omega)).trans p3, fun i hi => ⟨(p4 i hi).1, (z 71 i (by show (3 : Nat) ≠ 0; decide) (by show (3 : Nat) ≠ 1; decide) (by omega) (by omega) (by omega) (by omega)).trans (p4 i hi).2.2⟩⟩, ⟨fun i hi => (z 72 i (by show (7 : Nat) ≠ 0; decide) (by show (7 : Nat) ≠ 1; decide) (by omega) (by omega) (by omega) (by omega)).trans (iK.1 i hi), fun i hi => (z 73 i (by show (7 : Nat) ≠ 0; decide) (by show (7 : Nat) ≠ 1; decide) (by omega) (by omega) (by omega) (by omega)).trans (iK.2 i hi)⟩⟩
  rcases walk n160 (n + 1) 0 0 3000 3000 D0 0 0 0 0 0 (by omega) (Nat.zero_le n) (Nat.le_refl 0) (by omega) (by omega) TD_0 LK_0 TU_0 with ⟨f, qq, f1, f2, f3, f4, f5⟩ | ⟨D, AT, MT, HJ, m, m1, tD, lk, m4, m5⟩
  · obtain ⟨s2, v, y1, y2, y3⟩ := f4 s1 x3
    obtain ⟨s3, z1, z2, z3, z4⟩ := ce_f (v := v) f1 f2 y3
    obtain ⟨tp, ik⟩ := tpk s3 fun c i o _ a d _ _ => (z4 c i o a d).trans ((y2 c i o o).trans (x2 c i o o))
    obtain ⟨s4, w1, w2, w3⟩ := rs0 tp ik
    obtain ⟨s5, v', g1, g2, g3⟩ := f5 s4 w3
    obtain ⟨s6, k1, k2, k3, k4⟩ := re_f (v := v') f1 f2 g3
    exact ⟨_, s3, s6, cA.trans (y1.trans z1), (rA s3 s4 w1).trans (g1.trans k1), tx_f q iF x2 y2 z4 w2 g2 k4 z2 z3 k2 k3⟩
  · obtain ⟨s2, y1, y2, y3, y4⟩ := m4 s1 x3
    have e37 : s2 37 1 = nI n := (y2 37 1 (by decide) (by decide)).trans ((x2 37 1 (by decide) (by decide)).trans p2)
    by_cases hJ : HJ ≤ D 0 0
    · obtain ⟨s3, z1, z2, z3, z4, z5, z6, z7⟩ := ce_ok (n := n) (b := b) (v := nI m) tD lk y3 y4 hJ
      obtain ⟨tp, ik⟩ := tpk s3 fun c i o o1 a d a2 d2 => (z7 c i o o1 a d a2 d2).trans ((y2 c i o o).trans (x2 c i o o))
      obtain ⟨s4, w1, w2, w3⟩ := rs0 tp ik
      obtain ⟨s5, g1, g2, g3, g4, g5⟩ := m5 s4 w3
      obtain ⟨s6, k1, k2, k3, k4, k5, k6, k7, k8, k9⟩ := re_ok (v := nI m) tD lk g3 g4 hJ
      refine ⟨_, s3, s6, cA.trans (y1.trans z1), (rA s3 s4 w1).trans (g1.trans k1), ?_⟩
      have fr : ∀ c i, own c i ≠ 0 → (own c i ≠ 1 ∨ c ≤ 9) → ¬ (c = 60 ∧ (i = 23 ∨ i = 24 ∨ i = 41)) → ¬ (c = 75 ∧ i ≤ 1) → s6 c i = s3 c i := fun c i o o1 a d => (k9 c i o o1 a d).trans ((g2 c i o o).trans (w2 c i o o))
      have al : ∀ c i, own c i ≠ 0 → own c i ≠ 1 → ¬ (c = 37 ∧ i = 1) → ¬ (c = 0 ∧ i = 6) → ¬ (c = 0 ∧ i = 3) → ¬ (c = 51 ∧ i = 2) → ¬ (c = 60 ∧ (i = 23 ∨ i = 24 ∨ i = 41)) → ¬ (c = 75 ∧ i ≤ 1) → s6 c i = σ c i := fun c i o o1 a d a2 d2 a3 d3 => (fr c i o (.inl o1) a3 d3).trans ((z7 c i o o1 a d a2 d2).trans ((y2 c i o o).trans (x2 c i o o)))
      have tv6 : TV 1 D s6 := TV_fr (fun r i r1 r2 => fr _ _ (by rw [own_1 i (by omega) (by omega)]; decide) (.inr (by omega)) (by omega) (by omega)) z6
      have ag : ∀ k, k = 5 ∨ k = 7 → Ag k σ s6 := by
        intro k hk c i e
        refine al c i (by omega) (by omega) ?_ ?_ ?_ ?_ ?_ ?_
        · rintro ⟨rfl, rfl⟩; have : (3 : Nat) = k := e; omega
        · rintro ⟨rfl, rfl⟩; have : (6 : Nat) = k := e; omega
        · rintro ⟨rfl, rfl⟩; have : (2 : Nat) = k := e; omega
        · rintro ⟨rfl, rfl⟩; have : (4 : Nat) = k := e; omega
        · rintro ⟨rfl, rfl | rfl | rfl⟩
          · have : (3 : Nat) = k := e; omega
          · have : (6 : Nat) = k := e; omega
          · have : (4 : Nat) = k := e; omega
        · rintro ⟨rfl, -⟩; have : (2 : Nat) = k := e; omega
      have e37 : s6 37 1 = 0 := (fr 37 1 (by decide) (.inl (by decide)) (by omega) (by omega)).trans z2
      have e06 : s6 0 6 = 0 := (fr 0 6 (by decide) (.inl (by decide)) (by omega) (by omega)).trans z3
      have e03 : s6 0 3 = 0 := (fr 0 3 (by decide) (.inl (by decide)) (by omega) (by omega)).trans z4
      have e51 : s6 51 2 = 0 := (fr 51 2 (by decide) (.inl (by decide)) (by omega) (by omega)).trans z5
      refine ⟨D, ⟨TK_ok tD lk hJ, tv6, k7, k8⟩, ⟨0, 0, by omega, by omega, e03, k5, k6, fun e => absurd e (by decide), fun e => absurd e (by decide)⟩, InvP_0 e37 k2, ⟨0, fun _ => 0, fun _ => 0, by omega, e51, k4, fun i hi => absurd hi (Nat.not_lt_zero i)⟩, InvH_fr (ag 5 (.inl rfl)) iH, ⟨k3.trans e06.symm, ?_⟩, InvK_fr (ag 7 (.inr rfl)) iK⟩
      rw [al 60 46 (by decide) (by decide) (by omega) (by omega) (by omega) (by omega) (by omega) (by omega), al 0 12 (by decide) (by decide) (by omega) (by omega) (by omega) (by omega) (by omega) (by omega)]
      exact iF.2
    · obtain ⟨s3, z1, z2, z3, z4⟩ := ce_m (n := n) (b := b) (v := nI m) tD lk y3 y4 e37 hJ
      obtain ⟨tp, ik⟩ := tpk s3 fun c i o _ a d _ _ => (z4 c i o a d).trans ((y2 c i o o).trans (x2 c i o o))
      obtain ⟨s4, w1, w2, w3⟩ := rs0 tp ik
      obtain ⟨s5, g1, g2, g3, g4, g5⟩ := m5 s4 w3
      obtain ⟨s6, k1, k2, k3, k4⟩ := re_m (v := nI m) lk.2.2.1 g4 g5 g3.2.2.2.2.2.2.2 g3.2.2.2.1.1 hJ
      exact ⟨_, s3, s6, cA.trans (y1.trans z1), (rA s3 s4 w1).trans (g1.trans k1), tx_f q iF x2 y2 z4 w2 g2 k4 z2 z3 k2 k3⟩
end
section
/-! the law's loop, as a function (laid by part 07c of whole) -/
def f_L_law_1514 (xs : Nat → Int32) (L : Nat) (k_18 : ZI → ZL → Int32 → Option (Int32)) (σ : ZI) (τ : ZL) (v3 : Int32) : Option (Int32) := k_18 σ τ (v3 + (5 : Int32))
def f_L_law_521 (xs : Nat → Int32) (L : Nat) (k_18 : ZI → ZL → Int32 → Option (Int32)) (σ : ZI) (τ : ZL) (v3 : Int32) (s0 : Int32) (s1 : Int32) (s3 : Int32) : Option (Int32) := (f_X8_signal σ s1 s0).bind (fun q22 => if s3 = q22.1 then (f_L_law_1514 xs L k_18 q22.2 τ v3) else (none))
def f_L_law_499 (xs : Nat → Int32) (L : Nat) (k_18 : ZI → ZL → Int32 → Option (Int32)) (σ : ZI) (τ : ZL) (v3 : Int32) (s0 : Int32) (s1 : Int32) : Option (Int32) := (f_X7_signal σ s1 s0).bind (fun q21 => if inB (v3 + (1 : Int32)) L = true then (if inB (v3 + (2 : Int32)) L = true then (if (xs (v3 + (2 : Int32)).toNatClampNeg) = 0 then (f_L_law_521 xs L k_18 q21.2 τ v3 (0 : Int32) (xs (v3 + (1 : Int32)).toNatClampNeg) q21.1) else (f_L_law_521 xs L k_18 q21.2 τ v3 (1 : Int32) (xs (v3 + (1 : Int32)).toNatClampNeg) q21.1)) else none) else none)
def f_L_law_18 (xs : Nat → Int32) (L : Nat)  : Nat → ZI → ZL → Int32 → Option (Int32)
  | 0, _, _, _ => none
  | n + 1, σ, τ, v3 => if ((nI L) - (5 : Int32)) < v3 then (some (1 : Int32)) else (if inB v3 L = true then (if ((xs v3.toNatClampNeg) &&& (63 : Int32)) = (0 : Int32) then (if inB (v3 + (1 : Int32)) L = true then ((f_X7_feed σ (xs (v3 + (1 : Int32)).toNatClampNeg)).bind (fun q1 => if inB (v3 + (1 : Int32)) L = true then ((f_X8_feed q1.2 (xs (v3 + (1 : Int32)).toNatClampNeg)).bind (fun q2 => if q1.1 = q2.1 then (f_L_law_1514 xs L (fun σ τ v3 => f_L_law_18 xs L n σ τ v3) q2.2 τ v3) else (none))) else none)) else none) else (if ((xs v3.toNatClampNeg) &&& (63 : Int32)) = (1 : Int32) then (if inB (v3 + (1 : Int32)) L = true then ((f_X7_end σ (xs (v3 + (1 : Int32)).toNatClampNeg)).bind (fun q3 => if inB (v3 + (1 : Int32)) L = true then ((f_X8_end q3.2 (xs (v3 + (1 : Int32)).toNatClampNeg)).bind (fun q4 => if q3.1 = q4.1 then (f_L_law_1514 xs L (fun σ τ v3 => f_L_law_18 xs L n σ τ v3) q4.2 τ v3) else (none))) else none)) else none) else (if ((xs v3.toNatClampNeg) &&& (63 : Int32)) = (2 : Int32) then ((f_X7_text σ).bind (fun q5 => (f_X8_text q5.2).bind (fun q6 => if q5.1 = q6.1 then (f_L_law_1514 xs L (fun σ τ v3 => f_L_law_18 xs L n σ τ v3) q6.2 τ v3) else (none)))) else (if ((xs v3.toNatClampNeg) &&& (63 : Int32)) = (3 : Int32) then ((f_X7_fault σ).bind (fun q7 => (f_X8_fault σ).bind (fun q8 => if q7 = q8 then (f_L_law_1514 xs L (fun σ τ v3 => f_L_law_18 xs L n σ τ v3) σ τ v3) else (none)))) else (if ((xs v3.toNatClampNeg) &&& (63 : Int32)) = (4 : Int32) then (if inB (v3 + (1 : Int32)) L = true then ((f_X7_rule σ (xs (v3 + (1 : Int32)).toNatClampNeg)).bind (fun q9 => if inB (v3 + (1 : Int32)) L = true then ((f_X8_rule σ (xs (v3 + (1 : Int32)).toNatClampNeg)).bind (fun q10 => if q9 = q10 then (f_L_law_1514 xs L (fun σ τ v3 => f_L_law_18 xs L n σ τ v3) σ τ v3) else (none))) else none)) else none) else (if ((xs v3.toNatClampNeg) &&& (63 : Int32)) = (5 : Int32) then (if inB (v3 + (1 : Int32)) L = true then (if inB (v3 + (2 : Int32)) L = true then ((f_X7_arm σ (xs (v3 + (1 : Int32)).toNatClampNeg) (xs (v3 + (2 : Int32)).toNatClampNeg)).bind (fun q11 => if inB (v3 + (1 : Int32)) L = true then (if inB (v3 + (2 : Int32)) L = true then ((f_X8_arm σ (xs (v3 + (1 : Int32)).toNatClampNeg) (xs (v3 + (2 : Int32)).toNatClampNeg)).bind (fun q12 => if q11 = q12 then (f_L_law_1514 xs L (fun σ τ v3 => f_L_law_18 xs L n σ τ v3) σ τ v3) else (none))) else none) else none)) else none) else none) else (if ((xs v3.toNatClampNeg) &&& (63 : Int32)) = (6 : Int32) then (if inB (v3 + (1 : Int32)) L = true then (if inB (v3 + (2 : Int32)) L = true then ((f_X7_mark σ (xs (v3 + (1 : Int32)).toNatClampNeg) (xs (v3 + (2 : Int32)).toNatClampNeg)).bind (fun q13 => if inB (v3 + (1 : Int32)) L = true then (if inB (v3 + (2 : Int32)) L = true then ((f_X8_mark σ (xs (v3 + (1 : Int32)).toNatClampNeg) (xs (v3 + (2 : Int32)).toNatClampNeg)).bind (fun q14 => if q13 = q14 then (f_L_law_1514 xs L (fun σ τ v3 => f_L_law_18 xs L n σ τ v3) σ τ v3) else (none))) else none) else none)) else none) else none) else (if ((xs v3.toNatClampNeg) &&& (63 : Int32)) = (7 : Int32) then (if inB (v3 + (1 : Int32)) L = true then (if inB (v3 + (2 : Int32)) L = true then ((f_X7_town σ (xs (v3 + (1 : Int32)).toNatClampNeg) (xs (v3 + (2 : Int32)).toNatClampNeg)).bind (fun q15 => if inB (v3 + (1 : Int32)) L = true then (if inB (v3 + (2 : Int32)) L = true then ((f_X8_town σ (xs (v3 + (1 : Int32)).toNatClampNeg) (xs (v3 + (2 : Int32)).toNatClampNeg)).bind (fun q16 => if q15 = q16 then (f_L_law_1514 xs L (fun σ τ v3 => f_L_law_18 xs L n σ τ v3) σ τ v3) else (none))) else none) else none)) else none) else none) else (if ((xs v3.toNatClampNeg) &&& (63 : Int32)) = (8 : Int32) then (if inB (v3 + (1 : Int32)) L = true then (if inB (v3 + (2 : Int32)) L = true then ((f_X7_set σ (xs (v3 + (1 : Int32)).toNatClampNeg) (xs (v3 + (2 : Int32)).toNatClampNeg)).bind (fun q17 => if inB (v3 + (1 : Int32)) L = true then (if inB (v3 + (2 : Int32)) L = true then ((f_X8_set q17.2 (xs (v3 + (1 : Int32)).toNatClampNeg) (xs (v3 + (2 : Int32)).toNatClampNeg)).bind (fun q18 => if q17.1 = q18.1 then (f_L_law_1514 xs L (fun σ τ v3 => f_L_law_18 xs L n σ τ v3) q18.2 τ v3) else (none))) else none) else none)) else none) else none) else (if ((xs v3.toNatClampNeg) &&& (63 : Int32)) = (9 : Int32) then (if inB (v3 + (1 : Int32)) L = true then (if inB (v3 + (2 : Int32)) L = true then ((f_X7_net σ (xs (v3 + (1 : Int32)).toNatClampNeg) (xs (v3 + (2 : Int32)).toNatClampNeg)).bind (fun q19 => if inB (v3 + (1 : Int32)) L = true then (if inB (v3 + (2 : Int32)) L = true then ((f_X8_net q19.2 (xs (v3 + (1 : Int32)).toNatClampNeg) (xs (v3 + (2 : Int32)).toNatClampNeg)).bind (fun q20 => if q19.1 = q20.1 then (f_L_law_1514 xs L (fun σ τ v3 => f_L_law_18 xs L n σ τ v3) q20.2 τ v3) else (none))) else none) else none)) else none) else none) else (if ((xs v3.toNatClampNeg) &&& (63 : Int32)) = (10 : Int32) then (if inB (v3 + (1 : Int32)) L = true then (if inB (v3 + (2 : Int32)) L = true then (if (xs (v3 + (2 : Int32)).toNatClampNeg) = 0 then (f_L_law_499 xs L (fun σ τ v3 => f_L_law_18 xs L n σ τ v3) σ τ v3 (0 : Int32) (xs (v3 + (1 : Int32)).toNatClampNeg)) else (f_L_law_499 xs L (fun σ τ v3 => f_L_law_18 xs L n σ τ v3) σ τ v3 (1 : Int32) (xs (v3 + (1 : Int32)).toNatClampNeg))) else none) else none) else (if ((xs v3.toNatClampNeg) &&& (63 : Int32)) = (11 : Int32) then (if inB (v3 + (1 : Int32)) L = true then ((f_X7_bridge σ (xs (v3 + (1 : Int32)).toNatClampNeg)).bind (fun q23 => if inB (v3 + (1 : Int32)) L = true then ((f_X8_bridge q23.2 (xs (v3 + (1 : Int32)).toNatClampNeg)).bind (fun q24 => if q23.1 = q24.1 then (f_L_law_1514 xs L (fun σ τ v3 => f_L_law_18 xs L n σ τ v3) q24.2 τ v3) else (none))) else none)) else none) else (if ((xs v3.toNatClampNeg) &&& (63 : Int32)) = (12 : Int32) then (if inB (v3 + (1 : Int32)) L = true then (if inB (v3 + (2 : Int32)) L = true then ((f_X7_clear σ (xs (v3 + (1 : Int32)).toNatClampNeg) (xs (v3 + (2 : Int32)).toNatClampNeg)).bind (fun q25 => if inB (v3 + (1 : Int32)) L = true then (if inB (v3 + (2 : Int32)) L = true then ((f_X8_clear q25.2 (xs (v3 + (1 : Int32)).toNatClampNeg) (xs (v3 + (2 : Int32)).toNatClampNeg)).bind (fun q26 => if q25.1 = q26.1 then (f_L_law_1514 xs L (fun σ τ v3 => f_L_law_18 xs L n σ τ v3) q26.2 τ v3) else (none))) else none) else none)) else none) else none) else (if ((xs v3.toNatClampNeg) &&& (63 : Int32)) = (13 : Int32) then (if inB (v3 + (1 : Int32)) L = true then (if inB (v3 + (2 : Int32)) L = true then ((f_X7_hang σ (xs (v3 + (1 : Int32)).toNatClampNeg) (xs (v3 + (2 : Int32)).toNatClampNeg)).bind (fun q27 => if inB (v3 + (1 : Int32)) L = true then (if inB (v3 + (2 : Int32)) L = true then ((f_X8_hang q27.2 (xs (v3 + (1 : Int32)).toNatClampNeg) (xs (v3 + (2 : Int32)).toNatClampNeg)).bind (fun q28 => if q27.1 = q28.1 then (f_L_law_1514 xs L (fun σ τ v3 => f_L_law_18 xs L n σ τ v3) q28.2 τ v3) else (none))) else none) else none)) else none) else none) else (if ((xs v3.toNatClampNeg) &&& (63 : Int32)) = (14 : Int32) then (if inB (v3 + (1 : Int32)) L = true then (if inB (v3 + (2 : Int32)) L = true then ((f_X7_post σ (xs (v3 + (1 : Int32)).toNatClampNeg) (xs (v3 + (2 : Int32)).toNatClampNeg)).bind (fun q29 => if inB (v3 + (1 : Int32)) L = true then (if inB (v3 + (2 : Int32)) L = true then ((f_X8_post q29.2 (xs (v3 + (1 : Int32)).toNatClampNeg) (xs (v3 + (2 : Int32)).toNatClampNeg)).bind (fun q30 => if q29.1 = q30.1 then (f_L_law_1514 xs L (fun σ τ v3 => f_L_law_18 xs L n σ τ v3) q30.2 τ v3) else (none))) else none) else none)) else none) else none) else (if ((xs v3.toNatClampNeg) &&& (63 : Int32)) = (15 : Int32) then (if inB (v3 + (1 : Int32)) L = true then (if inB (v3 + (2 : Int32)) L = true then (if inB (v3 + (3 : Int32)) L = true then ((f_X7_night σ (xs (v3 + (1 : Int32)).toNatClampNeg) (xs (v3 + (2 : Int32)).toNatClampNeg) (xs (v3 + (3 : Int32)).toNatClampNeg)).bind (fun q31 => if inB (v3 + (1 : Int32)) L = true then (if inB (v3 + (2 : Int32)) L = true then (if inB (v3 + (3 : Int32)) L = true then ((f_X8_night q31.2 (xs (v3 + (1 : Int32)).toNatClampNeg) (xs (v3 + (2 : Int32)).toNatClampNeg) (xs (v3 + (3 : Int32)).toNatClampNeg)).bind (fun q32 => if q31.1 = q32.1 then (f_L_law_1514 xs L (fun σ τ v3 => f_L_law_18 xs L n σ τ v3) q32.2 τ v3) else (none))) else none) else none) else none)) else none) else none) else none) else (if ((xs v3.toNatClampNeg) &&& (63 : Int32)) = (16 : Int32) then (if inB (v3 + (1 : Int32)) L = true then (if inB (v3 + (2 : Int32)) L = true then (if inB (v3 + (3 : Int32)) L = true then ((f_X7_counts σ (xs (v3 + (1 : Int32)).toNatClampNeg) (xs (v3 + (2 : Int32)).toNatClampNeg) (xs (v3 + (3 : Int32)).toNatClampNeg)).bind (fun q33 => if inB (v3 + (1 : Int32)) L = true then (if inB (v3 + (2 : Int32)) L = true then (if inB (v3 + (3 : Int32)) L = true then ((f_X8_counts σ (xs (v3 + (1 : Int32)).toNatClampNeg) (xs (v3 + (2 : Int32)).toNatClampNeg) (xs (v3 + (3 : Int32)).toNatClampNeg)).bind (fun q34 => if q33 = q34.1 then (f_L_law_1514 xs L (fun σ τ v3 => f_L_law_18 xs L n σ τ v3) q34.2 τ v3) else (none))) else none) else none) else none)) else none) else none) else none) else (if ((xs v3.toNatClampNeg) &&& (63 : Int32)) = (17 : Int32) then (if inB (v3 + (1 : Int32)) L = true then (if inB (v3 + (2 : Int32)) L = true then (if inB (v3 + (3 : Int32)) L = true then ((f_X7_where σ τ (xs (v3 + (1 : Int32)).toNatClampNeg) (xs (v3 + (2 : Int32)).toNatClampNeg) (xs (v3 + (3 : Int32)).toNatClampNeg)).bind (fun q35 => if inB (v3 + (1 : Int32)) L = true then (if inB (v3 + (2 : Int32)) L = true then (if inB (v3 + (3 : Int32)) L = true then ((f_X8_where q35.2.1 (xs (v3 + (1 : Int32)).toNatClampNeg) (xs (v3 + (2 : Int32)).toNatClampNeg) (xs (v3 + (3 : Int32)).toNatClampNeg)).bind (fun q36 => if (lg_cmp q35.1 q36.1) = 0 then (f_L_law_1514 xs L (fun σ τ v3 => f_L_law_18 xs L n σ τ v3) q36.2 q35.2.2 v3) else (none))) else none) else none) else none)) else none) else none) else none) else (if ((xs v3.toNatClampNeg) &&& (63 : Int32)) = (18 : Int32) then (if inB (v3 + (1 : Int32)) L = true then (if inB (v3 + (2 : Int32)) L = true then ((f_X7_goes σ τ (xs (v3 + (1 : Int32)).toNatClampNeg) (xs (v3 + (2 : Int32)).toNatClampNeg)).bind (fun q37 => if inB (v3 + (1 : Int32)) L = true then (if inB (v3 + (2 : Int32)) L = true then ((f_X8_goes q37.2.1 (xs (v3 + (1 : Int32)).toNatClampNeg) (xs (v3 + (2 : Int32)).toNatClampNeg)).bind (fun q38 => if (lg_cmp q37.1 q38.1) = 0 then (f_L_law_1514 xs L (fun σ τ v3 => f_L_law_18 xs L n σ τ v3) q38.2 q37.2.2 v3) else (none))) else none) else none)) else none) else none) else (if ((xs v3.toNatClampNeg) &&& (63 : Int32)) = (19 : Int32) then (if inB (v3 + (1 : Int32)) L = true then (if inB (v3 + (2 : Int32)) L = true then ((f_X7_isOut σ τ (xs (v3 + (1 : Int32)).toNatClampNeg) (xs (v3 + (2 : Int32)).toNatClampNeg)).bind (fun q39 => if inB (v3 + (1 : Int32)) L = true then (if inB (v3 + (2 : Int32)) L = true then ((f_X8_isOut q39.2.1 (xs (v3 + (1 : Int32)).toNatClampNeg) (xs (v3 + (2 : Int32)).toNatClampNeg)).bind (fun q40 => if (lg_cmp q39.1 q40.1) = 0 then (f_L_law_1514 xs L (fun σ τ v3 => f_L_law_18 xs L n σ τ v3) q40.2 q39.2.2 v3) else (none))) else none) else none)) else none) else none) else (if ((xs v3.toNatClampNeg) &&& (63 : Int32)) = (20 : Int32) then (if inB (v3 + (1 : Int32)) L = true then (if inB (v3 + (2 : Int32)) L = true then ((f_X7_had σ τ (xs (v3 + (1 : Int32)).toNatClampNeg) (xs (v3 + (2 : Int32)).toNatClampNeg)).bind (fun q41 => if inB (v3 + (1 : Int32)) L = true then (if inB (v3 + (2 : Int32)) L = true then ((f_X8_had q41.2.1 (xs (v3 + (1 : Int32)).toNatClampNeg) (xs (v3 + (2 : Int32)).toNatClampNeg)).bind (fun q42 => if (lg_cmp q41.1 q42.1) = 0 then (f_L_law_1514 xs L (fun σ τ v3 => f_L_law_18 xs L n σ τ v3) q42.2 q41.2.2 v3) else (none))) else none) else none)) else none) else none) else (if ((xs v3.toNatClampNeg) &&& (63 : Int32)) = (21 : Int32) then (if inB (v3 + (1 : Int32)) L = true then ((f_X7_hits σ τ (xs (v3 + (1 : Int32)).toNatClampNeg)).bind (fun q43 => if inB (v3 + (1 : Int32)) L = true then ((f_X8_hits q43.2.1 (xs (v3 + (1 : Int32)).toNatClampNeg)).bind (fun q44 => if (lg_cmp q43.1 q44.1) = 0 then (f_L_law_1514 xs L (fun σ τ v3 => f_L_law_18 xs L n σ τ v3) q44.2 q43.2.2 v3) else (none))) else none)) else none) else (if ((xs v3.toNatClampNeg) &&& (63 : Int32)) = (22 : Int32) then (if inB (v3 + (1 : Int32)) L = true then ((f_X7_torn σ τ (xs (v3 + (1 : Int32)).toNatClampNeg)).bind (fun q45 => if inB (v3 + (1 : Int32)) L = true then ((f_X8_torn q45.2.1 (xs (v3 + (1 : Int32)).toNatClampNeg)).bind (fun q46 => if (lg_cmp q45.1 q46.1) = 0 then (f_L_law_1514 xs L (fun σ τ v3 => f_L_law_18 xs L n σ τ v3) q46.2 q45.2.2 v3) else (none))) else none)) else none) else (if ((xs v3.toNatClampNeg) &&& (63 : Int32)) = (23 : Int32) then (if inB (v3 + (1 : Int32)) L = true then ((f_X7_worth σ τ (xs (v3 + (1 : Int32)).toNatClampNeg)).bind (fun q47 => if inB (v3 + (1 : Int32)) L = true then ((f_X8_worth q47.2.1 (xs (v3 + (1 : Int32)).toNatClampNeg)).bind (fun q48 => if (lg_cmp q47.1 q48.1) = 0 then (f_L_law_1514 xs L (fun σ τ v3 => f_L_law_18 xs L n σ τ v3) q48.2 q47.2.2 v3) else (none))) else none)) else none) else (if ((xs v3.toNatClampNeg) &&& (63 : Int32)) = (24 : Int32) then (if inB (v3 + (1 : Int32)) L = true then ((f_X7_best σ τ (xs (v3 + (1 : Int32)).toNatClampNeg)).bind (fun q49 => if inB (v3 + (1 : Int32)) L = true then ((f_X8_best q49.2.1 (xs (v3 + (1 : Int32)).toNatClampNeg)).bind (fun q50 => if (lg_cmp q49.1 q50.1) = 0 then (f_L_law_1514 xs L (fun σ τ v3 => f_L_law_18 xs L n σ τ v3) q50.2 q49.2.2 v3) else (none))) else none)) else none) else (if ((xs v3.toNatClampNeg) &&& (63 : Int32)) = (25 : Int32) then (if inB (v3 + (1 : Int32)) L = true then (if inB (v3 + (2 : Int32)) L = true then ((f_X7_fog σ τ (xs (v3 + (1 : Int32)).toNatClampNeg) (xs (v3 + (2 : Int32)).toNatClampNeg)).bind (fun q51 => if inB (v3 + (1 : Int32)) L = true then (if inB (v3 + (2 : Int32)) L = true then ((f_X8_fog q51.2.1 (xs (v3 + (1 : Int32)).toNatClampNeg) (xs (v3 + (2 : Int32)).toNatClampNeg)).bind (fun q52 => if q51.1 = q52.1 then (f_L_law_1514 xs L (fun σ τ v3 => f_L_law_18 xs L n σ τ v3) q52.2 q51.2.2 v3) else (none))) else none) else none)) else none) else none) else (if ((xs v3.toNatClampNeg) &&& (63 : Int32)) = (26 : Int32) then (if inB (v3 + (1 : Int32)) L = true then (if inB (v3 + (2 : Int32)) L = true then ((f_X7_fast σ τ (xs (v3 + (1 : Int32)).toNatClampNeg) (xs (v3 + (2 : Int32)).toNatClampNeg)).bind (fun q53 => if inB (v3 + (1 : Int32)) L = true then (if inB (v3 + (2 : Int32)) L = true then ((f_X8_fast q53.2.1 (xs (v3 + (1 : Int32)).toNatClampNeg) (xs (v3 + (2 : Int32)).toNatClampNeg)).bind (fun q54 => if q53.1 = q54.1 then (f_L_law_1514 xs L (fun σ τ v3 => f_L_law_18 xs L n σ τ v3) q54.2 q53.2.2 v3) else (none))) else none) else none)) else none) else none) else (if ((xs v3.toNatClampNeg) &&& (63 : Int32)) = (27 : Int32) then (if inB (v3 + (1 : Int32)) L = true then (if inB (v3 + (2 : Int32)) L = true then ((f_X7_slack σ τ (xs (v3 + (1 : Int32)).toNatClampNeg) (xs (v3 + (2 : Int32)).toNatClampNeg)).bind (fun q55 => if inB (v3 + (1 : Int32)) L = true then (if inB (v3 + (2 : Int32)) L = true then ((f_X8_slack q55.2.1 (xs (v3 + (1 : Int32)).toNatClampNeg) (xs (v3 + (2 : Int32)).toNatClampNeg)).bind (fun q56 => if q55.1 = q56.1 then (f_L_law_1514 xs L (fun σ τ v3 => f_L_law_18 xs L n σ τ v3) q56.2 q55.2.2 v3) else (none))) else none) else none)) else none) else none) else (if ((xs v3.toNatClampNeg) &&& (63 : Int32)) = (28 : Int32) then (if inB (v3 + (1 : Int32)) L = true then (if inB (v3 + (2 : Int32)) L = true then ((f_X7_sort σ (xs (v3 + (1 : Int32)).toNatClampNeg) (xs (v3 + (2 : Int32)).toNatClampNeg)).bind (fun q57 => if inB (v3 + (1 : Int32)) L = true then (if inB (v3 + (2 : Int32)) L = true then ((f_X8_sort σ (xs (v3 + (1 : Int32)).toNatClampNeg) (xs (v3 + (2 : Int32)).toNatClampNeg)).bind (fun q58 => if q57 = q58 then (f_L_law_1514 xs L (fun σ τ v3 => f_L_law_18 xs L n σ τ v3) σ τ v3) else (none))) else none) else none)) else none) else none) else (if ((xs v3.toNatClampNeg) &&& (63 : Int32)) = (29 : Int32) then (if inB (v3 + (1 : Int32)) L = true then ((f_X7_minutes σ (xs (v3 + (1 : Int32)).toNatClampNeg)).bind (fun q59 => if inB (v3 + (1 : Int32)) L = true then ((f_X8_minutes σ (xs (v3 + (1 : Int32)).toNatClampNeg)).bind (fun q60 => if q59 = q60 then (f_L_law_1514 xs L (fun σ τ v3 => f_L_law_18 xs L n σ τ v3) σ τ v3) else (none))) else none)) else none) else (if ((xs v3.toNatClampNeg) &&& (63 : Int32)) = (30 : Int32) then (if inB (v3 + (1 : Int32)) L = true then ((f_X7_hands σ (xs (v3 + (1 : Int32)).toNatClampNeg)).bind (fun q61 => if inB (v3 + (1 : Int32)) L = true then ((f_X8_hands σ (xs (v3 + (1 : Int32)).toNatClampNeg)).bind (fun q62 => if q61 = q62 then (f_L_law_1514 xs L (fun σ τ v3 => f_L_law_18 xs L n σ τ v3) σ τ v3) else (none))) else none)) else none) else (if ((xs v3.toNatClampNeg) &&& (63 : Int32)) = (31 : Int32) then (if inB (v3 + (1 : Int32)) L = true then (if inB (v3 + (2 : Int32)) L = true then ((f_X7_see σ (xs (v3 + (1 : Int32)).toNatClampNeg) (xs (v3 + (2 : Int32)).toNatClampNeg)).bind (fun q63 => if inB (v3 + (1 : Int32)) L = true then (if inB (v3 + (2 : Int32)) L = true then ((f_X8_see q63.2 (xs (v3 + (1 : Int32)).toNatClampNeg) (xs (v3 + (2 : Int32)).toNatClampNeg)).bind (fun q64 => if q63.1 = q64.1 then (f_L_law_1514 xs L (fun σ τ v3 => f_L_law_18 xs L n σ τ v3) q64.2 τ v3) else (none))) else none) else none)) else none) else none) else (if ((xs v3.toNatClampNeg) &&& (63 : Int32)) = (32 : Int32) then (if inB (v3 + (1 : Int32)) L = true then ((f_X7_forget σ (xs (v3 + (1 : Int32)).toNatClampNeg)).bind (fun q65 => if inB (v3 + (1 : Int32)) L = true then ((f_X8_forget q65.2 (xs (v3 + (1 : Int32)).toNatClampNeg)).bind (fun q66 => if q65.1 = q66.1 then (f_L_law_1514 xs L (fun σ τ v3 => f_L_law_18 xs L n σ τ v3) q66.2 τ v3) else (none))) else none)) else none) else (if ((xs v3.toNatClampNeg) &&& (63 : Int32)) = (33 : Int32) then (if inB (v3 + (1 : Int32)) L = true then ((f_X7_fits σ τ (xs (v3 + (1 : Int32)).toNatClampNeg)).bind (fun q67 => if inB (v3 + (1 : Int32)) L = true then ((f_X8_fits q67.2.1 (xs (v3 + (1 : Int32)).toNatClampNeg)).bind (fun q68 => if q67.1 = q68.1 then (f_L_law_1514 xs L (fun σ τ v3 => f_L_law_18 xs L n σ τ v3) q68.2 q67.2.2 v3) else (none))) else none)) else none) else (if ((xs v3.toNatClampNeg) &&& (63 : Int32)) = (34 : Int32) then (if inB (v3 + (1 : Int32)) L = true then ((f_X7_likely σ τ (xs (v3 + (1 : Int32)).toNatClampNeg)).bind (fun q69 => if inB (v3 + (1 : Int32)) L = true then ((f_X8_likely q69.2.1 (xs (v3 + (1 : Int32)).toNatClampNeg)).bind (fun q70 => if (lg_cmp q69.1 q70.1) = 0 then (f_L_law_1514 xs L (fun σ τ v3 => f_L_law_18 xs L n σ τ v3) q70.2 q69.2.2 v3) else (none))) else none)) else none) else (if ((xs v3.toNatClampNeg) &&& (63 : Int32)) = (35 : Int32) then (if inB (v3 + (1 : Int32)) L = true then (if inB (v3 + (2 : Int32)) L = true then ((f_X7_drift σ (xs (v3 + (1 : Int32)).toNatClampNeg) (xs (v3 + (2 : Int32)).toNatClampNeg)).bind (fun q71 => if inB (v3 + (1 : Int32)) L = true then (if inB (v3 + (2 : Int32)) L = true then ((f_X8_drift q71.2 (xs (v3 + (1 : Int32)).toNatClampNeg) (xs (v3 + (2 : Int32)).toNatClampNeg)).bind (fun q72 => if q71.1 = q72.1 then (f_L_law_1514 xs L (fun σ τ v3 => f_L_law_18 xs L n σ τ v3) q72.2 τ v3) else (none))) else none) else none)) else none) else none) else (if ((xs v3.toNatClampNeg) &&& (63 : Int32)) = (36 : Int32) then (if inB (v3 + (1 : Int32)) L = true then ((f_X7_keep σ (xs (v3 + (1 : Int32)).toNatClampNeg)).bind (fun q73 => if inB (v3 + (1 : Int32)) L = true then ((f_X8_keep q73.2 (xs (v3 + (1 : Int32)).toNatClampNeg)).bind (fun q74 => if q73.1 = q74.1 then (f_L_law_1514 xs L (fun σ τ v3 => f_L_law_18 xs L n σ τ v3) q74.2 τ v3) else (none))) else none)) else none) else (if ((xs v3.toNatClampNeg) &&& (63 : Int32)) = (37 : Int32) then (if inB (v3 + (1 : Int32)) L = true then ((f_X7_back σ (xs (v3 + (1 : Int32)).toNatClampNeg)).bind (fun q75 => if inB (v3 + (1 : Int32)) L = true then ((f_X8_back q75.2 (xs (v3 + (1 : Int32)).toNatClampNeg)).bind (fun q76 => if q75.1 = q76.1 then (f_L_law_1514 xs L (fun σ τ v3 => f_L_law_18 xs L n σ τ v3) q76.2 τ v3) else (none))) else none)) else none) else (if ((xs v3.toNatClampNeg) &&& (63 : Int32)) = (38 : Int32) then (if inB (v3 + (1 : Int32)) L = true then (if inB (v3 + (2 : Int32)) L = true then (if inB (v3 + (3 : Int32)) L = true then ((f_X7_sheet σ (xs (v3 + (1 : Int32)).toNatClampNeg) (xs (v3 + (2 : Int32)).toNatClampNeg) (xs (v3 + (3 : Int32)).toNatClampNeg)).bind (fun q77 => if inB (v3 + (1 : Int32)) L = true then (if inB (v3 + (2 : Int32)) L = true then (if inB (v3 + (3 : Int32)) L = true then ((f_X8_sheet q77.2 (xs (v3 + (1 : Int32)).toNatClampNeg) (xs (v3 + (2 : Int32)).toNatClampNeg) (xs (v3 + (3 : Int32)).toNatClampNeg)).bind (fun q78 => if q77.1 = q78.1 then (f_L_law_1514 xs L (fun σ τ v3 => f_L_law_18 xs L n σ τ v3) q78.2 τ v3) else (none))) else none) else none) else none)) else none) else none) else none) else (if ((xs v3.toNatClampNeg) &&& (63 : Int32)) = (39 : Int32) then (if inB (v3 + (1 : Int32)) L = true then (if inB (v3 + (2 : Int32)) L = true then (if inB (v3 + (3 : Int32)) L = true then ((f_X7_lay σ (xs (v3 + (1 : Int32)).toNatClampNeg) (xs (v3 + (2 : Int32)).toNatClampNeg) (xs (v3 + (3 : Int32)).toNatClampNeg)).bind (fun q79 => if inB (v3 + (1 : Int32)) L = true then (if inB (v3 + (2 : Int32)) L = true then (if inB (v3 + (3 : Int32)) L = true then ((f_X8_lay q79.2 (xs (v3 + (1 : Int32)).toNatClampNeg) (xs (v3 + (2 : Int32)).toNatClampNeg) (xs (v3 + (3 : Int32)).toNatClampNeg)).bind (fun q80 => if q79.1 = q80.1 then (f_L_law_1514 xs L (fun σ τ v3 => f_L_law_18 xs L n σ τ v3) q80.2 τ v3) else (none))) else none) else none) else none)) else none) else none) else none) else (if ((xs v3.toNatClampNeg) &&& (63 : Int32)) = (40 : Int32) then (if inB (v3 + (1 : Int32)) L = true then (if inB (v3 + (2 : Int32)) L = true then (if inB (v3 + (3 : Int32)) L = true then (if inB (v3 + (4 : Int32)) L = true then ((f_X7_read σ (xs (v3 + (1 : Int32)).toNatClampNeg) (xs (v3 + (2 : Int32)).toNatClampNeg) (xs (v3 + (3 : Int32)).toNatClampNeg) (xs (v3 + (4 : Int32)).toNatClampNeg)).bind (fun q81 => if inB (v3 + (1 : Int32)) L = true then (if inB (v3 + (2 : Int32)) L = true then (if inB (v3 + (3 : Int32)) L = true then (if inB (v3 + (4 : Int32)) L = true then ((f_X8_read q81.2 (xs (v3 + (1 : Int32)).toNatClampNeg) (xs (v3 + (2 : Int32)).toNatClampNeg) (xs (v3 + (3 : Int32)).toNatClampNeg) (xs (v3 + (4 : Int32)).toNatClampNeg)).bind (fun q82 => if q81.1 = q82.1 then (f_L_law_1514 xs L (fun σ τ v3 => f_L_law_18 xs L n σ τ v3) q82.2 τ v3) else (none))) else none) else none) else none) else none)) else none) else none) else none) else none) else (if ((xs v3.toNatClampNeg) &&& (63 : Int32)) = (41 : Int32) then ((f_X7_split σ).bind (fun q83 => (f_X8_split σ).bind (fun q84 => if q83 = q84 then (f_L_law_1514 xs L (fun σ τ v3 => f_L_law_18 xs L n σ τ v3) σ τ v3) else (none)))) else (if ((xs v3.toNatClampNeg) &&& (63 : Int32)) = (42 : Int32) then (if inB (v3 + (1 : Int32)) L = true then ((f_X7_count σ (xs (v3 + (1 : Int32)).toNatClampNeg)).bind (fun q85 => if inB (v3 + (1 : Int32)) L = true then ((f_X8_count σ (xs (v3 + (1 : Int32)).toNatClampNeg)).bind (fun q86 => if q85 = q86 then (f_L_law_1514 xs L (fun σ τ v3 => f_L_law_18 xs L n σ τ v3) σ τ v3) else (none))) else none)) else none) else (f_L_law_1514 xs L (fun σ τ v3 => f_L_law_18 xs L n σ τ v3) σ τ v3)))))))))))))))))))))))))))))))))))))))))))) else none)
end
section
/-! the law's loop *-/
theorem lgr (r : Int64) : lg_cmp r r = 0 := by
  unfold lg_cmp
  simp
theorem law_5 : ∀ L, L < 5 → ∀ i, i < 16 → nI L - (5 : Int32) < nI i := by decide
theorem law_e {L i : Nat} (hL : L < 2 ^ 20) (hi : i < L + 6) (h : L < i + 5) : nI L - (5 : Int32) < nI i := by
  by_cases z : L < 5
  · exact law_5 L z i (by omega)
  · rw [show (5 : Int32) = nI 5 from rfl, pk_sub (by omega)]
    exact nI_lt (by omega) (by omega)
theorem law_g {L i : Nat} (hL : L < 2 ^ 20) (h : ¬ L < i + 5) : ¬ nI L - (5 : Int32) < nI i := by
  rw [show (5 : Int32) = nI 5 from rfl, pk_sub (by omega)]
  exact nI_nlt (by omega) (by omega)
theorem law_n {xs : Nat → Int32} {L : Nat} (hL : L < 2 ^ 20) : ∀ (fu i : Nat) (σ : ZI) (τ : ZL), L < i + 5 + 5 * fu → i < L + 6 → Inv σ → InL τ → f_L_law_18 xs L (fu + 1) σ τ (nI i) = some 1 := by
  intro fu
  induction fu with
  | zero =>
    intro i σ τ h1 h2 I hT
    rw [f_L_law_18, if_pos (law_e hL h2 (by omega))]
  | succ fu ih =>
    intro i σ τ h1 h2 I hT
    by_cases z : L < i + 5
    · rw [f_L_law_18, if_pos (law_e hL h2 z)]
    · have next : ∀ σ τ, Inv σ → InL τ → f_L_law_1514 xs L (fun σ τ v3 => f_L_law_18 xs L (fu + 1) σ τ v3) σ τ (nI i) = some 1 := by
        intro σ τ I hT
        unfold f_L_law_1514
        rw [show nI i + (5 : Int32) = nI (i + 5) from nI_add i 5]
        exact ih (i + 5) σ τ (by omega) (by omega) I hT
      have b0 : inB (nI i) L = true := inB_n (by omega) (by omega)
      have b1 : inB (nI i + (1 : Int32)) L = true := by rw [show nI i + (1 : Int32) = nI (i + 1) from nI_add i 1]; exact inB_n (by omega) (by omega)
      have b2 : inB (nI i + (2 : Int32)) L = true := by rw [show nI i + (2 : Int32) = nI (i + 2) from nI_add i 2]; exact inB_n (by omega) (by omega)
      have b3 : inB (nI i + (3 : Int32)) L = true := by rw [show nI i + (3 : Int32) = nI (i + 3) from nI_add i 3]; exact inB_n (by omega) (by omega)
      have b4 : inB (nI i + (4 : Int32)) L = true := by rw [show nI i + (4 : Int32) = nI (i + 4) from nI_add i 4]; exact inB_n (by omega) (by omega)
      rw [f_L_law_18, if_neg (law_g hL z), if_pos b0]
      by_cases h0 : (xs (nI i).toNatClampNeg) &&& (63 : Int32) = (0 : Int32)
      · rw [if_pos h0, if_pos b1]
        obtain ⟨r, σ1, σ2, e1, e2, e3⟩ := u_feed I (xs (nI i + (1 : Int32)).toNatClampNeg)
        rw [e1, bso, if_pos b1, e2, bso, if_pos rfl]
        exact next σ2 τ e3 hT
      rw [if_neg h0]
      by_cases h1 : (xs (nI i).toNatClampNeg) &&& (63 : Int32) = (1 : Int32)
      · rw [if_pos h1, if_pos b1]
        obtain ⟨r, σ1, σ2, e1, e2, e3⟩ := u_end I (xs (nI i + (1 : Int32)).toNatClampNeg)
        rw [e1, bso, if_pos b1, e2, bso, if_pos rfl]
        exact next σ2 τ e3 hT
      rw [if_neg h1]
      by_cases h2 : (xs (nI i).toNatClampNeg) &&& (63 : Int32) = (2 : Int32)
      · rw [if_pos h2]
        obtain ⟨r, σ1, σ2, e1, e2, e3⟩ := u_text I
        rw [e1, bso, e2, bso, if_pos rfl]
        exact next σ2 τ e3 hT
      rw [if_neg h2]
      by_cases h3 : (xs (nI i).toNatClampNeg) &&& (63 : Int32) = (3 : Int32)
      · rw [if_pos h3]
        obtain ⟨r, e1, e2⟩ := q_fault I
        rw [e1, bso, e2, bso, if_pos rfl]
        exact next σ τ I hT
      rw [if_neg h3]
      by_cases h4 : (xs (nI i).toNatClampNeg) &&& (63 : Int32) = (4 : Int32)
      · rw [if_pos h4, if_pos b1]
        obtain ⟨r, e1, e2⟩ := q_rule I (xs (nI i + (1 : Int32)).toNatClampNeg)
        rw [e1, bso, if_pos b1, e2, bso, if_pos rfl]
        exact next σ τ I hT
      rw [if_neg h4]
      by_cases h5 : (xs (nI i).toNatClampNeg) &&& (63 : Int32) = (5 : Int32)
      · rw [if_pos h5, if_pos b1, if_pos b2]
        obtain ⟨r, e1, e2⟩ := q_arm I (xs (nI i + (1 : Int32)).toNatClampNeg) (xs (nI i + (2 : Int32)).toNatClampNeg)
        rw [e1, bso, if_pos b1, if_pos b2, e2, bso, if_pos rfl]
        exact next σ τ I hT
      rw [if_neg h5]
      by_cases h6 : (xs (nI i).toNatClampNeg) &&& (63 : Int32) = (6 : Int32)
      · rw [if_pos h6, if_pos b1, if_pos b2]
        obtain ⟨r, e1, e2⟩ := q_mark I (xs (nI i + (1 : Int32)).toNatClampNeg) (xs (nI i + (2 : Int32)).toNatClampNeg)
        rw [e1, bso, if_pos b1, if_pos b2, e2, bso, if_pos rfl]
        exact next σ τ I hT
      rw [if_neg h6]
      by_cases h7 : (xs (nI i).toNatClampNeg) &&& (63 : Int32) = (7 : Int32)
      · rw [if_pos h7, if_pos b1, if_pos b2]
        obtain ⟨r, e1, e2⟩ := q_town I (xs (nI i + (1 : Int32)).toNatClampNeg) (xs (nI i + (2 : Int32)).toNatClampNeg)
        rw [e1, bso, if_pos b1, if_pos b2, e2, bso, if_pos rfl]
        exact next σ τ I hT
      rw [if_neg h7]
      by_cases h8 : (xs (nI i).toNatClampNeg) &&& (63 : Int32) = (8 : Int32)
      · rw [if_pos h8, if_pos b1, if_pos b2]
        obtain ⟨r, σ1, σ2, e1, e2, e3⟩ := u_set I (xs (nI i + (1 : Int32)).toNatClampNeg) (xs (nI i + (2 : Int32)).toNatClampNeg)
        rw [e1, bso, if_pos b1, if_pos b2, e2, bso, if_pos rfl]
        exact next σ2 τ e3 hT
      rw [if_neg h8]
      by_cases h9 : (xs (nI i).toNatClampNeg) &&& (63 : Int32) = (9 : Int32)
      · rw [if_pos h9, if_pos b1, if_pos b2]
        obtain ⟨r, σ1, σ2, e1, e2, e3⟩ := u_net I (xs (nI i + (1 : Int32)).toNatClampNeg) (xs (nI i + (2 : Int32)).toNatClampNeg)
        rw [e1, bso, if_pos b1, if_pos b2, e2, bso, if_pos rfl]
        exact next σ2 τ e3 hT
      rw [if_neg h9]
      by_cases h10 : (xs (nI i).toNatClampNeg) &&& (63 : Int32) = (10 : Int32)
      · rw [if_pos h10, if_pos b1, if_pos b2]
        by_cases z0 : (xs (nI i + (2 : Int32)).toNatClampNeg) = 0
        · rw [if_pos z0]
          obtain ⟨r, σ1, σ2, e1, e2, e3⟩ := u_signal I (xs (nI i + (1 : Int32)).toNatClampNeg) 0
          unfold f_L_law_499
          rw [e1, bso, if_pos b1, if_pos b2, if_pos z0]
          unfold f_L_law_521
          rw [e2, bso, if_pos rfl]
          exact next σ2 τ e3 hT
        · rw [if_neg z0]
          obtain ⟨r, σ1, σ2, e1, e2, e3⟩ := u_signal I (xs (nI i + (1 : Int32)).toNatClampNeg) 1
          unfold f_L_law_499
          rw [e1, bso, if_pos b1, if_pos b2, if_neg z0]
          unfold f_L_law_521
          rw [e2, bso, if_pos rfl]
          exact next σ2 τ e3 hT
      rw [if_neg h10]
      by_cases h11 : (xs (nI i).toNatClampNeg) &&& (63 : Int32) = (11 : Int32)
      · rw [if_pos h11, if_pos b1]
        obtain ⟨r, σ1, σ2, e1, e2, e3⟩ := u_bridge I (xs (nI i + (1 : Int32)).toNatClampNeg)
        rw [e1, bso, if_pos b1, e2, bso, if_pos rfl]
        exact next σ2 τ e3 hT
      rw [if_neg h11]
      by_cases h12 : (xs (nI i).toNatClampNeg) &&& (63 : Int32) = (12 : Int32)
      · rw [if_pos h12, if_pos b1, if_pos b2]
        obtain ⟨r, σ1, σ2, e1, e2, e3⟩ := u_clear I (xs (nI i + (1 : Int32)).toNatClampNeg) (xs (nI i + (2 : Int32)).toNatClampNeg)
        rw [e1, bso, if_pos b1, if_pos b2, e2, bso, if_pos rfl]
        exact next σ2 τ e3 hT
      rw [if_neg h12]
      by_cases h13 : (xs (nI i).toNatClampNeg) &&& (63 : Int32) = (13 : Int32)
      · rw [if_pos h13, if_pos b1, if_pos b2]
        obtain ⟨r, σ1, σ2, e1, e2, e3⟩ := u_hang I (xs (nI i + (1 : Int32)).toNatClampNeg) (xs (nI i + (2 : Int32)).toNatClampNeg)
        rw [e1, bso, if_pos b1, if_pos b2, e2, bso, if_pos rfl]
        exact next σ2 τ e3 hT
      rw [if_neg h13]
      by_cases h14 : (xs (nI i).toNatClampNeg) &&& (63 : Int32) = (14 : Int32)
      · rw [if_pos h14, if_pos b1, if_pos b2]
        obtain ⟨r, σ1, σ2, e1, e2, e3⟩ := u_post I (xs (nI i + (1 : Int32)).toNatClampNeg) (xs (nI i + (2 : Int32)).toNatClampNeg)
        rw [e1, bso, if_pos b1, if_pos b2, e2, bso, if_pos rfl]
        exact next σ2 τ e3 hT
      rw [if_neg h14]
      by_cases h15 : (xs (nI i).toNatClampNeg) &&& (63 : Int32) = (15 : Int32)
      · rw [if_pos h15, if_pos b1, if_pos b2, if_pos b3]
        obtain ⟨r, σ1, σ2, e1, e2, e3⟩ := u_night I (xs (nI i + (1 : Int32)).toNatClampNeg) (xs (nI i + (2 : Int32)).toNatClampNeg) (xs (nI i + (3 : Int32)).toNatClampNeg)
        rw [e1, bso, if_pos b1, if_pos b2, if_pos b3, e2, bso, if_pos rfl]
        exact next σ2 τ e3 hT
      rw [if_neg h15]
      by_cases h16 : (xs (nI i).toNatClampNeg) &&& (63 : Int32) = (16 : Int32)
      · rw [if_pos h16, if_pos b1, if_pos b2, if_pos b3]
        obtain ⟨r, σ2, e1, e2, e3⟩ := u_counts I (xs (nI i + (1 : Int32)).toNatClampNeg) (xs (nI i + (2 : Int32)).toNatClampNeg) (xs (nI i + (3 : Int32)).toNatClampNeg)
        rw [e1, bso, if_pos b1, if_pos b2, if_pos b3, e2, bso, if_pos rfl]
        exact next σ2 τ e3 hT
      rw [if_neg h16]
      by_cases h17 : (xs (nI i).toNatClampNeg) &&& (63 : Int32) = (17 : Int32)
      · rw [if_pos h17, if_pos b1, if_pos b2, if_pos b3]
        obtain ⟨r, σ1, τ1, σ2, e1, e2, e3, e4⟩ := u_where I hT (xs (nI i + (1 : Int32)).toNatClampNeg) (xs (nI i + (2 : Int32)).toNatClampNeg) (xs (nI i + (3 : Int32)).toNatClampNeg)
        dsimp only at e2
        rw [e1, bso, if_pos b1, if_pos b2, if_pos b3, e2, bso, if_pos (lgr r)]
        exact next σ2 τ1 e3 e4
      rw [if_neg h17]
      by_cases h18 : (xs (nI i).toNatClampNeg) &&& (63 : Int32) = (18 : Int32)
      · rw [if_pos h18, if_pos b1, if_pos b2]
        obtain ⟨r, σ1, τ1, σ2, e1, e2, e3, e4⟩ := u_goes I hT (xs (nI i + (1 : Int32)).toNatClampNeg) (xs (nI i + (2 : Int32)).toNatClampNeg)
        dsimp only at e2
        rw [e1, bso, if_pos b1, if_pos b2, e2, bso, if_pos (lgr r)]
        exact next σ2 τ1 e3 e4
      rw [if_neg h18]
      by_cases h19 : (xs (nI i).toNatClampNeg) &&& (63 : Int32) = (19 : Int32)
      · rw [if_pos h19, if_pos b1, if_pos b2]
        obtain ⟨r, σ1, τ1, σ2, e1, e2, e3, e4⟩ := u_isOut I hT (xs (nI i + (1 : Int32)).toNatClampNeg) (xs (nI i + (2 : Int32)).toNatClampNeg)
        dsimp only at e2
        rw [e1, bso, if_pos b1, if_pos b2, e2, bso, if_pos (lgr r)]
        exact next σ2 τ1 e3 e4
      rw [if_neg h19]
      by_cases h20 : (xs (nI i).toNatClampNeg) &&& (63 : Int32) = (20 : Int32)
      · rw [if_pos h20, if_pos b1, if_pos b2]
        obtain ⟨r, σ1, τ1, σ2, e1, e2, e3, e4⟩ := u_had I hT (xs (nI i + (1 : Int32)).toNatClampNeg) (xs (nI i + (2 : Int32)).toNatClampNeg)
        dsimp only at e2
        rw [e1, bso, if_pos b1, if_pos b2, e2, bso, if_pos (lgr r)]
        exact next σ2 τ1 e3 e4
      rw [if_neg h20]
      by_cases h21 : (xs (nI i).toNatClampNeg) &&& (63 : Int32) = (21 : Int32)
      · rw [if_pos h21, if_pos b1]
        obtain ⟨r, σ1, τ1, σ2, e1, e2, e3, e4⟩ := u_hits I hT (xs (nI i + (1 : Int32)).toNatClampNeg)
        dsimp only at e2
        rw [e1, bso, if_pos b1, e2, bso, if_pos (lgr r)]
        exact next σ2 τ1 e3 e4
      rw [if_neg h21]
      by_cases h22 : (xs (nI i).toNatClampNeg) &&& (63 : Int32) = (22 : Int32)
      · rw [if_pos h22, if_pos b1]
        obtain ⟨r, σ1, τ1, σ2, e1, e2, e3, e4⟩ := u_torn I hT (xs (nI i + (1 : Int32)).toNatClampNeg)
        dsimp only at e2
        rw [e1, bso, if_pos b1, e2, bso, if_pos (lgr r)]
        exact next σ2 τ1 e3 e4
      rw [if_neg h22]
      by_cases h23 : (xs (nI i).toNatClampNeg) &&& (63 : Int32) = (23 : Int32)
      · rw [if_pos h23, if_pos b1]
        obtain ⟨r, σ1, τ1, σ2, e1, e2, e3, e4⟩ := u_worth I hT (xs (nI i + (1 : Int32)).toNatClampNeg)
        dsimp only at e2
        rw [e1, bso, if_pos b1, e2, bso, if_pos (lgr r)]
        exact next σ2 τ1 e3 e4
      rw [if_neg h23]
      by_cases h24 : (xs (nI i).toNatClampNeg) &&& (63 : Int32) = (24 : Int32)
      · rw [if_pos h24, if_pos b1]
        obtain ⟨r, σ1, τ1, σ2, e1, e2, e3, e4⟩ := u_best I hT (xs (nI i + (1 : Int32)).toNatClampNeg)
        dsimp only at e2
        rw [e1, bso, if_pos b1, e2, bso, if_pos (lgr r)]
        exact next σ2 τ1 e3 e4
      rw [if_neg h24]
      by_cases h25 : (xs (nI i).toNatClampNeg) &&& (63 : Int32) = (25 : Int32)
      · rw [if_pos h25, if_pos b1, if_pos b2]
        obtain ⟨r, σ1, τ1, σ2, e1, e2, e3, e4⟩ := u_fog I hT (xs (nI i + (1 : Int32)).toNatClampNeg) (xs (nI i + (2 : Int32)).toNatClampNeg)
        dsimp only at e2
        rw [e1, bso, if_pos b1, if_pos b2, e2, bso, if_pos rfl]
        exact next σ2 τ1 e3 e4
      rw [if_neg h25]
      by_cases h26 : (xs (nI i).toNatClampNeg) &&& (63 : Int32) = (26 : Int32)
      · rw [if_pos h26, if_pos b1, if_pos b2]
        obtain ⟨r, σ1, τ1, σ2, e1, e2, e3, e4⟩ := u_fast I hT (xs (nI i + (1 : Int32)).toNatClampNeg) (xs (nI i + (2 : Int32)).toNatClampNeg)
        dsimp only at e2
        rw [e1, bso, if_pos b1, if_pos b2, e2, bso, if_pos rfl]
        exact next σ2 τ1 e3 e4
      rw [if_neg h26]
      by_cases h27 : (xs (nI i).toNatClampNeg) &&& (63 : Int32) = (27 : Int32)
      · rw [if_pos h27, if_pos b1, if_pos b2]
        obtain ⟨r, σ1, τ1, σ2, e1, e2, e3, e4⟩ := u_slack I hT (xs (nI i + (1 : Int32)).toNatClampNeg) (xs (nI i + (2 : Int32)).toNatClampNeg)
        dsimp only at e2
        rw [e1, bso, if_pos b1, if_pos b2, e2, bso, if_pos rfl]
        exact next σ2 τ1 e3 e4
      rw [if_neg h27]
      by_cases h28 : (xs (nI i).toNatClampNeg) &&& (63 : Int32) = (28 : Int32)
      · rw [if_pos h28, if_pos b1, if_pos b2]
        obtain ⟨r, e1, e2⟩ := q_sort I (xs (nI i + (1 : Int32)).toNatClampNeg) (xs (nI i + (2 : Int32)).toNatClampNeg)
        rw [e1, bso, if_pos b1, if_pos b2, e2, bso, if_pos rfl]
        exact next σ τ I hT
      rw [if_neg h28]
      by_cases h29 : (xs (nI i).toNatClampNeg) &&& (63 : Int32) = (29 : Int32)
      · rw [if_pos h29, if_pos b1]
        obtain ⟨r, e1, e2⟩ := q_minutes I (xs (nI i + (1 : Int32)).toNatClampNeg)
        rw [e1, bso, if_pos b1, e2, bso, if_pos rfl]
        exact next σ τ I hT
      rw [if_neg h29]
      by_cases h30 : (xs (nI i).toNatClampNeg) &&& (63 : Int32) = (30 : Int32)
      · rw [if_pos h30, if_pos b1]
        obtain ⟨r, e1, e2⟩ := q_hands I (xs (nI i + (1 : Int32)).toNatClampNeg)
        rw [e1, bso, if_pos b1, e2, bso, if_pos rfl]
        exact next σ τ I hT
      rw [if_neg h30]
      by_cases h31 : (xs (nI i).toNatClampNeg) &&& (63 : Int32) = (31 : Int32)
      · rw [if_pos h31, if_pos b1, if_pos b2]
        obtain ⟨r, σ1, σ2, e1, e2, e3⟩ := u_see I (xs (nI i + (1 : Int32)).toNatClampNeg) (xs (nI i + (2 : Int32)).toNatClampNeg)
        rw [e1, bso, if_pos b1, if_pos b2, e2, bso, if_pos rfl]
        exact next σ2 τ e3 hT
      rw [if_neg h31]
      by_cases h32 : (xs (nI i).toNatClampNeg) &&& (63 : Int32) = (32 : Int32)
      · rw [if_pos h32, if_pos b1]
        obtain ⟨r, σ1, σ2, e1, e2, e3⟩ := u_forget I (xs (nI i + (1 : Int32)).toNatClampNeg)
        rw [e1, bso, if_pos b1, e2, bso, if_pos rfl]
        exact next σ2 τ e3 hT
      rw [if_neg h32]
      by_cases h33 : (xs (nI i).toNatClampNeg) &&& (63 : Int32) = (33 : Int32)
      · rw [if_pos h33, if_pos b1]
        obtain ⟨r, σ1, τ1, σ2, e1, e2, e3, e4⟩ := u_fitsc I hT (xs (nI i + (1 : Int32)).toNatClampNeg)
        dsimp only at e2
        rw [e1, bso, if_pos b1, e2, bso, if_pos rfl]
        exact next σ2 τ1 e3 e4
      rw [if_neg h33]
      by_cases h34 : (xs (nI i).toNatClampNeg) &&& (63 : Int32) = (34 : Int32)
      · rw [if_pos h34, if_pos b1]
        obtain ⟨r, σ1, τ1, σ2, e1, e2, e3, e4⟩ := u_likely I hT (xs (nI i + (1 : Int32)).toNatClampNeg)
        dsimp only at e2
        rw [e1, bso, if_pos b1, e2, bso, if_pos (lgr r)]
        exact next σ2 τ1 e3 e4
      rw [if_neg h34]
      by_cases h35 : (xs (nI i).toNatClampNeg) &&& (63 : Int32) = (35 : Int32)
      · rw [if_pos h35, if_pos b1, if_pos b2]
        obtain ⟨r, σ1, σ2, e1, e2, e3⟩ := u_drift I (xs (nI i + (1 : Int32)).toNatClampNeg) (xs (nI i + (2 : Int32)).toNatClampNeg)
        rw [e1, bso, if_pos b1, if_pos b2, e2, bso, if_pos rfl]
        exact next σ2 τ e3 hT
      rw [if_neg h35]
      by_cases h36 : (xs (nI i).toNatClampNeg) &&& (63 : Int32) = (36 : Int32)
      · rw [if_pos h36, if_pos b1]
        obtain ⟨r, σ1, σ2, e1, e2, e3⟩ := u_keep I (xs (nI i + (1 : Int32)).toNatClampNeg)
        rw [e1, bso, if_pos b1, e2, bso, if_pos rfl]
        exact next σ2 τ e3 hT
      rw [if_neg h36]
      by_cases h37 : (xs (nI i).toNatClampNeg) &&& (63 : Int32) = (37 : Int32)
      · rw [if_pos h37, if_pos b1]
        obtain ⟨r, σ1, σ2, e1, e2, e3⟩ := u_back I (xs (nI i + (1 : Int32)).toNatClampNeg)
        rw [e1, bso, if_pos b1, e2, bso, if_pos rfl]
        exact next σ2 τ e3 hT
      rw [if_neg h37]
      by_cases h38 : (xs (nI i).toNatClampNeg) &&& (63 : Int32) = (38 : Int32)
      · rw [if_pos h38, if_pos b1, if_pos b2, if_pos b3]
        obtain ⟨r, σ1, σ2, e1, e2, e3⟩ := u_sheet I (xs (nI i + (1 : Int32)).toNatClampNeg) (xs (nI i + (2 : Int32)).toNatClampNeg) (xs (nI i + (3 : Int32)).toNatClampNeg)
        rw [e1, bso, if_pos b1, if_pos b2, if_pos b3, e2, bso, if_pos rfl]
        exact next σ2 τ e3 hT
      rw [if_neg h38]
      by_cases h39 : (xs (nI i).toNatClampNeg) &&& (63 : Int32) = (39 : Int32)
      · rw [if_pos h39, if_pos b1, if_pos b2, if_pos b3]
        obtain ⟨r, σ1, σ2, e1, e2, e3⟩ := u_layc I (xs (nI i + (1 : Int32)).toNatClampNeg) (xs (nI i + (2 : Int32)).toNatClampNeg) (xs (nI i + (3 : Int32)).toNatClampNeg)
        rw [e1, bso, if_pos b1, if_pos b2, if_pos b3, e2, bso, if_pos rfl]
        exact next σ2 τ e3 hT
      rw [if_neg h39]
      by_cases h40 : (xs (nI i).toNatClampNeg) &&& (63 : Int32) = (40 : Int32)
      · rw [if_pos h40, if_pos b1, if_pos b2, if_pos b3, if_pos b4]
        obtain ⟨r, σ1, σ2, e1, e2, e3⟩ := u_read I (xs (nI i + (1 : Int32)).toNatClampNeg) (xs (nI i + (2 : Int32)).toNatClampNeg) (xs (nI i + (3 : Int32)).toNatClampNeg) (xs (nI i + (4 : Int32)).toNatClampNeg)
        rw [e1, bso, if_pos b1, if_pos b2, if_pos b3, if_pos b4, e2, bso, if_pos rfl]
        exact next σ2 τ e3 hT
      rw [if_neg h40]
      by_cases h41 : (xs (nI i).toNatClampNeg) &&& (63 : Int32) = (41 : Int32)
      · rw [if_pos h41]
        obtain ⟨r, e1, e2⟩ := q_split I
        rw [e1, bso, e2, bso, if_pos rfl]
        exact next σ τ I hT
      rw [if_neg h41]
      by_cases h42 : (xs (nI i).toNatClampNeg) &&& (63 : Int32) = (42 : Int32)
      · rw [if_pos h42, if_pos b1]
        obtain ⟨r, e1, e2⟩ := q_count I (xs (nI i + (1 : Int32)).toNatClampNeg)
        rw [e1, bso, if_pos b1, e2, bso, if_pos rfl]
        exact next σ τ I hT
      rw [if_neg h42]
      exact next σ τ I hT
end
section
/-! the first store -/
theorem Inv_first {σ : ZI} (h2 : ∀ i, i < 13 → σ 2 i = (stL 100).getD i 0) (h61 : ∀ i, i < 18 → σ 61 i = 0) (h601 : σ 60 1 = 6) (h60 : ∀ i, i ≠ 1 → i < 47 → σ 60 i = 0) (h0 : ∀ i, i < 13 → σ 0 i = 0) (h37 : σ 37 1 = 0) (h51 : σ 51 2 = 0) (h55 : ∀ k, k < 4 → σ 55 k = 0) (h58 : ∀ i, i < 160 → σ 58 i = 0) (h78 : ∀ i, i < 160 → σ 78 i = 0) (h65 : σ 65 0 = 1) (h651 : σ 65 1 = 5) (h75 : σ 75 0 = 0) (h751 : σ 75 1 = 0) (h76 : ∀ k, k < 4 → σ 76 k = -4) (hK : InvK σ) : Inv σ := by
  refine ⟨D0, ⟨TK_ok TD_0 LK_0 (by decide), ⟨fun i hi => (h2 i hi).trans (st_d i hi), fun i hi => absurd hi (Nat.not_lt_zero i), fun i hi => absurd hi (Nat.not_lt_zero i), fun i hi => absurd hi (Nat.not_lt_zero i)⟩, ⟨fun i hi => absurd hi (Nat.not_lt_zero i), fun i hi => absurd hi (Nat.not_lt_zero i), fun i hi => absurd hi (Nat.not_lt_zero i), (h61 11 (by omega)).trans rfl, (h61 12 (by omega)).trans rfl, (h61 13 (by omega)).trans rfl, (h61 14 (by omega)).trans rfl, (h61 15 (by omega)).trans rfl, (h61 16 (by omega)).trans rfl, (h61 17 (by omega)).trans rfl⟩, ⟨h601, h60 3 (by omega) (by omega), h60 5 (by omega) (by omega), h60 7 (by omega) (by omega), h65, h651, fun i hi => absurd hi (Nat.not_lt_zero i), fun i hi => absurd hi (Nat.not_lt_zero i), fun i hi => absurd hi (Nat.not_lt_zero i)⟩⟩, ⟨0, 0, by omega, by omega, h0 3 (by omega), h75, h751, fun e => absurd e (by decide), fun e => absurd e (by decide)⟩, InvP_0 h37 (h60 23 (by omega) (by omega)), ⟨0, fun _ => 0, fun _ => 0, by omega, h51, h60 41 (by omega) (by omega), fun i hi => absurd hi (Nat.not_lt_zero i)⟩, ⟨fun k hk => .inl ⟨h55 k hk, h76 k hk⟩, fun i hi => (h78 i hi).trans (h58 i hi).symm⟩, ⟨(h60 24 (by omega) (by omega)).trans (h0 6 (by omega)).symm, (h60 46 (by omega) (by omega)).trans (h0 12 (by omega)).symm⟩, hK⟩
/-- the law holds from a first store -/
theorem law_first {xs : Nat → Int32} {L : Nat} (hL : L < 10000) {σ : ZI} {τ : ZL} (I : Inv σ) (hT : InL τ) : f_L_law_18 xs L 3000 σ τ 0 = some 1 := law_n (by omega) 2999 0 σ τ (by omega) (by omega) I hT
end
