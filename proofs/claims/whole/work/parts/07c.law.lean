def f_L_law_1514 (xs : Nat → Int32) (L : Nat) (k_18 : ZI → ZL → Int32 → Option (Int32)) (σ : ZI) (τ : ZL) (v3 : Int32) : Option (Int32) := k_18 σ τ (v3 + (5 : Int32))
def f_L_law_521 (xs : Nat → Int32) (L : Nat) (k_18 : ZI → ZL → Int32 → Option (Int32)) (σ : ZI) (τ : ZL) (v3 : Int32) (s0 : Int32) (s1 : Int32) (s3 : Int32) : Option (Int32) := (f_X8_signal σ s1 s0).bind (fun q22 => if s3 = q22.1 then (f_L_law_1514 xs L k_18 q22.2 τ v3) else (none))
def f_L_law_499 (xs : Nat → Int32) (L : Nat) (k_18 : ZI → ZL → Int32 → Option (Int32)) (σ : ZI) (τ : ZL) (v3 : Int32) (s0 : Int32) (s1 : Int32) : Option (Int32) := (f_X7_signal σ s1 s0).bind (fun q21 => if inB (v3 + (1 : Int32)) L = true then (if inB (v3 + (2 : Int32)) L = true then (if (xs (v3 + (2 : Int32)).toNatClampNeg) = 0 then (f_L_law_521 xs L k_18 q21.2 τ v3 (0 : Int32) (xs (v3 + (1 : Int32)).toNatClampNeg) q21.1) else (f_L_law_521 xs L k_18 q21.2 τ v3 (1 : Int32) (xs (v3 + (1 : Int32)).toNatClampNeg) q21.1)) else none) else none)
def f_L_law_18 (xs : Nat → Int32) (L : Nat)  : Nat → ZI → ZL → Int32 → Option (Int32)
  | 0, _, _, _ => none
  | n + 1, σ, τ, v3 => if ((nI L) - (5 : Int32)) < v3 then (some (1 : Int32)) else (if inB v3 L = true then (if ((xs v3.toNatClampNeg) &&& (63 : Int32)) = (0 : Int32) then (if inB (v3 + (1 : Int32)) L = true then ((f_X7_feed σ (xs (v3 + (1 : Int32)).toNatClampNeg)).bind (fun q1 => if inB (v3 + (1 : Int32)) L = true then ((f_X8_feed q1.2 (xs (v3 + (1 : Int32)).toNatClampNeg)).bind (fun q2 => if q1.1 = q2.1 then (f_L_law_1514 xs L (fun σ τ v3 => f_L_law_18 xs L n σ τ v3) q2.2 τ v3) else (none))) else none)) else none) else (if ((xs v3.toNatClampNeg) &&& (63 : Int32)) = (1 : Int32) then (if inB (v3 + (1 : Int32)) L = true then ((f_X7_end σ (xs (v3 + (1 : Int32)).toNatClampNeg)).bind (fun q3 => if inB (v3 + (1 : Int32)) L = true then ((f_X8_end q3.2 (xs (v3 + (1 : Int32)).toNatClampNeg)).bind (fun q4 => if q3.1 = q4.1 then (f_L_law_1514 xs L (fun σ τ v3 => f_L_law_18 xs L n σ τ v3) q4.2 τ v3) else (none))) else none)) else none) else (if ((xs v3.toNatClampNeg) &&& (63 : Int32)) = (2 : Int32) then ((f_X7_text σ).bind (fun q5 => (f_X8_text q5.2).bind (fun q6 => if q5.1 = q6.1 then (f_L_law_1514 xs L (fun σ τ v3 => f_L_law_18 xs L n σ τ v3) q6.2 τ v3) else (none)))) else (if ((xs v3.toNatClampNeg) &&& (63 : Int32)) = (3 : Int32) then ((f_X7_fault σ).bind (fun q7 => (f_X8_fault σ).bind (fun q8 => if q7 = q8 then (f_L_law_1514 xs L (fun σ τ v3 => f_L_law_18 xs L n σ τ v3) σ τ v3) else (none)))) else (if ((xs v3.toNatClampNeg) &&& (63 : Int32)) = (4 : Int32) then (if inB (v3 + (1 : Int32)) L = true then ((f_X7_rule σ (xs (v3 + (1 : Int32)).toNatClampNeg)).bind (fun q9 => if inB (v3 + (1 : Int32)) L = true then ((f_X8_rule σ (xs (v3 + (1 : Int32)).toNatClampNeg)).bind (fun q10 => if q9 = q10 then (f_L_law_1514 xs L (fun σ τ v3 => f_L_law_18 xs L n σ τ v3) σ τ v3) else (none))) else none)) else none) else (if ((xs v3.toNatClampNeg) &&& (63 : Int32)) = (5 : Int32) then (if inB (v3 + (1 : Int32)) L = true then (if inB (v3 + (2 : Int32)) L = true then ((f_X7_arm σ (xs (v3 + (1 : Int32)).toNatClampNeg) (xs (v3 + (2 : Int32)).toNatClampNeg)).bind (fun q11 => if inB (v3 + (1 : Int32)) L = true then (if inB (v3 + (2 : Int32)) L = true then ((f_X8_arm σ (xs (v3 + (1 : Int32)).toNatClampNeg) (xs (v3 + (2 : Int32)).toNatClampNeg)).bind (fun q12 => if q11 = q12 then (f_L_law_1514 xs L (fun σ τ v3 => f_L_law_18 xs L n σ τ v3) σ τ v3) else (none))) else none) else none)) else none) else none) else (if ((xs v3.toNatClampNeg) &&& (63 : Int32)) = (6 : Int32) then (if inB (v3 + (1 : Int32)) L = true then (if inB (v3 + (2 : Int32)) L = true then ((f_X7_mark σ (xs (v3 + (1 : Int32)).toNatClampNeg) (xs (v3 + (2 : Int32)).toNatClampNeg)).bind (fun q13 => if inB (v3 + (1 : Int32)) L = true then (if inB (v3 + (2 : Int32)) L = true then ((f_X8_mark σ (xs (v3 + (1 : Int32)).toNatClampNeg) (xs (v3 + (2 : Int32)).toNatClampNeg)).bind (fun q14 => if q13 = q14 then (f_L_law_1514 xs L (fun σ τ v3 => f_L_law_18 xs L n σ τ v3) σ τ v3) else (none))) else none) else none)) else none) else none) else (if ((xs v3.toNatClampNeg) &&& (63 : Int32)) = (7 : Int32) then (if inB (v3 + (1 : Int32)) L = true then (if inB (v3 + (2 : Int32)) L = true then ((f_X7_town σ (xs (v3 + (1 : Int32)).toNatClampNeg) (xs (v3 + (2 : Int32)).toNatClampNeg)).bind (fun q15 => if inB (v3 + (1 : Int32)) L = true then (if inB (v3 + (2 : Int32)) L = true then ((f_X8_town σ (xs (v3 + (1 : Int32)).toNatClampNeg) (xs (v3 + (2 : Int32)).toNatClampNeg)).bind (fun q16 => if q15 = q16 then (f_L_law_1514 xs L (fun σ τ v3 => f_L_law_18 xs L n σ τ v3) σ τ v3) else (none))) else none) else none)) else none) else none) else (if ((xs v3.toNatClampNeg) &&& (63 : Int32)) = (8 : Int32) then (if inB (v3 + (1 : Int32)) L = true then (if inB (v3 + (2 : Int32)) L = true then ((f_X7_set σ (xs (v3 + (1 : Int32)).toNatClampNeg) (xs (v3 + (2 : Int32)).toNatClampNeg)).bind (fun q17 => if inB (v3 + (1 : Int32)) L = true then (if inB (v3 + (2 : Int32)) L = true then ((f_X8_set q17.2 (xs (v3 + (1 : Int32)).toNatClampNeg) (xs (v3 + (2 : Int32)).toNatClampNeg)).bind (fun q18 => if q17.1 = q18.1 then (f_L_law_1514 xs L (fun σ τ v3 => f_L_law_18 xs L n σ τ v3) q18.2 τ v3) else (none))) else none) else none)) else none) else none) else (if ((xs v3.toNatClampNeg) &&& (63 : Int32)) = (9 : Int32) then (if inB (v3 + (1 : Int32)) L = true then (if inB (v3 + (2 : Int32)) L = true then ((f_X7_net σ (xs (v3 + (1 : Int32)).toNatClampNeg) (xs (v3 + (2 : Int32)).toNatClampNeg)).bind (fun q19 => if inB (v3 + (1 : Int32)) L = true then (if inB (v3 + (2 : Int32)) L = true then ((f_X8_net q19.2 (xs (v3 + (1 : Int32)).toNatClampNeg) (xs (v3 + (2 : Int32)).toNatClampNeg)).bind (fun q20 => if q19.1 = q20.1 then (f_L_law_1514 xs L (fun σ τ v3 => f_L_law_18 xs L n σ τ v3) q20.2 τ v3) else (none))) else none) else none)) else none) else none) else (if ((xs v3.toNatClampNeg) &&& (63 : Int32)) = (10 : Int32) then (if inB (v3 + (1 : Int32)) L = true then (if inB (v3 + (2 : Int32)) L = true then (if (xs (v3 + (2 : Int32)).toNatClampNeg) = 0 then (f_L_law_499 xs L (fun σ τ v3 => f_L_law_18 xs L n σ τ v3) σ τ v3 (0 : Int32) (xs (v3 + (1 : Int32)).toNatClampNeg)) else (f_L_law_499 xs L (fun σ τ v3 => f_L_law_18 xs L n σ τ v3) σ τ v3 (1 : Int32) (xs (v3 + (1 : Int32)).toNatClampNeg))) else none) else none) else (if ((xs v3.toNatClampNeg) &&& (63 : Int32)) = (11 : Int32) then (if inB (v3 + (1 : Int32)) L = true then ((f_X7_bridge σ (xs (v3 + (1 : Int32)).toNatClampNeg)).bind (fun q23 => if inB (v3 + (1 : Int32)) L = true then ((f_X8_bridge q23.2 (xs (v3 + (1 : Int32)).toNatClampNeg)).bind (fun q24 => if q23.1 = q24.1 then (f_L_law_1514 xs L (fun σ τ v3 => f_L_law_18 xs L n σ τ v3) q24.2 τ v3) else (none))) else none)) else none) else (if ((xs v3.toNatClampNeg) &&& (63 : Int32)) = (12 : Int32) then (if inB (v3 + (1 : Int32)) L = true then (if inB (v3 + (2 : Int32)) L = true then ((f_X7_clear σ (xs (v3 + (1 : Int32)).toNatClampNeg) (xs (v3 + (2 : Int32)).toNatClampNeg)).bind (fun q25 => if inB (v3 + (1 : Int32)) L = true then (if inB (v3 + (2 : Int32)) L = true then ((f_X8_clear q25.2 (xs (v3 + (1 : Int32)).toNatClampNeg) (xs (v3 + (2 : Int32)).toNatClampNeg)).bind (fun q26 => if q25.1 = q26.1 then (f_L_law_1514 xs L (fun σ τ v3 => f_L_law_18 xs L n σ τ v3) q26.2 τ v3) else (none))) else none) else none)) else none) else none) else (if ((xs v3.toNatClampNeg) &&& (63 : Int32)) = (13 : Int32) then (if inB (v3 + (1 : Int32)) L = true then (if inB (v3 + (2 : Int32)) L = true then ((f_X7_hang σ (xs (v3 + (1 : Int32)).toNatClampNeg) (xs (v3 + (2 : Int32)).toNatClampNeg)).bind (fun q27 => if inB (v3 + (1 : Int32)) L = true then (if inB (v3 + (2 : Int32)) L = true then ((f_X8_hang q27.2 (xs (v3 + (1 : Int32)).toNatClampNeg) (xs (v3 + (2 : Int32)).toNatClampNeg)).bind (fun q28 => if q27.1 = q28.1 then (f_L_law_1514 xs L (fun σ τ v3 => f_L_law_18 xs L n σ τ v3) q28.2 τ v3) else (none))) else none) else none)) else none) else none) else (if ((xs v3.toNatClampNeg) &&& (63 : Int32)) = (14 : Int32) then (if inB (v3 + (1 : Int32)) L = true then (if inB (v3 + (2 : Int32)) L = true then ((f_X7_post σ (xs (v3 + (1 : Int32)).toNatClampNeg) (xs (v3 + (2 : Int32)).toNatClampNeg)).bind (fun q29 => if inB (v3 + (1 : Int32)) L = true then (if inB (v3 + (2 : Int32)) L = true then ((f_X8_post q29.2 (xs (v3 + (1 : Int32)).toNatClampNeg) (xs (v3 + (2 : Int32)).toNatClampNeg)).bind (fun q30 => if q29.1 = q30.1 then (f_L_law_1514 xs L (fun σ τ v3 => f_L_law_18 xs L n σ τ v3) q30.2 τ v3) else (none))) else none) else none)) else none) else none) else (if ((xs v3.toNatClampNeg) &&& (63 : Int32)) = (15 : Int32) then (if inB (v3 + (1 : Int32)) L = true then (if inB (v3 + (2 : Int32)) L = true then (if inB (v3 + (3 : Int32)) L = true then ((f_X7_night σ (xs (v3 + (1 : Int32)).toNatClampNeg) (xs (v3 + (2 : Int32)).toNatClampNeg) (xs (v3 + (3 : Int32)).toNatClampNeg)).bind (fun q31 => if inB (v3 + (1 : Int32)) L = true then (if inB (v3 + (2 : Int32)) L = true then (if inB (v3 + (3 : Int32)) L = true then ((f_X8_night q31.2 (xs (v3 + (1 : Int32)).toNatClampNeg) (xs (v3 + (2 : Int32)).toNatClampNeg) (xs (v3 + (3 : Int32)).toNatClampNeg)).bind (fun q32 => if q31.1 = q32.1 then (f_L_law_1514 xs L (fun σ τ v3 => f_L_law_18 xs L n σ τ v3) q32.2 τ v3) else (none))) else none) else none) else none)) else none) else none) else none) else (if ((xs v3.toNatClampNeg) &&& (63 : Int32)) = (16 : Int32) then (if inB (v3 + (1 : Int32)) L = true then (if inB (v3 + (2 : Int32)) L = true then (if inB (v3 + (3 : Int32)) L = true then ((f_X7_counts σ (xs (v3 + (1 : Int32)).toNatClampNeg) (xs (v3 + (2 : Int32)).toNatClampNeg) (xs (v3 + (3 : Int32)).toNatClampNeg)).bind (fun q33 => if inB (v3 + (1 : Int32)) L = true then (if inB (v3 + (2 : Int32)) L = true then (if inB (v3 + (3 : Int32)) L = true then ((f_X8_counts σ (xs (v3 + (1 : Int32)).toNatClampNeg) (xs (v3 + (2 : Int32)).toNatClampNeg) (xs (v3 + (3 : Int32)).toNatClampNeg)).bind (fun q34 => if q33 = q34.1 then (f_L_law_1514 xs L (fun σ τ v3 => f_L_law_18 xs L n σ τ v3) q34.2 τ v3) else (none))) else none) else none) else none)) else none) else none) else none) else (if ((xs v3.toNatClampNeg) &&& (63 : Int32)) = (17 : Int32) then (if inB (v3 + (1 : Int32)) L = true then (if inB (v3 + (2 : Int32)) L = true then (if inB (v3 + (3 : Int32)) L = true then ((f_X7_where σ τ (xs (v3 + (1 : Int32)).toNatClampNeg) (xs (v3 + (2 : Int32)).toNatClampNeg) (xs (v3 + (3 : Int32)).toNatClampNeg)).bind (fun q35 => if inB (v3 + (1 : Int32)) L = true then (if inB (v3 + (2 : Int32)) L = true then (if inB (v3 + (3 : Int32)) L = true then ((f_X8_where q35.2.1 (xs (v3 + (1 : Int32)).toNatClampNeg) (xs (v3 + (2 : Int32)).toNatClampNeg) (xs (v3 + (3 : Int32)).toNatClampNeg)).bind (fun q36 => if (lg_cmp q35.1 q36.1) = 0 then (f_L_law_1514 xs L (fun σ τ v3 => f_L_law_18 xs L n σ τ v3) q36.2 q35.2.2 v3) else (none))) else none) else none) else none)) else none) else none) else none) else (if ((xs v3.toNatClampNeg) &&& (63 : Int32)) = (18 : Int32) then (if inB (v3 + (1 : Int32)) L = true then (if inB (v3 + (2 : Int32)) L = true then ((f_X7_goes σ τ (xs (v3 + (1 : Int32)).toNatClampNeg) (xs (v3 + (2 : Int32)).toNatClampNeg)).bind (fun q37 => if inB (v3 + (1 : Int32)) L = true then (if inB (v3 + (2 : Int32)) L = true then ((f_X8_goes q37.2.1 (xs (v3 + (1 : Int32)).toNatClampNeg) (xs (v3 + (2 : Int32)).toNatClampNeg)).bind (fun q38 => if (lg_cmp q37.1 q38.1) = 0 then (f_L_law_1514 xs L (fun σ τ v3 => f_L_law_18 xs L n σ τ v3) q38.2 q37.2.2 v3) else (none))) else none) else none)) else none) else none) else (if ((xs v3.toNatClampNeg) &&& (63 : Int32)) = (19 : Int32) then (if inB (v3 + (1 : Int32)) L = true then (if inB (v3 + (2 : Int32)) L = true then ((f_X7_isOut σ τ (xs (v3 + (1 : Int32)).toNatClampNeg) (xs (v3 + (2 : Int32)).toNatClampNeg)).bind (fun q39 => if inB (v3 + (1 : Int32)) L = true then (if inB (v3 + (2 : Int32)) L = true then ((f_X8_isOut q39.2.1 (xs (v3 + (1 : Int32)).toNatClampNeg) (xs (v3 + (2 : Int32)).toNatClampNeg)).bind (fun q40 => if (lg_cmp q39.1 q40.1) = 0 then (f_L_law_1514 xs L (fun σ τ v3 => f_L_law_18 xs L n σ τ v3) q40.2 q39.2.2 v3) else (none))) else none) else none)) else none) else none) else (if ((xs v3.toNatClampNeg) &&& (63 : Int32)) = (20 : Int32) then (if inB (v3 + (1 : Int32)) L = true then (if inB (v3 + (2 : Int32)) L = true then ((f_X7_had σ τ (xs (v3 + (1 : Int32)).toNatClampNeg) (xs (v3 + (2 : Int32)).toNatClampNeg)).bind (fun q41 => if inB (v3 + (1 : Int32)) L = true then (if inB (v3 + (2 : Int32)) L = true then ((f_X8_had q41.2.1 (xs (v3 + (1 : Int32)).toNatClampNeg) (xs (v3 + (2 : Int32)).toNatClampNeg)).bind (fun q42 => if (lg_cmp q41.1 q42.1) = 0 then (f_L_law_1514 xs L (fun σ τ v3 => f_L_law_18 xs L n σ τ v3) q42.2 q41.2.2 v3) else (none))) else none) else none)) else none) else none) else (if ((xs v3.toNatClampNeg) &&& (63 : Int32)) = (21 : Int32) then (if inB (v3 + (1 : Int32)) L = true then ((f_X7_hits σ τ (xs (v3 + (1 : Int32)).toNatClampNeg)).bind (fun q43 => if inB (v3 + (1 : Int32)) L = true then ((f_X8_hits q43.2.1 (xs (v3 + (1 : Int32)).toNatClampNeg)).bind (fun q44 => if (lg_cmp q43.1 q44.1) = 0 then (f_L_law_1514 xs L (fun σ τ v3 => f_L_law_18 xs L n σ τ v3) q44.2 q43.2.2 v3) else (none))) else none)) else none) else (if ((xs v3.toNatClampNeg) &&& (63 : Int32)) = (22 : Int32) then (if inB (v3 + (1 : Int32)) L = true then ((f_X7_torn σ τ (xs (v3 + (1 : Int32)).toNatClampNeg)).bind (fun q45 => if inB (v3 + (1 : Int32)) L = true then ((f_X8_torn q45.2.1 (xs (v3 + (1 : Int32)).toNatClampNeg)).bind (fun q46 => if (lg_cmp q45.1 q46.1) = 0 then (f_L_law_1514 xs L (fun σ τ v3 => f_L_law_18 xs L n σ τ v3) q46.2 q45.2.2 v3) else (none))) else none)) else none) else (if ((xs v3.toNatClampNeg) &&& (63 : Int32)) = (23 : Int32) then (if inB (v3 + (1 : Int32)) L = true then ((f_X7_worth σ τ (xs (v3 + (1 : Int32)).toNatClampNeg)).bind (fun q47 => if inB (v3 + (1 : Int32)) L = true then ((f_X8_worth q47.2.1 (xs (v3 + (1 : Int32)).toNatClampNeg)).bind (fun q48 => if (lg_cmp q47.1 q48.1) = 0 then (f_L_law_1514 xs L (fun σ τ v3 => f_L_law_18 xs L n σ τ v3) q48.2 q47.2.2 v3) else (none))) else none)) else none) else (if ((xs v3.toNatClampNeg) &&& (63 : Int32)) = (24 : Int32) then (if inB (v3 + (1 : Int32)) L = true then ((f_X7_best σ τ (xs (v3 + (1 : Int32)).toNatClampNeg)).bind (fun q49 => if inB (v3 + (1 : Int32)) L = true then ((f_X8_best q49.2.1 (xs (v3 + (1 : Int32)).toNatClampNeg)).bind (fun q50 => if (lg_cmp q49.1 q50.1) = 0 then (f_L_law_1514 xs L (fun σ τ v3 => f_L_law_18 xs L n σ τ v3) q50.2 q49.2.2 v3) else (none))) else none)) else none) else (if ((xs v3.toNatClampNeg) &&& (63 : Int32)) = (25 : Int32) then (if inB (v3 + (1 : Int32)) L = true then (if inB (v3 + (2 : Int32)) L = true then ((f_X7_fog σ τ (xs (v3 + (1 : Int32)).toNatClampNeg) (xs (v3 + (2 : Int32)).toNatClampNeg)).bind (fun q51 => if inB (v3 + (1 : Int32)) L = true then (if inB (v3 + (2 : Int32)) L = true then ((f_X8_fog q51.2.1 (xs (v3 + (1 : Int32)).toNatClampNeg) (xs (v3 + (2 : Int32)).toNatClampNeg)).bind (fun q52 => if q51.1 = q52.1 then (f_L_law_1514 xs L (fun σ τ v3 => f_L_law_18 xs L n σ τ v3) q52.2 q51.2.2 v3) else (none))) else none) else none)) else none) else none) else (if ((xs v3.toNatClampNeg) &&& (63 : Int32)) = (26 : Int32) then (if inB (v3 + (1 : Int32)) L = true then (if inB (v3 + (2 : Int32)) L = true then ((f_X7_fast σ τ (xs (v3 + (1 : Int32)).toNatClampNeg) (xs (v3 + (2 : Int32)).toNatClampNeg)).bind (fun q53 => if inB (v3 + (1 : Int32)) L = true then (if inB (v3 + (2 : Int32)) L = true then ((f_X8_fast q53.2.1 (xs (v3 + (1 : Int32)).toNatClampNeg) (xs (v3 + (2 : Int32)).toNatClampNeg)).bind (fun q54 => if q53.1 = q54.1 then (f_L_law_1514 xs L (fun σ τ v3 => f_L_law_18 xs L n σ τ v3) q54.2 q53.2.2 v3) else (none))) else none) else none)) else none) else none) else (if ((xs v3.toNatClampNeg) &&& (63 : Int32)) = (27 : Int32) then (if inB (v3 + (1 : Int32)) L = true then (if inB (v3 + (2 : Int32)) L = true then ((f_X7_slack σ τ (xs (v3 + (1 : Int32)).toNatClampNeg) (xs (v3 + (2 : Int32)).toNatClampNeg)).bind (fun q55 => if inB (v3 + (1 : Int32)) L = true then (if inB (v3 + (2 : Int32)) L = true then ((f_X8_slack q55.2.1 (xs (v3 + (1 : Int32)).toNatClampNeg) (xs (v3 + (2 : Int32)).toNatClampNeg)).bind (fun q56 => if q55.1 = q56.1 then (f_L_law_1514 xs L (fun σ τ v3 => f_L_law_18 xs L n σ τ v3) q56.2 q55.2.2 v3) else (none))) else none) else none)) else none) else none) else (if ((xs v3.toNatClampNeg) &&& (63 : Int32)) = (28 : Int32) then (if inB (v3 + (1 : Int32)) L = true then (if inB (v3 + (2 : Int32)) L = true then ((f_X7_sort σ (xs (v3 + (1 : Int32)).toNatClampNeg) (xs (v3 + (2 : Int32)).toNatClampNeg)).bind (fun q57 => if inB (v3 + (1 : Int32)) L = true then (if inB (v3 + (2 : Int32)) L = true then ((f_X8_sort σ (xs (v3 + (1 : Int32)).toNatClampNeg) (xs (v3 + (2 : Int32)).toNatClampNeg)).bind (fun q58 => if q57 = q58 then (f_L_law_1514 xs L (fun σ τ v3 => f_L_law_18 xs L n σ τ v3) σ τ v3) else (none))) else none) else none)) else none) else none) else (if ((xs v3.toNatClampNeg) &&& (63 : Int32)) = (29 : Int32) then (if inB (v3 + (1 : Int32)) L = true then ((f_X7_minutes σ (xs (v3 + (1 : Int32)).toNatClampNeg)).bind (fun q59 => if inB (v3 + (1 : Int32)) L = true then ((f_X8_minutes σ (xs (v3 + (1 : Int32)).toNatClampNeg)).bind (fun q60 => if q59 = q60 then (f_L_law_1514 xs L (fun σ τ v3 => f_L_law_18 xs L n σ τ v3) σ τ v3) else (none))) else none)) else none) else (if ((xs v3.toNatClampNeg) &&& (63 : Int32)) = (30 : Int32) then (if inB (v3 + (1 : Int32)) L = true then ((f_X7_hands σ (xs (v3 + (1 : Int32)).toNatClampNeg)).bind (fun q61 => if inB (v3 + (1 : Int32)) L = true then ((f_X8_hands σ (xs (v3 + (1 : Int32)).toNatClampNeg)).bind (fun q62 => if q61 = q62 then (f_L_law_1514 xs L (fun σ τ v3 => f_L_law_18 xs L n σ τ v3) σ τ v3) else (none))) else none)) else none) else (if ((xs v3.toNatClampNeg) &&& (63 : Int32)) = (31 : Int32) then (if inB (v3 + (1 : Int32)) L = true then (if inB (v3 + (2 : Int32)) L = true then ((f_X7_see σ (xs (v3 + (1 : Int32)).toNatClampNeg) (xs (v3 + (2 : Int32)).toNatClampNeg)).bind (fun q63 => if inB (v3 + (1 : Int32)) L = true then (if inB (v3 + (2 : Int32)) L = true then ((f_X8_see q63.2 (xs (v3 + (1 : Int32)).toNatClampNeg) (xs (v3 + (2 : Int32)).toNatClampNeg)).bind (fun q64 => if q63.1 = q64.1 then (f_L_law_1514 xs L (fun σ τ v3 => f_L_law_18 xs L n σ τ v3) q64.2 τ v3) else (none))) else none) else none)) else none) else none) else (if ((xs v3.toNatClampNeg) &&& (63 : Int32)) = (32 : Int32) then (if inB (v3 + (1 : Int32)) L = true then ((f_X7_forget σ (xs (v3 + (1 : Int32)).toNatClampNeg)).bind (fun q65 => if inB (v3 + (1 : Int32)) L = true then ((f_X8_forget q65.2 (xs (v3 + (1 : Int32)).toNatClampNeg)).bind (fun q66 => if q65.1 = q66.1 then (f_L_law_1514 xs L (fun σ τ v3 => f_L_law_18 xs L n σ τ v3) q66.2 τ v3) else (none))) else none)) else none) else (if ((xs v3.toNatClampNeg) &&& (63 : Int32)) = (33 : Int32) then (if inB (v3 + (1 : Int32)) L = true then ((f_X7_fits σ τ (xs (v3 + (1 : Int32)).toNatClampNeg)).bind (fun q67 => if inB (v3 + (1 : Int32)) L = true then ((f_X8_fits q67.2.1 (xs (v3 + (1 : Int32)).toNatClampNeg)).bind (fun q68 => if q67.1 = q68.1 then (f_L_law_1514 xs L (fun σ τ v3 => f_L_law_18 xs L n σ τ v3) q68.2 q67.2.2 v3) else (none))) else none)) else none) else (if ((xs v3.toNatClampNeg) &&& (63 : Int32)) = (34 : Int32) then (if inB (v3 + (1 : Int32)) L = true then ((f_X7_likely σ τ (xs (v3 + (1 : Int32)).toNatClampNeg)).bind (fun q69 => if inB (v3 + (1 : Int32)) L = true then ((f_X8_likely q69.2.1 (xs (v3 + (1 : Int32)).toNatClampNeg)).bind (fun q70 => if (lg_cmp q69.1 q70.1) = 0 then (f_L_law_1514 xs L (fun σ τ v3 => f_L_law_18 xs L n σ τ v3) q70.2 q69.2.2 v3) else (none))) else none)) else none) else (if ((xs v3.toNatClampNeg) &&& (63 : Int32)) = (35 : Int32) then (if inB (v3 + (1 : Int32)) L = true then (if inB (v3 + (2 : Int32)) L = true then ((f_X7_drift σ (xs (v3 + (1 : Int32)).toNatClampNeg) (xs (v3 + (2 : Int32)).toNatClampNeg)).bind (fun q71 => if inB (v3 + (1 : Int32)) L = true then (if inB (v3 + (2 : Int32)) L = true then ((f_X8_drift q71.2 (xs (v3 + (1 : Int32)).toNatClampNeg) (xs (v3 + (2 : Int32)).toNatClampNeg)).bind (fun q72 => if q71.1 = q72.1 then (f_L_law_1514 xs L (fun σ τ v3 => f_L_law_18 xs L n σ τ v3) q72.2 τ v3) else (none))) else none) else none)) else none) else none) else (if ((xs v3.toNatClampNeg) &&& (63 : Int32)) = (36 : Int32) then (if inB (v3 + (1 : Int32)) L = true then ((f_X7_keep σ (xs (v3 + (1 : Int32)).toNatClampNeg)).bind (fun q73 => if inB (v3 + (1 : Int32)) L = true then ((f_X8_keep q73.2 (xs (v3 + (1 : Int32)).toNatClampNeg)).bind (fun q74 => if q73.1 = q74.1 then (f_L_law_1514 xs L (fun σ τ v3 => f_L_law_18 xs L n σ τ v3) q74.2 τ v3) else (none))) else none)) else none) else (if ((xs v3.toNatClampNeg) &&& (63 : Int32)) = (37 : Int32) then (if inB (v3 + (1 : Int32)) L = true then ((f_X7_back σ (xs (v3 + (1 : Int32)).toNatClampNeg)).bind (fun q75 => if inB (v3 + (1 : Int32)) L = true then ((f_X8_back q75.2 (xs (v3 + (1 : Int32)).toNatClampNeg)).bind (fun q76 => if q75.1 = q76.1 then (f_L_law_1514 xs L (fun σ τ v3 => f_L_law_18 xs L n σ τ v3) q76.2 τ v3) else (none))) else none)) else none) else (if ((xs v3.toNatClampNeg) &&& (63 : Int32)) = (38 : Int32) then (if inB (v3 + (1 : Int32)) L = true then (if inB (v3 + (2 : Int32)) L = true then (if inB (v3 + (3 : Int32)) L = true then ((f_X7_sheet σ (xs (v3 + (1 : Int32)).toNatClampNeg) (xs (v3 + (2 : Int32)).toNatClampNeg) (xs (v3 + (3 : Int32)).toNatClampNeg)).bind (fun q77 => if inB (v3 + (1 : Int32)) L = true then (if inB (v3 + (2 : Int32)) L = true then (if inB (v3 + (3 : Int32)) L = true then ((f_X8_sheet q77.2 (xs (v3 + (1 : Int32)).toNatClampNeg) (xs (v3 + (2 : Int32)).toNatClampNeg) (xs (v3 + (3 : Int32)).toNatClampNeg)).bind (fun q78 => if q77.1 = q78.1 then (f_L_law_1514 xs L (fun σ τ v3 => f_L_law_18 xs L n σ τ v3) q78.2 τ v3) else (none))) else none) else none) else none)) else none) else none) else none) else (if ((xs v3.toNatClampNeg) &&& (63 : Int32)) = (39 : Int32) then (if inB (v3 + (1 : Int32)) L = true then (if inB (v3 + (2 : Int32)) L = true then (if inB (v3 + (3 : Int32)) L = true then ((f_X7_lay σ (xs (v3 + (1 : Int32)).toNatClampNeg) (xs (v3 + (2 : Int32)).toNatClampNeg) (xs (v3 + (3 : Int32)).toNatClampNeg)).bind (fun q79 => if inB (v3 + (1 : Int32)) L = true then (if inB (v3 + (2 : Int32)) L = true then (if inB (v3 + (3 : Int32)) L = true then ((f_X8_lay q79.2 (xs (v3 + (1 : Int32)).toNatClampNeg) (xs (v3 + (2 : Int32)).toNatClampNeg) (xs (v3 + (3 : Int32)).toNatClampNeg)).bind (fun q80 => if q79.1 = q80.1 then (f_L_law_1514 xs L (fun σ τ v3 => f_L_law_18 xs L n σ τ v3) q80.2 τ v3) else (none))) else none) else none) else none)) else none) else none) else none) else (if ((xs v3.toNatClampNeg) &&& (63 : Int32)) = (40 : Int32) then (if inB (v3 + (1 : Int32)) L = true then (if inB (v3 + (2 : Int32)) L = true then (if inB (v3 + (3 : Int32)) L = true then (if inB (v3 + (4 : Int32)) L = true then ((f_X7_read σ (xs (v3 + (1 : Int32)).toNatClampNeg) (xs (v3 + (2 : Int32)).toNatClampNeg) (xs (v3 + (3 : Int32)).toNatClampNeg) (xs (v3 + (4 : Int32)).toNatClampNeg)).bind (fun q81 => if inB (v3 + (1 : Int32)) L = true then (if inB (v3 + (2 : Int32)) L = true then (if inB (v3 + (3 : Int32)) L = true then (if inB (v3 + (4 : Int32)) L = true then ((f_X8_read q81.2 (xs (v3 + (1 : Int32)).toNatClampNeg) (xs (v3 + (2 : Int32)).toNatClampNeg) (xs (v3 + (3 : Int32)).toNatClampNeg) (xs (v3 + (4 : Int32)).toNatClampNeg)).bind (fun q82 => if q81.1 = q82.1 then (f_L_law_1514 xs L (fun σ τ v3 => f_L_law_18 xs L n σ τ v3) q82.2 τ v3) else (none))) else none) else none) else none) else none)) else none) else none) else none) else none) else (if ((xs v3.toNatClampNeg) &&& (63 : Int32)) = (41 : Int32) then ((f_X7_split σ).bind (fun q83 => (f_X8_split σ).bind (fun q84 => if q83 = q84 then (f_L_law_1514 xs L (fun σ τ v3 => f_L_law_18 xs L n σ τ v3) σ τ v3) else (none)))) else (if ((xs v3.toNatClampNeg) &&& (63 : Int32)) = (42 : Int32) then (if inB (v3 + (1 : Int32)) L = true then ((f_X7_count σ (xs (v3 + (1 : Int32)).toNatClampNeg)).bind (fun q85 => if inB (v3 + (1 : Int32)) L = true then ((f_X8_count σ (xs (v3 + (1 : Int32)).toNatClampNeg)).bind (fun q86 => if q85 = q86 then (f_L_law_1514 xs L (fun σ τ v3 => f_L_law_18 xs L n σ τ v3) σ τ v3) else (none))) else none)) else none) else (f_L_law_1514 xs L (fun σ τ v3 => f_L_law_18 xs L n σ τ v3) σ τ v3)))))))))))))))))))))))))))))))))))))))))))) else none)
set_option maxHeartbeats 4000000 in
set_option maxRecDepth 100000 in
theorem c_L_law {p : Program} {e : Env} {s : State} {m : MethodId} {below : List Frame} {meth : Method} {c : Code} (l : Launch) {g : GG} {b L : Nat} {xs : Nat → Int32} (hr0 : meth.sig.returnType = ret) (hk0 : meth.locks = false) (F : CallFix p m c code 4 s #[Value.ref b] TBL RL) (G : AK g s) (hX : va_X b L xs s s.heap) (hbl : b < s.heap.size) (hgb : gB g = s.heap.size) : ∀ (n : Nat) (σ : ZI) (τ : ZL) (v3 : Int32), f_L_law_18 xs L n σ τ v3 = some 1 → ∀ (H : Heap) (locs : List Loc) (ls : Array Slot), WS g σ τ s H locs → lv_has ls 4 [(0, .ref b), (1, .ref (gA g 0)), (2, .ref (gA g 60)), (3, .int v3)] → W p l e room_1 s m #[Value.ref b] below meth c H locs 79 1296 (lw_Z below #[Value.ref b] s) (F0 m 18 ls []) := by
  have hbA : ¬ AA g b := by show ¬ gB g ≤ b; omega
  obtain ⟨res, hres⟩ : ∃ z : Int32, z = 1 := ⟨_, rfl⟩
  rw [← hres]
  have w_1514 : ∀ (k_18 : ZI → ZL → Int32 → Option (Int32)) (hk_18 : ∀ (σ : ZI) (τ : ZL) (v3 : Int32), k_18 σ τ v3 = some res → ∀ (H : Heap) (locs : List Loc) (ls : Array Slot), WS g σ τ s H locs → lv_has ls 4 [(0, .ref b), (1, .ref (gA g 0)), (2, .ref (gA g 60)), (3, .int v3)] → W p l e room_1 s m #[Value.ref b] below meth c H locs 79 1296 (lw_Z below #[Value.ref b] s) (F0 m 18 ls [])) (σ : ZI) (τ : ZL) (v3 : Int32), f_L_law_1514 xs L k_18 σ τ v3 = some res → ∀ (H : Heap) (locs : List Loc) (ls : Array Slot), WS g σ τ s H locs → lv_has ls 4 [(0, .ref b), (1, .ref (gA g 0)), (2, .ref (gA g 60)), (3, .int v3)] → W p l e room_1 s m #[Value.ref b] below meth c H locs 79 1296 (lw_Z below #[Value.ref b] s) (F0 m 1514 ls []) := by
    intro k_18 hk_18 σ τ v3 h H locs ls hS hl
    rw [f_L_law_1514] at h
    refine lv_iinc (v := (v3 + (5 : Int32))) (lv' := [(3, .int (v3 + (5 : Int32))), (0, .ref b), (1, .ref (gA g 0)), (2, .ref (gA g 60))]) F.1 F.2.1 dL_law_1514 hl (k := 3) rfl rfl (by decide) rfl (fun ls hl => ?_)
    refine lv_goto (tgt := 18) F.1 F.2.1 dL_law_1517 (by decide) ?_
    exact hk_18 σ τ (v3 + (5 : Int32)) h H locs _ hS (lv_sub hl [1, 2, 3, 0] rfl)
  have w_521 : ∀ (k_18 : ZI → ZL → Int32 → Option (Int32)) (hk_18 : ∀ (σ : ZI) (τ : ZL) (v3 : Int32), k_18 σ τ v3 = some res → ∀ (H : Heap) (locs : List Loc) (ls : Array Slot), WS g σ τ s H locs → lv_has ls 4 [(0, .ref b), (1, .ref (gA g 0)), (2, .ref (gA g 60)), (3, .int v3)] → W p l e room_1 s m #[Value.ref b] below meth c H locs 79 1296 (lw_Z below #[Value.ref b] s) (F0 m 18 ls [])) (σ : ZI) (τ : ZL) (v3 : Int32) (s0 : Int32) (s1 : Int32) (s3 : Int32), f_L_law_521 xs L k_18 σ τ v3 s0 s1 s3 = some res → ∀ (H : Heap) (locs : List Loc) (ls : Array Slot), WS g σ τ s H locs → lv_has ls 4 [(0, .ref b), (1, .ref (gA g 0)), (2, .ref (gA g 60)), (3, .int v3)] → W p l e room_1 s m #[Value.ref b] below meth c H locs 79 1296 (lw_Z below #[Value.ref b] s) (F0 m 521 ls [.int s0, .int s1, .ref (gA g 60), .int s3]) := by
    intro k_18 hk_18 σ τ v3 s0 s1 s3 h H locs ls hS hl
    rw [f_L_law_521] at h
    obtain ⟨q22, h_q22, h⟩ := bd h
    refine lVi F G hS hl.1 (c_X8_signal l g σ τ s1 s0 q22 h_q22) lk_L_60 ⟨rfl, rfl, Nat.le_of_ble_eq_true rfl, Nat.le_of_ble_eq_true rfl⟩ (Nat.le_of_ble_eq_true rfl) (Nat.le_of_ble_eq_true rfl) (rc_X8 G hS) rfl rfl (Nat.le_of_ble_eq_true rfl) dL_law_521 (kIiC (fun H locs hS => ?_))
    refine lv_icmp_eq (tgt := 1514) F.1 F.2.1 dL_law_524 (by decide) (fun hc => ?_) (fun hc => ?_)
    · replace h := ifT h hc
      exact w_1514 _ hk_18 q22.2 τ v3 h H locs _ hS (lv_sub hl [0, 1, 2, 3] rfl)
    replace h := ifF h hc
    refine lv_iconst (v := (0 : Int32)) F.1 F.2.1 dL_law_527 (by decide) ?_
    cases h
  have w_499 : ∀ (k_18 : ZI → ZL → Int32 → Option (Int32)) (hk_18 : ∀ (σ : ZI) (τ : ZL) (v3 : Int32), k_18 σ τ v3 = some res → ∀ (H : Heap) (locs : List Loc) (ls : Array Slot), WS g σ τ s H locs → lv_has ls 4 [(0, .ref b), (1, .ref (gA g 0)), (2, .ref (gA g 60)), (3, .int v3)] → W p l e room_1 s m #[Value.ref b] below meth c H locs 79 1296 (lw_Z below #[Value.ref b] s) (F0 m 18 ls [])) (σ : ZI) (τ : ZL) (v3 : Int32) (s0 : Int32) (s1 : Int32), f_L_law_499 xs L k_18 σ τ v3 s0 s1 = some res → ∀ (H : Heap) (locs : List Loc) (ls : Array Slot), WS g σ τ s H locs → lv_has ls 4 [(0, .ref b), (1, .ref (gA g 0)), (2, .ref (gA g 60)), (3, .int v3)] → W p l e room_1 s m #[Value.ref b] below meth c H locs 79 1296 (lw_Z below #[Value.ref b] s) (F0 m 499 ls [.int s0, .int s1, .ref (gA g 0)]) := by
    intro k_18 hk_18 σ τ v3 s0 s1 h H locs ls hS hl
    rw [f_L_law_499] at h
    obtain ⟨q21, h_q21, h⟩ := bd h
    refine lVi F G hS hl.1 (c_X7_signal l g σ τ s1 s0 q21 h_q21) lk_L_56 ⟨rfl, rfl, Nat.le_of_ble_eq_true rfl, Nat.le_of_ble_eq_true rfl⟩ (Nat.le_of_ble_eq_true rfl) (Nat.le_of_ble_eq_true rfl) (rc_X7 G hS) rfl rfl (Nat.le_of_ble_eq_true rfl) dL_law_499 (kIiC (fun H locs hS => ?_))
    refine lv_aload_n F.1 F.2.1 dL_law_502 rfl (lv_at hl 2 rfl) ?_
    refine lv_aload_n F.1 F.2.1 dL_law_503 rfl (lv_at hl 0 rfl) ?_
    refine lv_iload_n F.1 F.2.1 dL_law_504 rfl (lv_at hl 3 rfl) ?_
    refine lv_iconst (v := (1 : Int32)) F.1 F.2.1 dL_law_505 (by decide) ?_
    refine lv_iadd F.1 F.2.1 dL_law_506 ?_
    obtain ⟨hin, h⟩ := gd h
    refine va_sld F.1 F.2.1 hX hbl hbA hS.2 (inB_vp hin) dL_law_507 ?_
    refine lv_aload_n F.1 F.2.1 dL_law_508 rfl (lv_at hl 0 rfl) ?_
    refine lv_iload_n F.1 F.2.1 dL_law_509 rfl (lv_at hl 3 rfl) ?_
    refine lv_iconst (v := (2 : Int32)) F.1 F.2.1 dL_law_510 (by decide) ?_
    refine lv_iadd F.1 F.2.1 dL_law_511 ?_
    obtain ⟨hin, h⟩ := gd h
    refine va_sld F.1 F.2.1 hX hbl hbA hS.2 (inB_vp hin) dL_law_512 ?_
    refine lv_if_eq (tgt := 520) F.1 F.2.1 dL_law_513 (by decide) (fun hc => ?_) (fun hc => ?_)
    · replace h := ifT h hc
      refine lv_iconst (v := (0 : Int32)) F.1 F.2.1 dL_law_520 (by decide) ?_
      exact w_521 _ hk_18 q21.2 τ v3 (0 : Int32) (xs (v3 + (1 : Int32)).toNatClampNeg) q21.1 h H locs _ hS (lv_sub hl [0, 1, 2, 3] rfl)
    replace h := ifF h hc
    refine lv_iconst (v := (1 : Int32)) F.1 F.2.1 dL_law_516 (by decide) ?_
    refine lv_goto (tgt := 521) F.1 F.2.1 dL_law_517 (by decide) ?_
    exact w_521 _ hk_18 q21.2 τ v3 (1 : Int32) (xs (v3 + (1 : Int32)).toNatClampNeg) q21.1 h H locs _ hS (lv_sub hl [0, 1, 2, 3] rfl)
  have w_18 : ∀ (n : Nat) (σ : ZI) (τ : ZL) (v3 : Int32), f_L_law_18 xs L n σ τ v3 = some res → ∀ (H : Heap) (locs : List Loc) (ls : Array Slot), WS g σ τ s H locs → lv_has ls 4 [(0, .ref b), (1, .ref (gA g 0)), (2, .ref (gA g 60)), (3, .int v3)] → W p l e room_1 s m #[Value.ref b] below meth c H locs 79 1296 (lw_Z below #[Value.ref b] s) (F0 m 18 ls []) := by
    intro n
    induction n with
    | zero => intro σ τ v3 h; rw [f_L_law_18] at h; cases h
    | succ n ih =>
      intro σ τ v3 h H locs ls hS hl
      rw [f_L_law_18] at h
      refine lv_iload_n F.1 F.2.1 dL_law_18 rfl (lv_at hl 3 rfl) ?_
      refine lv_aload_n F.1 F.2.1 dL_law_19 rfl (lv_at hl 0 rfl) ?_
      refine va_slen F.1 F.2.1 hX hbl hbA hS.2 dL_law_20 ?_
      refine lv_iconst (v := (5 : Int32)) F.1 F.2.1 dL_law_21 (by decide) ?_
      refine lv_isub F.1 F.2.1 dL_law_22 ?_
      refine lv_icmp_gt (tgt := 1520) F.1 F.2.1 dL_law_23 (by decide) (fun hc => ?_) (fun hc => ?_)
      · replace h := ifT h hc
        refine lv_iconst (v := (1 : Int32)) F.1 F.2.1 dL_law_1520 (by decide) ?_
        exact va_forget (fun q hq => hgb ▸ hS.2.2.2 q hq) (lw_ret F.1 F.2.1 hr0 hk0 dL_law_1521)
      replace h := ifF h hc
      refine lv_aload_n F.1 F.2.1 dL_law_26 rfl (lv_at hl 0 rfl) ?_
      refine lv_iload_n F.1 F.2.1 dL_law_27 rfl (lv_at hl 3 rfl) ?_
      obtain ⟨hin, h⟩ := gd h
      refine va_sld F.1 F.2.1 hX hbl hbA hS.2 (inB_vp hin) dL_law_28 ?_
      refine lv_bipush (v := (63 : Int32)) F.1 F.2.1 dL_law_29 (by decide) ?_
      refine lv_iand F.1 F.2.1 dL_law_31 ?_
      by_cases hc_0 : ((xs v3.toNatClampNeg) &&& (63 : Int32)) = (0 : Int32)
      · replace h := ifT h hc_0
        refine lv_tableIn (tgt := 220) F.1 F.2.1 dL_law_32 (by rw [hc_0]; decide) (by rw [hc_0]; decide) (by rw [hc_0]; rfl) (by decide) ?_
        refine lv_aload_n F.1 F.2.1 dL_law_220 rfl (lv_at hl 1 rfl) ?_
        refine lv_aload_n F.1 F.2.1 dL_law_221 rfl (lv_at hl 0 rfl) ?_
        refine lv_iload_n F.1 F.2.1 dL_law_222 rfl (lv_at hl 3 rfl) ?_
        refine lv_iconst (v := (1 : Int32)) F.1 F.2.1 dL_law_223 (by decide) ?_
        refine lv_iadd F.1 F.2.1 dL_law_224 ?_
        obtain ⟨hin, h⟩ := gd h
        refine va_sld F.1 F.2.1 hX hbl hbA hS.2 (inB_vp hin) dL_law_225 ?_
        obtain ⟨q1, h_q1, h⟩ := bd h
        refine lVi F G hS hl.1 (c_X7_feed l g σ τ (xs (v3 + (1 : Int32)).toNatClampNeg) q1 h_q1) lk_L_13 ⟨rfl, rfl, Nat.le_of_ble_eq_true rfl, Nat.le_of_ble_eq_true rfl⟩ (Nat.le_of_ble_eq_true rfl) (Nat.le_of_ble_eq_true rfl) (rc_X7 G hS) rfl rfl (Nat.le_of_ble_eq_true rfl) dL_law_226 (kIiC (fun H locs hS => ?_))
        refine lv_aload_n F.1 F.2.1 dL_law_229 rfl (lv_at hl 2 rfl) ?_
        refine lv_aload_n F.1 F.2.1 dL_law_230 rfl (lv_at hl 0 rfl) ?_
        refine lv_iload_n F.1 F.2.1 dL_law_231 rfl (lv_at hl 3 rfl) ?_
        refine lv_iconst (v := (1 : Int32)) F.1 F.2.1 dL_law_232 (by decide) ?_
        refine lv_iadd F.1 F.2.1 dL_law_233 ?_
        obtain ⟨hin, h⟩ := gd h
        refine va_sld F.1 F.2.1 hX hbl hbA hS.2 (inB_vp hin) dL_law_234 ?_
        obtain ⟨q2, h_q2, h⟩ := bd h
        refine lVi F G hS hl.1 (c_X8_feed l g q1.2 τ (xs (v3 + (1 : Int32)).toNatClampNeg) q2 h_q2) lk_L_17 ⟨rfl, rfl, Nat.le_of_ble_eq_true rfl, Nat.le_of_ble_eq_true rfl⟩ (Nat.le_of_ble_eq_true rfl) (Nat.le_of_ble_eq_true rfl) (rc_X8 G hS) rfl rfl (Nat.le_of_ble_eq_true rfl) dL_law_235 (kIiC (fun H locs hS => ?_))
        refine lv_icmp_eq (tgt := 1514) F.1 F.2.1 dL_law_238 (by decide) (fun hc => ?_) (fun hc => ?_)
        · replace h := ifT h hc
          exact w_1514 _ (fun σ τ v3 => ih σ τ v3) q2.2 τ v3 h H locs _ hS (lv_sub hl [0, 1, 2, 3] rfl)
        replace h := ifF h hc
        refine lv_iconst (v := (0 : Int32)) F.1 F.2.1 dL_law_241 (by decide) ?_
        cases h
      replace h := ifF h hc_0
      by_cases hc_1 : ((xs v3.toNatClampNeg) &&& (63 : Int32)) = (1 : Int32)
      · replace h := ifT h hc_1
        refine lv_tableIn (tgt := 243) F.1 F.2.1 dL_law_32 (by rw [hc_1]; decide) (by rw [hc_1]; decide) (by rw [hc_1]; rfl) (by decide) ?_
        refine lv_aload_n F.1 F.2.1 dL_law_243 rfl (lv_at hl 1 rfl) ?_
        refine lv_aload_n F.1 F.2.1 dL_law_244 rfl (lv_at hl 0 rfl) ?_
        refine lv_iload_n F.1 F.2.1 dL_law_245 rfl (lv_at hl 3 rfl) ?_
        refine lv_iconst (v := (1 : Int32)) F.1 F.2.1 dL_law_246 (by decide) ?_
        refine lv_iadd F.1 F.2.1 dL_law_247 ?_
        obtain ⟨hin, h⟩ := gd h
        refine va_sld F.1 F.2.1 hX hbl hbA hS.2 (inB_vp hin) dL_law_248 ?_
        obtain ⟨q3, h_q3, h⟩ := bd h
        refine lVi F G hS hl.1 (c_X7_end l g σ τ (xs (v3 + (1 : Int32)).toNatClampNeg) q3 h_q3) lk_L_18 ⟨rfl, rfl, Nat.le_of_ble_eq_true rfl, Nat.le_of_ble_eq_true rfl⟩ (Nat.le_of_ble_eq_true rfl) (Nat.le_of_ble_eq_true rfl) (rc_X7 G hS) rfl rfl (Nat.le_of_ble_eq_true rfl) dL_law_249 (kIiC (fun H locs hS => ?_))
        refine lv_aload_n F.1 F.2.1 dL_law_252 rfl (lv_at hl 2 rfl) ?_
        refine lv_aload_n F.1 F.2.1 dL_law_253 rfl (lv_at hl 0 rfl) ?_
        refine lv_iload_n F.1 F.2.1 dL_law_254 rfl (lv_at hl 3 rfl) ?_
        refine lv_iconst (v := (1 : Int32)) F.1 F.2.1 dL_law_255 (by decide) ?_
        refine lv_iadd F.1 F.2.1 dL_law_256 ?_
        obtain ⟨hin, h⟩ := gd h
        refine va_sld F.1 F.2.1 hX hbl hbA hS.2 (inB_vp hin) dL_law_257 ?_
        obtain ⟨q4, h_q4, h⟩ := bd h
        refine lVi F G hS hl.1 (c_X8_end l g q3.2 τ (xs (v3 + (1 : Int32)).toNatClampNeg) q4 h_q4) lk_L_21 ⟨rfl, rfl, Nat.le_of_ble_eq_true rfl, Nat.le_of_ble_eq_true rfl⟩ (Nat.le_of_ble_eq_true rfl) (Nat.le_of_ble_eq_true rfl) (rc_X8 G hS) rfl rfl (Nat.le_of_ble_eq_true rfl) dL_law_258 (kIiC (fun H locs hS => ?_))
        refine lv_icmp_eq (tgt := 1514) F.1 F.2.1 dL_law_261 (by decide) (fun hc => ?_) (fun hc => ?_)
        · replace h := ifT h hc
          exact w_1514 _ (fun σ τ v3 => ih σ τ v3) q4.2 τ v3 h H locs _ hS (lv_sub hl [0, 1, 2, 3] rfl)
        replace h := ifF h hc
        refine lv_iconst (v := (0 : Int32)) F.1 F.2.1 dL_law_264 (by decide) ?_
        cases h
      replace h := ifF h hc_1
      by_cases hc_2 : ((xs v3.toNatClampNeg) &&& (63 : Int32)) = (2 : Int32)
      · replace h := ifT h hc_2
        refine lv_tableIn (tgt := 266) F.1 F.2.1 dL_law_32 (by rw [hc_2]; decide) (by rw [hc_2]; decide) (by rw [hc_2]; rfl) (by decide) ?_
        refine lv_aload_n F.1 F.2.1 dL_law_266 rfl (lv_at hl 1 rfl) ?_
        obtain ⟨q5, h_q5, h⟩ := bd h
        refine lVi F G hS hl.1 (c_X7_text l g σ τ q5 h_q5) lk_L_22 ⟨rfl, rfl, Nat.le_of_ble_eq_true rfl, Nat.le_of_ble_eq_true rfl⟩ (Nat.le_of_ble_eq_true rfl) (Nat.le_of_ble_eq_true rfl) (rc_X7 G hS) rfl rfl (Nat.le_of_ble_eq_true rfl) dL_law_267 (kIiC (fun H locs hS => ?_))
        refine lv_aload_n F.1 F.2.1 dL_law_270 rfl (lv_at hl 2 rfl) ?_
        obtain ⟨q6, h_q6, h⟩ := bd h
        refine lVi F G hS hl.1 (c_X8_text l g q5.2 τ q6 h_q6) lk_L_26 ⟨rfl, rfl, Nat.le_of_ble_eq_true rfl, Nat.le_of_ble_eq_true rfl⟩ (Nat.le_of_ble_eq_true rfl) (Nat.le_of_ble_eq_true rfl) (rc_X8 G hS) rfl rfl (Nat.le_of_ble_eq_true rfl) dL_law_271 (kIiC (fun H locs hS => ?_))
        refine lv_icmp_eq (tgt := 1514) F.1 F.2.1 dL_law_274 (by decide) (fun hc => ?_) (fun hc => ?_)
        · replace h := ifT h hc
          exact w_1514 _ (fun σ τ v3 => ih σ τ v3) q6.2 τ v3 h H locs _ hS (lv_sub hl [0, 1, 2, 3] rfl)
        replace h := ifF h hc
        refine lv_iconst (v := (0 : Int32)) F.1 F.2.1 dL_law_277 (by decide) ?_
        cases h
      replace h := ifF h hc_2
      by_cases hc_3 : ((xs v3.toNatClampNeg) &&& (63 : Int32)) = (3 : Int32)
      · replace h := ifT h hc_3
        refine lv_tableIn (tgt := 279) F.1 F.2.1 dL_law_32 (by rw [hc_3]; decide) (by rw [hc_3]; decide) (by rw [hc_3]; rfl) (by decide) ?_
        refine lv_aload_n F.1 F.2.1 dL_law_279 rfl (lv_at hl 1 rfl) ?_
        obtain ⟨q7, h_q7, h⟩ := bd h
        refine lVi F G hS hl.1 (c_X7_fault l g σ τ q7 h_q7) lk_L_27 ⟨rfl, rfl, Nat.le_of_ble_eq_true rfl, Nat.le_of_ble_eq_true rfl⟩ (Nat.le_of_ble_eq_true rfl) (Nat.le_of_ble_eq_true rfl) (rc_X7 G hS) rfl rfl (Nat.le_of_ble_eq_true rfl) dL_law_280 (kRiC (fun H locs hS => ?_))
        refine lv_aload_n F.1 F.2.1 dL_law_283 rfl (lv_at hl 2 rfl) ?_
        obtain ⟨q8, h_q8, h⟩ := bd h
        refine lVi F G hS hl.1 (c_X8_fault l g σ τ q8 h_q8) lk_L_30 ⟨rfl, rfl, Nat.le_of_ble_eq_true rfl, Nat.le_of_ble_eq_true rfl⟩ (Nat.le_of_ble_eq_true rfl) (Nat.le_of_ble_eq_true rfl) (rc_X8 G hS) rfl rfl (Nat.le_of_ble_eq_true rfl) dL_law_284 (kRiC (fun H locs hS => ?_))
        refine lv_icmp_eq (tgt := 1514) F.1 F.2.1 dL_law_287 (by decide) (fun hc => ?_) (fun hc => ?_)
        · replace h := ifT h hc
          exact w_1514 _ (fun σ τ v3 => ih σ τ v3) σ τ v3 h H locs _ hS (lv_sub hl [0, 1, 2, 3] rfl)
        replace h := ifF h hc
        refine lv_iconst (v := (0 : Int32)) F.1 F.2.1 dL_law_290 (by decide) ?_
        cases h
      replace h := ifF h hc_3
      by_cases hc_4 : ((xs v3.toNatClampNeg) &&& (63 : Int32)) = (4 : Int32)
      · replace h := ifT h hc_4
        refine lv_tableIn (tgt := 292) F.1 F.2.1 dL_law_32 (by rw [hc_4]; decide) (by rw [hc_4]; decide) (by rw [hc_4]; rfl) (by decide) ?_
        refine lv_aload_n F.1 F.2.1 dL_law_292 rfl (lv_at hl 1 rfl) ?_
        refine lv_aload_n F.1 F.2.1 dL_law_293 rfl (lv_at hl 0 rfl) ?_
        refine lv_iload_n F.1 F.2.1 dL_law_294 rfl (lv_at hl 3 rfl) ?_
        refine lv_iconst (v := (1 : Int32)) F.1 F.2.1 dL_law_295 (by decide) ?_
        refine lv_iadd F.1 F.2.1 dL_law_296 ?_
        obtain ⟨hin, h⟩ := gd h
        refine va_sld F.1 F.2.1 hX hbl hbA hS.2 (inB_vp hin) dL_law_297 ?_
        obtain ⟨q9, h_q9, h⟩ := bd h
        refine lVi F G hS hl.1 (c_X7_rule l g σ τ (xs (v3 + (1 : Int32)).toNatClampNeg) q9 h_q9) lk_L_31 ⟨rfl, rfl, Nat.le_of_ble_eq_true rfl, Nat.le_of_ble_eq_true rfl⟩ (Nat.le_of_ble_eq_true rfl) (Nat.le_of_ble_eq_true rfl) (rc_X7 G hS) rfl rfl (Nat.le_of_ble_eq_true rfl) dL_law_298 (kRiC (fun H locs hS => ?_))
        refine lv_aload_n F.1 F.2.1 dL_law_301 rfl (lv_at hl 2 rfl) ?_
        refine lv_aload_n F.1 F.2.1 dL_law_302 rfl (lv_at hl 0 rfl) ?_
        refine lv_iload_n F.1 F.2.1 dL_law_303 rfl (lv_at hl 3 rfl) ?_
        refine lv_iconst (v := (1 : Int32)) F.1 F.2.1 dL_law_304 (by decide) ?_
        refine lv_iadd F.1 F.2.1 dL_law_305 ?_
        obtain ⟨hin, h⟩ := gd h
        refine va_sld F.1 F.2.1 hX hbl hbA hS.2 (inB_vp hin) dL_law_306 ?_
        obtain ⟨q10, h_q10, h⟩ := bd h
        refine lVi F G hS hl.1 (c_X8_rule l g σ τ (xs (v3 + (1 : Int32)).toNatClampNeg) q10 h_q10) lk_L_34 ⟨rfl, rfl, Nat.le_of_ble_eq_true rfl, Nat.le_of_ble_eq_true rfl⟩ (Nat.le_of_ble_eq_true rfl) (Nat.le_of_ble_eq_true rfl) (rc_X8 G hS) rfl rfl (Nat.le_of_ble_eq_true rfl) dL_law_307 (kRiC (fun H locs hS => ?_))
        refine lv_icmp_eq (tgt := 1514) F.1 F.2.1 dL_law_310 (by decide) (fun hc => ?_) (fun hc => ?_)
        · replace h := ifT h hc
          exact w_1514 _ (fun σ τ v3 => ih σ τ v3) σ τ v3 h H locs _ hS (lv_sub hl [0, 1, 2, 3] rfl)
        replace h := ifF h hc
        refine lv_iconst (v := (0 : Int32)) F.1 F.2.1 dL_law_313 (by decide) ?_
        cases h
      replace h := ifF h hc_4
      by_cases hc_5 : ((xs v3.toNatClampNeg) &&& (63 : Int32)) = (5 : Int32)
      · replace h := ifT h hc_5
        refine lv_tableIn (tgt := 315) F.1 F.2.1 dL_law_32 (by rw [hc_5]; decide) (by rw [hc_5]; decide) (by rw [hc_5]; rfl) (by decide) ?_
        refine lv_aload_n F.1 F.2.1 dL_law_315 rfl (lv_at hl 1 rfl) ?_
        refine lv_aload_n F.1 F.2.1 dL_law_316 rfl (lv_at hl 0 rfl) ?_
        refine lv_iload_n F.1 F.2.1 dL_law_317 rfl (lv_at hl 3 rfl) ?_
        refine lv_iconst (v := (1 : Int32)) F.1 F.2.1 dL_law_318 (by decide) ?_
        refine lv_iadd F.1 F.2.1 dL_law_319 ?_
        obtain ⟨hin, h⟩ := gd h
        refine va_sld F.1 F.2.1 hX hbl hbA hS.2 (inB_vp hin) dL_law_320 ?_
        refine lv_aload_n F.1 F.2.1 dL_law_321 rfl (lv_at hl 0 rfl) ?_
        refine lv_iload_n F.1 F.2.1 dL_law_322 rfl (lv_at hl 3 rfl) ?_
        refine lv_iconst (v := (2 : Int32)) F.1 F.2.1 dL_law_323 (by decide) ?_
        refine lv_iadd F.1 F.2.1 dL_law_324 ?_
        obtain ⟨hin, h⟩ := gd h
        refine va_sld F.1 F.2.1 hX hbl hbA hS.2 (inB_vp hin) dL_law_325 ?_
        obtain ⟨q11, h_q11, h⟩ := bd h
        refine lVi F G hS hl.1 (c_X7_arm l g σ τ (xs (v3 + (1 : Int32)).toNatClampNeg) (xs (v3 + (2 : Int32)).toNatClampNeg) q11 h_q11) lk_L_35 ⟨rfl, rfl, Nat.le_of_ble_eq_true rfl, Nat.le_of_ble_eq_true rfl⟩ (Nat.le_of_ble_eq_true rfl) (Nat.le_of_ble_eq_true rfl) (rc_X7 G hS) rfl rfl (Nat.le_of_ble_eq_true rfl) dL_law_326 (kRiC (fun H locs hS => ?_))
        refine lv_aload_n F.1 F.2.1 dL_law_329 rfl (lv_at hl 2 rfl) ?_
        refine lv_aload_n F.1 F.2.1 dL_law_330 rfl (lv_at hl 0 rfl) ?_
        refine lv_iload_n F.1 F.2.1 dL_law_331 rfl (lv_at hl 3 rfl) ?_
        refine lv_iconst (v := (1 : Int32)) F.1 F.2.1 dL_law_332 (by decide) ?_
        refine lv_iadd F.1 F.2.1 dL_law_333 ?_
        obtain ⟨hin, h⟩ := gd h
        refine va_sld F.1 F.2.1 hX hbl hbA hS.2 (inB_vp hin) dL_law_334 ?_
        refine lv_aload_n F.1 F.2.1 dL_law_335 rfl (lv_at hl 0 rfl) ?_
        refine lv_iload_n F.1 F.2.1 dL_law_336 rfl (lv_at hl 3 rfl) ?_
        refine lv_iconst (v := (2 : Int32)) F.1 F.2.1 dL_law_337 (by decide) ?_
        refine lv_iadd F.1 F.2.1 dL_law_338 ?_
        obtain ⟨hin, h⟩ := gd h
        refine va_sld F.1 F.2.1 hX hbl hbA hS.2 (inB_vp hin) dL_law_339 ?_
        obtain ⟨q12, h_q12, h⟩ := bd h
        refine lVi F G hS hl.1 (c_X8_arm l g σ τ (xs (v3 + (1 : Int32)).toNatClampNeg) (xs (v3 + (2 : Int32)).toNatClampNeg) q12 h_q12) lk_L_39 ⟨rfl, rfl, Nat.le_of_ble_eq_true rfl, Nat.le_of_ble_eq_true rfl⟩ (Nat.le_of_ble_eq_true rfl) (Nat.le_of_ble_eq_true rfl) (rc_X8 G hS) rfl rfl (Nat.le_of_ble_eq_true rfl) dL_law_340 (kRiC (fun H locs hS => ?_))
        refine lv_icmp_eq (tgt := 1514) F.1 F.2.1 dL_law_343 (by decide) (fun hc => ?_) (fun hc => ?_)
        · replace h := ifT h hc
          exact w_1514 _ (fun σ τ v3 => ih σ τ v3) σ τ v3 h H locs _ hS (lv_sub hl [0, 1, 2, 3] rfl)
        replace h := ifF h hc
        refine lv_iconst (v := (0 : Int32)) F.1 F.2.1 dL_law_346 (by decide) ?_
        cases h
      replace h := ifF h hc_5
      by_cases hc_6 : ((xs v3.toNatClampNeg) &&& (63 : Int32)) = (6 : Int32)
      · replace h := ifT h hc_6
        refine lv_tableIn (tgt := 348) F.1 F.2.1 dL_law_32 (by rw [hc_6]; decide) (by rw [hc_6]; decide) (by rw [hc_6]; rfl) (by decide) ?_
        refine lv_aload_n F.1 F.2.1 dL_law_348 rfl (lv_at hl 1 rfl) ?_
        refine lv_aload_n F.1 F.2.1 dL_law_349 rfl (lv_at hl 0 rfl) ?_
        refine lv_iload_n F.1 F.2.1 dL_law_350 rfl (lv_at hl 3 rfl) ?_
        refine lv_iconst (v := (1 : Int32)) F.1 F.2.1 dL_law_351 (by decide) ?_
        refine lv_iadd F.1 F.2.1 dL_law_352 ?_
        obtain ⟨hin, h⟩ := gd h
        refine va_sld F.1 F.2.1 hX hbl hbA hS.2 (inB_vp hin) dL_law_353 ?_
        refine lv_aload_n F.1 F.2.1 dL_law_354 rfl (lv_at hl 0 rfl) ?_
        refine lv_iload_n F.1 F.2.1 dL_law_355 rfl (lv_at hl 3 rfl) ?_
        refine lv_iconst (v := (2 : Int32)) F.1 F.2.1 dL_law_356 (by decide) ?_
        refine lv_iadd F.1 F.2.1 dL_law_357 ?_
        obtain ⟨hin, h⟩ := gd h
        refine va_sld F.1 F.2.1 hX hbl hbA hS.2 (inB_vp hin) dL_law_358 ?_
        obtain ⟨q13, h_q13, h⟩ := bd h
        refine lVi F G hS hl.1 (c_X7_mark l g σ τ (xs (v3 + (1 : Int32)).toNatClampNeg) (xs (v3 + (2 : Int32)).toNatClampNeg) q13 h_q13) lk_L_40 ⟨rfl, rfl, Nat.le_of_ble_eq_true rfl, Nat.le_of_ble_eq_true rfl⟩ (Nat.le_of_ble_eq_true rfl) (Nat.le_of_ble_eq_true rfl) (rc_X7 G hS) rfl rfl (Nat.le_of_ble_eq_true rfl) dL_law_359 (kRiC (fun H locs hS => ?_))
        refine lv_aload_n F.1 F.2.1 dL_law_362 rfl (lv_at hl 2 rfl) ?_
        refine lv_aload_n F.1 F.2.1 dL_law_363 rfl (lv_at hl 0 rfl) ?_
        refine lv_iload_n F.1 F.2.1 dL_law_364 rfl (lv_at hl 3 rfl) ?_
        refine lv_iconst (v := (1 : Int32)) F.1 F.2.1 dL_law_365 (by decide) ?_
        refine lv_iadd F.1 F.2.1 dL_law_366 ?_
        obtain ⟨hin, h⟩ := gd h
        refine va_sld F.1 F.2.1 hX hbl hbA hS.2 (inB_vp hin) dL_law_367 ?_
        refine lv_aload_n F.1 F.2.1 dL_law_368 rfl (lv_at hl 0 rfl) ?_
        refine lv_iload_n F.1 F.2.1 dL_law_369 rfl (lv_at hl 3 rfl) ?_
        refine lv_iconst (v := (2 : Int32)) F.1 F.2.1 dL_law_370 (by decide) ?_
        refine lv_iadd F.1 F.2.1 dL_law_371 ?_
        obtain ⟨hin, h⟩ := gd h
        refine va_sld F.1 F.2.1 hX hbl hbA hS.2 (inB_vp hin) dL_law_372 ?_
        obtain ⟨q14, h_q14, h⟩ := bd h
        refine lVi F G hS hl.1 (c_X8_mark l g σ τ (xs (v3 + (1 : Int32)).toNatClampNeg) (xs (v3 + (2 : Int32)).toNatClampNeg) q14 h_q14) lk_L_43 ⟨rfl, rfl, Nat.le_of_ble_eq_true rfl, Nat.le_of_ble_eq_true rfl⟩ (Nat.le_of_ble_eq_true rfl) (Nat.le_of_ble_eq_true rfl) (rc_X8 G hS) rfl rfl (Nat.le_of_ble_eq_true rfl) dL_law_373 (kRiC (fun H locs hS => ?_))
        refine lv_icmp_eq (tgt := 1514) F.1 F.2.1 dL_law_376 (by decide) (fun hc => ?_) (fun hc => ?_)
        · replace h := ifT h hc
          exact w_1514 _ (fun σ τ v3 => ih σ τ v3) σ τ v3 h H locs _ hS (lv_sub hl [0, 1, 2, 3] rfl)
        replace h := ifF h hc
        refine lv_iconst (v := (0 : Int32)) F.1 F.2.1 dL_law_379 (by decide) ?_
        cases h
      replace h := ifF h hc_6
      by_cases hc_7 : ((xs v3.toNatClampNeg) &&& (63 : Int32)) = (7 : Int32)
      · replace h := ifT h hc_7
        refine lv_tableIn (tgt := 381) F.1 F.2.1 dL_law_32 (by rw [hc_7]; decide) (by rw [hc_7]; decide) (by rw [hc_7]; rfl) (by decide) ?_
        refine lv_aload_n F.1 F.2.1 dL_law_381 rfl (lv_at hl 1 rfl) ?_
        refine lv_aload_n F.1 F.2.1 dL_law_382 rfl (lv_at hl 0 rfl) ?_
        refine lv_iload_n F.1 F.2.1 dL_law_383 rfl (lv_at hl 3 rfl) ?_
        refine lv_iconst (v := (1 : Int32)) F.1 F.2.1 dL_law_384 (by decide) ?_
        refine lv_iadd F.1 F.2.1 dL_law_385 ?_
        obtain ⟨hin, h⟩ := gd h
        refine va_sld F.1 F.2.1 hX hbl hbA hS.2 (inB_vp hin) dL_law_386 ?_
        refine lv_aload_n F.1 F.2.1 dL_law_387 rfl (lv_at hl 0 rfl) ?_
        refine lv_iload_n F.1 F.2.1 dL_law_388 rfl (lv_at hl 3 rfl) ?_
        refine lv_iconst (v := (2 : Int32)) F.1 F.2.1 dL_law_389 (by decide) ?_
        refine lv_iadd F.1 F.2.1 dL_law_390 ?_
        obtain ⟨hin, h⟩ := gd h
        refine va_sld F.1 F.2.1 hX hbl hbA hS.2 (inB_vp hin) dL_law_391 ?_
        obtain ⟨q15, h_q15, h⟩ := bd h
        refine lVi F G hS hl.1 (c_X7_town l g σ τ (xs (v3 + (1 : Int32)).toNatClampNeg) (xs (v3 + (2 : Int32)).toNatClampNeg) q15 h_q15) lk_L_44 ⟨rfl, rfl, Nat.le_of_ble_eq_true rfl, Nat.le_of_ble_eq_true rfl⟩ (Nat.le_of_ble_eq_true rfl) (Nat.le_of_ble_eq_true rfl) (rc_X7 G hS) rfl rfl (Nat.le_of_ble_eq_true rfl) dL_law_392 (kRiC (fun H locs hS => ?_))
        refine lv_aload_n F.1 F.2.1 dL_law_395 rfl (lv_at hl 2 rfl) ?_
        refine lv_aload_n F.1 F.2.1 dL_law_396 rfl (lv_at hl 0 rfl) ?_
        refine lv_iload_n F.1 F.2.1 dL_law_397 rfl (lv_at hl 3 rfl) ?_
        refine lv_iconst (v := (1 : Int32)) F.1 F.2.1 dL_law_398 (by decide) ?_
        refine lv_iadd F.1 F.2.1 dL_law_399 ?_
        obtain ⟨hin, h⟩ := gd h
        refine va_sld F.1 F.2.1 hX hbl hbA hS.2 (inB_vp hin) dL_law_400 ?_
        refine lv_aload_n F.1 F.2.1 dL_law_401 rfl (lv_at hl 0 rfl) ?_
        refine lv_iload_n F.1 F.2.1 dL_law_402 rfl (lv_at hl 3 rfl) ?_
        refine lv_iconst (v := (2 : Int32)) F.1 F.2.1 dL_law_403 (by decide) ?_
        refine lv_iadd F.1 F.2.1 dL_law_404 ?_
        obtain ⟨hin, h⟩ := gd h
        refine va_sld F.1 F.2.1 hX hbl hbA hS.2 (inB_vp hin) dL_law_405 ?_
        obtain ⟨q16, h_q16, h⟩ := bd h
        refine lVi F G hS hl.1 (c_X8_town l g σ τ (xs (v3 + (1 : Int32)).toNatClampNeg) (xs (v3 + (2 : Int32)).toNatClampNeg) q16 h_q16) lk_L_47 ⟨rfl, rfl, Nat.le_of_ble_eq_true rfl, Nat.le_of_ble_eq_true rfl⟩ (Nat.le_of_ble_eq_true rfl) (Nat.le_of_ble_eq_true rfl) (rc_X8 G hS) rfl rfl (Nat.le_of_ble_eq_true rfl) dL_law_406 (kRiC (fun H locs hS => ?_))
        refine lv_icmp_eq (tgt := 1514) F.1 F.2.1 dL_law_409 (by decide) (fun hc => ?_) (fun hc => ?_)
        · replace h := ifT h hc
          exact w_1514 _ (fun σ τ v3 => ih σ τ v3) σ τ v3 h H locs _ hS (lv_sub hl [0, 1, 2, 3] rfl)
        replace h := ifF h hc
        refine lv_iconst (v := (0 : Int32)) F.1 F.2.1 dL_law_412 (by decide) ?_
        cases h
      replace h := ifF h hc_7
      by_cases hc_8 : ((xs v3.toNatClampNeg) &&& (63 : Int32)) = (8 : Int32)
      · replace h := ifT h hc_8
        refine lv_tableIn (tgt := 414) F.1 F.2.1 dL_law_32 (by rw [hc_8]; decide) (by rw [hc_8]; decide) (by rw [hc_8]; rfl) (by decide) ?_
        refine lv_aload_n F.1 F.2.1 dL_law_414 rfl (lv_at hl 1 rfl) ?_
        refine lv_aload_n F.1 F.2.1 dL_law_415 rfl (lv_at hl 0 rfl) ?_
        refine lv_iload_n F.1 F.2.1 dL_law_416 rfl (lv_at hl 3 rfl) ?_
        refine lv_iconst (v := (1 : Int32)) F.1 F.2.1 dL_law_417 (by decide) ?_
        refine lv_iadd F.1 F.2.1 dL_law_418 ?_
        obtain ⟨hin, h⟩ := gd h
        refine va_sld F.1 F.2.1 hX hbl hbA hS.2 (inB_vp hin) dL_law_419 ?_
        refine lv_aload_n F.1 F.2.1 dL_law_420 rfl (lv_at hl 0 rfl) ?_
        refine lv_iload_n F.1 F.2.1 dL_law_421 rfl (lv_at hl 3 rfl) ?_
        refine lv_iconst (v := (2 : Int32)) F.1 F.2.1 dL_law_422 (by decide) ?_
        refine lv_iadd F.1 F.2.1 dL_law_423 ?_
        obtain ⟨hin, h⟩ := gd h
        refine va_sld F.1 F.2.1 hX hbl hbA hS.2 (inB_vp hin) dL_law_424 ?_
        obtain ⟨q17, h_q17, h⟩ := bd h
        refine lVi F G hS hl.1 (c_X7_set l g σ τ (xs (v3 + (1 : Int32)).toNatClampNeg) (xs (v3 + (2 : Int32)).toNatClampNeg) q17 h_q17) lk_L_48 ⟨rfl, rfl, Nat.le_of_ble_eq_true rfl, Nat.le_of_ble_eq_true rfl⟩ (Nat.le_of_ble_eq_true rfl) (Nat.le_of_ble_eq_true rfl) (rc_X7 G hS) rfl rfl (Nat.le_of_ble_eq_true rfl) dL_law_425 (kIiC (fun H locs hS => ?_))
        refine lv_aload_n F.1 F.2.1 dL_law_428 rfl (lv_at hl 2 rfl) ?_
        refine lv_aload_n F.1 F.2.1 dL_law_429 rfl (lv_at hl 0 rfl) ?_
        refine lv_iload_n F.1 F.2.1 dL_law_430 rfl (lv_at hl 3 rfl) ?_
        refine lv_iconst (v := (1 : Int32)) F.1 F.2.1 dL_law_431 (by decide) ?_
        refine lv_iadd F.1 F.2.1 dL_law_432 ?_
        obtain ⟨hin, h⟩ := gd h
        refine va_sld F.1 F.2.1 hX hbl hbA hS.2 (inB_vp hin) dL_law_433 ?_
        refine lv_aload_n F.1 F.2.1 dL_law_434 rfl (lv_at hl 0 rfl) ?_
        refine lv_iload_n F.1 F.2.1 dL_law_435 rfl (lv_at hl 3 rfl) ?_
        refine lv_iconst (v := (2 : Int32)) F.1 F.2.1 dL_law_436 (by decide) ?_
        refine lv_iadd F.1 F.2.1 dL_law_437 ?_
        obtain ⟨hin, h⟩ := gd h
        refine va_sld F.1 F.2.1 hX hbl hbA hS.2 (inB_vp hin) dL_law_438 ?_
        obtain ⟨q18, h_q18, h⟩ := bd h
        refine lVi F G hS hl.1 (c_X8_set l g q17.2 τ (xs (v3 + (1 : Int32)).toNatClampNeg) (xs (v3 + (2 : Int32)).toNatClampNeg) q18 h_q18) lk_L_51 ⟨rfl, rfl, Nat.le_of_ble_eq_true rfl, Nat.le_of_ble_eq_true rfl⟩ (Nat.le_of_ble_eq_true rfl) (Nat.le_of_ble_eq_true rfl) (rc_X8 G hS) rfl rfl (Nat.le_of_ble_eq_true rfl) dL_law_439 (kIiC (fun H locs hS => ?_))
        refine lv_icmp_eq (tgt := 1514) F.1 F.2.1 dL_law_442 (by decide) (fun hc => ?_) (fun hc => ?_)
        · replace h := ifT h hc
          exact w_1514 _ (fun σ τ v3 => ih σ τ v3) q18.2 τ v3 h H locs _ hS (lv_sub hl [0, 1, 2, 3] rfl)
        replace h := ifF h hc
        refine lv_iconst (v := (0 : Int32)) F.1 F.2.1 dL_law_445 (by decide) ?_
        cases h
      replace h := ifF h hc_8
      by_cases hc_9 : ((xs v3.toNatClampNeg) &&& (63 : Int32)) = (9 : Int32)
      · replace h := ifT h hc_9
        refine lv_tableIn (tgt := 447) F.1 F.2.1 dL_law_32 (by rw [hc_9]; decide) (by rw [hc_9]; decide) (by rw [hc_9]; rfl) (by decide) ?_
        refine lv_aload_n F.1 F.2.1 dL_law_447 rfl (lv_at hl 1 rfl) ?_
        refine lv_aload_n F.1 F.2.1 dL_law_448 rfl (lv_at hl 0 rfl) ?_
        refine lv_iload_n F.1 F.2.1 dL_law_449 rfl (lv_at hl 3 rfl) ?_
        refine lv_iconst (v := (1 : Int32)) F.1 F.2.1 dL_law_450 (by decide) ?_
        refine lv_iadd F.1 F.2.1 dL_law_451 ?_
        obtain ⟨hin, h⟩ := gd h
        refine va_sld F.1 F.2.1 hX hbl hbA hS.2 (inB_vp hin) dL_law_452 ?_
        refine lv_aload_n F.1 F.2.1 dL_law_453 rfl (lv_at hl 0 rfl) ?_
        refine lv_iload_n F.1 F.2.1 dL_law_454 rfl (lv_at hl 3 rfl) ?_
        refine lv_iconst (v := (2 : Int32)) F.1 F.2.1 dL_law_455 (by decide) ?_
        refine lv_iadd F.1 F.2.1 dL_law_456 ?_
        obtain ⟨hin, h⟩ := gd h
        refine va_sld F.1 F.2.1 hX hbl hbA hS.2 (inB_vp hin) dL_law_457 ?_
        obtain ⟨q19, h_q19, h⟩ := bd h
        refine lVi F G hS hl.1 (c_X7_net l g σ τ (xs (v3 + (1 : Int32)).toNatClampNeg) (xs (v3 + (2 : Int32)).toNatClampNeg) q19 h_q19) lk_L_52 ⟨rfl, rfl, Nat.le_of_ble_eq_true rfl, Nat.le_of_ble_eq_true rfl⟩ (Nat.le_of_ble_eq_true rfl) (Nat.le_of_ble_eq_true rfl) (rc_X7 G hS) rfl rfl (Nat.le_of_ble_eq_true rfl) dL_law_458 (kIiC (fun H locs hS => ?_))
        refine lv_aload_n F.1 F.2.1 dL_law_461 rfl (lv_at hl 2 rfl) ?_
        refine lv_aload_n F.1 F.2.1 dL_law_462 rfl (lv_at hl 0 rfl) ?_
        refine lv_iload_n F.1 F.2.1 dL_law_463 rfl (lv_at hl 3 rfl) ?_
        refine lv_iconst (v := (1 : Int32)) F.1 F.2.1 dL_law_464 (by decide) ?_
        refine lv_iadd F.1 F.2.1 dL_law_465 ?_
        obtain ⟨hin, h⟩ := gd h
        refine va_sld F.1 F.2.1 hX hbl hbA hS.2 (inB_vp hin) dL_law_466 ?_
        refine lv_aload_n F.1 F.2.1 dL_law_467 rfl (lv_at hl 0 rfl) ?_
        refine lv_iload_n F.1 F.2.1 dL_law_468 rfl (lv_at hl 3 rfl) ?_
        refine lv_iconst (v := (2 : Int32)) F.1 F.2.1 dL_law_469 (by decide) ?_
        refine lv_iadd F.1 F.2.1 dL_law_470 ?_
        obtain ⟨hin, h⟩ := gd h
        refine va_sld F.1 F.2.1 hX hbl hbA hS.2 (inB_vp hin) dL_law_471 ?_
        obtain ⟨q20, h_q20, h⟩ := bd h
        refine lVi F G hS hl.1 (c_X8_net l g q19.2 τ (xs (v3 + (1 : Int32)).toNatClampNeg) (xs (v3 + (2 : Int32)).toNatClampNeg) q20 h_q20) lk_L_55 ⟨rfl, rfl, Nat.le_of_ble_eq_true rfl, Nat.le_of_ble_eq_true rfl⟩ (Nat.le_of_ble_eq_true rfl) (Nat.le_of_ble_eq_true rfl) (rc_X8 G hS) rfl rfl (Nat.le_of_ble_eq_true rfl) dL_law_472 (kIiC (fun H locs hS => ?_))
        refine lv_icmp_eq (tgt := 1514) F.1 F.2.1 dL_law_475 (by decide) (fun hc => ?_) (fun hc => ?_)
        · replace h := ifT h hc
          exact w_1514 _ (fun σ τ v3 => ih σ τ v3) q20.2 τ v3 h H locs _ hS (lv_sub hl [0, 1, 2, 3] rfl)
        replace h := ifF h hc
        refine lv_iconst (v := (0 : Int32)) F.1 F.2.1 dL_law_478 (by decide) ?_
        cases h
      replace h := ifF h hc_9
      by_cases hc_10 : ((xs v3.toNatClampNeg) &&& (63 : Int32)) = (10 : Int32)
      · replace h := ifT h hc_10
        refine lv_tableIn (tgt := 480) F.1 F.2.1 dL_law_32 (by rw [hc_10]; decide) (by rw [hc_10]; decide) (by rw [hc_10]; rfl) (by decide) ?_
        refine lv_aload_n F.1 F.2.1 dL_law_480 rfl (lv_at hl 1 rfl) ?_
        refine lv_aload_n F.1 F.2.1 dL_law_481 rfl (lv_at hl 0 rfl) ?_
        refine lv_iload_n F.1 F.2.1 dL_law_482 rfl (lv_at hl 3 rfl) ?_
        refine lv_iconst (v := (1 : Int32)) F.1 F.2.1 dL_law_483 (by decide) ?_
        refine lv_iadd F.1 F.2.1 dL_law_484 ?_
        obtain ⟨hin, h⟩ := gd h
        refine va_sld F.1 F.2.1 hX hbl hbA hS.2 (inB_vp hin) dL_law_485 ?_
        refine lv_aload_n F.1 F.2.1 dL_law_486 rfl (lv_at hl 0 rfl) ?_
        refine lv_iload_n F.1 F.2.1 dL_law_487 rfl (lv_at hl 3 rfl) ?_
        refine lv_iconst (v := (2 : Int32)) F.1 F.2.1 dL_law_488 (by decide) ?_
        refine lv_iadd F.1 F.2.1 dL_law_489 ?_
        obtain ⟨hin, h⟩ := gd h
        refine va_sld F.1 F.2.1 hX hbl hbA hS.2 (inB_vp hin) dL_law_490 ?_
        refine lv_if_eq (tgt := 498) F.1 F.2.1 dL_law_491 (by decide) (fun hc => ?_) (fun hc => ?_)
        · replace h := ifT h hc
          refine lv_iconst (v := (0 : Int32)) F.1 F.2.1 dL_law_498 (by decide) ?_
          exact w_499 _ (fun σ τ v3 => ih σ τ v3) σ τ v3 (0 : Int32) (xs (v3 + (1 : Int32)).toNatClampNeg) h H locs _ hS (lv_sub hl [0, 1, 2, 3] rfl)
        replace h := ifF h hc
        refine lv_iconst (v := (1 : Int32)) F.1 F.2.1 dL_law_494 (by decide) ?_
        refine lv_goto (tgt := 499) F.1 F.2.1 dL_law_495 (by decide) ?_
        exact w_499 _ (fun σ τ v3 => ih σ τ v3) σ τ v3 (1 : Int32) (xs (v3 + (1 : Int32)).toNatClampNeg) h H locs _ hS (lv_sub hl [0, 1, 2, 3] rfl)
      replace h := ifF h hc_10
      by_cases hc_11 : ((xs v3.toNatClampNeg) &&& (63 : Int32)) = (11 : Int32)
      · replace h := ifT h hc_11
        refine lv_tableIn (tgt := 529) F.1 F.2.1 dL_law_32 (by rw [hc_11]; decide) (by rw [hc_11]; decide) (by rw [hc_11]; rfl) (by decide) ?_
        refine lv_aload_n F.1 F.2.1 dL_law_529 rfl (lv_at hl 1 rfl) ?_
        refine lv_aload_n F.1 F.2.1 dL_law_530 rfl (lv_at hl 0 rfl) ?_
        refine lv_iload_n F.1 F.2.1 dL_law_531 rfl (lv_at hl 3 rfl) ?_
        refine lv_iconst (v := (1 : Int32)) F.1 F.2.1 dL_law_532 (by decide) ?_
        refine lv_iadd F.1 F.2.1 dL_law_533 ?_
        obtain ⟨hin, h⟩ := gd h
        refine va_sld F.1 F.2.1 hX hbl hbA hS.2 (inB_vp hin) dL_law_534 ?_
        obtain ⟨q23, h_q23, h⟩ := bd h
        refine lVi F G hS hl.1 (c_X7_bridge l g σ τ (xs (v3 + (1 : Int32)).toNatClampNeg) q23 h_q23) lk_L_61 ⟨rfl, rfl, Nat.le_of_ble_eq_true rfl, Nat.le_of_ble_eq_true rfl⟩ (Nat.le_of_ble_eq_true rfl) (Nat.le_of_ble_eq_true rfl) (rc_X7 G hS) rfl rfl (Nat.le_of_ble_eq_true rfl) dL_law_535 (kIiC (fun H locs hS => ?_))
        refine lv_aload_n F.1 F.2.1 dL_law_538 rfl (lv_at hl 2 rfl) ?_
        refine lv_aload_n F.1 F.2.1 dL_law_539 rfl (lv_at hl 0 rfl) ?_
        refine lv_iload_n F.1 F.2.1 dL_law_540 rfl (lv_at hl 3 rfl) ?_
        refine lv_iconst (v := (1 : Int32)) F.1 F.2.1 dL_law_541 (by decide) ?_
        refine lv_iadd F.1 F.2.1 dL_law_542 ?_
        obtain ⟨hin, h⟩ := gd h
        refine va_sld F.1 F.2.1 hX hbl hbA hS.2 (inB_vp hin) dL_law_543 ?_
        obtain ⟨q24, h_q24, h⟩ := bd h
        refine lVi F G hS hl.1 (c_X8_bridge l g q23.2 τ (xs (v3 + (1 : Int32)).toNatClampNeg) q24 h_q24) lk_L_64 ⟨rfl, rfl, Nat.le_of_ble_eq_true rfl, Nat.le_of_ble_eq_true rfl⟩ (Nat.le_of_ble_eq_true rfl) (Nat.le_of_ble_eq_true rfl) (rc_X8 G hS) rfl rfl (Nat.le_of_ble_eq_true rfl) dL_law_544 (kIiC (fun H locs hS => ?_))
        refine lv_icmp_eq (tgt := 1514) F.1 F.2.1 dL_law_547 (by decide) (fun hc => ?_) (fun hc => ?_)
        · replace h := ifT h hc
          exact w_1514 _ (fun σ τ v3 => ih σ τ v3) q24.2 τ v3 h H locs _ hS (lv_sub hl [0, 1, 2, 3] rfl)
        replace h := ifF h hc
        refine lv_iconst (v := (0 : Int32)) F.1 F.2.1 dL_law_550 (by decide) ?_
        cases h
      replace h := ifF h hc_11
      by_cases hc_12 : ((xs v3.toNatClampNeg) &&& (63 : Int32)) = (12 : Int32)
      · replace h := ifT h hc_12
        refine lv_tableIn (tgt := 552) F.1 F.2.1 dL_law_32 (by rw [hc_12]; decide) (by rw [hc_12]; decide) (by rw [hc_12]; rfl) (by decide) ?_
        refine lv_aload_n F.1 F.2.1 dL_law_552 rfl (lv_at hl 1 rfl) ?_
        refine lv_aload_n F.1 F.2.1 dL_law_553 rfl (lv_at hl 0 rfl) ?_
        refine lv_iload_n F.1 F.2.1 dL_law_554 rfl (lv_at hl 3 rfl) ?_
        refine lv_iconst (v := (1 : Int32)) F.1 F.2.1 dL_law_555 (by decide) ?_
        refine lv_iadd F.1 F.2.1 dL_law_556 ?_
        obtain ⟨hin, h⟩ := gd h
        refine va_sld F.1 F.2.1 hX hbl hbA hS.2 (inB_vp hin) dL_law_557 ?_
        refine lv_aload_n F.1 F.2.1 dL_law_558 rfl (lv_at hl 0 rfl) ?_
        refine lv_iload_n F.1 F.2.1 dL_law_559 rfl (lv_at hl 3 rfl) ?_
        refine lv_iconst (v := (2 : Int32)) F.1 F.2.1 dL_law_560 (by decide) ?_
        refine lv_iadd F.1 F.2.1 dL_law_561 ?_
        obtain ⟨hin, h⟩ := gd h
        refine va_sld F.1 F.2.1 hX hbl hbA hS.2 (inB_vp hin) dL_law_562 ?_
        obtain ⟨q25, h_q25, h⟩ := bd h
        refine lVi F G hS hl.1 (c_X7_clear l g σ τ (xs (v3 + (1 : Int32)).toNatClampNeg) (xs (v3 + (2 : Int32)).toNatClampNeg) q25 h_q25) lk_L_65 ⟨rfl, rfl, Nat.le_of_ble_eq_true rfl, Nat.le_of_ble_eq_true rfl⟩ (Nat.le_of_ble_eq_true rfl) (Nat.le_of_ble_eq_true rfl) (rc_X7 G hS) rfl rfl (Nat.le_of_ble_eq_true rfl) dL_law_563 (kIiC (fun H locs hS => ?_))
        refine lv_aload_n F.1 F.2.1 dL_law_566 rfl (lv_at hl 2 rfl) ?_
        refine lv_aload_n F.1 F.2.1 dL_law_567 rfl (lv_at hl 0 rfl) ?_
        refine lv_iload_n F.1 F.2.1 dL_law_568 rfl (lv_at hl 3 rfl) ?_
        refine lv_iconst (v := (1 : Int32)) F.1 F.2.1 dL_law_569 (by decide) ?_
        refine lv_iadd F.1 F.2.1 dL_law_570 ?_
        obtain ⟨hin, h⟩ := gd h
        refine va_sld F.1 F.2.1 hX hbl hbA hS.2 (inB_vp hin) dL_law_571 ?_
        refine lv_aload_n F.1 F.2.1 dL_law_572 rfl (lv_at hl 0 rfl) ?_
        refine lv_iload_n F.1 F.2.1 dL_law_573 rfl (lv_at hl 3 rfl) ?_
        refine lv_iconst (v := (2 : Int32)) F.1 F.2.1 dL_law_574 (by decide) ?_
        refine lv_iadd F.1 F.2.1 dL_law_575 ?_
        obtain ⟨hin, h⟩ := gd h
        refine va_sld F.1 F.2.1 hX hbl hbA hS.2 (inB_vp hin) dL_law_576 ?_
        obtain ⟨q26, h_q26, h⟩ := bd h
        refine lVi F G hS hl.1 (c_X8_clear l g q25.2 τ (xs (v3 + (1 : Int32)).toNatClampNeg) (xs (v3 + (2 : Int32)).toNatClampNeg) q26 h_q26) lk_L_68 ⟨rfl, rfl, Nat.le_of_ble_eq_true rfl, Nat.le_of_ble_eq_true rfl⟩ (Nat.le_of_ble_eq_true rfl) (Nat.le_of_ble_eq_true rfl) (rc_X8 G hS) rfl rfl (Nat.le_of_ble_eq_true rfl) dL_law_577 (kIiC (fun H locs hS => ?_))
        refine lv_icmp_eq (tgt := 1514) F.1 F.2.1 dL_law_580 (by decide) (fun hc => ?_) (fun hc => ?_)
        · replace h := ifT h hc
          exact w_1514 _ (fun σ τ v3 => ih σ τ v3) q26.2 τ v3 h H locs _ hS (lv_sub hl [0, 1, 2, 3] rfl)
        replace h := ifF h hc
        refine lv_iconst (v := (0 : Int32)) F.1 F.2.1 dL_law_583 (by decide) ?_
        cases h
      replace h := ifF h hc_12
      by_cases hc_13 : ((xs v3.toNatClampNeg) &&& (63 : Int32)) = (13 : Int32)
      · replace h := ifT h hc_13
        refine lv_tableIn (tgt := 585) F.1 F.2.1 dL_law_32 (by rw [hc_13]; decide) (by rw [hc_13]; decide) (by rw [hc_13]; rfl) (by decide) ?_
        refine lv_aload_n F.1 F.2.1 dL_law_585 rfl (lv_at hl 1 rfl) ?_
        refine lv_aload_n F.1 F.2.1 dL_law_586 rfl (lv_at hl 0 rfl) ?_
        refine lv_iload_n F.1 F.2.1 dL_law_587 rfl (lv_at hl 3 rfl) ?_
        refine lv_iconst (v := (1 : Int32)) F.1 F.2.1 dL_law_588 (by decide) ?_
        refine lv_iadd F.1 F.2.1 dL_law_589 ?_
        obtain ⟨hin, h⟩ := gd h
        refine va_sld F.1 F.2.1 hX hbl hbA hS.2 (inB_vp hin) dL_law_590 ?_
        refine lv_aload_n F.1 F.2.1 dL_law_591 rfl (lv_at hl 0 rfl) ?_
        refine lv_iload_n F.1 F.2.1 dL_law_592 rfl (lv_at hl 3 rfl) ?_
        refine lv_iconst (v := (2 : Int32)) F.1 F.2.1 dL_law_593 (by decide) ?_
        refine lv_iadd F.1 F.2.1 dL_law_594 ?_
        obtain ⟨hin, h⟩ := gd h
        refine va_sld F.1 F.2.1 hX hbl hbA hS.2 (inB_vp hin) dL_law_595 ?_
        obtain ⟨q27, h_q27, h⟩ := bd h
        refine lVi F G hS hl.1 (c_X7_hang l g σ τ (xs (v3 + (1 : Int32)).toNatClampNeg) (xs (v3 + (2 : Int32)).toNatClampNeg) q27 h_q27) lk_L_69 ⟨rfl, rfl, Nat.le_of_ble_eq_true rfl, Nat.le_of_ble_eq_true rfl⟩ (Nat.le_of_ble_eq_true rfl) (Nat.le_of_ble_eq_true rfl) (rc_X7 G hS) rfl rfl (Nat.le_of_ble_eq_true rfl) dL_law_596 (kIiC (fun H locs hS => ?_))
        refine lv_aload_n F.1 F.2.1 dL_law_599 rfl (lv_at hl 2 rfl) ?_
        refine lv_aload_n F.1 F.2.1 dL_law_600 rfl (lv_at hl 0 rfl) ?_
        refine lv_iload_n F.1 F.2.1 dL_law_601 rfl (lv_at hl 3 rfl) ?_
        refine lv_iconst (v := (1 : Int32)) F.1 F.2.1 dL_law_602 (by decide) ?_
        refine lv_iadd F.1 F.2.1 dL_law_603 ?_
        obtain ⟨hin, h⟩ := gd h
        refine va_sld F.1 F.2.1 hX hbl hbA hS.2 (inB_vp hin) dL_law_604 ?_
        refine lv_aload_n F.1 F.2.1 dL_law_605 rfl (lv_at hl 0 rfl) ?_
        refine lv_iload_n F.1 F.2.1 dL_law_606 rfl (lv_at hl 3 rfl) ?_
        refine lv_iconst (v := (2 : Int32)) F.1 F.2.1 dL_law_607 (by decide) ?_
        refine lv_iadd F.1 F.2.1 dL_law_608 ?_
        obtain ⟨hin, h⟩ := gd h
        refine va_sld F.1 F.2.1 hX hbl hbA hS.2 (inB_vp hin) dL_law_609 ?_
        obtain ⟨q28, h_q28, h⟩ := bd h
        refine lVi F G hS hl.1 (c_X8_hang l g q27.2 τ (xs (v3 + (1 : Int32)).toNatClampNeg) (xs (v3 + (2 : Int32)).toNatClampNeg) q28 h_q28) lk_L_72 ⟨rfl, rfl, Nat.le_of_ble_eq_true rfl, Nat.le_of_ble_eq_true rfl⟩ (Nat.le_of_ble_eq_true rfl) (Nat.le_of_ble_eq_true rfl) (rc_X8 G hS) rfl rfl (Nat.le_of_ble_eq_true rfl) dL_law_610 (kIiC (fun H locs hS => ?_))
        refine lv_icmp_eq (tgt := 1514) F.1 F.2.1 dL_law_613 (by decide) (fun hc => ?_) (fun hc => ?_)
        · replace h := ifT h hc
          exact w_1514 _ (fun σ τ v3 => ih σ τ v3) q28.2 τ v3 h H locs _ hS (lv_sub hl [0, 1, 2, 3] rfl)
        replace h := ifF h hc
        refine lv_iconst (v := (0 : Int32)) F.1 F.2.1 dL_law_616 (by decide) ?_
        cases h
      replace h := ifF h hc_13
      by_cases hc_14 : ((xs v3.toNatClampNeg) &&& (63 : Int32)) = (14 : Int32)
      · replace h := ifT h hc_14
        refine lv_tableIn (tgt := 618) F.1 F.2.1 dL_law_32 (by rw [hc_14]; decide) (by rw [hc_14]; decide) (by rw [hc_14]; rfl) (by decide) ?_
        refine lv_aload_n F.1 F.2.1 dL_law_618 rfl (lv_at hl 1 rfl) ?_
        refine lv_aload_n F.1 F.2.1 dL_law_619 rfl (lv_at hl 0 rfl) ?_
        refine lv_iload_n F.1 F.2.1 dL_law_620 rfl (lv_at hl 3 rfl) ?_
        refine lv_iconst (v := (1 : Int32)) F.1 F.2.1 dL_law_621 (by decide) ?_
        refine lv_iadd F.1 F.2.1 dL_law_622 ?_
        obtain ⟨hin, h⟩ := gd h
        refine va_sld F.1 F.2.1 hX hbl hbA hS.2 (inB_vp hin) dL_law_623 ?_
        refine lv_aload_n F.1 F.2.1 dL_law_624 rfl (lv_at hl 0 rfl) ?_
        refine lv_iload_n F.1 F.2.1 dL_law_625 rfl (lv_at hl 3 rfl) ?_
        refine lv_iconst (v := (2 : Int32)) F.1 F.2.1 dL_law_626 (by decide) ?_
        refine lv_iadd F.1 F.2.1 dL_law_627 ?_
        obtain ⟨hin, h⟩ := gd h
        refine va_sld F.1 F.2.1 hX hbl hbA hS.2 (inB_vp hin) dL_law_628 ?_
        obtain ⟨q29, h_q29, h⟩ := bd h
        refine lVi F G hS hl.1 (c_X7_post l g σ τ (xs (v3 + (1 : Int32)).toNatClampNeg) (xs (v3 + (2 : Int32)).toNatClampNeg) q29 h_q29) lk_L_73 ⟨rfl, rfl, Nat.le_of_ble_eq_true rfl, Nat.le_of_ble_eq_true rfl⟩ (Nat.le_of_ble_eq_true rfl) (Nat.le_of_ble_eq_true rfl) (rc_X7 G hS) rfl rfl (Nat.le_of_ble_eq_true rfl) dL_law_629 (kIiC (fun H locs hS => ?_))
        refine lv_aload_n F.1 F.2.1 dL_law_632 rfl (lv_at hl 2 rfl) ?_
        refine lv_aload_n F.1 F.2.1 dL_law_633 rfl (lv_at hl 0 rfl) ?_
        refine lv_iload_n F.1 F.2.1 dL_law_634 rfl (lv_at hl 3 rfl) ?_
        refine lv_iconst (v := (1 : Int32)) F.1 F.2.1 dL_law_635 (by decide) ?_
        refine lv_iadd F.1 F.2.1 dL_law_636 ?_
        obtain ⟨hin, h⟩ := gd h
        refine va_sld F.1 F.2.1 hX hbl hbA hS.2 (inB_vp hin) dL_law_637 ?_
        refine lv_aload_n F.1 F.2.1 dL_law_638 rfl (lv_at hl 0 rfl) ?_
        refine lv_iload_n F.1 F.2.1 dL_law_639 rfl (lv_at hl 3 rfl) ?_
        refine lv_iconst (v := (2 : Int32)) F.1 F.2.1 dL_law_640 (by decide) ?_
        refine lv_iadd F.1 F.2.1 dL_law_641 ?_
        obtain ⟨hin, h⟩ := gd h
        refine va_sld F.1 F.2.1 hX hbl hbA hS.2 (inB_vp hin) dL_law_642 ?_
        obtain ⟨q30, h_q30, h⟩ := bd h
        refine lVi F G hS hl.1 (c_X8_post l g q29.2 τ (xs (v3 + (1 : Int32)).toNatClampNeg) (xs (v3 + (2 : Int32)).toNatClampNeg) q30 h_q30) lk_L_76 ⟨rfl, rfl, Nat.le_of_ble_eq_true rfl, Nat.le_of_ble_eq_true rfl⟩ (Nat.le_of_ble_eq_true rfl) (Nat.le_of_ble_eq_true rfl) (rc_X8 G hS) rfl rfl (Nat.le_of_ble_eq_true rfl) dL_law_643 (kIiC (fun H locs hS => ?_))
        refine lv_icmp_eq (tgt := 1514) F.1 F.2.1 dL_law_646 (by decide) (fun hc => ?_) (fun hc => ?_)
        · replace h := ifT h hc
          exact w_1514 _ (fun σ τ v3 => ih σ τ v3) q30.2 τ v3 h H locs _ hS (lv_sub hl [0, 1, 2, 3] rfl)
        replace h := ifF h hc
        refine lv_iconst (v := (0 : Int32)) F.1 F.2.1 dL_law_649 (by decide) ?_
        cases h
      replace h := ifF h hc_14
      by_cases hc_15 : ((xs v3.toNatClampNeg) &&& (63 : Int32)) = (15 : Int32)
      · replace h := ifT h hc_15
        refine lv_tableIn (tgt := 651) F.1 F.2.1 dL_law_32 (by rw [hc_15]; decide) (by rw [hc_15]; decide) (by rw [hc_15]; rfl) (by decide) ?_
        refine lv_aload_n F.1 F.2.1 dL_law_651 rfl (lv_at hl 1 rfl) ?_
        refine lv_aload_n F.1 F.2.1 dL_law_652 rfl (lv_at hl 0 rfl) ?_
        refine lv_iload_n F.1 F.2.1 dL_law_653 rfl (lv_at hl 3 rfl) ?_
        refine lv_iconst (v := (1 : Int32)) F.1 F.2.1 dL_law_654 (by decide) ?_
        refine lv_iadd F.1 F.2.1 dL_law_655 ?_
        obtain ⟨hin, h⟩ := gd h
        refine va_sld F.1 F.2.1 hX hbl hbA hS.2 (inB_vp hin) dL_law_656 ?_
        refine lv_aload_n F.1 F.2.1 dL_law_657 rfl (lv_at hl 0 rfl) ?_
        refine lv_iload_n F.1 F.2.1 dL_law_658 rfl (lv_at hl 3 rfl) ?_
        refine lv_iconst (v := (2 : Int32)) F.1 F.2.1 dL_law_659 (by decide) ?_
        refine lv_iadd F.1 F.2.1 dL_law_660 ?_
        obtain ⟨hin, h⟩ := gd h
        refine va_sld F.1 F.2.1 hX hbl hbA hS.2 (inB_vp hin) dL_law_661 ?_
        refine lv_aload_n F.1 F.2.1 dL_law_662 rfl (lv_at hl 0 rfl) ?_
        refine lv_iload_n F.1 F.2.1 dL_law_663 rfl (lv_at hl 3 rfl) ?_
        refine lv_iconst (v := (3 : Int32)) F.1 F.2.1 dL_law_664 (by decide) ?_
        refine lv_iadd F.1 F.2.1 dL_law_665 ?_
        obtain ⟨hin, h⟩ := gd h
        refine va_sld F.1 F.2.1 hX hbl hbA hS.2 (inB_vp hin) dL_law_666 ?_
        obtain ⟨q31, h_q31, h⟩ := bd h
        refine lVi F G hS hl.1 (c_X7_night l g σ τ (xs (v3 + (1 : Int32)).toNatClampNeg) (xs (v3 + (2 : Int32)).toNatClampNeg) (xs (v3 + (3 : Int32)).toNatClampNeg) q31 h_q31) lk_L_77 ⟨rfl, rfl, Nat.le_of_ble_eq_true rfl, Nat.le_of_ble_eq_true rfl⟩ (Nat.le_of_ble_eq_true rfl) (Nat.le_of_ble_eq_true rfl) (rc_X7 G hS) rfl rfl (Nat.le_of_ble_eq_true rfl) dL_law_667 (kIiC (fun H locs hS => ?_))
        refine lv_aload_n F.1 F.2.1 dL_law_670 rfl (lv_at hl 2 rfl) ?_
        refine lv_aload_n F.1 F.2.1 dL_law_671 rfl (lv_at hl 0 rfl) ?_
        refine lv_iload_n F.1 F.2.1 dL_law_672 rfl (lv_at hl 3 rfl) ?_
        refine lv_iconst (v := (1 : Int32)) F.1 F.2.1 dL_law_673 (by decide) ?_
        refine lv_iadd F.1 F.2.1 dL_law_674 ?_
        obtain ⟨hin, h⟩ := gd h
        refine va_sld F.1 F.2.1 hX hbl hbA hS.2 (inB_vp hin) dL_law_675 ?_
        refine lv_aload_n F.1 F.2.1 dL_law_676 rfl (lv_at hl 0 rfl) ?_
        refine lv_iload_n F.1 F.2.1 dL_law_677 rfl (lv_at hl 3 rfl) ?_
        refine lv_iconst (v := (2 : Int32)) F.1 F.2.1 dL_law_678 (by decide) ?_
        refine lv_iadd F.1 F.2.1 dL_law_679 ?_
        obtain ⟨hin, h⟩ := gd h
        refine va_sld F.1 F.2.1 hX hbl hbA hS.2 (inB_vp hin) dL_law_680 ?_
        refine lv_aload_n F.1 F.2.1 dL_law_681 rfl (lv_at hl 0 rfl) ?_
        refine lv_iload_n F.1 F.2.1 dL_law_682 rfl (lv_at hl 3 rfl) ?_
        refine lv_iconst (v := (3 : Int32)) F.1 F.2.1 dL_law_683 (by decide) ?_
        refine lv_iadd F.1 F.2.1 dL_law_684 ?_
        obtain ⟨hin, h⟩ := gd h
        refine va_sld F.1 F.2.1 hX hbl hbA hS.2 (inB_vp hin) dL_law_685 ?_
        obtain ⟨q32, h_q32, h⟩ := bd h
        refine lVi F G hS hl.1 (c_X8_night l g q31.2 τ (xs (v3 + (1 : Int32)).toNatClampNeg) (xs (v3 + (2 : Int32)).toNatClampNeg) (xs (v3 + (3 : Int32)).toNatClampNeg) q32 h_q32) lk_L_81 ⟨rfl, rfl, Nat.le_of_ble_eq_true rfl, Nat.le_of_ble_eq_true rfl⟩ (Nat.le_of_ble_eq_true rfl) (Nat.le_of_ble_eq_true rfl) (rc_X8 G hS) rfl rfl (Nat.le_of_ble_eq_true rfl) dL_law_686 (kIiC (fun H locs hS => ?_))
        refine lv_icmp_eq (tgt := 1514) F.1 F.2.1 dL_law_689 (by decide) (fun hc => ?_) (fun hc => ?_)
        · replace h := ifT h hc
          exact w_1514 _ (fun σ τ v3 => ih σ τ v3) q32.2 τ v3 h H locs _ hS (lv_sub hl [0, 1, 2, 3] rfl)
        replace h := ifF h hc
        refine lv_iconst (v := (0 : Int32)) F.1 F.2.1 dL_law_692 (by decide) ?_
        cases h
      replace h := ifF h hc_15
      by_cases hc_16 : ((xs v3.toNatClampNeg) &&& (63 : Int32)) = (16 : Int32)
      · replace h := ifT h hc_16
        refine lv_tableIn (tgt := 694) F.1 F.2.1 dL_law_32 (by rw [hc_16]; decide) (by rw [hc_16]; decide) (by rw [hc_16]; rfl) (by decide) ?_
        refine lv_aload_n F.1 F.2.1 dL_law_694 rfl (lv_at hl 1 rfl) ?_
        refine lv_aload_n F.1 F.2.1 dL_law_695 rfl (lv_at hl 0 rfl) ?_
        refine lv_iload_n F.1 F.2.1 dL_law_696 rfl (lv_at hl 3 rfl) ?_
        refine lv_iconst (v := (1 : Int32)) F.1 F.2.1 dL_law_697 (by decide) ?_
        refine lv_iadd F.1 F.2.1 dL_law_698 ?_
        obtain ⟨hin, h⟩ := gd h
        refine va_sld F.1 F.2.1 hX hbl hbA hS.2 (inB_vp hin) dL_law_699 ?_
        refine lv_aload_n F.1 F.2.1 dL_law_700 rfl (lv_at hl 0 rfl) ?_
        refine lv_iload_n F.1 F.2.1 dL_law_701 rfl (lv_at hl 3 rfl) ?_
        refine lv_iconst (v := (2 : Int32)) F.1 F.2.1 dL_law_702 (by decide) ?_
        refine lv_iadd F.1 F.2.1 dL_law_703 ?_
        obtain ⟨hin, h⟩ := gd h
        refine va_sld F.1 F.2.1 hX hbl hbA hS.2 (inB_vp hin) dL_law_704 ?_
        refine lv_aload_n F.1 F.2.1 dL_law_705 rfl (lv_at hl 0 rfl) ?_
        refine lv_iload_n F.1 F.2.1 dL_law_706 rfl (lv_at hl 3 rfl) ?_
        refine lv_iconst (v := (3 : Int32)) F.1 F.2.1 dL_law_707 (by decide) ?_
        refine lv_iadd F.1 F.2.1 dL_law_708 ?_
        obtain ⟨hin, h⟩ := gd h
        refine va_sld F.1 F.2.1 hX hbl hbA hS.2 (inB_vp hin) dL_law_709 ?_
        obtain ⟨q33, h_q33, h⟩ := bd h
        refine lVi F G hS hl.1 (c_X7_counts l g σ τ (xs (v3 + (1 : Int32)).toNatClampNeg) (xs (v3 + (2 : Int32)).toNatClampNeg) (xs (v3 + (3 : Int32)).toNatClampNeg) q33 h_q33) lk_L_82 ⟨rfl, rfl, Nat.le_of_ble_eq_true rfl, Nat.le_of_ble_eq_true rfl⟩ (Nat.le_of_ble_eq_true rfl) (Nat.le_of_ble_eq_true rfl) (rc_X7 G hS) rfl rfl (Nat.le_of_ble_eq_true rfl) dL_law_710 (kRiC (fun H locs hS => ?_))
        refine lv_aload_n F.1 F.2.1 dL_law_713 rfl (lv_at hl 2 rfl) ?_
        refine lv_aload_n F.1 F.2.1 dL_law_714 rfl (lv_at hl 0 rfl) ?_
        refine lv_iload_n F.1 F.2.1 dL_law_715 rfl (lv_at hl 3 rfl) ?_
        refine lv_iconst (v := (1 : Int32)) F.1 F.2.1 dL_law_716 (by decide) ?_
        refine lv_iadd F.1 F.2.1 dL_law_717 ?_
        obtain ⟨hin, h⟩ := gd h
        refine va_sld F.1 F.2.1 hX hbl hbA hS.2 (inB_vp hin) dL_law_718 ?_
        refine lv_aload_n F.1 F.2.1 dL_law_719 rfl (lv_at hl 0 rfl) ?_
        refine lv_iload_n F.1 F.2.1 dL_law_720 rfl (lv_at hl 3 rfl) ?_
        refine lv_iconst (v := (2 : Int32)) F.1 F.2.1 dL_law_721 (by decide) ?_
        refine lv_iadd F.1 F.2.1 dL_law_722 ?_
        obtain ⟨hin, h⟩ := gd h
        refine va_sld F.1 F.2.1 hX hbl hbA hS.2 (inB_vp hin) dL_law_723 ?_
        refine lv_aload_n F.1 F.2.1 dL_law_724 rfl (lv_at hl 0 rfl) ?_
        refine lv_iload_n F.1 F.2.1 dL_law_725 rfl (lv_at hl 3 rfl) ?_
        refine lv_iconst (v := (3 : Int32)) F.1 F.2.1 dL_law_726 (by decide) ?_
        refine lv_iadd F.1 F.2.1 dL_law_727 ?_
        obtain ⟨hin, h⟩ := gd h
        refine va_sld F.1 F.2.1 hX hbl hbA hS.2 (inB_vp hin) dL_law_728 ?_
        obtain ⟨q34, h_q34, h⟩ := bd h
        refine lVi F G hS hl.1 (c_X8_counts l g σ τ (xs (v3 + (1 : Int32)).toNatClampNeg) (xs (v3 + (2 : Int32)).toNatClampNeg) (xs (v3 + (3 : Int32)).toNatClampNeg) q34 h_q34) lk_L_85 ⟨rfl, rfl, Nat.le_of_ble_eq_true rfl, Nat.le_of_ble_eq_true rfl⟩ (Nat.le_of_ble_eq_true rfl) (Nat.le_of_ble_eq_true rfl) (rc_X8 G hS) rfl rfl (Nat.le_of_ble_eq_true rfl) dL_law_729 (kIiC (fun H locs hS => ?_))
        refine lv_icmp_eq (tgt := 1514) F.1 F.2.1 dL_law_732 (by decide) (fun hc => ?_) (fun hc => ?_)
        · replace h := ifT h hc
          exact w_1514 _ (fun σ τ v3 => ih σ τ v3) q34.2 τ v3 h H locs _ hS (lv_sub hl [0, 1, 2, 3] rfl)
        replace h := ifF h hc
        refine lv_iconst (v := (0 : Int32)) F.1 F.2.1 dL_law_735 (by decide) ?_
        cases h
      replace h := ifF h hc_16
      by_cases hc_17 : ((xs v3.toNatClampNeg) &&& (63 : Int32)) = (17 : Int32)
      · replace h := ifT h hc_17
        refine lv_tableIn (tgt := 737) F.1 F.2.1 dL_law_32 (by rw [hc_17]; decide) (by rw [hc_17]; decide) (by rw [hc_17]; rfl) (by decide) ?_
        refine lv_aload_n F.1 F.2.1 dL_law_737 rfl (lv_at hl 1 rfl) ?_
        refine lv_aload_n F.1 F.2.1 dL_law_738 rfl (lv_at hl 0 rfl) ?_
        refine lv_iload_n F.1 F.2.1 dL_law_739 rfl (lv_at hl 3 rfl) ?_
        refine lv_iconst (v := (1 : Int32)) F.1 F.2.1 dL_law_740 (by decide) ?_
        refine lv_iadd F.1 F.2.1 dL_law_741 ?_
        obtain ⟨hin, h⟩ := gd h
        refine va_sld F.1 F.2.1 hX hbl hbA hS.2 (inB_vp hin) dL_law_742 ?_
        refine lv_aload_n F.1 F.2.1 dL_law_743 rfl (lv_at hl 0 rfl) ?_
        refine lv_iload_n F.1 F.2.1 dL_law_744 rfl (lv_at hl 3 rfl) ?_
        refine lv_iconst (v := (2 : Int32)) F.1 F.2.1 dL_law_745 (by decide) ?_
        refine lv_iadd F.1 F.2.1 dL_law_746 ?_
        obtain ⟨hin, h⟩ := gd h
        refine va_sld F.1 F.2.1 hX hbl hbA hS.2 (inB_vp hin) dL_law_747 ?_
        refine lv_aload_n F.1 F.2.1 dL_law_748 rfl (lv_at hl 0 rfl) ?_
        refine lv_iload_n F.1 F.2.1 dL_law_749 rfl (lv_at hl 3 rfl) ?_
        refine lv_iconst (v := (3 : Int32)) F.1 F.2.1 dL_law_750 (by decide) ?_
        refine lv_iadd F.1 F.2.1 dL_law_751 ?_
        obtain ⟨hin, h⟩ := gd h
        refine va_sld F.1 F.2.1 hX hbl hbA hS.2 (inB_vp hin) dL_law_752 ?_
        obtain ⟨q35, h_q35, h⟩ := bd h
        refine lVl F G hS hl.1 (c_X7_where l g σ τ (xs (v3 + (1 : Int32)).toNatClampNeg) (xs (v3 + (2 : Int32)).toNatClampNeg) (xs (v3 + (3 : Int32)).toNatClampNeg) q35 h_q35) lk_L_86 ⟨rfl, rfl, Nat.le_of_ble_eq_true rfl, Nat.le_of_ble_eq_true rfl⟩ (Nat.le_of_ble_eq_true rfl) (Nat.le_of_ble_eq_true rfl) (rc_X7 G hS) rfl rfl (Nat.le_of_ble_eq_true rfl) dL_law_753 (kBlC (fun H locs hS => ?_))
        refine lv_aload_n F.1 F.2.1 dL_law_756 rfl (lv_at hl 2 rfl) ?_
        refine lv_aload_n F.1 F.2.1 dL_law_757 rfl (lv_at hl 0 rfl) ?_
        refine lv_iload_n F.1 F.2.1 dL_law_758 rfl (lv_at hl 3 rfl) ?_
        refine lv_iconst (v := (1 : Int32)) F.1 F.2.1 dL_law_759 (by decide) ?_
        refine lv_iadd F.1 F.2.1 dL_law_760 ?_
        obtain ⟨hin, h⟩ := gd h
        refine va_sld F.1 F.2.1 hX hbl hbA hS.2 (inB_vp hin) dL_law_761 ?_
        refine lv_aload_n F.1 F.2.1 dL_law_762 rfl (lv_at hl 0 rfl) ?_
        refine lv_iload_n F.1 F.2.1 dL_law_763 rfl (lv_at hl 3 rfl) ?_
        refine lv_iconst (v := (2 : Int32)) F.1 F.2.1 dL_law_764 (by decide) ?_
        refine lv_iadd F.1 F.2.1 dL_law_765 ?_
        obtain ⟨hin, h⟩ := gd h
        refine va_sld F.1 F.2.1 hX hbl hbA hS.2 (inB_vp hin) dL_law_766 ?_
        refine lv_aload_n F.1 F.2.1 dL_law_767 rfl (lv_at hl 0 rfl) ?_
        refine lv_iload_n F.1 F.2.1 dL_law_768 rfl (lv_at hl 3 rfl) ?_
        refine lv_iconst (v := (3 : Int32)) F.1 F.2.1 dL_law_769 (by decide) ?_
        refine lv_iadd F.1 F.2.1 dL_law_770 ?_
        obtain ⟨hin, h⟩ := gd h
        refine va_sld F.1 F.2.1 hX hbl hbA hS.2 (inB_vp hin) dL_law_771 ?_
        obtain ⟨q36, h_q36, h⟩ := bd h
        refine lVl F G hS hl.1 (c_X8_where l g q35.2.1 q35.2.2 (xs (v3 + (1 : Int32)).toNatClampNeg) (xs (v3 + (2 : Int32)).toNatClampNeg) (xs (v3 + (3 : Int32)).toNatClampNeg) q36 h_q36) lk_L_90 ⟨rfl, rfl, Nat.le_of_ble_eq_true rfl, Nat.le_of_ble_eq_true rfl⟩ (Nat.le_of_ble_eq_true rfl) (Nat.le_of_ble_eq_true rfl) (rc_X8 G hS) rfl rfl (Nat.le_of_ble_eq_true rfl) dL_law_772 (kIlC (fun H locs hS => ?_))
        refine W.lcmp F.1 F.2.1 dL_law_775 ?_
        refine lv_if_eq (tgt := 1514) F.1 F.2.1 dL_law_776 (by decide) (fun hc => ?_) (fun hc => ?_)
        · replace h := ifT h hc
          exact w_1514 _ (fun σ τ v3 => ih σ τ v3) q36.2 q35.2.2 v3 h H locs _ hS (lv_sub hl [0, 1, 2, 3] rfl)
        replace h := ifF h hc
        refine lv_iconst (v := (0 : Int32)) F.1 F.2.1 dL_law_779 (by decide) ?_
        cases h
      replace h := ifF h hc_17
      by_cases hc_18 : ((xs v3.toNatClampNeg) &&& (63 : Int32)) = (18 : Int32)
      · replace h := ifT h hc_18
        refine lv_tableIn (tgt := 781) F.1 F.2.1 dL_law_32 (by rw [hc_18]; decide) (by rw [hc_18]; decide) (by rw [hc_18]; rfl) (by decide) ?_
        refine lv_aload_n F.1 F.2.1 dL_law_781 rfl (lv_at hl 1 rfl) ?_
        refine lv_aload_n F.1 F.2.1 dL_law_782 rfl (lv_at hl 0 rfl) ?_
        refine lv_iload_n F.1 F.2.1 dL_law_783 rfl (lv_at hl 3 rfl) ?_
        refine lv_iconst (v := (1 : Int32)) F.1 F.2.1 dL_law_784 (by decide) ?_
        refine lv_iadd F.1 F.2.1 dL_law_785 ?_
        obtain ⟨hin, h⟩ := gd h
        refine va_sld F.1 F.2.1 hX hbl hbA hS.2 (inB_vp hin) dL_law_786 ?_
        refine lv_aload_n F.1 F.2.1 dL_law_787 rfl (lv_at hl 0 rfl) ?_
        refine lv_iload_n F.1 F.2.1 dL_law_788 rfl (lv_at hl 3 rfl) ?_
        refine lv_iconst (v := (2 : Int32)) F.1 F.2.1 dL_law_789 (by decide) ?_
        refine lv_iadd F.1 F.2.1 dL_law_790 ?_
        obtain ⟨hin, h⟩ := gd h
        refine va_sld F.1 F.2.1 hX hbl hbA hS.2 (inB_vp hin) dL_law_791 ?_
        obtain ⟨q37, h_q37, h⟩ := bd h
        refine lVl F G hS hl.1 (c_X7_goes l g σ τ (xs (v3 + (1 : Int32)).toNatClampNeg) (xs (v3 + (2 : Int32)).toNatClampNeg) q37 h_q37) lk_L_91 ⟨rfl, rfl, Nat.le_of_ble_eq_true rfl, Nat.le_of_ble_eq_true rfl⟩ (Nat.le_of_ble_eq_true rfl) (Nat.le_of_ble_eq_true rfl) (rc_X7 G hS) rfl rfl (Nat.le_of_ble_eq_true rfl) dL_law_792 (kBlC (fun H locs hS => ?_))
        refine lv_aload_n F.1 F.2.1 dL_law_795 rfl (lv_at hl 2 rfl) ?_
        refine lv_aload_n F.1 F.2.1 dL_law_796 rfl (lv_at hl 0 rfl) ?_
        refine lv_iload_n F.1 F.2.1 dL_law_797 rfl (lv_at hl 3 rfl) ?_
        refine lv_iconst (v := (1 : Int32)) F.1 F.2.1 dL_law_798 (by decide) ?_
        refine lv_iadd F.1 F.2.1 dL_law_799 ?_
        obtain ⟨hin, h⟩ := gd h
        refine va_sld F.1 F.2.1 hX hbl hbA hS.2 (inB_vp hin) dL_law_800 ?_
        refine lv_aload_n F.1 F.2.1 dL_law_801 rfl (lv_at hl 0 rfl) ?_
        refine lv_iload_n F.1 F.2.1 dL_law_802 rfl (lv_at hl 3 rfl) ?_
        refine lv_iconst (v := (2 : Int32)) F.1 F.2.1 dL_law_803 (by decide) ?_
        refine lv_iadd F.1 F.2.1 dL_law_804 ?_
        obtain ⟨hin, h⟩ := gd h
        refine va_sld F.1 F.2.1 hX hbl hbA hS.2 (inB_vp hin) dL_law_805 ?_
        obtain ⟨q38, h_q38, h⟩ := bd h
        refine lVl F G hS hl.1 (c_X8_goes l g q37.2.1 q37.2.2 (xs (v3 + (1 : Int32)).toNatClampNeg) (xs (v3 + (2 : Int32)).toNatClampNeg) q38 h_q38) lk_L_95 ⟨rfl, rfl, Nat.le_of_ble_eq_true rfl, Nat.le_of_ble_eq_true rfl⟩ (Nat.le_of_ble_eq_true rfl) (Nat.le_of_ble_eq_true rfl) (rc_X8 G hS) rfl rfl (Nat.le_of_ble_eq_true rfl) dL_law_806 (kIlC (fun H locs hS => ?_))
        refine W.lcmp F.1 F.2.1 dL_law_809 ?_
        refine lv_if_eq (tgt := 1514) F.1 F.2.1 dL_law_810 (by decide) (fun hc => ?_) (fun hc => ?_)
        · replace h := ifT h hc
          exact w_1514 _ (fun σ τ v3 => ih σ τ v3) q38.2 q37.2.2 v3 h H locs _ hS (lv_sub hl [0, 1, 2, 3] rfl)
        replace h := ifF h hc
        refine lv_iconst (v := (0 : Int32)) F.1 F.2.1 dL_law_813 (by decide) ?_
        cases h
      replace h := ifF h hc_18
      by_cases hc_19 : ((xs v3.toNatClampNeg) &&& (63 : Int32)) = (19 : Int32)
      · replace h := ifT h hc_19
        refine lv_tableIn (tgt := 815) F.1 F.2.1 dL_law_32 (by rw [hc_19]; decide) (by rw [hc_19]; decide) (by rw [hc_19]; rfl) (by decide) ?_
        refine lv_aload_n F.1 F.2.1 dL_law_815 rfl (lv_at hl 1 rfl) ?_
        refine lv_aload_n F.1 F.2.1 dL_law_816 rfl (lv_at hl 0 rfl) ?_
        refine lv_iload_n F.1 F.2.1 dL_law_817 rfl (lv_at hl 3 rfl) ?_
        refine lv_iconst (v := (1 : Int32)) F.1 F.2.1 dL_law_818 (by decide) ?_
        refine lv_iadd F.1 F.2.1 dL_law_819 ?_
        obtain ⟨hin, h⟩ := gd h
        refine va_sld F.1 F.2.1 hX hbl hbA hS.2 (inB_vp hin) dL_law_820 ?_
        refine lv_aload_n F.1 F.2.1 dL_law_821 rfl (lv_at hl 0 rfl) ?_
        refine lv_iload_n F.1 F.2.1 dL_law_822 rfl (lv_at hl 3 rfl) ?_
        refine lv_iconst (v := (2 : Int32)) F.1 F.2.1 dL_law_823 (by decide) ?_
        refine lv_iadd F.1 F.2.1 dL_law_824 ?_
        obtain ⟨hin, h⟩ := gd h
        refine va_sld F.1 F.2.1 hX hbl hbA hS.2 (inB_vp hin) dL_law_825 ?_
        obtain ⟨q39, h_q39, h⟩ := bd h
        refine lVl F G hS hl.1 (c_X7_isOut l g σ τ (xs (v3 + (1 : Int32)).toNatClampNeg) (xs (v3 + (2 : Int32)).toNatClampNeg) q39 h_q39) lk_L_96 ⟨rfl, rfl, Nat.le_of_ble_eq_true rfl, Nat.le_of_ble_eq_true rfl⟩ (Nat.le_of_ble_eq_true rfl) (Nat.le_of_ble_eq_true rfl) (rc_X7 G hS) rfl rfl (Nat.le_of_ble_eq_true rfl) dL_law_826 (kBlC (fun H locs hS => ?_))
        refine lv_aload_n F.1 F.2.1 dL_law_829 rfl (lv_at hl 2 rfl) ?_
        refine lv_aload_n F.1 F.2.1 dL_law_830 rfl (lv_at hl 0 rfl) ?_
        refine lv_iload_n F.1 F.2.1 dL_law_831 rfl (lv_at hl 3 rfl) ?_
        refine lv_iconst (v := (1 : Int32)) F.1 F.2.1 dL_law_832 (by decide) ?_
        refine lv_iadd F.1 F.2.1 dL_law_833 ?_
        obtain ⟨hin, h⟩ := gd h
        refine va_sld F.1 F.2.1 hX hbl hbA hS.2 (inB_vp hin) dL_law_834 ?_
        refine lv_aload_n F.1 F.2.1 dL_law_835 rfl (lv_at hl 0 rfl) ?_
        refine lv_iload_n F.1 F.2.1 dL_law_836 rfl (lv_at hl 3 rfl) ?_
        refine lv_iconst (v := (2 : Int32)) F.1 F.2.1 dL_law_837 (by decide) ?_
        refine lv_iadd F.1 F.2.1 dL_law_838 ?_
        obtain ⟨hin, h⟩ := gd h
        refine va_sld F.1 F.2.1 hX hbl hbA hS.2 (inB_vp hin) dL_law_839 ?_
        obtain ⟨q40, h_q40, h⟩ := bd h
        refine lVl F G hS hl.1 (c_X8_isOut l g q39.2.1 q39.2.2 (xs (v3 + (1 : Int32)).toNatClampNeg) (xs (v3 + (2 : Int32)).toNatClampNeg) q40 h_q40) lk_L_99 ⟨rfl, rfl, Nat.le_of_ble_eq_true rfl, Nat.le_of_ble_eq_true rfl⟩ (Nat.le_of_ble_eq_true rfl) (Nat.le_of_ble_eq_true rfl) (rc_X8 G hS) rfl rfl (Nat.le_of_ble_eq_true rfl) dL_law_840 (kIlC (fun H locs hS => ?_))
        refine W.lcmp F.1 F.2.1 dL_law_843 ?_
        refine lv_if_eq (tgt := 1514) F.1 F.2.1 dL_law_844 (by decide) (fun hc => ?_) (fun hc => ?_)
        · replace h := ifT h hc
          exact w_1514 _ (fun σ τ v3 => ih σ τ v3) q40.2 q39.2.2 v3 h H locs _ hS (lv_sub hl [0, 1, 2, 3] rfl)
        replace h := ifF h hc
        refine lv_iconst (v := (0 : Int32)) F.1 F.2.1 dL_law_847 (by decide) ?_
        cases h
      replace h := ifF h hc_19
      by_cases hc_20 : ((xs v3.toNatClampNeg) &&& (63 : Int32)) = (20 : Int32)
      · replace h := ifT h hc_20
        refine lv_tableIn (tgt := 849) F.1 F.2.1 dL_law_32 (by rw [hc_20]; decide) (by rw [hc_20]; decide) (by rw [hc_20]; rfl) (by decide) ?_
        refine lv_aload_n F.1 F.2.1 dL_law_849 rfl (lv_at hl 1 rfl) ?_
        refine lv_aload_n F.1 F.2.1 dL_law_850 rfl (lv_at hl 0 rfl) ?_
        refine lv_iload_n F.1 F.2.1 dL_law_851 rfl (lv_at hl 3 rfl) ?_
        refine lv_iconst (v := (1 : Int32)) F.1 F.2.1 dL_law_852 (by decide) ?_
        refine lv_iadd F.1 F.2.1 dL_law_853 ?_
        obtain ⟨hin, h⟩ := gd h
        refine va_sld F.1 F.2.1 hX hbl hbA hS.2 (inB_vp hin) dL_law_854 ?_
        refine lv_aload_n F.1 F.2.1 dL_law_855 rfl (lv_at hl 0 rfl) ?_
        refine lv_iload_n F.1 F.2.1 dL_law_856 rfl (lv_at hl 3 rfl) ?_
        refine lv_iconst (v := (2 : Int32)) F.1 F.2.1 dL_law_857 (by decide) ?_
        refine lv_iadd F.1 F.2.1 dL_law_858 ?_
        obtain ⟨hin, h⟩ := gd h
        refine va_sld F.1 F.2.1 hX hbl hbA hS.2 (inB_vp hin) dL_law_859 ?_
        obtain ⟨q41, h_q41, h⟩ := bd h
        refine lVl F G hS hl.1 (c_X7_had l g σ τ (xs (v3 + (1 : Int32)).toNatClampNeg) (xs (v3 + (2 : Int32)).toNatClampNeg) q41 h_q41) lk_L_100 ⟨rfl, rfl, Nat.le_of_ble_eq_true rfl, Nat.le_of_ble_eq_true rfl⟩ (Nat.le_of_ble_eq_true rfl) (Nat.le_of_ble_eq_true rfl) (rc_X7 G hS) rfl rfl (Nat.le_of_ble_eq_true rfl) dL_law_860 (kBlC (fun H locs hS => ?_))
        refine lv_aload_n F.1 F.2.1 dL_law_863 rfl (lv_at hl 2 rfl) ?_
        refine lv_aload_n F.1 F.2.1 dL_law_864 rfl (lv_at hl 0 rfl) ?_
        refine lv_iload_n F.1 F.2.1 dL_law_865 rfl (lv_at hl 3 rfl) ?_
        refine lv_iconst (v := (1 : Int32)) F.1 F.2.1 dL_law_866 (by decide) ?_
        refine lv_iadd F.1 F.2.1 dL_law_867 ?_
        obtain ⟨hin, h⟩ := gd h
        refine va_sld F.1 F.2.1 hX hbl hbA hS.2 (inB_vp hin) dL_law_868 ?_
        refine lv_aload_n F.1 F.2.1 dL_law_869 rfl (lv_at hl 0 rfl) ?_
        refine lv_iload_n F.1 F.2.1 dL_law_870 rfl (lv_at hl 3 rfl) ?_
        refine lv_iconst (v := (2 : Int32)) F.1 F.2.1 dL_law_871 (by decide) ?_
        refine lv_iadd F.1 F.2.1 dL_law_872 ?_
        obtain ⟨hin, h⟩ := gd h
        refine va_sld F.1 F.2.1 hX hbl hbA hS.2 (inB_vp hin) dL_law_873 ?_
        obtain ⟨q42, h_q42, h⟩ := bd h
        refine lVl F G hS hl.1 (c_X8_had l g q41.2.1 q41.2.2 (xs (v3 + (1 : Int32)).toNatClampNeg) (xs (v3 + (2 : Int32)).toNatClampNeg) q42 h_q42) lk_L_103 ⟨rfl, rfl, Nat.le_of_ble_eq_true rfl, Nat.le_of_ble_eq_true rfl⟩ (Nat.le_of_ble_eq_true rfl) (Nat.le_of_ble_eq_true rfl) (rc_X8 G hS) rfl rfl (Nat.le_of_ble_eq_true rfl) dL_law_874 (kIlC (fun H locs hS => ?_))
        refine W.lcmp F.1 F.2.1 dL_law_877 ?_
        refine lv_if_eq (tgt := 1514) F.1 F.2.1 dL_law_878 (by decide) (fun hc => ?_) (fun hc => ?_)
        · replace h := ifT h hc
          exact w_1514 _ (fun σ τ v3 => ih σ τ v3) q42.2 q41.2.2 v3 h H locs _ hS (lv_sub hl [0, 1, 2, 3] rfl)
        replace h := ifF h hc
        refine lv_iconst (v := (0 : Int32)) F.1 F.2.1 dL_law_881 (by decide) ?_
        cases h
      replace h := ifF h hc_20
      by_cases hc_21 : ((xs v3.toNatClampNeg) &&& (63 : Int32)) = (21 : Int32)
      · replace h := ifT h hc_21
        refine lv_tableIn (tgt := 883) F.1 F.2.1 dL_law_32 (by rw [hc_21]; decide) (by rw [hc_21]; decide) (by rw [hc_21]; rfl) (by decide) ?_
        refine lv_aload_n F.1 F.2.1 dL_law_883 rfl (lv_at hl 1 rfl) ?_
        refine lv_aload_n F.1 F.2.1 dL_law_884 rfl (lv_at hl 0 rfl) ?_
        refine lv_iload_n F.1 F.2.1 dL_law_885 rfl (lv_at hl 3 rfl) ?_
        refine lv_iconst (v := (1 : Int32)) F.1 F.2.1 dL_law_886 (by decide) ?_
        refine lv_iadd F.1 F.2.1 dL_law_887 ?_
        obtain ⟨hin, h⟩ := gd h
        refine va_sld F.1 F.2.1 hX hbl hbA hS.2 (inB_vp hin) dL_law_888 ?_
        obtain ⟨q43, h_q43, h⟩ := bd h
        refine lVl F G hS hl.1 (c_X7_hits l g σ τ (xs (v3 + (1 : Int32)).toNatClampNeg) q43 h_q43) lk_L_104 ⟨rfl, rfl, Nat.le_of_ble_eq_true rfl, Nat.le_of_ble_eq_true rfl⟩ (Nat.le_of_ble_eq_true rfl) (Nat.le_of_ble_eq_true rfl) (rc_X7 G hS) rfl rfl (Nat.le_of_ble_eq_true rfl) dL_law_889 (kBlC (fun H locs hS => ?_))
        refine lv_aload_n F.1 F.2.1 dL_law_892 rfl (lv_at hl 2 rfl) ?_
        refine lv_aload_n F.1 F.2.1 dL_law_893 rfl (lv_at hl 0 rfl) ?_
        refine lv_iload_n F.1 F.2.1 dL_law_894 rfl (lv_at hl 3 rfl) ?_
        refine lv_iconst (v := (1 : Int32)) F.1 F.2.1 dL_law_895 (by decide) ?_
        refine lv_iadd F.1 F.2.1 dL_law_896 ?_
        obtain ⟨hin, h⟩ := gd h
        refine va_sld F.1 F.2.1 hX hbl hbA hS.2 (inB_vp hin) dL_law_897 ?_
        obtain ⟨q44, h_q44, h⟩ := bd h
        refine lVl F G hS hl.1 (c_X8_hits l g q43.2.1 q43.2.2 (xs (v3 + (1 : Int32)).toNatClampNeg) q44 h_q44) lk_L_108 ⟨rfl, rfl, Nat.le_of_ble_eq_true rfl, Nat.le_of_ble_eq_true rfl⟩ (Nat.le_of_ble_eq_true rfl) (Nat.le_of_ble_eq_true rfl) (rc_X8 G hS) rfl rfl (Nat.le_of_ble_eq_true rfl) dL_law_898 (kIlC (fun H locs hS => ?_))
        refine W.lcmp F.1 F.2.1 dL_law_901 ?_
        refine lv_if_eq (tgt := 1514) F.1 F.2.1 dL_law_902 (by decide) (fun hc => ?_) (fun hc => ?_)
        · replace h := ifT h hc
          exact w_1514 _ (fun σ τ v3 => ih σ τ v3) q44.2 q43.2.2 v3 h H locs _ hS (lv_sub hl [0, 1, 2, 3] rfl)
        replace h := ifF h hc
        refine lv_iconst (v := (0 : Int32)) F.1 F.2.1 dL_law_905 (by decide) ?_
        cases h
      replace h := ifF h hc_21
      by_cases hc_22 : ((xs v3.toNatClampNeg) &&& (63 : Int32)) = (22 : Int32)
      · replace h := ifT h hc_22
        refine lv_tableIn (tgt := 907) F.1 F.2.1 dL_law_32 (by rw [hc_22]; decide) (by rw [hc_22]; decide) (by rw [hc_22]; rfl) (by decide) ?_
        refine lv_aload_n F.1 F.2.1 dL_law_907 rfl (lv_at hl 1 rfl) ?_
        refine lv_aload_n F.1 F.2.1 dL_law_908 rfl (lv_at hl 0 rfl) ?_
        refine lv_iload_n F.1 F.2.1 dL_law_909 rfl (lv_at hl 3 rfl) ?_
        refine lv_iconst (v := (1 : Int32)) F.1 F.2.1 dL_law_910 (by decide) ?_
        refine lv_iadd F.1 F.2.1 dL_law_911 ?_
        obtain ⟨hin, h⟩ := gd h
        refine va_sld F.1 F.2.1 hX hbl hbA hS.2 (inB_vp hin) dL_law_912 ?_
        obtain ⟨q45, h_q45, h⟩ := bd h
        refine lVl F G hS hl.1 (c_X7_torn l g σ τ (xs (v3 + (1 : Int32)).toNatClampNeg) q45 h_q45) lk_L_109 ⟨rfl, rfl, Nat.le_of_ble_eq_true rfl, Nat.le_of_ble_eq_true rfl⟩ (Nat.le_of_ble_eq_true rfl) (Nat.le_of_ble_eq_true rfl) (rc_X7 G hS) rfl rfl (Nat.le_of_ble_eq_true rfl) dL_law_913 (kBlC (fun H locs hS => ?_))
        refine lv_aload_n F.1 F.2.1 dL_law_916 rfl (lv_at hl 2 rfl) ?_
        refine lv_aload_n F.1 F.2.1 dL_law_917 rfl (lv_at hl 0 rfl) ?_
        refine lv_iload_n F.1 F.2.1 dL_law_918 rfl (lv_at hl 3 rfl) ?_
        refine lv_iconst (v := (1 : Int32)) F.1 F.2.1 dL_law_919 (by decide) ?_
        refine lv_iadd F.1 F.2.1 dL_law_920 ?_
        obtain ⟨hin, h⟩ := gd h
        refine va_sld F.1 F.2.1 hX hbl hbA hS.2 (inB_vp hin) dL_law_921 ?_
        obtain ⟨q46, h_q46, h⟩ := bd h
        refine lVl F G hS hl.1 (c_X8_torn l g q45.2.1 q45.2.2 (xs (v3 + (1 : Int32)).toNatClampNeg) q46 h_q46) lk_L_112 ⟨rfl, rfl, Nat.le_of_ble_eq_true rfl, Nat.le_of_ble_eq_true rfl⟩ (Nat.le_of_ble_eq_true rfl) (Nat.le_of_ble_eq_true rfl) (rc_X8 G hS) rfl rfl (Nat.le_of_ble_eq_true rfl) dL_law_922 (kIlC (fun H locs hS => ?_))
        refine W.lcmp F.1 F.2.1 dL_law_925 ?_
        refine lv_if_eq (tgt := 1514) F.1 F.2.1 dL_law_926 (by decide) (fun hc => ?_) (fun hc => ?_)
        · replace h := ifT h hc
          exact w_1514 _ (fun σ τ v3 => ih σ τ v3) q46.2 q45.2.2 v3 h H locs _ hS (lv_sub hl [0, 1, 2, 3] rfl)
        replace h := ifF h hc
        refine lv_iconst (v := (0 : Int32)) F.1 F.2.1 dL_law_929 (by decide) ?_
        cases h
      replace h := ifF h hc_22
      by_cases hc_23 : ((xs v3.toNatClampNeg) &&& (63 : Int32)) = (23 : Int32)
      · replace h := ifT h hc_23
        refine lv_tableIn (tgt := 931) F.1 F.2.1 dL_law_32 (by rw [hc_23]; decide) (by rw [hc_23]; decide) (by rw [hc_23]; rfl) (by decide) ?_
        refine lv_aload_n F.1 F.2.1 dL_law_931 rfl (lv_at hl 1 rfl) ?_
        refine lv_aload_n F.1 F.2.1 dL_law_932 rfl (lv_at hl 0 rfl) ?_
        refine lv_iload_n F.1 F.2.1 dL_law_933 rfl (lv_at hl 3 rfl) ?_
        refine lv_iconst (v := (1 : Int32)) F.1 F.2.1 dL_law_934 (by decide) ?_
        refine lv_iadd F.1 F.2.1 dL_law_935 ?_
        obtain ⟨hin, h⟩ := gd h
        refine va_sld F.1 F.2.1 hX hbl hbA hS.2 (inB_vp hin) dL_law_936 ?_
        obtain ⟨q47, h_q47, h⟩ := bd h
        refine lVl F G hS hl.1 (c_X7_worth l g σ τ (xs (v3 + (1 : Int32)).toNatClampNeg) q47 h_q47) lk_L_113 ⟨rfl, rfl, Nat.le_of_ble_eq_true rfl, Nat.le_of_ble_eq_true rfl⟩ (Nat.le_of_ble_eq_true rfl) (Nat.le_of_ble_eq_true rfl) (rc_X7 G hS) rfl rfl (Nat.le_of_ble_eq_true rfl) dL_law_937 (kBlC (fun H locs hS => ?_))
        refine lv_aload_n F.1 F.2.1 dL_law_940 rfl (lv_at hl 2 rfl) ?_
        refine lv_aload_n F.1 F.2.1 dL_law_941 rfl (lv_at hl 0 rfl) ?_
        refine lv_iload_n F.1 F.2.1 dL_law_942 rfl (lv_at hl 3 rfl) ?_
        refine lv_iconst (v := (1 : Int32)) F.1 F.2.1 dL_law_943 (by decide) ?_
        refine lv_iadd F.1 F.2.1 dL_law_944 ?_
        obtain ⟨hin, h⟩ := gd h
        refine va_sld F.1 F.2.1 hX hbl hbA hS.2 (inB_vp hin) dL_law_945 ?_
        obtain ⟨q48, h_q48, h⟩ := bd h
        refine lVl F G hS hl.1 (c_X8_worth l g q47.2.1 q47.2.2 (xs (v3 + (1 : Int32)).toNatClampNeg) q48 h_q48) lk_L_116 ⟨rfl, rfl, Nat.le_of_ble_eq_true rfl, Nat.le_of_ble_eq_true rfl⟩ (Nat.le_of_ble_eq_true rfl) (Nat.le_of_ble_eq_true rfl) (rc_X8 G hS) rfl rfl (Nat.le_of_ble_eq_true rfl) dL_law_946 (kIlC (fun H locs hS => ?_))
        refine W.lcmp F.1 F.2.1 dL_law_949 ?_
        refine lv_if_eq (tgt := 1514) F.1 F.2.1 dL_law_950 (by decide) (fun hc => ?_) (fun hc => ?_)
        · replace h := ifT h hc
          exact w_1514 _ (fun σ τ v3 => ih σ τ v3) q48.2 q47.2.2 v3 h H locs _ hS (lv_sub hl [0, 1, 2, 3] rfl)
        replace h := ifF h hc
        refine lv_iconst (v := (0 : Int32)) F.1 F.2.1 dL_law_953 (by decide) ?_
        cases h
      replace h := ifF h hc_23
      by_cases hc_24 : ((xs v3.toNatClampNeg) &&& (63 : Int32)) = (24 : Int32)
      · replace h := ifT h hc_24
        refine lv_tableIn (tgt := 955) F.1 F.2.1 dL_law_32 (by rw [hc_24]; decide) (by rw [hc_24]; decide) (by rw [hc_24]; rfl) (by decide) ?_
        refine lv_aload_n F.1 F.2.1 dL_law_955 rfl (lv_at hl 1 rfl) ?_
        refine lv_aload_n F.1 F.2.1 dL_law_956 rfl (lv_at hl 0 rfl) ?_
        refine lv_iload_n F.1 F.2.1 dL_law_957 rfl (lv_at hl 3 rfl) ?_
        refine lv_iconst (v := (1 : Int32)) F.1 F.2.1 dL_law_958 (by decide) ?_
        refine lv_iadd F.1 F.2.1 dL_law_959 ?_
        obtain ⟨hin, h⟩ := gd h
        refine va_sld F.1 F.2.1 hX hbl hbA hS.2 (inB_vp hin) dL_law_960 ?_
        obtain ⟨q49, h_q49, h⟩ := bd h
        refine lVl F G hS hl.1 (c_X7_best l g σ τ (xs (v3 + (1 : Int32)).toNatClampNeg) q49 h_q49) lk_L_117 ⟨rfl, rfl, Nat.le_of_ble_eq_true rfl, Nat.le_of_ble_eq_true rfl⟩ (Nat.le_of_ble_eq_true rfl) (Nat.le_of_ble_eq_true rfl) (rc_X7 G hS) rfl rfl (Nat.le_of_ble_eq_true rfl) dL_law_961 (kBlC (fun H locs hS => ?_))
        refine lv_aload_n F.1 F.2.1 dL_law_964 rfl (lv_at hl 2 rfl) ?_
        refine lv_aload_n F.1 F.2.1 dL_law_965 rfl (lv_at hl 0 rfl) ?_
        refine lv_iload_n F.1 F.2.1 dL_law_966 rfl (lv_at hl 3 rfl) ?_
        refine lv_iconst (v := (1 : Int32)) F.1 F.2.1 dL_law_967 (by decide) ?_
        refine lv_iadd F.1 F.2.1 dL_law_968 ?_
        obtain ⟨hin, h⟩ := gd h
        refine va_sld F.1 F.2.1 hX hbl hbA hS.2 (inB_vp hin) dL_law_969 ?_
        obtain ⟨q50, h_q50, h⟩ := bd h
        refine lVl F G hS hl.1 (c_X8_best l g q49.2.1 q49.2.2 (xs (v3 + (1 : Int32)).toNatClampNeg) q50 h_q50) lk_L_120 ⟨rfl, rfl, Nat.le_of_ble_eq_true rfl, Nat.le_of_ble_eq_true rfl⟩ (Nat.le_of_ble_eq_true rfl) (Nat.le_of_ble_eq_true rfl) (rc_X8 G hS) rfl rfl (Nat.le_of_ble_eq_true rfl) dL_law_970 (kIlC (fun H locs hS => ?_))
        refine W.lcmp F.1 F.2.1 dL_law_973 ?_
        refine lv_if_eq (tgt := 1514) F.1 F.2.1 dL_law_974 (by decide) (fun hc => ?_) (fun hc => ?_)
        · replace h := ifT h hc
          exact w_1514 _ (fun σ τ v3 => ih σ τ v3) q50.2 q49.2.2 v3 h H locs _ hS (lv_sub hl [0, 1, 2, 3] rfl)
        replace h := ifF h hc
        refine lv_iconst (v := (0 : Int32)) F.1 F.2.1 dL_law_977 (by decide) ?_
        cases h
      replace h := ifF h hc_24
      by_cases hc_25 : ((xs v3.toNatClampNeg) &&& (63 : Int32)) = (25 : Int32)
      · replace h := ifT h hc_25
        refine lv_tableIn (tgt := 979) F.1 F.2.1 dL_law_32 (by rw [hc_25]; decide) (by rw [hc_25]; decide) (by rw [hc_25]; rfl) (by decide) ?_
        refine lv_aload_n F.1 F.2.1 dL_law_979 rfl (lv_at hl 1 rfl) ?_
        refine lv_aload_n F.1 F.2.1 dL_law_980 rfl (lv_at hl 0 rfl) ?_
        refine lv_iload_n F.1 F.2.1 dL_law_981 rfl (lv_at hl 3 rfl) ?_
        refine lv_iconst (v := (1 : Int32)) F.1 F.2.1 dL_law_982 (by decide) ?_
        refine lv_iadd F.1 F.2.1 dL_law_983 ?_
        obtain ⟨hin, h⟩ := gd h
        refine va_sld F.1 F.2.1 hX hbl hbA hS.2 (inB_vp hin) dL_law_984 ?_
        refine lv_aload_n F.1 F.2.1 dL_law_985 rfl (lv_at hl 0 rfl) ?_
        refine lv_iload_n F.1 F.2.1 dL_law_986 rfl (lv_at hl 3 rfl) ?_
        refine lv_iconst (v := (2 : Int32)) F.1 F.2.1 dL_law_987 (by decide) ?_
        refine lv_iadd F.1 F.2.1 dL_law_988 ?_
        obtain ⟨hin, h⟩ := gd h
        refine va_sld F.1 F.2.1 hX hbl hbA hS.2 (inB_vp hin) dL_law_989 ?_
        obtain ⟨q51, h_q51, h⟩ := bd h
        refine lVi F G hS hl.1 (c_X7_fog l g σ τ (xs (v3 + (1 : Int32)).toNatClampNeg) (xs (v3 + (2 : Int32)).toNatClampNeg) q51 h_q51) lk_L_121 ⟨rfl, rfl, Nat.le_of_ble_eq_true rfl, Nat.le_of_ble_eq_true rfl⟩ (Nat.le_of_ble_eq_true rfl) (Nat.le_of_ble_eq_true rfl) (rc_X7 G hS) rfl rfl (Nat.le_of_ble_eq_true rfl) dL_law_990 (kBiC (fun H locs hS => ?_))
        refine lv_aload_n F.1 F.2.1 dL_law_993 rfl (lv_at hl 2 rfl) ?_
        refine lv_aload_n F.1 F.2.1 dL_law_994 rfl (lv_at hl 0 rfl) ?_
        refine lv_iload_n F.1 F.2.1 dL_law_995 rfl (lv_at hl 3 rfl) ?_
        refine lv_iconst (v := (1 : Int32)) F.1 F.2.1 dL_law_996 (by decide) ?_
        refine lv_iadd F.1 F.2.1 dL_law_997 ?_
        obtain ⟨hin, h⟩ := gd h
        refine va_sld F.1 F.2.1 hX hbl hbA hS.2 (inB_vp hin) dL_law_998 ?_
        refine lv_aload_n F.1 F.2.1 dL_law_999 rfl (lv_at hl 0 rfl) ?_
        refine lv_iload_n F.1 F.2.1 dL_law_1000 rfl (lv_at hl 3 rfl) ?_
        refine lv_iconst (v := (2 : Int32)) F.1 F.2.1 dL_law_1001 (by decide) ?_
        refine lv_iadd F.1 F.2.1 dL_law_1002 ?_
        obtain ⟨hin, h⟩ := gd h
        refine va_sld F.1 F.2.1 hX hbl hbA hS.2 (inB_vp hin) dL_law_1003 ?_
        obtain ⟨q52, h_q52, h⟩ := bd h
        refine lVi F G hS hl.1 (c_X8_fog l g q51.2.1 q51.2.2 (xs (v3 + (1 : Int32)).toNatClampNeg) (xs (v3 + (2 : Int32)).toNatClampNeg) q52 h_q52) lk_L_124 ⟨rfl, rfl, Nat.le_of_ble_eq_true rfl, Nat.le_of_ble_eq_true rfl⟩ (Nat.le_of_ble_eq_true rfl) (Nat.le_of_ble_eq_true rfl) (rc_X8 G hS) rfl rfl (Nat.le_of_ble_eq_true rfl) dL_law_1004 (kIiC (fun H locs hS => ?_))
        refine lv_icmp_eq (tgt := 1514) F.1 F.2.1 dL_law_1007 (by decide) (fun hc => ?_) (fun hc => ?_)
        · replace h := ifT h hc
          exact w_1514 _ (fun σ τ v3 => ih σ τ v3) q52.2 q51.2.2 v3 h H locs _ hS (lv_sub hl [0, 1, 2, 3] rfl)
        replace h := ifF h hc
        refine lv_iconst (v := (0 : Int32)) F.1 F.2.1 dL_law_1010 (by decide) ?_
        cases h
      replace h := ifF h hc_25
      by_cases hc_26 : ((xs v3.toNatClampNeg) &&& (63 : Int32)) = (26 : Int32)
      · replace h := ifT h hc_26
        refine lv_tableIn (tgt := 1012) F.1 F.2.1 dL_law_32 (by rw [hc_26]; decide) (by rw [hc_26]; decide) (by rw [hc_26]; rfl) (by decide) ?_
        refine lv_aload_n F.1 F.2.1 dL_law_1012 rfl (lv_at hl 1 rfl) ?_
        refine lv_aload_n F.1 F.2.1 dL_law_1013 rfl (lv_at hl 0 rfl) ?_
        refine lv_iload_n F.1 F.2.1 dL_law_1014 rfl (lv_at hl 3 rfl) ?_
        refine lv_iconst (v := (1 : Int32)) F.1 F.2.1 dL_law_1015 (by decide) ?_
        refine lv_iadd F.1 F.2.1 dL_law_1016 ?_
        obtain ⟨hin, h⟩ := gd h
        refine va_sld F.1 F.2.1 hX hbl hbA hS.2 (inB_vp hin) dL_law_1017 ?_
        refine lv_aload_n F.1 F.2.1 dL_law_1018 rfl (lv_at hl 0 rfl) ?_
        refine lv_iload_n F.1 F.2.1 dL_law_1019 rfl (lv_at hl 3 rfl) ?_
        refine lv_iconst (v := (2 : Int32)) F.1 F.2.1 dL_law_1020 (by decide) ?_
        refine lv_iadd F.1 F.2.1 dL_law_1021 ?_
        obtain ⟨hin, h⟩ := gd h
        refine va_sld F.1 F.2.1 hX hbl hbA hS.2 (inB_vp hin) dL_law_1022 ?_
        obtain ⟨q53, h_q53, h⟩ := bd h
        refine lVi F G hS hl.1 (c_X7_fast l g σ τ (xs (v3 + (1 : Int32)).toNatClampNeg) (xs (v3 + (2 : Int32)).toNatClampNeg) q53 h_q53) lk_L_125 ⟨rfl, rfl, Nat.le_of_ble_eq_true rfl, Nat.le_of_ble_eq_true rfl⟩ (Nat.le_of_ble_eq_true rfl) (Nat.le_of_ble_eq_true rfl) (rc_X7 G hS) rfl rfl (Nat.le_of_ble_eq_true rfl) dL_law_1023 (kBiC (fun H locs hS => ?_))
        refine lv_aload_n F.1 F.2.1 dL_law_1026 rfl (lv_at hl 2 rfl) ?_
        refine lv_aload_n F.1 F.2.1 dL_law_1027 rfl (lv_at hl 0 rfl) ?_
        refine lv_iload_n F.1 F.2.1 dL_law_1028 rfl (lv_at hl 3 rfl) ?_
        refine lv_iconst (v := (1 : Int32)) F.1 F.2.1 dL_law_1029 (by decide) ?_
        refine lv_iadd F.1 F.2.1 dL_law_1030 ?_
        obtain ⟨hin, h⟩ := gd h
        refine va_sld F.1 F.2.1 hX hbl hbA hS.2 (inB_vp hin) dL_law_1031 ?_
        refine lv_aload_n F.1 F.2.1 dL_law_1032 rfl (lv_at hl 0 rfl) ?_
        refine lv_iload_n F.1 F.2.1 dL_law_1033 rfl (lv_at hl 3 rfl) ?_
        refine lv_iconst (v := (2 : Int32)) F.1 F.2.1 dL_law_1034 (by decide) ?_
        refine lv_iadd F.1 F.2.1 dL_law_1035 ?_
        obtain ⟨hin, h⟩ := gd h
        refine va_sld F.1 F.2.1 hX hbl hbA hS.2 (inB_vp hin) dL_law_1036 ?_
        obtain ⟨q54, h_q54, h⟩ := bd h
        refine lVi F G hS hl.1 (c_X8_fast l g q53.2.1 q53.2.2 (xs (v3 + (1 : Int32)).toNatClampNeg) (xs (v3 + (2 : Int32)).toNatClampNeg) q54 h_q54) lk_L_128 ⟨rfl, rfl, Nat.le_of_ble_eq_true rfl, Nat.le_of_ble_eq_true rfl⟩ (Nat.le_of_ble_eq_true rfl) (Nat.le_of_ble_eq_true rfl) (rc_X8 G hS) rfl rfl (Nat.le_of_ble_eq_true rfl) dL_law_1037 (kIiC (fun H locs hS => ?_))
        refine lv_icmp_eq (tgt := 1514) F.1 F.2.1 dL_law_1040 (by decide) (fun hc => ?_) (fun hc => ?_)
        · replace h := ifT h hc
          exact w_1514 _ (fun σ τ v3 => ih σ τ v3) q54.2 q53.2.2 v3 h H locs _ hS (lv_sub hl [0, 1, 2, 3] rfl)
        replace h := ifF h hc
        refine lv_iconst (v := (0 : Int32)) F.1 F.2.1 dL_law_1043 (by decide) ?_
        cases h
      replace h := ifF h hc_26
      by_cases hc_27 : ((xs v3.toNatClampNeg) &&& (63 : Int32)) = (27 : Int32)
      · replace h := ifT h hc_27
        refine lv_tableIn (tgt := 1045) F.1 F.2.1 dL_law_32 (by rw [hc_27]; decide) (by rw [hc_27]; decide) (by rw [hc_27]; rfl) (by decide) ?_
        refine lv_aload_n F.1 F.2.1 dL_law_1045 rfl (lv_at hl 1 rfl) ?_
        refine lv_aload_n F.1 F.2.1 dL_law_1046 rfl (lv_at hl 0 rfl) ?_
        refine lv_iload_n F.1 F.2.1 dL_law_1047 rfl (lv_at hl 3 rfl) ?_
        refine lv_iconst (v := (1 : Int32)) F.1 F.2.1 dL_law_1048 (by decide) ?_
        refine lv_iadd F.1 F.2.1 dL_law_1049 ?_
        obtain ⟨hin, h⟩ := gd h
        refine va_sld F.1 F.2.1 hX hbl hbA hS.2 (inB_vp hin) dL_law_1050 ?_
        refine lv_aload_n F.1 F.2.1 dL_law_1051 rfl (lv_at hl 0 rfl) ?_
        refine lv_iload_n F.1 F.2.1 dL_law_1052 rfl (lv_at hl 3 rfl) ?_
        refine lv_iconst (v := (2 : Int32)) F.1 F.2.1 dL_law_1053 (by decide) ?_
        refine lv_iadd F.1 F.2.1 dL_law_1054 ?_
        obtain ⟨hin, h⟩ := gd h
        refine va_sld F.1 F.2.1 hX hbl hbA hS.2 (inB_vp hin) dL_law_1055 ?_
        obtain ⟨q55, h_q55, h⟩ := bd h
        refine lVi F G hS hl.1 (c_X7_slack l g σ τ (xs (v3 + (1 : Int32)).toNatClampNeg) (xs (v3 + (2 : Int32)).toNatClampNeg) q55 h_q55) lk_L_129 ⟨rfl, rfl, Nat.le_of_ble_eq_true rfl, Nat.le_of_ble_eq_true rfl⟩ (Nat.le_of_ble_eq_true rfl) (Nat.le_of_ble_eq_true rfl) (rc_X7 G hS) rfl rfl (Nat.le_of_ble_eq_true rfl) dL_law_1056 (kBiC (fun H locs hS => ?_))
        refine lv_aload_n F.1 F.2.1 dL_law_1059 rfl (lv_at hl 2 rfl) ?_
        refine lv_aload_n F.1 F.2.1 dL_law_1060 rfl (lv_at hl 0 rfl) ?_
        refine lv_iload_n F.1 F.2.1 dL_law_1061 rfl (lv_at hl 3 rfl) ?_
        refine lv_iconst (v := (1 : Int32)) F.1 F.2.1 dL_law_1062 (by decide) ?_
        refine lv_iadd F.1 F.2.1 dL_law_1063 ?_
        obtain ⟨hin, h⟩ := gd h
        refine va_sld F.1 F.2.1 hX hbl hbA hS.2 (inB_vp hin) dL_law_1064 ?_
        refine lv_aload_n F.1 F.2.1 dL_law_1065 rfl (lv_at hl 0 rfl) ?_
        refine lv_iload_n F.1 F.2.1 dL_law_1066 rfl (lv_at hl 3 rfl) ?_
        refine lv_iconst (v := (2 : Int32)) F.1 F.2.1 dL_law_1067 (by decide) ?_
        refine lv_iadd F.1 F.2.1 dL_law_1068 ?_
        obtain ⟨hin, h⟩ := gd h
        refine va_sld F.1 F.2.1 hX hbl hbA hS.2 (inB_vp hin) dL_law_1069 ?_
        obtain ⟨q56, h_q56, h⟩ := bd h
        refine lVi F G hS hl.1 (c_X8_slack l g q55.2.1 q55.2.2 (xs (v3 + (1 : Int32)).toNatClampNeg) (xs (v3 + (2 : Int32)).toNatClampNeg) q56 h_q56) lk_L_132 ⟨rfl, rfl, Nat.le_of_ble_eq_true rfl, Nat.le_of_ble_eq_true rfl⟩ (Nat.le_of_ble_eq_true rfl) (Nat.le_of_ble_eq_true rfl) (rc_X8 G hS) rfl rfl (Nat.le_of_ble_eq_true rfl) dL_law_1070 (kIiC (fun H locs hS => ?_))
        refine lv_icmp_eq (tgt := 1514) F.1 F.2.1 dL_law_1073 (by decide) (fun hc => ?_) (fun hc => ?_)
        · replace h := ifT h hc
          exact w_1514 _ (fun σ τ v3 => ih σ τ v3) q56.2 q55.2.2 v3 h H locs _ hS (lv_sub hl [0, 1, 2, 3] rfl)
        replace h := ifF h hc
        refine lv_iconst (v := (0 : Int32)) F.1 F.2.1 dL_law_1076 (by decide) ?_
        cases h
      replace h := ifF h hc_27
      by_cases hc_28 : ((xs v3.toNatClampNeg) &&& (63 : Int32)) = (28 : Int32)
      · replace h := ifT h hc_28
        refine lv_tableIn (tgt := 1078) F.1 F.2.1 dL_law_32 (by rw [hc_28]; decide) (by rw [hc_28]; decide) (by rw [hc_28]; rfl) (by decide) ?_
        refine lv_aload_n F.1 F.2.1 dL_law_1078 rfl (lv_at hl 1 rfl) ?_
        refine lv_aload_n F.1 F.2.1 dL_law_1079 rfl (lv_at hl 0 rfl) ?_
        refine lv_iload_n F.1 F.2.1 dL_law_1080 rfl (lv_at hl 3 rfl) ?_
        refine lv_iconst (v := (1 : Int32)) F.1 F.2.1 dL_law_1081 (by decide) ?_
        refine lv_iadd F.1 F.2.1 dL_law_1082 ?_
        obtain ⟨hin, h⟩ := gd h
        refine va_sld F.1 F.2.1 hX hbl hbA hS.2 (inB_vp hin) dL_law_1083 ?_
        refine lv_aload_n F.1 F.2.1 dL_law_1084 rfl (lv_at hl 0 rfl) ?_
        refine lv_iload_n F.1 F.2.1 dL_law_1085 rfl (lv_at hl 3 rfl) ?_
        refine lv_iconst (v := (2 : Int32)) F.1 F.2.1 dL_law_1086 (by decide) ?_
        refine lv_iadd F.1 F.2.1 dL_law_1087 ?_
        obtain ⟨hin, h⟩ := gd h
        refine va_sld F.1 F.2.1 hX hbl hbA hS.2 (inB_vp hin) dL_law_1088 ?_
        obtain ⟨q57, h_q57, h⟩ := bd h
        refine lVi F G hS hl.1 (c_X7_sort l g σ τ (xs (v3 + (1 : Int32)).toNatClampNeg) (xs (v3 + (2 : Int32)).toNatClampNeg) q57 h_q57) lk_L_133 ⟨rfl, rfl, Nat.le_of_ble_eq_true rfl, Nat.le_of_ble_eq_true rfl⟩ (Nat.le_of_ble_eq_true rfl) (Nat.le_of_ble_eq_true rfl) (rc_X7 G hS) rfl rfl (Nat.le_of_ble_eq_true rfl) dL_law_1089 (kRiC (fun H locs hS => ?_))
        refine lv_aload_n F.1 F.2.1 dL_law_1092 rfl (lv_at hl 2 rfl) ?_
        refine lv_aload_n F.1 F.2.1 dL_law_1093 rfl (lv_at hl 0 rfl) ?_
        refine lv_iload_n F.1 F.2.1 dL_law_1094 rfl (lv_at hl 3 rfl) ?_
        refine lv_iconst (v := (1 : Int32)) F.1 F.2.1 dL_law_1095 (by decide) ?_
        refine lv_iadd F.1 F.2.1 dL_law_1096 ?_
        obtain ⟨hin, h⟩ := gd h
        refine va_sld F.1 F.2.1 hX hbl hbA hS.2 (inB_vp hin) dL_law_1097 ?_
        refine lv_aload_n F.1 F.2.1 dL_law_1098 rfl (lv_at hl 0 rfl) ?_
        refine lv_iload_n F.1 F.2.1 dL_law_1099 rfl (lv_at hl 3 rfl) ?_
        refine lv_iconst (v := (2 : Int32)) F.1 F.2.1 dL_law_1100 (by decide) ?_
        refine lv_iadd F.1 F.2.1 dL_law_1101 ?_
        obtain ⟨hin, h⟩ := gd h
        refine va_sld F.1 F.2.1 hX hbl hbA hS.2 (inB_vp hin) dL_law_1102 ?_
        obtain ⟨q58, h_q58, h⟩ := bd h
        refine lVi F G hS hl.1 (c_X8_sort l g σ τ (xs (v3 + (1 : Int32)).toNatClampNeg) (xs (v3 + (2 : Int32)).toNatClampNeg) q58 h_q58) lk_L_136 ⟨rfl, rfl, Nat.le_of_ble_eq_true rfl, Nat.le_of_ble_eq_true rfl⟩ (Nat.le_of_ble_eq_true rfl) (Nat.le_of_ble_eq_true rfl) (rc_X8 G hS) rfl rfl (Nat.le_of_ble_eq_true rfl) dL_law_1103 (kRiC (fun H locs hS => ?_))
        refine lv_icmp_eq (tgt := 1514) F.1 F.2.1 dL_law_1106 (by decide) (fun hc => ?_) (fun hc => ?_)
        · replace h := ifT h hc
          exact w_1514 _ (fun σ τ v3 => ih σ τ v3) σ τ v3 h H locs _ hS (lv_sub hl [0, 1, 2, 3] rfl)
        replace h := ifF h hc
        refine lv_iconst (v := (0 : Int32)) F.1 F.2.1 dL_law_1109 (by decide) ?_
        cases h
      replace h := ifF h hc_28
      by_cases hc_29 : ((xs v3.toNatClampNeg) &&& (63 : Int32)) = (29 : Int32)
      · replace h := ifT h hc_29
        refine lv_tableIn (tgt := 1111) F.1 F.2.1 dL_law_32 (by rw [hc_29]; decide) (by rw [hc_29]; decide) (by rw [hc_29]; rfl) (by decide) ?_
        refine lv_aload_n F.1 F.2.1 dL_law_1111 rfl (lv_at hl 1 rfl) ?_
        refine lv_aload_n F.1 F.2.1 dL_law_1112 rfl (lv_at hl 0 rfl) ?_
        refine lv_iload_n F.1 F.2.1 dL_law_1113 rfl (lv_at hl 3 rfl) ?_
        refine lv_iconst (v := (1 : Int32)) F.1 F.2.1 dL_law_1114 (by decide) ?_
        refine lv_iadd F.1 F.2.1 dL_law_1115 ?_
        obtain ⟨hin, h⟩ := gd h
        refine va_sld F.1 F.2.1 hX hbl hbA hS.2 (inB_vp hin) dL_law_1116 ?_
        obtain ⟨q59, h_q59, h⟩ := bd h
        refine lVi F G hS hl.1 (c_X7_minutes l g σ τ (xs (v3 + (1 : Int32)).toNatClampNeg) q59 h_q59) lk_L_137 ⟨rfl, rfl, Nat.le_of_ble_eq_true rfl, Nat.le_of_ble_eq_true rfl⟩ (Nat.le_of_ble_eq_true rfl) (Nat.le_of_ble_eq_true rfl) (rc_X7 G hS) rfl rfl (Nat.le_of_ble_eq_true rfl) dL_law_1117 (kRiC (fun H locs hS => ?_))
        refine lv_aload_n F.1 F.2.1 dL_law_1120 rfl (lv_at hl 2 rfl) ?_
        refine lv_aload_n F.1 F.2.1 dL_law_1121 rfl (lv_at hl 0 rfl) ?_
        refine lv_iload_n F.1 F.2.1 dL_law_1122 rfl (lv_at hl 3 rfl) ?_
        refine lv_iconst (v := (1 : Int32)) F.1 F.2.1 dL_law_1123 (by decide) ?_
        refine lv_iadd F.1 F.2.1 dL_law_1124 ?_
        obtain ⟨hin, h⟩ := gd h
        refine va_sld F.1 F.2.1 hX hbl hbA hS.2 (inB_vp hin) dL_law_1125 ?_
        obtain ⟨q60, h_q60, h⟩ := bd h
        refine lVi F G hS hl.1 (c_X8_minutes l g σ τ (xs (v3 + (1 : Int32)).toNatClampNeg) q60 h_q60) lk_L_140 ⟨rfl, rfl, Nat.le_of_ble_eq_true rfl, Nat.le_of_ble_eq_true rfl⟩ (Nat.le_of_ble_eq_true rfl) (Nat.le_of_ble_eq_true rfl) (rc_X8 G hS) rfl rfl (Nat.le_of_ble_eq_true rfl) dL_law_1126 (kRiC (fun H locs hS => ?_))
        refine lv_icmp_eq (tgt := 1514) F.1 F.2.1 dL_law_1129 (by decide) (fun hc => ?_) (fun hc => ?_)
        · replace h := ifT h hc
          exact w_1514 _ (fun σ τ v3 => ih σ τ v3) σ τ v3 h H locs _ hS (lv_sub hl [0, 1, 2, 3] rfl)
        replace h := ifF h hc
        refine lv_iconst (v := (0 : Int32)) F.1 F.2.1 dL_law_1132 (by decide) ?_
        cases h
      replace h := ifF h hc_29
      by_cases hc_30 : ((xs v3.toNatClampNeg) &&& (63 : Int32)) = (30 : Int32)
      · replace h := ifT h hc_30
        refine lv_tableIn (tgt := 1134) F.1 F.2.1 dL_law_32 (by rw [hc_30]; decide) (by rw [hc_30]; decide) (by rw [hc_30]; rfl) (by decide) ?_
        refine lv_aload_n F.1 F.2.1 dL_law_1134 rfl (lv_at hl 1 rfl) ?_
        refine lv_aload_n F.1 F.2.1 dL_law_1135 rfl (lv_at hl 0 rfl) ?_
        refine lv_iload_n F.1 F.2.1 dL_law_1136 rfl (lv_at hl 3 rfl) ?_
        refine lv_iconst (v := (1 : Int32)) F.1 F.2.1 dL_law_1137 (by decide) ?_
        refine lv_iadd F.1 F.2.1 dL_law_1138 ?_
        obtain ⟨hin, h⟩ := gd h
        refine va_sld F.1 F.2.1 hX hbl hbA hS.2 (inB_vp hin) dL_law_1139 ?_
        obtain ⟨q61, h_q61, h⟩ := bd h
        refine lVi F G hS hl.1 (c_X7_hands l g σ τ (xs (v3 + (1 : Int32)).toNatClampNeg) q61 h_q61) lk_L_141 ⟨rfl, rfl, Nat.le_of_ble_eq_true rfl, Nat.le_of_ble_eq_true rfl⟩ (Nat.le_of_ble_eq_true rfl) (Nat.le_of_ble_eq_true rfl) (rc_X7 G hS) rfl rfl (Nat.le_of_ble_eq_true rfl) dL_law_1140 (kRiC (fun H locs hS => ?_))
        refine lv_aload_n F.1 F.2.1 dL_law_1143 rfl (lv_at hl 2 rfl) ?_
        refine lv_aload_n F.1 F.2.1 dL_law_1144 rfl (lv_at hl 0 rfl) ?_
        refine lv_iload_n F.1 F.2.1 dL_law_1145 rfl (lv_at hl 3 rfl) ?_
        refine lv_iconst (v := (1 : Int32)) F.1 F.2.1 dL_law_1146 (by decide) ?_
        refine lv_iadd F.1 F.2.1 dL_law_1147 ?_
        obtain ⟨hin, h⟩ := gd h
        refine va_sld F.1 F.2.1 hX hbl hbA hS.2 (inB_vp hin) dL_law_1148 ?_
        obtain ⟨q62, h_q62, h⟩ := bd h
        refine lVi F G hS hl.1 (c_X8_hands l g σ τ (xs (v3 + (1 : Int32)).toNatClampNeg) q62 h_q62) lk_L_144 ⟨rfl, rfl, Nat.le_of_ble_eq_true rfl, Nat.le_of_ble_eq_true rfl⟩ (Nat.le_of_ble_eq_true rfl) (Nat.le_of_ble_eq_true rfl) (rc_X8 G hS) rfl rfl (Nat.le_of_ble_eq_true rfl) dL_law_1149 (kRiC (fun H locs hS => ?_))
        refine lv_icmp_eq (tgt := 1514) F.1 F.2.1 dL_law_1152 (by decide) (fun hc => ?_) (fun hc => ?_)
        · replace h := ifT h hc
          exact w_1514 _ (fun σ τ v3 => ih σ τ v3) σ τ v3 h H locs _ hS (lv_sub hl [0, 1, 2, 3] rfl)
        replace h := ifF h hc
        refine lv_iconst (v := (0 : Int32)) F.1 F.2.1 dL_law_1155 (by decide) ?_
        cases h
      replace h := ifF h hc_30
      by_cases hc_31 : ((xs v3.toNatClampNeg) &&& (63 : Int32)) = (31 : Int32)
      · replace h := ifT h hc_31
        refine lv_tableIn (tgt := 1157) F.1 F.2.1 dL_law_32 (by rw [hc_31]; decide) (by rw [hc_31]; decide) (by rw [hc_31]; rfl) (by decide) ?_
        refine lv_aload_n F.1 F.2.1 dL_law_1157 rfl (lv_at hl 1 rfl) ?_
        refine lv_aload_n F.1 F.2.1 dL_law_1158 rfl (lv_at hl 0 rfl) ?_
        refine lv_iload_n F.1 F.2.1 dL_law_1159 rfl (lv_at hl 3 rfl) ?_
        refine lv_iconst (v := (1 : Int32)) F.1 F.2.1 dL_law_1160 (by decide) ?_
        refine lv_iadd F.1 F.2.1 dL_law_1161 ?_
        obtain ⟨hin, h⟩ := gd h
        refine va_sld F.1 F.2.1 hX hbl hbA hS.2 (inB_vp hin) dL_law_1162 ?_
        refine lv_aload_n F.1 F.2.1 dL_law_1163 rfl (lv_at hl 0 rfl) ?_
        refine lv_iload_n F.1 F.2.1 dL_law_1164 rfl (lv_at hl 3 rfl) ?_
        refine lv_iconst (v := (2 : Int32)) F.1 F.2.1 dL_law_1165 (by decide) ?_
        refine lv_iadd F.1 F.2.1 dL_law_1166 ?_
        obtain ⟨hin, h⟩ := gd h
        refine va_sld F.1 F.2.1 hX hbl hbA hS.2 (inB_vp hin) dL_law_1167 ?_
        obtain ⟨q63, h_q63, h⟩ := bd h
        refine lVi F G hS hl.1 (c_X7_see l g σ τ (xs (v3 + (1 : Int32)).toNatClampNeg) (xs (v3 + (2 : Int32)).toNatClampNeg) q63 h_q63) lk_L_145 ⟨rfl, rfl, Nat.le_of_ble_eq_true rfl, Nat.le_of_ble_eq_true rfl⟩ (Nat.le_of_ble_eq_true rfl) (Nat.le_of_ble_eq_true rfl) (rc_X7 G hS) rfl rfl (Nat.le_of_ble_eq_true rfl) dL_law_1168 (kIiC (fun H locs hS => ?_))
        refine lv_aload_n F.1 F.2.1 dL_law_1171 rfl (lv_at hl 2 rfl) ?_
        refine lv_aload_n F.1 F.2.1 dL_law_1172 rfl (lv_at hl 0 rfl) ?_
        refine lv_iload_n F.1 F.2.1 dL_law_1173 rfl (lv_at hl 3 rfl) ?_
        refine lv_iconst (v := (1 : Int32)) F.1 F.2.1 dL_law_1174 (by decide) ?_
        refine lv_iadd F.1 F.2.1 dL_law_1175 ?_
        obtain ⟨hin, h⟩ := gd h
        refine va_sld F.1 F.2.1 hX hbl hbA hS.2 (inB_vp hin) dL_law_1176 ?_
        refine lv_aload_n F.1 F.2.1 dL_law_1177 rfl (lv_at hl 0 rfl) ?_
        refine lv_iload_n F.1 F.2.1 dL_law_1178 rfl (lv_at hl 3 rfl) ?_
        refine lv_iconst (v := (2 : Int32)) F.1 F.2.1 dL_law_1179 (by decide) ?_
        refine lv_iadd F.1 F.2.1 dL_law_1180 ?_
        obtain ⟨hin, h⟩ := gd h
        refine va_sld F.1 F.2.1 hX hbl hbA hS.2 (inB_vp hin) dL_law_1181 ?_
        obtain ⟨q64, h_q64, h⟩ := bd h
        refine lVi F G hS hl.1 (c_X8_see l g q63.2 τ (xs (v3 + (1 : Int32)).toNatClampNeg) (xs (v3 + (2 : Int32)).toNatClampNeg) q64 h_q64) lk_L_148 ⟨rfl, rfl, Nat.le_of_ble_eq_true rfl, Nat.le_of_ble_eq_true rfl⟩ (Nat.le_of_ble_eq_true rfl) (Nat.le_of_ble_eq_true rfl) (rc_X8 G hS) rfl rfl (Nat.le_of_ble_eq_true rfl) dL_law_1182 (kIiC (fun H locs hS => ?_))
        refine lv_icmp_eq (tgt := 1514) F.1 F.2.1 dL_law_1185 (by decide) (fun hc => ?_) (fun hc => ?_)
        · replace h := ifT h hc
          exact w_1514 _ (fun σ τ v3 => ih σ τ v3) q64.2 τ v3 h H locs _ hS (lv_sub hl [0, 1, 2, 3] rfl)
        replace h := ifF h hc
        refine lv_iconst (v := (0 : Int32)) F.1 F.2.1 dL_law_1188 (by decide) ?_
        cases h
      replace h := ifF h hc_31
      by_cases hc_32 : ((xs v3.toNatClampNeg) &&& (63 : Int32)) = (32 : Int32)
      · replace h := ifT h hc_32
        refine lv_tableIn (tgt := 1190) F.1 F.2.1 dL_law_32 (by rw [hc_32]; decide) (by rw [hc_32]; decide) (by rw [hc_32]; rfl) (by decide) ?_
        refine lv_aload_n F.1 F.2.1 dL_law_1190 rfl (lv_at hl 1 rfl) ?_
        refine lv_aload_n F.1 F.2.1 dL_law_1191 rfl (lv_at hl 0 rfl) ?_
        refine lv_iload_n F.1 F.2.1 dL_law_1192 rfl (lv_at hl 3 rfl) ?_
        refine lv_iconst (v := (1 : Int32)) F.1 F.2.1 dL_law_1193 (by decide) ?_
        refine lv_iadd F.1 F.2.1 dL_law_1194 ?_
        obtain ⟨hin, h⟩ := gd h
        refine va_sld F.1 F.2.1 hX hbl hbA hS.2 (inB_vp hin) dL_law_1195 ?_
        obtain ⟨q65, h_q65, h⟩ := bd h
        refine lVi F G hS hl.1 (c_X7_forget l g σ τ (xs (v3 + (1 : Int32)).toNatClampNeg) q65 h_q65) lk_L_149 ⟨rfl, rfl, Nat.le_of_ble_eq_true rfl, Nat.le_of_ble_eq_true rfl⟩ (Nat.le_of_ble_eq_true rfl) (Nat.le_of_ble_eq_true rfl) (rc_X7 G hS) rfl rfl (Nat.le_of_ble_eq_true rfl) dL_law_1196 (kIiC (fun H locs hS => ?_))
        refine lv_aload_n F.1 F.2.1 dL_law_1199 rfl (lv_at hl 2 rfl) ?_
        refine lv_aload_n F.1 F.2.1 dL_law_1200 rfl (lv_at hl 0 rfl) ?_
        refine lv_iload_n F.1 F.2.1 dL_law_1201 rfl (lv_at hl 3 rfl) ?_
        refine lv_iconst (v := (1 : Int32)) F.1 F.2.1 dL_law_1202 (by decide) ?_
        refine lv_iadd F.1 F.2.1 dL_law_1203 ?_
        obtain ⟨hin, h⟩ := gd h
        refine va_sld F.1 F.2.1 hX hbl hbA hS.2 (inB_vp hin) dL_law_1204 ?_
        obtain ⟨q66, h_q66, h⟩ := bd h
        refine lVi F G hS hl.1 (c_X8_forget l g q65.2 τ (xs (v3 + (1 : Int32)).toNatClampNeg) q66 h_q66) lk_L_152 ⟨rfl, rfl, Nat.le_of_ble_eq_true rfl, Nat.le_of_ble_eq_true rfl⟩ (Nat.le_of_ble_eq_true rfl) (Nat.le_of_ble_eq_true rfl) (rc_X8 G hS) rfl rfl (Nat.le_of_ble_eq_true rfl) dL_law_1205 (kIiC (fun H locs hS => ?_))
        refine lv_icmp_eq (tgt := 1514) F.1 F.2.1 dL_law_1208 (by decide) (fun hc => ?_) (fun hc => ?_)
        · replace h := ifT h hc
          exact w_1514 _ (fun σ τ v3 => ih σ τ v3) q66.2 τ v3 h H locs _ hS (lv_sub hl [0, 1, 2, 3] rfl)
        replace h := ifF h hc
        refine lv_iconst (v := (0 : Int32)) F.1 F.2.1 dL_law_1211 (by decide) ?_
        cases h
      replace h := ifF h hc_32
      by_cases hc_33 : ((xs v3.toNatClampNeg) &&& (63 : Int32)) = (33 : Int32)
      · replace h := ifT h hc_33
        refine lv_tableIn (tgt := 1213) F.1 F.2.1 dL_law_32 (by rw [hc_33]; decide) (by rw [hc_33]; decide) (by rw [hc_33]; rfl) (by decide) ?_
        refine lv_aload_n F.1 F.2.1 dL_law_1213 rfl (lv_at hl 1 rfl) ?_
        refine lv_aload_n F.1 F.2.1 dL_law_1214 rfl (lv_at hl 0 rfl) ?_
        refine lv_iload_n F.1 F.2.1 dL_law_1215 rfl (lv_at hl 3 rfl) ?_
        refine lv_iconst (v := (1 : Int32)) F.1 F.2.1 dL_law_1216 (by decide) ?_
        refine lv_iadd F.1 F.2.1 dL_law_1217 ?_
        obtain ⟨hin, h⟩ := gd h
        refine va_sld F.1 F.2.1 hX hbl hbA hS.2 (inB_vp hin) dL_law_1218 ?_
        obtain ⟨q67, h_q67, h⟩ := bd h
        refine lVi F G hS hl.1 (c_X7_fits l g σ τ (xs (v3 + (1 : Int32)).toNatClampNeg) q67 h_q67) lk_L_153 ⟨rfl, rfl, Nat.le_of_ble_eq_true rfl, Nat.le_of_ble_eq_true rfl⟩ (Nat.le_of_ble_eq_true rfl) (Nat.le_of_ble_eq_true rfl) (rc_X7 G hS) rfl rfl (Nat.le_of_ble_eq_true rfl) dL_law_1219 (kBiC (fun H locs hS => ?_))
        refine lv_aload_n F.1 F.2.1 dL_law_1222 rfl (lv_at hl 2 rfl) ?_
        refine lv_aload_n F.1 F.2.1 dL_law_1223 rfl (lv_at hl 0 rfl) ?_
        refine lv_iload_n F.1 F.2.1 dL_law_1224 rfl (lv_at hl 3 rfl) ?_
        refine lv_iconst (v := (1 : Int32)) F.1 F.2.1 dL_law_1225 (by decide) ?_
        refine lv_iadd F.1 F.2.1 dL_law_1226 ?_
        obtain ⟨hin, h⟩ := gd h
        refine va_sld F.1 F.2.1 hX hbl hbA hS.2 (inB_vp hin) dL_law_1227 ?_
        obtain ⟨q68, h_q68, h⟩ := bd h
        refine lVi F G hS hl.1 (c_X8_fits l g q67.2.1 q67.2.2 (xs (v3 + (1 : Int32)).toNatClampNeg) q68 h_q68) lk_L_156 ⟨rfl, rfl, Nat.le_of_ble_eq_true rfl, Nat.le_of_ble_eq_true rfl⟩ (Nat.le_of_ble_eq_true rfl) (Nat.le_of_ble_eq_true rfl) (rc_X8 G hS) rfl rfl (Nat.le_of_ble_eq_true rfl) dL_law_1228 (kIiC (fun H locs hS => ?_))
        refine lv_icmp_eq (tgt := 1514) F.1 F.2.1 dL_law_1231 (by decide) (fun hc => ?_) (fun hc => ?_)
        · replace h := ifT h hc
          exact w_1514 _ (fun σ τ v3 => ih σ τ v3) q68.2 q67.2.2 v3 h H locs _ hS (lv_sub hl [0, 1, 2, 3] rfl)
        replace h := ifF h hc
        refine lv_iconst (v := (0 : Int32)) F.1 F.2.1 dL_law_1234 (by decide) ?_
        cases h
      replace h := ifF h hc_33
      by_cases hc_34 : ((xs v3.toNatClampNeg) &&& (63 : Int32)) = (34 : Int32)
      · replace h := ifT h hc_34
        refine lv_tableIn (tgt := 1236) F.1 F.2.1 dL_law_32 (by rw [hc_34]; decide) (by rw [hc_34]; decide) (by rw [hc_34]; rfl) (by decide) ?_
        refine lv_aload_n F.1 F.2.1 dL_law_1236 rfl (lv_at hl 1 rfl) ?_
        refine lv_aload_n F.1 F.2.1 dL_law_1237 rfl (lv_at hl 0 rfl) ?_
        refine lv_iload_n F.1 F.2.1 dL_law_1238 rfl (lv_at hl 3 rfl) ?_
        refine lv_iconst (v := (1 : Int32)) F.1 F.2.1 dL_law_1239 (by decide) ?_
        refine lv_iadd F.1 F.2.1 dL_law_1240 ?_
        obtain ⟨hin, h⟩ := gd h
        refine va_sld F.1 F.2.1 hX hbl hbA hS.2 (inB_vp hin) dL_law_1241 ?_
        obtain ⟨q69, h_q69, h⟩ := bd h
        refine lVl F G hS hl.1 (c_X7_likely l g σ τ (xs (v3 + (1 : Int32)).toNatClampNeg) q69 h_q69) lk_L_157 ⟨rfl, rfl, Nat.le_of_ble_eq_true rfl, Nat.le_of_ble_eq_true rfl⟩ (Nat.le_of_ble_eq_true rfl) (Nat.le_of_ble_eq_true rfl) (rc_X7 G hS) rfl rfl (Nat.le_of_ble_eq_true rfl) dL_law_1242 (kBlC (fun H locs hS => ?_))
        refine lv_aload_n F.1 F.2.1 dL_law_1245 rfl (lv_at hl 2 rfl) ?_
        refine lv_aload_n F.1 F.2.1 dL_law_1246 rfl (lv_at hl 0 rfl) ?_
        refine lv_iload_n F.1 F.2.1 dL_law_1247 rfl (lv_at hl 3 rfl) ?_
        refine lv_iconst (v := (1 : Int32)) F.1 F.2.1 dL_law_1248 (by decide) ?_
        refine lv_iadd F.1 F.2.1 dL_law_1249 ?_
        obtain ⟨hin, h⟩ := gd h
        refine va_sld F.1 F.2.1 hX hbl hbA hS.2 (inB_vp hin) dL_law_1250 ?_
        obtain ⟨q70, h_q70, h⟩ := bd h
        refine lVl F G hS hl.1 (c_X8_likely l g q69.2.1 q69.2.2 (xs (v3 + (1 : Int32)).toNatClampNeg) q70 h_q70) lk_L_160 ⟨rfl, rfl, Nat.le_of_ble_eq_true rfl, Nat.le_of_ble_eq_true rfl⟩ (Nat.le_of_ble_eq_true rfl) (Nat.le_of_ble_eq_true rfl) (rc_X8 G hS) rfl rfl (Nat.le_of_ble_eq_true rfl) dL_law_1251 (kIlC (fun H locs hS => ?_))
        refine W.lcmp F.1 F.2.1 dL_law_1254 ?_
        refine lv_if_eq (tgt := 1514) F.1 F.2.1 dL_law_1255 (by decide) (fun hc => ?_) (fun hc => ?_)
        · replace h := ifT h hc
          exact w_1514 _ (fun σ τ v3 => ih σ τ v3) q70.2 q69.2.2 v3 h H locs _ hS (lv_sub hl [0, 1, 2, 3] rfl)
        replace h := ifF h hc
        refine lv_iconst (v := (0 : Int32)) F.1 F.2.1 dL_law_1258 (by decide) ?_
        cases h
      replace h := ifF h hc_34
      by_cases hc_35 : ((xs v3.toNatClampNeg) &&& (63 : Int32)) = (35 : Int32)
      · replace h := ifT h hc_35
        refine lv_tableIn (tgt := 1260) F.1 F.2.1 dL_law_32 (by rw [hc_35]; decide) (by rw [hc_35]; decide) (by rw [hc_35]; rfl) (by decide) ?_
        refine lv_aload_n F.1 F.2.1 dL_law_1260 rfl (lv_at hl 1 rfl) ?_
        refine lv_aload_n F.1 F.2.1 dL_law_1261 rfl (lv_at hl 0 rfl) ?_
        refine lv_iload_n F.1 F.2.1 dL_law_1262 rfl (lv_at hl 3 rfl) ?_
        refine lv_iconst (v := (1 : Int32)) F.1 F.2.1 dL_law_1263 (by decide) ?_
        refine lv_iadd F.1 F.2.1 dL_law_1264 ?_
        obtain ⟨hin, h⟩ := gd h
        refine va_sld F.1 F.2.1 hX hbl hbA hS.2 (inB_vp hin) dL_law_1265 ?_
        refine lv_aload_n F.1 F.2.1 dL_law_1266 rfl (lv_at hl 0 rfl) ?_
        refine lv_iload_n F.1 F.2.1 dL_law_1267 rfl (lv_at hl 3 rfl) ?_
        refine lv_iconst (v := (2 : Int32)) F.1 F.2.1 dL_law_1268 (by decide) ?_
        refine lv_iadd F.1 F.2.1 dL_law_1269 ?_
        obtain ⟨hin, h⟩ := gd h
        refine va_sld F.1 F.2.1 hX hbl hbA hS.2 (inB_vp hin) dL_law_1270 ?_
        obtain ⟨q71, h_q71, h⟩ := bd h
        refine lVi F G hS hl.1 (c_X7_drift l g σ τ (xs (v3 + (1 : Int32)).toNatClampNeg) (xs (v3 + (2 : Int32)).toNatClampNeg) q71 h_q71) lk_L_161 ⟨rfl, rfl, Nat.le_of_ble_eq_true rfl, Nat.le_of_ble_eq_true rfl⟩ (Nat.le_of_ble_eq_true rfl) (Nat.le_of_ble_eq_true rfl) (rc_X7 G hS) rfl rfl (Nat.le_of_ble_eq_true rfl) dL_law_1271 (kIiC (fun H locs hS => ?_))
        refine lv_aload_n F.1 F.2.1 dL_law_1274 rfl (lv_at hl 2 rfl) ?_
        refine lv_aload_n F.1 F.2.1 dL_law_1275 rfl (lv_at hl 0 rfl) ?_
        refine lv_iload_n F.1 F.2.1 dL_law_1276 rfl (lv_at hl 3 rfl) ?_
        refine lv_iconst (v := (1 : Int32)) F.1 F.2.1 dL_law_1277 (by decide) ?_
        refine lv_iadd F.1 F.2.1 dL_law_1278 ?_
        obtain ⟨hin, h⟩ := gd h
        refine va_sld F.1 F.2.1 hX hbl hbA hS.2 (inB_vp hin) dL_law_1279 ?_
        refine lv_aload_n F.1 F.2.1 dL_law_1280 rfl (lv_at hl 0 rfl) ?_
        refine lv_iload_n F.1 F.2.1 dL_law_1281 rfl (lv_at hl 3 rfl) ?_
        refine lv_iconst (v := (2 : Int32)) F.1 F.2.1 dL_law_1282 (by decide) ?_
        refine lv_iadd F.1 F.2.1 dL_law_1283 ?_
        obtain ⟨hin, h⟩ := gd h
        refine va_sld F.1 F.2.1 hX hbl hbA hS.2 (inB_vp hin) dL_law_1284 ?_
        obtain ⟨q72, h_q72, h⟩ := bd h
        refine lVi F G hS hl.1 (c_X8_drift l g q71.2 τ (xs (v3 + (1 : Int32)).toNatClampNeg) (xs (v3 + (2 : Int32)).toNatClampNeg) q72 h_q72) lk_L_164 ⟨rfl, rfl, Nat.le_of_ble_eq_true rfl, Nat.le_of_ble_eq_true rfl⟩ (Nat.le_of_ble_eq_true rfl) (Nat.le_of_ble_eq_true rfl) (rc_X8 G hS) rfl rfl (Nat.le_of_ble_eq_true rfl) dL_law_1285 (kIiC (fun H locs hS => ?_))
        refine lv_icmp_eq (tgt := 1514) F.1 F.2.1 dL_law_1288 (by decide) (fun hc => ?_) (fun hc => ?_)
        · replace h := ifT h hc
          exact w_1514 _ (fun σ τ v3 => ih σ τ v3) q72.2 τ v3 h H locs _ hS (lv_sub hl [0, 1, 2, 3] rfl)
        replace h := ifF h hc
        refine lv_iconst (v := (0 : Int32)) F.1 F.2.1 dL_law_1291 (by decide) ?_
        cases h
      replace h := ifF h hc_35
      by_cases hc_36 : ((xs v3.toNatClampNeg) &&& (63 : Int32)) = (36 : Int32)
      · replace h := ifT h hc_36
        refine lv_tableIn (tgt := 1293) F.1 F.2.1 dL_law_32 (by rw [hc_36]; decide) (by rw [hc_36]; decide) (by rw [hc_36]; rfl) (by decide) ?_
        refine lv_aload_n F.1 F.2.1 dL_law_1293 rfl (lv_at hl 1 rfl) ?_
        refine lv_aload_n F.1 F.2.1 dL_law_1294 rfl (lv_at hl 0 rfl) ?_
        refine lv_iload_n F.1 F.2.1 dL_law_1295 rfl (lv_at hl 3 rfl) ?_
        refine lv_iconst (v := (1 : Int32)) F.1 F.2.1 dL_law_1296 (by decide) ?_
        refine lv_iadd F.1 F.2.1 dL_law_1297 ?_
        obtain ⟨hin, h⟩ := gd h
        refine va_sld F.1 F.2.1 hX hbl hbA hS.2 (inB_vp hin) dL_law_1298 ?_
        obtain ⟨q73, h_q73, h⟩ := bd h
        refine lVi F G hS hl.1 (c_X7_keep l g σ τ (xs (v3 + (1 : Int32)).toNatClampNeg) q73 h_q73) lk_L_165 ⟨rfl, rfl, Nat.le_of_ble_eq_true rfl, Nat.le_of_ble_eq_true rfl⟩ (Nat.le_of_ble_eq_true rfl) (Nat.le_of_ble_eq_true rfl) (rc_X7 G hS) rfl rfl (Nat.le_of_ble_eq_true rfl) dL_law_1299 (kIiC (fun H locs hS => ?_))
        refine lv_aload_n F.1 F.2.1 dL_law_1302 rfl (lv_at hl 2 rfl) ?_
        refine lv_aload_n F.1 F.2.1 dL_law_1303 rfl (lv_at hl 0 rfl) ?_
        refine lv_iload_n F.1 F.2.1 dL_law_1304 rfl (lv_at hl 3 rfl) ?_
        refine lv_iconst (v := (1 : Int32)) F.1 F.2.1 dL_law_1305 (by decide) ?_
        refine lv_iadd F.1 F.2.1 dL_law_1306 ?_
        obtain ⟨hin, h⟩ := gd h
        refine va_sld F.1 F.2.1 hX hbl hbA hS.2 (inB_vp hin) dL_law_1307 ?_
        obtain ⟨q74, h_q74, h⟩ := bd h
        refine lVi F G hS hl.1 (c_X8_keep l g q73.2 τ (xs (v3 + (1 : Int32)).toNatClampNeg) q74 h_q74) lk_L_168 ⟨rfl, rfl, Nat.le_of_ble_eq_true rfl, Nat.le_of_ble_eq_true rfl⟩ (Nat.le_of_ble_eq_true rfl) (Nat.le_of_ble_eq_true rfl) (rc_X8 G hS) rfl rfl (Nat.le_of_ble_eq_true rfl) dL_law_1308 (kIiC (fun H locs hS => ?_))
        refine lv_icmp_eq (tgt := 1514) F.1 F.2.1 dL_law_1311 (by decide) (fun hc => ?_) (fun hc => ?_)
        · replace h := ifT h hc
          exact w_1514 _ (fun σ τ v3 => ih σ τ v3) q74.2 τ v3 h H locs _ hS (lv_sub hl [0, 1, 2, 3] rfl)
        replace h := ifF h hc
        refine lv_iconst (v := (0 : Int32)) F.1 F.2.1 dL_law_1314 (by decide) ?_
        cases h
      replace h := ifF h hc_36
      by_cases hc_37 : ((xs v3.toNatClampNeg) &&& (63 : Int32)) = (37 : Int32)
      · replace h := ifT h hc_37
        refine lv_tableIn (tgt := 1316) F.1 F.2.1 dL_law_32 (by rw [hc_37]; decide) (by rw [hc_37]; decide) (by rw [hc_37]; rfl) (by decide) ?_
        refine lv_aload_n F.1 F.2.1 dL_law_1316 rfl (lv_at hl 1 rfl) ?_
        refine lv_aload_n F.1 F.2.1 dL_law_1317 rfl (lv_at hl 0 rfl) ?_
        refine lv_iload_n F.1 F.2.1 dL_law_1318 rfl (lv_at hl 3 rfl) ?_
        refine lv_iconst (v := (1 : Int32)) F.1 F.2.1 dL_law_1319 (by decide) ?_
        refine lv_iadd F.1 F.2.1 dL_law_1320 ?_
        obtain ⟨hin, h⟩ := gd h
        refine va_sld F.1 F.2.1 hX hbl hbA hS.2 (inB_vp hin) dL_law_1321 ?_
        obtain ⟨q75, h_q75, h⟩ := bd h
        refine lVi F G hS hl.1 (c_X7_back l g σ τ (xs (v3 + (1 : Int32)).toNatClampNeg) q75 h_q75) lk_L_169 ⟨rfl, rfl, Nat.le_of_ble_eq_true rfl, Nat.le_of_ble_eq_true rfl⟩ (Nat.le_of_ble_eq_true rfl) (Nat.le_of_ble_eq_true rfl) (rc_X7 G hS) rfl rfl (Nat.le_of_ble_eq_true rfl) dL_law_1322 (kIiC (fun H locs hS => ?_))
        refine lv_aload_n F.1 F.2.1 dL_law_1325 rfl (lv_at hl 2 rfl) ?_
        refine lv_aload_n F.1 F.2.1 dL_law_1326 rfl (lv_at hl 0 rfl) ?_
        refine lv_iload_n F.1 F.2.1 dL_law_1327 rfl (lv_at hl 3 rfl) ?_
        refine lv_iconst (v := (1 : Int32)) F.1 F.2.1 dL_law_1328 (by decide) ?_
        refine lv_iadd F.1 F.2.1 dL_law_1329 ?_
        obtain ⟨hin, h⟩ := gd h
        refine va_sld F.1 F.2.1 hX hbl hbA hS.2 (inB_vp hin) dL_law_1330 ?_
        obtain ⟨q76, h_q76, h⟩ := bd h
        refine lVi F G hS hl.1 (c_X8_back l g q75.2 τ (xs (v3 + (1 : Int32)).toNatClampNeg) q76 h_q76) lk_L_172 ⟨rfl, rfl, Nat.le_of_ble_eq_true rfl, Nat.le_of_ble_eq_true rfl⟩ (Nat.le_of_ble_eq_true rfl) (Nat.le_of_ble_eq_true rfl) (rc_X8 G hS) rfl rfl (Nat.le_of_ble_eq_true rfl) dL_law_1331 (kIiC (fun H locs hS => ?_))
        refine lv_icmp_eq (tgt := 1514) F.1 F.2.1 dL_law_1334 (by decide) (fun hc => ?_) (fun hc => ?_)
        · replace h := ifT h hc
          exact w_1514 _ (fun σ τ v3 => ih σ τ v3) q76.2 τ v3 h H locs _ hS (lv_sub hl [0, 1, 2, 3] rfl)
        replace h := ifF h hc
        refine lv_iconst (v := (0 : Int32)) F.1 F.2.1 dL_law_1337 (by decide) ?_
        cases h
      replace h := ifF h hc_37
      by_cases hc_38 : ((xs v3.toNatClampNeg) &&& (63 : Int32)) = (38 : Int32)
      · replace h := ifT h hc_38
        refine lv_tableIn (tgt := 1339) F.1 F.2.1 dL_law_32 (by rw [hc_38]; decide) (by rw [hc_38]; decide) (by rw [hc_38]; rfl) (by decide) ?_
        refine lv_aload_n F.1 F.2.1 dL_law_1339 rfl (lv_at hl 1 rfl) ?_
        refine lv_aload_n F.1 F.2.1 dL_law_1340 rfl (lv_at hl 0 rfl) ?_
        refine lv_iload_n F.1 F.2.1 dL_law_1341 rfl (lv_at hl 3 rfl) ?_
        refine lv_iconst (v := (1 : Int32)) F.1 F.2.1 dL_law_1342 (by decide) ?_
        refine lv_iadd F.1 F.2.1 dL_law_1343 ?_
        obtain ⟨hin, h⟩ := gd h
        refine va_sld F.1 F.2.1 hX hbl hbA hS.2 (inB_vp hin) dL_law_1344 ?_
        refine lv_aload_n F.1 F.2.1 dL_law_1345 rfl (lv_at hl 0 rfl) ?_
        refine lv_iload_n F.1 F.2.1 dL_law_1346 rfl (lv_at hl 3 rfl) ?_
        refine lv_iconst (v := (2 : Int32)) F.1 F.2.1 dL_law_1347 (by decide) ?_
        refine lv_iadd F.1 F.2.1 dL_law_1348 ?_
        obtain ⟨hin, h⟩ := gd h
        refine va_sld F.1 F.2.1 hX hbl hbA hS.2 (inB_vp hin) dL_law_1349 ?_
        refine lv_aload_n F.1 F.2.1 dL_law_1350 rfl (lv_at hl 0 rfl) ?_
        refine lv_iload_n F.1 F.2.1 dL_law_1351 rfl (lv_at hl 3 rfl) ?_
        refine lv_iconst (v := (3 : Int32)) F.1 F.2.1 dL_law_1352 (by decide) ?_
        refine lv_iadd F.1 F.2.1 dL_law_1353 ?_
        obtain ⟨hin, h⟩ := gd h
        refine va_sld F.1 F.2.1 hX hbl hbA hS.2 (inB_vp hin) dL_law_1354 ?_
        obtain ⟨q77, h_q77, h⟩ := bd h
        refine lVi F G hS hl.1 (c_X7_sheet l g σ τ (xs (v3 + (1 : Int32)).toNatClampNeg) (xs (v3 + (2 : Int32)).toNatClampNeg) (xs (v3 + (3 : Int32)).toNatClampNeg) q77 h_q77) lk_L_173 ⟨rfl, rfl, Nat.le_of_ble_eq_true rfl, Nat.le_of_ble_eq_true rfl⟩ (Nat.le_of_ble_eq_true rfl) (Nat.le_of_ble_eq_true rfl) (rc_X7 G hS) rfl rfl (Nat.le_of_ble_eq_true rfl) dL_law_1355 (kIiC (fun H locs hS => ?_))
        refine lv_aload_n F.1 F.2.1 dL_law_1358 rfl (lv_at hl 2 rfl) ?_
        refine lv_aload_n F.1 F.2.1 dL_law_1359 rfl (lv_at hl 0 rfl) ?_
        refine lv_iload_n F.1 F.2.1 dL_law_1360 rfl (lv_at hl 3 rfl) ?_
        refine lv_iconst (v := (1 : Int32)) F.1 F.2.1 dL_law_1361 (by decide) ?_
        refine lv_iadd F.1 F.2.1 dL_law_1362 ?_
        obtain ⟨hin, h⟩ := gd h
        refine va_sld F.1 F.2.1 hX hbl hbA hS.2 (inB_vp hin) dL_law_1363 ?_
        refine lv_aload_n F.1 F.2.1 dL_law_1364 rfl (lv_at hl 0 rfl) ?_
        refine lv_iload_n F.1 F.2.1 dL_law_1365 rfl (lv_at hl 3 rfl) ?_
        refine lv_iconst (v := (2 : Int32)) F.1 F.2.1 dL_law_1366 (by decide) ?_
        refine lv_iadd F.1 F.2.1 dL_law_1367 ?_
        obtain ⟨hin, h⟩ := gd h
        refine va_sld F.1 F.2.1 hX hbl hbA hS.2 (inB_vp hin) dL_law_1368 ?_
        refine lv_aload_n F.1 F.2.1 dL_law_1369 rfl (lv_at hl 0 rfl) ?_
        refine lv_iload_n F.1 F.2.1 dL_law_1370 rfl (lv_at hl 3 rfl) ?_
        refine lv_iconst (v := (3 : Int32)) F.1 F.2.1 dL_law_1371 (by decide) ?_
        refine lv_iadd F.1 F.2.1 dL_law_1372 ?_
        obtain ⟨hin, h⟩ := gd h
        refine va_sld F.1 F.2.1 hX hbl hbA hS.2 (inB_vp hin) dL_law_1373 ?_
        obtain ⟨q78, h_q78, h⟩ := bd h
        refine lVi F G hS hl.1 (c_X8_sheet l g q77.2 τ (xs (v3 + (1 : Int32)).toNatClampNeg) (xs (v3 + (2 : Int32)).toNatClampNeg) (xs (v3 + (3 : Int32)).toNatClampNeg) q78 h_q78) lk_L_176 ⟨rfl, rfl, Nat.le_of_ble_eq_true rfl, Nat.le_of_ble_eq_true rfl⟩ (Nat.le_of_ble_eq_true rfl) (Nat.le_of_ble_eq_true rfl) (rc_X8 G hS) rfl rfl (Nat.le_of_ble_eq_true rfl) dL_law_1374 (kIiC (fun H locs hS => ?_))
        refine lv_icmp_eq (tgt := 1514) F.1 F.2.1 dL_law_1377 (by decide) (fun hc => ?_) (fun hc => ?_)
        · replace h := ifT h hc
          exact w_1514 _ (fun σ τ v3 => ih σ τ v3) q78.2 τ v3 h H locs _ hS (lv_sub hl [0, 1, 2, 3] rfl)
        replace h := ifF h hc
        refine lv_iconst (v := (0 : Int32)) F.1 F.2.1 dL_law_1380 (by decide) ?_
        cases h
      replace h := ifF h hc_38
      by_cases hc_39 : ((xs v3.toNatClampNeg) &&& (63 : Int32)) = (39 : Int32)
      · replace h := ifT h hc_39
        refine lv_tableIn (tgt := 1382) F.1 F.2.1 dL_law_32 (by rw [hc_39]; decide) (by rw [hc_39]; decide) (by rw [hc_39]; rfl) (by decide) ?_
        refine lv_aload_n F.1 F.2.1 dL_law_1382 rfl (lv_at hl 1 rfl) ?_
        refine lv_aload_n F.1 F.2.1 dL_law_1383 rfl (lv_at hl 0 rfl) ?_
        refine lv_iload_n F.1 F.2.1 dL_law_1384 rfl (lv_at hl 3 rfl) ?_
        refine lv_iconst (v := (1 : Int32)) F.1 F.2.1 dL_law_1385 (by decide) ?_
        refine lv_iadd F.1 F.2.1 dL_law_1386 ?_
        obtain ⟨hin, h⟩ := gd h
        refine va_sld F.1 F.2.1 hX hbl hbA hS.2 (inB_vp hin) dL_law_1387 ?_
        refine lv_aload_n F.1 F.2.1 dL_law_1388 rfl (lv_at hl 0 rfl) ?_
        refine lv_iload_n F.1 F.2.1 dL_law_1389 rfl (lv_at hl 3 rfl) ?_
        refine lv_iconst (v := (2 : Int32)) F.1 F.2.1 dL_law_1390 (by decide) ?_
        refine lv_iadd F.1 F.2.1 dL_law_1391 ?_
        obtain ⟨hin, h⟩ := gd h
        refine va_sld F.1 F.2.1 hX hbl hbA hS.2 (inB_vp hin) dL_law_1392 ?_
        refine lv_aload_n F.1 F.2.1 dL_law_1393 rfl (lv_at hl 0 rfl) ?_
        refine lv_iload_n F.1 F.2.1 dL_law_1394 rfl (lv_at hl 3 rfl) ?_
        refine lv_iconst (v := (3 : Int32)) F.1 F.2.1 dL_law_1395 (by decide) ?_
        refine lv_iadd F.1 F.2.1 dL_law_1396 ?_
        obtain ⟨hin, h⟩ := gd h
        refine va_sld F.1 F.2.1 hX hbl hbA hS.2 (inB_vp hin) dL_law_1397 ?_
        obtain ⟨q79, h_q79, h⟩ := bd h
        refine lVi F G hS hl.1 (c_X7_lay l g σ τ (xs (v3 + (1 : Int32)).toNatClampNeg) (xs (v3 + (2 : Int32)).toNatClampNeg) (xs (v3 + (3 : Int32)).toNatClampNeg) q79 h_q79) lk_L_177 ⟨rfl, rfl, Nat.le_of_ble_eq_true rfl, Nat.le_of_ble_eq_true rfl⟩ (Nat.le_of_ble_eq_true rfl) (Nat.le_of_ble_eq_true rfl) (rc_X7 G hS) rfl rfl (Nat.le_of_ble_eq_true rfl) dL_law_1398 (kIiC (fun H locs hS => ?_))
        refine lv_aload_n F.1 F.2.1 dL_law_1401 rfl (lv_at hl 2 rfl) ?_
        refine lv_aload_n F.1 F.2.1 dL_law_1402 rfl (lv_at hl 0 rfl) ?_
        refine lv_iload_n F.1 F.2.1 dL_law_1403 rfl (lv_at hl 3 rfl) ?_
        refine lv_iconst (v := (1 : Int32)) F.1 F.2.1 dL_law_1404 (by decide) ?_
        refine lv_iadd F.1 F.2.1 dL_law_1405 ?_
        obtain ⟨hin, h⟩ := gd h
        refine va_sld F.1 F.2.1 hX hbl hbA hS.2 (inB_vp hin) dL_law_1406 ?_
        refine lv_aload_n F.1 F.2.1 dL_law_1407 rfl (lv_at hl 0 rfl) ?_
        refine lv_iload_n F.1 F.2.1 dL_law_1408 rfl (lv_at hl 3 rfl) ?_
        refine lv_iconst (v := (2 : Int32)) F.1 F.2.1 dL_law_1409 (by decide) ?_
        refine lv_iadd F.1 F.2.1 dL_law_1410 ?_
        obtain ⟨hin, h⟩ := gd h
        refine va_sld F.1 F.2.1 hX hbl hbA hS.2 (inB_vp hin) dL_law_1411 ?_
        refine lv_aload_n F.1 F.2.1 dL_law_1412 rfl (lv_at hl 0 rfl) ?_
        refine lv_iload_n F.1 F.2.1 dL_law_1413 rfl (lv_at hl 3 rfl) ?_
        refine lv_iconst (v := (3 : Int32)) F.1 F.2.1 dL_law_1414 (by decide) ?_
        refine lv_iadd F.1 F.2.1 dL_law_1415 ?_
        obtain ⟨hin, h⟩ := gd h
        refine va_sld F.1 F.2.1 hX hbl hbA hS.2 (inB_vp hin) dL_law_1416 ?_
        obtain ⟨q80, h_q80, h⟩ := bd h
        refine lVi F G hS hl.1 (c_X8_lay l g q79.2 τ (xs (v3 + (1 : Int32)).toNatClampNeg) (xs (v3 + (2 : Int32)).toNatClampNeg) (xs (v3 + (3 : Int32)).toNatClampNeg) q80 h_q80) lk_L_180 ⟨rfl, rfl, Nat.le_of_ble_eq_true rfl, Nat.le_of_ble_eq_true rfl⟩ (Nat.le_of_ble_eq_true rfl) (Nat.le_of_ble_eq_true rfl) (rc_X8 G hS) rfl rfl (Nat.le_of_ble_eq_true rfl) dL_law_1417 (kIiC (fun H locs hS => ?_))
        refine lv_icmp_eq (tgt := 1514) F.1 F.2.1 dL_law_1420 (by decide) (fun hc => ?_) (fun hc => ?_)
        · replace h := ifT h hc
          exact w_1514 _ (fun σ τ v3 => ih σ τ v3) q80.2 τ v3 h H locs _ hS (lv_sub hl [0, 1, 2, 3] rfl)
        replace h := ifF h hc
        refine lv_iconst (v := (0 : Int32)) F.1 F.2.1 dL_law_1423 (by decide) ?_
        cases h
      replace h := ifF h hc_39
      by_cases hc_40 : ((xs v3.toNatClampNeg) &&& (63 : Int32)) = (40 : Int32)
      · replace h := ifT h hc_40
        refine lv_tableIn (tgt := 1425) F.1 F.2.1 dL_law_32 (by rw [hc_40]; decide) (by rw [hc_40]; decide) (by rw [hc_40]; rfl) (by decide) ?_
        refine lv_aload_n F.1 F.2.1 dL_law_1425 rfl (lv_at hl 1 rfl) ?_
        refine lv_aload_n F.1 F.2.1 dL_law_1426 rfl (lv_at hl 0 rfl) ?_
        refine lv_iload_n F.1 F.2.1 dL_law_1427 rfl (lv_at hl 3 rfl) ?_
        refine lv_iconst (v := (1 : Int32)) F.1 F.2.1 dL_law_1428 (by decide) ?_
        refine lv_iadd F.1 F.2.1 dL_law_1429 ?_
        obtain ⟨hin, h⟩ := gd h
        refine va_sld F.1 F.2.1 hX hbl hbA hS.2 (inB_vp hin) dL_law_1430 ?_
        refine lv_aload_n F.1 F.2.1 dL_law_1431 rfl (lv_at hl 0 rfl) ?_
        refine lv_iload_n F.1 F.2.1 dL_law_1432 rfl (lv_at hl 3 rfl) ?_
        refine lv_iconst (v := (2 : Int32)) F.1 F.2.1 dL_law_1433 (by decide) ?_
        refine lv_iadd F.1 F.2.1 dL_law_1434 ?_
        obtain ⟨hin, h⟩ := gd h
        refine va_sld F.1 F.2.1 hX hbl hbA hS.2 (inB_vp hin) dL_law_1435 ?_
        refine lv_aload_n F.1 F.2.1 dL_law_1436 rfl (lv_at hl 0 rfl) ?_
        refine lv_iload_n F.1 F.2.1 dL_law_1437 rfl (lv_at hl 3 rfl) ?_
        refine lv_iconst (v := (3 : Int32)) F.1 F.2.1 dL_law_1438 (by decide) ?_
        refine lv_iadd F.1 F.2.1 dL_law_1439 ?_
        obtain ⟨hin, h⟩ := gd h
        refine va_sld F.1 F.2.1 hX hbl hbA hS.2 (inB_vp hin) dL_law_1440 ?_
        refine lv_aload_n F.1 F.2.1 dL_law_1441 rfl (lv_at hl 0 rfl) ?_
        refine lv_iload_n F.1 F.2.1 dL_law_1442 rfl (lv_at hl 3 rfl) ?_
        refine lv_iconst (v := (4 : Int32)) F.1 F.2.1 dL_law_1443 (by decide) ?_
        refine lv_iadd F.1 F.2.1 dL_law_1444 ?_
        obtain ⟨hin, h⟩ := gd h
        refine va_sld F.1 F.2.1 hX hbl hbA hS.2 (inB_vp hin) dL_law_1445 ?_
        obtain ⟨q81, h_q81, h⟩ := bd h
        refine lVi F G hS hl.1 (c_X7_read l g σ τ (xs (v3 + (1 : Int32)).toNatClampNeg) (xs (v3 + (2 : Int32)).toNatClampNeg) (xs (v3 + (3 : Int32)).toNatClampNeg) (xs (v3 + (4 : Int32)).toNatClampNeg) q81 h_q81) lk_L_181 ⟨rfl, rfl, Nat.le_of_ble_eq_true rfl, Nat.le_of_ble_eq_true rfl⟩ (Nat.le_of_ble_eq_true rfl) (Nat.le_of_ble_eq_true rfl) (rc_X7 G hS) rfl rfl (Nat.le_of_ble_eq_true rfl) dL_law_1446 (kIiC (fun H locs hS => ?_))
        refine lv_aload_n F.1 F.2.1 dL_law_1449 rfl (lv_at hl 2 rfl) ?_
        refine lv_aload_n F.1 F.2.1 dL_law_1450 rfl (lv_at hl 0 rfl) ?_
        refine lv_iload_n F.1 F.2.1 dL_law_1451 rfl (lv_at hl 3 rfl) ?_
        refine lv_iconst (v := (1 : Int32)) F.1 F.2.1 dL_law_1452 (by decide) ?_
        refine lv_iadd F.1 F.2.1 dL_law_1453 ?_
        obtain ⟨hin, h⟩ := gd h
        refine va_sld F.1 F.2.1 hX hbl hbA hS.2 (inB_vp hin) dL_law_1454 ?_
        refine lv_aload_n F.1 F.2.1 dL_law_1455 rfl (lv_at hl 0 rfl) ?_
        refine lv_iload_n F.1 F.2.1 dL_law_1456 rfl (lv_at hl 3 rfl) ?_
        refine lv_iconst (v := (2 : Int32)) F.1 F.2.1 dL_law_1457 (by decide) ?_
        refine lv_iadd F.1 F.2.1 dL_law_1458 ?_
        obtain ⟨hin, h⟩ := gd h
        refine va_sld F.1 F.2.1 hX hbl hbA hS.2 (inB_vp hin) dL_law_1459 ?_
        refine lv_aload_n F.1 F.2.1 dL_law_1460 rfl (lv_at hl 0 rfl) ?_
        refine lv_iload_n F.1 F.2.1 dL_law_1461 rfl (lv_at hl 3 rfl) ?_
        refine lv_iconst (v := (3 : Int32)) F.1 F.2.1 dL_law_1462 (by decide) ?_
        refine lv_iadd F.1 F.2.1 dL_law_1463 ?_
        obtain ⟨hin, h⟩ := gd h
        refine va_sld F.1 F.2.1 hX hbl hbA hS.2 (inB_vp hin) dL_law_1464 ?_
        refine lv_aload_n F.1 F.2.1 dL_law_1465 rfl (lv_at hl 0 rfl) ?_
        refine lv_iload_n F.1 F.2.1 dL_law_1466 rfl (lv_at hl 3 rfl) ?_
        refine lv_iconst (v := (4 : Int32)) F.1 F.2.1 dL_law_1467 (by decide) ?_
        refine lv_iadd F.1 F.2.1 dL_law_1468 ?_
        obtain ⟨hin, h⟩ := gd h
        refine va_sld F.1 F.2.1 hX hbl hbA hS.2 (inB_vp hin) dL_law_1469 ?_
        obtain ⟨q82, h_q82, h⟩ := bd h
        refine lVi F G hS hl.1 (c_X8_read l g q81.2 τ (xs (v3 + (1 : Int32)).toNatClampNeg) (xs (v3 + (2 : Int32)).toNatClampNeg) (xs (v3 + (3 : Int32)).toNatClampNeg) (xs (v3 + (4 : Int32)).toNatClampNeg) q82 h_q82) lk_L_185 ⟨rfl, rfl, Nat.le_of_ble_eq_true rfl, Nat.le_of_ble_eq_true rfl⟩ (Nat.le_of_ble_eq_true rfl) (Nat.le_of_ble_eq_true rfl) (rc_X8 G hS) rfl rfl (Nat.le_of_ble_eq_true rfl) dL_law_1470 (kIiC (fun H locs hS => ?_))
        refine lv_icmp_eq (tgt := 1514) F.1 F.2.1 dL_law_1473 (by decide) (fun hc => ?_) (fun hc => ?_)
        · replace h := ifT h hc
          exact w_1514 _ (fun σ τ v3 => ih σ τ v3) q82.2 τ v3 h H locs _ hS (lv_sub hl [0, 1, 2, 3] rfl)
        replace h := ifF h hc
        refine lv_iconst (v := (0 : Int32)) F.1 F.2.1 dL_law_1476 (by decide) ?_
        cases h
      replace h := ifF h hc_40
      by_cases hc_41 : ((xs v3.toNatClampNeg) &&& (63 : Int32)) = (41 : Int32)
      · replace h := ifT h hc_41
        refine lv_tableIn (tgt := 1478) F.1 F.2.1 dL_law_32 (by rw [hc_41]; decide) (by rw [hc_41]; decide) (by rw [hc_41]; rfl) (by decide) ?_
        refine lv_aload_n F.1 F.2.1 dL_law_1478 rfl (lv_at hl 1 rfl) ?_
        obtain ⟨q83, h_q83, h⟩ := bd h
        refine lVi F G hS hl.1 (c_X7_split l g σ τ q83 h_q83) lk_L_186 ⟨rfl, rfl, Nat.le_of_ble_eq_true rfl, Nat.le_of_ble_eq_true rfl⟩ (Nat.le_of_ble_eq_true rfl) (Nat.le_of_ble_eq_true rfl) (rc_X7 G hS) rfl rfl (Nat.le_of_ble_eq_true rfl) dL_law_1479 (kRiC (fun H locs hS => ?_))
        refine lv_aload_n F.1 F.2.1 dL_law_1482 rfl (lv_at hl 2 rfl) ?_
        obtain ⟨q84, h_q84, h⟩ := bd h
        refine lVi F G hS hl.1 (c_X8_split l g σ τ q84 h_q84) lk_L_189 ⟨rfl, rfl, Nat.le_of_ble_eq_true rfl, Nat.le_of_ble_eq_true rfl⟩ (Nat.le_of_ble_eq_true rfl) (Nat.le_of_ble_eq_true rfl) (rc_X8 G hS) rfl rfl (Nat.le_of_ble_eq_true rfl) dL_law_1483 (kRiC (fun H locs hS => ?_))
        refine lv_icmp_eq (tgt := 1514) F.1 F.2.1 dL_law_1486 (by decide) (fun hc => ?_) (fun hc => ?_)
        · replace h := ifT h hc
          exact w_1514 _ (fun σ τ v3 => ih σ τ v3) σ τ v3 h H locs _ hS (lv_sub hl [0, 1, 2, 3] rfl)
        replace h := ifF h hc
        refine lv_iconst (v := (0 : Int32)) F.1 F.2.1 dL_law_1489 (by decide) ?_
        cases h
      replace h := ifF h hc_41
      by_cases hc_42 : ((xs v3.toNatClampNeg) &&& (63 : Int32)) = (42 : Int32)
      · replace h := ifT h hc_42
        refine lv_tableIn (tgt := 1491) F.1 F.2.1 dL_law_32 (by rw [hc_42]; decide) (by rw [hc_42]; decide) (by rw [hc_42]; rfl) (by decide) ?_
        refine lv_aload_n F.1 F.2.1 dL_law_1491 rfl (lv_at hl 1 rfl) ?_
        refine lv_aload_n F.1 F.2.1 dL_law_1492 rfl (lv_at hl 0 rfl) ?_
        refine lv_iload_n F.1 F.2.1 dL_law_1493 rfl (lv_at hl 3 rfl) ?_
        refine lv_iconst (v := (1 : Int32)) F.1 F.2.1 dL_law_1494 (by decide) ?_
        refine lv_iadd F.1 F.2.1 dL_law_1495 ?_
        obtain ⟨hin, h⟩ := gd h
        refine va_sld F.1 F.2.1 hX hbl hbA hS.2 (inB_vp hin) dL_law_1496 ?_
        obtain ⟨q85, h_q85, h⟩ := bd h
        refine lVi F G hS hl.1 (c_X7_count l g σ τ (xs (v3 + (1 : Int32)).toNatClampNeg) q85 h_q85) lk_L_190 ⟨rfl, rfl, Nat.le_of_ble_eq_true rfl, Nat.le_of_ble_eq_true rfl⟩ (Nat.le_of_ble_eq_true rfl) (Nat.le_of_ble_eq_true rfl) (rc_X7 G hS) rfl rfl (Nat.le_of_ble_eq_true rfl) dL_law_1497 (kRiC (fun H locs hS => ?_))
        refine lv_aload_n F.1 F.2.1 dL_law_1500 rfl (lv_at hl 2 rfl) ?_
        refine lv_aload_n F.1 F.2.1 dL_law_1501 rfl (lv_at hl 0 rfl) ?_
        refine lv_iload_n F.1 F.2.1 dL_law_1502 rfl (lv_at hl 3 rfl) ?_
        refine lv_iconst (v := (1 : Int32)) F.1 F.2.1 dL_law_1503 (by decide) ?_
        refine lv_iadd F.1 F.2.1 dL_law_1504 ?_
        obtain ⟨hin, h⟩ := gd h
        refine va_sld F.1 F.2.1 hX hbl hbA hS.2 (inB_vp hin) dL_law_1505 ?_
        obtain ⟨q86, h_q86, h⟩ := bd h
        refine lVi F G hS hl.1 (c_X8_count l g σ τ (xs (v3 + (1 : Int32)).toNatClampNeg) q86 h_q86) lk_L_193 ⟨rfl, rfl, Nat.le_of_ble_eq_true rfl, Nat.le_of_ble_eq_true rfl⟩ (Nat.le_of_ble_eq_true rfl) (Nat.le_of_ble_eq_true rfl) (rc_X8 G hS) rfl rfl (Nat.le_of_ble_eq_true rfl) dL_law_1506 (kRiC (fun H locs hS => ?_))
        refine lv_icmp_eq (tgt := 1514) F.1 F.2.1 dL_law_1509 (by decide) (fun hc => ?_) (fun hc => ?_)
        · replace h := ifT h hc
          exact w_1514 _ (fun σ τ v3 => ih σ τ v3) σ τ v3 h H locs _ hS (lv_sub hl [0, 1, 2, 3] rfl)
        replace h := ifF h hc
        refine lv_iconst (v := (0 : Int32)) F.1 F.2.1 dL_law_1512 (by decide) ?_
        cases h
      replace h := ifF h hc_42
      refine lv_tableOut (tgt := 1514) F.1 F.2.1 dL_law_32 (by have h0 := lv_neT (a := 0) hc_0 (by decide); have h1 := lv_neT (a := 1) hc_1 (by decide); have h2 := lv_neT (a := 2) hc_2 (by decide); have h3 := lv_neT (a := 3) hc_3 (by decide); have h4 := lv_neT (a := 4) hc_4 (by decide); have h5 := lv_neT (a := 5) hc_5 (by decide); have h6 := lv_neT (a := 6) hc_6 (by decide); have h7 := lv_neT (a := 7) hc_7 (by decide); have h8 := lv_neT (a := 8) hc_8 (by decide); have h9 := lv_neT (a := 9) hc_9 (by decide); have h10 := lv_neT (a := 10) hc_10 (by decide); have h11 := lv_neT (a := 11) hc_11 (by decide); have h12 := lv_neT (a := 12) hc_12 (by decide); have h13 := lv_neT (a := 13) hc_13 (by decide); have h14 := lv_neT (a := 14) hc_14 (by decide); have h15 := lv_neT (a := 15) hc_15 (by decide); have h16 := lv_neT (a := 16) hc_16 (by decide); have h17 := lv_neT (a := 17) hc_17 (by decide); have h18 := lv_neT (a := 18) hc_18 (by decide); have h19 := lv_neT (a := 19) hc_19 (by decide); have h20 := lv_neT (a := 20) hc_20 (by decide); have h21 := lv_neT (a := 21) hc_21 (by decide); have h22 := lv_neT (a := 22) hc_22 (by decide); have h23 := lv_neT (a := 23) hc_23 (by decide); have h24 := lv_neT (a := 24) hc_24 (by decide); have h25 := lv_neT (a := 25) hc_25 (by decide); have h26 := lv_neT (a := 26) hc_26 (by decide); have h27 := lv_neT (a := 27) hc_27 (by decide); have h28 := lv_neT (a := 28) hc_28 (by decide); have h29 := lv_neT (a := 29) hc_29 (by decide); have h30 := lv_neT (a := 30) hc_30 (by decide); have h31 := lv_neT (a := 31) hc_31 (by decide); have h32 := lv_neT (a := 32) hc_32 (by decide); have h33 := lv_neT (a := 33) hc_33 (by decide); have h34 := lv_neT (a := 34) hc_34 (by decide); have h35 := lv_neT (a := 35) hc_35 (by decide); have h36 := lv_neT (a := 36) hc_36 (by decide); have h37 := lv_neT (a := 37) hc_37 (by decide); have h38 := lv_neT (a := 38) hc_38 (by decide); have h39 := lv_neT (a := 39) hc_39 (by decide); have h40 := lv_neT (a := 40) hc_40 (by decide); have h41 := lv_neT (a := 41) hc_41 (by decide); have h42 := lv_neT (a := 42) hc_42 (by decide); omega) (by decide) ?_
      exact w_1514 _ (fun σ τ v3 => ih σ τ v3) σ τ v3 h H locs _ hS (lv_sub hl [0, 1, 2, 3] rfl)
  exact w_18
