/-! the cells that both constructors make, by place -/
def w7 (g : GG) (h0 : Nat) (u : Nat → Nat) : va_W := [(h0, .inr (7, [.ref (u 1), .ref (u 10), .ref (u 19), .int 0, .ref (u 28), .ref (u 29), .int 0, .ref (u 40), .ref (u 41), .ref (u 51), .ref (u 54), .ref (u 59), .int 0])), ((u 1), .inr (6, [.ref (u 9), .ref (u 2), .ref (u 3), .ref (u 4), .ref (u 5), .ref (u 6), .ref (u 7), .ref (u 8)])), ((u 2), .inl (gC g 1, 3, .inl (fun _ => (0 : Int32)))), ((u 3), .inl (gC g 1, 3, .inl (fun _ => (0 : Int32)))), ((u 4), .inl (gC g 1, 3, .inl (fun _ => (0 : Int32)))), ((u 5), .inl (gC g 1, 3, .inl (fun _ => (0 : Int32)))), ((u 6), .inl (gC g 1, 3, .inl (fun _ => (0 : Int32)))), ((u 7), .inl (gC g 1, 5, .inl (fun _ => (0 : Int32)))), ((u 8), .inl (gC g 1, 5, .inl (fun _ => (0 : Int32)))), ((u 9), .inl (gC g 1, 13, .inl fAT)), ((u 10), .inr (6, [.ref (u 18), .ref (u 11), .ref (u 12), .ref (u 13), .ref (u 14), .ref (u 15), .ref (u 16), .ref (u 17)])), ((u 11), .inl (gC g 1, 3, .inl (fun _ => (0 : Int32)))), ((u 12), .inl (gC g 1, 3, .inl (fun _ => (0 : Int32)))), ((u 13), .inl (gC g 1, 3, .inl (fun _ => (0 : Int32)))), ((u 14), .inl (gC g 1, 3, .inl (fun _ => (0 : Int32)))), ((u 15), .inl (gC g 1, 3, .inl (fun _ => (0 : Int32)))), ((u 16), .inl (gC g 1, 5, .inl (fun _ => (0 : Int32)))), ((u 17), .inl (gC g 1, 5, .inl (fun _ => (0 : Int32)))), ((u 18), .inl (gC g 1, 13, .inl fAT)), ((u 19), .inr (6, [.ref (u 27), .ref (u 20), .ref (u 21), .ref (u 22), .ref (u 23), .ref (u 24), .ref (u 25), .ref (u 26)])), ((u 20), .inl (gC g 1, 3, .inl (fun _ => (0 : Int32)))), ((u 21), .inl (gC g 1, 3, .inl (fun _ => (0 : Int32)))), ((u 22), .inl (gC g 1, 3, .inl (fun _ => (0 : Int32)))), ((u 23), .inl (gC g 1, 3, .inl (fun _ => (0 : Int32)))), ((u 24), .inl (gC g 1, 3, .inl (fun _ => (0 : Int32)))), ((u 25), .inl (gC g 1, 5, .inl (fun _ => (0 : Int32)))), ((u 26), .inl (gC g 1, 5, .inl (fun _ => (0 : Int32)))), ((u 27), .inl (gC g 1, 13, .inl fAT)), ((u 28), .inr (2, [.ref (u 29), .ref (u 31), .int 0, .int 0, .int 0])), ((u 29), .inr (5, [.ref (u 30), .int 0, .int 0, .int 0, .int 0])), ((u 30), .inl (gC g 0, 160, .inl (fun _ => (0 : Int32)))), ((u 31), .inr (6, [.ref (u 39), .ref (u 32), .ref (u 33), .ref (u 34), .ref (u 35), .ref (u 36), .ref (u 37), .ref (u 38)])), ((u 32), .inl (gC g 1, 3, .inl (fun _ => (0 : Int32)))), ((u 33), .inl (gC g 1, 3, .inl (fun _ => (0 : Int32)))), ((u 34), .inl (gC g 1, 3, .inl (fun _ => (0 : Int32)))), ((u 35), .inl (gC g 1, 3, .inl (fun _ => (0 : Int32)))), ((u 36), .inl (gC g 1, 3, .inl (fun _ => (0 : Int32)))), ((u 37), .inl (gC g 1, 5, .inl (fun _ => (0 : Int32)))), ((u 38), .inl (gC g 1, 5, .inl (fun _ => (0 : Int32)))), ((u 39), .inl (gC g 1, 13, .inl fAT)), ((u 40), .inr (1, [.int 0, .int 0, .int 0, .int 0, .int 0, .int 0])), ((u 41), .inr (0, [.int 0, .ref (u 42), .ref (u 43), .ref (u 44), .ref (u 45), .ref (u 46), .ref (u 47), .ref (u 48), .ref (u 49), .ref (u 50)])), ((u 42), .inl (gC g 2, 11, .inr (.inl (fun _ => (0 : Int64))))), ((u 43), .inl (gC g 2, 11, .inr (.inl (fun _ => (0 : Int64))))), ((u 44), .inl (gC g 2, 11, .inr (.inl (fun _ => (0 : Int64))))), ((u 45), .inl (gC g 2, 11, .inr (.inl (fun _ => (0 : Int64))))), ((u 46), .inl (gC g 2, 11, .inr (.inl (fun _ => (0 : Int64))))), ((u 47), .inl (gC g 2, 11, .inr (.inl (fun _ => (0 : Int64))))), ((u 48), .inl (gC g 2, 11, .inr (.inl (fun _ => (0 : Int64))))), ((u 49), .inl (gC g 2, 11, .inr (.inl (fun _ => (0 : Int64))))), ((u 50), .inl (gC g 2, 11, .inr (.inl (fun _ => (0 : Int64))))), ((u 51), .inr (3, [.ref (u 52), .ref (u 53), .int 0])), ((u 52), .inl (gC g 1, 6, .inl (fun _ => (0 : Int32)))), ((u 53), .inl (gC g 1, 6, .inl (fun _ => (0 : Int32)))), ((u 54), .inr (4, [.ref (u 55), .ref (u 56), .ref (u 57), .ref (u 58)])), ((u 55), .inl (gC g 1, 4, .inl (fun _ => (0 : Int32)))), ((u 56), .inl (gC g 1, 4, .inl (fun _ => (0 : Int32)))), ((u 57), .inl (gC g 1, 4, .inl (fun _ => (0 : Int32)))), ((u 58), .inl (gC g 1, 160, .inl (fun _ => (0 : Int32)))), ((u 59), .inl (gC g 1, 5, .inl (fun _ => (0 : Int32))))]
def w8 (g : GG) (h0 : Nat) (u : Nat → Nat) : va_W := [(h0, .inr (8, [.ref (u 1), .int (6 : Int32), .ref (u 2), .int 0, .ref (u 3), .int 0, .ref (u 4), .int 0, .ref (u 5), .ref (u 6), .ref (u 7), .ref (u 8), .ref (u 9), .ref (u 10), .int 0, .int 0, .int 0, .int 0, .int 0, .int 0, .int 0, .int 0, .ref (u 11), .int 0, .int 0, .int 0, .int 0, .int 0, .int 0, .int 0, .int 0, .ref (u 12), .ref (u 13), .int 0, .int 0, .int 0, .int 0, .int 0, .int 0, .int 0, .ref (u 14), .int 0, .ref (u 15), .ref (u 16), .ref (u 17), .ref (u 18), .int 0])), ((u 1), .inl (gC g 1, 90, .inl (fun _ => (0 : Int32)))), ((u 2), .inl (gC g 1, 6, .inl (fun _ => (0 : Int32)))), ((u 3), .inl (gC g 1, 3, .inl (fun _ => (0 : Int32)))), ((u 4), .inl (gC g 1, 5, .inl (fun _ => (0 : Int32)))), ((u 5), .inl (gC g 1, 2, .inl (lz lzT_q5 2))), ((u 6), .inl (gC g 1, 18, .inl (fun _ => (0 : Int32)))), ((u 7), .inl (gC g 1, 6, .inl (fun _ => (0 : Int32)))), ((u 8), .inl (gC g 1, 3, .inl (fun _ => (0 : Int32)))), ((u 9), .inl (gC g 1, 5, .inl (fun _ => (0 : Int32)))), ((u 10), .inl (gC g 1, 2, .inl (fun _ => (0 : Int32)))), ((u 11), .inl (gC g 1, 160, .inl (fun _ => (0 : Int32)))), ((u 12), .inl (gC g 1, 17, .inl (lz lzT_q12 17))), ((u 13), .inl (gC g 1, 72, .inl (lz lzT_q13 72))), ((u 14), .inl (gC g 1, 12, .inl (fun _ => (0 : Int32)))), ((u 15), .inl (gC g 3, 2, .inl (fun _ => (0 : Int32)))), ((u 16), .inl (gC g 1, 4, .inl (lz lzT_q16 4))), ((u 17), .inl (gC g 1, 4, .inl (fun _ => (0 : Int32)))), ((u 18), .inl (gC g 1, 160, .inl (fun _ => (0 : Int32))))]
def p7L : List Nat := [0, 1, 9, 2, 3, 4, 5, 6, 7, 8, 10, 18, 11, 12, 13, 14, 15, 16, 17, 19, 27, 20, 21, 22, 23, 24, 25, 26, 31, 39, 32, 33, 34, 35, 36, 37, 38, 29, 30, 28, 40, 41, 42, 43, 44, 45, 46, 47, 48, 49, 50, 51, 52, 53, 54, 55, 56, 57, 58, 59]
def pm (i : Nat) : Nat := if i < 60 then p7L.getD i 0 else i
def qq (h0 h1 : Nat) (u v : Nat → Nat) : Nat → Nat := fun i => if i < 60 then (if i = 0 then h0 else u (p7L.getD i 0)) else if i = 60 then h1 else v (i - 60)
def zI : ZI := fun c => if c = 2 then fAT else if c = 11 then fAT else if c = 20 then fAT else if c = 29 then fAT else if c = 60 then (fun i => if i = 1 then 6 else 0) else if c = 65 then lz lzT_q5 2 else if c = 72 then lz lzT_q12 17 else if c = 73 then lz lzT_q13 72 else if c = 76 then lz lzT_q16 4 else fun _ => 0
def zL : ZL := fun _ _ => 0
theorem pm_inj : ∀ i, i < 79 → ∀ j, j < 79 → pm i = pm j → i = j := by decide +kernel
section PW
variable {dC : Nat → ClassId} {dI : Nat → Nat → Nat} {cs : Nat → ClassId} {tt aK aV : Nat → Nat} {B h0 h1 : Nat} {u v : Nat → Nat}
set_option maxRecDepth 20000 in
theorem pw_0 : (w7 (gk dC dI cs tt aK aV B (fun _ => 0)) h0 u ++ w8 (gk dC dI cs tt aK aV B (fun _ => 0)) h1 v)[0]? = some (gA (gk dC dI cs tt aK aV B (qq h0 h1 u v)) 0, eF (gk dC dI cs tt aK aV B (qq h0 h1 u v)) 0 (zI 0) (zL 0)) := rfl
set_option maxRecDepth 20000 in
theorem pw_1 : (w7 (gk dC dI cs tt aK aV B (fun _ => 0)) h0 u ++ w8 (gk dC dI cs tt aK aV B (fun _ => 0)) h1 v)[1]? = some (gA (gk dC dI cs tt aK aV B (qq h0 h1 u v)) 1, eF (gk dC dI cs tt aK aV B (qq h0 h1 u v)) 1 (zI 1) (zL 1)) := rfl
set_option maxRecDepth 20000 in
theorem pw_2 : (w7 (gk dC dI cs tt aK aV B (fun _ => 0)) h0 u ++ w8 (gk dC dI cs tt aK aV B (fun _ => 0)) h1 v)[9]? = some (gA (gk dC dI cs tt aK aV B (qq h0 h1 u v)) 2, eF (gk dC dI cs tt aK aV B (qq h0 h1 u v)) 2 (zI 2) (zL 2)) := rfl
set_option maxRecDepth 20000 in
theorem pw_3 : (w7 (gk dC dI cs tt aK aV B (fun _ => 0)) h0 u ++ w8 (gk dC dI cs tt aK aV B (fun _ => 0)) h1 v)[2]? = some (gA (gk dC dI cs tt aK aV B (qq h0 h1 u v)) 3, eF (gk dC dI cs tt aK aV B (qq h0 h1 u v)) 3 (zI 3) (zL 3)) := rfl
set_option maxRecDepth 20000 in
theorem pw_4 : (w7 (gk dC dI cs tt aK aV B (fun _ => 0)) h0 u ++ w8 (gk dC dI cs tt aK aV B (fun _ => 0)) h1 v)[3]? = some (gA (gk dC dI cs tt aK aV B (qq h0 h1 u v)) 4, eF (gk dC dI cs tt aK aV B (qq h0 h1 u v)) 4 (zI 4) (zL 4)) := rfl
set_option maxRecDepth 20000 in
theorem pw_5 : (w7 (gk dC dI cs tt aK aV B (fun _ => 0)) h0 u ++ w8 (gk dC dI cs tt aK aV B (fun _ => 0)) h1 v)[4]? = some (gA (gk dC dI cs tt aK aV B (qq h0 h1 u v)) 5, eF (gk dC dI cs tt aK aV B (qq h0 h1 u v)) 5 (zI 5) (zL 5)) := rfl
set_option maxRecDepth 20000 in
theorem pw_6 : (w7 (gk dC dI cs tt aK aV B (fun _ => 0)) h0 u ++ w8 (gk dC dI cs tt aK aV B (fun _ => 0)) h1 v)[5]? = some (gA (gk dC dI cs tt aK aV B (qq h0 h1 u v)) 6, eF (gk dC dI cs tt aK aV B (qq h0 h1 u v)) 6 (zI 6) (zL 6)) := rfl
set_option maxRecDepth 20000 in
theorem pw_7 : (w7 (gk dC dI cs tt aK aV B (fun _ => 0)) h0 u ++ w8 (gk dC dI cs tt aK aV B (fun _ => 0)) h1 v)[6]? = some (gA (gk dC dI cs tt aK aV B (qq h0 h1 u v)) 7, eF (gk dC dI cs tt aK aV B (qq h0 h1 u v)) 7 (zI 7) (zL 7)) := rfl
set_option maxRecDepth 20000 in
theorem pw_8 : (w7 (gk dC dI cs tt aK aV B (fun _ => 0)) h0 u ++ w8 (gk dC dI cs tt aK aV B (fun _ => 0)) h1 v)[7]? = some (gA (gk dC dI cs tt aK aV B (qq h0 h1 u v)) 8, eF (gk dC dI cs tt aK aV B (qq h0 h1 u v)) 8 (zI 8) (zL 8)) := rfl
set_option maxRecDepth 20000 in
theorem pw_9 : (w7 (gk dC dI cs tt aK aV B (fun _ => 0)) h0 u ++ w8 (gk dC dI cs tt aK aV B (fun _ => 0)) h1 v)[8]? = some (gA (gk dC dI cs tt aK aV B (qq h0 h1 u v)) 9, eF (gk dC dI cs tt aK aV B (qq h0 h1 u v)) 9 (zI 9) (zL 9)) := rfl
set_option maxRecDepth 20000 in
theorem pw_10 : (w7 (gk dC dI cs tt aK aV B (fun _ => 0)) h0 u ++ w8 (gk dC dI cs tt aK aV B (fun _ => 0)) h1 v)[10]? = some (gA (gk dC dI cs tt aK aV B (qq h0 h1 u v)) 10, eF (gk dC dI cs tt aK aV B (qq h0 h1 u v)) 10 (zI 10) (zL 10)) := rfl
set_option maxRecDepth 20000 in
theorem pw_11 : (w7 (gk dC dI cs tt aK aV B (fun _ => 0)) h0 u ++ w8 (gk dC dI cs tt aK aV B (fun _ => 0)) h1 v)[18]? = some (gA (gk dC dI cs tt aK aV B (qq h0 h1 u v)) 11, eF (gk dC dI cs tt aK aV B (qq h0 h1 u v)) 11 (zI 11) (zL 11)) := rfl
set_option maxRecDepth 20000 in
theorem pw_12 : (w7 (gk dC dI cs tt aK aV B (fun _ => 0)) h0 u ++ w8 (gk dC dI cs tt aK aV B (fun _ => 0)) h1 v)[11]? = some (gA (gk dC dI cs tt aK aV B (qq h0 h1 u v)) 12, eF (gk dC dI cs tt aK aV B (qq h0 h1 u v)) 12 (zI 12) (zL 12)) := rfl
set_option maxRecDepth 20000 in
theorem pw_13 : (w7 (gk dC dI cs tt aK aV B (fun _ => 0)) h0 u ++ w8 (gk dC dI cs tt aK aV B (fun _ => 0)) h1 v)[12]? = some (gA (gk dC dI cs tt aK aV B (qq h0 h1 u v)) 13, eF (gk dC dI cs tt aK aV B (qq h0 h1 u v)) 13 (zI 13) (zL 13)) := rfl
set_option maxRecDepth 20000 in
theorem pw_14 : (w7 (gk dC dI cs tt aK aV B (fun _ => 0)) h0 u ++ w8 (gk dC dI cs tt aK aV B (fun _ => 0)) h1 v)[13]? = some (gA (gk dC dI cs tt aK aV B (qq h0 h1 u v)) 14, eF (gk dC dI cs tt aK aV B (qq h0 h1 u v)) 14 (zI 14) (zL 14)) := rfl
set_option maxRecDepth 20000 in
theorem pw_15 : (w7 (gk dC dI cs tt aK aV B (fun _ => 0)) h0 u ++ w8 (gk dC dI cs tt aK aV B (fun _ => 0)) h1 v)[14]? = some (gA (gk dC dI cs tt aK aV B (qq h0 h1 u v)) 15, eF (gk dC dI cs tt aK aV B (qq h0 h1 u v)) 15 (zI 15) (zL 15)) := rfl
set_option maxRecDepth 20000 in
theorem pw_16 : (w7 (gk dC dI cs tt aK aV B (fun _ => 0)) h0 u ++ w8 (gk dC dI cs tt aK aV B (fun _ => 0)) h1 v)[15]? = some (gA (gk dC dI cs tt aK aV B (qq h0 h1 u v)) 16, eF (gk dC dI cs tt aK aV B (qq h0 h1 u v)) 16 (zI 16) (zL 16)) := rfl
set_option maxRecDepth 20000 in
theorem pw_17 : (w7 (gk dC dI cs tt aK aV B (fun _ => 0)) h0 u ++ w8 (gk dC dI cs tt aK aV B (fun _ => 0)) h1 v)[16]? = some (gA (gk dC dI cs tt aK aV B (qq h0 h1 u v)) 17, eF (gk dC dI cs tt aK aV B (qq h0 h1 u v)) 17 (zI 17) (zL 17)) := rfl
set_option maxRecDepth 20000 in
theorem pw_18 : (w7 (gk dC dI cs tt aK aV B (fun _ => 0)) h0 u ++ w8 (gk dC dI cs tt aK aV B (fun _ => 0)) h1 v)[17]? = some (gA (gk dC dI cs tt aK aV B (qq h0 h1 u v)) 18, eF (gk dC dI cs tt aK aV B (qq h0 h1 u v)) 18 (zI 18) (zL 18)) := rfl
set_option maxRecDepth 20000 in
theorem pw_19 : (w7 (gk dC dI cs tt aK aV B (fun _ => 0)) h0 u ++ w8 (gk dC dI cs tt aK aV B (fun _ => 0)) h1 v)[19]? = some (gA (gk dC dI cs tt aK aV B (qq h0 h1 u v)) 19, eF (gk dC dI cs tt aK aV B (qq h0 h1 u v)) 19 (zI 19) (zL 19)) := rfl
set_option maxRecDepth 20000 in
theorem pw_20 : (w7 (gk dC dI cs tt aK aV B (fun _ => 0)) h0 u ++ w8 (gk dC dI cs tt aK aV B (fun _ => 0)) h1 v)[27]? = some (gA (gk dC dI cs tt aK aV B (qq h0 h1 u v)) 20, eF (gk dC dI cs tt aK aV B (qq h0 h1 u v)) 20 (zI 20) (zL 20)) := rfl
set_option maxRecDepth 20000 in
theorem pw_21 : (w7 (gk dC dI cs tt aK aV B (fun _ => 0)) h0 u ++ w8 (gk dC dI cs tt aK aV B (fun _ => 0)) h1 v)[20]? = some (gA (gk dC dI cs tt aK aV B (qq h0 h1 u v)) 21, eF (gk dC dI cs tt aK aV B (qq h0 h1 u v)) 21 (zI 21) (zL 21)) := rfl
set_option maxRecDepth 20000 in
theorem pw_22 : (w7 (gk dC dI cs tt aK aV B (fun _ => 0)) h0 u ++ w8 (gk dC dI cs tt aK aV B (fun _ => 0)) h1 v)[21]? = some (gA (gk dC dI cs tt aK aV B (qq h0 h1 u v)) 22, eF (gk dC dI cs tt aK aV B (qq h0 h1 u v)) 22 (zI 22) (zL 22)) := rfl
set_option maxRecDepth 20000 in
theorem pw_23 : (w7 (gk dC dI cs tt aK aV B (fun _ => 0)) h0 u ++ w8 (gk dC dI cs tt aK aV B (fun _ => 0)) h1 v)[22]? = some (gA (gk dC dI cs tt aK aV B (qq h0 h1 u v)) 23, eF (gk dC dI cs tt aK aV B (qq h0 h1 u v)) 23 (zI 23) (zL 23)) := rfl
set_option maxRecDepth 20000 in
theorem pw_24 : (w7 (gk dC dI cs tt aK aV B (fun _ => 0)) h0 u ++ w8 (gk dC dI cs tt aK aV B (fun _ => 0)) h1 v)[23]? = some (gA (gk dC dI cs tt aK aV B (qq h0 h1 u v)) 24, eF (gk dC dI cs tt aK aV B (qq h0 h1 u v)) 24 (zI 24) (zL 24)) := rfl
set_option maxRecDepth 20000 in
theorem pw_25 : (w7 (gk dC dI cs tt aK aV B (fun _ => 0)) h0 u ++ w8 (gk dC dI cs tt aK aV B (fun _ => 0)) h1 v)[24]? = some (gA (gk dC dI cs tt aK aV B (qq h0 h1 u v)) 25, eF (gk dC dI cs tt aK aV B (qq h0 h1 u v)) 25 (zI 25) (zL 25)) := rfl
set_option maxRecDepth 20000 in
theorem pw_26 : (w7 (gk dC dI cs tt aK aV B (fun _ => 0)) h0 u ++ w8 (gk dC dI cs tt aK aV B (fun _ => 0)) h1 v)[25]? = some (gA (gk dC dI cs tt aK aV B (qq h0 h1 u v)) 26, eF (gk dC dI cs tt aK aV B (qq h0 h1 u v)) 26 (zI 26) (zL 26)) := rfl
set_option maxRecDepth 20000 in
theorem pw_27 : (w7 (gk dC dI cs tt aK aV B (fun _ => 0)) h0 u ++ w8 (gk dC dI cs tt aK aV B (fun _ => 0)) h1 v)[26]? = some (gA (gk dC dI cs tt aK aV B (qq h0 h1 u v)) 27, eF (gk dC dI cs tt aK aV B (qq h0 h1 u v)) 27 (zI 27) (zL 27)) := rfl
set_option maxRecDepth 20000 in
theorem pw_28 : (w7 (gk dC dI cs tt aK aV B (fun _ => 0)) h0 u ++ w8 (gk dC dI cs tt aK aV B (fun _ => 0)) h1 v)[31]? = some (gA (gk dC dI cs tt aK aV B (qq h0 h1 u v)) 28, eF (gk dC dI cs tt aK aV B (qq h0 h1 u v)) 28 (zI 28) (zL 28)) := rfl
set_option maxRecDepth 20000 in
theorem pw_29 : (w7 (gk dC dI cs tt aK aV B (fun _ => 0)) h0 u ++ w8 (gk dC dI cs tt aK aV B (fun _ => 0)) h1 v)[39]? = some (gA (gk dC dI cs tt aK aV B (qq h0 h1 u v)) 29, eF (gk dC dI cs tt aK aV B (qq h0 h1 u v)) 29 (zI 29) (zL 29)) := rfl
set_option maxRecDepth 20000 in
theorem pw_30 : (w7 (gk dC dI cs tt aK aV B (fun _ => 0)) h0 u ++ w8 (gk dC dI cs tt aK aV B (fun _ => 0)) h1 v)[32]? = some (gA (gk dC dI cs tt aK aV B (qq h0 h1 u v)) 30, eF (gk dC dI cs tt aK aV B (qq h0 h1 u v)) 30 (zI 30) (zL 30)) := rfl
set_option maxRecDepth 20000 in
theorem pw_31 : (w7 (gk dC dI cs tt aK aV B (fun _ => 0)) h0 u ++ w8 (gk dC dI cs tt aK aV B (fun _ => 0)) h1 v)[33]? = some (gA (gk dC dI cs tt aK aV B (qq h0 h1 u v)) 31, eF (gk dC dI cs tt aK aV B (qq h0 h1 u v)) 31 (zI 31) (zL 31)) := rfl
set_option maxRecDepth 20000 in
theorem pw_32 : (w7 (gk dC dI cs tt aK aV B (fun _ => 0)) h0 u ++ w8 (gk dC dI cs tt aK aV B (fun _ => 0)) h1 v)[34]? = some (gA (gk dC dI cs tt aK aV B (qq h0 h1 u v)) 32, eF (gk dC dI cs tt aK aV B (qq h0 h1 u v)) 32 (zI 32) (zL 32)) := rfl
set_option maxRecDepth 20000 in
theorem pw_33 : (w7 (gk dC dI cs tt aK aV B (fun _ => 0)) h0 u ++ w8 (gk dC dI cs tt aK aV B (fun _ => 0)) h1 v)[35]? = some (gA (gk dC dI cs tt aK aV B (qq h0 h1 u v)) 33, eF (gk dC dI cs tt aK aV B (qq h0 h1 u v)) 33 (zI 33) (zL 33)) := rfl
set_option maxRecDepth 20000 in
theorem pw_34 : (w7 (gk dC dI cs tt aK aV B (fun _ => 0)) h0 u ++ w8 (gk dC dI cs tt aK aV B (fun _ => 0)) h1 v)[36]? = some (gA (gk dC dI cs tt aK aV B (qq h0 h1 u v)) 34, eF (gk dC dI cs tt aK aV B (qq h0 h1 u v)) 34 (zI 34) (zL 34)) := rfl
set_option maxRecDepth 20000 in
theorem pw_35 : (w7 (gk dC dI cs tt aK aV B (fun _ => 0)) h0 u ++ w8 (gk dC dI cs tt aK aV B (fun _ => 0)) h1 v)[37]? = some (gA (gk dC dI cs tt aK aV B (qq h0 h1 u v)) 35, eF (gk dC dI cs tt aK aV B (qq h0 h1 u v)) 35 (zI 35) (zL 35)) := rfl
set_option maxRecDepth 20000 in
theorem pw_36 : (w7 (gk dC dI cs tt aK aV B (fun _ => 0)) h0 u ++ w8 (gk dC dI cs tt aK aV B (fun _ => 0)) h1 v)[38]? = some (gA (gk dC dI cs tt aK aV B (qq h0 h1 u v)) 36, eF (gk dC dI cs tt aK aV B (qq h0 h1 u v)) 36 (zI 36) (zL 36)) := rfl
set_option maxRecDepth 20000 in
theorem pw_37 : (w7 (gk dC dI cs tt aK aV B (fun _ => 0)) h0 u ++ w8 (gk dC dI cs tt aK aV B (fun _ => 0)) h1 v)[29]? = some (gA (gk dC dI cs tt aK aV B (qq h0 h1 u v)) 37, eF (gk dC dI cs tt aK aV B (qq h0 h1 u v)) 37 (zI 37) (zL 37)) := rfl
set_option maxRecDepth 20000 in
theorem pw_38 : (w7 (gk dC dI cs tt aK aV B (fun _ => 0)) h0 u ++ w8 (gk dC dI cs tt aK aV B (fun _ => 0)) h1 v)[30]? = some (gA (gk dC dI cs tt aK aV B (qq h0 h1 u v)) 38, eF (gk dC dI cs tt aK aV B (qq h0 h1 u v)) 38 (zI 38) (zL 38)) := rfl
set_option maxRecDepth 20000 in
theorem pw_39 : (w7 (gk dC dI cs tt aK aV B (fun _ => 0)) h0 u ++ w8 (gk dC dI cs tt aK aV B (fun _ => 0)) h1 v)[28]? = some (gA (gk dC dI cs tt aK aV B (qq h0 h1 u v)) 39, eF (gk dC dI cs tt aK aV B (qq h0 h1 u v)) 39 (zI 39) (zL 39)) := rfl
set_option maxRecDepth 20000 in
theorem pw_40 : (w7 (gk dC dI cs tt aK aV B (fun _ => 0)) h0 u ++ w8 (gk dC dI cs tt aK aV B (fun _ => 0)) h1 v)[40]? = some (gA (gk dC dI cs tt aK aV B (qq h0 h1 u v)) 40, eF (gk dC dI cs tt aK aV B (qq h0 h1 u v)) 40 (zI 40) (zL 40)) := rfl
set_option maxRecDepth 20000 in
theorem pw_41 : (w7 (gk dC dI cs tt aK aV B (fun _ => 0)) h0 u ++ w8 (gk dC dI cs tt aK aV B (fun _ => 0)) h1 v)[41]? = some (gA (gk dC dI cs tt aK aV B (qq h0 h1 u v)) 41, eF (gk dC dI cs tt aK aV B (qq h0 h1 u v)) 41 (zI 41) (zL 41)) := rfl
set_option maxRecDepth 20000 in
theorem pw_42 : (w7 (gk dC dI cs tt aK aV B (fun _ => 0)) h0 u ++ w8 (gk dC dI cs tt aK aV B (fun _ => 0)) h1 v)[42]? = some (gA (gk dC dI cs tt aK aV B (qq h0 h1 u v)) 42, eF (gk dC dI cs tt aK aV B (qq h0 h1 u v)) 42 (zI 42) (zL 42)) := rfl
set_option maxRecDepth 20000 in
theorem pw_43 : (w7 (gk dC dI cs tt aK aV B (fun _ => 0)) h0 u ++ w8 (gk dC dI cs tt aK aV B (fun _ => 0)) h1 v)[43]? = some (gA (gk dC dI cs tt aK aV B (qq h0 h1 u v)) 43, eF (gk dC dI cs tt aK aV B (qq h0 h1 u v)) 43 (zI 43) (zL 43)) := rfl
set_option maxRecDepth 20000 in
theorem pw_44 : (w7 (gk dC dI cs tt aK aV B (fun _ => 0)) h0 u ++ w8 (gk dC dI cs tt aK aV B (fun _ => 0)) h1 v)[44]? = some (gA (gk dC dI cs tt aK aV B (qq h0 h1 u v)) 44, eF (gk dC dI cs tt aK aV B (qq h0 h1 u v)) 44 (zI 44) (zL 44)) := rfl
set_option maxRecDepth 20000 in
theorem pw_45 : (w7 (gk dC dI cs tt aK aV B (fun _ => 0)) h0 u ++ w8 (gk dC dI cs tt aK aV B (fun _ => 0)) h1 v)[45]? = some (gA (gk dC dI cs tt aK aV B (qq h0 h1 u v)) 45, eF (gk dC dI cs tt aK aV B (qq h0 h1 u v)) 45 (zI 45) (zL 45)) := rfl
set_option maxRecDepth 20000 in
theorem pw_46 : (w7 (gk dC dI cs tt aK aV B (fun _ => 0)) h0 u ++ w8 (gk dC dI cs tt aK aV B (fun _ => 0)) h1 v)[46]? = some (gA (gk dC dI cs tt aK aV B (qq h0 h1 u v)) 46, eF (gk dC dI cs tt aK aV B (qq h0 h1 u v)) 46 (zI 46) (zL 46)) := rfl
set_option maxRecDepth 20000 in
theorem pw_47 : (w7 (gk dC dI cs tt aK aV B (fun _ => 0)) h0 u ++ w8 (gk dC dI cs tt aK aV B (fun _ => 0)) h1 v)[47]? = some (gA (gk dC dI cs tt aK aV B (qq h0 h1 u v)) 47, eF (gk dC dI cs tt aK aV B (qq h0 h1 u v)) 47 (zI 47) (zL 47)) := rfl
set_option maxRecDepth 20000 in
theorem pw_48 : (w7 (gk dC dI cs tt aK aV B (fun _ => 0)) h0 u ++ w8 (gk dC dI cs tt aK aV B (fun _ => 0)) h1 v)[48]? = some (gA (gk dC dI cs tt aK aV B (qq h0 h1 u v)) 48, eF (gk dC dI cs tt aK aV B (qq h0 h1 u v)) 48 (zI 48) (zL 48)) := rfl
set_option maxRecDepth 20000 in
theorem pw_49 : (w7 (gk dC dI cs tt aK aV B (fun _ => 0)) h0 u ++ w8 (gk dC dI cs tt aK aV B (fun _ => 0)) h1 v)[49]? = some (gA (gk dC dI cs tt aK aV B (qq h0 h1 u v)) 49, eF (gk dC dI cs tt aK aV B (qq h0 h1 u v)) 49 (zI 49) (zL 49)) := rfl
set_option maxRecDepth 20000 in
theorem pw_50 : (w7 (gk dC dI cs tt aK aV B (fun _ => 0)) h0 u ++ w8 (gk dC dI cs tt aK aV B (fun _ => 0)) h1 v)[50]? = some (gA (gk dC dI cs tt aK aV B (qq h0 h1 u v)) 50, eF (gk dC dI cs tt aK aV B (qq h0 h1 u v)) 50 (zI 50) (zL 50)) := rfl
set_option maxRecDepth 20000 in
theorem pw_51 : (w7 (gk dC dI cs tt aK aV B (fun _ => 0)) h0 u ++ w8 (gk dC dI cs tt aK aV B (fun _ => 0)) h1 v)[51]? = some (gA (gk dC dI cs tt aK aV B (qq h0 h1 u v)) 51, eF (gk dC dI cs tt aK aV B (qq h0 h1 u v)) 51 (zI 51) (zL 51)) := rfl
set_option maxRecDepth 20000 in
theorem pw_52 : (w7 (gk dC dI cs tt aK aV B (fun _ => 0)) h0 u ++ w8 (gk dC dI cs tt aK aV B (fun _ => 0)) h1 v)[52]? = some (gA (gk dC dI cs tt aK aV B (qq h0 h1 u v)) 52, eF (gk dC dI cs tt aK aV B (qq h0 h1 u v)) 52 (zI 52) (zL 52)) := rfl
set_option maxRecDepth 20000 in
theorem pw_53 : (w7 (gk dC dI cs tt aK aV B (fun _ => 0)) h0 u ++ w8 (gk dC dI cs tt aK aV B (fun _ => 0)) h1 v)[53]? = some (gA (gk dC dI cs tt aK aV B (qq h0 h1 u v)) 53, eF (gk dC dI cs tt aK aV B (qq h0 h1 u v)) 53 (zI 53) (zL 53)) := rfl
set_option maxRecDepth 20000 in
theorem pw_54 : (w7 (gk dC dI cs tt aK aV B (fun _ => 0)) h0 u ++ w8 (gk dC dI cs tt aK aV B (fun _ => 0)) h1 v)[54]? = some (gA (gk dC dI cs tt aK aV B (qq h0 h1 u v)) 54, eF (gk dC dI cs tt aK aV B (qq h0 h1 u v)) 54 (zI 54) (zL 54)) := rfl
set_option maxRecDepth 20000 in
theorem pw_55 : (w7 (gk dC dI cs tt aK aV B (fun _ => 0)) h0 u ++ w8 (gk dC dI cs tt aK aV B (fun _ => 0)) h1 v)[55]? = some (gA (gk dC dI cs tt aK aV B (qq h0 h1 u v)) 55, eF (gk dC dI cs tt aK aV B (qq h0 h1 u v)) 55 (zI 55) (zL 55)) := rfl
set_option maxRecDepth 20000 in
theorem pw_56 : (w7 (gk dC dI cs tt aK aV B (fun _ => 0)) h0 u ++ w8 (gk dC dI cs tt aK aV B (fun _ => 0)) h1 v)[56]? = some (gA (gk dC dI cs tt aK aV B (qq h0 h1 u v)) 56, eF (gk dC dI cs tt aK aV B (qq h0 h1 u v)) 56 (zI 56) (zL 56)) := rfl
set_option maxRecDepth 20000 in
theorem pw_57 : (w7 (gk dC dI cs tt aK aV B (fun _ => 0)) h0 u ++ w8 (gk dC dI cs tt aK aV B (fun _ => 0)) h1 v)[57]? = some (gA (gk dC dI cs tt aK aV B (qq h0 h1 u v)) 57, eF (gk dC dI cs tt aK aV B (qq h0 h1 u v)) 57 (zI 57) (zL 57)) := rfl
set_option maxRecDepth 20000 in
theorem pw_58 : (w7 (gk dC dI cs tt aK aV B (fun _ => 0)) h0 u ++ w8 (gk dC dI cs tt aK aV B (fun _ => 0)) h1 v)[58]? = some (gA (gk dC dI cs tt aK aV B (qq h0 h1 u v)) 58, eF (gk dC dI cs tt aK aV B (qq h0 h1 u v)) 58 (zI 58) (zL 58)) := rfl
set_option maxRecDepth 20000 in
theorem pw_59 : (w7 (gk dC dI cs tt aK aV B (fun _ => 0)) h0 u ++ w8 (gk dC dI cs tt aK aV B (fun _ => 0)) h1 v)[59]? = some (gA (gk dC dI cs tt aK aV B (qq h0 h1 u v)) 59, eF (gk dC dI cs tt aK aV B (qq h0 h1 u v)) 59 (zI 59) (zL 59)) := rfl
set_option maxRecDepth 20000 in
theorem pw_60 : (w7 (gk dC dI cs tt aK aV B (fun _ => 0)) h0 u ++ w8 (gk dC dI cs tt aK aV B (fun _ => 0)) h1 v)[60]? = some (gA (gk dC dI cs tt aK aV B (qq h0 h1 u v)) 60, eF (gk dC dI cs tt aK aV B (qq h0 h1 u v)) 60 (zI 60) (zL 60)) := rfl
set_option maxRecDepth 20000 in
theorem pw_61 : (w7 (gk dC dI cs tt aK aV B (fun _ => 0)) h0 u ++ w8 (gk dC dI cs tt aK aV B (fun _ => 0)) h1 v)[61]? = some (gA (gk dC dI cs tt aK aV B (qq h0 h1 u v)) 61, eF (gk dC dI cs tt aK aV B (qq h0 h1 u v)) 61 (zI 61) (zL 61)) := rfl
set_option maxRecDepth 20000 in
theorem pw_62 : (w7 (gk dC dI cs tt aK aV B (fun _ => 0)) h0 u ++ w8 (gk dC dI cs tt aK aV B (fun _ => 0)) h1 v)[62]? = some (gA (gk dC dI cs tt aK aV B (qq h0 h1 u v)) 62, eF (gk dC dI cs tt aK aV B (qq h0 h1 u v)) 62 (zI 62) (zL 62)) := rfl
set_option maxRecDepth 20000 in
theorem pw_63 : (w7 (gk dC dI cs tt aK aV B (fun _ => 0)) h0 u ++ w8 (gk dC dI cs tt aK aV B (fun _ => 0)) h1 v)[63]? = some (gA (gk dC dI cs tt aK aV B (qq h0 h1 u v)) 63, eF (gk dC dI cs tt aK aV B (qq h0 h1 u v)) 63 (zI 63) (zL 63)) := rfl
set_option maxRecDepth 20000 in
theorem pw_64 : (w7 (gk dC dI cs tt aK aV B (fun _ => 0)) h0 u ++ w8 (gk dC dI cs tt aK aV B (fun _ => 0)) h1 v)[64]? = some (gA (gk dC dI cs tt aK aV B (qq h0 h1 u v)) 64, eF (gk dC dI cs tt aK aV B (qq h0 h1 u v)) 64 (zI 64) (zL 64)) := rfl
set_option maxRecDepth 20000 in
theorem pw_65 : (w7 (gk dC dI cs tt aK aV B (fun _ => 0)) h0 u ++ w8 (gk dC dI cs tt aK aV B (fun _ => 0)) h1 v)[65]? = some (gA (gk dC dI cs tt aK aV B (qq h0 h1 u v)) 65, eF (gk dC dI cs tt aK aV B (qq h0 h1 u v)) 65 (zI 65) (zL 65)) := rfl
set_option maxRecDepth 20000 in
theorem pw_66 : (w7 (gk dC dI cs tt aK aV B (fun _ => 0)) h0 u ++ w8 (gk dC dI cs tt aK aV B (fun _ => 0)) h1 v)[66]? = some (gA (gk dC dI cs tt aK aV B (qq h0 h1 u v)) 66, eF (gk dC dI cs tt aK aV B (qq h0 h1 u v)) 66 (zI 66) (zL 66)) := rfl
set_option maxRecDepth 20000 in
theorem pw_67 : (w7 (gk dC dI cs tt aK aV B (fun _ => 0)) h0 u ++ w8 (gk dC dI cs tt aK aV B (fun _ => 0)) h1 v)[67]? = some (gA (gk dC dI cs tt aK aV B (qq h0 h1 u v)) 67, eF (gk dC dI cs tt aK aV B (qq h0 h1 u v)) 67 (zI 67) (zL 67)) := rfl
set_option maxRecDepth 20000 in
theorem pw_68 : (w7 (gk dC dI cs tt aK aV B (fun _ => 0)) h0 u ++ w8 (gk dC dI cs tt aK aV B (fun _ => 0)) h1 v)[68]? = some (gA (gk dC dI cs tt aK aV B (qq h0 h1 u v)) 68, eF (gk dC dI cs tt aK aV B (qq h0 h1 u v)) 68 (zI 68) (zL 68)) := rfl
set_option maxRecDepth 20000 in
theorem pw_69 : (w7 (gk dC dI cs tt aK aV B (fun _ => 0)) h0 u ++ w8 (gk dC dI cs tt aK aV B (fun _ => 0)) h1 v)[69]? = some (gA (gk dC dI cs tt aK aV B (qq h0 h1 u v)) 69, eF (gk dC dI cs tt aK aV B (qq h0 h1 u v)) 69 (zI 69) (zL 69)) := rfl
set_option maxRecDepth 20000 in
theorem pw_70 : (w7 (gk dC dI cs tt aK aV B (fun _ => 0)) h0 u ++ w8 (gk dC dI cs tt aK aV B (fun _ => 0)) h1 v)[70]? = some (gA (gk dC dI cs tt aK aV B (qq h0 h1 u v)) 70, eF (gk dC dI cs tt aK aV B (qq h0 h1 u v)) 70 (zI 70) (zL 70)) := rfl
set_option maxRecDepth 20000 in
theorem pw_71 : (w7 (gk dC dI cs tt aK aV B (fun _ => 0)) h0 u ++ w8 (gk dC dI cs tt aK aV B (fun _ => 0)) h1 v)[71]? = some (gA (gk dC dI cs tt aK aV B (qq h0 h1 u v)) 71, eF (gk dC dI cs tt aK aV B (qq h0 h1 u v)) 71 (zI 71) (zL 71)) := rfl
set_option maxRecDepth 20000 in
theorem pw_72 : (w7 (gk dC dI cs tt aK aV B (fun _ => 0)) h0 u ++ w8 (gk dC dI cs tt aK aV B (fun _ => 0)) h1 v)[72]? = some (gA (gk dC dI cs tt aK aV B (qq h0 h1 u v)) 72, eF (gk dC dI cs tt aK aV B (qq h0 h1 u v)) 72 (zI 72) (zL 72)) := rfl
set_option maxRecDepth 20000 in
theorem pw_73 : (w7 (gk dC dI cs tt aK aV B (fun _ => 0)) h0 u ++ w8 (gk dC dI cs tt aK aV B (fun _ => 0)) h1 v)[73]? = some (gA (gk dC dI cs tt aK aV B (qq h0 h1 u v)) 73, eF (gk dC dI cs tt aK aV B (qq h0 h1 u v)) 73 (zI 73) (zL 73)) := rfl
set_option maxRecDepth 20000 in
theorem pw_74 : (w7 (gk dC dI cs tt aK aV B (fun _ => 0)) h0 u ++ w8 (gk dC dI cs tt aK aV B (fun _ => 0)) h1 v)[74]? = some (gA (gk dC dI cs tt aK aV B (qq h0 h1 u v)) 74, eF (gk dC dI cs tt aK aV B (qq h0 h1 u v)) 74 (zI 74) (zL 74)) := rfl
set_option maxRecDepth 20000 in
theorem pw_75 : (w7 (gk dC dI cs tt aK aV B (fun _ => 0)) h0 u ++ w8 (gk dC dI cs tt aK aV B (fun _ => 0)) h1 v)[75]? = some (gA (gk dC dI cs tt aK aV B (qq h0 h1 u v)) 75, eF (gk dC dI cs tt aK aV B (qq h0 h1 u v)) 75 (zI 75) (zL 75)) := rfl
set_option maxRecDepth 20000 in
theorem pw_76 : (w7 (gk dC dI cs tt aK aV B (fun _ => 0)) h0 u ++ w8 (gk dC dI cs tt aK aV B (fun _ => 0)) h1 v)[76]? = some (gA (gk dC dI cs tt aK aV B (qq h0 h1 u v)) 76, eF (gk dC dI cs tt aK aV B (qq h0 h1 u v)) 76 (zI 76) (zL 76)) := rfl
set_option maxRecDepth 20000 in
theorem pw_77 : (w7 (gk dC dI cs tt aK aV B (fun _ => 0)) h0 u ++ w8 (gk dC dI cs tt aK aV B (fun _ => 0)) h1 v)[77]? = some (gA (gk dC dI cs tt aK aV B (qq h0 h1 u v)) 77, eF (gk dC dI cs tt aK aV B (qq h0 h1 u v)) 77 (zI 77) (zL 77)) := rfl
set_option maxRecDepth 20000 in
theorem pw_78 : (w7 (gk dC dI cs tt aK aV B (fun _ => 0)) h0 u ++ w8 (gk dC dI cs tt aK aV B (fun _ => 0)) h1 v)[78]? = some (gA (gk dC dI cs tt aK aV B (qq h0 h1 u v)) 78, eF (gk dC dI cs tt aK aV B (qq h0 h1 u v)) 78 (zI 78) (zL 78)) := rfl
theorem pw : ∀ i, i < 79 → (w7 (gk dC dI cs tt aK aV B (fun _ => 0)) h0 u ++ w8 (gk dC dI cs tt aK aV B (fun _ => 0)) h1 v)[pm i]? = some (gA (gk dC dI cs tt aK aV B (qq h0 h1 u v)) i, eF (gk dC dI cs tt aK aV B (qq h0 h1 u v)) i (zI i) (zL i)) := fun i hi => match i, hi with
  | 0, _ => pw_0
  | 1, _ => pw_1
  | 2, _ => pw_2
  | 3, _ => pw_3
  | 4, _ => pw_4
  | 5, _ => pw_5
  | 6, _ => pw_6
  | 7, _ => pw_7
  | 8, _ => pw_8
  | 9, _ => pw_9
  | 10, _ => pw_10
  | 11, _ => pw_11
  | 12, _ => pw_12
  | 13, _ => pw_13
  | 14, _ => pw_14
  | 15, _ => pw_15
  | 16, _ => pw_16
  | 17, _ => pw_17
  | 18, _ => pw_18
  | 19, _ => pw_19
  | 20, _ => pw_20
  | 21, _ => pw_21
  | 22, _ => pw_22
  | 23, _ => pw_23
  | 24, _ => pw_24
  | 25, _ => pw_25
  | 26, _ => pw_26
  | 27, _ => pw_27
  | 28, _ => pw_28
  | 29, _ => pw_29
  | 30, _ => pw_30
  | 31, _ => pw_31
  | 32, _ => pw_32
  | 33, _ => pw_33
  | 34, _ => pw_34
  | 35, _ => pw_35
  | 36, _ => pw_36
  | 37, _ => pw_37
  | 38, _ => pw_38
  | 39, _ => pw_39
  | 40, _ => pw_40
  | 41, _ => pw_41
  | 42, _ => pw_42
  | 43, _ => pw_43
  | 44, _ => pw_44
  | 45, _ => pw_45
  | 46, _ => pw_46
  | 47, _ => pw_47
  | 48, _ => pw_48
  | 49, _ => pw_49
  | 50, _ => pw_50
  | 51, _ => pw_51
  | 52, _ => pw_52
  | 53, _ => pw_53
  | 54, _ => pw_54
  | 55, _ => pw_55
  | 56, _ => pw_56
  | 57, _ => pw_57
  | 58, _ => pw_58
  | 59, _ => pw_59
  | 60, _ => pw_60
  | 61, _ => pw_61
  | 62, _ => pw_62
  | 63, _ => pw_63
  | 64, _ => pw_64
  | 65, _ => pw_65
  | 66, _ => pw_66
  | 67, _ => pw_67
  | 68, _ => pw_68
  | 69, _ => pw_69
  | 70, _ => pw_70
  | 71, _ => pw_71
  | 72, _ => pw_72
  | 73, _ => pw_73
  | 74, _ => pw_74
  | 75, _ => pw_75
  | 76, _ => pw_76
  | 77, _ => pw_77
  | 78, _ => pw_78
  | k + 79, h9 => absurd h9 (by omega)
end PW
theorem pw_world {g : GG} {σ : ZI} {τ : ZL} {ws : va_W} {H : Heap} (hw : ∀ i, i < 79 → ws[pm i]? = some (gA g i, eF g i (σ i) (τ i))) (hP : va_P (gD g) vwCl ws H) (hD : va_D (AA g) ws) : va_P (gD g) vwCl (cW g σ τ) H ∧ GD g := by
  refine ⟨fun k x hk => ?_, fun i j hi hj e => pm_inj i hi j hj (hD.1 _ _ _ _ (hw i hi) (hw j hj) e), fun i hi => hD.2 _ _ (hw i hi)⟩
  have h1 : k < 79 := by have := (List.getElem?_eq_some_iff.mp hk).1; rwa [cW_len] at this
  rw [cW_at g σ τ h1] at hk
  cases hk
  exact hP _ _ (hw k h1)
theorem zI_Inv : Inv zI := Inv_first (by decide +kernel) (fun i _ => rfl) rfl (fun i h _ => if_neg h) (fun i _ => rfl) rfl rfl (fun k _ => rfl) (fun i _ => rfl) (fun i _ => rfl) (by decide +kernel) (by decide +kernel) rfl rfl (by decide +kernel) ⟨by decide +kernel, by decide +kernel⟩
