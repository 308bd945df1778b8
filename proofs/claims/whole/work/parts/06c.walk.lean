def f_X7_counts_36 (σ : ZI) (a1 : Int32) (a2 : Int32) (a3 : Int32)  : Nat → Int32 → Int32 → Option (Int32)
  | 0, _, _ => none
  | n + 1, v4, v5 => if a3 < v5 then (some v4) else ((f_X6_countBehind σ 1 v5 v4 a1 a2).bind (fun q3 => f_X7_counts_36 σ a1 a2 a3 n q3 (v5 + (1 : Int32))))
def f_X7_counts_30 (σ : ZI) (a1 : Int32) (a2 : Int32) (a3 : Int32)   : Option (Int32) := f_X7_counts_36 σ a1 a2 a3 3000 (0 : Int32) (1 : Int32)
def f_X7_counts (σ : ZI) (a1 : Int32) (a2 : Int32) (a3 : Int32) : Option (Int32) := (f_X7_areJoints σ a1).bind (fun q1 => if q1 = 0 then (some (-1 : Int32)) else ((f_X7_areMarks σ a2).bind (fun q2 => if q2 = 0 then (some (-1 : Int32)) else (if a3 = 0 then (f_X7_counts_30 σ a1 a2 a3 ) else ((f_X7_isJoint σ a3).bind (fun q4 => if q4 = 0 then (some (-1 : Int32)) else (f_X7_counts_30 σ a1 a2 a3 )))))))
abbrev rm_X7_counts : Room := { frames := 4, cells := 0, slots := 0, locals := 89 }
set_option maxHeartbeats 4000000 in
set_option maxRecDepth 100000 in
theorem c_X7_counts (l : Launch) (g : GG) (σ : ZI) (τ : ZL) (a1 : Int32) (a2 : Int32) (a3 : Int32) (res : Int32) (h : f_X7_counts σ a1 a2 a3 = some res) : MI l yX7_counts cX7_counts 6 (some .int) rm_X7_counts g [.ref (gA g 0), .int a1, .int a2, .int a3] σ τ (fun (r : Int32) (u : ZI × ZL) => r = res ∧ u.1 = σ ∧ u.2 = τ) := by
  refine Met_in (by decide) (Nat.le_of_ble_eq_true rfl) ?_
  intro p e s m args below meth c F G hP hr0 hk0 ls hl
  have hS := WS.start hP
  have hl : lv_has ls 6 [(0, .ref (gA g 0)), (1, .int a1), (2, .int a2), (3, .int a3)] := hl
  obtain ⟨H, hH⟩ : ∃ H, H = s.heap := ⟨_, rfl⟩
  rw [← hH] at hS ⊢
  clear hH hP
  rw [f_X7_counts] at h
  have w_36 : ∀ (n : Nat) (v4 : Int32) (v5 : Int32), f_X7_counts_36 σ a1 a2 a3 n v4 v5 = some res → ∀ (H : Heap) (locs : List Loc) (ls : Array Slot), WS g σ τ s H locs → lv_has ls 6 [(0, .ref (gA g 0)), (1, .int a1), (2, .int a2), (3, .int a3), (4, .int v4), (5, .int v5)] → W p l e rm_X7_counts s m args below meth c H locs 0 0 (MQ below (va_Qi (fun (r : Int32) (u : ZI × ZL) => r = res ∧ u.1 = σ ∧ u.2 = τ) (WQ g) (AA g)) args s 0 0 (AA g)) (F0 m 36 ls []) := by
    intro n
    induction n with
    | zero => intro v4 v5 h; rw [f_X7_counts_36] at h; cases h
    | succ n ih =>
      intro v4 v5 h H locs ls hS hl
      rw [f_X7_counts_36] at h
      refine lv_iload F.1 F.2.1 dX7_counts_36 (lv_at hl 5 rfl) ?_
      refine lv_iload_n F.1 F.2.1 dX7_counts_38 rfl (lv_at hl 3 rfl) ?_
      refine lv_icmp_gt (tgt := 63) F.1 F.2.1 dX7_counts_39 (by decide) (fun hc => ?_) (fun hc => ?_)
      · replace h := ifT h hc
        refine lv_iload F.1 F.2.1 dX7_counts_63 (lv_at hl 4 rfl) ?_
        exact e_i F hS ⟨Option.some.inj h, rfl, rfl⟩ hr0 dX7_counts_65 hk0
      replace h := ifF h hc
      refine lv_aload_n F.1 F.2.1 dX7_counts_42 rfl (lv_at hl 0 rfl) ?_
      refine gf_X7_10 F G hS dX7_counts_43 ?_
      refine lv_iload F.1 F.2.1 dX7_counts_46 (lv_at hl 5 rfl) ?_
      refine lv_iload F.1 F.2.1 dX7_counts_48 (lv_at hl 4 rfl) ?_
      refine lv_iload_n F.1 F.2.1 dX7_counts_50 rfl (lv_at hl 1 rfl) ?_
      refine lv_iload_n F.1 F.2.1 dX7_counts_51 rfl (lv_at hl 2 rfl) ?_
      obtain ⟨q3, h_q3, h⟩ := bd h
      refine rNi F G hS hl.1 (c_X6_countBehind l g σ τ 1 v5 v4 a1 a2 q3 h_q3) lk_X7_190 ⟨rfl, rfl, Nat.le_of_ble_eq_true rfl, Nat.le_of_ble_eq_true rfl⟩ (rc_X6 G hS rfl) rfl rfl (Nat.le_of_ble_eq_true rfl) dX7_counts_52 (kRi (fun H locs hS => ?_))
      refine lv_istore (lv' := [(4, .int q3), (0, .ref (gA g 0)), (1, .int a1), (2, .int a2), (3, .int a3), (5, .int v5)]) F.1 F.2.1 dX7_counts_55 hl (by decide) rfl (fun ls hl => ?_)
      refine lv_iinc (v := (v5 + (1 : Int32))) (lv' := [(5, .int (v5 + (1 : Int32))), (4, .int q3), (0, .ref (gA g 0)), (1, .int a1), (2, .int a2), (3, .int a3)]) F.1 F.2.1 dX7_counts_57 hl (k := 5) rfl rfl (by decide) rfl (fun ls hl => ?_)
      refine lv_goto (tgt := 36) F.1 F.2.1 dX7_counts_60 (by decide) ?_
      exact ih q3 (v5 + (1 : Int32)) h H locs _ hS (lv_sub hl [2, 3, 4, 5, 1, 0] rfl)
  have w_30 : f_X7_counts_30 σ a1 a2 a3  = some res → ∀ (H : Heap) (locs : List Loc) (ls : Array Slot), WS g σ τ s H locs → lv_has ls 6 [(0, .ref (gA g 0)), (1, .int a1), (2, .int a2), (3, .int a3)] → W p l e rm_X7_counts s m args below meth c H locs 0 0 (MQ below (va_Qi (fun (r : Int32) (u : ZI × ZL) => r = res ∧ u.1 = σ ∧ u.2 = τ) (WQ g) (AA g)) args s 0 0 (AA g)) (F0 m 30 ls []) := by
    intro   h H locs ls hS hl
    rw [f_X7_counts_30] at h
    refine lv_iconst (v := (0 : Int32)) F.1 F.2.1 dX7_counts_30 (by decide) ?_
    refine lv_istore (lv' := [(4, .int (0 : Int32)), (0, .ref (gA g 0)), (1, .int a1), (2, .int a2), (3, .int a3)]) F.1 F.2.1 dX7_counts_31 hl (by decide) rfl (fun ls hl => ?_)
    refine lv_iconst (v := (1 : Int32)) F.1 F.2.1 dX7_counts_33 (by decide) ?_
    refine lv_istore (lv' := [(5, .int (1 : Int32)), (4, .int (0 : Int32)), (0, .ref (gA g 0)), (1, .int a1), (2, .int a2), (3, .int a3)]) F.1 F.2.1 dX7_counts_34 hl (by decide) rfl (fun ls hl => ?_)
    exact w_36 3000 (0 : Int32) (1 : Int32) h H locs _ hS (lv_sub hl [2, 3, 4, 5, 1, 0] rfl)
  obtain ⟨locs, hlo⟩ : ∃ z : List Loc, z = [] := ⟨_, rfl⟩
  rw [← hlo] at hS ⊢
  clear hlo
  refine lv_aload_n F.1 F.2.1 dX7_counts_0 rfl (lv_at hl 0 rfl) ?_
  refine lv_iload_n F.1 F.2.1 dX7_counts_1 rfl (lv_at hl 1 rfl) ?_
  obtain ⟨q1, h_q1, h⟩ := bd h
  refine rVi F G hS hl.1 (c_X7_areJoints l g σ τ a1 q1 h_q1) lk_X7_174 ⟨rfl, rfl, Nat.le_of_ble_eq_true rfl, Nat.le_of_ble_eq_true rfl⟩ (rc_X7 G hS) rfl rfl (Nat.le_of_ble_eq_true rfl) dX7_counts_2 (kRi (fun H locs hS => ?_))
  refine lv_if_eq (tgt := 28) F.1 F.2.1 dX7_counts_5 (by decide) (fun hc => ?_) (fun hc => ?_)
  · replace h := ifT h hc
    refine lv_iconst (v := (-1 : Int32)) F.1 F.2.1 dX7_counts_28 (by decide) ?_
    exact e_i F hS ⟨Option.some.inj h, rfl, rfl⟩ hr0 dX7_counts_29 hk0
  replace h := ifF h hc
  refine lv_aload_n F.1 F.2.1 dX7_counts_8 rfl (lv_at hl 0 rfl) ?_
  refine lv_iload_n F.1 F.2.1 dX7_counts_9 rfl (lv_at hl 2 rfl) ?_
  obtain ⟨q2, h_q2, h⟩ := bd h
  refine rVi F G hS hl.1 (c_X7_areMarks l g σ τ a2 q2 h_q2) lk_X7_177 ⟨rfl, rfl, Nat.le_of_ble_eq_true rfl, Nat.le_of_ble_eq_true rfl⟩ (rc_X7 G hS) rfl rfl (Nat.le_of_ble_eq_true rfl) dX7_counts_10 (kRi (fun H locs hS => ?_))
  refine lv_if_eq (tgt := 28) F.1 F.2.1 dX7_counts_13 (by decide) (fun hc => ?_) (fun hc => ?_)
  · replace h := ifT h hc
    refine lv_iconst (v := (-1 : Int32)) F.1 F.2.1 dX7_counts_28 (by decide) ?_
    exact e_i F hS ⟨Option.some.inj h, rfl, rfl⟩ hr0 dX7_counts_29 hk0
  replace h := ifF h hc
  refine lv_iload_n F.1 F.2.1 dX7_counts_16 rfl (lv_at hl 3 rfl) ?_
  refine lv_if_eq (tgt := 30) F.1 F.2.1 dX7_counts_17 (by decide) (fun hc => ?_) (fun hc => ?_)
  · replace h := ifT h hc
    exact w_30 h H locs _ hS (lv_sub hl [0, 1, 2, 3] rfl)
  replace h := ifF h hc
  refine lv_aload_n F.1 F.2.1 dX7_counts_20 rfl (lv_at hl 0 rfl) ?_
  refine lv_iload_n F.1 F.2.1 dX7_counts_21 rfl (lv_at hl 3 rfl) ?_
  obtain ⟨q4, h_q4, h⟩ := bd h
  refine rVi F G hS hl.1 (c_X7_isJoint l g σ τ a3 q4 h_q4) lk_X7_163 ⟨rfl, rfl, Nat.le_of_ble_eq_true rfl, Nat.le_of_ble_eq_true rfl⟩ (rc_X7 G hS) rfl rfl (Nat.le_of_ble_eq_true rfl) dX7_counts_22 (kRi (fun H locs hS => ?_))
  refine lv_if_ne (tgt := 30) F.1 F.2.1 dX7_counts_25 (by decide) (fun hc => ?_) (fun hc => ?_)
  · replace h := ifF h hc
    exact w_30 h H locs _ hS (lv_sub hl [0, 1, 2, 3] rfl)
  replace h := ifT h hc
  refine lv_iconst (v := (-1 : Int32)) F.1 F.2.1 dX7_counts_28 (by decide) ?_
  exact e_i F hS ⟨Option.some.inj h, rfl, rfl⟩ hr0 dX7_counts_29 hk0
def f_X7_put_ (τ : ZL) (r1 : Nat) (a2 : Int32) (a3 : Int64) : Option (ZL) := if (ar r1).1 = 2 then (if a2 < 0 then (some τ) else (if (nI (ar r1).2) ≤ a2 then (some τ) else (if inB a2 (ar r1).2 = true then (lt_ (va_up τ r1 (vp_updL (τ r1) a2.toNatClampNeg a3)) (fun τ1 => some τ1)) else none))) else none
abbrev rm_X7_put_ : Room := { frames := 0, cells := 0, slots := 0, locals := 0 }
set_option maxHeartbeats 4000000 in
set_option maxRecDepth 100000 in
theorem c_X7_put_ (l : Launch) (g : GG) (σ : ZI) (τ : ZL) (r1 : Nat) (a2 : Int32) (a3 : Int64) (res : ZL) (h : f_X7_put_ τ r1 a2 a3 = some res) : MV l yX7_put_ cX7_put_ 4 none rm_X7_put_ g [.ref (gA g r1), .int a2, .long a3] σ τ (fun (u : ZI × ZL) => u.2 = res ∧ u.1 = σ) := by
  refine Met_in (by decide) (Nat.le_of_ble_eq_true rfl) ?_
  intro p e s m args below meth c F G hP hr0 hk0 ls hl
  have hS := WS.start hP
  have hl : lv_has ls 4 [(0, .ref (gA g r1)), (1, .int a2), (2, .long a3)] := hl
  obtain ⟨H, hH⟩ : ∃ H, H = s.heap := ⟨_, rfl⟩
  rw [← hH] at hS ⊢
  clear hH hP
  rw [f_X7_put_] at h
  obtain ⟨hg_r1, h⟩ := gd h
  obtain ⟨locs, hlo⟩ : ∃ z : List Loc, z = [] := ⟨_, rfl⟩
  rw [← hlo] at hS ⊢
  clear hlo
  refine lv_iload_n F.1 F.2.1 dX7_put__0 rfl (lv_at hl 1 rfl) ?_
  refine lv_if_lt (tgt := 14) F.1 F.2.1 dX7_put__1 (by decide) (fun hc => ?_) (fun hc => ?_)
  · replace h := ifT h hc
    exact e_v F hS ⟨Option.some.inj h, rfl⟩ hr0 dX7_put__14 hk0
  replace h := ifF h hc
  refine lv_iload_n F.1 F.2.1 dX7_put__4 rfl (lv_at hl 1 rfl) ?_
  refine lv_aload_n F.1 F.2.1 dX7_put__5 rfl (lv_at hl 0 rfl) ?_
  refine x_alenJ F G hS r1 hg_r1 dX7_put__6 ?_
  refine lv_icmp_ge (tgt := 14) F.1 F.2.1 dX7_put__7 (by decide) (fun hc => ?_) (fun hc => ?_)
  · replace h := ifT h hc
    exact e_v F hS ⟨Option.some.inj h, rfl⟩ hr0 dX7_put__14 hk0
  replace h := ifF h hc
  refine lv_aload_n F.1 F.2.1 dX7_put__10 rfl (lv_at hl 0 rfl) ?_
  refine lv_iload_n F.1 F.2.1 dX7_put__11 rfl (lv_at hl 1 rfl) ?_
  refine lv_lload_n F.1 F.2.1 dX7_put__12 rfl (lv_at hl 2 rfl) ?_
  obtain ⟨hin, h⟩ := gd h
  refine x_last F G hS r1 hg_r1 hin dX7_put__13 (fun H locs hS => ?_)
  obtain ⟨τ1, e_τ1, h⟩ := ltE h
  rw [← e_τ1] at hS
  clear e_τ1
  exact e_v F hS ⟨Option.some.inj h, rfl⟩ hr0 dX7_put__14 hk0
def f_X0_sumBehind_17 (σ : ZI)  : Nat → ZL → Int32 → Option (ZL)
  | 0, _, _ => none
  | n + 1, τ, v1 => if v1 < (1 : Int32) then (some τ) else (if inB v1 11 = true then (if inB v1 11 = true then (if inB v1 11 = true then (if inB v1 11 = true then (lt_ ((((τ 42 v1.toNatClampNeg) + (τ 43 v1.toNatClampNeg)) * ((τ 44 v1.toNatClampNeg) + (τ 45 v1.toNatClampNeg)))) (fun x2 => if inB v1 11 = true then (if inB (v1 - (1 : Int32)) 11 = true then (lt_ (va_up τ 46 (vp_updL (τ 46) (v1 - (1 : Int32)).toNatClampNeg ((τ 46 v1.toNatClampNeg) * x2))) (fun τ3 => f_X0_sumBehind_17 σ n τ3 (v1 + (-1 : Int32)))) else none) else none)) else none) else none) else none) else none)
def f_X0_sumBehind (σ : ZI) (τ : ZL) : Option (ZL) := (f_X7_put_ τ 46 (σ 41 0) (1 : Int64)).bind (fun q1 => f_X0_sumBehind_17 σ 3000 q1 (σ 41 0))
abbrev rm_X0_sumBehind : Room := { frames := 1, cells := 0, slots := 0, locals := 23 }
set_option maxHeartbeats 4000000 in
set_option maxRecDepth 100000 in
theorem c_X0_sumBehind (l : Launch) (g : GG) (σ : ZI) (τ : ZL)  (res : ZL) (h : f_X0_sumBehind σ τ = some res) : MV l yX0_sumBehind cX0_sumBehind 4 none rm_X0_sumBehind g [.ref (gA g 41)] σ τ (fun (u : ZI × ZL) => u.2 = res ∧ u.1 = σ) := by
  refine Met_in (by decide) (Nat.le_of_ble_eq_true rfl) ?_
  intro p e s m args below meth c F G hP hr0 hk0 ls hl
  have hS := WS.start hP
  have hl : lv_has ls 4 [(0, .ref (gA g 41))] := hl
  obtain ⟨H, hH⟩ : ∃ H, H = s.heap := ⟨_, rfl⟩
  rw [← hH] at hS ⊢
  clear hH hP
  rw [f_X0_sumBehind] at h
  have w_17 : ∀ (n : Nat) (τ : ZL) (v1 : Int32), f_X0_sumBehind_17 σ n τ v1 = some res → ∀ (H : Heap) (locs : List Loc) (ls : Array Slot), WS g σ τ s H locs → lv_has ls 4 [(0, .ref (gA g 41)), (1, .int v1)] → W p l e rm_X0_sumBehind s m args below meth c H locs 0 0 (MQ below (va_Qv (fun (u : ZI × ZL) => u.2 = res ∧ u.1 = σ) (WQ g) (AA g)) args s 0 0 (AA g)) (F0 m 17 ls []) := by
    intro n
    induction n with
    | zero => intro τ v1 h; rw [f_X0_sumBehind_17] at h; cases h
    | succ n ih =>
      intro τ v1 h H locs ls hS hl
      rw [f_X0_sumBehind_17] at h
      refine lv_iload_n F.1 F.2.1 dX0_sumBehind_17 rfl (lv_at hl 1 rfl) ?_
      refine lv_iconst (v := (1 : Int32)) F.1 F.2.1 dX0_sumBehind_18 (by decide) ?_
      refine lv_icmp_lt (tgt := 72) F.1 F.2.1 dX0_sumBehind_19 (by decide) (fun hc => ?_) (fun hc => ?_)
      · replace h := ifT h hc
        exact e_v F hS ⟨Option.some.inj h, rfl⟩ hr0 dX0_sumBehind_72 hk0
      replace h := ifF h hc
      refine lv_aload_n F.1 F.2.1 dX0_sumBehind_22 rfl (lv_at hl 0 rfl) ?_
      refine gf_X0_11 F G hS dX0_sumBehind_23 ?_
      refine lv_iload_n F.1 F.2.1 dX0_sumBehind_26 rfl (lv_at hl 1 rfl) ?_
      obtain ⟨hin, h⟩ := gd h
      refine x_lald F G hS 42 rfl hin dX0_sumBehind_27 ?_
      refine lv_aload_n F.1 F.2.1 dX0_sumBehind_28 rfl (lv_at hl 0 rfl) ?_
      refine gf_X0_15 F G hS dX0_sumBehind_29 ?_
      refine lv_iload_n F.1 F.2.1 dX0_sumBehind_32 rfl (lv_at hl 1 rfl) ?_
      obtain ⟨hin, h⟩ := gd h
      refine x_lald F G hS 43 rfl hin dX0_sumBehind_33 ?_
      refine lv_ladd F.1 F.2.1 dX0_sumBehind_34 ?_
      refine lv_aload_n F.1 F.2.1 dX0_sumBehind_35 rfl (lv_at hl 0 rfl) ?_
      refine gf_X0_18 F G hS dX0_sumBehind_36 ?_
      refine lv_iload_n F.1 F.2.1 dX0_sumBehind_39 rfl (lv_at hl 1 rfl) ?_
      obtain ⟨hin, h⟩ := gd h
      refine x_lald F G hS 44 rfl hin dX0_sumBehind_40 ?_
      refine lv_aload_n F.1 F.2.1 dX0_sumBehind_41 rfl (lv_at hl 0 rfl) ?_
      refine gf_X0_21 F G hS dX0_sumBehind_42 ?_
      refine lv_iload_n F.1 F.2.1 dX0_sumBehind_45 rfl (lv_at hl 1 rfl) ?_
      obtain ⟨hin, h⟩ := gd h
      refine x_lald F G hS 45 rfl hin dX0_sumBehind_46 ?_
      refine lv_ladd F.1 F.2.1 dX0_sumBehind_47 ?_
      refine lv_lmul F.1 F.2.1 dX0_sumBehind_48 ?_
      obtain ⟨x2, e_x2, h⟩ := ltE h
      refine x_topl e_x2 ?_
      clear e_x2
      refine lv_lstore_n (lv' := [(2, .long x2), (0, .ref (gA g 41)), (1, .int v1)]) F.1 F.2.1 dX0_sumBehind_49 rfl hl (by decide) rfl (fun ls hl => ?_)
      refine lv_aload_n F.1 F.2.1 dX0_sumBehind_50 rfl (lv_at hl 1 rfl) ?_
      refine gf_X0_24 F G hS dX0_sumBehind_51 ?_
      refine lv_iload_n F.1 F.2.1 dX0_sumBehind_54 rfl (lv_at hl 2 rfl) ?_
      refine lv_iconst (v := (1 : Int32)) F.1 F.2.1 dX0_sumBehind_55 (by decide) ?_
      refine lv_isub F.1 F.2.1 dX0_sumBehind_56 ?_
      refine lv_aload_n F.1 F.2.1 dX0_sumBehind_57 rfl (lv_at hl 1 rfl) ?_
      refine gf_X0_24 F G hS dX0_sumBehind_58 ?_
      refine lv_iload_n F.1 F.2.1 dX0_sumBehind_61 rfl (lv_at hl 2 rfl) ?_
      obtain ⟨hin, h⟩ := gd h
      refine x_lald F G hS 46 rfl hin dX0_sumBehind_62 ?_
      refine lv_lload_n F.1 F.2.1 dX0_sumBehind_63 rfl (lv_at hl 0 rfl) ?_
      refine lv_lmul F.1 F.2.1 dX0_sumBehind_64 ?_
      obtain ⟨hin, h⟩ := gd h
      refine x_last F G hS 46 rfl hin dX0_sumBehind_65 (fun H locs hS => ?_)
      obtain ⟨τ3, e_τ3, h⟩ := ltE h
      rw [← e_τ3] at hS
      clear e_τ3
      refine lv_iinc (v := (v1 + (-1 : Int32))) (lv' := [(1, .int (v1 + (-1 : Int32))), (2, .long x2), (0, .ref (gA g 41))]) F.1 F.2.1 dX0_sumBehind_66 hl (k := 2) rfl rfl (by decide) rfl (fun ls hl => ?_)
      refine lv_goto (tgt := 17) F.1 F.2.1 dX0_sumBehind_69 (by decide) ?_
      exact ih τ3 (v1 + (-1 : Int32)) h H locs _ hS (lv_sub hl [2, 0] rfl)
  obtain ⟨locs, hlo⟩ : ∃ z : List Loc, z = [] := ⟨_, rfl⟩
  rw [← hlo] at hS ⊢
  clear hlo
  refine lv_aload_n F.1 F.2.1 dX0_sumBehind_0 rfl (lv_at hl 0 rfl) ?_
  refine gf_X0_24 F G hS dX0_sumBehind_1 ?_
  refine lv_aload_n F.1 F.2.1 dX0_sumBehind_4 rfl (lv_at hl 0 rfl) ?_
  refine gf_X0_51 F G hS dX0_sumBehind_5 ?_
  refine lv_lconst (v := (1 : Int64)) F.1 F.2.1 dX0_sumBehind_8 (by decide) ?_
  obtain ⟨q1, h_q1, h⟩ := bd h
  refine rTv F G hS hl.1 (c_X7_put_ l g σ τ 46 (σ 41 0) (1 : Int64) q1 h_q1) lk_X0_69 ⟨rfl, rfl, Nat.le_of_ble_eq_true rfl, Nat.le_of_ble_eq_true rfl⟩  rfl rfl (Nat.le_of_ble_eq_true rfl) dX0_sumBehind_9 (kJv (fun H locs hS => ?_))
  refine lv_aload_n F.1 F.2.1 dX0_sumBehind_12 rfl (lv_at hl 0 rfl) ?_
  refine gf_X0_51 F G hS dX0_sumBehind_13 ?_
  refine lv_istore_n (lv' := [(1, .int (σ 41 0)), (0, .ref (gA g 41))]) F.1 F.2.1 dX0_sumBehind_16 rfl hl (by decide) rfl (fun ls hl => ?_)
  exact w_17 3000 q1 (σ 41 0) h H locs _ hS (lv_sub hl [1, 0] rfl)
def f_X0_weighByOdds_120 (b1 : Nat) (a2 : Int32) (a3 : Int32) (k_17 : ZI → ZL → Int32 → Option (ZI × ZL)) (σ : ZI) (τ : ZL) (v4 : Int32) (s0 : Int64) (s1 : Int32) : Option (ZI × ZL) := if inB s1 11 = true then (lt_ (va_up τ 45 (vp_updL (τ 45) s1.toNatClampNeg s0)) (fun τ8 => k_17 σ τ8 (v4 + (1 : Int32)))) else none
def f_X0_weighByOdds_96 (b1 : Nat) (a2 : Int32) (a3 : Int32) (k_17 : ZI → ZL → Int32 → Option (ZI × ZL)) (σ : ZI) (τ : ZL) (v4 : Int32) (v5 : Int32) (v6 : Int32) (s0 : Int64) (s1 : Int32) : Option (ZI × ZL) := if inB s1 11 = true then (lt_ (va_up τ 44 (vp_updL (τ 44) s1.toNatClampNeg s0)) (fun τ7 => if v5 = (-4 : Int32) then (f_X0_weighByOdds_120 b1 a2 a3 k_17 σ τ7 v4 (1 : Int64) v4) else (f_X0_weighByOdds_120 b1 a2 a3 k_17 σ τ7 v4 (((10 : Int32) - v6).toInt64) v4))) else none
def f_X0_weighByOdds_53 (b1 : Nat) (a2 : Int32) (a3 : Int32) (k_17 : ZI → ZL → Int32 → Option (ZI × ZL)) (σ : ZI) (τ : ZL) (v4 : Int32) (v5 : Int32) (s0 : Int32) : Option (ZI × ZL) := if inB v4 11 = true then (lt_ (va_up τ 42 (vp_updL (τ 42) v4.toNatClampNeg a2.toInt64)) (fun τ5 => if inB v4 11 = true then (lt_ (va_up τ5 43 (vp_updL (τ5 43) v4.toNatClampNeg (((10 : Int32) - a2).toInt64))) (fun τ6 => if v5 = (-4 : Int32) then (f_X0_weighByOdds_96 b1 a2 a3 k_17 σ τ6 v4 v5 s0 (0 : Int64) v4) else (f_X0_weighByOdds_96 b1 a2 a3 k_17 σ τ6 v4 v5 s0 s0.toInt64 v4))) else none)) else none
def f_X0_weighByOdds_17 (b1 : Nat) (a2 : Int32) (a3 : Int32)  : Nat → ZI → ZL → Int32 → Option (ZI × ZL)
  | 0, _, _, _ => none
  | n + 1, σ, τ, v4 => if (σ 41 0) < v4 then ((f_X0_sumBehind σ τ).bind (fun q3 => some (σ, q3))) else ((f_X6_markAt σ b1 v4).bind (fun q4 => if a3 = (-4 : Int32) then ((f_X7_at σ (b1 + 6) q4).bind (fun q9 => f_X0_weighByOdds_53 b1 a2 a3 (fun σ τ v4 => f_X0_weighByOdds_17 b1 a2 a3 n σ τ v4) σ τ v4 q4 q9)) else (f_X0_weighByOdds_53 b1 a2 a3 (fun σ τ v4 => f_X0_weighByOdds_17 b1 a2 a3 n σ τ v4) σ τ v4 q4 a3)))
def f_X0_weighByOdds (σ : ZI) (τ : ZL) (b1 : Nat) (a2 : Int32) (a3 : Int32) : Option (ZI × ZL) := if (ar b1).1 = 11 then ((f_X6_value σ b1 (0 : Int32)).bind (fun q1 => lt_ (va_up σ 41 (upd (σ 41) 0 (if (10 : Int32) < q1 then (10 : Int32) else q1))) (fun σ2 => f_X0_weighByOdds_17 b1 a2 a3 3000 σ2 τ (1 : Int32)))) else none
abbrev rm_X0_weighByOdds : Room := { frames := 3, cells := 0, slots := 0, locals := 64 }
set_option maxHeartbeats 4000000 in
set_option maxRecDepth 100000 in
theorem c_X0_weighByOdds (l : Launch) (g : GG) (σ : ZI) (τ : ZL) (b1 : Nat) (a2 : Int32) (a3 : Int32) (res : ZI × ZL) (h : f_X0_weighByOdds σ τ b1 a2 a3 = some res) : MV l yX0_weighByOdds cX0_weighByOdds 7 none rm_X0_weighByOdds g [.ref (gA g 41), .ref (gA g b1), .int a2, .int a3] σ τ (fun (u : ZI × ZL) => (u.1, u.2) = res) := by
  refine Met_in (by decide) (Nat.le_of_ble_eq_true rfl) ?_
  intro p e s m args below meth c F G hP hr0 hk0 ls hl
  have hS := WS.start hP
  have hl : lv_has ls 7 [(0, .ref (gA g 41)), (1, .ref (gA g b1)), (2, .int a2), (3, .int a3)] := hl
  obtain ⟨H, hH⟩ : ∃ H, H = s.heap := ⟨_, rfl⟩
  rw [← hH] at hS ⊢
  clear hH hP
  rw [f_X0_weighByOdds] at h
  obtain ⟨hg_b1, h⟩ := gd h
  have w_120 : ∀ (k_17 : ZI → ZL → Int32 → Option (ZI × ZL)) (hk_17 : ∀ (σ : ZI) (τ : ZL) (v4 : Int32), k_17 σ τ v4 = some res → ∀ (H : Heap) (locs : List Loc) (ls : Array Slot), WS g σ τ s H locs → lv_has ls 7 [(0, .ref (gA g 41)), (1, .ref (gA g b1)), (2, .int a2), (3, .int a3), (4, .int v4)] → W p l e rm_X0_weighByOdds s m args below meth c H locs 0 0 (MQ below (va_Qv (fun (u : ZI × ZL) => (u.1, u.2) = res) (WQ g) (AA g)) args s 0 0 (AA g)) (F0 m 17 ls [])) (σ : ZI) (τ : ZL) (v4 : Int32) (s0 : Int64) (s1 : Int32), f_X0_weighByOdds_120 b1 a2 a3 k_17 σ τ v4 s0 s1 = some res → ∀ (H : Heap) (locs : List Loc) (ls : Array Slot), WS g σ τ s H locs → lv_has ls 7 [(0, .ref (gA g 41)), (1, .ref (gA g b1)), (2, .int a2), (3, .int a3), (4, .int v4)] → W p l e rm_X0_weighByOdds s m args below meth c H locs 0 0 (MQ below (va_Qv (fun (u : ZI × ZL) => (u.1, u.2) = res) (WQ g) (AA g)) args s 0 0 (AA g)) (F0 m 120 ls [.long s0, .int s1, .ref (gA g 45)]) := by
    intro k_17 hk_17 σ τ v4 s0 s1 h H locs ls hS hl
    rw [f_X0_weighByOdds_120] at h
    obtain ⟨hin, h⟩ := gd h
    refine x_last F G hS 45 rfl hin dX0_weighByOdds_120 (fun H locs hS => ?_)
    obtain ⟨τ8, e_τ8, h⟩ := ltE h
    rw [← e_τ8] at hS
    clear e_τ8
    refine lv_iinc (v := (v4 + (1 : Int32))) (lv' := [(4, .int (v4 + (1 : Int32))), (0, .ref (gA g 41)), (1, .ref (gA g b1)), (2, .int a2), (3, .int a3)]) F.1 F.2.1 dX0_weighByOdds_121 hl (k := 4) rfl rfl (by decide) rfl (fun ls hl => ?_)
    refine lv_goto (tgt := 17) F.1 F.2.1 dX0_weighByOdds_124 (by decide) ?_
    exact hk_17 σ τ8 (v4 + (1 : Int32)) h H locs _ hS (lv_sub hl [1, 2, 3, 4, 0] rfl)
  have w_96 : ∀ (k_17 : ZI → ZL → Int32 → Option (ZI × ZL)) (hk_17 : ∀ (σ : ZI) (τ : ZL) (v4 : Int32), k_17 σ τ v4 = some res → ∀ (H : Heap) (locs : List Loc) (ls : Array Slot), WS g σ τ s H locs → lv_has ls 7 [(0, .ref (gA g 41)), (1, .ref (gA g b1)), (2, .int a2), (3, .int a3), (4, .int v4)] → W p l e rm_X0_weighByOdds s m args below meth c H locs 0 0 (MQ below (va_Qv (fun (u : ZI × ZL) => (u.1, u.2) = res) (WQ g) (AA g)) args s 0 0 (AA g)) (F0 m 17 ls [])) (σ : ZI) (τ : ZL) (v4 : Int32) (v5 : Int32) (v6 : Int32) (s0 : Int64) (s1 : Int32), f_X0_weighByOdds_96 b1 a2 a3 k_17 σ τ v4 v5 v6 s0 s1 = some res → ∀ (H : Heap) (locs : List Loc) (ls : Array Slot), WS g σ τ s H locs → lv_has ls 7 [(0, .ref (gA g 41)), (1, .ref (gA g b1)), (2, .int a2), (3, .int a3), (4, .int v4), (5, .int v5), (6, .int v6)] → W p l e rm_X0_weighByOdds s m args below meth c H locs 0 0 (MQ below (va_Qv (fun (u : ZI × ZL) => (u.1, u.2) = res) (WQ g) (AA g)) args s 0 0 (AA g)) (F0 m 96 ls [.long s0, .int s1, .ref (gA g 44)]) := by
    intro k_17 hk_17 σ τ v4 v5 v6 s0 s1 h H locs ls hS hl
    rw [f_X0_weighByOdds_96] at h
    obtain ⟨hin, h⟩ := gd h
    refine x_last F G hS 44 rfl hin dX0_weighByOdds_96 (fun H locs hS => ?_)
    obtain ⟨τ7, e_τ7, h⟩ := ltE h
    rw [← e_τ7] at hS
    clear e_τ7
    refine lv_aload_n F.1 F.2.1 dX0_weighByOdds_97 rfl (lv_at hl 0 rfl) ?_
    refine gf_X0_21 F G hS dX0_weighByOdds_98 ?_
    refine lv_iload F.1 F.2.1 dX0_weighByOdds_101 (lv_at hl 4 rfl) ?_
    refine lv_iload F.1 F.2.1 dX0_weighByOdds_103 (lv_at hl 5 rfl) ?_
    refine lv_bipush (v := (-4 : Int32)) F.1 F.2.1 dX0_weighByOdds_105 (by decide) ?_
    refine lv_icmp_ne (tgt := 114) F.1 F.2.1 dX0_weighByOdds_107 (by decide) (fun hc => ?_) (fun hc => ?_)
    rotate_left
    · replace h := ifT h hc
      refine lv_lconst (v := (1 : Int64)) F.1 F.2.1 dX0_weighByOdds_110 (by decide) ?_
      refine lv_goto (tgt := 120) F.1 F.2.1 dX0_weighByOdds_111 (by decide) ?_
      exact w_120 _ hk_17 σ τ7 v4 (1 : Int64) v4 h H locs _ hS (lv_sub hl [0, 1, 2, 3, 4] rfl)
    replace h := ifF h hc
    refine lv_bipush (v := (10 : Int32)) F.1 F.2.1 dX0_weighByOdds_114 (by decide) ?_
    refine lv_iload F.1 F.2.1 dX0_weighByOdds_116 (lv_at hl 6 rfl) ?_
    refine lv_isub F.1 F.2.1 dX0_weighByOdds_118 ?_
    refine lv_i2l F.1 F.2.1 dX0_weighByOdds_119 rfl ?_
    exact w_120 _ hk_17 σ τ7 v4 (((10 : Int32) - v6).toInt64) v4 h H locs _ hS (lv_sub hl [0, 1, 2, 3, 4] rfl)
  have w_53 : ∀ (k_17 : ZI → ZL → Int32 → Option (ZI × ZL)) (hk_17 : ∀ (σ : ZI) (τ : ZL) (v4 : Int32), k_17 σ τ v4 = some res → ∀ (H : Heap) (locs : List Loc) (ls : Array Slot), WS g σ τ s H locs → lv_has ls 7 [(0, .ref (gA g 41)), (1, .ref (gA g b1)), (2, .int a2), (3, .int a3), (4, .int v4)] → W p l e rm_X0_weighByOdds s m args below meth c H locs 0 0 (MQ below (va_Qv (fun (u : ZI × ZL) => (u.1, u.2) = res) (WQ g) (AA g)) args s 0 0 (AA g)) (F0 m 17 ls [])) (σ : ZI) (τ : ZL) (v4 : Int32) (v5 : Int32) (s0 : Int32), f_X0_weighByOdds_53 b1 a2 a3 k_17 σ τ v4 v5 s0 = some res → ∀ (H : Heap) (locs : List Loc) (ls : Array Slot), WS g σ τ s H locs → lv_has ls 7 [(0, .ref (gA g 41)), (1, .ref (gA g b1)), (2, .int a2), (3, .int a3), (4, .int v4), (5, .int v5)] → W p l e rm_X0_weighByOdds s m args below meth c H locs 0 0 (MQ below (va_Qv (fun (u : ZI × ZL) => (u.1, u.2) = res) (WQ g) (AA g)) args s 0 0 (AA g)) (F0 m 53 ls [.int s0]) := by
    intro k_17 hk_17 σ τ v4 v5 s0 h H locs ls hS hl
    rw [f_X0_weighByOdds_53] at h
    refine lv_istore (lv' := [(6, .int s0), (0, .ref (gA g 41)), (1, .ref (gA g b1)), (2, .int a2), (3, .int a3), (4, .int v4), (5, .int v5)]) F.1 F.2.1 dX0_weighByOdds_53 hl (by decide) rfl (fun ls hl => ?_)
    refine lv_aload_n F.1 F.2.1 dX0_weighByOdds_55 rfl (lv_at hl 1 rfl) ?_
    refine gf_X0_11 F G hS dX0_weighByOdds_56 ?_
    refine lv_iload F.1 F.2.1 dX0_weighByOdds_59 (lv_at hl 5 rfl) ?_
    refine lv_iload_n F.1 F.2.1 dX0_weighByOdds_61 rfl (lv_at hl 3 rfl) ?_
    refine lv_i2l F.1 F.2.1 dX0_weighByOdds_62 rfl ?_
    obtain ⟨hin, h⟩ := gd h
    refine x_last F G hS 42 rfl hin dX0_weighByOdds_63 (fun H locs hS => ?_)
    obtain ⟨τ5, e_τ5, h⟩ := ltE h
    rw [← e_τ5] at hS
    clear e_τ5
    refine lv_aload_n F.1 F.2.1 dX0_weighByOdds_64 rfl (lv_at hl 1 rfl) ?_
    refine gf_X0_15 F G hS dX0_weighByOdds_65 ?_
    refine lv_iload F.1 F.2.1 dX0_weighByOdds_68 (lv_at hl 5 rfl) ?_
    refine lv_bipush (v := (10 : Int32)) F.1 F.2.1 dX0_weighByOdds_70 (by decide) ?_
    refine lv_iload_n F.1 F.2.1 dX0_weighByOdds_72 rfl (lv_at hl 3 rfl) ?_
    refine lv_isub F.1 F.2.1 dX0_weighByOdds_73 ?_
    refine lv_i2l F.1 F.2.1 dX0_weighByOdds_74 rfl ?_
    obtain ⟨hin, h⟩ := gd h
    refine x_last F G hS 43 rfl hin dX0_weighByOdds_75 (fun H locs hS => ?_)
    obtain ⟨τ6, e_τ6, h⟩ := ltE h
    rw [← e_τ6] at hS
    clear e_τ6
    refine lv_aload_n F.1 F.2.1 dX0_weighByOdds_76 rfl (lv_at hl 1 rfl) ?_
    refine gf_X0_18 F G hS dX0_weighByOdds_77 ?_
    refine lv_iload F.1 F.2.1 dX0_weighByOdds_80 (lv_at hl 5 rfl) ?_
    refine lv_iload F.1 F.2.1 dX0_weighByOdds_82 (lv_at hl 6 rfl) ?_
    refine lv_bipush (v := (-4 : Int32)) F.1 F.2.1 dX0_weighByOdds_84 (by decide) ?_
    refine lv_icmp_ne (tgt := 93) F.1 F.2.1 dX0_weighByOdds_86 (by decide) (fun hc => ?_) (fun hc => ?_)
    · replace h := ifF h hc
      refine lv_iload F.1 F.2.1 dX0_weighByOdds_93 (lv_at hl 0 rfl) ?_
      refine lv_i2l F.1 F.2.1 dX0_weighByOdds_95 rfl ?_
      exact w_96 _ hk_17 σ τ6 v4 v5 s0 s0.toInt64 v4 h H locs _ hS (lv_sub hl [1, 2, 3, 4, 5, 6, 0] rfl)
    replace h := ifT h hc
    refine lv_lconst (v := (0 : Int64)) F.1 F.2.1 dX0_weighByOdds_89 (by decide) ?_
    refine lv_goto (tgt := 96) F.1 F.2.1 dX0_weighByOdds_90 (by decide) ?_
    exact w_96 _ hk_17 σ τ6 v4 v5 s0 (0 : Int64) v4 h H locs _ hS (lv_sub hl [1, 2, 3, 4, 5, 6, 0] rfl)
  have w_17 : ∀ (n : Nat) (σ : ZI) (τ : ZL) (v4 : Int32), f_X0_weighByOdds_17 b1 a2 a3 n σ τ v4 = some res → ∀ (H : Heap) (locs : List Loc) (ls : Array Slot), WS g σ τ s H locs → lv_has ls 7 [(0, .ref (gA g 41)), (1, .ref (gA g b1)), (2, .int a2), (3, .int a3), (4, .int v4)] → W p l e rm_X0_weighByOdds s m args below meth c H locs 0 0 (MQ below (va_Qv (fun (u : ZI × ZL) => (u.1, u.2) = res) (WQ g) (AA g)) args s 0 0 (AA g)) (F0 m 17 ls []) := by
    intro n
    induction n with
    | zero => intro σ τ v4 h; rw [f_X0_weighByOdds_17] at h; cases h
    | succ n ih =>
      intro σ τ v4 h H locs ls hS hl
      rw [f_X0_weighByOdds_17] at h
      refine lv_iload F.1 F.2.1 dX0_weighByOdds_17 (lv_at hl 4 rfl) ?_
      refine lv_aload_n F.1 F.2.1 dX0_weighByOdds_19 rfl (lv_at hl 0 rfl) ?_
      refine gf_X0_51 F G hS dX0_weighByOdds_20 ?_
      refine lv_icmp_gt (tgt := 127) F.1 F.2.1 dX0_weighByOdds_23 (by decide) (fun hc => ?_) (fun hc => ?_)
      · replace h := ifT h hc
        refine lv_aload_n F.1 F.2.1 dX0_weighByOdds_127 rfl (lv_at hl 0 rfl) ?_
        obtain ⟨q3, h_q3, h⟩ := bd h
        refine rVv F G hS hl.1 (c_X0_sumBehind l g σ τ q3 h_q3) lk_X0_66 ⟨rfl, rfl, Nat.le_of_ble_eq_true rfl, Nat.le_of_ble_eq_true rfl⟩ (rc_X0 G hS) rfl rfl (Nat.le_of_ble_eq_true rfl) dX0_weighByOdds_128 (kJv (fun H locs hS => ?_))
        exact e_v F hS (Option.some.inj h) hr0 dX0_weighByOdds_131 hk0
      replace h := ifF h hc
      refine lv_aload_n F.1 F.2.1 dX0_weighByOdds_26 rfl (lv_at hl 1 rfl) ?_
      refine lv_iload F.1 F.2.1 dX0_weighByOdds_27 (lv_at hl 4 rfl) ?_
      obtain ⟨q4, h_q4, h⟩ := bd h
      refine rNi F G hS hl.1 (c_X6_markAt l g σ τ b1 v4 q4 h_q4) lk_X0_55 ⟨rfl, rfl, Nat.le_of_ble_eq_true rfl, Nat.le_of_ble_eq_true rfl⟩ (rc_X6 G hS hg_b1) rfl rfl (Nat.le_of_ble_eq_true rfl) dX0_weighByOdds_29 (kRi (fun H locs hS => ?_))
      refine lv_istore (lv' := [(5, .int q4), (0, .ref (gA g 41)), (1, .ref (gA g b1)), (2, .int a2), (3, .int a3), (4, .int v4)]) F.1 F.2.1 dX0_weighByOdds_32 hl (by decide) rfl (fun ls hl => ?_)
      refine lv_iload_n F.1 F.2.1 dX0_weighByOdds_34 rfl (lv_at hl 4 rfl) ?_
      refine lv_bipush (v := (-4 : Int32)) F.1 F.2.1 dX0_weighByOdds_35 (by decide) ?_
      refine lv_icmp_ne (tgt := 52) F.1 F.2.1 dX0_weighByOdds_37 (by decide) (fun hc => ?_) (fun hc => ?_)
      · replace h := ifF h hc
        refine lv_iload_n F.1 F.2.1 dX0_weighByOdds_52 rfl (lv_at hl 4 rfl) ?_
        exact w_53 _ (fun σ τ v4 => ih σ τ v4) σ τ v4 q4 a3 h H locs _ hS (lv_sub hl [1, 2, 3, 4, 5, 0] rfl)
      replace h := ifT h hc
      refine lv_aload_n F.1 F.2.1 dX0_weighByOdds_40 rfl (lv_at hl 2 rfl) ?_
      refine gf_X0_58 F G hS hg_b1 dX0_weighByOdds_41 ?_
      refine lv_iload F.1 F.2.1 dX0_weighByOdds_44 (lv_at hl 0 rfl) ?_
      obtain ⟨q9, h_q9, h⟩ := bd h
      refine rTi F G hS hl.1 (c_X7_at l g σ τ (b1 + 6) q4 q9 h_q9) lk_X0_62 ⟨rfl, rfl, Nat.le_of_ble_eq_true rfl, Nat.le_of_ble_eq_true rfl⟩  rfl rfl (Nat.le_of_ble_eq_true rfl) dX0_weighByOdds_46 (kRi (fun H locs hS => ?_))
      refine lv_goto (tgt := 53) F.1 F.2.1 dX0_weighByOdds_49 (by decide) ?_
      exact w_53 _ (fun σ τ v4 => ih σ τ v4) σ τ v4 q4 q9 h H locs _ hS (lv_sub hl [1, 2, 3, 4, 5, 0] rfl)
  obtain ⟨locs, hlo⟩ : ∃ z : List Loc, z = [] := ⟨_, rfl⟩
  rw [← hlo] at hS ⊢
  clear hlo
  refine lv_aload_n F.1 F.2.1 dX0_weighByOdds_0 rfl (lv_at hl 0 rfl) ?_
  refine lv_aload_n F.1 F.2.1 dX0_weighByOdds_1 rfl (lv_at hl 1 rfl) ?_
  refine lv_iconst (v := (0 : Int32)) F.1 F.2.1 dX0_weighByOdds_2 (by decide) ?_
  obtain ⟨q1, h_q1, h⟩ := bd h
  refine rNi F G hS hl.1 (c_X6_value l g σ τ b1 (0 : Int32) q1 h_q1) lk_X0_39 ⟨rfl, rfl, Nat.le_of_ble_eq_true rfl, Nat.le_of_ble_eq_true rfl⟩ (rc_X6 G hS hg_b1) rfl rfl (Nat.le_of_ble_eq_true rfl) dX0_weighByOdds_3 (kRi (fun H locs hS => ?_))
  refine lv_bipush (v := (10 : Int32)) F.1 F.2.1 dX0_weighByOdds_6 (by decide) ?_
  refine va_mmin F.1 F.2.1 (F.2.2.1.trans hl.1.symm) F.2.2.2.1 (F.2.2.2.2 _ tb_724) (F.2.2.2.2 _ tb_725) (F.2.2.2.2 _ tb_123) (F.2.2.2.2 _ tb_726) (Nat.le_of_ble_eq_true rfl) (Nat.le_of_ble_eq_true rfl) (Nat.zero_le _) (Nat.zero_le _) dX0_weighByOdds_8 ?_
  refine pf_X0_51 F G hS dX0_weighByOdds_11 (fun H locs hS => ?_)
  obtain ⟨σ2, e_σ2, h⟩ := ltE h
  rw [← e_σ2] at hS
  clear e_σ2
  refine lv_iconst (v := (1 : Int32)) F.1 F.2.1 dX0_weighByOdds_14 (by decide) ?_
  refine lv_istore (lv' := [(4, .int (1 : Int32)), (0, .ref (gA g 41)), (1, .ref (gA g b1)), (2, .int a2), (3, .int a3)]) F.1 F.2.1 dX0_weighByOdds_15 hl (by decide) rfl (fun ls hl => ?_)
  exact w_17 3000 σ2 τ (1 : Int32) h H locs _ hS (lv_sub hl [1, 2, 3, 4, 0] rfl)
def f_J7_fill_d0a16_6 (r1 : Nat) (a2 : Int64)  : Nat → ZL → Int32 → Int32 → Option (ZL)
  | 0, _, _, _ => none
  | n + 1, τ, v3, v4 => if v4 ≤ v3 then (some τ) else (if inB v3 (ar r1).2 = true then (lt_ (va_up τ r1 (vp_updL (τ r1) v3.toNatClampNeg a2)) (fun τ1 => f_J7_fill_d0a16_6 r1 a2 n τ1 (v3 + (1 : Int32)) v4)) else none)
def f_J7_fill_d0a16 (τ : ZL) (r1 : Nat) (a2 : Int64) : Option (ZL) := if (ar r1).1 = 2 then (f_J7_fill_d0a16_6 r1 a2 3000 τ (0 : Int32) (nI (ar r1).2)) else none
abbrev rm_J7_fill_d0a16 : Room := { frames := 0, cells := 0, slots := 0, locals := 0 }
set_option maxHeartbeats 4000000 in
set_option maxRecDepth 100000 in
theorem c_J7_fill_d0a16 (l : Launch) (g : GG) (σ : ZI) (τ : ZL) (r1 : Nat) (a2 : Int64) (res : ZL) (h : f_J7_fill_d0a16 τ r1 a2 = some res) : MV l yJ7_fill_d0a16 cJ7_fill_d0a16 5 none rm_J7_fill_d0a16 g [.ref (gA g r1), .long a2] σ τ (fun (u : ZI × ZL) => u.2 = res ∧ u.1 = σ) := by
  refine Met_in (by decide) (Nat.le_of_ble_eq_true rfl) ?_
  intro p e s m args below meth c F G hP hr0 hk0 ls hl
  have hS := WS.start hP
  have hl : lv_has ls 5 [(0, .ref (gA g r1)), (1, .long a2)] := hl
  obtain ⟨H, hH⟩ : ∃ H, H = s.heap := ⟨_, rfl⟩
  rw [← hH] at hS ⊢
  clear hH hP
  rw [f_J7_fill_d0a16] at h
  obtain ⟨hg_r1, h⟩ := gd h
  have w_6 : ∀ (n : Nat) (τ : ZL) (v3 : Int32) (v4 : Int32), f_J7_fill_d0a16_6 r1 a2 n τ v3 v4 = some res → ∀ (H : Heap) (locs : List Loc) (ls : Array Slot), WS g σ τ s H locs → lv_has ls 5 [(0, .ref (gA g r1)), (1, .long a2), (3, .int v3), (4, .int v4)] → W p l e rm_J7_fill_d0a16 s m args below meth c H locs 0 0 (MQ below (va_Qv (fun (u : ZI × ZL) => u.2 = res ∧ u.1 = σ) (WQ g) (AA g)) args s 0 0 (AA g)) (F0 m 6 ls []) := by
    intro n
    induction n with
    | zero => intro τ v3 v4 h; rw [f_J7_fill_d0a16_6] at h; cases h
    | succ n ih =>
      intro τ v3 v4 h H locs ls hS hl
      rw [f_J7_fill_d0a16_6] at h
      refine lv_iload_n F.1 F.2.1 dJ7_fill_d0a16_6 rfl (lv_at hl 2 rfl) ?_
      refine lv_iload F.1 F.2.1 dJ7_fill_d0a16_7 (lv_at hl 3 rfl) ?_
      refine lv_icmp_ge (tgt := 22) F.1 F.2.1 dJ7_fill_d0a16_9 (by decide) (fun hc => ?_) (fun hc => ?_)
      · replace h := ifT h hc
        exact e_v F hS ⟨Option.some.inj h, rfl⟩ hr0 dJ7_fill_d0a16_22 hk0
      replace h := ifF h hc
      refine lv_aload_n F.1 F.2.1 dJ7_fill_d0a16_12 rfl (lv_at hl 0 rfl) ?_
      refine lv_iload_n F.1 F.2.1 dJ7_fill_d0a16_13 rfl (lv_at hl 2 rfl) ?_
      refine lv_lload_n F.1 F.2.1 dJ7_fill_d0a16_14 rfl (lv_at hl 1 rfl) ?_
      obtain ⟨hin, h⟩ := gd h
      refine x_last F G hS r1 hg_r1 hin dJ7_fill_d0a16_15 (fun H locs hS => ?_)
      obtain ⟨τ1, e_τ1, h⟩ := ltE h
      rw [← e_τ1] at hS
      clear e_τ1
      refine lv_iinc (v := (v3 + (1 : Int32))) (lv' := [(3, .int (v3 + (1 : Int32))), (0, .ref (gA g r1)), (1, .long a2), (4, .int v4)]) F.1 F.2.1 dJ7_fill_d0a16_16 hl (k := 2) rfl rfl (by decide) rfl (fun ls hl => ?_)
      refine lv_goto (tgt := 6) F.1 F.2.1 dJ7_fill_d0a16_19 (by decide) ?_
      exact ih τ1 (v3 + (1 : Int32)) v4 h H locs _ hS (lv_sub hl [1, 2, 0, 3] rfl)
  obtain ⟨locs, hlo⟩ : ∃ z : List Loc, z = [] := ⟨_, rfl⟩
  rw [← hlo] at hS ⊢
  clear hlo
  refine lv_iconst (v := (0 : Int32)) F.1 F.2.1 dJ7_fill_d0a16_0 (by decide) ?_
  refine lv_istore_n (lv' := [(3, .int (0 : Int32)), (0, .ref (gA g r1)), (1, .long a2)]) F.1 F.2.1 dJ7_fill_d0a16_1 rfl hl (by decide) rfl (fun ls hl => ?_)
  refine lv_aload_n F.1 F.2.1 dJ7_fill_d0a16_2 rfl (lv_at hl 1 rfl) ?_
  refine x_alenJ F G hS r1 hg_r1 dJ7_fill_d0a16_3 ?_
  refine lv_istore (lv' := [(4, .int (nI (ar r1).2)), (3, .int (0 : Int32)), (0, .ref (gA g r1)), (1, .long a2)]) F.1 F.2.1 dJ7_fill_d0a16_4 hl (by decide) rfl (fun ls hl => ?_)
  exact w_6 3000 τ (0 : Int32) (nI (ar r1).2) h H locs _ hS (lv_sub hl [2, 3, 1, 0] rfl)
def f_X0_start (τ : ZL) : Option (ZL) := (f_J7_fill_d0a16 τ 47 (0 : Int64)).bind (fun q1 => (f_J7_fill_d0a16 q1 48 (0 : Int64)).bind (fun q2 => lt_ (va_up q2 47 (vp_updL (q2 47) 0 (1 : Int64))) (fun τ3 => some τ3)))
abbrev rm_X0_start : Room := { frames := 1, cells := 0, slots := 0, locals := 24 }
set_option maxHeartbeats 4000000 in
set_option maxRecDepth 100000 in
theorem c_X0_start (l : Launch) (g : GG) (σ : ZI) (τ : ZL)  (res : ZL) (h : f_X0_start τ = some res) : MV l yX0_start cX0_start 1 none rm_X0_start g [.ref (gA g 41)] σ τ (fun (u : ZI × ZL) => u.2 = res ∧ u.1 = σ) := by
  refine Met_in (by decide) (Nat.le_of_ble_eq_true rfl) ?_
  intro p e s m args below meth c F G hP hr0 hk0 ls hl
  have hS := WS.start hP
  have hl : lv_has ls 1 [(0, .ref (gA g 41))] := hl
  obtain ⟨H, hH⟩ : ∃ H, H = s.heap := ⟨_, rfl⟩
  rw [← hH] at hS ⊢
  clear hH hP
  rw [f_X0_start] at h
  obtain ⟨locs, hlo⟩ : ∃ z : List Loc, z = [] := ⟨_, rfl⟩
  rw [← hlo] at hS ⊢
  clear hlo
  refine lv_aload_n F.1 F.2.1 dX0_start_0 rfl (lv_at hl 0 rfl) ?_
  refine gf_X0_27 F G hS dX0_start_1 ?_
  refine lv_lconst (v := (0 : Int64)) F.1 F.2.1 dX0_start_4 (by decide) ?_
  obtain ⟨q1, h_q1, h⟩ := bd h
  refine rSv F G hS hl.1 (c_J7_fill_d0a16 l g σ τ 47 (0 : Int64) q1 h_q1) lk_X0_73 ⟨rfl, rfl, Nat.le_of_ble_eq_true rfl, Nat.le_of_ble_eq_true rfl⟩  rfl rfl (Nat.le_of_ble_eq_true rfl) dX0_start_5 (kJv (fun H locs hS => ?_))
  refine lv_aload_n F.1 F.2.1 dX0_start_8 rfl (lv_at hl 0 rfl) ?_
  refine gf_X0_30 F G hS dX0_start_9 ?_
  refine lv_lconst (v := (0 : Int64)) F.1 F.2.1 dX0_start_12 (by decide) ?_
  obtain ⟨q2, h_q2, h⟩ := bd h
  refine rSv F G hS hl.1 (c_J7_fill_d0a16 l g σ q1 48 (0 : Int64) q2 h_q2) lk_X0_73 ⟨rfl, rfl, Nat.le_of_ble_eq_true rfl, Nat.le_of_ble_eq_true rfl⟩  rfl rfl (Nat.le_of_ble_eq_true rfl) dX0_start_13 (kJv (fun H locs hS => ?_))
  refine lv_aload_n F.1 F.2.1 dX0_start_16 rfl (lv_at hl 0 rfl) ?_
  refine gf_X0_27 F G hS dX0_start_17 ?_
  refine lv_iconst (v := (0 : Int32)) F.1 F.2.1 dX0_start_20 (by decide) ?_
  refine lv_lconst (v := (1 : Int64)) F.1 F.2.1 dX0_start_21 (by decide) ?_
  refine x_lastL F G hS 47 rfl 0 rfl (by decide) dX0_start_22 (fun H locs hS => ?_)
  obtain ⟨τ3, e_τ3, h⟩ := ltE h
  rw [← e_τ3] at hS
  clear e_τ3
  exact e_v F hS ⟨Option.some.inj h, rfl⟩ hr0 dX0_start_23 hk0
def f_X0_passJoint_108 (r1 : Nat) (a2 : Int32) (k_23 : ZL → Int32 → Option (ZL)) (τ : ZL) (v3 : Int32) : Option (ZL) := k_23 τ (v3 + (-1 : Int32))
def f_X0_passJoint_23 (r1 : Nat) (a2 : Int32)  : Nat → ZL → Int32 → Option (ZL)
  | 0, _, _ => none
  | n + 1, τ, v3 => if v3 < 0 then (some τ) else (if inB v3 (ar r1).2 = true then (if (lg_cmp (τ r1 v3.toNatClampNeg) (0 : Int64)) = 0 then (f_X0_passJoint_108 r1 a2 (fun τ v3 => f_X0_passJoint_23 r1 a2 n τ v3) τ v3) else (if inB a2 11 = true then (lt_ (((τ r1 v3.toNatClampNeg) * (τ 45 a2.toNatClampNeg))) (fun x1 => if inB a2 11 = true then (if inB v3 (ar r1).2 = true then (lt_ (va_up τ r1 (vp_updL (τ r1) v3.toNatClampNeg (x1 * (τ 42 a2.toNatClampNeg)))) (fun τ2 => if inB (v3 + (1 : Int32)) (ar r1).2 = true then (if inB a2 11 = true then (if inB (v3 + (1 : Int32)) (ar r1).2 = true then (lt_ (va_up τ2 r1 (vp_updL (τ2 r1) (v3 + (1 : Int32)).toNatClampNeg ((τ2 r1 (v3 + (1 : Int32)).toNatClampNeg) + (x1 * (τ2 43 a2.toNatClampNeg))))) (fun τ3 => if inB a2 (ar r1).2 = true then (if inB a2 11 = true then (if inB a2 11 = true then (if inB a2 11 = true then (if inB a2 (ar r1).2 = true then (lt_ (va_up τ3 r1 (vp_updL (τ3 r1) a2.toNatClampNeg ((τ3 r1 a2.toNatClampNeg) + (((τ r1 v3.toNatClampNeg) * (τ3 44 a2.toNatClampNeg)) * ((τ3 42 a2.toNatClampNeg) + (τ3 43 a2.toNatClampNeg)))))) (fun τ4 => f_X0_passJoint_108 r1 a2 (fun τ v3 => f_X0_passJoint_23 r1 a2 n τ v3) τ4 v3)) else none) else none) else none) else none) else none)) else none) else none) else none)) else none) else none)) else none)) else none)
def f_X0_passJoint (τ : ZL) (r1 : Nat) (a2 : Int32) : Option (ZL) := if (ar r1).1 = 2 then (if a2 < (1 : Int32) then (some τ) else (if (11 : Int32) ≤ a2 then (some τ) else (if (11 : Int32) ≤ (nI (ar r1).2) then (f_X0_passJoint_23 r1 a2 3000 τ (a2 - (1 : Int32))) else (some τ)))) else none
abbrev rm_X0_passJoint : Room := { frames := 0, cells := 0, slots := 0, locals := 0 }
set_option maxHeartbeats 4000000 in
set_option maxRecDepth 100000 in
theorem c_X0_passJoint (l : Launch) (g : GG) (σ : ZI) (τ : ZL) (r1 : Nat) (a2 : Int32) (res : ZL) (h : f_X0_passJoint τ r1 a2 = some res) : MV l yX0_passJoint cX0_passJoint 8 none rm_X0_passJoint g [.ref (gA g 41), .ref (gA g r1), .int a2] σ τ (fun (u : ZI × ZL) => u.2 = res ∧ u.1 = σ) := by
  refine Met_in (by decide) (Nat.le_of_ble_eq_true rfl) ?_
  intro p e s m args below meth c F G hP hr0 hk0 ls hl
  have hS := WS.start hP
  have hl : lv_has ls 8 [(0, .ref (gA g 41)), (1, .ref (gA g r1)), (2, .int a2)] := hl
  obtain ⟨H, hH⟩ : ∃ H, H = s.heap := ⟨_, rfl⟩
  rw [← hH] at hS ⊢
  clear hH hP
  rw [f_X0_passJoint] at h
  obtain ⟨hg_r1, h⟩ := gd h
  have w_108 : ∀ (k_23 : ZL → Int32 → Option (ZL)) (hk_23 : ∀ (τ : ZL) (v3 : Int32), k_23 τ v3 = some res → ∀ (H : Heap) (locs : List Loc) (ls : Array Slot), WS g σ τ s H locs → lv_has ls 8 [(0, .ref (gA g 41)), (1, .ref (gA g r1)), (2, .int a2), (3, .int v3)] → W p l e rm_X0_passJoint s m args below meth c H locs 0 0 (MQ below (va_Qv (fun (u : ZI × ZL) => u.2 = res ∧ u.1 = σ) (WQ g) (AA g)) args s 0 0 (AA g)) (F0 m 23 ls [])) (τ : ZL) (v3 : Int32), f_X0_passJoint_108 r1 a2 k_23 τ v3 = some res → ∀ (H : Heap) (locs : List Loc) (ls : Array Slot), WS g σ τ s H locs → lv_has ls 8 [(0, .ref (gA g 41)), (1, .ref (gA g r1)), (2, .int a2), (3, .int v3)] → W p l e rm_X0_passJoint s m args below meth c H locs 0 0 (MQ below (va_Qv (fun (u : ZI × ZL) => u.2 = res ∧ u.1 = σ) (WQ g) (AA g)) args s 0 0 (AA g)) (F0 m 108 ls []) := by
    intro k_23 hk_23 τ v3 h H locs ls hS hl
    rw [f_X0_passJoint_108] at h
    refine lv_iinc (v := (v3 + (-1 : Int32))) (lv' := [(3, .int (v3 + (-1 : Int32))), (0, .ref (gA g 41)), (1, .ref (gA g r1)), (2, .int a2)]) F.1 F.2.1 dX0_passJoint_108 hl (k := 3) rfl rfl (by decide) rfl (fun ls hl => ?_)
    refine lv_goto (tgt := 23) F.1 F.2.1 dX0_passJoint_111 (by decide) ?_
    exact hk_23 τ (v3 + (-1 : Int32)) h H locs _ hS (lv_sub hl [1, 2, 3, 0] rfl)
  have w_23 : ∀ (n : Nat) (τ : ZL) (v3 : Int32), f_X0_passJoint_23 r1 a2 n τ v3 = some res → ∀ (H : Heap) (locs : List Loc) (ls : Array Slot), WS g σ τ s H locs → lv_has ls 8 [(0, .ref (gA g 41)), (1, .ref (gA g r1)), (2, .int a2), (3, .int v3)] → W p l e rm_X0_passJoint s m args below meth c H locs 0 0 (MQ below (va_Qv (fun (u : ZI × ZL) => u.2 = res ∧ u.1 = σ) (WQ g) (AA g)) args s 0 0 (AA g)) (F0 m 23 ls []) := by
    intro n
    induction n with
    | zero => intro τ v3 h; rw [f_X0_passJoint_23] at h; cases h
    | succ n ih =>
      intro τ v3 h H locs ls hS hl
      rw [f_X0_passJoint_23] at h
      refine lv_iload_n F.1 F.2.1 dX0_passJoint_23 rfl (lv_at hl 3 rfl) ?_
      refine lv_if_lt (tgt := 114) F.1 F.2.1 dX0_passJoint_24 (by decide) (fun hc => ?_) (fun hc => ?_)
      · replace h := ifT h hc
        exact e_v F hS ⟨Option.some.inj h, rfl⟩ hr0 dX0_passJoint_114 hk0
      replace h := ifF h hc
      refine lv_aload_n F.1 F.2.1 dX0_passJoint_27 rfl (lv_at hl 1 rfl) ?_
      refine lv_iload_n F.1 F.2.1 dX0_passJoint_28 rfl (lv_at hl 3 rfl) ?_
      obtain ⟨hin, h⟩ := gd h
      refine x_lald F G hS r1 hg_r1 hin dX0_passJoint_29 ?_
      refine lv_lstore (lv' := [(4, .long (τ r1 v3.toNatClampNeg)), (0, .ref (gA g 41)), (1, .ref (gA g r1)), (2, .int a2), (3, .int v3)]) F.1 F.2.1 dX0_passJoint_30 hl (by decide) rfl (fun ls hl => ?_)
      refine lv_lload F.1 F.2.1 dX0_passJoint_32 (lv_at hl 0 rfl) ?_
      refine lv_lconst (v := (0 : Int64)) F.1 F.2.1 dX0_passJoint_34 (by decide) ?_
      refine W.lcmp F.1 F.2.1 dX0_passJoint_35 ?_
      refine lv_if_eq (tgt := 108) F.1 F.2.1 dX0_passJoint_36 (by decide) (fun hc => ?_) (fun hc => ?_)
      · replace h := ifT h hc
        exact w_108 _ (fun τ v3 => ih τ v3) τ v3 h H locs _ hS (lv_sub hl [1, 2, 3, 4] rfl)
      replace h := ifF h hc
      refine lv_lload F.1 F.2.1 dX0_passJoint_39 (lv_at hl 0 rfl) ?_
      refine lv_aload_n F.1 F.2.1 dX0_passJoint_41 rfl (lv_at hl 1 rfl) ?_
      refine gf_X0_21 F G hS dX0_passJoint_42 ?_
      refine lv_iload_n F.1 F.2.1 dX0_passJoint_45 rfl (lv_at hl 3 rfl) ?_
      obtain ⟨hin, h⟩ := gd h
      refine x_lald F G hS 45 rfl hin dX0_passJoint_46 ?_
      refine lv_lmul F.1 F.2.1 dX0_passJoint_47 ?_
      obtain ⟨x1, e_x1, h⟩ := ltE h
      refine x_topl e_x1 ?_
      clear e_x1
      refine lv_lstore (lv' := [(6, .long x1), (4, .long (τ r1 v3.toNatClampNeg)), (0, .ref (gA g 41)), (1, .ref (gA g r1)), (2, .int a2), (3, .int v3)]) F.1 F.2.1 dX0_passJoint_48 hl (by decide) rfl (fun ls hl => ?_)
      refine lv_aload_n F.1 F.2.1 dX0_passJoint_50 rfl (lv_at hl 3 rfl) ?_
      refine lv_iload_n F.1 F.2.1 dX0_passJoint_51 rfl (lv_at hl 5 rfl) ?_
      refine lv_lload F.1 F.2.1 dX0_passJoint_52 (lv_at hl 0 rfl) ?_
      refine lv_aload_n F.1 F.2.1 dX0_passJoint_54 rfl (lv_at hl 2 rfl) ?_
      refine gf_X0_11 F G hS dX0_passJoint_55 ?_
      refine lv_iload_n F.1 F.2.1 dX0_passJoint_58 rfl (lv_at hl 4 rfl) ?_
      obtain ⟨hin, h⟩ := gd h
      refine x_lald F G hS 42 rfl hin dX0_passJoint_59 ?_
      refine lv_lmul F.1 F.2.1 dX0_passJoint_60 ?_
      obtain ⟨hin, h⟩ := gd h
      refine x_last F G hS r1 hg_r1 hin dX0_passJoint_61 (fun H locs hS => ?_)
      obtain ⟨τ2, e_τ2, h⟩ := ltE h
      rw [← e_τ2] at hS
      clear e_τ2
      refine lv_aload_n F.1 F.2.1 dX0_passJoint_62 rfl (lv_at hl 3 rfl) ?_
      refine lv_iload_n F.1 F.2.1 dX0_passJoint_63 rfl (lv_at hl 5 rfl) ?_
      refine lv_iconst (v := (1 : Int32)) F.1 F.2.1 dX0_passJoint_64 (by decide) ?_
      refine lv_iadd F.1 F.2.1 dX0_passJoint_65 ?_
      refine lv_dup2_11 F.1 F.2.1 dX0_passJoint_66 rfl rfl ?_
      obtain ⟨hin, h⟩ := gd h
      refine x_lald F G hS r1 hg_r1 hin dX0_passJoint_67 ?_
      refine lv_lload F.1 F.2.1 dX0_passJoint_68 (lv_at hl 0 rfl) ?_
      refine lv_aload_n F.1 F.2.1 dX0_passJoint_70 rfl (lv_at hl 2 rfl) ?_
      refine gf_X0_15 F G hS dX0_passJoint_71 ?_
      refine lv_iload_n F.1 F.2.1 dX0_passJoint_74 rfl (lv_at hl 4 rfl) ?_
      obtain ⟨hin, h⟩ := gd h
      refine x_lald F G hS 43 rfl hin dX0_passJoint_75 ?_
      refine lv_lmul F.1 F.2.1 dX0_passJoint_76 ?_
      refine lv_ladd F.1 F.2.1 dX0_passJoint_77 ?_
      obtain ⟨hin, h⟩ := gd h
      refine x_last F G hS r1 hg_r1 hin dX0_passJoint_78 (fun H locs hS => ?_)
      obtain ⟨τ3, e_τ3, h⟩ := ltE h
      rw [← e_τ3] at hS
      clear e_τ3
      refine lv_aload_n F.1 F.2.1 dX0_passJoint_79 rfl (lv_at hl 3 rfl) ?_
      refine lv_iload_n F.1 F.2.1 dX0_passJoint_80 rfl (lv_at hl 4 rfl) ?_
      refine lv_dup2_11 F.1 F.2.1 dX0_passJoint_81 rfl rfl ?_
      obtain ⟨hin, h⟩ := gd h
      refine x_lald F G hS r1 hg_r1 hin dX0_passJoint_82 ?_
      refine lv_lload F.1 F.2.1 dX0_passJoint_83 (lv_at hl 1 rfl) ?_
      refine lv_aload_n F.1 F.2.1 dX0_passJoint_85 rfl (lv_at hl 2 rfl) ?_
      refine gf_X0_18 F G hS dX0_passJoint_86 ?_
      refine lv_iload_n F.1 F.2.1 dX0_passJoint_89 rfl (lv_at hl 4 rfl) ?_
      obtain ⟨hin, h⟩ := gd h
      refine x_lald F G hS 44 rfl hin dX0_passJoint_90 ?_
      refine lv_lmul F.1 F.2.1 dX0_passJoint_91 ?_
      refine lv_aload_n F.1 F.2.1 dX0_passJoint_92 rfl (lv_at hl 2 rfl) ?_
      refine gf_X0_11 F G hS dX0_passJoint_93 ?_
      refine lv_iload_n F.1 F.2.1 dX0_passJoint_96 rfl (lv_at hl 4 rfl) ?_
      obtain ⟨hin, h⟩ := gd h
      refine x_lald F G hS 42 rfl hin dX0_passJoint_97 ?_
      refine lv_aload_n F.1 F.2.1 dX0_passJoint_98 rfl (lv_at hl 2 rfl) ?_
      refine gf_X0_15 F G hS dX0_passJoint_99 ?_
      refine lv_iload_n F.1 F.2.1 dX0_passJoint_102 rfl (lv_at hl 4 rfl) ?_
      obtain ⟨hin, h⟩ := gd h
      refine x_lald F G hS 43 rfl hin dX0_passJoint_103 ?_
      refine lv_ladd F.1 F.2.1 dX0_passJoint_104 ?_
      refine lv_lmul F.1 F.2.1 dX0_passJoint_105 ?_
      refine lv_ladd F.1 F.2.1 dX0_passJoint_106 ?_
      obtain ⟨hin, h⟩ := gd h
      refine x_last F G hS r1 hg_r1 hin dX0_passJoint_107 (fun H locs hS => ?_)
      obtain ⟨τ4, e_τ4, h⟩ := ltE h
      rw [← e_τ4] at hS
      clear e_τ4
      exact w_108 _ (fun τ v3 => ih τ v3) τ4 v3 h H locs _ hS (lv_sub hl [2, 3, 4, 5] rfl)
  obtain ⟨locs, hlo⟩ : ∃ z : List Loc, z = [] := ⟨_, rfl⟩
  rw [← hlo] at hS ⊢
  clear hlo
  refine lv_iload_n F.1 F.2.1 dX0_passJoint_0 rfl (lv_at hl 2 rfl) ?_
  refine lv_iconst (v := (1 : Int32)) F.1 F.2.1 dX0_passJoint_1 (by decide) ?_
  refine lv_icmp_lt (tgt := 18) F.1 F.2.1 dX0_passJoint_2 (by decide) (fun hc => ?_) (fun hc => ?_)
  · replace h := ifT h hc
    exact e_v F hS ⟨Option.some.inj h, rfl⟩ hr0 dX0_passJoint_18 hk0
  replace h := ifF h hc
  refine lv_iload_n F.1 F.2.1 dX0_passJoint_5 rfl (lv_at hl 2 rfl) ?_
  refine lv_bipush (v := (11 : Int32)) F.1 F.2.1 dX0_passJoint_6 (by decide) ?_
  refine lv_icmp_ge (tgt := 18) F.1 F.2.1 dX0_passJoint_8 (by decide) (fun hc => ?_) (fun hc => ?_)
  · replace h := ifT h hc
    exact e_v F hS ⟨Option.some.inj h, rfl⟩ hr0 dX0_passJoint_18 hk0
  replace h := ifF h hc
  refine lv_aload_n F.1 F.2.1 dX0_passJoint_11 rfl (lv_at hl 1 rfl) ?_
  refine x_alenJ F G hS r1 hg_r1 dX0_passJoint_12 ?_
  refine lv_bipush (v := (11 : Int32)) F.1 F.2.1 dX0_passJoint_13 (by decide) ?_
  refine lv_icmp_ge (tgt := 19) F.1 F.2.1 dX0_passJoint_15 (by decide) (fun hc => ?_) (fun hc => ?_)
  rotate_left
  · replace h := ifF h hc
    exact e_v F hS ⟨Option.some.inj h, rfl⟩ hr0 dX0_passJoint_18 hk0
  replace h := ifT h hc
  refine lv_iload_n F.1 F.2.1 dX0_passJoint_19 rfl (lv_at hl 2 rfl) ?_
  refine lv_iconst (v := (1 : Int32)) F.1 F.2.1 dX0_passJoint_20 (by decide) ?_
  refine lv_isub F.1 F.2.1 dX0_passJoint_21 ?_
  refine lv_istore_n (lv' := [(3, .int (a2 - (1 : Int32))), (0, .ref (gA g 41)), (1, .ref (gA g r1)), (2, .int a2)]) F.1 F.2.1 dX0_passJoint_22 rfl hl (by decide) rfl (fun ls hl => ?_)
  exact w_23 3000 τ (a2 - (1 : Int32)) h H locs _ hS (lv_sub hl [1, 2, 3, 0] rfl)
def f_X0_passCounting_6 (σ : ZI) (a1 : Int32)  : Nat → ZL → Int32 → Option (ZL)
  | 0, _, _ => none
  | n + 1, τ, v2 => if a1 < v2 then (some τ) else (if (σ 41 0) < v2 then (some τ) else ((f_X0_passJoint τ 47 v2).bind (fun q2 => f_X0_passCounting_6 σ a1 n q2 (v2 + (1 : Int32)))))
def f_X0_passCounting (σ : ZI) (τ : ZL) (a1 : Int32) : Option (ZL) := (f_X0_start τ).bind (fun q1 => f_X0_passCounting_6 σ a1 3000 q1 (1 : Int32))
abbrev rm_X0_passCounting : Room := { frames := 2, cells := 0, slots := 0, locals := 44 }
set_option maxHeartbeats 4000000 in
set_option maxRecDepth 100000 in
theorem c_X0_passCounting (l : Launch) (g : GG) (σ : ZI) (τ : ZL) (a1 : Int32) (res : ZL) (h : f_X0_passCounting σ τ a1 = some res) : MV l yX0_passCounting cX0_passCounting 3 none rm_X0_passCounting g [.ref (gA g 41), .int a1] σ τ (fun (u : ZI × ZL) => u.2 = res ∧ u.1 = σ) := by
  refine Met_in (by decide) (Nat.le_of_ble_eq_true rfl) ?_
  intro p e s m args below meth c F G hP hr0 hk0 ls hl
  have hS := WS.start hP
  have hl : lv_has ls 3 [(0, .ref (gA g 41)), (1, .int a1)] := hl
  obtain ⟨H, hH⟩ : ∃ H, H = s.heap := ⟨_, rfl⟩
  rw [← hH] at hS ⊢
  clear hH hP
  rw [f_X0_passCounting] at h
  have w_6 : ∀ (n : Nat) (τ : ZL) (v2 : Int32), f_X0_passCounting_6 σ a1 n τ v2 = some res → ∀ (H : Heap) (locs : List Loc) (ls : Array Slot), WS g σ τ s H locs → lv_has ls 3 [(0, .ref (gA g 41)), (1, .int a1), (2, .int v2)] → W p l e rm_X0_passCounting s m args below meth c H locs 0 0 (MQ below (va_Qv (fun (u : ZI × ZL) => u.2 = res ∧ u.1 = σ) (WQ g) (AA g)) args s 0 0 (AA g)) (F0 m 6 ls []) := by
    intro n
    induction n with
    | zero => intro τ v2 h; rw [f_X0_passCounting_6] at h; cases h
    | succ n ih =>
      intro τ v2 h H locs ls hS hl
      rw [f_X0_passCounting_6] at h
      refine lv_iload_n F.1 F.2.1 dX0_passCounting_6 rfl (lv_at hl 2 rfl) ?_
      refine lv_iload_n F.1 F.2.1 dX0_passCounting_7 rfl (lv_at hl 1 rfl) ?_
      refine lv_icmp_gt (tgt := 34) F.1 F.2.1 dX0_passCounting_8 (by decide) (fun hc => ?_) (fun hc => ?_)
      · replace h := ifT h hc
        exact e_v F hS ⟨Option.some.inj h, rfl⟩ hr0 dX0_passCounting_34 hk0
      replace h := ifF h hc
      refine lv_iload_n F.1 F.2.1 dX0_passCounting_11 rfl (lv_at hl 2 rfl) ?_
      refine lv_aload_n F.1 F.2.1 dX0_passCounting_12 rfl (lv_at hl 0 rfl) ?_
      refine gf_X0_51 F G hS dX0_passCounting_13 ?_
      refine lv_icmp_gt (tgt := 34) F.1 F.2.1 dX0_passCounting_16 (by decide) (fun hc => ?_) (fun hc => ?_)
      · replace h := ifT h hc
        exact e_v F hS ⟨Option.some.inj h, rfl⟩ hr0 dX0_passCounting_34 hk0
      replace h := ifF h hc
      refine lv_aload_n F.1 F.2.1 dX0_passCounting_19 rfl (lv_at hl 0 rfl) ?_
      refine lv_aload_n F.1 F.2.1 dX0_passCounting_20 rfl (lv_at hl 0 rfl) ?_
      refine gf_X0_27 F G hS dX0_passCounting_21 ?_
      refine lv_iload_n F.1 F.2.1 dX0_passCounting_24 rfl (lv_at hl 2 rfl) ?_
      obtain ⟨q2, h_q2, h⟩ := bd h
      refine rVv F G hS hl.1 (c_X0_passJoint l g σ τ 47 v2 q2 h_q2) lk_X0_82 ⟨rfl, rfl, Nat.le_of_ble_eq_true rfl, Nat.le_of_ble_eq_true rfl⟩ (rc_X0 G hS) rfl rfl (Nat.le_of_ble_eq_true rfl) dX0_passCounting_25 (kJv (fun H locs hS => ?_))
      refine lv_iinc (v := (v2 + (1 : Int32))) (lv' := [(2, .int (v2 + (1 : Int32))), (0, .ref (gA g 41)), (1, .int a1)]) F.1 F.2.1 dX0_passCounting_28 hl (k := 2) rfl rfl (by decide) rfl (fun ls hl => ?_)
      refine lv_goto (tgt := 6) F.1 F.2.1 dX0_passCounting_31 (by decide) ?_
      exact ih q2 (v2 + (1 : Int32)) h H locs _ hS (lv_sub hl [1, 2, 0] rfl)
  obtain ⟨locs, hlo⟩ : ∃ z : List Loc, z = [] := ⟨_, rfl⟩
  rw [← hlo] at hS ⊢
  clear hlo
  refine lv_aload_n F.1 F.2.1 dX0_passCounting_0 rfl (lv_at hl 0 rfl) ?_
  obtain ⟨q1, h_q1, h⟩ := bd h
  refine rVv F G hS hl.1 (c_X0_start l g σ τ q1 h_q1) lk_X0_79 ⟨rfl, rfl, Nat.le_of_ble_eq_true rfl, Nat.le_of_ble_eq_true rfl⟩ (rc_X0 G hS) rfl rfl (Nat.le_of_ble_eq_true rfl) dX0_passCounting_1 (kJv (fun H locs hS => ?_))
  refine lv_iconst (v := (1 : Int32)) F.1 F.2.1 dX0_passCounting_4 (by decide) ?_
  refine lv_istore_n (lv' := [(2, .int (1 : Int32)), (0, .ref (gA g 41)), (1, .int a1)]) F.1 F.2.1 dX0_passCounting_5 rfl hl (by decide) rfl (fun ls hl => ?_)
  exact w_6 3000 q1 (1 : Int32) h H locs _ hS (lv_sub hl [1, 2, 0] rfl)
def f_X7_at_ (τ : ZL) (r1 : Nat) (a2 : Int32) : Option (Int64) := if (ar r1).1 = 2 then (if a2 < 0 then (some (0 : Int64)) else (if (nI (ar r1).2) ≤ a2 then (some (0 : Int64)) else (if inB a2 (ar r1).2 = true then (some (τ r1 a2.toNatClampNeg)) else none))) else none
abbrev rm_X7_at_ : Room := { frames := 0, cells := 0, slots := 0, locals := 0 }
set_option maxHeartbeats 4000000 in
set_option maxRecDepth 100000 in
theorem c_X7_at_ (l : Launch) (g : GG) (σ : ZI) (τ : ZL) (r1 : Nat) (a2 : Int32) (res : Int64) (h : f_X7_at_ τ r1 a2 = some res) : ML l yX7_at_ cX7_at_ 2 (some .long) rm_X7_at_ g [.ref (gA g r1), .int a2] σ τ (fun (r : Int64) (u : ZI × ZL) => r = res ∧ u.1 = σ ∧ u.2 = τ) := by
  refine Met_in (by decide) (Nat.le_of_ble_eq_true rfl) ?_
  intro p e s m args below meth c F G hP hr0 hk0 ls hl
  have hS := WS.start hP
  have hl : lv_has ls 2 [(0, .ref (gA g r1)), (1, .int a2)] := hl
  obtain ⟨H, hH⟩ : ∃ H, H = s.heap := ⟨_, rfl⟩
  rw [← hH] at hS ⊢
  clear hH hP
  rw [f_X7_at_] at h
  obtain ⟨hg_r1, h⟩ := gd h
  obtain ⟨locs, hlo⟩ : ∃ z : List Loc, z = [] := ⟨_, rfl⟩
  rw [← hlo] at hS ⊢
  clear hlo
  refine lv_iload_n F.1 F.2.1 dX7_at__0 rfl (lv_at hl 1 rfl) ?_
  refine lv_if_lt (tgt := 16) F.1 F.2.1 dX7_at__1 (by decide) (fun hc => ?_) (fun hc => ?_)
  · replace h := ifT h hc
    refine lv_lconst (v := (0 : Int64)) F.1 F.2.1 dX7_at__16 (by decide) ?_
    exact e_l F hS ⟨Option.some.inj h, rfl, rfl⟩ hr0 dX7_at__17 hk0
  replace h := ifF h hc
  refine lv_iload_n F.1 F.2.1 dX7_at__4 rfl (lv_at hl 1 rfl) ?_
  refine lv_aload_n F.1 F.2.1 dX7_at__5 rfl (lv_at hl 0 rfl) ?_
  refine x_alenJ F G hS r1 hg_r1 dX7_at__6 ?_
  refine lv_icmp_ge (tgt := 16) F.1 F.2.1 dX7_at__7 (by decide) (fun hc => ?_) (fun hc => ?_)
  · replace h := ifT h hc
    refine lv_lconst (v := (0 : Int64)) F.1 F.2.1 dX7_at__16 (by decide) ?_
    exact e_l F hS ⟨Option.some.inj h, rfl, rfl⟩ hr0 dX7_at__17 hk0
  replace h := ifF h hc
  refine lv_aload_n F.1 F.2.1 dX7_at__10 rfl (lv_at hl 0 rfl) ?_
  refine lv_iload_n F.1 F.2.1 dX7_at__11 rfl (lv_at hl 1 rfl) ?_
  obtain ⟨hin, h⟩ := gd h
  refine x_lald F G hS r1 hg_r1 hin dX7_at__12 ?_
  refine lv_goto (tgt := 17) F.1 F.2.1 dX7_at__13 (by decide) ?_
  exact e_l F hS ⟨Option.some.inj h, rfl, rfl⟩ hr0 dX7_at__17 hk0
def f_X0_ofCount (τ : ZL) (a1 : Int32) (a2 : Int32) : Option (Int64) := (f_X7_at_ τ 47 a2).bind (fun q1 => (f_X7_at_ τ 46 a1).bind (fun q2 => some (q1 * q2)))
abbrev rm_X0_ofCount : Room := { frames := 1, cells := 0, slots := 0, locals := 21 }
set_option maxHeartbeats 4000000 in
set_option maxRecDepth 100000 in
theorem c_X0_ofCount (l : Launch) (g : GG) (σ : ZI) (τ : ZL) (a1 : Int32) (a2 : Int32) (res : Int64) (h : f_X0_ofCount τ a1 a2 = some res) : ML l yX0_ofCount cX0_ofCount 3 (some .long) rm_X0_ofCount g [.ref (gA g 41), .int a1, .int a2] σ τ (fun (r : Int64) (u : ZI × ZL) => r = res ∧ u.1 = σ ∧ u.2 = τ) := by
  refine Met_in (by decide) (Nat.le_of_ble_eq_true rfl) ?_
  intro p e s m args below meth c F G hP hr0 hk0 ls hl
  have hS := WS.start hP
  have hl : lv_has ls 3 [(0, .ref (gA g 41)), (1, .int a1), (2, .int a2)] := hl
  obtain ⟨H, hH⟩ : ∃ H, H = s.heap := ⟨_, rfl⟩
  rw [← hH] at hS ⊢
  clear hH hP
  rw [f_X0_ofCount] at h
  obtain ⟨locs, hlo⟩ : ∃ z : List Loc, z = [] := ⟨_, rfl⟩
  rw [← hlo] at hS ⊢
  clear hlo
  refine lv_aload_n F.1 F.2.1 dX0_ofCount_0 rfl (lv_at hl 0 rfl) ?_
  refine gf_X0_27 F G hS dX0_ofCount_1 ?_
  refine lv_iload_n F.1 F.2.1 dX0_ofCount_4 rfl (lv_at hl 2 rfl) ?_
  obtain ⟨q1, h_q1, h⟩ := bd h
  refine rTl F G hS hl.1 (c_X7_at_ l g σ τ 47 a2 q1 h_q1) lk_X0_86 ⟨rfl, rfl, Nat.le_of_ble_eq_true rfl, Nat.le_of_ble_eq_true rfl⟩  rfl rfl (Nat.le_of_ble_eq_true rfl) dX0_ofCount_5 (kRl (fun H locs hS => ?_))
  refine lv_aload_n F.1 F.2.1 dX0_ofCount_8 rfl (lv_at hl 0 rfl) ?_
  refine gf_X0_24 F G hS dX0_ofCount_9 ?_
  refine lv_iload_n F.1 F.2.1 dX0_ofCount_12 rfl (lv_at hl 1 rfl) ?_
  obtain ⟨q2, h_q2, h⟩ := bd h
  refine rTl F G hS hl.1 (c_X7_at_ l g σ τ 46 a1 q2 h_q2) lk_X0_86 ⟨rfl, rfl, Nat.le_of_ble_eq_true rfl, Nat.le_of_ble_eq_true rfl⟩  rfl rfl (Nat.le_of_ble_eq_true rfl) dX0_ofCount_13 (kRl (fun H locs hS => ?_))
  refine lv_lmul F.1 F.2.1 dX0_ofCount_16 ?_
  exact e_l F hS ⟨Option.some.inj h, rfl, rfl⟩ hr0 dX0_ofCount_17 hk0
def f_X0_whole (τ : ZL) : Option (Int64) := some (τ 46 0)
abbrev rm_X0_whole : Room := { frames := 0, cells := 0, slots := 0, locals := 0 }
set_option maxHeartbeats 4000000 in
set_option maxRecDepth 100000 in
theorem c_X0_whole (l : Launch) (g : GG) (σ : ZI) (τ : ZL)  (res : Int64) (h : f_X0_whole τ = some res) : ML l yX0_whole cX0_whole 1 (some .long) rm_X0_whole g [.ref (gA g 41)] σ τ (fun (r : Int64) (u : ZI × ZL) => r = res ∧ u.1 = σ ∧ u.2 = τ) := by
  refine Met_in (by decide) (Nat.le_of_ble_eq_true rfl) ?_
  intro p e s m args below meth c F G hP hr0 hk0 ls hl
  have hS := WS.start hP
  have hl : lv_has ls 1 [(0, .ref (gA g 41))] := hl
  obtain ⟨H, hH⟩ : ∃ H, H = s.heap := ⟨_, rfl⟩
  rw [← hH] at hS ⊢
  clear hH hP
  rw [f_X0_whole] at h
  obtain ⟨locs, hlo⟩ : ∃ z : List Loc, z = [] := ⟨_, rfl⟩
  rw [← hlo] at hS ⊢
  clear hlo
  refine lv_aload_n F.1 F.2.1 dX0_whole_0 rfl (lv_at hl 0 rfl) ?_
  refine gf_X0_24 F G hS dX0_whole_1 ?_
  refine lv_iconst (v := (0 : Int32)) F.1 F.2.1 dX0_whole_4 (by decide) ?_
  refine x_laldL F G hS 46 rfl 0 rfl (by decide) dX0_whole_5 ?_
  exact e_l F hS ⟨Option.some.inj h, rfl, rfl⟩ hr0 dX0_whole_6 hk0
def f_X7_greatestShared_9 (a1 : Int64) (a2 : Int64)  : Nat → Int64 → Int64 → Int32 → Option (Int64)
  | 0, _, _, _ => none
  | n + 1, v4, v6, v8 => if (100 : Int32) ≤ v8 then (some v4) else (if (lg_cmp v6 (0 : Int64)) = 0 then (some v4) else (if v6 = 0 then none else (f_X7_greatestShared_9 a1 a2 n v6 (v4 - v4 / v6 * v6) (v8 + (1 : Int32)))))
def f_X7_greatestShared (a1 : Int64) (a2 : Int64) : Option (Int64) := f_X7_greatestShared_9 a1 a2 3000 a1 a2 (0 : Int32)
abbrev rm_X7_greatestShared : Room := { frames := 0, cells := 0, slots := 0, locals := 0 }
set_option maxHeartbeats 4000000 in
set_option maxRecDepth 100000 in
theorem c_X7_greatestShared (l : Launch) (g : GG) (σ : ZI) (τ : ZL) (a1 : Int64) (a2 : Int64) (res : Int64) (h : f_X7_greatestShared a1 a2 = some res) : ML l yX7_greatestShared cX7_greatestShared 11 (some .long) rm_X7_greatestShared g [.long a1, .long a2] σ τ (fun (r : Int64) (u : ZI × ZL) => r = res ∧ u.1 = σ ∧ u.2 = τ) := by
  refine Met_in (by decide) (Nat.le_of_ble_eq_true rfl) ?_
  intro p e s m args below meth c F G hP hr0 hk0 ls hl
  have hS := WS.start hP
  have hl : lv_has ls 11 [(0, .long a1), (2, .long a2)] := hl
  obtain ⟨H, hH⟩ : ∃ H, H = s.heap := ⟨_, rfl⟩
  rw [← hH] at hS ⊢
  clear hH hP
  rw [f_X7_greatestShared] at h
  have w_9 : ∀ (n : Nat) (v4 : Int64) (v6 : Int64) (v8 : Int32), f_X7_greatestShared_9 a1 a2 n v4 v6 v8 = some res → ∀ (H : Heap) (locs : List Loc) (ls : Array Slot), WS g σ τ s H locs → lv_has ls 11 [(4, .long v4), (6, .long v6), (8, .int v8)] → W p l e rm_X7_greatestShared s m args below meth c H locs 0 0 (MQ below (va_Ql (fun (r : Int64) (u : ZI × ZL) => r = res ∧ u.1 = σ ∧ u.2 = τ) (WQ g) (AA g)) args s 0 0 (AA g)) (F0 m 9 ls []) := by
    intro n
    induction n with
    | zero => intro v4 v6 v8 h; rw [f_X7_greatestShared_9] at h; cases h
    | succ n ih =>
      intro v4 v6 v8 h H locs ls hS hl
      rw [f_X7_greatestShared_9] at h
      refine lv_iload F.1 F.2.1 dX7_greatestShared_9 (lv_at hl 2 rfl) ?_
      refine lv_bipush (v := (100 : Int32)) F.1 F.2.1 dX7_greatestShared_11 (by decide) ?_
      refine lv_icmp_ge (tgt := 44) F.1 F.2.1 dX7_greatestShared_13 (by decide) (fun hc => ?_) (fun hc => ?_)
      · replace h := ifT h hc
        refine lv_lload F.1 F.2.1 dX7_greatestShared_44 (lv_at hl 0 rfl) ?_
        exact e_l F hS ⟨Option.some.inj h, rfl, rfl⟩ hr0 dX7_greatestShared_46 hk0
      replace h := ifF h hc
      refine lv_lload F.1 F.2.1 dX7_greatestShared_16 (lv_at hl 1 rfl) ?_
      refine lv_lconst (v := (0 : Int64)) F.1 F.2.1 dX7_greatestShared_18 (by decide) ?_
      refine W.lcmp F.1 F.2.1 dX7_greatestShared_19 ?_
      refine lv_if_eq (tgt := 44) F.1 F.2.1 dX7_greatestShared_20 (by decide) (fun hc => ?_) (fun hc => ?_)
      · replace h := ifT h hc
        refine lv_lload F.1 F.2.1 dX7_greatestShared_44 (lv_at hl 0 rfl) ?_
        exact e_l F hS ⟨Option.some.inj h, rfl, rfl⟩ hr0 dX7_greatestShared_46 hk0
      replace h := ifF h hc
      refine lv_lload F.1 F.2.1 dX7_greatestShared_23 (lv_at hl 0 rfl) ?_
      refine lv_lload F.1 F.2.1 dX7_greatestShared_25 (lv_at hl 1 rfl) ?_
      obtain ⟨hz, h⟩ := gn h
      refine lv_lrem F.1 F.2.1 dX7_greatestShared_27 hz ?_
      refine lv_lstore (lv' := [(9, .long (v4 - v4 / v6 * v6)), (4, .long v4), (6, .long v6), (8, .int v8)]) F.1 F.2.1 dX7_greatestShared_28 hl (by decide) rfl (fun ls hl => ?_)
      refine lv_lload F.1 F.2.1 dX7_greatestShared_30 (lv_at hl 2 rfl) ?_
      refine lv_lstore (lv' := [(4, .long v6), (9, .long (v4 - v4 / v6 * v6)), (6, .long v6), (8, .int v8)]) F.1 F.2.1 dX7_greatestShared_32 hl (by decide) rfl (fun ls hl => ?_)
      refine lv_lload F.1 F.2.1 dX7_greatestShared_34 (lv_at hl 1 rfl) ?_
      refine lv_lstore (lv' := [(6, .long (v4 - v4 / v6 * v6)), (4, .long v6), (9, .long (v4 - v4 / v6 * v6)), (8, .int v8)]) F.1 F.2.1 dX7_greatestShared_36 hl (by decide) rfl (fun ls hl => ?_)
      refine lv_iinc (v := (v8 + (1 : Int32))) (lv' := [(8, .int (v8 + (1 : Int32))), (6, .long (v4 - v4 / v6 * v6)), (4, .long v6), (9, .long (v4 - v4 / v6 * v6))]) F.1 F.2.1 dX7_greatestShared_38 hl (k := 3) rfl rfl (by decide) rfl (fun ls hl => ?_)
      refine lv_goto (tgt := 9) F.1 F.2.1 dX7_greatestShared_41 (by decide) ?_
      exact ih v6 (v4 - v4 / v6 * v6) (v8 + (1 : Int32)) h H locs _ hS (lv_sub hl [2, 1, 0] rfl)
  obtain ⟨locs, hlo⟩ : ∃ z : List Loc, z = [] := ⟨_, rfl⟩
  rw [← hlo] at hS ⊢
  clear hlo
  refine lv_lload_n F.1 F.2.1 dX7_greatestShared_0 rfl (lv_at hl 0 rfl) ?_
  refine lv_lstore (lv' := [(4, .long a1), (0, .long a1), (2, .long a2)]) F.1 F.2.1 dX7_greatestShared_1 hl (by decide) rfl (fun ls hl => ?_)
  refine lv_lload_n F.1 F.2.1 dX7_greatestShared_3 rfl (lv_at hl 2 rfl) ?_
  refine lv_lstore (lv' := [(6, .long a2), (4, .long a1), (0, .long a1), (2, .long a2)]) F.1 F.2.1 dX7_greatestShared_4 hl (by decide) rfl (fun ls hl => ?_)
  refine lv_iconst (v := (0 : Int32)) F.1 F.2.1 dX7_greatestShared_6 (by decide) ?_
  refine lv_istore (lv' := [(8, .int (0 : Int32)), (6, .long a2), (4, .long a1), (0, .long a1), (2, .long a2)]) F.1 F.2.1 dX7_greatestShared_7 hl (by decide) rfl (fun ls hl => ?_)
  exact w_9 3000 a1 a2 (0 : Int32) h H locs _ hS (lv_sub hl [2, 1, 0] rfl)
def f_X7_part (a1 : Int64) (a2 : Int64) (a3 : Int32) : Option (Int64) := (f_X7_greatestShared (if 0 < a1 then a1 else -a1) a2).bind (fun q1 => lt_ ((if q1 < (1 : Int64) then (1 : Int64) else q1)) (fun x2 => if a3 = 0 then (if x2 = 0 then none else (some (a1 / x2))) else (if x2 = 0 then none else (some (a2 / x2)))))
abbrev rm_X7_part : Room := { frames := 1, cells := 0, slots := 0, locals := 30 }
set_option maxHeartbeats 4000000 in
set_option maxRecDepth 100000 in
theorem c_X7_part (l : Launch) (g : GG) (σ : ZI) (τ : ZL) (a1 : Int64) (a2 : Int64) (a3 : Int32) (res : Int64) (h : f_X7_part a1 a2 a3 = some res) : ML l yX7_part cX7_part 7 (some .long) rm_X7_part g [.long a1, .long a2, .int a3] σ τ (fun (r : Int64) (u : ZI × ZL) => r = res ∧ u.1 = σ ∧ u.2 = τ) := by
  refine Met_in (by decide) (Nat.le_of_ble_eq_true rfl) ?_
  intro p e s m args below meth c F G hP hr0 hk0 ls hl
  have hS := WS.start hP
  have hl : lv_has ls 7 [(0, .long a1), (2, .long a2), (4, .int a3)] := hl
  obtain ⟨H, hH⟩ : ∃ H, H = s.heap := ⟨_, rfl⟩
  rw [← hH] at hS ⊢
  clear hH hP
  rw [f_X7_part] at h
  obtain ⟨locs, hlo⟩ : ∃ z : List Loc, z = [] := ⟨_, rfl⟩
  rw [← hlo] at hS ⊢
  clear hlo
  refine lv_lconst (v := (1 : Int64)) F.1 F.2.1 dX7_part_0 (by decide) ?_
  refine lv_lload_n F.1 F.2.1 dX7_part_1 rfl (lv_at hl 0 rfl) ?_
  refine va_mabs_long F.1 F.2.1 (F.2.2.1.trans hl.1.symm) F.2.2.2.1 (F.2.2.2.2 _ tb_765) (F.2.2.2.2 _ tb_766) (F.2.2.2.2 _ tb_123) (F.2.2.2.2 _ tb_767) (Nat.le_of_ble_eq_true rfl) (Nat.le_of_ble_eq_true rfl) (Nat.zero_le _) (Nat.zero_le _) dX7_part_2 ?_
  refine lv_lload_n F.1 F.2.1 dX7_part_5 rfl (lv_at hl 1 rfl) ?_
  obtain ⟨q1, h_q1, h⟩ := bd h
  refine rSl F G hS hl.1 (c_X7_greatestShared l g σ τ (if 0 < a1 then a1 else -a1) a2 q1 h_q1) lk_X7_357 ⟨rfl, rfl, Nat.le_of_ble_eq_true rfl, Nat.le_of_ble_eq_true rfl⟩  rfl rfl (Nat.le_of_ble_eq_true rfl) dX7_part_6 (kRl (fun H locs hS => ?_))
  refine va_mmax_long F.1 F.2.1 (F.2.2.1.trans hl.1.symm) F.2.2.2.1 (F.2.2.2.2 _ tb_771) (F.2.2.2.2 _ tb_772) (F.2.2.2.2 _ tb_123) (F.2.2.2.2 _ tb_773) (Nat.le_of_ble_eq_true rfl) (Nat.le_of_ble_eq_true rfl) (Nat.zero_le _) (Nat.zero_le _) dX7_part_9 ?_
  obtain ⟨x2, e_x2, h⟩ := ltE h
  refine x_topl e_x2 ?_
  clear e_x2
  refine lv_lstore (lv' := [(5, .long x2), (0, .long a1), (2, .long a2), (4, .int a3)]) F.1 F.2.1 dX7_part_12 hl (by decide) rfl (fun ls hl => ?_)
  refine lv_iload F.1 F.2.1 dX7_part_14 (lv_at hl 3 rfl) ?_
  refine lv_if_ne (tgt := 26) F.1 F.2.1 dX7_part_16 (by decide) (fun hc => ?_) (fun hc => ?_)
  · replace h := ifF h hc
    refine lv_lload_n F.1 F.2.1 dX7_part_26 rfl (lv_at hl 2 rfl) ?_
    refine lv_lload F.1 F.2.1 dX7_part_27 (lv_at hl 0 rfl) ?_
    obtain ⟨hz, h⟩ := gn h
    refine lv_ldiv F.1 F.2.1 dX7_part_29 hz ?_
    exact e_l F hS ⟨Option.some.inj h, rfl, rfl⟩ hr0 dX7_part_30 hk0
  replace h := ifT h hc
  refine lv_lload_n F.1 F.2.1 dX7_part_19 rfl (lv_at hl 1 rfl) ?_
  refine lv_lload F.1 F.2.1 dX7_part_20 (lv_at hl 0 rfl) ?_
  obtain ⟨hz, h⟩ := gn h
  refine lv_ldiv F.1 F.2.1 dX7_part_22 hz ?_
  refine lv_goto (tgt := 30) F.1 F.2.1 dX7_part_23 (by decide) ?_
  exact e_l F hS ⟨Option.some.inj h, rfl, rfl⟩ hr0 dX7_part_30 hk0
def f_X7_where_12 (a1 : Int32) (a2 : Int32) (a3 : Int32)  (σ : ZI) (τ : ZL) : Option (Int64 × ZI × ZL) := if a2 < 0 then (some ((-1 : Int64), σ, τ)) else (if (10 : Int32) < a2 then (some ((-1 : Int64), σ, τ)) else ((f_X7_isPart a3).bind (fun q1 => if q1 = 0 then (some ((-1 : Int64), σ, τ)) else ((f_X6_value σ 1 (6 : Int32)).bind (fun q2 => (f_X0_weighByOdds σ τ 1 q2 (-4 : Int32)).bind (fun q3 => (f_X0_passCounting q3.1 q3.2 a1).bind (fun q4 => (f_X0_ofCount q4 a1 a2).bind (fun q5 => (f_X0_whole q4).bind (fun q6 => (f_X7_part q5 q6 a3).bind (fun q7 => some (q7, q3.1, q4)))))))))))
def f_X7_where (σ : ZI) (τ : ZL) (a1 : Int32) (a2 : Int32) (a3 : Int32) : Option (Int64 × ZI × ZL) := if a1 = 0 then (f_X7_where_12 a1 a2 a3 σ τ) else ((f_X7_isJoint σ a1).bind (fun q8 => if q8 = 0 then (some ((-1 : Int64), σ, τ)) else (f_X7_where_12 a1 a2 a3 σ τ)))
abbrev rm_X7_where : Room := { frames := 4, cells := 0, slots := 0, locals := 90 }
set_option maxHeartbeats 4000000 in
set_option maxRecDepth 100000 in
theorem c_X7_where (l : Launch) (g : GG) (σ : ZI) (τ : ZL) (a1 : Int32) (a2 : Int32) (a3 : Int32) (res : Int64 × ZI × ZL) (h : f_X7_where σ τ a1 a2 a3 = some res) : ML l yX7_where cX7_where 4 (some .long) rm_X7_where g [.ref (gA g 0), .int a1, .int a2, .int a3] σ τ (fun (r : Int64) (u : ZI × ZL) => (r, u.1, u.2) = res) := by
  refine Met_in (by decide) (Nat.le_of_ble_eq_true rfl) ?_
  intro p e s m args below meth c F G hP hr0 hk0 ls hl
  have hS := WS.start hP
  have hl : lv_has ls 4 [(0, .ref (gA g 0)), (1, .int a1), (2, .int a2), (3, .int a3)] := hl
  obtain ⟨H, hH⟩ : ∃ H, H = s.heap := ⟨_, rfl⟩
  rw [← hH] at hS ⊢
  clear hH hP
  rw [f_X7_where] at h
  have w_12 : ∀ (σ : ZI) (τ : ZL), f_X7_where_12 a1 a2 a3 σ τ = some res → ∀ (H : Heap) (locs : List Loc) (ls : Array Slot), WS g σ τ s H locs → lv_has ls 4 [(0, .ref (gA g 0)), (1, .int a1), (2, .int a2), (3, .int a3)] → W p l e rm_X7_where s m args below meth c H locs 0 0 (MQ below (va_Ql (fun (r : Int64) (u : ZI × ZL) => (r, u.1, u.2) = res) (WQ g) (AA g)) args s 0 0 (AA g)) (F0 m 12 ls []) := by
    intro  σ τ h H locs ls hS hl
    rw [f_X7_where_12] at h
    refine lv_iload_n F.1 F.2.1 dX7_where_12 rfl (lv_at hl 2 rfl) ?_
    refine lv_if_lt (tgt := 29) F.1 F.2.1 dX7_where_13 (by decide) (fun hc => ?_) (fun hc => ?_)
    · replace h := ifT h hc
      refine lv_ldc2 (v := (-1 : Int64)) F.1 F.2.1 F.2.2.2.1 (F.2.2.2.2 _ tb_718) dX7_where_29 ?_
      exact e_l F hS (Option.some.inj h) hr0 dX7_where_32 hk0
    replace h := ifF h hc
    refine lv_iload_n F.1 F.2.1 dX7_where_16 rfl (lv_at hl 2 rfl) ?_
    refine lv_bipush (v := (10 : Int32)) F.1 F.2.1 dX7_where_17 (by decide) ?_
    refine lv_icmp_gt (tgt := 29) F.1 F.2.1 dX7_where_19 (by decide) (fun hc => ?_) (fun hc => ?_)
    · replace h := ifT h hc
      refine lv_ldc2 (v := (-1 : Int64)) F.1 F.2.1 F.2.2.2.1 (F.2.2.2.2 _ tb_718) dX7_where_29 ?_
      exact e_l F hS (Option.some.inj h) hr0 dX7_where_32 hk0
    replace h := ifF h hc
    refine lv_iload_n F.1 F.2.1 dX7_where_22 rfl (lv_at hl 3 rfl) ?_
    obtain ⟨q1, h_q1, h⟩ := bd h
    refine rSi F G hS hl.1 (c_X7_isPart l g σ τ a3 q1 h_q1) lk_X7_137 ⟨rfl, rfl, Nat.le_of_ble_eq_true rfl, Nat.le_of_ble_eq_true rfl⟩  rfl rfl (Nat.le_of_ble_eq_true rfl) dX7_where_23 (kRi (fun H locs hS => ?_))
    refine lv_if_ne (tgt := 33) F.1 F.2.1 dX7_where_26 (by decide) (fun hc => ?_) (fun hc => ?_)
    rotate_left
    · replace h := ifT h hc
      refine lv_ldc2 (v := (-1 : Int64)) F.1 F.2.1 F.2.2.2.1 (F.2.2.2.2 _ tb_718) dX7_where_29 ?_
      exact e_l F hS (Option.some.inj h) hr0 dX7_where_32 hk0
    replace h := ifF h hc
    refine lv_aload_n F.1 F.2.1 dX7_where_33 rfl (lv_at hl 0 rfl) ?_
    refine gf_X7_46 F G hS dX7_where_34 ?_
    refine lv_aload_n F.1 F.2.1 dX7_where_37 rfl (lv_at hl 0 rfl) ?_
    refine gf_X7_10 F G hS dX7_where_38 ?_
    refine lv_aload_n F.1 F.2.1 dX7_where_41 rfl (lv_at hl 0 rfl) ?_
    refine gf_X7_10 F G hS dX7_where_42 ?_
    refine lv_bipush (v := (6 : Int32)) F.1 F.2.1 dX7_where_45 (by decide) ?_
    obtain ⟨q2, h_q2, h⟩ := bd h
    refine rNi F G hS hl.1 (c_X6_value l g σ τ 1 (6 : Int32) q2 h_q2) lk_X7_110 ⟨rfl, rfl, Nat.le_of_ble_eq_true rfl, Nat.le_of_ble_eq_true rfl⟩ (rc_X6 G hS rfl) rfl rfl (Nat.le_of_ble_eq_true rfl) dX7_where_47 (kRi (fun H locs hS => ?_))
    refine lv_bipush (v := (-4 : Int32)) F.1 F.2.1 dX7_where_50 (by decide) ?_
    obtain ⟨q3, h_q3, h⟩ := bd h
    refine rNv F G hS hl.1 (c_X0_weighByOdds l g σ τ 1 q2 (-4 : Int32) q3 h_q3) lk_X7_196 ⟨rfl, rfl, Nat.le_of_ble_eq_true rfl, Nat.le_of_ble_eq_true rfl⟩ (rc_X0 G hS) rfl rfl (Nat.le_of_ble_eq_true rfl) dX7_where_52 (kBv (fun H locs hS => ?_))
    refine lv_aload_n F.1 F.2.1 dX7_where_55 rfl (lv_at hl 0 rfl) ?_
    refine gf_X7_46 F G hS dX7_where_56 ?_
    refine lv_iload_n F.1 F.2.1 dX7_where_59 rfl (lv_at hl 1 rfl) ?_
    obtain ⟨q4, h_q4, h⟩ := bd h
    refine rNv F G hS hl.1 (c_X0_passCounting l g q3.1 q3.2 a1 q4 h_q4) lk_X7_199 ⟨rfl, rfl, Nat.le_of_ble_eq_true rfl, Nat.le_of_ble_eq_true rfl⟩ (rc_X0 G hS) rfl rfl (Nat.le_of_ble_eq_true rfl) dX7_where_60 (kJv (fun H locs hS => ?_))
    refine lv_aload_n F.1 F.2.1 dX7_where_63 rfl (lv_at hl 0 rfl) ?_
    refine gf_X7_46 F G hS dX7_where_64 ?_
    refine lv_iload_n F.1 F.2.1 dX7_where_67 rfl (lv_at hl 1 rfl) ?_
    refine lv_iload_n F.1 F.2.1 dX7_where_68 rfl (lv_at hl 2 rfl) ?_
    obtain ⟨q5, h_q5, h⟩ := bd h
    refine rNl F G hS hl.1 (c_X0_ofCount l g q3.1 q4 a1 a2 q5 h_q5) lk_X7_203 ⟨rfl, rfl, Nat.le_of_ble_eq_true rfl, Nat.le_of_ble_eq_true rfl⟩ (rc_X0 G hS) rfl rfl (Nat.le_of_ble_eq_true rfl) dX7_where_69 (kRl (fun H locs hS => ?_))
    refine lv_aload_n F.1 F.2.1 dX7_where_72 rfl (lv_at hl 0 rfl) ?_
    refine gf_X7_46 F G hS dX7_where_73 ?_
    obtain ⟨q6, h_q6, h⟩ := bd h
    refine rNl F G hS hl.1 (c_X0_whole l g q3.1 q4 q6 h_q6) lk_X7_207 ⟨rfl, rfl, Nat.le_of_ble_eq_true rfl, Nat.le_of_ble_eq_true rfl⟩ (rc_X0 G hS) rfl rfl (Nat.le_of_ble_eq_true rfl) dX7_where_76 (kRl (fun H locs hS => ?_))
    refine lv_iload_n F.1 F.2.1 dX7_where_79 rfl (lv_at hl 3 rfl) ?_
    obtain ⟨q7, h_q7, h⟩ := bd h
    refine rSl F G hS hl.1 (c_X7_part l g q3.1 q4 q5 q6 a3 q7 h_q7) lk_X7_211 ⟨rfl, rfl, Nat.le_of_ble_eq_true rfl, Nat.le_of_ble_eq_true rfl⟩  rfl rfl (Nat.le_of_ble_eq_true rfl) dX7_where_80 (kRl (fun H locs hS => ?_))
    exact e_l F hS (Option.some.inj h) hr0 dX7_where_83 hk0
  obtain ⟨locs, hlo⟩ : ∃ z : List Loc, z = [] := ⟨_, rfl⟩
  rw [← hlo] at hS ⊢
  clear hlo
  refine lv_iload_n F.1 F.2.1 dX7_where_0 rfl (lv_at hl 1 rfl) ?_
  refine lv_if_eq (tgt := 12) F.1 F.2.1 dX7_where_1 (by decide) (fun hc => ?_) (fun hc => ?_)
  · replace h := ifT h hc
    exact w_12 σ τ h H locs _ hS (lv_sub hl [0, 1, 2, 3] rfl)
  replace h := ifF h hc
  refine lv_aload_n F.1 F.2.1 dX7_where_4 rfl (lv_at hl 0 rfl) ?_
  refine lv_iload_n F.1 F.2.1 dX7_where_5 rfl (lv_at hl 1 rfl) ?_
  obtain ⟨q8, h_q8, h⟩ := bd h
  refine rVi F G hS hl.1 (c_X7_isJoint l g σ τ a1 q8 h_q8) lk_X7_163 ⟨rfl, rfl, Nat.le_of_ble_eq_true rfl, Nat.le_of_ble_eq_true rfl⟩ (rc_X7 G hS) rfl rfl (Nat.le_of_ble_eq_true rfl) dX7_where_6 (kRi (fun H locs hS => ?_))
  refine lv_if_eq (tgt := 29) F.1 F.2.1 dX7_where_9 (by decide) (fun hc => ?_) (fun hc => ?_)
  rotate_left
  · replace h := ifF h hc
    exact w_12 σ τ h H locs _ hS (lv_sub hl [0, 1, 2, 3] rfl)
  replace h := ifT h hc
  refine lv_ldc2 (v := (-1 : Int64)) F.1 F.2.1 F.2.2.2.1 (F.2.2.2.2 _ tb_718) dX7_where_29 ?_
  exact e_l F hS (Option.some.inj h) hr0 dX7_where_32 hk0
def f_X0_takeIn_6 (a1 : Int32)  : Nat → ZL → Int32 → Option (ZL)
  | 0, _, _ => none
  | n + 1, τ, v2 => if (nI 11) ≤ v2 then (some τ) else (if inB v2 11 = true then (lt_ (va_up τ 48 (vp_updL (τ 48) v2.toNatClampNeg (0 : Int64))) (fun τ2 => f_X0_takeIn_6 a1 n τ2 (v2 + (1 : Int32)))) else none)
def f_X0_takeIn (τ : ZL) (a1 : Int32) : Option (ZL) := lt_ ((if a1 < (0 : Int32) then (0 : Int32) else a1)) (fun x1 => f_X0_takeIn_6 a1 3000 τ x1)
abbrev rm_X0_takeIn : Room := { frames := 1, cells := 0, slots := 0, locals := 30 }
set_option maxHeartbeats 4000000 in
set_option maxRecDepth 100000 in
theorem c_X0_takeIn (l : Launch) (g : GG) (σ : ZI) (τ : ZL) (a1 : Int32) (res : ZL) (h : f_X0_takeIn τ a1 = some res) : MV l yX0_takeIn cX0_takeIn 3 none rm_X0_takeIn g [.ref (gA g 41), .int a1] σ τ (fun (u : ZI × ZL) => u.2 = res ∧ u.1 = σ) := by
  refine Met_in (by decide) (Nat.le_of_ble_eq_true rfl) ?_
  intro p e s m args below meth c F G hP hr0 hk0 ls hl
  have hS := WS.start hP
  have hl : lv_has ls 3 [(0, .ref (gA g 41)), (1, .int a1)] := hl
  obtain ⟨H, hH⟩ : ∃ H, H = s.heap := ⟨_, rfl⟩
  rw [← hH] at hS ⊢
  clear hH hP
  rw [f_X0_takeIn] at h
  have w_6 : ∀ (n : Nat) (τ : ZL) (v2 : Int32), f_X0_takeIn_6 a1 n τ v2 = some res → ∀ (H : Heap) (locs : List Loc) (ls : Array Slot), WS g σ τ s H locs → lv_has ls 3 [(0, .ref (gA g 41)), (2, .int v2)] → W p l e rm_X0_takeIn s m args below meth c H locs 0 0 (MQ below (va_Qv (fun (u : ZI × ZL) => u.2 = res ∧ u.1 = σ) (WQ g) (AA g)) args s 0 0 (AA g)) (F0 m 6 ls []) := by
    intro n
    induction n with
    | zero => intro τ v2 h; rw [f_X0_takeIn_6] at h; cases h
    | succ n ih =>
      intro τ v2 h H locs ls hS hl
      rw [f_X0_takeIn_6] at h
      refine lv_iload_n F.1 F.2.1 dX0_takeIn_6 rfl (lv_at hl 1 rfl) ?_
      refine lv_aload_n F.1 F.2.1 dX0_takeIn_7 rfl (lv_at hl 0 rfl) ?_
      refine gf_X0_30 F G hS dX0_takeIn_8 ?_
      refine x_alenJ F G hS 48 rfl dX0_takeIn_11 ?_
      refine lv_icmp_ge (tgt := 28) F.1 F.2.1 dX0_takeIn_12 (by decide) (fun hc => ?_) (fun hc => ?_)
      · replace h := ifT h hc
        exact e_v F hS ⟨Option.some.inj h, rfl⟩ hr0 dX0_takeIn_28 hk0
      replace h := ifF h hc
      refine lv_aload_n F.1 F.2.1 dX0_takeIn_15 rfl (lv_at hl 0 rfl) ?_
      refine gf_X0_30 F G hS dX0_takeIn_16 ?_
      refine lv_iload_n F.1 F.2.1 dX0_takeIn_19 rfl (lv_at hl 1 rfl) ?_
      refine lv_lconst (v := (0 : Int64)) F.1 F.2.1 dX0_takeIn_20 (by decide) ?_
      obtain ⟨hin, h⟩ := gd h
      refine x_last F G hS 48 rfl hin dX0_takeIn_21 (fun H locs hS => ?_)
      obtain ⟨τ2, e_τ2, h⟩ := ltE h
      rw [← e_τ2] at hS
      clear e_τ2
      refine lv_iinc (v := (v2 + (1 : Int32))) (lv' := [(2, .int (v2 + (1 : Int32))), (0, .ref (gA g 41))]) F.1 F.2.1 dX0_takeIn_22 hl (k := 1) rfl rfl (by decide) rfl (fun ls hl => ?_)
      refine lv_goto (tgt := 6) F.1 F.2.1 dX0_takeIn_25 (by decide) ?_
      exact ih τ2 (v2 + (1 : Int32)) h H locs _ hS (lv_sub hl [1, 0] rfl)
  obtain ⟨locs, hlo⟩ : ∃ z : List Loc, z = [] := ⟨_, rfl⟩
  rw [← hlo] at hS ⊢
  clear hlo
  refine lv_iload_n F.1 F.2.1 dX0_takeIn_0 rfl (lv_at hl 1 rfl) ?_
  refine lv_iconst (v := (0 : Int32)) F.1 F.2.1 dX0_takeIn_1 (by decide) ?_
  refine va_mmax F.1 F.2.1 (F.2.2.1.trans hl.1.symm) F.2.2.2.1 (F.2.2.2.2 _ tb_790) (F.2.2.2.2 _ tb_610) (F.2.2.2.2 _ tb_123) (F.2.2.2.2 _ tb_611) (Nat.le_of_ble_eq_true rfl) (Nat.le_of_ble_eq_true rfl) (Nat.zero_le _) (Nat.zero_le _) dX0_takeIn_2 ?_
  obtain ⟨x1, e_x1, h⟩ := ltE h
  refine x_topi e_x1 ?_
  clear e_x1
  refine lv_istore_n (lv' := [(2, .int x1), (0, .ref (gA g 41)), (1, .int a1)]) F.1 F.2.1 dX0_takeIn_5 rfl hl (by decide) rfl (fun ls hl => ?_)
  exact w_6 3000 τ x1 h H locs _ hS (lv_sub hl [1, 0] rfl)
def f_X0_putOut_9 (a1 : Int32)  : Nat → ZL → Int64 → Int32 → Option (Int64 × ZL)
  | 0, _, _, _ => none
  | n + 1, τ, v2, v4 => if (nI 11) ≤ v4 then (some (v2, τ)) else (if (nI 11) ≤ v4 then (some (v2, τ)) else (if inB v4 11 = true then (lt_ ((v2 + (τ 47 v4.toNatClampNeg))) (fun x2 => if inB v4 11 = true then (if inB v4 11 = true then (if inB v4 11 = true then (lt_ (va_up τ 48 (vp_updL (τ 48) v4.toNatClampNeg ((τ 48 v4.toNatClampNeg) + (τ 47 v4.toNatClampNeg)))) (fun τ3 => if inB v4 11 = true then (lt_ (va_up τ3 47 (vp_updL (τ3 47) v4.toNatClampNeg (0 : Int64))) (fun τ4 => f_X0_putOut_9 a1 n τ4 x2 (v4 + (1 : Int32)))) else none)) else none) else none) else none)) else none))
def f_X0_putOut (τ : ZL) (a1 : Int32) : Option (Int64 × ZL) := lt_ ((if a1 < (0 : Int32) then (0 : Int32) else a1)) (fun x1 => f_X0_putOut_9 a1 3000 τ (0 : Int64) x1)
abbrev rm_X0_putOut : Room := { frames := 1, cells := 0, slots := 0, locals := 30 }
set_option maxHeartbeats 4000000 in
set_option maxRecDepth 100000 in
theorem c_X0_putOut (l : Launch) (g : GG) (σ : ZI) (τ : ZL) (a1 : Int32) (res : Int64 × ZL) (h : f_X0_putOut τ a1 = some res) : ML l yX0_putOut cX0_putOut 5 (some .long) rm_X0_putOut g [.ref (gA g 41), .int a1] σ τ (fun (r : Int64) (u : ZI × ZL) => (r, u.2) = res ∧ u.1 = σ) := by
  refine Met_in (by decide) (Nat.le_of_ble_eq_true rfl) ?_
  intro p e s m args below meth c F G hP hr0 hk0 ls hl
  have hS := WS.start hP
  have hl : lv_has ls 5 [(0, .ref (gA g 41)), (1, .int a1)] := hl
  obtain ⟨H, hH⟩ : ∃ H, H = s.heap := ⟨_, rfl⟩
  rw [← hH] at hS ⊢
  clear hH hP
  rw [f_X0_putOut] at h
  have w_9 : ∀ (n : Nat) (τ : ZL) (v2 : Int64) (v4 : Int32), f_X0_putOut_9 a1 n τ v2 v4 = some res → ∀ (H : Heap) (locs : List Loc) (ls : Array Slot), WS g σ τ s H locs → lv_has ls 5 [(0, .ref (gA g 41)), (2, .long v2), (4, .int v4)] → W p l e rm_X0_putOut s m args below meth c H locs 0 0 (MQ below (va_Ql (fun (r : Int64) (u : ZI × ZL) => (r, u.2) = res ∧ u.1 = σ) (WQ g) (AA g)) args s 0 0 (AA g)) (F0 m 9 ls []) := by
    intro n
    induction n with
    | zero => intro τ v2 v4 h; rw [f_X0_putOut_9] at h; cases h
    | succ n ih =>
      intro τ v2 v4 h H locs ls hS hl
      rw [f_X0_putOut_9] at h
      refine lv_iload F.1 F.2.1 dX0_putOut_9 (lv_at hl 2 rfl) ?_
      refine lv_aload_n F.1 F.2.1 dX0_putOut_11 rfl (lv_at hl 0 rfl) ?_
      refine gf_X0_27 F G hS dX0_putOut_12 ?_
      refine x_alenJ F G hS 47 rfl dX0_putOut_15 ?_
      refine lv_icmp_ge (tgt := 70) F.1 F.2.1 dX0_putOut_16 (by decide) (fun hc => ?_) (fun hc => ?_)
      · replace h := ifT h hc
        refine lv_lload_n F.1 F.2.1 dX0_putOut_70 rfl (lv_at hl 1 rfl) ?_
        exact e_l F hS ⟨Option.some.inj h, rfl⟩ hr0 dX0_putOut_71 hk0
      replace h := ifF h hc
      refine lv_iload F.1 F.2.1 dX0_putOut_19 (lv_at hl 2 rfl) ?_
      refine lv_aload_n F.1 F.2.1 dX0_putOut_21 rfl (lv_at hl 0 rfl) ?_
      refine gf_X0_30 F G hS dX0_putOut_22 ?_
      refine x_alenJ F G hS 48 rfl dX0_putOut_25 ?_
      refine lv_icmp_ge (tgt := 70) F.1 F.2.1 dX0_putOut_26 (by decide) (fun hc => ?_) (fun hc => ?_)
      · replace h := ifT h hc
        refine lv_lload_n F.1 F.2.1 dX0_putOut_70 rfl (lv_at hl 1 rfl) ?_
        exact e_l F hS ⟨Option.some.inj h, rfl⟩ hr0 dX0_putOut_71 hk0
      replace h := ifF h hc
      refine lv_lload_n F.1 F.2.1 dX0_putOut_29 rfl (lv_at hl 1 rfl) ?_
      refine lv_aload_n F.1 F.2.1 dX0_putOut_30 rfl (lv_at hl 0 rfl) ?_
      refine gf_X0_27 F G hS dX0_putOut_31 ?_
      refine lv_iload F.1 F.2.1 dX0_putOut_34 (lv_at hl 2 rfl) ?_
      obtain ⟨hin, h⟩ := gd h
      refine x_lald F G hS 47 rfl hin dX0_putOut_36 ?_
      refine lv_ladd F.1 F.2.1 dX0_putOut_37 ?_
      obtain ⟨x2, e_x2, h⟩ := ltE h
      refine x_topl e_x2 ?_
      clear e_x2
      refine lv_lstore_n (lv' := [(2, .long x2), (0, .ref (gA g 41)), (4, .int v4)]) F.1 F.2.1 dX0_putOut_38 rfl hl (by decide) rfl (fun ls hl => ?_)
      refine lv_aload_n F.1 F.2.1 dX0_putOut_39 rfl (lv_at hl 1 rfl) ?_
      refine gf_X0_30 F G hS dX0_putOut_40 ?_
      refine lv_iload F.1 F.2.1 dX0_putOut_43 (lv_at hl 2 rfl) ?_
      refine lv_dup2_11 F.1 F.2.1 dX0_putOut_45 rfl rfl ?_
      obtain ⟨hin, h⟩ := gd h
      refine x_lald F G hS 48 rfl hin dX0_putOut_46 ?_
      refine lv_aload_n F.1 F.2.1 dX0_putOut_47 rfl (lv_at hl 1 rfl) ?_
      refine gf_X0_27 F G hS dX0_putOut_48 ?_
      refine lv_iload F.1 F.2.1 dX0_putOut_51 (lv_at hl 2 rfl) ?_
      obtain ⟨hin, h⟩ := gd h
      refine x_lald F G hS 47 rfl hin dX0_putOut_53 ?_
      refine lv_ladd F.1 F.2.1 dX0_putOut_54 ?_
      obtain ⟨hin, h⟩ := gd h
      refine x_last F G hS 48 rfl hin dX0_putOut_55 (fun H locs hS => ?_)
      obtain ⟨τ3, e_τ3, h⟩ := ltE h
      rw [← e_τ3] at hS
      clear e_τ3
      refine lv_aload_n F.1 F.2.1 dX0_putOut_56 rfl (lv_at hl 1 rfl) ?_
      refine gf_X0_27 F G hS dX0_putOut_57 ?_
      refine lv_iload F.1 F.2.1 dX0_putOut_60 (lv_at hl 2 rfl) ?_
      refine lv_lconst (v := (0 : Int64)) F.1 F.2.1 dX0_putOut_62 (by decide) ?_
      obtain ⟨hin, h⟩ := gd h
      refine x_last F G hS 47 rfl hin dX0_putOut_63 (fun H locs hS => ?_)
      obtain ⟨τ4, e_τ4, h⟩ := ltE h
      rw [← e_τ4] at hS
      clear e_τ4
      refine lv_iinc (v := (v4 + (1 : Int32))) (lv' := [(4, .int (v4 + (1 : Int32))), (2, .long x2), (0, .ref (gA g 41))]) F.1 F.2.1 dX0_putOut_64 hl (k := 2) rfl rfl (by decide) rfl (fun ls hl => ?_)
      refine lv_goto (tgt := 9) F.1 F.2.1 dX0_putOut_67 (by decide) ?_
      exact ih τ4 x2 (v4 + (1 : Int32)) h H locs _ hS (lv_sub hl [2, 1, 0] rfl)
  obtain ⟨locs, hlo⟩ : ∃ z : List Loc, z = [] := ⟨_, rfl⟩
  rw [← hlo] at hS ⊢
  clear hlo
  refine lv_lconst (v := (0 : Int64)) F.1 F.2.1 dX0_putOut_0 (by decide) ?_
  refine lv_lstore_n (lv' := [(2, .long (0 : Int64)), (0, .ref (gA g 41)), (1, .int a1)]) F.1 F.2.1 dX0_putOut_1 rfl hl (by decide) rfl (fun ls hl => ?_)
  refine lv_iload_n F.1 F.2.1 dX0_putOut_2 rfl (lv_at hl 2 rfl) ?_
  refine lv_iconst (v := (0 : Int32)) F.1 F.2.1 dX0_putOut_3 (by decide) ?_
  refine va_mmax F.1 F.2.1 (F.2.2.1.trans hl.1.symm) F.2.2.2.1 (F.2.2.2.2 _ tb_790) (F.2.2.2.2 _ tb_610) (F.2.2.2.2 _ tb_123) (F.2.2.2.2 _ tb_611) (Nat.le_of_ble_eq_true rfl) (Nat.le_of_ble_eq_true rfl) (Nat.zero_le _) (Nat.zero_le _) dX0_putOut_4 ?_
  obtain ⟨x1, e_x1, h⟩ := ltE h
  refine x_topi e_x1 ?_
  clear e_x1
  refine lv_istore (lv' := [(4, .int x1), (2, .long (0 : Int64)), (0, .ref (gA g 41)), (1, .int a1)]) F.1 F.2.1 dX0_putOut_7 hl (by decide) rfl (fun ls hl => ?_)
  exact w_9 3000 τ (0 : Int64) x1 h H locs _ hS (lv_sub hl [2, 1, 0] rfl)
def f_X0_sumOf_4 (τ : ZL) (r1 : Nat)  : Nat → Int64 → Int32 → Option (Int64)
  | 0, _, _ => none
  | n + 1, v1, v3 => if (nI (ar r1).2) ≤ v3 then (some v1) else (if inB v3 (ar r1).2 = true then (lt_ ((v1 + (τ r1 v3.toNatClampNeg))) (fun x1 => f_X0_sumOf_4 τ r1 n x1 (v3 + (1 : Int32)))) else none)
def f_X0_sumOf (τ : ZL) (r1 : Nat) : Option (Int64) := if (ar r1).1 = 2 then (f_X0_sumOf_4 τ r1 3000 (0 : Int64) (0 : Int32)) else none
abbrev rm_X0_sumOf : Room := { frames := 0, cells := 0, slots := 0, locals := 0 }
set_option maxHeartbeats 4000000 in
set_option maxRecDepth 100000 in
theorem c_X0_sumOf (l : Launch) (g : GG) (σ : ZI) (τ : ZL) (r1 : Nat) (res : Int64) (h : f_X0_sumOf τ r1 = some res) : ML l yX0_sumOf cX0_sumOf 4 (some .long) rm_X0_sumOf g [.ref (gA g r1)] σ τ (fun (r : Int64) (u : ZI × ZL) => r = res ∧ u.1 = σ ∧ u.2 = τ) := by
  refine Met_in (by decide) (Nat.le_of_ble_eq_true rfl) ?_
  intro p e s m args below meth c F G hP hr0 hk0 ls hl
  have hS := WS.start hP
  have hl : lv_has ls 4 [(0, .ref (gA g r1))] := hl
  obtain ⟨H, hH⟩ : ∃ H, H = s.heap := ⟨_, rfl⟩
  rw [← hH] at hS ⊢
  clear hH hP
  rw [f_X0_sumOf] at h
  obtain ⟨hg_r1, h⟩ := gd h
  have w_4 : ∀ (n : Nat) (v1 : Int64) (v3 : Int32), f_X0_sumOf_4 τ r1 n v1 v3 = some res → ∀ (H : Heap) (locs : List Loc) (ls : Array Slot), WS g σ τ s H locs → lv_has ls 4 [(0, .ref (gA g r1)), (1, .long v1), (3, .int v3)] → W p l e rm_X0_sumOf s m args below meth c H locs 0 0 (MQ below (va_Ql (fun (r : Int64) (u : ZI × ZL) => r = res ∧ u.1 = σ ∧ u.2 = τ) (WQ g) (AA g)) args s 0 0 (AA g)) (F0 m 4 ls []) := by
    intro n
    induction n with
    | zero => intro v1 v3 h; rw [f_X0_sumOf_4] at h; cases h
    | succ n ih =>
      intro v1 v3 h H locs ls hS hl
      rw [f_X0_sumOf_4] at h
      refine lv_iload_n F.1 F.2.1 dX0_sumOf_4 rfl (lv_at hl 2 rfl) ?_
      refine lv_aload_n F.1 F.2.1 dX0_sumOf_5 rfl (lv_at hl 0 rfl) ?_
      refine x_alenJ F G hS r1 hg_r1 dX0_sumOf_6 ?_
      refine lv_icmp_ge (tgt := 22) F.1 F.2.1 dX0_sumOf_7 (by decide) (fun hc => ?_) (fun hc => ?_)
      · replace h := ifT h hc
        refine lv_lload_n F.1 F.2.1 dX0_sumOf_22 rfl (lv_at hl 1 rfl) ?_
        exact e_l F hS ⟨Option.some.inj h, rfl, rfl⟩ hr0 dX0_sumOf_23 hk0
      replace h := ifF h hc
      refine lv_lload_n F.1 F.2.1 dX0_sumOf_10 rfl (lv_at hl 1 rfl) ?_
      refine lv_aload_n F.1 F.2.1 dX0_sumOf_11 rfl (lv_at hl 0 rfl) ?_
      refine lv_iload_n F.1 F.2.1 dX0_sumOf_12 rfl (lv_at hl 2 rfl) ?_
      obtain ⟨hin, h⟩ := gd h
      refine x_lald F G hS r1 hg_r1 hin dX0_sumOf_13 ?_
      refine lv_ladd F.1 F.2.1 dX0_sumOf_14 ?_
      obtain ⟨x1, e_x1, h⟩ := ltE h
      refine x_topl e_x1 ?_
      clear e_x1
      refine lv_lstore_n (lv' := [(1, .long x1), (0, .ref (gA g r1)), (3, .int v3)]) F.1 F.2.1 dX0_sumOf_15 rfl hl (by decide) rfl (fun ls hl => ?_)
      refine lv_iinc (v := (v3 + (1 : Int32))) (lv' := [(3, .int (v3 + (1 : Int32))), (1, .long x1), (0, .ref (gA g r1))]) F.1 F.2.1 dX0_sumOf_16 hl (k := 2) rfl rfl (by decide) rfl (fun ls hl => ?_)
      refine lv_goto (tgt := 4) F.1 F.2.1 dX0_sumOf_19 (by decide) ?_
      exact ih x1 (v3 + (1 : Int32)) h H locs _ hS (lv_sub hl [2, 1, 0] rfl)
  obtain ⟨locs, hlo⟩ : ∃ z : List Loc, z = [] := ⟨_, rfl⟩
  rw [← hlo] at hS ⊢
  clear hlo
  refine lv_lconst (v := (0 : Int64)) F.1 F.2.1 dX0_sumOf_0 (by decide) ?_
  refine lv_lstore_n (lv' := [(1, .long (0 : Int64)), (0, .ref (gA g r1))]) F.1 F.2.1 dX0_sumOf_1 rfl hl (by decide) rfl (fun ls hl => ?_)
  refine lv_iconst (v := (0 : Int32)) F.1 F.2.1 dX0_sumOf_2 (by decide) ?_
  refine lv_istore_n (lv' := [(3, .int (0 : Int32)), (1, .long (0 : Int64)), (0, .ref (gA g r1))]) F.1 F.2.1 dX0_sumOf_3 rfl hl (by decide) rfl (fun ls hl => ?_)
  exact w_4 3000 (0 : Int64) (0 : Int32) h H locs _ hS (lv_sub hl [2, 1, 0] rfl)
def f_X0_passWithNet_105 (σ : ZI) (a1 : Int32) (a2 : Int32) (a3 : Int32) (k_7 : ZL → Int32 → Option (ZL)) (τ : ZL) (v4 : Int32) : Option (ZL) := k_7 τ (v4 + (1 : Int32))
def f_X0_passWithNet_7 (σ : ZI) (a1 : Int32) (a2 : Int32) (a3 : Int32)  : Nat → ZL → Int32 → Option (ZL)
  | 0, _, _ => none
  | n + 1, τ, v4 => if (σ 41 0) < v4 then (some τ) else ((f_X0_passJoint τ 47 v4).bind (fun q2 => (f_X0_passJoint q2 48 v4).bind (fun q3 => (f_X0_takeIn q3 a2).bind (fun q4 => (f_X0_putOut q4 a1).bind (fun q5 => (f_X7_at_ q5.2 46 v4).bind (fun q6 => (f_X7_put_ q5.2 49 v4 (q5.1 * q6)).bind (fun q7 => (f_X0_sumOf q7 48).bind (fun q8 => (f_X7_at_ q7 46 v4).bind (fun q9 => (f_X7_put_ q7 50 v4 (q8 * q9)).bind (fun q10 => if v4 = a3 then ((f_J7_fill_d0a16 q10 48 (0 : Int64)).bind (fun q11 => f_X0_passWithNet_105 σ a1 a2 a3 (fun τ v4 => f_X0_passWithNet_7 σ a1 a2 a3 n τ v4) q11 v4)) else (f_X0_passWithNet_105 σ a1 a2 a3 (fun τ v4 => f_X0_passWithNet_7 σ a1 a2 a3 n τ v4) q10 v4)))))))))))
def f_X0_passWithNet (σ : ZI) (τ : ZL) (a1 : Int32) (a2 : Int32) (a3 : Int32) : Option (ZL) := (f_X0_start τ).bind (fun q1 => f_X0_passWithNet_7 σ a1 a2 a3 3000 q1 (1 : Int32))
abbrev rm_X0_passWithNet : Room := { frames := 2, cells := 0, slots := 0, locals := 54 }
set_option maxHeartbeats 4000000 in
set_option maxRecDepth 100000 in
theorem c_X0_passWithNet (l : Launch) (g : GG) (σ : ZI) (τ : ZL) (a1 : Int32) (a2 : Int32) (a3 : Int32) (res : ZL) (h : f_X0_passWithNet σ τ a1 a2 a3 = some res) : MV l yX0_passWithNet cX0_passWithNet 5 none rm_X0_passWithNet g [.ref (gA g 41), .int a1, .int a2, .int a3] σ τ (fun (u : ZI × ZL) => u.2 = res ∧ u.1 = σ) := by
  refine Met_in (by decide) (Nat.le_of_ble_eq_true rfl) ?_
  intro p e s m args below meth c F G hP hr0 hk0 ls hl
  have hS := WS.start hP
  have hl : lv_has ls 5 [(0, .ref (gA g 41)), (1, .int a1), (2, .int a2), (3, .int a3)] := hl
  obtain ⟨H, hH⟩ : ∃ H, H = s.heap := ⟨_, rfl⟩
  rw [← hH] at hS ⊢
  clear hH hP
  rw [f_X0_passWithNet] at h
  have w_105 : ∀ (k_7 : ZL → Int32 → Option (ZL)) (hk_7 : ∀ (τ : ZL) (v4 : Int32), k_7 τ v4 = some res → ∀ (H : Heap) (locs : List Loc) (ls : Array Slot), WS g σ τ s H locs → lv_has ls 5 [(0, .ref (gA g 41)), (1, .int a1), (2, .int a2), (3, .int a3), (4, .int v4)] → W p l e rm_X0_passWithNet s m args below meth c H locs 0 0 (MQ below (va_Qv (fun (u : ZI × ZL) => u.2 = res ∧ u.1 = σ) (WQ g) (AA g)) args s 0 0 (AA g)) (F0 m 7 ls [])) (τ : ZL) (v4 : Int32), f_X0_passWithNet_105 σ a1 a2 a3 k_7 τ v4 = some res → ∀ (H : Heap) (locs : List Loc) (ls : Array Slot), WS g σ τ s H locs → lv_has ls 5 [(0, .ref (gA g 41)), (1, .int a1), (2, .int a2), (3, .int a3), (4, .int v4)] → W p l e rm_X0_passWithNet s m args below meth c H locs 0 0 (MQ below (va_Qv (fun (u : ZI × ZL) => u.2 = res ∧ u.1 = σ) (WQ g) (AA g)) args s 0 0 (AA g)) (F0 m 105 ls []) := by
    intro k_7 hk_7 τ v4 h H locs ls hS hl
    rw [f_X0_passWithNet_105] at h
    refine lv_iinc (v := (v4 + (1 : Int32))) (lv' := [(4, .int (v4 + (1 : Int32))), (0, .ref (gA g 41)), (1, .int a1), (2, .int a2), (3, .int a3)]) F.1 F.2.1 dX0_passWithNet_105 hl (k := 4) rfl rfl (by decide) rfl (fun ls hl => ?_)
    refine lv_goto (tgt := 7) F.1 F.2.1 dX0_passWithNet_108 (by decide) ?_
    exact hk_7 τ (v4 + (1 : Int32)) h H locs _ hS (lv_sub hl [1, 2, 3, 4, 0] rfl)
  have w_7 : ∀ (n : Nat) (τ : ZL) (v4 : Int32), f_X0_passWithNet_7 σ a1 a2 a3 n τ v4 = some res → ∀ (H : Heap) (locs : List Loc) (ls : Array Slot), WS g σ τ s H locs → lv_has ls 5 [(0, .ref (gA g 41)), (1, .int a1), (2, .int a2), (3, .int a3), (4, .int v4)] → W p l e rm_X0_passWithNet s m args below meth c H locs 0 0 (MQ below (va_Qv (fun (u : ZI × ZL) => u.2 = res ∧ u.1 = σ) (WQ g) (AA g)) args s 0 0 (AA g)) (F0 m 7 ls []) := by
    intro n
    induction n with
    | zero => intro τ v4 h; rw [f_X0_passWithNet_7] at h; cases h
    | succ n ih =>
      intro τ v4 h H locs ls hS hl
      rw [f_X0_passWithNet_7] at h
      refine lv_iload F.1 F.2.1 dX0_passWithNet_7 (lv_at hl 4 rfl) ?_
      refine lv_aload_n F.1 F.2.1 dX0_passWithNet_9 rfl (lv_at hl 0 rfl) ?_
      refine gf_X0_51 F G hS dX0_passWithNet_10 ?_
      refine lv_icmp_gt (tgt := 111) F.1 F.2.1 dX0_passWithNet_13 (by decide) (fun hc => ?_) (fun hc => ?_)
      · replace h := ifT h hc
        exact e_v F hS ⟨Option.some.inj h, rfl⟩ hr0 dX0_passWithNet_111 hk0
      replace h := ifF h hc
      refine lv_aload_n F.1 F.2.1 dX0_passWithNet_16 rfl (lv_at hl 0 rfl) ?_
      refine lv_aload_n F.1 F.2.1 dX0_passWithNet_17 rfl (lv_at hl 0 rfl) ?_
      refine gf_X0_27 F G hS dX0_passWithNet_18 ?_
      refine lv_iload F.1 F.2.1 dX0_passWithNet_21 (lv_at hl 4 rfl) ?_
      obtain ⟨q2, h_q2, h⟩ := bd h
      refine rVv F G hS hl.1 (c_X0_passJoint l g σ τ 47 v4 q2 h_q2) lk_X0_82 ⟨rfl, rfl, Nat.le_of_ble_eq_true rfl, Nat.le_of_ble_eq_true rfl⟩ (rc_X0 G hS) rfl rfl (Nat.le_of_ble_eq_true rfl) dX0_passWithNet_23 (kJv (fun H locs hS => ?_))
      refine lv_aload_n F.1 F.2.1 dX0_passWithNet_26 rfl (lv_at hl 0 rfl) ?_
      refine lv_aload_n F.1 F.2.1 dX0_passWithNet_27 rfl (lv_at hl 0 rfl) ?_
      refine gf_X0_30 F G hS dX0_passWithNet_28 ?_
      refine lv_iload F.1 F.2.1 dX0_passWithNet_31 (lv_at hl 4 rfl) ?_
      obtain ⟨q3, h_q3, h⟩ := bd h
      refine rVv F G hS hl.1 (c_X0_passJoint l g σ q2 48 v4 q3 h_q3) lk_X0_82 ⟨rfl, rfl, Nat.le_of_ble_eq_true rfl, Nat.le_of_ble_eq_true rfl⟩ (rc_X0 G hS) rfl rfl (Nat.le_of_ble_eq_true rfl) dX0_passWithNet_33 (kJv (fun H locs hS => ?_))
      refine lv_aload_n F.1 F.2.1 dX0_passWithNet_36 rfl (lv_at hl 0 rfl) ?_
      refine lv_iload_n F.1 F.2.1 dX0_passWithNet_37 rfl (lv_at hl 2 rfl) ?_
      obtain ⟨q4, h_q4, h⟩ := bd h
      refine rVv F G hS hl.1 (c_X0_takeIn l g σ q3 a2 q4 h_q4) lk_X0_98 ⟨rfl, rfl, Nat.le_of_ble_eq_true rfl, Nat.le_of_ble_eq_true rfl⟩ (rc_X0 G hS) rfl rfl (Nat.le_of_ble_eq_true rfl) dX0_passWithNet_38 (kJv (fun H locs hS => ?_))
      refine lv_aload_n F.1 F.2.1 dX0_passWithNet_41 rfl (lv_at hl 0 rfl) ?_
      refine gf_X0_33 F G hS dX0_passWithNet_42 ?_
      refine lv_iload F.1 F.2.1 dX0_passWithNet_45 (lv_at hl 4 rfl) ?_
      refine lv_aload_n F.1 F.2.1 dX0_passWithNet_47 rfl (lv_at hl 0 rfl) ?_
      refine lv_iload_n F.1 F.2.1 dX0_passWithNet_48 rfl (lv_at hl 1 rfl) ?_
      obtain ⟨q5, h_q5, h⟩ := bd h
      refine rVl F G hS hl.1 (c_X0_putOut l g σ q4 a1 q5 h_q5) lk_X0_102 ⟨rfl, rfl, Nat.le_of_ble_eq_true rfl, Nat.le_of_ble_eq_true rfl⟩ (rc_X0 G hS) rfl rfl (Nat.le_of_ble_eq_true rfl) dX0_passWithNet_49 (kJl (fun H locs hS => ?_))
      refine lv_aload_n F.1 F.2.1 dX0_passWithNet_52 rfl (lv_at hl 0 rfl) ?_
      refine gf_X0_24 F G hS dX0_passWithNet_53 ?_
      refine lv_iload F.1 F.2.1 dX0_passWithNet_56 (lv_at hl 4 rfl) ?_
      obtain ⟨q6, h_q6, h⟩ := bd h
      refine rTl F G hS hl.1 (c_X7_at_ l g σ q5.2 46 v4 q6 h_q6) lk_X0_86 ⟨rfl, rfl, Nat.le_of_ble_eq_true rfl, Nat.le_of_ble_eq_true rfl⟩  rfl rfl (Nat.le_of_ble_eq_true rfl) dX0_passWithNet_58 (kRl (fun H locs hS => ?_))
      refine lv_lmul F.1 F.2.1 dX0_passWithNet_61 ?_
      obtain ⟨q7, h_q7, h⟩ := bd h
      refine rTv F G hS hl.1 (c_X7_put_ l g σ q5.2 49 v4 (q5.1 * q6) q7 h_q7) lk_X0_69 ⟨rfl, rfl, Nat.le_of_ble_eq_true rfl, Nat.le_of_ble_eq_true rfl⟩  rfl rfl (Nat.le_of_ble_eq_true rfl) dX0_passWithNet_62 (kJv (fun H locs hS => ?_))
      refine lv_aload_n F.1 F.2.1 dX0_passWithNet_65 rfl (lv_at hl 0 rfl) ?_
      refine gf_X0_36 F G hS dX0_passWithNet_66 ?_
      refine lv_iload F.1 F.2.1 dX0_passWithNet_69 (lv_at hl 4 rfl) ?_
      refine lv_aload_n F.1 F.2.1 dX0_passWithNet_71 rfl (lv_at hl 0 rfl) ?_
      refine gf_X0_30 F G hS dX0_passWithNet_72 ?_
      obtain ⟨q8, h_q8, h⟩ := bd h
      refine rSl F G hS hl.1 (c_X0_sumOf l g σ q7 48 q8 h_q8) lk_X0_94 ⟨rfl, rfl, Nat.le_of_ble_eq_true rfl, Nat.le_of_ble_eq_true rfl⟩  rfl rfl (Nat.le_of_ble_eq_true rfl) dX0_passWithNet_75 (kRl (fun H locs hS => ?_))
      refine lv_aload_n F.1 F.2.1 dX0_passWithNet_78 rfl (lv_at hl 0 rfl) ?_
      refine gf_X0_24 F G hS dX0_passWithNet_79 ?_
      refine lv_iload F.1 F.2.1 dX0_passWithNet_82 (lv_at hl 4 rfl) ?_
      obtain ⟨q9, h_q9, h⟩ := bd h
      refine rTl F G hS hl.1 (c_X7_at_ l g σ q7 46 v4 q9 h_q9) lk_X0_86 ⟨rfl, rfl, Nat.le_of_ble_eq_true rfl, Nat.le_of_ble_eq_true rfl⟩  rfl rfl (Nat.le_of_ble_eq_true rfl) dX0_passWithNet_84 (kRl (fun H locs hS => ?_))
      refine lv_lmul F.1 F.2.1 dX0_passWithNet_87 ?_
      obtain ⟨q10, h_q10, h⟩ := bd h
      refine rTv F G hS hl.1 (c_X7_put_ l g σ q7 50 v4 (q8 * q9) q10 h_q10) lk_X0_69 ⟨rfl, rfl, Nat.le_of_ble_eq_true rfl, Nat.le_of_ble_eq_true rfl⟩  rfl rfl (Nat.le_of_ble_eq_true rfl) dX0_passWithNet_88 (kJv (fun H locs hS => ?_))
      refine lv_iload F.1 F.2.1 dX0_passWithNet_91 (lv_at hl 4 rfl) ?_
      refine lv_iload_n F.1 F.2.1 dX0_passWithNet_93 rfl (lv_at hl 3 rfl) ?_
      refine lv_icmp_ne (tgt := 105) F.1 F.2.1 dX0_passWithNet_94 (by decide) (fun hc => ?_) (fun hc => ?_)
      · replace h := ifF h hc
        exact w_105 _ (fun τ v4 => ih τ v4) q10 v4 h H locs _ hS (lv_sub hl [0, 1, 2, 3, 4] rfl)
      replace h := ifT h hc
      refine lv_aload_n F.1 F.2.1 dX0_passWithNet_97 rfl (lv_at hl 0 rfl) ?_
      refine gf_X0_30 F G hS dX0_passWithNet_98 ?_
      refine lv_lconst (v := (0 : Int64)) F.1 F.2.1 dX0_passWithNet_101 (by decide) ?_
      obtain ⟨q11, h_q11, h⟩ := bd h
      refine rSv F G hS hl.1 (c_J7_fill_d0a16 l g σ q10 48 (0 : Int64) q11 h_q11) lk_X0_73 ⟨rfl, rfl, Nat.le_of_ble_eq_true rfl, Nat.le_of_ble_eq_true rfl⟩  rfl rfl (Nat.le_of_ble_eq_true rfl) dX0_passWithNet_102 (kJv (fun H locs hS => ?_))
      exact w_105 _ (fun τ v4 => ih τ v4) q11 v4 h H locs _ hS (lv_sub hl [0, 1, 2, 3, 4] rfl)
  obtain ⟨locs, hlo⟩ : ∃ z : List Loc, z = [] := ⟨_, rfl⟩
  rw [← hlo] at hS ⊢
  clear hlo
  refine lv_aload_n F.1 F.2.1 dX0_passWithNet_0 rfl (lv_at hl 0 rfl) ?_
  obtain ⟨q1, h_q1, h⟩ := bd h
  refine rVv F G hS hl.1 (c_X0_start l g σ τ q1 h_q1) lk_X0_79 ⟨rfl, rfl, Nat.le_of_ble_eq_true rfl, Nat.le_of_ble_eq_true rfl⟩ (rc_X0 G hS) rfl rfl (Nat.le_of_ble_eq_true rfl) dX0_passWithNet_1 (kJv (fun H locs hS => ?_))
  refine lv_iconst (v := (1 : Int32)) F.1 F.2.1 dX0_passWithNet_4 (by decide) ?_
  refine lv_istore (lv' := [(4, .int (1 : Int32)), (0, .ref (gA g 41)), (1, .int a1), (2, .int a2), (3, .int a3)]) F.1 F.2.1 dX0_passWithNet_5 hl (by decide) rfl (fun ls hl => ?_)
  exact w_7 3000 q1 (1 : Int32) h H locs _ hS (lv_sub hl [1, 2, 3, 4, 0] rfl)
def f_X7_passByOdds (σ : ZI) (τ : ZL) : Option (ZI × ZL) := (f_X6_value σ 1 (6 : Int32)).bind (fun q1 => (f_X0_weighByOdds σ τ 1 q1 (-4 : Int32)).bind (fun q2 => (f_X6_value q2.1 1 (8 : Int32)).bind (fun q3 => (f_X6_value q2.1 1 (9 : Int32)).bind (fun q4 => (f_X6_value q2.1 1 (5 : Int32)).bind (fun q5 => (f_X0_passWithNet q2.1 q2.2 q3 q4 q5).bind (fun q6 => some (q2.1, q6)))))))
abbrev rm_X7_passByOdds : Room := { frames := 4, cells := 0, slots := 0, locals := 90 }
set_option maxHeartbeats 4000000 in
set_option maxRecDepth 100000 in
theorem c_X7_passByOdds (l : Launch) (g : GG) (σ : ZI) (τ : ZL)  (res : ZI × ZL) (h : f_X7_passByOdds σ τ = some res) : MV l yX7_passByOdds cX7_passByOdds 1 none rm_X7_passByOdds g [.ref (gA g 0)] σ τ (fun (u : ZI × ZL) => (u.1, u.2) = res) := by
  refine Met_in (by decide) (Nat.le_of_ble_eq_true rfl) ?_
  intro p e s m args below meth c F G hP hr0 hk0 ls hl
  have hS := WS.start hP
  have hl : lv_has ls 1 [(0, .ref (gA g 0))] := hl
  obtain ⟨H, hH⟩ : ∃ H, H = s.heap := ⟨_, rfl⟩
  rw [← hH] at hS ⊢
  clear hH hP
  rw [f_X7_passByOdds] at h
  obtain ⟨locs, hlo⟩ : ∃ z : List Loc, z = [] := ⟨_, rfl⟩
  rw [← hlo] at hS ⊢
  clear hlo
  refine lv_aload_n F.1 F.2.1 dX7_passByOdds_0 rfl (lv_at hl 0 rfl) ?_
  refine gf_X7_46 F G hS dX7_passByOdds_1 ?_
  refine lv_aload_n F.1 F.2.1 dX7_passByOdds_4 rfl (lv_at hl 0 rfl) ?_
  refine gf_X7_10 F G hS dX7_passByOdds_5 ?_
  refine lv_aload_n F.1 F.2.1 dX7_passByOdds_8 rfl (lv_at hl 0 rfl) ?_
  refine gf_X7_10 F G hS dX7_passByOdds_9 ?_
  refine lv_bipush (v := (6 : Int32)) F.1 F.2.1 dX7_passByOdds_12 (by decide) ?_
  obtain ⟨q1, h_q1, h⟩ := bd h
  refine rNi F G hS hl.1 (c_X6_value l g σ τ 1 (6 : Int32) q1 h_q1) lk_X7_110 ⟨rfl, rfl, Nat.le_of_ble_eq_true rfl, Nat.le_of_ble_eq_true rfl⟩ (rc_X6 G hS rfl) rfl rfl (Nat.le_of_ble_eq_true rfl) dX7_passByOdds_14 (kRi (fun H locs hS => ?_))
  refine lv_bipush (v := (-4 : Int32)) F.1 F.2.1 dX7_passByOdds_17 (by decide) ?_
  obtain ⟨q2, h_q2, h⟩ := bd h
  refine rNv F G hS hl.1 (c_X0_weighByOdds l g σ τ 1 q1 (-4 : Int32) q2 h_q2) lk_X7_196 ⟨rfl, rfl, Nat.le_of_ble_eq_true rfl, Nat.le_of_ble_eq_true rfl⟩ (rc_X0 G hS) rfl rfl (Nat.le_of_ble_eq_true rfl) dX7_passByOdds_19 (kBv (fun H locs hS => ?_))
  refine lv_aload_n F.1 F.2.1 dX7_passByOdds_22 rfl (lv_at hl 0 rfl) ?_
  refine gf_X7_46 F G hS dX7_passByOdds_23 ?_
  refine lv_aload_n F.1 F.2.1 dX7_passByOdds_26 rfl (lv_at hl 0 rfl) ?_
  refine gf_X7_10 F G hS dX7_passByOdds_27 ?_
  refine lv_bipush (v := (8 : Int32)) F.1 F.2.1 dX7_passByOdds_30 (by decide) ?_
  obtain ⟨q3, h_q3, h⟩ := bd h
  refine rNi F G hS hl.1 (c_X6_value l g q2.1 q2.2 1 (8 : Int32) q3 h_q3) lk_X7_110 ⟨rfl, rfl, Nat.le_of_ble_eq_true rfl, Nat.le_of_ble_eq_true rfl⟩ (rc_X6 G hS rfl) rfl rfl (Nat.le_of_ble_eq_true rfl) dX7_passByOdds_32 (kRi (fun H locs hS => ?_))
  refine lv_aload_n F.1 F.2.1 dX7_passByOdds_35 rfl (lv_at hl 0 rfl) ?_
  refine gf_X7_10 F G hS dX7_passByOdds_36 ?_
  refine lv_bipush (v := (9 : Int32)) F.1 F.2.1 dX7_passByOdds_39 (by decide) ?_
  obtain ⟨q4, h_q4, h⟩ := bd h
  refine rNi F G hS hl.1 (c_X6_value l g q2.1 q2.2 1 (9 : Int32) q4 h_q4) lk_X7_110 ⟨rfl, rfl, Nat.le_of_ble_eq_true rfl, Nat.le_of_ble_eq_true rfl⟩ (rc_X6 G hS rfl) rfl rfl (Nat.le_of_ble_eq_true rfl) dX7_passByOdds_41 (kRi (fun H locs hS => ?_))
  refine lv_aload_n F.1 F.2.1 dX7_passByOdds_44 rfl (lv_at hl 0 rfl) ?_
  refine gf_X7_10 F G hS dX7_passByOdds_45 ?_
  refine lv_iconst (v := (5 : Int32)) F.1 F.2.1 dX7_passByOdds_48 (by decide) ?_
  obtain ⟨q5, h_q5, h⟩ := bd h
  refine rNi F G hS hl.1 (c_X6_value l g q2.1 q2.2 1 (5 : Int32) q5 h_q5) lk_X7_110 ⟨rfl, rfl, Nat.le_of_ble_eq_true rfl, Nat.le_of_ble_eq_true rfl⟩ (rc_X6 G hS rfl) rfl rfl (Nat.le_of_ble_eq_true rfl) dX7_passByOdds_49 (kRi (fun H locs hS => ?_))
  obtain ⟨q6, h_q6, h⟩ := bd h
  refine rNv F G hS hl.1 (c_X0_passWithNet l g q2.1 q2.2 q3 q4 q5 q6 h_q6) lk_X7_249 ⟨rfl, rfl, Nat.le_of_ble_eq_true rfl, Nat.le_of_ble_eq_true rfl⟩ (rc_X0 G hS) rfl rfl (Nat.le_of_ble_eq_true rfl) dX7_passByOdds_52 (kJv (fun H locs hS => ?_))
  exact e_v F hS (Option.some.inj h) hr0 dX7_passByOdds_55 hk0
def f_X7_goes (σ : ZI) (τ : ZL) (a1 : Int32) (a2 : Int32) : Option (Int64 × ZI × ZL) := (f_X7_isJoint σ a1).bind (fun q1 => if q1 = 0 then (some ((-1 : Int64), σ, τ)) else ((f_X7_isPart a2).bind (fun q2 => if q2 = 0 then (some ((-1 : Int64), σ, τ)) else ((f_X7_passByOdds σ τ).bind (fun q3 => (f_X7_at_ q3.2 49 a1).bind (fun q4 => (f_X0_whole q3.2).bind (fun q5 => (f_X7_part q4 q5 a2).bind (fun q6 => some (q6, q3.1, q3.2)))))))))
abbrev rm_X7_goes : Room := { frames := 5, cells := 0, slots := 0, locals := 110 }
set_option maxHeartbeats 4000000 in
set_option maxRecDepth 100000 in
theorem c_X7_goes (l : Launch) (g : GG) (σ : ZI) (τ : ZL) (a1 : Int32) (a2 : Int32) (res : Int64 × ZI × ZL) (h : f_X7_goes σ τ a1 a2 = some res) : ML l yX7_goes cX7_goes 3 (some .long) rm_X7_goes g [.ref (gA g 0), .int a1, .int a2] σ τ (fun (r : Int64) (u : ZI × ZL) => (r, u.1, u.2) = res) := by
  refine Met_in (by decide) (Nat.le_of_ble_eq_true rfl) ?_
  intro p e s m args below meth c F G hP hr0 hk0 ls hl
  have hS := WS.start hP
  have hl : lv_has ls 3 [(0, .ref (gA g 0)), (1, .int a1), (2, .int a2)] := hl
  obtain ⟨H, hH⟩ : ∃ H, H = s.heap := ⟨_, rfl⟩
  rw [← hH] at hS ⊢
  clear hH hP
  rw [f_X7_goes] at h
  obtain ⟨locs, hlo⟩ : ∃ z : List Loc, z = [] := ⟨_, rfl⟩
  rw [← hlo] at hS ⊢
  clear hlo
  refine lv_aload_n F.1 F.2.1 dX7_goes_0 rfl (lv_at hl 0 rfl) ?_
  refine lv_iload_n F.1 F.2.1 dX7_goes_1 rfl (lv_at hl 1 rfl) ?_
  obtain ⟨q1, h_q1, h⟩ := bd h
  refine rVi F G hS hl.1 (c_X7_isJoint l g σ τ a1 q1 h_q1) lk_X7_163 ⟨rfl, rfl, Nat.le_of_ble_eq_true rfl, Nat.le_of_ble_eq_true rfl⟩ (rc_X7 G hS) rfl rfl (Nat.le_of_ble_eq_true rfl) dX7_goes_2 (kRi (fun H locs hS => ?_))
  refine lv_if_eq (tgt := 15) F.1 F.2.1 dX7_goes_5 (by decide) (fun hc => ?_) (fun hc => ?_)
  · replace h := ifT h hc
    refine lv_ldc2 (v := (-1 : Int64)) F.1 F.2.1 F.2.2.2.1 (F.2.2.2.2 _ tb_718) dX7_goes_15 ?_
    exact e_l F hS (Option.some.inj h) hr0 dX7_goes_18 hk0
  replace h := ifF h hc
  refine lv_iload_n F.1 F.2.1 dX7_goes_8 rfl (lv_at hl 2 rfl) ?_
  obtain ⟨q2, h_q2, h⟩ := bd h
  refine rSi F G hS hl.1 (c_X7_isPart l g σ τ a2 q2 h_q2) lk_X7_137 ⟨rfl, rfl, Nat.le_of_ble_eq_true rfl, Nat.le_of_ble_eq_true rfl⟩  rfl rfl (Nat.le_of_ble_eq_true rfl) dX7_goes_9 (kRi (fun H locs hS => ?_))
  refine lv_if_ne (tgt := 19) F.1 F.2.1 dX7_goes_12 (by decide) (fun hc => ?_) (fun hc => ?_)
  rotate_left
  · replace h := ifT h hc
    refine lv_ldc2 (v := (-1 : Int64)) F.1 F.2.1 F.2.2.2.1 (F.2.2.2.2 _ tb_718) dX7_goes_15 ?_
    exact e_l F hS (Option.some.inj h) hr0 dX7_goes_18 hk0
  replace h := ifF h hc
  refine lv_aload_n F.1 F.2.1 dX7_goes_19 rfl (lv_at hl 0 rfl) ?_
  obtain ⟨q3, h_q3, h⟩ := bd h
  refine rVv F G hS hl.1 (c_X7_passByOdds l g σ τ q3 h_q3) lk_X7_215 ⟨rfl, rfl, Nat.le_of_ble_eq_true rfl, Nat.le_of_ble_eq_true rfl⟩ (rc_X7 G hS) rfl rfl (Nat.le_of_ble_eq_true rfl) dX7_goes_20 (kBv (fun H locs hS => ?_))
  refine lv_aload_n F.1 F.2.1 dX7_goes_23 rfl (lv_at hl 0 rfl) ?_
  refine gf_X7_46 F G hS dX7_goes_24 ?_
  refine gf_X7_218 F G hS dX7_goes_27 ?_
  refine lv_iload_n F.1 F.2.1 dX7_goes_30 rfl (lv_at hl 1 rfl) ?_
  obtain ⟨q4, h_q4, h⟩ := bd h
  refine rSl F G hS hl.1 (c_X7_at_ l g q3.1 q3.2 49 a1 q4 h_q4) lk_X7_222 ⟨rfl, rfl, Nat.le_of_ble_eq_true rfl, Nat.le_of_ble_eq_true rfl⟩  rfl rfl (Nat.le_of_ble_eq_true rfl) dX7_goes_31 (kRl (fun H locs hS => ?_))
  refine lv_aload_n F.1 F.2.1 dX7_goes_34 rfl (lv_at hl 0 rfl) ?_
  refine gf_X7_46 F G hS dX7_goes_35 ?_
  obtain ⟨q5, h_q5, h⟩ := bd h
  refine rNl F G hS hl.1 (c_X0_whole l g q3.1 q3.2 q5 h_q5) lk_X7_207 ⟨rfl, rfl, Nat.le_of_ble_eq_true rfl, Nat.le_of_ble_eq_true rfl⟩ (rc_X0 G hS) rfl rfl (Nat.le_of_ble_eq_true rfl) dX7_goes_38 (kRl (fun H locs hS => ?_))
  refine lv_iload_n F.1 F.2.1 dX7_goes_41 rfl (lv_at hl 2 rfl) ?_
  obtain ⟨q6, h_q6, h⟩ := bd h
  refine rSl F G hS hl.1 (c_X7_part l g q3.1 q3.2 q4 q5 a2 q6 h_q6) lk_X7_211 ⟨rfl, rfl, Nat.le_of_ble_eq_true rfl, Nat.le_of_ble_eq_true rfl⟩  rfl rfl (Nat.le_of_ble_eq_true rfl) dX7_goes_42 (kRl (fun H locs hS => ?_))
  exact e_l F hS (Option.some.inj h) hr0 dX7_goes_45 hk0
def f_X7_isOut (σ : ZI) (τ : ZL) (a1 : Int32) (a2 : Int32) : Option (Int64 × ZI × ZL) := (f_X7_isJoint σ a1).bind (fun q1 => if q1 = 0 then (some ((-1 : Int64), σ, τ)) else ((f_X7_isPart a2).bind (fun q2 => if q2 = 0 then (some ((-1 : Int64), σ, τ)) else ((f_X7_passByOdds σ τ).bind (fun q3 => (f_X7_at_ q3.2 50 a1).bind (fun q4 => (f_X0_whole q3.2).bind (fun q5 => (f_X7_part q4 q5 a2).bind (fun q6 => some (q6, q3.1, q3.2)))))))))
abbrev rm_X7_isOut : Room := { frames := 5, cells := 0, slots := 0, locals := 110 }
set_option maxHeartbeats 4000000 in
set_option maxRecDepth 100000 in
theorem c_X7_isOut (l : Launch) (g : GG) (σ : ZI) (τ : ZL) (a1 : Int32) (a2 : Int32) (res : Int64 × ZI × ZL) (h : f_X7_isOut σ τ a1 a2 = some res) : ML l yX7_isOut cX7_isOut 3 (some .long) rm_X7_isOut g [.ref (gA g 0), .int a1, .int a2] σ τ (fun (r : Int64) (u : ZI × ZL) => (r, u.1, u.2) = res) := by
  refine Met_in (by decide) (Nat.le_of_ble_eq_true rfl) ?_
  intro p e s m args below meth c F G hP hr0 hk0 ls hl
  have hS := WS.start hP
  have hl : lv_has ls 3 [(0, .ref (gA g 0)), (1, .int a1), (2, .int a2)] := hl
  obtain ⟨H, hH⟩ : ∃ H, H = s.heap := ⟨_, rfl⟩
  rw [← hH] at hS ⊢
  clear hH hP
  rw [f_X7_isOut] at h
  obtain ⟨locs, hlo⟩ : ∃ z : List Loc, z = [] := ⟨_, rfl⟩
  rw [← hlo] at hS ⊢
  clear hlo
  refine lv_aload_n F.1 F.2.1 dX7_isOut_0 rfl (lv_at hl 0 rfl) ?_
  refine lv_iload_n F.1 F.2.1 dX7_isOut_1 rfl (lv_at hl 1 rfl) ?_
  obtain ⟨q1, h_q1, h⟩ := bd h
  refine rVi F G hS hl.1 (c_X7_isJoint l g σ τ a1 q1 h_q1) lk_X7_163 ⟨rfl, rfl, Nat.le_of_ble_eq_true rfl, Nat.le_of_ble_eq_true rfl⟩ (rc_X7 G hS) rfl rfl (Nat.le_of_ble_eq_true rfl) dX7_isOut_2 (kRi (fun H locs hS => ?_))
  refine lv_if_eq (tgt := 15) F.1 F.2.1 dX7_isOut_5 (by decide) (fun hc => ?_) (fun hc => ?_)
  · replace h := ifT h hc
    refine lv_ldc2 (v := (-1 : Int64)) F.1 F.2.1 F.2.2.2.1 (F.2.2.2.2 _ tb_718) dX7_isOut_15 ?_
    exact e_l F hS (Option.some.inj h) hr0 dX7_isOut_18 hk0
  replace h := ifF h hc
  refine lv_iload_n F.1 F.2.1 dX7_isOut_8 rfl (lv_at hl 2 rfl) ?_
  obtain ⟨q2, h_q2, h⟩ := bd h
  refine rSi F G hS hl.1 (c_X7_isPart l g σ τ a2 q2 h_q2) lk_X7_137 ⟨rfl, rfl, Nat.le_of_ble_eq_true rfl, Nat.le_of_ble_eq_true rfl⟩  rfl rfl (Nat.le_of_ble_eq_true rfl) dX7_isOut_9 (kRi (fun H locs hS => ?_))
  refine lv_if_ne (tgt := 19) F.1 F.2.1 dX7_isOut_12 (by decide) (fun hc => ?_) (fun hc => ?_)
  rotate_left
  · replace h := ifT h hc
    refine lv_ldc2 (v := (-1 : Int64)) F.1 F.2.1 F.2.2.2.1 (F.2.2.2.2 _ tb_718) dX7_isOut_15 ?_
    exact e_l F hS (Option.some.inj h) hr0 dX7_isOut_18 hk0
  replace h := ifF h hc
  refine lv_aload_n F.1 F.2.1 dX7_isOut_19 rfl (lv_at hl 0 rfl) ?_
  obtain ⟨q3, h_q3, h⟩ := bd h
  refine rVv F G hS hl.1 (c_X7_passByOdds l g σ τ q3 h_q3) lk_X7_215 ⟨rfl, rfl, Nat.le_of_ble_eq_true rfl, Nat.le_of_ble_eq_true rfl⟩ (rc_X7 G hS) rfl rfl (Nat.le_of_ble_eq_true rfl) dX7_isOut_20 (kBv (fun H locs hS => ?_))
  refine lv_aload_n F.1 F.2.1 dX7_isOut_23 rfl (lv_at hl 0 rfl) ?_
  refine gf_X7_46 F G hS dX7_isOut_24 ?_
  refine gf_X7_225 F G hS dX7_isOut_27 ?_
  refine lv_iload_n F.1 F.2.1 dX7_isOut_30 rfl (lv_at hl 1 rfl) ?_
  obtain ⟨q4, h_q4, h⟩ := bd h
  refine rSl F G hS hl.1 (c_X7_at_ l g q3.1 q3.2 50 a1 q4 h_q4) lk_X7_222 ⟨rfl, rfl, Nat.le_of_ble_eq_true rfl, Nat.le_of_ble_eq_true rfl⟩  rfl rfl (Nat.le_of_ble_eq_true rfl) dX7_isOut_31 (kRl (fun H locs hS => ?_))
  refine lv_aload_n F.1 F.2.1 dX7_isOut_34 rfl (lv_at hl 0 rfl) ?_
  refine gf_X7_46 F G hS dX7_isOut_35 ?_
  obtain ⟨q5, h_q5, h⟩ := bd h
  refine rNl F G hS hl.1 (c_X0_whole l g q3.1 q3.2 q5 h_q5) lk_X7_207 ⟨rfl, rfl, Nat.le_of_ble_eq_true rfl, Nat.le_of_ble_eq_true rfl⟩ (rc_X0 G hS) rfl rfl (Nat.le_of_ble_eq_true rfl) dX7_isOut_38 (kRl (fun H locs hS => ?_))
  refine lv_iload_n F.1 F.2.1 dX7_isOut_41 rfl (lv_at hl 2 rfl) ?_
  obtain ⟨q6, h_q6, h⟩ := bd h
  refine rSl F G hS hl.1 (c_X7_part l g q3.1 q3.2 q4 q5 a2 q6 h_q6) lk_X7_211 ⟨rfl, rfl, Nat.le_of_ble_eq_true rfl, Nat.le_of_ble_eq_true rfl⟩  rfl rfl (Nat.le_of_ble_eq_true rfl) dX7_isOut_42 (kRl (fun H locs hS => ?_))
  exact e_l F hS (Option.some.inj h) hr0 dX7_isOut_45 hk0
def f_X7_metBy (σ : ZI) (τ : ZL) (a1 : Int32) : Option (Int64) := (f_X7_at σ 4 a1).bind (fun q1 => (f_X7_at_ τ 50 q1).bind (fun q2 => some q2))
abbrev rm_X7_metBy : Room := { frames := 1, cells := 0, slots := 0, locals := 21 }
set_option maxHeartbeats 4000000 in
set_option maxRecDepth 100000 in
theorem c_X7_metBy (l : Launch) (g : GG) (σ : ZI) (τ : ZL) (a1 : Int32) (res : Int64) (h : f_X7_metBy σ τ a1 = some res) : ML l yX7_metBy cX7_metBy 2 (some .long) rm_X7_metBy g [.ref (gA g 0), .int a1] σ τ (fun (r : Int64) (u : ZI × ZL) => r = res ∧ u.1 = σ ∧ u.2 = τ) := by
  refine Met_in (by decide) (Nat.le_of_ble_eq_true rfl) ?_
  intro p e s m args below meth c F G hP hr0 hk0 ls hl
  have hS := WS.start hP
  have hl : lv_has ls 2 [(0, .ref (gA g 0)), (1, .int a1)] := hl
  obtain ⟨H, hH⟩ : ∃ H, H = s.heap := ⟨_, rfl⟩
  rw [← hH] at hS ⊢
  clear hH hP
  rw [f_X7_metBy] at h
  obtain ⟨locs, hlo⟩ : ∃ z : List Loc, z = [] := ⟨_, rfl⟩
  rw [← hlo] at hS ⊢
  clear hlo
  refine lv_aload_n F.1 F.2.1 dX7_metBy_0 rfl (lv_at hl 0 rfl) ?_
  refine gf_X7_46 F G hS dX7_metBy_1 ?_
  refine gf_X7_225 F G hS dX7_metBy_4 ?_
  refine lv_aload_n F.1 F.2.1 dX7_metBy_7 rfl (lv_at hl 0 rfl) ?_
  refine gf_X7_10 F G hS dX7_metBy_8 ?_
  refine gf_X7_124 F G hS rfl dX7_metBy_11 ?_
  refine lv_iload_n F.1 F.2.1 dX7_metBy_14 rfl (lv_at hl 1 rfl) ?_
  obtain ⟨q1, h_q1, h⟩ := bd h
  refine rSi F G hS hl.1 (c_X7_at l g σ τ 4 a1 q1 h_q1) lk_X7_120 ⟨rfl, rfl, Nat.le_of_ble_eq_true rfl, Nat.le_of_ble_eq_true rfl⟩  rfl rfl (Nat.le_of_ble_eq_true rfl) dX7_metBy_15 (kRi (fun H locs hS => ?_))
  obtain ⟨q2, h_q2, h⟩ := bd h
  refine rSl F G hS hl.1 (c_X7_at_ l g σ τ 50 q1 q2 h_q2) lk_X7_222 ⟨rfl, rfl, Nat.le_of_ble_eq_true rfl, Nat.le_of_ble_eq_true rfl⟩  rfl rfl (Nat.le_of_ble_eq_true rfl) dX7_metBy_18 (kRl (fun H locs hS => ?_))
  exact e_l F hS ⟨Option.some.inj h, rfl, rfl⟩ hr0 dX7_metBy_21 hk0
def f_X7_had (σ : ZI) (τ : ZL) (a1 : Int32) (a2 : Int32) : Option (Int64 × ZI × ZL) := (f_X7_isArm σ a1).bind (fun q1 => if q1 = 0 then (some ((-1 : Int64), σ, τ)) else ((f_X7_isPart a2).bind (fun q2 => if q2 = 0 then (some ((-1 : Int64), σ, τ)) else ((f_X7_passByOdds σ τ).bind (fun q3 => (f_X7_metBy q3.1 q3.2 a1).bind (fun q4 => (f_X6_value q3.1 1 (7 : Int32)).bind (fun q5 => (f_X6_holdsOf q3.1 1 a1 q5).bind (fun q6 => (f_X0_whole q3.2).bind (fun q7 => (f_X7_part (q4 * q6.toInt64) ((10 : Int64) * q7) a2).bind (fun q8 => some (q8, q3.1, q3.2)))))))))))
abbrev rm_X7_had : Room := { frames := 5, cells := 0, slots := 0, locals := 110 }
set_option maxHeartbeats 4000000 in
set_option maxRecDepth 100000 in
theorem c_X7_had (l : Launch) (g : GG) (σ : ZI) (τ : ZL) (a1 : Int32) (a2 : Int32) (res : Int64 × ZI × ZL) (h : f_X7_had σ τ a1 a2 = some res) : ML l yX7_had cX7_had 3 (some .long) rm_X7_had g [.ref (gA g 0), .int a1, .int a2] σ τ (fun (r : Int64) (u : ZI × ZL) => (r, u.1, u.2) = res) := by
  refine Met_in (by decide) (Nat.le_of_ble_eq_true rfl) ?_
  intro p e s m args below meth c F G hP hr0 hk0 ls hl
  have hS := WS.start hP
  have hl : lv_has ls 3 [(0, .ref (gA g 0)), (1, .int a1), (2, .int a2)] := hl
  obtain ⟨H, hH⟩ : ∃ H, H = s.heap := ⟨_, rfl⟩
  rw [← hH] at hS ⊢
  clear hH hP
  rw [f_X7_had] at h
  obtain ⟨locs, hlo⟩ : ∃ z : List Loc, z = [] := ⟨_, rfl⟩
  rw [← hlo] at hS ⊢
  clear hlo
  refine lv_aload_n F.1 F.2.1 dX7_had_0 rfl (lv_at hl 0 rfl) ?_
  refine lv_iload_n F.1 F.2.1 dX7_had_1 rfl (lv_at hl 1 rfl) ?_
  obtain ⟨q1, h_q1, h⟩ := bd h
  refine rVi F G hS hl.1 (c_X7_isArm l g σ τ a1 q1 h_q1) lk_X7_114 ⟨rfl, rfl, Nat.le_of_ble_eq_true rfl, Nat.le_of_ble_eq_true rfl⟩ (rc_X7 G hS) rfl rfl (Nat.le_of_ble_eq_true rfl) dX7_had_2 (kRi (fun H locs hS => ?_))
  refine lv_if_eq (tgt := 15) F.1 F.2.1 dX7_had_5 (by decide) (fun hc => ?_) (fun hc => ?_)
  · replace h := ifT h hc
    refine lv_ldc2 (v := (-1 : Int64)) F.1 F.2.1 F.2.2.2.1 (F.2.2.2.2 _ tb_718) dX7_had_15 ?_
    exact e_l F hS (Option.some.inj h) hr0 dX7_had_18 hk0
  replace h := ifF h hc
  refine lv_iload_n F.1 F.2.1 dX7_had_8 rfl (lv_at hl 2 rfl) ?_
  obtain ⟨q2, h_q2, h⟩ := bd h
  refine rSi F G hS hl.1 (c_X7_isPart l g σ τ a2 q2 h_q2) lk_X7_137 ⟨rfl, rfl, Nat.le_of_ble_eq_true rfl, Nat.le_of_ble_eq_true rfl⟩  rfl rfl (Nat.le_of_ble_eq_true rfl) dX7_had_9 (kRi (fun H locs hS => ?_))
  refine lv_if_ne (tgt := 19) F.1 F.2.1 dX7_had_12 (by decide) (fun hc => ?_) (fun hc => ?_)
  rotate_left
  · replace h := ifT h hc
    refine lv_ldc2 (v := (-1 : Int64)) F.1 F.2.1 F.2.2.2.1 (F.2.2.2.2 _ tb_718) dX7_had_15 ?_
    exact e_l F hS (Option.some.inj h) hr0 dX7_had_18 hk0
  replace h := ifF h hc
  refine lv_aload_n F.1 F.2.1 dX7_had_19 rfl (lv_at hl 0 rfl) ?_
  obtain ⟨q3, h_q3, h⟩ := bd h
  refine rVv F G hS hl.1 (c_X7_passByOdds l g σ τ q3 h_q3) lk_X7_215 ⟨rfl, rfl, Nat.le_of_ble_eq_true rfl, Nat.le_of_ble_eq_true rfl⟩ (rc_X7 G hS) rfl rfl (Nat.le_of_ble_eq_true rfl) dX7_had_20 (kBv (fun H locs hS => ?_))
  refine lv_aload_n F.1 F.2.1 dX7_had_23 rfl (lv_at hl 0 rfl) ?_
  refine lv_iload_n F.1 F.2.1 dX7_had_24 rfl (lv_at hl 1 rfl) ?_
  obtain ⟨q4, h_q4, h⟩ := bd h
  refine rVl F G hS hl.1 (c_X7_metBy l g q3.1 q3.2 a1 q4 h_q4) lk_X7_228 ⟨rfl, rfl, Nat.le_of_ble_eq_true rfl, Nat.le_of_ble_eq_true rfl⟩ (rc_X7 G hS) rfl rfl (Nat.le_of_ble_eq_true rfl) dX7_had_25 (kRl (fun H locs hS => ?_))
  refine lv_aload_n F.1 F.2.1 dX7_had_28 rfl (lv_at hl 0 rfl) ?_
  refine gf_X7_10 F G hS dX7_had_29 ?_
  refine lv_iload_n F.1 F.2.1 dX7_had_32 rfl (lv_at hl 1 rfl) ?_
  refine lv_aload_n F.1 F.2.1 dX7_had_33 rfl (lv_at hl 0 rfl) ?_
  refine gf_X7_10 F G hS dX7_had_34 ?_
  refine lv_bipush (v := (7 : Int32)) F.1 F.2.1 dX7_had_37 (by decide) ?_
  obtain ⟨q5, h_q5, h⟩ := bd h
  refine rNi F G hS hl.1 (c_X6_value l g q3.1 q3.2 1 (7 : Int32) q5 h_q5) lk_X7_110 ⟨rfl, rfl, Nat.le_of_ble_eq_true rfl, Nat.le_of_ble_eq_true rfl⟩ (rc_X6 G hS rfl) rfl rfl (Nat.le_of_ble_eq_true rfl) dX7_had_39 (kRi (fun H locs hS => ?_))
  obtain ⟨q6, h_q6, h⟩ := bd h
  refine rNi F G hS hl.1 (c_X6_holdsOf l g q3.1 q3.2 1 a1 q5 q6 h_q6) lk_X7_130 ⟨rfl, rfl, Nat.le_of_ble_eq_true rfl, Nat.le_of_ble_eq_true rfl⟩ (rc_X6 G hS rfl) rfl rfl (Nat.le_of_ble_eq_true rfl) dX7_had_42 (kRi (fun H locs hS => ?_))
  refine lv_i2l F.1 F.2.1 dX7_had_45 rfl ?_
  refine lv_lmul F.1 F.2.1 dX7_had_46 ?_
  refine lv_ldc2 (v := (10 : Int64)) F.1 F.2.1 F.2.2.2.1 (F.2.2.2.2 _ tb_811) dX7_had_47 ?_
  refine lv_aload_n F.1 F.2.1 dX7_had_50 rfl (lv_at hl 0 rfl) ?_
  refine gf_X7_46 F G hS dX7_had_51 ?_
  obtain ⟨q7, h_q7, h⟩ := bd h
  refine rNl F G hS hl.1 (c_X0_whole l g q3.1 q3.2 q7 h_q7) lk_X7_207 ⟨rfl, rfl, Nat.le_of_ble_eq_true rfl, Nat.le_of_ble_eq_true rfl⟩ (rc_X0 G hS) rfl rfl (Nat.le_of_ble_eq_true rfl) dX7_had_54 (kRl (fun H locs hS => ?_))
  refine lv_lmul F.1 F.2.1 dX7_had_57 ?_
  refine lv_iload_n F.1 F.2.1 dX7_had_58 rfl (lv_at hl 2 rfl) ?_
  obtain ⟨q8, h_q8, h⟩ := bd h
  refine rSl F G hS hl.1 (c_X7_part l g q3.1 q3.2 (q4 * q6.toInt64) ((10 : Int64) * q7) a2 q8 h_q8) lk_X7_211 ⟨rfl, rfl, Nat.le_of_ble_eq_true rfl, Nat.le_of_ble_eq_true rfl⟩  rfl rfl (Nat.le_of_ble_eq_true rfl) dX7_had_59 (kRl (fun H locs hS => ?_))
  exact e_l F hS (Option.some.inj h) hr0 dX7_had_62 hk0
def f_X7_hitByOdds_41 (σ : ZI) (τ : ZL) (k_4 : Int64 → Int32 → Option (Int64)) (v1 : Int64) (v3 : Int32) : Option (Int64) := k_4 v1 (v3 + (1 : Int32))
def f_X7_hitByOdds_4 (σ : ZI) (τ : ZL)  : Nat → Int64 → Int32 → Option (Int64)
  | 0, _, _ => none
  | n + 1, v1, v3 => (f_X6_value σ 1 (0 : Int32)).bind (fun q1 => if q1 < v3 then (some v1) else ((f_X6_isSignalAt σ 1 v3).bind (fun q2 => if q2 = 0 then (f_X7_hitByOdds_41 σ τ (fun v1 v3 => f_X7_hitByOdds_4 σ τ n v1 v3) v1 v3) else ((f_X7_at_ τ 50 v3).bind (fun q3 => f_X7_hitByOdds_41 σ τ (fun v1 v3 => f_X7_hitByOdds_4 σ τ n v1 v3) (v1 + q3) v3)))))
def f_X7_hitByOdds (σ : ZI) (τ : ZL) : Option (Int64) := f_X7_hitByOdds_4 σ τ 3000 (0 : Int64) (1 : Int32)
abbrev rm_X7_hitByOdds : Room := { frames := 3, cells := 0, slots := 0, locals := 63 }
set_option maxHeartbeats 4000000 in
set_option maxRecDepth 100000 in
theorem c_X7_hitByOdds (l : Launch) (g : GG) (σ : ZI) (τ : ZL)  (res : Int64) (h : f_X7_hitByOdds σ τ = some res) : ML l yX7_hitByOdds cX7_hitByOdds 4 (some .long) rm_X7_hitByOdds g [.ref (gA g 0)] σ τ (fun (r : Int64) (u : ZI × ZL) => r = res ∧ u.1 = σ ∧ u.2 = τ) := by
  refine Met_in (by decide) (Nat.le_of_ble_eq_true rfl) ?_
  intro p e s m args below meth c F G hP hr0 hk0 ls hl
  have hS := WS.start hP
  have hl : lv_has ls 4 [(0, .ref (gA g 0))] := hl
  obtain ⟨H, hH⟩ : ∃ H, H = s.heap := ⟨_, rfl⟩
  rw [← hH] at hS ⊢
  clear hH hP
  rw [f_X7_hitByOdds] at h
  have w_41 : ∀ (k_4 : Int64 → Int32 → Option (Int64)) (hk_4 : ∀ (v1 : Int64) (v3 : Int32), k_4 v1 v3 = some res → ∀ (H : Heap) (locs : List Loc) (ls : Array Slot), WS g σ τ s H locs → lv_has ls 4 [(0, .ref (gA g 0)), (1, .long v1), (3, .int v3)] → W p l e rm_X7_hitByOdds s m args below meth c H locs 0 0 (MQ below (va_Ql (fun (r : Int64) (u : ZI × ZL) => r = res ∧ u.1 = σ ∧ u.2 = τ) (WQ g) (AA g)) args s 0 0 (AA g)) (F0 m 4 ls [])) (v1 : Int64) (v3 : Int32), f_X7_hitByOdds_41 σ τ k_4 v1 v3 = some res → ∀ (H : Heap) (locs : List Loc) (ls : Array Slot), WS g σ τ s H locs → lv_has ls 4 [(0, .ref (gA g 0)), (1, .long v1), (3, .int v3)] → W p l e rm_X7_hitByOdds s m args below meth c H locs 0 0 (MQ below (va_Ql (fun (r : Int64) (u : ZI × ZL) => r = res ∧ u.1 = σ ∧ u.2 = τ) (WQ g) (AA g)) args s 0 0 (AA g)) (F0 m 41 ls []) := by
    intro k_4 hk_4 v1 v3 h H locs ls hS hl
    rw [f_X7_hitByOdds_41] at h
    refine lv_iinc (v := (v3 + (1 : Int32))) (lv' := [(3, .int (v3 + (1 : Int32))), (0, .ref (gA g 0)), (1, .long v1)]) F.1 F.2.1 dX7_hitByOdds_41 hl (k := 2) rfl rfl (by decide) rfl (fun ls hl => ?_)
    refine lv_goto (tgt := 4) F.1 F.2.1 dX7_hitByOdds_44 (by decide) ?_
    exact hk_4 v1 (v3 + (1 : Int32)) h H locs _ hS (lv_sub hl [1, 2, 0] rfl)
  have w_4 : ∀ (n : Nat) (v1 : Int64) (v3 : Int32), f_X7_hitByOdds_4 σ τ n v1 v3 = some res → ∀ (H : Heap) (locs : List Loc) (ls : Array Slot), WS g σ τ s H locs → lv_has ls 4 [(0, .ref (gA g 0)), (1, .long v1), (3, .int v3)] → W p l e rm_X7_hitByOdds s m args below meth c H locs 0 0 (MQ below (va_Ql (fun (r : Int64) (u : ZI × ZL) => r = res ∧ u.1 = σ ∧ u.2 = τ) (WQ g) (AA g)) args s 0 0 (AA g)) (F0 m 4 ls []) := by
    intro n
    induction n with
    | zero => intro v1 v3 h; rw [f_X7_hitByOdds_4] at h; cases h
    | succ n ih =>
      intro v1 v3 h H locs ls hS hl
      rw [f_X7_hitByOdds_4] at h
      refine lv_iload_n F.1 F.2.1 dX7_hitByOdds_4 rfl (lv_at hl 2 rfl) ?_
      refine lv_aload_n F.1 F.2.1 dX7_hitByOdds_5 rfl (lv_at hl 0 rfl) ?_
      refine gf_X7_10 F G hS dX7_hitByOdds_6 ?_
      refine lv_iconst (v := (0 : Int32)) F.1 F.2.1 dX7_hitByOdds_9 (by decide) ?_
      obtain ⟨q1, h_q1, h⟩ := bd h
      refine rNi F G hS hl.1 (c_X6_value l g σ τ 1 (0 : Int32) q1 h_q1) lk_X7_110 ⟨rfl, rfl, Nat.le_of_ble_eq_true rfl, Nat.le_of_ble_eq_true rfl⟩ (rc_X6 G hS rfl) rfl rfl (Nat.le_of_ble_eq_true rfl) dX7_hitByOdds_10 (kRi (fun H locs hS => ?_))
      refine lv_icmp_gt (tgt := 47) F.1 F.2.1 dX7_hitByOdds_13 (by decide) (fun hc => ?_) (fun hc => ?_)
      · replace h := ifT h hc
        refine lv_lload_n F.1 F.2.1 dX7_hitByOdds_47 rfl (lv_at hl 1 rfl) ?_
        exact e_l F hS ⟨Option.some.inj h, rfl, rfl⟩ hr0 dX7_hitByOdds_48 hk0
      replace h := ifF h hc
      refine lv_aload_n F.1 F.2.1 dX7_hitByOdds_16 rfl (lv_at hl 0 rfl) ?_
      refine gf_X7_10 F G hS dX7_hitByOdds_17 ?_
      refine lv_iload_n F.1 F.2.1 dX7_hitByOdds_20 rfl (lv_at hl 2 rfl) ?_
      obtain ⟨q2, h_q2, h⟩ := bd h
      refine rNi F G hS hl.1 (c_X6_isSignalAt l g σ τ 1 v3 q2 h_q2) lk_X7_340 ⟨rfl, rfl, Nat.le_of_ble_eq_true rfl, Nat.le_of_ble_eq_true rfl⟩ (rc_X6 G hS rfl) rfl rfl (Nat.le_of_ble_eq_true rfl) dX7_hitByOdds_21 (kRi (fun H locs hS => ?_))
      refine lv_if_eq (tgt := 41) F.1 F.2.1 dX7_hitByOdds_24 (by decide) (fun hc => ?_) (fun hc => ?_)
      · replace h := ifT h hc
        exact w_41 _ (fun v1 v3 => ih v1 v3) v1 v3 h H locs _ hS (lv_sub hl [0, 1, 2] rfl)
      replace h := ifF h hc
      refine lv_lload_n F.1 F.2.1 dX7_hitByOdds_27 rfl (lv_at hl 1 rfl) ?_
      refine lv_aload_n F.1 F.2.1 dX7_hitByOdds_28 rfl (lv_at hl 0 rfl) ?_
      refine gf_X7_46 F G hS dX7_hitByOdds_29 ?_
      refine gf_X7_225 F G hS dX7_hitByOdds_32 ?_
      refine lv_iload_n F.1 F.2.1 dX7_hitByOdds_35 rfl (lv_at hl 2 rfl) ?_
      obtain ⟨q3, h_q3, h⟩ := bd h
      refine rSl F G hS hl.1 (c_X7_at_ l g σ τ 50 v3 q3 h_q3) lk_X7_222 ⟨rfl, rfl, Nat.le_of_ble_eq_true rfl, Nat.le_of_ble_eq_true rfl⟩  rfl rfl (Nat.le_of_ble_eq_true rfl) dX7_hitByOdds_36 (kRl (fun H locs hS => ?_))
      refine lv_ladd F.1 F.2.1 dX7_hitByOdds_39 ?_
      refine lv_lstore_n (lv' := [(1, .long (v1 + q3)), (0, .ref (gA g 0)), (3, .int v3)]) F.1 F.2.1 dX7_hitByOdds_40 rfl hl (by decide) rfl (fun ls hl => ?_)
      exact w_41 _ (fun v1 v3 => ih v1 v3) (v1 + q3) v3 h H locs _ hS (lv_sub hl [1, 0, 2] rfl)
  obtain ⟨locs, hlo⟩ : ∃ z : List Loc, z = [] := ⟨_, rfl⟩
  rw [← hlo] at hS ⊢
  clear hlo
  refine lv_lconst (v := (0 : Int64)) F.1 F.2.1 dX7_hitByOdds_0 (by decide) ?_
  refine lv_lstore_n (lv' := [(1, .long (0 : Int64)), (0, .ref (gA g 0))]) F.1 F.2.1 dX7_hitByOdds_1 rfl hl (by decide) rfl (fun ls hl => ?_)
  refine lv_iconst (v := (1 : Int32)) F.1 F.2.1 dX7_hitByOdds_2 (by decide) ?_
  refine lv_istore_n (lv' := [(3, .int (1 : Int32)), (1, .long (0 : Int64)), (0, .ref (gA g 0))]) F.1 F.2.1 dX7_hitByOdds_3 rfl hl (by decide) rfl (fun ls hl => ?_)
  exact w_4 3000 (0 : Int64) (1 : Int32) h H locs _ hS (lv_sub hl [2, 1, 0] rfl)
def f_X7_hits (σ : ZI) (τ : ZL) (a1 : Int32) : Option (Int64 × ZI × ZL) := (f_X7_isPart a1).bind (fun q1 => if q1 = 0 then (some ((-1 : Int64), σ, τ)) else ((f_X7_passByOdds σ τ).bind (fun q2 => (f_X7_hitByOdds q2.1 q2.2).bind (fun q3 => (f_X0_whole q2.2).bind (fun q4 => (f_X7_part q3 q4 a1).bind (fun q5 => some (q5, q2.1, q2.2)))))))
abbrev rm_X7_hits : Room := { frames := 5, cells := 0, slots := 0, locals := 110 }
set_option maxHeartbeats 4000000 in
set_option maxRecDepth 100000 in
theorem c_X7_hits (l : Launch) (g : GG) (σ : ZI) (τ : ZL) (a1 : Int32) (res : Int64 × ZI × ZL) (h : f_X7_hits σ τ a1 = some res) : ML l yX7_hits cX7_hits 2 (some .long) rm_X7_hits g [.ref (gA g 0), .int a1] σ τ (fun (r : Int64) (u : ZI × ZL) => (r, u.1, u.2) = res) := by
  refine Met_in (by decide) (Nat.le_of_ble_eq_true rfl) ?_
  intro p e s m args below meth c F G hP hr0 hk0 ls hl
  have hS := WS.start hP
  have hl : lv_has ls 2 [(0, .ref (gA g 0)), (1, .int a1)] := hl
  obtain ⟨H, hH⟩ : ∃ H, H = s.heap := ⟨_, rfl⟩
  rw [← hH] at hS ⊢
  clear hH hP
  rw [f_X7_hits] at h
  obtain ⟨locs, hlo⟩ : ∃ z : List Loc, z = [] := ⟨_, rfl⟩
  rw [← hlo] at hS ⊢
  clear hlo
  refine lv_iload_n F.1 F.2.1 dX7_hits_0 rfl (lv_at hl 1 rfl) ?_
  obtain ⟨q1, h_q1, h⟩ := bd h
  refine rSi F G hS hl.1 (c_X7_isPart l g σ τ a1 q1 h_q1) lk_X7_137 ⟨rfl, rfl, Nat.le_of_ble_eq_true rfl, Nat.le_of_ble_eq_true rfl⟩  rfl rfl (Nat.le_of_ble_eq_true rfl) dX7_hits_1 (kRi (fun H locs hS => ?_))
  refine lv_if_ne (tgt := 11) F.1 F.2.1 dX7_hits_4 (by decide) (fun hc => ?_) (fun hc => ?_)
  rotate_left
  · replace h := ifT h hc
    refine lv_ldc2 (v := (-1 : Int64)) F.1 F.2.1 F.2.2.2.1 (F.2.2.2.2 _ tb_718) dX7_hits_7 ?_
    exact e_l F hS (Option.some.inj h) hr0 dX7_hits_10 hk0
  replace h := ifF h hc
  refine lv_aload_n F.1 F.2.1 dX7_hits_11 rfl (lv_at hl 0 rfl) ?_
  obtain ⟨q2, h_q2, h⟩ := bd h
  refine rVv F G hS hl.1 (c_X7_passByOdds l g σ τ q2 h_q2) lk_X7_215 ⟨rfl, rfl, Nat.le_of_ble_eq_true rfl, Nat.le_of_ble_eq_true rfl⟩ (rc_X7 G hS) rfl rfl (Nat.le_of_ble_eq_true rfl) dX7_hits_12 (kBv (fun H locs hS => ?_))
  refine lv_aload_n F.1 F.2.1 dX7_hits_15 rfl (lv_at hl 0 rfl) ?_
  obtain ⟨q3, h_q3, h⟩ := bd h
  refine rVl F G hS hl.1 (c_X7_hitByOdds l g q2.1 q2.2 q3 h_q3) lk_X7_234 ⟨rfl, rfl, Nat.le_of_ble_eq_true rfl, Nat.le_of_ble_eq_true rfl⟩ (rc_X7 G hS) rfl rfl (Nat.le_of_ble_eq_true rfl) dX7_hits_16 (kRl (fun H locs hS => ?_))
  refine lv_aload_n F.1 F.2.1 dX7_hits_19 rfl (lv_at hl 0 rfl) ?_
  refine gf_X7_46 F G hS dX7_hits_20 ?_
  obtain ⟨q4, h_q4, h⟩ := bd h
  refine rNl F G hS hl.1 (c_X0_whole l g q2.1 q2.2 q4 h_q4) lk_X7_207 ⟨rfl, rfl, Nat.le_of_ble_eq_true rfl, Nat.le_of_ble_eq_true rfl⟩ (rc_X0 G hS) rfl rfl (Nat.le_of_ble_eq_true rfl) dX7_hits_23 (kRl (fun H locs hS => ?_))
  refine lv_iload_n F.1 F.2.1 dX7_hits_26 rfl (lv_at hl 1 rfl) ?_
  obtain ⟨q5, h_q5, h⟩ := bd h
  refine rSl F G hS hl.1 (c_X7_part l g q2.1 q2.2 q3 q4 a1 q5 h_q5) lk_X7_211 ⟨rfl, rfl, Nat.le_of_ble_eq_true rfl, Nat.le_of_ble_eq_true rfl⟩  rfl rfl (Nat.le_of_ble_eq_true rfl) dX7_hits_27 (kRl (fun H locs hS => ?_))
  exact e_l F hS (Option.some.inj h) hr0 dX7_hits_30 hk0
def f_X7_tornByOdds (σ : ZI) (τ : ZL) : Option (Int64) := (f_X6_value σ 1 (5 : Int32)).bind (fun q1 => (f_X7_at_ τ 50 q1).bind (fun q2 => some q2))
abbrev rm_X7_tornByOdds : Room := { frames := 2, cells := 0, slots := 0, locals := 42 }
set_option maxHeartbeats 4000000 in
set_option maxRecDepth 100000 in
theorem c_X7_tornByOdds (l : Launch) (g : GG) (σ : ZI) (τ : ZL)  (res : Int64) (h : f_X7_tornByOdds σ τ = some res) : ML l yX7_tornByOdds cX7_tornByOdds 1 (some .long) rm_X7_tornByOdds g [.ref (gA g 0)] σ τ (fun (r : Int64) (u : ZI × ZL) => r = res ∧ u.1 = σ ∧ u.2 = τ) := by
  refine Met_in (by decide) (Nat.le_of_ble_eq_true rfl) ?_
  intro p e s m args below meth c F G hP hr0 hk0 ls hl
  have hS := WS.start hP
  have hl : lv_has ls 1 [(0, .ref (gA g 0))] := hl
  obtain ⟨H, hH⟩ : ∃ H, H = s.heap := ⟨_, rfl⟩
  rw [← hH] at hS ⊢
  clear hH hP
  rw [f_X7_tornByOdds] at h
  obtain ⟨locs, hlo⟩ : ∃ z : List Loc, z = [] := ⟨_, rfl⟩
  rw [← hlo] at hS ⊢
  clear hlo
  refine lv_aload_n F.1 F.2.1 dX7_tornByOdds_0 rfl (lv_at hl 0 rfl) ?_
  refine gf_X7_46 F G hS dX7_tornByOdds_1 ?_
  refine gf_X7_225 F G hS dX7_tornByOdds_4 ?_
  refine lv_aload_n F.1 F.2.1 dX7_tornByOdds_7 rfl (lv_at hl 0 rfl) ?_
  refine gf_X7_10 F G hS dX7_tornByOdds_8 ?_
  refine lv_iconst (v := (5 : Int32)) F.1 F.2.1 dX7_tornByOdds_11 (by decide) ?_
  obtain ⟨q1, h_q1, h⟩ := bd h
  refine rNi F G hS hl.1 (c_X6_value l g σ τ 1 (5 : Int32) q1 h_q1) lk_X7_110 ⟨rfl, rfl, Nat.le_of_ble_eq_true rfl, Nat.le_of_ble_eq_true rfl⟩ (rc_X6 G hS rfl) rfl rfl (Nat.le_of_ble_eq_true rfl) dX7_tornByOdds_12 (kRi (fun H locs hS => ?_))
  obtain ⟨q2, h_q2, h⟩ := bd h
  refine rSl F G hS hl.1 (c_X7_at_ l g σ τ 50 q1 q2 h_q2) lk_X7_222 ⟨rfl, rfl, Nat.le_of_ble_eq_true rfl, Nat.le_of_ble_eq_true rfl⟩  rfl rfl (Nat.le_of_ble_eq_true rfl) dX7_tornByOdds_15 (kRl (fun H locs hS => ?_))
  exact e_l F hS ⟨Option.some.inj h, rfl, rfl⟩ hr0 dX7_tornByOdds_18 hk0
def f_X7_torn (σ : ZI) (τ : ZL) (a1 : Int32) : Option (Int64 × ZI × ZL) := (f_X7_isPart a1).bind (fun q1 => if q1 = 0 then (some ((-1 : Int64), σ, τ)) else ((f_X7_passByOdds σ τ).bind (fun q2 => (f_X7_tornByOdds q2.1 q2.2).bind (fun q3 => (f_X0_whole q2.2).bind (fun q4 => (f_X7_part q3 q4 a1).bind (fun q5 => some (q5, q2.1, q2.2)))))))
abbrev rm_X7_torn : Room := { frames := 5, cells := 0, slots := 0, locals := 110 }
set_option maxHeartbeats 4000000 in
set_option maxRecDepth 100000 in
theorem c_X7_torn (l : Launch) (g : GG) (σ : ZI) (τ : ZL) (a1 : Int32) (res : Int64 × ZI × ZL) (h : f_X7_torn σ τ a1 = some res) : ML l yX7_torn cX7_torn 2 (some .long) rm_X7_torn g [.ref (gA g 0), .int a1] σ τ (fun (r : Int64) (u : ZI × ZL) => (r, u.1, u.2) = res) := by
  refine Met_in (by decide) (Nat.le_of_ble_eq_true rfl) ?_
  intro p e s m args below meth c F G hP hr0 hk0 ls hl
  have hS := WS.start hP
  have hl : lv_has ls 2 [(0, .ref (gA g 0)), (1, .int a1)] := hl
  obtain ⟨H, hH⟩ : ∃ H, H = s.heap := ⟨_, rfl⟩
  rw [← hH] at hS ⊢
  clear hH hP
  rw [f_X7_torn] at h
  obtain ⟨locs, hlo⟩ : ∃ z : List Loc, z = [] := ⟨_, rfl⟩
  rw [← hlo] at hS ⊢
  clear hlo
  refine lv_iload_n F.1 F.2.1 dX7_torn_0 rfl (lv_at hl 1 rfl) ?_
  obtain ⟨q1, h_q1, h⟩ := bd h
  refine rSi F G hS hl.1 (c_X7_isPart l g σ τ a1 q1 h_q1) lk_X7_137 ⟨rfl, rfl, Nat.le_of_ble_eq_true rfl, Nat.le_of_ble_eq_true rfl⟩  rfl rfl (Nat.le_of_ble_eq_true rfl) dX7_torn_1 (kRi (fun H locs hS => ?_))
  refine lv_if_ne (tgt := 11) F.1 F.2.1 dX7_torn_4 (by decide) (fun hc => ?_) (fun hc => ?_)
  rotate_left
  · replace h := ifT h hc
    refine lv_ldc2 (v := (-1 : Int64)) F.1 F.2.1 F.2.2.2.1 (F.2.2.2.2 _ tb_718) dX7_torn_7 ?_
    exact e_l F hS (Option.some.inj h) hr0 dX7_torn_10 hk0
  replace h := ifF h hc
  refine lv_aload_n F.1 F.2.1 dX7_torn_11 rfl (lv_at hl 0 rfl) ?_
  obtain ⟨q2, h_q2, h⟩ := bd h
  refine rVv F G hS hl.1 (c_X7_passByOdds l g σ τ q2 h_q2) lk_X7_215 ⟨rfl, rfl, Nat.le_of_ble_eq_true rfl, Nat.le_of_ble_eq_true rfl⟩ (rc_X7 G hS) rfl rfl (Nat.le_of_ble_eq_true rfl) dX7_torn_12 (kBv (fun H locs hS => ?_))
  refine lv_aload_n F.1 F.2.1 dX7_torn_15 rfl (lv_at hl 0 rfl) ?_
  obtain ⟨q3, h_q3, h⟩ := bd h
  refine rVl F G hS hl.1 (c_X7_tornByOdds l g q2.1 q2.2 q3 h_q3) lk_X7_237 ⟨rfl, rfl, Nat.le_of_ble_eq_true rfl, Nat.le_of_ble_eq_true rfl⟩ (rc_X7 G hS) rfl rfl (Nat.le_of_ble_eq_true rfl) dX7_torn_16 (kRl (fun H locs hS => ?_))
  refine lv_aload_n F.1 F.2.1 dX7_torn_19 rfl (lv_at hl 0 rfl) ?_
  refine gf_X7_46 F G hS dX7_torn_20 ?_
  obtain ⟨q4, h_q4, h⟩ := bd h
  refine rNl F G hS hl.1 (c_X0_whole l g q2.1 q2.2 q4 h_q4) lk_X7_207 ⟨rfl, rfl, Nat.le_of_ble_eq_true rfl, Nat.le_of_ble_eq_true rfl⟩ (rc_X0 G hS) rfl rfl (Nat.le_of_ble_eq_true rfl) dX7_torn_23 (kRl (fun H locs hS => ?_))
  refine lv_iload_n F.1 F.2.1 dX7_torn_26 rfl (lv_at hl 1 rfl) ?_
  obtain ⟨q5, h_q5, h⟩ := bd h
  refine rSl F G hS hl.1 (c_X7_part l g q2.1 q2.2 q3 q4 a1 q5 h_q5) lk_X7_211 ⟨rfl, rfl, Nat.le_of_ble_eq_true rfl, Nat.le_of_ble_eq_true rfl⟩  rfl rfl (Nat.le_of_ble_eq_true rfl) dX7_torn_27 (kRl (fun H locs hS => ?_))
  exact e_l F hS (Option.some.inj h) hr0 dX7_torn_30 hk0
def f_X7_worthByOdds_4 (σ : ZI) (τ : ZL)  : Nat → Int64 → Int32 → Option (Int64)
  | 0, _, _ => none
  | n + 1, v1, v3 => (f_X6_value σ 1 (1 : Int32)).bind (fun q1 => if q1 ≤ v3 then ((f_X7_hitByOdds σ τ).bind (fun q2 => (f_X6_value σ 1 (10 : Int32)).bind (fun q3 => (f_X7_tornByOdds σ τ).bind (fun q4 => (f_X6_value σ 1 (11 : Int32)).bind (fun q5 => lt_ (((q2 * q3.toInt64) + (q4 * q5.toInt64))) (fun x6 => some (v1 - ((10 : Int64) * x6)))))))) else ((f_X7_metBy σ τ v3).bind (fun q7 => (f_X6_value σ 1 (7 : Int32)).bind (fun q8 => (f_X6_holdsOf σ 1 v3 q8).bind (fun q9 => (f_X7_at σ 5 v3).bind (fun q10 => lt_ ((v1 + ((q7 * q9.toInt64) * q10.toInt64))) (fun x11 => f_X7_worthByOdds_4 σ τ n x11 (v3 + (1 : Int32)))))))))
def f_X7_worthByOdds (σ : ZI) (τ : ZL) : Option (Int64) := f_X7_worthByOdds_4 σ τ 3000 (0 : Int64) (0 : Int32)
abbrev rm_X7_worthByOdds : Room := { frames := 4, cells := 0, slots := 0, locals := 86 }
set_option maxHeartbeats 4000000 in
set_option maxRecDepth 100000 in
theorem c_X7_worthByOdds (l : Launch) (g : GG) (σ : ZI) (τ : ZL)  (res : Int64) (h : f_X7_worthByOdds σ τ = some res) : ML l yX7_worthByOdds cX7_worthByOdds 5 (some .long) rm_X7_worthByOdds g [.ref (gA g 0)] σ τ (fun (r : Int64) (u : ZI × ZL) => r = res ∧ u.1 = σ ∧ u.2 = τ) := by
  refine Met_in (by decide) (Nat.le_of_ble_eq_true rfl) ?_
  intro p e s m args below meth c F G hP hr0 hk0 ls hl
  have hS := WS.start hP
  have hl : lv_has ls 5 [(0, .ref (gA g 0))] := hl
  obtain ⟨H, hH⟩ : ∃ H, H = s.heap := ⟨_, rfl⟩
  rw [← hH] at hS ⊢
  clear hH hP
  rw [f_X7_worthByOdds] at h
  have w_4 : ∀ (n : Nat) (v1 : Int64) (v3 : Int32), f_X7_worthByOdds_4 σ τ n v1 v3 = some res → ∀ (H : Heap) (locs : List Loc) (ls : Array Slot), WS g σ τ s H locs → lv_has ls 5 [(0, .ref (gA g 0)), (1, .long v1), (3, .int v3)] → W p l e rm_X7_worthByOdds s m args below meth c H locs 0 0 (MQ below (va_Ql (fun (r : Int64) (u : ZI × ZL) => r = res ∧ u.1 = σ ∧ u.2 = τ) (WQ g) (AA g)) args s 0 0 (AA g)) (F0 m 4 ls []) := by
    intro n
    induction n with
    | zero => intro v1 v3 h; rw [f_X7_worthByOdds_4] at h; cases h
    | succ n ih =>
      intro v1 v3 h H locs ls hS hl
      rw [f_X7_worthByOdds_4] at h
      refine lv_iload_n F.1 F.2.1 dX7_worthByOdds_4 rfl (lv_at hl 2 rfl) ?_
      refine lv_aload_n F.1 F.2.1 dX7_worthByOdds_5 rfl (lv_at hl 0 rfl) ?_
      refine gf_X7_10 F G hS dX7_worthByOdds_6 ?_
      refine lv_iconst (v := (1 : Int32)) F.1 F.2.1 dX7_worthByOdds_9 (by decide) ?_
      obtain ⟨q1, h_q1, h⟩ := bd h
      refine rNi F G hS hl.1 (c_X6_value l g σ τ 1 (1 : Int32) q1 h_q1) lk_X7_110 ⟨rfl, rfl, Nat.le_of_ble_eq_true rfl, Nat.le_of_ble_eq_true rfl⟩ (rc_X6 G hS rfl) rfl rfl (Nat.le_of_ble_eq_true rfl) dX7_worthByOdds_10 (kRi (fun H locs hS => ?_))
      refine lv_icmp_ge (tgt := 62) F.1 F.2.1 dX7_worthByOdds_13 (by decide) (fun hc => ?_) (fun hc => ?_)
      · replace h := ifT h hc
        refine lv_aload_n F.1 F.2.1 dX7_worthByOdds_62 rfl (lv_at hl 0 rfl) ?_
        obtain ⟨q2, h_q2, h⟩ := bd h
        refine rVl F G hS hl.1 (c_X7_hitByOdds l g σ τ q2 h_q2) lk_X7_234 ⟨rfl, rfl, Nat.le_of_ble_eq_true rfl, Nat.le_of_ble_eq_true rfl⟩ (rc_X7 G hS) rfl rfl (Nat.le_of_ble_eq_true rfl) dX7_worthByOdds_63 (kRl (fun H locs hS => ?_))
        refine lv_aload_n F.1 F.2.1 dX7_worthByOdds_66 rfl (lv_at hl 0 rfl) ?_
        refine gf_X7_10 F G hS dX7_worthByOdds_67 ?_
        refine lv_bipush (v := (10 : Int32)) F.1 F.2.1 dX7_worthByOdds_70 (by decide) ?_
        obtain ⟨q3, h_q3, h⟩ := bd h
        refine rNi F G hS hl.1 (c_X6_value l g σ τ 1 (10 : Int32) q3 h_q3) lk_X7_110 ⟨rfl, rfl, Nat.le_of_ble_eq_true rfl, Nat.le_of_ble_eq_true rfl⟩ (rc_X6 G hS rfl) rfl rfl (Nat.le_of_ble_eq_true rfl) dX7_worthByOdds_72 (kRi (fun H locs hS => ?_))
        refine lv_i2l F.1 F.2.1 dX7_worthByOdds_75 rfl ?_
        refine lv_lmul F.1 F.2.1 dX7_worthByOdds_76 ?_
        refine lv_aload_n F.1 F.2.1 dX7_worthByOdds_77 rfl (lv_at hl 0 rfl) ?_
        obtain ⟨q4, h_q4, h⟩ := bd h
        refine rVl F G hS hl.1 (c_X7_tornByOdds l g σ τ q4 h_q4) lk_X7_237 ⟨rfl, rfl, Nat.le_of_ble_eq_true rfl, Nat.le_of_ble_eq_true rfl⟩ (rc_X7 G hS) rfl rfl (Nat.le_of_ble_eq_true rfl) dX7_worthByOdds_78 (kRl (fun H locs hS => ?_))
        refine lv_aload_n F.1 F.2.1 dX7_worthByOdds_81 rfl (lv_at hl 0 rfl) ?_
        refine gf_X7_10 F G hS dX7_worthByOdds_82 ?_
        refine lv_bipush (v := (11 : Int32)) F.1 F.2.1 dX7_worthByOdds_85 (by decide) ?_
        obtain ⟨q5, h_q5, h⟩ := bd h
        refine rNi F G hS hl.1 (c_X6_value l g σ τ 1 (11 : Int32) q5 h_q5) lk_X7_110 ⟨rfl, rfl, Nat.le_of_ble_eq_true rfl, Nat.le_of_ble_eq_true rfl⟩ (rc_X6 G hS rfl) rfl rfl (Nat.le_of_ble_eq_true rfl) dX7_worthByOdds_87 (kRi (fun H locs hS => ?_))
        refine lv_i2l F.1 F.2.1 dX7_worthByOdds_90 rfl ?_
        refine lv_lmul F.1 F.2.1 dX7_worthByOdds_91 ?_
        refine lv_ladd F.1 F.2.1 dX7_worthByOdds_92 ?_
        obtain ⟨x6, e_x6, h⟩ := ltE h
        refine x_topl e_x6 ?_
        clear e_x6
        refine lv_lstore_n (lv' := [(3, .long x6), (0, .ref (gA g 0)), (1, .long v1)]) F.1 F.2.1 dX7_worthByOdds_93 rfl hl (by decide) rfl (fun ls hl => ?_)
        refine lv_lload_n F.1 F.2.1 dX7_worthByOdds_94 rfl (lv_at hl 2 rfl) ?_
        refine lv_ldc2 (v := (10 : Int64)) F.1 F.2.1 F.2.2.2.1 (F.2.2.2.2 _ tb_811) dX7_worthByOdds_95 ?_
        refine lv_lload_n F.1 F.2.1 dX7_worthByOdds_98 rfl (lv_at hl 0 rfl) ?_
        refine lv_lmul F.1 F.2.1 dX7_worthByOdds_99 ?_
        refine lv_lsub F.1 F.2.1 dX7_worthByOdds_100 ?_
        exact e_l F hS ⟨Option.some.inj h, rfl, rfl⟩ hr0 dX7_worthByOdds_101 hk0
      replace h := ifF h hc
      refine lv_lload_n F.1 F.2.1 dX7_worthByOdds_16 rfl (lv_at hl 1 rfl) ?_
      refine lv_aload_n F.1 F.2.1 dX7_worthByOdds_17 rfl (lv_at hl 0 rfl) ?_
      refine lv_iload_n F.1 F.2.1 dX7_worthByOdds_18 rfl (lv_at hl 2 rfl) ?_
      obtain ⟨q7, h_q7, h⟩ := bd h
      refine rVl F G hS hl.1 (c_X7_metBy l g σ τ v3 q7 h_q7) lk_X7_228 ⟨rfl, rfl, Nat.le_of_ble_eq_true rfl, Nat.le_of_ble_eq_true rfl⟩ (rc_X7 G hS) rfl rfl (Nat.le_of_ble_eq_true rfl) dX7_worthByOdds_19 (kRl (fun H locs hS => ?_))
      refine lv_aload_n F.1 F.2.1 dX7_worthByOdds_22 rfl (lv_at hl 0 rfl) ?_
      refine gf_X7_10 F G hS dX7_worthByOdds_23 ?_
      refine lv_iload_n F.1 F.2.1 dX7_worthByOdds_26 rfl (lv_at hl 2 rfl) ?_
      refine lv_aload_n F.1 F.2.1 dX7_worthByOdds_27 rfl (lv_at hl 0 rfl) ?_
      refine gf_X7_10 F G hS dX7_worthByOdds_28 ?_
      refine lv_bipush (v := (7 : Int32)) F.1 F.2.1 dX7_worthByOdds_31 (by decide) ?_
      obtain ⟨q8, h_q8, h⟩ := bd h
      refine rNi F G hS hl.1 (c_X6_value l g σ τ 1 (7 : Int32) q8 h_q8) lk_X7_110 ⟨rfl, rfl, Nat.le_of_ble_eq_true rfl, Nat.le_of_ble_eq_true rfl⟩ (rc_X6 G hS rfl) rfl rfl (Nat.le_of_ble_eq_true rfl) dX7_worthByOdds_33 (kRi (fun H locs hS => ?_))
      obtain ⟨q9, h_q9, h⟩ := bd h
      refine rNi F G hS hl.1 (c_X6_holdsOf l g σ τ 1 v3 q8 q9 h_q9) lk_X7_130 ⟨rfl, rfl, Nat.le_of_ble_eq_true rfl, Nat.le_of_ble_eq_true rfl⟩ (rc_X6 G hS rfl) rfl rfl (Nat.le_of_ble_eq_true rfl) dX7_worthByOdds_36 (kRi (fun H locs hS => ?_))
      refine lv_i2l F.1 F.2.1 dX7_worthByOdds_39 rfl ?_
      refine lv_lmul F.1 F.2.1 dX7_worthByOdds_40 ?_
      refine lv_aload_n F.1 F.2.1 dX7_worthByOdds_41 rfl (lv_at hl 0 rfl) ?_
      refine gf_X7_10 F G hS dX7_worthByOdds_42 ?_
      refine gf_X7_127 F G hS rfl dX7_worthByOdds_45 ?_
      refine lv_iload_n F.1 F.2.1 dX7_worthByOdds_48 rfl (lv_at hl 2 rfl) ?_
      obtain ⟨q10, h_q10, h⟩ := bd h
      refine rSi F G hS hl.1 (c_X7_at l g σ τ 5 v3 q10 h_q10) lk_X7_120 ⟨rfl, rfl, Nat.le_of_ble_eq_true rfl, Nat.le_of_ble_eq_true rfl⟩  rfl rfl (Nat.le_of_ble_eq_true rfl) dX7_worthByOdds_49 (kRi (fun H locs hS => ?_))
      refine lv_i2l F.1 F.2.1 dX7_worthByOdds_52 rfl ?_
      refine lv_lmul F.1 F.2.1 dX7_worthByOdds_53 ?_
      refine lv_ladd F.1 F.2.1 dX7_worthByOdds_54 ?_
      obtain ⟨x11, e_x11, h⟩ := ltE h
      refine x_topl e_x11 ?_
      clear e_x11
      refine lv_lstore_n (lv' := [(1, .long x11), (0, .ref (gA g 0)), (3, .int v3)]) F.1 F.2.1 dX7_worthByOdds_55 rfl hl (by decide) rfl (fun ls hl => ?_)
      refine lv_iinc (v := (v3 + (1 : Int32))) (lv' := [(3, .int (v3 + (1 : Int32))), (1, .long x11), (0, .ref (gA g 0))]) F.1 F.2.1 dX7_worthByOdds_56 hl (k := 2) rfl rfl (by decide) rfl (fun ls hl => ?_)
      refine lv_goto (tgt := 4) F.1 F.2.1 dX7_worthByOdds_59 (by decide) ?_
      exact ih x11 (v3 + (1 : Int32)) h H locs _ hS (lv_sub hl [2, 1, 0] rfl)
  obtain ⟨locs, hlo⟩ : ∃ z : List Loc, z = [] := ⟨_, rfl⟩
  rw [← hlo] at hS ⊢
  clear hlo
  refine lv_lconst (v := (0 : Int64)) F.1 F.2.1 dX7_worthByOdds_0 (by decide) ?_
  refine lv_lstore_n (lv' := [(1, .long (0 : Int64)), (0, .ref (gA g 0))]) F.1 F.2.1 dX7_worthByOdds_1 rfl hl (by decide) rfl (fun ls hl => ?_)
  refine lv_iconst (v := (0 : Int32)) F.1 F.2.1 dX7_worthByOdds_2 (by decide) ?_
  refine lv_istore_n (lv' := [(3, .int (0 : Int32)), (1, .long (0 : Int64)), (0, .ref (gA g 0))]) F.1 F.2.1 dX7_worthByOdds_3 rfl hl (by decide) rfl (fun ls hl => ?_)
  exact w_4 3000 (0 : Int64) (0 : Int32) h H locs _ hS (lv_sub hl [2, 1, 0] rfl)
def f_X7_worth (σ : ZI) (τ : ZL) (a1 : Int32) : Option (Int64 × ZI × ZL) := (f_X7_isPart a1).bind (fun q1 => if q1 = 0 then (some ((-1 : Int64), σ, τ)) else ((f_X7_passByOdds σ τ).bind (fun q2 => (f_X7_worthByOdds q2.1 q2.2).bind (fun q3 => (f_X0_whole q2.2).bind (fun q4 => (f_X7_part q3 ((10 : Int64) * q4) a1).bind (fun q5 => some (q5, q2.1, q2.2)))))))
abbrev rm_X7_worth : Room := { frames := 5, cells := 0, slots := 0, locals := 110 }
set_option maxHeartbeats 4000000 in
set_option maxRecDepth 100000 in
theorem c_X7_worth (l : Launch) (g : GG) (σ : ZI) (τ : ZL) (a1 : Int32) (res : Int64 × ZI × ZL) (h : f_X7_worth σ τ a1 = some res) : ML l yX7_worth cX7_worth 2 (some .long) rm_X7_worth g [.ref (gA g 0), .int a1] σ τ (fun (r : Int64) (u : ZI × ZL) => (r, u.1, u.2) = res) := by
  refine Met_in (by decide) (Nat.le_of_ble_eq_true rfl) ?_
  intro p e s m args below meth c F G hP hr0 hk0 ls hl
  have hS := WS.start hP
  have hl : lv_has ls 2 [(0, .ref (gA g 0)), (1, .int a1)] := hl
  obtain ⟨H, hH⟩ : ∃ H, H = s.heap := ⟨_, rfl⟩
  rw [← hH] at hS ⊢
  clear hH hP
  rw [f_X7_worth] at h
  obtain ⟨locs, hlo⟩ : ∃ z : List Loc, z = [] := ⟨_, rfl⟩
  rw [← hlo] at hS ⊢
  clear hlo
  refine lv_iload_n F.1 F.2.1 dX7_worth_0 rfl (lv_at hl 1 rfl) ?_
  obtain ⟨q1, h_q1, h⟩ := bd h
  refine rSi F G hS hl.1 (c_X7_isPart l g σ τ a1 q1 h_q1) lk_X7_137 ⟨rfl, rfl, Nat.le_of_ble_eq_true rfl, Nat.le_of_ble_eq_true rfl⟩  rfl rfl (Nat.le_of_ble_eq_true rfl) dX7_worth_1 (kRi (fun H locs hS => ?_))
  refine lv_if_ne (tgt := 11) F.1 F.2.1 dX7_worth_4 (by decide) (fun hc => ?_) (fun hc => ?_)
  rotate_left
  · replace h := ifT h hc
    refine lv_ldc2 (v := (-1 : Int64)) F.1 F.2.1 F.2.2.2.1 (F.2.2.2.2 _ tb_718) dX7_worth_7 ?_
    exact e_l F hS (Option.some.inj h) hr0 dX7_worth_10 hk0
  replace h := ifF h hc
  refine lv_aload_n F.1 F.2.1 dX7_worth_11 rfl (lv_at hl 0 rfl) ?_
  obtain ⟨q2, h_q2, h⟩ := bd h
  refine rVv F G hS hl.1 (c_X7_passByOdds l g σ τ q2 h_q2) lk_X7_215 ⟨rfl, rfl, Nat.le_of_ble_eq_true rfl, Nat.le_of_ble_eq_true rfl⟩ (rc_X7 G hS) rfl rfl (Nat.le_of_ble_eq_true rfl) dX7_worth_12 (kBv (fun H locs hS => ?_))
  refine lv_aload_n F.1 F.2.1 dX7_worth_15 rfl (lv_at hl 0 rfl) ?_
  obtain ⟨q3, h_q3, h⟩ := bd h
  refine rVl F G hS hl.1 (c_X7_worthByOdds l g q2.1 q2.2 q3 h_q3) lk_X7_240 ⟨rfl, rfl, Nat.le_of_ble_eq_true rfl, Nat.le_of_ble_eq_true rfl⟩ (rc_X7 G hS) rfl rfl (Nat.le_of_ble_eq_true rfl) dX7_worth_16 (kRl (fun H locs hS => ?_))
  refine lv_ldc2 (v := (10 : Int64)) F.1 F.2.1 F.2.2.2.1 (F.2.2.2.2 _ tb_811) dX7_worth_19 ?_
  refine lv_aload_n F.1 F.2.1 dX7_worth_22 rfl (lv_at hl 0 rfl) ?_
  refine gf_X7_46 F G hS dX7_worth_23 ?_
  obtain ⟨q4, h_q4, h⟩ := bd h
  refine rNl F G hS hl.1 (c_X0_whole l g q2.1 q2.2 q4 h_q4) lk_X7_207 ⟨rfl, rfl, Nat.le_of_ble_eq_true rfl, Nat.le_of_ble_eq_true rfl⟩ (rc_X0 G hS) rfl rfl (Nat.le_of_ble_eq_true rfl) dX7_worth_26 (kRl (fun H locs hS => ?_))
  refine lv_lmul F.1 F.2.1 dX7_worth_29 ?_
  refine lv_iload_n F.1 F.2.1 dX7_worth_30 rfl (lv_at hl 1 rfl) ?_
  obtain ⟨q5, h_q5, h⟩ := bd h
  refine rSl F G hS hl.1 (c_X7_part l g q2.1 q2.2 q3 ((10 : Int64) * q4) a1 q5 h_q5) lk_X7_211 ⟨rfl, rfl, Nat.le_of_ble_eq_true rfl, Nat.le_of_ble_eq_true rfl⟩  rfl rfl (Nat.le_of_ble_eq_true rfl) dX7_worth_31 (kRl (fun H locs hS => ?_))
  exact e_l F hS (Option.some.inj h) hr0 dX7_worth_34 hk0
def f_X7_best_126 (a1 : Int32) (k_65 : ZI → ZL → Int32 → Int64 → Int32 → Int32 → Option (Int64 × ZI × ZL)) (σ : ZI) (τ : ZL) (v2 : Int32) (v3 : Int64) (v5 : Int32) (v6 : Int32) : Option (Int64 × ZI × ZL) := k_65 σ τ v2 v3 v5 (v6 + (1 : Int32))
def f_X7_best_114 (a1 : Int32) (k_65 : ZI → ZL → Int32 → Int64 → Int32 → Int32 → Option (Int64 × ZI × ZL)) (σ : ZI) (τ : ZL) (v5 : Int32) (v6 : Int32) (v7 : Int64) : Option (Int64 × ZI × ZL) := lt_ ((((100 : Int32) * v5) + v6)) (fun x9 => f_X7_best_126 a1 k_65 σ τ x9 v7 v5 v6)
def f_X7_best_65 (a1 : Int32) (k_48 : ZI → ZL → Int32 → Int64 → Int32 → Option (Int64 × ZI × ZL)) : Nat → ZI → ZL → Int32 → Int64 → Int32 → Int32 → Option (Int64 × ZI × ZL)
  | 0, _, _, _, _, _, _ => none
  | n + 1, σ, τ, v2, v3, v5, v6 => if inB (9 : Int32) 13 = true then (if ((stL 102).getD (9 : Int32).toNatClampNeg 0) < v6 then (k_48 σ τ v2 v3 (v5 + (1 : Int32))) else ((f_X6_value σ 1 (5 : Int32)).bind (fun q6 => (f_X0_passWithNet σ τ v5 v6 q6).bind (fun q7 => (f_X7_worthByOdds σ q7).bind (fun q8 => if v2 = (-4 : Int32) then (f_X7_best_114 a1 (fun σ τ v2 v3 v5 v6 => f_X7_best_65 a1 k_48 n σ τ v2 v3 v5 v6) σ q7 v5 v6 q8) else (if (lg_cmp q8 v3) ≤ 0 then (f_X7_best_126 a1 (fun σ τ v2 v3 v5 v6 => f_X7_best_65 a1 k_48 n σ τ v2 v3 v5 v6) σ q7 v2 v3 v5 v6) else (f_X7_best_114 a1 (fun σ τ v2 v3 v5 v6 => f_X7_best_65 a1 k_48 n σ τ v2 v3 v5 v6) σ q7 v5 v6 q8))))))) else none
def f_X7_best_48 (a1 : Int32)  : Nat → ZI → ZL → Int32 → Int64 → Int32 → Option (Int64 × ZI × ZL)
  | 0, _, _, _, _, _ => none
  | n + 1, σ, τ, v2, v3, v5 => if inB (8 : Int32) 13 = true then (if ((stL 102).getD (8 : Int32).toNatClampNeg 0) < v5 then (if a1 = 0 then (some (v2.toInt64, σ, τ)) else ((f_X0_whole τ).bind (fun q4 => (f_X7_part v3 ((10 : Int64) * q4) (a1 - (1 : Int32))).bind (fun q5 => some (q5, σ, τ))))) else (f_X7_best_65 a1 (fun σ τ v2 v3 v5 => f_X7_best_48 a1 n σ τ v2 v3 v5) 3000 σ τ v2 v3 v5 (v5 + (1 : Int32)))) else none
def f_X7_best (σ : ZI) (τ : ZL) (a1 : Int32) : Option (Int64 × ZI × ZL) := if a1 < 0 then (some ((-1 : Int64), σ, τ)) else (if a1 ≤ (2 : Int32) then ((f_X6_value σ 1 (6 : Int32)).bind (fun q1 => (f_X0_weighByOdds σ τ 1 q1 (-4 : Int32)).bind (fun q2 => if inB (8 : Int32) 13 = true then (lt_ (((stL 101).getD (8 : Int32).toNatClampNeg 0)) (fun x3 => f_X7_best_48 a1 3000 q2.1 q2.2 (-4 : Int32) (0 : Int64) x3)) else none))) else (some ((-1 : Int64), σ, τ)))
abbrev rm_X7_best : Room := { frames := 5, cells := 0, slots := 0, locals := 110 }
set_option maxHeartbeats 4000000 in
set_option maxRecDepth 100000 in
theorem c_X7_best (l : Launch) (g : GG) (σ : ZI) (τ : ZL) (a1 : Int32) (res : Int64 × ZI × ZL) (h : f_X7_best σ τ a1 = some res) : ML l yX7_best cX7_best 9 (some .long) rm_X7_best g [.ref (gA g 0), .int a1] σ τ (fun (r : Int64) (u : ZI × ZL) => (r, u.1, u.2) = res) := by
  refine Met_in (by decide) (Nat.le_of_ble_eq_true rfl) ?_
  intro p e s m args below meth c F G hP hr0 hk0 ls hl
  have hS := WS.start hP
  have hl : lv_has ls 9 [(0, .ref (gA g 0)), (1, .int a1)] := hl
  obtain ⟨H, hH⟩ : ∃ H, H = s.heap := ⟨_, rfl⟩
  rw [← hH] at hS ⊢
  clear hH hP
  rw [f_X7_best] at h
  have w_126 : ∀ (k_65 : ZI → ZL → Int32 → Int64 → Int32 → Int32 → Option (Int64 × ZI × ZL)) (hk_65 : ∀ (σ : ZI) (τ : ZL) (v2 : Int32) (v3 : Int64) (v5 : Int32) (v6 : Int32), k_65 σ τ v2 v3 v5 v6 = some res → ∀ (H : Heap) (locs : List Loc) (ls : Array Slot), WS g σ τ s H locs → lv_has ls 9 [(0, .ref (gA g 0)), (1, .int a1), (2, .int v2), (3, .long v3), (5, .int v5), (6, .int v6)] → W p l e rm_X7_best s m args below meth c H locs 0 0 (MQ below (va_Ql (fun (r : Int64) (u : ZI × ZL) => (r, u.1, u.2) = res) (WQ g) (AA g)) args s 0 0 (AA g)) (F0 m 65 ls [])) (σ : ZI) (τ : ZL) (v2 : Int32) (v3 : Int64) (v5 : Int32) (v6 : Int32), f_X7_best_126 a1 k_65 σ τ v2 v3 v5 v6 = some res → ∀ (H : Heap) (locs : List Loc) (ls : Array Slot), WS g σ τ s H locs → lv_has ls 9 [(0, .ref (gA g 0)), (1, .int a1), (2, .int v2), (3, .long v3), (5, .int v5), (6, .int v6)] → W p l e rm_X7_best s m args below meth c H locs 0 0 (MQ below (va_Ql (fun (r : Int64) (u : ZI × ZL) => (r, u.1, u.2) = res) (WQ g) (AA g)) args s 0 0 (AA g)) (F0 m 126 ls []) := by
    intro k_65 hk_65 σ τ v2 v3 v5 v6 h H locs ls hS hl
    rw [f_X7_best_126] at h
    refine lv_iinc (v := (v6 + (1 : Int32))) (lv' := [(6, .int (v6 + (1 : Int32))), (0, .ref (gA g 0)), (1, .int a1), (2, .int v2), (3, .long v3), (5, .int v5)]) F.1 F.2.1 dX7_best_126 hl (k := 5) rfl rfl (by decide) rfl (fun ls hl => ?_)
    refine lv_goto (tgt := 65) F.1 F.2.1 dX7_best_129 (by decide) ?_
    exact hk_65 σ τ v2 v3 v5 (v6 + (1 : Int32)) h H locs _ hS (lv_sub hl [1, 2, 3, 4, 5, 0] rfl)
  have w_114 : ∀ (k_65 : ZI → ZL → Int32 → Int64 → Int32 → Int32 → Option (Int64 × ZI × ZL)) (hk_65 : ∀ (σ : ZI) (τ : ZL) (v2 : Int32) (v3 : Int64) (v5 : Int32) (v6 : Int32), k_65 σ τ v2 v3 v5 v6 = some res → ∀ (H : Heap) (locs : List Loc) (ls : Array Slot), WS g σ τ s H locs → lv_has ls 9 [(0, .ref (gA g 0)), (1, .int a1), (2, .int v2), (3, .long v3), (5, .int v5), (6, .int v6)] → W p l e rm_X7_best s m args below meth c H locs 0 0 (MQ below (va_Ql (fun (r : Int64) (u : ZI × ZL) => (r, u.1, u.2) = res) (WQ g) (AA g)) args s 0 0 (AA g)) (F0 m 65 ls [])) (σ : ZI) (τ : ZL) (v5 : Int32) (v6 : Int32) (v7 : Int64), f_X7_best_114 a1 k_65 σ τ v5 v6 v7 = some res → ∀ (H : Heap) (locs : List Loc) (ls : Array Slot), WS g σ τ s H locs → lv_has ls 9 [(0, .ref (gA g 0)), (1, .int a1), (5, .int v5), (6, .int v6), (7, .long v7)] → W p l e rm_X7_best s m args below meth c H locs 0 0 (MQ below (va_Ql (fun (r : Int64) (u : ZI × ZL) => (r, u.1, u.2) = res) (WQ g) (AA g)) args s 0 0 (AA g)) (F0 m 114 ls []) := by
    intro k_65 hk_65 σ τ v5 v6 v7 h H locs ls hS hl
    rw [f_X7_best_114] at h
    refine lv_bipush (v := (100 : Int32)) F.1 F.2.1 dX7_best_114 (by decide) ?_
    refine lv_iload F.1 F.2.1 dX7_best_116 (lv_at hl 2 rfl) ?_
    refine lv_imul F.1 F.2.1 dX7_best_118 ?_
    refine lv_iload F.1 F.2.1 dX7_best_119 (lv_at hl 3 rfl) ?_
    refine lv_iadd F.1 F.2.1 dX7_best_121 ?_
    obtain ⟨x9, e_x9, h⟩ := ltE h
    refine x_topi e_x9 ?_
    clear e_x9
    refine lv_istore_n (lv' := [(2, .int x9), (0, .ref (gA g 0)), (1, .int a1), (5, .int v5), (6, .int v6), (7, .long v7)]) F.1 F.2.1 dX7_best_122 rfl hl (by decide) rfl (fun ls hl => ?_)
    refine lv_lload F.1 F.2.1 dX7_best_123 (lv_at hl 5 rfl) ?_
    refine lv_lstore_n (lv' := [(3, .long v7), (2, .int x9), (0, .ref (gA g 0)), (1, .int a1), (5, .int v5), (6, .int v6), (7, .long v7)]) F.1 F.2.1 dX7_best_125 rfl hl (by decide) rfl (fun ls hl => ?_)
    exact w_126 _ hk_65 σ τ x9 v7 v5 v6 h H locs _ hS (lv_sub hl [2, 3, 1, 0, 4, 5] rfl)
  have w_65 : ∀ (k_48 : ZI → ZL → Int32 → Int64 → Int32 → Option (Int64 × ZI × ZL)) (hk_48 : ∀ (σ : ZI) (τ : ZL) (v2 : Int32) (v3 : Int64) (v5 : Int32), k_48 σ τ v2 v3 v5 = some res → ∀ (H : Heap) (locs : List Loc) (ls : Array Slot), WS g σ τ s H locs → lv_has ls 9 [(0, .ref (gA g 0)), (1, .int a1), (2, .int v2), (3, .long v3), (5, .int v5)] → W p l e rm_X7_best s m args below meth c H locs 0 0 (MQ below (va_Ql (fun (r : Int64) (u : ZI × ZL) => (r, u.1, u.2) = res) (WQ g) (AA g)) args s 0 0 (AA g)) (F0 m 48 ls [])) (n : Nat) (σ : ZI) (τ : ZL) (v2 : Int32) (v3 : Int64) (v5 : Int32) (v6 : Int32), f_X7_best_65 a1 k_48 n σ τ v2 v3 v5 v6 = some res → ∀ (H : Heap) (locs : List Loc) (ls : Array Slot), WS g σ τ s H locs → lv_has ls 9 [(0, .ref (gA g 0)), (1, .int a1), (2, .int v2), (3, .long v3), (5, .int v5), (6, .int v6)] → W p l e rm_X7_best s m args below meth c H locs 0 0 (MQ below (va_Ql (fun (r : Int64) (u : ZI × ZL) => (r, u.1, u.2) = res) (WQ g) (AA g)) args s 0 0 (AA g)) (F0 m 65 ls []) := by
    intro k_48 hk_48
    intro n
    induction n with
    | zero => intro σ τ v2 v3 v5 v6 h; rw [f_X7_best_65] at h; cases h
    | succ n ih =>
      intro σ τ v2 v3 v5 v6 h H locs ls hS hl
      rw [f_X7_best_65] at h
      refine lv_iload F.1 F.2.1 dX7_best_65 (lv_at hl 5 rfl) ?_
      refine gs_X7_246 F G hS dX7_best_67 ?_
      refine lv_bipush (v := (9 : Int32)) F.1 F.2.1 dX7_best_70 (by decide) ?_
      obtain ⟨hin, h⟩ := gd h
      refine x_siald F G hS 102 (by decide) hin dX7_best_72 ?_
      refine lv_icmp_gt (tgt := 132) F.1 F.2.1 dX7_best_73 (by decide) (fun hc => ?_) (fun hc => ?_)
      · replace h := ifT h hc
        refine lv_iinc (v := (v5 + (1 : Int32))) (lv' := [(5, .int (v5 + (1 : Int32))), (0, .ref (gA g 0)), (1, .int a1), (2, .int v2), (3, .long v3), (6, .int v6)]) F.1 F.2.1 dX7_best_132 hl (k := 4) rfl rfl (by decide) rfl (fun ls hl => ?_)
        refine lv_goto (tgt := 48) F.1 F.2.1 dX7_best_135 (by decide) ?_
        exact hk_48 σ τ v2 v3 (v5 + (1 : Int32)) h H locs _ hS (lv_sub hl [1, 2, 3, 4, 0] rfl)
      replace h := ifF h hc
      refine lv_aload_n F.1 F.2.1 dX7_best_76 rfl (lv_at hl 0 rfl) ?_
      refine gf_X7_46 F G hS dX7_best_77 ?_
      refine lv_iload F.1 F.2.1 dX7_best_80 (lv_at hl 4 rfl) ?_
      refine lv_iload F.1 F.2.1 dX7_best_82 (lv_at hl 5 rfl) ?_
      refine lv_aload_n F.1 F.2.1 dX7_best_84 rfl (lv_at hl 0 rfl) ?_
      refine gf_X7_10 F G hS dX7_best_85 ?_
      refine lv_iconst (v := (5 : Int32)) F.1 F.2.1 dX7_best_88 (by decide) ?_
      obtain ⟨q6, h_q6, h⟩ := bd h
      refine rNi F G hS hl.1 (c_X6_value l g σ τ 1 (5 : Int32) q6 h_q6) lk_X7_110 ⟨rfl, rfl, Nat.le_of_ble_eq_true rfl, Nat.le_of_ble_eq_true rfl⟩ (rc_X6 G hS rfl) rfl rfl (Nat.le_of_ble_eq_true rfl) dX7_best_89 (kRi (fun H locs hS => ?_))
      obtain ⟨q7, h_q7, h⟩ := bd h
      refine rNv F G hS hl.1 (c_X0_passWithNet l g σ τ v5 v6 q6 q7 h_q7) lk_X7_249 ⟨rfl, rfl, Nat.le_of_ble_eq_true rfl, Nat.le_of_ble_eq_true rfl⟩ (rc_X0 G hS) rfl rfl (Nat.le_of_ble_eq_true rfl) dX7_best_92 (kJv (fun H locs hS => ?_))
      refine lv_aload_n F.1 F.2.1 dX7_best_95 rfl (lv_at hl 0 rfl) ?_
      obtain ⟨q8, h_q8, h⟩ := bd h
      refine rVl F G hS hl.1 (c_X7_worthByOdds l g σ q7 q8 h_q8) lk_X7_240 ⟨rfl, rfl, Nat.le_of_ble_eq_true rfl, Nat.le_of_ble_eq_true rfl⟩ (rc_X7 G hS) rfl rfl (Nat.le_of_ble_eq_true rfl) dX7_best_96 (kRl (fun H locs hS => ?_))
      refine lv_lstore (lv' := [(7, .long q8), (0, .ref (gA g 0)), (1, .int a1), (2, .int v2), (3, .long v3), (5, .int v5), (6, .int v6)]) F.1 F.2.1 dX7_best_99 hl (by decide) rfl (fun ls hl => ?_)
      refine lv_iload_n F.1 F.2.1 dX7_best_101 rfl (lv_at hl 3 rfl) ?_
      refine lv_bipush (v := (-4 : Int32)) F.1 F.2.1 dX7_best_102 (by decide) ?_
      refine lv_icmp_eq (tgt := 114) F.1 F.2.1 dX7_best_104 (by decide) (fun hc => ?_) (fun hc => ?_)
      · replace h := ifT h hc
        exact w_114 _ (fun σ τ v2 v3 v5 v6 => ih σ τ v2 v3 v5 v6) σ q7 v5 v6 q8 h H locs _ hS (lv_sub hl [1, 2, 5, 6, 0] rfl)
      replace h := ifF h hc
      refine lv_lload F.1 F.2.1 dX7_best_107 (lv_at hl 0 rfl) ?_
      refine lv_lload_n F.1 F.2.1 dX7_best_109 rfl (lv_at hl 4 rfl) ?_
      refine W.lcmp F.1 F.2.1 dX7_best_110 ?_
      refine lv_if_le (tgt := 126) F.1 F.2.1 dX7_best_111 (by decide) (fun hc => ?_) (fun hc => ?_)
      · replace h := ifT h hc
        exact w_126 _ (fun σ τ v2 v3 v5 v6 => ih σ τ v2 v3 v5 v6) σ q7 v2 v3 v5 v6 h H locs _ hS (lv_sub hl [1, 2, 3, 4, 5, 6] rfl)
      replace h := ifF h hc
      exact w_114 _ (fun σ τ v2 v3 v5 v6 => ih σ τ v2 v3 v5 v6) σ q7 v5 v6 q8 h H locs _ hS (lv_sub hl [1, 2, 5, 6, 0] rfl)
  have w_48 : ∀ (n : Nat) (σ : ZI) (τ : ZL) (v2 : Int32) (v3 : Int64) (v5 : Int32), f_X7_best_48 a1 n σ τ v2 v3 v5 = some res → ∀ (H : Heap) (locs : List Loc) (ls : Array Slot), WS g σ τ s H locs → lv_has ls 9 [(0, .ref (gA g 0)), (1, .int a1), (2, .int v2), (3, .long v3), (5, .int v5)] → W p l e rm_X7_best s m args below meth c H locs 0 0 (MQ below (va_Ql (fun (r : Int64) (u : ZI × ZL) => (r, u.1, u.2) = res) (WQ g) (AA g)) args s 0 0 (AA g)) (F0 m 48 ls []) := by
    intro n
    induction n with
    | zero => intro σ τ v2 v3 v5 h; rw [f_X7_best_48] at h; cases h
    | succ n ih =>
      intro σ τ v2 v3 v5 h H locs ls hS hl
      rw [f_X7_best_48] at h
      refine lv_iload F.1 F.2.1 dX7_best_48 (lv_at hl 4 rfl) ?_
      refine gs_X7_246 F G hS dX7_best_50 ?_
      refine lv_bipush (v := (8 : Int32)) F.1 F.2.1 dX7_best_53 (by decide) ?_
      obtain ⟨hin, h⟩ := gd h
      refine x_siald F G hS 102 (by decide) hin dX7_best_55 ?_
      refine lv_icmp_gt (tgt := 138) F.1 F.2.1 dX7_best_56 (by decide) (fun hc => ?_) (fun hc => ?_)
      rotate_left
      · replace h := ifF h hc
        refine lv_iload F.1 F.2.1 dX7_best_59 (lv_at hl 4 rfl) ?_
        refine lv_iconst (v := (1 : Int32)) F.1 F.2.1 dX7_best_61 (by decide) ?_
        refine lv_iadd F.1 F.2.1 dX7_best_62 ?_
        refine lv_istore (lv' := [(6, .int (v5 + (1 : Int32))), (0, .ref (gA g 0)), (1, .int a1), (2, .int v2), (3, .long v3), (5, .int v5)]) F.1 F.2.1 dX7_best_63 hl (by decide) rfl (fun ls hl => ?_)
        exact w_65 _ (fun σ τ v2 v3 v5 => ih σ τ v2 v3 v5) 3000 σ τ v2 v3 v5 (v5 + (1 : Int32)) h H locs _ hS (lv_sub hl [1, 2, 3, 4, 5, 0] rfl)
      replace h := ifT h hc
      refine lv_iload_n F.1 F.2.1 dX7_best_138 rfl (lv_at hl 1 rfl) ?_
      refine lv_if_ne (tgt := 147) F.1 F.2.1 dX7_best_139 (by decide) (fun hc => ?_) (fun hc => ?_)
      rotate_left
      · replace h := ifT h hc
        refine lv_iload_n F.1 F.2.1 dX7_best_142 rfl (lv_at hl 2 rfl) ?_
        refine lv_i2l F.1 F.2.1 dX7_best_143 rfl ?_
        refine lv_goto (tgt := 165) F.1 F.2.1 dX7_best_144 (by decide) ?_
        exact e_l F hS (Option.some.inj h) hr0 dX7_best_165 hk0
      replace h := ifF h hc
      refine lv_lload_n F.1 F.2.1 dX7_best_147 rfl (lv_at hl 3 rfl) ?_
      refine lv_ldc2 (v := (10 : Int64)) F.1 F.2.1 F.2.2.2.1 (F.2.2.2.2 _ tb_811) dX7_best_148 ?_
      refine lv_aload_n F.1 F.2.1 dX7_best_151 rfl (lv_at hl 0 rfl) ?_
      refine gf_X7_46 F G hS dX7_best_152 ?_
      obtain ⟨q4, h_q4, h⟩ := bd h
      refine rNl F G hS hl.1 (c_X0_whole l g σ τ q4 h_q4) lk_X7_207 ⟨rfl, rfl, Nat.le_of_ble_eq_true rfl, Nat.le_of_ble_eq_true rfl⟩ (rc_X0 G hS) rfl rfl (Nat.le_of_ble_eq_true rfl) dX7_best_155 (kRl (fun H locs hS => ?_))
      refine lv_lmul F.1 F.2.1 dX7_best_158 ?_
      refine lv_iload_n F.1 F.2.1 dX7_best_159 rfl (lv_at hl 1 rfl) ?_
      refine lv_iconst (v := (1 : Int32)) F.1 F.2.1 dX7_best_160 (by decide) ?_
      refine lv_isub F.1 F.2.1 dX7_best_161 ?_
      obtain ⟨q5, h_q5, h⟩ := bd h
      refine rSl F G hS hl.1 (c_X7_part l g σ τ v3 ((10 : Int64) * q4) (a1 - (1 : Int32)) q5 h_q5) lk_X7_211 ⟨rfl, rfl, Nat.le_of_ble_eq_true rfl, Nat.le_of_ble_eq_true rfl⟩  rfl rfl (Nat.le_of_ble_eq_true rfl) dX7_best_162 (kRl (fun H locs hS => ?_))
      exact e_l F hS (Option.some.inj h) hr0 dX7_best_165 hk0
  obtain ⟨locs, hlo⟩ : ∃ z : List Loc, z = [] := ⟨_, rfl⟩
  rw [← hlo] at hS ⊢
  clear hlo
  refine lv_iload_n F.1 F.2.1 dX7_best_0 rfl (lv_at hl 1 rfl) ?_
  refine lv_if_lt (tgt := 9) F.1 F.2.1 dX7_best_1 (by decide) (fun hc => ?_) (fun hc => ?_)
  · replace h := ifT h hc
    refine lv_ldc2 (v := (-1 : Int64)) F.1 F.2.1 F.2.2.2.1 (F.2.2.2.2 _ tb_718) dX7_best_9 ?_
    exact e_l F hS (Option.some.inj h) hr0 dX7_best_12 hk0
  replace h := ifF h hc
  refine lv_iload_n F.1 F.2.1 dX7_best_4 rfl (lv_at hl 1 rfl) ?_
  refine lv_iconst (v := (2 : Int32)) F.1 F.2.1 dX7_best_5 (by decide) ?_
  refine lv_icmp_le (tgt := 13) F.1 F.2.1 dX7_best_6 (by decide) (fun hc => ?_) (fun hc => ?_)
  rotate_left
  · replace h := ifF h hc
    refine lv_ldc2 (v := (-1 : Int64)) F.1 F.2.1 F.2.2.2.1 (F.2.2.2.2 _ tb_718) dX7_best_9 ?_
    exact e_l F hS (Option.some.inj h) hr0 dX7_best_12 hk0
  replace h := ifT h hc
  refine lv_aload_n F.1 F.2.1 dX7_best_13 rfl (lv_at hl 0 rfl) ?_
  refine gf_X7_46 F G hS dX7_best_14 ?_
  refine lv_aload_n F.1 F.2.1 dX7_best_17 rfl (lv_at hl 0 rfl) ?_
  refine gf_X7_10 F G hS dX7_best_18 ?_
  refine lv_aload_n F.1 F.2.1 dX7_best_21 rfl (lv_at hl 0 rfl) ?_
  refine gf_X7_10 F G hS dX7_best_22 ?_
  refine lv_bipush (v := (6 : Int32)) F.1 F.2.1 dX7_best_25 (by decide) ?_
  obtain ⟨q1, h_q1, h⟩ := bd h
  refine rNi F G hS hl.1 (c_X6_value l g σ τ 1 (6 : Int32) q1 h_q1) lk_X7_110 ⟨rfl, rfl, Nat.le_of_ble_eq_true rfl, Nat.le_of_ble_eq_true rfl⟩ (rc_X6 G hS rfl) rfl rfl (Nat.le_of_ble_eq_true rfl) dX7_best_27 (kRi (fun H locs hS => ?_))
  refine lv_bipush (v := (-4 : Int32)) F.1 F.2.1 dX7_best_30 (by decide) ?_
  obtain ⟨q2, h_q2, h⟩ := bd h
  refine rNv F G hS hl.1 (c_X0_weighByOdds l g σ τ 1 q1 (-4 : Int32) q2 h_q2) lk_X7_196 ⟨rfl, rfl, Nat.le_of_ble_eq_true rfl, Nat.le_of_ble_eq_true rfl⟩ (rc_X0 G hS) rfl rfl (Nat.le_of_ble_eq_true rfl) dX7_best_32 (kBv (fun H locs hS => ?_))
  refine lv_bipush (v := (-4 : Int32)) F.1 F.2.1 dX7_best_35 (by decide) ?_
  refine lv_istore_n (lv' := [(2, .int (-4 : Int32)), (0, .ref (gA g 0)), (1, .int a1)]) F.1 F.2.1 dX7_best_37 rfl hl (by decide) rfl (fun ls hl => ?_)
  refine lv_lconst (v := (0 : Int64)) F.1 F.2.1 dX7_best_38 (by decide) ?_
  refine lv_lstore_n (lv' := [(3, .long (0 : Int64)), (2, .int (-4 : Int32)), (0, .ref (gA g 0)), (1, .int a1)]) F.1 F.2.1 dX7_best_39 rfl hl (by decide) rfl (fun ls hl => ?_)
  refine gs_X7_243 F G hS dX7_best_40 ?_
  refine lv_bipush (v := (8 : Int32)) F.1 F.2.1 dX7_best_43 (by decide) ?_
  obtain ⟨hin, h⟩ := gd h
  refine x_siald F G hS 101 (by decide) hin dX7_best_45 ?_
  obtain ⟨x3, e_x3, h⟩ := ltE h
  refine x_topi e_x3 ?_
  clear e_x3
  refine lv_istore (lv' := [(5, .int x3), (3, .long (0 : Int64)), (2, .int (-4 : Int32)), (0, .ref (gA g 0)), (1, .int a1)]) F.1 F.2.1 dX7_best_46 hl (by decide) rfl (fun ls hl => ?_)
  exact w_48 3000 q2.1 q2.2 (-4 : Int32) (0 : Int64) x3 h H locs _ hS (lv_sub hl [3, 4, 2, 1, 0] rfl)
