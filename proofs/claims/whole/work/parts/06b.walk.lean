def f_X2_isJointMissing_75 (σ : ZI)  : Nat → Int32 → Int32 → Option (Int32)
  | 0, _, _ => none
  | n + 1, v1, v2 => (f_X6_value σ 28 (2 : Int32)).bind (fun q5 => if q5 ≤ v2 then (some (0 : Int32)) else ((f_X7_at σ 33 v2).bind (fun q6 => if q6 ≤ v1 then (f_X2_isJointMissing_75 σ n v1 (v2 + (1 : Int32))) else (some (1 : Int32)))))
def f_X2_isJointMissing_38 (σ : ZI)  : Nat → Int32 → Int32 → Option (Int32)
  | 0, _, _ => none
  | n + 1, v1, v2 => (f_X6_value σ 28 (1 : Int32)).bind (fun q4 => if q4 ≤ v2 then (f_X2_isJointMissing_75 σ 3000 v1 (0 : Int32)) else ((f_X7_at σ 31 v2).bind (fun q7 => if q7 ≤ v1 then (f_X2_isJointMissing_38 σ n v1 (v2 + (1 : Int32))) else (some (1 : Int32)))))
def f_X2_isJointMissing (σ : ZI) : Option (Int32) := (f_X6_value σ 28 (0 : Int32)).bind (fun q1 => (f_X6_value σ 28 (5 : Int32)).bind (fun q2 => if q1 < q2 then (some (1 : Int32)) else ((f_X6_value σ 28 (4 : Int32)).bind (fun q3 => if (q3 >>> (q1 &&& 31)) = 0 then (f_X2_isJointMissing_38 σ 3000 q1 (0 : Int32)) else (some (1 : Int32))))))
abbrev rm_X2_isJointMissing : Room := { frames := 2, cells := 0, slots := 0, locals := 42 }
set_option maxHeartbeats 4000000 in
set_option maxRecDepth 100000 in
theorem c_X2_isJointMissing (l : Launch) (g : GG) (σ : ZI) (τ : ZL)  (res : Int32) (h : f_X2_isJointMissing σ = some res) : MI l yX2_isJointMissing cX2_isJointMissing 3 (some .boolean) rm_X2_isJointMissing g [.ref (gA g 39)] σ τ (fun (r : Int32) (u : ZI × ZL) => r = res ∧ u.1 = σ ∧ u.2 = τ) := by
  refine Met_in (by decide) (Nat.le_of_ble_eq_true rfl) ?_
  intro p e s m args below meth c F G hP hr0 hk0 ls hl
  have hS := WS.start hP
  have hl : lv_has ls 3 [(0, .ref (gA g 39))] := hl
  obtain ⟨H, hH⟩ : ∃ H, H = s.heap := ⟨_, rfl⟩
  rw [← hH] at hS ⊢
  clear hH hP
  rw [f_X2_isJointMissing] at h
  have w_75 : ∀ (n : Nat) (v1 : Int32) (v2 : Int32), f_X2_isJointMissing_75 σ n v1 v2 = some res → ∀ (H : Heap) (locs : List Loc) (ls : Array Slot), WS g σ τ s H locs → lv_has ls 3 [(0, .ref (gA g 39)), (1, .int v1), (2, .int v2)] → W p l e rm_X2_isJointMissing s m args below meth c H locs 0 0 (MQ below (va_Qi (fun (r : Int32) (u : ZI × ZL) => r = res ∧ u.1 = σ ∧ u.2 = τ) (WQ g) (AA g)) args s 0 0 (AA g)) (F0 m 75 ls []) := by
    intro n
    induction n with
    | zero => intro v1 v2 h; rw [f_X2_isJointMissing_75] at h; cases h
    | succ n ih =>
      intro v1 v2 h H locs ls hS hl
      rw [f_X2_isJointMissing_75] at h
      refine lv_iload_n F.1 F.2.1 dX2_isJointMissing_75 rfl (lv_at hl 2 rfl) ?_
      refine lv_aload_n F.1 F.2.1 dX2_isJointMissing_76 rfl (lv_at hl 0 rfl) ?_
      refine gf_X2_21 F G hS dX2_isJointMissing_77 ?_
      refine lv_iconst (v := (2 : Int32)) F.1 F.2.1 dX2_isJointMissing_80 (by decide) ?_
      obtain ⟨q5, h_q5, h⟩ := bd h
      refine rNi F G hS hl.1 (c_X6_value l g σ τ 28 (2 : Int32) q5 h_q5) lk_X2_65 ⟨rfl, rfl, Nat.le_of_ble_eq_true rfl, Nat.le_of_ble_eq_true rfl⟩ (rc_X6 G hS rfl) rfl rfl (Nat.le_of_ble_eq_true rfl) dX2_isJointMissing_81 (kRi (fun H locs hS => ?_))
      refine lv_icmp_ge (tgt := 110) F.1 F.2.1 dX2_isJointMissing_84 (by decide) (fun hc => ?_) (fun hc => ?_)
      · replace h := ifT h hc
        refine lv_iconst (v := (0 : Int32)) F.1 F.2.1 dX2_isJointMissing_110 (by decide) ?_
        exact e_z F hS (by decide) ⟨Option.some.inj h, rfl, rfl⟩ hr0 dX2_isJointMissing_111 hk0
      replace h := ifF h hc
      refine lv_aload_n F.1 F.2.1 dX2_isJointMissing_87 rfl (lv_at hl 0 rfl) ?_
      refine gf_X2_21 F G hS dX2_isJointMissing_88 ?_
      refine gf_X2_128 F G hS rfl dX2_isJointMissing_91 ?_
      refine lv_iload_n F.1 F.2.1 dX2_isJointMissing_94 rfl (lv_at hl 2 rfl) ?_
      obtain ⟨q6, h_q6, h⟩ := bd h
      refine rTi F G hS hl.1 (c_X7_at l g σ τ 33 v2 q6 h_q6) lk_X2_73 ⟨rfl, rfl, Nat.le_of_ble_eq_true rfl, Nat.le_of_ble_eq_true rfl⟩  rfl rfl (Nat.le_of_ble_eq_true rfl) dX2_isJointMissing_95 (kRi (fun H locs hS => ?_))
      refine lv_iload_n F.1 F.2.1 dX2_isJointMissing_98 rfl (lv_at hl 1 rfl) ?_
      refine lv_icmp_le (tgt := 104) F.1 F.2.1 dX2_isJointMissing_99 (by decide) (fun hc => ?_) (fun hc => ?_)
      rotate_left
      · replace h := ifF h hc
        refine lv_iconst (v := (1 : Int32)) F.1 F.2.1 dX2_isJointMissing_102 (by decide) ?_
        exact e_z F hS (by decide) ⟨Option.some.inj h, rfl, rfl⟩ hr0 dX2_isJointMissing_103 hk0
      replace h := ifT h hc
      refine lv_iinc (v := (v2 + (1 : Int32))) (lv' := [(2, .int (v2 + (1 : Int32))), (0, .ref (gA g 39)), (1, .int v1)]) F.1 F.2.1 dX2_isJointMissing_104 hl (k := 2) rfl rfl (by decide) rfl (fun ls hl => ?_)
      refine lv_goto (tgt := 75) F.1 F.2.1 dX2_isJointMissing_107 (by decide) ?_
      exact ih v1 (v2 + (1 : Int32)) h H locs _ hS (lv_sub hl [1, 2, 0] rfl)
  have w_38 : ∀ (n : Nat) (v1 : Int32) (v2 : Int32), f_X2_isJointMissing_38 σ n v1 v2 = some res → ∀ (H : Heap) (locs : List Loc) (ls : Array Slot), WS g σ τ s H locs → lv_has ls 3 [(0, .ref (gA g 39)), (1, .int v1), (2, .int v2)] → W p l e rm_X2_isJointMissing s m args below meth c H locs 0 0 (MQ below (va_Qi (fun (r : Int32) (u : ZI × ZL) => r = res ∧ u.1 = σ ∧ u.2 = τ) (WQ g) (AA g)) args s 0 0 (AA g)) (F0 m 38 ls []) := by
    intro n
    induction n with
    | zero => intro v1 v2 h; rw [f_X2_isJointMissing_38] at h; cases h
    | succ n ih =>
      intro v1 v2 h H locs ls hS hl
      rw [f_X2_isJointMissing_38] at h
      refine lv_iload_n F.1 F.2.1 dX2_isJointMissing_38 rfl (lv_at hl 2 rfl) ?_
      refine lv_aload_n F.1 F.2.1 dX2_isJointMissing_39 rfl (lv_at hl 0 rfl) ?_
      refine gf_X2_21 F G hS dX2_isJointMissing_40 ?_
      refine lv_iconst (v := (1 : Int32)) F.1 F.2.1 dX2_isJointMissing_43 (by decide) ?_
      obtain ⟨q4, h_q4, h⟩ := bd h
      refine rNi F G hS hl.1 (c_X6_value l g σ τ 28 (1 : Int32) q4 h_q4) lk_X2_65 ⟨rfl, rfl, Nat.le_of_ble_eq_true rfl, Nat.le_of_ble_eq_true rfl⟩ (rc_X6 G hS rfl) rfl rfl (Nat.le_of_ble_eq_true rfl) dX2_isJointMissing_44 (kRi (fun H locs hS => ?_))
      refine lv_icmp_ge (tgt := 73) F.1 F.2.1 dX2_isJointMissing_47 (by decide) (fun hc => ?_) (fun hc => ?_)
      · replace h := ifT h hc
        refine lv_iconst (v := (0 : Int32)) F.1 F.2.1 dX2_isJointMissing_73 (by decide) ?_
        refine lv_istore_n (lv' := [(2, .int (0 : Int32)), (0, .ref (gA g 39)), (1, .int v1)]) F.1 F.2.1 dX2_isJointMissing_74 rfl hl (by decide) rfl (fun ls hl => ?_)
        exact w_75 3000 v1 (0 : Int32) h H locs _ hS (lv_sub hl [1, 2, 0] rfl)
      replace h := ifF h hc
      refine lv_aload_n F.1 F.2.1 dX2_isJointMissing_50 rfl (lv_at hl 0 rfl) ?_
      refine gf_X2_21 F G hS dX2_isJointMissing_51 ?_
      refine gf_X2_119 F G hS rfl dX2_isJointMissing_54 ?_
      refine lv_iload_n F.1 F.2.1 dX2_isJointMissing_57 rfl (lv_at hl 2 rfl) ?_
      obtain ⟨q7, h_q7, h⟩ := bd h
      refine rTi F G hS hl.1 (c_X7_at l g σ τ 31 v2 q7 h_q7) lk_X2_73 ⟨rfl, rfl, Nat.le_of_ble_eq_true rfl, Nat.le_of_ble_eq_true rfl⟩  rfl rfl (Nat.le_of_ble_eq_true rfl) dX2_isJointMissing_58 (kRi (fun H locs hS => ?_))
      refine lv_iload_n F.1 F.2.1 dX2_isJointMissing_61 rfl (lv_at hl 1 rfl) ?_
      refine lv_icmp_le (tgt := 67) F.1 F.2.1 dX2_isJointMissing_62 (by decide) (fun hc => ?_) (fun hc => ?_)
      rotate_left
      · replace h := ifF h hc
        refine lv_iconst (v := (1 : Int32)) F.1 F.2.1 dX2_isJointMissing_65 (by decide) ?_
        exact e_z F hS (by decide) ⟨Option.some.inj h, rfl, rfl⟩ hr0 dX2_isJointMissing_66 hk0
      replace h := ifT h hc
      refine lv_iinc (v := (v2 + (1 : Int32))) (lv' := [(2, .int (v2 + (1 : Int32))), (0, .ref (gA g 39)), (1, .int v1)]) F.1 F.2.1 dX2_isJointMissing_67 hl (k := 2) rfl rfl (by decide) rfl (fun ls hl => ?_)
      refine lv_goto (tgt := 38) F.1 F.2.1 dX2_isJointMissing_70 (by decide) ?_
      exact ih v1 (v2 + (1 : Int32)) h H locs _ hS (lv_sub hl [1, 2, 0] rfl)
  obtain ⟨locs, hlo⟩ : ∃ z : List Loc, z = [] := ⟨_, rfl⟩
  rw [← hlo] at hS ⊢
  clear hlo
  refine lv_aload_n F.1 F.2.1 dX2_isJointMissing_0 rfl (lv_at hl 0 rfl) ?_
  refine gf_X2_21 F G hS dX2_isJointMissing_1 ?_
  refine lv_iconst (v := (0 : Int32)) F.1 F.2.1 dX2_isJointMissing_4 (by decide) ?_
  obtain ⟨q1, h_q1, h⟩ := bd h
  refine rNi F G hS hl.1 (c_X6_value l g σ τ 28 (0 : Int32) q1 h_q1) lk_X2_65 ⟨rfl, rfl, Nat.le_of_ble_eq_true rfl, Nat.le_of_ble_eq_true rfl⟩ (rc_X6 G hS rfl) rfl rfl (Nat.le_of_ble_eq_true rfl) dX2_isJointMissing_5 (kRi (fun H locs hS => ?_))
  refine lv_istore_n (lv' := [(1, .int q1), (0, .ref (gA g 39))]) F.1 F.2.1 dX2_isJointMissing_8 rfl hl (by decide) rfl (fun ls hl => ?_)
  refine lv_aload_n F.1 F.2.1 dX2_isJointMissing_9 rfl (lv_at hl 1 rfl) ?_
  refine gf_X2_21 F G hS dX2_isJointMissing_10 ?_
  refine lv_iconst (v := (5 : Int32)) F.1 F.2.1 dX2_isJointMissing_13 (by decide) ?_
  obtain ⟨q2, h_q2, h⟩ := bd h
  refine rNi F G hS hl.1 (c_X6_value l g σ τ 28 (5 : Int32) q2 h_q2) lk_X2_65 ⟨rfl, rfl, Nat.le_of_ble_eq_true rfl, Nat.le_of_ble_eq_true rfl⟩ (rc_X6 G hS rfl) rfl rfl (Nat.le_of_ble_eq_true rfl) dX2_isJointMissing_14 (kRi (fun H locs hS => ?_))
  refine lv_iload_n F.1 F.2.1 dX2_isJointMissing_17 rfl (lv_at hl 0 rfl) ?_
  refine lv_icmp_gt (tgt := 34) F.1 F.2.1 dX2_isJointMissing_18 (by decide) (fun hc => ?_) (fun hc => ?_)
  · replace h := ifT h hc
    refine lv_iconst (v := (1 : Int32)) F.1 F.2.1 dX2_isJointMissing_34 (by decide) ?_
    exact e_z F hS (by decide) ⟨Option.some.inj h, rfl, rfl⟩ hr0 dX2_isJointMissing_35 hk0
  replace h := ifF h hc
  refine lv_aload_n F.1 F.2.1 dX2_isJointMissing_21 rfl (lv_at hl 1 rfl) ?_
  refine gf_X2_21 F G hS dX2_isJointMissing_22 ?_
  refine lv_iconst (v := (4 : Int32)) F.1 F.2.1 dX2_isJointMissing_25 (by decide) ?_
  obtain ⟨q3, h_q3, h⟩ := bd h
  refine rNi F G hS hl.1 (c_X6_value l g σ τ 28 (4 : Int32) q3 h_q3) lk_X2_65 ⟨rfl, rfl, Nat.le_of_ble_eq_true rfl, Nat.le_of_ble_eq_true rfl⟩ (rc_X6 G hS rfl) rfl rfl (Nat.le_of_ble_eq_true rfl) dX2_isJointMissing_26 (kRi (fun H locs hS => ?_))
  refine lv_iload_n F.1 F.2.1 dX2_isJointMissing_29 rfl (lv_at hl 0 rfl) ?_
  refine lv_ishr F.1 F.2.1 dX2_isJointMissing_30 ?_
  refine lv_if_eq (tgt := 36) F.1 F.2.1 dX2_isJointMissing_31 (by decide) (fun hc => ?_) (fun hc => ?_)
  rotate_left
  · replace h := ifF h hc
    refine lv_iconst (v := (1 : Int32)) F.1 F.2.1 dX2_isJointMissing_34 (by decide) ?_
    exact e_z F hS (by decide) ⟨Option.some.inj h, rfl, rfl⟩ hr0 dX2_isJointMissing_35 hk0
  replace h := ifT h hc
  refine lv_iconst (v := (0 : Int32)) F.1 F.2.1 dX2_isJointMissing_36 (by decide) ?_
  refine lv_istore_n (lv' := [(2, .int (0 : Int32)), (1, .int q1), (0, .ref (gA g 39))]) F.1 F.2.1 dX2_isJointMissing_37 rfl hl (by decide) rfl (fun ls hl => ?_)
  exact w_38 3000 q1 (0 : Int32) h H locs _ hS (lv_sub hl [2, 1, 0] rfl)
def f_X2_finish (σ : ZI) : Option (ZI) := if (σ 39 3) = 0 then ((f_X2_isJointMissing σ).bind (fun q1 => if q1 = 0 then (some σ) else (lt_ (va_up σ 39 (upd (σ 39) 3 (6 : Int32))) (fun σ2 => lt_ (va_up σ2 39 (upd (σ2 39) 4 (σ2 37 1))) (fun σ3 => some σ3))))) else (some σ)
abbrev rm_X2_finish : Room := { frames := 3, cells := 0, slots := 0, locals := 64 }
set_option maxHeartbeats 4000000 in
set_option maxRecDepth 100000 in
theorem c_X2_finish (l : Launch) (g : GG) (σ : ZI) (τ : ZL)  (res : ZI) (h : f_X2_finish σ = some res) : MV l yX2_finish cX2_finish 1 none rm_X2_finish g [.ref (gA g 39)] σ τ (fun (u : ZI × ZL) => u.1 = res ∧ u.2 = τ) := by
  refine Met_in (by decide) (Nat.le_of_ble_eq_true rfl) ?_
  intro p e s m args below meth c F G hP hr0 hk0 ls hl
  have hS := WS.start hP
  have hl : lv_has ls 1 [(0, .ref (gA g 39))] := hl
  obtain ⟨H, hH⟩ : ∃ H, H = s.heap := ⟨_, rfl⟩
  rw [← hH] at hS ⊢
  clear hH hP
  rw [f_X2_finish] at h
  obtain ⟨locs, hlo⟩ : ∃ z : List Loc, z = [] := ⟨_, rfl⟩
  rw [← hlo] at hS ⊢
  clear hlo
  refine lv_aload_n F.1 F.2.1 dX2_finish_0 rfl (lv_at hl 0 rfl) ?_
  refine gf_X2_35 F G hS dX2_finish_1 ?_
  refine lv_if_ne (tgt := 31) F.1 F.2.1 dX2_finish_4 (by decide) (fun hc => ?_) (fun hc => ?_)
  · replace h := ifF h hc
    exact e_v F hS ⟨Option.some.inj h, rfl⟩ hr0 dX2_finish_31 hk0
  replace h := ifT h hc
  refine lv_aload_n F.1 F.2.1 dX2_finish_7 rfl (lv_at hl 0 rfl) ?_
  obtain ⟨q1, h_q1, h⟩ := bd h
  refine rVi F G hS hl.1 (c_X2_isJointMissing l g σ τ q1 h_q1) lk_X2_38 ⟨rfl, rfl, Nat.le_of_ble_eq_true rfl, Nat.le_of_ble_eq_true rfl⟩ (rc_X2 G hS) rfl rfl (Nat.le_of_ble_eq_true rfl) dX2_finish_8 (kRi (fun H locs hS => ?_))
  refine lv_if_eq (tgt := 31) F.1 F.2.1 dX2_finish_11 (by decide) (fun hc => ?_) (fun hc => ?_)
  · replace h := ifT h hc
    exact e_v F hS ⟨Option.some.inj h, rfl⟩ hr0 dX2_finish_31 hk0
  replace h := ifF h hc
  refine lv_aload_n F.1 F.2.1 dX2_finish_14 rfl (lv_at hl 0 rfl) ?_
  refine lv_bipush (v := (6 : Int32)) F.1 F.2.1 dX2_finish_15 (by decide) ?_
  refine pf_X2_35 F G hS dX2_finish_17 (fun H locs hS => ?_)
  obtain ⟨σ2, e_σ2, h⟩ := ltE h
  rw [← e_σ2] at hS
  clear e_σ2
  refine lv_aload_n F.1 F.2.1 dX2_finish_20 rfl (lv_at hl 0 rfl) ?_
  refine lv_aload_n F.1 F.2.1 dX2_finish_21 rfl (lv_at hl 0 rfl) ?_
  refine gf_X2_12 F G hS dX2_finish_22 ?_
  refine gf_X2_42 F G hS dX2_finish_25 ?_
  refine pf_X2_45 F G hS dX2_finish_28 (fun H locs hS => ?_)
  obtain ⟨σ3, e_σ3, h⟩ := ltE h
  rw [← e_σ3] at hS
  clear e_σ3
  exact e_v F hS ⟨Option.some.inj h, rfl⟩ hr0 dX2_finish_31 hk0
def f_X6_take (σ : ZI) (b : Nat) (b1 : Nat) : Option (ZI) := if (ar b).1 = 11 then (if (ar b1).1 = 11 then (if (ar (b1 + 1)).1 = 1 ∧ (ar (b + 1)).1 = 1 ∧ 13 ≤ (ar (b1 + 1)).2 ∧ 13 ≤ (ar (b + 1)).2 then (lt_ (va_up σ (b + 1) (va_cpy (σ (b1 + 1)) (σ (b + 1)) 0 0 13)) (fun σ1 => if (ar (b1 + 2)).1 = 1 ∧ (ar (b + 2)).1 = 1 ∧ 3 ≤ (ar (b1 + 2)).2 ∧ 3 ≤ (ar (b + 2)).2 then (lt_ (va_up σ1 (b + 2) (va_cpy (σ1 (b1 + 2)) (σ1 (b + 2)) 0 0 3)) (fun σ2 => if (ar (b1 + 3)).1 = 1 ∧ (ar (b + 3)).1 = 1 ∧ 3 ≤ (ar (b1 + 3)).2 ∧ 3 ≤ (ar (b + 3)).2 then (lt_ (va_up σ2 (b + 3) (va_cpy (σ2 (b1 + 3)) (σ2 (b + 3)) 0 0 3)) (fun σ3 => if (ar (b1 + 4)).1 = 1 ∧ (ar (b + 4)).1 = 1 ∧ 3 ≤ (ar (b1 + 4)).2 ∧ 3 ≤ (ar (b + 4)).2 then (lt_ (va_up σ3 (b + 4) (va_cpy (σ3 (b1 + 4)) (σ3 (b + 4)) 0 0 3)) (fun σ4 => if (ar (b1 + 5)).1 = 1 ∧ (ar (b + 5)).1 = 1 ∧ 3 ≤ (ar (b1 + 5)).2 ∧ 3 ≤ (ar (b + 5)).2 then (lt_ (va_up σ4 (b + 5) (va_cpy (σ4 (b1 + 5)) (σ4 (b + 5)) 0 0 3)) (fun σ5 => if (ar (b1 + 6)).1 = 1 ∧ (ar (b + 6)).1 = 1 ∧ 3 ≤ (ar (b1 + 6)).2 ∧ 3 ≤ (ar (b + 6)).2 then (lt_ (va_up σ5 (b + 6) (va_cpy (σ5 (b1 + 6)) (σ5 (b + 6)) 0 0 3)) (fun σ6 => if (ar (b1 + 7)).1 = 1 ∧ (ar (b + 7)).1 = 1 ∧ 5 ≤ (ar (b1 + 7)).2 ∧ 5 ≤ (ar (b + 7)).2 then (lt_ (va_up σ6 (b + 7) (va_cpy (σ6 (b1 + 7)) (σ6 (b + 7)) 0 0 5)) (fun σ7 => if (ar (b1 + 8)).1 = 1 ∧ (ar (b + 8)).1 = 1 ∧ 5 ≤ (ar (b1 + 8)).2 ∧ 5 ≤ (ar (b + 8)).2 then (lt_ (va_up σ7 (b + 8) (va_cpy (σ7 (b1 + 8)) (σ7 (b + 8)) 0 0 5)) (fun σ8 => some σ8)) else none)) else none)) else none)) else none)) else none)) else none)) else none)) else none) else none) else none
abbrev rm_X6_take : Room := { frames := 1, cells := 0, slots := 0, locals := 40 }
set_option maxHeartbeats 4000000 in
set_option maxRecDepth 100000 in
theorem c_X6_take (l : Launch) (g : GG) (σ : ZI) (τ : ZL) (b : Nat) (b1 : Nat) (res : ZI) (h : f_X6_take σ b b1 = some res) : MV l yX6_take cX6_take 2 none rm_X6_take g [.ref (gA g b), .ref (gA g b1)] σ τ (fun (u : ZI × ZL) => u.1 = res ∧ u.2 = τ) := by
  refine Met_in (by decide) (Nat.le_of_ble_eq_true rfl) ?_
  intro p e s m args below meth c F G hP hr0 hk0 ls hl
  have hS := WS.start hP
  have hl : lv_has ls 2 [(0, .ref (gA g b)), (1, .ref (gA g b1))] := hl
  obtain ⟨H, hH⟩ : ∃ H, H = s.heap := ⟨_, rfl⟩
  rw [← hH] at hS ⊢
  clear hH hP
  rw [f_X6_take] at h
  obtain ⟨hg_b, h⟩ := gd h
  obtain ⟨hg_b1, h⟩ := gd h
  obtain ⟨locs, hlo⟩ : ∃ z : List Loc, z = [] := ⟨_, rfl⟩
  rw [← hlo] at hS ⊢
  clear hlo
  refine lv_aload_n F.1 F.2.1 dX6_take_0 rfl (lv_at hl 1 rfl) ?_
  refine gf_X6_9 F G hS hg_b1 dX6_take_1 ?_
  refine lv_iconst (v := (0 : Int32)) F.1 F.2.1 dX6_take_4 (by decide) ?_
  refine lv_aload_n F.1 F.2.1 dX6_take_5 rfl (lv_at hl 0 rfl) ?_
  refine gf_X6_9 F G hS hg_b dX6_take_6 ?_
  refine lv_iconst (v := (0 : Int32)) F.1 F.2.1 dX6_take_9 (by decide) ?_
  refine lv_bipush (v := (13 : Int32)) F.1 F.2.1 dX6_take_10 (by decide) ?_
  obtain ⟨hr, h⟩ := gd h
  refine x_copy F G hS (F.2.2.1.trans hl.1.symm) ⟨F.2.2.2.2 _ tb_146, F.2.2.2.2 _ tb_148, F.2.2.2.2 _ tb_147, F.2.2.2.2 _ tb_111⟩ 13 (b1 + 1) (b + 1) hr.1 hr.2.1 hr.2.2.1 hr.2.2.2 (by decide) rfl (Nat.le_of_ble_eq_true rfl) (Nat.le_of_ble_eq_true rfl) dX6_take_12 (fun H locs hS => ?_)
  obtain ⟨σ1, e_σ1, h⟩ := ltE h
  rw [← e_σ1] at hS
  clear e_σ1
  refine lv_aload_n F.1 F.2.1 dX6_take_15 rfl (lv_at hl 1 rfl) ?_
  refine gf_X6_15 F G hS hg_b1 dX6_take_16 ?_
  refine lv_iconst (v := (0 : Int32)) F.1 F.2.1 dX6_take_19 (by decide) ?_
  refine lv_aload_n F.1 F.2.1 dX6_take_20 rfl (lv_at hl 0 rfl) ?_
  refine gf_X6_15 F G hS hg_b dX6_take_21 ?_
  refine lv_iconst (v := (0 : Int32)) F.1 F.2.1 dX6_take_24 (by decide) ?_
  refine lv_iconst (v := (3 : Int32)) F.1 F.2.1 dX6_take_25 (by decide) ?_
  obtain ⟨hr, h⟩ := gd h
  refine x_copy F G hS (F.2.2.1.trans hl.1.symm) ⟨F.2.2.2.2 _ tb_146, F.2.2.2.2 _ tb_148, F.2.2.2.2 _ tb_147, F.2.2.2.2 _ tb_111⟩ 3 (b1 + 2) (b + 2) hr.1 hr.2.1 hr.2.2.1 hr.2.2.2 (by decide) rfl (Nat.le_of_ble_eq_true rfl) (Nat.le_of_ble_eq_true rfl) dX6_take_26 (fun H locs hS => ?_)
  obtain ⟨σ2, e_σ2, h⟩ := ltE h
  rw [← e_σ2] at hS
  clear e_σ2
  refine lv_aload_n F.1 F.2.1 dX6_take_29 rfl (lv_at hl 1 rfl) ?_
  refine gf_X6_18 F G hS hg_b1 dX6_take_30 ?_
  refine lv_iconst (v := (0 : Int32)) F.1 F.2.1 dX6_take_33 (by decide) ?_
  refine lv_aload_n F.1 F.2.1 dX6_take_34 rfl (lv_at hl 0 rfl) ?_
  refine gf_X6_18 F G hS hg_b dX6_take_35 ?_
  refine lv_iconst (v := (0 : Int32)) F.1 F.2.1 dX6_take_38 (by decide) ?_
  refine lv_iconst (v := (3 : Int32)) F.1 F.2.1 dX6_take_39 (by decide) ?_
  obtain ⟨hr, h⟩ := gd h
  refine x_copy F G hS (F.2.2.1.trans hl.1.symm) ⟨F.2.2.2.2 _ tb_146, F.2.2.2.2 _ tb_148, F.2.2.2.2 _ tb_147, F.2.2.2.2 _ tb_111⟩ 3 (b1 + 3) (b + 3) hr.1 hr.2.1 hr.2.2.1 hr.2.2.2 (by decide) rfl (Nat.le_of_ble_eq_true rfl) (Nat.le_of_ble_eq_true rfl) dX6_take_40 (fun H locs hS => ?_)
  obtain ⟨σ3, e_σ3, h⟩ := ltE h
  rw [← e_σ3] at hS
  clear e_σ3
  refine lv_aload_n F.1 F.2.1 dX6_take_43 rfl (lv_at hl 1 rfl) ?_
  refine gf_X6_21 F G hS hg_b1 dX6_take_44 ?_
  refine lv_iconst (v := (0 : Int32)) F.1 F.2.1 dX6_take_47 (by decide) ?_
  refine lv_aload_n F.1 F.2.1 dX6_take_48 rfl (lv_at hl 0 rfl) ?_
  refine gf_X6_21 F G hS hg_b dX6_take_49 ?_
  refine lv_iconst (v := (0 : Int32)) F.1 F.2.1 dX6_take_52 (by decide) ?_
  refine lv_iconst (v := (3 : Int32)) F.1 F.2.1 dX6_take_53 (by decide) ?_
  obtain ⟨hr, h⟩ := gd h
  refine x_copy F G hS (F.2.2.1.trans hl.1.symm) ⟨F.2.2.2.2 _ tb_146, F.2.2.2.2 _ tb_148, F.2.2.2.2 _ tb_147, F.2.2.2.2 _ tb_111⟩ 3 (b1 + 4) (b + 4) hr.1 hr.2.1 hr.2.2.1 hr.2.2.2 (by decide) rfl (Nat.le_of_ble_eq_true rfl) (Nat.le_of_ble_eq_true rfl) dX6_take_54 (fun H locs hS => ?_)
  obtain ⟨σ4, e_σ4, h⟩ := ltE h
  rw [← e_σ4] at hS
  clear e_σ4
  refine lv_aload_n F.1 F.2.1 dX6_take_57 rfl (lv_at hl 1 rfl) ?_
  refine gf_X6_24 F G hS hg_b1 dX6_take_58 ?_
  refine lv_iconst (v := (0 : Int32)) F.1 F.2.1 dX6_take_61 (by decide) ?_
  refine lv_aload_n F.1 F.2.1 dX6_take_62 rfl (lv_at hl 0 rfl) ?_
  refine gf_X6_24 F G hS hg_b dX6_take_63 ?_
  refine lv_iconst (v := (0 : Int32)) F.1 F.2.1 dX6_take_66 (by decide) ?_
  refine lv_iconst (v := (3 : Int32)) F.1 F.2.1 dX6_take_67 (by decide) ?_
  obtain ⟨hr, h⟩ := gd h
  refine x_copy F G hS (F.2.2.1.trans hl.1.symm) ⟨F.2.2.2.2 _ tb_146, F.2.2.2.2 _ tb_148, F.2.2.2.2 _ tb_147, F.2.2.2.2 _ tb_111⟩ 3 (b1 + 5) (b + 5) hr.1 hr.2.1 hr.2.2.1 hr.2.2.2 (by decide) rfl (Nat.le_of_ble_eq_true rfl) (Nat.le_of_ble_eq_true rfl) dX6_take_68 (fun H locs hS => ?_)
  obtain ⟨σ5, e_σ5, h⟩ := ltE h
  rw [← e_σ5] at hS
  clear e_σ5
  refine lv_aload_n F.1 F.2.1 dX6_take_71 rfl (lv_at hl 1 rfl) ?_
  refine gf_X6_27 F G hS hg_b1 dX6_take_72 ?_
  refine lv_iconst (v := (0 : Int32)) F.1 F.2.1 dX6_take_75 (by decide) ?_
  refine lv_aload_n F.1 F.2.1 dX6_take_76 rfl (lv_at hl 0 rfl) ?_
  refine gf_X6_27 F G hS hg_b dX6_take_77 ?_
  refine lv_iconst (v := (0 : Int32)) F.1 F.2.1 dX6_take_80 (by decide) ?_
  refine lv_iconst (v := (3 : Int32)) F.1 F.2.1 dX6_take_81 (by decide) ?_
  obtain ⟨hr, h⟩ := gd h
  refine x_copy F G hS (F.2.2.1.trans hl.1.symm) ⟨F.2.2.2.2 _ tb_146, F.2.2.2.2 _ tb_148, F.2.2.2.2 _ tb_147, F.2.2.2.2 _ tb_111⟩ 3 (b1 + 6) (b + 6) hr.1 hr.2.1 hr.2.2.1 hr.2.2.2 (by decide) rfl (Nat.le_of_ble_eq_true rfl) (Nat.le_of_ble_eq_true rfl) dX6_take_82 (fun H locs hS => ?_)
  obtain ⟨σ6, e_σ6, h⟩ := ltE h
  rw [← e_σ6] at hS
  clear e_σ6
  refine lv_aload_n F.1 F.2.1 dX6_take_85 rfl (lv_at hl 1 rfl) ?_
  refine gf_X6_30 F G hS hg_b1 dX6_take_86 ?_
  refine lv_iconst (v := (0 : Int32)) F.1 F.2.1 dX6_take_89 (by decide) ?_
  refine lv_aload_n F.1 F.2.1 dX6_take_90 rfl (lv_at hl 0 rfl) ?_
  refine gf_X6_30 F G hS hg_b dX6_take_91 ?_
  refine lv_iconst (v := (0 : Int32)) F.1 F.2.1 dX6_take_94 (by decide) ?_
  refine lv_iconst (v := (5 : Int32)) F.1 F.2.1 dX6_take_95 (by decide) ?_
  obtain ⟨hr, h⟩ := gd h
  refine x_copy F G hS (F.2.2.1.trans hl.1.symm) ⟨F.2.2.2.2 _ tb_146, F.2.2.2.2 _ tb_148, F.2.2.2.2 _ tb_147, F.2.2.2.2 _ tb_111⟩ 5 (b1 + 7) (b + 7) hr.1 hr.2.1 hr.2.2.1 hr.2.2.2 (by decide) rfl (Nat.le_of_ble_eq_true rfl) (Nat.le_of_ble_eq_true rfl) dX6_take_96 (fun H locs hS => ?_)
  obtain ⟨σ7, e_σ7, h⟩ := ltE h
  rw [← e_σ7] at hS
  clear e_σ7
  refine lv_aload_n F.1 F.2.1 dX6_take_99 rfl (lv_at hl 1 rfl) ?_
  refine gf_X6_33 F G hS hg_b1 dX6_take_100 ?_
  refine lv_iconst (v := (0 : Int32)) F.1 F.2.1 dX6_take_103 (by decide) ?_
  refine lv_aload_n F.1 F.2.1 dX6_take_104 rfl (lv_at hl 0 rfl) ?_
  refine gf_X6_33 F G hS hg_b dX6_take_105 ?_
  refine lv_iconst (v := (0 : Int32)) F.1 F.2.1 dX6_take_108 (by decide) ?_
  refine lv_iconst (v := (5 : Int32)) F.1 F.2.1 dX6_take_109 (by decide) ?_
  obtain ⟨hr, h⟩ := gd h
  refine x_copy F G hS (F.2.2.1.trans hl.1.symm) ⟨F.2.2.2.2 _ tb_146, F.2.2.2.2 _ tb_148, F.2.2.2.2 _ tb_147, F.2.2.2.2 _ tb_111⟩ 5 (b1 + 8) (b + 8) hr.1 hr.2.1 hr.2.2.1 hr.2.2.2 (by decide) rfl (Nat.le_of_ble_eq_true rfl) (Nat.le_of_ble_eq_true rfl) dX6_take_110 (fun H locs hS => ?_)
  obtain ⟨σ8, e_σ8, h⟩ := ltE h
  rw [← e_σ8] at hS
  clear e_σ8
  exact e_v F hS ⟨Option.some.inj h, rfl⟩ hr0 dX6_take_113 hk0
def f_X7_text_32   (σ : ZI) (v1 : Int32) : Option (Int32 × ZI) := (f_X2_finish σ).bind (fun q2 => lt_ (va_up q2 37 (upd (q2 37) 1 (0 : Int32))) (fun σ3 => lt_ (va_up σ3 0 (upd (σ3 0) 6 (σ3 39 3))) (fun σ4 => if (σ4 0 6) = 0 then ((f_X6_take σ4 1 28).bind (fun q5 => lt_ (va_up q5 51 (upd (q5 51) 2 (0 : Int32))) (fun σ6 => lt_ (va_up σ6 0 (upd (σ6 0) 3 (0 : Int32))) (fun σ7 => some (v1, σ7))))) else (some (((-10 : Int32) - (σ4 39 4)), σ4)))))
def f_X7_text_9   : Nat → ZI → Int32 → Option (Int32 × ZI)
  | 0, _, _ => none
  | n + 1, σ, v1 => if (160 : Int32) ≤ v1 then (f_X7_text_32 σ v1) else ((f_X2_readLine σ).bind (fun q8 => if q8.1 = 0 then (f_X7_text_32 q8.2 v1) else (f_X7_text_9 n q8.2 (v1 + (1 : Int32)))))
def f_X7_text (σ : ZI) : Option (Int32 × ZI) := (f_X2_start σ).bind (fun q1 => f_X7_text_9 3000 q1 (0 : Int32))
abbrev rm_X7_text : Room := { frames := 8, cells := 0, slots := 0, locals := 172 }
set_option maxHeartbeats 4000000 in
set_option maxRecDepth 100000 in
theorem c_X7_text (l : Launch) (g : GG) (σ : ZI) (τ : ZL)  (res : Int32 × ZI) (h : f_X7_text σ = some res) : MI l yX7_text cX7_text 2 (some .int) rm_X7_text g [.ref (gA g 0)] σ τ (fun (r : Int32) (u : ZI × ZL) => (r, u.1) = res ∧ u.2 = τ) := by
  refine Met_in (by decide) (Nat.le_of_ble_eq_true rfl) ?_
  intro p e s m args below meth c F G hP hr0 hk0 ls hl
  have hS := WS.start hP
  have hl : lv_has ls 2 [(0, .ref (gA g 0))] := hl
  obtain ⟨H, hH⟩ : ∃ H, H = s.heap := ⟨_, rfl⟩
  rw [← hH] at hS ⊢
  clear hH hP
  rw [f_X7_text] at h
  have w_32 : ∀ (σ : ZI) (v1 : Int32), f_X7_text_32 σ v1 = some res → ∀ (H : Heap) (locs : List Loc) (ls : Array Slot), WS g σ τ s H locs → lv_has ls 2 [(0, .ref (gA g 0)), (1, .int v1)] → W p l e rm_X7_text s m args below meth c H locs 0 0 (MQ below (va_Qi (fun (r : Int32) (u : ZI × ZL) => (r, u.1) = res ∧ u.2 = τ) (WQ g) (AA g)) args s 0 0 (AA g)) (F0 m 32 ls []) := by
    intro  σ v1 h H locs ls hS hl
    rw [f_X7_text_32] at h
    refine lv_aload_n F.1 F.2.1 dX7_text_32 rfl (lv_at hl 0 rfl) ?_
    refine gf_X7_25 F G hS dX7_text_33 ?_
    obtain ⟨q2, h_q2, h⟩ := bd h
    refine rNv F G hS hl.1 (c_X2_finish l g σ τ q2 h_q2) lk_X7_85 ⟨rfl, rfl, Nat.le_of_ble_eq_true rfl, Nat.le_of_ble_eq_true rfl⟩ (rc_X2 G hS) rfl rfl (Nat.le_of_ble_eq_true rfl) dX7_text_36 (kIv (fun H locs hS => ?_))
    refine lv_aload_n F.1 F.2.1 dX7_text_39 rfl (lv_at hl 0 rfl) ?_
    refine gf_X7_33 F G hS dX7_text_40 ?_
    refine lv_iconst (v := (0 : Int32)) F.1 F.2.1 dX7_text_43 (by decide) ?_
    refine pf_X7_74 F G hS dX7_text_44 (fun H locs hS => ?_)
    obtain ⟨σ3, e_σ3, h⟩ := ltE h
    rw [← e_σ3] at hS
    clear e_σ3
    refine lv_aload_n F.1 F.2.1 dX7_text_47 rfl (lv_at hl 0 rfl) ?_
    refine lv_aload_n F.1 F.2.1 dX7_text_48 rfl (lv_at hl 0 rfl) ?_
    refine gf_X7_25 F G hS dX7_text_49 ?_
    refine gf_X7_88 F G hS dX7_text_52 ?_
    refine pf_X7_91 F G hS dX7_text_55 (fun H locs hS => ?_)
    obtain ⟨σ4, e_σ4, h⟩ := ltE h
    rw [← e_σ4] at hS
    clear e_σ4
    refine lv_aload_n F.1 F.2.1 dX7_text_58 rfl (lv_at hl 0 rfl) ?_
    refine gf_X7_91 F G hS dX7_text_59 ?_
    refine lv_if_eq (tgt := 76) F.1 F.2.1 dX7_text_62 (by decide) (fun hc => ?_) (fun hc => ?_)
    rotate_left
    · replace h := ifF h hc
      refine lv_bipush (v := (-10 : Int32)) F.1 F.2.1 dX7_text_65 (by decide) ?_
      refine lv_aload_n F.1 F.2.1 dX7_text_67 rfl (lv_at hl 0 rfl) ?_
      refine gf_X7_25 F G hS dX7_text_68 ?_
      refine gf_X7_94 F G hS dX7_text_71 ?_
      refine lv_isub F.1 F.2.1 dX7_text_74 ?_
      exact e_i F hS ⟨Option.some.inj h, rfl⟩ hr0 dX7_text_75 hk0
    replace h := ifT h hc
    refine lv_aload_n F.1 F.2.1 dX7_text_76 rfl (lv_at hl 0 rfl) ?_
    refine gf_X7_10 F G hS dX7_text_77 ?_
    refine lv_aload_n F.1 F.2.1 dX7_text_80 rfl (lv_at hl 0 rfl) ?_
    refine gf_X7_25 F G hS dX7_text_81 ?_
    refine gf_X7_97 F G hS dX7_text_84 ?_
    obtain ⟨q5, h_q5, h⟩ := bd h
    refine rNv F G hS hl.1 (c_X6_take l g σ4 τ 1 28 q5 h_q5) lk_X7_100 ⟨rfl, rfl, Nat.le_of_ble_eq_true rfl, Nat.le_of_ble_eq_true rfl⟩ (rc_X6 G hS rfl) rfl rfl (Nat.le_of_ble_eq_true rfl) dX7_text_87 (kIv (fun H locs hS => ?_))
    refine lv_aload_n F.1 F.2.1 dX7_text_90 rfl (lv_at hl 0 rfl) ?_
    refine gf_X7_53 F G hS dX7_text_91 ?_
    refine lv_iconst (v := (0 : Int32)) F.1 F.2.1 dX7_text_94 (by decide) ?_
    refine pf_X7_104 F G hS dX7_text_95 (fun H locs hS => ?_)
    obtain ⟨σ6, e_σ6, h⟩ := ltE h
    rw [← e_σ6] at hS
    clear e_σ6
    refine lv_aload_n F.1 F.2.1 dX7_text_98 rfl (lv_at hl 0 rfl) ?_
    refine lv_iconst (v := (0 : Int32)) F.1 F.2.1 dX7_text_99 (by decide) ?_
    refine pf_X7_107 F G hS dX7_text_100 (fun H locs hS => ?_)
    obtain ⟨σ7, e_σ7, h⟩ := ltE h
    rw [← e_σ7] at hS
    clear e_σ7
    refine lv_iload_n F.1 F.2.1 dX7_text_103 rfl (lv_at hl 1 rfl) ?_
    exact e_i F hS ⟨Option.some.inj h, rfl⟩ hr0 dX7_text_104 hk0
  have w_9 : ∀ (n : Nat) (σ : ZI) (v1 : Int32), f_X7_text_9 n σ v1 = some res → ∀ (H : Heap) (locs : List Loc) (ls : Array Slot), WS g σ τ s H locs → lv_has ls 2 [(0, .ref (gA g 0)), (1, .int v1)] → W p l e rm_X7_text s m args below meth c H locs 0 0 (MQ below (va_Qi (fun (r : Int32) (u : ZI × ZL) => (r, u.1) = res ∧ u.2 = τ) (WQ g) (AA g)) args s 0 0 (AA g)) (F0 m 9 ls []) := by
    intro n
    induction n with
    | zero => intro σ v1 h; rw [f_X7_text_9] at h; cases h
    | succ n ih =>
      intro σ v1 h H locs ls hS hl
      rw [f_X7_text_9] at h
      refine lv_iload_n F.1 F.2.1 dX7_text_9 rfl (lv_at hl 1 rfl) ?_
      refine lv_sipush (v := (160 : Int32)) F.1 F.2.1 dX7_text_10 (by decide) ?_
      refine lv_icmp_ge (tgt := 32) F.1 F.2.1 dX7_text_13 (by decide) (fun hc => ?_) (fun hc => ?_)
      · replace h := ifT h hc
        exact w_32 σ v1 h H locs _ hS (lv_sub hl [0, 1] rfl)
      replace h := ifF h hc
      refine lv_aload_n F.1 F.2.1 dX7_text_16 rfl (lv_at hl 0 rfl) ?_
      refine gf_X7_25 F G hS dX7_text_17 ?_
      obtain ⟨q8, h_q8, h⟩ := bd h
      refine rNi F G hS hl.1 (c_X2_readLine l g σ τ q8 h_q8) lk_X7_81 ⟨rfl, rfl, Nat.le_of_ble_eq_true rfl, Nat.le_of_ble_eq_true rfl⟩ (rc_X2 G hS) rfl rfl (Nat.le_of_ble_eq_true rfl) dX7_text_20 (kIi (fun H locs hS => ?_))
      refine lv_if_eq (tgt := 32) F.1 F.2.1 dX7_text_23 (by decide) (fun hc => ?_) (fun hc => ?_)
      · replace h := ifT h hc
        exact w_32 q8.2 v1 h H locs _ hS (lv_sub hl [0, 1] rfl)
      replace h := ifF h hc
      refine lv_iinc (v := (v1 + (1 : Int32))) (lv' := [(1, .int (v1 + (1 : Int32))), (0, .ref (gA g 0))]) F.1 F.2.1 dX7_text_26 hl (k := 1) rfl rfl (by decide) rfl (fun ls hl => ?_)
      refine lv_goto (tgt := 9) F.1 F.2.1 dX7_text_29 (by decide) ?_
      exact ih q8.2 (v1 + (1 : Int32)) h H locs _ hS (lv_sub hl [1, 0] rfl)
  obtain ⟨locs, hlo⟩ : ∃ z : List Loc, z = [] := ⟨_, rfl⟩
  rw [← hlo] at hS ⊢
  clear hlo
  refine lv_iconst (v := (0 : Int32)) F.1 F.2.1 dX7_text_0 (by decide) ?_
  refine lv_istore_n (lv' := [(1, .int (0 : Int32)), (0, .ref (gA g 0))]) F.1 F.2.1 dX7_text_1 rfl hl (by decide) rfl (fun ls hl => ?_)
  refine lv_aload_n F.1 F.2.1 dX7_text_2 rfl (lv_at hl 1 rfl) ?_
  refine gf_X7_25 F G hS dX7_text_3 ?_
  obtain ⟨q1, h_q1, h⟩ := bd h
  refine rNv F G hS hl.1 (c_X2_start l g σ τ q1 h_q1) lk_X7_78 ⟨rfl, rfl, Nat.le_of_ble_eq_true rfl, Nat.le_of_ble_eq_true rfl⟩ (rc_X2 G hS) rfl rfl (Nat.le_of_ble_eq_true rfl) dX7_text_6 (kIv (fun H locs hS => ?_))
  exact w_9 3000 q1 (0 : Int32) h H locs _ hS (lv_sub hl [1, 0] rfl)
def f_X7_fault (σ : ZI) : Option (Int32) := some (σ 0 6)
abbrev rm_X7_fault : Room := { frames := 0, cells := 0, slots := 0, locals := 0 }
set_option maxHeartbeats 4000000 in
set_option maxRecDepth 100000 in
theorem c_X7_fault (l : Launch) (g : GG) (σ : ZI) (τ : ZL)  (res : Int32) (h : f_X7_fault σ = some res) : MI l yX7_fault cX7_fault 1 (some .int) rm_X7_fault g [.ref (gA g 0)] σ τ (fun (r : Int32) (u : ZI × ZL) => r = res ∧ u.1 = σ ∧ u.2 = τ) := by
  refine Met_in (by decide) (Nat.le_of_ble_eq_true rfl) ?_
  intro p e s m args below meth c F G hP hr0 hk0 ls hl
  have hS := WS.start hP
  have hl : lv_has ls 1 [(0, .ref (gA g 0))] := hl
  obtain ⟨H, hH⟩ : ∃ H, H = s.heap := ⟨_, rfl⟩
  rw [← hH] at hS ⊢
  clear hH hP
  rw [f_X7_fault] at h
  obtain ⟨locs, hlo⟩ : ∃ z : List Loc, z = [] := ⟨_, rfl⟩
  rw [← hlo] at hS ⊢
  clear hlo
  refine lv_aload_n F.1 F.2.1 dX7_fault_0 rfl (lv_at hl 0 rfl) ?_
  refine gf_X7_91 F G hS dX7_fault_1 ?_
  exact e_i F hS ⟨Option.some.inj h, rfl, rfl⟩ hr0 dX7_fault_4 hk0
def f_X7_rule (σ : ZI) (a1 : Int32) : Option (Int32) := if a1 < 0 then (some (-1 : Int32)) else (if a1 < (13 : Int32) then ((f_X6_value σ 1 a1).bind (fun q1 => some q1)) else (some (-1 : Int32)))
abbrev rm_X7_rule : Room := { frames := 2, cells := 0, slots := 0, locals := 42 }
set_option maxHeartbeats 4000000 in
set_option maxRecDepth 100000 in
theorem c_X7_rule (l : Launch) (g : GG) (σ : ZI) (τ : ZL) (a1 : Int32) (res : Int32) (h : f_X7_rule σ a1 = some res) : MI l yX7_rule cX7_rule 2 (some .int) rm_X7_rule g [.ref (gA g 0), .int a1] σ τ (fun (r : Int32) (u : ZI × ZL) => r = res ∧ u.1 = σ ∧ u.2 = τ) := by
  refine Met_in (by decide) (Nat.le_of_ble_eq_true rfl) ?_
  intro p e s m args below meth c F G hP hr0 hk0 ls hl
  have hS := WS.start hP
  have hl : lv_has ls 2 [(0, .ref (gA g 0)), (1, .int a1)] := hl
  obtain ⟨H, hH⟩ : ∃ H, H = s.heap := ⟨_, rfl⟩
  rw [← hH] at hS ⊢
  clear hH hP
  rw [f_X7_rule] at h
  obtain ⟨locs, hlo⟩ : ∃ z : List Loc, z = [] := ⟨_, rfl⟩
  rw [← hlo] at hS ⊢
  clear hlo
  refine lv_iload_n F.1 F.2.1 dX7_rule_0 rfl (lv_at hl 1 rfl) ?_
  refine lv_if_lt (tgt := 10) F.1 F.2.1 dX7_rule_1 (by decide) (fun hc => ?_) (fun hc => ?_)
  · replace h := ifT h hc
    refine lv_iconst (v := (-1 : Int32)) F.1 F.2.1 dX7_rule_10 (by decide) ?_
    refine lv_goto (tgt := 22) F.1 F.2.1 dX7_rule_11 (by decide) ?_
    exact e_i F hS ⟨Option.some.inj h, rfl, rfl⟩ hr0 dX7_rule_22 hk0
  replace h := ifF h hc
  refine lv_iload_n F.1 F.2.1 dX7_rule_4 rfl (lv_at hl 1 rfl) ?_
  refine lv_bipush (v := (13 : Int32)) F.1 F.2.1 dX7_rule_5 (by decide) ?_
  refine lv_icmp_lt (tgt := 14) F.1 F.2.1 dX7_rule_7 (by decide) (fun hc => ?_) (fun hc => ?_)
  rotate_left
  · replace h := ifF h hc
    refine lv_iconst (v := (-1 : Int32)) F.1 F.2.1 dX7_rule_10 (by decide) ?_
    refine lv_goto (tgt := 22) F.1 F.2.1 dX7_rule_11 (by decide) ?_
    exact e_i F hS ⟨Option.some.inj h, rfl, rfl⟩ hr0 dX7_rule_22 hk0
  replace h := ifT h hc
  refine lv_aload_n F.1 F.2.1 dX7_rule_14 rfl (lv_at hl 0 rfl) ?_
  refine gf_X7_10 F G hS dX7_rule_15 ?_
  refine lv_iload_n F.1 F.2.1 dX7_rule_18 rfl (lv_at hl 1 rfl) ?_
  obtain ⟨q1, h_q1, h⟩ := bd h
  refine rNi F G hS hl.1 (c_X6_value l g σ τ 1 a1 q1 h_q1) lk_X7_110 ⟨rfl, rfl, Nat.le_of_ble_eq_true rfl, Nat.le_of_ble_eq_true rfl⟩ (rc_X6 G hS rfl) rfl rfl (Nat.le_of_ble_eq_true rfl) dX7_rule_19 (kRi (fun H locs hS => ?_))
  exact e_i F hS ⟨Option.some.inj h, rfl, rfl⟩ hr0 dX7_rule_22 hk0
def f_X7_isArm (σ : ZI) (a1 : Int32) : Option (Int32) := if a1 < 0 then (some (0 : Int32)) else ((f_X6_value σ 1 (1 : Int32)).bind (fun q1 => if q1 ≤ a1 then (some (0 : Int32)) else (some (1 : Int32))))
abbrev rm_X7_isArm : Room := { frames := 2, cells := 0, slots := 0, locals := 42 }
set_option maxHeartbeats 4000000 in
set_option maxRecDepth 100000 in
theorem c_X7_isArm (l : Launch) (g : GG) (σ : ZI) (τ : ZL) (a1 : Int32) (res : Int32) (h : f_X7_isArm σ a1 = some res) : MI l yX7_isArm cX7_isArm 2 (some .boolean) rm_X7_isArm g [.ref (gA g 0), .int a1] σ τ (fun (r : Int32) (u : ZI × ZL) => r = res ∧ u.1 = σ ∧ u.2 = τ) := by
  refine Met_in (by decide) (Nat.le_of_ble_eq_true rfl) ?_
  intro p e s m args below meth c F G hP hr0 hk0 ls hl
  have hS := WS.start hP
  have hl : lv_has ls 2 [(0, .ref (gA g 0)), (1, .int a1)] := hl
  obtain ⟨H, hH⟩ : ∃ H, H = s.heap := ⟨_, rfl⟩
  rw [← hH] at hS ⊢
  clear hH hP
  rw [f_X7_isArm] at h
  obtain ⟨locs, hlo⟩ : ∃ z : List Loc, z = [] := ⟨_, rfl⟩
  rw [← hlo] at hS ⊢
  clear hlo
  refine lv_iload_n F.1 F.2.1 dX7_isArm_0 rfl (lv_at hl 1 rfl) ?_
  refine lv_if_lt (tgt := 20) F.1 F.2.1 dX7_isArm_1 (by decide) (fun hc => ?_) (fun hc => ?_)
  · replace h := ifT h hc
    refine lv_iconst (v := (0 : Int32)) F.1 F.2.1 dX7_isArm_20 (by decide) ?_
    exact e_z F hS (by decide) ⟨Option.some.inj h, rfl, rfl⟩ hr0 dX7_isArm_21 hk0
  replace h := ifF h hc
  refine lv_iload_n F.1 F.2.1 dX7_isArm_4 rfl (lv_at hl 1 rfl) ?_
  refine lv_aload_n F.1 F.2.1 dX7_isArm_5 rfl (lv_at hl 0 rfl) ?_
  refine gf_X7_10 F G hS dX7_isArm_6 ?_
  refine lv_iconst (v := (1 : Int32)) F.1 F.2.1 dX7_isArm_9 (by decide) ?_
  obtain ⟨q1, h_q1, h⟩ := bd h
  refine rNi F G hS hl.1 (c_X6_value l g σ τ 1 (1 : Int32) q1 h_q1) lk_X7_110 ⟨rfl, rfl, Nat.le_of_ble_eq_true rfl, Nat.le_of_ble_eq_true rfl⟩ (rc_X6 G hS rfl) rfl rfl (Nat.le_of_ble_eq_true rfl) dX7_isArm_10 (kRi (fun H locs hS => ?_))
  refine lv_icmp_ge (tgt := 20) F.1 F.2.1 dX7_isArm_13 (by decide) (fun hc => ?_) (fun hc => ?_)
  · replace h := ifT h hc
    refine lv_iconst (v := (0 : Int32)) F.1 F.2.1 dX7_isArm_20 (by decide) ?_
    exact e_z F hS (by decide) ⟨Option.some.inj h, rfl, rfl⟩ hr0 dX7_isArm_21 hk0
  replace h := ifF h hc
  refine lv_iconst (v := (1 : Int32)) F.1 F.2.1 dX7_isArm_16 (by decide) ?_
  refine lv_goto (tgt := 21) F.1 F.2.1 dX7_isArm_17 (by decide) ?_
  exact e_z F hS (by decide) ⟨Option.some.inj h, rfl, rfl⟩ hr0 dX7_isArm_21 hk0
def f_X6_holdsOf_66 (σ : ZI) (b : Nat) (a1 : Int32) (a2 : Int32)  (v4 : Int32) : Option (Int32) := some (if (0 : Int32) < v4 then v4 else (0 : Int32))
def f_X6_holdsOf_63 (σ : ZI) (b : Nat) (a1 : Int32) (a2 : Int32)  (v4 : Int32) : Option (Int32) := f_X6_holdsOf_66 σ b a1 a2 (v4 + (-1 : Int32))
def f_X6_holdsOf_53 (σ : ZI) (b : Nat) (a1 : Int32) (a2 : Int32)  (v3 : Int32) (v4 : Int32) : Option (Int32) := if v3 = (3 : Int32) then (f_X6_holdsOf_63 σ b a1 a2 v4) else (if v3 = (4 : Int32) then (f_X6_holdsOf_63 σ b a1 a2 v4) else (f_X6_holdsOf_66 σ b a1 a2 v4))
def f_X6_holdsOf_45 (σ : ZI) (b : Nat) (a1 : Int32) (a2 : Int32)  (v3 : Int32) (v4 : Int32) : Option (Int32) := lt_ ((v4 - (a2 / (3 : Int32)))) (fun x3 => f_X6_holdsOf_53 σ b a1 a2 v3 x3)
def f_X6_holdsOf_35 (σ : ZI) (b : Nat) (a1 : Int32) (a2 : Int32)  (v3 : Int32) (v4 : Int32) : Option (Int32) := if v3 = (2 : Int32) then (f_X6_holdsOf_45 σ b a1 a2 v3 v4) else (if v3 = (3 : Int32) then (f_X6_holdsOf_45 σ b a1 a2 v3 v4) else (f_X6_holdsOf_53 σ b a1 a2 v3 v4))
def f_X6_holdsOf_27 (σ : ZI) (b : Nat) (a1 : Int32) (a2 : Int32)  (v3 : Int32) (v4 : Int32) : Option (Int32) := if a2 < (5 : Int32) then (f_X6_holdsOf_35 σ b a1 a2 v3 v4) else (f_X6_holdsOf_35 σ b a1 a2 v3 (v4 + (-3 : Int32)))
def f_X6_holdsOf (σ : ZI) (b : Nat) (a1 : Int32) (a2 : Int32) : Option (Int32) := if (ar b).1 = 11 then ((f_X7_at σ (b + 2) a1).bind (fun q1 => lt_ (((10 : Int32) - (a2 / (2 : Int32)))) (fun x2 => if q1 = (1 : Int32) then (f_X6_holdsOf_27 σ b a1 a2 q1 x2) else (if q1 = (4 : Int32) then (f_X6_holdsOf_27 σ b a1 a2 q1 x2) else (f_X6_holdsOf_35 σ b a1 a2 q1 x2))))) else none
abbrev rm_X6_holdsOf : Room := { frames := 1, cells := 0, slots := 0, locals := 30 }
set_option maxHeartbeats 4000000 in
set_option maxRecDepth 100000 in
theorem c_X6_holdsOf (l : Launch) (g : GG) (σ : ZI) (τ : ZL) (b : Nat) (a1 : Int32) (a2 : Int32) (res : Int32) (h : f_X6_holdsOf σ b a1 a2 = some res) : MI l yX6_holdsOf cX6_holdsOf 5 (some .int) rm_X6_holdsOf g [.ref (gA g b), .int a1, .int a2] σ τ (fun (r : Int32) (u : ZI × ZL) => r = res ∧ u.1 = σ ∧ u.2 = τ) := by
  refine Met_in (by decide) (Nat.le_of_ble_eq_true rfl) ?_
  intro p e s m args below meth c F G hP hr0 hk0 ls hl
  have hS := WS.start hP
  have hl : lv_has ls 5 [(0, .ref (gA g b)), (1, .int a1), (2, .int a2)] := hl
  obtain ⟨H, hH⟩ : ∃ H, H = s.heap := ⟨_, rfl⟩
  rw [← hH] at hS ⊢
  clear hH hP
  rw [f_X6_holdsOf] at h
  obtain ⟨hg_b, h⟩ := gd h
  have w_66 : ∀ (v4 : Int32), f_X6_holdsOf_66 σ b a1 a2 v4 = some res → ∀ (H : Heap) (locs : List Loc) (ls : Array Slot), WS g σ τ s H locs → lv_has ls 5 [(4, .int v4)] → W p l e rm_X6_holdsOf s m args below meth c H locs 0 0 (MQ below (va_Qi (fun (r : Int32) (u : ZI × ZL) => r = res ∧ u.1 = σ ∧ u.2 = τ) (WQ g) (AA g)) args s 0 0 (AA g)) (F0 m 66 ls []) := by
    intro  v4 h H locs ls hS hl
    rw [f_X6_holdsOf_66] at h
    refine lv_iconst (v := (0 : Int32)) F.1 F.2.1 dX6_holdsOf_66 (by decide) ?_
    refine lv_iload F.1 F.2.1 dX6_holdsOf_67 (lv_at hl 0 rfl) ?_
    refine va_mmax F.1 F.2.1 (F.2.2.1.trans hl.1.symm) F.2.2.2.1 (F.2.2.2.2 _ tb_609) (F.2.2.2.2 _ tb_610) (F.2.2.2.2 _ tb_123) (F.2.2.2.2 _ tb_611) (Nat.le_of_ble_eq_true rfl) (Nat.le_of_ble_eq_true rfl) (Nat.zero_le _) (Nat.zero_le _) dX6_holdsOf_69 ?_
    exact e_i F hS ⟨Option.some.inj h, rfl, rfl⟩ hr0 dX6_holdsOf_72 hk0
  have w_63 : ∀ (v4 : Int32), f_X6_holdsOf_63 σ b a1 a2 v4 = some res → ∀ (H : Heap) (locs : List Loc) (ls : Array Slot), WS g σ τ s H locs → lv_has ls 5 [(4, .int v4)] → W p l e rm_X6_holdsOf s m args below meth c H locs 0 0 (MQ below (va_Qi (fun (r : Int32) (u : ZI × ZL) => r = res ∧ u.1 = σ ∧ u.2 = τ) (WQ g) (AA g)) args s 0 0 (AA g)) (F0 m 63 ls []) := by
    intro  v4 h H locs ls hS hl
    rw [f_X6_holdsOf_63] at h
    refine lv_iinc (v := (v4 + (-1 : Int32))) (lv' := [(4, .int (v4 + (-1 : Int32)))]) F.1 F.2.1 dX6_holdsOf_63 hl (k := 0) rfl rfl (by decide) rfl (fun ls hl => ?_)
    exact w_66 (v4 + (-1 : Int32)) h H locs _ hS (lv_sub hl [0] rfl)
  have w_53 : ∀ (v3 : Int32) (v4 : Int32), f_X6_holdsOf_53 σ b a1 a2 v3 v4 = some res → ∀ (H : Heap) (locs : List Loc) (ls : Array Slot), WS g σ τ s H locs → lv_has ls 5 [(3, .int v3), (4, .int v4)] → W p l e rm_X6_holdsOf s m args below meth c H locs 0 0 (MQ below (va_Qi (fun (r : Int32) (u : ZI × ZL) => r = res ∧ u.1 = σ ∧ u.2 = τ) (WQ g) (AA g)) args s 0 0 (AA g)) (F0 m 53 ls []) := by
    intro  v3 v4 h H locs ls hS hl
    rw [f_X6_holdsOf_53] at h
    refine lv_iload_n F.1 F.2.1 dX6_holdsOf_53 rfl (lv_at hl 0 rfl) ?_
    refine lv_iconst (v := (3 : Int32)) F.1 F.2.1 dX6_holdsOf_54 (by decide) ?_
    refine lv_icmp_eq (tgt := 63) F.1 F.2.1 dX6_holdsOf_55 (by decide) (fun hc => ?_) (fun hc => ?_)
    · replace h := ifT h hc
      exact w_63 v4 h H locs _ hS (lv_sub hl [1] rfl)
    replace h := ifF h hc
    refine lv_iload_n F.1 F.2.1 dX6_holdsOf_58 rfl (lv_at hl 0 rfl) ?_
    refine lv_iconst (v := (4 : Int32)) F.1 F.2.1 dX6_holdsOf_59 (by decide) ?_
    refine lv_icmp_ne (tgt := 66) F.1 F.2.1 dX6_holdsOf_60 (by decide) (fun hc => ?_) (fun hc => ?_)
    · replace h := ifF h hc
      exact w_66 v4 h H locs _ hS (lv_sub hl [1] rfl)
    replace h := ifT h hc
    exact w_63 v4 h H locs _ hS (lv_sub hl [1] rfl)
  have w_45 : ∀ (v3 : Int32) (v4 : Int32), f_X6_holdsOf_45 σ b a1 a2 v3 v4 = some res → ∀ (H : Heap) (locs : List Loc) (ls : Array Slot), WS g σ τ s H locs → lv_has ls 5 [(2, .int a2), (3, .int v3), (4, .int v4)] → W p l e rm_X6_holdsOf s m args below meth c H locs 0 0 (MQ below (va_Qi (fun (r : Int32) (u : ZI × ZL) => r = res ∧ u.1 = σ ∧ u.2 = τ) (WQ g) (AA g)) args s 0 0 (AA g)) (F0 m 45 ls []) := by
    intro  v3 v4 h H locs ls hS hl
    rw [f_X6_holdsOf_45] at h
    refine lv_iload F.1 F.2.1 dX6_holdsOf_45 (lv_at hl 2 rfl) ?_
    refine lv_iload_n F.1 F.2.1 dX6_holdsOf_47 rfl (lv_at hl 0 rfl) ?_
    refine lv_iconst (v := (3 : Int32)) F.1 F.2.1 dX6_holdsOf_48 (by decide) ?_
    refine lv_idiv F.1 F.2.1 dX6_holdsOf_49 (by decide) ?_
    refine lv_isub F.1 F.2.1 dX6_holdsOf_50 ?_
    obtain ⟨x3, e_x3, h⟩ := ltE h
    refine x_topi e_x3 ?_
    clear e_x3
    refine lv_istore (lv' := [(4, .int x3), (2, .int a2), (3, .int v3)]) F.1 F.2.1 dX6_holdsOf_51 hl (by decide) rfl (fun ls hl => ?_)
    exact w_53 v3 x3 h H locs _ hS (lv_sub hl [2, 0] rfl)
  have w_35 : ∀ (v3 : Int32) (v4 : Int32), f_X6_holdsOf_35 σ b a1 a2 v3 v4 = some res → ∀ (H : Heap) (locs : List Loc) (ls : Array Slot), WS g σ τ s H locs → lv_has ls 5 [(2, .int a2), (3, .int v3), (4, .int v4)] → W p l e rm_X6_holdsOf s m args below meth c H locs 0 0 (MQ below (va_Qi (fun (r : Int32) (u : ZI × ZL) => r = res ∧ u.1 = σ ∧ u.2 = τ) (WQ g) (AA g)) args s 0 0 (AA g)) (F0 m 35 ls []) := by
    intro  v3 v4 h H locs ls hS hl
    rw [f_X6_holdsOf_35] at h
    refine lv_iload_n F.1 F.2.1 dX6_holdsOf_35 rfl (lv_at hl 1 rfl) ?_
    refine lv_iconst (v := (2 : Int32)) F.1 F.2.1 dX6_holdsOf_36 (by decide) ?_
    refine lv_icmp_eq (tgt := 45) F.1 F.2.1 dX6_holdsOf_37 (by decide) (fun hc => ?_) (fun hc => ?_)
    · replace h := ifT h hc
      exact w_45 v3 v4 h H locs _ hS (lv_sub hl [0, 1, 2] rfl)
    replace h := ifF h hc
    refine lv_iload_n F.1 F.2.1 dX6_holdsOf_40 rfl (lv_at hl 1 rfl) ?_
    refine lv_iconst (v := (3 : Int32)) F.1 F.2.1 dX6_holdsOf_41 (by decide) ?_
    refine lv_icmp_ne (tgt := 53) F.1 F.2.1 dX6_holdsOf_42 (by decide) (fun hc => ?_) (fun hc => ?_)
    · replace h := ifF h hc
      exact w_53 v3 v4 h H locs _ hS (lv_sub hl [1, 2] rfl)
    replace h := ifT h hc
    exact w_45 v3 v4 h H locs _ hS (lv_sub hl [0, 1, 2] rfl)
  have w_27 : ∀ (v3 : Int32) (v4 : Int32), f_X6_holdsOf_27 σ b a1 a2 v3 v4 = some res → ∀ (H : Heap) (locs : List Loc) (ls : Array Slot), WS g σ τ s H locs → lv_has ls 5 [(2, .int a2), (3, .int v3), (4, .int v4)] → W p l e rm_X6_holdsOf s m args below meth c H locs 0 0 (MQ below (va_Qi (fun (r : Int32) (u : ZI × ZL) => r = res ∧ u.1 = σ ∧ u.2 = τ) (WQ g) (AA g)) args s 0 0 (AA g)) (F0 m 27 ls []) := by
    intro  v3 v4 h H locs ls hS hl
    rw [f_X6_holdsOf_27] at h
    refine lv_iload_n F.1 F.2.1 dX6_holdsOf_27 rfl (lv_at hl 0 rfl) ?_
    refine lv_iconst (v := (5 : Int32)) F.1 F.2.1 dX6_holdsOf_28 (by decide) ?_
    refine lv_icmp_lt (tgt := 35) F.1 F.2.1 dX6_holdsOf_29 (by decide) (fun hc => ?_) (fun hc => ?_)
    · replace h := ifT h hc
      exact w_35 v3 v4 h H locs _ hS (lv_sub hl [0, 1, 2] rfl)
    replace h := ifF h hc
    refine lv_iinc (v := (v4 + (-3 : Int32))) (lv' := [(4, .int (v4 + (-3 : Int32))), (2, .int a2), (3, .int v3)]) F.1 F.2.1 dX6_holdsOf_32 hl (k := 2) rfl rfl (by decide) rfl (fun ls hl => ?_)
    exact w_35 v3 (v4 + (-3 : Int32)) h H locs _ hS (lv_sub hl [1, 2, 0] rfl)
  obtain ⟨locs, hlo⟩ : ∃ z : List Loc, z = [] := ⟨_, rfl⟩
  rw [← hlo] at hS ⊢
  clear hlo
  refine lv_aload_n F.1 F.2.1 dX6_holdsOf_0 rfl (lv_at hl 0 rfl) ?_
  refine gf_X6_15 F G hS hg_b dX6_holdsOf_1 ?_
  refine lv_iload_n F.1 F.2.1 dX6_holdsOf_4 rfl (lv_at hl 1 rfl) ?_
  obtain ⟨q1, h_q1, h⟩ := bd h
  refine rTi F G hS hl.1 (c_X7_at l g σ τ (b + 2) a1 q1 h_q1) lk_X6_48 ⟨rfl, rfl, Nat.le_of_ble_eq_true rfl, Nat.le_of_ble_eq_true rfl⟩  rfl rfl (Nat.le_of_ble_eq_true rfl) dX6_holdsOf_5 (kRi (fun H locs hS => ?_))
  refine lv_istore_n (lv' := [(3, .int q1), (0, .ref (gA g b)), (1, .int a1), (2, .int a2)]) F.1 F.2.1 dX6_holdsOf_8 rfl hl (by decide) rfl (fun ls hl => ?_)
  refine lv_bipush (v := (10 : Int32)) F.1 F.2.1 dX6_holdsOf_9 (by decide) ?_
  refine lv_iload_n F.1 F.2.1 dX6_holdsOf_11 rfl (lv_at hl 3 rfl) ?_
  refine lv_iconst (v := (2 : Int32)) F.1 F.2.1 dX6_holdsOf_12 (by decide) ?_
  refine lv_idiv F.1 F.2.1 dX6_holdsOf_13 (by decide) ?_
  refine lv_isub F.1 F.2.1 dX6_holdsOf_14 ?_
  obtain ⟨x2, e_x2, h⟩ := ltE h
  refine x_topi e_x2 ?_
  clear e_x2
  refine lv_istore (lv' := [(4, .int x2), (3, .int q1), (0, .ref (gA g b)), (1, .int a1), (2, .int a2)]) F.1 F.2.1 dX6_holdsOf_15 hl (by decide) rfl (fun ls hl => ?_)
  refine lv_iload_n F.1 F.2.1 dX6_holdsOf_17 rfl (lv_at hl 1 rfl) ?_
  refine lv_iconst (v := (1 : Int32)) F.1 F.2.1 dX6_holdsOf_18 (by decide) ?_
  refine lv_icmp_eq (tgt := 27) F.1 F.2.1 dX6_holdsOf_19 (by decide) (fun hc => ?_) (fun hc => ?_)
  · replace h := ifT h hc
    exact w_27 q1 x2 h H locs _ hS (lv_sub hl [4, 1, 0] rfl)
  replace h := ifF h hc
  refine lv_iload_n F.1 F.2.1 dX6_holdsOf_22 rfl (lv_at hl 1 rfl) ?_
  refine lv_iconst (v := (4 : Int32)) F.1 F.2.1 dX6_holdsOf_23 (by decide) ?_
  refine lv_icmp_ne (tgt := 35) F.1 F.2.1 dX6_holdsOf_24 (by decide) (fun hc => ?_) (fun hc => ?_)
  · replace h := ifF h hc
    exact w_35 q1 x2 h H locs _ hS (lv_sub hl [4, 1, 0] rfl)
  replace h := ifT h hc
  exact w_27 q1 x2 h H locs _ hS (lv_sub hl [4, 1, 0] rfl)
def f_X7_arm (σ : ZI) (a1 : Int32) (a2 : Int32) : Option (Int32) := (f_X7_isArm σ a1).bind (fun q1 => if q1 = 0 then (some (-1 : Int32)) else (if a2 = (0 : Int32) then ((f_X7_at σ 3 a1).bind (fun q2 => some q2)) else (if a2 = (1 : Int32) then ((f_X7_at σ 4 a1).bind (fun q3 => some q3)) else (if a2 = (2 : Int32) then ((f_X7_at σ 5 a1).bind (fun q4 => some q4)) else (if a2 = (3 : Int32) then ((f_X6_value σ 1 (7 : Int32)).bind (fun q5 => (f_X6_holdsOf σ 1 a1 q5).bind (fun q6 => some q6))) else (some (-1 : Int32)))))))
abbrev rm_X7_arm : Room := { frames := 3, cells := 0, slots := 0, locals := 63 }
set_option maxHeartbeats 4000000 in
set_option maxRecDepth 100000 in
theorem c_X7_arm (l : Launch) (g : GG) (σ : ZI) (τ : ZL) (a1 : Int32) (a2 : Int32) (res : Int32) (h : f_X7_arm σ a1 a2 = some res) : MI l yX7_arm cX7_arm 3 (some .int) rm_X7_arm g [.ref (gA g 0), .int a1, .int a2] σ τ (fun (r : Int32) (u : ZI × ZL) => r = res ∧ u.1 = σ ∧ u.2 = τ) := by
  refine Met_in (by decide) (Nat.le_of_ble_eq_true rfl) ?_
  intro p e s m args below meth c F G hP hr0 hk0 ls hl
  have hS := WS.start hP
  have hl : lv_has ls 3 [(0, .ref (gA g 0)), (1, .int a1), (2, .int a2)] := hl
  obtain ⟨H, hH⟩ : ∃ H, H = s.heap := ⟨_, rfl⟩
  rw [← hH] at hS ⊢
  clear hH hP
  rw [f_X7_arm] at h
  obtain ⟨locs, hlo⟩ : ∃ z : List Loc, z = [] := ⟨_, rfl⟩
  rw [← hlo] at hS ⊢
  clear hlo
  refine lv_aload_n F.1 F.2.1 dX7_arm_0 rfl (lv_at hl 0 rfl) ?_
  refine lv_iload_n F.1 F.2.1 dX7_arm_1 rfl (lv_at hl 1 rfl) ?_
  obtain ⟨q1, h_q1, h⟩ := bd h
  refine rVi F G hS hl.1 (c_X7_isArm l g σ τ a1 q1 h_q1) lk_X7_114 ⟨rfl, rfl, Nat.le_of_ble_eq_true rfl, Nat.le_of_ble_eq_true rfl⟩ (rc_X7 G hS) rfl rfl (Nat.le_of_ble_eq_true rfl) dX7_arm_2 (kRi (fun H locs hS => ?_))
  refine lv_if_ne (tgt := 10) F.1 F.2.1 dX7_arm_5 (by decide) (fun hc => ?_) (fun hc => ?_)
  rotate_left
  · replace h := ifT h hc
    refine lv_iconst (v := (-1 : Int32)) F.1 F.2.1 dX7_arm_8 (by decide) ?_
    exact e_i F hS ⟨Option.some.inj h, rfl, rfl⟩ hr0 dX7_arm_9 hk0
  replace h := ifF h hc
  refine lv_iload_n F.1 F.2.1 dX7_arm_10 rfl (lv_at hl 2 rfl) ?_
  by_cases hc_0 : a2 = (0 : Int32)
  · replace h := ifT h hc_0
    refine lv_tableIn (tgt := 40) F.1 F.2.1 dX7_arm_11 (by rw [hc_0]; decide) (by rw [hc_0]; decide) (by rw [hc_0]; rfl) (by decide) ?_
    refine lv_aload_n F.1 F.2.1 dX7_arm_40 rfl (lv_at hl 0 rfl) ?_
    refine gf_X7_10 F G hS dX7_arm_41 ?_
    refine gf_X7_117 F G hS rfl dX7_arm_44 ?_
    refine lv_iload_n F.1 F.2.1 dX7_arm_47 rfl (lv_at hl 1 rfl) ?_
    obtain ⟨q2, h_q2, h⟩ := bd h
    refine rSi F G hS hl.1 (c_X7_at l g σ τ 3 a1 q2 h_q2) lk_X7_120 ⟨rfl, rfl, Nat.le_of_ble_eq_true rfl, Nat.le_of_ble_eq_true rfl⟩  rfl rfl (Nat.le_of_ble_eq_true rfl) dX7_arm_48 (kRi (fun H locs hS => ?_))
    exact e_i F hS ⟨Option.some.inj h, rfl, rfl⟩ hr0 dX7_arm_51 hk0
  replace h := ifF h hc_0
  by_cases hc_1 : a2 = (1 : Int32)
  · replace h := ifT h hc_1
    refine lv_tableIn (tgt := 52) F.1 F.2.1 dX7_arm_11 (by rw [hc_1]; decide) (by rw [hc_1]; decide) (by rw [hc_1]; rfl) (by decide) ?_
    refine lv_aload_n F.1 F.2.1 dX7_arm_52 rfl (lv_at hl 0 rfl) ?_
    refine gf_X7_10 F G hS dX7_arm_53 ?_
    refine gf_X7_124 F G hS rfl dX7_arm_56 ?_
    refine lv_iload_n F.1 F.2.1 dX7_arm_59 rfl (lv_at hl 1 rfl) ?_
    obtain ⟨q3, h_q3, h⟩ := bd h
    refine rSi F G hS hl.1 (c_X7_at l g σ τ 4 a1 q3 h_q3) lk_X7_120 ⟨rfl, rfl, Nat.le_of_ble_eq_true rfl, Nat.le_of_ble_eq_true rfl⟩  rfl rfl (Nat.le_of_ble_eq_true rfl) dX7_arm_60 (kRi (fun H locs hS => ?_))
    exact e_i F hS ⟨Option.some.inj h, rfl, rfl⟩ hr0 dX7_arm_63 hk0
  replace h := ifF h hc_1
  by_cases hc_2 : a2 = (2 : Int32)
  · replace h := ifT h hc_2
    refine lv_tableIn (tgt := 64) F.1 F.2.1 dX7_arm_11 (by rw [hc_2]; decide) (by rw [hc_2]; decide) (by rw [hc_2]; rfl) (by decide) ?_
    refine lv_aload_n F.1 F.2.1 dX7_arm_64 rfl (lv_at hl 0 rfl) ?_
    refine gf_X7_10 F G hS dX7_arm_65 ?_
    refine gf_X7_127 F G hS rfl dX7_arm_68 ?_
    refine lv_iload_n F.1 F.2.1 dX7_arm_71 rfl (lv_at hl 1 rfl) ?_
    obtain ⟨q4, h_q4, h⟩ := bd h
    refine rSi F G hS hl.1 (c_X7_at l g σ τ 5 a1 q4 h_q4) lk_X7_120 ⟨rfl, rfl, Nat.le_of_ble_eq_true rfl, Nat.le_of_ble_eq_true rfl⟩  rfl rfl (Nat.le_of_ble_eq_true rfl) dX7_arm_72 (kRi (fun H locs hS => ?_))
    exact e_i F hS ⟨Option.some.inj h, rfl, rfl⟩ hr0 dX7_arm_75 hk0
  replace h := ifF h hc_2
  by_cases hc_3 : a2 = (3 : Int32)
  · replace h := ifT h hc_3
    refine lv_tableIn (tgt := 76) F.1 F.2.1 dX7_arm_11 (by rw [hc_3]; decide) (by rw [hc_3]; decide) (by rw [hc_3]; rfl) (by decide) ?_
    refine lv_aload_n F.1 F.2.1 dX7_arm_76 rfl (lv_at hl 0 rfl) ?_
    refine gf_X7_10 F G hS dX7_arm_77 ?_
    refine lv_iload_n F.1 F.2.1 dX7_arm_80 rfl (lv_at hl 1 rfl) ?_
    refine lv_aload_n F.1 F.2.1 dX7_arm_81 rfl (lv_at hl 0 rfl) ?_
    refine gf_X7_10 F G hS dX7_arm_82 ?_
    refine lv_bipush (v := (7 : Int32)) F.1 F.2.1 dX7_arm_85 (by decide) ?_
    obtain ⟨q5, h_q5, h⟩ := bd h
    refine rNi F G hS hl.1 (c_X6_value l g σ τ 1 (7 : Int32) q5 h_q5) lk_X7_110 ⟨rfl, rfl, Nat.le_of_ble_eq_true rfl, Nat.le_of_ble_eq_true rfl⟩ (rc_X6 G hS rfl) rfl rfl (Nat.le_of_ble_eq_true rfl) dX7_arm_87 (kRi (fun H locs hS => ?_))
    obtain ⟨q6, h_q6, h⟩ := bd h
    refine rNi F G hS hl.1 (c_X6_holdsOf l g σ τ 1 a1 q5 q6 h_q6) lk_X7_130 ⟨rfl, rfl, Nat.le_of_ble_eq_true rfl, Nat.le_of_ble_eq_true rfl⟩ (rc_X6 G hS rfl) rfl rfl (Nat.le_of_ble_eq_true rfl) dX7_arm_90 (kRi (fun H locs hS => ?_))
    exact e_i F hS ⟨Option.some.inj h, rfl, rfl⟩ hr0 dX7_arm_93 hk0
  replace h := ifF h hc_3
  refine lv_tableOut (tgt := 94) F.1 F.2.1 dX7_arm_11 (by have h0 := lv_neT (a := 0) hc_0 (by decide); have h1 := lv_neT (a := 1) hc_1 (by decide); have h2 := lv_neT (a := 2) hc_2 (by decide); have h3 := lv_neT (a := 3) hc_3 (by decide); omega) (by decide) ?_
  refine lv_iconst (v := (-1 : Int32)) F.1 F.2.1 dX7_arm_94 (by decide) ?_
  exact e_i F hS ⟨Option.some.inj h, rfl, rfl⟩ hr0 dX7_arm_95 hk0
def f_X7_isMark (σ : ZI) (a1 : Int32) : Option (Int32) := if a1 < 0 then (some (0 : Int32)) else ((f_X6_value σ 1 (2 : Int32)).bind (fun q1 => if q1 ≤ a1 then (some (0 : Int32)) else (some (1 : Int32))))
abbrev rm_X7_isMark : Room := { frames := 2, cells := 0, slots := 0, locals := 42 }
set_option maxHeartbeats 4000000 in
set_option maxRecDepth 100000 in
theorem c_X7_isMark (l : Launch) (g : GG) (σ : ZI) (τ : ZL) (a1 : Int32) (res : Int32) (h : f_X7_isMark σ a1 = some res) : MI l yX7_isMark cX7_isMark 2 (some .boolean) rm_X7_isMark g [.ref (gA g 0), .int a1] σ τ (fun (r : Int32) (u : ZI × ZL) => r = res ∧ u.1 = σ ∧ u.2 = τ) := by
  refine Met_in (by decide) (Nat.le_of_ble_eq_true rfl) ?_
  intro p e s m args below meth c F G hP hr0 hk0 ls hl
  have hS := WS.start hP
  have hl : lv_has ls 2 [(0, .ref (gA g 0)), (1, .int a1)] := hl
  obtain ⟨H, hH⟩ : ∃ H, H = s.heap := ⟨_, rfl⟩
  rw [← hH] at hS ⊢
  clear hH hP
  rw [f_X7_isMark] at h
  obtain ⟨locs, hlo⟩ : ∃ z : List Loc, z = [] := ⟨_, rfl⟩
  rw [← hlo] at hS ⊢
  clear hlo
  refine lv_iload_n F.1 F.2.1 dX7_isMark_0 rfl (lv_at hl 1 rfl) ?_
  refine lv_if_lt (tgt := 20) F.1 F.2.1 dX7_isMark_1 (by decide) (fun hc => ?_) (fun hc => ?_)
  · replace h := ifT h hc
    refine lv_iconst (v := (0 : Int32)) F.1 F.2.1 dX7_isMark_20 (by decide) ?_
    exact e_z F hS (by decide) ⟨Option.some.inj h, rfl, rfl⟩ hr0 dX7_isMark_21 hk0
  replace h := ifF h hc
  refine lv_iload_n F.1 F.2.1 dX7_isMark_4 rfl (lv_at hl 1 rfl) ?_
  refine lv_aload_n F.1 F.2.1 dX7_isMark_5 rfl (lv_at hl 0 rfl) ?_
  refine gf_X7_10 F G hS dX7_isMark_6 ?_
  refine lv_iconst (v := (2 : Int32)) F.1 F.2.1 dX7_isMark_9 (by decide) ?_
  obtain ⟨q1, h_q1, h⟩ := bd h
  refine rNi F G hS hl.1 (c_X6_value l g σ τ 1 (2 : Int32) q1 h_q1) lk_X7_110 ⟨rfl, rfl, Nat.le_of_ble_eq_true rfl, Nat.le_of_ble_eq_true rfl⟩ (rc_X6 G hS rfl) rfl rfl (Nat.le_of_ble_eq_true rfl) dX7_isMark_10 (kRi (fun H locs hS => ?_))
  refine lv_icmp_ge (tgt := 20) F.1 F.2.1 dX7_isMark_13 (by decide) (fun hc => ?_) (fun hc => ?_)
  · replace h := ifT h hc
    refine lv_iconst (v := (0 : Int32)) F.1 F.2.1 dX7_isMark_20 (by decide) ?_
    exact e_z F hS (by decide) ⟨Option.some.inj h, rfl, rfl⟩ hr0 dX7_isMark_21 hk0
  replace h := ifF h hc
  refine lv_iconst (v := (1 : Int32)) F.1 F.2.1 dX7_isMark_16 (by decide) ?_
  refine lv_goto (tgt := 21) F.1 F.2.1 dX7_isMark_17 (by decide) ?_
  exact e_z F hS (by decide) ⟨Option.some.inj h, rfl, rfl⟩ hr0 dX7_isMark_21 hk0
def f_X7_isPart (a1 : Int32) : Option (Int32) := if a1 = 0 then (some (1 : Int32)) else (if a1 = (1 : Int32) then (some (1 : Int32)) else (some (0 : Int32)))
abbrev rm_X7_isPart : Room := { frames := 0, cells := 0, slots := 0, locals := 0 }
set_option maxHeartbeats 4000000 in
set_option maxRecDepth 100000 in
theorem c_X7_isPart (l : Launch) (g : GG) (σ : ZI) (τ : ZL) (a1 : Int32) (res : Int32) (h : f_X7_isPart a1 = some res) : MI l yX7_isPart cX7_isPart 1 (some .boolean) rm_X7_isPart g [.int a1] σ τ (fun (r : Int32) (u : ZI × ZL) => r = res ∧ u.1 = σ ∧ u.2 = τ) := by
  refine Met_in (by decide) (Nat.le_of_ble_eq_true rfl) ?_
  intro p e s m args below meth c F G hP hr0 hk0 ls hl
  have hS := WS.start hP
  have hl : lv_has ls 1 [(0, .int a1)] := hl
  obtain ⟨H, hH⟩ : ∃ H, H = s.heap := ⟨_, rfl⟩
  rw [← hH] at hS ⊢
  clear hH hP
  rw [f_X7_isPart] at h
  obtain ⟨locs, hlo⟩ : ∃ z : List Loc, z = [] := ⟨_, rfl⟩
  rw [← hlo] at hS ⊢
  clear hlo
  refine lv_iload_n F.1 F.2.1 dX7_isPart_0 rfl (lv_at hl 0 rfl) ?_
  refine lv_if_eq (tgt := 9) F.1 F.2.1 dX7_isPart_1 (by decide) (fun hc => ?_) (fun hc => ?_)
  · replace h := ifT h hc
    refine lv_iconst (v := (1 : Int32)) F.1 F.2.1 dX7_isPart_9 (by decide) ?_
    refine lv_goto (tgt := 14) F.1 F.2.1 dX7_isPart_10 (by decide) ?_
    exact e_z F hS (by decide) ⟨Option.some.inj h, rfl, rfl⟩ hr0 dX7_isPart_14 hk0
  replace h := ifF h hc
  refine lv_iload_n F.1 F.2.1 dX7_isPart_4 rfl (lv_at hl 0 rfl) ?_
  refine lv_iconst (v := (1 : Int32)) F.1 F.2.1 dX7_isPart_5 (by decide) ?_
  refine lv_icmp_ne (tgt := 13) F.1 F.2.1 dX7_isPart_6 (by decide) (fun hc => ?_) (fun hc => ?_)
  · replace h := ifF h hc
    refine lv_iconst (v := (0 : Int32)) F.1 F.2.1 dX7_isPart_13 (by decide) ?_
    exact e_z F hS (by decide) ⟨Option.some.inj h, rfl, rfl⟩ hr0 dX7_isPart_14 hk0
  replace h := ifT h hc
  refine lv_iconst (v := (1 : Int32)) F.1 F.2.1 dX7_isPart_9 (by decide) ?_
  refine lv_goto (tgt := 14) F.1 F.2.1 dX7_isPart_10 (by decide) ?_
  exact e_z F hS (by decide) ⟨Option.some.inj h, rfl, rfl⟩ hr0 dX7_isPart_14 hk0
def f_X7_mark (σ : ZI) (a1 : Int32) (a2 : Int32) : Option (Int32) := (f_X7_isMark σ a1).bind (fun q1 => if q1 = 0 then (some (-1 : Int32)) else ((f_X7_isPart a2).bind (fun q2 => if q2 = 0 then (some (-1 : Int32)) else (if a2 = 0 then ((f_X7_at σ 6 a1).bind (fun q4 => some q4)) else ((f_X7_at σ 7 a1).bind (fun q3 => some q3))))))
abbrev rm_X7_mark : Room := { frames := 3, cells := 0, slots := 0, locals := 63 }
set_option maxHeartbeats 4000000 in
set_option maxRecDepth 100000 in
theorem c_X7_mark (l : Launch) (g : GG) (σ : ZI) (τ : ZL) (a1 : Int32) (a2 : Int32) (res : Int32) (h : f_X7_mark σ a1 a2 = some res) : MI l yX7_mark cX7_mark 3 (some .int) rm_X7_mark g [.ref (gA g 0), .int a1, .int a2] σ τ (fun (r : Int32) (u : ZI × ZL) => r = res ∧ u.1 = σ ∧ u.2 = τ) := by
  refine Met_in (by decide) (Nat.le_of_ble_eq_true rfl) ?_
  intro p e s m args below meth c F G hP hr0 hk0 ls hl
  have hS := WS.start hP
  have hl : lv_has ls 3 [(0, .ref (gA g 0)), (1, .int a1), (2, .int a2)] := hl
  obtain ⟨H, hH⟩ : ∃ H, H = s.heap := ⟨_, rfl⟩
  rw [← hH] at hS ⊢
  clear hH hP
  rw [f_X7_mark] at h
  obtain ⟨locs, hlo⟩ : ∃ z : List Loc, z = [] := ⟨_, rfl⟩
  rw [← hlo] at hS ⊢
  clear hlo
  refine lv_aload_n F.1 F.2.1 dX7_mark_0 rfl (lv_at hl 0 rfl) ?_
  refine lv_iload_n F.1 F.2.1 dX7_mark_1 rfl (lv_at hl 1 rfl) ?_
  obtain ⟨q1, h_q1, h⟩ := bd h
  refine rVi F G hS hl.1 (c_X7_isMark l g σ τ a1 q1 h_q1) lk_X7_134 ⟨rfl, rfl, Nat.le_of_ble_eq_true rfl, Nat.le_of_ble_eq_true rfl⟩ (rc_X7 G hS) rfl rfl (Nat.le_of_ble_eq_true rfl) dX7_mark_2 (kRi (fun H locs hS => ?_))
  refine lv_if_eq (tgt := 15) F.1 F.2.1 dX7_mark_5 (by decide) (fun hc => ?_) (fun hc => ?_)
  · replace h := ifT h hc
    refine lv_iconst (v := (-1 : Int32)) F.1 F.2.1 dX7_mark_15 (by decide) ?_
    exact e_i F hS ⟨Option.some.inj h, rfl, rfl⟩ hr0 dX7_mark_16 hk0
  replace h := ifF h hc
  refine lv_iload_n F.1 F.2.1 dX7_mark_8 rfl (lv_at hl 2 rfl) ?_
  obtain ⟨q2, h_q2, h⟩ := bd h
  refine rSi F G hS hl.1 (c_X7_isPart l g σ τ a2 q2 h_q2) lk_X7_137 ⟨rfl, rfl, Nat.le_of_ble_eq_true rfl, Nat.le_of_ble_eq_true rfl⟩  rfl rfl (Nat.le_of_ble_eq_true rfl) dX7_mark_9 (kRi (fun H locs hS => ?_))
  refine lv_if_ne (tgt := 17) F.1 F.2.1 dX7_mark_12 (by decide) (fun hc => ?_) (fun hc => ?_)
  rotate_left
  · replace h := ifT h hc
    refine lv_iconst (v := (-1 : Int32)) F.1 F.2.1 dX7_mark_15 (by decide) ?_
    exact e_i F hS ⟨Option.some.inj h, rfl, rfl⟩ hr0 dX7_mark_16 hk0
  replace h := ifF h hc
  refine lv_iload_n F.1 F.2.1 dX7_mark_17 rfl (lv_at hl 2 rfl) ?_
  refine lv_if_ne (tgt := 35) F.1 F.2.1 dX7_mark_18 (by decide) (fun hc => ?_) (fun hc => ?_)
  · replace h := ifF h hc
    refine lv_aload_n F.1 F.2.1 dX7_mark_35 rfl (lv_at hl 0 rfl) ?_
    refine gf_X7_10 F G hS dX7_mark_36 ?_
    refine gf_X7_143 F G hS rfl dX7_mark_39 ?_
    refine lv_iload_n F.1 F.2.1 dX7_mark_42 rfl (lv_at hl 1 rfl) ?_
    obtain ⟨q3, h_q3, h⟩ := bd h
    refine rSi F G hS hl.1 (c_X7_at l g σ τ 7 a1 q3 h_q3) lk_X7_120 ⟨rfl, rfl, Nat.le_of_ble_eq_true rfl, Nat.le_of_ble_eq_true rfl⟩  rfl rfl (Nat.le_of_ble_eq_true rfl) dX7_mark_43 (kRi (fun H locs hS => ?_))
    exact e_i F hS ⟨Option.some.inj h, rfl, rfl⟩ hr0 dX7_mark_46 hk0
  replace h := ifT h hc
  refine lv_aload_n F.1 F.2.1 dX7_mark_21 rfl (lv_at hl 0 rfl) ?_
  refine gf_X7_10 F G hS dX7_mark_22 ?_
  refine gf_X7_140 F G hS rfl dX7_mark_25 ?_
  refine lv_iload_n F.1 F.2.1 dX7_mark_28 rfl (lv_at hl 1 rfl) ?_
  obtain ⟨q4, h_q4, h⟩ := bd h
  refine rSi F G hS hl.1 (c_X7_at l g σ τ 6 a1 q4 h_q4) lk_X7_120 ⟨rfl, rfl, Nat.le_of_ble_eq_true rfl, Nat.le_of_ble_eq_true rfl⟩  rfl rfl (Nat.le_of_ble_eq_true rfl) dX7_mark_29 (kRi (fun H locs hS => ?_))
  refine lv_goto (tgt := 46) F.1 F.2.1 dX7_mark_32 (by decide) ?_
  exact e_i F hS ⟨Option.some.inj h, rfl, rfl⟩ hr0 dX7_mark_46 hk0
def f_X7_isTown (σ : ZI) (a1 : Int32) : Option (Int32) := if a1 < 0 then (some (0 : Int32)) else ((f_X6_value σ 1 (3 : Int32)).bind (fun q1 => if q1 ≤ a1 then (some (0 : Int32)) else (some (1 : Int32))))
abbrev rm_X7_isTown : Room := { frames := 2, cells := 0, slots := 0, locals := 42 }
set_option maxHeartbeats 4000000 in
set_option maxRecDepth 100000 in
theorem c_X7_isTown (l : Launch) (g : GG) (σ : ZI) (τ : ZL) (a1 : Int32) (res : Int32) (h : f_X7_isTown σ a1 = some res) : MI l yX7_isTown cX7_isTown 2 (some .boolean) rm_X7_isTown g [.ref (gA g 0), .int a1] σ τ (fun (r : Int32) (u : ZI × ZL) => r = res ∧ u.1 = σ ∧ u.2 = τ) := by
  refine Met_in (by decide) (Nat.le_of_ble_eq_true rfl) ?_
  intro p e s m args below meth c F G hP hr0 hk0 ls hl
  have hS := WS.start hP
  have hl : lv_has ls 2 [(0, .ref (gA g 0)), (1, .int a1)] := hl
  obtain ⟨H, hH⟩ : ∃ H, H = s.heap := ⟨_, rfl⟩
  rw [← hH] at hS ⊢
  clear hH hP
  rw [f_X7_isTown] at h
  obtain ⟨locs, hlo⟩ : ∃ z : List Loc, z = [] := ⟨_, rfl⟩
  rw [← hlo] at hS ⊢
  clear hlo
  refine lv_iload_n F.1 F.2.1 dX7_isTown_0 rfl (lv_at hl 1 rfl) ?_
  refine lv_if_lt (tgt := 20) F.1 F.2.1 dX7_isTown_1 (by decide) (fun hc => ?_) (fun hc => ?_)
  · replace h := ifT h hc
    refine lv_iconst (v := (0 : Int32)) F.1 F.2.1 dX7_isTown_20 (by decide) ?_
    exact e_z F hS (by decide) ⟨Option.some.inj h, rfl, rfl⟩ hr0 dX7_isTown_21 hk0
  replace h := ifF h hc
  refine lv_iload_n F.1 F.2.1 dX7_isTown_4 rfl (lv_at hl 1 rfl) ?_
  refine lv_aload_n F.1 F.2.1 dX7_isTown_5 rfl (lv_at hl 0 rfl) ?_
  refine gf_X7_10 F G hS dX7_isTown_6 ?_
  refine lv_iconst (v := (3 : Int32)) F.1 F.2.1 dX7_isTown_9 (by decide) ?_
  obtain ⟨q1, h_q1, h⟩ := bd h
  refine rNi F G hS hl.1 (c_X6_value l g σ τ 1 (3 : Int32) q1 h_q1) lk_X7_110 ⟨rfl, rfl, Nat.le_of_ble_eq_true rfl, Nat.le_of_ble_eq_true rfl⟩ (rc_X6 G hS rfl) rfl rfl (Nat.le_of_ble_eq_true rfl) dX7_isTown_10 (kRi (fun H locs hS => ?_))
  refine lv_icmp_ge (tgt := 20) F.1 F.2.1 dX7_isTown_13 (by decide) (fun hc => ?_) (fun hc => ?_)
  · replace h := ifT h hc
    refine lv_iconst (v := (0 : Int32)) F.1 F.2.1 dX7_isTown_20 (by decide) ?_
    exact e_z F hS (by decide) ⟨Option.some.inj h, rfl, rfl⟩ hr0 dX7_isTown_21 hk0
  replace h := ifF h hc
  refine lv_iconst (v := (1 : Int32)) F.1 F.2.1 dX7_isTown_16 (by decide) ?_
  refine lv_goto (tgt := 21) F.1 F.2.1 dX7_isTown_17 (by decide) ?_
  exact e_z F hS (by decide) ⟨Option.some.inj h, rfl, rfl⟩ hr0 dX7_isTown_21 hk0
def f_X7_town (σ : ZI) (a1 : Int32) (a2 : Int32) : Option (Int32) := (f_X7_isTown σ a1).bind (fun q1 => if q1 = 0 then (some (-1 : Int32)) else ((f_X7_isPart a2).bind (fun q2 => if q2 = 0 then (some (-1 : Int32)) else (if a2 = 0 then ((f_X7_at σ 8 a1).bind (fun q4 => some q4)) else ((f_X7_at σ 9 a1).bind (fun q3 => some q3))))))
abbrev rm_X7_town : Room := { frames := 3, cells := 0, slots := 0, locals := 63 }
set_option maxHeartbeats 4000000 in
set_option maxRecDepth 100000 in
theorem c_X7_town (l : Launch) (g : GG) (σ : ZI) (τ : ZL) (a1 : Int32) (a2 : Int32) (res : Int32) (h : f_X7_town σ a1 a2 = some res) : MI l yX7_town cX7_town 3 (some .int) rm_X7_town g [.ref (gA g 0), .int a1, .int a2] σ τ (fun (r : Int32) (u : ZI × ZL) => r = res ∧ u.1 = σ ∧ u.2 = τ) := by
  refine Met_in (by decide) (Nat.le_of_ble_eq_true rfl) ?_
  intro p e s m args below meth c F G hP hr0 hk0 ls hl
  have hS := WS.start hP
  have hl : lv_has ls 3 [(0, .ref (gA g 0)), (1, .int a1), (2, .int a2)] := hl
  obtain ⟨H, hH⟩ : ∃ H, H = s.heap := ⟨_, rfl⟩
  rw [← hH] at hS ⊢
  clear hH hP
  rw [f_X7_town] at h
  obtain ⟨locs, hlo⟩ : ∃ z : List Loc, z = [] := ⟨_, rfl⟩
  rw [← hlo] at hS ⊢
  clear hlo
  refine lv_aload_n F.1 F.2.1 dX7_town_0 rfl (lv_at hl 0 rfl) ?_
  refine lv_iload_n F.1 F.2.1 dX7_town_1 rfl (lv_at hl 1 rfl) ?_
  obtain ⟨q1, h_q1, h⟩ := bd h
  refine rVi F G hS hl.1 (c_X7_isTown l g σ τ a1 q1 h_q1) lk_X7_146 ⟨rfl, rfl, Nat.le_of_ble_eq_true rfl, Nat.le_of_ble_eq_true rfl⟩ (rc_X7 G hS) rfl rfl (Nat.le_of_ble_eq_true rfl) dX7_town_2 (kRi (fun H locs hS => ?_))
  refine lv_if_eq (tgt := 15) F.1 F.2.1 dX7_town_5 (by decide) (fun hc => ?_) (fun hc => ?_)
  · replace h := ifT h hc
    refine lv_iconst (v := (-1 : Int32)) F.1 F.2.1 dX7_town_15 (by decide) ?_
    exact e_i F hS ⟨Option.some.inj h, rfl, rfl⟩ hr0 dX7_town_16 hk0
  replace h := ifF h hc
  refine lv_iload_n F.1 F.2.1 dX7_town_8 rfl (lv_at hl 2 rfl) ?_
  obtain ⟨q2, h_q2, h⟩ := bd h
  refine rSi F G hS hl.1 (c_X7_isPart l g σ τ a2 q2 h_q2) lk_X7_137 ⟨rfl, rfl, Nat.le_of_ble_eq_true rfl, Nat.le_of_ble_eq_true rfl⟩  rfl rfl (Nat.le_of_ble_eq_true rfl) dX7_town_9 (kRi (fun H locs hS => ?_))
  refine lv_if_ne (tgt := 17) F.1 F.2.1 dX7_town_12 (by decide) (fun hc => ?_) (fun hc => ?_)
  rotate_left
  · replace h := ifT h hc
    refine lv_iconst (v := (-1 : Int32)) F.1 F.2.1 dX7_town_15 (by decide) ?_
    exact e_i F hS ⟨Option.some.inj h, rfl, rfl⟩ hr0 dX7_town_16 hk0
  replace h := ifF h hc
  refine lv_iload_n F.1 F.2.1 dX7_town_17 rfl (lv_at hl 2 rfl) ?_
  refine lv_if_ne (tgt := 35) F.1 F.2.1 dX7_town_18 (by decide) (fun hc => ?_) (fun hc => ?_)
  · replace h := ifF h hc
    refine lv_aload_n F.1 F.2.1 dX7_town_35 rfl (lv_at hl 0 rfl) ?_
    refine gf_X7_10 F G hS dX7_town_36 ?_
    refine gf_X7_152 F G hS rfl dX7_town_39 ?_
    refine lv_iload_n F.1 F.2.1 dX7_town_42 rfl (lv_at hl 1 rfl) ?_
    obtain ⟨q3, h_q3, h⟩ := bd h
    refine rSi F G hS hl.1 (c_X7_at l g σ τ 9 a1 q3 h_q3) lk_X7_120 ⟨rfl, rfl, Nat.le_of_ble_eq_true rfl, Nat.le_of_ble_eq_true rfl⟩  rfl rfl (Nat.le_of_ble_eq_true rfl) dX7_town_43 (kRi (fun H locs hS => ?_))
    exact e_i F hS ⟨Option.some.inj h, rfl, rfl⟩ hr0 dX7_town_46 hk0
  replace h := ifT h hc
  refine lv_aload_n F.1 F.2.1 dX7_town_21 rfl (lv_at hl 0 rfl) ?_
  refine gf_X7_10 F G hS dX7_town_22 ?_
  refine gf_X7_149 F G hS rfl dX7_town_25 ?_
  refine lv_iload_n F.1 F.2.1 dX7_town_28 rfl (lv_at hl 1 rfl) ?_
  obtain ⟨q4, h_q4, h⟩ := bd h
  refine rSi F G hS hl.1 (c_X7_at l g σ τ 8 a1 q4 h_q4) lk_X7_120 ⟨rfl, rfl, Nat.le_of_ble_eq_true rfl, Nat.le_of_ble_eq_true rfl⟩  rfl rfl (Nat.le_of_ble_eq_true rfl) dX7_town_29 (kRi (fun H locs hS => ?_))
  refine lv_goto (tgt := 46) F.1 F.2.1 dX7_town_32 (by decide) ?_
  exact e_i F hS ⟨Option.some.inj h, rfl, rfl⟩ hr0 dX7_town_46 hk0
def f_X7_isWithin (σ : ZI) (a1 : Int32) (a2 : Int32) : Option (Int32) := (f_X7_atS 101 a1).bind (fun q1 => if a2 < q1 then (some (0 : Int32)) else ((f_X7_atS 102 a1).bind (fun q2 => if q2 < a2 then (some (0 : Int32)) else (some (1 : Int32)))))
abbrev rm_X7_isWithin : Room := { frames := 1, cells := 0, slots := 0, locals := 21 }
set_option maxHeartbeats 4000000 in
set_option maxRecDepth 100000 in
theorem c_X7_isWithin (l : Launch) (g : GG) (σ : ZI) (τ : ZL) (a1 : Int32) (a2 : Int32) (res : Int32) (h : f_X7_isWithin σ a1 a2 = some res) : MI l yX7_isWithin cX7_isWithin 2 (some .boolean) rm_X7_isWithin g [.int a1, .int a2] σ τ (fun (r : Int32) (u : ZI × ZL) => r = res ∧ u.1 = σ ∧ u.2 = τ) := by
  refine Met_in (by decide) (Nat.le_of_ble_eq_true rfl) ?_
  intro p e s m args below meth c F G hP hr0 hk0 ls hl
  have hS := WS.start hP
  have hl : lv_has ls 2 [(0, .int a1), (1, .int a2)] := hl
  obtain ⟨H, hH⟩ : ∃ H, H = s.heap := ⟨_, rfl⟩
  rw [← hH] at hS ⊢
  clear hH hP
  rw [f_X7_isWithin] at h
  obtain ⟨locs, hlo⟩ : ∃ z : List Loc, z = [] := ⟨_, rfl⟩
  rw [← hlo] at hS ⊢
  clear hlo
  refine lv_iload_n F.1 F.2.1 dX7_isWithin_0 rfl (lv_at hl 1 rfl) ?_
  refine gs_X7_243 F G hS dX7_isWithin_1 ?_
  refine lv_iload_n F.1 F.2.1 dX7_isWithin_4 rfl (lv_at hl 0 rfl) ?_
  obtain ⟨q1, h_q1, h⟩ := bd h
  refine rSi F G hS hl.1 (c_X7_atS l g σ τ 101 a1 q1 h_q1) lk_X7_120 ⟨rfl, rfl, Nat.le_of_ble_eq_true rfl, Nat.le_of_ble_eq_true rfl⟩  rfl rfl (Nat.le_of_ble_eq_true rfl) dX7_isWithin_5 (kRi (fun H locs hS => ?_))
  refine lv_icmp_lt (tgt := 26) F.1 F.2.1 dX7_isWithin_8 (by decide) (fun hc => ?_) (fun hc => ?_)
  · replace h := ifT h hc
    refine lv_iconst (v := (0 : Int32)) F.1 F.2.1 dX7_isWithin_26 (by decide) ?_
    exact e_z F hS (by decide) ⟨Option.some.inj h, rfl, rfl⟩ hr0 dX7_isWithin_27 hk0
  replace h := ifF h hc
  refine lv_iload_n F.1 F.2.1 dX7_isWithin_11 rfl (lv_at hl 1 rfl) ?_
  refine gs_X7_246 F G hS dX7_isWithin_12 ?_
  refine lv_iload_n F.1 F.2.1 dX7_isWithin_15 rfl (lv_at hl 0 rfl) ?_
  obtain ⟨q2, h_q2, h⟩ := bd h
  refine rSi F G hS hl.1 (c_X7_atS l g σ τ 102 a1 q2 h_q2) lk_X7_120 ⟨rfl, rfl, Nat.le_of_ble_eq_true rfl, Nat.le_of_ble_eq_true rfl⟩  rfl rfl (Nat.le_of_ble_eq_true rfl) dX7_isWithin_16 (kRi (fun H locs hS => ?_))
  refine lv_icmp_gt (tgt := 26) F.1 F.2.1 dX7_isWithin_19 (by decide) (fun hc => ?_) (fun hc => ?_)
  · replace h := ifT h hc
    refine lv_iconst (v := (0 : Int32)) F.1 F.2.1 dX7_isWithin_26 (by decide) ?_
    exact e_z F hS (by decide) ⟨Option.some.inj h, rfl, rfl⟩ hr0 dX7_isWithin_27 hk0
  replace h := ifF h hc
  refine lv_iconst (v := (1 : Int32)) F.1 F.2.1 dX7_isWithin_22 (by decide) ?_
  refine lv_goto (tgt := 27) F.1 F.2.1 dX7_isWithin_23 (by decide) ?_
  exact e_z F hS (by decide) ⟨Option.some.inj h, rfl, rfl⟩ hr0 dX7_isWithin_27 hk0
def f_X7_set_31 (a1 : Int32) (a2 : Int32)  (σ : ZI) (s0 : Int32) : Option (Int32 × ZI) := if s0 = (-4 : Int32) then (some ((-1 : Int32), σ)) else ((f_X7_isWithin σ s0 a2).bind (fun q1 => if q1 = 0 then (some ((-1 : Int32), σ)) else ((f_X6_value σ 1 s0).bind (fun q2 => (f_X6_become σ 1 s0 a2).bind (fun q3 => some (q2, q3))))))
def f_X7_set (σ : ZI) (a1 : Int32) (a2 : Int32) : Option (Int32 × ZI) := if a1 = 0 then (f_X7_set_31 a1 a2 σ (6 : Int32)) else (if a1 = (1 : Int32) then (f_X7_set_31 a1 a2 σ (12 : Int32)) else (if a1 = (2 : Int32) then (f_X7_set_31 a1 a2 σ (7 : Int32)) else (f_X7_set_31 a1 a2 σ (-4 : Int32))))
abbrev rm_X7_set : Room := { frames := 2, cells := 0, slots := 0, locals := 44 }
set_option maxHeartbeats 4000000 in
set_option maxRecDepth 100000 in
theorem c_X7_set (l : Launch) (g : GG) (σ : ZI) (τ : ZL) (a1 : Int32) (a2 : Int32) (res : Int32 × ZI) (h : f_X7_set σ a1 a2 = some res) : MI l yX7_set cX7_set 5 (some .int) rm_X7_set g [.ref (gA g 0), .int a1, .int a2] σ τ (fun (r : Int32) (u : ZI × ZL) => (r, u.1) = res ∧ u.2 = τ) := by
  refine Met_in (by decide) (Nat.le_of_ble_eq_true rfl) ?_
  intro p e s m args below meth c F G hP hr0 hk0 ls hl
  have hS := WS.start hP
  have hl : lv_has ls 5 [(0, .ref (gA g 0)), (1, .int a1), (2, .int a2)] := hl
  obtain ⟨H, hH⟩ : ∃ H, H = s.heap := ⟨_, rfl⟩
  rw [← hH] at hS ⊢
  clear hH hP
  rw [f_X7_set] at h
  have w_31 : ∀ (σ : ZI) (s0 : Int32), f_X7_set_31 a1 a2 σ s0 = some res → ∀ (H : Heap) (locs : List Loc) (ls : Array Slot), WS g σ τ s H locs → lv_has ls 5 [(0, .ref (gA g 0)), (2, .int a2)] → W p l e rm_X7_set s m args below meth c H locs 0 0 (MQ below (va_Qi (fun (r : Int32) (u : ZI × ZL) => (r, u.1) = res ∧ u.2 = τ) (WQ g) (AA g)) args s 0 0 (AA g)) (F0 m 31 ls [.int s0]) := by
    intro  σ s0 h H locs ls hS hl
    rw [f_X7_set_31] at h
    refine lv_istore_n (lv' := [(3, .int s0), (0, .ref (gA g 0)), (2, .int a2)]) F.1 F.2.1 dX7_set_31 rfl hl (by decide) rfl (fun ls hl => ?_)
    refine lv_iload_n F.1 F.2.1 dX7_set_32 rfl (lv_at hl 0 rfl) ?_
    refine lv_bipush (v := (-4 : Int32)) F.1 F.2.1 dX7_set_33 (by decide) ?_
    refine lv_icmp_eq (tgt := 46) F.1 F.2.1 dX7_set_35 (by decide) (fun hc => ?_) (fun hc => ?_)
    · replace h := ifT h hc
      refine lv_iconst (v := (-1 : Int32)) F.1 F.2.1 dX7_set_46 (by decide) ?_
      exact e_i F hS ⟨Option.some.inj h, rfl⟩ hr0 dX7_set_47 hk0
    replace h := ifF h hc
    refine lv_iload_n F.1 F.2.1 dX7_set_38 rfl (lv_at hl 0 rfl) ?_
    refine lv_iload_n F.1 F.2.1 dX7_set_39 rfl (lv_at hl 2 rfl) ?_
    obtain ⟨q1, h_q1, h⟩ := bd h
    refine rSi F G hS hl.1 (c_X7_isWithin l g σ τ s0 a2 q1 h_q1) lk_X7_155 ⟨rfl, rfl, Nat.le_of_ble_eq_true rfl, Nat.le_of_ble_eq_true rfl⟩  rfl rfl (Nat.le_of_ble_eq_true rfl) dX7_set_40 (kRi (fun H locs hS => ?_))
    refine lv_if_ne (tgt := 48) F.1 F.2.1 dX7_set_43 (by decide) (fun hc => ?_) (fun hc => ?_)
    rotate_left
    · replace h := ifT h hc
      refine lv_iconst (v := (-1 : Int32)) F.1 F.2.1 dX7_set_46 (by decide) ?_
      exact e_i F hS ⟨Option.some.inj h, rfl⟩ hr0 dX7_set_47 hk0
    replace h := ifF h hc
    refine lv_aload_n F.1 F.2.1 dX7_set_48 rfl (lv_at hl 1 rfl) ?_
    refine gf_X7_10 F G hS dX7_set_49 ?_
    refine lv_iload_n F.1 F.2.1 dX7_set_52 rfl (lv_at hl 0 rfl) ?_
    obtain ⟨q2, h_q2, h⟩ := bd h
    refine rNi F G hS hl.1 (c_X6_value l g σ τ 1 s0 q2 h_q2) lk_X7_110 ⟨rfl, rfl, Nat.le_of_ble_eq_true rfl, Nat.le_of_ble_eq_true rfl⟩ (rc_X6 G hS rfl) rfl rfl (Nat.le_of_ble_eq_true rfl) dX7_set_53 (kRi (fun H locs hS => ?_))
    refine lv_istore (lv' := [(4, .int q2), (3, .int s0), (0, .ref (gA g 0)), (2, .int a2)]) F.1 F.2.1 dX7_set_56 hl (by decide) rfl (fun ls hl => ?_)
    refine lv_aload_n F.1 F.2.1 dX7_set_58 rfl (lv_at hl 2 rfl) ?_
    refine gf_X7_10 F G hS dX7_set_59 ?_
    refine lv_iload_n F.1 F.2.1 dX7_set_62 rfl (lv_at hl 1 rfl) ?_
    refine lv_iload_n F.1 F.2.1 dX7_set_63 rfl (lv_at hl 3 rfl) ?_
    obtain ⟨q3, h_q3, h⟩ := bd h
    refine rNv F G hS hl.1 (c_X6_become l g σ τ 1 s0 a2 q3 h_q3) lk_X7_159 ⟨rfl, rfl, Nat.le_of_ble_eq_true rfl, Nat.le_of_ble_eq_true rfl⟩ (rc_X6 G hS rfl) rfl rfl (Nat.le_of_ble_eq_true rfl) dX7_set_64 (kIv (fun H locs hS => ?_))
    refine lv_iload F.1 F.2.1 dX7_set_67 (lv_at hl 0 rfl) ?_
    exact e_i F hS ⟨Option.some.inj h, rfl⟩ hr0 dX7_set_69 hk0
  obtain ⟨locs, hlo⟩ : ∃ z : List Loc, z = [] := ⟨_, rfl⟩
  rw [← hlo] at hS ⊢
  clear hlo
  refine lv_iload_n F.1 F.2.1 dX7_set_0 rfl (lv_at hl 1 rfl) ?_
  refine lv_if_ne (tgt := 9) F.1 F.2.1 dX7_set_1 (by decide) (fun hc => ?_) (fun hc => ?_)
  rotate_left
  · replace h := ifT h hc
    refine lv_bipush (v := (6 : Int32)) F.1 F.2.1 dX7_set_4 (by decide) ?_
    refine lv_goto (tgt := 31) F.1 F.2.1 dX7_set_6 (by decide) ?_
    exact w_31 σ (6 : Int32) h H locs _ hS (lv_sub hl [0, 2] rfl)
  replace h := ifF h hc
  refine lv_iload_n F.1 F.2.1 dX7_set_9 rfl (lv_at hl 1 rfl) ?_
  refine lv_iconst (v := (1 : Int32)) F.1 F.2.1 dX7_set_10 (by decide) ?_
  refine lv_icmp_ne (tgt := 19) F.1 F.2.1 dX7_set_11 (by decide) (fun hc => ?_) (fun hc => ?_)
  rotate_left
  · replace h := ifT h hc
    refine lv_bipush (v := (12 : Int32)) F.1 F.2.1 dX7_set_14 (by decide) ?_
    refine lv_goto (tgt := 31) F.1 F.2.1 dX7_set_16 (by decide) ?_
    exact w_31 σ (12 : Int32) h H locs _ hS (lv_sub hl [0, 2] rfl)
  replace h := ifF h hc
  refine lv_iload_n F.1 F.2.1 dX7_set_19 rfl (lv_at hl 1 rfl) ?_
  refine lv_iconst (v := (2 : Int32)) F.1 F.2.1 dX7_set_20 (by decide) ?_
  refine lv_icmp_ne (tgt := 29) F.1 F.2.1 dX7_set_21 (by decide) (fun hc => ?_) (fun hc => ?_)
  · replace h := ifF h hc
    refine lv_bipush (v := (-4 : Int32)) F.1 F.2.1 dX7_set_29 (by decide) ?_
    exact w_31 σ (-4 : Int32) h H locs _ hS (lv_sub hl [0, 2] rfl)
  replace h := ifT h hc
  refine lv_bipush (v := (7 : Int32)) F.1 F.2.1 dX7_set_24 (by decide) ?_
  refine lv_goto (tgt := 31) F.1 F.2.1 dX7_set_26 (by decide) ?_
  exact w_31 σ (7 : Int32) h H locs _ hS (lv_sub hl [0, 2] rfl)
def f_X7_net (σ : ZI) (a1 : Int32) (a2 : Int32) : Option (Int32 × ZI) := (f_X7_isWithin σ (8 : Int32) a1).bind (fun q1 => if q1 = 0 then (some ((-1 : Int32), σ)) else ((f_X7_isWithin σ (9 : Int32) a2).bind (fun q2 => if q2 = 0 then (some ((-1 : Int32), σ)) else (if a1 < a2 then ((f_X6_value σ 1 (8 : Int32)).bind (fun q3 => (f_X6_become σ 1 (8 : Int32) a1).bind (fun q4 => (f_X6_become q4 1 (9 : Int32) a2).bind (fun q5 => some (q3, q5))))) else (some ((-1 : Int32), σ))))))
abbrev rm_X7_net : Room := { frames := 2, cells := 0, slots := 0, locals := 44 }
set_option maxHeartbeats 4000000 in
set_option maxRecDepth 100000 in
theorem c_X7_net (l : Launch) (g : GG) (σ : ZI) (τ : ZL) (a1 : Int32) (a2 : Int32) (res : Int32 × ZI) (h : f_X7_net σ a1 a2 = some res) : MI l yX7_net cX7_net 4 (some .int) rm_X7_net g [.ref (gA g 0), .int a1, .int a2] σ τ (fun (r : Int32) (u : ZI × ZL) => (r, u.1) = res ∧ u.2 = τ) := by
  refine Met_in (by decide) (Nat.le_of_ble_eq_true rfl) ?_
  intro p e s m args below meth c F G hP hr0 hk0 ls hl
  have hS := WS.start hP
  have hl : lv_has ls 4 [(0, .ref (gA g 0)), (1, .int a1), (2, .int a2)] := hl
  obtain ⟨H, hH⟩ : ∃ H, H = s.heap := ⟨_, rfl⟩
  rw [← hH] at hS ⊢
  clear hH hP
  rw [f_X7_net] at h
  obtain ⟨locs, hlo⟩ : ∃ z : List Loc, z = [] := ⟨_, rfl⟩
  rw [← hlo] at hS ⊢
  clear hlo
  refine lv_bipush (v := (8 : Int32)) F.1 F.2.1 dX7_net_0 (by decide) ?_
  refine lv_iload_n F.1 F.2.1 dX7_net_2 rfl (lv_at hl 1 rfl) ?_
  obtain ⟨q1, h_q1, h⟩ := bd h
  refine rSi F G hS hl.1 (c_X7_isWithin l g σ τ (8 : Int32) a1 q1 h_q1) lk_X7_155 ⟨rfl, rfl, Nat.le_of_ble_eq_true rfl, Nat.le_of_ble_eq_true rfl⟩  rfl rfl (Nat.le_of_ble_eq_true rfl) dX7_net_3 (kRi (fun H locs hS => ?_))
  refine lv_if_eq (tgt := 23) F.1 F.2.1 dX7_net_6 (by decide) (fun hc => ?_) (fun hc => ?_)
  · replace h := ifT h hc
    refine lv_iconst (v := (-1 : Int32)) F.1 F.2.1 dX7_net_23 (by decide) ?_
    exact e_i F hS ⟨Option.some.inj h, rfl⟩ hr0 dX7_net_24 hk0
  replace h := ifF h hc
  refine lv_bipush (v := (9 : Int32)) F.1 F.2.1 dX7_net_9 (by decide) ?_
  refine lv_iload_n F.1 F.2.1 dX7_net_11 rfl (lv_at hl 2 rfl) ?_
  obtain ⟨q2, h_q2, h⟩ := bd h
  refine rSi F G hS hl.1 (c_X7_isWithin l g σ τ (9 : Int32) a2 q2 h_q2) lk_X7_155 ⟨rfl, rfl, Nat.le_of_ble_eq_true rfl, Nat.le_of_ble_eq_true rfl⟩  rfl rfl (Nat.le_of_ble_eq_true rfl) dX7_net_12 (kRi (fun H locs hS => ?_))
  refine lv_if_eq (tgt := 23) F.1 F.2.1 dX7_net_15 (by decide) (fun hc => ?_) (fun hc => ?_)
  · replace h := ifT h hc
    refine lv_iconst (v := (-1 : Int32)) F.1 F.2.1 dX7_net_23 (by decide) ?_
    exact e_i F hS ⟨Option.some.inj h, rfl⟩ hr0 dX7_net_24 hk0
  replace h := ifF h hc
  refine lv_iload_n F.1 F.2.1 dX7_net_18 rfl (lv_at hl 2 rfl) ?_
  refine lv_iload_n F.1 F.2.1 dX7_net_19 rfl (lv_at hl 1 rfl) ?_
  refine lv_icmp_gt (tgt := 25) F.1 F.2.1 dX7_net_20 (by decide) (fun hc => ?_) (fun hc => ?_)
  rotate_left
  · replace h := ifF h hc
    refine lv_iconst (v := (-1 : Int32)) F.1 F.2.1 dX7_net_23 (by decide) ?_
    exact e_i F hS ⟨Option.some.inj h, rfl⟩ hr0 dX7_net_24 hk0
  replace h := ifT h hc
  refine lv_aload_n F.1 F.2.1 dX7_net_25 rfl (lv_at hl 0 rfl) ?_
  refine gf_X7_10 F G hS dX7_net_26 ?_
  refine lv_bipush (v := (8 : Int32)) F.1 F.2.1 dX7_net_29 (by decide) ?_
  obtain ⟨q3, h_q3, h⟩ := bd h
  refine rNi F G hS hl.1 (c_X6_value l g σ τ 1 (8 : Int32) q3 h_q3) lk_X7_110 ⟨rfl, rfl, Nat.le_of_ble_eq_true rfl, Nat.le_of_ble_eq_true rfl⟩ (rc_X6 G hS rfl) rfl rfl (Nat.le_of_ble_eq_true rfl) dX7_net_31 (kRi (fun H locs hS => ?_))
  refine lv_istore_n (lv' := [(3, .int q3), (0, .ref (gA g 0)), (1, .int a1), (2, .int a2)]) F.1 F.2.1 dX7_net_34 rfl hl (by decide) rfl (fun ls hl => ?_)
  refine lv_aload_n F.1 F.2.1 dX7_net_35 rfl (lv_at hl 1 rfl) ?_
  refine gf_X7_10 F G hS dX7_net_36 ?_
  refine lv_bipush (v := (8 : Int32)) F.1 F.2.1 dX7_net_39 (by decide) ?_
  refine lv_iload_n F.1 F.2.1 dX7_net_41 rfl (lv_at hl 2 rfl) ?_
  obtain ⟨q4, h_q4, h⟩ := bd h
  refine rNv F G hS hl.1 (c_X6_become l g σ τ 1 (8 : Int32) a1 q4 h_q4) lk_X7_159 ⟨rfl, rfl, Nat.le_of_ble_eq_true rfl, Nat.le_of_ble_eq_true rfl⟩ (rc_X6 G hS rfl) rfl rfl (Nat.le_of_ble_eq_true rfl) dX7_net_42 (kIv (fun H locs hS => ?_))
  refine lv_aload_n F.1 F.2.1 dX7_net_45 rfl (lv_at hl 1 rfl) ?_
  refine gf_X7_10 F G hS dX7_net_46 ?_
  refine lv_bipush (v := (9 : Int32)) F.1 F.2.1 dX7_net_49 (by decide) ?_
  refine lv_iload_n F.1 F.2.1 dX7_net_51 rfl (lv_at hl 3 rfl) ?_
  obtain ⟨q5, h_q5, h⟩ := bd h
  refine rNv F G hS hl.1 (c_X6_become l g q4 τ 1 (9 : Int32) a2 q5 h_q5) lk_X7_159 ⟨rfl, rfl, Nat.le_of_ble_eq_true rfl, Nat.le_of_ble_eq_true rfl⟩ (rc_X6 G hS rfl) rfl rfl (Nat.le_of_ble_eq_true rfl) dX7_net_52 (kIv (fun H locs hS => ?_))
  refine lv_iload_n F.1 F.2.1 dX7_net_55 rfl (lv_at hl 0 rfl) ?_
  exact e_i F hS ⟨Option.some.inj h, rfl⟩ hr0 dX7_net_56 hk0
def f_X7_isJoint (σ : ZI) (a1 : Int32) : Option (Int32) := if a1 < (1 : Int32) then (some (0 : Int32)) else ((f_X6_value σ 1 (0 : Int32)).bind (fun q1 => if q1 < a1 then (some (0 : Int32)) else (some (1 : Int32))))
abbrev rm_X7_isJoint : Room := { frames := 2, cells := 0, slots := 0, locals := 42 }
set_option maxHeartbeats 4000000 in
set_option maxRecDepth 100000 in
theorem c_X7_isJoint (l : Launch) (g : GG) (σ : ZI) (τ : ZL) (a1 : Int32) (res : Int32) (h : f_X7_isJoint σ a1 = some res) : MI l yX7_isJoint cX7_isJoint 2 (some .boolean) rm_X7_isJoint g [.ref (gA g 0), .int a1] σ τ (fun (r : Int32) (u : ZI × ZL) => r = res ∧ u.1 = σ ∧ u.2 = τ) := by
  refine Met_in (by decide) (Nat.le_of_ble_eq_true rfl) ?_
  intro p e s m args below meth c F G hP hr0 hk0 ls hl
  have hS := WS.start hP
  have hl : lv_has ls 2 [(0, .ref (gA g 0)), (1, .int a1)] := hl
  obtain ⟨H, hH⟩ : ∃ H, H = s.heap := ⟨_, rfl⟩
  rw [← hH] at hS ⊢
  clear hH hP
  rw [f_X7_isJoint] at h
  obtain ⟨locs, hlo⟩ : ∃ z : List Loc, z = [] := ⟨_, rfl⟩
  rw [← hlo] at hS ⊢
  clear hlo
  refine lv_iload_n F.1 F.2.1 dX7_isJoint_0 rfl (lv_at hl 1 rfl) ?_
  refine lv_iconst (v := (1 : Int32)) F.1 F.2.1 dX7_isJoint_1 (by decide) ?_
  refine lv_icmp_lt (tgt := 21) F.1 F.2.1 dX7_isJoint_2 (by decide) (fun hc => ?_) (fun hc => ?_)
  · replace h := ifT h hc
    refine lv_iconst (v := (0 : Int32)) F.1 F.2.1 dX7_isJoint_21 (by decide) ?_
    exact e_z F hS (by decide) ⟨Option.some.inj h, rfl, rfl⟩ hr0 dX7_isJoint_22 hk0
  replace h := ifF h hc
  refine lv_iload_n F.1 F.2.1 dX7_isJoint_5 rfl (lv_at hl 1 rfl) ?_
  refine lv_aload_n F.1 F.2.1 dX7_isJoint_6 rfl (lv_at hl 0 rfl) ?_
  refine gf_X7_10 F G hS dX7_isJoint_7 ?_
  refine lv_iconst (v := (0 : Int32)) F.1 F.2.1 dX7_isJoint_10 (by decide) ?_
  obtain ⟨q1, h_q1, h⟩ := bd h
  refine rNi F G hS hl.1 (c_X6_value l g σ τ 1 (0 : Int32) q1 h_q1) lk_X7_110 ⟨rfl, rfl, Nat.le_of_ble_eq_true rfl, Nat.le_of_ble_eq_true rfl⟩ (rc_X6 G hS rfl) rfl rfl (Nat.le_of_ble_eq_true rfl) dX7_isJoint_11 (kRi (fun H locs hS => ?_))
  refine lv_icmp_gt (tgt := 21) F.1 F.2.1 dX7_isJoint_14 (by decide) (fun hc => ?_) (fun hc => ?_)
  · replace h := ifT h hc
    refine lv_iconst (v := (0 : Int32)) F.1 F.2.1 dX7_isJoint_21 (by decide) ?_
    exact e_z F hS (by decide) ⟨Option.some.inj h, rfl, rfl⟩ hr0 dX7_isJoint_22 hk0
  replace h := ifF h hc
  refine lv_iconst (v := (1 : Int32)) F.1 F.2.1 dX7_isJoint_17 (by decide) ?_
  refine lv_goto (tgt := 22) F.1 F.2.1 dX7_isJoint_18 (by decide) ?_
  exact e_z F hS (by decide) ⟨Option.some.inj h, rfl, rfl⟩ hr0 dX7_isJoint_22 hk0
def f_X7_signal_48 (a1 : Int32) (a2 : Int32)  (σ : ZI) (v3 : Int32) (v4 : Int32) (s0 : Int32) (s1 : Int32) : Option (Int32 × ZI) := (f_X6_become σ 1 s1 s0).bind (fun q4 => if (v3 &&& v4) = 0 then (some ((0 : Int32), q4)) else (some ((1 : Int32), q4)))
def f_X7_signal (σ : ZI) (a1 : Int32) (a2 : Int32) : Option (Int32 × ZI) := (f_X7_isJoint σ a1).bind (fun q1 => if q1 = 0 then (some ((-1 : Int32), σ)) else ((f_X6_value σ 1 (4 : Int32)).bind (fun q2 => lt_ (((1 : Int32) <<< ((a1 - (1 : Int32)) &&& 31))) (fun x3 => if a2 = 0 then (f_X7_signal_48 a1 a2 σ q2 x3 (q2 &&& (x3 ^^^ (-1 : Int32))) (4 : Int32)) else (f_X7_signal_48 a1 a2 σ q2 x3 (q2 ||| x3) (4 : Int32))))))
abbrev rm_X7_signal : Room := { frames := 3, cells := 0, slots := 0, locals := 63 }
set_option maxHeartbeats 4000000 in
set_option maxRecDepth 100000 in
theorem c_X7_signal (l : Launch) (g : GG) (σ : ZI) (τ : ZL) (a1 : Int32) (a2 : Int32) (res : Int32 × ZI) (h : f_X7_signal σ a1 a2 = some res) : MI l yX7_signal cX7_signal 5 (some .int) rm_X7_signal g [.ref (gA g 0), .int a1, .int a2] σ τ (fun (r : Int32) (u : ZI × ZL) => (r, u.1) = res ∧ u.2 = τ) := by
  refine Met_in (by decide) (Nat.le_of_ble_eq_true rfl) ?_
  intro p e s m args below meth c F G hP hr0 hk0 ls hl
  have hS := WS.start hP
  have hl : lv_has ls 5 [(0, .ref (gA g 0)), (1, .int a1), (2, .int a2)] := hl
  obtain ⟨H, hH⟩ : ∃ H, H = s.heap := ⟨_, rfl⟩
  rw [← hH] at hS ⊢
  clear hH hP
  rw [f_X7_signal] at h
  have w_48 : ∀ (σ : ZI) (v3 : Int32) (v4 : Int32) (s0 : Int32) (s1 : Int32), f_X7_signal_48 a1 a2 σ v3 v4 s0 s1 = some res → ∀ (H : Heap) (locs : List Loc) (ls : Array Slot), WS g σ τ s H locs → lv_has ls 5 [(3, .int v3), (4, .int v4)] → W p l e rm_X7_signal s m args below meth c H locs 0 0 (MQ below (va_Qi (fun (r : Int32) (u : ZI × ZL) => (r, u.1) = res ∧ u.2 = τ) (WQ g) (AA g)) args s 0 0 (AA g)) (F0 m 48 ls [.int s0, .int s1, .ref (gA g 1)]) := by
    intro  σ v3 v4 s0 s1 h H locs ls hS hl
    rw [f_X7_signal_48] at h
    obtain ⟨q4, h_q4, h⟩ := bd h
    refine rNv F G hS hl.1 (c_X6_become l g σ τ 1 s1 s0 q4 h_q4) lk_X7_159 ⟨rfl, rfl, Nat.le_of_ble_eq_true rfl, Nat.le_of_ble_eq_true rfl⟩ (rc_X6 G hS rfl) rfl rfl (Nat.le_of_ble_eq_true rfl) dX7_signal_48 (kIv (fun H locs hS => ?_))
    refine lv_iload_n F.1 F.2.1 dX7_signal_51 rfl (lv_at hl 0 rfl) ?_
    refine lv_iload F.1 F.2.1 dX7_signal_52 (lv_at hl 1 rfl) ?_
    refine lv_iand F.1 F.2.1 dX7_signal_54 ?_
    refine lv_if_eq (tgt := 62) F.1 F.2.1 dX7_signal_55 (by decide) (fun hc => ?_) (fun hc => ?_)
    · replace h := ifT h hc
      refine lv_iconst (v := (0 : Int32)) F.1 F.2.1 dX7_signal_62 (by decide) ?_
      exact e_i F hS ⟨Option.some.inj h, rfl⟩ hr0 dX7_signal_63 hk0
    replace h := ifF h hc
    refine lv_iconst (v := (1 : Int32)) F.1 F.2.1 dX7_signal_58 (by decide) ?_
    refine lv_goto (tgt := 63) F.1 F.2.1 dX7_signal_59 (by decide) ?_
    exact e_i F hS ⟨Option.some.inj h, rfl⟩ hr0 dX7_signal_63 hk0
  obtain ⟨locs, hlo⟩ : ∃ z : List Loc, z = [] := ⟨_, rfl⟩
  rw [← hlo] at hS ⊢
  clear hlo
  refine lv_aload_n F.1 F.2.1 dX7_signal_0 rfl (lv_at hl 0 rfl) ?_
  refine lv_iload_n F.1 F.2.1 dX7_signal_1 rfl (lv_at hl 1 rfl) ?_
  obtain ⟨q1, h_q1, h⟩ := bd h
  refine rVi F G hS hl.1 (c_X7_isJoint l g σ τ a1 q1 h_q1) lk_X7_163 ⟨rfl, rfl, Nat.le_of_ble_eq_true rfl, Nat.le_of_ble_eq_true rfl⟩ (rc_X7 G hS) rfl rfl (Nat.le_of_ble_eq_true rfl) dX7_signal_2 (kRi (fun H locs hS => ?_))
  refine lv_if_ne (tgt := 10) F.1 F.2.1 dX7_signal_5 (by decide) (fun hc => ?_) (fun hc => ?_)
  rotate_left
  · replace h := ifT h hc
    refine lv_iconst (v := (-1 : Int32)) F.1 F.2.1 dX7_signal_8 (by decide) ?_
    exact e_i F hS ⟨Option.some.inj h, rfl⟩ hr0 dX7_signal_9 hk0
  replace h := ifF h hc
  refine lv_aload_n F.1 F.2.1 dX7_signal_10 rfl (lv_at hl 0 rfl) ?_
  refine gf_X7_10 F G hS dX7_signal_11 ?_
  refine lv_iconst (v := (4 : Int32)) F.1 F.2.1 dX7_signal_14 (by decide) ?_
  obtain ⟨q2, h_q2, h⟩ := bd h
  refine rNi F G hS hl.1 (c_X6_value l g σ τ 1 (4 : Int32) q2 h_q2) lk_X7_110 ⟨rfl, rfl, Nat.le_of_ble_eq_true rfl, Nat.le_of_ble_eq_true rfl⟩ (rc_X6 G hS rfl) rfl rfl (Nat.le_of_ble_eq_true rfl) dX7_signal_15 (kRi (fun H locs hS => ?_))
  refine lv_istore_n (lv' := [(3, .int q2), (0, .ref (gA g 0)), (1, .int a1), (2, .int a2)]) F.1 F.2.1 dX7_signal_18 rfl hl (by decide) rfl (fun ls hl => ?_)
  refine lv_iconst (v := (1 : Int32)) F.1 F.2.1 dX7_signal_19 (by decide) ?_
  refine lv_iload_n F.1 F.2.1 dX7_signal_20 rfl (lv_at hl 2 rfl) ?_
  refine lv_iconst (v := (1 : Int32)) F.1 F.2.1 dX7_signal_21 (by decide) ?_
  refine lv_isub F.1 F.2.1 dX7_signal_22 ?_
  refine lv_ishl F.1 F.2.1 dX7_signal_23 ?_
  obtain ⟨x3, e_x3, h⟩ := ltE h
  refine x_topi e_x3 ?_
  clear e_x3
  refine lv_istore (lv' := [(4, .int x3), (3, .int q2), (0, .ref (gA g 0)), (1, .int a1), (2, .int a2)]) F.1 F.2.1 dX7_signal_24 hl (by decide) rfl (fun ls hl => ?_)
  refine lv_aload_n F.1 F.2.1 dX7_signal_26 rfl (lv_at hl 2 rfl) ?_
  refine gf_X7_10 F G hS dX7_signal_27 ?_
  refine lv_iconst (v := (4 : Int32)) F.1 F.2.1 dX7_signal_30 (by decide) ?_
  refine lv_iload_n F.1 F.2.1 dX7_signal_31 rfl (lv_at hl 4 rfl) ?_
  refine lv_if_eq (tgt := 42) F.1 F.2.1 dX7_signal_32 (by decide) (fun hc => ?_) (fun hc => ?_)
  rotate_left
  · replace h := ifF h hc
    refine lv_iload_n F.1 F.2.1 dX7_signal_35 rfl (lv_at hl 1 rfl) ?_
    refine lv_iload F.1 F.2.1 dX7_signal_36 (lv_at hl 0 rfl) ?_
    refine lv_ior F.1 F.2.1 dX7_signal_38 ?_
    refine lv_goto (tgt := 48) F.1 F.2.1 dX7_signal_39 (by decide) ?_
    exact w_48 σ q2 x3 (q2 ||| x3) (4 : Int32) h H locs _ hS (lv_sub hl [1, 0] rfl)
  replace h := ifT h hc
  refine lv_iload_n F.1 F.2.1 dX7_signal_42 rfl (lv_at hl 1 rfl) ?_
  refine lv_iload F.1 F.2.1 dX7_signal_43 (lv_at hl 0 rfl) ?_
  refine lv_iconst (v := (-1 : Int32)) F.1 F.2.1 dX7_signal_45 (by decide) ?_
  refine lv_ixor F.1 F.2.1 dX7_signal_46 ?_
  refine lv_iand F.1 F.2.1 dX7_signal_47 ?_
  exact w_48 σ q2 x3 (q2 &&& (x3 ^^^ (-1 : Int32))) (4 : Int32) h H locs _ hS (lv_sub hl [1, 0] rfl)
def f_X7_bridge_14 (a1 : Int32)  (σ : ZI) : Option (Int32 × ZI) := (f_X6_value σ 1 (5 : Int32)).bind (fun q1 => (f_X6_become σ 1 (5 : Int32) a1).bind (fun q2 => some (q1, q2)))
def f_X7_bridge (σ : ZI) (a1 : Int32) : Option (Int32 × ZI) := if a1 = 0 then (f_X7_bridge_14 a1 σ) else ((f_X7_isJoint σ a1).bind (fun q3 => if q3 = 0 then (some ((-1 : Int32), σ)) else (f_X7_bridge_14 a1 σ)))
abbrev rm_X7_bridge : Room := { frames := 3, cells := 0, slots := 0, locals := 63 }
set_option maxHeartbeats 4000000 in
set_option maxRecDepth 100000 in
theorem c_X7_bridge (l : Launch) (g : GG) (σ : ZI) (τ : ZL) (a1 : Int32) (res : Int32 × ZI) (h : f_X7_bridge σ a1 = some res) : MI l yX7_bridge cX7_bridge 3 (some .int) rm_X7_bridge g [.ref (gA g 0), .int a1] σ τ (fun (r : Int32) (u : ZI × ZL) => (r, u.1) = res ∧ u.2 = τ) := by
  refine Met_in (by decide) (Nat.le_of_ble_eq_true rfl) ?_
  intro p e s m args below meth c F G hP hr0 hk0 ls hl
  have hS := WS.start hP
  have hl : lv_has ls 3 [(0, .ref (gA g 0)), (1, .int a1)] := hl
  obtain ⟨H, hH⟩ : ∃ H, H = s.heap := ⟨_, rfl⟩
  rw [← hH] at hS ⊢
  clear hH hP
  rw [f_X7_bridge] at h
  have w_14 : ∀ (σ : ZI), f_X7_bridge_14 a1 σ = some res → ∀ (H : Heap) (locs : List Loc) (ls : Array Slot), WS g σ τ s H locs → lv_has ls 3 [(0, .ref (gA g 0)), (1, .int a1)] → W p l e rm_X7_bridge s m args below meth c H locs 0 0 (MQ below (va_Qi (fun (r : Int32) (u : ZI × ZL) => (r, u.1) = res ∧ u.2 = τ) (WQ g) (AA g)) args s 0 0 (AA g)) (F0 m 14 ls []) := by
    intro  σ h H locs ls hS hl
    rw [f_X7_bridge_14] at h
    refine lv_aload_n F.1 F.2.1 dX7_bridge_14 rfl (lv_at hl 0 rfl) ?_
    refine gf_X7_10 F G hS dX7_bridge_15 ?_
    refine lv_iconst (v := (5 : Int32)) F.1 F.2.1 dX7_bridge_18 (by decide) ?_
    obtain ⟨q1, h_q1, h⟩ := bd h
    refine rNi F G hS hl.1 (c_X6_value l g σ τ 1 (5 : Int32) q1 h_q1) lk_X7_110 ⟨rfl, rfl, Nat.le_of_ble_eq_true rfl, Nat.le_of_ble_eq_true rfl⟩ (rc_X6 G hS rfl) rfl rfl (Nat.le_of_ble_eq_true rfl) dX7_bridge_19 (kRi (fun H locs hS => ?_))
    refine lv_istore_n (lv' := [(2, .int q1), (0, .ref (gA g 0)), (1, .int a1)]) F.1 F.2.1 dX7_bridge_22 rfl hl (by decide) rfl (fun ls hl => ?_)
    refine lv_aload_n F.1 F.2.1 dX7_bridge_23 rfl (lv_at hl 1 rfl) ?_
    refine gf_X7_10 F G hS dX7_bridge_24 ?_
    refine lv_iconst (v := (5 : Int32)) F.1 F.2.1 dX7_bridge_27 (by decide) ?_
    refine lv_iload_n F.1 F.2.1 dX7_bridge_28 rfl (lv_at hl 2 rfl) ?_
    obtain ⟨q2, h_q2, h⟩ := bd h
    refine rNv F G hS hl.1 (c_X6_become l g σ τ 1 (5 : Int32) a1 q2 h_q2) lk_X7_159 ⟨rfl, rfl, Nat.le_of_ble_eq_true rfl, Nat.le_of_ble_eq_true rfl⟩ (rc_X6 G hS rfl) rfl rfl (Nat.le_of_ble_eq_true rfl) dX7_bridge_29 (kIv (fun H locs hS => ?_))
    refine lv_iload_n F.1 F.2.1 dX7_bridge_32 rfl (lv_at hl 0 rfl) ?_
    exact e_i F hS ⟨Option.some.inj h, rfl⟩ hr0 dX7_bridge_33 hk0
  obtain ⟨locs, hlo⟩ : ∃ z : List Loc, z = [] := ⟨_, rfl⟩
  rw [← hlo] at hS ⊢
  clear hlo
  refine lv_iload_n F.1 F.2.1 dX7_bridge_0 rfl (lv_at hl 1 rfl) ?_
  refine lv_if_eq (tgt := 14) F.1 F.2.1 dX7_bridge_1 (by decide) (fun hc => ?_) (fun hc => ?_)
  · replace h := ifT h hc
    exact w_14 σ h H locs _ hS (lv_sub hl [0, 1] rfl)
  replace h := ifF h hc
  refine lv_aload_n F.1 F.2.1 dX7_bridge_4 rfl (lv_at hl 0 rfl) ?_
  refine lv_iload_n F.1 F.2.1 dX7_bridge_5 rfl (lv_at hl 1 rfl) ?_
  obtain ⟨q3, h_q3, h⟩ := bd h
  refine rVi F G hS hl.1 (c_X7_isJoint l g σ τ a1 q3 h_q3) lk_X7_163 ⟨rfl, rfl, Nat.le_of_ble_eq_true rfl, Nat.le_of_ble_eq_true rfl⟩ (rc_X7 G hS) rfl rfl (Nat.le_of_ble_eq_true rfl) dX7_bridge_6 (kRi (fun H locs hS => ?_))
  refine lv_if_ne (tgt := 14) F.1 F.2.1 dX7_bridge_9 (by decide) (fun hc => ?_) (fun hc => ?_)
  · replace h := ifF h hc
    exact w_14 σ h H locs _ hS (lv_sub hl [0, 1] rfl)
  replace h := ifT h hc
  refine lv_iconst (v := (-1 : Int32)) F.1 F.2.1 dX7_bridge_12 (by decide) ?_
  exact e_i F hS ⟨Option.some.inj h, rfl⟩ hr0 dX7_bridge_13 hk0
def f_X7_clear (σ : ZI) (a1 : Int32) (a2 : Int32) : Option (Int32 × ZI) := (f_X7_isMark σ a1).bind (fun q1 => if q1 = 0 then (some ((-1 : Int32), σ)) else (if a2 < 0 then (some ((-1 : Int32), σ)) else (if a2 ≤ (10 : Int32) then ((f_X7_at σ 7 a1).bind (fun q2 => (f_X7_put σ 7 a1 a2).bind (fun q3 => some (q2, q3)))) else (some ((-1 : Int32), σ)))))
abbrev rm_X7_clear : Room := { frames := 3, cells := 0, slots := 0, locals := 63 }
set_option maxHeartbeats 4000000 in
set_option maxRecDepth 100000 in
theorem c_X7_clear (l : Launch) (g : GG) (σ : ZI) (τ : ZL) (a1 : Int32) (a2 : Int32) (res : Int32 × ZI) (h : f_X7_clear σ a1 a2 = some res) : MI l yX7_clear cX7_clear 4 (some .int) rm_X7_clear g [.ref (gA g 0), .int a1, .int a2] σ τ (fun (r : Int32) (u : ZI × ZL) => (r, u.1) = res ∧ u.2 = τ) := by
  refine Met_in (by decide) (Nat.le_of_ble_eq_true rfl) ?_
  intro p e s m args below meth c F G hP hr0 hk0 ls hl
  have hS := WS.start hP
  have hl : lv_has ls 4 [(0, .ref (gA g 0)), (1, .int a1), (2, .int a2)] := hl
  obtain ⟨H, hH⟩ : ∃ H, H = s.heap := ⟨_, rfl⟩
  rw [← hH] at hS ⊢
  clear hH hP
  rw [f_X7_clear] at h
  obtain ⟨locs, hlo⟩ : ∃ z : List Loc, z = [] := ⟨_, rfl⟩
  rw [← hlo] at hS ⊢
  clear hlo
  refine lv_aload_n F.1 F.2.1 dX7_clear_0 rfl (lv_at hl 0 rfl) ?_
  refine lv_iload_n F.1 F.2.1 dX7_clear_1 rfl (lv_at hl 1 rfl) ?_
  obtain ⟨q1, h_q1, h⟩ := bd h
  refine rVi F G hS hl.1 (c_X7_isMark l g σ τ a1 q1 h_q1) lk_X7_134 ⟨rfl, rfl, Nat.le_of_ble_eq_true rfl, Nat.le_of_ble_eq_true rfl⟩ (rc_X7 G hS) rfl rfl (Nat.le_of_ble_eq_true rfl) dX7_clear_2 (kRi (fun H locs hS => ?_))
  refine lv_if_eq (tgt := 18) F.1 F.2.1 dX7_clear_5 (by decide) (fun hc => ?_) (fun hc => ?_)
  · replace h := ifT h hc
    refine lv_iconst (v := (-1 : Int32)) F.1 F.2.1 dX7_clear_18 (by decide) ?_
    exact e_i F hS ⟨Option.some.inj h, rfl⟩ hr0 dX7_clear_19 hk0
  replace h := ifF h hc
  refine lv_iload_n F.1 F.2.1 dX7_clear_8 rfl (lv_at hl 2 rfl) ?_
  refine lv_if_lt (tgt := 18) F.1 F.2.1 dX7_clear_9 (by decide) (fun hc => ?_) (fun hc => ?_)
  · replace h := ifT h hc
    refine lv_iconst (v := (-1 : Int32)) F.1 F.2.1 dX7_clear_18 (by decide) ?_
    exact e_i F hS ⟨Option.some.inj h, rfl⟩ hr0 dX7_clear_19 hk0
  replace h := ifF h hc
  refine lv_iload_n F.1 F.2.1 dX7_clear_12 rfl (lv_at hl 2 rfl) ?_
  refine lv_bipush (v := (10 : Int32)) F.1 F.2.1 dX7_clear_13 (by decide) ?_
  refine lv_icmp_le (tgt := 20) F.1 F.2.1 dX7_clear_15 (by decide) (fun hc => ?_) (fun hc => ?_)
  rotate_left
  · replace h := ifF h hc
    refine lv_iconst (v := (-1 : Int32)) F.1 F.2.1 dX7_clear_18 (by decide) ?_
    exact e_i F hS ⟨Option.some.inj h, rfl⟩ hr0 dX7_clear_19 hk0
  replace h := ifT h hc
  refine lv_aload_n F.1 F.2.1 dX7_clear_20 rfl (lv_at hl 0 rfl) ?_
  refine gf_X7_10 F G hS dX7_clear_21 ?_
  refine gf_X7_143 F G hS rfl dX7_clear_24 ?_
  refine lv_iload_n F.1 F.2.1 dX7_clear_27 rfl (lv_at hl 1 rfl) ?_
  obtain ⟨q2, h_q2, h⟩ := bd h
  refine rSi F G hS hl.1 (c_X7_at l g σ τ 7 a1 q2 h_q2) lk_X7_120 ⟨rfl, rfl, Nat.le_of_ble_eq_true rfl, Nat.le_of_ble_eq_true rfl⟩  rfl rfl (Nat.le_of_ble_eq_true rfl) dX7_clear_28 (kRi (fun H locs hS => ?_))
  refine lv_istore_n (lv' := [(3, .int q2), (0, .ref (gA g 0)), (1, .int a1), (2, .int a2)]) F.1 F.2.1 dX7_clear_31 rfl hl (by decide) rfl (fun ls hl => ?_)
  refine lv_aload_n F.1 F.2.1 dX7_clear_32 rfl (lv_at hl 1 rfl) ?_
  refine gf_X7_10 F G hS dX7_clear_33 ?_
  refine gf_X7_143 F G hS rfl dX7_clear_36 ?_
  refine lv_iload_n F.1 F.2.1 dX7_clear_39 rfl (lv_at hl 2 rfl) ?_
  refine lv_iload_n F.1 F.2.1 dX7_clear_40 rfl (lv_at hl 3 rfl) ?_
  obtain ⟨q3, h_q3, h⟩ := bd h
  refine rSv F G hS hl.1 (c_X7_put l g σ τ 7 a1 a2 q3 h_q3) lk_X7_166 ⟨rfl, rfl, Nat.le_of_ble_eq_true rfl, Nat.le_of_ble_eq_true rfl⟩  rfl rfl (Nat.le_of_ble_eq_true rfl) dX7_clear_41 (kIv (fun H locs hS => ?_))
  refine lv_iload_n F.1 F.2.1 dX7_clear_44 rfl (lv_at hl 0 rfl) ?_
  exact e_i F hS ⟨Option.some.inj h, rfl⟩ hr0 dX7_clear_45 hk0
def f_X7_hang (σ : ZI) (a1 : Int32) (a2 : Int32) : Option (Int32 × ZI) := (f_X7_isArm σ a1).bind (fun q1 => if q1 = 0 then (some ((-1 : Int32), σ)) else (if a2 < 0 then (some ((-1 : Int32), σ)) else (if a2 ≤ (4 : Int32) then ((f_X7_at σ 3 a1).bind (fun q2 => (f_X7_put σ 3 a1 a2).bind (fun q3 => some (q2, q3)))) else (some ((-1 : Int32), σ)))))
abbrev rm_X7_hang : Room := { frames := 3, cells := 0, slots := 0, locals := 63 }
set_option maxHeartbeats 4000000 in
set_option maxRecDepth 100000 in
theorem c_X7_hang (l : Launch) (g : GG) (σ : ZI) (τ : ZL) (a1 : Int32) (a2 : Int32) (res : Int32 × ZI) (h : f_X7_hang σ a1 a2 = some res) : MI l yX7_hang cX7_hang 4 (some .int) rm_X7_hang g [.ref (gA g 0), .int a1, .int a2] σ τ (fun (r : Int32) (u : ZI × ZL) => (r, u.1) = res ∧ u.2 = τ) := by
  refine Met_in (by decide) (Nat.le_of_ble_eq_true rfl) ?_
  intro p e s m args below meth c F G hP hr0 hk0 ls hl
  have hS := WS.start hP
  have hl : lv_has ls 4 [(0, .ref (gA g 0)), (1, .int a1), (2, .int a2)] := hl
  obtain ⟨H, hH⟩ : ∃ H, H = s.heap := ⟨_, rfl⟩
  rw [← hH] at hS ⊢
  clear hH hP
  rw [f_X7_hang] at h
  obtain ⟨locs, hlo⟩ : ∃ z : List Loc, z = [] := ⟨_, rfl⟩
  rw [← hlo] at hS ⊢
  clear hlo
  refine lv_aload_n F.1 F.2.1 dX7_hang_0 rfl (lv_at hl 0 rfl) ?_
  refine lv_iload_n F.1 F.2.1 dX7_hang_1 rfl (lv_at hl 1 rfl) ?_
  obtain ⟨q1, h_q1, h⟩ := bd h
  refine rVi F G hS hl.1 (c_X7_isArm l g σ τ a1 q1 h_q1) lk_X7_114 ⟨rfl, rfl, Nat.le_of_ble_eq_true rfl, Nat.le_of_ble_eq_true rfl⟩ (rc_X7 G hS) rfl rfl (Nat.le_of_ble_eq_true rfl) dX7_hang_2 (kRi (fun H locs hS => ?_))
  refine lv_if_eq (tgt := 17) F.1 F.2.1 dX7_hang_5 (by decide) (fun hc => ?_) (fun hc => ?_)
  · replace h := ifT h hc
    refine lv_iconst (v := (-1 : Int32)) F.1 F.2.1 dX7_hang_17 (by decide) ?_
    exact e_i F hS ⟨Option.some.inj h, rfl⟩ hr0 dX7_hang_18 hk0
  replace h := ifF h hc
  refine lv_iload_n F.1 F.2.1 dX7_hang_8 rfl (lv_at hl 2 rfl) ?_
  refine lv_if_lt (tgt := 17) F.1 F.2.1 dX7_hang_9 (by decide) (fun hc => ?_) (fun hc => ?_)
  · replace h := ifT h hc
    refine lv_iconst (v := (-1 : Int32)) F.1 F.2.1 dX7_hang_17 (by decide) ?_
    exact e_i F hS ⟨Option.some.inj h, rfl⟩ hr0 dX7_hang_18 hk0
  replace h := ifF h hc
  refine lv_iload_n F.1 F.2.1 dX7_hang_12 rfl (lv_at hl 2 rfl) ?_
  refine lv_iconst (v := (4 : Int32)) F.1 F.2.1 dX7_hang_13 (by decide) ?_
  refine lv_icmp_le (tgt := 19) F.1 F.2.1 dX7_hang_14 (by decide) (fun hc => ?_) (fun hc => ?_)
  rotate_left
  · replace h := ifF h hc
    refine lv_iconst (v := (-1 : Int32)) F.1 F.2.1 dX7_hang_17 (by decide) ?_
    exact e_i F hS ⟨Option.some.inj h, rfl⟩ hr0 dX7_hang_18 hk0
  replace h := ifT h hc
  refine lv_aload_n F.1 F.2.1 dX7_hang_19 rfl (lv_at hl 0 rfl) ?_
  refine gf_X7_10 F G hS dX7_hang_20 ?_
  refine gf_X7_117 F G hS rfl dX7_hang_23 ?_
  refine lv_iload_n F.1 F.2.1 dX7_hang_26 rfl (lv_at hl 1 rfl) ?_
  obtain ⟨q2, h_q2, h⟩ := bd h
  refine rSi F G hS hl.1 (c_X7_at l g σ τ 3 a1 q2 h_q2) lk_X7_120 ⟨rfl, rfl, Nat.le_of_ble_eq_true rfl, Nat.le_of_ble_eq_true rfl⟩  rfl rfl (Nat.le_of_ble_eq_true rfl) dX7_hang_27 (kRi (fun H locs hS => ?_))
  refine lv_istore_n (lv' := [(3, .int q2), (0, .ref (gA g 0)), (1, .int a1), (2, .int a2)]) F.1 F.2.1 dX7_hang_30 rfl hl (by decide) rfl (fun ls hl => ?_)
  refine lv_aload_n F.1 F.2.1 dX7_hang_31 rfl (lv_at hl 1 rfl) ?_
  refine gf_X7_10 F G hS dX7_hang_32 ?_
  refine gf_X7_117 F G hS rfl dX7_hang_35 ?_
  refine lv_iload_n F.1 F.2.1 dX7_hang_38 rfl (lv_at hl 2 rfl) ?_
  refine lv_iload_n F.1 F.2.1 dX7_hang_39 rfl (lv_at hl 3 rfl) ?_
  obtain ⟨q3, h_q3, h⟩ := bd h
  refine rSv F G hS hl.1 (c_X7_put l g σ τ 3 a1 a2 q3 h_q3) lk_X7_166 ⟨rfl, rfl, Nat.le_of_ble_eq_true rfl, Nat.le_of_ble_eq_true rfl⟩  rfl rfl (Nat.le_of_ble_eq_true rfl) dX7_hang_40 (kIv (fun H locs hS => ?_))
  refine lv_iload_n F.1 F.2.1 dX7_hang_43 rfl (lv_at hl 0 rfl) ?_
  exact e_i F hS ⟨Option.some.inj h, rfl⟩ hr0 dX7_hang_44 hk0
def f_X7_postedTo (σ : ZI) (r1 : Nat) (a2 : Int32) (a3 : Int32) : Option (Int32) := if (ar r1).1 = 1 then ((f_X7_isTown σ a2).bind (fun q1 => if q1 = 0 then (some (-1 : Int32)) else (if a3 < 0 then (some (-1 : Int32)) else (if a3 ≤ (99 : Int32) then ((f_X7_at σ r1 a2).bind (fun q2 => if (q2 + a3) ≤ (99 : Int32) then (some (q2 + a3)) else (some (-3 : Int32)))) else (some (-1 : Int32)))))) else none
abbrev rm_X7_postedTo : Room := { frames := 3, cells := 0, slots := 0, locals := 63 }
set_option maxHeartbeats 4000000 in
set_option maxRecDepth 100000 in
theorem c_X7_postedTo (l : Launch) (g : GG) (σ : ZI) (τ : ZL) (r1 : Nat) (a2 : Int32) (a3 : Int32) (res : Int32) (h : f_X7_postedTo σ r1 a2 a3 = some res) : MI l yX7_postedTo cX7_postedTo 5 (some .int) rm_X7_postedTo g [.ref (gA g 0), .ref (gA g r1), .int a2, .int a3] σ τ (fun (r : Int32) (u : ZI × ZL) => r = res ∧ u.1 = σ ∧ u.2 = τ) := by
  refine Met_in (by decide) (Nat.le_of_ble_eq_true rfl) ?_
  intro p e s m args below meth c F G hP hr0 hk0 ls hl
  have hS := WS.start hP
  have hl : lv_has ls 5 [(0, .ref (gA g 0)), (1, .ref (gA g r1)), (2, .int a2), (3, .int a3)] := hl
  obtain ⟨H, hH⟩ : ∃ H, H = s.heap := ⟨_, rfl⟩
  rw [← hH] at hS ⊢
  clear hH hP
  rw [f_X7_postedTo] at h
  obtain ⟨hg_r1, h⟩ := gd h
  obtain ⟨locs, hlo⟩ : ∃ z : List Loc, z = [] := ⟨_, rfl⟩
  rw [← hlo] at hS ⊢
  clear hlo
  refine lv_aload_n F.1 F.2.1 dX7_postedTo_0 rfl (lv_at hl 0 rfl) ?_
  refine lv_iload_n F.1 F.2.1 dX7_postedTo_1 rfl (lv_at hl 2 rfl) ?_
  obtain ⟨q1, h_q1, h⟩ := bd h
  refine rVi F G hS hl.1 (c_X7_isTown l g σ τ a2 q1 h_q1) lk_X7_146 ⟨rfl, rfl, Nat.le_of_ble_eq_true rfl, Nat.le_of_ble_eq_true rfl⟩ (rc_X7 G hS) rfl rfl (Nat.le_of_ble_eq_true rfl) dX7_postedTo_2 (kRi (fun H locs hS => ?_))
  refine lv_if_eq (tgt := 18) F.1 F.2.1 dX7_postedTo_5 (by decide) (fun hc => ?_) (fun hc => ?_)
  · replace h := ifT h hc
    refine lv_iconst (v := (-1 : Int32)) F.1 F.2.1 dX7_postedTo_18 (by decide) ?_
    exact e_i F hS ⟨Option.some.inj h, rfl, rfl⟩ hr0 dX7_postedTo_19 hk0
  replace h := ifF h hc
  refine lv_iload_n F.1 F.2.1 dX7_postedTo_8 rfl (lv_at hl 3 rfl) ?_
  refine lv_if_lt (tgt := 18) F.1 F.2.1 dX7_postedTo_9 (by decide) (fun hc => ?_) (fun hc => ?_)
  · replace h := ifT h hc
    refine lv_iconst (v := (-1 : Int32)) F.1 F.2.1 dX7_postedTo_18 (by decide) ?_
    exact e_i F hS ⟨Option.some.inj h, rfl, rfl⟩ hr0 dX7_postedTo_19 hk0
  replace h := ifF h hc
  refine lv_iload_n F.1 F.2.1 dX7_postedTo_12 rfl (lv_at hl 3 rfl) ?_
  refine lv_bipush (v := (99 : Int32)) F.1 F.2.1 dX7_postedTo_13 (by decide) ?_
  refine lv_icmp_le (tgt := 20) F.1 F.2.1 dX7_postedTo_15 (by decide) (fun hc => ?_) (fun hc => ?_)
  rotate_left
  · replace h := ifF h hc
    refine lv_iconst (v := (-1 : Int32)) F.1 F.2.1 dX7_postedTo_18 (by decide) ?_
    exact e_i F hS ⟨Option.some.inj h, rfl, rfl⟩ hr0 dX7_postedTo_19 hk0
  replace h := ifT h hc
  refine lv_aload_n F.1 F.2.1 dX7_postedTo_20 rfl (lv_at hl 1 rfl) ?_
  refine lv_iload_n F.1 F.2.1 dX7_postedTo_21 rfl (lv_at hl 2 rfl) ?_
  obtain ⟨q2, h_q2, h⟩ := bd h
  refine rSi F G hS hl.1 (c_X7_at l g σ τ r1 a2 q2 h_q2) lk_X7_120 ⟨rfl, rfl, Nat.le_of_ble_eq_true rfl, Nat.le_of_ble_eq_true rfl⟩  rfl rfl (Nat.le_of_ble_eq_true rfl) dX7_postedTo_22 (kRi (fun H locs hS => ?_))
  refine lv_iload_n F.1 F.2.1 dX7_postedTo_25 rfl (lv_at hl 3 rfl) ?_
  refine lv_iadd F.1 F.2.1 dX7_postedTo_26 ?_
  refine lv_istore (lv' := [(4, .int (q2 + a3)), (0, .ref (gA g 0)), (1, .ref (gA g r1)), (2, .int a2), (3, .int a3)]) F.1 F.2.1 dX7_postedTo_27 hl (by decide) rfl (fun ls hl => ?_)
  refine lv_iload F.1 F.2.1 dX7_postedTo_29 (lv_at hl 0 rfl) ?_
  refine lv_bipush (v := (99 : Int32)) F.1 F.2.1 dX7_postedTo_31 (by decide) ?_
  refine lv_icmp_le (tgt := 41) F.1 F.2.1 dX7_postedTo_33 (by decide) (fun hc => ?_) (fun hc => ?_)
  · replace h := ifT h hc
    refine lv_iload F.1 F.2.1 dX7_postedTo_41 (lv_at hl 0 rfl) ?_
    exact e_i F hS ⟨Option.some.inj h, rfl, rfl⟩ hr0 dX7_postedTo_43 hk0
  replace h := ifF h hc
  refine lv_bipush (v := (-3 : Int32)) F.1 F.2.1 dX7_postedTo_36 (by decide) ?_
  refine lv_goto (tgt := 43) F.1 F.2.1 dX7_postedTo_38 (by decide) ?_
  exact e_i F hS ⟨Option.some.inj h, rfl, rfl⟩ hr0 dX7_postedTo_43 hk0
def f_X7_post (σ : ZI) (a1 : Int32) (a2 : Int32) : Option (Int32 × ZI) := (f_X7_postedTo σ 8 a1 a2).bind (fun q1 => if q1 < 0 then (some (q1, σ)) else ((f_X7_put σ 8 a1 q1).bind (fun q2 => some (q1, q2))))
abbrev rm_X7_post : Room := { frames := 4, cells := 0, slots := 0, locals := 87 }
set_option maxHeartbeats 4000000 in
set_option maxRecDepth 100000 in
theorem c_X7_post (l : Launch) (g : GG) (σ : ZI) (τ : ZL) (a1 : Int32) (a2 : Int32) (res : Int32 × ZI) (h : f_X7_post σ a1 a2 = some res) : MI l yX7_post cX7_post 4 (some .int) rm_X7_post g [.ref (gA g 0), .int a1, .int a2] σ τ (fun (r : Int32) (u : ZI × ZL) => (r, u.1) = res ∧ u.2 = τ) := by
  refine Met_in (by decide) (Nat.le_of_ble_eq_true rfl) ?_
  intro p e s m args below meth c F G hP hr0 hk0 ls hl
  have hS := WS.start hP
  have hl : lv_has ls 4 [(0, .ref (gA g 0)), (1, .int a1), (2, .int a2)] := hl
  obtain ⟨H, hH⟩ : ∃ H, H = s.heap := ⟨_, rfl⟩
  rw [← hH] at hS ⊢
  clear hH hP
  rw [f_X7_post] at h
  obtain ⟨locs, hlo⟩ : ∃ z : List Loc, z = [] := ⟨_, rfl⟩
  rw [← hlo] at hS ⊢
  clear hlo
  refine lv_aload_n F.1 F.2.1 dX7_post_0 rfl (lv_at hl 0 rfl) ?_
  refine lv_aload_n F.1 F.2.1 dX7_post_1 rfl (lv_at hl 0 rfl) ?_
  refine gf_X7_10 F G hS dX7_post_2 ?_
  refine gf_X7_149 F G hS rfl dX7_post_5 ?_
  refine lv_iload_n F.1 F.2.1 dX7_post_8 rfl (lv_at hl 1 rfl) ?_
  refine lv_iload_n F.1 F.2.1 dX7_post_9 rfl (lv_at hl 2 rfl) ?_
  obtain ⟨q1, h_q1, h⟩ := bd h
  refine rVi F G hS hl.1 (c_X7_postedTo l g σ τ 8 a1 a2 q1 h_q1) lk_X7_170 ⟨rfl, rfl, Nat.le_of_ble_eq_true rfl, Nat.le_of_ble_eq_true rfl⟩ (rc_X7 G hS) rfl rfl (Nat.le_of_ble_eq_true rfl) dX7_post_10 (kRi (fun H locs hS => ?_))
  refine lv_istore_n (lv' := [(3, .int q1), (0, .ref (gA g 0)), (1, .int a1), (2, .int a2)]) F.1 F.2.1 dX7_post_13 rfl hl (by decide) rfl (fun ls hl => ?_)
  refine lv_iload_n F.1 F.2.1 dX7_post_14 rfl (lv_at hl 0 rfl) ?_
  refine lv_if_lt (tgt := 30) F.1 F.2.1 dX7_post_15 (by decide) (fun hc => ?_) (fun hc => ?_)
  · replace h := ifT h hc
    refine lv_iload_n F.1 F.2.1 dX7_post_30 rfl (lv_at hl 0 rfl) ?_
    exact e_i F hS ⟨Option.some.inj h, rfl⟩ hr0 dX7_post_31 hk0
  replace h := ifF h hc
  refine lv_aload_n F.1 F.2.1 dX7_post_18 rfl (lv_at hl 1 rfl) ?_
  refine gf_X7_10 F G hS dX7_post_19 ?_
  refine gf_X7_149 F G hS rfl dX7_post_22 ?_
  refine lv_iload_n F.1 F.2.1 dX7_post_25 rfl (lv_at hl 2 rfl) ?_
  refine lv_iload_n F.1 F.2.1 dX7_post_26 rfl (lv_at hl 0 rfl) ?_
  obtain ⟨q2, h_q2, h⟩ := bd h
  refine rSv F G hS hl.1 (c_X7_put l g σ τ 8 a1 q1 q2 h_q2) lk_X7_166 ⟨rfl, rfl, Nat.le_of_ble_eq_true rfl, Nat.le_of_ble_eq_true rfl⟩  rfl rfl (Nat.le_of_ble_eq_true rfl) dX7_post_27 (kIv (fun H locs hS => ?_))
  refine lv_iload_n F.1 F.2.1 dX7_post_30 rfl (lv_at hl 0 rfl) ?_
  exact e_i F hS ⟨Option.some.inj h, rfl⟩ hr0 dX7_post_31 hk0
def f_X7_areJoints (σ : ZI) (a1 : Int32) : Option (Int32) := if a1 < 0 then (some (0 : Int32)) else ((f_X6_value σ 1 (0 : Int32)).bind (fun q1 => if ((1 : Int32) <<< (q1 &&& 31)) ≤ a1 then (some (0 : Int32)) else (some (1 : Int32))))
abbrev rm_X7_areJoints : Room := { frames := 2, cells := 0, slots := 0, locals := 42 }
set_option maxHeartbeats 4000000 in
set_option maxRecDepth 100000 in
theorem c_X7_areJoints (l : Launch) (g : GG) (σ : ZI) (τ : ZL) (a1 : Int32) (res : Int32) (h : f_X7_areJoints σ a1 = some res) : MI l yX7_areJoints cX7_areJoints 2 (some .boolean) rm_X7_areJoints g [.ref (gA g 0), .int a1] σ τ (fun (r : Int32) (u : ZI × ZL) => r = res ∧ u.1 = σ ∧ u.2 = τ) := by
  refine Met_in (by decide) (Nat.le_of_ble_eq_true rfl) ?_
  intro p e s m args below meth c F G hP hr0 hk0 ls hl
  have hS := WS.start hP
  have hl : lv_has ls 2 [(0, .ref (gA g 0)), (1, .int a1)] := hl
  obtain ⟨H, hH⟩ : ∃ H, H = s.heap := ⟨_, rfl⟩
  rw [← hH] at hS ⊢
  clear hH hP
  rw [f_X7_areJoints] at h
  obtain ⟨locs, hlo⟩ : ∃ z : List Loc, z = [] := ⟨_, rfl⟩
  rw [← hlo] at hS ⊢
  clear hlo
  refine lv_iload_n F.1 F.2.1 dX7_areJoints_0 rfl (lv_at hl 1 rfl) ?_
  refine lv_if_lt (tgt := 22) F.1 F.2.1 dX7_areJoints_1 (by decide) (fun hc => ?_) (fun hc => ?_)
  · replace h := ifT h hc
    refine lv_iconst (v := (0 : Int32)) F.1 F.2.1 dX7_areJoints_22 (by decide) ?_
    exact e_z F hS (by decide) ⟨Option.some.inj h, rfl, rfl⟩ hr0 dX7_areJoints_23 hk0
  replace h := ifF h hc
  refine lv_iload_n F.1 F.2.1 dX7_areJoints_4 rfl (lv_at hl 1 rfl) ?_
  refine lv_iconst (v := (1 : Int32)) F.1 F.2.1 dX7_areJoints_5 (by decide) ?_
  refine lv_aload_n F.1 F.2.1 dX7_areJoints_6 rfl (lv_at hl 0 rfl) ?_
  refine gf_X7_10 F G hS dX7_areJoints_7 ?_
  refine lv_iconst (v := (0 : Int32)) F.1 F.2.1 dX7_areJoints_10 (by decide) ?_
  obtain ⟨q1, h_q1, h⟩ := bd h
  refine rNi F G hS hl.1 (c_X6_value l g σ τ 1 (0 : Int32) q1 h_q1) lk_X7_110 ⟨rfl, rfl, Nat.le_of_ble_eq_true rfl, Nat.le_of_ble_eq_true rfl⟩ (rc_X6 G hS rfl) rfl rfl (Nat.le_of_ble_eq_true rfl) dX7_areJoints_11 (kRi (fun H locs hS => ?_))
  refine lv_ishl F.1 F.2.1 dX7_areJoints_14 ?_
  refine lv_icmp_ge (tgt := 22) F.1 F.2.1 dX7_areJoints_15 (by decide) (fun hc => ?_) (fun hc => ?_)
  · replace h := ifT h hc
    refine lv_iconst (v := (0 : Int32)) F.1 F.2.1 dX7_areJoints_22 (by decide) ?_
    exact e_z F hS (by decide) ⟨Option.some.inj h, rfl, rfl⟩ hr0 dX7_areJoints_23 hk0
  replace h := ifF h hc
  refine lv_iconst (v := (1 : Int32)) F.1 F.2.1 dX7_areJoints_18 (by decide) ?_
  refine lv_goto (tgt := 23) F.1 F.2.1 dX7_areJoints_19 (by decide) ?_
  exact e_z F hS (by decide) ⟨Option.some.inj h, rfl, rfl⟩ hr0 dX7_areJoints_23 hk0
def f_X7_areMarks (σ : ZI) (a1 : Int32) : Option (Int32) := if a1 < 0 then (some (0 : Int32)) else ((f_X6_value σ 1 (2 : Int32)).bind (fun q1 => if ((1 : Int32) <<< (q1 &&& 31)) ≤ a1 then (some (0 : Int32)) else (some (1 : Int32))))
abbrev rm_X7_areMarks : Room := { frames := 2, cells := 0, slots := 0, locals := 42 }
set_option maxHeartbeats 4000000 in
set_option maxRecDepth 100000 in
theorem c_X7_areMarks (l : Launch) (g : GG) (σ : ZI) (τ : ZL) (a1 : Int32) (res : Int32) (h : f_X7_areMarks σ a1 = some res) : MI l yX7_areMarks cX7_areMarks 2 (some .boolean) rm_X7_areMarks g [.ref (gA g 0), .int a1] σ τ (fun (r : Int32) (u : ZI × ZL) => r = res ∧ u.1 = σ ∧ u.2 = τ) := by
  refine Met_in (by decide) (Nat.le_of_ble_eq_true rfl) ?_
  intro p e s m args below meth c F G hP hr0 hk0 ls hl
  have hS := WS.start hP
  have hl : lv_has ls 2 [(0, .ref (gA g 0)), (1, .int a1)] := hl
  obtain ⟨H, hH⟩ : ∃ H, H = s.heap := ⟨_, rfl⟩
  rw [← hH] at hS ⊢
  clear hH hP
  rw [f_X7_areMarks] at h
  obtain ⟨locs, hlo⟩ : ∃ z : List Loc, z = [] := ⟨_, rfl⟩
  rw [← hlo] at hS ⊢
  clear hlo
  refine lv_iload_n F.1 F.2.1 dX7_areMarks_0 rfl (lv_at hl 1 rfl) ?_
  refine lv_if_lt (tgt := 22) F.1 F.2.1 dX7_areMarks_1 (by decide) (fun hc => ?_) (fun hc => ?_)
  · replace h := ifT h hc
    refine lv_iconst (v := (0 : Int32)) F.1 F.2.1 dX7_areMarks_22 (by decide) ?_
    exact e_z F hS (by decide) ⟨Option.some.inj h, rfl, rfl⟩ hr0 dX7_areMarks_23 hk0
  replace h := ifF h hc
  refine lv_iload_n F.1 F.2.1 dX7_areMarks_4 rfl (lv_at hl 1 rfl) ?_
  refine lv_iconst (v := (1 : Int32)) F.1 F.2.1 dX7_areMarks_5 (by decide) ?_
  refine lv_aload_n F.1 F.2.1 dX7_areMarks_6 rfl (lv_at hl 0 rfl) ?_
  refine gf_X7_10 F G hS dX7_areMarks_7 ?_
  refine lv_iconst (v := (2 : Int32)) F.1 F.2.1 dX7_areMarks_10 (by decide) ?_
  obtain ⟨q1, h_q1, h⟩ := bd h
  refine rNi F G hS hl.1 (c_X6_value l g σ τ 1 (2 : Int32) q1 h_q1) lk_X7_110 ⟨rfl, rfl, Nat.le_of_ble_eq_true rfl, Nat.le_of_ble_eq_true rfl⟩ (rc_X6 G hS rfl) rfl rfl (Nat.le_of_ble_eq_true rfl) dX7_areMarks_11 (kRi (fun H locs hS => ?_))
  refine lv_ishl F.1 F.2.1 dX7_areMarks_14 ?_
  refine lv_icmp_ge (tgt := 22) F.1 F.2.1 dX7_areMarks_15 (by decide) (fun hc => ?_) (fun hc => ?_)
  · replace h := ifT h hc
    refine lv_iconst (v := (0 : Int32)) F.1 F.2.1 dX7_areMarks_22 (by decide) ?_
    exact e_z F hS (by decide) ⟨Option.some.inj h, rfl, rfl⟩ hr0 dX7_areMarks_23 hk0
  replace h := ifF h hc
  refine lv_iconst (v := (1 : Int32)) F.1 F.2.1 dX7_areMarks_18 (by decide) ?_
  refine lv_goto (tgt := 23) F.1 F.2.1 dX7_areMarks_19 (by decide) ?_
  exact e_z F hS (by decide) ⟨Option.some.inj h, rfl, rfl⟩ hr0 dX7_areMarks_23 hk0
def f_X7_isNightPart (a1 : Int32) : Option (Int32) := if a1 < 0 then (some (0 : Int32)) else (if (5 : Int32) < a1 then (some (0 : Int32)) else (some (1 : Int32)))
abbrev rm_X7_isNightPart : Room := { frames := 0, cells := 0, slots := 0, locals := 0 }
set_option maxHeartbeats 4000000 in
set_option maxRecDepth 100000 in
theorem c_X7_isNightPart (l : Launch) (g : GG) (σ : ZI) (τ : ZL) (a1 : Int32) (res : Int32) (h : f_X7_isNightPart a1 = some res) : MI l yX7_isNightPart cX7_isNightPart 1 (some .boolean) rm_X7_isNightPart g [.int a1] σ τ (fun (r : Int32) (u : ZI × ZL) => r = res ∧ u.1 = σ ∧ u.2 = τ) := by
  refine Met_in (by decide) (Nat.le_of_ble_eq_true rfl) ?_
  intro p e s m args below meth c F G hP hr0 hk0 ls hl
  have hS := WS.start hP
  have hl : lv_has ls 1 [(0, .int a1)] := hl
  obtain ⟨H, hH⟩ : ∃ H, H = s.heap := ⟨_, rfl⟩
  rw [← hH] at hS ⊢
  clear hH hP
  rw [f_X7_isNightPart] at h
  obtain ⟨locs, hlo⟩ : ∃ z : List Loc, z = [] := ⟨_, rfl⟩
  rw [← hlo] at hS ⊢
  clear hlo
  refine lv_iload_n F.1 F.2.1 dX7_isNightPart_0 rfl (lv_at hl 0 rfl) ?_
  refine lv_if_lt (tgt := 13) F.1 F.2.1 dX7_isNightPart_1 (by decide) (fun hc => ?_) (fun hc => ?_)
  · replace h := ifT h hc
    refine lv_iconst (v := (0 : Int32)) F.1 F.2.1 dX7_isNightPart_13 (by decide) ?_
    exact e_z F hS (by decide) ⟨Option.some.inj h, rfl, rfl⟩ hr0 dX7_isNightPart_14 hk0
  replace h := ifF h hc
  refine lv_iload_n F.1 F.2.1 dX7_isNightPart_4 rfl (lv_at hl 0 rfl) ?_
  refine lv_iconst (v := (5 : Int32)) F.1 F.2.1 dX7_isNightPart_5 (by decide) ?_
  refine lv_icmp_gt (tgt := 13) F.1 F.2.1 dX7_isNightPart_6 (by decide) (fun hc => ?_) (fun hc => ?_)
  · replace h := ifT h hc
    refine lv_iconst (v := (0 : Int32)) F.1 F.2.1 dX7_isNightPart_13 (by decide) ?_
    exact e_z F hS (by decide) ⟨Option.some.inj h, rfl, rfl⟩ hr0 dX7_isNightPart_14 hk0
  replace h := ifF h hc
  refine lv_iconst (v := (1 : Int32)) F.1 F.2.1 dX7_isNightPart_9 (by decide) ?_
  refine lv_goto (tgt := 14) F.1 F.2.1 dX7_isNightPart_10 (by decide) ?_
  exact e_z F hS (by decide) ⟨Option.some.inj h, rfl, rfl⟩ hr0 dX7_isNightPart_14 hk0
def f_X6_countBehind_27 (σ : ZI) (b : Nat) (a1 : Int32) (a2 : Int32) (a3 : Int32) (a4 : Int32)   : Option (Int32) := if ((a3 >>> ((a1 - (1 : Int32)) &&& 31)) &&& (1 : Int32)) = (1 : Int32) then (some a2) else (some (a2 + (1 : Int32)))
def f_X6_countBehind (σ : ZI) (b : Nat) (a1 : Int32) (a2 : Int32) (a3 : Int32) (a4 : Int32) : Option (Int32) := if (ar b).1 = 11 then ((f_X6_markAt σ b a1).bind (fun q1 => if q1 = (-4 : Int32) then (f_X6_countBehind_27 σ b a1 a2 a3 a4 ) else (if ((a4 >>> (q1 &&& 31)) &&& (1 : Int32)) = (1 : Int32) then (some a1) else (f_X6_countBehind_27 σ b a1 a2 a3 a4 )))) else none
abbrev rm_X6_countBehind : Room := { frames := 3, cells := 0, slots := 0, locals := 64 }
set_option maxHeartbeats 4000000 in
set_option maxRecDepth 100000 in
theorem c_X6_countBehind (l : Launch) (g : GG) (σ : ZI) (τ : ZL) (b : Nat) (a1 : Int32) (a2 : Int32) (a3 : Int32) (a4 : Int32) (res : Int32) (h : f_X6_countBehind σ b a1 a2 a3 a4 = some res) : MI l yX6_countBehind cX6_countBehind 6 (some .int) rm_X6_countBehind g [.ref (gA g b), .int a1, .int a2, .int a3, .int a4] σ τ (fun (r : Int32) (u : ZI × ZL) => r = res ∧ u.1 = σ ∧ u.2 = τ) := by
  refine Met_in (by decide) (Nat.le_of_ble_eq_true rfl) ?_
  intro p e s m args below meth c F G hP hr0 hk0 ls hl
  have hS := WS.start hP
  have hl : lv_has ls 6 [(0, .ref (gA g b)), (1, .int a1), (2, .int a2), (3, .int a3), (4, .int a4)] := hl
  obtain ⟨H, hH⟩ : ∃ H, H = s.heap := ⟨_, rfl⟩
  rw [← hH] at hS ⊢
  clear hH hP
  rw [f_X6_countBehind] at h
  obtain ⟨hg_b, h⟩ := gd h
  have w_27 : f_X6_countBehind_27 σ b a1 a2 a3 a4  = some res → ∀ (H : Heap) (locs : List Loc) (ls : Array Slot), WS g σ τ s H locs → lv_has ls 6 [(1, .int a1), (2, .int a2), (3, .int a3)] → W p l e rm_X6_countBehind s m args below meth c H locs 0 0 (MQ below (va_Qi (fun (r : Int32) (u : ZI × ZL) => r = res ∧ u.1 = σ ∧ u.2 = τ) (WQ g) (AA g)) args s 0 0 (AA g)) (F0 m 27 ls []) := by
    intro   h H locs ls hS hl
    rw [f_X6_countBehind_27] at h
    refine lv_iload_n F.1 F.2.1 dX6_countBehind_27 rfl (lv_at hl 2 rfl) ?_
    refine lv_iload_n F.1 F.2.1 dX6_countBehind_28 rfl (lv_at hl 0 rfl) ?_
    refine lv_iconst (v := (1 : Int32)) F.1 F.2.1 dX6_countBehind_29 (by decide) ?_
    refine lv_isub F.1 F.2.1 dX6_countBehind_30 ?_
    refine lv_ishr F.1 F.2.1 dX6_countBehind_31 ?_
    refine lv_iconst (v := (1 : Int32)) F.1 F.2.1 dX6_countBehind_32 (by decide) ?_
    refine lv_iand F.1 F.2.1 dX6_countBehind_33 ?_
    refine lv_iconst (v := (1 : Int32)) F.1 F.2.1 dX6_countBehind_34 (by decide) ?_
    refine lv_icmp_ne (tgt := 42) F.1 F.2.1 dX6_countBehind_35 (by decide) (fun hc => ?_) (fun hc => ?_)
    rotate_left
    · replace h := ifT h hc
      refine lv_iload_n F.1 F.2.1 dX6_countBehind_38 rfl (lv_at hl 1 rfl) ?_
      refine lv_goto (tgt := 45) F.1 F.2.1 dX6_countBehind_39 (by decide) ?_
      exact e_i F hS ⟨Option.some.inj h, rfl, rfl⟩ hr0 dX6_countBehind_45 hk0
    replace h := ifF h hc
    refine lv_iload_n F.1 F.2.1 dX6_countBehind_42 rfl (lv_at hl 1 rfl) ?_
    refine lv_iconst (v := (1 : Int32)) F.1 F.2.1 dX6_countBehind_43 (by decide) ?_
    refine lv_iadd F.1 F.2.1 dX6_countBehind_44 ?_
    exact e_i F hS ⟨Option.some.inj h, rfl, rfl⟩ hr0 dX6_countBehind_45 hk0
  obtain ⟨locs, hlo⟩ : ∃ z : List Loc, z = [] := ⟨_, rfl⟩
  rw [← hlo] at hS ⊢
  clear hlo
  refine lv_aload_n F.1 F.2.1 dX6_countBehind_0 rfl (lv_at hl 0 rfl) ?_
  refine lv_iload_n F.1 F.2.1 dX6_countBehind_1 rfl (lv_at hl 1 rfl) ?_
  obtain ⟨q1, h_q1, h⟩ := bd h
  refine rVi F G hS hl.1 (c_X6_markAt l g σ τ b a1 q1 h_q1) lk_X6_66 ⟨rfl, rfl, Nat.le_of_ble_eq_true rfl, Nat.le_of_ble_eq_true rfl⟩ (rc_X6 G hS hg_b) rfl rfl (Nat.le_of_ble_eq_true rfl) dX6_countBehind_2 (kRi (fun H locs hS => ?_))
  refine lv_istore (lv' := [(5, .int q1), (0, .ref (gA g b)), (1, .int a1), (2, .int a2), (3, .int a3), (4, .int a4)]) F.1 F.2.1 dX6_countBehind_5 hl (by decide) rfl (fun ls hl => ?_)
  refine lv_iload F.1 F.2.1 dX6_countBehind_7 (lv_at hl 0 rfl) ?_
  refine lv_bipush (v := (-4 : Int32)) F.1 F.2.1 dX6_countBehind_9 (by decide) ?_
  refine lv_icmp_eq (tgt := 27) F.1 F.2.1 dX6_countBehind_11 (by decide) (fun hc => ?_) (fun hc => ?_)
  · replace h := ifT h hc
    exact w_27 h H locs _ hS (lv_sub hl [2, 3, 4] rfl)
  replace h := ifF h hc
  refine lv_iload F.1 F.2.1 dX6_countBehind_14 (lv_at hl 5 rfl) ?_
  refine lv_iload F.1 F.2.1 dX6_countBehind_16 (lv_at hl 0 rfl) ?_
  refine lv_ishr F.1 F.2.1 dX6_countBehind_18 ?_
  refine lv_iconst (v := (1 : Int32)) F.1 F.2.1 dX6_countBehind_19 (by decide) ?_
  refine lv_iand F.1 F.2.1 dX6_countBehind_20 ?_
  refine lv_iconst (v := (1 : Int32)) F.1 F.2.1 dX6_countBehind_21 (by decide) ?_
  refine lv_icmp_ne (tgt := 27) F.1 F.2.1 dX6_countBehind_22 (by decide) (fun hc => ?_) (fun hc => ?_)
  · replace h := ifF h hc
    exact w_27 h H locs _ hS (lv_sub hl [2, 3, 4] rfl)
  replace h := ifT h hc
  refine lv_iload_n F.1 F.2.1 dX6_countBehind_25 rfl (lv_at hl 2 rfl) ?_
  exact e_i F hS ⟨Option.some.inj h, rfl, rfl⟩ hr0 dX6_countBehind_26 hk0
def f_X1_meet_46 (b1 : Nat) (a2 : Int32)  (σ : ZI) : Option (ZI) := (f_X6_value σ b1 (5 : Int32)).bind (fun q3 => if q3 = a2 then (lt_ (va_up σ 40 (upd (σ 40) 4 (1 : Int32))) (fun σ4 => some σ4)) else (some σ))
def f_X1_meet_24 (b1 : Nat) (a2 : Int32)  (σ : ZI) : Option (ZI) := (f_X6_isSignalAt σ b1 a2).bind (fun q2 => if q2 = 0 then (f_X1_meet_46 b1 a2 σ) else (lt_ (va_up σ 40 (upd (σ 40) 3 ((σ 40 3) ||| ((1 : Int32) <<< ((a2 - (1 : Int32)) &&& 31))))) (fun σ5 => f_X1_meet_46 b1 a2 σ5)))
def f_X1_meet (σ : ZI) (b1 : Nat) (a2 : Int32) : Option (ZI) := if (ar b1).1 = 11 then ((f_X6_armAt σ b1 a2).bind (fun q1 => if q1 = (-4 : Int32) then (f_X1_meet_24 b1 a2 σ) else (lt_ (va_up σ 40 (upd (σ 40) 2 ((σ 40 2) ||| ((1 : Int32) <<< (q1 &&& 31))))) (fun σ6 => f_X1_meet_24 b1 a2 σ6)))) else none
abbrev rm_X1_meet : Room := { frames := 3, cells := 0, slots := 0, locals := 64 }
set_option maxHeartbeats 4000000 in
set_option maxRecDepth 100000 in
theorem c_X1_meet (l : Launch) (g : GG) (σ : ZI) (τ : ZL) (b1 : Nat) (a2 : Int32) (res : ZI) (h : f_X1_meet σ b1 a2 = some res) : MV l yX1_meet cX1_meet 4 none rm_X1_meet g [.ref (gA g 40), .ref (gA g b1), .int a2] σ τ (fun (u : ZI × ZL) => u.1 = res ∧ u.2 = τ) := by
  refine Met_in (by decide) (Nat.le_of_ble_eq_true rfl) ?_
  intro p e s m args below meth c F G hP hr0 hk0 ls hl
  have hS := WS.start hP
  have hl : lv_has ls 4 [(0, .ref (gA g 40)), (1, .ref (gA g b1)), (2, .int a2)] := hl
  obtain ⟨H, hH⟩ : ∃ H, H = s.heap := ⟨_, rfl⟩
  rw [← hH] at hS ⊢
  clear hH hP
  rw [f_X1_meet] at h
  obtain ⟨hg_b1, h⟩ := gd h
  have w_46 : ∀ (σ : ZI), f_X1_meet_46 b1 a2 σ = some res → ∀ (H : Heap) (locs : List Loc) (ls : Array Slot), WS g σ τ s H locs → lv_has ls 4 [(0, .ref (gA g 40)), (1, .ref (gA g b1)), (2, .int a2)] → W p l e rm_X1_meet s m args below meth c H locs 0 0 (MQ below (va_Qv (fun (u : ZI × ZL) => u.1 = res ∧ u.2 = τ) (WQ g) (AA g)) args s 0 0 (AA g)) (F0 m 46 ls []) := by
    intro  σ h H locs ls hS hl
    rw [f_X1_meet_46] at h
    refine lv_aload_n F.1 F.2.1 dX1_meet_46 rfl (lv_at hl 1 rfl) ?_
    refine lv_iconst (v := (5 : Int32)) F.1 F.2.1 dX1_meet_47 (by decide) ?_
    obtain ⟨q3, h_q3, h⟩ := bd h
    refine rNi F G hS hl.1 (c_X6_value l g σ τ b1 (5 : Int32) q3 h_q3) lk_X1_30 ⟨rfl, rfl, Nat.le_of_ble_eq_true rfl, Nat.le_of_ble_eq_true rfl⟩ (rc_X6 G hS hg_b1) rfl rfl (Nat.le_of_ble_eq_true rfl) dX1_meet_48 (kRi (fun H locs hS => ?_))
    refine lv_iload_n F.1 F.2.1 dX1_meet_51 rfl (lv_at hl 2 rfl) ?_
    refine lv_icmp_ne (tgt := 60) F.1 F.2.1 dX1_meet_52 (by decide) (fun hc => ?_) (fun hc => ?_)
    · replace h := ifF h hc
      exact e_v F hS ⟨Option.some.inj h, rfl⟩ hr0 dX1_meet_60 hk0
    replace h := ifT h hc
    refine lv_aload_n F.1 F.2.1 dX1_meet_55 rfl (lv_at hl 0 rfl) ?_
    refine lv_iconst (v := (1 : Int32)) F.1 F.2.1 dX1_meet_56 (by decide) ?_
    refine pf_X1_24 F G hS dX1_meet_57 (fun H locs hS => ?_)
    obtain ⟨σ4, e_σ4, h⟩ := ltE h
    rw [← e_σ4] at hS
    clear e_σ4
    exact e_v F hS ⟨Option.some.inj h, rfl⟩ hr0 dX1_meet_60 hk0
  have w_24 : ∀ (σ : ZI), f_X1_meet_24 b1 a2 σ = some res → ∀ (H : Heap) (locs : List Loc) (ls : Array Slot), WS g σ τ s H locs → lv_has ls 4 [(0, .ref (gA g 40)), (1, .ref (gA g b1)), (2, .int a2)] → W p l e rm_X1_meet s m args below meth c H locs 0 0 (MQ below (va_Qv (fun (u : ZI × ZL) => u.1 = res ∧ u.2 = τ) (WQ g) (AA g)) args s 0 0 (AA g)) (F0 m 24 ls []) := by
    intro  σ h H locs ls hS hl
    rw [f_X1_meet_24] at h
    refine lv_aload_n F.1 F.2.1 dX1_meet_24 rfl (lv_at hl 1 rfl) ?_
    refine lv_iload_n F.1 F.2.1 dX1_meet_25 rfl (lv_at hl 2 rfl) ?_
    obtain ⟨q2, h_q2, h⟩ := bd h
    refine rNi F G hS hl.1 (c_X6_isSignalAt l g σ τ b1 a2 q2 h_q2) lk_X1_47 ⟨rfl, rfl, Nat.le_of_ble_eq_true rfl, Nat.le_of_ble_eq_true rfl⟩ (rc_X6 G hS hg_b1) rfl rfl (Nat.le_of_ble_eq_true rfl) dX1_meet_26 (kRi (fun H locs hS => ?_))
    refine lv_if_eq (tgt := 46) F.1 F.2.1 dX1_meet_29 (by decide) (fun hc => ?_) (fun hc => ?_)
    · replace h := ifT h hc
      exact w_46 σ h H locs _ hS (lv_sub hl [0, 1, 2] rfl)
    replace h := ifF h hc
    refine lv_aload_n F.1 F.2.1 dX1_meet_32 rfl (lv_at hl 0 rfl) ?_
    refine lv_dup F.1 F.2.1 dX1_meet_33 rfl ?_
    refine gf_X1_21 F G hS dX1_meet_34 ?_
    refine lv_iconst (v := (1 : Int32)) F.1 F.2.1 dX1_meet_37 (by decide) ?_
    refine lv_iload_n F.1 F.2.1 dX1_meet_38 rfl (lv_at hl 2 rfl) ?_
    refine lv_iconst (v := (1 : Int32)) F.1 F.2.1 dX1_meet_39 (by decide) ?_
    refine lv_isub F.1 F.2.1 dX1_meet_40 ?_
    refine lv_ishl F.1 F.2.1 dX1_meet_41 ?_
    refine lv_ior F.1 F.2.1 dX1_meet_42 ?_
    refine pf_X1_21 F G hS dX1_meet_43 (fun H locs hS => ?_)
    obtain ⟨σ5, e_σ5, h⟩ := ltE h
    rw [← e_σ5] at hS
    clear e_σ5
    exact w_46 σ5 h H locs _ hS (lv_sub hl [0, 1, 2] rfl)
  obtain ⟨locs, hlo⟩ : ∃ z : List Loc, z = [] := ⟨_, rfl⟩
  rw [← hlo] at hS ⊢
  clear hlo
  refine lv_aload_n F.1 F.2.1 dX1_meet_0 rfl (lv_at hl 1 rfl) ?_
  refine lv_iload_n F.1 F.2.1 dX1_meet_1 rfl (lv_at hl 2 rfl) ?_
  obtain ⟨q1, h_q1, h⟩ := bd h
  refine rNi F G hS hl.1 (c_X6_armAt l g σ τ b1 a2 q1 h_q1) lk_X1_44 ⟨rfl, rfl, Nat.le_of_ble_eq_true rfl, Nat.le_of_ble_eq_true rfl⟩ (rc_X6 G hS hg_b1) rfl rfl (Nat.le_of_ble_eq_true rfl) dX1_meet_2 (kRi (fun H locs hS => ?_))
  refine lv_istore_n (lv' := [(3, .int q1), (0, .ref (gA g 40)), (1, .ref (gA g b1)), (2, .int a2)]) F.1 F.2.1 dX1_meet_5 rfl hl (by decide) rfl (fun ls hl => ?_)
  refine lv_iload_n F.1 F.2.1 dX1_meet_6 rfl (lv_at hl 0 rfl) ?_
  refine lv_bipush (v := (-4 : Int32)) F.1 F.2.1 dX1_meet_7 (by decide) ?_
  refine lv_icmp_eq (tgt := 24) F.1 F.2.1 dX1_meet_9 (by decide) (fun hc => ?_) (fun hc => ?_)
  · replace h := ifT h hc
    exact w_24 σ h H locs _ hS (lv_sub hl [1, 2, 3] rfl)
  replace h := ifF h hc
  refine lv_aload_n F.1 F.2.1 dX1_meet_12 rfl (lv_at hl 1 rfl) ?_
  refine lv_dup F.1 F.2.1 dX1_meet_13 rfl ?_
  refine gf_X1_18 F G hS dX1_meet_14 ?_
  refine lv_iconst (v := (1 : Int32)) F.1 F.2.1 dX1_meet_17 (by decide) ?_
  refine lv_iload_n F.1 F.2.1 dX1_meet_18 rfl (lv_at hl 0 rfl) ?_
  refine lv_ishl F.1 F.2.1 dX1_meet_19 ?_
  refine lv_ior F.1 F.2.1 dX1_meet_20 ?_
  refine pf_X1_18 F G hS dX1_meet_21 (fun H locs hS => ?_)
  obtain ⟨σ6, e_σ6, h⟩ := ltE h
  rw [← e_σ6] at hS
  clear e_σ6
  exact w_24 σ6 h H locs _ hS (lv_sub hl [1, 2, 3] rfl)
def f_X1_go_151 (b1 : Nat) (a2 : Int32) (a3 : Int32) (k_38 : ZI → Int32 → Int32 → Option (ZI)) (σ : ZI) (v4 : Int32) (v5 : Int32) : Option (ZI) := k_38 σ v4 (v5 + (1 : Int32))
def f_X1_go_149 (b1 : Nat) (a2 : Int32) (a3 : Int32) (k_38 : ZI → Int32 → Int32 → Option (ZI)) (σ : ZI) (v5 : Int32) (s0 : Int32) : Option (ZI) := f_X1_go_151 b1 a2 a3 k_38 σ s0 v5
def f_X1_go_125 (b1 : Nat) (a2 : Int32) (a3 : Int32) (k_38 : ZI → Int32 → Int32 → Option (ZI)) (σ : ZI) (v4 : Int32) (v5 : Int32) : Option (ZI) := if v4 = 0 then (f_X1_go_151 b1 a2 a3 k_38 σ v4 v5) else ((f_X1_meet σ b1 v5).bind (fun q10 => if (q10 40 4) = 0 then (f_X1_go_149 b1 a2 a3 k_38 q10 v5 (1 : Int32)) else (f_X1_go_149 b1 a2 a3 k_38 q10 v5 (0 : Int32))))
def f_X1_go_98 (b1 : Nat) (a2 : Int32) (a3 : Int32) (k_38 : ZI → Int32 → Int32 → Option (ZI)) (σ : ZI) (v4 : Int32) (v5 : Int32) : Option (ZI) := if v4 = 0 then (f_X1_go_125 b1 a2 a3 k_38 σ v4 v5) else ((f_X6_value σ b1 (9 : Int32)).bind (fun q11 => if (σ 40 5) < q11 then (f_X1_go_125 b1 a2 a3 k_38 σ v4 v5) else (lt_ (va_up σ 40 (upd (σ 40) 1 v5)) (fun σ12 => f_X1_go_125 b1 a2 a3 k_38 σ12 (0 : Int32) v5))))
def f_X1_go_38 (b1 : Nat) (a2 : Int32) (a3 : Int32)  : Nat → ZI → Int32 → Int32 → Option (ZI)
  | 0, _, _, _ => none
  | n + 1, σ, v4, v5 => (f_X6_value σ b1 (0 : Int32)).bind (fun q7 => if q7 < v5 then (some σ) else ((f_X6_countBehind σ b1 v5 (σ 40 5) a2 a3).bind (fun q8 => lt_ (va_up σ 40 (upd (σ 40) 5 q8)) (fun σ9 => if (σ9 40 0) = (-4 : Int32) then ((f_X6_value σ9 b1 (8 : Int32)).bind (fun q13 => if (σ9 40 5) < q13 then (f_X1_go_98 b1 a2 a3 (fun σ v4 v5 => f_X1_go_38 b1 a2 a3 n σ v4 v5) σ9 v4 v5) else (lt_ (va_up σ9 40 (upd (σ9 40) 0 v5)) (fun σ14 => f_X1_go_125 b1 a2 a3 (fun σ v4 v5 => f_X1_go_38 b1 a2 a3 n σ v4 v5) σ14 (1 : Int32) v5)))) else (f_X1_go_98 b1 a2 a3 (fun σ v4 v5 => f_X1_go_38 b1 a2 a3 n σ v4 v5) σ9 v4 v5)))))
def f_X1_go (σ : ZI) (b1 : Nat) (a2 : Int32) (a3 : Int32) : Option (ZI) := if (ar b1).1 = 11 then (lt_ (va_up σ 40 (upd (σ 40) 0 (-4 : Int32))) (fun σ1 => lt_ (va_up σ1 40 (upd (σ1 40) 1 (-4 : Int32))) (fun σ2 => lt_ (va_up σ2 40 (upd (σ2 40) 2 (0 : Int32))) (fun σ3 => lt_ (va_up σ3 40 (upd (σ3 40) 3 (0 : Int32))) (fun σ4 => lt_ (va_up σ4 40 (upd (σ4 40) 4 (0 : Int32))) (fun σ5 => lt_ (va_up σ5 40 (upd (σ5 40) 5 (0 : Int32))) (fun σ6 => f_X1_go_38 b1 a2 a3 3000 σ6 (0 : Int32) (1 : Int32)))))))) else none
abbrev rm_X1_go : Room := { frames := 4, cells := 0, slots := 0, locals := 89 }
set_option maxHeartbeats 4000000 in
set_option maxRecDepth 100000 in
theorem c_X1_go (l : Launch) (g : GG) (σ : ZI) (τ : ZL) (b1 : Nat) (a2 : Int32) (a3 : Int32) (res : ZI) (h : f_X1_go σ b1 a2 a3 = some res) : MV l yX1_go cX1_go 6 none rm_X1_go g [.ref (gA g 40), .ref (gA g b1), .int a2, .int a3] σ τ (fun (u : ZI × ZL) => u.1 = res ∧ u.2 = τ) := by
  refine Met_in (by decide) (Nat.le_of_ble_eq_true rfl) ?_
  intro p e s m args below meth c F G hP hr0 hk0 ls hl
  have hS := WS.start hP
  have hl : lv_has ls 6 [(0, .ref (gA g 40)), (1, .ref (gA g b1)), (2, .int a2), (3, .int a3)] := hl
  obtain ⟨H, hH⟩ : ∃ H, H = s.heap := ⟨_, rfl⟩
  rw [← hH] at hS ⊢
  clear hH hP
  rw [f_X1_go] at h
  obtain ⟨hg_b1, h⟩ := gd h
  have w_151 : ∀ (k_38 : ZI → Int32 → Int32 → Option (ZI)) (hk_38 : ∀ (σ : ZI) (v4 : Int32) (v5 : Int32), k_38 σ v4 v5 = some res → ∀ (H : Heap) (locs : List Loc) (ls : Array Slot), WS g σ τ s H locs → lv_has ls 6 [(0, .ref (gA g 40)), (1, .ref (gA g b1)), (2, .int a2), (3, .int a3), (4, .int v4), (5, .int v5)] → W p l e rm_X1_go s m args below meth c H locs 0 0 (MQ below (va_Qv (fun (u : ZI × ZL) => u.1 = res ∧ u.2 = τ) (WQ g) (AA g)) args s 0 0 (AA g)) (F0 m 38 ls [])) (σ : ZI) (v4 : Int32) (v5 : Int32), f_X1_go_151 b1 a2 a3 k_38 σ v4 v5 = some res → ∀ (H : Heap) (locs : List Loc) (ls : Array Slot), WS g σ τ s H locs → lv_has ls 6 [(0, .ref (gA g 40)), (1, .ref (gA g b1)), (2, .int a2), (3, .int a3), (4, .int v4), (5, .int v5)] → W p l e rm_X1_go s m args below meth c H locs 0 0 (MQ below (va_Qv (fun (u : ZI × ZL) => u.1 = res ∧ u.2 = τ) (WQ g) (AA g)) args s 0 0 (AA g)) (F0 m 151 ls []) := by
    intro k_38 hk_38 σ v4 v5 h H locs ls hS hl
    rw [f_X1_go_151] at h
    refine lv_iinc (v := (v5 + (1 : Int32))) (lv' := [(5, .int (v5 + (1 : Int32))), (0, .ref (gA g 40)), (1, .ref (gA g b1)), (2, .int a2), (3, .int a3), (4, .int v4)]) F.1 F.2.1 dX1_go_151 hl (k := 5) rfl rfl (by decide) rfl (fun ls hl => ?_)
    refine lv_goto (tgt := 38) F.1 F.2.1 dX1_go_154 (by decide) ?_
    exact hk_38 σ v4 (v5 + (1 : Int32)) h H locs _ hS (lv_sub hl [1, 2, 3, 4, 5, 0] rfl)
  have w_149 : ∀ (k_38 : ZI → Int32 → Int32 → Option (ZI)) (hk_38 : ∀ (σ : ZI) (v4 : Int32) (v5 : Int32), k_38 σ v4 v5 = some res → ∀ (H : Heap) (locs : List Loc) (ls : Array Slot), WS g σ τ s H locs → lv_has ls 6 [(0, .ref (gA g 40)), (1, .ref (gA g b1)), (2, .int a2), (3, .int a3), (4, .int v4), (5, .int v5)] → W p l e rm_X1_go s m args below meth c H locs 0 0 (MQ below (va_Qv (fun (u : ZI × ZL) => u.1 = res ∧ u.2 = τ) (WQ g) (AA g)) args s 0 0 (AA g)) (F0 m 38 ls [])) (σ : ZI) (v5 : Int32) (s0 : Int32), f_X1_go_149 b1 a2 a3 k_38 σ v5 s0 = some res → ∀ (H : Heap) (locs : List Loc) (ls : Array Slot), WS g σ τ s H locs → lv_has ls 6 [(0, .ref (gA g 40)), (1, .ref (gA g b1)), (2, .int a2), (3, .int a3), (5, .int v5)] → W p l e rm_X1_go s m args below meth c H locs 0 0 (MQ below (va_Qv (fun (u : ZI × ZL) => u.1 = res ∧ u.2 = τ) (WQ g) (AA g)) args s 0 0 (AA g)) (F0 m 149 ls [.int s0]) := by
    intro k_38 hk_38 σ v5 s0 h H locs ls hS hl
    rw [f_X1_go_149] at h
    refine lv_istore (lv' := [(4, .int s0), (0, .ref (gA g 40)), (1, .ref (gA g b1)), (2, .int a2), (3, .int a3), (5, .int v5)]) F.1 F.2.1 dX1_go_149 hl (by decide) rfl (fun ls hl => ?_)
    exact w_151 _ hk_38 σ s0 v5 h H locs _ hS (lv_sub hl [1, 2, 3, 4, 0, 5] rfl)
  have w_125 : ∀ (k_38 : ZI → Int32 → Int32 → Option (ZI)) (hk_38 : ∀ (σ : ZI) (v4 : Int32) (v5 : Int32), k_38 σ v4 v5 = some res → ∀ (H : Heap) (locs : List Loc) (ls : Array Slot), WS g σ τ s H locs → lv_has ls 6 [(0, .ref (gA g 40)), (1, .ref (gA g b1)), (2, .int a2), (3, .int a3), (4, .int v4), (5, .int v5)] → W p l e rm_X1_go s m args below meth c H locs 0 0 (MQ below (va_Qv (fun (u : ZI × ZL) => u.1 = res ∧ u.2 = τ) (WQ g) (AA g)) args s 0 0 (AA g)) (F0 m 38 ls [])) (σ : ZI) (v4 : Int32) (v5 : Int32), f_X1_go_125 b1 a2 a3 k_38 σ v4 v5 = some res → ∀ (H : Heap) (locs : List Loc) (ls : Array Slot), WS g σ τ s H locs → lv_has ls 6 [(0, .ref (gA g 40)), (1, .ref (gA g b1)), (2, .int a2), (3, .int a3), (4, .int v4), (5, .int v5)] → W p l e rm_X1_go s m args below meth c H locs 0 0 (MQ below (va_Qv (fun (u : ZI × ZL) => u.1 = res ∧ u.2 = τ) (WQ g) (AA g)) args s 0 0 (AA g)) (F0 m 125 ls []) := by
    intro k_38 hk_38 σ v4 v5 h H locs ls hS hl
    rw [f_X1_go_125] at h
    refine lv_iload F.1 F.2.1 dX1_go_125 (lv_at hl 4 rfl) ?_
    refine lv_if_eq (tgt := 151) F.1 F.2.1 dX1_go_127 (by decide) (fun hc => ?_) (fun hc => ?_)
    · replace h := ifT h hc
      exact w_151 _ hk_38 σ v4 v5 h H locs _ hS (lv_sub hl [0, 1, 2, 3, 4, 5] rfl)
    replace h := ifF h hc
    refine lv_aload_n F.1 F.2.1 dX1_go_130 rfl (lv_at hl 0 rfl) ?_
    refine lv_aload_n F.1 F.2.1 dX1_go_131 rfl (lv_at hl 1 rfl) ?_
    refine lv_iload F.1 F.2.1 dX1_go_132 (lv_at hl 5 rfl) ?_
    obtain ⟨q10, h_q10, h⟩ := bd h
    refine rVv F G hS hl.1 (c_X1_meet l g σ τ b1 v5 q10 h_q10) lk_X1_40 ⟨rfl, rfl, Nat.le_of_ble_eq_true rfl, Nat.le_of_ble_eq_true rfl⟩ (rc_X1 G hS) rfl rfl (Nat.le_of_ble_eq_true rfl) dX1_go_134 (kIv (fun H locs hS => ?_))
    refine lv_aload_n F.1 F.2.1 dX1_go_137 rfl (lv_at hl 0 rfl) ?_
    refine gf_X1_24 F G hS dX1_go_138 ?_
    refine lv_if_ne (tgt := 148) F.1 F.2.1 dX1_go_141 (by decide) (fun hc => ?_) (fun hc => ?_)
    · replace h := ifF h hc
      refine lv_iconst (v := (0 : Int32)) F.1 F.2.1 dX1_go_148 (by decide) ?_
      exact w_149 _ hk_38 q10 v5 (0 : Int32) h H locs _ hS (lv_sub hl [0, 1, 2, 3, 5] rfl)
    replace h := ifT h hc
    refine lv_iconst (v := (1 : Int32)) F.1 F.2.1 dX1_go_144 (by decide) ?_
    refine lv_goto (tgt := 149) F.1 F.2.1 dX1_go_145 (by decide) ?_
    exact w_149 _ hk_38 q10 v5 (1 : Int32) h H locs _ hS (lv_sub hl [0, 1, 2, 3, 5] rfl)
  have w_98 : ∀ (k_38 : ZI → Int32 → Int32 → Option (ZI)) (hk_38 : ∀ (σ : ZI) (v4 : Int32) (v5 : Int32), k_38 σ v4 v5 = some res → ∀ (H : Heap) (locs : List Loc) (ls : Array Slot), WS g σ τ s H locs → lv_has ls 6 [(0, .ref (gA g 40)), (1, .ref (gA g b1)), (2, .int a2), (3, .int a3), (4, .int v4), (5, .int v5)] → W p l e rm_X1_go s m args below meth c H locs 0 0 (MQ below (va_Qv (fun (u : ZI × ZL) => u.1 = res ∧ u.2 = τ) (WQ g) (AA g)) args s 0 0 (AA g)) (F0 m 38 ls [])) (σ : ZI) (v4 : Int32) (v5 : Int32), f_X1_go_98 b1 a2 a3 k_38 σ v4 v5 = some res → ∀ (H : Heap) (locs : List Loc) (ls : Array Slot), WS g σ τ s H locs → lv_has ls 6 [(0, .ref (gA g 40)), (1, .ref (gA g b1)), (2, .int a2), (3, .int a3), (4, .int v4), (5, .int v5)] → W p l e rm_X1_go s m args below meth c H locs 0 0 (MQ below (va_Qv (fun (u : ZI × ZL) => u.1 = res ∧ u.2 = τ) (WQ g) (AA g)) args s 0 0 (AA g)) (F0 m 98 ls []) := by
    intro k_38 hk_38 σ v4 v5 h H locs ls hS hl
    rw [f_X1_go_98] at h
    refine lv_iload F.1 F.2.1 dX1_go_98 (lv_at hl 4 rfl) ?_
    refine lv_if_eq (tgt := 125) F.1 F.2.1 dX1_go_100 (by decide) (fun hc => ?_) (fun hc => ?_)
    · replace h := ifT h hc
      exact w_125 _ hk_38 σ v4 v5 h H locs _ hS (lv_sub hl [0, 1, 2, 3, 4, 5] rfl)
    replace h := ifF h hc
    refine lv_aload_n F.1 F.2.1 dX1_go_103 rfl (lv_at hl 0 rfl) ?_
    refine gf_X1_27 F G hS dX1_go_104 ?_
    refine lv_aload_n F.1 F.2.1 dX1_go_107 rfl (lv_at hl 1 rfl) ?_
    refine lv_bipush (v := (9 : Int32)) F.1 F.2.1 dX1_go_108 (by decide) ?_
    obtain ⟨q11, h_q11, h⟩ := bd h
    refine rNi F G hS hl.1 (c_X6_value l g σ τ b1 (9 : Int32) q11 h_q11) lk_X1_30 ⟨rfl, rfl, Nat.le_of_ble_eq_true rfl, Nat.le_of_ble_eq_true rfl⟩ (rc_X6 G hS hg_b1) rfl rfl (Nat.le_of_ble_eq_true rfl) dX1_go_110 (kRi (fun H locs hS => ?_))
    refine lv_icmp_lt (tgt := 125) F.1 F.2.1 dX1_go_113 (by decide) (fun hc => ?_) (fun hc => ?_)
    · replace h := ifT h hc
      exact w_125 _ hk_38 σ v4 v5 h H locs _ hS (lv_sub hl [0, 1, 2, 3, 4, 5] rfl)
    replace h := ifF h hc
    refine lv_aload_n F.1 F.2.1 dX1_go_116 rfl (lv_at hl 0 rfl) ?_
    refine lv_iload F.1 F.2.1 dX1_go_117 (lv_at hl 5 rfl) ?_
    refine pf_X1_15 F G hS dX1_go_119 (fun H locs hS => ?_)
    obtain ⟨σ12, e_σ12, h⟩ := ltE h
    rw [← e_σ12] at hS
    clear e_σ12
    refine lv_iconst (v := (0 : Int32)) F.1 F.2.1 dX1_go_122 (by decide) ?_
    refine lv_istore (lv' := [(4, .int (0 : Int32)), (0, .ref (gA g 40)), (1, .ref (gA g b1)), (2, .int a2), (3, .int a3), (5, .int v5)]) F.1 F.2.1 dX1_go_123 hl (by decide) rfl (fun ls hl => ?_)
    exact w_125 _ hk_38 σ12 (0 : Int32) v5 h H locs _ hS (lv_sub hl [1, 2, 3, 4, 0, 5] rfl)
  have w_38 : ∀ (n : Nat) (σ : ZI) (v4 : Int32) (v5 : Int32), f_X1_go_38 b1 a2 a3 n σ v4 v5 = some res → ∀ (H : Heap) (locs : List Loc) (ls : Array Slot), WS g σ τ s H locs → lv_has ls 6 [(0, .ref (gA g 40)), (1, .ref (gA g b1)), (2, .int a2), (3, .int a3), (4, .int v4), (5, .int v5)] → W p l e rm_X1_go s m args below meth c H locs 0 0 (MQ below (va_Qv (fun (u : ZI × ZL) => u.1 = res ∧ u.2 = τ) (WQ g) (AA g)) args s 0 0 (AA g)) (F0 m 38 ls []) := by
    intro n
    induction n with
    | zero => intro σ v4 v5 h; rw [f_X1_go_38] at h; cases h
    | succ n ih =>
      intro σ v4 v5 h H locs ls hS hl
      rw [f_X1_go_38] at h
      refine lv_iload F.1 F.2.1 dX1_go_38 (lv_at hl 5 rfl) ?_
      refine lv_aload_n F.1 F.2.1 dX1_go_40 rfl (lv_at hl 1 rfl) ?_
      refine lv_iconst (v := (0 : Int32)) F.1 F.2.1 dX1_go_41 (by decide) ?_
      obtain ⟨q7, h_q7, h⟩ := bd h
      refine rNi F G hS hl.1 (c_X6_value l g σ τ b1 (0 : Int32) q7 h_q7) lk_X1_30 ⟨rfl, rfl, Nat.le_of_ble_eq_true rfl, Nat.le_of_ble_eq_true rfl⟩ (rc_X6 G hS hg_b1) rfl rfl (Nat.le_of_ble_eq_true rfl) dX1_go_42 (kRi (fun H locs hS => ?_))
      refine lv_icmp_gt (tgt := 157) F.1 F.2.1 dX1_go_45 (by decide) (fun hc => ?_) (fun hc => ?_)
      · replace h := ifT h hc
        exact e_v F hS ⟨Option.some.inj h, rfl⟩ hr0 dX1_go_157 hk0
      replace h := ifF h hc
      refine lv_aload_n F.1 F.2.1 dX1_go_48 rfl (lv_at hl 0 rfl) ?_
      refine lv_aload_n F.1 F.2.1 dX1_go_49 rfl (lv_at hl 1 rfl) ?_
      refine lv_iload F.1 F.2.1 dX1_go_50 (lv_at hl 5 rfl) ?_
      refine lv_aload_n F.1 F.2.1 dX1_go_52 rfl (lv_at hl 0 rfl) ?_
      refine gf_X1_27 F G hS dX1_go_53 ?_
      refine lv_iload_n F.1 F.2.1 dX1_go_56 rfl (lv_at hl 2 rfl) ?_
      refine lv_iload_n F.1 F.2.1 dX1_go_57 rfl (lv_at hl 3 rfl) ?_
      obtain ⟨q8, h_q8, h⟩ := bd h
      refine rNi F G hS hl.1 (c_X6_countBehind l g σ τ b1 v5 (σ 40 5) a2 a3 q8 h_q8) lk_X1_36 ⟨rfl, rfl, Nat.le_of_ble_eq_true rfl, Nat.le_of_ble_eq_true rfl⟩ (rc_X6 G hS hg_b1) rfl rfl (Nat.le_of_ble_eq_true rfl) dX1_go_58 (kRi (fun H locs hS => ?_))
      refine pf_X1_27 F G hS dX1_go_61 (fun H locs hS => ?_)
      obtain ⟨σ9, e_σ9, h⟩ := ltE h
      rw [← e_σ9] at hS
      clear e_σ9
      refine lv_aload_n F.1 F.2.1 dX1_go_64 rfl (lv_at hl 0 rfl) ?_
      refine gf_X1_9 F G hS dX1_go_65 ?_
      refine lv_bipush (v := (-4 : Int32)) F.1 F.2.1 dX1_go_68 (by decide) ?_
      refine lv_icmp_ne (tgt := 98) F.1 F.2.1 dX1_go_70 (by decide) (fun hc => ?_) (fun hc => ?_)
      · replace h := ifF h hc
        exact w_98 _ (fun σ v4 v5 => ih σ v4 v5) σ9 v4 v5 h H locs _ hS (lv_sub hl [0, 1, 2, 3, 4, 5] rfl)
      replace h := ifT h hc
      refine lv_aload_n F.1 F.2.1 dX1_go_73 rfl (lv_at hl 0 rfl) ?_
      refine gf_X1_27 F G hS dX1_go_74 ?_
      refine lv_aload_n F.1 F.2.1 dX1_go_77 rfl (lv_at hl 1 rfl) ?_
      refine lv_bipush (v := (8 : Int32)) F.1 F.2.1 dX1_go_78 (by decide) ?_
      obtain ⟨q13, h_q13, h⟩ := bd h
      refine rNi F G hS hl.1 (c_X6_value l g σ9 τ b1 (8 : Int32) q13 h_q13) lk_X1_30 ⟨rfl, rfl, Nat.le_of_ble_eq_true rfl, Nat.le_of_ble_eq_true rfl⟩ (rc_X6 G hS hg_b1) rfl rfl (Nat.le_of_ble_eq_true rfl) dX1_go_80 (kRi (fun H locs hS => ?_))
      refine lv_icmp_lt (tgt := 98) F.1 F.2.1 dX1_go_83 (by decide) (fun hc => ?_) (fun hc => ?_)
      · replace h := ifT h hc
        exact w_98 _ (fun σ v4 v5 => ih σ v4 v5) σ9 v4 v5 h H locs _ hS (lv_sub hl [0, 1, 2, 3, 4, 5] rfl)
      replace h := ifF h hc
      refine lv_aload_n F.1 F.2.1 dX1_go_86 rfl (lv_at hl 0 rfl) ?_
      refine lv_iload F.1 F.2.1 dX1_go_87 (lv_at hl 5 rfl) ?_
      refine pf_X1_9 F G hS dX1_go_89 (fun H locs hS => ?_)
      obtain ⟨σ14, e_σ14, h⟩ := ltE h
      rw [← e_σ14] at hS
      clear e_σ14
      refine lv_iconst (v := (1 : Int32)) F.1 F.2.1 dX1_go_92 (by decide) ?_
      refine lv_istore (lv' := [(4, .int (1 : Int32)), (0, .ref (gA g 40)), (1, .ref (gA g b1)), (2, .int a2), (3, .int a3), (5, .int v5)]) F.1 F.2.1 dX1_go_93 hl (by decide) rfl (fun ls hl => ?_)
      refine lv_goto (tgt := 125) F.1 F.2.1 dX1_go_95 (by decide) ?_
      exact w_125 _ (fun σ v4 v5 => ih σ v4 v5) σ14 (1 : Int32) v5 h H locs _ hS (lv_sub hl [1, 2, 3, 4, 0, 5] rfl)
  obtain ⟨locs, hlo⟩ : ∃ z : List Loc, z = [] := ⟨_, rfl⟩
  rw [← hlo] at hS ⊢
  clear hlo
  refine lv_aload_n F.1 F.2.1 dX1_go_0 rfl (lv_at hl 0 rfl) ?_
  refine lv_bipush (v := (-4 : Int32)) F.1 F.2.1 dX1_go_1 (by decide) ?_
  refine pf_X1_9 F G hS dX1_go_3 (fun H locs hS => ?_)
  obtain ⟨σ1, e_σ1, h⟩ := ltE h
  rw [← e_σ1] at hS
  clear e_σ1
  refine lv_aload_n F.1 F.2.1 dX1_go_6 rfl (lv_at hl 0 rfl) ?_
  refine lv_bipush (v := (-4 : Int32)) F.1 F.2.1 dX1_go_7 (by decide) ?_
  refine pf_X1_15 F G hS dX1_go_9 (fun H locs hS => ?_)
  obtain ⟨σ2, e_σ2, h⟩ := ltE h
  rw [← e_σ2] at hS
  clear e_σ2
  refine lv_aload_n F.1 F.2.1 dX1_go_12 rfl (lv_at hl 0 rfl) ?_
  refine lv_iconst (v := (0 : Int32)) F.1 F.2.1 dX1_go_13 (by decide) ?_
  refine pf_X1_18 F G hS dX1_go_14 (fun H locs hS => ?_)
  obtain ⟨σ3, e_σ3, h⟩ := ltE h
  rw [← e_σ3] at hS
  clear e_σ3
  refine lv_aload_n F.1 F.2.1 dX1_go_17 rfl (lv_at hl 0 rfl) ?_
  refine lv_iconst (v := (0 : Int32)) F.1 F.2.1 dX1_go_18 (by decide) ?_
  refine pf_X1_21 F G hS dX1_go_19 (fun H locs hS => ?_)
  obtain ⟨σ4, e_σ4, h⟩ := ltE h
  rw [← e_σ4] at hS
  clear e_σ4
  refine lv_aload_n F.1 F.2.1 dX1_go_22 rfl (lv_at hl 0 rfl) ?_
  refine lv_iconst (v := (0 : Int32)) F.1 F.2.1 dX1_go_23 (by decide) ?_
  refine pf_X1_24 F G hS dX1_go_24 (fun H locs hS => ?_)
  obtain ⟨σ5, e_σ5, h⟩ := ltE h
  rw [← e_σ5] at hS
  clear e_σ5
  refine lv_aload_n F.1 F.2.1 dX1_go_27 rfl (lv_at hl 0 rfl) ?_
  refine lv_iconst (v := (0 : Int32)) F.1 F.2.1 dX1_go_28 (by decide) ?_
  refine pf_X1_27 F G hS dX1_go_29 (fun H locs hS => ?_)
  obtain ⟨σ6, e_σ6, h⟩ := ltE h
  rw [← e_σ6] at hS
  clear e_σ6
  refine lv_iconst (v := (0 : Int32)) F.1 F.2.1 dX1_go_32 (by decide) ?_
  refine lv_istore (lv' := [(4, .int (0 : Int32)), (0, .ref (gA g 40)), (1, .ref (gA g b1)), (2, .int a2), (3, .int a3)]) F.1 F.2.1 dX1_go_33 hl (by decide) rfl (fun ls hl => ?_)
  refine lv_iconst (v := (1 : Int32)) F.1 F.2.1 dX1_go_35 (by decide) ?_
  refine lv_istore (lv' := [(5, .int (1 : Int32)), (4, .int (0 : Int32)), (0, .ref (gA g 40)), (1, .ref (gA g b1)), (2, .int a2), (3, .int a3)]) F.1 F.2.1 dX1_go_36 hl (by decide) rfl (fun ls hl => ?_)
  exact w_38 3000 σ6 (0 : Int32) (1 : Int32) h H locs _ hS (lv_sub hl [2, 3, 4, 5, 1, 0] rfl)
def f_X1_answer (σ : ZI) (a1 : Int32) : Option (Int32) := if a1 = (0 : Int32) then (some (σ 40 0)) else (if a1 = (1 : Int32) then (some (σ 40 1)) else (if a1 = (2 : Int32) then (some (σ 40 2)) else (if a1 = (3 : Int32) then (some (σ 40 3)) else (if a1 = (4 : Int32) then (some (σ 40 4)) else (if a1 = (5 : Int32) then (some (σ 40 5)) else (some (-1 : Int32)))))))
abbrev rm_X1_answer : Room := { frames := 0, cells := 0, slots := 0, locals := 0 }
set_option maxHeartbeats 4000000 in
set_option maxRecDepth 100000 in
theorem c_X1_answer (l : Launch) (g : GG) (σ : ZI) (τ : ZL) (a1 : Int32) (res : Int32) (h : f_X1_answer σ a1 = some res) : MI l yX1_answer cX1_answer 2 (some .int) rm_X1_answer g [.ref (gA g 40), .int a1] σ τ (fun (r : Int32) (u : ZI × ZL) => r = res ∧ u.1 = σ ∧ u.2 = τ) := by
  refine Met_in (by decide) (Nat.le_of_ble_eq_true rfl) ?_
  intro p e s m args below meth c F G hP hr0 hk0 ls hl
  have hS := WS.start hP
  have hl : lv_has ls 2 [(0, .ref (gA g 40)), (1, .int a1)] := hl
  obtain ⟨H, hH⟩ : ∃ H, H = s.heap := ⟨_, rfl⟩
  rw [← hH] at hS ⊢
  clear hH hP
  rw [f_X1_answer] at h
  obtain ⟨locs, hlo⟩ : ∃ z : List Loc, z = [] := ⟨_, rfl⟩
  rw [← hlo] at hS ⊢
  clear hlo
  refine lv_iload_n F.1 F.2.1 dX1_answer_0 rfl (lv_at hl 1 rfl) ?_
  by_cases hc_0 : a1 = (0 : Int32)
  · replace h := ifT h hc_0
    refine lv_tableIn (tgt := 40) F.1 F.2.1 dX1_answer_1 (by rw [hc_0]; decide) (by rw [hc_0]; decide) (by rw [hc_0]; rfl) (by decide) ?_
    refine lv_aload_n F.1 F.2.1 dX1_answer_40 rfl (lv_at hl 0 rfl) ?_
    refine gf_X1_9 F G hS dX1_answer_41 ?_
    exact e_i F hS ⟨Option.some.inj h, rfl, rfl⟩ hr0 dX1_answer_44 hk0
  replace h := ifF h hc_0
  by_cases hc_1 : a1 = (1 : Int32)
  · replace h := ifT h hc_1
    refine lv_tableIn (tgt := 45) F.1 F.2.1 dX1_answer_1 (by rw [hc_1]; decide) (by rw [hc_1]; decide) (by rw [hc_1]; rfl) (by decide) ?_
    refine lv_aload_n F.1 F.2.1 dX1_answer_45 rfl (lv_at hl 0 rfl) ?_
    refine gf_X1_15 F G hS dX1_answer_46 ?_
    exact e_i F hS ⟨Option.some.inj h, rfl, rfl⟩ hr0 dX1_answer_49 hk0
  replace h := ifF h hc_1
  by_cases hc_2 : a1 = (2 : Int32)
  · replace h := ifT h hc_2
    refine lv_tableIn (tgt := 50) F.1 F.2.1 dX1_answer_1 (by rw [hc_2]; decide) (by rw [hc_2]; decide) (by rw [hc_2]; rfl) (by decide) ?_
    refine lv_aload_n F.1 F.2.1 dX1_answer_50 rfl (lv_at hl 0 rfl) ?_
    refine gf_X1_18 F G hS dX1_answer_51 ?_
    exact e_i F hS ⟨Option.some.inj h, rfl, rfl⟩ hr0 dX1_answer_54 hk0
  replace h := ifF h hc_2
  by_cases hc_3 : a1 = (3 : Int32)
  · replace h := ifT h hc_3
    refine lv_tableIn (tgt := 55) F.1 F.2.1 dX1_answer_1 (by rw [hc_3]; decide) (by rw [hc_3]; decide) (by rw [hc_3]; rfl) (by decide) ?_
    refine lv_aload_n F.1 F.2.1 dX1_answer_55 rfl (lv_at hl 0 rfl) ?_
    refine gf_X1_21 F G hS dX1_answer_56 ?_
    exact e_i F hS ⟨Option.some.inj h, rfl, rfl⟩ hr0 dX1_answer_59 hk0
  replace h := ifF h hc_3
  by_cases hc_4 : a1 = (4 : Int32)
  · replace h := ifT h hc_4
    refine lv_tableIn (tgt := 60) F.1 F.2.1 dX1_answer_1 (by rw [hc_4]; decide) (by rw [hc_4]; decide) (by rw [hc_4]; rfl) (by decide) ?_
    refine lv_aload_n F.1 F.2.1 dX1_answer_60 rfl (lv_at hl 0 rfl) ?_
    refine gf_X1_24 F G hS dX1_answer_61 ?_
    exact e_i F hS ⟨Option.some.inj h, rfl, rfl⟩ hr0 dX1_answer_64 hk0
  replace h := ifF h hc_4
  by_cases hc_5 : a1 = (5 : Int32)
  · replace h := ifT h hc_5
    refine lv_tableIn (tgt := 65) F.1 F.2.1 dX1_answer_1 (by rw [hc_5]; decide) (by rw [hc_5]; decide) (by rw [hc_5]; rfl) (by decide) ?_
    refine lv_aload_n F.1 F.2.1 dX1_answer_65 rfl (lv_at hl 0 rfl) ?_
    refine gf_X1_27 F G hS dX1_answer_66 ?_
    exact e_i F hS ⟨Option.some.inj h, rfl, rfl⟩ hr0 dX1_answer_69 hk0
  replace h := ifF h hc_5
  refine lv_tableOut (tgt := 70) F.1 F.2.1 dX1_answer_1 (by have h0 := lv_neT (a := 0) hc_0 (by decide); have h1 := lv_neT (a := 1) hc_1 (by decide); have h2 := lv_neT (a := 2) hc_2 (by decide); have h3 := lv_neT (a := 3) hc_3 (by decide); have h4 := lv_neT (a := 4) hc_4 (by decide); have h5 := lv_neT (a := 5) hc_5 (by decide); omega) (by decide) ?_
  refine lv_iconst (v := (-1 : Int32)) F.1 F.2.1 dX1_answer_70 (by decide) ?_
  exact e_i F hS ⟨Option.some.inj h, rfl, rfl⟩ hr0 dX1_answer_71 hk0
def f_X7_night (σ : ZI) (a1 : Int32) (a2 : Int32) (a3 : Int32) : Option (Int32 × ZI) := (f_X7_areJoints σ a1).bind (fun q1 => if q1 = 0 then (some ((-1 : Int32), σ)) else ((f_X7_areMarks σ a2).bind (fun q2 => if q2 = 0 then (some ((-1 : Int32), σ)) else ((f_X7_isNightPart a3).bind (fun q3 => if q3 = 0 then (some ((-1 : Int32), σ)) else ((f_X1_go σ 1 a1 a2).bind (fun q4 => (f_X1_answer q4 a3).bind (fun q5 => some (q5, q4)))))))))
abbrev rm_X7_night : Room := { frames := 5, cells := 0, slots := 0, locals := 114 }
set_option maxHeartbeats 4000000 in
set_option maxRecDepth 100000 in
theorem c_X7_night (l : Launch) (g : GG) (σ : ZI) (τ : ZL) (a1 : Int32) (a2 : Int32) (a3 : Int32) (res : Int32 × ZI) (h : f_X7_night σ a1 a2 a3 = some res) : MI l yX7_night cX7_night 4 (some .int) rm_X7_night g [.ref (gA g 0), .int a1, .int a2, .int a3] σ τ (fun (r : Int32) (u : ZI × ZL) => (r, u.1) = res ∧ u.2 = τ) := by
  refine Met_in (by decide) (Nat.le_of_ble_eq_true rfl) ?_
  intro p e s m args below meth c F G hP hr0 hk0 ls hl
  have hS := WS.start hP
  have hl : lv_has ls 4 [(0, .ref (gA g 0)), (1, .int a1), (2, .int a2), (3, .int a3)] := hl
  obtain ⟨H, hH⟩ : ∃ H, H = s.heap := ⟨_, rfl⟩
  rw [← hH] at hS ⊢
  clear hH hP
  rw [f_X7_night] at h
  obtain ⟨locs, hlo⟩ : ∃ z : List Loc, z = [] := ⟨_, rfl⟩
  rw [← hlo] at hS ⊢
  clear hlo
  refine lv_aload_n F.1 F.2.1 dX7_night_0 rfl (lv_at hl 0 rfl) ?_
  refine lv_iload_n F.1 F.2.1 dX7_night_1 rfl (lv_at hl 1 rfl) ?_
  obtain ⟨q1, h_q1, h⟩ := bd h
  refine rVi F G hS hl.1 (c_X7_areJoints l g σ τ a1 q1 h_q1) lk_X7_174 ⟨rfl, rfl, Nat.le_of_ble_eq_true rfl, Nat.le_of_ble_eq_true rfl⟩ (rc_X7 G hS) rfl rfl (Nat.le_of_ble_eq_true rfl) dX7_night_2 (kRi (fun H locs hS => ?_))
  refine lv_if_eq (tgt := 23) F.1 F.2.1 dX7_night_5 (by decide) (fun hc => ?_) (fun hc => ?_)
  · replace h := ifT h hc
    refine lv_iconst (v := (-1 : Int32)) F.1 F.2.1 dX7_night_23 (by decide) ?_
    exact e_i F hS ⟨Option.some.inj h, rfl⟩ hr0 dX7_night_24 hk0
  replace h := ifF h hc
  refine lv_aload_n F.1 F.2.1 dX7_night_8 rfl (lv_at hl 0 rfl) ?_
  refine lv_iload_n F.1 F.2.1 dX7_night_9 rfl (lv_at hl 2 rfl) ?_
  obtain ⟨q2, h_q2, h⟩ := bd h
  refine rVi F G hS hl.1 (c_X7_areMarks l g σ τ a2 q2 h_q2) lk_X7_177 ⟨rfl, rfl, Nat.le_of_ble_eq_true rfl, Nat.le_of_ble_eq_true rfl⟩ (rc_X7 G hS) rfl rfl (Nat.le_of_ble_eq_true rfl) dX7_night_10 (kRi (fun H locs hS => ?_))
  refine lv_if_eq (tgt := 23) F.1 F.2.1 dX7_night_13 (by decide) (fun hc => ?_) (fun hc => ?_)
  · replace h := ifT h hc
    refine lv_iconst (v := (-1 : Int32)) F.1 F.2.1 dX7_night_23 (by decide) ?_
    exact e_i F hS ⟨Option.some.inj h, rfl⟩ hr0 dX7_night_24 hk0
  replace h := ifF h hc
  refine lv_iload_n F.1 F.2.1 dX7_night_16 rfl (lv_at hl 3 rfl) ?_
  obtain ⟨q3, h_q3, h⟩ := bd h
  refine rSi F G hS hl.1 (c_X7_isNightPart l g σ τ a3 q3 h_q3) lk_X7_180 ⟨rfl, rfl, Nat.le_of_ble_eq_true rfl, Nat.le_of_ble_eq_true rfl⟩  rfl rfl (Nat.le_of_ble_eq_true rfl) dX7_night_17 (kRi (fun H locs hS => ?_))
  refine lv_if_ne (tgt := 25) F.1 F.2.1 dX7_night_20 (by decide) (fun hc => ?_) (fun hc => ?_)
  rotate_left
  · replace h := ifT h hc
    refine lv_iconst (v := (-1 : Int32)) F.1 F.2.1 dX7_night_23 (by decide) ?_
    exact e_i F hS ⟨Option.some.inj h, rfl⟩ hr0 dX7_night_24 hk0
  replace h := ifF h hc
  refine lv_aload_n F.1 F.2.1 dX7_night_25 rfl (lv_at hl 0 rfl) ?_
  refine gf_X7_39 F G hS dX7_night_26 ?_
  refine lv_aload_n F.1 F.2.1 dX7_night_29 rfl (lv_at hl 0 rfl) ?_
  refine gf_X7_10 F G hS dX7_night_30 ?_
  refine lv_iload_n F.1 F.2.1 dX7_night_33 rfl (lv_at hl 1 rfl) ?_
  refine lv_iload_n F.1 F.2.1 dX7_night_34 rfl (lv_at hl 2 rfl) ?_
  obtain ⟨q4, h_q4, h⟩ := bd h
  refine rNv F G hS hl.1 (c_X1_go l g σ τ 1 a1 a2 q4 h_q4) lk_X7_183 ⟨rfl, rfl, Nat.le_of_ble_eq_true rfl, Nat.le_of_ble_eq_true rfl⟩ (rc_X1 G hS) rfl rfl (Nat.le_of_ble_eq_true rfl) dX7_night_35 (kIv (fun H locs hS => ?_))
  refine lv_aload_n F.1 F.2.1 dX7_night_38 rfl (lv_at hl 0 rfl) ?_
  refine gf_X7_39 F G hS dX7_night_39 ?_
  refine lv_iload_n F.1 F.2.1 dX7_night_42 rfl (lv_at hl 3 rfl) ?_
  obtain ⟨q5, h_q5, h⟩ := bd h
  refine rNi F G hS hl.1 (c_X1_answer l g q4 τ a3 q5 h_q5) lk_X7_187 ⟨rfl, rfl, Nat.le_of_ble_eq_true rfl, Nat.le_of_ble_eq_true rfl⟩ (rc_X1 G hS) rfl rfl (Nat.le_of_ble_eq_true rfl) dX7_night_43 (kRi (fun H locs hS => ?_))
  exact e_i F hS ⟨Option.some.inj h, rfl⟩ hr0 dX7_night_46 hk0
