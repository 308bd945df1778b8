def f_X5_add (σ : ZI) (a1 : Int32) : Option (Int32 × ZI) := if (σ 37 1) < 0 then (some ((0 : Int32), σ)) else (if (σ 37 1) < (nI 160) then (if inB (σ 37 1) 160 = true then (lt_ (va_up σ 38 (upd (σ 38) (σ 37 1).toNatClampNeg (vp_nar .byte a1.toInt8.toInt32))) (fun σ1 => lt_ (va_up σ1 37 (upd (σ1 37) 1 ((σ1 37 1) + (1 : Int32)))) (fun σ2 => some ((1 : Int32), σ2)))) else none) else (some ((0 : Int32), σ)))
abbrev rm_X5_add : Room := { frames := 0, cells := 0, slots := 0, locals := 0 }
set_option maxHeartbeats 4000000 in
set_option maxRecDepth 100000 in
theorem c_X5_add (l : Launch) (g : GG) (σ : ZI) (τ : ZL) (a1 : Int32) (res : Int32 × ZI) (h : f_X5_add σ a1 = some res) : MI l yX5_add cX5_add 2 (some .boolean) rm_X5_add g [.ref (gA g 37), .int a1] σ τ (fun (r : Int32) (u : ZI × ZL) => (r, u.1) = res ∧ u.2 = τ) := by
  refine Met_in (by decide) (Nat.le_of_ble_eq_true rfl) ?_
  intro p e s m args below meth c F G hP hr0 hk0 ls hl
  have hS := WS.start hP
  have hl : lv_has ls 2 [(0, .ref (gA g 37)), (1, .int a1)] := hl
  obtain ⟨H, hH⟩ : ∃ H, H = s.heap := ⟨_, rfl⟩
  rw [← hH] at hS ⊢
  clear hH hP
  rw [f_X5_add] at h
  obtain ⟨locs, hlo⟩ : ∃ z : List Loc, z = [] := ⟨_, rfl⟩
  rw [← hlo] at hS ⊢
  clear hlo
  refine lv_aload_n F.1 F.2.1 dX5_add_0 rfl (lv_at hl 0 rfl) ?_
  refine gf_X5_15 F G hS dX5_add_1 ?_
  refine lv_if_lt (tgt := 19) F.1 F.2.1 dX5_add_4 (by decide) (fun hc => ?_) (fun hc => ?_)
  · replace h := ifT h hc
    refine lv_iconst (v := (0 : Int32)) F.1 F.2.1 dX5_add_19 (by decide) ?_
    exact e_z F hS (by decide) ⟨Option.some.inj h, rfl⟩ hr0 dX5_add_20 hk0
  replace h := ifF h hc
  refine lv_aload_n F.1 F.2.1 dX5_add_7 rfl (lv_at hl 0 rfl) ?_
  refine gf_X5_15 F G hS dX5_add_8 ?_
  refine lv_aload_n F.1 F.2.1 dX5_add_11 rfl (lv_at hl 0 rfl) ?_
  refine gf_X5_9 F G hS dX5_add_12 ?_
  refine x_alenB F G hS 38 rfl dX5_add_15 ?_
  refine lv_icmp_lt (tgt := 21) F.1 F.2.1 dX5_add_16 (by decide) (fun hc => ?_) (fun hc => ?_)
  rotate_left
  · replace h := ifF h hc
    refine lv_iconst (v := (0 : Int32)) F.1 F.2.1 dX5_add_19 (by decide) ?_
    exact e_z F hS (by decide) ⟨Option.some.inj h, rfl⟩ hr0 dX5_add_20 hk0
  replace h := ifT h hc
  refine lv_aload_n F.1 F.2.1 dX5_add_21 rfl (lv_at hl 0 rfl) ?_
  refine gf_X5_9 F G hS dX5_add_22 ?_
  refine lv_aload_n F.1 F.2.1 dX5_add_25 rfl (lv_at hl 0 rfl) ?_
  refine gf_X5_15 F G hS dX5_add_26 ?_
  refine lv_iload_n F.1 F.2.1 dX5_add_29 rfl (lv_at hl 1 rfl) ?_
  refine lv_i2b F.1 F.2.1 dX5_add_30 rfl ?_
  obtain ⟨hin, h⟩ := gd h
  refine x_bast F G hS 38 rfl hin dX5_add_31 (fun H locs hS => ?_)
  obtain ⟨σ1, e_σ1, h⟩ := ltE h
  rw [← e_σ1] at hS
  clear e_σ1
  refine lv_aload_n F.1 F.2.1 dX5_add_32 rfl (lv_at hl 0 rfl) ?_
  refine lv_dup F.1 F.2.1 dX5_add_33 rfl ?_
  refine gf_X5_15 F G hS dX5_add_34 ?_
  refine lv_iconst (v := (1 : Int32)) F.1 F.2.1 dX5_add_37 (by decide) ?_
  refine lv_iadd F.1 F.2.1 dX5_add_38 ?_
  refine pf_X5_15 F G hS dX5_add_39 (fun H locs hS => ?_)
  obtain ⟨σ2, e_σ2, h⟩ := ltE h
  rw [← e_σ2] at hS
  clear e_σ2
  refine lv_iconst (v := (1 : Int32)) F.1 F.2.1 dX5_add_42 (by decide) ?_
  exact e_z F hS (by decide) ⟨Option.some.inj h, rfl⟩ hr0 dX5_add_43 hk0
def f_X7_feed (σ : ZI) (a1 : Int32) : Option (Int32 × ZI) := if a1 < 0 then (some ((-1 : Int32), σ)) else (if a1 ≤ (127 : Int32) then ((f_X5_add σ a1).bind (fun q1 => if q1.1 = 0 then (some ((-3 : Int32), q1.2)) else (some ((q1.2 37 1), q1.2)))) else (some ((-1 : Int32), σ)))
abbrev rm_X7_feed : Room := { frames := 1, cells := 0, slots := 0, locals := 21 }
set_option maxHeartbeats 4000000 in
set_option maxRecDepth 100000 in
theorem c_X7_feed (l : Launch) (g : GG) (σ : ZI) (τ : ZL) (a1 : Int32) (res : Int32 × ZI) (h : f_X7_feed σ a1 = some res) : MI l yX7_feed cX7_feed 2 (some .int) rm_X7_feed g [.ref (gA g 0), .int a1] σ τ (fun (r : Int32) (u : ZI × ZL) => (r, u.1) = res ∧ u.2 = τ) := by
  refine Met_in (by decide) (Nat.le_of_ble_eq_true rfl) ?_
  intro p e s m args below meth c F G hP hr0 hk0 ls hl
  have hS := WS.start hP
  have hl : lv_has ls 2 [(0, .ref (gA g 0)), (1, .int a1)] := hl
  obtain ⟨H, hH⟩ : ∃ H, H = s.heap := ⟨_, rfl⟩
  rw [← hH] at hS ⊢
  clear hH hP
  rw [f_X7_feed] at h
  obtain ⟨locs, hlo⟩ : ∃ z : List Loc, z = [] := ⟨_, rfl⟩
  rw [← hlo] at hS ⊢
  clear hlo
  refine lv_iload_n F.1 F.2.1 dX7_feed_0 rfl (lv_at hl 1 rfl) ?_
  refine lv_if_lt (tgt := 10) F.1 F.2.1 dX7_feed_1 (by decide) (fun hc => ?_) (fun hc => ?_)
  · replace h := ifT h hc
    refine lv_iconst (v := (-1 : Int32)) F.1 F.2.1 dX7_feed_10 (by decide) ?_
    exact e_i F hS ⟨Option.some.inj h, rfl⟩ hr0 dX7_feed_11 hk0
  replace h := ifF h hc
  refine lv_iload_n F.1 F.2.1 dX7_feed_4 rfl (lv_at hl 1 rfl) ?_
  refine lv_bipush (v := (127 : Int32)) F.1 F.2.1 dX7_feed_5 (by decide) ?_
  refine lv_icmp_le (tgt := 12) F.1 F.2.1 dX7_feed_7 (by decide) (fun hc => ?_) (fun hc => ?_)
  rotate_left
  · replace h := ifF h hc
    refine lv_iconst (v := (-1 : Int32)) F.1 F.2.1 dX7_feed_10 (by decide) ?_
    exact e_i F hS ⟨Option.some.inj h, rfl⟩ hr0 dX7_feed_11 hk0
  replace h := ifT h hc
  refine lv_aload_n F.1 F.2.1 dX7_feed_12 rfl (lv_at hl 0 rfl) ?_
  refine gf_X7_33 F G hS dX7_feed_13 ?_
  refine lv_iload_n F.1 F.2.1 dX7_feed_16 rfl (lv_at hl 1 rfl) ?_
  obtain ⟨q1, h_q1, h⟩ := bd h
  refine rNi F G hS hl.1 (c_X5_add l g σ τ a1 q1 h_q1) lk_X7_68 ⟨rfl, rfl, Nat.le_of_ble_eq_true rfl, Nat.le_of_ble_eq_true rfl⟩ (rc_X5 G hS) rfl rfl (Nat.le_of_ble_eq_true rfl) dX7_feed_17 (kIi (fun H locs hS => ?_))
  refine lv_if_eq (tgt := 33) F.1 F.2.1 dX7_feed_20 (by decide) (fun hc => ?_) (fun hc => ?_)
  · replace h := ifT h hc
    refine lv_bipush (v := (-3 : Int32)) F.1 F.2.1 dX7_feed_33 (by decide) ?_
    exact e_i F hS ⟨Option.some.inj h, rfl⟩ hr0 dX7_feed_35 hk0
  replace h := ifF h hc
  refine lv_aload_n F.1 F.2.1 dX7_feed_23 rfl (lv_at hl 0 rfl) ?_
  refine gf_X7_33 F G hS dX7_feed_24 ?_
  refine gf_X7_74 F G hS dX7_feed_27 ?_
  refine lv_goto (tgt := 35) F.1 F.2.1 dX7_feed_30 (by decide) ?_
  exact e_i F hS ⟨Option.some.inj h, rfl⟩ hr0 dX7_feed_35 hk0
def f_X7_end (σ : ZI) (a1 : Int32) : Option (Int32 × ZI) := if a1 < 0 then (some ((-1 : Int32), σ)) else (if a1 ≤ (σ 37 1) then (lt_ (va_up σ 37 (upd (σ 37) 1 a1)) (fun σ1 => some ((σ 37 1), σ1))) else (some ((-1 : Int32), σ)))
abbrev rm_X7_end : Room := { frames := 0, cells := 0, slots := 0, locals := 0 }
set_option maxHeartbeats 4000000 in
set_option maxRecDepth 100000 in
theorem c_X7_end (l : Launch) (g : GG) (σ : ZI) (τ : ZL) (a1 : Int32) (res : Int32 × ZI) (h : f_X7_end σ a1 = some res) : MI l yX7_end cX7_end 3 (some .int) rm_X7_end g [.ref (gA g 0), .int a1] σ τ (fun (r : Int32) (u : ZI × ZL) => (r, u.1) = res ∧ u.2 = τ) := by
  refine Met_in (by decide) (Nat.le_of_ble_eq_true rfl) ?_
  intro p e s m args below meth c F G hP hr0 hk0 ls hl
  have hS := WS.start hP
  have hl : lv_has ls 3 [(0, .ref (gA g 0)), (1, .int a1)] := hl
  obtain ⟨H, hH⟩ : ∃ H, H = s.heap := ⟨_, rfl⟩
  rw [← hH] at hS ⊢
  clear hH hP
  rw [f_X7_end] at h
  obtain ⟨locs, hlo⟩ : ∃ z : List Loc, z = [] := ⟨_, rfl⟩
  rw [← hlo] at hS ⊢
  clear hlo
  refine lv_iload_n F.1 F.2.1 dX7_end_0 rfl (lv_at hl 1 rfl) ?_
  refine lv_if_lt (tgt := 15) F.1 F.2.1 dX7_end_1 (by decide) (fun hc => ?_) (fun hc => ?_)
  · replace h := ifT h hc
    refine lv_iconst (v := (-1 : Int32)) F.1 F.2.1 dX7_end_15 (by decide) ?_
    exact e_i F hS ⟨Option.some.inj h, rfl⟩ hr0 dX7_end_16 hk0
  replace h := ifF h hc
  refine lv_iload_n F.1 F.2.1 dX7_end_4 rfl (lv_at hl 1 rfl) ?_
  refine lv_aload_n F.1 F.2.1 dX7_end_5 rfl (lv_at hl 0 rfl) ?_
  refine gf_X7_33 F G hS dX7_end_6 ?_
  refine gf_X7_74 F G hS dX7_end_9 ?_
  refine lv_icmp_le (tgt := 17) F.1 F.2.1 dX7_end_12 (by decide) (fun hc => ?_) (fun hc => ?_)
  rotate_left
  · replace h := ifF h hc
    refine lv_iconst (v := (-1 : Int32)) F.1 F.2.1 dX7_end_15 (by decide) ?_
    exact e_i F hS ⟨Option.some.inj h, rfl⟩ hr0 dX7_end_16 hk0
  replace h := ifT h hc
  refine lv_aload_n F.1 F.2.1 dX7_end_17 rfl (lv_at hl 0 rfl) ?_
  refine gf_X7_33 F G hS dX7_end_18 ?_
  refine gf_X7_74 F G hS dX7_end_21 ?_
  refine lv_istore_n (lv' := [(2, .int (σ 37 1)), (0, .ref (gA g 0)), (1, .int a1)]) F.1 F.2.1 dX7_end_24 rfl hl (by decide) rfl (fun ls hl => ?_)
  refine lv_aload_n F.1 F.2.1 dX7_end_25 rfl (lv_at hl 1 rfl) ?_
  refine gf_X7_33 F G hS dX7_end_26 ?_
  refine lv_iload_n F.1 F.2.1 dX7_end_29 rfl (lv_at hl 2 rfl) ?_
  refine pf_X7_74 F G hS dX7_end_30 (fun H locs hS => ?_)
  obtain ⟨σ1, e_σ1, h⟩ := ltE h
  rw [← e_σ1] at hS
  clear e_σ1
  refine lv_iload_n F.1 F.2.1 dX7_end_33 rfl (lv_at hl 0 rfl) ?_
  exact e_i F hS ⟨Option.some.inj h, rfl⟩ hr0 dX7_end_34 hk0
def f_X6_restart (σ : ZI) (b : Nat) : Option (ZI) := if (ar b).1 = 11 then (if (ar (b + 1)).1 = 1 ∧ 13 ≤ (ar (b + 1)).2 then (lt_ (va_up σ (b + 1) (va_cpy (fun j => (stL 100).getD j 0) (σ (b + 1)) 0 0 13)) (fun σ1 => some σ1)) else none) else none
abbrev rm_X6_restart : Room := { frames := 1, cells := 0, slots := 0, locals := 40 }
set_option maxHeartbeats 4000000 in
set_option maxRecDepth 100000 in
theorem c_X6_restart (l : Launch) (g : GG) (σ : ZI) (τ : ZL) (b : Nat) (res : ZI) (h : f_X6_restart σ b = some res) : MV l yX6_restart cX6_restart 1 none rm_X6_restart g [.ref (gA g b)] σ τ (fun (u : ZI × ZL) => u.1 = res ∧ u.2 = τ) := by
  refine Met_in (by decide) (Nat.le_of_ble_eq_true rfl) ?_
  intro p e s m args below meth c F G hP hr0 hk0 ls hl
  have hS := WS.start hP
  have hl : lv_has ls 1 [(0, .ref (gA g b))] := hl
  obtain ⟨H, hH⟩ : ∃ H, H = s.heap := ⟨_, rfl⟩
  rw [← hH] at hS ⊢
  clear hH hP
  rw [f_X6_restart] at h
  obtain ⟨hg_b, h⟩ := gd h
  obtain ⟨locs, hlo⟩ : ∃ z : List Loc, z = [] := ⟨_, rfl⟩
  rw [← hlo] at hS ⊢
  clear hlo
  refine gs_X6_39 F G hS dX6_restart_0 ?_
  refine lv_iconst (v := (0 : Int32)) F.1 F.2.1 dX6_restart_3 (by decide) ?_
  refine lv_aload_n F.1 F.2.1 dX6_restart_4 rfl (lv_at hl 0 rfl) ?_
  refine gf_X6_9 F G hS hg_b dX6_restart_5 ?_
  refine lv_iconst (v := (0 : Int32)) F.1 F.2.1 dX6_restart_8 (by decide) ?_
  refine lv_bipush (v := (13 : Int32)) F.1 F.2.1 dX6_restart_9 (by decide) ?_
  obtain ⟨hr, h⟩ := gd h
  refine x_copyS F G hS (F.2.2.1.trans hl.1.symm) ⟨F.2.2.2.2 _ tb_146, F.2.2.2.2 _ tb_148, F.2.2.2.2 _ tb_147, F.2.2.2.2 _ tb_111⟩ 13 100 (b + 1) hr.1 hr.2 (by decide) (by decide) rfl (Nat.le_of_ble_eq_true rfl) (Nat.le_of_ble_eq_true rfl) dX6_restart_11 (fun H locs hS => ?_)
  obtain ⟨σ1, e_σ1, h⟩ := ltE h
  rw [← e_σ1] at hS
  clear e_σ1
  exact e_v F hS ⟨Option.some.inj h, rfl⟩ hr0 dX6_restart_14 hk0
def f_X2_start (σ : ZI) : Option (ZI) := lt_ (va_up σ 37 (upd (σ 37) 2 (0 : Int32))) (fun σ1 => (f_X6_restart σ1 28).bind (fun q2 => lt_ (va_up q2 39 (upd (q2 39) 2 (0 : Int32))) (fun σ3 => lt_ (va_up σ3 39 (upd (σ3 39) 3 (0 : Int32))) (fun σ4 => some σ4))))
abbrev rm_X2_start : Room := { frames := 2, cells := 0, slots := 0, locals := 60 }
set_option maxHeartbeats 4000000 in
set_option maxRecDepth 100000 in
theorem c_X2_start (l : Launch) (g : GG) (σ : ZI) (τ : ZL)  (res : ZI) (h : f_X2_start σ = some res) : MV l yX2_start cX2_start 1 none rm_X2_start g [.ref (gA g 39)] σ τ (fun (u : ZI × ZL) => u.1 = res ∧ u.2 = τ) := by
  refine Met_in (by decide) (Nat.le_of_ble_eq_true rfl) ?_
  intro p e s m args below meth c F G hP hr0 hk0 ls hl
  have hS := WS.start hP
  have hl : lv_has ls 1 [(0, .ref (gA g 39))] := hl
  obtain ⟨H, hH⟩ : ∃ H, H = s.heap := ⟨_, rfl⟩
  rw [← hH] at hS ⊢
  clear hH hP
  rw [f_X2_start] at h
  obtain ⟨locs, hlo⟩ : ∃ z : List Loc, z = [] := ⟨_, rfl⟩
  rw [← hlo] at hS ⊢
  clear hlo
  refine lv_aload_n F.1 F.2.1 dX2_start_0 rfl (lv_at hl 0 rfl) ?_
  refine gf_X2_12 F G hS dX2_start_1 ?_
  refine lv_iconst (v := (0 : Int32)) F.1 F.2.1 dX2_start_4 (by decide) ?_
  refine pf_X2_25 F G hS dX2_start_5 (fun H locs hS => ?_)
  obtain ⟨σ1, e_σ1, h⟩ := ltE h
  rw [← e_σ1] at hS
  clear e_σ1
  refine lv_aload_n F.1 F.2.1 dX2_start_8 rfl (lv_at hl 0 rfl) ?_
  refine gf_X2_21 F G hS dX2_start_9 ?_
  obtain ⟨q2, h_q2, h⟩ := bd h
  refine rNv F G hS hl.1 (c_X6_restart l g σ1 τ 28 q2 h_q2) lk_X2_29 ⟨rfl, rfl, Nat.le_of_ble_eq_true rfl, Nat.le_of_ble_eq_true rfl⟩ (rc_X6 G hS rfl) rfl rfl (Nat.le_of_ble_eq_true rfl) dX2_start_12 (kIv (fun H locs hS => ?_))
  refine lv_aload_n F.1 F.2.1 dX2_start_15 rfl (lv_at hl 0 rfl) ?_
  refine lv_iconst (v := (0 : Int32)) F.1 F.2.1 dX2_start_16 (by decide) ?_
  refine pf_X2_32 F G hS dX2_start_17 (fun H locs hS => ?_)
  obtain ⟨σ3, e_σ3, h⟩ := ltE h
  rw [← e_σ3] at hS
  clear e_σ3
  refine lv_aload_n F.1 F.2.1 dX2_start_20 rfl (lv_at hl 0 rfl) ?_
  refine lv_iconst (v := (0 : Int32)) F.1 F.2.1 dX2_start_21 (by decide) ?_
  refine pf_X2_35 F G hS dX2_start_22 (fun H locs hS => ?_)
  obtain ⟨σ4, e_σ4, h⟩ := ltE h
  rw [← e_σ4] at hS
  clear e_σ4
  exact e_v F hS ⟨Option.some.inj h, rfl⟩ hr0 dX2_start_25 hk0
def f_X5_byteAt (σ : ZI) (a1 : Int32) : Option (Int32) := if a1 < 0 then (some (-1 : Int32)) else (if (σ 37 1) ≤ a1 then (some (-1 : Int32)) else (if (nI 160) ≤ a1 then (some (-1 : Int32)) else (if inB a1 160 = true then (some (σ 38 a1.toNatClampNeg)) else none)))
abbrev rm_X5_byteAt : Room := { frames := 0, cells := 0, slots := 0, locals := 0 }
set_option maxHeartbeats 4000000 in
set_option maxRecDepth 100000 in
theorem c_X5_byteAt (l : Launch) (g : GG) (σ : ZI) (τ : ZL) (a1 : Int32) (res : Int32) (h : f_X5_byteAt σ a1 = some res) : MI l yX5_byteAt cX5_byteAt 2 (some .int) rm_X5_byteAt g [.ref (gA g 37), .int a1] σ τ (fun (r : Int32) (u : ZI × ZL) => r = res ∧ u.1 = σ ∧ u.2 = τ) := by
  refine Met_in (by decide) (Nat.le_of_ble_eq_true rfl) ?_
  intro p e s m args below meth c F G hP hr0 hk0 ls hl
  have hS := WS.start hP
  have hl : lv_has ls 2 [(0, .ref (gA g 37)), (1, .int a1)] := hl
  obtain ⟨H, hH⟩ : ∃ H, H = s.heap := ⟨_, rfl⟩
  rw [← hH] at hS ⊢
  clear hH hP
  rw [f_X5_byteAt] at h
  obtain ⟨locs, hlo⟩ : ∃ z : List Loc, z = [] := ⟨_, rfl⟩
  rw [← hlo] at hS ⊢
  clear hlo
  refine lv_iload_n F.1 F.2.1 dX5_byteAt_0 rfl (lv_at hl 1 rfl) ?_
  refine lv_if_lt (tgt := 30) F.1 F.2.1 dX5_byteAt_1 (by decide) (fun hc => ?_) (fun hc => ?_)
  · replace h := ifT h hc
    refine lv_iconst (v := (-1 : Int32)) F.1 F.2.1 dX5_byteAt_30 (by decide) ?_
    exact e_i F hS ⟨Option.some.inj h, rfl, rfl⟩ hr0 dX5_byteAt_31 hk0
  replace h := ifF h hc
  refine lv_iload_n F.1 F.2.1 dX5_byteAt_4 rfl (lv_at hl 1 rfl) ?_
  refine lv_aload_n F.1 F.2.1 dX5_byteAt_5 rfl (lv_at hl 0 rfl) ?_
  refine gf_X5_15 F G hS dX5_byteAt_6 ?_
  refine lv_icmp_ge (tgt := 30) F.1 F.2.1 dX5_byteAt_9 (by decide) (fun hc => ?_) (fun hc => ?_)
  · replace h := ifT h hc
    refine lv_iconst (v := (-1 : Int32)) F.1 F.2.1 dX5_byteAt_30 (by decide) ?_
    exact e_i F hS ⟨Option.some.inj h, rfl, rfl⟩ hr0 dX5_byteAt_31 hk0
  replace h := ifF h hc
  refine lv_iload_n F.1 F.2.1 dX5_byteAt_12 rfl (lv_at hl 1 rfl) ?_
  refine lv_aload_n F.1 F.2.1 dX5_byteAt_13 rfl (lv_at hl 0 rfl) ?_
  refine gf_X5_9 F G hS dX5_byteAt_14 ?_
  refine x_alenB F G hS 38 rfl dX5_byteAt_17 ?_
  refine lv_icmp_ge (tgt := 30) F.1 F.2.1 dX5_byteAt_18 (by decide) (fun hc => ?_) (fun hc => ?_)
  · replace h := ifT h hc
    refine lv_iconst (v := (-1 : Int32)) F.1 F.2.1 dX5_byteAt_30 (by decide) ?_
    exact e_i F hS ⟨Option.some.inj h, rfl, rfl⟩ hr0 dX5_byteAt_31 hk0
  replace h := ifF h hc
  refine lv_aload_n F.1 F.2.1 dX5_byteAt_21 rfl (lv_at hl 0 rfl) ?_
  refine gf_X5_9 F G hS dX5_byteAt_22 ?_
  refine lv_iload_n F.1 F.2.1 dX5_byteAt_25 rfl (lv_at hl 1 rfl) ?_
  obtain ⟨hin, h⟩ := gd h
  refine x_bald F G hS 38 rfl hin dX5_byteAt_26 ?_
  refine lv_goto (tgt := 31) F.1 F.2.1 dX5_byteAt_27 (by decide) ?_
  exact e_i F hS ⟨Option.some.inj h, rfl, rfl⟩ hr0 dX5_byteAt_31 hk0
def f_X5_kindOf_28 (a1 : Int32)   : Option (Int32) := if a1 = (59 : Int32) then (some (3 : Int32)) else (some (0 : Int32))
def f_X5_kindOf_14 (a1 : Int32)   : Option (Int32) := if a1 < (48 : Int32) then (f_X5_kindOf_28 a1 ) else (if (57 : Int32) < a1 then (f_X5_kindOf_28 a1 ) else (some (2 : Int32)))
def f_X5_kindOf (a1 : Int32) : Option (Int32) := if a1 < (97 : Int32) then (f_X5_kindOf_14 a1 ) else (if (122 : Int32) < a1 then (f_X5_kindOf_14 a1 ) else (some (1 : Int32)))
abbrev rm_X5_kindOf : Room := { frames := 0, cells := 0, slots := 0, locals := 0 }
set_option maxHeartbeats 4000000 in
set_option maxRecDepth 100000 in
theorem c_X5_kindOf (l : Launch) (g : GG) (σ : ZI) (τ : ZL) (a1 : Int32) (res : Int32) (h : f_X5_kindOf a1 = some res) : MI l yX5_kindOf cX5_kindOf 1 (some .int) rm_X5_kindOf g [.int a1] σ τ (fun (r : Int32) (u : ZI × ZL) => r = res ∧ u.1 = σ ∧ u.2 = τ) := by
  refine Met_in (by decide) (Nat.le_of_ble_eq_true rfl) ?_
  intro p e s m args below meth c F G hP hr0 hk0 ls hl
  have hS := WS.start hP
  have hl : lv_has ls 1 [(0, .int a1)] := hl
  obtain ⟨H, hH⟩ : ∃ H, H = s.heap := ⟨_, rfl⟩
  rw [← hH] at hS ⊢
  clear hH hP
  rw [f_X5_kindOf] at h
  have w_28 : f_X5_kindOf_28 a1  = some res → ∀ (H : Heap) (locs : List Loc) (ls : Array Slot), WS g σ τ s H locs → lv_has ls 1 [(0, .int a1)] → W p l e rm_X5_kindOf s m args below meth c H locs 0 0 (MQ below (va_Qi (fun (r : Int32) (u : ZI × ZL) => r = res ∧ u.1 = σ ∧ u.2 = τ) (WQ g) (AA g)) args s 0 0 (AA g)) (F0 m 28 ls []) := by
    intro   h H locs ls hS hl
    rw [f_X5_kindOf_28] at h
    refine lv_iload_n F.1 F.2.1 dX5_kindOf_28 rfl (lv_at hl 0 rfl) ?_
    refine lv_bipush (v := (59 : Int32)) F.1 F.2.1 dX5_kindOf_29 (by decide) ?_
    refine lv_icmp_ne (tgt := 38) F.1 F.2.1 dX5_kindOf_31 (by decide) (fun hc => ?_) (fun hc => ?_)
    · replace h := ifF h hc
      refine lv_iconst (v := (0 : Int32)) F.1 F.2.1 dX5_kindOf_38 (by decide) ?_
      exact e_i F hS ⟨Option.some.inj h, rfl, rfl⟩ hr0 dX5_kindOf_39 hk0
    replace h := ifT h hc
    refine lv_iconst (v := (3 : Int32)) F.1 F.2.1 dX5_kindOf_34 (by decide) ?_
    refine lv_goto (tgt := 39) F.1 F.2.1 dX5_kindOf_35 (by decide) ?_
    exact e_i F hS ⟨Option.some.inj h, rfl, rfl⟩ hr0 dX5_kindOf_39 hk0
  have w_14 : f_X5_kindOf_14 a1  = some res → ∀ (H : Heap) (locs : List Loc) (ls : Array Slot), WS g σ τ s H locs → lv_has ls 1 [(0, .int a1)] → W p l e rm_X5_kindOf s m args below meth c H locs 0 0 (MQ below (va_Qi (fun (r : Int32) (u : ZI × ZL) => r = res ∧ u.1 = σ ∧ u.2 = τ) (WQ g) (AA g)) args s 0 0 (AA g)) (F0 m 14 ls []) := by
    intro   h H locs ls hS hl
    rw [f_X5_kindOf_14] at h
    refine lv_iload_n F.1 F.2.1 dX5_kindOf_14 rfl (lv_at hl 0 rfl) ?_
    refine lv_bipush (v := (48 : Int32)) F.1 F.2.1 dX5_kindOf_15 (by decide) ?_
    refine lv_icmp_lt (tgt := 28) F.1 F.2.1 dX5_kindOf_17 (by decide) (fun hc => ?_) (fun hc => ?_)
    · replace h := ifT h hc
      exact w_28 h H locs _ hS (lv_sub hl [0] rfl)
    replace h := ifF h hc
    refine lv_iload_n F.1 F.2.1 dX5_kindOf_20 rfl (lv_at hl 0 rfl) ?_
    refine lv_bipush (v := (57 : Int32)) F.1 F.2.1 dX5_kindOf_21 (by decide) ?_
    refine lv_icmp_gt (tgt := 28) F.1 F.2.1 dX5_kindOf_23 (by decide) (fun hc => ?_) (fun hc => ?_)
    · replace h := ifT h hc
      exact w_28 h H locs _ hS (lv_sub hl [0] rfl)
    replace h := ifF h hc
    refine lv_iconst (v := (2 : Int32)) F.1 F.2.1 dX5_kindOf_26 (by decide) ?_
    exact e_i F hS ⟨Option.some.inj h, rfl, rfl⟩ hr0 dX5_kindOf_27 hk0
  obtain ⟨locs, hlo⟩ : ∃ z : List Loc, z = [] := ⟨_, rfl⟩
  rw [← hlo] at hS ⊢
  clear hlo
  refine lv_iload_n F.1 F.2.1 dX5_kindOf_0 rfl (lv_at hl 0 rfl) ?_
  refine lv_bipush (v := (97 : Int32)) F.1 F.2.1 dX5_kindOf_1 (by decide) ?_
  refine lv_icmp_lt (tgt := 14) F.1 F.2.1 dX5_kindOf_3 (by decide) (fun hc => ?_) (fun hc => ?_)
  · replace h := ifT h hc
    exact w_14 h H locs _ hS (lv_sub hl [0] rfl)
  replace h := ifF h hc
  refine lv_iload_n F.1 F.2.1 dX5_kindOf_6 rfl (lv_at hl 0 rfl) ?_
  refine lv_bipush (v := (122 : Int32)) F.1 F.2.1 dX5_kindOf_7 (by decide) ?_
  refine lv_icmp_gt (tgt := 14) F.1 F.2.1 dX5_kindOf_9 (by decide) (fun hc => ?_) (fun hc => ?_)
  · replace h := ifT h hc
    exact w_14 h H locs _ hS (lv_sub hl [0] rfl)
  replace h := ifF h hc
  refine lv_iconst (v := (1 : Int32)) F.1 F.2.1 dX5_kindOf_12 (by decide) ?_
  exact e_i F hS ⟨Option.some.inj h, rfl, rfl⟩ hr0 dX5_kindOf_13 hk0
def f_X5_readToken_136   (σ : ZI) : Option (ZI) := if (σ 37 3) = (2 : Int32) then (if ((σ 37 2) - (σ 37 4)) ≤ (2 : Int32) then (some σ) else (lt_ (va_up σ 37 (upd (σ 37) 3 (0 : Int32))) (fun σ3 => some σ3))) else (some σ)
def f_X5_readToken_123  (k_75 : ZI → Option (ZI)) (σ : ZI) : Option (ZI) := lt_ (va_up σ 37 (upd (σ 37) 2 ((σ 37 2) + (1 : Int32)))) (fun σ6 => k_75 σ6)
def f_X5_readToken_75   : Nat → ZI → Option (ZI)
  | 0, _ => none
  | n + 1, σ => if (σ 37 1) ≤ (σ 37 2) then (f_X5_readToken_136 σ) else ((f_X5_byteAt σ (σ 37 2)).bind (fun q4 => (f_X5_kindOf q4).bind (fun q5 => if q5 = (σ 37 3) then (if (σ 37 3) = (3 : Int32) then (if (σ 37 2) = (σ 37 4) then (f_X5_readToken_123 (fun σ => f_X5_readToken_75 n σ) σ) else (f_X5_readToken_136 σ)) else (f_X5_readToken_123 (fun σ => f_X5_readToken_75 n σ) σ)) else (f_X5_readToken_136 σ))))
def f_X5_readToken_72   (σ : ZI) (s0 : Int32) : Option (ZI) := lt_ (va_up σ 37 (upd (σ 37) 3 s0)) (fun σ2 => f_X5_readToken_75 3000 σ2)
def f_X5_readToken_37   (σ : ZI) : Option (ZI) := lt_ (va_up σ 37 (upd (σ 37) 4 (σ 37 2))) (fun σ1 => if (σ1 37 1) ≤ (σ1 37 2) then (f_X5_readToken_72 σ1 (4 : Int32)) else ((f_X5_byteAt σ1 (σ1 37 2)).bind (fun q7 => (f_X5_kindOf q7).bind (fun q8 => f_X5_readToken_72 σ1 q8))))
def f_X5_readToken_0   : Nat → ZI → Option (ZI)
  | 0, _ => none
  | n + 1, σ => if (σ 37 1) ≤ (σ 37 2) then (f_X5_readToken_37 σ) else ((f_X5_byteAt σ (σ 37 2)).bind (fun q9 => if q9 = (32 : Int32) then (lt_ (va_up σ 37 (upd (σ 37) 2 ((σ 37 2) + (1 : Int32)))) (fun σ10 => f_X5_readToken_0 n σ10)) else (f_X5_readToken_37 σ)))
def f_X5_readToken (σ : ZI) : Option (ZI) := f_X5_readToken_0 3000 σ
abbrev rm_X5_readToken : Room := { frames := 1, cells := 0, slots := 0, locals := 21 }
set_option maxHeartbeats 4000000 in
set_option maxRecDepth 100000 in
theorem c_X5_readToken (l : Launch) (g : GG) (σ : ZI) (τ : ZL)  (res : ZI) (h : f_X5_readToken σ = some res) : MV l yX5_readToken cX5_readToken 1 none rm_X5_readToken g [.ref (gA g 37)] σ τ (fun (u : ZI × ZL) => u.1 = res ∧ u.2 = τ) := by
  refine Met_in (by decide) (Nat.le_of_ble_eq_true rfl) ?_
  intro p e s m args below meth c F G hP hr0 hk0 ls hl
  have hS := WS.start hP
  have hl : lv_has ls 1 [(0, .ref (gA g 37))] := hl
  obtain ⟨H, hH⟩ : ∃ H, H = s.heap := ⟨_, rfl⟩
  rw [← hH] at hS ⊢
  clear hH hP
  rw [f_X5_readToken] at h
  have w_136 : ∀ (σ : ZI), f_X5_readToken_136 σ = some res → ∀ (H : Heap) (locs : List Loc) (ls : Array Slot), WS g σ τ s H locs → lv_has ls 1 [(0, .ref (gA g 37))] → W p l e rm_X5_readToken s m args below meth c H locs 0 0 (MQ below (va_Qv (fun (u : ZI × ZL) => u.1 = res ∧ u.2 = τ) (WQ g) (AA g)) args s 0 0 (AA g)) (F0 m 136 ls []) := by
    intro  σ h H locs ls hS hl
    rw [f_X5_readToken_136] at h
    refine lv_aload_n F.1 F.2.1 dX5_readToken_136 rfl (lv_at hl 0 rfl) ?_
    refine gf_X5_32 F G hS dX5_readToken_137 ?_
    refine lv_iconst (v := (2 : Int32)) F.1 F.2.1 dX5_readToken_140 (by decide) ?_
    refine lv_icmp_ne (tgt := 162) F.1 F.2.1 dX5_readToken_141 (by decide) (fun hc => ?_) (fun hc => ?_)
    · replace h := ifF h hc
      exact e_v F hS ⟨Option.some.inj h, rfl⟩ hr0 dX5_readToken_162 hk0
    replace h := ifT h hc
    refine lv_aload_n F.1 F.2.1 dX5_readToken_144 rfl (lv_at hl 0 rfl) ?_
    refine gf_X5_19 F G hS dX5_readToken_145 ?_
    refine lv_aload_n F.1 F.2.1 dX5_readToken_148 rfl (lv_at hl 0 rfl) ?_
    refine gf_X5_26 F G hS dX5_readToken_149 ?_
    refine lv_isub F.1 F.2.1 dX5_readToken_152 ?_
    refine lv_iconst (v := (2 : Int32)) F.1 F.2.1 dX5_readToken_153 (by decide) ?_
    refine lv_icmp_le (tgt := 162) F.1 F.2.1 dX5_readToken_154 (by decide) (fun hc => ?_) (fun hc => ?_)
    · replace h := ifT h hc
      exact e_v F hS ⟨Option.some.inj h, rfl⟩ hr0 dX5_readToken_162 hk0
    replace h := ifF h hc
    refine lv_aload_n F.1 F.2.1 dX5_readToken_157 rfl (lv_at hl 0 rfl) ?_
    refine lv_iconst (v := (0 : Int32)) F.1 F.2.1 dX5_readToken_158 (by decide) ?_
    refine pf_X5_32 F G hS dX5_readToken_159 (fun H locs hS => ?_)
    obtain ⟨σ3, e_σ3, h⟩ := ltE h
    rw [← e_σ3] at hS
    clear e_σ3
    exact e_v F hS ⟨Option.some.inj h, rfl⟩ hr0 dX5_readToken_162 hk0
  have w_123 : ∀ (k_75 : ZI → Option (ZI)) (hk_75 : ∀ (σ : ZI), k_75 σ = some res → ∀ (H : Heap) (locs : List Loc) (ls : Array Slot), WS g σ τ s H locs → lv_has ls 1 [(0, .ref (gA g 37))] → W p l e rm_X5_readToken s m args below meth c H locs 0 0 (MQ below (va_Qv (fun (u : ZI × ZL) => u.1 = res ∧ u.2 = τ) (WQ g) (AA g)) args s 0 0 (AA g)) (F0 m 75 ls [])) (σ : ZI), f_X5_readToken_123 k_75 σ = some res → ∀ (H : Heap) (locs : List Loc) (ls : Array Slot), WS g σ τ s H locs → lv_has ls 1 [(0, .ref (gA g 37))] → W p l e rm_X5_readToken s m args below meth c H locs 0 0 (MQ below (va_Qv (fun (u : ZI × ZL) => u.1 = res ∧ u.2 = τ) (WQ g) (AA g)) args s 0 0 (AA g)) (F0 m 123 ls []) := by
    intro k_75 hk_75 σ h H locs ls hS hl
    rw [f_X5_readToken_123] at h
    refine lv_aload_n F.1 F.2.1 dX5_readToken_123 rfl (lv_at hl 0 rfl) ?_
    refine lv_dup F.1 F.2.1 dX5_readToken_124 rfl ?_
    refine gf_X5_19 F G hS dX5_readToken_125 ?_
    refine lv_iconst (v := (1 : Int32)) F.1 F.2.1 dX5_readToken_128 (by decide) ?_
    refine lv_iadd F.1 F.2.1 dX5_readToken_129 ?_
    refine pf_X5_19 F G hS dX5_readToken_130 (fun H locs hS => ?_)
    obtain ⟨σ6, e_σ6, h⟩ := ltE h
    rw [← e_σ6] at hS
    clear e_σ6
    refine lv_goto (tgt := 75) F.1 F.2.1 dX5_readToken_133 (by decide) ?_
    exact hk_75 σ6 h H locs _ hS (lv_sub hl [0] rfl)
  have w_75 : ∀ (n : Nat) (σ : ZI), f_X5_readToken_75 n σ = some res → ∀ (H : Heap) (locs : List Loc) (ls : Array Slot), WS g σ τ s H locs → lv_has ls 1 [(0, .ref (gA g 37))] → W p l e rm_X5_readToken s m args below meth c H locs 0 0 (MQ below (va_Qv (fun (u : ZI × ZL) => u.1 = res ∧ u.2 = τ) (WQ g) (AA g)) args s 0 0 (AA g)) (F0 m 75 ls []) := by
    intro n
    induction n with
    | zero => intro σ h; rw [f_X5_readToken_75] at h; cases h
    | succ n ih =>
      intro σ h H locs ls hS hl
      rw [f_X5_readToken_75] at h
      refine lv_aload_n F.1 F.2.1 dX5_readToken_75 rfl (lv_at hl 0 rfl) ?_
      refine gf_X5_19 F G hS dX5_readToken_76 ?_
      refine lv_aload_n F.1 F.2.1 dX5_readToken_79 rfl (lv_at hl 0 rfl) ?_
      refine gf_X5_15 F G hS dX5_readToken_80 ?_
      refine lv_icmp_ge (tgt := 136) F.1 F.2.1 dX5_readToken_83 (by decide) (fun hc => ?_) (fun hc => ?_)
      · replace h := ifT h hc
        exact w_136 σ h H locs _ hS (lv_sub hl [0] rfl)
      replace h := ifF h hc
      refine lv_aload_n F.1 F.2.1 dX5_readToken_86 rfl (lv_at hl 0 rfl) ?_
      refine lv_aload_n F.1 F.2.1 dX5_readToken_87 rfl (lv_at hl 0 rfl) ?_
      refine gf_X5_19 F G hS dX5_readToken_88 ?_
      obtain ⟨q4, h_q4, h⟩ := bd h
      refine rVi F G hS hl.1 (c_X5_byteAt l g σ τ (σ 37 2) q4 h_q4) lk_X5_22 ⟨rfl, rfl, Nat.le_of_ble_eq_true rfl, Nat.le_of_ble_eq_true rfl⟩ (rc_X5 G hS) rfl rfl (Nat.le_of_ble_eq_true rfl) dX5_readToken_91 (kRi (fun H locs hS => ?_))
      obtain ⟨q5, h_q5, h⟩ := bd h
      refine rSi F G hS hl.1 (c_X5_kindOf l g σ τ q4 q5 h_q5) lk_X5_29 ⟨rfl, rfl, Nat.le_of_ble_eq_true rfl, Nat.le_of_ble_eq_true rfl⟩  rfl rfl (Nat.le_of_ble_eq_true rfl) dX5_readToken_94 (kRi (fun H locs hS => ?_))
      refine lv_aload_n F.1 F.2.1 dX5_readToken_97 rfl (lv_at hl 0 rfl) ?_
      refine gf_X5_32 F G hS dX5_readToken_98 ?_
      refine lv_icmp_ne (tgt := 136) F.1 F.2.1 dX5_readToken_101 (by decide) (fun hc => ?_) (fun hc => ?_)
      · replace h := ifF h hc
        exact w_136 σ h H locs _ hS (lv_sub hl [0] rfl)
      replace h := ifT h hc
      refine lv_aload_n F.1 F.2.1 dX5_readToken_104 rfl (lv_at hl 0 rfl) ?_
      refine gf_X5_32 F G hS dX5_readToken_105 ?_
      refine lv_iconst (v := (3 : Int32)) F.1 F.2.1 dX5_readToken_108 (by decide) ?_
      refine lv_icmp_ne (tgt := 123) F.1 F.2.1 dX5_readToken_109 (by decide) (fun hc => ?_) (fun hc => ?_)
      · replace h := ifF h hc
        exact w_123 _ (fun σ => ih σ) σ h H locs _ hS (lv_sub hl [0] rfl)
      replace h := ifT h hc
      refine lv_aload_n F.1 F.2.1 dX5_readToken_112 rfl (lv_at hl 0 rfl) ?_
      refine gf_X5_19 F G hS dX5_readToken_113 ?_
      refine lv_aload_n F.1 F.2.1 dX5_readToken_116 rfl (lv_at hl 0 rfl) ?_
      refine gf_X5_26 F G hS dX5_readToken_117 ?_
      refine lv_icmp_ne (tgt := 136) F.1 F.2.1 dX5_readToken_120 (by decide) (fun hc => ?_) (fun hc => ?_)
      · replace h := ifF h hc
        exact w_136 σ h H locs _ hS (lv_sub hl [0] rfl)
      replace h := ifT h hc
      exact w_123 _ (fun σ => ih σ) σ h H locs _ hS (lv_sub hl [0] rfl)
  have w_72 : ∀ (σ : ZI) (s0 : Int32), f_X5_readToken_72 σ s0 = some res → ∀ (H : Heap) (locs : List Loc) (ls : Array Slot), WS g σ τ s H locs → lv_has ls 1 [(0, .ref (gA g 37))] → W p l e rm_X5_readToken s m args below meth c H locs 0 0 (MQ below (va_Qv (fun (u : ZI × ZL) => u.1 = res ∧ u.2 = τ) (WQ g) (AA g)) args s 0 0 (AA g)) (F0 m 72 ls [.int s0, .ref (gA g 37)]) := by
    intro  σ s0 h H locs ls hS hl
    rw [f_X5_readToken_72] at h
    refine pf_X5_32 F G hS dX5_readToken_72 (fun H locs hS => ?_)
    obtain ⟨σ2, e_σ2, h⟩ := ltE h
    rw [← e_σ2] at hS
    clear e_σ2
    exact w_75 3000 σ2 h H locs _ hS (lv_sub hl [0] rfl)
  have w_37 : ∀ (σ : ZI), f_X5_readToken_37 σ = some res → ∀ (H : Heap) (locs : List Loc) (ls : Array Slot), WS g σ τ s H locs → lv_has ls 1 [(0, .ref (gA g 37))] → W p l e rm_X5_readToken s m args below meth c H locs 0 0 (MQ below (va_Qv (fun (u : ZI × ZL) => u.1 = res ∧ u.2 = τ) (WQ g) (AA g)) args s 0 0 (AA g)) (F0 m 37 ls []) := by
    intro  σ h H locs ls hS hl
    rw [f_X5_readToken_37] at h
    refine lv_aload_n F.1 F.2.1 dX5_readToken_37 rfl (lv_at hl 0 rfl) ?_
    refine lv_aload_n F.1 F.2.1 dX5_readToken_38 rfl (lv_at hl 0 rfl) ?_
    refine gf_X5_19 F G hS dX5_readToken_39 ?_
    refine pf_X5_26 F G hS dX5_readToken_42 (fun H locs hS => ?_)
    obtain ⟨σ1, e_σ1, h⟩ := ltE h
    rw [← e_σ1] at hS
    clear e_σ1
    refine lv_aload_n F.1 F.2.1 dX5_readToken_45 rfl (lv_at hl 0 rfl) ?_
    refine lv_aload_n F.1 F.2.1 dX5_readToken_46 rfl (lv_at hl 0 rfl) ?_
    refine gf_X5_19 F G hS dX5_readToken_47 ?_
    refine lv_aload_n F.1 F.2.1 dX5_readToken_50 rfl (lv_at hl 0 rfl) ?_
    refine gf_X5_15 F G hS dX5_readToken_51 ?_
    refine lv_icmp_ge (tgt := 71) F.1 F.2.1 dX5_readToken_54 (by decide) (fun hc => ?_) (fun hc => ?_)
    · replace h := ifT h hc
      refine lv_iconst (v := (4 : Int32)) F.1 F.2.1 dX5_readToken_71 (by decide) ?_
      exact w_72 σ1 (4 : Int32) h H locs _ hS (lv_sub hl [0] rfl)
    replace h := ifF h hc
    refine lv_aload_n F.1 F.2.1 dX5_readToken_57 rfl (lv_at hl 0 rfl) ?_
    refine lv_aload_n F.1 F.2.1 dX5_readToken_58 rfl (lv_at hl 0 rfl) ?_
    refine gf_X5_19 F G hS dX5_readToken_59 ?_
    obtain ⟨q7, h_q7, h⟩ := bd h
    refine rVi F G hS hl.1 (c_X5_byteAt l g σ1 τ (σ1 37 2) q7 h_q7) lk_X5_22 ⟨rfl, rfl, Nat.le_of_ble_eq_true rfl, Nat.le_of_ble_eq_true rfl⟩ (rc_X5 G hS) rfl rfl (Nat.le_of_ble_eq_true rfl) dX5_readToken_62 (kRi (fun H locs hS => ?_))
    obtain ⟨q8, h_q8, h⟩ := bd h
    refine rSi F G hS hl.1 (c_X5_kindOf l g σ1 τ q7 q8 h_q8) lk_X5_29 ⟨rfl, rfl, Nat.le_of_ble_eq_true rfl, Nat.le_of_ble_eq_true rfl⟩  rfl rfl (Nat.le_of_ble_eq_true rfl) dX5_readToken_65 (kRi (fun H locs hS => ?_))
    refine lv_goto (tgt := 72) F.1 F.2.1 dX5_readToken_68 (by decide) ?_
    exact w_72 σ1 q8 h H locs _ hS (lv_sub hl [0] rfl)
  have w_0 : ∀ (n : Nat) (σ : ZI), f_X5_readToken_0 n σ = some res → ∀ (H : Heap) (locs : List Loc) (ls : Array Slot), WS g σ τ s H locs → lv_has ls 1 [(0, .ref (gA g 37))] → W p l e rm_X5_readToken s m args below meth c H locs 0 0 (MQ below (va_Qv (fun (u : ZI × ZL) => u.1 = res ∧ u.2 = τ) (WQ g) (AA g)) args s 0 0 (AA g)) (F0 m 0 ls []) := by
    intro n
    induction n with
    | zero => intro σ h; rw [f_X5_readToken_0] at h; cases h
    | succ n ih =>
      intro σ h H locs ls hS hl
      rw [f_X5_readToken_0] at h
      refine lv_aload_n F.1 F.2.1 dX5_readToken_0 rfl (lv_at hl 0 rfl) ?_
      refine gf_X5_19 F G hS dX5_readToken_1 ?_
      refine lv_aload_n F.1 F.2.1 dX5_readToken_4 rfl (lv_at hl 0 rfl) ?_
      refine gf_X5_15 F G hS dX5_readToken_5 ?_
      refine lv_icmp_ge (tgt := 37) F.1 F.2.1 dX5_readToken_8 (by decide) (fun hc => ?_) (fun hc => ?_)
      · replace h := ifT h hc
        exact w_37 σ h H locs _ hS (lv_sub hl [0] rfl)
      replace h := ifF h hc
      refine lv_aload_n F.1 F.2.1 dX5_readToken_11 rfl (lv_at hl 0 rfl) ?_
      refine lv_aload_n F.1 F.2.1 dX5_readToken_12 rfl (lv_at hl 0 rfl) ?_
      refine gf_X5_19 F G hS dX5_readToken_13 ?_
      obtain ⟨q9, h_q9, h⟩ := bd h
      refine rVi F G hS hl.1 (c_X5_byteAt l g σ τ (σ 37 2) q9 h_q9) lk_X5_22 ⟨rfl, rfl, Nat.le_of_ble_eq_true rfl, Nat.le_of_ble_eq_true rfl⟩ (rc_X5 G hS) rfl rfl (Nat.le_of_ble_eq_true rfl) dX5_readToken_16 (kRi (fun H locs hS => ?_))
      refine lv_bipush (v := (32 : Int32)) F.1 F.2.1 dX5_readToken_19 (by decide) ?_
      refine lv_icmp_ne (tgt := 37) F.1 F.2.1 dX5_readToken_21 (by decide) (fun hc => ?_) (fun hc => ?_)
      · replace h := ifF h hc
        exact w_37 σ h H locs _ hS (lv_sub hl [0] rfl)
      replace h := ifT h hc
      refine lv_aload_n F.1 F.2.1 dX5_readToken_24 rfl (lv_at hl 0 rfl) ?_
      refine lv_dup F.1 F.2.1 dX5_readToken_25 rfl ?_
      refine gf_X5_19 F G hS dX5_readToken_26 ?_
      refine lv_iconst (v := (1 : Int32)) F.1 F.2.1 dX5_readToken_29 (by decide) ?_
      refine lv_iadd F.1 F.2.1 dX5_readToken_30 ?_
      refine pf_X5_19 F G hS dX5_readToken_31 (fun H locs hS => ?_)
      obtain ⟨σ10, e_σ10, h⟩ := ltE h
      rw [← e_σ10] at hS
      clear e_σ10
      refine lv_goto (tgt := 0) F.1 F.2.1 dX5_readToken_34 (by decide) ?_
      exact ih σ10 h H locs _ hS (lv_sub hl [0] rfl)
  obtain ⟨locs, hlo⟩ : ∃ z : List Loc, z = [] := ⟨_, rfl⟩
  rw [← hlo] at hS ⊢
  clear hlo
  exact w_0 3000 σ h H locs _ hS (lv_sub hl [0] rfl)
def f_X2_refuse (σ : ZI) (a1 : Int32) : Option (Int32 × ZI) := lt_ (va_up σ 39 (upd (σ 39) 3 a1)) (fun σ1 => lt_ (va_up σ1 39 (upd (σ1 39) 4 (σ1 37 4))) (fun σ2 => some ((0 : Int32), σ2)))
abbrev rm_X2_refuse : Room := { frames := 0, cells := 0, slots := 0, locals := 0 }
set_option maxHeartbeats 4000000 in
set_option maxRecDepth 100000 in
theorem c_X2_refuse (l : Launch) (g : GG) (σ : ZI) (τ : ZL) (a1 : Int32) (res : Int32 × ZI) (h : f_X2_refuse σ a1 = some res) : MI l yX2_refuse cX2_refuse 2 (some .boolean) rm_X2_refuse g [.ref (gA g 39), .int a1] σ τ (fun (r : Int32) (u : ZI × ZL) => (r, u.1) = res ∧ u.2 = τ) := by
  refine Met_in (by decide) (Nat.le_of_ble_eq_true rfl) ?_
  intro p e s m args below meth c F G hP hr0 hk0 ls hl
  have hS := WS.start hP
  have hl : lv_has ls 2 [(0, .ref (gA g 39)), (1, .int a1)] := hl
  obtain ⟨H, hH⟩ : ∃ H, H = s.heap := ⟨_, rfl⟩
  rw [← hH] at hS ⊢
  clear hH hP
  rw [f_X2_refuse] at h
  obtain ⟨locs, hlo⟩ : ∃ z : List Loc, z = [] := ⟨_, rfl⟩
  rw [← hlo] at hS ⊢
  clear hlo
  refine lv_aload_n F.1 F.2.1 dX2_refuse_0 rfl (lv_at hl 0 rfl) ?_
  refine lv_iload_n F.1 F.2.1 dX2_refuse_1 rfl (lv_at hl 1 rfl) ?_
  refine pf_X2_35 F G hS dX2_refuse_2 (fun H locs hS => ?_)
  obtain ⟨σ1, e_σ1, h⟩ := ltE h
  rw [← e_σ1] at hS
  clear e_σ1
  refine lv_aload_n F.1 F.2.1 dX2_refuse_5 rfl (lv_at hl 0 rfl) ?_
  refine lv_aload_n F.1 F.2.1 dX2_refuse_6 rfl (lv_at hl 0 rfl) ?_
  refine gf_X2_12 F G hS dX2_refuse_7 ?_
  refine gf_X2_149 F G hS dX2_refuse_10 ?_
  refine pf_X2_45 F G hS dX2_refuse_13 (fun H locs hS => ?_)
  obtain ⟨σ2, e_σ2, h⟩ := ltE h
  rw [← e_σ2] at hS
  clear e_σ2
  refine lv_iconst (v := (0 : Int32)) F.1 F.2.1 dX2_refuse_16 (by decide) ?_
  exact e_z F hS (by decide) ⟨Option.some.inj h, rfl⟩ hr0 dX2_refuse_17 hk0
def f_X2_takeToken (σ : ZI) : Option (Int32 × ZI) := (f_X5_readToken σ).bind (fun q1 => if (q1 37 3) = 0 then ((f_X2_refuse q1 (1 : Int32)).bind (fun q2 => if q2.1 = 0 then (some ((0 : Int32), q2.2)) else (some ((1 : Int32), q2.2)))) else (some ((1 : Int32), q1)))
abbrev rm_X2_takeToken : Room := { frames := 2, cells := 0, slots := 0, locals := 41 }
set_option maxHeartbeats 4000000 in
set_option maxRecDepth 100000 in
theorem c_X2_takeToken (l : Launch) (g : GG) (σ : ZI) (τ : ZL)  (res : Int32 × ZI) (h : f_X2_takeToken σ = some res) : MI l yX2_takeToken cX2_takeToken 1 (some .boolean) rm_X2_takeToken g [.ref (gA g 39)] σ τ (fun (r : Int32) (u : ZI × ZL) => (r, u.1) = res ∧ u.2 = τ) := by
  refine Met_in (by decide) (Nat.le_of_ble_eq_true rfl) ?_
  intro p e s m args below meth c F G hP hr0 hk0 ls hl
  have hS := WS.start hP
  have hl : lv_has ls 1 [(0, .ref (gA g 39))] := hl
  obtain ⟨H, hH⟩ : ∃ H, H = s.heap := ⟨_, rfl⟩
  rw [← hH] at hS ⊢
  clear hH hP
  rw [f_X2_takeToken] at h
  obtain ⟨locs, hlo⟩ : ∃ z : List Loc, z = [] := ⟨_, rfl⟩
  rw [← hlo] at hS ⊢
  clear hlo
  refine lv_aload_n F.1 F.2.1 dX2_takeToken_0 rfl (lv_at hl 0 rfl) ?_
  refine gf_X2_12 F G hS dX2_takeToken_1 ?_
  obtain ⟨q1, h_q1, h⟩ := bd h
  refine rNv F G hS hl.1 (c_X5_readToken l g σ τ q1 h_q1) lk_X2_143 ⟨rfl, rfl, Nat.le_of_ble_eq_true rfl, Nat.le_of_ble_eq_true rfl⟩ (rc_X5 G hS) rfl rfl (Nat.le_of_ble_eq_true rfl) dX2_takeToken_4 (kIv (fun H locs hS => ?_))
  refine lv_aload_n F.1 F.2.1 dX2_takeToken_7 rfl (lv_at hl 0 rfl) ?_
  refine gf_X2_12 F G hS dX2_takeToken_8 ?_
  refine gf_X2_51 F G hS dX2_takeToken_11 ?_
  refine lv_if_ne (tgt := 25) F.1 F.2.1 dX2_takeToken_14 (by decide) (fun hc => ?_) (fun hc => ?_)
  · replace h := ifF h hc
    refine lv_iconst (v := (1 : Int32)) F.1 F.2.1 dX2_takeToken_25 (by decide) ?_
    refine lv_goto (tgt := 30) F.1 F.2.1 dX2_takeToken_26 (by decide) ?_
    exact e_z F hS (by decide) ⟨Option.some.inj h, rfl⟩ hr0 dX2_takeToken_30 hk0
  replace h := ifT h hc
  refine lv_aload_n F.1 F.2.1 dX2_takeToken_17 rfl (lv_at hl 0 rfl) ?_
  refine lv_iconst (v := (1 : Int32)) F.1 F.2.1 dX2_takeToken_18 (by decide) ?_
  obtain ⟨q2, h_q2, h⟩ := bd h
  refine rVi F G hS hl.1 (c_X2_refuse l g q1 τ (1 : Int32) q2 h_q2) lk_X2_58 ⟨rfl, rfl, Nat.le_of_ble_eq_true rfl, Nat.le_of_ble_eq_true rfl⟩ (rc_X2 G hS) rfl rfl (Nat.le_of_ble_eq_true rfl) dX2_takeToken_19 (kIi (fun H locs hS => ?_))
  refine lv_if_eq (tgt := 29) F.1 F.2.1 dX2_takeToken_22 (by decide) (fun hc => ?_) (fun hc => ?_)
  · replace h := ifT h hc
    refine lv_iconst (v := (0 : Int32)) F.1 F.2.1 dX2_takeToken_29 (by decide) ?_
    exact e_z F hS (by decide) ⟨Option.some.inj h, rfl⟩ hr0 dX2_takeToken_30 hk0
  replace h := ifF h hc
  refine lv_iconst (v := (1 : Int32)) F.1 F.2.1 dX2_takeToken_25 (by decide) ?_
  refine lv_goto (tgt := 30) F.1 F.2.1 dX2_takeToken_26 (by decide) ?_
  exact e_z F hS (by decide) ⟨Option.some.inj h, rfl⟩ hr0 dX2_takeToken_30 hk0
def f_J0_coder_7d493 (k : Nat) : Option (Int32) := if k < 16 then (if (1 : Int32) = 0 then (some (1 : Int32)) else (some (0 : Int32))) else none
abbrev rm_J0_coder_7d493 : Room := { frames := 0, cells := 0, slots := 0, locals := 0 }
set_option maxHeartbeats 4000000 in
set_option maxRecDepth 100000 in
theorem c_J0_coder_7d493 (l : Launch) (g : GG) (σ : ZI) (τ : ZL) (k : Nat) (res : Int32) (h : f_J0_coder_7d493 k = some res) : MI l yJ0_coder_7d493 cJ0_coder_7d493 1 (some .byte) rm_J0_coder_7d493 g [.ref (gA g (200 + k))] σ τ (fun (r : Int32) (u : ZI × ZL) => r = res ∧ u.1 = σ ∧ u.2 = τ) := by
  refine Met_in (by decide) (Nat.le_of_ble_eq_true rfl) ?_
  intro p e s m args below meth c F G hP hr0 hk0 ls hl
  have hS := WS.start hP
  have hl : lv_has ls 1 [(0, .ref (gA g (200 + k)))] := hl
  obtain ⟨H, hH⟩ : ∃ H, H = s.heap := ⟨_, rfl⟩
  rw [← hH] at hS ⊢
  clear hH hP
  rw [f_J0_coder_7d493] at h
  obtain ⟨hg_k, h⟩ := gd h
  obtain ⟨locs, hlo⟩ : ∃ z : List Loc, z = [] := ⟨_, rfl⟩
  rw [← hlo] at hS ⊢
  clear hlo
  refine va_gets F.1 F.2.1 G.2.2.2.2.2.2.2.1 hS.2 F.2.2.2.1 (F.2.2.2.2 _ tb_448) (fun _ h => h) dJ0_coder_7d493_0 ?_
  refine lv_if_eq (tgt := 13) F.1 F.2.1 dJ0_coder_7d493_3 (by decide) (fun hc => ?_) (fun hc => ?_)
  · replace h := ifT h hc
    refine lv_iconst (v := (1 : Int32)) F.1 F.2.1 dJ0_coder_7d493_13 (by decide) ?_
    exact e_n F hS (by rfl) ⟨Option.some.inj h, rfl, rfl⟩ hr0 dJ0_coder_7d493_14 hk0
  replace h := ifF h hc
  refine lv_aload_n F.1 F.2.1 dJ0_coder_7d493_6 rfl (lv_at hl 0 rfl) ?_
  refine vk_getf F.1 F.2.1 (G.2.2.2.2.2.2.1.1 k hg_k).2.1 hS.2 F.2.2.2.1 (F.2.2.2.2 _ tb_1510) (fun _ h => h) dJ0_coder_7d493_7 ?_
  refine lv_goto (tgt := 14) F.1 F.2.1 dJ0_coder_7d493_10 (by decide) ?_
  exact e_n F hS (by rfl) ⟨Option.some.inj h, rfl, rfl⟩ hr0 dJ0_coder_7d493_14 hk0
def f_J0_length_8abf5 (k : Nat) : Option (Int32) := if k < 16 then ((f_J0_coder_7d493 k).bind (fun q1 => some ((nI (lenJS.getD k 0)) >>> (q1 &&& 31)))) else none
abbrev rm_J0_length_8abf5 : Room := { frames := 1, cells := 0, slots := 0, locals := 20 }
set_option maxHeartbeats 4000000 in
set_option maxRecDepth 100000 in
theorem c_J0_length_8abf5 (l : Launch) (g : GG) (σ : ZI) (τ : ZL) (k : Nat) (res : Int32) (h : f_J0_length_8abf5 k = some res) : MI l yJ0_length_8abf5 cJ0_length_8abf5 1 (some .int) rm_J0_length_8abf5 g [.ref (gA g (200 + k))] σ τ (fun (r : Int32) (u : ZI × ZL) => r = res ∧ u.1 = σ ∧ u.2 = τ) := by
  refine Met_in (by decide) (Nat.le_of_ble_eq_true rfl) ?_
  intro p e s m args below meth c F G hP hr0 hk0 ls hl
  have hS := WS.start hP
  have hl : lv_has ls 1 [(0, .ref (gA g (200 + k)))] := hl
  obtain ⟨H, hH⟩ : ∃ H, H = s.heap := ⟨_, rfl⟩
  rw [← hH] at hS ⊢
  clear hH hP
  rw [f_J0_length_8abf5] at h
  obtain ⟨hg_k, h⟩ := gd h
  obtain ⟨locs, hlo⟩ : ∃ z : List Loc, z = [] := ⟨_, rfl⟩
  rw [← hlo] at hS ⊢
  clear hlo
  refine lv_aload_n F.1 F.2.1 dJ0_length_8abf5_0 rfl (lv_at hl 0 rfl) ?_
  refine vk_getf F.1 F.2.1 (G.2.2.2.2.2.2.1.1 k hg_k).2.2.1 hS.2 F.2.2.2.1 (F.2.2.2.2 _ tb_1509) (fun _ h => h) dJ0_length_8abf5_1 ?_
  refine va_tlen F.1 F.2.1 (G.2.2.2.2.2.2.1.1 k hg_k).2.2.2 hS.2 rfl dJ0_length_8abf5_4 ?_
  refine lv_aload_n F.1 F.2.1 dJ0_length_8abf5_5 rfl (lv_at hl 0 rfl) ?_
  obtain ⟨q1, h_q1, h⟩ := bd h
  refine rVi F G hS hl.1 (c_J0_coder_7d493 l g σ τ k q1 h_q1) lk_J0_335 ⟨rfl, rfl, Nat.le_of_ble_eq_true rfl, Nat.le_of_ble_eq_true rfl⟩ (vk_recv (i := k) (adK := fun i => gA g (200 + i)) G.2.2.2.2.2.2.1 hg_k hS.2) rfl rfl (Nat.le_of_ble_eq_true rfl) dJ0_length_8abf5_6 (kRi (fun H locs hS => ?_))
  refine lv_ishr F.1 F.2.1 dJ0_length_8abf5_9 ?_
  exact e_i F hS ⟨Option.some.inj h, rfl, rfl⟩ hr0 dJ0_length_8abf5_10 hk0
def f_J0_isLatin1_aae02 (k : Nat) : Option (Int32) := if k < 16 then (if (1 : Int32) = 0 then (some (0 : Int32)) else (if (0 : Int32) = 0 then (some (1 : Int32)) else (some (0 : Int32)))) else none
abbrev rm_J0_isLatin1_aae02 : Room := { frames := 0, cells := 0, slots := 0, locals := 0 }
set_option maxHeartbeats 4000000 in
set_option maxRecDepth 100000 in
theorem c_J0_isLatin1_aae02 (l : Launch) (g : GG) (σ : ZI) (τ : ZL) (k : Nat) (res : Int32) (h : f_J0_isLatin1_aae02 k = some res) : MI l yJ0_isLatin1_aae02 cJ0_isLatin1_aae02 1 (some .boolean) rm_J0_isLatin1_aae02 g [.ref (gA g (200 + k))] σ τ (fun (r : Int32) (u : ZI × ZL) => r = res ∧ u.1 = σ ∧ u.2 = τ) := by
  refine Met_in (by decide) (Nat.le_of_ble_eq_true rfl) ?_
  intro p e s m args below meth c F G hP hr0 hk0 ls hl
  have hS := WS.start hP
  have hl : lv_has ls 1 [(0, .ref (gA g (200 + k)))] := hl
  obtain ⟨H, hH⟩ : ∃ H, H = s.heap := ⟨_, rfl⟩
  rw [← hH] at hS ⊢
  clear hH hP
  rw [f_J0_isLatin1_aae02] at h
  obtain ⟨hg_k, h⟩ := gd h
  obtain ⟨locs, hlo⟩ : ∃ z : List Loc, z = [] := ⟨_, rfl⟩
  rw [← hlo] at hS ⊢
  clear hlo
  refine va_gets F.1 F.2.1 G.2.2.2.2.2.2.2.1 hS.2 F.2.2.2.1 (F.2.2.2.2 _ tb_448) (fun _ h => h) dJ0_isLatin1_aae02_0 ?_
  refine lv_if_eq (tgt := 17) F.1 F.2.1 dJ0_isLatin1_aae02_3 (by decide) (fun hc => ?_) (fun hc => ?_)
  · replace h := ifT h hc
    refine lv_iconst (v := (0 : Int32)) F.1 F.2.1 dJ0_isLatin1_aae02_17 (by decide) ?_
    exact e_z F hS (by decide) ⟨Option.some.inj h, rfl, rfl⟩ hr0 dJ0_isLatin1_aae02_18 hk0
  replace h := ifF h hc
  refine lv_aload_n F.1 F.2.1 dJ0_isLatin1_aae02_6 rfl (lv_at hl 0 rfl) ?_
  refine vk_getf F.1 F.2.1 (G.2.2.2.2.2.2.1.1 k hg_k).2.1 hS.2 F.2.2.2.1 (F.2.2.2.2 _ tb_1510) (fun _ h => h) dJ0_isLatin1_aae02_7 ?_
  refine lv_if_ne (tgt := 17) F.1 F.2.1 dJ0_isLatin1_aae02_10 (by decide) (fun hc => ?_) (fun hc => ?_)
  · replace h := ifF h hc
    refine lv_iconst (v := (0 : Int32)) F.1 F.2.1 dJ0_isLatin1_aae02_17 (by decide) ?_
    exact e_z F hS (by decide) ⟨Option.some.inj h, rfl, rfl⟩ hr0 dJ0_isLatin1_aae02_18 hk0
  replace h := ifT h hc
  refine lv_iconst (v := (1 : Int32)) F.1 F.2.1 dJ0_isLatin1_aae02_13 (by decide) ?_
  refine lv_goto (tgt := 18) F.1 F.2.1 dJ0_isLatin1_aae02_14 (by decide) ?_
  exact e_z F hS (by decide) ⟨Option.some.inj h, rfl, rfl⟩ hr0 dJ0_isLatin1_aae02_18 hk0
def f_J3_checkIndex_8e157 (a1 : Int32) (a2 : Int32) : Option (Int32) := if a1 < 0 then (none) else (if a1 < a2 then (some a1) else (none))
abbrev rm_J3_checkIndex_8e157 : Room := { frames := 0, cells := 0, slots := 0, locals := 0 }
set_option maxHeartbeats 4000000 in
set_option maxRecDepth 100000 in
theorem c_J3_checkIndex_8e157 (l : Launch) (g : GG) (σ : ZI) (τ : ZL) (a1 : Int32) (a2 : Int32) (o3 : Option Nat) (res : Int32) (h : f_J3_checkIndex_8e157 a1 a2 = some res) : MI l yJ3_checkIndex_8e157 cJ3_checkIndex_8e157 3 (some .int) rm_J3_checkIndex_8e157 g [.int a1, .int a2, va_rf o3] σ τ (fun (r : Int32) (u : ZI × ZL) => r = res ∧ u.1 = σ ∧ u.2 = τ) := by
  refine Met_in (by decide) (by cases o3 <;> exact Nat.le_of_ble_eq_true rfl) ?_
  intro p e s m args below meth c F G hP hr0 hk0 ls hl
  have hS := WS.start hP
  have hl : lv_has ls 3 [(0, .int a1), (1, .int a2), (2, va_rf o3)] := hl
  obtain ⟨H, hH⟩ : ∃ H, H = s.heap := ⟨_, rfl⟩
  rw [← hH] at hS ⊢
  clear hH hP
  rw [f_J3_checkIndex_8e157] at h
  obtain ⟨locs, hlo⟩ : ∃ z : List Loc, z = [] := ⟨_, rfl⟩
  rw [← hlo] at hS ⊢
  clear hlo
  refine lv_iload_n F.1 F.2.1 dJ3_checkIndex_8e157_0 rfl (lv_at hl 0 rfl) ?_
  refine lv_if_lt (tgt := 9) F.1 F.2.1 dJ3_checkIndex_8e157_1 (by decide) (fun hc => ?_) (fun hc => ?_)
  · replace h := ifT h hc
    cases h
  replace h := ifF h hc
  refine lv_iload_n F.1 F.2.1 dJ3_checkIndex_8e157_4 rfl (lv_at hl 0 rfl) ?_
  refine lv_iload_n F.1 F.2.1 dJ3_checkIndex_8e157_5 rfl (lv_at hl 1 rfl) ?_
  refine lv_icmp_lt (tgt := 16) F.1 F.2.1 dJ3_checkIndex_8e157_6 (by decide) (fun hc => ?_) (fun hc => ?_)
  rotate_left
  · replace h := ifF h hc
    cases h
  replace h := ifT h hc
  refine lv_iload_n F.1 F.2.1 dJ3_checkIndex_8e157_16 rfl (lv_at hl 0 rfl) ?_
  exact e_i F hS ⟨Option.some.inj h, rfl, rfl⟩ hr0 dJ3_checkIndex_8e157_17 hk0
def f_J0_checkIndex_df160 (a1 : Int32) (a2 : Int32) : Option (Unit) := (f_J3_checkIndex_8e157 a1 a2).bind (fun q2 => some ())
abbrev rm_J0_checkIndex_df160 : Room := { frames := 1, cells := 0, slots := 0, locals := 22 }
set_option maxHeartbeats 4000000 in
set_option maxRecDepth 100000 in
theorem c_J0_checkIndex_df160 (l : Launch) (g : GG) (σ : ZI) (τ : ZL) (a1 : Int32) (a2 : Int32) (res : Unit) (h : f_J0_checkIndex_df160 a1 a2 = some res) : MV l yJ0_checkIndex_df160 cJ0_checkIndex_df160 2 none rm_J0_checkIndex_df160 g [.int a1, .int a2] σ τ (fun (u : ZI × ZL) => u.1 = σ ∧ u.2 = τ) := by
  refine Met_in (by decide) (Nat.le_of_ble_eq_true rfl) ?_
  intro p e s m args below meth c F G hP hr0 hk0 ls hl
  have hS := WS.start hP
  have hl : lv_has ls 2 [(0, .int a1), (1, .int a2)] := hl
  obtain ⟨H, hH⟩ : ∃ H, H = s.heap := ⟨_, rfl⟩
  rw [← hH] at hS ⊢
  clear hH hP
  rw [f_J0_checkIndex_df160] at h
  obtain ⟨locs, hlo⟩ : ∃ z : List Loc, z = [] := ⟨_, rfl⟩
  rw [← hlo] at hS ⊢
  clear hlo
  refine lv_iload_n F.1 F.2.1 dJ0_checkIndex_df160_0 rfl (lv_at hl 0 rfl) ?_
  refine lv_iload_n F.1 F.2.1 dJ0_checkIndex_df160_1 rfl (lv_at hl 1 rfl) ?_
  refine x_getq F hS G.2.2.2.2.2.2.2.2 (F.2.2.2.2 _ tb_464) dJ0_checkIndex_df160_2 (fun o1 => ?_)
  obtain ⟨q2, h_q2, h⟩ := bd h
  refine rSi F G hS hl.1 (c_J3_checkIndex_8e157 l g σ τ a1 a2 o1 q2 h_q2) lk_J0_1059 ⟨rfl, rfl, Nat.le_of_ble_eq_true rfl, Nat.le_of_ble_eq_true rfl⟩  rfl rfl (Nat.le_of_ble_eq_true rfl) dJ0_checkIndex_df160_5 (kRi (fun H locs hS => ?_))
  refine lv_pop F.1 F.2.1 dJ0_checkIndex_df160_8 rfl ?_
  exact e_v F hS ⟨rfl, rfl⟩ hr0 dJ0_checkIndex_df160_9 hk0
def f_J1_charAt_3b067 (k1 : Nat) (a2 : Int32) : Option (Int32) := if k1 < 16 then ((f_J0_checkIndex_df160 a2 (nI (lenJS.getD k1 0))).bind (fun q1 => if inB a2 (lenJS.getD k1 0) = true then (if ((((bytJS.getD k1 []).getD a2.toNatClampNeg 0) &&& (255 : Int32)).toUInt32 % 65536).toInt32 = ((((((bytJS.getD k1 []).getD a2.toNatClampNeg 0) &&& (255 : Int32)).toUInt32 % 65536).toInt32).toUInt32 % 65536).toInt32 then some (((((bytJS.getD k1 []).getD a2.toNatClampNeg 0) &&& (255 : Int32)).toUInt32 % 65536).toInt32) else none) else none)) else none
abbrev rm_J1_charAt_3b067 : Room := { frames := 2, cells := 0, slots := 0, locals := 43 }
set_option maxHeartbeats 4000000 in
set_option maxRecDepth 100000 in
theorem c_J1_charAt_3b067 (l : Launch) (g : GG) (σ : ZI) (τ : ZL) (k1 : Nat) (a2 : Int32) (res : Int32) (h : f_J1_charAt_3b067 k1 a2 = some res) : MI l yJ1_charAt_3b067 cJ1_charAt_3b067 2 (some .char) rm_J1_charAt_3b067 g [.ref (gA g (300 + k1)), .int a2] σ τ (fun (r : Int32) (u : ZI × ZL) => r = res ∧ u.1 = σ ∧ u.2 = τ) := by
  refine Met_in (by decide) (Nat.le_of_ble_eq_true rfl) ?_
  intro p e s m args below meth c F G hP hr0 hk0 ls hl
  have hS := WS.start hP
  have hl : lv_has ls 2 [(0, .ref (gA g (300 + k1))), (1, .int a2)] := hl
  obtain ⟨H, hH⟩ : ∃ H, H = s.heap := ⟨_, rfl⟩
  rw [← hH] at hS ⊢
  clear hH hP
  rw [f_J1_charAt_3b067] at h
  obtain ⟨hg_k1, h⟩ := gd h
  obtain ⟨locs, hlo⟩ : ∃ z : List Loc, z = [] := ⟨_, rfl⟩
  rw [← hlo] at hS ⊢
  clear hlo
  refine lv_iload_n F.1 F.2.1 dJ1_charAt_3b067_0 rfl (lv_at hl 1 rfl) ?_
  refine lv_aload_n F.1 F.2.1 dJ1_charAt_3b067_1 rfl (lv_at hl 0 rfl) ?_
  refine va_tlen F.1 F.2.1 (G.2.2.2.2.2.2.1.1 k1 hg_k1).2.2.2 hS.2 rfl dJ1_charAt_3b067_2 ?_
  obtain ⟨q1, h_q1, h⟩ := bd h
  refine rSv F G hS hl.1 (c_J0_checkIndex_df160 l g σ τ a2 (nI (lenJS.getD k1 0)) q1 h_q1) lk_J1_9 ⟨rfl, rfl, Nat.le_of_ble_eq_true rfl, Nat.le_of_ble_eq_true rfl⟩  rfl rfl (Nat.le_of_ble_eq_true rfl) dJ1_charAt_3b067_3 (kRv (fun H locs hS => ?_))
  refine lv_aload_n F.1 F.2.1 dJ1_charAt_3b067_6 rfl (lv_at hl 0 rfl) ?_
  refine lv_iload_n F.1 F.2.1 dJ1_charAt_3b067_7 rfl (lv_at hl 1 rfl) ?_
  obtain ⟨hin, h⟩ := gd h
  refine va_tb F.1 F.2.1 (G.2.2.2.2.2.2.1.1 k1 hg_k1).2.2.2 hS.2 (inB_vp hin) rfl dJ1_charAt_3b067_8 ?_
  refine lv_sipush (v := (255 : Int32)) F.1 F.2.1 dJ1_charAt_3b067_9 (by decide) ?_
  refine lv_iand F.1 F.2.1 dJ1_charAt_3b067_12 ?_
  refine lv_i2c F.1 F.2.1 dJ1_charAt_3b067_13 rfl ?_
  obtain ⟨hz, h⟩ := gd h
  exact e_n F hS (nar_c hz) ⟨Option.some.inj h, rfl, rfl⟩ hr0 dJ1_charAt_3b067_14 hk0
def f_J0_charAt_5068e (k : Nat) (a1 : Int32) : Option (Int32) := if k < 16 then ((f_J0_isLatin1_aae02 k).bind (fun q1 => if q1 = 0 then (none) else ((f_J1_charAt_3b067 k a1).bind (fun q2 => if q2 = (q2.toUInt32 % 65536).toInt32 then some q2 else none)))) else none
abbrev rm_J0_charAt_5068e : Room := { frames := 3, cells := 0, slots := 0, locals := 64 }
set_option maxHeartbeats 4000000 in
set_option maxRecDepth 100000 in
theorem c_J0_charAt_5068e (l : Launch) (g : GG) (σ : ZI) (τ : ZL) (k : Nat) (a1 : Int32) (res : Int32) (h : f_J0_charAt_5068e k a1 = some res) : MI l yJ0_charAt_5068e cJ0_charAt_5068e 2 (some .char) rm_J0_charAt_5068e g [.ref (gA g (200 + k)), .int a1] σ τ (fun (r : Int32) (u : ZI × ZL) => r = res ∧ u.1 = σ ∧ u.2 = τ) := by
  refine Met_in (by decide) (Nat.le_of_ble_eq_true rfl) ?_
  intro p e s m args below meth c F G hP hr0 hk0 ls hl
  have hS := WS.start hP
  have hl : lv_has ls 2 [(0, .ref (gA g (200 + k))), (1, .int a1)] := hl
  obtain ⟨H, hH⟩ : ∃ H, H = s.heap := ⟨_, rfl⟩
  rw [← hH] at hS ⊢
  clear hH hP
  rw [f_J0_charAt_5068e] at h
  obtain ⟨hg_k, h⟩ := gd h
  obtain ⟨locs, hlo⟩ : ∃ z : List Loc, z = [] := ⟨_, rfl⟩
  rw [← hlo] at hS ⊢
  clear hlo
  refine lv_aload_n F.1 F.2.1 dJ0_charAt_5068e_0 rfl (lv_at hl 0 rfl) ?_
  obtain ⟨q1, h_q1, h⟩ := bd h
  refine rVi F G hS hl.1 (c_J0_isLatin1_aae02 l g σ τ k q1 h_q1) lk_J0_492 ⟨rfl, rfl, Nat.le_of_ble_eq_true rfl, Nat.le_of_ble_eq_true rfl⟩ (vk_recv (i := k) (adK := fun i => gA g (200 + i)) G.2.2.2.2.2.2.1 hg_k hS.2) rfl rfl (Nat.le_of_ble_eq_true rfl) dJ0_charAt_5068e_1 (kRi (fun H locs hS => ?_))
  refine lv_if_eq (tgt := 16) F.1 F.2.1 dJ0_charAt_5068e_4 (by decide) (fun hc => ?_) (fun hc => ?_)
  · replace h := ifT h hc
    refine lv_aload_n F.1 F.2.1 dJ0_charAt_5068e_16 rfl (lv_at hl 0 rfl) ?_
    refine vk_getf F.1 F.2.1 (G.2.2.2.2.2.2.1.1 k hg_k).2.2.1 hS.2 F.2.2.2.1 (F.2.2.2.2 _ tb_1509) (fun _ h => h) dJ0_charAt_5068e_17 ?_
    refine lv_iload_n F.1 F.2.1 dJ0_charAt_5068e_20 rfl (lv_at hl 1 rfl) ?_
    cases h
  replace h := ifF h hc
  refine lv_aload_n F.1 F.2.1 dJ0_charAt_5068e_7 rfl (lv_at hl 0 rfl) ?_
  refine vk_getf F.1 F.2.1 (G.2.2.2.2.2.2.1.1 k hg_k).2.2.1 hS.2 F.2.2.2.1 (F.2.2.2.2 _ tb_1509) (fun _ h => h) dJ0_charAt_5068e_8 ?_
  refine lv_iload_n F.1 F.2.1 dJ0_charAt_5068e_11 rfl (lv_at hl 1 rfl) ?_
  obtain ⟨q2, h_q2, h⟩ := bd h
  refine rSi F G hS hl.1 (c_J1_charAt_3b067 l g σ τ k a1 q2 h_q2) lk_J0_495 ⟨rfl, rfl, Nat.le_of_ble_eq_true rfl, Nat.le_of_ble_eq_true rfl⟩  rfl rfl (Nat.le_of_ble_eq_true rfl) dJ0_charAt_5068e_12 (kRi (fun H locs hS => ?_))
  obtain ⟨hz, h⟩ := gd h
  exact e_n F hS (nar_c hz) ⟨Option.some.inj h, rfl, rfl⟩ hr0 dJ0_charAt_5068e_15 hk0
def f_X5_isName_28 (σ : ZI) (k1 : Nat)  : Nat → Int32 → Option (Int32)
  | 0, _ => none
  | n + 1, v2 => (f_J0_length_8abf5 k1).bind (fun q2 => if q2 ≤ v2 then (some (1 : Int32)) else ((f_X5_byteAt σ ((σ 37 4) + v2)).bind (fun q3 => (f_J0_charAt_5068e k1 v2).bind (fun q4 => if q3 = q4 then (f_X5_isName_28 σ k1 n (v2 + (1 : Int32))) else (some (0 : Int32))))))
def f_X5_isName (σ : ZI) (k1 : Nat) : Option (Int32) := if k1 < 16 then (if (σ 37 3) = (1 : Int32) then ((f_J0_length_8abf5 k1).bind (fun q1 => if ((σ 37 2) - (σ 37 4)) = q1 then (f_X5_isName_28 σ k1 3000 (0 : Int32)) else (some (0 : Int32)))) else (some (0 : Int32))) else none
abbrev rm_X5_isName : Room := { frames := 4, cells := 0, slots := 0, locals := 85 }
set_option maxHeartbeats 4000000 in
set_option maxRecDepth 100000 in
theorem c_X5_isName (l : Launch) (g : GG) (σ : ZI) (τ : ZL) (k1 : Nat) (res : Int32) (h : f_X5_isName σ k1 = some res) : MI l yX5_isName cX5_isName 3 (some .boolean) rm_X5_isName g [.ref (gA g 37), .ref (gA g (200 + k1))] σ τ (fun (r : Int32) (u : ZI × ZL) => r = res ∧ u.1 = σ ∧ u.2 = τ) := by
  refine Met_in (by decide) (Nat.le_of_ble_eq_true rfl) ?_
  intro p e s m args below meth c F G hP hr0 hk0 ls hl
  have hS := WS.start hP
  have hl : lv_has ls 3 [(0, .ref (gA g 37)), (1, .ref (gA g (200 + k1)))] := hl
  obtain ⟨H, hH⟩ : ∃ H, H = s.heap := ⟨_, rfl⟩
  rw [← hH] at hS ⊢
  clear hH hP
  rw [f_X5_isName] at h
  obtain ⟨hg_k1, h⟩ := gd h
  have w_28 : ∀ (n : Nat) (v2 : Int32), f_X5_isName_28 σ k1 n v2 = some res → ∀ (H : Heap) (locs : List Loc) (ls : Array Slot), WS g σ τ s H locs → lv_has ls 3 [(0, .ref (gA g 37)), (1, .ref (gA g (200 + k1))), (2, .int v2)] → W p l e rm_X5_isName s m args below meth c H locs 0 0 (MQ below (va_Qi (fun (r : Int32) (u : ZI × ZL) => r = res ∧ u.1 = σ ∧ u.2 = τ) (WQ g) (AA g)) args s 0 0 (AA g)) (F0 m 28 ls []) := by
    intro n
    induction n with
    | zero => intro v2 h; rw [f_X5_isName_28] at h; cases h
    | succ n ih =>
      intro v2 h H locs ls hS hl
      rw [f_X5_isName_28] at h
      refine lv_iload_n F.1 F.2.1 dX5_isName_28 rfl (lv_at hl 2 rfl) ?_
      refine lv_aload_n F.1 F.2.1 dX5_isName_29 rfl (lv_at hl 1 rfl) ?_
      obtain ⟨q2, h_q2, h⟩ := bd h
      refine rVi F G hS hl.1 (c_J0_length_8abf5 l g σ τ k1 q2 h_q2) lk_X5_35 ⟨rfl, rfl, Nat.le_of_ble_eq_true rfl, Nat.le_of_ble_eq_true rfl⟩ (vk_recv (i := k1) (adK := fun i => gA g (200 + i)) G.2.2.2.2.2.2.1 hg_k1 hS.2) rfl rfl (Nat.le_of_ble_eq_true rfl) dX5_isName_30 (kRi (fun H locs hS => ?_))
      refine lv_icmp_ge (tgt := 62) F.1 F.2.1 dX5_isName_33 (by decide) (fun hc => ?_) (fun hc => ?_)
      · replace h := ifT h hc
        refine lv_iconst (v := (1 : Int32)) F.1 F.2.1 dX5_isName_62 (by decide) ?_
        exact e_z F hS (by decide) ⟨Option.some.inj h, rfl, rfl⟩ hr0 dX5_isName_63 hk0
      replace h := ifF h hc
      refine lv_aload_n F.1 F.2.1 dX5_isName_36 rfl (lv_at hl 0 rfl) ?_
      refine lv_aload_n F.1 F.2.1 dX5_isName_37 rfl (lv_at hl 0 rfl) ?_
      refine gf_X5_26 F G hS dX5_isName_38 ?_
      refine lv_iload_n F.1 F.2.1 dX5_isName_41 rfl (lv_at hl 2 rfl) ?_
      refine lv_iadd F.1 F.2.1 dX5_isName_42 ?_
      obtain ⟨q3, h_q3, h⟩ := bd h
      refine rVi F G hS hl.1 (c_X5_byteAt l g σ τ ((σ 37 4) + v2) q3 h_q3) lk_X5_22 ⟨rfl, rfl, Nat.le_of_ble_eq_true rfl, Nat.le_of_ble_eq_true rfl⟩ (rc_X5 G hS) rfl rfl (Nat.le_of_ble_eq_true rfl) dX5_isName_43 (kRi (fun H locs hS => ?_))
      refine lv_aload_n F.1 F.2.1 dX5_isName_46 rfl (lv_at hl 1 rfl) ?_
      refine lv_iload_n F.1 F.2.1 dX5_isName_47 rfl (lv_at hl 2 rfl) ?_
      obtain ⟨q4, h_q4, h⟩ := bd h
      refine rVi F G hS hl.1 (c_J0_charAt_5068e l g σ τ k1 v2 q4 h_q4) lk_X5_40 ⟨rfl, rfl, Nat.le_of_ble_eq_true rfl, Nat.le_of_ble_eq_true rfl⟩ (vk_recv (i := k1) (adK := fun i => gA g (200 + i)) G.2.2.2.2.2.2.1 hg_k1 hS.2) rfl rfl (Nat.le_of_ble_eq_true rfl) dX5_isName_48 (kRi (fun H locs hS => ?_))
      refine lv_icmp_eq (tgt := 56) F.1 F.2.1 dX5_isName_51 (by decide) (fun hc => ?_) (fun hc => ?_)
      rotate_left
      · replace h := ifF h hc
        refine lv_iconst (v := (0 : Int32)) F.1 F.2.1 dX5_isName_54 (by decide) ?_
        exact e_z F hS (by decide) ⟨Option.some.inj h, rfl, rfl⟩ hr0 dX5_isName_55 hk0
      replace h := ifT h hc
      refine lv_iinc (v := (v2 + (1 : Int32))) (lv' := [(2, .int (v2 + (1 : Int32))), (0, .ref (gA g 37)), (1, .ref (gA g (200 + k1)))]) F.1 F.2.1 dX5_isName_56 hl (k := 2) rfl rfl (by decide) rfl (fun ls hl => ?_)
      refine lv_goto (tgt := 28) F.1 F.2.1 dX5_isName_59 (by decide) ?_
      exact ih (v2 + (1 : Int32)) h H locs _ hS (lv_sub hl [1, 2, 0] rfl)
  obtain ⟨locs, hlo⟩ : ∃ z : List Loc, z = [] := ⟨_, rfl⟩
  rw [← hlo] at hS ⊢
  clear hlo
  refine lv_aload_n F.1 F.2.1 dX5_isName_0 rfl (lv_at hl 0 rfl) ?_
  refine gf_X5_32 F G hS dX5_isName_1 ?_
  refine lv_iconst (v := (1 : Int32)) F.1 F.2.1 dX5_isName_4 (by decide) ?_
  refine lv_icmp_ne (tgt := 24) F.1 F.2.1 dX5_isName_5 (by decide) (fun hc => ?_) (fun hc => ?_)
  · replace h := ifF h hc
    refine lv_iconst (v := (0 : Int32)) F.1 F.2.1 dX5_isName_24 (by decide) ?_
    exact e_z F hS (by decide) ⟨Option.some.inj h, rfl, rfl⟩ hr0 dX5_isName_25 hk0
  replace h := ifT h hc
  refine lv_aload_n F.1 F.2.1 dX5_isName_8 rfl (lv_at hl 0 rfl) ?_
  refine gf_X5_19 F G hS dX5_isName_9 ?_
  refine lv_aload_n F.1 F.2.1 dX5_isName_12 rfl (lv_at hl 0 rfl) ?_
  refine gf_X5_26 F G hS dX5_isName_13 ?_
  refine lv_isub F.1 F.2.1 dX5_isName_16 ?_
  refine lv_aload_n F.1 F.2.1 dX5_isName_17 rfl (lv_at hl 1 rfl) ?_
  obtain ⟨q1, h_q1, h⟩ := bd h
  refine rVi F G hS hl.1 (c_J0_length_8abf5 l g σ τ k1 q1 h_q1) lk_X5_35 ⟨rfl, rfl, Nat.le_of_ble_eq_true rfl, Nat.le_of_ble_eq_true rfl⟩ (vk_recv (i := k1) (adK := fun i => gA g (200 + i)) G.2.2.2.2.2.2.1 hg_k1 hS.2) rfl rfl (Nat.le_of_ble_eq_true rfl) dX5_isName_18 (kRi (fun H locs hS => ?_))
  refine lv_icmp_eq (tgt := 26) F.1 F.2.1 dX5_isName_21 (by decide) (fun hc => ?_) (fun hc => ?_)
  rotate_left
  · replace h := ifF h hc
    refine lv_iconst (v := (0 : Int32)) F.1 F.2.1 dX5_isName_24 (by decide) ?_
    exact e_z F hS (by decide) ⟨Option.some.inj h, rfl, rfl⟩ hr0 dX5_isName_25 hk0
  replace h := ifT h hc
  refine lv_iconst (v := (0 : Int32)) F.1 F.2.1 dX5_isName_26 (by decide) ?_
  refine lv_istore_n (lv' := [(2, .int (0 : Int32)), (0, .ref (gA g 37)), (1, .ref (gA g (200 + k1)))]) F.1 F.2.1 dX5_isName_27 rfl hl (by decide) rfl (fun ls hl => ?_)
  exact w_28 3000 (0 : Int32) h H locs _ hS (lv_sub hl [1, 2, 0] rfl)
def f_X2_lineNamed (σ : ZI) : Option (Int32) := (f_X5_isName σ 0).bind (fun q1 => if q1 = 0 then ((f_X5_isName σ 1).bind (fun q2 => if q2 = 0 then ((f_X5_isName σ 2).bind (fun q3 => if q3 = 0 then ((f_X5_isName σ 3).bind (fun q4 => if q4 = 0 then ((f_X5_isName σ 4).bind (fun q5 => if q5 = 0 then ((f_X5_isName σ 5).bind (fun q6 => if q6 = 0 then ((f_X5_isName σ 6).bind (fun q7 => if q7 = 0 then ((f_X5_isName σ 7).bind (fun q8 => if q8 = 0 then ((f_X5_isName σ 8).bind (fun q9 => if q9 = 0 then ((f_X5_isName σ 9).bind (fun q10 => if q10 = 0 then ((f_X5_isName σ 10).bind (fun q11 => if q11 = 0 then (some (-4 : Int32)) else (some (12 : Int32)))) else (some (10 : Int32)))) else (some (8 : Int32)))) else (some (7 : Int32)))) else (some (6 : Int32)))) else (some (5 : Int32)))) else (some (4 : Int32)))) else (some (3 : Int32)))) else (some (2 : Int32)))) else (some (1 : Int32)))) else (some (0 : Int32)))
abbrev rm_X2_lineNamed : Room := { frames := 5, cells := 0, slots := 0, locals := 107 }
set_option maxHeartbeats 4000000 in
set_option maxRecDepth 100000 in
theorem c_X2_lineNamed (l : Launch) (g : GG) (σ : ZI) (τ : ZL)  (res : Int32) (h : f_X2_lineNamed σ = some res) : MI l yX2_lineNamed cX2_lineNamed 1 (some .int) rm_X2_lineNamed g [.ref (gA g 39)] σ τ (fun (r : Int32) (u : ZI × ZL) => r = res ∧ u.1 = σ ∧ u.2 = τ) := by
  refine Met_in (by decide) (Nat.le_of_ble_eq_true rfl) ?_
  intro p e s m args below meth c F G hP hr0 hk0 ls hl
  have hS := WS.start hP
  have hl : lv_has ls 1 [(0, .ref (gA g 39))] := hl
  obtain ⟨H, hH⟩ : ∃ H, H = s.heap := ⟨_, rfl⟩
  rw [← hH] at hS ⊢
  clear hH hP
  rw [f_X2_lineNamed] at h
  obtain ⟨locs, hlo⟩ : ∃ z : List Loc, z = [] := ⟨_, rfl⟩
  rw [← hlo] at hS ⊢
  clear hlo
  refine lv_aload_n F.1 F.2.1 dX2_lineNamed_0 rfl (lv_at hl 0 rfl) ?_
  refine gf_X2_12 F G hS dX2_lineNamed_1 ?_
  refine va_ldcS F.1 F.2.1 F.2.2.2.1 (G.2.2.2.2.2.1 0 (by decide)) dX2_lineNamed_4 ?_
  obtain ⟨q1, h_q1, h⟩ := bd h
  refine rNi F G hS hl.1 (c_X5_isName l g σ τ 0 q1 h_q1) lk_X2_154 ⟨rfl, rfl, Nat.le_of_ble_eq_true rfl, Nat.le_of_ble_eq_true rfl⟩ (rc_X5 G hS) rfl rfl (Nat.le_of_ble_eq_true rfl) dX2_lineNamed_6 (kRi (fun H locs hS => ?_))
  refine lv_if_eq (tgt := 16) F.1 F.2.1 dX2_lineNamed_9 (by decide) (fun hc => ?_) (fun hc => ?_)
  rotate_left
  · replace h := ifF h hc
    refine lv_iconst (v := (0 : Int32)) F.1 F.2.1 dX2_lineNamed_12 (by decide) ?_
    refine lv_goto (tgt := 183) F.1 F.2.1 dX2_lineNamed_13 (by decide) ?_
    exact e_i F hS ⟨Option.some.inj h, rfl, rfl⟩ hr0 dX2_lineNamed_183 hk0
  replace h := ifT h hc
  refine lv_aload_n F.1 F.2.1 dX2_lineNamed_16 rfl (lv_at hl 0 rfl) ?_
  refine gf_X2_12 F G hS dX2_lineNamed_17 ?_
  refine va_ldcS F.1 F.2.1 F.2.2.2.1 (G.2.2.2.2.2.1 1 (by decide)) dX2_lineNamed_20 ?_
  obtain ⟨q2, h_q2, h⟩ := bd h
  refine rNi F G hS hl.1 (c_X5_isName l g σ τ 1 q2 h_q2) lk_X2_154 ⟨rfl, rfl, Nat.le_of_ble_eq_true rfl, Nat.le_of_ble_eq_true rfl⟩ (rc_X5 G hS) rfl rfl (Nat.le_of_ble_eq_true rfl) dX2_lineNamed_22 (kRi (fun H locs hS => ?_))
  refine lv_if_eq (tgt := 32) F.1 F.2.1 dX2_lineNamed_25 (by decide) (fun hc => ?_) (fun hc => ?_)
  rotate_left
  · replace h := ifF h hc
    refine lv_iconst (v := (1 : Int32)) F.1 F.2.1 dX2_lineNamed_28 (by decide) ?_
    refine lv_goto (tgt := 183) F.1 F.2.1 dX2_lineNamed_29 (by decide) ?_
    exact e_i F hS ⟨Option.some.inj h, rfl, rfl⟩ hr0 dX2_lineNamed_183 hk0
  replace h := ifT h hc
  refine lv_aload_n F.1 F.2.1 dX2_lineNamed_32 rfl (lv_at hl 0 rfl) ?_
  refine gf_X2_12 F G hS dX2_lineNamed_33 ?_
  refine va_ldcS F.1 F.2.1 F.2.2.2.1 (G.2.2.2.2.2.1 2 (by decide)) dX2_lineNamed_36 ?_
  obtain ⟨q3, h_q3, h⟩ := bd h
  refine rNi F G hS hl.1 (c_X5_isName l g σ τ 2 q3 h_q3) lk_X2_154 ⟨rfl, rfl, Nat.le_of_ble_eq_true rfl, Nat.le_of_ble_eq_true rfl⟩ (rc_X5 G hS) rfl rfl (Nat.le_of_ble_eq_true rfl) dX2_lineNamed_38 (kRi (fun H locs hS => ?_))
  refine lv_if_eq (tgt := 48) F.1 F.2.1 dX2_lineNamed_41 (by decide) (fun hc => ?_) (fun hc => ?_)
  rotate_left
  · replace h := ifF h hc
    refine lv_iconst (v := (2 : Int32)) F.1 F.2.1 dX2_lineNamed_44 (by decide) ?_
    refine lv_goto (tgt := 183) F.1 F.2.1 dX2_lineNamed_45 (by decide) ?_
    exact e_i F hS ⟨Option.some.inj h, rfl, rfl⟩ hr0 dX2_lineNamed_183 hk0
  replace h := ifT h hc
  refine lv_aload_n F.1 F.2.1 dX2_lineNamed_48 rfl (lv_at hl 0 rfl) ?_
  refine gf_X2_12 F G hS dX2_lineNamed_49 ?_
  refine va_ldcS F.1 F.2.1 F.2.2.2.1 (G.2.2.2.2.2.1 3 (by decide)) dX2_lineNamed_52 ?_
  obtain ⟨q4, h_q4, h⟩ := bd h
  refine rNi F G hS hl.1 (c_X5_isName l g σ τ 3 q4 h_q4) lk_X2_154 ⟨rfl, rfl, Nat.le_of_ble_eq_true rfl, Nat.le_of_ble_eq_true rfl⟩ (rc_X5 G hS) rfl rfl (Nat.le_of_ble_eq_true rfl) dX2_lineNamed_54 (kRi (fun H locs hS => ?_))
  refine lv_if_eq (tgt := 64) F.1 F.2.1 dX2_lineNamed_57 (by decide) (fun hc => ?_) (fun hc => ?_)
  rotate_left
  · replace h := ifF h hc
    refine lv_iconst (v := (3 : Int32)) F.1 F.2.1 dX2_lineNamed_60 (by decide) ?_
    refine lv_goto (tgt := 183) F.1 F.2.1 dX2_lineNamed_61 (by decide) ?_
    exact e_i F hS ⟨Option.some.inj h, rfl, rfl⟩ hr0 dX2_lineNamed_183 hk0
  replace h := ifT h hc
  refine lv_aload_n F.1 F.2.1 dX2_lineNamed_64 rfl (lv_at hl 0 rfl) ?_
  refine gf_X2_12 F G hS dX2_lineNamed_65 ?_
  refine va_ldcS F.1 F.2.1 F.2.2.2.1 (G.2.2.2.2.2.1 4 (by decide)) dX2_lineNamed_68 ?_
  obtain ⟨q5, h_q5, h⟩ := bd h
  refine rNi F G hS hl.1 (c_X5_isName l g σ τ 4 q5 h_q5) lk_X2_154 ⟨rfl, rfl, Nat.le_of_ble_eq_true rfl, Nat.le_of_ble_eq_true rfl⟩ (rc_X5 G hS) rfl rfl (Nat.le_of_ble_eq_true rfl) dX2_lineNamed_70 (kRi (fun H locs hS => ?_))
  refine lv_if_eq (tgt := 80) F.1 F.2.1 dX2_lineNamed_73 (by decide) (fun hc => ?_) (fun hc => ?_)
  rotate_left
  · replace h := ifF h hc
    refine lv_iconst (v := (4 : Int32)) F.1 F.2.1 dX2_lineNamed_76 (by decide) ?_
    refine lv_goto (tgt := 183) F.1 F.2.1 dX2_lineNamed_77 (by decide) ?_
    exact e_i F hS ⟨Option.some.inj h, rfl, rfl⟩ hr0 dX2_lineNamed_183 hk0
  replace h := ifT h hc
  refine lv_aload_n F.1 F.2.1 dX2_lineNamed_80 rfl (lv_at hl 0 rfl) ?_
  refine gf_X2_12 F G hS dX2_lineNamed_81 ?_
  refine va_ldcS F.1 F.2.1 F.2.2.2.1 (G.2.2.2.2.2.1 5 (by decide)) dX2_lineNamed_84 ?_
  obtain ⟨q6, h_q6, h⟩ := bd h
  refine rNi F G hS hl.1 (c_X5_isName l g σ τ 5 q6 h_q6) lk_X2_154 ⟨rfl, rfl, Nat.le_of_ble_eq_true rfl, Nat.le_of_ble_eq_true rfl⟩ (rc_X5 G hS) rfl rfl (Nat.le_of_ble_eq_true rfl) dX2_lineNamed_86 (kRi (fun H locs hS => ?_))
  refine lv_if_eq (tgt := 96) F.1 F.2.1 dX2_lineNamed_89 (by decide) (fun hc => ?_) (fun hc => ?_)
  rotate_left
  · replace h := ifF h hc
    refine lv_iconst (v := (5 : Int32)) F.1 F.2.1 dX2_lineNamed_92 (by decide) ?_
    refine lv_goto (tgt := 183) F.1 F.2.1 dX2_lineNamed_93 (by decide) ?_
    exact e_i F hS ⟨Option.some.inj h, rfl, rfl⟩ hr0 dX2_lineNamed_183 hk0
  replace h := ifT h hc
  refine lv_aload_n F.1 F.2.1 dX2_lineNamed_96 rfl (lv_at hl 0 rfl) ?_
  refine gf_X2_12 F G hS dX2_lineNamed_97 ?_
  refine va_ldcS F.1 F.2.1 F.2.2.2.1 (G.2.2.2.2.2.1 6 (by decide)) dX2_lineNamed_100 ?_
  obtain ⟨q7, h_q7, h⟩ := bd h
  refine rNi F G hS hl.1 (c_X5_isName l g σ τ 6 q7 h_q7) lk_X2_154 ⟨rfl, rfl, Nat.le_of_ble_eq_true rfl, Nat.le_of_ble_eq_true rfl⟩ (rc_X5 G hS) rfl rfl (Nat.le_of_ble_eq_true rfl) dX2_lineNamed_102 (kRi (fun H locs hS => ?_))
  refine lv_if_eq (tgt := 113) F.1 F.2.1 dX2_lineNamed_105 (by decide) (fun hc => ?_) (fun hc => ?_)
  rotate_left
  · replace h := ifF h hc
    refine lv_bipush (v := (6 : Int32)) F.1 F.2.1 dX2_lineNamed_108 (by decide) ?_
    refine lv_goto (tgt := 183) F.1 F.2.1 dX2_lineNamed_110 (by decide) ?_
    exact e_i F hS ⟨Option.some.inj h, rfl, rfl⟩ hr0 dX2_lineNamed_183 hk0
  replace h := ifT h hc
  refine lv_aload_n F.1 F.2.1 dX2_lineNamed_113 rfl (lv_at hl 0 rfl) ?_
  refine gf_X2_12 F G hS dX2_lineNamed_114 ?_
  refine va_ldcS F.1 F.2.1 F.2.2.2.1 (G.2.2.2.2.2.1 7 (by decide)) dX2_lineNamed_117 ?_
  obtain ⟨q8, h_q8, h⟩ := bd h
  refine rNi F G hS hl.1 (c_X5_isName l g σ τ 7 q8 h_q8) lk_X2_154 ⟨rfl, rfl, Nat.le_of_ble_eq_true rfl, Nat.le_of_ble_eq_true rfl⟩ (rc_X5 G hS) rfl rfl (Nat.le_of_ble_eq_true rfl) dX2_lineNamed_119 (kRi (fun H locs hS => ?_))
  refine lv_if_eq (tgt := 130) F.1 F.2.1 dX2_lineNamed_122 (by decide) (fun hc => ?_) (fun hc => ?_)
  rotate_left
  · replace h := ifF h hc
    refine lv_bipush (v := (7 : Int32)) F.1 F.2.1 dX2_lineNamed_125 (by decide) ?_
    refine lv_goto (tgt := 183) F.1 F.2.1 dX2_lineNamed_127 (by decide) ?_
    exact e_i F hS ⟨Option.some.inj h, rfl, rfl⟩ hr0 dX2_lineNamed_183 hk0
  replace h := ifT h hc
  refine lv_aload_n F.1 F.2.1 dX2_lineNamed_130 rfl (lv_at hl 0 rfl) ?_
  refine gf_X2_12 F G hS dX2_lineNamed_131 ?_
  refine va_ldcS F.1 F.2.1 F.2.2.2.1 (G.2.2.2.2.2.1 8 (by decide)) dX2_lineNamed_134 ?_
  obtain ⟨q9, h_q9, h⟩ := bd h
  refine rNi F G hS hl.1 (c_X5_isName l g σ τ 8 q9 h_q9) lk_X2_154 ⟨rfl, rfl, Nat.le_of_ble_eq_true rfl, Nat.le_of_ble_eq_true rfl⟩ (rc_X5 G hS) rfl rfl (Nat.le_of_ble_eq_true rfl) dX2_lineNamed_136 (kRi (fun H locs hS => ?_))
  refine lv_if_eq (tgt := 147) F.1 F.2.1 dX2_lineNamed_139 (by decide) (fun hc => ?_) (fun hc => ?_)
  rotate_left
  · replace h := ifF h hc
    refine lv_bipush (v := (8 : Int32)) F.1 F.2.1 dX2_lineNamed_142 (by decide) ?_
    refine lv_goto (tgt := 183) F.1 F.2.1 dX2_lineNamed_144 (by decide) ?_
    exact e_i F hS ⟨Option.some.inj h, rfl, rfl⟩ hr0 dX2_lineNamed_183 hk0
  replace h := ifT h hc
  refine lv_aload_n F.1 F.2.1 dX2_lineNamed_147 rfl (lv_at hl 0 rfl) ?_
  refine gf_X2_12 F G hS dX2_lineNamed_148 ?_
  refine va_ldcS F.1 F.2.1 F.2.2.2.1 (G.2.2.2.2.2.1 9 (by decide)) dX2_lineNamed_151 ?_
  obtain ⟨q10, h_q10, h⟩ := bd h
  refine rNi F G hS hl.1 (c_X5_isName l g σ τ 9 q10 h_q10) lk_X2_154 ⟨rfl, rfl, Nat.le_of_ble_eq_true rfl, Nat.le_of_ble_eq_true rfl⟩ (rc_X5 G hS) rfl rfl (Nat.le_of_ble_eq_true rfl) dX2_lineNamed_153 (kRi (fun H locs hS => ?_))
  refine lv_if_eq (tgt := 164) F.1 F.2.1 dX2_lineNamed_156 (by decide) (fun hc => ?_) (fun hc => ?_)
  rotate_left
  · replace h := ifF h hc
    refine lv_bipush (v := (10 : Int32)) F.1 F.2.1 dX2_lineNamed_159 (by decide) ?_
    refine lv_goto (tgt := 183) F.1 F.2.1 dX2_lineNamed_161 (by decide) ?_
    exact e_i F hS ⟨Option.some.inj h, rfl, rfl⟩ hr0 dX2_lineNamed_183 hk0
  replace h := ifT h hc
  refine lv_aload_n F.1 F.2.1 dX2_lineNamed_164 rfl (lv_at hl 0 rfl) ?_
  refine gf_X2_12 F G hS dX2_lineNamed_165 ?_
  refine va_ldcS F.1 F.2.1 F.2.2.2.1 (G.2.2.2.2.2.1 10 (by decide)) dX2_lineNamed_168 ?_
  obtain ⟨q11, h_q11, h⟩ := bd h
  refine rNi F G hS hl.1 (c_X5_isName l g σ τ 10 q11 h_q11) lk_X2_154 ⟨rfl, rfl, Nat.le_of_ble_eq_true rfl, Nat.le_of_ble_eq_true rfl⟩ (rc_X5 G hS) rfl rfl (Nat.le_of_ble_eq_true rfl) dX2_lineNamed_170 (kRi (fun H locs hS => ?_))
  refine lv_if_eq (tgt := 181) F.1 F.2.1 dX2_lineNamed_173 (by decide) (fun hc => ?_) (fun hc => ?_)
  · replace h := ifT h hc
    refine lv_bipush (v := (-4 : Int32)) F.1 F.2.1 dX2_lineNamed_181 (by decide) ?_
    exact e_i F hS ⟨Option.some.inj h, rfl, rfl⟩ hr0 dX2_lineNamed_183 hk0
  replace h := ifF h hc
  refine lv_bipush (v := (12 : Int32)) F.1 F.2.1 dX2_lineNamed_176 (by decide) ?_
  refine lv_goto (tgt := 183) F.1 F.2.1 dX2_lineNamed_178 (by decide) ?_
  exact e_i F hS ⟨Option.some.inj h, rfl, rfl⟩ hr0 dX2_lineNamed_183 hk0
def f_X2_isRowOf (a1 : Int32) : Option (Int32) := if a1 = (1 : Int32) then (some (1 : Int32)) else (if a1 = (2 : Int32) then (some (1 : Int32)) else (if a1 = (3 : Int32) then (some (1 : Int32)) else (some (0 : Int32))))
abbrev rm_X2_isRowOf : Room := { frames := 0, cells := 0, slots := 0, locals := 0 }
set_option maxHeartbeats 4000000 in
set_option maxRecDepth 100000 in
theorem c_X2_isRowOf (l : Launch) (g : GG) (σ : ZI) (τ : ZL) (a1 : Int32) (res : Int32) (h : f_X2_isRowOf a1 = some res) : MI l yX2_isRowOf cX2_isRowOf 1 (some .boolean) rm_X2_isRowOf g [.int a1] σ τ (fun (r : Int32) (u : ZI × ZL) => r = res ∧ u.1 = σ ∧ u.2 = τ) := by
  refine Met_in (by decide) (Nat.le_of_ble_eq_true rfl) ?_
  intro p e s m args below meth c F G hP hr0 hk0 ls hl
  have hS := WS.start hP
  have hl : lv_has ls 1 [(0, .int a1)] := hl
  obtain ⟨H, hH⟩ : ∃ H, H = s.heap := ⟨_, rfl⟩
  rw [← hH] at hS ⊢
  clear hH hP
  rw [f_X2_isRowOf] at h
  obtain ⟨locs, hlo⟩ : ∃ z : List Loc, z = [] := ⟨_, rfl⟩
  rw [← hlo] at hS ⊢
  clear hlo
  refine lv_iload_n F.1 F.2.1 dX2_isRowOf_0 rfl (lv_at hl 0 rfl) ?_
  refine lv_iconst (v := (1 : Int32)) F.1 F.2.1 dX2_isRowOf_1 (by decide) ?_
  refine lv_icmp_eq (tgt := 15) F.1 F.2.1 dX2_isRowOf_2 (by decide) (fun hc => ?_) (fun hc => ?_)
  · replace h := ifT h hc
    refine lv_iconst (v := (1 : Int32)) F.1 F.2.1 dX2_isRowOf_15 (by decide) ?_
    refine lv_goto (tgt := 20) F.1 F.2.1 dX2_isRowOf_16 (by decide) ?_
    exact e_z F hS (by decide) ⟨Option.some.inj h, rfl, rfl⟩ hr0 dX2_isRowOf_20 hk0
  replace h := ifF h hc
  refine lv_iload_n F.1 F.2.1 dX2_isRowOf_5 rfl (lv_at hl 0 rfl) ?_
  refine lv_iconst (v := (2 : Int32)) F.1 F.2.1 dX2_isRowOf_6 (by decide) ?_
  refine lv_icmp_eq (tgt := 15) F.1 F.2.1 dX2_isRowOf_7 (by decide) (fun hc => ?_) (fun hc => ?_)
  · replace h := ifT h hc
    refine lv_iconst (v := (1 : Int32)) F.1 F.2.1 dX2_isRowOf_15 (by decide) ?_
    refine lv_goto (tgt := 20) F.1 F.2.1 dX2_isRowOf_16 (by decide) ?_
    exact e_z F hS (by decide) ⟨Option.some.inj h, rfl, rfl⟩ hr0 dX2_isRowOf_20 hk0
  replace h := ifF h hc
  refine lv_iload_n F.1 F.2.1 dX2_isRowOf_10 rfl (lv_at hl 0 rfl) ?_
  refine lv_iconst (v := (3 : Int32)) F.1 F.2.1 dX2_isRowOf_11 (by decide) ?_
  refine lv_icmp_ne (tgt := 19) F.1 F.2.1 dX2_isRowOf_12 (by decide) (fun hc => ?_) (fun hc => ?_)
  · replace h := ifF h hc
    refine lv_iconst (v := (0 : Int32)) F.1 F.2.1 dX2_isRowOf_19 (by decide) ?_
    exact e_z F hS (by decide) ⟨Option.some.inj h, rfl, rfl⟩ hr0 dX2_isRowOf_20 hk0
  replace h := ifT h hc
  refine lv_iconst (v := (1 : Int32)) F.1 F.2.1 dX2_isRowOf_15 (by decide) ?_
  refine lv_goto (tgt := 20) F.1 F.2.1 dX2_isRowOf_16 (by decide) ?_
  exact e_z F hS (by decide) ⟨Option.some.inj h, rfl, rfl⟩ hr0 dX2_isRowOf_20 hk0
def f_X7_at (σ : ZI) (r1 : Nat) (a2 : Int32) : Option (Int32) := if (ar r1).1 = 1 then (if a2 < 0 then (some (0 : Int32)) else (if (nI (ar r1).2) ≤ a2 then (some (0 : Int32)) else (if inB a2 (ar r1).2 = true then (some (σ r1 a2.toNatClampNeg)) else none))) else none
abbrev rm_X7_at : Room := { frames := 0, cells := 0, slots := 0, locals := 0 }
set_option maxHeartbeats 4000000 in
set_option maxRecDepth 100000 in
theorem c_X7_at (l : Launch) (g : GG) (σ : ZI) (τ : ZL) (r1 : Nat) (a2 : Int32) (res : Int32) (h : f_X7_at σ r1 a2 = some res) : MI l yX7_at cX7_at 2 (some .int) rm_X7_at g [.ref (gA g r1), .int a2] σ τ (fun (r : Int32) (u : ZI × ZL) => r = res ∧ u.1 = σ ∧ u.2 = τ) := by
  refine Met_in (by decide) (Nat.le_of_ble_eq_true rfl) ?_
  intro p e s m args below meth c F G hP hr0 hk0 ls hl
  have hS := WS.start hP
  have hl : lv_has ls 2 [(0, .ref (gA g r1)), (1, .int a2)] := hl
  obtain ⟨H, hH⟩ : ∃ H, H = s.heap := ⟨_, rfl⟩
  rw [← hH] at hS ⊢
  clear hH hP
  rw [f_X7_at] at h
  obtain ⟨hg_r1, h⟩ := gd h
  obtain ⟨locs, hlo⟩ : ∃ z : List Loc, z = [] := ⟨_, rfl⟩
  rw [← hlo] at hS ⊢
  clear hlo
  refine lv_iload_n F.1 F.2.1 dX7_at_0 rfl (lv_at hl 1 rfl) ?_
  refine lv_if_lt (tgt := 16) F.1 F.2.1 dX7_at_1 (by decide) (fun hc => ?_) (fun hc => ?_)
  · replace h := ifT h hc
    refine lv_iconst (v := (0 : Int32)) F.1 F.2.1 dX7_at_16 (by decide) ?_
    exact e_i F hS ⟨Option.some.inj h, rfl, rfl⟩ hr0 dX7_at_17 hk0
  replace h := ifF h hc
  refine lv_iload_n F.1 F.2.1 dX7_at_4 rfl (lv_at hl 1 rfl) ?_
  refine lv_aload_n F.1 F.2.1 dX7_at_5 rfl (lv_at hl 0 rfl) ?_
  refine x_alenI F G hS r1 hg_r1 dX7_at_6 ?_
  refine lv_icmp_ge (tgt := 16) F.1 F.2.1 dX7_at_7 (by decide) (fun hc => ?_) (fun hc => ?_)
  · replace h := ifT h hc
    refine lv_iconst (v := (0 : Int32)) F.1 F.2.1 dX7_at_16 (by decide) ?_
    exact e_i F hS ⟨Option.some.inj h, rfl, rfl⟩ hr0 dX7_at_17 hk0
  replace h := ifF h hc
  refine lv_aload_n F.1 F.2.1 dX7_at_10 rfl (lv_at hl 0 rfl) ?_
  refine lv_iload_n F.1 F.2.1 dX7_at_11 rfl (lv_at hl 1 rfl) ?_
  obtain ⟨hin, h⟩ := gd h
  refine x_iald F G hS r1 hg_r1 hin dX7_at_12 ?_
  refine lv_goto (tgt := 17) F.1 F.2.1 dX7_at_13 (by decide) ?_
  exact e_i F hS ⟨Option.some.inj h, rfl, rfl⟩ hr0 dX7_at_17 hk0
def f_X7_atS (r1 : Nat) (a2 : Int32) : Option (Int32) := if r1 = 100 ∨ r1 = 101 ∨ r1 = 102 then (if a2 < 0 then (some (0 : Int32)) else (if (nI 13) ≤ a2 then (some (0 : Int32)) else (if inB a2 13 = true then (some ((stL r1).getD a2.toNatClampNeg 0)) else none))) else none
set_option maxHeartbeats 4000000 in
set_option maxRecDepth 100000 in
theorem c_X7_atS (l : Launch) (g : GG) (σ : ZI) (τ : ZL) (r1 : Nat) (a2 : Int32) (res : Int32) (h : f_X7_atS r1 a2 = some res) : MI l yX7_at cX7_at 2 (some .int) rm_X7_at g [.ref (gA g r1), .int a2] σ τ (fun (r : Int32) (u : ZI × ZL) => r = res ∧ u.1 = σ ∧ u.2 = τ) := by
  refine Met_in (by decide) (Nat.le_of_ble_eq_true rfl) ?_
  intro p e s m args below meth c F G hP hr0 hk0 ls hl
  have hS := WS.start hP
  have hl : lv_has ls 2 [(0, .ref (gA g r1)), (1, .int a2)] := hl
  obtain ⟨H, hH⟩ : ∃ H, H = s.heap := ⟨_, rfl⟩
  rw [← hH] at hS ⊢
  clear hH hP
  rw [f_X7_atS] at h
  obtain ⟨hg_r1, h⟩ := gd h
  obtain ⟨locs, hlo⟩ : ∃ z : List Loc, z = [] := ⟨_, rfl⟩
  rw [← hlo] at hS ⊢
  clear hlo
  refine lv_iload_n F.1 F.2.1 dX7_at_0 rfl (lv_at hl 1 rfl) ?_
  refine lv_if_lt (tgt := 16) F.1 F.2.1 dX7_at_1 (by decide) (fun hc => ?_) (fun hc => ?_)
  · replace h := ifT h hc
    refine lv_iconst (v := (0 : Int32)) F.1 F.2.1 dX7_at_16 (by decide) ?_
    exact e_i F hS ⟨Option.some.inj h, rfl, rfl⟩ hr0 dX7_at_17 hk0
  replace h := ifF h hc
  refine lv_iload_n F.1 F.2.1 dX7_at_4 rfl (lv_at hl 1 rfl) ?_
  refine lv_aload_n F.1 F.2.1 dX7_at_5 rfl (lv_at hl 0 rfl) ?_
  refine x_salen F G hS r1 hg_r1 dX7_at_6 ?_
  refine lv_icmp_ge (tgt := 16) F.1 F.2.1 dX7_at_7 (by decide) (fun hc => ?_) (fun hc => ?_)
  · replace h := ifT h hc
    refine lv_iconst (v := (0 : Int32)) F.1 F.2.1 dX7_at_16 (by decide) ?_
    exact e_i F hS ⟨Option.some.inj h, rfl, rfl⟩ hr0 dX7_at_17 hk0
  replace h := ifF h hc
  refine lv_aload_n F.1 F.2.1 dX7_at_10 rfl (lv_at hl 0 rfl) ?_
  refine lv_iload_n F.1 F.2.1 dX7_at_11 rfl (lv_at hl 1 rfl) ?_
  obtain ⟨hin, h⟩ := gd h
  refine x_siald F G hS r1 hg_r1 hin dX7_at_12 ?_
  refine lv_goto (tgt := 17) F.1 F.2.1 dX7_at_13 (by decide) ?_
  exact e_i F hS ⟨Option.some.inj h, rfl, rfl⟩ hr0 dX7_at_17 hk0
def f_X6_value (σ : ZI) (b : Nat) (a1 : Int32) : Option (Int32) := if (ar b).1 = 11 then ((f_X7_at σ (b + 1) a1).bind (fun q1 => some q1)) else none
abbrev rm_X6_value : Room := { frames := 1, cells := 0, slots := 0, locals := 21 }
set_option maxHeartbeats 4000000 in
set_option maxRecDepth 100000 in
theorem c_X6_value (l : Launch) (g : GG) (σ : ZI) (τ : ZL) (b : Nat) (a1 : Int32) (res : Int32) (h : f_X6_value σ b a1 = some res) : MI l yX6_value cX6_value 2 (some .int) rm_X6_value g [.ref (gA g b), .int a1] σ τ (fun (r : Int32) (u : ZI × ZL) => r = res ∧ u.1 = σ ∧ u.2 = τ) := by
  refine Met_in (by decide) (Nat.le_of_ble_eq_true rfl) ?_
  intro p e s m args below meth c F G hP hr0 hk0 ls hl
  have hS := WS.start hP
  have hl : lv_has ls 2 [(0, .ref (gA g b)), (1, .int a1)] := hl
  obtain ⟨H, hH⟩ : ∃ H, H = s.heap := ⟨_, rfl⟩
  rw [← hH] at hS ⊢
  clear hH hP
  rw [f_X6_value] at h
  obtain ⟨hg_b, h⟩ := gd h
  obtain ⟨locs, hlo⟩ : ∃ z : List Loc, z = [] := ⟨_, rfl⟩
  rw [← hlo] at hS ⊢
  clear hlo
  refine lv_aload_n F.1 F.2.1 dX6_value_0 rfl (lv_at hl 0 rfl) ?_
  refine gf_X6_9 F G hS hg_b dX6_value_1 ?_
  refine lv_iload_n F.1 F.2.1 dX6_value_4 rfl (lv_at hl 1 rfl) ?_
  obtain ⟨q1, h_q1, h⟩ := bd h
  refine rTi F G hS hl.1 (c_X7_at l g σ τ (b + 1) a1 q1 h_q1) lk_X6_48 ⟨rfl, rfl, Nat.le_of_ble_eq_true rfl, Nat.le_of_ble_eq_true rfl⟩  rfl rfl (Nat.le_of_ble_eq_true rfl) dX6_value_5 (kRi (fun H locs hS => ?_))
  exact e_i F hS ⟨Option.some.inj h, rfl, rfl⟩ hr0 dX6_value_8 hk0
def f_X2_kindNamed (σ : ZI) : Option (Int32) := (f_X5_isName σ 11).bind (fun q1 => if q1 = 0 then ((f_X5_isName σ 12).bind (fun q2 => if q2 = 0 then ((f_X5_isName σ 13).bind (fun q3 => if q3 = 0 then ((f_X5_isName σ 14).bind (fun q4 => if q4 = 0 then ((f_X5_isName σ 15).bind (fun q5 => if q5 = 0 then (some (-4 : Int32)) else (some (4 : Int32)))) else (some (3 : Int32)))) else (some (2 : Int32)))) else (some (1 : Int32)))) else (some (0 : Int32)))
abbrev rm_X2_kindNamed : Room := { frames := 5, cells := 0, slots := 0, locals := 107 }
set_option maxHeartbeats 4000000 in
set_option maxRecDepth 100000 in
theorem c_X2_kindNamed (l : Launch) (g : GG) (σ : ZI) (τ : ZL)  (res : Int32) (h : f_X2_kindNamed σ = some res) : MI l yX2_kindNamed cX2_kindNamed 1 (some .int) rm_X2_kindNamed g [.ref (gA g 39)] σ τ (fun (r : Int32) (u : ZI × ZL) => r = res ∧ u.1 = σ ∧ u.2 = τ) := by
  refine Met_in (by decide) (Nat.le_of_ble_eq_true rfl) ?_
  intro p e s m args below meth c F G hP hr0 hk0 ls hl
  have hS := WS.start hP
  have hl : lv_has ls 1 [(0, .ref (gA g 39))] := hl
  obtain ⟨H, hH⟩ : ∃ H, H = s.heap := ⟨_, rfl⟩
  rw [← hH] at hS ⊢
  clear hH hP
  rw [f_X2_kindNamed] at h
  obtain ⟨locs, hlo⟩ : ∃ z : List Loc, z = [] := ⟨_, rfl⟩
  rw [← hlo] at hS ⊢
  clear hlo
  refine lv_aload_n F.1 F.2.1 dX2_kindNamed_0 rfl (lv_at hl 0 rfl) ?_
  refine gf_X2_12 F G hS dX2_kindNamed_1 ?_
  refine va_ldcS F.1 F.2.1 F.2.2.2.1 (G.2.2.2.2.2.1 11 (by decide)) dX2_kindNamed_4 ?_
  obtain ⟨q1, h_q1, h⟩ := bd h
  refine rNi F G hS hl.1 (c_X5_isName l g σ τ 11 q1 h_q1) lk_X2_154 ⟨rfl, rfl, Nat.le_of_ble_eq_true rfl, Nat.le_of_ble_eq_true rfl⟩ (rc_X5 G hS) rfl rfl (Nat.le_of_ble_eq_true rfl) dX2_kindNamed_6 (kRi (fun H locs hS => ?_))
  refine lv_if_eq (tgt := 16) F.1 F.2.1 dX2_kindNamed_9 (by decide) (fun hc => ?_) (fun hc => ?_)
  rotate_left
  · replace h := ifF h hc
    refine lv_iconst (v := (0 : Int32)) F.1 F.2.1 dX2_kindNamed_12 (by decide) ?_
    refine lv_goto (tgt := 82) F.1 F.2.1 dX2_kindNamed_13 (by decide) ?_
    exact e_i F hS ⟨Option.some.inj h, rfl, rfl⟩ hr0 dX2_kindNamed_82 hk0
  replace h := ifT h hc
  refine lv_aload_n F.1 F.2.1 dX2_kindNamed_16 rfl (lv_at hl 0 rfl) ?_
  refine gf_X2_12 F G hS dX2_kindNamed_17 ?_
  refine va_ldcS F.1 F.2.1 F.2.2.2.1 (G.2.2.2.2.2.1 12 (by decide)) dX2_kindNamed_20 ?_
  obtain ⟨q2, h_q2, h⟩ := bd h
  refine rNi F G hS hl.1 (c_X5_isName l g σ τ 12 q2 h_q2) lk_X2_154 ⟨rfl, rfl, Nat.le_of_ble_eq_true rfl, Nat.le_of_ble_eq_true rfl⟩ (rc_X5 G hS) rfl rfl (Nat.le_of_ble_eq_true rfl) dX2_kindNamed_22 (kRi (fun H locs hS => ?_))
  refine lv_if_eq (tgt := 32) F.1 F.2.1 dX2_kindNamed_25 (by decide) (fun hc => ?_) (fun hc => ?_)
  rotate_left
  · replace h := ifF h hc
    refine lv_iconst (v := (1 : Int32)) F.1 F.2.1 dX2_kindNamed_28 (by decide) ?_
    refine lv_goto (tgt := 82) F.1 F.2.1 dX2_kindNamed_29 (by decide) ?_
    exact e_i F hS ⟨Option.some.inj h, rfl, rfl⟩ hr0 dX2_kindNamed_82 hk0
  replace h := ifT h hc
  refine lv_aload_n F.1 F.2.1 dX2_kindNamed_32 rfl (lv_at hl 0 rfl) ?_
  refine gf_X2_12 F G hS dX2_kindNamed_33 ?_
  refine va_ldcS F.1 F.2.1 F.2.2.2.1 (G.2.2.2.2.2.1 13 (by decide)) dX2_kindNamed_36 ?_
  obtain ⟨q3, h_q3, h⟩ := bd h
  refine rNi F G hS hl.1 (c_X5_isName l g σ τ 13 q3 h_q3) lk_X2_154 ⟨rfl, rfl, Nat.le_of_ble_eq_true rfl, Nat.le_of_ble_eq_true rfl⟩ (rc_X5 G hS) rfl rfl (Nat.le_of_ble_eq_true rfl) dX2_kindNamed_38 (kRi (fun H locs hS => ?_))
  refine lv_if_eq (tgt := 48) F.1 F.2.1 dX2_kindNamed_41 (by decide) (fun hc => ?_) (fun hc => ?_)
  rotate_left
  · replace h := ifF h hc
    refine lv_iconst (v := (2 : Int32)) F.1 F.2.1 dX2_kindNamed_44 (by decide) ?_
    refine lv_goto (tgt := 82) F.1 F.2.1 dX2_kindNamed_45 (by decide) ?_
    exact e_i F hS ⟨Option.some.inj h, rfl, rfl⟩ hr0 dX2_kindNamed_82 hk0
  replace h := ifT h hc
  refine lv_aload_n F.1 F.2.1 dX2_kindNamed_48 rfl (lv_at hl 0 rfl) ?_
  refine gf_X2_12 F G hS dX2_kindNamed_49 ?_
  refine va_ldcS F.1 F.2.1 F.2.2.2.1 (G.2.2.2.2.2.1 14 (by decide)) dX2_kindNamed_52 ?_
  obtain ⟨q4, h_q4, h⟩ := bd h
  refine rNi F G hS hl.1 (c_X5_isName l g σ τ 14 q4 h_q4) lk_X2_154 ⟨rfl, rfl, Nat.le_of_ble_eq_true rfl, Nat.le_of_ble_eq_true rfl⟩ (rc_X5 G hS) rfl rfl (Nat.le_of_ble_eq_true rfl) dX2_kindNamed_54 (kRi (fun H locs hS => ?_))
  refine lv_if_eq (tgt := 64) F.1 F.2.1 dX2_kindNamed_57 (by decide) (fun hc => ?_) (fun hc => ?_)
  rotate_left
  · replace h := ifF h hc
    refine lv_iconst (v := (3 : Int32)) F.1 F.2.1 dX2_kindNamed_60 (by decide) ?_
    refine lv_goto (tgt := 82) F.1 F.2.1 dX2_kindNamed_61 (by decide) ?_
    exact e_i F hS ⟨Option.some.inj h, rfl, rfl⟩ hr0 dX2_kindNamed_82 hk0
  replace h := ifT h hc
  refine lv_aload_n F.1 F.2.1 dX2_kindNamed_64 rfl (lv_at hl 0 rfl) ?_
  refine gf_X2_12 F G hS dX2_kindNamed_65 ?_
  refine va_ldcS F.1 F.2.1 F.2.2.2.1 (G.2.2.2.2.2.1 15 (by decide)) dX2_kindNamed_68 ?_
  obtain ⟨q5, h_q5, h⟩ := bd h
  refine rNi F G hS hl.1 (c_X5_isName l g σ τ 15 q5 h_q5) lk_X2_154 ⟨rfl, rfl, Nat.le_of_ble_eq_true rfl, Nat.le_of_ble_eq_true rfl⟩ (rc_X5 G hS) rfl rfl (Nat.le_of_ble_eq_true rfl) dX2_kindNamed_70 (kRi (fun H locs hS => ?_))
  refine lv_if_eq (tgt := 80) F.1 F.2.1 dX2_kindNamed_73 (by decide) (fun hc => ?_) (fun hc => ?_)
  · replace h := ifT h hc
    refine lv_bipush (v := (-4 : Int32)) F.1 F.2.1 dX2_kindNamed_80 (by decide) ?_
    exact e_i F hS ⟨Option.some.inj h, rfl, rfl⟩ hr0 dX2_kindNamed_82 hk0
  replace h := ifF h hc
  refine lv_iconst (v := (4 : Int32)) F.1 F.2.1 dX2_kindNamed_76 (by decide) ?_
  refine lv_goto (tgt := 82) F.1 F.2.1 dX2_kindNamed_77 (by decide) ?_
  exact e_i F hS ⟨Option.some.inj h, rfl, rfl⟩ hr0 dX2_kindNamed_82 hk0
def f_X5_numberRead (σ : ZI) : Option (Int32) := (f_X5_byteAt σ (σ 37 4)).bind (fun q1 => if ((σ 37 2) - (σ 37 4)) = (1 : Int32) then (some (q1 - (48 : Int32))) else ((f_X5_byteAt σ ((σ 37 4) + (1 : Int32))).bind (fun q2 => some ((((10 : Int32) * (q1 - (48 : Int32))) + q2) - (48 : Int32)))))
abbrev rm_X5_numberRead : Room := { frames := 1, cells := 0, slots := 0, locals := 21 }
set_option maxHeartbeats 4000000 in
set_option maxRecDepth 100000 in
theorem c_X5_numberRead (l : Launch) (g : GG) (σ : ZI) (τ : ZL)  (res : Int32) (h : f_X5_numberRead σ = some res) : MI l yX5_numberRead cX5_numberRead 2 (some .int) rm_X5_numberRead g [.ref (gA g 37)] σ τ (fun (r : Int32) (u : ZI × ZL) => r = res ∧ u.1 = σ ∧ u.2 = τ) := by
  refine Met_in (by decide) (Nat.le_of_ble_eq_true rfl) ?_
  intro p e s m args below meth c F G hP hr0 hk0 ls hl
  have hS := WS.start hP
  have hl : lv_has ls 2 [(0, .ref (gA g 37))] := hl
  obtain ⟨H, hH⟩ : ∃ H, H = s.heap := ⟨_, rfl⟩
  rw [← hH] at hS ⊢
  clear hH hP
  rw [f_X5_numberRead] at h
  obtain ⟨locs, hlo⟩ : ∃ z : List Loc, z = [] := ⟨_, rfl⟩
  rw [← hlo] at hS ⊢
  clear hlo
  refine lv_aload_n F.1 F.2.1 dX5_numberRead_0 rfl (lv_at hl 0 rfl) ?_
  refine lv_aload_n F.1 F.2.1 dX5_numberRead_1 rfl (lv_at hl 0 rfl) ?_
  refine gf_X5_26 F G hS dX5_numberRead_2 ?_
  obtain ⟨q1, h_q1, h⟩ := bd h
  refine rVi F G hS hl.1 (c_X5_byteAt l g σ τ (σ 37 4) q1 h_q1) lk_X5_22 ⟨rfl, rfl, Nat.le_of_ble_eq_true rfl, Nat.le_of_ble_eq_true rfl⟩ (rc_X5 G hS) rfl rfl (Nat.le_of_ble_eq_true rfl) dX5_numberRead_5 (kRi (fun H locs hS => ?_))
  refine lv_bipush (v := (48 : Int32)) F.1 F.2.1 dX5_numberRead_8 (by decide) ?_
  refine lv_isub F.1 F.2.1 dX5_numberRead_10 ?_
  refine lv_istore_n (lv' := [(1, .int (q1 - (48 : Int32))), (0, .ref (gA g 37))]) F.1 F.2.1 dX5_numberRead_11 rfl hl (by decide) rfl (fun ls hl => ?_)
  refine lv_aload_n F.1 F.2.1 dX5_numberRead_12 rfl (lv_at hl 1 rfl) ?_
  refine gf_X5_19 F G hS dX5_numberRead_13 ?_
  refine lv_aload_n F.1 F.2.1 dX5_numberRead_16 rfl (lv_at hl 1 rfl) ?_
  refine gf_X5_26 F G hS dX5_numberRead_17 ?_
  refine lv_isub F.1 F.2.1 dX5_numberRead_20 ?_
  refine lv_iconst (v := (1 : Int32)) F.1 F.2.1 dX5_numberRead_21 (by decide) ?_
  refine lv_icmp_ne (tgt := 29) F.1 F.2.1 dX5_numberRead_22 (by decide) (fun hc => ?_) (fun hc => ?_)
  rotate_left
  · replace h := ifT h hc
    refine lv_iload_n F.1 F.2.1 dX5_numberRead_25 rfl (lv_at hl 0 rfl) ?_
    refine lv_goto (tgt := 47) F.1 F.2.1 dX5_numberRead_26 (by decide) ?_
    exact e_i F hS ⟨Option.some.inj h, rfl, rfl⟩ hr0 dX5_numberRead_47 hk0
  replace h := ifF h hc
  refine lv_bipush (v := (10 : Int32)) F.1 F.2.1 dX5_numberRead_29 (by decide) ?_
  refine lv_iload_n F.1 F.2.1 dX5_numberRead_31 rfl (lv_at hl 0 rfl) ?_
  refine lv_imul F.1 F.2.1 dX5_numberRead_32 ?_
  refine lv_aload_n F.1 F.2.1 dX5_numberRead_33 rfl (lv_at hl 1 rfl) ?_
  refine lv_aload_n F.1 F.2.1 dX5_numberRead_34 rfl (lv_at hl 1 rfl) ?_
  refine gf_X5_26 F G hS dX5_numberRead_35 ?_
  refine lv_iconst (v := (1 : Int32)) F.1 F.2.1 dX5_numberRead_38 (by decide) ?_
  refine lv_iadd F.1 F.2.1 dX5_numberRead_39 ?_
  obtain ⟨q2, h_q2, h⟩ := bd h
  refine rVi F G hS hl.1 (c_X5_byteAt l g σ τ ((σ 37 4) + (1 : Int32)) q2 h_q2) lk_X5_22 ⟨rfl, rfl, Nat.le_of_ble_eq_true rfl, Nat.le_of_ble_eq_true rfl⟩ (rc_X5 G hS) rfl rfl (Nat.le_of_ble_eq_true rfl) dX5_numberRead_40 (kRi (fun H locs hS => ?_))
  refine lv_iadd F.1 F.2.1 dX5_numberRead_43 ?_
  refine lv_bipush (v := (48 : Int32)) F.1 F.2.1 dX5_numberRead_44 (by decide) ?_
  refine lv_isub F.1 F.2.1 dX5_numberRead_46 ?_
  exact e_i F hS ⟨Option.some.inj h, rfl, rfl⟩ hr0 dX5_numberRead_47 hk0
def f_X2_takeNumber_46 (a1 : Int32) (a2 : Int32)  (σ : ZI) : Option (Int32 × ZI) := (f_X2_refuse σ (3 : Int32)).bind (fun q3 => some ((-1 : Int32), q3.2))
def f_X2_takeNumber (σ : ZI) (a1 : Int32) (a2 : Int32) : Option (Int32 × ZI) := (f_X2_takeToken σ).bind (fun q1 => if q1.1 = 0 then (some ((-1 : Int32), q1.2)) else (if (q1.2 37 3) = (2 : Int32) then ((f_X5_numberRead q1.2).bind (fun q2 => if q2 < a1 then (f_X2_takeNumber_46 a1 a2 q1.2) else (if q2 ≤ a2 then (some (q2, q1.2)) else (f_X2_takeNumber_46 a1 a2 q1.2)))) else ((f_X2_refuse q1.2 (2 : Int32)).bind (fun q4 => some ((-1 : Int32), q4.2)))))
abbrev rm_X2_takeNumber : Room := { frames := 3, cells := 0, slots := 0, locals := 61 }
set_option maxHeartbeats 4000000 in
set_option maxRecDepth 100000 in
theorem c_X2_takeNumber (l : Launch) (g : GG) (σ : ZI) (τ : ZL) (a1 : Int32) (a2 : Int32) (res : Int32 × ZI) (h : f_X2_takeNumber σ a1 a2 = some res) : MI l yX2_takeNumber cX2_takeNumber 4 (some .int) rm_X2_takeNumber g [.ref (gA g 39), .int a1, .int a2] σ τ (fun (r : Int32) (u : ZI × ZL) => (r, u.1) = res ∧ u.2 = τ) := by
  refine Met_in (by decide) (Nat.le_of_ble_eq_true rfl) ?_
  intro p e s m args below meth c F G hP hr0 hk0 ls hl
  have hS := WS.start hP
  have hl : lv_has ls 4 [(0, .ref (gA g 39)), (1, .int a1), (2, .int a2)] := hl
  obtain ⟨H, hH⟩ : ∃ H, H = s.heap := ⟨_, rfl⟩
  rw [← hH] at hS ⊢
  clear hH hP
  rw [f_X2_takeNumber] at h
  have w_46 : ∀ (σ : ZI), f_X2_takeNumber_46 a1 a2 σ = some res → ∀ (H : Heap) (locs : List Loc) (ls : Array Slot), WS g σ τ s H locs → lv_has ls 4 [(0, .ref (gA g 39))] → W p l e rm_X2_takeNumber s m args below meth c H locs 0 0 (MQ below (va_Qi (fun (r : Int32) (u : ZI × ZL) => (r, u.1) = res ∧ u.2 = τ) (WQ g) (AA g)) args s 0 0 (AA g)) (F0 m 46 ls []) := by
    intro  σ h H locs ls hS hl
    rw [f_X2_takeNumber_46] at h
    refine lv_aload_n F.1 F.2.1 dX2_takeNumber_46 rfl (lv_at hl 0 rfl) ?_
    refine lv_iconst (v := (3 : Int32)) F.1 F.2.1 dX2_takeNumber_47 (by decide) ?_
    obtain ⟨q3, h_q3, h⟩ := bd h
    refine rVi F G hS hl.1 (c_X2_refuse l g σ τ (3 : Int32) q3 h_q3) lk_X2_58 ⟨rfl, rfl, Nat.le_of_ble_eq_true rfl, Nat.le_of_ble_eq_true rfl⟩ (rc_X2 G hS) rfl rfl (Nat.le_of_ble_eq_true rfl) dX2_takeNumber_48 (kIi (fun H locs hS => ?_))
    refine lv_pop F.1 F.2.1 dX2_takeNumber_51 rfl ?_
    refine lv_iconst (v := (-1 : Int32)) F.1 F.2.1 dX2_takeNumber_52 (by decide) ?_
    exact e_i F hS ⟨Option.some.inj h, rfl⟩ hr0 dX2_takeNumber_53 hk0
  obtain ⟨locs, hlo⟩ : ∃ z : List Loc, z = [] := ⟨_, rfl⟩
  rw [← hlo] at hS ⊢
  clear hlo
  refine lv_aload_n F.1 F.2.1 dX2_takeNumber_0 rfl (lv_at hl 0 rfl) ?_
  obtain ⟨q1, h_q1, h⟩ := bd h
  refine rVi F G hS hl.1 (c_X2_takeToken l g σ τ q1 h_q1) lk_X2_48 ⟨rfl, rfl, Nat.le_of_ble_eq_true rfl, Nat.le_of_ble_eq_true rfl⟩ (rc_X2 G hS) rfl rfl (Nat.le_of_ble_eq_true rfl) dX2_takeNumber_1 (kIi (fun H locs hS => ?_))
  refine lv_if_ne (tgt := 9) F.1 F.2.1 dX2_takeNumber_4 (by decide) (fun hc => ?_) (fun hc => ?_)
  rotate_left
  · replace h := ifT h hc
    refine lv_iconst (v := (-1 : Int32)) F.1 F.2.1 dX2_takeNumber_7 (by decide) ?_
    exact e_i F hS ⟨Option.some.inj h, rfl⟩ hr0 dX2_takeNumber_8 hk0
  replace h := ifF h hc
  refine lv_aload_n F.1 F.2.1 dX2_takeNumber_9 rfl (lv_at hl 0 rfl) ?_
  refine gf_X2_12 F G hS dX2_takeNumber_10 ?_
  refine gf_X2_51 F G hS dX2_takeNumber_13 ?_
  refine lv_iconst (v := (2 : Int32)) F.1 F.2.1 dX2_takeNumber_16 (by decide) ?_
  refine lv_icmp_eq (tgt := 28) F.1 F.2.1 dX2_takeNumber_17 (by decide) (fun hc => ?_) (fun hc => ?_)
  rotate_left
  · replace h := ifF h hc
    refine lv_aload_n F.1 F.2.1 dX2_takeNumber_20 rfl (lv_at hl 0 rfl) ?_
    refine lv_iconst (v := (2 : Int32)) F.1 F.2.1 dX2_takeNumber_21 (by decide) ?_
    obtain ⟨q4, h_q4, h⟩ := bd h
    refine rVi F G hS hl.1 (c_X2_refuse l g q1.2 τ (2 : Int32) q4 h_q4) lk_X2_58 ⟨rfl, rfl, Nat.le_of_ble_eq_true rfl, Nat.le_of_ble_eq_true rfl⟩ (rc_X2 G hS) rfl rfl (Nat.le_of_ble_eq_true rfl) dX2_takeNumber_22 (kIi (fun H locs hS => ?_))
    refine lv_pop F.1 F.2.1 dX2_takeNumber_25 rfl ?_
    refine lv_iconst (v := (-1 : Int32)) F.1 F.2.1 dX2_takeNumber_26 (by decide) ?_
    exact e_i F hS ⟨Option.some.inj h, rfl⟩ hr0 dX2_takeNumber_27 hk0
  replace h := ifT h hc
  refine lv_aload_n F.1 F.2.1 dX2_takeNumber_28 rfl (lv_at hl 0 rfl) ?_
  refine gf_X2_12 F G hS dX2_takeNumber_29 ?_
  obtain ⟨q2, h_q2, h⟩ := bd h
  refine rNi F G hS hl.1 (c_X5_numberRead l g q1.2 τ q2 h_q2) lk_X2_146 ⟨rfl, rfl, Nat.le_of_ble_eq_true rfl, Nat.le_of_ble_eq_true rfl⟩ (rc_X5 G hS) rfl rfl (Nat.le_of_ble_eq_true rfl) dX2_takeNumber_32 (kRi (fun H locs hS => ?_))
  refine lv_istore_n (lv' := [(3, .int q2), (0, .ref (gA g 39)), (1, .int a1), (2, .int a2)]) F.1 F.2.1 dX2_takeNumber_35 rfl hl (by decide) rfl (fun ls hl => ?_)
  refine lv_iload_n F.1 F.2.1 dX2_takeNumber_36 rfl (lv_at hl 0 rfl) ?_
  refine lv_iload_n F.1 F.2.1 dX2_takeNumber_37 rfl (lv_at hl 2 rfl) ?_
  refine lv_icmp_lt (tgt := 46) F.1 F.2.1 dX2_takeNumber_38 (by decide) (fun hc => ?_) (fun hc => ?_)
  · replace h := ifT h hc
    exact w_46 q1.2 h H locs _ hS (lv_sub hl [1] rfl)
  replace h := ifF h hc
  refine lv_iload_n F.1 F.2.1 dX2_takeNumber_41 rfl (lv_at hl 0 rfl) ?_
  refine lv_iload_n F.1 F.2.1 dX2_takeNumber_42 rfl (lv_at hl 3 rfl) ?_
  refine lv_icmp_le (tgt := 54) F.1 F.2.1 dX2_takeNumber_43 (by decide) (fun hc => ?_) (fun hc => ?_)
  rotate_left
  · replace h := ifF h hc
    exact w_46 q1.2 h H locs _ hS (lv_sub hl [1] rfl)
  replace h := ifT h hc
  refine lv_iload_n F.1 F.2.1 dX2_takeNumber_54 rfl (lv_at hl 0 rfl) ?_
  exact e_i F hS ⟨Option.some.inj h, rfl⟩ hr0 dX2_takeNumber_55 hk0
def f_X6_armAt_2 (σ : ZI) (b : Nat) (a1 : Int32)  : Nat → Int32 → Option (Int32)
  | 0, _ => none
  | n + 1, v2 => (f_X6_value σ b (1 : Int32)).bind (fun q1 => if q1 ≤ v2 then (some (-4 : Int32)) else ((f_X7_at σ (b + 3) v2).bind (fun q2 => if q2 = a1 then (some v2) else (f_X6_armAt_2 σ b a1 n (v2 + (1 : Int32))))))
def f_X6_armAt (σ : ZI) (b : Nat) (a1 : Int32) : Option (Int32) := if (ar b).1 = 11 then (f_X6_armAt_2 σ b a1 3000 (0 : Int32)) else none
abbrev rm_X6_armAt : Room := { frames := 2, cells := 0, slots := 0, locals := 42 }
set_option maxHeartbeats 4000000 in
set_option maxRecDepth 100000 in
theorem c_X6_armAt (l : Launch) (g : GG) (σ : ZI) (τ : ZL) (b : Nat) (a1 : Int32) (res : Int32) (h : f_X6_armAt σ b a1 = some res) : MI l yX6_armAt cX6_armAt 3 (some .int) rm_X6_armAt g [.ref (gA g b), .int a1] σ τ (fun (r : Int32) (u : ZI × ZL) => r = res ∧ u.1 = σ ∧ u.2 = τ) := by
  refine Met_in (by decide) (Nat.le_of_ble_eq_true rfl) ?_
  intro p e s m args below meth c F G hP hr0 hk0 ls hl
  have hS := WS.start hP
  have hl : lv_has ls 3 [(0, .ref (gA g b)), (1, .int a1)] := hl
  obtain ⟨H, hH⟩ : ∃ H, H = s.heap := ⟨_, rfl⟩
  rw [← hH] at hS ⊢
  clear hH hP
  rw [f_X6_armAt] at h
  obtain ⟨hg_b, h⟩ := gd h
  have w_2 : ∀ (n : Nat) (v2 : Int32), f_X6_armAt_2 σ b a1 n v2 = some res → ∀ (H : Heap) (locs : List Loc) (ls : Array Slot), WS g σ τ s H locs → lv_has ls 3 [(0, .ref (gA g b)), (1, .int a1), (2, .int v2)] → W p l e rm_X6_armAt s m args below meth c H locs 0 0 (MQ below (va_Qi (fun (r : Int32) (u : ZI × ZL) => r = res ∧ u.1 = σ ∧ u.2 = τ) (WQ g) (AA g)) args s 0 0 (AA g)) (F0 m 2 ls []) := by
    intro n
    induction n with
    | zero => intro v2 h; rw [f_X6_armAt_2] at h; cases h
    | succ n ih =>
      intro v2 h H locs ls hS hl
      rw [f_X6_armAt_2] at h
      refine lv_iload_n F.1 F.2.1 dX6_armAt_2 rfl (lv_at hl 2 rfl) ?_
      refine lv_aload_n F.1 F.2.1 dX6_armAt_3 rfl (lv_at hl 0 rfl) ?_
      refine lv_iconst (v := (1 : Int32)) F.1 F.2.1 dX6_armAt_4 (by decide) ?_
      obtain ⟨q1, h_q1, h⟩ := bd h
      refine rVi F G hS hl.1 (c_X6_value l g σ τ b (1 : Int32) q1 h_q1) lk_X6_62 ⟨rfl, rfl, Nat.le_of_ble_eq_true rfl, Nat.le_of_ble_eq_true rfl⟩ (rc_X6 G hS hg_b) rfl rfl (Nat.le_of_ble_eq_true rfl) dX6_armAt_5 (kRi (fun H locs hS => ?_))
      refine lv_icmp_ge (tgt := 31) F.1 F.2.1 dX6_armAt_8 (by decide) (fun hc => ?_) (fun hc => ?_)
      · replace h := ifT h hc
        refine lv_bipush (v := (-4 : Int32)) F.1 F.2.1 dX6_armAt_31 (by decide) ?_
        exact e_i F hS ⟨Option.some.inj h, rfl, rfl⟩ hr0 dX6_armAt_33 hk0
      replace h := ifF h hc
      refine lv_aload_n F.1 F.2.1 dX6_armAt_11 rfl (lv_at hl 0 rfl) ?_
      refine gf_X6_18 F G hS hg_b dX6_armAt_12 ?_
      refine lv_iload_n F.1 F.2.1 dX6_armAt_15 rfl (lv_at hl 2 rfl) ?_
      obtain ⟨q2, h_q2, h⟩ := bd h
      refine rTi F G hS hl.1 (c_X7_at l g σ τ (b + 3) v2 q2 h_q2) lk_X6_48 ⟨rfl, rfl, Nat.le_of_ble_eq_true rfl, Nat.le_of_ble_eq_true rfl⟩  rfl rfl (Nat.le_of_ble_eq_true rfl) dX6_armAt_16 (kRi (fun H locs hS => ?_))
      refine lv_iload_n F.1 F.2.1 dX6_armAt_19 rfl (lv_at hl 1 rfl) ?_
      refine lv_icmp_ne (tgt := 25) F.1 F.2.1 dX6_armAt_20 (by decide) (fun hc => ?_) (fun hc => ?_)
      rotate_left
      · replace h := ifT h hc
        refine lv_iload_n F.1 F.2.1 dX6_armAt_23 rfl (lv_at hl 2 rfl) ?_
        exact e_i F hS ⟨Option.some.inj h, rfl, rfl⟩ hr0 dX6_armAt_24 hk0
      replace h := ifF h hc
      refine lv_iinc (v := (v2 + (1 : Int32))) (lv' := [(2, .int (v2 + (1 : Int32))), (0, .ref (gA g b)), (1, .int a1)]) F.1 F.2.1 dX6_armAt_25 hl (k := 2) rfl rfl (by decide) rfl (fun ls hl => ?_)
      refine lv_goto (tgt := 2) F.1 F.2.1 dX6_armAt_28 (by decide) ?_
      exact ih (v2 + (1 : Int32)) h H locs _ hS (lv_sub hl [1, 2, 0] rfl)
  obtain ⟨locs, hlo⟩ : ∃ z : List Loc, z = [] := ⟨_, rfl⟩
  rw [← hlo] at hS ⊢
  clear hlo
  refine lv_iconst (v := (0 : Int32)) F.1 F.2.1 dX6_armAt_0 (by decide) ?_
  refine lv_istore_n (lv' := [(2, .int (0 : Int32)), (0, .ref (gA g b)), (1, .int a1)]) F.1 F.2.1 dX6_armAt_1 rfl hl (by decide) rfl (fun ls hl => ?_)
  exact w_2 3000 (0 : Int32) h H locs _ hS (lv_sub hl [1, 2, 0] rfl)
def f_X7_put (σ : ZI) (r1 : Nat) (a2 : Int32) (a3 : Int32) : Option (ZI) := if (ar r1).1 = 1 then (if a2 < 0 then (some σ) else (if (nI (ar r1).2) ≤ a2 then (some σ) else (if inB a2 (ar r1).2 = true then (lt_ (va_up σ r1 (upd (σ r1) a2.toNatClampNeg a3)) (fun σ1 => some σ1)) else none))) else none
abbrev rm_X7_put : Room := { frames := 0, cells := 0, slots := 0, locals := 0 }
set_option maxHeartbeats 4000000 in
set_option maxRecDepth 100000 in
theorem c_X7_put (l : Launch) (g : GG) (σ : ZI) (τ : ZL) (r1 : Nat) (a2 : Int32) (a3 : Int32) (res : ZI) (h : f_X7_put σ r1 a2 a3 = some res) : MV l yX7_put cX7_put 3 none rm_X7_put g [.ref (gA g r1), .int a2, .int a3] σ τ (fun (u : ZI × ZL) => u.1 = res ∧ u.2 = τ) := by
  refine Met_in (by decide) (Nat.le_of_ble_eq_true rfl) ?_
  intro p e s m args below meth c F G hP hr0 hk0 ls hl
  have hS := WS.start hP
  have hl : lv_has ls 3 [(0, .ref (gA g r1)), (1, .int a2), (2, .int a3)] := hl
  obtain ⟨H, hH⟩ : ∃ H, H = s.heap := ⟨_, rfl⟩
  rw [← hH] at hS ⊢
  clear hH hP
  rw [f_X7_put] at h
  obtain ⟨hg_r1, h⟩ := gd h
  obtain ⟨locs, hlo⟩ : ∃ z : List Loc, z = [] := ⟨_, rfl⟩
  rw [← hlo] at hS ⊢
  clear hlo
  refine lv_iload_n F.1 F.2.1 dX7_put_0 rfl (lv_at hl 1 rfl) ?_
  refine lv_if_lt (tgt := 14) F.1 F.2.1 dX7_put_1 (by decide) (fun hc => ?_) (fun hc => ?_)
  · replace h := ifT h hc
    exact e_v F hS ⟨Option.some.inj h, rfl⟩ hr0 dX7_put_14 hk0
  replace h := ifF h hc
  refine lv_iload_n F.1 F.2.1 dX7_put_4 rfl (lv_at hl 1 rfl) ?_
  refine lv_aload_n F.1 F.2.1 dX7_put_5 rfl (lv_at hl 0 rfl) ?_
  refine x_alenI F G hS r1 hg_r1 dX7_put_6 ?_
  refine lv_icmp_ge (tgt := 14) F.1 F.2.1 dX7_put_7 (by decide) (fun hc => ?_) (fun hc => ?_)
  · replace h := ifT h hc
    exact e_v F hS ⟨Option.some.inj h, rfl⟩ hr0 dX7_put_14 hk0
  replace h := ifF h hc
  refine lv_aload_n F.1 F.2.1 dX7_put_10 rfl (lv_at hl 0 rfl) ?_
  refine lv_iload_n F.1 F.2.1 dX7_put_11 rfl (lv_at hl 1 rfl) ?_
  refine lv_iload_n F.1 F.2.1 dX7_put_12 rfl (lv_at hl 2 rfl) ?_
  obtain ⟨hin, h⟩ := gd h
  refine x_iast F G hS r1 hg_r1 hin dX7_put_13 (fun H locs hS => ?_)
  obtain ⟨σ1, e_σ1, h⟩ := ltE h
  rw [← e_σ1] at hS
  clear e_σ1
  exact e_v F hS ⟨Option.some.inj h, rfl⟩ hr0 dX7_put_14 hk0
def f_X6_become (σ : ZI) (b : Nat) (a1 : Int32) (a2 : Int32) : Option (ZI) := if (ar b).1 = 11 then ((f_X7_put σ (b + 1) a1 a2).bind (fun q1 => some q1)) else none
abbrev rm_X6_become : Room := { frames := 1, cells := 0, slots := 0, locals := 22 }
set_option maxHeartbeats 4000000 in
set_option maxRecDepth 100000 in
theorem c_X6_become (l : Launch) (g : GG) (σ : ZI) (τ : ZL) (b : Nat) (a1 : Int32) (a2 : Int32) (res : ZI) (h : f_X6_become σ b a1 a2 = some res) : MV l yX6_become cX6_become 3 none rm_X6_become g [.ref (gA g b), .int a1, .int a2] σ τ (fun (u : ZI × ZL) => u.1 = res ∧ u.2 = τ) := by
  refine Met_in (by decide) (Nat.le_of_ble_eq_true rfl) ?_
  intro p e s m args below meth c F G hP hr0 hk0 ls hl
  have hS := WS.start hP
  have hl : lv_has ls 3 [(0, .ref (gA g b)), (1, .int a1), (2, .int a2)] := hl
  obtain ⟨H, hH⟩ : ∃ H, H = s.heap := ⟨_, rfl⟩
  rw [← hH] at hS ⊢
  clear hH hP
  rw [f_X6_become] at h
  obtain ⟨hg_b, h⟩ := gd h
  obtain ⟨locs, hlo⟩ : ∃ z : List Loc, z = [] := ⟨_, rfl⟩
  rw [← hlo] at hS ⊢
  clear hlo
  refine lv_aload_n F.1 F.2.1 dX6_become_0 rfl (lv_at hl 0 rfl) ?_
  refine gf_X6_9 F G hS hg_b dX6_become_1 ?_
  refine lv_iload_n F.1 F.2.1 dX6_become_4 rfl (lv_at hl 1 rfl) ?_
  refine lv_iload_n F.1 F.2.1 dX6_become_5 rfl (lv_at hl 2 rfl) ?_
  obtain ⟨q1, h_q1, h⟩ := bd h
  refine rTv F G hS hl.1 (c_X7_put l g σ τ (b + 1) a1 a2 q1 h_q1) lk_X6_52 ⟨rfl, rfl, Nat.le_of_ble_eq_true rfl, Nat.le_of_ble_eq_true rfl⟩  rfl rfl (Nat.le_of_ble_eq_true rfl) dX6_become_6 (kIv (fun H locs hS => ?_))
  exact e_v F hS ⟨Option.some.inj h, rfl⟩ hr0 dX6_become_9 hk0
def f_X2_readArm (σ : ZI) : Option (Int32 × ZI) := (f_X2_takeToken σ).bind (fun q1 => if q1.1 = 0 then (some ((0 : Int32), q1.2)) else ((f_X2_kindNamed q1.2).bind (fun q2 => if q2 = (-4 : Int32) then ((f_X2_refuse q1.2 (2 : Int32)).bind (fun q12 => if q12.1 = 0 ∨ q12.1 = 1 then some (q12.1, q12.2) else none)) else ((f_X2_takeNumber q1.2 (1 : Int32) (10 : Int32)).bind (fun q3 => if q3.1 = (-1 : Int32) then (some ((0 : Int32), q3.2)) else ((f_X6_armAt q3.2 28 q3.1).bind (fun q4 => if q4 = (-4 : Int32) then ((f_X2_takeNumber q3.2 (0 : Int32) (9 : Int32)).bind (fun q5 => if q5.1 = (-1 : Int32) then (some ((0 : Int32), q5.2)) else ((f_X6_value q5.2 28 (1 : Int32)).bind (fun q6 => (f_X7_put q5.2 30 q6 q2).bind (fun q7 => (f_X7_put q7 31 q6 q3.1).bind (fun q8 => (f_X7_put q8 32 q6 q5.1).bind (fun q9 => (f_X6_become q9 28 (1 : Int32) (q6 + (1 : Int32))).bind (fun q10 => some ((1 : Int32), q10))))))))) else ((f_X2_refuse q3.2 (4 : Int32)).bind (fun q11 => if q11.1 = 0 ∨ q11.1 = 1 then some (q11.1, q11.2) else none)))))))))
abbrev rm_X2_readArm : Room := { frames := 6, cells := 0, slots := 0, locals := 127 }
set_option maxHeartbeats 4000000 in
set_option maxRecDepth 100000 in
theorem c_X2_readArm (l : Launch) (g : GG) (σ : ZI) (τ : ZL)  (res : Int32 × ZI) (h : f_X2_readArm σ = some res) : MI l yX2_readArm cX2_readArm 5 (some .boolean) rm_X2_readArm g [.ref (gA g 39)] σ τ (fun (r : Int32) (u : ZI × ZL) => (r, u.1) = res ∧ u.2 = τ) := by
  refine Met_in (by decide) (Nat.le_of_ble_eq_true rfl) ?_
  intro p e s m args below meth c F G hP hr0 hk0 ls hl
  have hS := WS.start hP
  have hl : lv_has ls 5 [(0, .ref (gA g 39))] := hl
  obtain ⟨H, hH⟩ : ∃ H, H = s.heap := ⟨_, rfl⟩
  rw [← hH] at hS ⊢
  clear hH hP
  rw [f_X2_readArm] at h
  obtain ⟨locs, hlo⟩ : ∃ z : List Loc, z = [] := ⟨_, rfl⟩
  rw [← hlo] at hS ⊢
  clear hlo
  refine lv_aload_n F.1 F.2.1 dX2_readArm_0 rfl (lv_at hl 0 rfl) ?_
  obtain ⟨q1, h_q1, h⟩ := bd h
  refine rVi F G hS hl.1 (c_X2_takeToken l g σ τ q1 h_q1) lk_X2_48 ⟨rfl, rfl, Nat.le_of_ble_eq_true rfl, Nat.le_of_ble_eq_true rfl⟩ (rc_X2 G hS) rfl rfl (Nat.le_of_ble_eq_true rfl) dX2_readArm_1 (kIi (fun H locs hS => ?_))
  refine lv_if_ne (tgt := 9) F.1 F.2.1 dX2_readArm_4 (by decide) (fun hc => ?_) (fun hc => ?_)
  rotate_left
  · replace h := ifT h hc
    refine lv_iconst (v := (0 : Int32)) F.1 F.2.1 dX2_readArm_7 (by decide) ?_
    exact e_z F hS (by decide) ⟨Option.some.inj h, rfl⟩ hr0 dX2_readArm_8 hk0
  replace h := ifF h hc
  refine lv_aload_n F.1 F.2.1 dX2_readArm_9 rfl (lv_at hl 0 rfl) ?_
  obtain ⟨q2, h_q2, h⟩ := bd h
  refine rVi F G hS hl.1 (c_X2_kindNamed l g q1.2 τ q2 h_q2) lk_X2_106 ⟨rfl, rfl, Nat.le_of_ble_eq_true rfl, Nat.le_of_ble_eq_true rfl⟩ (rc_X2 G hS) rfl rfl (Nat.le_of_ble_eq_true rfl) dX2_readArm_10 (kRi (fun H locs hS => ?_))
  refine lv_istore_n (lv' := [(1, .int q2), (0, .ref (gA g 39))]) F.1 F.2.1 dX2_readArm_13 rfl hl (by decide) rfl (fun ls hl => ?_)
  refine lv_iload_n F.1 F.2.1 dX2_readArm_14 rfl (lv_at hl 0 rfl) ?_
  refine lv_bipush (v := (-4 : Int32)) F.1 F.2.1 dX2_readArm_15 (by decide) ?_
  refine lv_icmp_ne (tgt := 26) F.1 F.2.1 dX2_readArm_17 (by decide) (fun hc => ?_) (fun hc => ?_)
  rotate_left
  · replace h := ifT h hc
    refine lv_aload_n F.1 F.2.1 dX2_readArm_20 rfl (lv_at hl 1 rfl) ?_
    refine lv_iconst (v := (2 : Int32)) F.1 F.2.1 dX2_readArm_21 (by decide) ?_
    obtain ⟨q12, h_q12, h⟩ := bd h
    refine rVi F G hS hl.1 (c_X2_refuse l g q1.2 τ (2 : Int32) q12 h_q12) lk_X2_58 ⟨rfl, rfl, Nat.le_of_ble_eq_true rfl, Nat.le_of_ble_eq_true rfl⟩ (rc_X2 G hS) rfl rfl (Nat.le_of_ble_eq_true rfl) dX2_readArm_22 (kIi (fun H locs hS => ?_))
    obtain ⟨hz, h⟩ := gd h
    exact e_z F hS hz ⟨Option.some.inj h, rfl⟩ hr0 dX2_readArm_25 hk0
  replace h := ifF h hc
  refine lv_aload_n F.1 F.2.1 dX2_readArm_26 rfl (lv_at hl 1 rfl) ?_
  refine lv_iconst (v := (1 : Int32)) F.1 F.2.1 dX2_readArm_27 (by decide) ?_
  refine lv_bipush (v := (10 : Int32)) F.1 F.2.1 dX2_readArm_28 (by decide) ?_
  obtain ⟨q3, h_q3, h⟩ := bd h
  refine rVi F G hS hl.1 (c_X2_takeNumber l g q1.2 τ (1 : Int32) (10 : Int32) q3 h_q3) lk_X2_98 ⟨rfl, rfl, Nat.le_of_ble_eq_true rfl, Nat.le_of_ble_eq_true rfl⟩ (rc_X2 G hS) rfl rfl (Nat.le_of_ble_eq_true rfl) dX2_readArm_30 (kIi (fun H locs hS => ?_))
  refine lv_istore_n (lv' := [(2, .int q3.1), (1, .int q2), (0, .ref (gA g 39))]) F.1 F.2.1 dX2_readArm_33 rfl hl (by decide) rfl (fun ls hl => ?_)
  refine lv_iload_n F.1 F.2.1 dX2_readArm_34 rfl (lv_at hl 0 rfl) ?_
  refine lv_iconst (v := (-1 : Int32)) F.1 F.2.1 dX2_readArm_35 (by decide) ?_
  refine lv_icmp_ne (tgt := 41) F.1 F.2.1 dX2_readArm_36 (by decide) (fun hc => ?_) (fun hc => ?_)
  rotate_left
  · replace h := ifT h hc
    refine lv_iconst (v := (0 : Int32)) F.1 F.2.1 dX2_readArm_39 (by decide) ?_
    exact e_z F hS (by decide) ⟨Option.some.inj h, rfl⟩ hr0 dX2_readArm_40 hk0
  replace h := ifF h hc
  refine lv_aload_n F.1 F.2.1 dX2_readArm_41 rfl (lv_at hl 2 rfl) ?_
  refine gf_X2_21 F G hS dX2_readArm_42 ?_
  refine lv_iload_n F.1 F.2.1 dX2_readArm_45 rfl (lv_at hl 0 rfl) ?_
  obtain ⟨q4, h_q4, h⟩ := bd h
  refine rNi F G hS hl.1 (c_X6_armAt l g q3.2 τ 28 q3.1 q4 h_q4) lk_X2_109 ⟨rfl, rfl, Nat.le_of_ble_eq_true rfl, Nat.le_of_ble_eq_true rfl⟩ (rc_X6 G hS rfl) rfl rfl (Nat.le_of_ble_eq_true rfl) dX2_readArm_46 (kRi (fun H locs hS => ?_))
  refine lv_bipush (v := (-4 : Int32)) F.1 F.2.1 dX2_readArm_49 (by decide) ?_
  refine lv_icmp_eq (tgt := 60) F.1 F.2.1 dX2_readArm_51 (by decide) (fun hc => ?_) (fun hc => ?_)
  rotate_left
  · replace h := ifF h hc
    refine lv_aload_n F.1 F.2.1 dX2_readArm_54 rfl (lv_at hl 2 rfl) ?_
    refine lv_iconst (v := (4 : Int32)) F.1 F.2.1 dX2_readArm_55 (by decide) ?_
    obtain ⟨q11, h_q11, h⟩ := bd h
    refine rVi F G hS hl.1 (c_X2_refuse l g q3.2 τ (4 : Int32) q11 h_q11) lk_X2_58 ⟨rfl, rfl, Nat.le_of_ble_eq_true rfl, Nat.le_of_ble_eq_true rfl⟩ (rc_X2 G hS) rfl rfl (Nat.le_of_ble_eq_true rfl) dX2_readArm_56 (kIi (fun H locs hS => ?_))
    obtain ⟨hz, h⟩ := gd h
    exact e_z F hS hz ⟨Option.some.inj h, rfl⟩ hr0 dX2_readArm_59 hk0
  replace h := ifT h hc
  refine lv_aload_n F.1 F.2.1 dX2_readArm_60 rfl (lv_at hl 2 rfl) ?_
  refine lv_iconst (v := (0 : Int32)) F.1 F.2.1 dX2_readArm_61 (by decide) ?_
  refine lv_bipush (v := (9 : Int32)) F.1 F.2.1 dX2_readArm_62 (by decide) ?_
  obtain ⟨q5, h_q5, h⟩ := bd h
  refine rVi F G hS hl.1 (c_X2_takeNumber l g q3.2 τ (0 : Int32) (9 : Int32) q5 h_q5) lk_X2_98 ⟨rfl, rfl, Nat.le_of_ble_eq_true rfl, Nat.le_of_ble_eq_true rfl⟩ (rc_X2 G hS) rfl rfl (Nat.le_of_ble_eq_true rfl) dX2_readArm_64 (kIi (fun H locs hS => ?_))
  refine lv_istore_n (lv' := [(3, .int q5.1), (2, .int q3.1), (1, .int q2), (0, .ref (gA g 39))]) F.1 F.2.1 dX2_readArm_67 rfl hl (by decide) rfl (fun ls hl => ?_)
  refine lv_iload_n F.1 F.2.1 dX2_readArm_68 rfl (lv_at hl 0 rfl) ?_
  refine lv_iconst (v := (-1 : Int32)) F.1 F.2.1 dX2_readArm_69 (by decide) ?_
  refine lv_icmp_ne (tgt := 75) F.1 F.2.1 dX2_readArm_70 (by decide) (fun hc => ?_) (fun hc => ?_)
  rotate_left
  · replace h := ifT h hc
    refine lv_iconst (v := (0 : Int32)) F.1 F.2.1 dX2_readArm_73 (by decide) ?_
    exact e_z F hS (by decide) ⟨Option.some.inj h, rfl⟩ hr0 dX2_readArm_74 hk0
  replace h := ifF h hc
  refine lv_aload_n F.1 F.2.1 dX2_readArm_75 rfl (lv_at hl 3 rfl) ?_
  refine gf_X2_21 F G hS dX2_readArm_76 ?_
  refine lv_iconst (v := (1 : Int32)) F.1 F.2.1 dX2_readArm_79 (by decide) ?_
  obtain ⟨q6, h_q6, h⟩ := bd h
  refine rNi F G hS hl.1 (c_X6_value l g q5.2 τ 28 (1 : Int32) q6 h_q6) lk_X2_65 ⟨rfl, rfl, Nat.le_of_ble_eq_true rfl, Nat.le_of_ble_eq_true rfl⟩ (rc_X6 G hS rfl) rfl rfl (Nat.le_of_ble_eq_true rfl) dX2_readArm_80 (kRi (fun H locs hS => ?_))
  refine lv_istore (lv' := [(4, .int q6), (3, .int q5.1), (2, .int q3.1), (1, .int q2), (0, .ref (gA g 39))]) F.1 F.2.1 dX2_readArm_83 hl (by decide) rfl (fun ls hl => ?_)
  refine lv_aload_n F.1 F.2.1 dX2_readArm_85 rfl (lv_at hl 4 rfl) ?_
  refine gf_X2_21 F G hS dX2_readArm_86 ?_
  refine gf_X2_112 F G hS rfl dX2_readArm_89 ?_
  refine lv_iload F.1 F.2.1 dX2_readArm_92 (lv_at hl 0 rfl) ?_
  refine lv_iload_n F.1 F.2.1 dX2_readArm_94 rfl (lv_at hl 3 rfl) ?_
  obtain ⟨q7, h_q7, h⟩ := bd h
  refine rTv F G hS hl.1 (c_X7_put l g q5.2 τ 30 q6 q2 q7 h_q7) lk_X2_115 ⟨rfl, rfl, Nat.le_of_ble_eq_true rfl, Nat.le_of_ble_eq_true rfl⟩  rfl rfl (Nat.le_of_ble_eq_true rfl) dX2_readArm_95 (kIv (fun H locs hS => ?_))
  refine lv_aload_n F.1 F.2.1 dX2_readArm_98 rfl (lv_at hl 4 rfl) ?_
  refine gf_X2_21 F G hS dX2_readArm_99 ?_
  refine gf_X2_119 F G hS rfl dX2_readArm_102 ?_
  refine lv_iload F.1 F.2.1 dX2_readArm_105 (lv_at hl 0 rfl) ?_
  refine lv_iload_n F.1 F.2.1 dX2_readArm_107 rfl (lv_at hl 2 rfl) ?_
  obtain ⟨q8, h_q8, h⟩ := bd h
  refine rTv F G hS hl.1 (c_X7_put l g q7 τ 31 q6 q3.1 q8 h_q8) lk_X2_115 ⟨rfl, rfl, Nat.le_of_ble_eq_true rfl, Nat.le_of_ble_eq_true rfl⟩  rfl rfl (Nat.le_of_ble_eq_true rfl) dX2_readArm_108 (kIv (fun H locs hS => ?_))
  refine lv_aload_n F.1 F.2.1 dX2_readArm_111 rfl (lv_at hl 4 rfl) ?_
  refine gf_X2_21 F G hS dX2_readArm_112 ?_
  refine gf_X2_122 F G hS rfl dX2_readArm_115 ?_
  refine lv_iload F.1 F.2.1 dX2_readArm_118 (lv_at hl 0 rfl) ?_
  refine lv_iload_n F.1 F.2.1 dX2_readArm_120 rfl (lv_at hl 1 rfl) ?_
  obtain ⟨q9, h_q9, h⟩ := bd h
  refine rTv F G hS hl.1 (c_X7_put l g q8 τ 32 q6 q5.1 q9 h_q9) lk_X2_115 ⟨rfl, rfl, Nat.le_of_ble_eq_true rfl, Nat.le_of_ble_eq_true rfl⟩  rfl rfl (Nat.le_of_ble_eq_true rfl) dX2_readArm_121 (kIv (fun H locs hS => ?_))
  refine lv_aload_n F.1 F.2.1 dX2_readArm_124 rfl (lv_at hl 4 rfl) ?_
  refine gf_X2_21 F G hS dX2_readArm_125 ?_
  refine lv_iconst (v := (1 : Int32)) F.1 F.2.1 dX2_readArm_128 (by decide) ?_
  refine lv_iload F.1 F.2.1 dX2_readArm_129 (lv_at hl 0 rfl) ?_
  refine lv_iconst (v := (1 : Int32)) F.1 F.2.1 dX2_readArm_131 (by decide) ?_
  refine lv_iadd F.1 F.2.1 dX2_readArm_132 ?_
  obtain ⟨q10, h_q10, h⟩ := bd h
  refine rNv F G hS hl.1 (c_X6_become l g q9 τ 28 (1 : Int32) (q6 + (1 : Int32)) q10 h_q10) lk_X2_102 ⟨rfl, rfl, Nat.le_of_ble_eq_true rfl, Nat.le_of_ble_eq_true rfl⟩ (rc_X6 G hS rfl) rfl rfl (Nat.le_of_ble_eq_true rfl) dX2_readArm_133 (kIv (fun H locs hS => ?_))
  refine lv_iconst (v := (1 : Int32)) F.1 F.2.1 dX2_readArm_136 (by decide) ?_
  exact e_z F hS (by decide) ⟨Option.some.inj h, rfl⟩ hr0 dX2_readArm_137 hk0
def f_X2_takeSign (σ : ZI) : Option (Int32 × ZI) := (f_X2_takeToken σ).bind (fun q1 => if q1.1 = 0 then (some ((0 : Int32), q1.2)) else (if (q1.2 37 3) = (3 : Int32) then (some ((1 : Int32), q1.2)) else ((f_X2_refuse q1.2 (2 : Int32)).bind (fun q2 => if q2.1 = 0 then (some ((0 : Int32), q2.2)) else (some ((1 : Int32), q2.2))))))
abbrev rm_X2_takeSign : Room := { frames := 3, cells := 0, slots := 0, locals := 61 }
set_option maxHeartbeats 4000000 in
set_option maxRecDepth 100000 in
theorem c_X2_takeSign (l : Launch) (g : GG) (σ : ZI) (τ : ZL)  (res : Int32 × ZI) (h : f_X2_takeSign σ = some res) : MI l yX2_takeSign cX2_takeSign 1 (some .boolean) rm_X2_takeSign g [.ref (gA g 39)] σ τ (fun (r : Int32) (u : ZI × ZL) => (r, u.1) = res ∧ u.2 = τ) := by
  refine Met_in (by decide) (Nat.le_of_ble_eq_true rfl) ?_
  intro p e s m args below meth c F G hP hr0 hk0 ls hl
  have hS := WS.start hP
  have hl : lv_has ls 1 [(0, .ref (gA g 39))] := hl
  obtain ⟨H, hH⟩ : ∃ H, H = s.heap := ⟨_, rfl⟩
  rw [← hH] at hS ⊢
  clear hH hP
  rw [f_X2_takeSign] at h
  obtain ⟨locs, hlo⟩ : ∃ z : List Loc, z = [] := ⟨_, rfl⟩
  rw [← hlo] at hS ⊢
  clear hlo
  refine lv_aload_n F.1 F.2.1 dX2_takeSign_0 rfl (lv_at hl 0 rfl) ?_
  obtain ⟨q1, h_q1, h⟩ := bd h
  refine rVi F G hS hl.1 (c_X2_takeToken l g σ τ q1 h_q1) lk_X2_48 ⟨rfl, rfl, Nat.le_of_ble_eq_true rfl, Nat.le_of_ble_eq_true rfl⟩ (rc_X2 G hS) rfl rfl (Nat.le_of_ble_eq_true rfl) dX2_takeSign_1 (kIi (fun H locs hS => ?_))
  refine lv_if_eq (tgt := 30) F.1 F.2.1 dX2_takeSign_4 (by decide) (fun hc => ?_) (fun hc => ?_)
  · replace h := ifT h hc
    refine lv_iconst (v := (0 : Int32)) F.1 F.2.1 dX2_takeSign_30 (by decide) ?_
    exact e_z F hS (by decide) ⟨Option.some.inj h, rfl⟩ hr0 dX2_takeSign_31 hk0
  replace h := ifF h hc
  refine lv_aload_n F.1 F.2.1 dX2_takeSign_7 rfl (lv_at hl 0 rfl) ?_
  refine gf_X2_12 F G hS dX2_takeSign_8 ?_
  refine gf_X2_51 F G hS dX2_takeSign_11 ?_
  refine lv_iconst (v := (3 : Int32)) F.1 F.2.1 dX2_takeSign_14 (by decide) ?_
  refine lv_icmp_eq (tgt := 26) F.1 F.2.1 dX2_takeSign_15 (by decide) (fun hc => ?_) (fun hc => ?_)
  · replace h := ifT h hc
    refine lv_iconst (v := (1 : Int32)) F.1 F.2.1 dX2_takeSign_26 (by decide) ?_
    refine lv_goto (tgt := 31) F.1 F.2.1 dX2_takeSign_27 (by decide) ?_
    exact e_z F hS (by decide) ⟨Option.some.inj h, rfl⟩ hr0 dX2_takeSign_31 hk0
  replace h := ifF h hc
  refine lv_aload_n F.1 F.2.1 dX2_takeSign_18 rfl (lv_at hl 0 rfl) ?_
  refine lv_iconst (v := (2 : Int32)) F.1 F.2.1 dX2_takeSign_19 (by decide) ?_
  obtain ⟨q2, h_q2, h⟩ := bd h
  refine rVi F G hS hl.1 (c_X2_refuse l g q1.2 τ (2 : Int32) q2 h_q2) lk_X2_58 ⟨rfl, rfl, Nat.le_of_ble_eq_true rfl, Nat.le_of_ble_eq_true rfl⟩ (rc_X2 G hS) rfl rfl (Nat.le_of_ble_eq_true rfl) dX2_takeSign_20 (kIi (fun H locs hS => ?_))
  refine lv_if_eq (tgt := 30) F.1 F.2.1 dX2_takeSign_23 (by decide) (fun hc => ?_) (fun hc => ?_)
  · replace h := ifT h hc
    refine lv_iconst (v := (0 : Int32)) F.1 F.2.1 dX2_takeSign_30 (by decide) ?_
    exact e_z F hS (by decide) ⟨Option.some.inj h, rfl⟩ hr0 dX2_takeSign_31 hk0
  replace h := ifF h hc
  refine lv_iconst (v := (1 : Int32)) F.1 F.2.1 dX2_takeSign_26 (by decide) ?_
  refine lv_goto (tgt := 31) F.1 F.2.1 dX2_takeSign_27 (by decide) ?_
  exact e_z F hS (by decide) ⟨Option.some.inj h, rfl⟩ hr0 dX2_takeSign_31 hk0
def f_X6_markAt_2 (σ : ZI) (b : Nat) (a1 : Int32)  : Nat → Int32 → Option (Int32)
  | 0, _ => none
  | n + 1, v2 => (f_X6_value σ b (2 : Int32)).bind (fun q1 => if q1 ≤ v2 then (some (-4 : Int32)) else ((f_X7_at σ (b + 5) v2).bind (fun q2 => if q2 = a1 then (some v2) else (f_X6_markAt_2 σ b a1 n (v2 + (1 : Int32))))))
def f_X6_markAt (σ : ZI) (b : Nat) (a1 : Int32) : Option (Int32) := if (ar b).1 = 11 then (f_X6_markAt_2 σ b a1 3000 (0 : Int32)) else none
abbrev rm_X6_markAt : Room := { frames := 2, cells := 0, slots := 0, locals := 42 }
set_option maxHeartbeats 4000000 in
set_option maxRecDepth 100000 in
theorem c_X6_markAt (l : Launch) (g : GG) (σ : ZI) (τ : ZL) (b : Nat) (a1 : Int32) (res : Int32) (h : f_X6_markAt σ b a1 = some res) : MI l yX6_markAt cX6_markAt 3 (some .int) rm_X6_markAt g [.ref (gA g b), .int a1] σ τ (fun (r : Int32) (u : ZI × ZL) => r = res ∧ u.1 = σ ∧ u.2 = τ) := by
  refine Met_in (by decide) (Nat.le_of_ble_eq_true rfl) ?_
  intro p e s m args below meth c F G hP hr0 hk0 ls hl
  have hS := WS.start hP
  have hl : lv_has ls 3 [(0, .ref (gA g b)), (1, .int a1)] := hl
  obtain ⟨H, hH⟩ : ∃ H, H = s.heap := ⟨_, rfl⟩
  rw [← hH] at hS ⊢
  clear hH hP
  rw [f_X6_markAt] at h
  obtain ⟨hg_b, h⟩ := gd h
  have w_2 : ∀ (n : Nat) (v2 : Int32), f_X6_markAt_2 σ b a1 n v2 = some res → ∀ (H : Heap) (locs : List Loc) (ls : Array Slot), WS g σ τ s H locs → lv_has ls 3 [(0, .ref (gA g b)), (1, .int a1), (2, .int v2)] → W p l e rm_X6_markAt s m args below meth c H locs 0 0 (MQ below (va_Qi (fun (r : Int32) (u : ZI × ZL) => r = res ∧ u.1 = σ ∧ u.2 = τ) (WQ g) (AA g)) args s 0 0 (AA g)) (F0 m 2 ls []) := by
    intro n
    induction n with
    | zero => intro v2 h; rw [f_X6_markAt_2] at h; cases h
    | succ n ih =>
      intro v2 h H locs ls hS hl
      rw [f_X6_markAt_2] at h
      refine lv_iload_n F.1 F.2.1 dX6_markAt_2 rfl (lv_at hl 2 rfl) ?_
      refine lv_aload_n F.1 F.2.1 dX6_markAt_3 rfl (lv_at hl 0 rfl) ?_
      refine lv_iconst (v := (2 : Int32)) F.1 F.2.1 dX6_markAt_4 (by decide) ?_
      obtain ⟨q1, h_q1, h⟩ := bd h
      refine rVi F G hS hl.1 (c_X6_value l g σ τ b (2 : Int32) q1 h_q1) lk_X6_62 ⟨rfl, rfl, Nat.le_of_ble_eq_true rfl, Nat.le_of_ble_eq_true rfl⟩ (rc_X6 G hS hg_b) rfl rfl (Nat.le_of_ble_eq_true rfl) dX6_markAt_5 (kRi (fun H locs hS => ?_))
      refine lv_icmp_ge (tgt := 31) F.1 F.2.1 dX6_markAt_8 (by decide) (fun hc => ?_) (fun hc => ?_)
      · replace h := ifT h hc
        refine lv_bipush (v := (-4 : Int32)) F.1 F.2.1 dX6_markAt_31 (by decide) ?_
        exact e_i F hS ⟨Option.some.inj h, rfl, rfl⟩ hr0 dX6_markAt_33 hk0
      replace h := ifF h hc
      refine lv_aload_n F.1 F.2.1 dX6_markAt_11 rfl (lv_at hl 0 rfl) ?_
      refine gf_X6_24 F G hS hg_b dX6_markAt_12 ?_
      refine lv_iload_n F.1 F.2.1 dX6_markAt_15 rfl (lv_at hl 2 rfl) ?_
      obtain ⟨q2, h_q2, h⟩ := bd h
      refine rTi F G hS hl.1 (c_X7_at l g σ τ (b + 5) v2 q2 h_q2) lk_X6_48 ⟨rfl, rfl, Nat.le_of_ble_eq_true rfl, Nat.le_of_ble_eq_true rfl⟩  rfl rfl (Nat.le_of_ble_eq_true rfl) dX6_markAt_16 (kRi (fun H locs hS => ?_))
      refine lv_iload_n F.1 F.2.1 dX6_markAt_19 rfl (lv_at hl 1 rfl) ?_
      refine lv_icmp_ne (tgt := 25) F.1 F.2.1 dX6_markAt_20 (by decide) (fun hc => ?_) (fun hc => ?_)
      rotate_left
      · replace h := ifT h hc
        refine lv_iload_n F.1 F.2.1 dX6_markAt_23 rfl (lv_at hl 2 rfl) ?_
        exact e_i F hS ⟨Option.some.inj h, rfl, rfl⟩ hr0 dX6_markAt_24 hk0
      replace h := ifF h hc
      refine lv_iinc (v := (v2 + (1 : Int32))) (lv' := [(2, .int (v2 + (1 : Int32))), (0, .ref (gA g b)), (1, .int a1)]) F.1 F.2.1 dX6_markAt_25 hl (k := 2) rfl rfl (by decide) rfl (fun ls hl => ?_)
      refine lv_goto (tgt := 2) F.1 F.2.1 dX6_markAt_28 (by decide) ?_
      exact ih (v2 + (1 : Int32)) h H locs _ hS (lv_sub hl [1, 2, 0] rfl)
  obtain ⟨locs, hlo⟩ : ∃ z : List Loc, z = [] := ⟨_, rfl⟩
  rw [← hlo] at hS ⊢
  clear hlo
  refine lv_iconst (v := (0 : Int32)) F.1 F.2.1 dX6_markAt_0 (by decide) ?_
  refine lv_istore_n (lv' := [(2, .int (0 : Int32)), (0, .ref (gA g b)), (1, .int a1)]) F.1 F.2.1 dX6_markAt_1 rfl hl (by decide) rfl (fun ls hl => ?_)
  exact w_2 3000 (0 : Int32) h H locs _ hS (lv_sub hl [1, 2, 0] rfl)
def f_X2_readMark (σ : ZI) : Option (Int32 × ZI) := (f_X2_takeNumber σ (1 : Int32) (10 : Int32)).bind (fun q1 => if q1.1 = (-1 : Int32) then (some ((0 : Int32), q1.2)) else ((f_X6_markAt q1.2 28 q1.1).bind (fun q2 => if q2 = (-4 : Int32) then ((f_X2_takeNumber q1.2 (0 : Int32) (10 : Int32)).bind (fun q3 => if q3.1 = (-1 : Int32) then (some ((0 : Int32), q3.2)) else ((f_X6_value q3.2 28 (2 : Int32)).bind (fun q4 => (f_X7_put q3.2 33 q4 q1.1).bind (fun q5 => (f_X7_put q5 34 q4 q3.1).bind (fun q6 => (f_X6_become q6 28 (2 : Int32) (q4 + (1 : Int32))).bind (fun q7 => some ((1 : Int32), q7)))))))) else ((f_X2_refuse q1.2 (4 : Int32)).bind (fun q8 => if q8.1 = 0 ∨ q8.1 = 1 then some (q8.1, q8.2) else none)))))
abbrev rm_X2_readMark : Room := { frames := 4, cells := 0, slots := 0, locals := 84 }
set_option maxHeartbeats 4000000 in
set_option maxRecDepth 100000 in
theorem c_X2_readMark (l : Launch) (g : GG) (σ : ZI) (τ : ZL)  (res : Int32 × ZI) (h : f_X2_readMark σ = some res) : MI l yX2_readMark cX2_readMark 4 (some .boolean) rm_X2_readMark g [.ref (gA g 39)] σ τ (fun (r : Int32) (u : ZI × ZL) => (r, u.1) = res ∧ u.2 = τ) := by
  refine Met_in (by decide) (Nat.le_of_ble_eq_true rfl) ?_
  intro p e s m args below meth c F G hP hr0 hk0 ls hl
  have hS := WS.start hP
  have hl : lv_has ls 4 [(0, .ref (gA g 39))] := hl
  obtain ⟨H, hH⟩ : ∃ H, H = s.heap := ⟨_, rfl⟩
  rw [← hH] at hS ⊢
  clear hH hP
  rw [f_X2_readMark] at h
  obtain ⟨locs, hlo⟩ : ∃ z : List Loc, z = [] := ⟨_, rfl⟩
  rw [← hlo] at hS ⊢
  clear hlo
  refine lv_aload_n F.1 F.2.1 dX2_readMark_0 rfl (lv_at hl 0 rfl) ?_
  refine lv_iconst (v := (1 : Int32)) F.1 F.2.1 dX2_readMark_1 (by decide) ?_
  refine lv_bipush (v := (10 : Int32)) F.1 F.2.1 dX2_readMark_2 (by decide) ?_
  obtain ⟨q1, h_q1, h⟩ := bd h
  refine rVi F G hS hl.1 (c_X2_takeNumber l g σ τ (1 : Int32) (10 : Int32) q1 h_q1) lk_X2_98 ⟨rfl, rfl, Nat.le_of_ble_eq_true rfl, Nat.le_of_ble_eq_true rfl⟩ (rc_X2 G hS) rfl rfl (Nat.le_of_ble_eq_true rfl) dX2_readMark_4 (kIi (fun H locs hS => ?_))
  refine lv_istore_n (lv' := [(1, .int q1.1), (0, .ref (gA g 39))]) F.1 F.2.1 dX2_readMark_7 rfl hl (by decide) rfl (fun ls hl => ?_)
  refine lv_iload_n F.1 F.2.1 dX2_readMark_8 rfl (lv_at hl 0 rfl) ?_
  refine lv_iconst (v := (-1 : Int32)) F.1 F.2.1 dX2_readMark_9 (by decide) ?_
  refine lv_icmp_ne (tgt := 15) F.1 F.2.1 dX2_readMark_10 (by decide) (fun hc => ?_) (fun hc => ?_)
  rotate_left
  · replace h := ifT h hc
    refine lv_iconst (v := (0 : Int32)) F.1 F.2.1 dX2_readMark_13 (by decide) ?_
    exact e_z F hS (by decide) ⟨Option.some.inj h, rfl⟩ hr0 dX2_readMark_14 hk0
  replace h := ifF h hc
  refine lv_aload_n F.1 F.2.1 dX2_readMark_15 rfl (lv_at hl 1 rfl) ?_
  refine gf_X2_21 F G hS dX2_readMark_16 ?_
  refine lv_iload_n F.1 F.2.1 dX2_readMark_19 rfl (lv_at hl 0 rfl) ?_
  obtain ⟨q2, h_q2, h⟩ := bd h
  refine rNi F G hS hl.1 (c_X6_markAt l g q1.2 τ 28 q1.1 q2 h_q2) lk_X2_125 ⟨rfl, rfl, Nat.le_of_ble_eq_true rfl, Nat.le_of_ble_eq_true rfl⟩ (rc_X6 G hS rfl) rfl rfl (Nat.le_of_ble_eq_true rfl) dX2_readMark_20 (kRi (fun H locs hS => ?_))
  refine lv_bipush (v := (-4 : Int32)) F.1 F.2.1 dX2_readMark_23 (by decide) ?_
  refine lv_icmp_eq (tgt := 34) F.1 F.2.1 dX2_readMark_25 (by decide) (fun hc => ?_) (fun hc => ?_)
  rotate_left
  · replace h := ifF h hc
    refine lv_aload_n F.1 F.2.1 dX2_readMark_28 rfl (lv_at hl 1 rfl) ?_
    refine lv_iconst (v := (4 : Int32)) F.1 F.2.1 dX2_readMark_29 (by decide) ?_
    obtain ⟨q8, h_q8, h⟩ := bd h
    refine rVi F G hS hl.1 (c_X2_refuse l g q1.2 τ (4 : Int32) q8 h_q8) lk_X2_58 ⟨rfl, rfl, Nat.le_of_ble_eq_true rfl, Nat.le_of_ble_eq_true rfl⟩ (rc_X2 G hS) rfl rfl (Nat.le_of_ble_eq_true rfl) dX2_readMark_30 (kIi (fun H locs hS => ?_))
    obtain ⟨hz, h⟩ := gd h
    exact e_z F hS hz ⟨Option.some.inj h, rfl⟩ hr0 dX2_readMark_33 hk0
  replace h := ifT h hc
  refine lv_aload_n F.1 F.2.1 dX2_readMark_34 rfl (lv_at hl 1 rfl) ?_
  refine lv_iconst (v := (0 : Int32)) F.1 F.2.1 dX2_readMark_35 (by decide) ?_
  refine lv_bipush (v := (10 : Int32)) F.1 F.2.1 dX2_readMark_36 (by decide) ?_
  obtain ⟨q3, h_q3, h⟩ := bd h
  refine rVi F G hS hl.1 (c_X2_takeNumber l g q1.2 τ (0 : Int32) (10 : Int32) q3 h_q3) lk_X2_98 ⟨rfl, rfl, Nat.le_of_ble_eq_true rfl, Nat.le_of_ble_eq_true rfl⟩ (rc_X2 G hS) rfl rfl (Nat.le_of_ble_eq_true rfl) dX2_readMark_38 (kIi (fun H locs hS => ?_))
  refine lv_istore_n (lv' := [(2, .int q3.1), (1, .int q1.1), (0, .ref (gA g 39))]) F.1 F.2.1 dX2_readMark_41 rfl hl (by decide) rfl (fun ls hl => ?_)
  refine lv_iload_n F.1 F.2.1 dX2_readMark_42 rfl (lv_at hl 0 rfl) ?_
  refine lv_iconst (v := (-1 : Int32)) F.1 F.2.1 dX2_readMark_43 (by decide) ?_
  refine lv_icmp_ne (tgt := 49) F.1 F.2.1 dX2_readMark_44 (by decide) (fun hc => ?_) (fun hc => ?_)
  rotate_left
  · replace h := ifT h hc
    refine lv_iconst (v := (0 : Int32)) F.1 F.2.1 dX2_readMark_47 (by decide) ?_
    exact e_z F hS (by decide) ⟨Option.some.inj h, rfl⟩ hr0 dX2_readMark_48 hk0
  replace h := ifF h hc
  refine lv_aload_n F.1 F.2.1 dX2_readMark_49 rfl (lv_at hl 2 rfl) ?_
  refine gf_X2_21 F G hS dX2_readMark_50 ?_
  refine lv_iconst (v := (2 : Int32)) F.1 F.2.1 dX2_readMark_53 (by decide) ?_
  obtain ⟨q4, h_q4, h⟩ := bd h
  refine rNi F G hS hl.1 (c_X6_value l g q3.2 τ 28 (2 : Int32) q4 h_q4) lk_X2_65 ⟨rfl, rfl, Nat.le_of_ble_eq_true rfl, Nat.le_of_ble_eq_true rfl⟩ (rc_X6 G hS rfl) rfl rfl (Nat.le_of_ble_eq_true rfl) dX2_readMark_54 (kRi (fun H locs hS => ?_))
  refine lv_istore_n (lv' := [(3, .int q4), (2, .int q3.1), (1, .int q1.1), (0, .ref (gA g 39))]) F.1 F.2.1 dX2_readMark_57 rfl hl (by decide) rfl (fun ls hl => ?_)
  refine lv_aload_n F.1 F.2.1 dX2_readMark_58 rfl (lv_at hl 3 rfl) ?_
  refine gf_X2_21 F G hS dX2_readMark_59 ?_
  refine gf_X2_128 F G hS rfl dX2_readMark_62 ?_
  refine lv_iload_n F.1 F.2.1 dX2_readMark_65 rfl (lv_at hl 0 rfl) ?_
  refine lv_iload_n F.1 F.2.1 dX2_readMark_66 rfl (lv_at hl 2 rfl) ?_
  obtain ⟨q5, h_q5, h⟩ := bd h
  refine rTv F G hS hl.1 (c_X7_put l g q3.2 τ 33 q4 q1.1 q5 h_q5) lk_X2_115 ⟨rfl, rfl, Nat.le_of_ble_eq_true rfl, Nat.le_of_ble_eq_true rfl⟩  rfl rfl (Nat.le_of_ble_eq_true rfl) dX2_readMark_67 (kIv (fun H locs hS => ?_))
  refine lv_aload_n F.1 F.2.1 dX2_readMark_70 rfl (lv_at hl 3 rfl) ?_
  refine gf_X2_21 F G hS dX2_readMark_71 ?_
  refine gf_X2_131 F G hS rfl dX2_readMark_74 ?_
  refine lv_iload_n F.1 F.2.1 dX2_readMark_77 rfl (lv_at hl 0 rfl) ?_
  refine lv_iload_n F.1 F.2.1 dX2_readMark_78 rfl (lv_at hl 1 rfl) ?_
  obtain ⟨q6, h_q6, h⟩ := bd h
  refine rTv F G hS hl.1 (c_X7_put l g q5 τ 34 q4 q3.1 q6 h_q6) lk_X2_115 ⟨rfl, rfl, Nat.le_of_ble_eq_true rfl, Nat.le_of_ble_eq_true rfl⟩  rfl rfl (Nat.le_of_ble_eq_true rfl) dX2_readMark_79 (kIv (fun H locs hS => ?_))
  refine lv_aload_n F.1 F.2.1 dX2_readMark_82 rfl (lv_at hl 3 rfl) ?_
  refine gf_X2_21 F G hS dX2_readMark_83 ?_
  refine lv_iconst (v := (2 : Int32)) F.1 F.2.1 dX2_readMark_86 (by decide) ?_
  refine lv_iload_n F.1 F.2.1 dX2_readMark_87 rfl (lv_at hl 0 rfl) ?_
  refine lv_iconst (v := (1 : Int32)) F.1 F.2.1 dX2_readMark_88 (by decide) ?_
  refine lv_iadd F.1 F.2.1 dX2_readMark_89 ?_
  obtain ⟨q7, h_q7, h⟩ := bd h
  refine rNv F G hS hl.1 (c_X6_become l g q6 τ 28 (2 : Int32) (q4 + (1 : Int32)) q7 h_q7) lk_X2_102 ⟨rfl, rfl, Nat.le_of_ble_eq_true rfl, Nat.le_of_ble_eq_true rfl⟩ (rc_X6 G hS rfl) rfl rfl (Nat.le_of_ble_eq_true rfl) dX2_readMark_90 (kIv (fun H locs hS => ?_))
  refine lv_iconst (v := (1 : Int32)) F.1 F.2.1 dX2_readMark_93 (by decide) ?_
  exact e_z F hS (by decide) ⟨Option.some.inj h, rfl⟩ hr0 dX2_readMark_94 hk0
def f_X2_readTown (σ : ZI) : Option (Int32 × ZI) := (f_X2_takeNumber σ (0 : Int32) (99 : Int32)).bind (fun q1 => if q1.1 = (-1 : Int32) then (some ((0 : Int32), q1.2)) else ((f_X2_takeNumber q1.2 (0 : Int32) (9 : Int32)).bind (fun q2 => if q2.1 = (-1 : Int32) then (some ((0 : Int32), q2.2)) else ((f_X6_value q2.2 28 (3 : Int32)).bind (fun q3 => (f_X7_put q2.2 35 q3 q1.1).bind (fun q4 => (f_X7_put q4 36 q3 q2.1).bind (fun q5 => (f_X6_become q5 28 (3 : Int32) (q3 + (1 : Int32))).bind (fun q6 => some ((1 : Int32), q6)))))))))
abbrev rm_X2_readTown : Room := { frames := 4, cells := 0, slots := 0, locals := 84 }
set_option maxHeartbeats 4000000 in
set_option maxRecDepth 100000 in
theorem c_X2_readTown (l : Launch) (g : GG) (σ : ZI) (τ : ZL)  (res : Int32 × ZI) (h : f_X2_readTown σ = some res) : MI l yX2_readTown cX2_readTown 4 (some .boolean) rm_X2_readTown g [.ref (gA g 39)] σ τ (fun (r : Int32) (u : ZI × ZL) => (r, u.1) = res ∧ u.2 = τ) := by
  refine Met_in (by decide) (Nat.le_of_ble_eq_true rfl) ?_
  intro p e s m args below meth c F G hP hr0 hk0 ls hl
  have hS := WS.start hP
  have hl : lv_has ls 4 [(0, .ref (gA g 39))] := hl
  obtain ⟨H, hH⟩ : ∃ H, H = s.heap := ⟨_, rfl⟩
  rw [← hH] at hS ⊢
  clear hH hP
  rw [f_X2_readTown] at h
  obtain ⟨locs, hlo⟩ : ∃ z : List Loc, z = [] := ⟨_, rfl⟩
  rw [← hlo] at hS ⊢
  clear hlo
  refine lv_aload_n F.1 F.2.1 dX2_readTown_0 rfl (lv_at hl 0 rfl) ?_
  refine lv_iconst (v := (0 : Int32)) F.1 F.2.1 dX2_readTown_1 (by decide) ?_
  refine lv_bipush (v := (99 : Int32)) F.1 F.2.1 dX2_readTown_2 (by decide) ?_
  obtain ⟨q1, h_q1, h⟩ := bd h
  refine rVi F G hS hl.1 (c_X2_takeNumber l g σ τ (0 : Int32) (99 : Int32) q1 h_q1) lk_X2_98 ⟨rfl, rfl, Nat.le_of_ble_eq_true rfl, Nat.le_of_ble_eq_true rfl⟩ (rc_X2 G hS) rfl rfl (Nat.le_of_ble_eq_true rfl) dX2_readTown_4 (kIi (fun H locs hS => ?_))
  refine lv_istore_n (lv' := [(1, .int q1.1), (0, .ref (gA g 39))]) F.1 F.2.1 dX2_readTown_7 rfl hl (by decide) rfl (fun ls hl => ?_)
  refine lv_iload_n F.1 F.2.1 dX2_readTown_8 rfl (lv_at hl 0 rfl) ?_
  refine lv_iconst (v := (-1 : Int32)) F.1 F.2.1 dX2_readTown_9 (by decide) ?_
  refine lv_icmp_ne (tgt := 15) F.1 F.2.1 dX2_readTown_10 (by decide) (fun hc => ?_) (fun hc => ?_)
  rotate_left
  · replace h := ifT h hc
    refine lv_iconst (v := (0 : Int32)) F.1 F.2.1 dX2_readTown_13 (by decide) ?_
    exact e_z F hS (by decide) ⟨Option.some.inj h, rfl⟩ hr0 dX2_readTown_14 hk0
  replace h := ifF h hc
  refine lv_aload_n F.1 F.2.1 dX2_readTown_15 rfl (lv_at hl 1 rfl) ?_
  refine lv_iconst (v := (0 : Int32)) F.1 F.2.1 dX2_readTown_16 (by decide) ?_
  refine lv_bipush (v := (9 : Int32)) F.1 F.2.1 dX2_readTown_17 (by decide) ?_
  obtain ⟨q2, h_q2, h⟩ := bd h
  refine rVi F G hS hl.1 (c_X2_takeNumber l g q1.2 τ (0 : Int32) (9 : Int32) q2 h_q2) lk_X2_98 ⟨rfl, rfl, Nat.le_of_ble_eq_true rfl, Nat.le_of_ble_eq_true rfl⟩ (rc_X2 G hS) rfl rfl (Nat.le_of_ble_eq_true rfl) dX2_readTown_19 (kIi (fun H locs hS => ?_))
  refine lv_istore_n (lv' := [(2, .int q2.1), (1, .int q1.1), (0, .ref (gA g 39))]) F.1 F.2.1 dX2_readTown_22 rfl hl (by decide) rfl (fun ls hl => ?_)
  refine lv_iload_n F.1 F.2.1 dX2_readTown_23 rfl (lv_at hl 0 rfl) ?_
  refine lv_iconst (v := (-1 : Int32)) F.1 F.2.1 dX2_readTown_24 (by decide) ?_
  refine lv_icmp_ne (tgt := 30) F.1 F.2.1 dX2_readTown_25 (by decide) (fun hc => ?_) (fun hc => ?_)
  rotate_left
  · replace h := ifT h hc
    refine lv_iconst (v := (0 : Int32)) F.1 F.2.1 dX2_readTown_28 (by decide) ?_
    exact e_z F hS (by decide) ⟨Option.some.inj h, rfl⟩ hr0 dX2_readTown_29 hk0
  replace h := ifF h hc
  refine lv_aload_n F.1 F.2.1 dX2_readTown_30 rfl (lv_at hl 2 rfl) ?_
  refine gf_X2_21 F G hS dX2_readTown_31 ?_
  refine lv_iconst (v := (3 : Int32)) F.1 F.2.1 dX2_readTown_34 (by decide) ?_
  obtain ⟨q3, h_q3, h⟩ := bd h
  refine rNi F G hS hl.1 (c_X6_value l g q2.2 τ 28 (3 : Int32) q3 h_q3) lk_X2_65 ⟨rfl, rfl, Nat.le_of_ble_eq_true rfl, Nat.le_of_ble_eq_true rfl⟩ (rc_X6 G hS rfl) rfl rfl (Nat.le_of_ble_eq_true rfl) dX2_readTown_35 (kRi (fun H locs hS => ?_))
  refine lv_istore_n (lv' := [(3, .int q3), (2, .int q2.1), (1, .int q1.1), (0, .ref (gA g 39))]) F.1 F.2.1 dX2_readTown_38 rfl hl (by decide) rfl (fun ls hl => ?_)
  refine lv_aload_n F.1 F.2.1 dX2_readTown_39 rfl (lv_at hl 3 rfl) ?_
  refine gf_X2_21 F G hS dX2_readTown_40 ?_
  refine gf_X2_134 F G hS rfl dX2_readTown_43 ?_
  refine lv_iload_n F.1 F.2.1 dX2_readTown_46 rfl (lv_at hl 0 rfl) ?_
  refine lv_iload_n F.1 F.2.1 dX2_readTown_47 rfl (lv_at hl 2 rfl) ?_
  obtain ⟨q4, h_q4, h⟩ := bd h
  refine rTv F G hS hl.1 (c_X7_put l g q2.2 τ 35 q3 q1.1 q4 h_q4) lk_X2_115 ⟨rfl, rfl, Nat.le_of_ble_eq_true rfl, Nat.le_of_ble_eq_true rfl⟩  rfl rfl (Nat.le_of_ble_eq_true rfl) dX2_readTown_48 (kIv (fun H locs hS => ?_))
  refine lv_aload_n F.1 F.2.1 dX2_readTown_51 rfl (lv_at hl 3 rfl) ?_
  refine gf_X2_21 F G hS dX2_readTown_52 ?_
  refine gf_X2_137 F G hS rfl dX2_readTown_55 ?_
  refine lv_iload_n F.1 F.2.1 dX2_readTown_58 rfl (lv_at hl 0 rfl) ?_
  refine lv_iload_n F.1 F.2.1 dX2_readTown_59 rfl (lv_at hl 1 rfl) ?_
  obtain ⟨q5, h_q5, h⟩ := bd h
  refine rTv F G hS hl.1 (c_X7_put l g q4 τ 36 q3 q2.1 q5 h_q5) lk_X2_115 ⟨rfl, rfl, Nat.le_of_ble_eq_true rfl, Nat.le_of_ble_eq_true rfl⟩  rfl rfl (Nat.le_of_ble_eq_true rfl) dX2_readTown_60 (kIv (fun H locs hS => ?_))
  refine lv_aload_n F.1 F.2.1 dX2_readTown_63 rfl (lv_at hl 3 rfl) ?_
  refine gf_X2_21 F G hS dX2_readTown_64 ?_
  refine lv_iconst (v := (3 : Int32)) F.1 F.2.1 dX2_readTown_67 (by decide) ?_
  refine lv_iload_n F.1 F.2.1 dX2_readTown_68 rfl (lv_at hl 0 rfl) ?_
  refine lv_iconst (v := (1 : Int32)) F.1 F.2.1 dX2_readTown_69 (by decide) ?_
  refine lv_iadd F.1 F.2.1 dX2_readTown_70 ?_
  obtain ⟨q6, h_q6, h⟩ := bd h
  refine rNv F G hS hl.1 (c_X6_become l g q5 τ 28 (3 : Int32) (q3 + (1 : Int32)) q6 h_q6) lk_X2_102 ⟨rfl, rfl, Nat.le_of_ble_eq_true rfl, Nat.le_of_ble_eq_true rfl⟩ (rc_X6 G hS rfl) rfl rfl (Nat.le_of_ble_eq_true rfl) dX2_readTown_71 (kIv (fun H locs hS => ?_))
  refine lv_iconst (v := (1 : Int32)) F.1 F.2.1 dX2_readTown_74 (by decide) ?_
  exact e_z F hS (by decide) ⟨Option.some.inj h, rfl⟩ hr0 dX2_readTown_75 hk0
def f_X6_isSignalAt (σ : ZI) (b : Nat) (a1 : Int32) : Option (Int32) := if (ar b).1 = 11 then (if a1 < (1 : Int32) then (some (0 : Int32)) else ((f_X6_value σ b (4 : Int32)).bind (fun q1 => if ((q1 >>> ((a1 - (1 : Int32)) &&& 31)) &&& (1 : Int32)) = (1 : Int32) then (some (1 : Int32)) else (some (0 : Int32))))) else none
abbrev rm_X6_isSignalAt : Room := { frames := 2, cells := 0, slots := 0, locals := 42 }
set_option maxHeartbeats 4000000 in
set_option maxRecDepth 100000 in
theorem c_X6_isSignalAt (l : Launch) (g : GG) (σ : ZI) (τ : ZL) (b : Nat) (a1 : Int32) (res : Int32) (h : f_X6_isSignalAt σ b a1 = some res) : MI l yX6_isSignalAt cX6_isSignalAt 2 (some .boolean) rm_X6_isSignalAt g [.ref (gA g b), .int a1] σ τ (fun (r : Int32) (u : ZI × ZL) => r = res ∧ u.1 = σ ∧ u.2 = τ) := by
  refine Met_in (by decide) (Nat.le_of_ble_eq_true rfl) ?_
  intro p e s m args below meth c F G hP hr0 hk0 ls hl
  have hS := WS.start hP
  have hl : lv_has ls 2 [(0, .ref (gA g b)), (1, .int a1)] := hl
  obtain ⟨H, hH⟩ : ∃ H, H = s.heap := ⟨_, rfl⟩
  rw [← hH] at hS ⊢
  clear hH hP
  rw [f_X6_isSignalAt] at h
  obtain ⟨hg_b, h⟩ := gd h
  obtain ⟨locs, hlo⟩ : ∃ z : List Loc, z = [] := ⟨_, rfl⟩
  rw [← hlo] at hS ⊢
  clear hlo
  refine lv_iload_n F.1 F.2.1 dX6_isSignalAt_0 rfl (lv_at hl 1 rfl) ?_
  refine lv_iconst (v := (1 : Int32)) F.1 F.2.1 dX6_isSignalAt_1 (by decide) ?_
  refine lv_icmp_lt (tgt := 24) F.1 F.2.1 dX6_isSignalAt_2 (by decide) (fun hc => ?_) (fun hc => ?_)
  · replace h := ifT h hc
    refine lv_iconst (v := (0 : Int32)) F.1 F.2.1 dX6_isSignalAt_24 (by decide) ?_
    exact e_z F hS (by decide) ⟨Option.some.inj h, rfl, rfl⟩ hr0 dX6_isSignalAt_25 hk0
  replace h := ifF h hc
  refine lv_aload_n F.1 F.2.1 dX6_isSignalAt_5 rfl (lv_at hl 0 rfl) ?_
  refine lv_iconst (v := (4 : Int32)) F.1 F.2.1 dX6_isSignalAt_6 (by decide) ?_
  obtain ⟨q1, h_q1, h⟩ := bd h
  refine rVi F G hS hl.1 (c_X6_value l g σ τ b (4 : Int32) q1 h_q1) lk_X6_62 ⟨rfl, rfl, Nat.le_of_ble_eq_true rfl, Nat.le_of_ble_eq_true rfl⟩ (rc_X6 G hS hg_b) rfl rfl (Nat.le_of_ble_eq_true rfl) dX6_isSignalAt_7 (kRi (fun H locs hS => ?_))
  refine lv_iload_n F.1 F.2.1 dX6_isSignalAt_10 rfl (lv_at hl 1 rfl) ?_
  refine lv_iconst (v := (1 : Int32)) F.1 F.2.1 dX6_isSignalAt_11 (by decide) ?_
  refine lv_isub F.1 F.2.1 dX6_isSignalAt_12 ?_
  refine lv_ishr F.1 F.2.1 dX6_isSignalAt_13 ?_
  refine lv_iconst (v := (1 : Int32)) F.1 F.2.1 dX6_isSignalAt_14 (by decide) ?_
  refine lv_iand F.1 F.2.1 dX6_isSignalAt_15 ?_
  refine lv_iconst (v := (1 : Int32)) F.1 F.2.1 dX6_isSignalAt_16 (by decide) ?_
  refine lv_icmp_ne (tgt := 24) F.1 F.2.1 dX6_isSignalAt_17 (by decide) (fun hc => ?_) (fun hc => ?_)
  · replace h := ifF h hc
    refine lv_iconst (v := (0 : Int32)) F.1 F.2.1 dX6_isSignalAt_24 (by decide) ?_
    exact e_z F hS (by decide) ⟨Option.some.inj h, rfl, rfl⟩ hr0 dX6_isSignalAt_25 hk0
  replace h := ifT h hc
  refine lv_iconst (v := (1 : Int32)) F.1 F.2.1 dX6_isSignalAt_20 (by decide) ?_
  refine lv_goto (tgt := 25) F.1 F.2.1 dX6_isSignalAt_21 (by decide) ?_
  exact e_z F hS (by decide) ⟨Option.some.inj h, rfl, rfl⟩ hr0 dX6_isSignalAt_25 hk0
def f_X2_readSignal (σ : ZI) : Option (Int32 × ZI) := (f_X2_takeNumber σ (1 : Int32) (10 : Int32)).bind (fun q1 => if q1.1 = (-1 : Int32) then (some ((0 : Int32), q1.2)) else ((f_X6_isSignalAt q1.2 28 q1.1).bind (fun q2 => if q2 = 0 then ((f_X6_value q1.2 28 (4 : Int32)).bind (fun q3 => (f_X6_become q1.2 28 (4 : Int32) (q3 ||| ((1 : Int32) <<< ((q1.1 - (1 : Int32)) &&& 31)))).bind (fun q4 => some ((1 : Int32), q4)))) else ((f_X2_refuse q1.2 (4 : Int32)).bind (fun q5 => if q5.1 = 0 ∨ q5.1 = 1 then some (q5.1, q5.2) else none)))))
abbrev rm_X2_readSignal : Room := { frames := 4, cells := 0, slots := 0, locals := 84 }
set_option maxHeartbeats 4000000 in
set_option maxRecDepth 100000 in
theorem c_X2_readSignal (l : Launch) (g : GG) (σ : ZI) (τ : ZL)  (res : Int32 × ZI) (h : f_X2_readSignal σ = some res) : MI l yX2_readSignal cX2_readSignal 2 (some .boolean) rm_X2_readSignal g [.ref (gA g 39)] σ τ (fun (r : Int32) (u : ZI × ZL) => (r, u.1) = res ∧ u.2 = τ) := by
  refine Met_in (by decide) (Nat.le_of_ble_eq_true rfl) ?_
  intro p e s m args below meth c F G hP hr0 hk0 ls hl
  have hS := WS.start hP
  have hl : lv_has ls 2 [(0, .ref (gA g 39))] := hl
  obtain ⟨H, hH⟩ : ∃ H, H = s.heap := ⟨_, rfl⟩
  rw [← hH] at hS ⊢
  clear hH hP
  rw [f_X2_readSignal] at h
  obtain ⟨locs, hlo⟩ : ∃ z : List Loc, z = [] := ⟨_, rfl⟩
  rw [← hlo] at hS ⊢
  clear hlo
  refine lv_aload_n F.1 F.2.1 dX2_readSignal_0 rfl (lv_at hl 0 rfl) ?_
  refine lv_iconst (v := (1 : Int32)) F.1 F.2.1 dX2_readSignal_1 (by decide) ?_
  refine lv_bipush (v := (10 : Int32)) F.1 F.2.1 dX2_readSignal_2 (by decide) ?_
  obtain ⟨q1, h_q1, h⟩ := bd h
  refine rVi F G hS hl.1 (c_X2_takeNumber l g σ τ (1 : Int32) (10 : Int32) q1 h_q1) lk_X2_98 ⟨rfl, rfl, Nat.le_of_ble_eq_true rfl, Nat.le_of_ble_eq_true rfl⟩ (rc_X2 G hS) rfl rfl (Nat.le_of_ble_eq_true rfl) dX2_readSignal_4 (kIi (fun H locs hS => ?_))
  refine lv_istore_n (lv' := [(1, .int q1.1), (0, .ref (gA g 39))]) F.1 F.2.1 dX2_readSignal_7 rfl hl (by decide) rfl (fun ls hl => ?_)
  refine lv_iload_n F.1 F.2.1 dX2_readSignal_8 rfl (lv_at hl 0 rfl) ?_
  refine lv_iconst (v := (-1 : Int32)) F.1 F.2.1 dX2_readSignal_9 (by decide) ?_
  refine lv_icmp_ne (tgt := 15) F.1 F.2.1 dX2_readSignal_10 (by decide) (fun hc => ?_) (fun hc => ?_)
  rotate_left
  · replace h := ifT h hc
    refine lv_iconst (v := (0 : Int32)) F.1 F.2.1 dX2_readSignal_13 (by decide) ?_
    exact e_z F hS (by decide) ⟨Option.some.inj h, rfl⟩ hr0 dX2_readSignal_14 hk0
  replace h := ifF h hc
  refine lv_aload_n F.1 F.2.1 dX2_readSignal_15 rfl (lv_at hl 1 rfl) ?_
  refine gf_X2_21 F G hS dX2_readSignal_16 ?_
  refine lv_iload_n F.1 F.2.1 dX2_readSignal_19 rfl (lv_at hl 0 rfl) ?_
  obtain ⟨q2, h_q2, h⟩ := bd h
  refine rNi F G hS hl.1 (c_X6_isSignalAt l g q1.2 τ 28 q1.1 q2 h_q2) lk_X2_140 ⟨rfl, rfl, Nat.le_of_ble_eq_true rfl, Nat.le_of_ble_eq_true rfl⟩ (rc_X6 G hS rfl) rfl rfl (Nat.le_of_ble_eq_true rfl) dX2_readSignal_20 (kRi (fun H locs hS => ?_))
  refine lv_if_eq (tgt := 32) F.1 F.2.1 dX2_readSignal_23 (by decide) (fun hc => ?_) (fun hc => ?_)
  rotate_left
  · replace h := ifF h hc
    refine lv_aload_n F.1 F.2.1 dX2_readSignal_26 rfl (lv_at hl 1 rfl) ?_
    refine lv_iconst (v := (4 : Int32)) F.1 F.2.1 dX2_readSignal_27 (by decide) ?_
    obtain ⟨q5, h_q5, h⟩ := bd h
    refine rVi F G hS hl.1 (c_X2_refuse l g q1.2 τ (4 : Int32) q5 h_q5) lk_X2_58 ⟨rfl, rfl, Nat.le_of_ble_eq_true rfl, Nat.le_of_ble_eq_true rfl⟩ (rc_X2 G hS) rfl rfl (Nat.le_of_ble_eq_true rfl) dX2_readSignal_28 (kIi (fun H locs hS => ?_))
    obtain ⟨hz, h⟩ := gd h
    exact e_z F hS hz ⟨Option.some.inj h, rfl⟩ hr0 dX2_readSignal_31 hk0
  replace h := ifT h hc
  refine lv_aload_n F.1 F.2.1 dX2_readSignal_32 rfl (lv_at hl 1 rfl) ?_
  refine gf_X2_21 F G hS dX2_readSignal_33 ?_
  refine lv_iconst (v := (4 : Int32)) F.1 F.2.1 dX2_readSignal_36 (by decide) ?_
  refine lv_aload_n F.1 F.2.1 dX2_readSignal_37 rfl (lv_at hl 1 rfl) ?_
  refine gf_X2_21 F G hS dX2_readSignal_38 ?_
  refine lv_iconst (v := (4 : Int32)) F.1 F.2.1 dX2_readSignal_41 (by decide) ?_
  obtain ⟨q3, h_q3, h⟩ := bd h
  refine rNi F G hS hl.1 (c_X6_value l g q1.2 τ 28 (4 : Int32) q3 h_q3) lk_X2_65 ⟨rfl, rfl, Nat.le_of_ble_eq_true rfl, Nat.le_of_ble_eq_true rfl⟩ (rc_X6 G hS rfl) rfl rfl (Nat.le_of_ble_eq_true rfl) dX2_readSignal_42 (kRi (fun H locs hS => ?_))
  refine lv_iconst (v := (1 : Int32)) F.1 F.2.1 dX2_readSignal_45 (by decide) ?_
  refine lv_iload_n F.1 F.2.1 dX2_readSignal_46 rfl (lv_at hl 0 rfl) ?_
  refine lv_iconst (v := (1 : Int32)) F.1 F.2.1 dX2_readSignal_47 (by decide) ?_
  refine lv_isub F.1 F.2.1 dX2_readSignal_48 ?_
  refine lv_ishl F.1 F.2.1 dX2_readSignal_49 ?_
  refine lv_ior F.1 F.2.1 dX2_readSignal_50 ?_
  obtain ⟨q4, h_q4, h⟩ := bd h
  refine rNv F G hS hl.1 (c_X6_become l g q1.2 τ 28 (4 : Int32) (q3 ||| ((1 : Int32) <<< ((q1.1 - (1 : Int32)) &&& 31))) q4 h_q4) lk_X2_102 ⟨rfl, rfl, Nat.le_of_ble_eq_true rfl, Nat.le_of_ble_eq_true rfl⟩ (rc_X6 G hS rfl) rfl rfl (Nat.le_of_ble_eq_true rfl) dX2_readSignal_51 (kIv (fun H locs hS => ?_))
  refine lv_iconst (v := (1 : Int32)) F.1 F.2.1 dX2_readSignal_54 (by decide) ?_
  exact e_z F hS (by decide) ⟨Option.some.inj h, rfl⟩ hr0 dX2_readSignal_55 hk0
def f_X2_readRule_27 (a1 : Int32)  (σ : ZI) (s0 : Int32) : Option (Int32 × ZI) := (f_X7_atS 102 a1).bind (fun q2 => (f_X2_takeNumber σ s0 q2).bind (fun q3 => if q3.1 = (-1 : Int32) then (some ((0 : Int32), q3.2)) else ((f_X6_become q3.2 28 a1 q3.1).bind (fun q4 => some ((1 : Int32), q4)))))
def f_X2_readRule (σ : ZI) (a1 : Int32) : Option (Int32 × ZI) := if a1 = (9 : Int32) then ((f_X6_value σ 28 (8 : Int32)).bind (fun q5 => f_X2_readRule_27 a1 σ (q5 + (1 : Int32)))) else ((f_X7_atS 101 a1).bind (fun q1 => f_X2_readRule_27 a1 σ q1))
abbrev rm_X2_readRule : Room := { frames := 4, cells := 0, slots := 0, locals := 84 }
set_option maxHeartbeats 4000000 in
set_option maxRecDepth 100000 in
theorem c_X2_readRule (l : Launch) (g : GG) (σ : ZI) (τ : ZL) (a1 : Int32) (res : Int32 × ZI) (h : f_X2_readRule σ a1 = some res) : MI l yX2_readRule cX2_readRule 4 (some .boolean) rm_X2_readRule g [.ref (gA g 39), .int a1] σ τ (fun (r : Int32) (u : ZI × ZL) => (r, u.1) = res ∧ u.2 = τ) := by
  refine Met_in (by decide) (Nat.le_of_ble_eq_true rfl) ?_
  intro p e s m args below meth c F G hP hr0 hk0 ls hl
  have hS := WS.start hP
  have hl : lv_has ls 4 [(0, .ref (gA g 39)), (1, .int a1)] := hl
  obtain ⟨H, hH⟩ : ∃ H, H = s.heap := ⟨_, rfl⟩
  rw [← hH] at hS ⊢
  clear hH hP
  rw [f_X2_readRule] at h
  have w_27 : ∀ (σ : ZI) (s0 : Int32), f_X2_readRule_27 a1 σ s0 = some res → ∀ (H : Heap) (locs : List Loc) (ls : Array Slot), WS g σ τ s H locs → lv_has ls 4 [(0, .ref (gA g 39)), (1, .int a1)] → W p l e rm_X2_readRule s m args below meth c H locs 0 0 (MQ below (va_Qi (fun (r : Int32) (u : ZI × ZL) => (r, u.1) = res ∧ u.2 = τ) (WQ g) (AA g)) args s 0 0 (AA g)) (F0 m 27 ls [.int s0]) := by
    intro  σ s0 h H locs ls hS hl
    rw [f_X2_readRule_27] at h
    refine lv_istore_n (lv' := [(2, .int s0), (0, .ref (gA g 39)), (1, .int a1)]) F.1 F.2.1 dX2_readRule_27 rfl hl (by decide) rfl (fun ls hl => ?_)
    refine lv_aload_n F.1 F.2.1 dX2_readRule_28 rfl (lv_at hl 1 rfl) ?_
    refine lv_iload_n F.1 F.2.1 dX2_readRule_29 rfl (lv_at hl 0 rfl) ?_
    refine gs_X2_69 F G hS dX2_readRule_30 ?_
    refine lv_iload_n F.1 F.2.1 dX2_readRule_33 rfl (lv_at hl 2 rfl) ?_
    obtain ⟨q2, h_q2, h⟩ := bd h
    refine rTi F G hS hl.1 (c_X7_atS l g σ τ 102 a1 q2 h_q2) lk_X2_73 ⟨rfl, rfl, Nat.le_of_ble_eq_true rfl, Nat.le_of_ble_eq_true rfl⟩  rfl rfl (Nat.le_of_ble_eq_true rfl) dX2_readRule_34 (kRi (fun H locs hS => ?_))
    obtain ⟨q3, h_q3, h⟩ := bd h
    refine rVi F G hS hl.1 (c_X2_takeNumber l g σ τ s0 q2 q3 h_q3) lk_X2_98 ⟨rfl, rfl, Nat.le_of_ble_eq_true rfl, Nat.le_of_ble_eq_true rfl⟩ (rc_X2 G hS) rfl rfl (Nat.le_of_ble_eq_true rfl) dX2_readRule_37 (kIi (fun H locs hS => ?_))
    refine lv_istore_n (lv' := [(3, .int q3.1), (2, .int s0), (0, .ref (gA g 39)), (1, .int a1)]) F.1 F.2.1 dX2_readRule_40 rfl hl (by decide) rfl (fun ls hl => ?_)
    refine lv_iload_n F.1 F.2.1 dX2_readRule_41 rfl (lv_at hl 0 rfl) ?_
    refine lv_iconst (v := (-1 : Int32)) F.1 F.2.1 dX2_readRule_42 (by decide) ?_
    refine lv_icmp_ne (tgt := 48) F.1 F.2.1 dX2_readRule_43 (by decide) (fun hc => ?_) (fun hc => ?_)
    rotate_left
    · replace h := ifT h hc
      refine lv_iconst (v := (0 : Int32)) F.1 F.2.1 dX2_readRule_46 (by decide) ?_
      exact e_z F hS (by decide) ⟨Option.some.inj h, rfl⟩ hr0 dX2_readRule_47 hk0
    replace h := ifF h hc
    refine lv_aload_n F.1 F.2.1 dX2_readRule_48 rfl (lv_at hl 2 rfl) ?_
    refine gf_X2_21 F G hS dX2_readRule_49 ?_
    refine lv_iload_n F.1 F.2.1 dX2_readRule_52 rfl (lv_at hl 3 rfl) ?_
    refine lv_iload_n F.1 F.2.1 dX2_readRule_53 rfl (lv_at hl 0 rfl) ?_
    obtain ⟨q4, h_q4, h⟩ := bd h
    refine rNv F G hS hl.1 (c_X6_become l g q3.2 τ 28 a1 q3.1 q4 h_q4) lk_X2_102 ⟨rfl, rfl, Nat.le_of_ble_eq_true rfl, Nat.le_of_ble_eq_true rfl⟩ (rc_X6 G hS rfl) rfl rfl (Nat.le_of_ble_eq_true rfl) dX2_readRule_54 (kIv (fun H locs hS => ?_))
    refine lv_iconst (v := (1 : Int32)) F.1 F.2.1 dX2_readRule_57 (by decide) ?_
    exact e_z F hS (by decide) ⟨Option.some.inj h, rfl⟩ hr0 dX2_readRule_58 hk0
  obtain ⟨locs, hlo⟩ : ∃ z : List Loc, z = [] := ⟨_, rfl⟩
  rw [← hlo] at hS ⊢
  clear hlo
  refine lv_iload_n F.1 F.2.1 dX2_readRule_0 rfl (lv_at hl 1 rfl) ?_
  refine lv_bipush (v := (9 : Int32)) F.1 F.2.1 dX2_readRule_1 (by decide) ?_
  refine lv_icmp_ne (tgt := 20) F.1 F.2.1 dX2_readRule_3 (by decide) (fun hc => ?_) (fun hc => ?_)
  · replace h := ifF h hc
    refine gs_X2_95 F G hS dX2_readRule_20 ?_
    refine lv_iload_n F.1 F.2.1 dX2_readRule_23 rfl (lv_at hl 1 rfl) ?_
    obtain ⟨q1, h_q1, h⟩ := bd h
    refine rTi F G hS hl.1 (c_X7_atS l g σ τ 101 a1 q1 h_q1) lk_X2_73 ⟨rfl, rfl, Nat.le_of_ble_eq_true rfl, Nat.le_of_ble_eq_true rfl⟩  rfl rfl (Nat.le_of_ble_eq_true rfl) dX2_readRule_24 (kRi (fun H locs hS => ?_))
    exact w_27 σ q1 h H locs _ hS (lv_sub hl [0, 1] rfl)
  replace h := ifT h hc
  refine lv_aload_n F.1 F.2.1 dX2_readRule_6 rfl (lv_at hl 0 rfl) ?_
  refine gf_X2_21 F G hS dX2_readRule_7 ?_
  refine lv_bipush (v := (8 : Int32)) F.1 F.2.1 dX2_readRule_10 (by decide) ?_
  obtain ⟨q5, h_q5, h⟩ := bd h
  refine rNi F G hS hl.1 (c_X6_value l g σ τ 28 (8 : Int32) q5 h_q5) lk_X2_65 ⟨rfl, rfl, Nat.le_of_ble_eq_true rfl, Nat.le_of_ble_eq_true rfl⟩ (rc_X6 G hS rfl) rfl rfl (Nat.le_of_ble_eq_true rfl) dX2_readRule_12 (kRi (fun H locs hS => ?_))
  refine lv_iconst (v := (1 : Int32)) F.1 F.2.1 dX2_readRule_15 (by decide) ?_
  refine lv_iadd F.1 F.2.1 dX2_readRule_16 ?_
  refine lv_goto (tgt := 27) F.1 F.2.1 dX2_readRule_17 (by decide) ?_
  exact w_27 σ (q5 + (1 : Int32)) h H locs _ hS (lv_sub hl [0, 1] rfl)
def f_X2_readLine_89   (σ : ZI) (v1 : Int32) : Option (Int32 × ZI) := lt_ (va_up σ 39 (upd (σ 39) 2 ((σ 39 2) ||| ((1 : Int32) <<< (v1 &&& 31))))) (fun σ4 => if v1 = (1 : Int32) then ((f_X2_readArm σ4).bind (fun q5 => if q5.1 = 0 then (some ((0 : Int32), q5.2)) else ((f_X2_takeSign q5.2).bind (fun q6 => if q6.1 = 0 then (some ((0 : Int32), q6.2)) else (some ((1 : Int32), q6.2)))))) else (if v1 = (2 : Int32) then ((f_X2_readMark σ4).bind (fun q7 => if q7.1 = 0 then (some ((0 : Int32), q7.2)) else ((f_X2_takeSign q7.2).bind (fun q8 => if q8.1 = 0 then (some ((0 : Int32), q8.2)) else (some ((1 : Int32), q8.2)))))) else (if v1 = (3 : Int32) then ((f_X2_readTown σ4).bind (fun q9 => if q9.1 = 0 then (some ((0 : Int32), q9.2)) else ((f_X2_takeSign q9.2).bind (fun q10 => if q10.1 = 0 then (some ((0 : Int32), q10.2)) else (some ((1 : Int32), q10.2)))))) else (if v1 = (4 : Int32) then ((f_X2_readSignal σ4).bind (fun q11 => if q11.1 = 0 then (some ((0 : Int32), q11.2)) else ((f_X2_takeSign q11.2).bind (fun q12 => if q12.1 = 0 then (some ((0 : Int32), q12.2)) else (some ((1 : Int32), q12.2)))))) else (if v1 = (5 : Int32) then ((f_X2_readRule σ4 v1).bind (fun q13 => if q13.1 = 0 then (some ((0 : Int32), q13.2)) else ((f_X2_takeSign q13.2).bind (fun q14 => if q14.1 = 0 then (some ((0 : Int32), q14.2)) else (some ((1 : Int32), q14.2)))))) else (if v1 = (6 : Int32) then ((f_X2_readRule σ4 v1).bind (fun q15 => if q15.1 = 0 then (some ((0 : Int32), q15.2)) else ((f_X2_takeSign q15.2).bind (fun q16 => if q16.1 = 0 then (some ((0 : Int32), q16.2)) else (some ((1 : Int32), q16.2)))))) else (if v1 = (7 : Int32) then ((f_X2_readRule σ4 v1).bind (fun q17 => if q17.1 = 0 then (some ((0 : Int32), q17.2)) else ((f_X2_takeSign q17.2).bind (fun q18 => if q18.1 = 0 then (some ((0 : Int32), q18.2)) else (some ((1 : Int32), q18.2)))))) else (if v1 = (8 : Int32) then ((f_X2_readRule σ4 (8 : Int32)).bind (fun q19 => if q19.1 = 0 then (some ((0 : Int32), q19.2)) else ((f_X2_readRule q19.2 (9 : Int32)).bind (fun q20 => if q20.1 = 0 then (some ((0 : Int32), q20.2)) else ((f_X2_takeSign q20.2).bind (fun q21 => if q21.1 = 0 then (some ((0 : Int32), q21.2)) else (some ((1 : Int32), q21.2)))))))) else (if v1 = (9 : Int32) then ((f_X2_readRule σ4 v1).bind (fun q22 => if q22.1 = 0 then (some ((0 : Int32), q22.2)) else ((f_X2_takeSign q22.2).bind (fun q23 => if q23.1 = 0 then (some ((0 : Int32), q23.2)) else (some ((1 : Int32), q23.2)))))) else (if v1 = (10 : Int32) then ((f_X2_readRule σ4 (10 : Int32)).bind (fun q24 => if q24.1 = 0 then (some ((0 : Int32), q24.2)) else ((f_X2_readRule q24.2 (11 : Int32)).bind (fun q25 => if q25.1 = 0 then (some ((0 : Int32), q25.2)) else ((f_X2_takeSign q25.2).bind (fun q26 => if q26.1 = 0 then (some ((0 : Int32), q26.2)) else (some ((1 : Int32), q26.2)))))))) else ((f_X2_readRule σ4 v1).bind (fun q27 => if q27.1 = 0 then (some ((0 : Int32), q27.2)) else ((f_X2_takeSign q27.2).bind (fun q28 => if q28.1 = 0 then (some ((0 : Int32), q28.2)) else (some ((1 : Int32), q28.2))))))))))))))))
def f_X2_readLine (σ : ZI) : Option (Int32 × ZI) := (f_X2_takeToken σ).bind (fun q1 => if q1.1 = 0 then (some ((0 : Int32), q1.2)) else (if (q1.2 37 3) = (4 : Int32) then (some ((0 : Int32), q1.2)) else ((f_X2_lineNamed q1.2).bind (fun q2 => if q2 = (-4 : Int32) then ((f_X2_refuse q1.2 (2 : Int32)).bind (fun q33 => if q33.1 = 0 ∨ q33.1 = 1 then some (q33.1, q33.2) else none)) else (if (((5601 : Int32) &&& (q1.2 39 2)) &&& ((1 : Int32) <<< (q2 &&& 31))) = 0 then ((f_X2_isRowOf q2).bind (fun q3 => if q3 = 0 then (f_X2_readLine_89 q1.2 q2) else ((f_X6_value q1.2 28 q2).bind (fun q29 => (f_X7_atS 102 q2).bind (fun q30 => if q29 < q30 then (f_X2_readLine_89 q1.2 q2) else ((f_X2_refuse q1.2 (5 : Int32)).bind (fun q31 => if q31.1 = 0 ∨ q31.1 = 1 then some (q31.1, q31.2) else none))))))) else ((f_X2_refuse q1.2 (4 : Int32)).bind (fun q32 => if q32.1 = 0 ∨ q32.1 = 1 then some (q32.1, q32.2) else none)))))))
abbrev rm_X2_readLine : Room := { frames := 7, cells := 0, slots := 0, locals := 151 }
set_option maxHeartbeats 4000000 in
set_option maxRecDepth 100000 in
theorem c_X2_readLine (l : Launch) (g : GG) (σ : ZI) (τ : ZL)  (res : Int32 × ZI) (h : f_X2_readLine σ = some res) : MI l yX2_readLine cX2_readLine 2 (some .boolean) rm_X2_readLine g [.ref (gA g 39)] σ τ (fun (r : Int32) (u : ZI × ZL) => (r, u.1) = res ∧ u.2 = τ) := by
  refine Met_in (by decide) (Nat.le_of_ble_eq_true rfl) ?_
  intro p e s m args below meth c F G hP hr0 hk0 ls hl
  have hS := WS.start hP
  have hl : lv_has ls 2 [(0, .ref (gA g 39))] := hl
  obtain ⟨H, hH⟩ : ∃ H, H = s.heap := ⟨_, rfl⟩
  rw [← hH] at hS ⊢
  clear hH hP
  rw [f_X2_readLine] at h
  have w_89 : ∀ (σ : ZI) (v1 : Int32), f_X2_readLine_89 σ v1 = some res → ∀ (H : Heap) (locs : List Loc) (ls : Array Slot), WS g σ τ s H locs → lv_has ls 2 [(0, .ref (gA g 39)), (1, .int v1)] → W p l e rm_X2_readLine s m args below meth c H locs 0 0 (MQ below (va_Qi (fun (r : Int32) (u : ZI × ZL) => (r, u.1) = res ∧ u.2 = τ) (WQ g) (AA g)) args s 0 0 (AA g)) (F0 m 89 ls []) := by
    intro  σ v1 h H locs ls hS hl
    rw [f_X2_readLine_89] at h
    refine lv_aload_n F.1 F.2.1 dX2_readLine_89 rfl (lv_at hl 0 rfl) ?_
    refine lv_dup F.1 F.2.1 dX2_readLine_90 rfl ?_
    refine gf_X2_32 F G hS dX2_readLine_91 ?_
    refine lv_iconst (v := (1 : Int32)) F.1 F.2.1 dX2_readLine_94 (by decide) ?_
    refine lv_iload_n F.1 F.2.1 dX2_readLine_95 rfl (lv_at hl 1 rfl) ?_
    refine lv_ishl F.1 F.2.1 dX2_readLine_96 ?_
    refine lv_ior F.1 F.2.1 dX2_readLine_97 ?_
    refine pf_X2_32 F G hS dX2_readLine_98 (fun H locs hS => ?_)
    obtain ⟨σ4, e_σ4, h⟩ := ltE h
    rw [← e_σ4] at hS
    clear e_σ4
    refine lv_iload_n F.1 F.2.1 dX2_readLine_101 rfl (lv_at hl 1 rfl) ?_
    by_cases hc_1 : v1 = (1 : Int32)
    · replace h := ifT h hc_1
      refine lv_tableIn (tgt := 156) F.1 F.2.1 dX2_readLine_102 (by rw [hc_1]; decide) (by rw [hc_1]; decide) (by rw [hc_1]; rfl) (by decide) ?_
      refine lv_aload_n F.1 F.2.1 dX2_readLine_156 rfl (lv_at hl 0 rfl) ?_
      obtain ⟨q5, h_q5, h⟩ := bd h
      refine rVi F G hS hl.1 (c_X2_readArm l g σ4 τ q5 h_q5) lk_X2_77 ⟨rfl, rfl, Nat.le_of_ble_eq_true rfl, Nat.le_of_ble_eq_true rfl⟩ (rc_X2 G hS) rfl rfl (Nat.le_of_ble_eq_true rfl) dX2_readLine_157 (kIi (fun H locs hS => ?_))
      refine lv_if_eq (tgt := 174) F.1 F.2.1 dX2_readLine_160 (by decide) (fun hc => ?_) (fun hc => ?_)
      · replace h := ifT h hc
        refine lv_iconst (v := (0 : Int32)) F.1 F.2.1 dX2_readLine_174 (by decide) ?_
        exact e_z F hS (by decide) ⟨Option.some.inj h, rfl⟩ hr0 dX2_readLine_175 hk0
      replace h := ifF h hc
      refine lv_aload_n F.1 F.2.1 dX2_readLine_163 rfl (lv_at hl 0 rfl) ?_
      obtain ⟨q6, h_q6, h⟩ := bd h
      refine rVi F G hS hl.1 (c_X2_takeSign l g q5.2 τ q6 h_q6) lk_X2_80 ⟨rfl, rfl, Nat.le_of_ble_eq_true rfl, Nat.le_of_ble_eq_true rfl⟩ (rc_X2 G hS) rfl rfl (Nat.le_of_ble_eq_true rfl) dX2_readLine_164 (kIi (fun H locs hS => ?_))
      refine lv_if_eq (tgt := 174) F.1 F.2.1 dX2_readLine_167 (by decide) (fun hc => ?_) (fun hc => ?_)
      · replace h := ifT h hc
        refine lv_iconst (v := (0 : Int32)) F.1 F.2.1 dX2_readLine_174 (by decide) ?_
        exact e_z F hS (by decide) ⟨Option.some.inj h, rfl⟩ hr0 dX2_readLine_175 hk0
      replace h := ifF h hc
      refine lv_iconst (v := (1 : Int32)) F.1 F.2.1 dX2_readLine_170 (by decide) ?_
      refine lv_goto (tgt := 175) F.1 F.2.1 dX2_readLine_171 (by decide) ?_
      exact e_z F hS (by decide) ⟨Option.some.inj h, rfl⟩ hr0 dX2_readLine_175 hk0
    replace h := ifF h hc_1
    by_cases hc_2 : v1 = (2 : Int32)
    · replace h := ifT h hc_2
      refine lv_tableIn (tgt := 176) F.1 F.2.1 dX2_readLine_102 (by rw [hc_2]; decide) (by rw [hc_2]; decide) (by rw [hc_2]; rfl) (by decide) ?_
      refine lv_aload_n F.1 F.2.1 dX2_readLine_176 rfl (lv_at hl 0 rfl) ?_
      obtain ⟨q7, h_q7, h⟩ := bd h
      refine rVi F G hS hl.1 (c_X2_readMark l g σ4 τ q7 h_q7) lk_X2_83 ⟨rfl, rfl, Nat.le_of_ble_eq_true rfl, Nat.le_of_ble_eq_true rfl⟩ (rc_X2 G hS) rfl rfl (Nat.le_of_ble_eq_true rfl) dX2_readLine_177 (kIi (fun H locs hS => ?_))
      refine lv_if_eq (tgt := 194) F.1 F.2.1 dX2_readLine_180 (by decide) (fun hc => ?_) (fun hc => ?_)
      · replace h := ifT h hc
        refine lv_iconst (v := (0 : Int32)) F.1 F.2.1 dX2_readLine_194 (by decide) ?_
        exact e_z F hS (by decide) ⟨Option.some.inj h, rfl⟩ hr0 dX2_readLine_195 hk0
      replace h := ifF h hc
      refine lv_aload_n F.1 F.2.1 dX2_readLine_183 rfl (lv_at hl 0 rfl) ?_
      obtain ⟨q8, h_q8, h⟩ := bd h
      refine rVi F G hS hl.1 (c_X2_takeSign l g q7.2 τ q8 h_q8) lk_X2_80 ⟨rfl, rfl, Nat.le_of_ble_eq_true rfl, Nat.le_of_ble_eq_true rfl⟩ (rc_X2 G hS) rfl rfl (Nat.le_of_ble_eq_true rfl) dX2_readLine_184 (kIi (fun H locs hS => ?_))
      refine lv_if_eq (tgt := 194) F.1 F.2.1 dX2_readLine_187 (by decide) (fun hc => ?_) (fun hc => ?_)
      · replace h := ifT h hc
        refine lv_iconst (v := (0 : Int32)) F.1 F.2.1 dX2_readLine_194 (by decide) ?_
        exact e_z F hS (by decide) ⟨Option.some.inj h, rfl⟩ hr0 dX2_readLine_195 hk0
      replace h := ifF h hc
      refine lv_iconst (v := (1 : Int32)) F.1 F.2.1 dX2_readLine_190 (by decide) ?_
      refine lv_goto (tgt := 195) F.1 F.2.1 dX2_readLine_191 (by decide) ?_
      exact e_z F hS (by decide) ⟨Option.some.inj h, rfl⟩ hr0 dX2_readLine_195 hk0
    replace h := ifF h hc_2
    by_cases hc_3 : v1 = (3 : Int32)
    · replace h := ifT h hc_3
      refine lv_tableIn (tgt := 196) F.1 F.2.1 dX2_readLine_102 (by rw [hc_3]; decide) (by rw [hc_3]; decide) (by rw [hc_3]; rfl) (by decide) ?_
      refine lv_aload_n F.1 F.2.1 dX2_readLine_196 rfl (lv_at hl 0 rfl) ?_
      obtain ⟨q9, h_q9, h⟩ := bd h
      refine rVi F G hS hl.1 (c_X2_readTown l g σ4 τ q9 h_q9) lk_X2_86 ⟨rfl, rfl, Nat.le_of_ble_eq_true rfl, Nat.le_of_ble_eq_true rfl⟩ (rc_X2 G hS) rfl rfl (Nat.le_of_ble_eq_true rfl) dX2_readLine_197 (kIi (fun H locs hS => ?_))
      refine lv_if_eq (tgt := 214) F.1 F.2.1 dX2_readLine_200 (by decide) (fun hc => ?_) (fun hc => ?_)
      · replace h := ifT h hc
        refine lv_iconst (v := (0 : Int32)) F.1 F.2.1 dX2_readLine_214 (by decide) ?_
        exact e_z F hS (by decide) ⟨Option.some.inj h, rfl⟩ hr0 dX2_readLine_215 hk0
      replace h := ifF h hc
      refine lv_aload_n F.1 F.2.1 dX2_readLine_203 rfl (lv_at hl 0 rfl) ?_
      obtain ⟨q10, h_q10, h⟩ := bd h
      refine rVi F G hS hl.1 (c_X2_takeSign l g q9.2 τ q10 h_q10) lk_X2_80 ⟨rfl, rfl, Nat.le_of_ble_eq_true rfl, Nat.le_of_ble_eq_true rfl⟩ (rc_X2 G hS) rfl rfl (Nat.le_of_ble_eq_true rfl) dX2_readLine_204 (kIi (fun H locs hS => ?_))
      refine lv_if_eq (tgt := 214) F.1 F.2.1 dX2_readLine_207 (by decide) (fun hc => ?_) (fun hc => ?_)
      · replace h := ifT h hc
        refine lv_iconst (v := (0 : Int32)) F.1 F.2.1 dX2_readLine_214 (by decide) ?_
        exact e_z F hS (by decide) ⟨Option.some.inj h, rfl⟩ hr0 dX2_readLine_215 hk0
      replace h := ifF h hc
      refine lv_iconst (v := (1 : Int32)) F.1 F.2.1 dX2_readLine_210 (by decide) ?_
      refine lv_goto (tgt := 215) F.1 F.2.1 dX2_readLine_211 (by decide) ?_
      exact e_z F hS (by decide) ⟨Option.some.inj h, rfl⟩ hr0 dX2_readLine_215 hk0
    replace h := ifF h hc_3
    by_cases hc_4 : v1 = (4 : Int32)
    · replace h := ifT h hc_4
      refine lv_tableIn (tgt := 216) F.1 F.2.1 dX2_readLine_102 (by rw [hc_4]; decide) (by rw [hc_4]; decide) (by rw [hc_4]; rfl) (by decide) ?_
      refine lv_aload_n F.1 F.2.1 dX2_readLine_216 rfl (lv_at hl 0 rfl) ?_
      obtain ⟨q11, h_q11, h⟩ := bd h
      refine rVi F G hS hl.1 (c_X2_readSignal l g σ4 τ q11 h_q11) lk_X2_89 ⟨rfl, rfl, Nat.le_of_ble_eq_true rfl, Nat.le_of_ble_eq_true rfl⟩ (rc_X2 G hS) rfl rfl (Nat.le_of_ble_eq_true rfl) dX2_readLine_217 (kIi (fun H locs hS => ?_))
      refine lv_if_eq (tgt := 234) F.1 F.2.1 dX2_readLine_220 (by decide) (fun hc => ?_) (fun hc => ?_)
      · replace h := ifT h hc
        refine lv_iconst (v := (0 : Int32)) F.1 F.2.1 dX2_readLine_234 (by decide) ?_
        exact e_z F hS (by decide) ⟨Option.some.inj h, rfl⟩ hr0 dX2_readLine_235 hk0
      replace h := ifF h hc
      refine lv_aload_n F.1 F.2.1 dX2_readLine_223 rfl (lv_at hl 0 rfl) ?_
      obtain ⟨q12, h_q12, h⟩ := bd h
      refine rVi F G hS hl.1 (c_X2_takeSign l g q11.2 τ q12 h_q12) lk_X2_80 ⟨rfl, rfl, Nat.le_of_ble_eq_true rfl, Nat.le_of_ble_eq_true rfl⟩ (rc_X2 G hS) rfl rfl (Nat.le_of_ble_eq_true rfl) dX2_readLine_224 (kIi (fun H locs hS => ?_))
      refine lv_if_eq (tgt := 234) F.1 F.2.1 dX2_readLine_227 (by decide) (fun hc => ?_) (fun hc => ?_)
      · replace h := ifT h hc
        refine lv_iconst (v := (0 : Int32)) F.1 F.2.1 dX2_readLine_234 (by decide) ?_
        exact e_z F hS (by decide) ⟨Option.some.inj h, rfl⟩ hr0 dX2_readLine_235 hk0
      replace h := ifF h hc
      refine lv_iconst (v := (1 : Int32)) F.1 F.2.1 dX2_readLine_230 (by decide) ?_
      refine lv_goto (tgt := 235) F.1 F.2.1 dX2_readLine_231 (by decide) ?_
      exact e_z F hS (by decide) ⟨Option.some.inj h, rfl⟩ hr0 dX2_readLine_235 hk0
    replace h := ifF h hc_4
    by_cases hc_5 : v1 = (5 : Int32)
    · replace h := ifT h hc_5
      refine lv_tableIn (tgt := 298) F.1 F.2.1 dX2_readLine_102 (by rw [hc_5]; decide) (by rw [hc_5]; decide) (by rw [hc_5]; rfl) (by decide) ?_
      refine lv_aload_n F.1 F.2.1 dX2_readLine_298 rfl (lv_at hl 0 rfl) ?_
      refine lv_iload_n F.1 F.2.1 dX2_readLine_299 rfl (lv_at hl 1 rfl) ?_
      obtain ⟨q13, h_q13, h⟩ := bd h
      refine rVi F G hS hl.1 (c_X2_readRule l g σ4 τ v1 q13 h_q13) lk_X2_92 ⟨rfl, rfl, Nat.le_of_ble_eq_true rfl, Nat.le_of_ble_eq_true rfl⟩ (rc_X2 G hS) rfl rfl (Nat.le_of_ble_eq_true rfl) dX2_readLine_300 (kIi (fun H locs hS => ?_))
      refine lv_if_eq (tgt := 317) F.1 F.2.1 dX2_readLine_303 (by decide) (fun hc => ?_) (fun hc => ?_)
      · replace h := ifT h hc
        refine lv_iconst (v := (0 : Int32)) F.1 F.2.1 dX2_readLine_317 (by decide) ?_
        exact e_z F hS (by decide) ⟨Option.some.inj h, rfl⟩ hr0 dX2_readLine_318 hk0
      replace h := ifF h hc
      refine lv_aload_n F.1 F.2.1 dX2_readLine_306 rfl (lv_at hl 0 rfl) ?_
      obtain ⟨q14, h_q14, h⟩ := bd h
      refine rVi F G hS hl.1 (c_X2_takeSign l g q13.2 τ q14 h_q14) lk_X2_80 ⟨rfl, rfl, Nat.le_of_ble_eq_true rfl, Nat.le_of_ble_eq_true rfl⟩ (rc_X2 G hS) rfl rfl (Nat.le_of_ble_eq_true rfl) dX2_readLine_307 (kIi (fun H locs hS => ?_))
      refine lv_if_eq (tgt := 317) F.1 F.2.1 dX2_readLine_310 (by decide) (fun hc => ?_) (fun hc => ?_)
      · replace h := ifT h hc
        refine lv_iconst (v := (0 : Int32)) F.1 F.2.1 dX2_readLine_317 (by decide) ?_
        exact e_z F hS (by decide) ⟨Option.some.inj h, rfl⟩ hr0 dX2_readLine_318 hk0
      replace h := ifF h hc
      refine lv_iconst (v := (1 : Int32)) F.1 F.2.1 dX2_readLine_313 (by decide) ?_
      refine lv_goto (tgt := 318) F.1 F.2.1 dX2_readLine_314 (by decide) ?_
      exact e_z F hS (by decide) ⟨Option.some.inj h, rfl⟩ hr0 dX2_readLine_318 hk0
    replace h := ifF h hc_5
    by_cases hc_6 : v1 = (6 : Int32)
    · replace h := ifT h hc_6
      refine lv_tableIn (tgt := 298) F.1 F.2.1 dX2_readLine_102 (by rw [hc_6]; decide) (by rw [hc_6]; decide) (by rw [hc_6]; rfl) (by decide) ?_
      refine lv_aload_n F.1 F.2.1 dX2_readLine_298 rfl (lv_at hl 0 rfl) ?_
      refine lv_iload_n F.1 F.2.1 dX2_readLine_299 rfl (lv_at hl 1 rfl) ?_
      obtain ⟨q15, h_q15, h⟩ := bd h
      refine rVi F G hS hl.1 (c_X2_readRule l g σ4 τ v1 q15 h_q15) lk_X2_92 ⟨rfl, rfl, Nat.le_of_ble_eq_true rfl, Nat.le_of_ble_eq_true rfl⟩ (rc_X2 G hS) rfl rfl (Nat.le_of_ble_eq_true rfl) dX2_readLine_300 (kIi (fun H locs hS => ?_))
      refine lv_if_eq (tgt := 317) F.1 F.2.1 dX2_readLine_303 (by decide) (fun hc => ?_) (fun hc => ?_)
      · replace h := ifT h hc
        refine lv_iconst (v := (0 : Int32)) F.1 F.2.1 dX2_readLine_317 (by decide) ?_
        exact e_z F hS (by decide) ⟨Option.some.inj h, rfl⟩ hr0 dX2_readLine_318 hk0
      replace h := ifF h hc
      refine lv_aload_n F.1 F.2.1 dX2_readLine_306 rfl (lv_at hl 0 rfl) ?_
      obtain ⟨q16, h_q16, h⟩ := bd h
      refine rVi F G hS hl.1 (c_X2_takeSign l g q15.2 τ q16 h_q16) lk_X2_80 ⟨rfl, rfl, Nat.le_of_ble_eq_true rfl, Nat.le_of_ble_eq_true rfl⟩ (rc_X2 G hS) rfl rfl (Nat.le_of_ble_eq_true rfl) dX2_readLine_307 (kIi (fun H locs hS => ?_))
      refine lv_if_eq (tgt := 317) F.1 F.2.1 dX2_readLine_310 (by decide) (fun hc => ?_) (fun hc => ?_)
      · replace h := ifT h hc
        refine lv_iconst (v := (0 : Int32)) F.1 F.2.1 dX2_readLine_317 (by decide) ?_
        exact e_z F hS (by decide) ⟨Option.some.inj h, rfl⟩ hr0 dX2_readLine_318 hk0
      replace h := ifF h hc
      refine lv_iconst (v := (1 : Int32)) F.1 F.2.1 dX2_readLine_313 (by decide) ?_
      refine lv_goto (tgt := 318) F.1 F.2.1 dX2_readLine_314 (by decide) ?_
      exact e_z F hS (by decide) ⟨Option.some.inj h, rfl⟩ hr0 dX2_readLine_318 hk0
    replace h := ifF h hc_6
    by_cases hc_7 : v1 = (7 : Int32)
    · replace h := ifT h hc_7
      refine lv_tableIn (tgt := 298) F.1 F.2.1 dX2_readLine_102 (by rw [hc_7]; decide) (by rw [hc_7]; decide) (by rw [hc_7]; rfl) (by decide) ?_
      refine lv_aload_n F.1 F.2.1 dX2_readLine_298 rfl (lv_at hl 0 rfl) ?_
      refine lv_iload_n F.1 F.2.1 dX2_readLine_299 rfl (lv_at hl 1 rfl) ?_
      obtain ⟨q17, h_q17, h⟩ := bd h
      refine rVi F G hS hl.1 (c_X2_readRule l g σ4 τ v1 q17 h_q17) lk_X2_92 ⟨rfl, rfl, Nat.le_of_ble_eq_true rfl, Nat.le_of_ble_eq_true rfl⟩ (rc_X2 G hS) rfl rfl (Nat.le_of_ble_eq_true rfl) dX2_readLine_300 (kIi (fun H locs hS => ?_))
      refine lv_if_eq (tgt := 317) F.1 F.2.1 dX2_readLine_303 (by decide) (fun hc => ?_) (fun hc => ?_)
      · replace h := ifT h hc
        refine lv_iconst (v := (0 : Int32)) F.1 F.2.1 dX2_readLine_317 (by decide) ?_
        exact e_z F hS (by decide) ⟨Option.some.inj h, rfl⟩ hr0 dX2_readLine_318 hk0
      replace h := ifF h hc
      refine lv_aload_n F.1 F.2.1 dX2_readLine_306 rfl (lv_at hl 0 rfl) ?_
      obtain ⟨q18, h_q18, h⟩ := bd h
      refine rVi F G hS hl.1 (c_X2_takeSign l g q17.2 τ q18 h_q18) lk_X2_80 ⟨rfl, rfl, Nat.le_of_ble_eq_true rfl, Nat.le_of_ble_eq_true rfl⟩ (rc_X2 G hS) rfl rfl (Nat.le_of_ble_eq_true rfl) dX2_readLine_307 (kIi (fun H locs hS => ?_))
      refine lv_if_eq (tgt := 317) F.1 F.2.1 dX2_readLine_310 (by decide) (fun hc => ?_) (fun hc => ?_)
      · replace h := ifT h hc
        refine lv_iconst (v := (0 : Int32)) F.1 F.2.1 dX2_readLine_317 (by decide) ?_
        exact e_z F hS (by decide) ⟨Option.some.inj h, rfl⟩ hr0 dX2_readLine_318 hk0
      replace h := ifF h hc
      refine lv_iconst (v := (1 : Int32)) F.1 F.2.1 dX2_readLine_313 (by decide) ?_
      refine lv_goto (tgt := 318) F.1 F.2.1 dX2_readLine_314 (by decide) ?_
      exact e_z F hS (by decide) ⟨Option.some.inj h, rfl⟩ hr0 dX2_readLine_318 hk0
    replace h := ifF h hc_7
    by_cases hc_8 : v1 = (8 : Int32)
    · replace h := ifT h hc_8
      refine lv_tableIn (tgt := 236) F.1 F.2.1 dX2_readLine_102 (by rw [hc_8]; decide) (by rw [hc_8]; decide) (by rw [hc_8]; rfl) (by decide) ?_
      refine lv_aload_n F.1 F.2.1 dX2_readLine_236 rfl (lv_at hl 0 rfl) ?_
      refine lv_bipush (v := (8 : Int32)) F.1 F.2.1 dX2_readLine_237 (by decide) ?_
      obtain ⟨q19, h_q19, h⟩ := bd h
      refine rVi F G hS hl.1 (c_X2_readRule l g σ4 τ (8 : Int32) q19 h_q19) lk_X2_92 ⟨rfl, rfl, Nat.le_of_ble_eq_true rfl, Nat.le_of_ble_eq_true rfl⟩ (rc_X2 G hS) rfl rfl (Nat.le_of_ble_eq_true rfl) dX2_readLine_239 (kIi (fun H locs hS => ?_))
      refine lv_if_eq (tgt := 265) F.1 F.2.1 dX2_readLine_242 (by decide) (fun hc => ?_) (fun hc => ?_)
      · replace h := ifT h hc
        refine lv_iconst (v := (0 : Int32)) F.1 F.2.1 dX2_readLine_265 (by decide) ?_
        exact e_z F hS (by decide) ⟨Option.some.inj h, rfl⟩ hr0 dX2_readLine_266 hk0
      replace h := ifF h hc
      refine lv_aload_n F.1 F.2.1 dX2_readLine_245 rfl (lv_at hl 0 rfl) ?_
      refine lv_bipush (v := (9 : Int32)) F.1 F.2.1 dX2_readLine_246 (by decide) ?_
      obtain ⟨q20, h_q20, h⟩ := bd h
      refine rVi F G hS hl.1 (c_X2_readRule l g q19.2 τ (9 : Int32) q20 h_q20) lk_X2_92 ⟨rfl, rfl, Nat.le_of_ble_eq_true rfl, Nat.le_of_ble_eq_true rfl⟩ (rc_X2 G hS) rfl rfl (Nat.le_of_ble_eq_true rfl) dX2_readLine_248 (kIi (fun H locs hS => ?_))
      refine lv_if_eq (tgt := 265) F.1 F.2.1 dX2_readLine_251 (by decide) (fun hc => ?_) (fun hc => ?_)
      · replace h := ifT h hc
        refine lv_iconst (v := (0 : Int32)) F.1 F.2.1 dX2_readLine_265 (by decide) ?_
        exact e_z F hS (by decide) ⟨Option.some.inj h, rfl⟩ hr0 dX2_readLine_266 hk0
      replace h := ifF h hc
      refine lv_aload_n F.1 F.2.1 dX2_readLine_254 rfl (lv_at hl 0 rfl) ?_
      obtain ⟨q21, h_q21, h⟩ := bd h
      refine rVi F G hS hl.1 (c_X2_takeSign l g q20.2 τ q21 h_q21) lk_X2_80 ⟨rfl, rfl, Nat.le_of_ble_eq_true rfl, Nat.le_of_ble_eq_true rfl⟩ (rc_X2 G hS) rfl rfl (Nat.le_of_ble_eq_true rfl) dX2_readLine_255 (kIi (fun H locs hS => ?_))
      refine lv_if_eq (tgt := 265) F.1 F.2.1 dX2_readLine_258 (by decide) (fun hc => ?_) (fun hc => ?_)
      · replace h := ifT h hc
        refine lv_iconst (v := (0 : Int32)) F.1 F.2.1 dX2_readLine_265 (by decide) ?_
        exact e_z F hS (by decide) ⟨Option.some.inj h, rfl⟩ hr0 dX2_readLine_266 hk0
      replace h := ifF h hc
      refine lv_iconst (v := (1 : Int32)) F.1 F.2.1 dX2_readLine_261 (by decide) ?_
      refine lv_goto (tgt := 266) F.1 F.2.1 dX2_readLine_262 (by decide) ?_
      exact e_z F hS (by decide) ⟨Option.some.inj h, rfl⟩ hr0 dX2_readLine_266 hk0
    replace h := ifF h hc_8
    by_cases hc_9 : v1 = (9 : Int32)
    · replace h := ifT h hc_9
      refine lv_tableIn (tgt := 298) F.1 F.2.1 dX2_readLine_102 (by rw [hc_9]; decide) (by rw [hc_9]; decide) (by rw [hc_9]; rfl) (by decide) ?_
      refine lv_aload_n F.1 F.2.1 dX2_readLine_298 rfl (lv_at hl 0 rfl) ?_
      refine lv_iload_n F.1 F.2.1 dX2_readLine_299 rfl (lv_at hl 1 rfl) ?_
      obtain ⟨q22, h_q22, h⟩ := bd h
      refine rVi F G hS hl.1 (c_X2_readRule l g σ4 τ v1 q22 h_q22) lk_X2_92 ⟨rfl, rfl, Nat.le_of_ble_eq_true rfl, Nat.le_of_ble_eq_true rfl⟩ (rc_X2 G hS) rfl rfl (Nat.le_of_ble_eq_true rfl) dX2_readLine_300 (kIi (fun H locs hS => ?_))
      refine lv_if_eq (tgt := 317) F.1 F.2.1 dX2_readLine_303 (by decide) (fun hc => ?_) (fun hc => ?_)
      · replace h := ifT h hc
        refine lv_iconst (v := (0 : Int32)) F.1 F.2.1 dX2_readLine_317 (by decide) ?_
        exact e_z F hS (by decide) ⟨Option.some.inj h, rfl⟩ hr0 dX2_readLine_318 hk0
      replace h := ifF h hc
      refine lv_aload_n F.1 F.2.1 dX2_readLine_306 rfl (lv_at hl 0 rfl) ?_
      obtain ⟨q23, h_q23, h⟩ := bd h
      refine rVi F G hS hl.1 (c_X2_takeSign l g q22.2 τ q23 h_q23) lk_X2_80 ⟨rfl, rfl, Nat.le_of_ble_eq_true rfl, Nat.le_of_ble_eq_true rfl⟩ (rc_X2 G hS) rfl rfl (Nat.le_of_ble_eq_true rfl) dX2_readLine_307 (kIi (fun H locs hS => ?_))
      refine lv_if_eq (tgt := 317) F.1 F.2.1 dX2_readLine_310 (by decide) (fun hc => ?_) (fun hc => ?_)
      · replace h := ifT h hc
        refine lv_iconst (v := (0 : Int32)) F.1 F.2.1 dX2_readLine_317 (by decide) ?_
        exact e_z F hS (by decide) ⟨Option.some.inj h, rfl⟩ hr0 dX2_readLine_318 hk0
      replace h := ifF h hc
      refine lv_iconst (v := (1 : Int32)) F.1 F.2.1 dX2_readLine_313 (by decide) ?_
      refine lv_goto (tgt := 318) F.1 F.2.1 dX2_readLine_314 (by decide) ?_
      exact e_z F hS (by decide) ⟨Option.some.inj h, rfl⟩ hr0 dX2_readLine_318 hk0
    replace h := ifF h hc_9
    by_cases hc_10 : v1 = (10 : Int32)
    · replace h := ifT h hc_10
      refine lv_tableIn (tgt := 267) F.1 F.2.1 dX2_readLine_102 (by rw [hc_10]; decide) (by rw [hc_10]; decide) (by rw [hc_10]; rfl) (by decide) ?_
      refine lv_aload_n F.1 F.2.1 dX2_readLine_267 rfl (lv_at hl 0 rfl) ?_
      refine lv_bipush (v := (10 : Int32)) F.1 F.2.1 dX2_readLine_268 (by decide) ?_
      obtain ⟨q24, h_q24, h⟩ := bd h
      refine rVi F G hS hl.1 (c_X2_readRule l g σ4 τ (10 : Int32) q24 h_q24) lk_X2_92 ⟨rfl, rfl, Nat.le_of_ble_eq_true rfl, Nat.le_of_ble_eq_true rfl⟩ (rc_X2 G hS) rfl rfl (Nat.le_of_ble_eq_true rfl) dX2_readLine_270 (kIi (fun H locs hS => ?_))
      refine lv_if_eq (tgt := 296) F.1 F.2.1 dX2_readLine_273 (by decide) (fun hc => ?_) (fun hc => ?_)
      · replace h := ifT h hc
        refine lv_iconst (v := (0 : Int32)) F.1 F.2.1 dX2_readLine_296 (by decide) ?_
        exact e_z F hS (by decide) ⟨Option.some.inj h, rfl⟩ hr0 dX2_readLine_297 hk0
      replace h := ifF h hc
      refine lv_aload_n F.1 F.2.1 dX2_readLine_276 rfl (lv_at hl 0 rfl) ?_
      refine lv_bipush (v := (11 : Int32)) F.1 F.2.1 dX2_readLine_277 (by decide) ?_
      obtain ⟨q25, h_q25, h⟩ := bd h
      refine rVi F G hS hl.1 (c_X2_readRule l g q24.2 τ (11 : Int32) q25 h_q25) lk_X2_92 ⟨rfl, rfl, Nat.le_of_ble_eq_true rfl, Nat.le_of_ble_eq_true rfl⟩ (rc_X2 G hS) rfl rfl (Nat.le_of_ble_eq_true rfl) dX2_readLine_279 (kIi (fun H locs hS => ?_))
      refine lv_if_eq (tgt := 296) F.1 F.2.1 dX2_readLine_282 (by decide) (fun hc => ?_) (fun hc => ?_)
      · replace h := ifT h hc
        refine lv_iconst (v := (0 : Int32)) F.1 F.2.1 dX2_readLine_296 (by decide) ?_
        exact e_z F hS (by decide) ⟨Option.some.inj h, rfl⟩ hr0 dX2_readLine_297 hk0
      replace h := ifF h hc
      refine lv_aload_n F.1 F.2.1 dX2_readLine_285 rfl (lv_at hl 0 rfl) ?_
      obtain ⟨q26, h_q26, h⟩ := bd h
      refine rVi F G hS hl.1 (c_X2_takeSign l g q25.2 τ q26 h_q26) lk_X2_80 ⟨rfl, rfl, Nat.le_of_ble_eq_true rfl, Nat.le_of_ble_eq_true rfl⟩ (rc_X2 G hS) rfl rfl (Nat.le_of_ble_eq_true rfl) dX2_readLine_286 (kIi (fun H locs hS => ?_))
      refine lv_if_eq (tgt := 296) F.1 F.2.1 dX2_readLine_289 (by decide) (fun hc => ?_) (fun hc => ?_)
      · replace h := ifT h hc
        refine lv_iconst (v := (0 : Int32)) F.1 F.2.1 dX2_readLine_296 (by decide) ?_
        exact e_z F hS (by decide) ⟨Option.some.inj h, rfl⟩ hr0 dX2_readLine_297 hk0
      replace h := ifF h hc
      refine lv_iconst (v := (1 : Int32)) F.1 F.2.1 dX2_readLine_292 (by decide) ?_
      refine lv_goto (tgt := 297) F.1 F.2.1 dX2_readLine_293 (by decide) ?_
      exact e_z F hS (by decide) ⟨Option.some.inj h, rfl⟩ hr0 dX2_readLine_297 hk0
    replace h := ifF h hc_10
    refine lv_tableOut (tgt := 298) F.1 F.2.1 dX2_readLine_102 (by have h1 := lv_neT (a := 1) hc_1 (by decide); have h2 := lv_neT (a := 2) hc_2 (by decide); have h3 := lv_neT (a := 3) hc_3 (by decide); have h4 := lv_neT (a := 4) hc_4 (by decide); have h5 := lv_neT (a := 5) hc_5 (by decide); have h6 := lv_neT (a := 6) hc_6 (by decide); have h7 := lv_neT (a := 7) hc_7 (by decide); have h8 := lv_neT (a := 8) hc_8 (by decide); have h9 := lv_neT (a := 9) hc_9 (by decide); have h10 := lv_neT (a := 10) hc_10 (by decide); omega) (by decide) ?_
    refine lv_aload_n F.1 F.2.1 dX2_readLine_298 rfl (lv_at hl 0 rfl) ?_
    refine lv_iload_n F.1 F.2.1 dX2_readLine_299 rfl (lv_at hl 1 rfl) ?_
    obtain ⟨q27, h_q27, h⟩ := bd h
    refine rVi F G hS hl.1 (c_X2_readRule l g σ4 τ v1 q27 h_q27) lk_X2_92 ⟨rfl, rfl, Nat.le_of_ble_eq_true rfl, Nat.le_of_ble_eq_true rfl⟩ (rc_X2 G hS) rfl rfl (Nat.le_of_ble_eq_true rfl) dX2_readLine_300 (kIi (fun H locs hS => ?_))
    refine lv_if_eq (tgt := 317) F.1 F.2.1 dX2_readLine_303 (by decide) (fun hc => ?_) (fun hc => ?_)
    · replace h := ifT h hc
      refine lv_iconst (v := (0 : Int32)) F.1 F.2.1 dX2_readLine_317 (by decide) ?_
      exact e_z F hS (by decide) ⟨Option.some.inj h, rfl⟩ hr0 dX2_readLine_318 hk0
    replace h := ifF h hc
    refine lv_aload_n F.1 F.2.1 dX2_readLine_306 rfl (lv_at hl 0 rfl) ?_
    obtain ⟨q28, h_q28, h⟩ := bd h
    refine rVi F G hS hl.1 (c_X2_takeSign l g q27.2 τ q28 h_q28) lk_X2_80 ⟨rfl, rfl, Nat.le_of_ble_eq_true rfl, Nat.le_of_ble_eq_true rfl⟩ (rc_X2 G hS) rfl rfl (Nat.le_of_ble_eq_true rfl) dX2_readLine_307 (kIi (fun H locs hS => ?_))
    refine lv_if_eq (tgt := 317) F.1 F.2.1 dX2_readLine_310 (by decide) (fun hc => ?_) (fun hc => ?_)
    · replace h := ifT h hc
      refine lv_iconst (v := (0 : Int32)) F.1 F.2.1 dX2_readLine_317 (by decide) ?_
      exact e_z F hS (by decide) ⟨Option.some.inj h, rfl⟩ hr0 dX2_readLine_318 hk0
    replace h := ifF h hc
    refine lv_iconst (v := (1 : Int32)) F.1 F.2.1 dX2_readLine_313 (by decide) ?_
    refine lv_goto (tgt := 318) F.1 F.2.1 dX2_readLine_314 (by decide) ?_
    exact e_z F hS (by decide) ⟨Option.some.inj h, rfl⟩ hr0 dX2_readLine_318 hk0
  obtain ⟨locs, hlo⟩ : ∃ z : List Loc, z = [] := ⟨_, rfl⟩
  rw [← hlo] at hS ⊢
  clear hlo
  refine lv_aload_n F.1 F.2.1 dX2_readLine_0 rfl (lv_at hl 0 rfl) ?_
  obtain ⟨q1, h_q1, h⟩ := bd h
  refine rVi F G hS hl.1 (c_X2_takeToken l g σ τ q1 h_q1) lk_X2_48 ⟨rfl, rfl, Nat.le_of_ble_eq_true rfl, Nat.le_of_ble_eq_true rfl⟩ (rc_X2 G hS) rfl rfl (Nat.le_of_ble_eq_true rfl) dX2_readLine_1 (kIi (fun H locs hS => ?_))
  refine lv_if_eq (tgt := 18) F.1 F.2.1 dX2_readLine_4 (by decide) (fun hc => ?_) (fun hc => ?_)
  · replace h := ifT h hc
    refine lv_iconst (v := (0 : Int32)) F.1 F.2.1 dX2_readLine_18 (by decide) ?_
    exact e_z F hS (by decide) ⟨Option.some.inj h, rfl⟩ hr0 dX2_readLine_19 hk0
  replace h := ifF h hc
  refine lv_aload_n F.1 F.2.1 dX2_readLine_7 rfl (lv_at hl 0 rfl) ?_
  refine gf_X2_12 F G hS dX2_readLine_8 ?_
  refine gf_X2_51 F G hS dX2_readLine_11 ?_
  refine lv_iconst (v := (4 : Int32)) F.1 F.2.1 dX2_readLine_14 (by decide) ?_
  refine lv_icmp_ne (tgt := 20) F.1 F.2.1 dX2_readLine_15 (by decide) (fun hc => ?_) (fun hc => ?_)
  rotate_left
  · replace h := ifT h hc
    refine lv_iconst (v := (0 : Int32)) F.1 F.2.1 dX2_readLine_18 (by decide) ?_
    exact e_z F hS (by decide) ⟨Option.some.inj h, rfl⟩ hr0 dX2_readLine_19 hk0
  replace h := ifF h hc
  refine lv_aload_n F.1 F.2.1 dX2_readLine_20 rfl (lv_at hl 0 rfl) ?_
  obtain ⟨q2, h_q2, h⟩ := bd h
  refine rVi F G hS hl.1 (c_X2_lineNamed l g q1.2 τ q2 h_q2) lk_X2_54 ⟨rfl, rfl, Nat.le_of_ble_eq_true rfl, Nat.le_of_ble_eq_true rfl⟩ (rc_X2 G hS) rfl rfl (Nat.le_of_ble_eq_true rfl) dX2_readLine_21 (kRi (fun H locs hS => ?_))
  refine lv_istore_n (lv' := [(1, .int q2), (0, .ref (gA g 39))]) F.1 F.2.1 dX2_readLine_24 rfl hl (by decide) rfl (fun ls hl => ?_)
  refine lv_iload_n F.1 F.2.1 dX2_readLine_25 rfl (lv_at hl 0 rfl) ?_
  refine lv_bipush (v := (-4 : Int32)) F.1 F.2.1 dX2_readLine_26 (by decide) ?_
  refine lv_icmp_ne (tgt := 37) F.1 F.2.1 dX2_readLine_28 (by decide) (fun hc => ?_) (fun hc => ?_)
  rotate_left
  · replace h := ifT h hc
    refine lv_aload_n F.1 F.2.1 dX2_readLine_31 rfl (lv_at hl 1 rfl) ?_
    refine lv_iconst (v := (2 : Int32)) F.1 F.2.1 dX2_readLine_32 (by decide) ?_
    obtain ⟨q33, h_q33, h⟩ := bd h
    refine rVi F G hS hl.1 (c_X2_refuse l g q1.2 τ (2 : Int32) q33 h_q33) lk_X2_58 ⟨rfl, rfl, Nat.le_of_ble_eq_true rfl, Nat.le_of_ble_eq_true rfl⟩ (rc_X2 G hS) rfl rfl (Nat.le_of_ble_eq_true rfl) dX2_readLine_33 (kIi (fun H locs hS => ?_))
    obtain ⟨hz, h⟩ := gd h
    exact e_z F hS hz ⟨Option.some.inj h, rfl⟩ hr0 dX2_readLine_36 hk0
  replace h := ifF h hc
  refine lv_sipush (v := (5601 : Int32)) F.1 F.2.1 dX2_readLine_37 (by decide) ?_
  refine lv_aload_n F.1 F.2.1 dX2_readLine_40 rfl (lv_at hl 1 rfl) ?_
  refine gf_X2_32 F G hS dX2_readLine_41 ?_
  refine lv_iand F.1 F.2.1 dX2_readLine_44 ?_
  refine lv_iconst (v := (1 : Int32)) F.1 F.2.1 dX2_readLine_45 (by decide) ?_
  refine lv_iload_n F.1 F.2.1 dX2_readLine_46 rfl (lv_at hl 0 rfl) ?_
  refine lv_ishl F.1 F.2.1 dX2_readLine_47 ?_
  refine lv_iand F.1 F.2.1 dX2_readLine_48 ?_
  refine lv_if_eq (tgt := 58) F.1 F.2.1 dX2_readLine_49 (by decide) (fun hc => ?_) (fun hc => ?_)
  rotate_left
  · replace h := ifF h hc
    refine lv_aload_n F.1 F.2.1 dX2_readLine_52 rfl (lv_at hl 1 rfl) ?_
    refine lv_iconst (v := (4 : Int32)) F.1 F.2.1 dX2_readLine_53 (by decide) ?_
    obtain ⟨q32, h_q32, h⟩ := bd h
    refine rVi F G hS hl.1 (c_X2_refuse l g q1.2 τ (4 : Int32) q32 h_q32) lk_X2_58 ⟨rfl, rfl, Nat.le_of_ble_eq_true rfl, Nat.le_of_ble_eq_true rfl⟩ (rc_X2 G hS) rfl rfl (Nat.le_of_ble_eq_true rfl) dX2_readLine_54 (kIi (fun H locs hS => ?_))
    obtain ⟨hz, h⟩ := gd h
    exact e_z F hS hz ⟨Option.some.inj h, rfl⟩ hr0 dX2_readLine_57 hk0
  replace h := ifT h hc
  refine lv_iload_n F.1 F.2.1 dX2_readLine_58 rfl (lv_at hl 0 rfl) ?_
  obtain ⟨q3, h_q3, h⟩ := bd h
  refine rSi F G hS hl.1 (c_X2_isRowOf l g q1.2 τ q2 q3 h_q3) lk_X2_62 ⟨rfl, rfl, Nat.le_of_ble_eq_true rfl, Nat.le_of_ble_eq_true rfl⟩  rfl rfl (Nat.le_of_ble_eq_true rfl) dX2_readLine_59 (kRi (fun H locs hS => ?_))
  refine lv_if_eq (tgt := 89) F.1 F.2.1 dX2_readLine_62 (by decide) (fun hc => ?_) (fun hc => ?_)
  · replace h := ifT h hc
    exact w_89 q1.2 q2 h H locs _ hS (lv_sub hl [1, 0] rfl)
  replace h := ifF h hc
  refine lv_aload_n F.1 F.2.1 dX2_readLine_65 rfl (lv_at hl 1 rfl) ?_
  refine gf_X2_21 F G hS dX2_readLine_66 ?_
  refine lv_iload_n F.1 F.2.1 dX2_readLine_69 rfl (lv_at hl 0 rfl) ?_
  obtain ⟨q29, h_q29, h⟩ := bd h
  refine rNi F G hS hl.1 (c_X6_value l g q1.2 τ 28 q2 q29 h_q29) lk_X2_65 ⟨rfl, rfl, Nat.le_of_ble_eq_true rfl, Nat.le_of_ble_eq_true rfl⟩ (rc_X6 G hS rfl) rfl rfl (Nat.le_of_ble_eq_true rfl) dX2_readLine_70 (kRi (fun H locs hS => ?_))
  refine gs_X2_69 F G hS dX2_readLine_73 ?_
  refine lv_iload_n F.1 F.2.1 dX2_readLine_76 rfl (lv_at hl 0 rfl) ?_
  obtain ⟨q30, h_q30, h⟩ := bd h
  refine rTi F G hS hl.1 (c_X7_atS l g q1.2 τ 102 q2 q30 h_q30) lk_X2_73 ⟨rfl, rfl, Nat.le_of_ble_eq_true rfl, Nat.le_of_ble_eq_true rfl⟩  rfl rfl (Nat.le_of_ble_eq_true rfl) dX2_readLine_77 (kRi (fun H locs hS => ?_))
  refine lv_icmp_lt (tgt := 89) F.1 F.2.1 dX2_readLine_80 (by decide) (fun hc => ?_) (fun hc => ?_)
  · replace h := ifT h hc
    exact w_89 q1.2 q2 h H locs _ hS (lv_sub hl [1, 0] rfl)
  replace h := ifF h hc
  refine lv_aload_n F.1 F.2.1 dX2_readLine_83 rfl (lv_at hl 1 rfl) ?_
  refine lv_iconst (v := (5 : Int32)) F.1 F.2.1 dX2_readLine_84 (by decide) ?_
  obtain ⟨q31, h_q31, h⟩ := bd h
  refine rVi F G hS hl.1 (c_X2_refuse l g q1.2 τ (5 : Int32) q31 h_q31) lk_X2_58 ⟨rfl, rfl, Nat.le_of_ble_eq_true rfl, Nat.le_of_ble_eq_true rfl⟩ (rc_X2 G hS) rfl rfl (Nat.le_of_ble_eq_true rfl) dX2_readLine_85 (kIi (fun H locs hS => ?_))
  obtain ⟨hz, h⟩ := gd h
  exact e_z F hS hz ⟨Option.some.inj h, rfl⟩ hr0 dX2_readLine_88 hk0
