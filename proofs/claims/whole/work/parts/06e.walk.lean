def f_X7_isImage (a1 : Int32) : Option (Int32) := if a1 = 0 then (some (1 : Int32)) else (if a1 = (1 : Int32) then (some (1 : Int32)) else (some (0 : Int32)))
abbrev rm_X7_isImage : Room := { frames := 0, cells := 0, slots := 0, locals := 0 }
set_option maxHeartbeats 4000000 in
set_option maxRecDepth 100000 in
theorem c_X7_isImage (l : Launch) (g : GG) (σ : ZI) (τ : ZL) (a1 : Int32) (res : Int32) (h : f_X7_isImage a1 = some res) : MI l yX7_isImage cX7_isImage 1 (some .boolean) rm_X7_isImage g [.int a1] σ τ (fun (r : Int32) (u : ZI × ZL) => r = res ∧ u.1 = σ ∧ u.2 = τ) := by
  refine Met_in (by decide) (Nat.le_of_ble_eq_true rfl) ?_
  intro p e s m args below meth c F G hP hr0 hk0 ls hl
  have hS := WS.start hP
  have hl : lv_has ls 1 [(0, .int a1)] := hl
  obtain ⟨H, hH⟩ : ∃ H, H = s.heap := ⟨_, rfl⟩
  rw [← hH] at hS ⊢
  clear hH hP
  rw [f_X7_isImage] at h
  obtain ⟨locs, hlo⟩ : ∃ z : List Loc, z = [] := ⟨_, rfl⟩
  rw [← hlo] at hS ⊢
  clear hlo
  refine lv_iload_n F.1 F.2.1 dX7_isImage_0 rfl (lv_at hl 0 rfl) ?_
  refine lv_if_eq (tgt := 9) F.1 F.2.1 dX7_isImage_1 (by decide) (fun hc => ?_) (fun hc => ?_)
  · replace h := ifT h hc
    refine lv_iconst (v := (1 : Int32)) F.1 F.2.1 dX7_isImage_9 (by decide) ?_
    refine lv_goto (tgt := 14) F.1 F.2.1 dX7_isImage_10 (by decide) ?_
    exact e_z F hS (by decide) ⟨Option.some.inj h, rfl, rfl⟩ hr0 dX7_isImage_14 hk0
  replace h := ifF h hc
  refine lv_iload_n F.1 F.2.1 dX7_isImage_4 rfl (lv_at hl 0 rfl) ?_
  refine lv_iconst (v := (1 : Int32)) F.1 F.2.1 dX7_isImage_5 (by decide) ?_
  refine lv_icmp_ne (tgt := 13) F.1 F.2.1 dX7_isImage_6 (by decide) (fun hc => ?_) (fun hc => ?_)
  · replace h := ifF h hc
    refine lv_iconst (v := (0 : Int32)) F.1 F.2.1 dX7_isImage_13 (by decide) ?_
    exact e_z F hS (by decide) ⟨Option.some.inj h, rfl, rfl⟩ hr0 dX7_isImage_14 hk0
  replace h := ifT h hc
  refine lv_iconst (v := (1 : Int32)) F.1 F.2.1 dX7_isImage_9 (by decide) ?_
  refine lv_goto (tgt := 14) F.1 F.2.1 dX7_isImage_10 (by decide) ?_
  exact e_z F hS (by decide) ⟨Option.some.inj h, rfl, rfl⟩ hr0 dX7_isImage_14 hk0
def f_X7_imageOf (a1 : Int32) : Option (Nat) := if a1 = 0 then (some 10) else (some 19)
abbrev rm_X7_imageOf : Room := { frames := 0, cells := 0, slots := 0, locals := 0 }
set_option maxHeartbeats 4000000 in
set_option maxRecDepth 100000 in
theorem c_X7_imageOf (l : Launch) (g : GG) (σ : ZI) (τ : ZL) (a1 : Int32) (res : Nat) (h : f_X7_imageOf a1 = some res) : Met l yX7_imageOf (.code yX7_imageOf cX7_imageOf 2 (some (.object "MailCatch$Told")) :: TBL) rm_X7_imageOf (va_Pc [.ref (gA g 0), .int a1] (WP g σ τ)) (va_Qr (fun (z : Nat × (ZI × ZL)) => z.1 = res ∧ z.2.1 = σ ∧ z.2.2 = τ) (fun z a t => a = gA g z.1 ∧ WQ g z.2 t) (AA g)) 0 0 (AA g) := by
  refine Met_in (by decide) (Nat.le_of_ble_eq_true rfl) ?_
  intro p e s m args below meth c F G hP hr0 hk0 ls hl
  have hS := WS.start hP
  have hl : lv_has ls 2 [(0, .ref (gA g 0)), (1, .int a1)] := hl
  obtain ⟨H, hH⟩ : ∃ H, H = s.heap := ⟨_, rfl⟩
  rw [← hH] at hS ⊢
  clear hH hP
  rw [f_X7_imageOf] at h
  obtain ⟨locs, hlo⟩ : ∃ z : List Loc, z = [] := ⟨_, rfl⟩
  rw [← hlo] at hS ⊢
  clear hlo
  refine lv_iload_n F.1 F.2.1 dX7_imageOf_0 rfl (lv_at hl 1 rfl) ?_
  refine lv_if_ne (tgt := 11) F.1 F.2.1 dX7_imageOf_1 (by decide) (fun hc => ?_) (fun hc => ?_)
  · replace h := ifF h hc
    refine lv_aload_n F.1 F.2.1 dX7_imageOf_11 rfl (lv_at hl 0 rfl) ?_
    refine gf_X7_19 F G hS dX7_imageOf_12 ?_
    exact e_r F hS (Or.inl ⟨_, rfl⟩) ⟨Option.some.inj h, rfl, rfl⟩ hr0 dX7_imageOf_15 hk0
  replace h := ifT h hc
  refine lv_aload_n F.1 F.2.1 dX7_imageOf_4 rfl (lv_at hl 0 rfl) ?_
  refine gf_X7_16 F G hS dX7_imageOf_5 ?_
  refine lv_goto (tgt := 15) F.1 F.2.1 dX7_imageOf_8 (by decide) ?_
  exact e_r F hS (Or.inl ⟨_, rfl⟩) ⟨Option.some.inj h, rfl, rfl⟩ hr0 dX7_imageOf_15 hk0
def f_X7_keep (σ : ZI) (a1 : Int32) : Option (Int32 × ZI) := (f_X7_isImage a1).bind (fun q1 => if q1 = 0 then (some ((-1 : Int32), σ)) else (lt_ ((((σ 0 3) >>> (a1 &&& 31)) &&& (1 : Int32))) (fun x2 => (f_X7_imageOf a1).bind (fun q3 => if (ar q3).1 = 11 then ((f_X6_take σ q3 1).bind (fun q4 => lt_ (va_up q4 0 (upd (q4 0) 3 ((q4 0 3) ||| ((1 : Int32) <<< (a1 &&& 31))))) (fun σ5 => some (x2, σ5)))) else none))))
abbrev rm_X7_keep : Room := { frames := 2, cells := 0, slots := 0, locals := 61 }
set_option maxHeartbeats 4000000 in
set_option maxRecDepth 100000 in
theorem c_X7_keep (l : Launch) (g : GG) (σ : ZI) (τ : ZL) (a1 : Int32) (res : Int32 × ZI) (h : f_X7_keep σ a1 = some res) : MI l yX7_keep cX7_keep 3 (some .int) rm_X7_keep g [.ref (gA g 0), .int a1] σ τ (fun (r : Int32) (u : ZI × ZL) => (r, u.1) = res ∧ u.2 = τ) := by
  refine Met_in (by decide) (Nat.le_of_ble_eq_true rfl) ?_
  intro p e s m args below meth c F G hP hr0 hk0 ls hl
  have hS := WS.start hP
  have hl : lv_has ls 3 [(0, .ref (gA g 0)), (1, .int a1)] := hl
  obtain ⟨H, hH⟩ : ∃ H, H = s.heap := ⟨_, rfl⟩
  rw [← hH] at hS ⊢
  clear hH hP
  rw [f_X7_keep] at h
  obtain ⟨locs, hlo⟩ : ∃ z : List Loc, z = [] := ⟨_, rfl⟩
  rw [← hlo] at hS ⊢
  clear hlo
  refine lv_iload_n F.1 F.2.1 dX7_keep_0 rfl (lv_at hl 1 rfl) ?_
  obtain ⟨q1, h_q1, h⟩ := bd h
  refine rSi F G hS hl.1 (c_X7_isImage l g σ τ a1 q1 h_q1) lk_X7_288 ⟨rfl, rfl, Nat.le_of_ble_eq_true rfl, Nat.le_of_ble_eq_true rfl⟩  rfl rfl (Nat.le_of_ble_eq_true rfl) dX7_keep_1 (kRi (fun H locs hS => ?_))
  refine lv_if_ne (tgt := 9) F.1 F.2.1 dX7_keep_4 (by decide) (fun hc => ?_) (fun hc => ?_)
  rotate_left
  · replace h := ifT h hc
    refine lv_iconst (v := (-1 : Int32)) F.1 F.2.1 dX7_keep_7 (by decide) ?_
    exact e_i F hS ⟨Option.some.inj h, rfl⟩ hr0 dX7_keep_8 hk0
  replace h := ifF h hc
  refine lv_aload_n F.1 F.2.1 dX7_keep_9 rfl (lv_at hl 0 rfl) ?_
  refine gf_X7_107 F G hS dX7_keep_10 ?_
  refine lv_iload_n F.1 F.2.1 dX7_keep_13 rfl (lv_at hl 1 rfl) ?_
  refine lv_ishr F.1 F.2.1 dX7_keep_14 ?_
  refine lv_iconst (v := (1 : Int32)) F.1 F.2.1 dX7_keep_15 (by decide) ?_
  refine lv_iand F.1 F.2.1 dX7_keep_16 ?_
  obtain ⟨x2, e_x2, h⟩ := ltE h
  refine x_topi e_x2 ?_
  clear e_x2
  refine lv_istore_n (lv' := [(2, .int x2), (0, .ref (gA g 0)), (1, .int a1)]) F.1 F.2.1 dX7_keep_17 rfl hl (by decide) rfl (fun ls hl => ?_)
  refine lv_aload_n F.1 F.2.1 dX7_keep_18 rfl (lv_at hl 1 rfl) ?_
  refine lv_iload_n F.1 F.2.1 dX7_keep_19 rfl (lv_at hl 2 rfl) ?_
  obtain ⟨q3, h_q3, h⟩ := bd h
  refine rVr F G hS hl.1 (c_X7_imageOf l g σ τ a1 q3 h_q3) lk_X7_291 ⟨rfl, rfl, Nat.le_of_ble_eq_true rfl, Nat.le_of_ble_eq_true rfl⟩ (rc_X7 G hS) rfl rfl (Nat.le_of_ble_eq_true rfl) dX7_keep_20 (kRr (fun H locs hS => ?_))
  refine lv_aload_n F.1 F.2.1 dX7_keep_23 rfl (lv_at hl 1 rfl) ?_
  refine gf_X7_10 F G hS dX7_keep_24 ?_
  obtain ⟨hT_q3, h⟩ := gd h
  obtain ⟨q4, h_q4, h⟩ := bd h
  refine rNv F G hS hl.1 (c_X6_take l g σ τ q3 1 q4 h_q4) lk_X7_100 ⟨rfl, rfl, Nat.le_of_ble_eq_true rfl, Nat.le_of_ble_eq_true rfl⟩ (rc_X6 G hS hT_q3) rfl rfl (Nat.le_of_ble_eq_true rfl) dX7_keep_27 (kIv (fun H locs hS => ?_))
  refine lv_aload_n F.1 F.2.1 dX7_keep_30 rfl (lv_at hl 1 rfl) ?_
  refine lv_dup F.1 F.2.1 dX7_keep_31 rfl ?_
  refine gf_X7_107 F G hS dX7_keep_32 ?_
  refine lv_iconst (v := (1 : Int32)) F.1 F.2.1 dX7_keep_35 (by decide) ?_
  refine lv_iload_n F.1 F.2.1 dX7_keep_36 rfl (lv_at hl 2 rfl) ?_
  refine lv_ishl F.1 F.2.1 dX7_keep_37 ?_
  refine lv_ior F.1 F.2.1 dX7_keep_38 ?_
  refine pf_X7_107 F G hS dX7_keep_39 (fun H locs hS => ?_)
  obtain ⟨σ5, e_σ5, h⟩ := ltE h
  rw [← e_σ5] at hS
  clear e_σ5
  refine lv_iload_n F.1 F.2.1 dX7_keep_42 rfl (lv_at hl 0 rfl) ?_
  exact e_i F hS ⟨Option.some.inj h, rfl⟩ hr0 dX7_keep_43 hk0
def f_X7_back (σ : ZI) (a1 : Int32) : Option (Int32 × ZI) := (f_X7_isImage a1).bind (fun q1 => if q1 = 0 then (some ((-1 : Int32), σ)) else (if (((σ 0 3) >>> (a1 &&& 31)) &&& (1 : Int32)) = 0 then (some ((-2 : Int32), σ)) else ((f_X7_imageOf a1).bind (fun q2 => (f_X6_take σ 1 q2).bind (fun q3 => (f_X6_value q3 1 (0 : Int32)).bind (fun q4 => some (q4, q3)))))))
abbrev rm_X7_back : Room := { frames := 2, cells := 0, slots := 0, locals := 61 }
set_option maxHeartbeats 4000000 in
set_option maxRecDepth 100000 in
theorem c_X7_back (l : Launch) (g : GG) (σ : ZI) (τ : ZL) (a1 : Int32) (res : Int32 × ZI) (h : f_X7_back σ a1 = some res) : MI l yX7_back cX7_back 2 (some .int) rm_X7_back g [.ref (gA g 0), .int a1] σ τ (fun (r : Int32) (u : ZI × ZL) => (r, u.1) = res ∧ u.2 = τ) := by
  refine Met_in (by decide) (Nat.le_of_ble_eq_true rfl) ?_
  intro p e s m args below meth c F G hP hr0 hk0 ls hl
  have hS := WS.start hP
  have hl : lv_has ls 2 [(0, .ref (gA g 0)), (1, .int a1)] := hl
  obtain ⟨H, hH⟩ : ∃ H, H = s.heap := ⟨_, rfl⟩
  rw [← hH] at hS ⊢
  clear hH hP
  rw [f_X7_back] at h
  obtain ⟨locs, hlo⟩ : ∃ z : List Loc, z = [] := ⟨_, rfl⟩
  rw [← hlo] at hS ⊢
  clear hlo
  refine lv_iload_n F.1 F.2.1 dX7_back_0 rfl (lv_at hl 1 rfl) ?_
  obtain ⟨q1, h_q1, h⟩ := bd h
  refine rSi F G hS hl.1 (c_X7_isImage l g σ τ a1 q1 h_q1) lk_X7_288 ⟨rfl, rfl, Nat.le_of_ble_eq_true rfl, Nat.le_of_ble_eq_true rfl⟩  rfl rfl (Nat.le_of_ble_eq_true rfl) dX7_back_1 (kRi (fun H locs hS => ?_))
  refine lv_if_ne (tgt := 9) F.1 F.2.1 dX7_back_4 (by decide) (fun hc => ?_) (fun hc => ?_)
  rotate_left
  · replace h := ifT h hc
    refine lv_iconst (v := (-1 : Int32)) F.1 F.2.1 dX7_back_7 (by decide) ?_
    exact e_i F hS ⟨Option.some.inj h, rfl⟩ hr0 dX7_back_8 hk0
  replace h := ifF h hc
  refine lv_aload_n F.1 F.2.1 dX7_back_9 rfl (lv_at hl 0 rfl) ?_
  refine gf_X7_107 F G hS dX7_back_10 ?_
  refine lv_iload_n F.1 F.2.1 dX7_back_13 rfl (lv_at hl 1 rfl) ?_
  refine lv_ishr F.1 F.2.1 dX7_back_14 ?_
  refine lv_iconst (v := (1 : Int32)) F.1 F.2.1 dX7_back_15 (by decide) ?_
  refine lv_iand F.1 F.2.1 dX7_back_16 ?_
  refine lv_if_ne (tgt := 23) F.1 F.2.1 dX7_back_17 (by decide) (fun hc => ?_) (fun hc => ?_)
  rotate_left
  · replace h := ifT h hc
    refine lv_bipush (v := (-2 : Int32)) F.1 F.2.1 dX7_back_20 (by decide) ?_
    exact e_i F hS ⟨Option.some.inj h, rfl⟩ hr0 dX7_back_22 hk0
  replace h := ifF h hc
  refine lv_aload_n F.1 F.2.1 dX7_back_23 rfl (lv_at hl 0 rfl) ?_
  refine gf_X7_10 F G hS dX7_back_24 ?_
  refine lv_aload_n F.1 F.2.1 dX7_back_27 rfl (lv_at hl 0 rfl) ?_
  refine lv_iload_n F.1 F.2.1 dX7_back_28 rfl (lv_at hl 1 rfl) ?_
  obtain ⟨q2, h_q2, h⟩ := bd h
  refine rVr F G hS hl.1 (c_X7_imageOf l g σ τ a1 q2 h_q2) lk_X7_291 ⟨rfl, rfl, Nat.le_of_ble_eq_true rfl, Nat.le_of_ble_eq_true rfl⟩ (rc_X7 G hS) rfl rfl (Nat.le_of_ble_eq_true rfl) dX7_back_29 (kRr (fun H locs hS => ?_))
  obtain ⟨q3, h_q3, h⟩ := bd h
  refine rNv F G hS hl.1 (c_X6_take l g σ τ 1 q2 q3 h_q3) lk_X7_100 ⟨rfl, rfl, Nat.le_of_ble_eq_true rfl, Nat.le_of_ble_eq_true rfl⟩ (rc_X6 G hS rfl) rfl rfl (Nat.le_of_ble_eq_true rfl) dX7_back_32 (kIv (fun H locs hS => ?_))
  refine lv_aload_n F.1 F.2.1 dX7_back_35 rfl (lv_at hl 0 rfl) ?_
  refine gf_X7_10 F G hS dX7_back_36 ?_
  refine lv_iconst (v := (0 : Int32)) F.1 F.2.1 dX7_back_39 (by decide) ?_
  obtain ⟨q4, h_q4, h⟩ := bd h
  refine rNi F G hS hl.1 (c_X6_value l g q3 τ 1 (0 : Int32) q4 h_q4) lk_X7_110 ⟨rfl, rfl, Nat.le_of_ble_eq_true rfl, Nat.le_of_ble_eq_true rfl⟩ (rc_X6 G hS rfl) rfl rfl (Nat.le_of_ble_eq_true rfl) dX7_back_40 (kRi (fun H locs hS => ?_))
  exact e_i F hS ⟨Option.some.inj h, rfl⟩ hr0 dX7_back_43 hk0
def f_X7_isSheet (a1 : Int32) : Option (Int32) := if a1 < 0 then (some (0 : Int32)) else (if (4 : Int32) ≤ a1 then (some (0 : Int32)) else (some (1 : Int32)))
abbrev rm_X7_isSheet : Room := { frames := 0, cells := 0, slots := 0, locals := 0 }
set_option maxHeartbeats 4000000 in
set_option maxRecDepth 100000 in
theorem c_X7_isSheet (l : Launch) (g : GG) (σ : ZI) (τ : ZL) (a1 : Int32) (res : Int32) (h : f_X7_isSheet a1 = some res) : MI l yX7_isSheet cX7_isSheet 1 (some .boolean) rm_X7_isSheet g [.int a1] σ τ (fun (r : Int32) (u : ZI × ZL) => r = res ∧ u.1 = σ ∧ u.2 = τ) := by
  refine Met_in (by decide) (Nat.le_of_ble_eq_true rfl) ?_
  intro p e s m args below meth c F G hP hr0 hk0 ls hl
  have hS := WS.start hP
  have hl : lv_has ls 1 [(0, .int a1)] := hl
  obtain ⟨H, hH⟩ : ∃ H, H = s.heap := ⟨_, rfl⟩
  rw [← hH] at hS ⊢
  clear hH hP
  rw [f_X7_isSheet] at h
  obtain ⟨locs, hlo⟩ : ∃ z : List Loc, z = [] := ⟨_, rfl⟩
  rw [← hlo] at hS ⊢
  clear hlo
  refine lv_iload_n F.1 F.2.1 dX7_isSheet_0 rfl (lv_at hl 0 rfl) ?_
  refine lv_if_lt (tgt := 13) F.1 F.2.1 dX7_isSheet_1 (by decide) (fun hc => ?_) (fun hc => ?_)
  · replace h := ifT h hc
    refine lv_iconst (v := (0 : Int32)) F.1 F.2.1 dX7_isSheet_13 (by decide) ?_
    exact e_z F hS (by decide) ⟨Option.some.inj h, rfl, rfl⟩ hr0 dX7_isSheet_14 hk0
  replace h := ifF h hc
  refine lv_iload_n F.1 F.2.1 dX7_isSheet_4 rfl (lv_at hl 0 rfl) ?_
  refine lv_iconst (v := (4 : Int32)) F.1 F.2.1 dX7_isSheet_5 (by decide) ?_
  refine lv_icmp_ge (tgt := 13) F.1 F.2.1 dX7_isSheet_6 (by decide) (fun hc => ?_) (fun hc => ?_)
  · replace h := ifT h hc
    refine lv_iconst (v := (0 : Int32)) F.1 F.2.1 dX7_isSheet_13 (by decide) ?_
    exact e_z F hS (by decide) ⟨Option.some.inj h, rfl, rfl⟩ hr0 dX7_isSheet_14 hk0
  replace h := ifF h hc
  refine lv_iconst (v := (1 : Int32)) F.1 F.2.1 dX7_isSheet_9 (by decide) ?_
  refine lv_goto (tgt := 14) F.1 F.2.1 dX7_isSheet_10 (by decide) ?_
  exact e_z F hS (by decide) ⟨Option.some.inj h, rfl, rfl⟩ hr0 dX7_isSheet_14 hk0
def f_X7_isLane (a1 : Int32) : Option (Int32) := if a1 < 0 then (some (0 : Int32)) else (if (3 : Int32) ≤ a1 then (some (0 : Int32)) else (some (1 : Int32)))
abbrev rm_X7_isLane : Room := { frames := 0, cells := 0, slots := 0, locals := 0 }
set_option maxHeartbeats 4000000 in
set_option maxRecDepth 100000 in
theorem c_X7_isLane (l : Launch) (g : GG) (σ : ZI) (τ : ZL) (a1 : Int32) (res : Int32) (h : f_X7_isLane a1 = some res) : MI l yX7_isLane cX7_isLane 1 (some .boolean) rm_X7_isLane g [.int a1] σ τ (fun (r : Int32) (u : ZI × ZL) => r = res ∧ u.1 = σ ∧ u.2 = τ) := by
  refine Met_in (by decide) (Nat.le_of_ble_eq_true rfl) ?_
  intro p e s m args below meth c F G hP hr0 hk0 ls hl
  have hS := WS.start hP
  have hl : lv_has ls 1 [(0, .int a1)] := hl
  obtain ⟨H, hH⟩ : ∃ H, H = s.heap := ⟨_, rfl⟩
  rw [← hH] at hS ⊢
  clear hH hP
  rw [f_X7_isLane] at h
  obtain ⟨locs, hlo⟩ : ∃ z : List Loc, z = [] := ⟨_, rfl⟩
  rw [← hlo] at hS ⊢
  clear hlo
  refine lv_iload_n F.1 F.2.1 dX7_isLane_0 rfl (lv_at hl 0 rfl) ?_
  refine lv_if_lt (tgt := 13) F.1 F.2.1 dX7_isLane_1 (by decide) (fun hc => ?_) (fun hc => ?_)
  · replace h := ifT h hc
    refine lv_iconst (v := (0 : Int32)) F.1 F.2.1 dX7_isLane_13 (by decide) ?_
    exact e_z F hS (by decide) ⟨Option.some.inj h, rfl, rfl⟩ hr0 dX7_isLane_14 hk0
  replace h := ifF h hc
  refine lv_iload_n F.1 F.2.1 dX7_isLane_4 rfl (lv_at hl 0 rfl) ?_
  refine lv_iconst (v := (3 : Int32)) F.1 F.2.1 dX7_isLane_5 (by decide) ?_
  refine lv_icmp_ge (tgt := 13) F.1 F.2.1 dX7_isLane_6 (by decide) (fun hc => ?_) (fun hc => ?_)
  · replace h := ifT h hc
    refine lv_iconst (v := (0 : Int32)) F.1 F.2.1 dX7_isLane_13 (by decide) ?_
    exact e_z F hS (by decide) ⟨Option.some.inj h, rfl, rfl⟩ hr0 dX7_isLane_14 hk0
  replace h := ifF h hc
  refine lv_iconst (v := (1 : Int32)) F.1 F.2.1 dX7_isLane_9 (by decide) ?_
  refine lv_goto (tgt := 14) F.1 F.2.1 dX7_isLane_10 (by decide) ?_
  exact e_z F hS (by decide) ⟨Option.some.inj h, rfl, rfl⟩ hr0 dX7_isLane_14 hk0
def f_X4_renew_30 (a1 : Int32) (a2 : Int32) (a3 : Int32)  : Nat → ZI → Int32 → Option (ZI)
  | 0, _, _ => none
  | n + 1, σ, v4 => if (40 : Int32) ≤ v4 then (some σ) else ((f_X7_put σ 58 ((a1 * (40 : Int32)) + v4) (0 : Int32)).bind (fun q4 => f_X4_renew_30 a1 a2 a3 n q4 (v4 + (1 : Int32))))
def f_X4_renew (σ : ZI) (a1 : Int32) (a2 : Int32) (a3 : Int32) : Option (ZI) := (f_X7_put σ 55 a1 (1 : Int32)).bind (fun q1 => (f_X7_put q1 56 a1 a2).bind (fun q2 => (f_X7_put q2 57 a1 a3).bind (fun q3 => f_X4_renew_30 a1 a2 a3 3000 q3 (0 : Int32))))
abbrev rm_X4_renew : Room := { frames := 1, cells := 0, slots := 0, locals := 22 }
set_option maxHeartbeats 4000000 in
set_option maxRecDepth 100000 in
theorem c_X4_renew (l : Launch) (g : GG) (σ : ZI) (τ : ZL) (a1 : Int32) (a2 : Int32) (a3 : Int32) (res : ZI) (h : f_X4_renew σ a1 a2 a3 = some res) : MV l yX4_renew cX4_renew 5 none rm_X4_renew g [.ref (gA g 54), .int a1, .int a2, .int a3] σ τ (fun (u : ZI × ZL) => u.1 = res ∧ u.2 = τ) := by
  refine Met_in (by decide) (Nat.le_of_ble_eq_true rfl) ?_
  intro p e s m args below meth c F G hP hr0 hk0 ls hl
  have hS := WS.start hP
  have hl : lv_has ls 5 [(0, .ref (gA g 54)), (1, .int a1), (2, .int a2), (3, .int a3)] := hl
  obtain ⟨H, hH⟩ : ∃ H, H = s.heap := ⟨_, rfl⟩
  rw [← hH] at hS ⊢
  clear hH hP
  rw [f_X4_renew] at h
  have w_30 : ∀ (n : Nat) (σ : ZI) (v4 : Int32), f_X4_renew_30 a1 a2 a3 n σ v4 = some res → ∀ (H : Heap) (locs : List Loc) (ls : Array Slot), WS g σ τ s H locs → lv_has ls 5 [(0, .ref (gA g 54)), (1, .int a1), (4, .int v4)] → W p l e rm_X4_renew s m args below meth c H locs 0 0 (MQ below (va_Qv (fun (u : ZI × ZL) => u.1 = res ∧ u.2 = τ) (WQ g) (AA g)) args s 0 0 (AA g)) (F0 m 30 ls []) := by
    intro n
    induction n with
    | zero => intro σ v4 h; rw [f_X4_renew_30] at h; cases h
    | succ n ih =>
      intro σ v4 h H locs ls hS hl
      rw [f_X4_renew_30] at h
      refine lv_iload F.1 F.2.1 dX4_renew_30 (lv_at hl 2 rfl) ?_
      refine lv_bipush (v := (40 : Int32)) F.1 F.2.1 dX4_renew_32 (by decide) ?_
      refine lv_icmp_ge (tgt := 58) F.1 F.2.1 dX4_renew_34 (by decide) (fun hc => ?_) (fun hc => ?_)
      · replace h := ifT h hc
        exact e_v F hS ⟨Option.some.inj h, rfl⟩ hr0 dX4_renew_58 hk0
      replace h := ifF h hc
      refine lv_aload_n F.1 F.2.1 dX4_renew_37 rfl (lv_at hl 0 rfl) ?_
      refine gf_X4_21 F G hS dX4_renew_38 ?_
      refine lv_iload_n F.1 F.2.1 dX4_renew_41 rfl (lv_at hl 1 rfl) ?_
      refine lv_bipush (v := (40 : Int32)) F.1 F.2.1 dX4_renew_42 (by decide) ?_
      refine lv_imul F.1 F.2.1 dX4_renew_44 ?_
      refine lv_iload F.1 F.2.1 dX4_renew_45 (lv_at hl 2 rfl) ?_
      refine lv_iadd F.1 F.2.1 dX4_renew_47 ?_
      refine lv_iconst (v := (0 : Int32)) F.1 F.2.1 dX4_renew_48 (by decide) ?_
      obtain ⟨q4, h_q4, h⟩ := bd h
      refine rTv F G hS hl.1 (c_X7_put l g σ τ 58 ((a1 * (40 : Int32)) + v4) (0 : Int32) q4 h_q4) lk_X4_24 ⟨rfl, rfl, Nat.le_of_ble_eq_true rfl, Nat.le_of_ble_eq_true rfl⟩  rfl rfl (Nat.le_of_ble_eq_true rfl) dX4_renew_49 (kIv (fun H locs hS => ?_))
      refine lv_iinc (v := (v4 + (1 : Int32))) (lv' := [(4, .int (v4 + (1 : Int32))), (0, .ref (gA g 54)), (1, .int a1)]) F.1 F.2.1 dX4_renew_52 hl (k := 2) rfl rfl (by decide) rfl (fun ls hl => ?_)
      refine lv_goto (tgt := 30) F.1 F.2.1 dX4_renew_55 (by decide) ?_
      exact ih q4 (v4 + (1 : Int32)) h H locs _ hS (lv_sub hl [1, 2, 0] rfl)
  obtain ⟨locs, hlo⟩ : ∃ z : List Loc, z = [] := ⟨_, rfl⟩
  rw [← hlo] at hS ⊢
  clear hlo
  refine lv_aload_n F.1 F.2.1 dX4_renew_0 rfl (lv_at hl 0 rfl) ?_
  refine gf_X4_9 F G hS dX4_renew_1 ?_
  refine lv_iload_n F.1 F.2.1 dX4_renew_4 rfl (lv_at hl 1 rfl) ?_
  refine lv_iconst (v := (1 : Int32)) F.1 F.2.1 dX4_renew_5 (by decide) ?_
  obtain ⟨q1, h_q1, h⟩ := bd h
  refine rTv F G hS hl.1 (c_X7_put l g σ τ 55 a1 (1 : Int32) q1 h_q1) lk_X4_24 ⟨rfl, rfl, Nat.le_of_ble_eq_true rfl, Nat.le_of_ble_eq_true rfl⟩  rfl rfl (Nat.le_of_ble_eq_true rfl) dX4_renew_6 (kIv (fun H locs hS => ?_))
  refine lv_aload_n F.1 F.2.1 dX4_renew_9 rfl (lv_at hl 0 rfl) ?_
  refine gf_X4_15 F G hS dX4_renew_10 ?_
  refine lv_iload_n F.1 F.2.1 dX4_renew_13 rfl (lv_at hl 1 rfl) ?_
  refine lv_iload_n F.1 F.2.1 dX4_renew_14 rfl (lv_at hl 2 rfl) ?_
  obtain ⟨q2, h_q2, h⟩ := bd h
  refine rTv F G hS hl.1 (c_X7_put l g q1 τ 56 a1 a2 q2 h_q2) lk_X4_24 ⟨rfl, rfl, Nat.le_of_ble_eq_true rfl, Nat.le_of_ble_eq_true rfl⟩  rfl rfl (Nat.le_of_ble_eq_true rfl) dX4_renew_15 (kIv (fun H locs hS => ?_))
  refine lv_aload_n F.1 F.2.1 dX4_renew_18 rfl (lv_at hl 0 rfl) ?_
  refine gf_X4_18 F G hS dX4_renew_19 ?_
  refine lv_iload_n F.1 F.2.1 dX4_renew_22 rfl (lv_at hl 1 rfl) ?_
  refine lv_iload_n F.1 F.2.1 dX4_renew_23 rfl (lv_at hl 3 rfl) ?_
  obtain ⟨q3, h_q3, h⟩ := bd h
  refine rTv F G hS hl.1 (c_X7_put l g q2 τ 57 a1 a3 q3 h_q3) lk_X4_24 ⟨rfl, rfl, Nat.le_of_ble_eq_true rfl, Nat.le_of_ble_eq_true rfl⟩  rfl rfl (Nat.le_of_ble_eq_true rfl) dX4_renew_24 (kIv (fun H locs hS => ?_))
  refine lv_iconst (v := (0 : Int32)) F.1 F.2.1 dX4_renew_27 (by decide) ?_
  refine lv_istore (lv' := [(4, .int (0 : Int32)), (0, .ref (gA g 54)), (1, .int a1), (2, .int a2), (3, .int a3)]) F.1 F.2.1 dX4_renew_28 hl (by decide) rfl (fun ls hl => ?_)
  exact w_30 3000 q3 (0 : Int32) h H locs _ hS (lv_sub hl [1, 2, 0] rfl)
def f_X7_sheet (σ : ZI) (a1 : Int32) (a2 : Int32) (a3 : Int32) : Option (Int32 × ZI) := (f_X7_isSheet a1).bind (fun q1 => if q1 = 0 then (some ((-1 : Int32), σ)) else ((f_X7_isLane a2).bind (fun q2 => if q2 = 0 then (some ((-1 : Int32), σ)) else (if a3 ≤ (40 : Int32) then (if 0 ≤ a3 then ((f_X4_renew σ a1 a2 a3).bind (fun q3 => some ((1 : Int32), q3))) else (some ((-14 : Int32), σ))) else (some ((-1 : Int32), σ))))))
abbrev rm_X7_sheet : Room := { frames := 2, cells := 0, slots := 0, locals := 46 }
set_option maxHeartbeats 4000000 in
set_option maxRecDepth 100000 in
theorem c_X7_sheet (l : Launch) (g : GG) (σ : ZI) (τ : ZL) (a1 : Int32) (a2 : Int32) (a3 : Int32) (res : Int32 × ZI) (h : f_X7_sheet σ a1 a2 a3 = some res) : MI l yX7_sheet cX7_sheet 4 (some .int) rm_X7_sheet g [.ref (gA g 0), .int a1, .int a2, .int a3] σ τ (fun (r : Int32) (u : ZI × ZL) => (r, u.1) = res ∧ u.2 = τ) := by
  refine Met_in (by decide) (Nat.le_of_ble_eq_true rfl) ?_
  intro p e s m args below meth c F G hP hr0 hk0 ls hl
  have hS := WS.start hP
  have hl : lv_has ls 4 [(0, .ref (gA g 0)), (1, .int a1), (2, .int a2), (3, .int a3)] := hl
  obtain ⟨H, hH⟩ : ∃ H, H = s.heap := ⟨_, rfl⟩
  rw [← hH] at hS ⊢
  clear hH hP
  rw [f_X7_sheet] at h
  obtain ⟨locs, hlo⟩ : ∃ z : List Loc, z = [] := ⟨_, rfl⟩
  rw [← hlo] at hS ⊢
  clear hlo
  refine lv_iload_n F.1 F.2.1 dX7_sheet_0 rfl (lv_at hl 1 rfl) ?_
  obtain ⟨q1, h_q1, h⟩ := bd h
  refine rSi F G hS hl.1 (c_X7_isSheet l g σ τ a1 q1 h_q1) lk_X7_295 ⟨rfl, rfl, Nat.le_of_ble_eq_true rfl, Nat.le_of_ble_eq_true rfl⟩  rfl rfl (Nat.le_of_ble_eq_true rfl) dX7_sheet_1 (kRi (fun H locs hS => ?_))
  refine lv_if_eq (tgt := 20) F.1 F.2.1 dX7_sheet_4 (by decide) (fun hc => ?_) (fun hc => ?_)
  · replace h := ifT h hc
    refine lv_iconst (v := (-1 : Int32)) F.1 F.2.1 dX7_sheet_20 (by decide) ?_
    exact e_i F hS ⟨Option.some.inj h, rfl⟩ hr0 dX7_sheet_21 hk0
  replace h := ifF h hc
  refine lv_iload_n F.1 F.2.1 dX7_sheet_7 rfl (lv_at hl 2 rfl) ?_
  obtain ⟨q2, h_q2, h⟩ := bd h
  refine rSi F G hS hl.1 (c_X7_isLane l g σ τ a2 q2 h_q2) lk_X7_298 ⟨rfl, rfl, Nat.le_of_ble_eq_true rfl, Nat.le_of_ble_eq_true rfl⟩  rfl rfl (Nat.le_of_ble_eq_true rfl) dX7_sheet_8 (kRi (fun H locs hS => ?_))
  refine lv_if_eq (tgt := 20) F.1 F.2.1 dX7_sheet_11 (by decide) (fun hc => ?_) (fun hc => ?_)
  · replace h := ifT h hc
    refine lv_iconst (v := (-1 : Int32)) F.1 F.2.1 dX7_sheet_20 (by decide) ?_
    exact e_i F hS ⟨Option.some.inj h, rfl⟩ hr0 dX7_sheet_21 hk0
  replace h := ifF h hc
  refine lv_iload_n F.1 F.2.1 dX7_sheet_14 rfl (lv_at hl 3 rfl) ?_
  refine lv_bipush (v := (40 : Int32)) F.1 F.2.1 dX7_sheet_15 (by decide) ?_
  refine lv_icmp_le (tgt := 22) F.1 F.2.1 dX7_sheet_17 (by decide) (fun hc => ?_) (fun hc => ?_)
  rotate_left
  · replace h := ifF h hc
    refine lv_iconst (v := (-1 : Int32)) F.1 F.2.1 dX7_sheet_20 (by decide) ?_
    exact e_i F hS ⟨Option.some.inj h, rfl⟩ hr0 dX7_sheet_21 hk0
  replace h := ifT h hc
  refine lv_iload_n F.1 F.2.1 dX7_sheet_22 rfl (lv_at hl 3 rfl) ?_
  refine lv_if_ge (tgt := 29) F.1 F.2.1 dX7_sheet_23 (by decide) (fun hc => ?_) (fun hc => ?_)
  rotate_left
  · replace h := ifF h hc
    refine lv_bipush (v := (-14 : Int32)) F.1 F.2.1 dX7_sheet_26 (by decide) ?_
    exact e_i F hS ⟨Option.some.inj h, rfl⟩ hr0 dX7_sheet_28 hk0
  replace h := ifT h hc
  refine lv_aload_n F.1 F.2.1 dX7_sheet_29 rfl (lv_at hl 0 rfl) ?_
  refine gf_X7_60 F G hS dX7_sheet_30 ?_
  refine lv_iload_n F.1 F.2.1 dX7_sheet_33 rfl (lv_at hl 1 rfl) ?_
  refine lv_iload_n F.1 F.2.1 dX7_sheet_34 rfl (lv_at hl 2 rfl) ?_
  refine lv_iload_n F.1 F.2.1 dX7_sheet_35 rfl (lv_at hl 3 rfl) ?_
  obtain ⟨q3, h_q3, h⟩ := bd h
  refine rNv F G hS hl.1 (c_X4_renew l g σ τ a1 a2 a3 q3 h_q3) lk_X7_301 ⟨rfl, rfl, Nat.le_of_ble_eq_true rfl, Nat.le_of_ble_eq_true rfl⟩ (rc_X4 G hS) rfl rfl (Nat.le_of_ble_eq_true rfl) dX7_sheet_36 (kIv (fun H locs hS => ?_))
  refine lv_iconst (v := (1 : Int32)) F.1 F.2.1 dX7_sheet_39 (by decide) ?_
  exact e_i F hS ⟨Option.some.inj h, rfl⟩ hr0 dX7_sheet_40 hk0
def f_X4_faultOfCell (σ : ZI) (a1 : Int32) (a2 : Int32) : Option (Int32) := (f_X7_at σ 55 a1).bind (fun q1 => if q1 = 0 then (some (1 : Int32)) else (if a2 < 0 then (some (2 : Int32)) else ((f_X7_at σ 57 a1).bind (fun q2 => if a2 < q2 then (some (0 : Int32)) else (some (2 : Int32))))))
abbrev rm_X4_faultOfCell : Room := { frames := 1, cells := 0, slots := 0, locals := 21 }
set_option maxHeartbeats 4000000 in
set_option maxRecDepth 100000 in
theorem c_X4_faultOfCell (l : Launch) (g : GG) (σ : ZI) (τ : ZL) (a1 : Int32) (a2 : Int32) (res : Int32) (h : f_X4_faultOfCell σ a1 a2 = some res) : MI l yX4_faultOfCell cX4_faultOfCell 3 (some .int) rm_X4_faultOfCell g [.ref (gA g 54), .int a1, .int a2] σ τ (fun (r : Int32) (u : ZI × ZL) => r = res ∧ u.1 = σ ∧ u.2 = τ) := by
  refine Met_in (by decide) (Nat.le_of_ble_eq_true rfl) ?_
  intro p e s m args below meth c F G hP hr0 hk0 ls hl
  have hS := WS.start hP
  have hl : lv_has ls 3 [(0, .ref (gA g 54)), (1, .int a1), (2, .int a2)] := hl
  obtain ⟨H, hH⟩ : ∃ H, H = s.heap := ⟨_, rfl⟩
  rw [← hH] at hS ⊢
  clear hH hP
  rw [f_X4_faultOfCell] at h
  obtain ⟨locs, hlo⟩ : ∃ z : List Loc, z = [] := ⟨_, rfl⟩
  rw [← hlo] at hS ⊢
  clear hlo
  refine lv_aload_n F.1 F.2.1 dX4_faultOfCell_0 rfl (lv_at hl 0 rfl) ?_
  refine gf_X4_9 F G hS dX4_faultOfCell_1 ?_
  refine lv_iload_n F.1 F.2.1 dX4_faultOfCell_4 rfl (lv_at hl 1 rfl) ?_
  obtain ⟨q1, h_q1, h⟩ := bd h
  refine rTi F G hS hl.1 (c_X7_at l g σ τ 55 a1 q1 h_q1) lk_X4_28 ⟨rfl, rfl, Nat.le_of_ble_eq_true rfl, Nat.le_of_ble_eq_true rfl⟩  rfl rfl (Nat.le_of_ble_eq_true rfl) dX4_faultOfCell_5 (kRi (fun H locs hS => ?_))
  refine lv_if_ne (tgt := 13) F.1 F.2.1 dX4_faultOfCell_8 (by decide) (fun hc => ?_) (fun hc => ?_)
  rotate_left
  · replace h := ifT h hc
    refine lv_iconst (v := (1 : Int32)) F.1 F.2.1 dX4_faultOfCell_11 (by decide) ?_
    exact e_i F hS ⟨Option.some.inj h, rfl, rfl⟩ hr0 dX4_faultOfCell_12 hk0
  replace h := ifF h hc
  refine lv_iload_n F.1 F.2.1 dX4_faultOfCell_13 rfl (lv_at hl 2 rfl) ?_
  refine lv_if_lt (tgt := 29) F.1 F.2.1 dX4_faultOfCell_14 (by decide) (fun hc => ?_) (fun hc => ?_)
  · replace h := ifT h hc
    refine lv_iconst (v := (2 : Int32)) F.1 F.2.1 dX4_faultOfCell_29 (by decide) ?_
    refine lv_goto (tgt := 34) F.1 F.2.1 dX4_faultOfCell_30 (by decide) ?_
    exact e_i F hS ⟨Option.some.inj h, rfl, rfl⟩ hr0 dX4_faultOfCell_34 hk0
  replace h := ifF h hc
  refine lv_iload_n F.1 F.2.1 dX4_faultOfCell_17 rfl (lv_at hl 2 rfl) ?_
  refine lv_aload_n F.1 F.2.1 dX4_faultOfCell_18 rfl (lv_at hl 0 rfl) ?_
  refine gf_X4_18 F G hS dX4_faultOfCell_19 ?_
  refine lv_iload_n F.1 F.2.1 dX4_faultOfCell_22 rfl (lv_at hl 1 rfl) ?_
  obtain ⟨q2, h_q2, h⟩ := bd h
  refine rTi F G hS hl.1 (c_X7_at l g σ τ 57 a1 q2 h_q2) lk_X4_28 ⟨rfl, rfl, Nat.le_of_ble_eq_true rfl, Nat.le_of_ble_eq_true rfl⟩  rfl rfl (Nat.le_of_ble_eq_true rfl) dX4_faultOfCell_23 (kRi (fun H locs hS => ?_))
  refine lv_icmp_lt (tgt := 33) F.1 F.2.1 dX4_faultOfCell_26 (by decide) (fun hc => ?_) (fun hc => ?_)
  · replace h := ifT h hc
    refine lv_iconst (v := (0 : Int32)) F.1 F.2.1 dX4_faultOfCell_33 (by decide) ?_
    exact e_i F hS ⟨Option.some.inj h, rfl, rfl⟩ hr0 dX4_faultOfCell_34 hk0
  replace h := ifF h hc
  refine lv_iconst (v := (2 : Int32)) F.1 F.2.1 dX4_faultOfCell_29 (by decide) ?_
  refine lv_goto (tgt := 34) F.1 F.2.1 dX4_faultOfCell_30 (by decide) ?_
  exact e_i F hS ⟨Option.some.inj h, rfl, rfl⟩ hr0 dX4_faultOfCell_34 hk0
def f_X4_write_42 (a1 : Int32) (a2 : Int32) (a3 : Int32)  (σ : ZI) (s0 : Int32) (s1 : Int32) : Option (ZI) := (f_X7_put σ 58 s1 s0).bind (fun q2 => some q2)
def f_X4_write (σ : ZI) (a1 : Int32) (a2 : Int32) (a3 : Int32) : Option (ZI) := (f_X7_at σ 56 a1).bind (fun q1 => if q1 = 0 then (f_X4_write_42 a1 a2 a3 σ a3.toInt8.toInt32 ((a1 * (40 : Int32)) + a2)) else (if q1 = (1 : Int32) then (f_X4_write_42 a1 a2 a3 σ a3.toInt16.toInt32 ((a1 * (40 : Int32)) + a2)) else (f_X4_write_42 a1 a2 a3 σ a3 ((a1 * (40 : Int32)) + a2))))
abbrev rm_X4_write : Room := { frames := 1, cells := 0, slots := 0, locals := 22 }
set_option maxHeartbeats 4000000 in
set_option maxRecDepth 100000 in
theorem c_X4_write (l : Launch) (g : GG) (σ : ZI) (τ : ZL) (a1 : Int32) (a2 : Int32) (a3 : Int32) (res : ZI) (h : f_X4_write σ a1 a2 a3 = some res) : MV l yX4_write cX4_write 5 none rm_X4_write g [.ref (gA g 54), .int a1, .int a2, .int a3] σ τ (fun (u : ZI × ZL) => u.1 = res ∧ u.2 = τ) := by
  refine Met_in (by decide) (Nat.le_of_ble_eq_true rfl) ?_
  intro p e s m args below meth c F G hP hr0 hk0 ls hl
  have hS := WS.start hP
  have hl : lv_has ls 5 [(0, .ref (gA g 54)), (1, .int a1), (2, .int a2), (3, .int a3)] := hl
  obtain ⟨H, hH⟩ : ∃ H, H = s.heap := ⟨_, rfl⟩
  rw [← hH] at hS ⊢
  clear hH hP
  rw [f_X4_write] at h
  have w_42 : ∀ (σ : ZI) (s0 : Int32) (s1 : Int32), f_X4_write_42 a1 a2 a3 σ s0 s1 = some res → ∀ (H : Heap) (locs : List Loc) (ls : Array Slot), WS g σ τ s H locs → lv_has ls 5 [] → W p l e rm_X4_write s m args below meth c H locs 0 0 (MQ below (va_Qv (fun (u : ZI × ZL) => u.1 = res ∧ u.2 = τ) (WQ g) (AA g)) args s 0 0 (AA g)) (F0 m 42 ls [.int s0, .int s1, .ref (gA g 58)]) := by
    intro  σ s0 s1 h H locs ls hS hl
    rw [f_X4_write_42] at h
    obtain ⟨q2, h_q2, h⟩ := bd h
    refine rTv F G hS hl.1 (c_X7_put l g σ τ 58 s1 s0 q2 h_q2) lk_X4_24 ⟨rfl, rfl, Nat.le_of_ble_eq_true rfl, Nat.le_of_ble_eq_true rfl⟩  rfl rfl (Nat.le_of_ble_eq_true rfl) dX4_write_42 (kIv (fun H locs hS => ?_))
    exact e_v F hS ⟨Option.some.inj h, rfl⟩ hr0 dX4_write_45 hk0
  obtain ⟨locs, hlo⟩ : ∃ z : List Loc, z = [] := ⟨_, rfl⟩
  rw [← hlo] at hS ⊢
  clear hlo
  refine lv_aload_n F.1 F.2.1 dX4_write_0 rfl (lv_at hl 0 rfl) ?_
  refine gf_X4_15 F G hS dX4_write_1 ?_
  refine lv_iload_n F.1 F.2.1 dX4_write_4 rfl (lv_at hl 1 rfl) ?_
  obtain ⟨q1, h_q1, h⟩ := bd h
  refine rTi F G hS hl.1 (c_X7_at l g σ τ 56 a1 q1 h_q1) lk_X4_28 ⟨rfl, rfl, Nat.le_of_ble_eq_true rfl, Nat.le_of_ble_eq_true rfl⟩  rfl rfl (Nat.le_of_ble_eq_true rfl) dX4_write_5 (kRi (fun H locs hS => ?_))
  refine lv_istore (lv' := [(4, .int q1), (0, .ref (gA g 54)), (1, .int a1), (2, .int a2), (3, .int a3)]) F.1 F.2.1 dX4_write_8 hl (by decide) rfl (fun ls hl => ?_)
  refine lv_aload_n F.1 F.2.1 dX4_write_10 rfl (lv_at hl 1 rfl) ?_
  refine gf_X4_21 F G hS dX4_write_11 ?_
  refine lv_iload_n F.1 F.2.1 dX4_write_14 rfl (lv_at hl 2 rfl) ?_
  refine lv_bipush (v := (40 : Int32)) F.1 F.2.1 dX4_write_15 (by decide) ?_
  refine lv_imul F.1 F.2.1 dX4_write_17 ?_
  refine lv_iload_n F.1 F.2.1 dX4_write_18 rfl (lv_at hl 3 rfl) ?_
  refine lv_iadd F.1 F.2.1 dX4_write_19 ?_
  refine lv_iload F.1 F.2.1 dX4_write_20 (lv_at hl 0 rfl) ?_
  refine lv_if_ne (tgt := 30) F.1 F.2.1 dX4_write_22 (by decide) (fun hc => ?_) (fun hc => ?_)
  rotate_left
  · replace h := ifT h hc
    refine lv_iload_n F.1 F.2.1 dX4_write_25 rfl (lv_at hl 4 rfl) ?_
    refine lv_i2b F.1 F.2.1 dX4_write_26 rfl ?_
    refine lv_goto (tgt := 42) F.1 F.2.1 dX4_write_27 (by decide) ?_
    exact w_42 σ a3.toInt8.toInt32 ((a1 * (40 : Int32)) + a2) h H locs _ hS (lv_sub hl [] rfl)
  replace h := ifF h hc
  refine lv_iload F.1 F.2.1 dX4_write_30 (lv_at hl 0 rfl) ?_
  refine lv_iconst (v := (1 : Int32)) F.1 F.2.1 dX4_write_32 (by decide) ?_
  refine lv_icmp_ne (tgt := 41) F.1 F.2.1 dX4_write_33 (by decide) (fun hc => ?_) (fun hc => ?_)
  · replace h := ifF h hc
    refine lv_iload_n F.1 F.2.1 dX4_write_41 rfl (lv_at hl 4 rfl) ?_
    exact w_42 σ a3 ((a1 * (40 : Int32)) + a2) h H locs _ hS (lv_sub hl [] rfl)
  replace h := ifT h hc
  refine lv_iload_n F.1 F.2.1 dX4_write_36 rfl (lv_at hl 4 rfl) ?_
  refine lv_i2s F.1 F.2.1 dX4_write_37 rfl ?_
  refine lv_goto (tgt := 42) F.1 F.2.1 dX4_write_38 (by decide) ?_
  exact w_42 σ a3.toInt16.toInt32 ((a1 * (40 : Int32)) + a2) h H locs _ hS (lv_sub hl [] rfl)
def f_X7_lay (σ : ZI) (a1 : Int32) (a2 : Int32) (a3 : Int32) : Option (Int32 × ZI) := (f_X7_isSheet a1).bind (fun q1 => if q1 = 0 then (some ((-1 : Int32), σ)) else ((f_X4_faultOfCell σ a1 a2).bind (fun q2 => if q2 = 0 then ((f_X4_write σ a1 a2 a3).bind (fun q3 => some ((1 : Int32), q3))) else (some (((-10 : Int32) - q2), σ)))))
abbrev rm_X7_lay : Room := { frames := 2, cells := 0, slots := 0, locals := 46 }
set_option maxHeartbeats 4000000 in
set_option maxRecDepth 100000 in
theorem c_X7_lay (l : Launch) (g : GG) (σ : ZI) (τ : ZL) (a1 : Int32) (a2 : Int32) (a3 : Int32) (res : Int32 × ZI) (h : f_X7_lay σ a1 a2 a3 = some res) : MI l yX7_lay cX7_lay 5 (some .int) rm_X7_lay g [.ref (gA g 0), .int a1, .int a2, .int a3] σ τ (fun (r : Int32) (u : ZI × ZL) => (r, u.1) = res ∧ u.2 = τ) := by
  refine Met_in (by decide) (Nat.le_of_ble_eq_true rfl) ?_
  intro p e s m args below meth c F G hP hr0 hk0 ls hl
  have hS := WS.start hP
  have hl : lv_has ls 5 [(0, .ref (gA g 0)), (1, .int a1), (2, .int a2), (3, .int a3)] := hl
  obtain ⟨H, hH⟩ : ∃ H, H = s.heap := ⟨_, rfl⟩
  rw [← hH] at hS ⊢
  clear hH hP
  rw [f_X7_lay] at h
  obtain ⟨locs, hlo⟩ : ∃ z : List Loc, z = [] := ⟨_, rfl⟩
  rw [← hlo] at hS ⊢
  clear hlo
  refine lv_iload_n F.1 F.2.1 dX7_lay_0 rfl (lv_at hl 1 rfl) ?_
  obtain ⟨q1, h_q1, h⟩ := bd h
  refine rSi F G hS hl.1 (c_X7_isSheet l g σ τ a1 q1 h_q1) lk_X7_295 ⟨rfl, rfl, Nat.le_of_ble_eq_true rfl, Nat.le_of_ble_eq_true rfl⟩  rfl rfl (Nat.le_of_ble_eq_true rfl) dX7_lay_1 (kRi (fun H locs hS => ?_))
  refine lv_if_ne (tgt := 9) F.1 F.2.1 dX7_lay_4 (by decide) (fun hc => ?_) (fun hc => ?_)
  rotate_left
  · replace h := ifT h hc
    refine lv_iconst (v := (-1 : Int32)) F.1 F.2.1 dX7_lay_7 (by decide) ?_
    exact e_i F hS ⟨Option.some.inj h, rfl⟩ hr0 dX7_lay_8 hk0
  replace h := ifF h hc
  refine lv_aload_n F.1 F.2.1 dX7_lay_9 rfl (lv_at hl 0 rfl) ?_
  refine gf_X7_60 F G hS dX7_lay_10 ?_
  refine lv_iload_n F.1 F.2.1 dX7_lay_13 rfl (lv_at hl 1 rfl) ?_
  refine lv_iload_n F.1 F.2.1 dX7_lay_14 rfl (lv_at hl 2 rfl) ?_
  obtain ⟨q2, h_q2, h⟩ := bd h
  refine rNi F G hS hl.1 (c_X4_faultOfCell l g σ τ a1 a2 q2 h_q2) lk_X7_304 ⟨rfl, rfl, Nat.le_of_ble_eq_true rfl, Nat.le_of_ble_eq_true rfl⟩ (rc_X4 G hS) rfl rfl (Nat.le_of_ble_eq_true rfl) dX7_lay_15 (kRi (fun H locs hS => ?_))
  refine lv_istore (lv' := [(4, .int q2), (0, .ref (gA g 0)), (1, .int a1), (2, .int a2), (3, .int a3)]) F.1 F.2.1 dX7_lay_18 hl (by decide) rfl (fun ls hl => ?_)
  refine lv_iload F.1 F.2.1 dX7_lay_20 (lv_at hl 0 rfl) ?_
  refine lv_if_eq (tgt := 31) F.1 F.2.1 dX7_lay_22 (by decide) (fun hc => ?_) (fun hc => ?_)
  rotate_left
  · replace h := ifF h hc
    refine lv_bipush (v := (-10 : Int32)) F.1 F.2.1 dX7_lay_25 (by decide) ?_
    refine lv_iload F.1 F.2.1 dX7_lay_27 (lv_at hl 0 rfl) ?_
    refine lv_isub F.1 F.2.1 dX7_lay_29 ?_
    exact e_i F hS ⟨Option.some.inj h, rfl⟩ hr0 dX7_lay_30 hk0
  replace h := ifT h hc
  refine lv_aload_n F.1 F.2.1 dX7_lay_31 rfl (lv_at hl 1 rfl) ?_
  refine gf_X7_60 F G hS dX7_lay_32 ?_
  refine lv_iload_n F.1 F.2.1 dX7_lay_35 rfl (lv_at hl 2 rfl) ?_
  refine lv_iload_n F.1 F.2.1 dX7_lay_36 rfl (lv_at hl 3 rfl) ?_
  refine lv_iload_n F.1 F.2.1 dX7_lay_37 rfl (lv_at hl 4 rfl) ?_
  obtain ⟨q3, h_q3, h⟩ := bd h
  refine rNv F G hS hl.1 (c_X4_write l g σ τ a1 a2 a3 q3 h_q3) lk_X7_307 ⟨rfl, rfl, Nat.le_of_ble_eq_true rfl, Nat.le_of_ble_eq_true rfl⟩ (rc_X4 G hS) rfl rfl (Nat.le_of_ble_eq_true rfl) dX7_lay_38 (kIv (fun H locs hS => ?_))
  refine lv_iconst (v := (1 : Int32)) F.1 F.2.1 dX7_lay_41 (by decide) ?_
  exact e_i F hS ⟨Option.some.inj h, rfl⟩ hr0 dX7_lay_42 hk0
def f_X4_faultOfLane (σ : ZI) (a1 : Int32) (a2 : Int32) : Option (Int32) := (f_X7_at σ 55 a1).bind (fun q1 => if q1 = 0 then (some (1 : Int32)) else ((f_X7_at σ 56 a1).bind (fun q2 => if q2 = a2 then (some (0 : Int32)) else (some (3 : Int32)))))
abbrev rm_X4_faultOfLane : Room := { frames := 1, cells := 0, slots := 0, locals := 21 }
set_option maxHeartbeats 4000000 in
set_option maxRecDepth 100000 in
theorem c_X4_faultOfLane (l : Launch) (g : GG) (σ : ZI) (τ : ZL) (a1 : Int32) (a2 : Int32) (res : Int32) (h : f_X4_faultOfLane σ a1 a2 = some res) : MI l yX4_faultOfLane cX4_faultOfLane 3 (some .int) rm_X4_faultOfLane g [.ref (gA g 54), .int a1, .int a2] σ τ (fun (r : Int32) (u : ZI × ZL) => r = res ∧ u.1 = σ ∧ u.2 = τ) := by
  refine Met_in (by decide) (Nat.le_of_ble_eq_true rfl) ?_
  intro p e s m args below meth c F G hP hr0 hk0 ls hl
  have hS := WS.start hP
  have hl : lv_has ls 3 [(0, .ref (gA g 54)), (1, .int a1), (2, .int a2)] := hl
  obtain ⟨H, hH⟩ : ∃ H, H = s.heap := ⟨_, rfl⟩
  rw [← hH] at hS ⊢
  clear hH hP
  rw [f_X4_faultOfLane] at h
  obtain ⟨locs, hlo⟩ : ∃ z : List Loc, z = [] := ⟨_, rfl⟩
  rw [← hlo] at hS ⊢
  clear hlo
  refine lv_aload_n F.1 F.2.1 dX4_faultOfLane_0 rfl (lv_at hl 0 rfl) ?_
  refine gf_X4_9 F G hS dX4_faultOfLane_1 ?_
  refine lv_iload_n F.1 F.2.1 dX4_faultOfLane_4 rfl (lv_at hl 1 rfl) ?_
  obtain ⟨q1, h_q1, h⟩ := bd h
  refine rTi F G hS hl.1 (c_X7_at l g σ τ 55 a1 q1 h_q1) lk_X4_28 ⟨rfl, rfl, Nat.le_of_ble_eq_true rfl, Nat.le_of_ble_eq_true rfl⟩  rfl rfl (Nat.le_of_ble_eq_true rfl) dX4_faultOfLane_5 (kRi (fun H locs hS => ?_))
  refine lv_if_ne (tgt := 13) F.1 F.2.1 dX4_faultOfLane_8 (by decide) (fun hc => ?_) (fun hc => ?_)
  rotate_left
  · replace h := ifT h hc
    refine lv_iconst (v := (1 : Int32)) F.1 F.2.1 dX4_faultOfLane_11 (by decide) ?_
    exact e_i F hS ⟨Option.some.inj h, rfl, rfl⟩ hr0 dX4_faultOfLane_12 hk0
  replace h := ifF h hc
  refine lv_aload_n F.1 F.2.1 dX4_faultOfLane_13 rfl (lv_at hl 0 rfl) ?_
  refine gf_X4_15 F G hS dX4_faultOfLane_14 ?_
  refine lv_iload_n F.1 F.2.1 dX4_faultOfLane_17 rfl (lv_at hl 1 rfl) ?_
  obtain ⟨q2, h_q2, h⟩ := bd h
  refine rTi F G hS hl.1 (c_X7_at l g σ τ 56 a1 q2 h_q2) lk_X4_28 ⟨rfl, rfl, Nat.le_of_ble_eq_true rfl, Nat.le_of_ble_eq_true rfl⟩  rfl rfl (Nat.le_of_ble_eq_true rfl) dX4_faultOfLane_18 (kRi (fun H locs hS => ?_))
  refine lv_iload_n F.1 F.2.1 dX4_faultOfLane_21 rfl (lv_at hl 2 rfl) ?_
  refine lv_icmp_eq (tgt := 29) F.1 F.2.1 dX4_faultOfLane_22 (by decide) (fun hc => ?_) (fun hc => ?_)
  · replace h := ifT h hc
    refine lv_iconst (v := (0 : Int32)) F.1 F.2.1 dX4_faultOfLane_29 (by decide) ?_
    exact e_i F hS ⟨Option.some.inj h, rfl, rfl⟩ hr0 dX4_faultOfLane_30 hk0
  replace h := ifF h hc
  refine lv_iconst (v := (3 : Int32)) F.1 F.2.1 dX4_faultOfLane_25 (by decide) ?_
  refine lv_goto (tgt := 30) F.1 F.2.1 dX4_faultOfLane_26 (by decide) ?_
  exact e_i F hS ⟨Option.some.inj h, rfl, rfl⟩ hr0 dX4_faultOfLane_30 hk0
def f_X4_faultOfPair (σ : ZI) (a1 : Int32) (a2 : Int32) : Option (Int32) := (f_X4_faultOfCell σ a1 a2).bind (fun q1 => if q1 = 0 then ((f_X4_faultOfCell σ a1 (a2 + (1 : Int32))).bind (fun q2 => some q2)) else (some q1))
abbrev rm_X4_faultOfPair : Room := { frames := 2, cells := 0, slots := 0, locals := 43 }
set_option maxHeartbeats 4000000 in
set_option maxRecDepth 100000 in
theorem c_X4_faultOfPair (l : Launch) (g : GG) (σ : ZI) (τ : ZL) (a1 : Int32) (a2 : Int32) (res : Int32) (h : f_X4_faultOfPair σ a1 a2 = some res) : MI l yX4_faultOfPair cX4_faultOfPair 4 (some .int) rm_X4_faultOfPair g [.ref (gA g 54), .int a1, .int a2] σ τ (fun (r : Int32) (u : ZI × ZL) => r = res ∧ u.1 = σ ∧ u.2 = τ) := by
  refine Met_in (by decide) (Nat.le_of_ble_eq_true rfl) ?_
  intro p e s m args below meth c F G hP hr0 hk0 ls hl
  have hS := WS.start hP
  have hl : lv_has ls 4 [(0, .ref (gA g 54)), (1, .int a1), (2, .int a2)] := hl
  obtain ⟨H, hH⟩ : ∃ H, H = s.heap := ⟨_, rfl⟩
  rw [← hH] at hS ⊢
  clear hH hP
  rw [f_X4_faultOfPair] at h
  obtain ⟨locs, hlo⟩ : ∃ z : List Loc, z = [] := ⟨_, rfl⟩
  rw [← hlo] at hS ⊢
  clear hlo
  refine lv_aload_n F.1 F.2.1 dX4_faultOfPair_0 rfl (lv_at hl 0 rfl) ?_
  refine lv_iload_n F.1 F.2.1 dX4_faultOfPair_1 rfl (lv_at hl 1 rfl) ?_
  refine lv_iload_n F.1 F.2.1 dX4_faultOfPair_2 rfl (lv_at hl 2 rfl) ?_
  obtain ⟨q1, h_q1, h⟩ := bd h
  refine rVi F G hS hl.1 (c_X4_faultOfCell l g σ τ a1 a2 q1 h_q1) lk_X4_32 ⟨rfl, rfl, Nat.le_of_ble_eq_true rfl, Nat.le_of_ble_eq_true rfl⟩ (rc_X4 G hS) rfl rfl (Nat.le_of_ble_eq_true rfl) dX4_faultOfPair_3 (kRi (fun H locs hS => ?_))
  refine lv_istore_n (lv' := [(3, .int q1), (0, .ref (gA g 54)), (1, .int a1), (2, .int a2)]) F.1 F.2.1 dX4_faultOfPair_6 rfl hl (by decide) rfl (fun ls hl => ?_)
  refine lv_iload_n F.1 F.2.1 dX4_faultOfPair_7 rfl (lv_at hl 0 rfl) ?_
  refine lv_if_eq (tgt := 15) F.1 F.2.1 dX4_faultOfPair_8 (by decide) (fun hc => ?_) (fun hc => ?_)
  rotate_left
  · replace h := ifF h hc
    refine lv_iload_n F.1 F.2.1 dX4_faultOfPair_11 rfl (lv_at hl 0 rfl) ?_
    refine lv_goto (tgt := 23) F.1 F.2.1 dX4_faultOfPair_12 (by decide) ?_
    exact e_i F hS ⟨Option.some.inj h, rfl, rfl⟩ hr0 dX4_faultOfPair_23 hk0
  replace h := ifT h hc
  refine lv_aload_n F.1 F.2.1 dX4_faultOfPair_15 rfl (lv_at hl 1 rfl) ?_
  refine lv_iload_n F.1 F.2.1 dX4_faultOfPair_16 rfl (lv_at hl 2 rfl) ?_
  refine lv_iload_n F.1 F.2.1 dX4_faultOfPair_17 rfl (lv_at hl 3 rfl) ?_
  refine lv_iconst (v := (1 : Int32)) F.1 F.2.1 dX4_faultOfPair_18 (by decide) ?_
  refine lv_iadd F.1 F.2.1 dX4_faultOfPair_19 ?_
  obtain ⟨q2, h_q2, h⟩ := bd h
  refine rVi F G hS hl.1 (c_X4_faultOfCell l g σ τ a1 (a2 + (1 : Int32)) q2 h_q2) lk_X4_32 ⟨rfl, rfl, Nat.le_of_ble_eq_true rfl, Nat.le_of_ble_eq_true rfl⟩ (rc_X4 G hS) rfl rfl (Nat.le_of_ble_eq_true rfl) dX4_faultOfPair_20 (kRi (fun H locs hS => ?_))
  exact e_i F hS ⟨Option.some.inj h, rfl, rfl⟩ hr0 dX4_faultOfPair_23 hk0
def f_X4_cell (σ : ZI) (a1 : Int32) (a2 : Int32) : Option (Int32) := (f_X7_at σ 58 ((a1 * (40 : Int32)) + a2)).bind (fun q1 => some q1)
abbrev rm_X4_cell : Room := { frames := 1, cells := 0, slots := 0, locals := 21 }
set_option maxHeartbeats 4000000 in
set_option maxRecDepth 100000 in
theorem c_X4_cell (l : Launch) (g : GG) (σ : ZI) (τ : ZL) (a1 : Int32) (a2 : Int32) (res : Int32) (h : f_X4_cell σ a1 a2 = some res) : MI l yX4_cell cX4_cell 3 (some .int) rm_X4_cell g [.ref (gA g 54), .int a1, .int a2] σ τ (fun (r : Int32) (u : ZI × ZL) => r = res ∧ u.1 = σ ∧ u.2 = τ) := by
  refine Met_in (by decide) (Nat.le_of_ble_eq_true rfl) ?_
  intro p e s m args below meth c F G hP hr0 hk0 ls hl
  have hS := WS.start hP
  have hl : lv_has ls 3 [(0, .ref (gA g 54)), (1, .int a1), (2, .int a2)] := hl
  obtain ⟨H, hH⟩ : ∃ H, H = s.heap := ⟨_, rfl⟩
  rw [← hH] at hS ⊢
  clear hH hP
  rw [f_X4_cell] at h
  obtain ⟨locs, hlo⟩ : ∃ z : List Loc, z = [] := ⟨_, rfl⟩
  rw [← hlo] at hS ⊢
  clear hlo
  refine lv_aload_n F.1 F.2.1 dX4_cell_0 rfl (lv_at hl 0 rfl) ?_
  refine gf_X4_21 F G hS dX4_cell_1 ?_
  refine lv_iload_n F.1 F.2.1 dX4_cell_4 rfl (lv_at hl 1 rfl) ?_
  refine lv_bipush (v := (40 : Int32)) F.1 F.2.1 dX4_cell_5 (by decide) ?_
  refine lv_imul F.1 F.2.1 dX4_cell_7 ?_
  refine lv_iload_n F.1 F.2.1 dX4_cell_8 rfl (lv_at hl 2 rfl) ?_
  refine lv_iadd F.1 F.2.1 dX4_cell_9 ?_
  obtain ⟨q1, h_q1, h⟩ := bd h
  refine rTi F G hS hl.1 (c_X7_at l g σ τ 58 ((a1 * (40 : Int32)) + a2) q1 h_q1) lk_X4_28 ⟨rfl, rfl, Nat.le_of_ble_eq_true rfl, Nat.le_of_ble_eq_true rfl⟩  rfl rfl (Nat.le_of_ble_eq_true rfl) dX4_cell_10 (kRi (fun H locs hS => ?_))
  exact e_i F hS ⟨Option.some.inj h, rfl, rfl⟩ hr0 dX4_cell_13 hk0
def f_X7_read_172 (a1 : Int32) (a2 : Int32) (a3 : Int32) (a4 : Int32)  (σ : ZI) (v5 : Int32) (v6 : Int32) : Option (Int32 × ZI) := if (ar 59).1 = 1 ∧ (ar 8).1 = 1 ∧ 5 ≤ (ar 59).2 ∧ 5 ≤ (ar 8).2 then (lt_ (va_up σ 8 (va_cpy (σ 59) (σ 8) 0 0 5)) (fun σ5 => lt_ (va_up σ5 0 (upd (σ5 0) 12 v5)) (fun σ6 => some (v6, σ6)))) else none
def f_X7_read_68 (a1 : Int32) (a2 : Int32) (a3 : Int32) (a4 : Int32)  : Nat → ZI → Int32 → Int32 → Option (Int32 × ZI)
  | 0, _, _, _ => none
  | n + 1, σ, v5, v6 => if a4 ≤ v6 then (f_X7_read_172 a1 a2 a3 a4 σ v5 v6) else (if v5 = 0 then (lt_ ((a3 + ((2 : Int32) * v6))) (fun x7 => (f_X4_faultOfPair σ a1 x7).bind (fun q8 => if q8 = 0 then ((f_X4_cell σ a1 x7).bind (fun q9 => (f_X4_cell σ a1 (x7 + (1 : Int32))).bind (fun q10 => (f_X7_postedTo σ 59 q9 q10).bind (fun q11 => if 0 ≤ q11 then ((f_X7_put σ 59 q9 q11).bind (fun q12 => f_X7_read_68 a1 a2 a3 a4 n q12 q8 (v6 + (1 : Int32)))) else (some (((-20 : Int32) - v6), σ)))))) else (f_X7_read_172 a1 a2 a3 a4 σ q8 v6)))) else (f_X7_read_172 a1 a2 a3 a4 σ v5 v6))
def f_X7_read_46 (a1 : Int32) (a2 : Int32) (a3 : Int32) (a4 : Int32)  (σ : ZI) (s0 : Int32) : Option (Int32 × ZI) := if (ar 8).1 = 1 ∧ (ar 59).1 = 1 ∧ 5 ≤ (ar 8).2 ∧ 5 ≤ (ar 59).2 then (lt_ (va_up σ 59 (va_cpy (σ 8) (σ 59) 0 0 5)) (fun σ4 => f_X7_read_68 a1 a2 a3 a4 3000 σ4 s0 (0 : Int32))) else none
def f_X7_read (σ : ZI) (a1 : Int32) (a2 : Int32) (a3 : Int32) (a4 : Int32) : Option (Int32 × ZI) := (f_X7_isSheet a1).bind (fun q1 => if q1 = 0 then (some ((-1 : Int32), σ)) else ((f_X7_isLane a2).bind (fun q2 => if q2 = 0 then (some ((-1 : Int32), σ)) else (if a4 < 0 then (some ((-1 : Int32), σ)) else (if a4 ≤ (20 : Int32) then (if a4 = 0 then (f_X7_read_46 a1 a2 a3 a4 σ (0 : Int32)) else ((f_X4_faultOfLane σ a1 a2).bind (fun q3 => f_X7_read_46 a1 a2 a3 a4 σ q3))) else (some ((-1 : Int32), σ)))))))
abbrev rm_X7_read : Room := { frames := 4, cells := 0, slots := 0, locals := 87 }
set_option maxHeartbeats 4000000 in
set_option maxRecDepth 100000 in
theorem c_X7_read (l : Launch) (g : GG) (σ : ZI) (τ : ZL) (a1 : Int32) (a2 : Int32) (a3 : Int32) (a4 : Int32) (res : Int32 × ZI) (h : f_X7_read σ a1 a2 a3 a4 = some res) : MI l yX7_read cX7_read 10 (some .int) rm_X7_read g [.ref (gA g 0), .int a1, .int a2, .int a3, .int a4] σ τ (fun (r : Int32) (u : ZI × ZL) => (r, u.1) = res ∧ u.2 = τ) := by
  refine Met_in (by decide) (Nat.le_of_ble_eq_true rfl) ?_
  intro p e s m args below meth c F G hP hr0 hk0 ls hl
  have hS := WS.start hP
  have hl : lv_has ls 10 [(0, .ref (gA g 0)), (1, .int a1), (2, .int a2), (3, .int a3), (4, .int a4)] := hl
  obtain ⟨H, hH⟩ : ∃ H, H = s.heap := ⟨_, rfl⟩
  rw [← hH] at hS ⊢
  clear hH hP
  rw [f_X7_read] at h
  have w_172 : ∀ (σ : ZI) (v5 : Int32) (v6 : Int32), f_X7_read_172 a1 a2 a3 a4 σ v5 v6 = some res → ∀ (H : Heap) (locs : List Loc) (ls : Array Slot), WS g σ τ s H locs → lv_has ls 10 [(0, .ref (gA g 0)), (5, .int v5), (6, .int v6)] → W p l e rm_X7_read s m args below meth c H locs 0 0 (MQ below (va_Qi (fun (r : Int32) (u : ZI × ZL) => (r, u.1) = res ∧ u.2 = τ) (WQ g) (AA g)) args s 0 0 (AA g)) (F0 m 172 ls []) := by
    intro  σ v5 v6 h H locs ls hS hl
    rw [f_X7_read_172] at h
    refine lv_aload_n F.1 F.2.1 dX7_read_172 rfl (lv_at hl 0 rfl) ?_
    refine gf_X7_64 F G hS dX7_read_173 ?_
    refine lv_iconst (v := (0 : Int32)) F.1 F.2.1 dX7_read_176 (by decide) ?_
    refine lv_aload_n F.1 F.2.1 dX7_read_177 rfl (lv_at hl 0 rfl) ?_
    refine gf_X7_10 F G hS dX7_read_178 ?_
    refine gf_X7_149 F G hS rfl dX7_read_181 ?_
    refine lv_iconst (v := (0 : Int32)) F.1 F.2.1 dX7_read_184 (by decide) ?_
    refine lv_iconst (v := (5 : Int32)) F.1 F.2.1 dX7_read_185 (by decide) ?_
    obtain ⟨hr, h⟩ := gd h
    refine x_copy F G hS (F.2.2.1.trans hl.1.symm) ⟨F.2.2.2.2 _ tb_996, F.2.2.2.2 _ tb_148, F.2.2.2.2 _ tb_147, F.2.2.2.2 _ tb_111⟩ 5 59 8 hr.1 hr.2.1 hr.2.2.1 hr.2.2.2 (by decide) rfl (Nat.le_of_ble_eq_true rfl) (Nat.le_of_ble_eq_true rfl) dX7_read_186 (fun H locs hS => ?_)
    obtain ⟨σ5, e_σ5, h⟩ := ltE h
    rw [← e_σ5] at hS
    clear e_σ5
    refine lv_aload_n F.1 F.2.1 dX7_read_189 rfl (lv_at hl 0 rfl) ?_
    refine lv_iload F.1 F.2.1 dX7_read_190 (lv_at hl 1 rfl) ?_
    refine pf_X7_325 F G hS dX7_read_192 (fun H locs hS => ?_)
    obtain ⟨σ6, e_σ6, h⟩ := ltE h
    rw [← e_σ6] at hS
    clear e_σ6
    refine lv_iload F.1 F.2.1 dX7_read_195 (lv_at hl 2 rfl) ?_
    exact e_i F hS ⟨Option.some.inj h, rfl⟩ hr0 dX7_read_197 hk0
  have w_68 : ∀ (n : Nat) (σ : ZI) (v5 : Int32) (v6 : Int32), f_X7_read_68 a1 a2 a3 a4 n σ v5 v6 = some res → ∀ (H : Heap) (locs : List Loc) (ls : Array Slot), WS g σ τ s H locs → lv_has ls 10 [(0, .ref (gA g 0)), (1, .int a1), (3, .int a3), (4, .int a4), (5, .int v5), (6, .int v6)] → W p l e rm_X7_read s m args below meth c H locs 0 0 (MQ below (va_Qi (fun (r : Int32) (u : ZI × ZL) => (r, u.1) = res ∧ u.2 = τ) (WQ g) (AA g)) args s 0 0 (AA g)) (F0 m 68 ls []) := by
    intro n
    induction n with
    | zero => intro σ v5 v6 h; rw [f_X7_read_68] at h; cases h
    | succ n ih =>
      intro σ v5 v6 h H locs ls hS hl
      rw [f_X7_read_68] at h
      refine lv_iload F.1 F.2.1 dX7_read_68 (lv_at hl 5 rfl) ?_
      refine lv_iload F.1 F.2.1 dX7_read_70 (lv_at hl 3 rfl) ?_
      refine lv_icmp_ge (tgt := 172) F.1 F.2.1 dX7_read_72 (by decide) (fun hc => ?_) (fun hc => ?_)
      · replace h := ifT h hc
        exact w_172 σ v5 v6 h H locs _ hS (lv_sub hl [0, 4, 5] rfl)
      replace h := ifF h hc
      refine lv_iload F.1 F.2.1 dX7_read_75 (lv_at hl 4 rfl) ?_
      refine lv_if_ne (tgt := 172) F.1 F.2.1 dX7_read_77 (by decide) (fun hc => ?_) (fun hc => ?_)
      · replace h := ifF h hc
        exact w_172 σ v5 v6 h H locs _ hS (lv_sub hl [0, 4, 5] rfl)
      replace h := ifT h hc
      refine lv_iload_n F.1 F.2.1 dX7_read_80 rfl (lv_at hl 2 rfl) ?_
      refine lv_iconst (v := (2 : Int32)) F.1 F.2.1 dX7_read_81 (by decide) ?_
      refine lv_iload F.1 F.2.1 dX7_read_82 (lv_at hl 5 rfl) ?_
      refine lv_imul F.1 F.2.1 dX7_read_84 ?_
      refine lv_iadd F.1 F.2.1 dX7_read_85 ?_
      obtain ⟨x7, e_x7, h⟩ := ltE h
      refine x_topi e_x7 ?_
      clear e_x7
      refine lv_istore (lv' := [(7, .int x7), (0, .ref (gA g 0)), (1, .int a1), (3, .int a3), (4, .int a4), (5, .int v5), (6, .int v6)]) F.1 F.2.1 dX7_read_86 hl (by decide) rfl (fun ls hl => ?_)
      refine lv_aload_n F.1 F.2.1 dX7_read_88 rfl (lv_at hl 1 rfl) ?_
      refine gf_X7_60 F G hS dX7_read_89 ?_
      refine lv_iload_n F.1 F.2.1 dX7_read_92 rfl (lv_at hl 2 rfl) ?_
      refine lv_iload F.1 F.2.1 dX7_read_93 (lv_at hl 0 rfl) ?_
      obtain ⟨q8, h_q8, h⟩ := bd h
      refine rNi F G hS hl.1 (c_X4_faultOfPair l g σ τ a1 x7 q8 h_q8) lk_X7_319 ⟨rfl, rfl, Nat.le_of_ble_eq_true rfl, Nat.le_of_ble_eq_true rfl⟩ (rc_X4 G hS) rfl rfl (Nat.le_of_ble_eq_true rfl) dX7_read_95 (kRi (fun H locs hS => ?_))
      refine lv_istore (lv' := [(5, .int q8), (7, .int x7), (0, .ref (gA g 0)), (1, .int a1), (3, .int a3), (4, .int a4), (6, .int v6)]) F.1 F.2.1 dX7_read_98 hl (by decide) rfl (fun ls hl => ?_)
      refine lv_iload F.1 F.2.1 dX7_read_100 (lv_at hl 0 rfl) ?_
      refine lv_if_eq (tgt := 108) F.1 F.2.1 dX7_read_102 (by decide) (fun hc => ?_) (fun hc => ?_)
      rotate_left
      · replace h := ifF h hc
        refine lv_goto (tgt := 172) F.1 F.2.1 dX7_read_105 (by decide) ?_
        exact w_172 σ q8 v6 h H locs _ hS (lv_sub hl [2, 0, 6] rfl)
      replace h := ifT h hc
      refine lv_aload_n F.1 F.2.1 dX7_read_108 rfl (lv_at hl 2 rfl) ?_
      refine gf_X7_60 F G hS dX7_read_109 ?_
      refine lv_iload_n F.1 F.2.1 dX7_read_112 rfl (lv_at hl 3 rfl) ?_
      refine lv_iload F.1 F.2.1 dX7_read_113 (lv_at hl 1 rfl) ?_
      obtain ⟨q9, h_q9, h⟩ := bd h
      refine rNi F G hS hl.1 (c_X4_cell l g σ τ a1 x7 q9 h_q9) lk_X7_322 ⟨rfl, rfl, Nat.le_of_ble_eq_true rfl, Nat.le_of_ble_eq_true rfl⟩ (rc_X4 G hS) rfl rfl (Nat.le_of_ble_eq_true rfl) dX7_read_115 (kRi (fun H locs hS => ?_))
      refine lv_istore (lv' := [(8, .int q9), (5, .int q8), (7, .int x7), (0, .ref (gA g 0)), (1, .int a1), (3, .int a3), (4, .int a4), (6, .int v6)]) F.1 F.2.1 dX7_read_118 hl (by decide) rfl (fun ls hl => ?_)
      refine lv_aload_n F.1 F.2.1 dX7_read_120 rfl (lv_at hl 3 rfl) ?_
      refine lv_aload_n F.1 F.2.1 dX7_read_121 rfl (lv_at hl 3 rfl) ?_
      refine gf_X7_64 F G hS dX7_read_122 ?_
      refine lv_iload F.1 F.2.1 dX7_read_125 (lv_at hl 0 rfl) ?_
      refine lv_aload_n F.1 F.2.1 dX7_read_127 rfl (lv_at hl 3 rfl) ?_
      refine gf_X7_60 F G hS dX7_read_128 ?_
      refine lv_iload_n F.1 F.2.1 dX7_read_131 rfl (lv_at hl 4 rfl) ?_
      refine lv_iload F.1 F.2.1 dX7_read_132 (lv_at hl 2 rfl) ?_
      refine lv_iconst (v := (1 : Int32)) F.1 F.2.1 dX7_read_134 (by decide) ?_
      refine lv_iadd F.1 F.2.1 dX7_read_135 ?_
      obtain ⟨q10, h_q10, h⟩ := bd h
      refine rNi F G hS hl.1 (c_X4_cell l g σ τ a1 (x7 + (1 : Int32)) q10 h_q10) lk_X7_322 ⟨rfl, rfl, Nat.le_of_ble_eq_true rfl, Nat.le_of_ble_eq_true rfl⟩ (rc_X4 G hS) rfl rfl (Nat.le_of_ble_eq_true rfl) dX7_read_136 (kRi (fun H locs hS => ?_))
      obtain ⟨q11, h_q11, h⟩ := bd h
      refine rVi F G hS hl.1 (c_X7_postedTo l g σ τ 59 q9 q10 q11 h_q11) lk_X7_170 ⟨rfl, rfl, Nat.le_of_ble_eq_true rfl, Nat.le_of_ble_eq_true rfl⟩ (rc_X7 G hS) rfl rfl (Nat.le_of_ble_eq_true rfl) dX7_read_139 (kRi (fun H locs hS => ?_))
      refine lv_istore (lv' := [(9, .int q11), (8, .int q9), (5, .int q8), (7, .int x7), (0, .ref (gA g 0)), (1, .int a1), (3, .int a3), (4, .int a4), (6, .int v6)]) F.1 F.2.1 dX7_read_142 hl (by decide) rfl (fun ls hl => ?_)
      refine lv_iload F.1 F.2.1 dX7_read_144 (lv_at hl 0 rfl) ?_
      refine lv_if_ge (tgt := 155) F.1 F.2.1 dX7_read_146 (by decide) (fun hc => ?_) (fun hc => ?_)
      rotate_left
      · replace h := ifF h hc
        refine lv_bipush (v := (-20 : Int32)) F.1 F.2.1 dX7_read_149 (by decide) ?_
        refine lv_iload F.1 F.2.1 dX7_read_151 (lv_at hl 8 rfl) ?_
        refine lv_isub F.1 F.2.1 dX7_read_153 ?_
        exact e_i F hS ⟨Option.some.inj h, rfl⟩ hr0 dX7_read_154 hk0
      replace h := ifT h hc
      refine lv_aload_n F.1 F.2.1 dX7_read_155 rfl (lv_at hl 4 rfl) ?_
      refine gf_X7_64 F G hS dX7_read_156 ?_
      refine lv_iload F.1 F.2.1 dX7_read_159 (lv_at hl 1 rfl) ?_
      refine lv_iload F.1 F.2.1 dX7_read_161 (lv_at hl 0 rfl) ?_
      obtain ⟨q12, h_q12, h⟩ := bd h
      refine rSv F G hS hl.1 (c_X7_put l g σ τ 59 q9 q11 q12 h_q12) lk_X7_166 ⟨rfl, rfl, Nat.le_of_ble_eq_true rfl, Nat.le_of_ble_eq_true rfl⟩  rfl rfl (Nat.le_of_ble_eq_true rfl) dX7_read_163 (kIv (fun H locs hS => ?_))
      refine lv_iinc (v := (v6 + (1 : Int32))) (lv' := [(6, .int (v6 + (1 : Int32))), (9, .int q11), (8, .int q9), (5, .int q8), (7, .int x7), (0, .ref (gA g 0)), (1, .int a1), (3, .int a3), (4, .int a4)]) F.1 F.2.1 dX7_read_166 hl (k := 8) rfl rfl (by decide) rfl (fun ls hl => ?_)
      refine lv_goto (tgt := 68) F.1 F.2.1 dX7_read_169 (by decide) ?_
      exact ih q12 q8 (v6 + (1 : Int32)) h H locs _ hS (lv_sub hl [5, 6, 7, 8, 3, 0] rfl)
  have w_46 : ∀ (σ : ZI) (s0 : Int32), f_X7_read_46 a1 a2 a3 a4 σ s0 = some res → ∀ (H : Heap) (locs : List Loc) (ls : Array Slot), WS g σ τ s H locs → lv_has ls 10 [(0, .ref (gA g 0)), (1, .int a1), (3, .int a3), (4, .int a4)] → W p l e rm_X7_read s m args below meth c H locs 0 0 (MQ below (va_Qi (fun (r : Int32) (u : ZI × ZL) => (r, u.1) = res ∧ u.2 = τ) (WQ g) (AA g)) args s 0 0 (AA g)) (F0 m 46 ls [.int s0]) := by
    intro  σ s0 h H locs ls hS hl
    rw [f_X7_read_46] at h
    refine lv_istore (lv' := [(5, .int s0), (0, .ref (gA g 0)), (1, .int a1), (3, .int a3), (4, .int a4)]) F.1 F.2.1 dX7_read_46 hl (by decide) rfl (fun ls hl => ?_)
    refine lv_iconst (v := (0 : Int32)) F.1 F.2.1 dX7_read_48 (by decide) ?_
    refine lv_istore (lv' := [(6, .int (0 : Int32)), (5, .int s0), (0, .ref (gA g 0)), (1, .int a1), (3, .int a3), (4, .int a4)]) F.1 F.2.1 dX7_read_49 hl (by decide) rfl (fun ls hl => ?_)
    refine lv_aload_n F.1 F.2.1 dX7_read_51 rfl (lv_at hl 2 rfl) ?_
    refine gf_X7_10 F G hS dX7_read_52 ?_
    refine gf_X7_149 F G hS rfl dX7_read_55 ?_
    refine lv_iconst (v := (0 : Int32)) F.1 F.2.1 dX7_read_58 (by decide) ?_
    refine lv_aload_n F.1 F.2.1 dX7_read_59 rfl (lv_at hl 2 rfl) ?_
    refine gf_X7_64 F G hS dX7_read_60 ?_
    refine lv_iconst (v := (0 : Int32)) F.1 F.2.1 dX7_read_63 (by decide) ?_
    refine lv_iconst (v := (5 : Int32)) F.1 F.2.1 dX7_read_64 (by decide) ?_
    obtain ⟨hr, h⟩ := gd h
    refine x_copy F G hS (F.2.2.1.trans hl.1.symm) ⟨F.2.2.2.2 _ tb_996, F.2.2.2.2 _ tb_148, F.2.2.2.2 _ tb_147, F.2.2.2.2 _ tb_111⟩ 5 8 59 hr.1 hr.2.1 hr.2.2.1 hr.2.2.2 (by decide) rfl (Nat.le_of_ble_eq_true rfl) (Nat.le_of_ble_eq_true rfl) dX7_read_65 (fun H locs hS => ?_)
    obtain ⟨σ4, e_σ4, h⟩ := ltE h
    rw [← e_σ4] at hS
    clear e_σ4
    exact w_68 3000 σ4 s0 (0 : Int32) h H locs _ hS (lv_sub hl [2, 3, 4, 5, 1, 0] rfl)
  obtain ⟨locs, hlo⟩ : ∃ z : List Loc, z = [] := ⟨_, rfl⟩
  rw [← hlo] at hS ⊢
  clear hlo
  refine lv_iload_n F.1 F.2.1 dX7_read_0 rfl (lv_at hl 1 rfl) ?_
  obtain ⟨q1, h_q1, h⟩ := bd h
  refine rSi F G hS hl.1 (c_X7_isSheet l g σ τ a1 q1 h_q1) lk_X7_295 ⟨rfl, rfl, Nat.le_of_ble_eq_true rfl, Nat.le_of_ble_eq_true rfl⟩  rfl rfl (Nat.le_of_ble_eq_true rfl) dX7_read_1 (kRi (fun H locs hS => ?_))
  refine lv_if_eq (tgt := 26) F.1 F.2.1 dX7_read_4 (by decide) (fun hc => ?_) (fun hc => ?_)
  · replace h := ifT h hc
    refine lv_iconst (v := (-1 : Int32)) F.1 F.2.1 dX7_read_26 (by decide) ?_
    exact e_i F hS ⟨Option.some.inj h, rfl⟩ hr0 dX7_read_27 hk0
  replace h := ifF h hc
  refine lv_iload_n F.1 F.2.1 dX7_read_7 rfl (lv_at hl 2 rfl) ?_
  obtain ⟨q2, h_q2, h⟩ := bd h
  refine rSi F G hS hl.1 (c_X7_isLane l g σ τ a2 q2 h_q2) lk_X7_298 ⟨rfl, rfl, Nat.le_of_ble_eq_true rfl, Nat.le_of_ble_eq_true rfl⟩  rfl rfl (Nat.le_of_ble_eq_true rfl) dX7_read_8 (kRi (fun H locs hS => ?_))
  refine lv_if_eq (tgt := 26) F.1 F.2.1 dX7_read_11 (by decide) (fun hc => ?_) (fun hc => ?_)
  · replace h := ifT h hc
    refine lv_iconst (v := (-1 : Int32)) F.1 F.2.1 dX7_read_26 (by decide) ?_
    exact e_i F hS ⟨Option.some.inj h, rfl⟩ hr0 dX7_read_27 hk0
  replace h := ifF h hc
  refine lv_iload F.1 F.2.1 dX7_read_14 (lv_at hl 4 rfl) ?_
  refine lv_if_lt (tgt := 26) F.1 F.2.1 dX7_read_16 (by decide) (fun hc => ?_) (fun hc => ?_)
  · replace h := ifT h hc
    refine lv_iconst (v := (-1 : Int32)) F.1 F.2.1 dX7_read_26 (by decide) ?_
    exact e_i F hS ⟨Option.some.inj h, rfl⟩ hr0 dX7_read_27 hk0
  replace h := ifF h hc
  refine lv_iload F.1 F.2.1 dX7_read_19 (lv_at hl 4 rfl) ?_
  refine lv_bipush (v := (20 : Int32)) F.1 F.2.1 dX7_read_21 (by decide) ?_
  refine lv_icmp_le (tgt := 28) F.1 F.2.1 dX7_read_23 (by decide) (fun hc => ?_) (fun hc => ?_)
  rotate_left
  · replace h := ifF h hc
    refine lv_iconst (v := (-1 : Int32)) F.1 F.2.1 dX7_read_26 (by decide) ?_
    exact e_i F hS ⟨Option.some.inj h, rfl⟩ hr0 dX7_read_27 hk0
  replace h := ifT h hc
  refine lv_iload F.1 F.2.1 dX7_read_28 (lv_at hl 4 rfl) ?_
  refine lv_if_ne (tgt := 37) F.1 F.2.1 dX7_read_30 (by decide) (fun hc => ?_) (fun hc => ?_)
  rotate_left
  · replace h := ifT h hc
    refine lv_iconst (v := (0 : Int32)) F.1 F.2.1 dX7_read_33 (by decide) ?_
    refine lv_goto (tgt := 46) F.1 F.2.1 dX7_read_34 (by decide) ?_
    exact w_46 σ (0 : Int32) h H locs _ hS (lv_sub hl [0, 1, 3, 4] rfl)
  replace h := ifF h hc
  refine lv_aload_n F.1 F.2.1 dX7_read_37 rfl (lv_at hl 0 rfl) ?_
  refine gf_X7_60 F G hS dX7_read_38 ?_
  refine lv_iload_n F.1 F.2.1 dX7_read_41 rfl (lv_at hl 1 rfl) ?_
  refine lv_iload_n F.1 F.2.1 dX7_read_42 rfl (lv_at hl 2 rfl) ?_
  obtain ⟨q3, h_q3, h⟩ := bd h
  refine rNi F G hS hl.1 (c_X4_faultOfLane l g σ τ a1 a2 q3 h_q3) lk_X7_310 ⟨rfl, rfl, Nat.le_of_ble_eq_true rfl, Nat.le_of_ble_eq_true rfl⟩ (rc_X4 G hS) rfl rfl (Nat.le_of_ble_eq_true rfl) dX7_read_43 (kRi (fun H locs hS => ?_))
  exact w_46 σ q3 h H locs _ hS (lv_sub hl [0, 1, 3, 4] rfl)
def f_X7_split (σ : ZI) : Option (Int32) := some (σ 0 12)
abbrev rm_X7_split : Room := { frames := 0, cells := 0, slots := 0, locals := 0 }
set_option maxHeartbeats 4000000 in
set_option maxRecDepth 100000 in
theorem c_X7_split (l : Launch) (g : GG) (σ : ZI) (τ : ZL)  (res : Int32) (h : f_X7_split σ = some res) : MI l yX7_split cX7_split 1 (some .int) rm_X7_split g [.ref (gA g 0)] σ τ (fun (r : Int32) (u : ZI × ZL) => r = res ∧ u.1 = σ ∧ u.2 = τ) := by
  refine Met_in (by decide) (Nat.le_of_ble_eq_true rfl) ?_
  intro p e s m args below meth c F G hP hr0 hk0 ls hl
  have hS := WS.start hP
  have hl : lv_has ls 1 [(0, .ref (gA g 0))] := hl
  obtain ⟨H, hH⟩ : ∃ H, H = s.heap := ⟨_, rfl⟩
  rw [← hH] at hS ⊢
  clear hH hP
  rw [f_X7_split] at h
  obtain ⟨locs, hlo⟩ : ∃ z : List Loc, z = [] := ⟨_, rfl⟩
  rw [← hlo] at hS ⊢
  clear hlo
  refine lv_aload_n F.1 F.2.1 dX7_split_0 rfl (lv_at hl 0 rfl) ?_
  refine gf_X7_325 F G hS dX7_split_1 ?_
  exact e_i F hS ⟨Option.some.inj h, rfl, rfl⟩ hr0 dX7_split_4 hk0
def f_J6_bitCount_0f7a4 (a1 : Int32) : Option (Int32) := lt_ ((a1 - (((a1.toUInt32 >>> ((1 : Int32).toUInt32 &&& Int32.toUInt32 31)).toInt32) &&& (1431655765 : Int32)))) (fun x1 => lt_ (((x1 &&& (858993459 : Int32)) + (((x1.toUInt32 >>> ((2 : Int32).toUInt32 &&& Int32.toUInt32 31)).toInt32) &&& (858993459 : Int32)))) (fun x2 => lt_ (((x2 + ((x2.toUInt32 >>> ((4 : Int32).toUInt32 &&& Int32.toUInt32 31)).toInt32)) &&& (252645135 : Int32))) (fun x3 => lt_ ((x3 + ((x3.toUInt32 >>> ((8 : Int32).toUInt32 &&& Int32.toUInt32 31)).toInt32))) (fun x4 => lt_ ((x4 + ((x4.toUInt32 >>> ((16 : Int32).toUInt32 &&& Int32.toUInt32 31)).toInt32))) (fun x5 => some (x5 &&& (63 : Int32)))))))
abbrev rm_J6_bitCount_0f7a4 : Room := { frames := 0, cells := 0, slots := 0, locals := 0 }
set_option maxHeartbeats 4000000 in
set_option maxRecDepth 100000 in
theorem c_J6_bitCount_0f7a4 (l : Launch) (g : GG) (σ : ZI) (τ : ZL) (a1 : Int32) (res : Int32) (h : f_J6_bitCount_0f7a4 a1 = some res) : MI l yJ6_bitCount_0f7a4 cJ6_bitCount_0f7a4 1 (some .int) rm_J6_bitCount_0f7a4 g [.int a1] σ τ (fun (r : Int32) (u : ZI × ZL) => r = res ∧ u.1 = σ ∧ u.2 = τ) := by
  refine Met_in (by decide) (Nat.le_of_ble_eq_true rfl) ?_
  intro p e s m args below meth c F G hP hr0 hk0 ls hl
  have hS := WS.start hP
  have hl : lv_has ls 1 [(0, .int a1)] := hl
  obtain ⟨H, hH⟩ : ∃ H, H = s.heap := ⟨_, rfl⟩
  rw [← hH] at hS ⊢
  clear hH hP
  rw [f_J6_bitCount_0f7a4] at h
  obtain ⟨locs, hlo⟩ : ∃ z : List Loc, z = [] := ⟨_, rfl⟩
  rw [← hlo] at hS ⊢
  clear hlo
  refine lv_iload_n F.1 F.2.1 dJ6_bitCount_0f7a4_0 rfl (lv_at hl 0 rfl) ?_
  refine lv_iload_n F.1 F.2.1 dJ6_bitCount_0f7a4_1 rfl (lv_at hl 0 rfl) ?_
  refine lv_iconst (v := (1 : Int32)) F.1 F.2.1 dJ6_bitCount_0f7a4_2 (by decide) ?_
  refine lv_iushr F.1 F.2.1 dJ6_bitCount_0f7a4_3 rfl ?_
  refine lv_ldcw (v := (1431655765 : Int32)) F.1 F.2.1 F.2.2.2.1 (F.2.2.2.2 _ tb_1017) dJ6_bitCount_0f7a4_4 ?_
  refine lv_iand F.1 F.2.1 dJ6_bitCount_0f7a4_7 ?_
  refine lv_isub F.1 F.2.1 dJ6_bitCount_0f7a4_8 ?_
  obtain ⟨x1, e_x1, h⟩ := ltE h
  refine x_topi e_x1 ?_
  clear e_x1
  refine lv_istore_n (lv' := [(0, .int x1)]) F.1 F.2.1 dJ6_bitCount_0f7a4_9 rfl hl (by decide) rfl (fun ls hl => ?_)
  refine lv_iload_n F.1 F.2.1 dJ6_bitCount_0f7a4_10 rfl (lv_at hl 0 rfl) ?_
  refine lv_ldcw (v := (858993459 : Int32)) F.1 F.2.1 F.2.2.2.1 (F.2.2.2.2 _ tb_1018) dJ6_bitCount_0f7a4_11 ?_
  refine lv_iand F.1 F.2.1 dJ6_bitCount_0f7a4_14 ?_
  refine lv_iload_n F.1 F.2.1 dJ6_bitCount_0f7a4_15 rfl (lv_at hl 0 rfl) ?_
  refine lv_iconst (v := (2 : Int32)) F.1 F.2.1 dJ6_bitCount_0f7a4_16 (by decide) ?_
  refine lv_iushr F.1 F.2.1 dJ6_bitCount_0f7a4_17 rfl ?_
  refine lv_ldcw (v := (858993459 : Int32)) F.1 F.2.1 F.2.2.2.1 (F.2.2.2.2 _ tb_1018) dJ6_bitCount_0f7a4_18 ?_
  refine lv_iand F.1 F.2.1 dJ6_bitCount_0f7a4_21 ?_
  refine lv_iadd F.1 F.2.1 dJ6_bitCount_0f7a4_22 ?_
  obtain ⟨x2, e_x2, h⟩ := ltE h
  refine x_topi e_x2 ?_
  clear e_x2
  refine lv_istore_n (lv' := [(0, .int x2)]) F.1 F.2.1 dJ6_bitCount_0f7a4_23 rfl hl (by decide) rfl (fun ls hl => ?_)
  refine lv_iload_n F.1 F.2.1 dJ6_bitCount_0f7a4_24 rfl (lv_at hl 0 rfl) ?_
  refine lv_iload_n F.1 F.2.1 dJ6_bitCount_0f7a4_25 rfl (lv_at hl 0 rfl) ?_
  refine lv_iconst (v := (4 : Int32)) F.1 F.2.1 dJ6_bitCount_0f7a4_26 (by decide) ?_
  refine lv_iushr F.1 F.2.1 dJ6_bitCount_0f7a4_27 rfl ?_
  refine lv_iadd F.1 F.2.1 dJ6_bitCount_0f7a4_28 ?_
  refine lv_ldcw (v := (252645135 : Int32)) F.1 F.2.1 F.2.2.2.1 (F.2.2.2.2 _ tb_1019) dJ6_bitCount_0f7a4_29 ?_
  refine lv_iand F.1 F.2.1 dJ6_bitCount_0f7a4_32 ?_
  obtain ⟨x3, e_x3, h⟩ := ltE h
  refine x_topi e_x3 ?_
  clear e_x3
  refine lv_istore_n (lv' := [(0, .int x3)]) F.1 F.2.1 dJ6_bitCount_0f7a4_33 rfl hl (by decide) rfl (fun ls hl => ?_)
  refine lv_iload_n F.1 F.2.1 dJ6_bitCount_0f7a4_34 rfl (lv_at hl 0 rfl) ?_
  refine lv_iload_n F.1 F.2.1 dJ6_bitCount_0f7a4_35 rfl (lv_at hl 0 rfl) ?_
  refine lv_bipush (v := (8 : Int32)) F.1 F.2.1 dJ6_bitCount_0f7a4_36 (by decide) ?_
  refine lv_iushr F.1 F.2.1 dJ6_bitCount_0f7a4_38 rfl ?_
  refine lv_iadd F.1 F.2.1 dJ6_bitCount_0f7a4_39 ?_
  obtain ⟨x4, e_x4, h⟩ := ltE h
  refine x_topi e_x4 ?_
  clear e_x4
  refine lv_istore_n (lv' := [(0, .int x4)]) F.1 F.2.1 dJ6_bitCount_0f7a4_40 rfl hl (by decide) rfl (fun ls hl => ?_)
  refine lv_iload_n F.1 F.2.1 dJ6_bitCount_0f7a4_41 rfl (lv_at hl 0 rfl) ?_
  refine lv_iload_n F.1 F.2.1 dJ6_bitCount_0f7a4_42 rfl (lv_at hl 0 rfl) ?_
  refine lv_bipush (v := (16 : Int32)) F.1 F.2.1 dJ6_bitCount_0f7a4_43 (by decide) ?_
  refine lv_iushr F.1 F.2.1 dJ6_bitCount_0f7a4_45 rfl ?_
  refine lv_iadd F.1 F.2.1 dJ6_bitCount_0f7a4_46 ?_
  obtain ⟨x5, e_x5, h⟩ := ltE h
  refine x_topi e_x5 ?_
  clear e_x5
  refine lv_istore_n (lv' := [(0, .int x5)]) F.1 F.2.1 dJ6_bitCount_0f7a4_47 rfl hl (by decide) rfl (fun ls hl => ?_)
  refine lv_iload_n F.1 F.2.1 dJ6_bitCount_0f7a4_48 rfl (lv_at hl 0 rfl) ?_
  refine lv_bipush (v := (63 : Int32)) F.1 F.2.1 dJ6_bitCount_0f7a4_49 (by decide) ?_
  refine lv_iand F.1 F.2.1 dJ6_bitCount_0f7a4_51 ?_
  exact e_i F hS ⟨Option.some.inj h, rfl, rfl⟩ hr0 dJ6_bitCount_0f7a4_52 hk0
def f_X4_cellsOf (σ : ZI) (a1 : Int32) : Option (Int32) := (f_X7_at σ 55 a1).bind (fun q1 => if q1 = (1 : Int32) then ((f_X7_at σ 57 a1).bind (fun q2 => some q2)) else (some (-4 : Int32)))
abbrev rm_X4_cellsOf : Room := { frames := 1, cells := 0, slots := 0, locals := 21 }
set_option maxHeartbeats 4000000 in
set_option maxRecDepth 100000 in
theorem c_X4_cellsOf (l : Launch) (g : GG) (σ : ZI) (τ : ZL) (a1 : Int32) (res : Int32) (h : f_X4_cellsOf σ a1 = some res) : MI l yX4_cellsOf cX4_cellsOf 2 (some .int) rm_X4_cellsOf g [.ref (gA g 54), .int a1] σ τ (fun (r : Int32) (u : ZI × ZL) => r = res ∧ u.1 = σ ∧ u.2 = τ) := by
  refine Met_in (by decide) (Nat.le_of_ble_eq_true rfl) ?_
  intro p e s m args below meth c F G hP hr0 hk0 ls hl
  have hS := WS.start hP
  have hl : lv_has ls 2 [(0, .ref (gA g 54)), (1, .int a1)] := hl
  obtain ⟨H, hH⟩ : ∃ H, H = s.heap := ⟨_, rfl⟩
  rw [← hH] at hS ⊢
  clear hH hP
  rw [f_X4_cellsOf] at h
  obtain ⟨locs, hlo⟩ : ∃ z : List Loc, z = [] := ⟨_, rfl⟩
  rw [← hlo] at hS ⊢
  clear hlo
  refine lv_aload_n F.1 F.2.1 dX4_cellsOf_0 rfl (lv_at hl 0 rfl) ?_
  refine gf_X4_9 F G hS dX4_cellsOf_1 ?_
  refine lv_iload_n F.1 F.2.1 dX4_cellsOf_4 rfl (lv_at hl 1 rfl) ?_
  obtain ⟨q1, h_q1, h⟩ := bd h
  refine rTi F G hS hl.1 (c_X7_at l g σ τ 55 a1 q1 h_q1) lk_X4_28 ⟨rfl, rfl, Nat.le_of_ble_eq_true rfl, Nat.le_of_ble_eq_true rfl⟩  rfl rfl (Nat.le_of_ble_eq_true rfl) dX4_cellsOf_5 (kRi (fun H locs hS => ?_))
  refine lv_iconst (v := (1 : Int32)) F.1 F.2.1 dX4_cellsOf_8 (by decide) ?_
  refine lv_icmp_ne (tgt := 23) F.1 F.2.1 dX4_cellsOf_9 (by decide) (fun hc => ?_) (fun hc => ?_)
  · replace h := ifF h hc
    refine lv_bipush (v := (-4 : Int32)) F.1 F.2.1 dX4_cellsOf_23 (by decide) ?_
    exact e_i F hS ⟨Option.some.inj h, rfl, rfl⟩ hr0 dX4_cellsOf_25 hk0
  replace h := ifT h hc
  refine lv_aload_n F.1 F.2.1 dX4_cellsOf_12 rfl (lv_at hl 0 rfl) ?_
  refine gf_X4_18 F G hS dX4_cellsOf_13 ?_
  refine lv_iload_n F.1 F.2.1 dX4_cellsOf_16 rfl (lv_at hl 1 rfl) ?_
  obtain ⟨q2, h_q2, h⟩ := bd h
  refine rTi F G hS hl.1 (c_X7_at l g σ τ 57 a1 q2 h_q2) lk_X4_28 ⟨rfl, rfl, Nat.le_of_ble_eq_true rfl, Nat.le_of_ble_eq_true rfl⟩  rfl rfl (Nat.le_of_ble_eq_true rfl) dX4_cellsOf_17 (kRi (fun H locs hS => ?_))
  refine lv_goto (tgt := 25) F.1 F.2.1 dX4_cellsOf_20 (by decide) ?_
  exact e_i F hS ⟨Option.some.inj h, rfl, rfl⟩ hr0 dX4_cellsOf_25 hk0
def f_X6_allLetters_4 (σ : ZI) (b : Nat)  : Nat → Int32 → Int32 → Option (Int32)
  | 0, _, _ => none
  | n + 1, v1, v2 => (f_X6_value σ b (3 : Int32)).bind (fun q1 => if q1 ≤ v2 then (some v1) else ((f_X7_at σ (b + 7) v2).bind (fun q2 => f_X6_allLetters_4 σ b n (v1 + q2) (v2 + (1 : Int32)))))
def f_X6_allLetters (σ : ZI) (b : Nat) : Option (Int32) := if (ar b).1 = 11 then (f_X6_allLetters_4 σ b 3000 (0 : Int32) (0 : Int32)) else none
abbrev rm_X6_allLetters : Room := { frames := 2, cells := 0, slots := 0, locals := 42 }
set_option maxHeartbeats 4000000 in
set_option maxRecDepth 100000 in
theorem c_X6_allLetters (l : Launch) (g : GG) (σ : ZI) (τ : ZL) (b : Nat) (res : Int32) (h : f_X6_allLetters σ b = some res) : MI l yX6_allLetters cX6_allLetters 3 (some .int) rm_X6_allLetters g [.ref (gA g b)] σ τ (fun (r : Int32) (u : ZI × ZL) => r = res ∧ u.1 = σ ∧ u.2 = τ) := by
  refine Met_in (by decide) (Nat.le_of_ble_eq_true rfl) ?_
  intro p e s m args below meth c F G hP hr0 hk0 ls hl
  have hS := WS.start hP
  have hl : lv_has ls 3 [(0, .ref (gA g b))] := hl
  obtain ⟨H, hH⟩ : ∃ H, H = s.heap := ⟨_, rfl⟩
  rw [← hH] at hS ⊢
  clear hH hP
  rw [f_X6_allLetters] at h
  obtain ⟨hg_b, h⟩ := gd h
  have w_4 : ∀ (n : Nat) (v1 : Int32) (v2 : Int32), f_X6_allLetters_4 σ b n v1 v2 = some res → ∀ (H : Heap) (locs : List Loc) (ls : Array Slot), WS g σ τ s H locs → lv_has ls 3 [(0, .ref (gA g b)), (1, .int v1), (2, .int v2)] → W p l e rm_X6_allLetters s m args below meth c H locs 0 0 (MQ below (va_Qi (fun (r : Int32) (u : ZI × ZL) => r = res ∧ u.1 = σ ∧ u.2 = τ) (WQ g) (AA g)) args s 0 0 (AA g)) (F0 m 4 ls []) := by
    intro n
    induction n with
    | zero => intro v1 v2 h; rw [f_X6_allLetters_4] at h; cases h
    | succ n ih =>
      intro v1 v2 h H locs ls hS hl
      rw [f_X6_allLetters_4] at h
      refine lv_iload_n F.1 F.2.1 dX6_allLetters_4 rfl (lv_at hl 2 rfl) ?_
      refine lv_aload_n F.1 F.2.1 dX6_allLetters_5 rfl (lv_at hl 0 rfl) ?_
      refine lv_iconst (v := (3 : Int32)) F.1 F.2.1 dX6_allLetters_6 (by decide) ?_
      obtain ⟨q1, h_q1, h⟩ := bd h
      refine rVi F G hS hl.1 (c_X6_value l g σ τ b (3 : Int32) q1 h_q1) lk_X6_62 ⟨rfl, rfl, Nat.le_of_ble_eq_true rfl, Nat.le_of_ble_eq_true rfl⟩ (rc_X6 G hS hg_b) rfl rfl (Nat.le_of_ble_eq_true rfl) dX6_allLetters_7 (kRi (fun H locs hS => ?_))
      refine lv_icmp_ge (tgt := 30) F.1 F.2.1 dX6_allLetters_10 (by decide) (fun hc => ?_) (fun hc => ?_)
      · replace h := ifT h hc
        refine lv_iload_n F.1 F.2.1 dX6_allLetters_30 rfl (lv_at hl 1 rfl) ?_
        exact e_i F hS ⟨Option.some.inj h, rfl, rfl⟩ hr0 dX6_allLetters_31 hk0
      replace h := ifF h hc
      refine lv_iload_n F.1 F.2.1 dX6_allLetters_13 rfl (lv_at hl 1 rfl) ?_
      refine lv_aload_n F.1 F.2.1 dX6_allLetters_14 rfl (lv_at hl 0 rfl) ?_
      refine gf_X6_30 F G hS hg_b dX6_allLetters_15 ?_
      refine lv_iload_n F.1 F.2.1 dX6_allLetters_18 rfl (lv_at hl 2 rfl) ?_
      obtain ⟨q2, h_q2, h⟩ := bd h
      refine rTi F G hS hl.1 (c_X7_at l g σ τ (b + 7) v2 q2 h_q2) lk_X6_48 ⟨rfl, rfl, Nat.le_of_ble_eq_true rfl, Nat.le_of_ble_eq_true rfl⟩  rfl rfl (Nat.le_of_ble_eq_true rfl) dX6_allLetters_19 (kRi (fun H locs hS => ?_))
      refine lv_iadd F.1 F.2.1 dX6_allLetters_22 ?_
      refine lv_istore_n (lv' := [(1, .int (v1 + q2)), (0, .ref (gA g b)), (2, .int v2)]) F.1 F.2.1 dX6_allLetters_23 rfl hl (by decide) rfl (fun ls hl => ?_)
      refine lv_iinc (v := (v2 + (1 : Int32))) (lv' := [(2, .int (v2 + (1 : Int32))), (1, .int (v1 + q2)), (0, .ref (gA g b))]) F.1 F.2.1 dX6_allLetters_24 hl (k := 2) rfl rfl (by decide) rfl (fun ls hl => ?_)
      refine lv_goto (tgt := 4) F.1 F.2.1 dX6_allLetters_27 (by decide) ?_
      exact ih (v1 + q2) (v2 + (1 : Int32)) h H locs _ hS (lv_sub hl [2, 1, 0] rfl)
  obtain ⟨locs, hlo⟩ : ∃ z : List Loc, z = [] := ⟨_, rfl⟩
  rw [← hlo] at hS ⊢
  clear hlo
  refine lv_iconst (v := (0 : Int32)) F.1 F.2.1 dX6_allLetters_0 (by decide) ?_
  refine lv_istore_n (lv' := [(1, .int (0 : Int32)), (0, .ref (gA g b))]) F.1 F.2.1 dX6_allLetters_1 rfl hl (by decide) rfl (fun ls hl => ?_)
  refine lv_iconst (v := (0 : Int32)) F.1 F.2.1 dX6_allLetters_2 (by decide) ?_
  refine lv_istore_n (lv' := [(2, .int (0 : Int32)), (1, .int (0 : Int32)), (0, .ref (gA g b))]) F.1 F.2.1 dX6_allLetters_3 rfl hl (by decide) rfl (fun ls hl => ?_)
  exact w_4 3000 (0 : Int32) (0 : Int32) h H locs _ hS (lv_sub hl [2, 1, 0] rfl)
def f_X7_count (σ : ZI) (a1 : Int32) : Option (Int32) := if a1 = (0 : Int32) then (some (σ 51 2)) else (if a1 = (1 : Int32) then ((f_J6_bitCount_0f7a4 (σ 0 3)).bind (fun q1 => some q1)) else (if a1 = (2 : Int32) then (some (σ 37 1)) else (if a1 = (3 : Int32) then ((f_X4_cellsOf σ (0 : Int32)).bind (fun q2 => some q2)) else (if a1 = (4 : Int32) then ((f_X6_allLetters σ 1).bind (fun q3 => some q3)) else (if a1 = (5 : Int32) then ((f_X6_value σ 1 (4 : Int32)).bind (fun q4 => (f_J6_bitCount_0f7a4 q4).bind (fun q5 => some q5))) else (some (-1 : Int32)))))))
abbrev rm_X7_count : Room := { frames := 3, cells := 0, slots := 0, locals := 64 }
set_option maxHeartbeats 4000000 in
set_option maxRecDepth 100000 in
theorem c_X7_count (l : Launch) (g : GG) (σ : ZI) (τ : ZL) (a1 : Int32) (res : Int32) (h : f_X7_count σ a1 = some res) : MI l yX7_count cX7_count 2 (some .int) rm_X7_count g [.ref (gA g 0), .int a1] σ τ (fun (r : Int32) (u : ZI × ZL) => r = res ∧ u.1 = σ ∧ u.2 = τ) := by
  refine Met_in (by decide) (Nat.le_of_ble_eq_true rfl) ?_
  intro p e s m args below meth c F G hP hr0 hk0 ls hl
  have hS := WS.start hP
  have hl : lv_has ls 2 [(0, .ref (gA g 0)), (1, .int a1)] := hl
  obtain ⟨H, hH⟩ : ∃ H, H = s.heap := ⟨_, rfl⟩
  rw [← hH] at hS ⊢
  clear hH hP
  rw [f_X7_count] at h
  obtain ⟨locs, hlo⟩ : ∃ z : List Loc, z = [] := ⟨_, rfl⟩
  rw [← hlo] at hS ⊢
  clear hlo
  refine lv_iload_n F.1 F.2.1 dX7_count_0 rfl (lv_at hl 1 rfl) ?_
  by_cases hc_0 : a1 = (0 : Int32)
  · replace h := ifT h hc_0
    refine lv_tableIn (tgt := 40) F.1 F.2.1 dX7_count_1 (by rw [hc_0]; decide) (by rw [hc_0]; decide) (by rw [hc_0]; rfl) (by decide) ?_
    refine lv_aload_n F.1 F.2.1 dX7_count_40 rfl (lv_at hl 0 rfl) ?_
    refine gf_X7_53 F G hS dX7_count_41 ?_
    refine gf_X7_104 F G hS dX7_count_44 ?_
    exact e_i F hS ⟨Option.some.inj h, rfl, rfl⟩ hr0 dX7_count_47 hk0
  replace h := ifF h hc_0
  by_cases hc_1 : a1 = (1 : Int32)
  · replace h := ifT h hc_1
    refine lv_tableIn (tgt := 48) F.1 F.2.1 dX7_count_1 (by rw [hc_1]; decide) (by rw [hc_1]; decide) (by rw [hc_1]; rfl) (by decide) ?_
    refine lv_aload_n F.1 F.2.1 dX7_count_48 rfl (lv_at hl 0 rfl) ?_
    refine gf_X7_107 F G hS dX7_count_49 ?_
    obtain ⟨q1, h_q1, h⟩ := bd h
    refine rSi F G hS hl.1 (c_J6_bitCount_0f7a4 l g σ τ (σ 0 3) q1 h_q1) lk_X7_328 ⟨rfl, rfl, Nat.le_of_ble_eq_true rfl, Nat.le_of_ble_eq_true rfl⟩  rfl rfl (Nat.le_of_ble_eq_true rfl) dX7_count_52 (kRi (fun H locs hS => ?_))
    exact e_i F hS ⟨Option.some.inj h, rfl, rfl⟩ hr0 dX7_count_55 hk0
  replace h := ifF h hc_1
  by_cases hc_2 : a1 = (2 : Int32)
  · replace h := ifT h hc_2
    refine lv_tableIn (tgt := 56) F.1 F.2.1 dX7_count_1 (by rw [hc_2]; decide) (by rw [hc_2]; decide) (by rw [hc_2]; rfl) (by decide) ?_
    refine lv_aload_n F.1 F.2.1 dX7_count_56 rfl (lv_at hl 0 rfl) ?_
    refine gf_X7_33 F G hS dX7_count_57 ?_
    refine gf_X7_74 F G hS dX7_count_60 ?_
    exact e_i F hS ⟨Option.some.inj h, rfl, rfl⟩ hr0 dX7_count_63 hk0
  replace h := ifF h hc_2
  by_cases hc_3 : a1 = (3 : Int32)
  · replace h := ifT h hc_3
    refine lv_tableIn (tgt := 64) F.1 F.2.1 dX7_count_1 (by rw [hc_3]; decide) (by rw [hc_3]; decide) (by rw [hc_3]; rfl) (by decide) ?_
    refine lv_aload_n F.1 F.2.1 dX7_count_64 rfl (lv_at hl 0 rfl) ?_
    refine gf_X7_60 F G hS dX7_count_65 ?_
    refine lv_iconst (v := (0 : Int32)) F.1 F.2.1 dX7_count_68 (by decide) ?_
    obtain ⟨q2, h_q2, h⟩ := bd h
    refine rNi F G hS hl.1 (c_X4_cellsOf l g σ τ (0 : Int32) q2 h_q2) lk_X7_333 ⟨rfl, rfl, Nat.le_of_ble_eq_true rfl, Nat.le_of_ble_eq_true rfl⟩ (rc_X4 G hS) rfl rfl (Nat.le_of_ble_eq_true rfl) dX7_count_69 (kRi (fun H locs hS => ?_))
    exact e_i F hS ⟨Option.some.inj h, rfl, rfl⟩ hr0 dX7_count_72 hk0
  replace h := ifF h hc_3
  by_cases hc_4 : a1 = (4 : Int32)
  · replace h := ifT h hc_4
    refine lv_tableIn (tgt := 73) F.1 F.2.1 dX7_count_1 (by rw [hc_4]; decide) (by rw [hc_4]; decide) (by rw [hc_4]; rfl) (by decide) ?_
    refine lv_aload_n F.1 F.2.1 dX7_count_73 rfl (lv_at hl 0 rfl) ?_
    refine gf_X7_10 F G hS dX7_count_74 ?_
    obtain ⟨q3, h_q3, h⟩ := bd h
    refine rNi F G hS hl.1 (c_X6_allLetters l g σ τ 1 q3 h_q3) lk_X7_336 ⟨rfl, rfl, Nat.le_of_ble_eq_true rfl, Nat.le_of_ble_eq_true rfl⟩ (rc_X6 G hS rfl) rfl rfl (Nat.le_of_ble_eq_true rfl) dX7_count_77 (kRi (fun H locs hS => ?_))
    exact e_i F hS ⟨Option.some.inj h, rfl, rfl⟩ hr0 dX7_count_80 hk0
  replace h := ifF h hc_4
  by_cases hc_5 : a1 = (5 : Int32)
  · replace h := ifT h hc_5
    refine lv_tableIn (tgt := 81) F.1 F.2.1 dX7_count_1 (by rw [hc_5]; decide) (by rw [hc_5]; decide) (by rw [hc_5]; rfl) (by decide) ?_
    refine lv_aload_n F.1 F.2.1 dX7_count_81 rfl (lv_at hl 0 rfl) ?_
    refine gf_X7_10 F G hS dX7_count_82 ?_
    refine lv_iconst (v := (4 : Int32)) F.1 F.2.1 dX7_count_85 (by decide) ?_
    obtain ⟨q4, h_q4, h⟩ := bd h
    refine rNi F G hS hl.1 (c_X6_value l g σ τ 1 (4 : Int32) q4 h_q4) lk_X7_110 ⟨rfl, rfl, Nat.le_of_ble_eq_true rfl, Nat.le_of_ble_eq_true rfl⟩ (rc_X6 G hS rfl) rfl rfl (Nat.le_of_ble_eq_true rfl) dX7_count_86 (kRi (fun H locs hS => ?_))
    obtain ⟨q5, h_q5, h⟩ := bd h
    refine rSi F G hS hl.1 (c_J6_bitCount_0f7a4 l g σ τ q4 q5 h_q5) lk_X7_328 ⟨rfl, rfl, Nat.le_of_ble_eq_true rfl, Nat.le_of_ble_eq_true rfl⟩  rfl rfl (Nat.le_of_ble_eq_true rfl) dX7_count_89 (kRi (fun H locs hS => ?_))
    exact e_i F hS ⟨Option.some.inj h, rfl, rfl⟩ hr0 dX7_count_92 hk0
  replace h := ifF h hc_5
  refine lv_tableOut (tgt := 93) F.1 F.2.1 dX7_count_1 (by have h0 := lv_neT (a := 0) hc_0 (by decide); have h1 := lv_neT (a := 1) hc_1 (by decide); have h2 := lv_neT (a := 2) hc_2 (by decide); have h3 := lv_neT (a := 3) hc_3 (by decide); have h4 := lv_neT (a := 4) hc_4 (by decide); have h5 := lv_neT (a := 5) hc_5 (by decide); omega) (by decide) ?_
  refine lv_iconst (v := (-1 : Int32)) F.1 F.2.1 dX7_count_93 (by decide) ?_
  exact e_i F hS ⟨Option.some.inj h, rfl, rfl⟩ hr0 dX7_count_94 hk0
def f_X8_in (a1 : Int64) (a2 : Int64) (a3 : Int64) : Option (Int32) := if (lg_cmp a1 a2) < 0 then (some (0 : Int32)) else (if 0 < (lg_cmp a1 a3) then (some (0 : Int32)) else (some (1 : Int32)))
abbrev rm_X8_in : Room := { frames := 0, cells := 0, slots := 0, locals := 0 }
set_option maxHeartbeats 4000000 in
set_option maxRecDepth 100000 in
theorem c_X8_in (l : Launch) (g : GG) (σ : ZI) (τ : ZL) (a1 : Int64) (a2 : Int64) (a3 : Int64) (res : Int32) (h : f_X8_in a1 a2 a3 = some res) : MI l yX8_in cX8_in 6 (some .boolean) rm_X8_in g [.long a1, .long a2, .long a3] σ τ (fun (r : Int32) (u : ZI × ZL) => r = res ∧ u.1 = σ ∧ u.2 = τ) := by
  refine Met_in (by decide) (Nat.le_of_ble_eq_true rfl) ?_
  intro p e s m args below meth c F G hP hr0 hk0 ls hl
  have hS := WS.start hP
  have hl : lv_has ls 6 [(0, .long a1), (2, .long a2), (4, .long a3)] := hl
  obtain ⟨H, hH⟩ : ∃ H, H = s.heap := ⟨_, rfl⟩
  rw [← hH] at hS ⊢
  clear hH hP
  rw [f_X8_in] at h
  obtain ⟨locs, hlo⟩ : ∃ z : List Loc, z = [] := ⟨_, rfl⟩
  rw [← hlo] at hS ⊢
  clear hlo
  refine lv_lload_n F.1 F.2.1 dX8_in_0 rfl (lv_at hl 0 rfl) ?_
  refine lv_lload_n F.1 F.2.1 dX8_in_1 rfl (lv_at hl 1 rfl) ?_
  refine W.lcmp F.1 F.2.1 dX8_in_2 ?_
  refine lv_if_lt (tgt := 17) F.1 F.2.1 dX8_in_3 (by decide) (fun hc => ?_) (fun hc => ?_)
  · replace h := ifT h hc
    refine lv_iconst (v := (0 : Int32)) F.1 F.2.1 dX8_in_17 (by decide) ?_
    exact e_z F hS (by decide) ⟨Option.some.inj h, rfl, rfl⟩ hr0 dX8_in_18 hk0
  replace h := ifF h hc
  refine lv_lload_n F.1 F.2.1 dX8_in_6 rfl (lv_at hl 0 rfl) ?_
  refine lv_lload F.1 F.2.1 dX8_in_7 (lv_at hl 2 rfl) ?_
  refine W.lcmp F.1 F.2.1 dX8_in_9 ?_
  refine lv_if_gt (tgt := 17) F.1 F.2.1 dX8_in_10 (by decide) (fun hc => ?_) (fun hc => ?_)
  · replace h := ifT h hc
    refine lv_iconst (v := (0 : Int32)) F.1 F.2.1 dX8_in_17 (by decide) ?_
    exact e_z F hS (by decide) ⟨Option.some.inj h, rfl, rfl⟩ hr0 dX8_in_18 hk0
  replace h := ifF h hc
  refine lv_iconst (v := (1 : Int32)) F.1 F.2.1 dX8_in_13 (by decide) ?_
  refine lv_goto (tgt := 18) F.1 F.2.1 dX8_in_14 (by decide) ?_
  exact e_z F hS (by decide) ⟨Option.some.inj h, rfl, rfl⟩ hr0 dX8_in_18 hk0
def f_X8_feed (σ : ZI) (a1 : Int32) : Option (Int32 × ZI) := (f_X8_in a1.toInt64 (0 : Int64) (127 : Int64)).bind (fun q1 => if q1 = 0 then (some ((-1 : Int32), σ)) else (if (σ 60 23) = (160 : Int32) then (some ((-3 : Int32), σ)) else (if inB (σ 60 23) 160 = true then (lt_ (va_up σ 71 (upd (σ 71) (σ 60 23).toNatClampNeg a1)) (fun σ2 => lt_ (va_up σ2 60 (upd (σ2 60) 23 ((σ2 60 23) + (1 : Int32)))) (fun σ3 => some ((σ3 60 23), σ3)))) else none)))
abbrev rm_X8_feed : Room := { frames := 1, cells := 0, slots := 0, locals := 25 }
set_option maxHeartbeats 4000000 in
set_option maxRecDepth 100000 in
theorem c_X8_feed (l : Launch) (g : GG) (σ : ZI) (τ : ZL) (a1 : Int32) (res : Int32 × ZI) (h : f_X8_feed σ a1 = some res) : MI l yX8_feed cX8_feed 2 (some .int) rm_X8_feed g [.ref (gA g 60), .int a1] σ τ (fun (r : Int32) (u : ZI × ZL) => (r, u.1) = res ∧ u.2 = τ) := by
  refine Met_in (by decide) (Nat.le_of_ble_eq_true rfl) ?_
  intro p e s m args below meth c F G hP hr0 hk0 ls hl
  have hS := WS.start hP
  have hl : lv_has ls 2 [(0, .ref (gA g 60)), (1, .int a1)] := hl
  obtain ⟨H, hH⟩ : ∃ H, H = s.heap := ⟨_, rfl⟩
  rw [← hH] at hS ⊢
  clear hH hP
  rw [f_X8_feed] at h
  obtain ⟨locs, hlo⟩ : ∃ z : List Loc, z = [] := ⟨_, rfl⟩
  rw [← hlo] at hS ⊢
  clear hlo
  refine lv_iload_n F.1 F.2.1 dX8_feed_0 rfl (lv_at hl 1 rfl) ?_
  refine lv_i2l F.1 F.2.1 dX8_feed_1 rfl ?_
  refine lv_lconst (v := (0 : Int64)) F.1 F.2.1 dX8_feed_2 (by decide) ?_
  refine lv_ldc2 (v := (127 : Int64)) F.1 F.2.1 F.2.2.2.1 (F.2.2.2.2 _ tb_1181) dX8_feed_3 ?_
  obtain ⟨q1, h_q1, h⟩ := bd h
  refine rSi F G hS hl.1 (c_X8_in l g σ τ a1.toInt64 (0 : Int64) (127 : Int64) q1 h_q1) lk_X8_71 ⟨rfl, rfl, Nat.le_of_ble_eq_true rfl, Nat.le_of_ble_eq_true rfl⟩  rfl rfl (Nat.le_of_ble_eq_true rfl) dX8_feed_6 (kRi (fun H locs hS => ?_))
  refine lv_if_ne (tgt := 14) F.1 F.2.1 dX8_feed_9 (by decide) (fun hc => ?_) (fun hc => ?_)
  rotate_left
  · replace h := ifT h hc
    refine lv_iconst (v := (-1 : Int32)) F.1 F.2.1 dX8_feed_12 (by decide) ?_
    exact e_i F hS ⟨Option.some.inj h, rfl⟩ hr0 dX8_feed_13 hk0
  replace h := ifF h hc
  refine lv_aload_n F.1 F.2.1 dX8_feed_14 rfl (lv_at hl 0 rfl) ?_
  refine gf_X8_75 F G hS dX8_feed_15 ?_
  refine lv_sipush (v := (160 : Int32)) F.1 F.2.1 dX8_feed_18 (by decide) ?_
  refine lv_icmp_ne (tgt := 27) F.1 F.2.1 dX8_feed_21 (by decide) (fun hc => ?_) (fun hc => ?_)
  rotate_left
  · replace h := ifT h hc
    refine lv_bipush (v := (-3 : Int32)) F.1 F.2.1 dX8_feed_24 (by decide) ?_
    exact e_i F hS ⟨Option.some.inj h, rfl⟩ hr0 dX8_feed_26 hk0
  replace h := ifF h hc
  refine lv_aload_n F.1 F.2.1 dX8_feed_27 rfl (lv_at hl 0 rfl) ?_
  refine gf_X8_44 F G hS dX8_feed_28 ?_
  refine lv_aload_n F.1 F.2.1 dX8_feed_31 rfl (lv_at hl 0 rfl) ?_
  refine gf_X8_75 F G hS dX8_feed_32 ?_
  refine lv_iload_n F.1 F.2.1 dX8_feed_35 rfl (lv_at hl 1 rfl) ?_
  obtain ⟨hin, h⟩ := gd h
  refine x_iast F G hS 71 rfl hin dX8_feed_36 (fun H locs hS => ?_)
  obtain ⟨σ2, e_σ2, h⟩ := ltE h
  rw [← e_σ2] at hS
  clear e_σ2
  refine lv_aload_n F.1 F.2.1 dX8_feed_37 rfl (lv_at hl 0 rfl) ?_
  refine lv_dup F.1 F.2.1 dX8_feed_38 rfl ?_
  refine gf_X8_75 F G hS dX8_feed_39 ?_
  refine lv_iconst (v := (1 : Int32)) F.1 F.2.1 dX8_feed_42 (by decide) ?_
  refine lv_iadd F.1 F.2.1 dX8_feed_43 ?_
  refine pf_X8_75 F G hS dX8_feed_44 (fun H locs hS => ?_)
  obtain ⟨σ3, e_σ3, h⟩ := ltE h
  rw [← e_σ3] at hS
  clear e_σ3
  refine lv_aload_n F.1 F.2.1 dX8_feed_47 rfl (lv_at hl 0 rfl) ?_
  refine gf_X8_75 F G hS dX8_feed_48 ?_
  exact e_i F hS ⟨Option.some.inj h, rfl⟩ hr0 dX8_feed_51 hk0
def f_X8_end (σ : ZI) (a1 : Int32) : Option (Int32 × ZI) := (f_X8_in a1.toInt64 (0 : Int64) ((σ 60 23).toInt64)).bind (fun q1 => if q1 = 0 then (some ((-1 : Int32), σ)) else (lt_ (va_up σ 60 (upd (σ 60) 23 a1)) (fun σ2 => some ((σ 60 23), σ2))))
abbrev rm_X8_end : Room := { frames := 1, cells := 0, slots := 0, locals := 25 }
set_option maxHeartbeats 4000000 in
set_option maxRecDepth 100000 in
theorem c_X8_end (l : Launch) (g : GG) (σ : ZI) (τ : ZL) (a1 : Int32) (res : Int32 × ZI) (h : f_X8_end σ a1 = some res) : MI l yX8_end cX8_end 3 (some .int) rm_X8_end g [.ref (gA g 60), .int a1] σ τ (fun (r : Int32) (u : ZI × ZL) => (r, u.1) = res ∧ u.2 = τ) := by
  refine Met_in (by decide) (Nat.le_of_ble_eq_true rfl) ?_
  intro p e s m args below meth c F G hP hr0 hk0 ls hl
  have hS := WS.start hP
  have hl : lv_has ls 3 [(0, .ref (gA g 60)), (1, .int a1)] := hl
  obtain ⟨H, hH⟩ : ∃ H, H = s.heap := ⟨_, rfl⟩
  rw [← hH] at hS ⊢
  clear hH hP
  rw [f_X8_end] at h
  obtain ⟨locs, hlo⟩ : ∃ z : List Loc, z = [] := ⟨_, rfl⟩
  rw [← hlo] at hS ⊢
  clear hlo
  refine lv_iload_n F.1 F.2.1 dX8_end_0 rfl (lv_at hl 1 rfl) ?_
  refine lv_i2l F.1 F.2.1 dX8_end_1 rfl ?_
  refine lv_lconst (v := (0 : Int64)) F.1 F.2.1 dX8_end_2 (by decide) ?_
  refine lv_aload_n F.1 F.2.1 dX8_end_3 rfl (lv_at hl 0 rfl) ?_
  refine gf_X8_75 F G hS dX8_end_4 ?_
  refine lv_i2l F.1 F.2.1 dX8_end_7 rfl ?_
  obtain ⟨q1, h_q1, h⟩ := bd h
  refine rSi F G hS hl.1 (c_X8_in l g σ τ a1.toInt64 (0 : Int64) ((σ 60 23).toInt64) q1 h_q1) lk_X8_71 ⟨rfl, rfl, Nat.le_of_ble_eq_true rfl, Nat.le_of_ble_eq_true rfl⟩  rfl rfl (Nat.le_of_ble_eq_true rfl) dX8_end_8 (kRi (fun H locs hS => ?_))
  refine lv_if_ne (tgt := 16) F.1 F.2.1 dX8_end_11 (by decide) (fun hc => ?_) (fun hc => ?_)
  rotate_left
  · replace h := ifT h hc
    refine lv_iconst (v := (-1 : Int32)) F.1 F.2.1 dX8_end_14 (by decide) ?_
    exact e_i F hS ⟨Option.some.inj h, rfl⟩ hr0 dX8_end_15 hk0
  replace h := ifF h hc
  refine lv_aload_n F.1 F.2.1 dX8_end_16 rfl (lv_at hl 0 rfl) ?_
  refine gf_X8_75 F G hS dX8_end_17 ?_
  refine lv_istore_n (lv' := [(2, .int (σ 60 23)), (0, .ref (gA g 60)), (1, .int a1)]) F.1 F.2.1 dX8_end_20 rfl hl (by decide) rfl (fun ls hl => ?_)
  refine lv_aload_n F.1 F.2.1 dX8_end_21 rfl (lv_at hl 1 rfl) ?_
  refine lv_iload_n F.1 F.2.1 dX8_end_22 rfl (lv_at hl 2 rfl) ?_
  refine pf_X8_75 F G hS dX8_end_23 (fun H locs hS => ?_)
  obtain ⟨σ2, e_σ2, h⟩ := ltE h
  rw [← e_σ2] at hS
  clear e_σ2
  refine lv_iload_n F.1 F.2.1 dX8_end_26 rfl (lv_at hl 0 rfl) ?_
  exact e_i F hS ⟨Option.some.inj h, rfl⟩ hr0 dX8_end_27 hk0
def f_X8_byteAt (σ : ZI) (a1 : Int32) : Option (Int32) := if (σ 60 23) ≤ a1 then (some (-4 : Int32)) else (if inB a1 160 = true then (some (σ 71 a1.toNatClampNeg)) else none)
abbrev rm_X8_byteAt : Room := { frames := 0, cells := 0, slots := 0, locals := 0 }
set_option maxHeartbeats 4000000 in
set_option maxRecDepth 100000 in
theorem c_X8_byteAt (l : Launch) (g : GG) (σ : ZI) (τ : ZL) (a1 : Int32) (res : Int32) (h : f_X8_byteAt σ a1 = some res) : MI l yX8_byteAt cX8_byteAt 2 (some .int) rm_X8_byteAt g [.ref (gA g 60), .int a1] σ τ (fun (r : Int32) (u : ZI × ZL) => r = res ∧ u.1 = σ ∧ u.2 = τ) := by
  refine Met_in (by decide) (Nat.le_of_ble_eq_true rfl) ?_
  intro p e s m args below meth c F G hP hr0 hk0 ls hl
  have hS := WS.start hP
  have hl : lv_has ls 2 [(0, .ref (gA g 60)), (1, .int a1)] := hl
  obtain ⟨H, hH⟩ : ∃ H, H = s.heap := ⟨_, rfl⟩
  rw [← hH] at hS ⊢
  clear hH hP
  rw [f_X8_byteAt] at h
  obtain ⟨locs, hlo⟩ : ∃ z : List Loc, z = [] := ⟨_, rfl⟩
  rw [← hlo] at hS ⊢
  clear hlo
  refine lv_iload_n F.1 F.2.1 dX8_byteAt_0 rfl (lv_at hl 1 rfl) ?_
  refine lv_aload_n F.1 F.2.1 dX8_byteAt_1 rfl (lv_at hl 0 rfl) ?_
  refine gf_X8_75 F G hS dX8_byteAt_2 ?_
  refine lv_icmp_ge (tgt := 17) F.1 F.2.1 dX8_byteAt_5 (by decide) (fun hc => ?_) (fun hc => ?_)
  · replace h := ifT h hc
    refine lv_bipush (v := (-4 : Int32)) F.1 F.2.1 dX8_byteAt_17 (by decide) ?_
    exact e_i F hS ⟨Option.some.inj h, rfl, rfl⟩ hr0 dX8_byteAt_19 hk0
  replace h := ifF h hc
  refine lv_aload_n F.1 F.2.1 dX8_byteAt_8 rfl (lv_at hl 0 rfl) ?_
  refine gf_X8_44 F G hS dX8_byteAt_9 ?_
  refine lv_iload_n F.1 F.2.1 dX8_byteAt_12 rfl (lv_at hl 1 rfl) ?_
  obtain ⟨hin, h⟩ := gd h
  refine x_iald F G hS 71 rfl hin dX8_byteAt_13 ?_
  refine lv_goto (tgt := 19) F.1 F.2.1 dX8_byteAt_14 (by decide) ?_
  exact e_i F hS ⟨Option.some.inj h, rfl, rfl⟩ hr0 dX8_byteAt_19 hk0
def f_X8_fails (σ : ZI) (a1 : Int32) : Option (ZI) := if (σ 60 25) = 0 then (lt_ (va_up σ 60 (upd (σ 60) 25 a1)) (fun σ1 => lt_ (va_up σ1 60 (upd (σ1 60) 26 (σ1 60 28))) (fun σ2 => some σ2))) else (some σ)
abbrev rm_X8_fails : Room := { frames := 0, cells := 0, slots := 0, locals := 0 }
set_option maxHeartbeats 4000000 in
set_option maxRecDepth 100000 in
theorem c_X8_fails (l : Launch) (g : GG) (σ : ZI) (τ : ZL) (a1 : Int32) (res : ZI) (h : f_X8_fails σ a1 = some res) : MV l yX8_fails cX8_fails 2 none rm_X8_fails g [.ref (gA g 60), .int a1] σ τ (fun (u : ZI × ZL) => u.1 = res ∧ u.2 = τ) := by
  refine Met_in (by decide) (Nat.le_of_ble_eq_true rfl) ?_
  intro p e s m args below meth c F G hP hr0 hk0 ls hl
  have hS := WS.start hP
  have hl : lv_has ls 2 [(0, .ref (gA g 60)), (1, .int a1)] := hl
  obtain ⟨H, hH⟩ : ∃ H, H = s.heap := ⟨_, rfl⟩
  rw [← hH] at hS ⊢
  clear hH hP
  rw [f_X8_fails] at h
  obtain ⟨locs, hlo⟩ : ∃ z : List Loc, z = [] := ⟨_, rfl⟩
  rw [← hlo] at hS ⊢
  clear hlo
  refine lv_aload_n F.1 F.2.1 dX8_fails_0 rfl (lv_at hl 0 rfl) ?_
  refine gf_X8_78 F G hS dX8_fails_1 ?_
  refine lv_if_ne (tgt := 20) F.1 F.2.1 dX8_fails_4 (by decide) (fun hc => ?_) (fun hc => ?_)
  · replace h := ifF h hc
    exact e_v F hS ⟨Option.some.inj h, rfl⟩ hr0 dX8_fails_20 hk0
  replace h := ifT h hc
  refine lv_aload_n F.1 F.2.1 dX8_fails_7 rfl (lv_at hl 0 rfl) ?_
  refine lv_iload_n F.1 F.2.1 dX8_fails_8 rfl (lv_at hl 1 rfl) ?_
  refine pf_X8_78 F G hS dX8_fails_9 (fun H locs hS => ?_)
  obtain ⟨σ1, e_σ1, h⟩ := ltE h
  rw [← e_σ1] at hS
  clear e_σ1
  refine lv_aload_n F.1 F.2.1 dX8_fails_12 rfl (lv_at hl 0 rfl) ?_
  refine lv_aload_n F.1 F.2.1 dX8_fails_13 rfl (lv_at hl 0 rfl) ?_
  refine gf_X8_81 F G hS dX8_fails_14 ?_
  refine pf_X8_84 F G hS dX8_fails_17 (fun H locs hS => ?_)
  obtain ⟨σ2, e_σ2, h⟩ := ltE h
  rw [← e_σ2] at hS
  clear e_σ2
  exact e_v F hS ⟨Option.some.inj h, rfl⟩ hr0 dX8_fails_20 hk0
def f_X8_nameHere_106 (σ : ZI) (k_2 : Int32 → Option (Int32)) (v1 : Int32) (v2 : Int32) : Option (Int32) := if v2 = 0 then (k_2 (v1 + (1 : Int32))) else (some v1)
def f_X8_nameHere_99 (σ : ZI) (k_51 : Int32 → Int32 → Int32 → Option (Int32)) (v1 : Int32) (v3 : Int32) (s0 : Int32) : Option (Int32) := k_51 v1 s0 (v3 + (1 : Int32))
def f_X8_nameHere_51 (σ : ZI) (k_2 : Int32 → Option (Int32)) : Nat → Int32 → Int32 → Int32 → Option (Int32)
  | 0, _, _, _ => none
  | n + 1, v1, v2, v3 => if v2 = 0 then (f_X8_nameHere_106 σ k_2 v1 v2) else (if ((σ 60 27) - (σ 60 28)) ≤ v3 then (f_X8_nameHere_106 σ k_2 v1 v2) else ((f_X8_byteAt σ ((σ 60 28) + v3)).bind (fun q1 => if inB v1 17 = true then (if inB ((σ 72 v1.toNatClampNeg) + v3) 72 = true then (if q1 = (σ 73 ((σ 72 v1.toNatClampNeg) + v3).toNatClampNeg) then (f_X8_nameHere_99 σ (fun v1 v2 v3 => f_X8_nameHere_51 σ k_2 n v1 v2 v3) v1 v3 (1 : Int32)) else (f_X8_nameHere_99 σ (fun v1 v2 v3 => f_X8_nameHere_51 σ k_2 n v1 v2 v3) v1 v3 (0 : Int32))) else none) else none)))
def f_X8_nameHere_48 (σ : ZI) (k_2 : Int32 → Option (Int32)) (v1 : Int32) (s0 : Int32) : Option (Int32) := f_X8_nameHere_51 σ k_2 3000 v1 s0 (0 : Int32)
def f_X8_nameHere_2 (σ : ZI)  : Nat → Int32 → Option (Int32)
  | 0, _ => none
  | n + 1, v1 => if (16 : Int32) ≤ v1 then (some (-4 : Int32)) else (if (σ 60 29) = (1 : Int32) then (if inB (v1 + (1 : Int32)) 17 = true then (if inB v1 17 = true then (if ((σ 60 27) - (σ 60 28)) = ((σ 72 (v1 + (1 : Int32)).toNatClampNeg) - (σ 72 v1.toNatClampNeg)) then (f_X8_nameHere_48 σ (fun v1 => f_X8_nameHere_2 σ n v1) v1 (1 : Int32)) else (f_X8_nameHere_48 σ (fun v1 => f_X8_nameHere_2 σ n v1) v1 (0 : Int32))) else none) else none) else (some (-4 : Int32)))
def f_X8_nameHere (σ : ZI) : Option (Int32) := f_X8_nameHere_2 σ 3000 (0 : Int32)
abbrev rm_X8_nameHere : Room := { frames := 1, cells := 0, slots := 0, locals := 21 }
set_option maxHeartbeats 4000000 in
set_option maxRecDepth 100000 in
theorem c_X8_nameHere (l : Launch) (g : GG) (σ : ZI) (τ : ZL)  (res : Int32) (h : f_X8_nameHere σ = some res) : MI l yX8_nameHere cX8_nameHere 4 (some .int) rm_X8_nameHere g [.ref (gA g 60)] σ τ (fun (r : Int32) (u : ZI × ZL) => r = res ∧ u.1 = σ ∧ u.2 = τ) := by
  refine Met_in (by decide) (Nat.le_of_ble_eq_true rfl) ?_
  intro p e s m args below meth c F G hP hr0 hk0 ls hl
  have hS := WS.start hP
  have hl : lv_has ls 4 [(0, .ref (gA g 60))] := hl
  obtain ⟨H, hH⟩ : ∃ H, H = s.heap := ⟨_, rfl⟩
  rw [← hH] at hS ⊢
  clear hH hP
  rw [f_X8_nameHere] at h
  have w_106 : ∀ (k_2 : Int32 → Option (Int32)) (hk_2 : ∀ (v1 : Int32), k_2 v1 = some res → ∀ (H : Heap) (locs : List Loc) (ls : Array Slot), WS g σ τ s H locs → lv_has ls 4 [(0, .ref (gA g 60)), (1, .int v1)] → W p l e rm_X8_nameHere s m args below meth c H locs 0 0 (MQ below (va_Qi (fun (r : Int32) (u : ZI × ZL) => r = res ∧ u.1 = σ ∧ u.2 = τ) (WQ g) (AA g)) args s 0 0 (AA g)) (F0 m 2 ls [])) (v1 : Int32) (v2 : Int32), f_X8_nameHere_106 σ k_2 v1 v2 = some res → ∀ (H : Heap) (locs : List Loc) (ls : Array Slot), WS g σ τ s H locs → lv_has ls 4 [(0, .ref (gA g 60)), (1, .int v1), (2, .int v2)] → W p l e rm_X8_nameHere s m args below meth c H locs 0 0 (MQ below (va_Qi (fun (r : Int32) (u : ZI × ZL) => r = res ∧ u.1 = σ ∧ u.2 = τ) (WQ g) (AA g)) args s 0 0 (AA g)) (F0 m 106 ls []) := by
    intro k_2 hk_2 v1 v2 h H locs ls hS hl
    rw [f_X8_nameHere_106] at h
    refine lv_iload_n F.1 F.2.1 dX8_nameHere_106 rfl (lv_at hl 2 rfl) ?_
    refine lv_if_eq (tgt := 112) F.1 F.2.1 dX8_nameHere_107 (by decide) (fun hc => ?_) (fun hc => ?_)
    rotate_left
    · replace h := ifF h hc
      refine lv_iload_n F.1 F.2.1 dX8_nameHere_110 rfl (lv_at hl 1 rfl) ?_
      exact e_i F hS ⟨Option.some.inj h, rfl, rfl⟩ hr0 dX8_nameHere_111 hk0
    replace h := ifT h hc
    refine lv_iinc (v := (v1 + (1 : Int32))) (lv' := [(1, .int (v1 + (1 : Int32))), (0, .ref (gA g 60)), (2, .int v2)]) F.1 F.2.1 dX8_nameHere_112 hl (k := 1) rfl rfl (by decide) rfl (fun ls hl => ?_)
    refine lv_goto (tgt := 2) F.1 F.2.1 dX8_nameHere_115 (by decide) ?_
    exact hk_2 (v1 + (1 : Int32)) h H locs _ hS (lv_sub hl [1, 0] rfl)
  have w_99 : ∀ (k_51 : Int32 → Int32 → Int32 → Option (Int32)) (hk_51 : ∀ (v1 : Int32) (v2 : Int32) (v3 : Int32), k_51 v1 v2 v3 = some res → ∀ (H : Heap) (locs : List Loc) (ls : Array Slot), WS g σ τ s H locs → lv_has ls 4 [(0, .ref (gA g 60)), (1, .int v1), (2, .int v2), (3, .int v3)] → W p l e rm_X8_nameHere s m args below meth c H locs 0 0 (MQ below (va_Qi (fun (r : Int32) (u : ZI × ZL) => r = res ∧ u.1 = σ ∧ u.2 = τ) (WQ g) (AA g)) args s 0 0 (AA g)) (F0 m 51 ls [])) (v1 : Int32) (v3 : Int32) (s0 : Int32), f_X8_nameHere_99 σ k_51 v1 v3 s0 = some res → ∀ (H : Heap) (locs : List Loc) (ls : Array Slot), WS g σ τ s H locs → lv_has ls 4 [(0, .ref (gA g 60)), (1, .int v1), (3, .int v3)] → W p l e rm_X8_nameHere s m args below meth c H locs 0 0 (MQ below (va_Qi (fun (r : Int32) (u : ZI × ZL) => r = res ∧ u.1 = σ ∧ u.2 = τ) (WQ g) (AA g)) args s 0 0 (AA g)) (F0 m 99 ls [.int s0]) := by
    intro k_51 hk_51 v1 v3 s0 h H locs ls hS hl
    rw [f_X8_nameHere_99] at h
    refine lv_istore_n (lv' := [(2, .int s0), (0, .ref (gA g 60)), (1, .int v1), (3, .int v3)]) F.1 F.2.1 dX8_nameHere_99 rfl hl (by decide) rfl (fun ls hl => ?_)
    refine lv_iinc (v := (v3 + (1 : Int32))) (lv' := [(3, .int (v3 + (1 : Int32))), (2, .int s0), (0, .ref (gA g 60)), (1, .int v1)]) F.1 F.2.1 dX8_nameHere_100 hl (k := 3) rfl rfl (by decide) rfl (fun ls hl => ?_)
    refine lv_goto (tgt := 51) F.1 F.2.1 dX8_nameHere_103 (by decide) ?_
    exact hk_51 v1 s0 (v3 + (1 : Int32)) h H locs _ hS (lv_sub hl [2, 3, 1, 0] rfl)
  have w_51 : ∀ (k_2 : Int32 → Option (Int32)) (hk_2 : ∀ (v1 : Int32), k_2 v1 = some res → ∀ (H : Heap) (locs : List Loc) (ls : Array Slot), WS g σ τ s H locs → lv_has ls 4 [(0, .ref (gA g 60)), (1, .int v1)] → W p l e rm_X8_nameHere s m args below meth c H locs 0 0 (MQ below (va_Qi (fun (r : Int32) (u : ZI × ZL) => r = res ∧ u.1 = σ ∧ u.2 = τ) (WQ g) (AA g)) args s 0 0 (AA g)) (F0 m 2 ls [])) (n : Nat) (v1 : Int32) (v2 : Int32) (v3 : Int32), f_X8_nameHere_51 σ k_2 n v1 v2 v3 = some res → ∀ (H : Heap) (locs : List Loc) (ls : Array Slot), WS g σ τ s H locs → lv_has ls 4 [(0, .ref (gA g 60)), (1, .int v1), (2, .int v2), (3, .int v3)] → W p l e rm_X8_nameHere s m args below meth c H locs 0 0 (MQ below (va_Qi (fun (r : Int32) (u : ZI × ZL) => r = res ∧ u.1 = σ ∧ u.2 = τ) (WQ g) (AA g)) args s 0 0 (AA g)) (F0 m 51 ls []) := by
    intro k_2 hk_2
    intro n
    induction n with
    | zero => intro v1 v2 v3 h; rw [f_X8_nameHere_51] at h; cases h
    | succ n ih =>
      intro v1 v2 v3 h H locs ls hS hl
      rw [f_X8_nameHere_51] at h
      refine lv_iload_n F.1 F.2.1 dX8_nameHere_51 rfl (lv_at hl 2 rfl) ?_
      refine lv_if_eq (tgt := 106) F.1 F.2.1 dX8_nameHere_52 (by decide) (fun hc => ?_) (fun hc => ?_)
      · replace h := ifT h hc
        exact w_106 _ hk_2 v1 v2 h H locs _ hS (lv_sub hl [0, 1, 2] rfl)
      replace h := ifF h hc
      refine lv_iload_n F.1 F.2.1 dX8_nameHere_55 rfl (lv_at hl 3 rfl) ?_
      refine lv_aload_n F.1 F.2.1 dX8_nameHere_56 rfl (lv_at hl 0 rfl) ?_
      refine gf_X8_90 F G hS dX8_nameHere_57 ?_
      refine lv_aload_n F.1 F.2.1 dX8_nameHere_60 rfl (lv_at hl 0 rfl) ?_
      refine gf_X8_81 F G hS dX8_nameHere_61 ?_
      refine lv_isub F.1 F.2.1 dX8_nameHere_64 ?_
      refine lv_icmp_ge (tgt := 106) F.1 F.2.1 dX8_nameHere_65 (by decide) (fun hc => ?_) (fun hc => ?_)
      · replace h := ifT h hc
        exact w_106 _ hk_2 v1 v2 h H locs _ hS (lv_sub hl [0, 1, 2] rfl)
      replace h := ifF h hc
      refine lv_aload_n F.1 F.2.1 dX8_nameHere_68 rfl (lv_at hl 0 rfl) ?_
      refine lv_aload_n F.1 F.2.1 dX8_nameHere_69 rfl (lv_at hl 0 rfl) ?_
      refine gf_X8_81 F G hS dX8_nameHere_70 ?_
      refine lv_iload_n F.1 F.2.1 dX8_nameHere_73 rfl (lv_at hl 3 rfl) ?_
      refine lv_iadd F.1 F.2.1 dX8_nameHere_74 ?_
      obtain ⟨q1, h_q1, h⟩ := bd h
      refine rVi F G hS hl.1 (c_X8_byteAt l g σ τ ((σ 60 28) + v3) q1 h_q1) lk_X8_93 ⟨rfl, rfl, Nat.le_of_ble_eq_true rfl, Nat.le_of_ble_eq_true rfl⟩ (rc_X8 G hS) rfl rfl (Nat.le_of_ble_eq_true rfl) dX8_nameHere_75 (kRi (fun H locs hS => ?_))
      refine lv_aload_n F.1 F.2.1 dX8_nameHere_78 rfl (lv_at hl 0 rfl) ?_
      refine gf_X8_50 F G hS dX8_nameHere_79 ?_
      refine lv_aload_n F.1 F.2.1 dX8_nameHere_82 rfl (lv_at hl 0 rfl) ?_
      refine gf_X8_47 F G hS dX8_nameHere_83 ?_
      refine lv_iload_n F.1 F.2.1 dX8_nameHere_86 rfl (lv_at hl 1 rfl) ?_
      obtain ⟨hin, h⟩ := gd h
      refine x_iald F G hS 72 rfl hin dX8_nameHere_87 ?_
      refine lv_iload_n F.1 F.2.1 dX8_nameHere_88 rfl (lv_at hl 3 rfl) ?_
      refine lv_iadd F.1 F.2.1 dX8_nameHere_89 ?_
      obtain ⟨hin, h⟩ := gd h
      refine x_iald F G hS 73 rfl hin dX8_nameHere_90 ?_
      refine lv_icmp_ne (tgt := 98) F.1 F.2.1 dX8_nameHere_91 (by decide) (fun hc => ?_) (fun hc => ?_)
      · replace h := ifF h hc
        refine lv_iconst (v := (0 : Int32)) F.1 F.2.1 dX8_nameHere_98 (by decide) ?_
        exact w_99 _ (fun v1 v2 v3 => ih v1 v2 v3) v1 v3 (0 : Int32) h H locs _ hS (lv_sub hl [0, 1, 3] rfl)
      replace h := ifT h hc
      refine lv_iconst (v := (1 : Int32)) F.1 F.2.1 dX8_nameHere_94 (by decide) ?_
      refine lv_goto (tgt := 99) F.1 F.2.1 dX8_nameHere_95 (by decide) ?_
      exact w_99 _ (fun v1 v2 v3 => ih v1 v2 v3) v1 v3 (1 : Int32) h H locs _ hS (lv_sub hl [0, 1, 3] rfl)
  have w_48 : ∀ (k_2 : Int32 → Option (Int32)) (hk_2 : ∀ (v1 : Int32), k_2 v1 = some res → ∀ (H : Heap) (locs : List Loc) (ls : Array Slot), WS g σ τ s H locs → lv_has ls 4 [(0, .ref (gA g 60)), (1, .int v1)] → W p l e rm_X8_nameHere s m args below meth c H locs 0 0 (MQ below (va_Qi (fun (r : Int32) (u : ZI × ZL) => r = res ∧ u.1 = σ ∧ u.2 = τ) (WQ g) (AA g)) args s 0 0 (AA g)) (F0 m 2 ls [])) (v1 : Int32) (s0 : Int32), f_X8_nameHere_48 σ k_2 v1 s0 = some res → ∀ (H : Heap) (locs : List Loc) (ls : Array Slot), WS g σ τ s H locs → lv_has ls 4 [(0, .ref (gA g 60)), (1, .int v1)] → W p l e rm_X8_nameHere s m args below meth c H locs 0 0 (MQ below (va_Qi (fun (r : Int32) (u : ZI × ZL) => r = res ∧ u.1 = σ ∧ u.2 = τ) (WQ g) (AA g)) args s 0 0 (AA g)) (F0 m 48 ls [.int s0]) := by
    intro k_2 hk_2 v1 s0 h H locs ls hS hl
    rw [f_X8_nameHere_48] at h
    refine lv_istore_n (lv' := [(2, .int s0), (0, .ref (gA g 60)), (1, .int v1)]) F.1 F.2.1 dX8_nameHere_48 rfl hl (by decide) rfl (fun ls hl => ?_)
    refine lv_iconst (v := (0 : Int32)) F.1 F.2.1 dX8_nameHere_49 (by decide) ?_
    refine lv_istore_n (lv' := [(3, .int (0 : Int32)), (2, .int s0), (0, .ref (gA g 60)), (1, .int v1)]) F.1 F.2.1 dX8_nameHere_50 rfl hl (by decide) rfl (fun ls hl => ?_)
    exact w_51 _ hk_2 3000 v1 s0 (0 : Int32) h H locs _ hS (lv_sub hl [2, 3, 1, 0] rfl)
  have w_2 : ∀ (n : Nat) (v1 : Int32), f_X8_nameHere_2 σ n v1 = some res → ∀ (H : Heap) (locs : List Loc) (ls : Array Slot), WS g σ τ s H locs → lv_has ls 4 [(0, .ref (gA g 60)), (1, .int v1)] → W p l e rm_X8_nameHere s m args below meth c H locs 0 0 (MQ below (va_Qi (fun (r : Int32) (u : ZI × ZL) => r = res ∧ u.1 = σ ∧ u.2 = τ) (WQ g) (AA g)) args s 0 0 (AA g)) (F0 m 2 ls []) := by
    intro n
    induction n with
    | zero => intro v1 h; rw [f_X8_nameHere_2] at h; cases h
    | succ n ih =>
      intro v1 h H locs ls hS hl
      rw [f_X8_nameHere_2] at h
      refine lv_iload_n F.1 F.2.1 dX8_nameHere_2 rfl (lv_at hl 1 rfl) ?_
      refine lv_bipush (v := (16 : Int32)) F.1 F.2.1 dX8_nameHere_3 (by decide) ?_
      refine lv_icmp_ge (tgt := 118) F.1 F.2.1 dX8_nameHere_5 (by decide) (fun hc => ?_) (fun hc => ?_)
      · replace h := ifT h hc
        refine lv_bipush (v := (-4 : Int32)) F.1 F.2.1 dX8_nameHere_118 (by decide) ?_
        exact e_i F hS ⟨Option.some.inj h, rfl, rfl⟩ hr0 dX8_nameHere_120 hk0
      replace h := ifF h hc
      refine lv_aload_n F.1 F.2.1 dX8_nameHere_8 rfl (lv_at hl 0 rfl) ?_
      refine gf_X8_87 F G hS dX8_nameHere_9 ?_
      refine lv_iconst (v := (1 : Int32)) F.1 F.2.1 dX8_nameHere_12 (by decide) ?_
      refine lv_icmp_ne (tgt := 118) F.1 F.2.1 dX8_nameHere_13 (by decide) (fun hc => ?_) (fun hc => ?_)
      · replace h := ifF h hc
        refine lv_bipush (v := (-4 : Int32)) F.1 F.2.1 dX8_nameHere_118 (by decide) ?_
        exact e_i F hS ⟨Option.some.inj h, rfl, rfl⟩ hr0 dX8_nameHere_120 hk0
      replace h := ifT h hc
      refine lv_aload_n F.1 F.2.1 dX8_nameHere_16 rfl (lv_at hl 0 rfl) ?_
      refine gf_X8_90 F G hS dX8_nameHere_17 ?_
      refine lv_aload_n F.1 F.2.1 dX8_nameHere_20 rfl (lv_at hl 0 rfl) ?_
      refine gf_X8_81 F G hS dX8_nameHere_21 ?_
      refine lv_isub F.1 F.2.1 dX8_nameHere_24 ?_
      refine lv_aload_n F.1 F.2.1 dX8_nameHere_25 rfl (lv_at hl 0 rfl) ?_
      refine gf_X8_47 F G hS dX8_nameHere_26 ?_
      refine lv_iload_n F.1 F.2.1 dX8_nameHere_29 rfl (lv_at hl 1 rfl) ?_
      refine lv_iconst (v := (1 : Int32)) F.1 F.2.1 dX8_nameHere_30 (by decide) ?_
      refine lv_iadd F.1 F.2.1 dX8_nameHere_31 ?_
      obtain ⟨hin, h⟩ := gd h
      refine x_iald F G hS 72 rfl hin dX8_nameHere_32 ?_
      refine lv_aload_n F.1 F.2.1 dX8_nameHere_33 rfl (lv_at hl 0 rfl) ?_
      refine gf_X8_47 F G hS dX8_nameHere_34 ?_
      refine lv_iload_n F.1 F.2.1 dX8_nameHere_37 rfl (lv_at hl 1 rfl) ?_
      obtain ⟨hin, h⟩ := gd h
      refine x_iald F G hS 72 rfl hin dX8_nameHere_38 ?_
      refine lv_isub F.1 F.2.1 dX8_nameHere_39 ?_
      refine lv_icmp_ne (tgt := 47) F.1 F.2.1 dX8_nameHere_40 (by decide) (fun hc => ?_) (fun hc => ?_)
      · replace h := ifF h hc
        refine lv_iconst (v := (0 : Int32)) F.1 F.2.1 dX8_nameHere_47 (by decide) ?_
        exact w_48 _ (fun v1 => ih v1) v1 (0 : Int32) h H locs _ hS (lv_sub hl [0, 1] rfl)
      replace h := ifT h hc
      refine lv_iconst (v := (1 : Int32)) F.1 F.2.1 dX8_nameHere_43 (by decide) ?_
      refine lv_goto (tgt := 48) F.1 F.2.1 dX8_nameHere_44 (by decide) ?_
      exact w_48 _ (fun v1 => ih v1) v1 (1 : Int32) h H locs _ hS (lv_sub hl [0, 1] rfl)
  obtain ⟨locs, hlo⟩ : ∃ z : List Loc, z = [] := ⟨_, rfl⟩
  rw [← hlo] at hS ⊢
  clear hlo
  refine lv_iconst (v := (0 : Int32)) F.1 F.2.1 dX8_nameHere_0 (by decide) ?_
  refine lv_istore_n (lv' := [(1, .int (0 : Int32)), (0, .ref (gA g 60))]) F.1 F.2.1 dX8_nameHere_1 rfl hl (by decide) rfl (fun ls hl => ?_)
  exact w_2 3000 (0 : Int32) h H locs _ hS (lv_sub hl [1, 0] rfl)
def f_X8_step_201  (k_140 : ZI → Option (ZI)) (σ : ZI) (s0 : Int32) : Option (ZI) := lt_ (va_up σ 60 (upd (σ 60) 30 s0)) (fun σ14 => lt_ (va_up σ14 60 (upd (σ14 60) 27 ((σ14 60 27) + (1 : Int32)))) (fun σ15 => k_140 σ15))
def f_X8_step_140   : Nat → ZI → Option (ZI)
  | 0, _ => none
  | n + 1, σ => (f_X8_byteAt σ (σ 60 27)).bind (fun q10 => (f_X8_in q10.toInt64 (48 : Int64) (57 : Int64)).bind (fun q11 => if q11 = 0 then (lt_ (va_up σ 60 (upd (σ 60) 29 (2 : Int32))) (fun σ12 => if ((σ12 60 27) - (σ12 60 28)) ≤ (2 : Int32) then (some σ12) else ((f_X8_fails σ12 (1 : Int32)).bind (fun q13 => some q13)))) else (if (2 : Int32) ≤ ((σ 60 27) - (σ 60 28)) then (f_X8_step_201 (fun σ => f_X8_step_140 n σ) σ (σ 60 30)) else ((f_X8_byteAt σ (σ 60 27)).bind (fun q16 => f_X8_step_201 (fun σ => f_X8_step_140 n σ) σ ((((10 : Int32) * (σ 60 30)) + q16) - (48 : Int32)))))))
def f_X8_step_84   : Nat → ZI → Option (ZI)
  | 0, _ => none
  | n + 1, σ => (f_X8_byteAt σ (σ 60 27)).bind (fun q17 => (f_X8_in q17.toInt64 (97 : Int64) (122 : Int64)).bind (fun q18 => if q18 = 0 then (lt_ (va_up σ 60 (upd (σ 60) 29 (1 : Int32))) (fun σ19 => some σ19)) else (lt_ (va_up σ 60 (upd (σ 60) 27 ((σ 60 27) + (1 : Int32)))) (fun σ20 => f_X8_step_84 n σ20))))
def f_X8_step_8   : Nat → ZI → Option (ZI)
  | 0, _ => none
  | n + 1, σ => (f_X8_byteAt σ (σ 60 27)).bind (fun q1 => if q1 = (32 : Int32) then (lt_ (va_up σ 60 (upd (σ 60) 27 ((σ 60 27) + (1 : Int32)))) (fun σ22 => f_X8_step_8 n σ22)) else (lt_ (va_up σ 60 (upd (σ 60) 28 (σ 60 27))) (fun σ2 => (f_X8_byteAt σ2 (σ2 60 27)).bind (fun q3 => lt_ (va_up σ2 60 (upd (σ2 60) 30 (0 : Int32))) (fun σ4 => if q3 = (-4 : Int32) then (lt_ (va_up σ4 60 (upd (σ4 60) 29 (0 : Int32))) (fun σ21 => some σ21)) else ((f_X8_in q3.toInt64 (97 : Int64) (122 : Int64)).bind (fun q5 => if q5 = 0 then ((f_X8_in q3.toInt64 (48 : Int64) (57 : Int64)).bind (fun q6 => if q6 = 0 then (lt_ (va_up σ4 60 (upd (σ4 60) 29 (3 : Int32))) (fun σ7 => lt_ (va_up σ7 60 (upd (σ7 60) 27 ((σ7 60 27) + (1 : Int32)))) (fun σ8 => if q3 = (59 : Int32) then (some σ8) else ((f_X8_fails σ8 (1 : Int32)).bind (fun q9 => some q9))))) else (f_X8_step_140 3000 σ4))) else (f_X8_step_84 3000 σ4))))))))
def f_X8_step (σ : ZI) : Option (ZI) := if (σ 60 25) ≤ 0 then (f_X8_step_8 3000 σ) else (some σ)
abbrev rm_X8_step : Room := { frames := 1, cells := 0, slots := 0, locals := 25 }
set_option maxHeartbeats 4000000 in
set_option maxRecDepth 100000 in
theorem c_X8_step (l : Launch) (g : GG) (σ : ZI) (τ : ZL)  (res : ZI) (h : f_X8_step σ = some res) : MV l yX8_step cX8_step 2 none rm_X8_step g [.ref (gA g 60)] σ τ (fun (u : ZI × ZL) => u.1 = res ∧ u.2 = τ) := by
  refine Met_in (by decide) (Nat.le_of_ble_eq_true rfl) ?_
  intro p e s m args below meth c F G hP hr0 hk0 ls hl
  have hS := WS.start hP
  have hl : lv_has ls 2 [(0, .ref (gA g 60))] := hl
  obtain ⟨H, hH⟩ : ∃ H, H = s.heap := ⟨_, rfl⟩
  rw [← hH] at hS ⊢
  clear hH hP
  rw [f_X8_step] at h
  have w_201 : ∀ (k_140 : ZI → Option (ZI)) (hk_140 : ∀ (σ : ZI), k_140 σ = some res → ∀ (H : Heap) (locs : List Loc) (ls : Array Slot), WS g σ τ s H locs → lv_has ls 2 [(0, .ref (gA g 60))] → W p l e rm_X8_step s m args below meth c H locs 0 0 (MQ below (va_Qv (fun (u : ZI × ZL) => u.1 = res ∧ u.2 = τ) (WQ g) (AA g)) args s 0 0 (AA g)) (F0 m 140 ls [])) (σ : ZI) (s0 : Int32), f_X8_step_201 k_140 σ s0 = some res → ∀ (H : Heap) (locs : List Loc) (ls : Array Slot), WS g σ τ s H locs → lv_has ls 2 [(0, .ref (gA g 60))] → W p l e rm_X8_step s m args below meth c H locs 0 0 (MQ below (va_Qv (fun (u : ZI × ZL) => u.1 = res ∧ u.2 = τ) (WQ g) (AA g)) args s 0 0 (AA g)) (F0 m 201 ls [.int s0, .ref (gA g 60)]) := by
    intro k_140 hk_140 σ s0 h H locs ls hS hl
    rw [f_X8_step_201] at h
    refine pf_X8_97 F G hS dX8_step_201 (fun H locs hS => ?_)
    obtain ⟨σ14, e_σ14, h⟩ := ltE h
    rw [← e_σ14] at hS
    clear e_σ14
    refine lv_aload_n F.1 F.2.1 dX8_step_204 rfl (lv_at hl 0 rfl) ?_
    refine lv_dup F.1 F.2.1 dX8_step_205 rfl ?_
    refine gf_X8_90 F G hS dX8_step_206 ?_
    refine lv_iconst (v := (1 : Int32)) F.1 F.2.1 dX8_step_209 (by decide) ?_
    refine lv_iadd F.1 F.2.1 dX8_step_210 ?_
    refine pf_X8_90 F G hS dX8_step_211 (fun H locs hS => ?_)
    obtain ⟨σ15, e_σ15, h⟩ := ltE h
    rw [← e_σ15] at hS
    clear e_σ15
    refine lv_goto (tgt := 140) F.1 F.2.1 dX8_step_214 (by decide) ?_
    exact hk_140 σ15 h H locs _ hS (lv_sub hl [0] rfl)
  have w_140 : ∀ (n : Nat) (σ : ZI), f_X8_step_140 n σ = some res → ∀ (H : Heap) (locs : List Loc) (ls : Array Slot), WS g σ τ s H locs → lv_has ls 2 [(0, .ref (gA g 60))] → W p l e rm_X8_step s m args below meth c H locs 0 0 (MQ below (va_Qv (fun (u : ZI × ZL) => u.1 = res ∧ u.2 = τ) (WQ g) (AA g)) args s 0 0 (AA g)) (F0 m 140 ls []) := by
    intro n
    induction n with
    | zero => intro σ h; rw [f_X8_step_140] at h; cases h
    | succ n ih =>
      intro σ h H locs ls hS hl
      rw [f_X8_step_140] at h
      refine lv_aload_n F.1 F.2.1 dX8_step_140 rfl (lv_at hl 0 rfl) ?_
      refine lv_aload_n F.1 F.2.1 dX8_step_141 rfl (lv_at hl 0 rfl) ?_
      refine gf_X8_90 F G hS dX8_step_142 ?_
      obtain ⟨q10, h_q10, h⟩ := bd h
      refine rVi F G hS hl.1 (c_X8_byteAt l g σ τ (σ 60 27) q10 h_q10) lk_X8_93 ⟨rfl, rfl, Nat.le_of_ble_eq_true rfl, Nat.le_of_ble_eq_true rfl⟩ (rc_X8 G hS) rfl rfl (Nat.le_of_ble_eq_true rfl) dX8_step_145 (kRi (fun H locs hS => ?_))
      refine lv_i2l F.1 F.2.1 dX8_step_148 rfl ?_
      refine lv_ldc2 (v := (48 : Int64)) F.1 F.2.1 F.2.2.2.1 (F.2.2.2.2 _ tb_1207) dX8_step_149 ?_
      refine lv_ldc2 (v := (57 : Int64)) F.1 F.2.1 F.2.2.2.1 (F.2.2.2.2 _ tb_1208) dX8_step_152 ?_
      obtain ⟨q11, h_q11, h⟩ := bd h
      refine rSi F G hS hl.1 (c_X8_in l g σ τ q10.toInt64 (48 : Int64) (57 : Int64) q11 h_q11) lk_X8_71 ⟨rfl, rfl, Nat.le_of_ble_eq_true rfl, Nat.le_of_ble_eq_true rfl⟩  rfl rfl (Nat.le_of_ble_eq_true rfl) dX8_step_155 (kRi (fun H locs hS => ?_))
      refine lv_if_eq (tgt := 217) F.1 F.2.1 dX8_step_158 (by decide) (fun hc => ?_) (fun hc => ?_)
      · replace h := ifT h hc
        refine lv_aload_n F.1 F.2.1 dX8_step_217 rfl (lv_at hl 0 rfl) ?_
        refine lv_iconst (v := (2 : Int32)) F.1 F.2.1 dX8_step_218 (by decide) ?_
        refine pf_X8_87 F G hS dX8_step_219 (fun H locs hS => ?_)
        obtain ⟨σ12, e_σ12, h⟩ := ltE h
        rw [← e_σ12] at hS
        clear e_σ12
        refine lv_aload_n F.1 F.2.1 dX8_step_222 rfl (lv_at hl 0 rfl) ?_
        refine gf_X8_90 F G hS dX8_step_223 ?_
        refine lv_aload_n F.1 F.2.1 dX8_step_226 rfl (lv_at hl 0 rfl) ?_
        refine gf_X8_81 F G hS dX8_step_227 ?_
        refine lv_isub F.1 F.2.1 dX8_step_230 ?_
        refine lv_iconst (v := (2 : Int32)) F.1 F.2.1 dX8_step_231 (by decide) ?_
        refine lv_icmp_le (tgt := 269) F.1 F.2.1 dX8_step_232 (by decide) (fun hc => ?_) (fun hc => ?_)
        · replace h := ifT h hc
          exact e_v F hS ⟨Option.some.inj h, rfl⟩ hr0 dX8_step_269 hk0
        replace h := ifF h hc
        refine lv_aload_n F.1 F.2.1 dX8_step_235 rfl (lv_at hl 0 rfl) ?_
        refine lv_iconst (v := (1 : Int32)) F.1 F.2.1 dX8_step_236 (by decide) ?_
        obtain ⟨q13, h_q13, h⟩ := bd h
        refine rVv F G hS hl.1 (c_X8_fails l g σ12 τ (1 : Int32) q13 h_q13) lk_X8_108 ⟨rfl, rfl, Nat.le_of_ble_eq_true rfl, Nat.le_of_ble_eq_true rfl⟩ (rc_X8 G hS) rfl rfl (Nat.le_of_ble_eq_true rfl) dX8_step_237 (kIv (fun H locs hS => ?_))
        refine lv_goto (tgt := 269) F.1 F.2.1 dX8_step_240 (by decide) ?_
        exact e_v F hS ⟨Option.some.inj h, rfl⟩ hr0 dX8_step_269 hk0
      replace h := ifF h hc
      refine lv_aload_n F.1 F.2.1 dX8_step_161 rfl (lv_at hl 0 rfl) ?_
      refine lv_aload_n F.1 F.2.1 dX8_step_162 rfl (lv_at hl 0 rfl) ?_
      refine gf_X8_90 F G hS dX8_step_163 ?_
      refine lv_aload_n F.1 F.2.1 dX8_step_166 rfl (lv_at hl 0 rfl) ?_
      refine gf_X8_81 F G hS dX8_step_167 ?_
      refine lv_isub F.1 F.2.1 dX8_step_170 ?_
      refine lv_iconst (v := (2 : Int32)) F.1 F.2.1 dX8_step_171 (by decide) ?_
      refine lv_icmp_ge (tgt := 197) F.1 F.2.1 dX8_step_172 (by decide) (fun hc => ?_) (fun hc => ?_)
      · replace h := ifT h hc
        refine lv_aload_n F.1 F.2.1 dX8_step_197 rfl (lv_at hl 0 rfl) ?_
        refine gf_X8_97 F G hS dX8_step_198 ?_
        exact w_201 _ (fun σ => ih σ) σ (σ 60 30) h H locs _ hS (lv_sub hl [0] rfl)
      replace h := ifF h hc
      refine lv_bipush (v := (10 : Int32)) F.1 F.2.1 dX8_step_175 (by decide) ?_
      refine lv_aload_n F.1 F.2.1 dX8_step_177 rfl (lv_at hl 0 rfl) ?_
      refine gf_X8_97 F G hS dX8_step_178 ?_
      refine lv_imul F.1 F.2.1 dX8_step_181 ?_
      refine lv_aload_n F.1 F.2.1 dX8_step_182 rfl (lv_at hl 0 rfl) ?_
      refine lv_aload_n F.1 F.2.1 dX8_step_183 rfl (lv_at hl 0 rfl) ?_
      refine gf_X8_90 F G hS dX8_step_184 ?_
      obtain ⟨q16, h_q16, h⟩ := bd h
      refine rVi F G hS hl.1 (c_X8_byteAt l g σ τ (σ 60 27) q16 h_q16) lk_X8_93 ⟨rfl, rfl, Nat.le_of_ble_eq_true rfl, Nat.le_of_ble_eq_true rfl⟩ (rc_X8 G hS) rfl rfl (Nat.le_of_ble_eq_true rfl) dX8_step_187 (kRi (fun H locs hS => ?_))
      refine lv_iadd F.1 F.2.1 dX8_step_190 ?_
      refine lv_bipush (v := (48 : Int32)) F.1 F.2.1 dX8_step_191 (by decide) ?_
      refine lv_isub F.1 F.2.1 dX8_step_193 ?_
      refine lv_goto (tgt := 201) F.1 F.2.1 dX8_step_194 (by decide) ?_
      exact w_201 _ (fun σ => ih σ) σ ((((10 : Int32) * (σ 60 30)) + q16) - (48 : Int32)) h H locs _ hS (lv_sub hl [0] rfl)
  have w_84 : ∀ (n : Nat) (σ : ZI), f_X8_step_84 n σ = some res → ∀ (H : Heap) (locs : List Loc) (ls : Array Slot), WS g σ τ s H locs → lv_has ls 2 [(0, .ref (gA g 60))] → W p l e rm_X8_step s m args below meth c H locs 0 0 (MQ below (va_Qv (fun (u : ZI × ZL) => u.1 = res ∧ u.2 = τ) (WQ g) (AA g)) args s 0 0 (AA g)) (F0 m 84 ls []) := by
    intro n
    induction n with
    | zero => intro σ h; rw [f_X8_step_84] at h; cases h
    | succ n ih =>
      intro σ h H locs ls hS hl
      rw [f_X8_step_84] at h
      refine lv_aload_n F.1 F.2.1 dX8_step_84 rfl (lv_at hl 0 rfl) ?_
      refine lv_aload_n F.1 F.2.1 dX8_step_85 rfl (lv_at hl 0 rfl) ?_
      refine gf_X8_90 F G hS dX8_step_86 ?_
      obtain ⟨q17, h_q17, h⟩ := bd h
      refine rVi F G hS hl.1 (c_X8_byteAt l g σ τ (σ 60 27) q17 h_q17) lk_X8_93 ⟨rfl, rfl, Nat.le_of_ble_eq_true rfl, Nat.le_of_ble_eq_true rfl⟩ (rc_X8 G hS) rfl rfl (Nat.le_of_ble_eq_true rfl) dX8_step_89 (kRi (fun H locs hS => ?_))
      refine lv_i2l F.1 F.2.1 dX8_step_92 rfl ?_
      refine lv_ldc2 (v := (97 : Int64)) F.1 F.2.1 F.2.2.2.1 (F.2.2.2.2 _ tb_1205) dX8_step_93 ?_
      refine lv_ldc2 (v := (122 : Int64)) F.1 F.2.1 F.2.2.2.1 (F.2.2.2.2 _ tb_1206) dX8_step_96 ?_
      obtain ⟨q18, h_q18, h⟩ := bd h
      refine rSi F G hS hl.1 (c_X8_in l g σ τ q17.toInt64 (97 : Int64) (122 : Int64) q18 h_q18) lk_X8_71 ⟨rfl, rfl, Nat.le_of_ble_eq_true rfl, Nat.le_of_ble_eq_true rfl⟩  rfl rfl (Nat.le_of_ble_eq_true rfl) dX8_step_99 (kRi (fun H locs hS => ?_))
      refine lv_if_eq (tgt := 118) F.1 F.2.1 dX8_step_102 (by decide) (fun hc => ?_) (fun hc => ?_)
      · replace h := ifT h hc
        refine lv_aload_n F.1 F.2.1 dX8_step_118 rfl (lv_at hl 0 rfl) ?_
        refine lv_iconst (v := (1 : Int32)) F.1 F.2.1 dX8_step_119 (by decide) ?_
        refine pf_X8_87 F G hS dX8_step_120 (fun H locs hS => ?_)
        obtain ⟨σ19, e_σ19, h⟩ := ltE h
        rw [← e_σ19] at hS
        clear e_σ19
        refine lv_goto (tgt := 269) F.1 F.2.1 dX8_step_123 (by decide) ?_
        exact e_v F hS ⟨Option.some.inj h, rfl⟩ hr0 dX8_step_269 hk0
      replace h := ifF h hc
      refine lv_aload_n F.1 F.2.1 dX8_step_105 rfl (lv_at hl 0 rfl) ?_
      refine lv_dup F.1 F.2.1 dX8_step_106 rfl ?_
      refine gf_X8_90 F G hS dX8_step_107 ?_
      refine lv_iconst (v := (1 : Int32)) F.1 F.2.1 dX8_step_110 (by decide) ?_
      refine lv_iadd F.1 F.2.1 dX8_step_111 ?_
      refine pf_X8_90 F G hS dX8_step_112 (fun H locs hS => ?_)
      obtain ⟨σ20, e_σ20, h⟩ := ltE h
      rw [← e_σ20] at hS
      clear e_σ20
      refine lv_goto (tgt := 84) F.1 F.2.1 dX8_step_115 (by decide) ?_
      exact ih σ20 h H locs _ hS (lv_sub hl [0] rfl)
  have w_8 : ∀ (n : Nat) (σ : ZI), f_X8_step_8 n σ = some res → ∀ (H : Heap) (locs : List Loc) (ls : Array Slot), WS g σ τ s H locs → lv_has ls 2 [(0, .ref (gA g 60))] → W p l e rm_X8_step s m args below meth c H locs 0 0 (MQ below (va_Qv (fun (u : ZI × ZL) => u.1 = res ∧ u.2 = τ) (WQ g) (AA g)) args s 0 0 (AA g)) (F0 m 8 ls []) := by
    intro n
    induction n with
    | zero => intro σ h; rw [f_X8_step_8] at h; cases h
    | succ n ih =>
      intro σ h H locs ls hS hl
      rw [f_X8_step_8] at h
      refine lv_aload_n F.1 F.2.1 dX8_step_8 rfl (lv_at hl 0 rfl) ?_
      refine lv_aload_n F.1 F.2.1 dX8_step_9 rfl (lv_at hl 0 rfl) ?_
      refine gf_X8_90 F G hS dX8_step_10 ?_
      obtain ⟨q1, h_q1, h⟩ := bd h
      refine rVi F G hS hl.1 (c_X8_byteAt l g σ τ (σ 60 27) q1 h_q1) lk_X8_93 ⟨rfl, rfl, Nat.le_of_ble_eq_true rfl, Nat.le_of_ble_eq_true rfl⟩ (rc_X8 G hS) rfl rfl (Nat.le_of_ble_eq_true rfl) dX8_step_13 (kRi (fun H locs hS => ?_))
      refine lv_bipush (v := (32 : Int32)) F.1 F.2.1 dX8_step_16 (by decide) ?_
      refine lv_icmp_ne (tgt := 34) F.1 F.2.1 dX8_step_18 (by decide) (fun hc => ?_) (fun hc => ?_)
      rotate_left
      · replace h := ifT h hc
        refine lv_aload_n F.1 F.2.1 dX8_step_21 rfl (lv_at hl 0 rfl) ?_
        refine lv_dup F.1 F.2.1 dX8_step_22 rfl ?_
        refine gf_X8_90 F G hS dX8_step_23 ?_
        refine lv_iconst (v := (1 : Int32)) F.1 F.2.1 dX8_step_26 (by decide) ?_
        refine lv_iadd F.1 F.2.1 dX8_step_27 ?_
        refine pf_X8_90 F G hS dX8_step_28 (fun H locs hS => ?_)
        obtain ⟨σ22, e_σ22, h⟩ := ltE h
        rw [← e_σ22] at hS
        clear e_σ22
        refine lv_goto (tgt := 8) F.1 F.2.1 dX8_step_31 (by decide) ?_
        exact ih σ22 h H locs _ hS (lv_sub hl [0] rfl)
      replace h := ifF h hc
      refine lv_aload_n F.1 F.2.1 dX8_step_34 rfl (lv_at hl 0 rfl) ?_
      refine lv_aload_n F.1 F.2.1 dX8_step_35 rfl (lv_at hl 0 rfl) ?_
      refine gf_X8_90 F G hS dX8_step_36 ?_
      refine pf_X8_81 F G hS dX8_step_39 (fun H locs hS => ?_)
      obtain ⟨σ2, e_σ2, h⟩ := ltE h
      rw [← e_σ2] at hS
      clear e_σ2
      refine lv_aload_n F.1 F.2.1 dX8_step_42 rfl (lv_at hl 0 rfl) ?_
      refine lv_aload_n F.1 F.2.1 dX8_step_43 rfl (lv_at hl 0 rfl) ?_
      refine gf_X8_90 F G hS dX8_step_44 ?_
      obtain ⟨q3, h_q3, h⟩ := bd h
      refine rVi F G hS hl.1 (c_X8_byteAt l g σ2 τ (σ2 60 27) q3 h_q3) lk_X8_93 ⟨rfl, rfl, Nat.le_of_ble_eq_true rfl, Nat.le_of_ble_eq_true rfl⟩ (rc_X8 G hS) rfl rfl (Nat.le_of_ble_eq_true rfl) dX8_step_47 (kRi (fun H locs hS => ?_))
      refine lv_istore_n (lv' := [(1, .int q3), (0, .ref (gA g 60))]) F.1 F.2.1 dX8_step_50 rfl hl (by decide) rfl (fun ls hl => ?_)
      refine lv_aload_n F.1 F.2.1 dX8_step_51 rfl (lv_at hl 1 rfl) ?_
      refine lv_iconst (v := (0 : Int32)) F.1 F.2.1 dX8_step_52 (by decide) ?_
      refine pf_X8_97 F G hS dX8_step_53 (fun H locs hS => ?_)
      obtain ⟨σ4, e_σ4, h⟩ := ltE h
      rw [← e_σ4] at hS
      clear e_σ4
      refine lv_iload_n F.1 F.2.1 dX8_step_56 rfl (lv_at hl 0 rfl) ?_
      refine lv_bipush (v := (-4 : Int32)) F.1 F.2.1 dX8_step_57 (by decide) ?_
      refine lv_icmp_ne (tgt := 70) F.1 F.2.1 dX8_step_59 (by decide) (fun hc => ?_) (fun hc => ?_)
      rotate_left
      · replace h := ifT h hc
        refine lv_aload_n F.1 F.2.1 dX8_step_62 rfl (lv_at hl 1 rfl) ?_
        refine lv_iconst (v := (0 : Int32)) F.1 F.2.1 dX8_step_63 (by decide) ?_
        refine pf_X8_87 F G hS dX8_step_64 (fun H locs hS => ?_)
        obtain ⟨σ21, e_σ21, h⟩ := ltE h
        rw [← e_σ21] at hS
        clear e_σ21
        refine lv_goto (tgt := 269) F.1 F.2.1 dX8_step_67 (by decide) ?_
        exact e_v F hS ⟨Option.some.inj h, rfl⟩ hr0 dX8_step_269 hk0
      replace h := ifF h hc
      refine lv_iload_n F.1 F.2.1 dX8_step_70 rfl (lv_at hl 0 rfl) ?_
      refine lv_i2l F.1 F.2.1 dX8_step_71 rfl ?_
      refine lv_ldc2 (v := (97 : Int64)) F.1 F.2.1 F.2.2.2.1 (F.2.2.2.2 _ tb_1205) dX8_step_72 ?_
      refine lv_ldc2 (v := (122 : Int64)) F.1 F.2.1 F.2.2.2.1 (F.2.2.2.2 _ tb_1206) dX8_step_75 ?_
      obtain ⟨q5, h_q5, h⟩ := bd h
      refine rSi F G hS hl.1 (c_X8_in l g σ4 τ q3.toInt64 (97 : Int64) (122 : Int64) q5 h_q5) lk_X8_71 ⟨rfl, rfl, Nat.le_of_ble_eq_true rfl, Nat.le_of_ble_eq_true rfl⟩  rfl rfl (Nat.le_of_ble_eq_true rfl) dX8_step_78 (kRi (fun H locs hS => ?_))
      refine lv_if_eq (tgt := 126) F.1 F.2.1 dX8_step_81 (by decide) (fun hc => ?_) (fun hc => ?_)
      rotate_left
      · replace h := ifF h hc
        exact w_84 3000 σ4 h H locs _ hS (lv_sub hl [1] rfl)
      replace h := ifT h hc
      refine lv_iload_n F.1 F.2.1 dX8_step_126 rfl (lv_at hl 0 rfl) ?_
      refine lv_i2l F.1 F.2.1 dX8_step_127 rfl ?_
      refine lv_ldc2 (v := (48 : Int64)) F.1 F.2.1 F.2.2.2.1 (F.2.2.2.2 _ tb_1207) dX8_step_128 ?_
      refine lv_ldc2 (v := (57 : Int64)) F.1 F.2.1 F.2.2.2.1 (F.2.2.2.2 _ tb_1208) dX8_step_131 ?_
      obtain ⟨q6, h_q6, h⟩ := bd h
      refine rSi F G hS hl.1 (c_X8_in l g σ4 τ q3.toInt64 (48 : Int64) (57 : Int64) q6 h_q6) lk_X8_71 ⟨rfl, rfl, Nat.le_of_ble_eq_true rfl, Nat.le_of_ble_eq_true rfl⟩  rfl rfl (Nat.le_of_ble_eq_true rfl) dX8_step_134 (kRi (fun H locs hS => ?_))
      refine lv_if_eq (tgt := 243) F.1 F.2.1 dX8_step_137 (by decide) (fun hc => ?_) (fun hc => ?_)
      rotate_left
      · replace h := ifF h hc
        exact w_140 3000 σ4 h H locs _ hS (lv_sub hl [1] rfl)
      replace h := ifT h hc
      refine lv_aload_n F.1 F.2.1 dX8_step_243 rfl (lv_at hl 1 rfl) ?_
      refine lv_iconst (v := (3 : Int32)) F.1 F.2.1 dX8_step_244 (by decide) ?_
      refine pf_X8_87 F G hS dX8_step_245 (fun H locs hS => ?_)
      obtain ⟨σ7, e_σ7, h⟩ := ltE h
      rw [← e_σ7] at hS
      clear e_σ7
      refine lv_aload_n F.1 F.2.1 dX8_step_248 rfl (lv_at hl 1 rfl) ?_
      refine lv_dup F.1 F.2.1 dX8_step_249 rfl ?_
      refine gf_X8_90 F G hS dX8_step_250 ?_
      refine lv_iconst (v := (1 : Int32)) F.1 F.2.1 dX8_step_253 (by decide) ?_
      refine lv_iadd F.1 F.2.1 dX8_step_254 ?_
      refine pf_X8_90 F G hS dX8_step_255 (fun H locs hS => ?_)
      obtain ⟨σ8, e_σ8, h⟩ := ltE h
      rw [← e_σ8] at hS
      clear e_σ8
      refine lv_iload_n F.1 F.2.1 dX8_step_258 rfl (lv_at hl 0 rfl) ?_
      refine lv_bipush (v := (59 : Int32)) F.1 F.2.1 dX8_step_259 (by decide) ?_
      refine lv_icmp_eq (tgt := 269) F.1 F.2.1 dX8_step_261 (by decide) (fun hc => ?_) (fun hc => ?_)
      · replace h := ifT h hc
        exact e_v F hS ⟨Option.some.inj h, rfl⟩ hr0 dX8_step_269 hk0
      replace h := ifF h hc
      refine lv_aload_n F.1 F.2.1 dX8_step_264 rfl (lv_at hl 1 rfl) ?_
      refine lv_iconst (v := (1 : Int32)) F.1 F.2.1 dX8_step_265 (by decide) ?_
      obtain ⟨q9, h_q9, h⟩ := bd h
      refine rVv F G hS hl.1 (c_X8_fails l g σ8 τ (1 : Int32) q9 h_q9) lk_X8_108 ⟨rfl, rfl, Nat.le_of_ble_eq_true rfl, Nat.le_of_ble_eq_true rfl⟩ (rc_X8 G hS) rfl rfl (Nat.le_of_ble_eq_true rfl) dX8_step_266 (kIv (fun H locs hS => ?_))
      exact e_v F hS ⟨Option.some.inj h, rfl⟩ hr0 dX8_step_269 hk0
  obtain ⟨locs, hlo⟩ : ∃ z : List Loc, z = [] := ⟨_, rfl⟩
  rw [← hlo] at hS ⊢
  clear hlo
  refine lv_aload_n F.1 F.2.1 dX8_step_0 rfl (lv_at hl 0 rfl) ?_
  refine gf_X8_78 F G hS dX8_step_1 ?_
  refine lv_if_le (tgt := 8) F.1 F.2.1 dX8_step_4 (by decide) (fun hc => ?_) (fun hc => ?_)
  · replace h := ifT h hc
    exact w_8 3000 σ h H locs _ hS (lv_sub hl [0] rfl)
  replace h := ifF h hc
  exact e_v F hS ⟨Option.some.inj h, rfl⟩ hr0 dX8_step_7 hk0
def f_X8_number_62 (a1 : Int32) (a2 : Int32)  (σ : ZI) (s0 : Int32) : Option (Int32 × ZI) := (f_X8_step σ).bind (fun q1 => some (s0, q1))
def f_X8_number_47 (a1 : Int32) (a2 : Int32)  (σ : ZI) : Option (Int32 × ZI) := if (σ 60 25) = 0 then (f_X8_number_62 a1 a2 σ (σ 60 30)) else (f_X8_number_62 a1 a2 σ a1)
def f_X8_number_20 (a1 : Int32) (a2 : Int32)  (σ : ZI) : Option (Int32 × ZI) := if (σ 60 25) = 0 then ((f_X8_in ((σ 60 30).toInt64) a1.toInt64 a2.toInt64).bind (fun q2 => if q2 = 0 then ((f_X8_fails σ (3 : Int32)).bind (fun q3 => f_X8_number_47 a1 a2 q3)) else (f_X8_number_47 a1 a2 σ))) else (f_X8_number_47 a1 a2 σ)
def f_X8_number (σ : ZI) (a1 : Int32) (a2 : Int32) : Option (Int32 × ZI) := if (σ 60 25) = 0 then (if (σ 60 29) = (2 : Int32) then (f_X8_number_20 a1 a2 σ) else ((f_X8_fails σ (2 : Int32)).bind (fun q4 => f_X8_number_20 a1 a2 q4))) else (f_X8_number_20 a1 a2 σ)
abbrev rm_X8_number : Room := { frames := 2, cells := 0, slots := 0, locals := 46 }
set_option maxHeartbeats 4000000 in
set_option maxRecDepth 100000 in
theorem c_X8_number (l : Launch) (g : GG) (σ : ZI) (τ : ZL) (a1 : Int32) (a2 : Int32) (res : Int32 × ZI) (h : f_X8_number σ a1 a2 = some res) : MI l yX8_number cX8_number 4 (some .int) rm_X8_number g [.ref (gA g 60), .int a1, .int a2] σ τ (fun (r : Int32) (u : ZI × ZL) => (r, u.1) = res ∧ u.2 = τ) := by
  refine Met_in (by decide) (Nat.le_of_ble_eq_true rfl) ?_
  intro p e s m args below meth c F G hP hr0 hk0 ls hl
  have hS := WS.start hP
  have hl : lv_has ls 4 [(0, .ref (gA g 60)), (1, .int a1), (2, .int a2)] := hl
  obtain ⟨H, hH⟩ : ∃ H, H = s.heap := ⟨_, rfl⟩
  rw [← hH] at hS ⊢
  clear hH hP
  rw [f_X8_number] at h
  have w_62 : ∀ (σ : ZI) (s0 : Int32), f_X8_number_62 a1 a2 σ s0 = some res → ∀ (H : Heap) (locs : List Loc) (ls : Array Slot), WS g σ τ s H locs → lv_has ls 4 [(0, .ref (gA g 60))] → W p l e rm_X8_number s m args below meth c H locs 0 0 (MQ below (va_Qi (fun (r : Int32) (u : ZI × ZL) => (r, u.1) = res ∧ u.2 = τ) (WQ g) (AA g)) args s 0 0 (AA g)) (F0 m 62 ls [.int s0]) := by
    intro  σ s0 h H locs ls hS hl
    rw [f_X8_number_62] at h
    refine lv_istore_n (lv' := [(3, .int s0), (0, .ref (gA g 60))]) F.1 F.2.1 dX8_number_62 rfl hl (by decide) rfl (fun ls hl => ?_)
    refine lv_aload_n F.1 F.2.1 dX8_number_63 rfl (lv_at hl 1 rfl) ?_
    obtain ⟨q1, h_q1, h⟩ := bd h
    refine rVv F G hS hl.1 (c_X8_step l g σ τ q1 h_q1) lk_X8_112 ⟨rfl, rfl, Nat.le_of_ble_eq_true rfl, Nat.le_of_ble_eq_true rfl⟩ (rc_X8 G hS) rfl rfl (Nat.le_of_ble_eq_true rfl) dX8_number_64 (kIv (fun H locs hS => ?_))
    refine lv_iload_n F.1 F.2.1 dX8_number_67 rfl (lv_at hl 0 rfl) ?_
    exact e_i F hS ⟨Option.some.inj h, rfl⟩ hr0 dX8_number_68 hk0
  have w_47 : ∀ (σ : ZI), f_X8_number_47 a1 a2 σ = some res → ∀ (H : Heap) (locs : List Loc) (ls : Array Slot), WS g σ τ s H locs → lv_has ls 4 [(0, .ref (gA g 60)), (1, .int a1)] → W p l e rm_X8_number s m args below meth c H locs 0 0 (MQ below (va_Qi (fun (r : Int32) (u : ZI × ZL) => (r, u.1) = res ∧ u.2 = τ) (WQ g) (AA g)) args s 0 0 (AA g)) (F0 m 47 ls []) := by
    intro  σ h H locs ls hS hl
    rw [f_X8_number_47] at h
    refine lv_aload_n F.1 F.2.1 dX8_number_47 rfl (lv_at hl 0 rfl) ?_
    refine gf_X8_78 F G hS dX8_number_48 ?_
    refine lv_if_ne (tgt := 61) F.1 F.2.1 dX8_number_51 (by decide) (fun hc => ?_) (fun hc => ?_)
    · replace h := ifF h hc
      refine lv_iload_n F.1 F.2.1 dX8_number_61 rfl (lv_at hl 1 rfl) ?_
      exact w_62 σ a1 h H locs _ hS (lv_sub hl [0] rfl)
    replace h := ifT h hc
    refine lv_aload_n F.1 F.2.1 dX8_number_54 rfl (lv_at hl 0 rfl) ?_
    refine gf_X8_97 F G hS dX8_number_55 ?_
    refine lv_goto (tgt := 62) F.1 F.2.1 dX8_number_58 (by decide) ?_
    exact w_62 σ (σ 60 30) h H locs _ hS (lv_sub hl [0] rfl)
  have w_20 : ∀ (σ : ZI), f_X8_number_20 a1 a2 σ = some res → ∀ (H : Heap) (locs : List Loc) (ls : Array Slot), WS g σ τ s H locs → lv_has ls 4 [(0, .ref (gA g 60)), (1, .int a1), (2, .int a2)] → W p l e rm_X8_number s m args below meth c H locs 0 0 (MQ below (va_Qi (fun (r : Int32) (u : ZI × ZL) => (r, u.1) = res ∧ u.2 = τ) (WQ g) (AA g)) args s 0 0 (AA g)) (F0 m 20 ls []) := by
    intro  σ h H locs ls hS hl
    rw [f_X8_number_20] at h
    refine lv_aload_n F.1 F.2.1 dX8_number_20 rfl (lv_at hl 0 rfl) ?_
    refine gf_X8_78 F G hS dX8_number_21 ?_
    refine lv_if_ne (tgt := 47) F.1 F.2.1 dX8_number_24 (by decide) (fun hc => ?_) (fun hc => ?_)
    · replace h := ifF h hc
      exact w_47 σ h H locs _ hS (lv_sub hl [0, 1] rfl)
    replace h := ifT h hc
    refine lv_aload_n F.1 F.2.1 dX8_number_27 rfl (lv_at hl 0 rfl) ?_
    refine gf_X8_97 F G hS dX8_number_28 ?_
    refine lv_i2l F.1 F.2.1 dX8_number_31 rfl ?_
    refine lv_iload_n F.1 F.2.1 dX8_number_32 rfl (lv_at hl 1 rfl) ?_
    refine lv_i2l F.1 F.2.1 dX8_number_33 rfl ?_
    refine lv_iload_n F.1 F.2.1 dX8_number_34 rfl (lv_at hl 2 rfl) ?_
    refine lv_i2l F.1 F.2.1 dX8_number_35 rfl ?_
    obtain ⟨q2, h_q2, h⟩ := bd h
    refine rSi F G hS hl.1 (c_X8_in l g σ τ ((σ 60 30).toInt64) a1.toInt64 a2.toInt64 q2 h_q2) lk_X8_71 ⟨rfl, rfl, Nat.le_of_ble_eq_true rfl, Nat.le_of_ble_eq_true rfl⟩  rfl rfl (Nat.le_of_ble_eq_true rfl) dX8_number_36 (kRi (fun H locs hS => ?_))
    refine lv_if_ne (tgt := 47) F.1 F.2.1 dX8_number_39 (by decide) (fun hc => ?_) (fun hc => ?_)
    · replace h := ifF h hc
      exact w_47 σ h H locs _ hS (lv_sub hl [0, 1] rfl)
    replace h := ifT h hc
    refine lv_aload_n F.1 F.2.1 dX8_number_42 rfl (lv_at hl 0 rfl) ?_
    refine lv_iconst (v := (3 : Int32)) F.1 F.2.1 dX8_number_43 (by decide) ?_
    obtain ⟨q3, h_q3, h⟩ := bd h
    refine rVv F G hS hl.1 (c_X8_fails l g σ τ (3 : Int32) q3 h_q3) lk_X8_108 ⟨rfl, rfl, Nat.le_of_ble_eq_true rfl, Nat.le_of_ble_eq_true rfl⟩ (rc_X8 G hS) rfl rfl (Nat.le_of_ble_eq_true rfl) dX8_number_44 (kIv (fun H locs hS => ?_))
    exact w_47 q3 h H locs _ hS (lv_sub hl [0, 1] rfl)
  obtain ⟨locs, hlo⟩ : ∃ z : List Loc, z = [] := ⟨_, rfl⟩
  rw [← hlo] at hS ⊢
  clear hlo
  refine lv_aload_n F.1 F.2.1 dX8_number_0 rfl (lv_at hl 0 rfl) ?_
  refine gf_X8_78 F G hS dX8_number_1 ?_
  refine lv_if_ne (tgt := 20) F.1 F.2.1 dX8_number_4 (by decide) (fun hc => ?_) (fun hc => ?_)
  · replace h := ifF h hc
    exact w_20 σ h H locs _ hS (lv_sub hl [0, 1, 2] rfl)
  replace h := ifT h hc
  refine lv_aload_n F.1 F.2.1 dX8_number_7 rfl (lv_at hl 0 rfl) ?_
  refine gf_X8_87 F G hS dX8_number_8 ?_
  refine lv_iconst (v := (2 : Int32)) F.1 F.2.1 dX8_number_11 (by decide) ?_
  refine lv_icmp_eq (tgt := 20) F.1 F.2.1 dX8_number_12 (by decide) (fun hc => ?_) (fun hc => ?_)
  · replace h := ifT h hc
    exact w_20 σ h H locs _ hS (lv_sub hl [0, 1, 2] rfl)
  replace h := ifF h hc
  refine lv_aload_n F.1 F.2.1 dX8_number_15 rfl (lv_at hl 0 rfl) ?_
  refine lv_iconst (v := (2 : Int32)) F.1 F.2.1 dX8_number_16 (by decide) ?_
  obtain ⟨q4, h_q4, h⟩ := bd h
  refine rVv F G hS hl.1 (c_X8_fails l g σ τ (2 : Int32) q4 h_q4) lk_X8_108 ⟨rfl, rfl, Nat.le_of_ble_eq_true rfl, Nat.le_of_ble_eq_true rfl⟩ (rc_X8 G hS) rfl rfl (Nat.le_of_ble_eq_true rfl) dX8_number_17 (kIv (fun H locs hS => ?_))
  exact w_20 q4 h H locs _ hS (lv_sub hl [0, 1, 2] rfl)
def f_X8_jointHere_74 (a1 : Int32)  (σ : ZI) (v2 : Int32) (s0 : Int32) : Option (Int32 × ZI) := lt_ (va_up σ 60 (upd (σ 60) 21 s0)) (fun σ2 => some (v2, σ2))
def f_X8_jointHere_49 (a1 : Int32)  (σ : ZI) : Option (Int32 × ZI) := (f_X8_number σ (1 : Int32) (10 : Int32)).bind (fun q1 => if q1.1 ≤ (q1.2 60 21) then (f_X8_jointHere_74 a1 q1.2 q1.1 (q1.2 60 21)) else (f_X8_jointHere_74 a1 q1.2 q1.1 q1.1))
def f_X8_jointHere (σ : ZI) (a1 : Int32) : Option (Int32 × ZI) := if (σ 60 25) = 0 then (if (σ 60 29) = (2 : Int32) then ((f_X8_in ((σ 60 30).toInt64) (1 : Int64) (10 : Int64)).bind (fun q3 => if q3 = 0 then (f_X8_jointHere_49 a1 σ) else (if ((a1 >>> (((σ 60 30) - (1 : Int32)) &&& 31)) &&& (1 : Int32)) = (1 : Int32) then ((f_X8_fails σ (4 : Int32)).bind (fun q4 => f_X8_jointHere_49 a1 q4)) else (f_X8_jointHere_49 a1 σ)))) else (f_X8_jointHere_49 a1 σ)) else (f_X8_jointHere_49 a1 σ)
abbrev rm_X8_jointHere : Room := { frames := 3, cells := 0, slots := 0, locals := 69 }
set_option maxHeartbeats 4000000 in
set_option maxRecDepth 100000 in
theorem c_X8_jointHere (l : Launch) (g : GG) (σ : ZI) (τ : ZL) (a1 : Int32) (res : Int32 × ZI) (h : f_X8_jointHere σ a1 = some res) : MI l yX8_jointHere cX8_jointHere 3 (some .int) rm_X8_jointHere g [.ref (gA g 60), .int a1] σ τ (fun (r : Int32) (u : ZI × ZL) => (r, u.1) = res ∧ u.2 = τ) := by
  refine Met_in (by decide) (Nat.le_of_ble_eq_true rfl) ?_
  intro p e s m args below meth c F G hP hr0 hk0 ls hl
  have hS := WS.start hP
  have hl : lv_has ls 3 [(0, .ref (gA g 60)), (1, .int a1)] := hl
  obtain ⟨H, hH⟩ : ∃ H, H = s.heap := ⟨_, rfl⟩
  rw [← hH] at hS ⊢
  clear hH hP
  rw [f_X8_jointHere] at h
  have w_74 : ∀ (σ : ZI) (v2 : Int32) (s0 : Int32), f_X8_jointHere_74 a1 σ v2 s0 = some res → ∀ (H : Heap) (locs : List Loc) (ls : Array Slot), WS g σ τ s H locs → lv_has ls 3 [(2, .int v2)] → W p l e rm_X8_jointHere s m args below meth c H locs 0 0 (MQ below (va_Qi (fun (r : Int32) (u : ZI × ZL) => (r, u.1) = res ∧ u.2 = τ) (WQ g) (AA g)) args s 0 0 (AA g)) (F0 m 74 ls [.int s0, .ref (gA g 60)]) := by
    intro  σ v2 s0 h H locs ls hS hl
    rw [f_X8_jointHere_74] at h
    refine pf_X8_121 F G hS dX8_jointHere_74 (fun H locs hS => ?_)
    obtain ⟨σ2, e_σ2, h⟩ := ltE h
    rw [← e_σ2] at hS
    clear e_σ2
    refine lv_iload_n F.1 F.2.1 dX8_jointHere_77 rfl (lv_at hl 0 rfl) ?_
    exact e_i F hS ⟨Option.some.inj h, rfl⟩ hr0 dX8_jointHere_78 hk0
  have w_49 : ∀ (σ : ZI), f_X8_jointHere_49 a1 σ = some res → ∀ (H : Heap) (locs : List Loc) (ls : Array Slot), WS g σ τ s H locs → lv_has ls 3 [(0, .ref (gA g 60))] → W p l e rm_X8_jointHere s m args below meth c H locs 0 0 (MQ below (va_Qi (fun (r : Int32) (u : ZI × ZL) => (r, u.1) = res ∧ u.2 = τ) (WQ g) (AA g)) args s 0 0 (AA g)) (F0 m 49 ls []) := by
    intro  σ h H locs ls hS hl
    rw [f_X8_jointHere_49] at h
    refine lv_aload_n F.1 F.2.1 dX8_jointHere_49 rfl (lv_at hl 0 rfl) ?_
    refine lv_iconst (v := (1 : Int32)) F.1 F.2.1 dX8_jointHere_50 (by decide) ?_
    refine lv_bipush (v := (10 : Int32)) F.1 F.2.1 dX8_jointHere_51 (by decide) ?_
    obtain ⟨q1, h_q1, h⟩ := bd h
    refine rVi F G hS hl.1 (c_X8_number l g σ τ (1 : Int32) (10 : Int32) q1 h_q1) lk_X8_117 ⟨rfl, rfl, Nat.le_of_ble_eq_true rfl, Nat.le_of_ble_eq_true rfl⟩ (rc_X8 G hS) rfl rfl (Nat.le_of_ble_eq_true rfl) dX8_jointHere_53 (kIi (fun H locs hS => ?_))
    refine lv_istore_n (lv' := [(2, .int q1.1), (0, .ref (gA g 60))]) F.1 F.2.1 dX8_jointHere_56 rfl hl (by decide) rfl (fun ls hl => ?_)
    refine lv_aload_n F.1 F.2.1 dX8_jointHere_57 rfl (lv_at hl 1 rfl) ?_
    refine lv_iload_n F.1 F.2.1 dX8_jointHere_58 rfl (lv_at hl 0 rfl) ?_
    refine lv_aload_n F.1 F.2.1 dX8_jointHere_59 rfl (lv_at hl 1 rfl) ?_
    refine gf_X8_121 F G hS dX8_jointHere_60 ?_
    refine lv_icmp_le (tgt := 70) F.1 F.2.1 dX8_jointHere_63 (by decide) (fun hc => ?_) (fun hc => ?_)
    · replace h := ifT h hc
      refine lv_aload_n F.1 F.2.1 dX8_jointHere_70 rfl (lv_at hl 1 rfl) ?_
      refine gf_X8_121 F G hS dX8_jointHere_71 ?_
      exact w_74 q1.2 q1.1 (q1.2 60 21) h H locs _ hS (lv_sub hl [0] rfl)
    replace h := ifF h hc
    refine lv_iload_n F.1 F.2.1 dX8_jointHere_66 rfl (lv_at hl 0 rfl) ?_
    refine lv_goto (tgt := 74) F.1 F.2.1 dX8_jointHere_67 (by decide) ?_
    exact w_74 q1.2 q1.1 q1.1 h H locs _ hS (lv_sub hl [0] rfl)
  obtain ⟨locs, hlo⟩ : ∃ z : List Loc, z = [] := ⟨_, rfl⟩
  rw [← hlo] at hS ⊢
  clear hlo
  refine lv_aload_n F.1 F.2.1 dX8_jointHere_0 rfl (lv_at hl 0 rfl) ?_
  refine gf_X8_78 F G hS dX8_jointHere_1 ?_
  refine lv_if_ne (tgt := 49) F.1 F.2.1 dX8_jointHere_4 (by decide) (fun hc => ?_) (fun hc => ?_)
  · replace h := ifF h hc
    exact w_49 σ h H locs _ hS (lv_sub hl [0] rfl)
  replace h := ifT h hc
  refine lv_aload_n F.1 F.2.1 dX8_jointHere_7 rfl (lv_at hl 0 rfl) ?_
  refine gf_X8_87 F G hS dX8_jointHere_8 ?_
  refine lv_iconst (v := (2 : Int32)) F.1 F.2.1 dX8_jointHere_11 (by decide) ?_
  refine lv_icmp_ne (tgt := 49) F.1 F.2.1 dX8_jointHere_12 (by decide) (fun hc => ?_) (fun hc => ?_)
  · replace h := ifF h hc
    exact w_49 σ h H locs _ hS (lv_sub hl [0] rfl)
  replace h := ifT h hc
  refine lv_aload_n F.1 F.2.1 dX8_jointHere_15 rfl (lv_at hl 0 rfl) ?_
  refine gf_X8_97 F G hS dX8_jointHere_16 ?_
  refine lv_i2l F.1 F.2.1 dX8_jointHere_19 rfl ?_
  refine lv_lconst (v := (1 : Int64)) F.1 F.2.1 dX8_jointHere_20 (by decide) ?_
  refine lv_ldc2 (v := (10 : Int64)) F.1 F.2.1 F.2.2.2.1 (F.2.2.2.2 _ tb_1221) dX8_jointHere_21 ?_
  obtain ⟨q3, h_q3, h⟩ := bd h
  refine rSi F G hS hl.1 (c_X8_in l g σ τ ((σ 60 30).toInt64) (1 : Int64) (10 : Int64) q3 h_q3) lk_X8_71 ⟨rfl, rfl, Nat.le_of_ble_eq_true rfl, Nat.le_of_ble_eq_true rfl⟩  rfl rfl (Nat.le_of_ble_eq_true rfl) dX8_jointHere_24 (kRi (fun H locs hS => ?_))
  refine lv_if_eq (tgt := 49) F.1 F.2.1 dX8_jointHere_27 (by decide) (fun hc => ?_) (fun hc => ?_)
  · replace h := ifT h hc
    exact w_49 σ h H locs _ hS (lv_sub hl [0] rfl)
  replace h := ifF h hc
  refine lv_iload_n F.1 F.2.1 dX8_jointHere_30 rfl (lv_at hl 1 rfl) ?_
  refine lv_aload_n F.1 F.2.1 dX8_jointHere_31 rfl (lv_at hl 0 rfl) ?_
  refine gf_X8_97 F G hS dX8_jointHere_32 ?_
  refine lv_iconst (v := (1 : Int32)) F.1 F.2.1 dX8_jointHere_35 (by decide) ?_
  refine lv_isub F.1 F.2.1 dX8_jointHere_36 ?_
  refine lv_ishr F.1 F.2.1 dX8_jointHere_37 ?_
  refine lv_iconst (v := (1 : Int32)) F.1 F.2.1 dX8_jointHere_38 (by decide) ?_
  refine lv_iand F.1 F.2.1 dX8_jointHere_39 ?_
  refine lv_iconst (v := (1 : Int32)) F.1 F.2.1 dX8_jointHere_40 (by decide) ?_
  refine lv_icmp_ne (tgt := 49) F.1 F.2.1 dX8_jointHere_41 (by decide) (fun hc => ?_) (fun hc => ?_)
  · replace h := ifF h hc
    exact w_49 σ h H locs _ hS (lv_sub hl [0] rfl)
  replace h := ifT h hc
  refine lv_aload_n F.1 F.2.1 dX8_jointHere_44 rfl (lv_at hl 0 rfl) ?_
  refine lv_iconst (v := (4 : Int32)) F.1 F.2.1 dX8_jointHere_45 (by decide) ?_
  obtain ⟨q4, h_q4, h⟩ := bd h
  refine rVv F G hS hl.1 (c_X8_fails l g σ τ (4 : Int32) q4 h_q4) lk_X8_108 ⟨rfl, rfl, Nat.le_of_ble_eq_true rfl, Nat.le_of_ble_eq_true rfl⟩ (rc_X8 G hS) rfl rfl (Nat.le_of_ble_eq_true rfl) dX8_jointHere_46 (kIv (fun H locs hS => ?_))
  exact w_49 q4 h H locs _ hS (lv_sub hl [0] rfl)
def f_X8_readOnce (σ : ZI) (a1 : Int32) : Option (ZI) := if a1 = (0 : Int32) then ((f_X8_number σ (2 : Int32) (10 : Int32)).bind (fun q1 => lt_ (va_up q1.2 60 (upd (q1.2 60) 14 q1.1)) (fun σ2 => some σ2))) else (if a1 = (1 : Int32) then ((f_X8_jointHere σ (0 : Int32)).bind (fun q3 => lt_ (va_up q3.2 66 (upd (q3.2 66) 12 q3.1)) (fun σ4 => some σ4))) else (if a1 = (2 : Int32) then ((f_X8_number σ (0 : Int32) (10 : Int32)).bind (fun q5 => lt_ (va_up q5.2 66 (upd (q5.2 66) 13 (q5.1 - (1 : Int32)))) (fun σ6 => some σ6))) else (if a1 = (3 : Int32) then ((f_X8_number σ (1 : Int32) (9 : Int32)).bind (fun q7 => lt_ (va_up q7.2 66 (upd (q7.2 66) 14 (q7.1 - (5 : Int32)))) (fun σ8 => some σ8))) else (if a1 = (4 : Int32) then ((f_X8_number σ (1 : Int32) (10 : Int32)).bind (fun q9 => lt_ (va_up q9.2 66 (upd (q9.2 66) 15 (q9.1 - (2 : Int32)))) (fun σ10 => (f_X8_number σ10 ((σ10 66 15) + (3 : Int32)) (11 : Int32)).bind (fun q11 => lt_ (va_up q11.2 66 (upd (q11.2 66) 16 (q11.1 - (4 : Int32)))) (fun σ12 => some σ12))))) else (if a1 = (5 : Int32) then ((f_X8_number σ (0 : Int32) (9 : Int32)).bind (fun q13 => lt_ (va_up q13.2 70 (upd (q13.2 70) 0 q13.1)) (fun σ14 => (f_X8_number σ14 (0 : Int32) (9 : Int32)).bind (fun q15 => lt_ (va_up q15.2 70 (upd (q15.2 70) 1 q15.1)) (fun σ16 => some σ16))))) else ((f_X8_number σ (1 : Int32) (9 : Int32)).bind (fun q17 => lt_ (va_up q17.2 66 (upd (q17.2 66) 17 (q17.1 - (3 : Int32)))) (fun σ18 => some σ18))))))))
abbrev rm_X8_readOnce : Room := { frames := 4, cells := 0, slots := 0, locals := 91 }
set_option maxHeartbeats 4000000 in
set_option maxRecDepth 100000 in
theorem c_X8_readOnce (l : Launch) (g : GG) (σ : ZI) (τ : ZL) (a1 : Int32) (res : ZI) (h : f_X8_readOnce σ a1 = some res) : MV l yX8_readOnce cX8_readOnce 2 none rm_X8_readOnce g [.ref (gA g 60), .int a1] σ τ (fun (u : ZI × ZL) => u.1 = res ∧ u.2 = τ) := by
  refine Met_in (by decide) (Nat.le_of_ble_eq_true rfl) ?_
  intro p e s m args below meth c F G hP hr0 hk0 ls hl
  have hS := WS.start hP
  have hl : lv_has ls 2 [(0, .ref (gA g 60)), (1, .int a1)] := hl
  obtain ⟨H, hH⟩ : ∃ H, H = s.heap := ⟨_, rfl⟩
  rw [← hH] at hS ⊢
  clear hH hP
  rw [f_X8_readOnce] at h
  obtain ⟨locs, hlo⟩ : ∃ z : List Loc, z = [] := ⟨_, rfl⟩
  rw [← hlo] at hS ⊢
  clear hlo
  refine lv_iload_n F.1 F.2.1 dX8_readOnce_0 rfl (lv_at hl 1 rfl) ?_
  by_cases hc_0 : a1 = (0 : Int32)
  · replace h := ifT h hc_0
    refine lv_tableIn (tgt := 40) F.1 F.2.1 dX8_readOnce_1 (by rw [hc_0]; decide) (by rw [hc_0]; decide) (by rw [hc_0]; rfl) (by decide) ?_
    refine lv_aload_n F.1 F.2.1 dX8_readOnce_40 rfl (lv_at hl 0 rfl) ?_
    refine lv_aload_n F.1 F.2.1 dX8_readOnce_41 rfl (lv_at hl 0 rfl) ?_
    refine lv_iconst (v := (2 : Int32)) F.1 F.2.1 dX8_readOnce_42 (by decide) ?_
    refine lv_bipush (v := (10 : Int32)) F.1 F.2.1 dX8_readOnce_43 (by decide) ?_
    obtain ⟨q1, h_q1, h⟩ := bd h
    refine rVi F G hS hl.1 (c_X8_number l g σ τ (2 : Int32) (10 : Int32) q1 h_q1) lk_X8_117 ⟨rfl, rfl, Nat.le_of_ble_eq_true rfl, Nat.le_of_ble_eq_true rfl⟩ (rc_X8 G hS) rfl rfl (Nat.le_of_ble_eq_true rfl) dX8_readOnce_45 (kIi (fun H locs hS => ?_))
    refine pf_X8_124 F G hS dX8_readOnce_48 (fun H locs hS => ?_)
    obtain ⟨σ2, e_σ2, h⟩ := ltE h
    rw [← e_σ2] at hS
    clear e_σ2
    refine lv_goto (tgt := 195) F.1 F.2.1 dX8_readOnce_51 (by decide) ?_
    exact e_v F hS ⟨Option.some.inj h, rfl⟩ hr0 dX8_readOnce_195 hk0
  replace h := ifF h hc_0
  by_cases hc_1 : a1 = (1 : Int32)
  · replace h := ifT h hc_1
    refine lv_tableIn (tgt := 54) F.1 F.2.1 dX8_readOnce_1 (by rw [hc_1]; decide) (by rw [hc_1]; decide) (by rw [hc_1]; rfl) (by decide) ?_
    refine lv_aload_n F.1 F.2.1 dX8_readOnce_54 rfl (lv_at hl 0 rfl) ?_
    refine gf_X8_29 F G hS dX8_readOnce_55 ?_
    refine lv_bipush (v := (12 : Int32)) F.1 F.2.1 dX8_readOnce_58 (by decide) ?_
    refine lv_aload_n F.1 F.2.1 dX8_readOnce_60 rfl (lv_at hl 0 rfl) ?_
    refine lv_iconst (v := (0 : Int32)) F.1 F.2.1 dX8_readOnce_61 (by decide) ?_
    obtain ⟨q3, h_q3, h⟩ := bd h
    refine rVi F G hS hl.1 (c_X8_jointHere l g σ τ (0 : Int32) q3 h_q3) lk_X8_127 ⟨rfl, rfl, Nat.le_of_ble_eq_true rfl, Nat.le_of_ble_eq_true rfl⟩ (rc_X8 G hS) rfl rfl (Nat.le_of_ble_eq_true rfl) dX8_readOnce_62 (kIi (fun H locs hS => ?_))
    refine x_iastL F G hS 66 rfl 12 rfl (by decide) dX8_readOnce_65 (fun H locs hS => ?_)
    obtain ⟨σ4, e_σ4, h⟩ := ltE h
    rw [← e_σ4] at hS
    clear e_σ4
    refine lv_goto (tgt := 195) F.1 F.2.1 dX8_readOnce_66 (by decide) ?_
    exact e_v F hS ⟨Option.some.inj h, rfl⟩ hr0 dX8_readOnce_195 hk0
  replace h := ifF h hc_1
  by_cases hc_2 : a1 = (2 : Int32)
  · replace h := ifT h hc_2
    refine lv_tableIn (tgt := 69) F.1 F.2.1 dX8_readOnce_1 (by rw [hc_2]; decide) (by rw [hc_2]; decide) (by rw [hc_2]; rfl) (by decide) ?_
    refine lv_aload_n F.1 F.2.1 dX8_readOnce_69 rfl (lv_at hl 0 rfl) ?_
    refine gf_X8_29 F G hS dX8_readOnce_70 ?_
    refine lv_bipush (v := (13 : Int32)) F.1 F.2.1 dX8_readOnce_73 (by decide) ?_
    refine lv_aload_n F.1 F.2.1 dX8_readOnce_75 rfl (lv_at hl 0 rfl) ?_
    refine lv_iconst (v := (0 : Int32)) F.1 F.2.1 dX8_readOnce_76 (by decide) ?_
    refine lv_bipush (v := (10 : Int32)) F.1 F.2.1 dX8_readOnce_77 (by decide) ?_
    obtain ⟨q5, h_q5, h⟩ := bd h
    refine rVi F G hS hl.1 (c_X8_number l g σ τ (0 : Int32) (10 : Int32) q5 h_q5) lk_X8_117 ⟨rfl, rfl, Nat.le_of_ble_eq_true rfl, Nat.le_of_ble_eq_true rfl⟩ (rc_X8 G hS) rfl rfl (Nat.le_of_ble_eq_true rfl) dX8_readOnce_79 (kIi (fun H locs hS => ?_))
    refine lv_iconst (v := (1 : Int32)) F.1 F.2.1 dX8_readOnce_82 (by decide) ?_
    refine lv_isub F.1 F.2.1 dX8_readOnce_83 ?_
    refine x_iastL F G hS 66 rfl 13 rfl (by decide) dX8_readOnce_84 (fun H locs hS => ?_)
    obtain ⟨σ6, e_σ6, h⟩ := ltE h
    rw [← e_σ6] at hS
    clear e_σ6
    refine lv_goto (tgt := 195) F.1 F.2.1 dX8_readOnce_85 (by decide) ?_
    exact e_v F hS ⟨Option.some.inj h, rfl⟩ hr0 dX8_readOnce_195 hk0
  replace h := ifF h hc_2
  by_cases hc_3 : a1 = (3 : Int32)
  · replace h := ifT h hc_3
    refine lv_tableIn (tgt := 88) F.1 F.2.1 dX8_readOnce_1 (by rw [hc_3]; decide) (by rw [hc_3]; decide) (by rw [hc_3]; rfl) (by decide) ?_
    refine lv_aload_n F.1 F.2.1 dX8_readOnce_88 rfl (lv_at hl 0 rfl) ?_
    refine gf_X8_29 F G hS dX8_readOnce_89 ?_
    refine lv_bipush (v := (14 : Int32)) F.1 F.2.1 dX8_readOnce_92 (by decide) ?_
    refine lv_aload_n F.1 F.2.1 dX8_readOnce_94 rfl (lv_at hl 0 rfl) ?_
    refine lv_iconst (v := (1 : Int32)) F.1 F.2.1 dX8_readOnce_95 (by decide) ?_
    refine lv_bipush (v := (9 : Int32)) F.1 F.2.1 dX8_readOnce_96 (by decide) ?_
    obtain ⟨q7, h_q7, h⟩ := bd h
    refine rVi F G hS hl.1 (c_X8_number l g σ τ (1 : Int32) (9 : Int32) q7 h_q7) lk_X8_117 ⟨rfl, rfl, Nat.le_of_ble_eq_true rfl, Nat.le_of_ble_eq_true rfl⟩ (rc_X8 G hS) rfl rfl (Nat.le_of_ble_eq_true rfl) dX8_readOnce_98 (kIi (fun H locs hS => ?_))
    refine lv_iconst (v := (5 : Int32)) F.1 F.2.1 dX8_readOnce_101 (by decide) ?_
    refine lv_isub F.1 F.2.1 dX8_readOnce_102 ?_
    refine x_iastL F G hS 66 rfl 14 rfl (by decide) dX8_readOnce_103 (fun H locs hS => ?_)
    obtain ⟨σ8, e_σ8, h⟩ := ltE h
    rw [← e_σ8] at hS
    clear e_σ8
    refine lv_goto (tgt := 195) F.1 F.2.1 dX8_readOnce_104 (by decide) ?_
    exact e_v F hS ⟨Option.some.inj h, rfl⟩ hr0 dX8_readOnce_195 hk0
  replace h := ifF h hc_3
  by_cases hc_4 : a1 = (4 : Int32)
  · replace h := ifT h hc_4
    refine lv_tableIn (tgt := 107) F.1 F.2.1 dX8_readOnce_1 (by rw [hc_4]; decide) (by rw [hc_4]; decide) (by rw [hc_4]; rfl) (by decide) ?_
    refine lv_aload_n F.1 F.2.1 dX8_readOnce_107 rfl (lv_at hl 0 rfl) ?_
    refine gf_X8_29 F G hS dX8_readOnce_108 ?_
    refine lv_bipush (v := (15 : Int32)) F.1 F.2.1 dX8_readOnce_111 (by decide) ?_
    refine lv_aload_n F.1 F.2.1 dX8_readOnce_113 rfl (lv_at hl 0 rfl) ?_
    refine lv_iconst (v := (1 : Int32)) F.1 F.2.1 dX8_readOnce_114 (by decide) ?_
    refine lv_bipush (v := (10 : Int32)) F.1 F.2.1 dX8_readOnce_115 (by decide) ?_
    obtain ⟨q9, h_q9, h⟩ := bd h
    refine rVi F G hS hl.1 (c_X8_number l g σ τ (1 : Int32) (10 : Int32) q9 h_q9) lk_X8_117 ⟨rfl, rfl, Nat.le_of_ble_eq_true rfl, Nat.le_of_ble_eq_true rfl⟩ (rc_X8 G hS) rfl rfl (Nat.le_of_ble_eq_true rfl) dX8_readOnce_117 (kIi (fun H locs hS => ?_))
    refine lv_iconst (v := (2 : Int32)) F.1 F.2.1 dX8_readOnce_120 (by decide) ?_
    refine lv_isub F.1 F.2.1 dX8_readOnce_121 ?_
    refine x_iastL F G hS 66 rfl 15 rfl (by decide) dX8_readOnce_122 (fun H locs hS => ?_)
    obtain ⟨σ10, e_σ10, h⟩ := ltE h
    rw [← e_σ10] at hS
    clear e_σ10
    refine lv_aload_n F.1 F.2.1 dX8_readOnce_123 rfl (lv_at hl 0 rfl) ?_
    refine gf_X8_29 F G hS dX8_readOnce_124 ?_
    refine lv_bipush (v := (16 : Int32)) F.1 F.2.1 dX8_readOnce_127 (by decide) ?_
    refine lv_aload_n F.1 F.2.1 dX8_readOnce_129 rfl (lv_at hl 0 rfl) ?_
    refine lv_aload_n F.1 F.2.1 dX8_readOnce_130 rfl (lv_at hl 0 rfl) ?_
    refine gf_X8_29 F G hS dX8_readOnce_131 ?_
    refine lv_bipush (v := (15 : Int32)) F.1 F.2.1 dX8_readOnce_134 (by decide) ?_
    refine x_ialdL F G hS 66 rfl 15 rfl (by decide) dX8_readOnce_136 ?_
    refine lv_iconst (v := (3 : Int32)) F.1 F.2.1 dX8_readOnce_137 (by decide) ?_
    refine lv_iadd F.1 F.2.1 dX8_readOnce_138 ?_
    refine lv_bipush (v := (11 : Int32)) F.1 F.2.1 dX8_readOnce_139 (by decide) ?_
    obtain ⟨q11, h_q11, h⟩ := bd h
    refine rVi F G hS hl.1 (c_X8_number l g σ10 τ ((σ10 66 15) + (3 : Int32)) (11 : Int32) q11 h_q11) lk_X8_117 ⟨rfl, rfl, Nat.le_of_ble_eq_true rfl, Nat.le_of_ble_eq_true rfl⟩ (rc_X8 G hS) rfl rfl (Nat.le_of_ble_eq_true rfl) dX8_readOnce_141 (kIi (fun H locs hS => ?_))
    refine lv_iconst (v := (4 : Int32)) F.1 F.2.1 dX8_readOnce_144 (by decide) ?_
    refine lv_isub F.1 F.2.1 dX8_readOnce_145 ?_
    refine x_iastL F G hS 66 rfl 16 rfl (by decide) dX8_readOnce_146 (fun H locs hS => ?_)
    obtain ⟨σ12, e_σ12, h⟩ := ltE h
    rw [← e_σ12] at hS
    clear e_σ12
    refine lv_goto (tgt := 195) F.1 F.2.1 dX8_readOnce_147 (by decide) ?_
    exact e_v F hS ⟨Option.some.inj h, rfl⟩ hr0 dX8_readOnce_195 hk0
  replace h := ifF h hc_4
  by_cases hc_5 : a1 = (5 : Int32)
  · replace h := ifT h hc_5
    refine lv_tableIn (tgt := 150) F.1 F.2.1 dX8_readOnce_1 (by rw [hc_5]; decide) (by rw [hc_5]; decide) (by rw [hc_5]; rfl) (by decide) ?_
    refine lv_aload_n F.1 F.2.1 dX8_readOnce_150 rfl (lv_at hl 0 rfl) ?_
    refine gf_X8_41 F G hS dX8_readOnce_151 ?_
    refine lv_iconst (v := (0 : Int32)) F.1 F.2.1 dX8_readOnce_154 (by decide) ?_
    refine lv_aload_n F.1 F.2.1 dX8_readOnce_155 rfl (lv_at hl 0 rfl) ?_
    refine lv_iconst (v := (0 : Int32)) F.1 F.2.1 dX8_readOnce_156 (by decide) ?_
    refine lv_bipush (v := (9 : Int32)) F.1 F.2.1 dX8_readOnce_157 (by decide) ?_
    obtain ⟨q13, h_q13, h⟩ := bd h
    refine rVi F G hS hl.1 (c_X8_number l g σ τ (0 : Int32) (9 : Int32) q13 h_q13) lk_X8_117 ⟨rfl, rfl, Nat.le_of_ble_eq_true rfl, Nat.le_of_ble_eq_true rfl⟩ (rc_X8 G hS) rfl rfl (Nat.le_of_ble_eq_true rfl) dX8_readOnce_159 (kIi (fun H locs hS => ?_))
    refine x_iastL F G hS 70 rfl 0 rfl (by decide) dX8_readOnce_162 (fun H locs hS => ?_)
    obtain ⟨σ14, e_σ14, h⟩ := ltE h
    rw [← e_σ14] at hS
    clear e_σ14
    refine lv_aload_n F.1 F.2.1 dX8_readOnce_163 rfl (lv_at hl 0 rfl) ?_
    refine gf_X8_41 F G hS dX8_readOnce_164 ?_
    refine lv_iconst (v := (1 : Int32)) F.1 F.2.1 dX8_readOnce_167 (by decide) ?_
    refine lv_aload_n F.1 F.2.1 dX8_readOnce_168 rfl (lv_at hl 0 rfl) ?_
    refine lv_iconst (v := (0 : Int32)) F.1 F.2.1 dX8_readOnce_169 (by decide) ?_
    refine lv_bipush (v := (9 : Int32)) F.1 F.2.1 dX8_readOnce_170 (by decide) ?_
    obtain ⟨q15, h_q15, h⟩ := bd h
    refine rVi F G hS hl.1 (c_X8_number l g σ14 τ (0 : Int32) (9 : Int32) q15 h_q15) lk_X8_117 ⟨rfl, rfl, Nat.le_of_ble_eq_true rfl, Nat.le_of_ble_eq_true rfl⟩ (rc_X8 G hS) rfl rfl (Nat.le_of_ble_eq_true rfl) dX8_readOnce_172 (kIi (fun H locs hS => ?_))
    refine x_iastL F G hS 70 rfl 1 rfl (by decide) dX8_readOnce_175 (fun H locs hS => ?_)
    obtain ⟨σ16, e_σ16, h⟩ := ltE h
    rw [← e_σ16] at hS
    clear e_σ16
    refine lv_goto (tgt := 195) F.1 F.2.1 dX8_readOnce_176 (by decide) ?_
    exact e_v F hS ⟨Option.some.inj h, rfl⟩ hr0 dX8_readOnce_195 hk0
  replace h := ifF h hc_5
  refine lv_tableOut (tgt := 179) F.1 F.2.1 dX8_readOnce_1 (by have h0 := lv_neT (a := 0) hc_0 (by decide); have h1 := lv_neT (a := 1) hc_1 (by decide); have h2 := lv_neT (a := 2) hc_2 (by decide); have h3 := lv_neT (a := 3) hc_3 (by decide); have h4 := lv_neT (a := 4) hc_4 (by decide); have h5 := lv_neT (a := 5) hc_5 (by decide); omega) (by decide) ?_
  refine lv_aload_n F.1 F.2.1 dX8_readOnce_179 rfl (lv_at hl 0 rfl) ?_
  refine gf_X8_29 F G hS dX8_readOnce_180 ?_
  refine lv_bipush (v := (17 : Int32)) F.1 F.2.1 dX8_readOnce_183 (by decide) ?_
  refine lv_aload_n F.1 F.2.1 dX8_readOnce_185 rfl (lv_at hl 0 rfl) ?_
  refine lv_iconst (v := (1 : Int32)) F.1 F.2.1 dX8_readOnce_186 (by decide) ?_
  refine lv_bipush (v := (9 : Int32)) F.1 F.2.1 dX8_readOnce_187 (by decide) ?_
  obtain ⟨q17, h_q17, h⟩ := bd h
  refine rVi F G hS hl.1 (c_X8_number l g σ τ (1 : Int32) (9 : Int32) q17 h_q17) lk_X8_117 ⟨rfl, rfl, Nat.le_of_ble_eq_true rfl, Nat.le_of_ble_eq_true rfl⟩ (rc_X8 G hS) rfl rfl (Nat.le_of_ble_eq_true rfl) dX8_readOnce_189 (kIi (fun H locs hS => ?_))
  refine lv_iconst (v := (3 : Int32)) F.1 F.2.1 dX8_readOnce_192 (by decide) ?_
  refine lv_isub F.1 F.2.1 dX8_readOnce_193 ?_
  refine x_iastL F G hS 66 rfl 17 rfl (by decide) dX8_readOnce_194 (fun H locs hS => ?_)
  obtain ⟨σ18, e_σ18, h⟩ := ltE h
  rw [← e_σ18] at hS
  clear e_σ18
  exact e_v F hS ⟨Option.some.inj h, rfl⟩ hr0 dX8_readOnce_195 hk0
