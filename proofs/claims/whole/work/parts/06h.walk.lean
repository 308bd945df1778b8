def f_X8_isHad (σ : ZI) (a1 : Int32) (a2 : Int32) : Option (Int32 × ZI) := (f_X8_sumOf σ (3 : Int32) a1 (0 : Int32)).bind (fun q1 => (f_X8_allWeight q1.2 (1 : Int32)).bind (fun q2 => if (lg_cmp (q1.1 * (10 : Int64)) (a2.toInt64 * q2)) < 0 then (some ((0 : Int32), q1.2)) else (some ((1 : Int32), q1.2))))
abbrev rm_X8_isHad : Room := { frames := 5, cells := 0, slots := 0, locals := 126 }
set_option maxHeartbeats 4000000 in
set_option maxRecDepth 100000 in
theorem c_X8_isHad (l : Launch) (g : GG) (σ : ZI) (τ : ZL) (a1 : Int32) (a2 : Int32) (res : Int32 × ZI) (h : f_X8_isHad σ a1 a2 = some res) : MI l yX8_isHad cX8_isHad 3 (some .boolean) rm_X8_isHad g [.ref (gA g 60), .int a1, .int a2] σ τ (fun (r : Int32) (u : ZI × ZL) => (r, u.1) = res ∧ u.2 = τ) := by
  refine Met_in (by decide) (Nat.le_of_ble_eq_true rfl) ?_
  intro p e s m args below meth c F G hP hr0 hk0 ls hl
  have hS := WS.start hP
  have hl : lv_has ls 3 [(0, .ref (gA g 60)), (1, .int a1), (2, .int a2)] := hl
  obtain ⟨H, hH⟩ : ∃ H, H = s.heap := ⟨_, rfl⟩
  rw [← hH] at hS ⊢
  clear hH hP
  rw [f_X8_isHad] at h
  obtain ⟨locs, hlo⟩ : ∃ z : List Loc, z = [] := ⟨_, rfl⟩
  rw [← hlo] at hS ⊢
  clear hlo
  refine lv_aload_n F.1 F.2.1 dX8_isHad_0 rfl (lv_at hl 0 rfl) ?_
  refine lv_iconst (v := (3 : Int32)) F.1 F.2.1 dX8_isHad_1 (by decide) ?_
  refine lv_iload_n F.1 F.2.1 dX8_isHad_2 rfl (lv_at hl 1 rfl) ?_
  refine lv_iconst (v := (0 : Int32)) F.1 F.2.1 dX8_isHad_3 (by decide) ?_
  obtain ⟨q1, h_q1, h⟩ := bd h
  refine rVl F G hS hl.1 (c_X8_sumOf l g σ τ (3 : Int32) a1 (0 : Int32) q1 h_q1) lk_X8_272 ⟨rfl, rfl, Nat.le_of_ble_eq_true rfl, Nat.le_of_ble_eq_true rfl⟩ (rc_X8 G hS) rfl rfl (Nat.le_of_ble_eq_true rfl) dX8_isHad_4 (kIl (fun H locs hS => ?_))
  refine lv_ldc2 (v := (10 : Int64)) F.1 F.2.1 F.2.2.2.1 (F.2.2.2.2 _ tb_1221) dX8_isHad_7 ?_
  refine lv_lmul F.1 F.2.1 dX8_isHad_10 ?_
  refine lv_iload_n F.1 F.2.1 dX8_isHad_11 rfl (lv_at hl 2 rfl) ?_
  refine lv_i2l F.1 F.2.1 dX8_isHad_12 rfl ?_
  refine lv_aload_n F.1 F.2.1 dX8_isHad_13 rfl (lv_at hl 0 rfl) ?_
  refine lv_iconst (v := (1 : Int32)) F.1 F.2.1 dX8_isHad_14 (by decide) ?_
  obtain ⟨q2, h_q2, h⟩ := bd h
  refine rVl F G hS hl.1 (c_X8_allWeight l g q1.2 τ (1 : Int32) q2 h_q2) lk_X8_276 ⟨rfl, rfl, Nat.le_of_ble_eq_true rfl, Nat.le_of_ble_eq_true rfl⟩ (rc_X8 G hS) rfl rfl (Nat.le_of_ble_eq_true rfl) dX8_isHad_15 (kRl (fun H locs hS => ?_))
  refine lv_lmul F.1 F.2.1 dX8_isHad_18 ?_
  refine W.lcmp F.1 F.2.1 dX8_isHad_19 ?_
  refine lv_if_lt (tgt := 27) F.1 F.2.1 dX8_isHad_20 (by decide) (fun hc => ?_) (fun hc => ?_)
  · replace h := ifT h hc
    refine lv_iconst (v := (0 : Int32)) F.1 F.2.1 dX8_isHad_27 (by decide) ?_
    exact e_z F hS (by decide) ⟨Option.some.inj h, rfl⟩ hr0 dX8_isHad_28 hk0
  replace h := ifF h hc
  refine lv_iconst (v := (1 : Int32)) F.1 F.2.1 dX8_isHad_23 (by decide) ?_
  refine lv_goto (tgt := 28) F.1 F.2.1 dX8_isHad_24 (by decide) ?_
  exact e_z F hS (by decide) ⟨Option.some.inj h, rfl⟩ hr0 dX8_isHad_28 hk0
def f_X8_areTenths (a1 : Int32) : Option (Int32) := (f_X8_in a1.toInt64 (1 : Int64) (10 : Int64)).bind (fun q1 => if q1 = 0 ∨ q1 = 1 then some q1 else none)
abbrev rm_X8_areTenths : Room := { frames := 1, cells := 0, slots := 0, locals := 25 }
set_option maxHeartbeats 4000000 in
set_option maxRecDepth 100000 in
theorem c_X8_areTenths (l : Launch) (g : GG) (σ : ZI) (τ : ZL) (a1 : Int32) (res : Int32) (h : f_X8_areTenths a1 = some res) : MI l yX8_areTenths cX8_areTenths 1 (some .boolean) rm_X8_areTenths g [.int a1] σ τ (fun (r : Int32) (u : ZI × ZL) => r = res ∧ u.1 = σ ∧ u.2 = τ) := by
  refine Met_in (by decide) (Nat.le_of_ble_eq_true rfl) ?_
  intro p e s m args below meth c F G hP hr0 hk0 ls hl
  have hS := WS.start hP
  have hl : lv_has ls 1 [(0, .int a1)] := hl
  obtain ⟨H, hH⟩ : ∃ H, H = s.heap := ⟨_, rfl⟩
  rw [← hH] at hS ⊢
  clear hH hP
  rw [f_X8_areTenths] at h
  obtain ⟨locs, hlo⟩ : ∃ z : List Loc, z = [] := ⟨_, rfl⟩
  rw [← hlo] at hS ⊢
  clear hlo
  refine lv_iload_n F.1 F.2.1 dX8_areTenths_0 rfl (lv_at hl 0 rfl) ?_
  refine lv_i2l F.1 F.2.1 dX8_areTenths_1 rfl ?_
  refine lv_lconst (v := (1 : Int64)) F.1 F.2.1 dX8_areTenths_2 (by decide) ?_
  refine lv_ldc2 (v := (10 : Int64)) F.1 F.2.1 F.2.2.2.1 (F.2.2.2.2 _ tb_1221) dX8_areTenths_3 ?_
  obtain ⟨q1, h_q1, h⟩ := bd h
  refine rSi F G hS hl.1 (c_X8_in l g σ τ a1.toInt64 (1 : Int64) (10 : Int64) q1 h_q1) lk_X8_71 ⟨rfl, rfl, Nat.le_of_ble_eq_true rfl, Nat.le_of_ble_eq_true rfl⟩  rfl rfl (Nat.le_of_ble_eq_true rfl) dX8_areTenths_6 (kRi (fun H locs hS => ?_))
  obtain ⟨hz, h⟩ := gd h
  exact e_z F hS hz ⟨Option.some.inj h, rfl, rfl⟩ hr0 dX8_areTenths_9 hk0
def f_X8_fog_95 (a1 : Int32) (a2 : Int32)  (σ : ZI) (v3 : Int32) : Option (Int32 × ZI) := (f_X8_copies σ (72 : Int32) (0 : Int32)).bind (fun q4 => some (v3, q4))
def f_X8_fog_88 (a1 : Int32) (a2 : Int32) (k_30 : ZI → Int32 → Int32 → Option (Int32 × ZI)) (σ : ZI) (v4 : Int32) (s0 : Int32) : Option (Int32 × ZI) := k_30 σ s0 (v4 + (1 : Int32))
def f_X8_fog_46 (a1 : Int32) (a2 : Int32) (k_30 : ZI → Int32 → Int32 → Option (Int32 × ZI)) : Nat → ZI → Int32 → Int32 → Option (Int32 × ZI)
  | 0, _, _, _ => none
  | n + 1, σ, v4, v5 => if (σ 60 5) ≤ v5 then ((f_X8_isHad σ a1 a2).bind (fun q5 => if q5.1 = 0 then (f_X8_fog_88 a1 a2 k_30 q5.2 v4 (-4 : Int32)) else (f_X8_fog_88 a1 a2 k_30 q5.2 v4 v4))) else (if inB ((3 : Int32) + v5) 90 = true then (lt_ (va_up σ 61 (upd (σ 61) ((3 : Int32) + v5).toNatClampNeg v4)) (fun σ6 => f_X8_fog_46 a1 a2 k_30 n σ6 v4 (v5 + (1 : Int32)))) else none)
def f_X8_fog_30 (a1 : Int32) (a2 : Int32)  : Nat → ZI → Int32 → Int32 → Option (Int32 × ZI)
  | 0, _, _, _ => none
  | n + 1, σ, v3, v4 => if (10 : Int32) < v4 then (f_X8_fog_95 a1 a2 σ v3) else (if v3 = (-4 : Int32) then (f_X8_fog_46 a1 a2 (fun σ v3 v4 => f_X8_fog_30 a1 a2 n σ v3 v4) 3000 σ v4 (0 : Int32)) else (f_X8_fog_95 a1 a2 σ v3))
def f_X8_fog (σ : ZI) (a1 : Int32) (a2 : Int32) : Option (Int32 × ZI) := (f_X8_isArm σ a1).bind (fun q1 => if q1 = 0 then (some ((-1 : Int32), σ)) else ((f_X8_areTenths a2).bind (fun q2 => if q2 = 0 then (some ((-1 : Int32), σ)) else ((f_X8_copies σ (0 : Int32) (72 : Int32)).bind (fun q3 => f_X8_fog_30 a1 a2 3000 q3 (-4 : Int32) (0 : Int32))))))
abbrev rm_X8_fog : Room := { frames := 6, cells := 0, slots := 0, locals := 148 }
set_option maxHeartbeats 4000000 in
set_option maxRecDepth 100000 in
theorem c_X8_fog (l : Launch) (g : GG) (σ : ZI) (τ : ZL) (a1 : Int32) (a2 : Int32) (res : Int32 × ZI) (h : f_X8_fog σ a1 a2 = some res) : MI l yX8_fog cX8_fog 6 (some .int) rm_X8_fog g [.ref (gA g 60), .int a1, .int a2] σ τ (fun (r : Int32) (u : ZI × ZL) => (r, u.1) = res ∧ u.2 = τ) := by
  refine Met_in (by decide) (Nat.le_of_ble_eq_true rfl) ?_
  intro p e s m args below meth c F G hP hr0 hk0 ls hl
  have hS := WS.start hP
  have hl : lv_has ls 6 [(0, .ref (gA g 60)), (1, .int a1), (2, .int a2)] := hl
  obtain ⟨H, hH⟩ : ∃ H, H = s.heap := ⟨_, rfl⟩
  rw [← hH] at hS ⊢
  clear hH hP
  rw [f_X8_fog] at h
  have w_95 : ∀ (σ : ZI) (v3 : Int32), f_X8_fog_95 a1 a2 σ v3 = some res → ∀ (H : Heap) (locs : List Loc) (ls : Array Slot), WS g σ τ s H locs → lv_has ls 6 [(0, .ref (gA g 60)), (3, .int v3)] → W p l e rm_X8_fog s m args below meth c H locs 0 0 (MQ below (va_Qi (fun (r : Int32) (u : ZI × ZL) => (r, u.1) = res ∧ u.2 = τ) (WQ g) (AA g)) args s 0 0 (AA g)) (F0 m 95 ls []) := by
    intro  σ v3 h H locs ls hS hl
    rw [f_X8_fog_95] at h
    refine lv_aload_n F.1 F.2.1 dX8_fog_95 rfl (lv_at hl 0 rfl) ?_
    refine lv_bipush (v := (72 : Int32)) F.1 F.2.1 dX8_fog_96 (by decide) ?_
    refine lv_iconst (v := (0 : Int32)) F.1 F.2.1 dX8_fog_98 (by decide) ?_
    obtain ⟨q4, h_q4, h⟩ := bd h
    refine rVv F G hS hl.1 (c_X8_copies l g σ τ (72 : Int32) (0 : Int32) q4 h_q4) lk_X8_292 ⟨rfl, rfl, Nat.le_of_ble_eq_true rfl, Nat.le_of_ble_eq_true rfl⟩ (rc_X8 G hS) rfl rfl (Nat.le_of_ble_eq_true rfl) dX8_fog_99 (kIv (fun H locs hS => ?_))
    refine lv_iload_n F.1 F.2.1 dX8_fog_102 rfl (lv_at hl 1 rfl) ?_
    exact e_i F hS ⟨Option.some.inj h, rfl⟩ hr0 dX8_fog_103 hk0
  have w_88 : ∀ (k_30 : ZI → Int32 → Int32 → Option (Int32 × ZI)) (hk_30 : ∀ (σ : ZI) (v3 : Int32) (v4 : Int32), k_30 σ v3 v4 = some res → ∀ (H : Heap) (locs : List Loc) (ls : Array Slot), WS g σ τ s H locs → lv_has ls 6 [(0, .ref (gA g 60)), (1, .int a1), (2, .int a2), (3, .int v3), (4, .int v4)] → W p l e rm_X8_fog s m args below meth c H locs 0 0 (MQ below (va_Qi (fun (r : Int32) (u : ZI × ZL) => (r, u.1) = res ∧ u.2 = τ) (WQ g) (AA g)) args s 0 0 (AA g)) (F0 m 30 ls [])) (σ : ZI) (v4 : Int32) (s0 : Int32), f_X8_fog_88 a1 a2 k_30 σ v4 s0 = some res → ∀ (H : Heap) (locs : List Loc) (ls : Array Slot), WS g σ τ s H locs → lv_has ls 6 [(0, .ref (gA g 60)), (1, .int a1), (2, .int a2), (4, .int v4)] → W p l e rm_X8_fog s m args below meth c H locs 0 0 (MQ below (va_Qi (fun (r : Int32) (u : ZI × ZL) => (r, u.1) = res ∧ u.2 = τ) (WQ g) (AA g)) args s 0 0 (AA g)) (F0 m 88 ls [.int s0]) := by
    intro k_30 hk_30 σ v4 s0 h H locs ls hS hl
    rw [f_X8_fog_88] at h
    refine lv_istore_n (lv' := [(3, .int s0), (0, .ref (gA g 60)), (1, .int a1), (2, .int a2), (4, .int v4)]) F.1 F.2.1 dX8_fog_88 rfl hl (by decide) rfl (fun ls hl => ?_)
    refine lv_iinc (v := (v4 + (1 : Int32))) (lv' := [(4, .int (v4 + (1 : Int32))), (3, .int s0), (0, .ref (gA g 60)), (1, .int a1), (2, .int a2)]) F.1 F.2.1 dX8_fog_89 hl (k := 4) rfl rfl (by decide) rfl (fun ls hl => ?_)
    refine lv_goto (tgt := 30) F.1 F.2.1 dX8_fog_92 (by decide) ?_
    exact hk_30 σ s0 (v4 + (1 : Int32)) h H locs _ hS (lv_sub hl [2, 3, 4, 1, 0] rfl)
  have w_46 : ∀ (k_30 : ZI → Int32 → Int32 → Option (Int32 × ZI)) (hk_30 : ∀ (σ : ZI) (v3 : Int32) (v4 : Int32), k_30 σ v3 v4 = some res → ∀ (H : Heap) (locs : List Loc) (ls : Array Slot), WS g σ τ s H locs → lv_has ls 6 [(0, .ref (gA g 60)), (1, .int a1), (2, .int a2), (3, .int v3), (4, .int v4)] → W p l e rm_X8_fog s m args below meth c H locs 0 0 (MQ below (va_Qi (fun (r : Int32) (u : ZI × ZL) => (r, u.1) = res ∧ u.2 = τ) (WQ g) (AA g)) args s 0 0 (AA g)) (F0 m 30 ls [])) (n : Nat) (σ : ZI) (v4 : Int32) (v5 : Int32), f_X8_fog_46 a1 a2 k_30 n σ v4 v5 = some res → ∀ (H : Heap) (locs : List Loc) (ls : Array Slot), WS g σ τ s H locs → lv_has ls 6 [(0, .ref (gA g 60)), (1, .int a1), (2, .int a2), (4, .int v4), (5, .int v5)] → W p l e rm_X8_fog s m args below meth c H locs 0 0 (MQ below (va_Qi (fun (r : Int32) (u : ZI × ZL) => (r, u.1) = res ∧ u.2 = τ) (WQ g) (AA g)) args s 0 0 (AA g)) (F0 m 46 ls []) := by
    intro k_30 hk_30
    intro n
    induction n with
    | zero => intro σ v4 v5 h; rw [f_X8_fog_46] at h; cases h
    | succ n ih =>
      intro σ v4 v5 h H locs ls hS hl
      rw [f_X8_fog_46] at h
      refine lv_iload F.1 F.2.1 dX8_fog_46 (lv_at hl 4 rfl) ?_
      refine lv_aload_n F.1 F.2.1 dX8_fog_48 rfl (lv_at hl 0 rfl) ?_
      refine gf_X8_170 F G hS dX8_fog_49 ?_
      refine lv_icmp_ge (tgt := 72) F.1 F.2.1 dX8_fog_52 (by decide) (fun hc => ?_) (fun hc => ?_)
      · replace h := ifT h hc
        refine lv_aload_n F.1 F.2.1 dX8_fog_72 rfl (lv_at hl 0 rfl) ?_
        refine lv_iload_n F.1 F.2.1 dX8_fog_73 rfl (lv_at hl 1 rfl) ?_
        refine lv_iload_n F.1 F.2.1 dX8_fog_74 rfl (lv_at hl 2 rfl) ?_
        obtain ⟨q5, h_q5, h⟩ := bd h
        refine rVi F G hS hl.1 (c_X8_isHad l g σ τ a1 a2 q5 h_q5) lk_X8_298 ⟨rfl, rfl, Nat.le_of_ble_eq_true rfl, Nat.le_of_ble_eq_true rfl⟩ (rc_X8 G hS) rfl rfl (Nat.le_of_ble_eq_true rfl) dX8_fog_75 (kIi (fun H locs hS => ?_))
        refine lv_if_eq (tgt := 86) F.1 F.2.1 dX8_fog_78 (by decide) (fun hc => ?_) (fun hc => ?_)
        · replace h := ifT h hc
          refine lv_bipush (v := (-4 : Int32)) F.1 F.2.1 dX8_fog_86 (by decide) ?_
          exact w_88 _ hk_30 q5.2 v4 (-4 : Int32) h H locs _ hS (lv_sub hl [0, 1, 2, 3] rfl)
        replace h := ifF h hc
        refine lv_iload F.1 F.2.1 dX8_fog_81 (lv_at hl 3 rfl) ?_
        refine lv_goto (tgt := 88) F.1 F.2.1 dX8_fog_83 (by decide) ?_
        exact w_88 _ hk_30 q5.2 v4 v4 h H locs _ hS (lv_sub hl [0, 1, 2, 3] rfl)
      replace h := ifF h hc
      refine lv_aload_n F.1 F.2.1 dX8_fog_55 rfl (lv_at hl 0 rfl) ?_
      refine gf_X8_7 F G hS dX8_fog_56 ?_
      refine lv_iconst (v := (3 : Int32)) F.1 F.2.1 dX8_fog_59 (by decide) ?_
      refine lv_iload F.1 F.2.1 dX8_fog_60 (lv_at hl 4 rfl) ?_
      refine lv_iadd F.1 F.2.1 dX8_fog_62 ?_
      refine lv_iload F.1 F.2.1 dX8_fog_63 (lv_at hl 3 rfl) ?_
      obtain ⟨hin, h⟩ := gd h
      refine x_iast F G hS 61 rfl hin dX8_fog_65 (fun H locs hS => ?_)
      obtain ⟨σ6, e_σ6, h⟩ := ltE h
      rw [← e_σ6] at hS
      clear e_σ6
      refine lv_iinc (v := (v5 + (1 : Int32))) (lv' := [(5, .int (v5 + (1 : Int32))), (0, .ref (gA g 60)), (1, .int a1), (2, .int a2), (4, .int v4)]) F.1 F.2.1 dX8_fog_66 hl (k := 4) rfl rfl (by decide) rfl (fun ls hl => ?_)
      refine lv_goto (tgt := 46) F.1 F.2.1 dX8_fog_69 (by decide) ?_
      exact ih σ6 v4 (v5 + (1 : Int32)) h H locs _ hS (lv_sub hl [1, 2, 3, 4, 0] rfl)
  have w_30 : ∀ (n : Nat) (σ : ZI) (v3 : Int32) (v4 : Int32), f_X8_fog_30 a1 a2 n σ v3 v4 = some res → ∀ (H : Heap) (locs : List Loc) (ls : Array Slot), WS g σ τ s H locs → lv_has ls 6 [(0, .ref (gA g 60)), (1, .int a1), (2, .int a2), (3, .int v3), (4, .int v4)] → W p l e rm_X8_fog s m args below meth c H locs 0 0 (MQ below (va_Qi (fun (r : Int32) (u : ZI × ZL) => (r, u.1) = res ∧ u.2 = τ) (WQ g) (AA g)) args s 0 0 (AA g)) (F0 m 30 ls []) := by
    intro n
    induction n with
    | zero => intro σ v3 v4 h; rw [f_X8_fog_30] at h; cases h
    | succ n ih =>
      intro σ v3 v4 h H locs ls hS hl
      rw [f_X8_fog_30] at h
      refine lv_iload F.1 F.2.1 dX8_fog_30 (lv_at hl 4 rfl) ?_
      refine lv_bipush (v := (10 : Int32)) F.1 F.2.1 dX8_fog_32 (by decide) ?_
      refine lv_icmp_gt (tgt := 95) F.1 F.2.1 dX8_fog_34 (by decide) (fun hc => ?_) (fun hc => ?_)
      · replace h := ifT h hc
        exact w_95 σ v3 h H locs _ hS (lv_sub hl [0, 3] rfl)
      replace h := ifF h hc
      refine lv_iload_n F.1 F.2.1 dX8_fog_37 rfl (lv_at hl 3 rfl) ?_
      refine lv_bipush (v := (-4 : Int32)) F.1 F.2.1 dX8_fog_38 (by decide) ?_
      refine lv_icmp_ne (tgt := 95) F.1 F.2.1 dX8_fog_40 (by decide) (fun hc => ?_) (fun hc => ?_)
      · replace h := ifF h hc
        exact w_95 σ v3 h H locs _ hS (lv_sub hl [0, 3] rfl)
      replace h := ifT h hc
      refine lv_iconst (v := (0 : Int32)) F.1 F.2.1 dX8_fog_43 (by decide) ?_
      refine lv_istore (lv' := [(5, .int (0 : Int32)), (0, .ref (gA g 60)), (1, .int a1), (2, .int a2), (3, .int v3), (4, .int v4)]) F.1 F.2.1 dX8_fog_44 hl (by decide) rfl (fun ls hl => ?_)
      exact w_46 _ (fun σ v3 v4 => ih σ v3 v4) 3000 σ v4 (0 : Int32) h H locs _ hS (lv_sub hl [1, 2, 3, 5, 0] rfl)
  obtain ⟨locs, hlo⟩ : ∃ z : List Loc, z = [] := ⟨_, rfl⟩
  rw [← hlo] at hS ⊢
  clear hlo
  refine lv_aload_n F.1 F.2.1 dX8_fog_0 rfl (lv_at hl 0 rfl) ?_
  refine lv_iload_n F.1 F.2.1 dX8_fog_1 rfl (lv_at hl 1 rfl) ?_
  obtain ⟨q1, h_q1, h⟩ := bd h
  refine rVi F G hS hl.1 (c_X8_isArm l g σ τ a1 q1 h_q1) lk_X8_188 ⟨rfl, rfl, Nat.le_of_ble_eq_true rfl, Nat.le_of_ble_eq_true rfl⟩ (rc_X8 G hS) rfl rfl (Nat.le_of_ble_eq_true rfl) dX8_fog_2 (kRi (fun H locs hS => ?_))
  refine lv_if_eq (tgt := 15) F.1 F.2.1 dX8_fog_5 (by decide) (fun hc => ?_) (fun hc => ?_)
  · replace h := ifT h hc
    refine lv_iconst (v := (-1 : Int32)) F.1 F.2.1 dX8_fog_15 (by decide) ?_
    exact e_i F hS ⟨Option.some.inj h, rfl⟩ hr0 dX8_fog_16 hk0
  replace h := ifF h hc
  refine lv_iload_n F.1 F.2.1 dX8_fog_8 rfl (lv_at hl 2 rfl) ?_
  obtain ⟨q2, h_q2, h⟩ := bd h
  refine rSi F G hS hl.1 (c_X8_areTenths l g σ τ a2 q2 h_q2) lk_X8_295 ⟨rfl, rfl, Nat.le_of_ble_eq_true rfl, Nat.le_of_ble_eq_true rfl⟩  rfl rfl (Nat.le_of_ble_eq_true rfl) dX8_fog_9 (kRi (fun H locs hS => ?_))
  refine lv_if_ne (tgt := 17) F.1 F.2.1 dX8_fog_12 (by decide) (fun hc => ?_) (fun hc => ?_)
  rotate_left
  · replace h := ifT h hc
    refine lv_iconst (v := (-1 : Int32)) F.1 F.2.1 dX8_fog_15 (by decide) ?_
    exact e_i F hS ⟨Option.some.inj h, rfl⟩ hr0 dX8_fog_16 hk0
  replace h := ifF h hc
  refine lv_bipush (v := (-4 : Int32)) F.1 F.2.1 dX8_fog_17 (by decide) ?_
  refine lv_istore_n (lv' := [(3, .int (-4 : Int32)), (0, .ref (gA g 60)), (1, .int a1), (2, .int a2)]) F.1 F.2.1 dX8_fog_19 rfl hl (by decide) rfl (fun ls hl => ?_)
  refine lv_aload_n F.1 F.2.1 dX8_fog_20 rfl (lv_at hl 1 rfl) ?_
  refine lv_iconst (v := (0 : Int32)) F.1 F.2.1 dX8_fog_21 (by decide) ?_
  refine lv_bipush (v := (72 : Int32)) F.1 F.2.1 dX8_fog_22 (by decide) ?_
  obtain ⟨q3, h_q3, h⟩ := bd h
  refine rVv F G hS hl.1 (c_X8_copies l g σ τ (0 : Int32) (72 : Int32) q3 h_q3) lk_X8_292 ⟨rfl, rfl, Nat.le_of_ble_eq_true rfl, Nat.le_of_ble_eq_true rfl⟩ (rc_X8 G hS) rfl rfl (Nat.le_of_ble_eq_true rfl) dX8_fog_24 (kIv (fun H locs hS => ?_))
  refine lv_iconst (v := (0 : Int32)) F.1 F.2.1 dX8_fog_27 (by decide) ?_
  refine lv_istore (lv' := [(4, .int (0 : Int32)), (3, .int (-4 : Int32)), (0, .ref (gA g 60)), (1, .int a1), (2, .int a2)]) F.1 F.2.1 dX8_fog_28 hl (by decide) rfl (fun ls hl => ?_)
  exact w_30 3000 q3 (-4 : Int32) (0 : Int32) h H locs _ hS (lv_sub hl [2, 3, 4, 1, 0] rfl)
def f_X8_fast_76 (a1 : Int32) (a2 : Int32)  (σ : ZI) (v3 : Int32) : Option (Int32 × ZI) := (f_X8_copies σ (72 : Int32) (0 : Int32)).bind (fun q4 => some (v3, q4))
def f_X8_fast_69 (a1 : Int32) (a2 : Int32) (k_31 : ZI → Int32 → Int32 → Option (Int32 × ZI)) (σ : ZI) (v4 : Int32) (s0 : Int32) : Option (Int32 × ZI) := k_31 σ s0 (v4 + (-1 : Int32))
def f_X8_fast_31 (a1 : Int32) (a2 : Int32)  : Nat → ZI → Int32 → Int32 → Option (Int32 × ZI)
  | 0, _, _, _ => none
  | n + 1, σ, v3, v4 => if v4 ≤ 0 then (f_X8_fast_76 a1 a2 σ v3) else (if v3 = (-4 : Int32) then (lt_ (va_up σ 61 (upd (σ 61) 14 (v4 - (5 : Int32)))) (fun σ5 => (f_X8_isHad σ5 a1 a2).bind (fun q6 => if q6.1 = 0 then (f_X8_fast_69 a1 a2 (fun σ v3 v4 => f_X8_fast_31 a1 a2 n σ v3 v4) q6.2 v4 (-4 : Int32)) else (f_X8_fast_69 a1 a2 (fun σ v3 v4 => f_X8_fast_31 a1 a2 n σ v3 v4) q6.2 v4 v4)))) else (f_X8_fast_76 a1 a2 σ v3))
def f_X8_fast (σ : ZI) (a1 : Int32) (a2 : Int32) : Option (Int32 × ZI) := (f_X8_isArm σ a1).bind (fun q1 => if q1 = 0 then (some ((-1 : Int32), σ)) else ((f_X8_areTenths a2).bind (fun q2 => if q2 = 0 then (some ((-1 : Int32), σ)) else ((f_X8_copies σ (0 : Int32) (72 : Int32)).bind (fun q3 => f_X8_fast_31 a1 a2 3000 q3 (-4 : Int32) (9 : Int32))))))
abbrev rm_X8_fast : Room := { frames := 6, cells := 0, slots := 0, locals := 148 }
set_option maxHeartbeats 4000000 in
set_option maxRecDepth 100000 in
theorem c_X8_fast (l : Launch) (g : GG) (σ : ZI) (τ : ZL) (a1 : Int32) (a2 : Int32) (res : Int32 × ZI) (h : f_X8_fast σ a1 a2 = some res) : MI l yX8_fast cX8_fast 5 (some .int) rm_X8_fast g [.ref (gA g 60), .int a1, .int a2] σ τ (fun (r : Int32) (u : ZI × ZL) => (r, u.1) = res ∧ u.2 = τ) := by
  refine Met_in (by decide) (Nat.le_of_ble_eq_true rfl) ?_
  intro p e s m args below meth c F G hP hr0 hk0 ls hl
  have hS := WS.start hP
  have hl : lv_has ls 5 [(0, .ref (gA g 60)), (1, .int a1), (2, .int a2)] := hl
  obtain ⟨H, hH⟩ : ∃ H, H = s.heap := ⟨_, rfl⟩
  rw [← hH] at hS ⊢
  clear hH hP
  rw [f_X8_fast] at h
  have w_76 : ∀ (σ : ZI) (v3 : Int32), f_X8_fast_76 a1 a2 σ v3 = some res → ∀ (H : Heap) (locs : List Loc) (ls : Array Slot), WS g σ τ s H locs → lv_has ls 5 [(0, .ref (gA g 60)), (3, .int v3)] → W p l e rm_X8_fast s m args below meth c H locs 0 0 (MQ below (va_Qi (fun (r : Int32) (u : ZI × ZL) => (r, u.1) = res ∧ u.2 = τ) (WQ g) (AA g)) args s 0 0 (AA g)) (F0 m 76 ls []) := by
    intro  σ v3 h H locs ls hS hl
    rw [f_X8_fast_76] at h
    refine lv_aload_n F.1 F.2.1 dX8_fast_76 rfl (lv_at hl 0 rfl) ?_
    refine lv_bipush (v := (72 : Int32)) F.1 F.2.1 dX8_fast_77 (by decide) ?_
    refine lv_iconst (v := (0 : Int32)) F.1 F.2.1 dX8_fast_79 (by decide) ?_
    obtain ⟨q4, h_q4, h⟩ := bd h
    refine rVv F G hS hl.1 (c_X8_copies l g σ τ (72 : Int32) (0 : Int32) q4 h_q4) lk_X8_292 ⟨rfl, rfl, Nat.le_of_ble_eq_true rfl, Nat.le_of_ble_eq_true rfl⟩ (rc_X8 G hS) rfl rfl (Nat.le_of_ble_eq_true rfl) dX8_fast_80 (kIv (fun H locs hS => ?_))
    refine lv_iload_n F.1 F.2.1 dX8_fast_83 rfl (lv_at hl 1 rfl) ?_
    exact e_i F hS ⟨Option.some.inj h, rfl⟩ hr0 dX8_fast_84 hk0
  have w_69 : ∀ (k_31 : ZI → Int32 → Int32 → Option (Int32 × ZI)) (hk_31 : ∀ (σ : ZI) (v3 : Int32) (v4 : Int32), k_31 σ v3 v4 = some res → ∀ (H : Heap) (locs : List Loc) (ls : Array Slot), WS g σ τ s H locs → lv_has ls 5 [(0, .ref (gA g 60)), (1, .int a1), (2, .int a2), (3, .int v3), (4, .int v4)] → W p l e rm_X8_fast s m args below meth c H locs 0 0 (MQ below (va_Qi (fun (r : Int32) (u : ZI × ZL) => (r, u.1) = res ∧ u.2 = τ) (WQ g) (AA g)) args s 0 0 (AA g)) (F0 m 31 ls [])) (σ : ZI) (v4 : Int32) (s0 : Int32), f_X8_fast_69 a1 a2 k_31 σ v4 s0 = some res → ∀ (H : Heap) (locs : List Loc) (ls : Array Slot), WS g σ τ s H locs → lv_has ls 5 [(0, .ref (gA g 60)), (1, .int a1), (2, .int a2), (4, .int v4)] → W p l e rm_X8_fast s m args below meth c H locs 0 0 (MQ below (va_Qi (fun (r : Int32) (u : ZI × ZL) => (r, u.1) = res ∧ u.2 = τ) (WQ g) (AA g)) args s 0 0 (AA g)) (F0 m 69 ls [.int s0]) := by
    intro k_31 hk_31 σ v4 s0 h H locs ls hS hl
    rw [f_X8_fast_69] at h
    refine lv_istore_n (lv' := [(3, .int s0), (0, .ref (gA g 60)), (1, .int a1), (2, .int a2), (4, .int v4)]) F.1 F.2.1 dX8_fast_69 rfl hl (by decide) rfl (fun ls hl => ?_)
    refine lv_iinc (v := (v4 + (-1 : Int32))) (lv' := [(4, .int (v4 + (-1 : Int32))), (3, .int s0), (0, .ref (gA g 60)), (1, .int a1), (2, .int a2)]) F.1 F.2.1 dX8_fast_70 hl (k := 4) rfl rfl (by decide) rfl (fun ls hl => ?_)
    refine lv_goto (tgt := 31) F.1 F.2.1 dX8_fast_73 (by decide) ?_
    exact hk_31 σ s0 (v4 + (-1 : Int32)) h H locs _ hS (lv_sub hl [2, 3, 4, 1, 0] rfl)
  have w_31 : ∀ (n : Nat) (σ : ZI) (v3 : Int32) (v4 : Int32), f_X8_fast_31 a1 a2 n σ v3 v4 = some res → ∀ (H : Heap) (locs : List Loc) (ls : Array Slot), WS g σ τ s H locs → lv_has ls 5 [(0, .ref (gA g 60)), (1, .int a1), (2, .int a2), (3, .int v3), (4, .int v4)] → W p l e rm_X8_fast s m args below meth c H locs 0 0 (MQ below (va_Qi (fun (r : Int32) (u : ZI × ZL) => (r, u.1) = res ∧ u.2 = τ) (WQ g) (AA g)) args s 0 0 (AA g)) (F0 m 31 ls []) := by
    intro n
    induction n with
    | zero => intro σ v3 v4 h; rw [f_X8_fast_31] at h; cases h
    | succ n ih =>
      intro σ v3 v4 h H locs ls hS hl
      rw [f_X8_fast_31] at h
      refine lv_iload F.1 F.2.1 dX8_fast_31 (lv_at hl 4 rfl) ?_
      refine lv_if_le (tgt := 76) F.1 F.2.1 dX8_fast_33 (by decide) (fun hc => ?_) (fun hc => ?_)
      · replace h := ifT h hc
        exact w_76 σ v3 h H locs _ hS (lv_sub hl [0, 3] rfl)
      replace h := ifF h hc
      refine lv_iload_n F.1 F.2.1 dX8_fast_36 rfl (lv_at hl 3 rfl) ?_
      refine lv_bipush (v := (-4 : Int32)) F.1 F.2.1 dX8_fast_37 (by decide) ?_
      refine lv_icmp_ne (tgt := 76) F.1 F.2.1 dX8_fast_39 (by decide) (fun hc => ?_) (fun hc => ?_)
      · replace h := ifF h hc
        exact w_76 σ v3 h H locs _ hS (lv_sub hl [0, 3] rfl)
      replace h := ifT h hc
      refine lv_aload_n F.1 F.2.1 dX8_fast_42 rfl (lv_at hl 0 rfl) ?_
      refine gf_X8_7 F G hS dX8_fast_43 ?_
      refine lv_bipush (v := (14 : Int32)) F.1 F.2.1 dX8_fast_46 (by decide) ?_
      refine lv_iload F.1 F.2.1 dX8_fast_48 (lv_at hl 4 rfl) ?_
      refine lv_iconst (v := (5 : Int32)) F.1 F.2.1 dX8_fast_50 (by decide) ?_
      refine lv_isub F.1 F.2.1 dX8_fast_51 ?_
      refine x_iastL F G hS 61 rfl 14 rfl (by decide) dX8_fast_52 (fun H locs hS => ?_)
      obtain ⟨σ5, e_σ5, h⟩ := ltE h
      rw [← e_σ5] at hS
      clear e_σ5
      refine lv_aload_n F.1 F.2.1 dX8_fast_53 rfl (lv_at hl 0 rfl) ?_
      refine lv_iload_n F.1 F.2.1 dX8_fast_54 rfl (lv_at hl 1 rfl) ?_
      refine lv_iload_n F.1 F.2.1 dX8_fast_55 rfl (lv_at hl 2 rfl) ?_
      obtain ⟨q6, h_q6, h⟩ := bd h
      refine rVi F G hS hl.1 (c_X8_isHad l g σ5 τ a1 a2 q6 h_q6) lk_X8_298 ⟨rfl, rfl, Nat.le_of_ble_eq_true rfl, Nat.le_of_ble_eq_true rfl⟩ (rc_X8 G hS) rfl rfl (Nat.le_of_ble_eq_true rfl) dX8_fast_56 (kIi (fun H locs hS => ?_))
      refine lv_if_eq (tgt := 67) F.1 F.2.1 dX8_fast_59 (by decide) (fun hc => ?_) (fun hc => ?_)
      · replace h := ifT h hc
        refine lv_bipush (v := (-4 : Int32)) F.1 F.2.1 dX8_fast_67 (by decide) ?_
        exact w_69 _ (fun σ v3 v4 => ih σ v3 v4) q6.2 v4 (-4 : Int32) h H locs _ hS (lv_sub hl [0, 1, 2, 4] rfl)
      replace h := ifF h hc
      refine lv_iload F.1 F.2.1 dX8_fast_62 (lv_at hl 4 rfl) ?_
      refine lv_goto (tgt := 69) F.1 F.2.1 dX8_fast_64 (by decide) ?_
      exact w_69 _ (fun σ v3 v4 => ih σ v3 v4) q6.2 v4 v4 h H locs _ hS (lv_sub hl [0, 1, 2, 4] rfl)
  obtain ⟨locs, hlo⟩ : ∃ z : List Loc, z = [] := ⟨_, rfl⟩
  rw [← hlo] at hS ⊢
  clear hlo
  refine lv_aload_n F.1 F.2.1 dX8_fast_0 rfl (lv_at hl 0 rfl) ?_
  refine lv_iload_n F.1 F.2.1 dX8_fast_1 rfl (lv_at hl 1 rfl) ?_
  obtain ⟨q1, h_q1, h⟩ := bd h
  refine rVi F G hS hl.1 (c_X8_isArm l g σ τ a1 q1 h_q1) lk_X8_188 ⟨rfl, rfl, Nat.le_of_ble_eq_true rfl, Nat.le_of_ble_eq_true rfl⟩ (rc_X8 G hS) rfl rfl (Nat.le_of_ble_eq_true rfl) dX8_fast_2 (kRi (fun H locs hS => ?_))
  refine lv_if_eq (tgt := 15) F.1 F.2.1 dX8_fast_5 (by decide) (fun hc => ?_) (fun hc => ?_)
  · replace h := ifT h hc
    refine lv_iconst (v := (-1 : Int32)) F.1 F.2.1 dX8_fast_15 (by decide) ?_
    exact e_i F hS ⟨Option.some.inj h, rfl⟩ hr0 dX8_fast_16 hk0
  replace h := ifF h hc
  refine lv_iload_n F.1 F.2.1 dX8_fast_8 rfl (lv_at hl 2 rfl) ?_
  obtain ⟨q2, h_q2, h⟩ := bd h
  refine rSi F G hS hl.1 (c_X8_areTenths l g σ τ a2 q2 h_q2) lk_X8_295 ⟨rfl, rfl, Nat.le_of_ble_eq_true rfl, Nat.le_of_ble_eq_true rfl⟩  rfl rfl (Nat.le_of_ble_eq_true rfl) dX8_fast_9 (kRi (fun H locs hS => ?_))
  refine lv_if_ne (tgt := 17) F.1 F.2.1 dX8_fast_12 (by decide) (fun hc => ?_) (fun hc => ?_)
  rotate_left
  · replace h := ifT h hc
    refine lv_iconst (v := (-1 : Int32)) F.1 F.2.1 dX8_fast_15 (by decide) ?_
    exact e_i F hS ⟨Option.some.inj h, rfl⟩ hr0 dX8_fast_16 hk0
  replace h := ifF h hc
  refine lv_bipush (v := (-4 : Int32)) F.1 F.2.1 dX8_fast_17 (by decide) ?_
  refine lv_istore_n (lv' := [(3, .int (-4 : Int32)), (0, .ref (gA g 60)), (1, .int a1), (2, .int a2)]) F.1 F.2.1 dX8_fast_19 rfl hl (by decide) rfl (fun ls hl => ?_)
  refine lv_aload_n F.1 F.2.1 dX8_fast_20 rfl (lv_at hl 1 rfl) ?_
  refine lv_iconst (v := (0 : Int32)) F.1 F.2.1 dX8_fast_21 (by decide) ?_
  refine lv_bipush (v := (72 : Int32)) F.1 F.2.1 dX8_fast_22 (by decide) ?_
  obtain ⟨q3, h_q3, h⟩ := bd h
  refine rVv F G hS hl.1 (c_X8_copies l g σ τ (0 : Int32) (72 : Int32) q3 h_q3) lk_X8_292 ⟨rfl, rfl, Nat.le_of_ble_eq_true rfl, Nat.le_of_ble_eq_true rfl⟩ (rc_X8 G hS) rfl rfl (Nat.le_of_ble_eq_true rfl) dX8_fast_24 (kIv (fun H locs hS => ?_))
  refine lv_bipush (v := (9 : Int32)) F.1 F.2.1 dX8_fast_27 (by decide) ?_
  refine lv_istore (lv' := [(4, .int (9 : Int32)), (3, .int (-4 : Int32)), (0, .ref (gA g 60)), (1, .int a1), (2, .int a2)]) F.1 F.2.1 dX8_fast_29 hl (by decide) rfl (fun ls hl => ?_)
  exact w_31 3000 q3 (-4 : Int32) (9 : Int32) h H locs _ hS (lv_sub hl [2, 3, 4, 1, 0] rfl)
def f_X8_slack_76 (a1 : Int32) (a2 : Int32)  (σ : ZI) (v3 : Int32) : Option (Int32 × ZI) := (f_X8_copies σ (72 : Int32) (0 : Int32)).bind (fun q4 => some (v3, q4))
def f_X8_slack_69 (a1 : Int32) (a2 : Int32) (k_31 : ZI → Int32 → Int32 → Option (Int32 × ZI)) (σ : ZI) (v4 : Int32) (s0 : Int32) : Option (Int32 × ZI) := k_31 σ s0 (v4 + (-1 : Int32))
def f_X8_slack_31 (a1 : Int32) (a2 : Int32)  : Nat → ZI → Int32 → Int32 → Option (Int32 × ZI)
  | 0, _, _, _ => none
  | n + 1, σ, v3, v4 => if v4 < 0 then (f_X8_slack_76 a1 a2 σ v3) else (if v3 = (-4 : Int32) then (lt_ (va_up σ 61 (upd (σ 61) 13 (v4 - (1 : Int32)))) (fun σ5 => (f_X8_isHad σ5 a1 a2).bind (fun q6 => if q6.1 = 0 then (f_X8_slack_69 a1 a2 (fun σ v3 v4 => f_X8_slack_31 a1 a2 n σ v3 v4) q6.2 v4 (-4 : Int32)) else (f_X8_slack_69 a1 a2 (fun σ v3 v4 => f_X8_slack_31 a1 a2 n σ v3 v4) q6.2 v4 v4)))) else (f_X8_slack_76 a1 a2 σ v3))
def f_X8_slack (σ : ZI) (a1 : Int32) (a2 : Int32) : Option (Int32 × ZI) := (f_X8_isArm σ a1).bind (fun q1 => if q1 = 0 then (some ((-1 : Int32), σ)) else ((f_X8_areTenths a2).bind (fun q2 => if q2 = 0 then (some ((-1 : Int32), σ)) else ((f_X8_copies σ (0 : Int32) (72 : Int32)).bind (fun q3 => f_X8_slack_31 a1 a2 3000 q3 (-4 : Int32) (10 : Int32))))))
abbrev rm_X8_slack : Room := { frames := 6, cells := 0, slots := 0, locals := 148 }
set_option maxHeartbeats 4000000 in
set_option maxRecDepth 100000 in
theorem c_X8_slack (l : Launch) (g : GG) (σ : ZI) (τ : ZL) (a1 : Int32) (a2 : Int32) (res : Int32 × ZI) (h : f_X8_slack σ a1 a2 = some res) : MI l yX8_slack cX8_slack 5 (some .int) rm_X8_slack g [.ref (gA g 60), .int a1, .int a2] σ τ (fun (r : Int32) (u : ZI × ZL) => (r, u.1) = res ∧ u.2 = τ) := by
  refine Met_in (by decide) (Nat.le_of_ble_eq_true rfl) ?_
  intro p e s m args below meth c F G hP hr0 hk0 ls hl
  have hS := WS.start hP
  have hl : lv_has ls 5 [(0, .ref (gA g 60)), (1, .int a1), (2, .int a2)] := hl
  obtain ⟨H, hH⟩ : ∃ H, H = s.heap := ⟨_, rfl⟩
  rw [← hH] at hS ⊢
  clear hH hP
  rw [f_X8_slack] at h
  have w_76 : ∀ (σ : ZI) (v3 : Int32), f_X8_slack_76 a1 a2 σ v3 = some res → ∀ (H : Heap) (locs : List Loc) (ls : Array Slot), WS g σ τ s H locs → lv_has ls 5 [(0, .ref (gA g 60)), (3, .int v3)] → W p l e rm_X8_slack s m args below meth c H locs 0 0 (MQ below (va_Qi (fun (r : Int32) (u : ZI × ZL) => (r, u.1) = res ∧ u.2 = τ) (WQ g) (AA g)) args s 0 0 (AA g)) (F0 m 76 ls []) := by
    intro  σ v3 h H locs ls hS hl
    rw [f_X8_slack_76] at h
    refine lv_aload_n F.1 F.2.1 dX8_slack_76 rfl (lv_at hl 0 rfl) ?_
    refine lv_bipush (v := (72 : Int32)) F.1 F.2.1 dX8_slack_77 (by decide) ?_
    refine lv_iconst (v := (0 : Int32)) F.1 F.2.1 dX8_slack_79 (by decide) ?_
    obtain ⟨q4, h_q4, h⟩ := bd h
    refine rVv F G hS hl.1 (c_X8_copies l g σ τ (72 : Int32) (0 : Int32) q4 h_q4) lk_X8_292 ⟨rfl, rfl, Nat.le_of_ble_eq_true rfl, Nat.le_of_ble_eq_true rfl⟩ (rc_X8 G hS) rfl rfl (Nat.le_of_ble_eq_true rfl) dX8_slack_80 (kIv (fun H locs hS => ?_))
    refine lv_iload_n F.1 F.2.1 dX8_slack_83 rfl (lv_at hl 1 rfl) ?_
    exact e_i F hS ⟨Option.some.inj h, rfl⟩ hr0 dX8_slack_84 hk0
  have w_69 : ∀ (k_31 : ZI → Int32 → Int32 → Option (Int32 × ZI)) (hk_31 : ∀ (σ : ZI) (v3 : Int32) (v4 : Int32), k_31 σ v3 v4 = some res → ∀ (H : Heap) (locs : List Loc) (ls : Array Slot), WS g σ τ s H locs → lv_has ls 5 [(0, .ref (gA g 60)), (1, .int a1), (2, .int a2), (3, .int v3), (4, .int v4)] → W p l e rm_X8_slack s m args below meth c H locs 0 0 (MQ below (va_Qi (fun (r : Int32) (u : ZI × ZL) => (r, u.1) = res ∧ u.2 = τ) (WQ g) (AA g)) args s 0 0 (AA g)) (F0 m 31 ls [])) (σ : ZI) (v4 : Int32) (s0 : Int32), f_X8_slack_69 a1 a2 k_31 σ v4 s0 = some res → ∀ (H : Heap) (locs : List Loc) (ls : Array Slot), WS g σ τ s H locs → lv_has ls 5 [(0, .ref (gA g 60)), (1, .int a1), (2, .int a2), (4, .int v4)] → W p l e rm_X8_slack s m args below meth c H locs 0 0 (MQ below (va_Qi (fun (r : Int32) (u : ZI × ZL) => (r, u.1) = res ∧ u.2 = τ) (WQ g) (AA g)) args s 0 0 (AA g)) (F0 m 69 ls [.int s0]) := by
    intro k_31 hk_31 σ v4 s0 h H locs ls hS hl
    rw [f_X8_slack_69] at h
    refine lv_istore_n (lv' := [(3, .int s0), (0, .ref (gA g 60)), (1, .int a1), (2, .int a2), (4, .int v4)]) F.1 F.2.1 dX8_slack_69 rfl hl (by decide) rfl (fun ls hl => ?_)
    refine lv_iinc (v := (v4 + (-1 : Int32))) (lv' := [(4, .int (v4 + (-1 : Int32))), (3, .int s0), (0, .ref (gA g 60)), (1, .int a1), (2, .int a2)]) F.1 F.2.1 dX8_slack_70 hl (k := 4) rfl rfl (by decide) rfl (fun ls hl => ?_)
    refine lv_goto (tgt := 31) F.1 F.2.1 dX8_slack_73 (by decide) ?_
    exact hk_31 σ s0 (v4 + (-1 : Int32)) h H locs _ hS (lv_sub hl [2, 3, 4, 1, 0] rfl)
  have w_31 : ∀ (n : Nat) (σ : ZI) (v3 : Int32) (v4 : Int32), f_X8_slack_31 a1 a2 n σ v3 v4 = some res → ∀ (H : Heap) (locs : List Loc) (ls : Array Slot), WS g σ τ s H locs → lv_has ls 5 [(0, .ref (gA g 60)), (1, .int a1), (2, .int a2), (3, .int v3), (4, .int v4)] → W p l e rm_X8_slack s m args below meth c H locs 0 0 (MQ below (va_Qi (fun (r : Int32) (u : ZI × ZL) => (r, u.1) = res ∧ u.2 = τ) (WQ g) (AA g)) args s 0 0 (AA g)) (F0 m 31 ls []) := by
    intro n
    induction n with
    | zero => intro σ v3 v4 h; rw [f_X8_slack_31] at h; cases h
    | succ n ih =>
      intro σ v3 v4 h H locs ls hS hl
      rw [f_X8_slack_31] at h
      refine lv_iload F.1 F.2.1 dX8_slack_31 (lv_at hl 4 rfl) ?_
      refine lv_if_lt (tgt := 76) F.1 F.2.1 dX8_slack_33 (by decide) (fun hc => ?_) (fun hc => ?_)
      · replace h := ifT h hc
        exact w_76 σ v3 h H locs _ hS (lv_sub hl [0, 3] rfl)
      replace h := ifF h hc
      refine lv_iload_n F.1 F.2.1 dX8_slack_36 rfl (lv_at hl 3 rfl) ?_
      refine lv_bipush (v := (-4 : Int32)) F.1 F.2.1 dX8_slack_37 (by decide) ?_
      refine lv_icmp_ne (tgt := 76) F.1 F.2.1 dX8_slack_39 (by decide) (fun hc => ?_) (fun hc => ?_)
      · replace h := ifF h hc
        exact w_76 σ v3 h H locs _ hS (lv_sub hl [0, 3] rfl)
      replace h := ifT h hc
      refine lv_aload_n F.1 F.2.1 dX8_slack_42 rfl (lv_at hl 0 rfl) ?_
      refine gf_X8_7 F G hS dX8_slack_43 ?_
      refine lv_bipush (v := (13 : Int32)) F.1 F.2.1 dX8_slack_46 (by decide) ?_
      refine lv_iload F.1 F.2.1 dX8_slack_48 (lv_at hl 4 rfl) ?_
      refine lv_iconst (v := (1 : Int32)) F.1 F.2.1 dX8_slack_50 (by decide) ?_
      refine lv_isub F.1 F.2.1 dX8_slack_51 ?_
      refine x_iastL F G hS 61 rfl 13 rfl (by decide) dX8_slack_52 (fun H locs hS => ?_)
      obtain ⟨σ5, e_σ5, h⟩ := ltE h
      rw [← e_σ5] at hS
      clear e_σ5
      refine lv_aload_n F.1 F.2.1 dX8_slack_53 rfl (lv_at hl 0 rfl) ?_
      refine lv_iload_n F.1 F.2.1 dX8_slack_54 rfl (lv_at hl 1 rfl) ?_
      refine lv_iload_n F.1 F.2.1 dX8_slack_55 rfl (lv_at hl 2 rfl) ?_
      obtain ⟨q6, h_q6, h⟩ := bd h
      refine rVi F G hS hl.1 (c_X8_isHad l g σ5 τ a1 a2 q6 h_q6) lk_X8_298 ⟨rfl, rfl, Nat.le_of_ble_eq_true rfl, Nat.le_of_ble_eq_true rfl⟩ (rc_X8 G hS) rfl rfl (Nat.le_of_ble_eq_true rfl) dX8_slack_56 (kIi (fun H locs hS => ?_))
      refine lv_if_eq (tgt := 67) F.1 F.2.1 dX8_slack_59 (by decide) (fun hc => ?_) (fun hc => ?_)
      · replace h := ifT h hc
        refine lv_bipush (v := (-4 : Int32)) F.1 F.2.1 dX8_slack_67 (by decide) ?_
        exact w_69 _ (fun σ v3 v4 => ih σ v3 v4) q6.2 v4 (-4 : Int32) h H locs _ hS (lv_sub hl [0, 1, 2, 4] rfl)
      replace h := ifF h hc
      refine lv_iload F.1 F.2.1 dX8_slack_62 (lv_at hl 4 rfl) ?_
      refine lv_goto (tgt := 69) F.1 F.2.1 dX8_slack_64 (by decide) ?_
      exact w_69 _ (fun σ v3 v4 => ih σ v3 v4) q6.2 v4 v4 h H locs _ hS (lv_sub hl [0, 1, 2, 4] rfl)
  obtain ⟨locs, hlo⟩ : ∃ z : List Loc, z = [] := ⟨_, rfl⟩
  rw [← hlo] at hS ⊢
  clear hlo
  refine lv_aload_n F.1 F.2.1 dX8_slack_0 rfl (lv_at hl 0 rfl) ?_
  refine lv_iload_n F.1 F.2.1 dX8_slack_1 rfl (lv_at hl 1 rfl) ?_
  obtain ⟨q1, h_q1, h⟩ := bd h
  refine rVi F G hS hl.1 (c_X8_isArm l g σ τ a1 q1 h_q1) lk_X8_188 ⟨rfl, rfl, Nat.le_of_ble_eq_true rfl, Nat.le_of_ble_eq_true rfl⟩ (rc_X8 G hS) rfl rfl (Nat.le_of_ble_eq_true rfl) dX8_slack_2 (kRi (fun H locs hS => ?_))
  refine lv_if_eq (tgt := 15) F.1 F.2.1 dX8_slack_5 (by decide) (fun hc => ?_) (fun hc => ?_)
  · replace h := ifT h hc
    refine lv_iconst (v := (-1 : Int32)) F.1 F.2.1 dX8_slack_15 (by decide) ?_
    exact e_i F hS ⟨Option.some.inj h, rfl⟩ hr0 dX8_slack_16 hk0
  replace h := ifF h hc
  refine lv_iload_n F.1 F.2.1 dX8_slack_8 rfl (lv_at hl 2 rfl) ?_
  obtain ⟨q2, h_q2, h⟩ := bd h
  refine rSi F G hS hl.1 (c_X8_areTenths l g σ τ a2 q2 h_q2) lk_X8_295 ⟨rfl, rfl, Nat.le_of_ble_eq_true rfl, Nat.le_of_ble_eq_true rfl⟩  rfl rfl (Nat.le_of_ble_eq_true rfl) dX8_slack_9 (kRi (fun H locs hS => ?_))
  refine lv_if_ne (tgt := 17) F.1 F.2.1 dX8_slack_12 (by decide) (fun hc => ?_) (fun hc => ?_)
  rotate_left
  · replace h := ifT h hc
    refine lv_iconst (v := (-1 : Int32)) F.1 F.2.1 dX8_slack_15 (by decide) ?_
    exact e_i F hS ⟨Option.some.inj h, rfl⟩ hr0 dX8_slack_16 hk0
  replace h := ifF h hc
  refine lv_bipush (v := (-4 : Int32)) F.1 F.2.1 dX8_slack_17 (by decide) ?_
  refine lv_istore_n (lv' := [(3, .int (-4 : Int32)), (0, .ref (gA g 60)), (1, .int a1), (2, .int a2)]) F.1 F.2.1 dX8_slack_19 rfl hl (by decide) rfl (fun ls hl => ?_)
  refine lv_aload_n F.1 F.2.1 dX8_slack_20 rfl (lv_at hl 1 rfl) ?_
  refine lv_iconst (v := (0 : Int32)) F.1 F.2.1 dX8_slack_21 (by decide) ?_
  refine lv_bipush (v := (72 : Int32)) F.1 F.2.1 dX8_slack_22 (by decide) ?_
  obtain ⟨q3, h_q3, h⟩ := bd h
  refine rVv F G hS hl.1 (c_X8_copies l g σ τ (0 : Int32) (72 : Int32) q3 h_q3) lk_X8_292 ⟨rfl, rfl, Nat.le_of_ble_eq_true rfl, Nat.le_of_ble_eq_true rfl⟩ (rc_X8 G hS) rfl rfl (Nat.le_of_ble_eq_true rfl) dX8_slack_24 (kIv (fun H locs hS => ?_))
  refine lv_bipush (v := (10 : Int32)) F.1 F.2.1 dX8_slack_27 (by decide) ?_
  refine lv_istore (lv' := [(4, .int (10 : Int32)), (3, .int (-4 : Int32)), (0, .ref (gA g 60)), (1, .int a1), (2, .int a2)]) F.1 F.2.1 dX8_slack_29 hl (by decide) rfl (fun ls hl => ?_)
  exact w_31 3000 q3 (-4 : Int32) (10 : Int32) h H locs _ hS (lv_sub hl [2, 3, 4, 1, 0] rfl)
def f_X8_minutesBy_45 (σ : ZI) (a1 : Int32) (a2 : Int32) (k_5 : Int32 → Int32 → Option (Int32)) (v4 : Int32) (s0 : Int32) (s1 : Int32) : Option (Int32) := k_5 (s1 + s0) (v4 + (1 : Int32))
def f_X8_minutesBy_5 (σ : ZI) (a1 : Int32) (a2 : Int32)  : Nat → Int32 → Int32 → Option (Int32)
  | 0, _, _ => none
  | n + 1, v3, v4 => if (σ 60 7) ≤ v4 then (some v3) else (if ((a1 >>> (v4 &&& 31)) &&& (1 : Int32)) = (1 : Int32) then (if inB ((6 : Int32) + v4) 90 = true then (if a2 = 0 then none else (f_X8_minutesBy_45 σ a1 a2 (fun v3 v4 => f_X8_minutesBy_5 σ a1 a2 n v3 v4) v4 ((((σ 61 ((6 : Int32) + v4).toNatClampNeg) + a2) - (1 : Int32)) / a2) v3)) else none) else (f_X8_minutesBy_45 σ a1 a2 (fun v3 v4 => f_X8_minutesBy_5 σ a1 a2 n v3 v4) v4 (0 : Int32) v3))
def f_X8_minutesBy (σ : ZI) (a1 : Int32) (a2 : Int32) : Option (Int32) := f_X8_minutesBy_5 σ a1 a2 3000 (0 : Int32) (0 : Int32)
abbrev rm_X8_minutesBy : Room := { frames := 0, cells := 0, slots := 0, locals := 0 }
set_option maxHeartbeats 4000000 in
set_option maxRecDepth 100000 in
theorem c_X8_minutesBy (l : Launch) (g : GG) (σ : ZI) (τ : ZL) (a1 : Int32) (a2 : Int32) (res : Int32) (h : f_X8_minutesBy σ a1 a2 = some res) : MI l yX8_minutesBy cX8_minutesBy 5 (some .int) rm_X8_minutesBy g [.ref (gA g 60), .int a1, .int a2] σ τ (fun (r : Int32) (u : ZI × ZL) => r = res ∧ u.1 = σ ∧ u.2 = τ) := by
  refine Met_in (by decide) (Nat.le_of_ble_eq_true rfl) ?_
  intro p e s m args below meth c F G hP hr0 hk0 ls hl
  have hS := WS.start hP
  have hl : lv_has ls 5 [(0, .ref (gA g 60)), (1, .int a1), (2, .int a2)] := hl
  obtain ⟨H, hH⟩ : ∃ H, H = s.heap := ⟨_, rfl⟩
  rw [← hH] at hS ⊢
  clear hH hP
  rw [f_X8_minutesBy] at h
  have w_45 : ∀ (k_5 : Int32 → Int32 → Option (Int32)) (hk_5 : ∀ (v3 : Int32) (v4 : Int32), k_5 v3 v4 = some res → ∀ (H : Heap) (locs : List Loc) (ls : Array Slot), WS g σ τ s H locs → lv_has ls 5 [(0, .ref (gA g 60)), (1, .int a1), (2, .int a2), (3, .int v3), (4, .int v4)] → W p l e rm_X8_minutesBy s m args below meth c H locs 0 0 (MQ below (va_Qi (fun (r : Int32) (u : ZI × ZL) => r = res ∧ u.1 = σ ∧ u.2 = τ) (WQ g) (AA g)) args s 0 0 (AA g)) (F0 m 5 ls [])) (v4 : Int32) (s0 : Int32) (s1 : Int32), f_X8_minutesBy_45 σ a1 a2 k_5 v4 s0 s1 = some res → ∀ (H : Heap) (locs : List Loc) (ls : Array Slot), WS g σ τ s H locs → lv_has ls 5 [(0, .ref (gA g 60)), (1, .int a1), (2, .int a2), (4, .int v4)] → W p l e rm_X8_minutesBy s m args below meth c H locs 0 0 (MQ below (va_Qi (fun (r : Int32) (u : ZI × ZL) => r = res ∧ u.1 = σ ∧ u.2 = τ) (WQ g) (AA g)) args s 0 0 (AA g)) (F0 m 45 ls [.int s0, .int s1]) := by
    intro k_5 hk_5 v4 s0 s1 h H locs ls hS hl
    rw [f_X8_minutesBy_45] at h
    refine lv_iadd F.1 F.2.1 dX8_minutesBy_45 ?_
    refine lv_istore_n (lv' := [(3, .int (s1 + s0)), (0, .ref (gA g 60)), (1, .int a1), (2, .int a2), (4, .int v4)]) F.1 F.2.1 dX8_minutesBy_46 rfl hl (by decide) rfl (fun ls hl => ?_)
    refine lv_iinc (v := (v4 + (1 : Int32))) (lv' := [(4, .int (v4 + (1 : Int32))), (3, .int (s1 + s0)), (0, .ref (gA g 60)), (1, .int a1), (2, .int a2)]) F.1 F.2.1 dX8_minutesBy_47 hl (k := 4) rfl rfl (by decide) rfl (fun ls hl => ?_)
    refine lv_goto (tgt := 5) F.1 F.2.1 dX8_minutesBy_50 (by decide) ?_
    exact hk_5 (s1 + s0) (v4 + (1 : Int32)) h H locs _ hS (lv_sub hl [2, 3, 4, 1, 0] rfl)
  have w_5 : ∀ (n : Nat) (v3 : Int32) (v4 : Int32), f_X8_minutesBy_5 σ a1 a2 n v3 v4 = some res → ∀ (H : Heap) (locs : List Loc) (ls : Array Slot), WS g σ τ s H locs → lv_has ls 5 [(0, .ref (gA g 60)), (1, .int a1), (2, .int a2), (3, .int v3), (4, .int v4)] → W p l e rm_X8_minutesBy s m args below meth c H locs 0 0 (MQ below (va_Qi (fun (r : Int32) (u : ZI × ZL) => r = res ∧ u.1 = σ ∧ u.2 = τ) (WQ g) (AA g)) args s 0 0 (AA g)) (F0 m 5 ls []) := by
    intro n
    induction n with
    | zero => intro v3 v4 h; rw [f_X8_minutesBy_5] at h; cases h
    | succ n ih =>
      intro v3 v4 h H locs ls hS hl
      rw [f_X8_minutesBy_5] at h
      refine lv_iload F.1 F.2.1 dX8_minutesBy_5 (lv_at hl 4 rfl) ?_
      refine lv_aload_n F.1 F.2.1 dX8_minutesBy_7 rfl (lv_at hl 0 rfl) ?_
      refine gf_X8_173 F G hS dX8_minutesBy_8 ?_
      refine lv_icmp_ge (tgt := 53) F.1 F.2.1 dX8_minutesBy_11 (by decide) (fun hc => ?_) (fun hc => ?_)
      · replace h := ifT h hc
        refine lv_iload_n F.1 F.2.1 dX8_minutesBy_53 rfl (lv_at hl 3 rfl) ?_
        exact e_i F hS ⟨Option.some.inj h, rfl, rfl⟩ hr0 dX8_minutesBy_54 hk0
      replace h := ifF h hc
      refine lv_iload_n F.1 F.2.1 dX8_minutesBy_14 rfl (lv_at hl 3 rfl) ?_
      refine lv_iload_n F.1 F.2.1 dX8_minutesBy_15 rfl (lv_at hl 1 rfl) ?_
      refine lv_iload F.1 F.2.1 dX8_minutesBy_16 (lv_at hl 4 rfl) ?_
      refine lv_ishr F.1 F.2.1 dX8_minutesBy_18 ?_
      refine lv_iconst (v := (1 : Int32)) F.1 F.2.1 dX8_minutesBy_19 (by decide) ?_
      refine lv_iand F.1 F.2.1 dX8_minutesBy_20 ?_
      refine lv_iconst (v := (1 : Int32)) F.1 F.2.1 dX8_minutesBy_21 (by decide) ?_
      refine lv_icmp_ne (tgt := 44) F.1 F.2.1 dX8_minutesBy_22 (by decide) (fun hc => ?_) (fun hc => ?_)
      · replace h := ifF h hc
        refine lv_iconst (v := (0 : Int32)) F.1 F.2.1 dX8_minutesBy_44 (by decide) ?_
        exact w_45 _ (fun v3 v4 => ih v3 v4) v4 (0 : Int32) v3 h H locs _ hS (lv_sub hl [0, 1, 2, 4] rfl)
      replace h := ifT h hc
      refine lv_aload_n F.1 F.2.1 dX8_minutesBy_25 rfl (lv_at hl 0 rfl) ?_
      refine gf_X8_7 F G hS dX8_minutesBy_26 ?_
      refine lv_bipush (v := (6 : Int32)) F.1 F.2.1 dX8_minutesBy_29 (by decide) ?_
      refine lv_iload F.1 F.2.1 dX8_minutesBy_31 (lv_at hl 4 rfl) ?_
      refine lv_iadd F.1 F.2.1 dX8_minutesBy_33 ?_
      obtain ⟨hin, h⟩ := gd h
      refine x_iald F G hS 61 rfl hin dX8_minutesBy_34 ?_
      refine lv_iload_n F.1 F.2.1 dX8_minutesBy_35 rfl (lv_at hl 2 rfl) ?_
      refine lv_iadd F.1 F.2.1 dX8_minutesBy_36 ?_
      refine lv_iconst (v := (1 : Int32)) F.1 F.2.1 dX8_minutesBy_37 (by decide) ?_
      refine lv_isub F.1 F.2.1 dX8_minutesBy_38 ?_
      refine lv_iload_n F.1 F.2.1 dX8_minutesBy_39 rfl (lv_at hl 2 rfl) ?_
      obtain ⟨hz, h⟩ := gn h
      refine lv_idiv F.1 F.2.1 dX8_minutesBy_40 hz ?_
      refine lv_goto (tgt := 45) F.1 F.2.1 dX8_minutesBy_41 (by decide) ?_
      exact w_45 _ (fun v3 v4 => ih v3 v4) v4 ((((σ 61 ((6 : Int32) + v4).toNatClampNeg) + a2) - (1 : Int32)) / a2) v3 h H locs _ hS (lv_sub hl [0, 1, 2, 4] rfl)
  obtain ⟨locs, hlo⟩ : ∃ z : List Loc, z = [] := ⟨_, rfl⟩
  rw [← hlo] at hS ⊢
  clear hlo
  refine lv_iconst (v := (0 : Int32)) F.1 F.2.1 dX8_minutesBy_0 (by decide) ?_
  refine lv_istore_n (lv' := [(3, .int (0 : Int32)), (0, .ref (gA g 60)), (1, .int a1), (2, .int a2)]) F.1 F.2.1 dX8_minutesBy_1 rfl hl (by decide) rfl (fun ls hl => ?_)
  refine lv_iconst (v := (0 : Int32)) F.1 F.2.1 dX8_minutesBy_2 (by decide) ?_
  refine lv_istore (lv' := [(4, .int (0 : Int32)), (3, .int (0 : Int32)), (0, .ref (gA g 60)), (1, .int a1), (2, .int a2)]) F.1 F.2.1 dX8_minutesBy_3 hl (by decide) rfl (fun ls hl => ?_)
  exact w_5 3000 (0 : Int32) (0 : Int32) h H locs _ hS (lv_sub hl [2, 3, 4, 1, 0] rfl)
def f_X8_sort_154 (σ : ZI) (a1 : Int32) (a2 : Int32) (k_32 : Int32 → Int32 → Int32 → Option (Int32)) (v4 : Int32) (v5 : Int32) (s0 : Int32) : Option (Int32) := k_32 s0 v4 (v5 + (1 : Int32))
def f_X8_sort_141 (σ : ZI) (a1 : Int32) (a2 : Int32) (k_32 : Int32 → Int32 → Int32 → Option (Int32)) (v3 : Int32) (v5 : Int32) (v6 : Int32) (v7 : Int32) (s0 : Int32) : Option (Int32) := if v7 = 0 then (f_X8_sort_154 σ a1 a2 k_32 s0 v5 v3) else (f_X8_sort_154 σ a1 a2 k_32 s0 v5 v6)
def f_X8_sort_127 (σ : ZI) (a1 : Int32) (a2 : Int32) (k_32 : Int32 → Int32 → Int32 → Option (Int32)) (v3 : Int32) (v4 : Int32) (v5 : Int32) (v6 : Int32) (s0 : Int32) : Option (Int32) := if s0 = 0 then (f_X8_sort_141 σ a1 a2 k_32 v3 v5 v6 s0 v4) else (f_X8_sort_141 σ a1 a2 k_32 v3 v5 v6 s0 v5)
def f_X8_sort_126 (σ : ZI) (a1 : Int32) (a2 : Int32) (k_32 : Int32 → Int32 → Int32 → Option (Int32)) (v3 : Int32) (v4 : Int32) (v5 : Int32) (v6 : Int32) : Option (Int32) := f_X8_sort_127 σ a1 a2 k_32 v3 v4 v5 v6 (0 : Int32)
def f_X8_sort_93 (σ : ZI) (a1 : Int32) (a2 : Int32) (k_49 : Int32 → Int32 → Int32 → Int32 → Int32 → Option (Int32)) (v3 : Int32) (v4 : Int32) (v5 : Int32) (v7 : Int32) (s0 : Int32) (s1 : Int32) : Option (Int32) := k_49 v3 v4 v5 (s1 + s0) (v7 + (1 : Int32))
def f_X8_sort_49 (σ : ZI) (a1 : Int32) (a2 : Int32) (k_32 : Int32 → Int32 → Int32 → Option (Int32)) : Nat → Int32 → Int32 → Int32 → Int32 → Int32 → Option (Int32)
  | 0, _, _, _, _, _ => none
  | n + 1, v3, v4, v5, v6, v7 => if (σ 60 7) ≤ v7 then (if v6 ≤ v3 then (f_X8_sort_126 σ a1 a2 k_32 v3 v4 v5 v6) else ((f_X8_handMany σ).bind (fun q3 => (f_X8_minutesBy σ v5 q3).bind (fun q4 => if a1 < q4 then (f_X8_sort_126 σ a1 a2 k_32 v3 v4 v5 v6) else (f_X8_sort_127 σ a1 a2 k_32 v3 v4 v5 v6 (1 : Int32)))))) else (if ((v5 >>> (v7 &&& 31)) &&& (1 : Int32)) = (1 : Int32) then (if inB ((6 : Int32) + v7) 90 = true then (if inB v7 5 = true then (f_X8_sort_93 σ a1 a2 (fun v3 v4 v5 v6 v7 => f_X8_sort_49 σ a1 a2 k_32 n v3 v4 v5 v6 v7) v3 v4 v5 v7 ((σ 61 ((6 : Int32) + v7).toNatClampNeg) * (σ 64 v7.toNatClampNeg)) v6) else none) else none) else (f_X8_sort_93 σ a1 a2 (fun v3 v4 v5 v6 v7 => f_X8_sort_49 σ a1 a2 k_32 n v3 v4 v5 v6 v7) v3 v4 v5 v7 (0 : Int32) v6))
def f_X8_sort_32 (σ : ZI) (a1 : Int32) (a2 : Int32)  : Nat → Int32 → Int32 → Int32 → Option (Int32)
  | 0, _, _, _ => none
  | n + 1, v3, v4, v5 => if ((1 : Int32) <<< ((σ 60 7) &&& 31)) ≤ v5 then (if a2 = 0 then (some v3) else (some v4)) else (f_X8_sort_49 σ a1 a2 (fun v3 v4 v5 => f_X8_sort_32 σ a1 a2 n v3 v4 v5) 3000 v3 v4 v5 (0 : Int32) (0 : Int32))
def f_X8_sort (σ : ZI) (a1 : Int32) (a2 : Int32) : Option (Int32) := (f_X8_in a1.toInt64 (0 : Int64) (99 : Int64)).bind (fun q1 => if q1 = 0 then (some (-1 : Int32)) else ((f_X8_in a2.toInt64 (0 : Int64) (1 : Int64)).bind (fun q2 => if q2 = 0 then (some (-1 : Int32)) else (f_X8_sort_32 σ a1 a2 3000 (-1 : Int32) (0 : Int32) (0 : Int32)))))
abbrev rm_X8_sort : Room := { frames := 1, cells := 0, slots := 0, locals := 25 }
set_option maxHeartbeats 4000000 in
set_option maxRecDepth 100000 in
theorem c_X8_sort (l : Launch) (g : GG) (σ : ZI) (τ : ZL) (a1 : Int32) (a2 : Int32) (res : Int32) (h : f_X8_sort σ a1 a2 = some res) : MI l yX8_sort cX8_sort 8 (some .int) rm_X8_sort g [.ref (gA g 60), .int a1, .int a2] σ τ (fun (r : Int32) (u : ZI × ZL) => r = res ∧ u.1 = σ ∧ u.2 = τ) := by
  refine Met_in (by decide) (Nat.le_of_ble_eq_true rfl) ?_
  intro p e s m args below meth c F G hP hr0 hk0 ls hl
  have hS := WS.start hP
  have hl : lv_has ls 8 [(0, .ref (gA g 60)), (1, .int a1), (2, .int a2)] := hl
  obtain ⟨H, hH⟩ : ∃ H, H = s.heap := ⟨_, rfl⟩
  rw [← hH] at hS ⊢
  clear hH hP
  rw [f_X8_sort] at h
  have w_154 : ∀ (k_32 : Int32 → Int32 → Int32 → Option (Int32)) (hk_32 : ∀ (v3 : Int32) (v4 : Int32) (v5 : Int32), k_32 v3 v4 v5 = some res → ∀ (H : Heap) (locs : List Loc) (ls : Array Slot), WS g σ τ s H locs → lv_has ls 8 [(0, .ref (gA g 60)), (1, .int a1), (2, .int a2), (3, .int v3), (4, .int v4), (5, .int v5)] → W p l e rm_X8_sort s m args below meth c H locs 0 0 (MQ below (va_Qi (fun (r : Int32) (u : ZI × ZL) => r = res ∧ u.1 = σ ∧ u.2 = τ) (WQ g) (AA g)) args s 0 0 (AA g)) (F0 m 32 ls [])) (v4 : Int32) (v5 : Int32) (s0 : Int32), f_X8_sort_154 σ a1 a2 k_32 v4 v5 s0 = some res → ∀ (H : Heap) (locs : List Loc) (ls : Array Slot), WS g σ τ s H locs → lv_has ls 8 [(0, .ref (gA g 60)), (1, .int a1), (2, .int a2), (4, .int v4), (5, .int v5)] → W p l e rm_X8_sort s m args below meth c H locs 0 0 (MQ below (va_Qi (fun (r : Int32) (u : ZI × ZL) => r = res ∧ u.1 = σ ∧ u.2 = τ) (WQ g) (AA g)) args s 0 0 (AA g)) (F0 m 154 ls [.int s0]) := by
    intro k_32 hk_32 v4 v5 s0 h H locs ls hS hl
    rw [f_X8_sort_154] at h
    refine lv_istore_n (lv' := [(3, .int s0), (0, .ref (gA g 60)), (1, .int a1), (2, .int a2), (4, .int v4), (5, .int v5)]) F.1 F.2.1 dX8_sort_154 rfl hl (by decide) rfl (fun ls hl => ?_)
    refine lv_iinc (v := (v5 + (1 : Int32))) (lv' := [(5, .int (v5 + (1 : Int32))), (3, .int s0), (0, .ref (gA g 60)), (1, .int a1), (2, .int a2), (4, .int v4)]) F.1 F.2.1 dX8_sort_155 hl (k := 5) rfl rfl (by decide) rfl (fun ls hl => ?_)
    refine lv_goto (tgt := 32) F.1 F.2.1 dX8_sort_158 (by decide) ?_
    exact hk_32 s0 v4 (v5 + (1 : Int32)) h H locs _ hS (lv_sub hl [2, 3, 4, 1, 5, 0] rfl)
  have w_141 : ∀ (k_32 : Int32 → Int32 → Int32 → Option (Int32)) (hk_32 : ∀ (v3 : Int32) (v4 : Int32) (v5 : Int32), k_32 v3 v4 v5 = some res → ∀ (H : Heap) (locs : List Loc) (ls : Array Slot), WS g σ τ s H locs → lv_has ls 8 [(0, .ref (gA g 60)), (1, .int a1), (2, .int a2), (3, .int v3), (4, .int v4), (5, .int v5)] → W p l e rm_X8_sort s m args below meth c H locs 0 0 (MQ below (va_Qi (fun (r : Int32) (u : ZI × ZL) => r = res ∧ u.1 = σ ∧ u.2 = τ) (WQ g) (AA g)) args s 0 0 (AA g)) (F0 m 32 ls [])) (v3 : Int32) (v5 : Int32) (v6 : Int32) (v7 : Int32) (s0 : Int32), f_X8_sort_141 σ a1 a2 k_32 v3 v5 v6 v7 s0 = some res → ∀ (H : Heap) (locs : List Loc) (ls : Array Slot), WS g σ τ s H locs → lv_has ls 8 [(0, .ref (gA g 60)), (1, .int a1), (2, .int a2), (3, .int v3), (5, .int v5), (6, .int v6), (7, .int v7)] → W p l e rm_X8_sort s m args below meth c H locs 0 0 (MQ below (va_Qi (fun (r : Int32) (u : ZI × ZL) => r = res ∧ u.1 = σ ∧ u.2 = τ) (WQ g) (AA g)) args s 0 0 (AA g)) (F0 m 141 ls [.int s0]) := by
    intro k_32 hk_32 v3 v5 v6 v7 s0 h H locs ls hS hl
    rw [f_X8_sort_141] at h
    refine lv_istore (lv' := [(4, .int s0), (0, .ref (gA g 60)), (1, .int a1), (2, .int a2), (3, .int v3), (5, .int v5), (6, .int v6), (7, .int v7)]) F.1 F.2.1 dX8_sort_141 hl (by decide) rfl (fun ls hl => ?_)
    refine lv_iload F.1 F.2.1 dX8_sort_143 (lv_at hl 7 rfl) ?_
    refine lv_if_eq (tgt := 153) F.1 F.2.1 dX8_sort_145 (by decide) (fun hc => ?_) (fun hc => ?_)
    · replace h := ifT h hc
      refine lv_iload_n F.1 F.2.1 dX8_sort_153 rfl (lv_at hl 4 rfl) ?_
      exact w_154 _ hk_32 s0 v5 v3 h H locs _ hS (lv_sub hl [1, 2, 3, 0, 5] rfl)
    replace h := ifF h hc
    refine lv_iload F.1 F.2.1 dX8_sort_148 (lv_at hl 6 rfl) ?_
    refine lv_goto (tgt := 154) F.1 F.2.1 dX8_sort_150 (by decide) ?_
    exact w_154 _ hk_32 s0 v5 v6 h H locs _ hS (lv_sub hl [1, 2, 3, 0, 5] rfl)
  have w_127 : ∀ (k_32 : Int32 → Int32 → Int32 → Option (Int32)) (hk_32 : ∀ (v3 : Int32) (v4 : Int32) (v5 : Int32), k_32 v3 v4 v5 = some res → ∀ (H : Heap) (locs : List Loc) (ls : Array Slot), WS g σ τ s H locs → lv_has ls 8 [(0, .ref (gA g 60)), (1, .int a1), (2, .int a2), (3, .int v3), (4, .int v4), (5, .int v5)] → W p l e rm_X8_sort s m args below meth c H locs 0 0 (MQ below (va_Qi (fun (r : Int32) (u : ZI × ZL) => r = res ∧ u.1 = σ ∧ u.2 = τ) (WQ g) (AA g)) args s 0 0 (AA g)) (F0 m 32 ls [])) (v3 : Int32) (v4 : Int32) (v5 : Int32) (v6 : Int32) (s0 : Int32), f_X8_sort_127 σ a1 a2 k_32 v3 v4 v5 v6 s0 = some res → ∀ (H : Heap) (locs : List Loc) (ls : Array Slot), WS g σ τ s H locs → lv_has ls 8 [(0, .ref (gA g 60)), (1, .int a1), (2, .int a2), (3, .int v3), (4, .int v4), (5, .int v5), (6, .int v6)] → W p l e rm_X8_sort s m args below meth c H locs 0 0 (MQ below (va_Qi (fun (r : Int32) (u : ZI × ZL) => r = res ∧ u.1 = σ ∧ u.2 = τ) (WQ g) (AA g)) args s 0 0 (AA g)) (F0 m 127 ls [.int s0]) := by
    intro k_32 hk_32 v3 v4 v5 v6 s0 h H locs ls hS hl
    rw [f_X8_sort_127] at h
    refine lv_istore (lv' := [(7, .int s0), (0, .ref (gA g 60)), (1, .int a1), (2, .int a2), (3, .int v3), (4, .int v4), (5, .int v5), (6, .int v6)]) F.1 F.2.1 dX8_sort_127 hl (by decide) rfl (fun ls hl => ?_)
    refine lv_iload F.1 F.2.1 dX8_sort_129 (lv_at hl 0 rfl) ?_
    refine lv_if_eq (tgt := 139) F.1 F.2.1 dX8_sort_131 (by decide) (fun hc => ?_) (fun hc => ?_)
    · replace h := ifT h hc
      refine lv_iload F.1 F.2.1 dX8_sort_139 (lv_at hl 5 rfl) ?_
      exact w_141 _ hk_32 v3 v5 v6 s0 v4 h H locs _ hS (lv_sub hl [1, 2, 3, 4, 6, 7, 0] rfl)
    replace h := ifF h hc
    refine lv_iload F.1 F.2.1 dX8_sort_134 (lv_at hl 6 rfl) ?_
    refine lv_goto (tgt := 141) F.1 F.2.1 dX8_sort_136 (by decide) ?_
    exact w_141 _ hk_32 v3 v5 v6 s0 v5 h H locs _ hS (lv_sub hl [1, 2, 3, 4, 6, 7, 0] rfl)
  have w_126 : ∀ (k_32 : Int32 → Int32 → Int32 → Option (Int32)) (hk_32 : ∀ (v3 : Int32) (v4 : Int32) (v5 : Int32), k_32 v3 v4 v5 = some res → ∀ (H : Heap) (locs : List Loc) (ls : Array Slot), WS g σ τ s H locs → lv_has ls 8 [(0, .ref (gA g 60)), (1, .int a1), (2, .int a2), (3, .int v3), (4, .int v4), (5, .int v5)] → W p l e rm_X8_sort s m args below meth c H locs 0 0 (MQ below (va_Qi (fun (r : Int32) (u : ZI × ZL) => r = res ∧ u.1 = σ ∧ u.2 = τ) (WQ g) (AA g)) args s 0 0 (AA g)) (F0 m 32 ls [])) (v3 : Int32) (v4 : Int32) (v5 : Int32) (v6 : Int32), f_X8_sort_126 σ a1 a2 k_32 v3 v4 v5 v6 = some res → ∀ (H : Heap) (locs : List Loc) (ls : Array Slot), WS g σ τ s H locs → lv_has ls 8 [(0, .ref (gA g 60)), (1, .int a1), (2, .int a2), (3, .int v3), (4, .int v4), (5, .int v5), (6, .int v6)] → W p l e rm_X8_sort s m args below meth c H locs 0 0 (MQ below (va_Qi (fun (r : Int32) (u : ZI × ZL) => r = res ∧ u.1 = σ ∧ u.2 = τ) (WQ g) (AA g)) args s 0 0 (AA g)) (F0 m 126 ls []) := by
    intro k_32 hk_32 v3 v4 v5 v6 h H locs ls hS hl
    rw [f_X8_sort_126] at h
    refine lv_iconst (v := (0 : Int32)) F.1 F.2.1 dX8_sort_126 (by decide) ?_
    exact w_127 _ hk_32 v3 v4 v5 v6 (0 : Int32) h H locs _ hS (lv_sub hl [0, 1, 2, 3, 4, 5, 6] rfl)
  have w_93 : ∀ (k_49 : Int32 → Int32 → Int32 → Int32 → Int32 → Option (Int32)) (hk_49 : ∀ (v3 : Int32) (v4 : Int32) (v5 : Int32) (v6 : Int32) (v7 : Int32), k_49 v3 v4 v5 v6 v7 = some res → ∀ (H : Heap) (locs : List Loc) (ls : Array Slot), WS g σ τ s H locs → lv_has ls 8 [(0, .ref (gA g 60)), (1, .int a1), (2, .int a2), (3, .int v3), (4, .int v4), (5, .int v5), (6, .int v6), (7, .int v7)] → W p l e rm_X8_sort s m args below meth c H locs 0 0 (MQ below (va_Qi (fun (r : Int32) (u : ZI × ZL) => r = res ∧ u.1 = σ ∧ u.2 = τ) (WQ g) (AA g)) args s 0 0 (AA g)) (F0 m 49 ls [])) (v3 : Int32) (v4 : Int32) (v5 : Int32) (v7 : Int32) (s0 : Int32) (s1 : Int32), f_X8_sort_93 σ a1 a2 k_49 v3 v4 v5 v7 s0 s1 = some res → ∀ (H : Heap) (locs : List Loc) (ls : Array Slot), WS g σ τ s H locs → lv_has ls 8 [(0, .ref (gA g 60)), (1, .int a1), (2, .int a2), (3, .int v3), (4, .int v4), (5, .int v5), (7, .int v7)] → W p l e rm_X8_sort s m args below meth c H locs 0 0 (MQ below (va_Qi (fun (r : Int32) (u : ZI × ZL) => r = res ∧ u.1 = σ ∧ u.2 = τ) (WQ g) (AA g)) args s 0 0 (AA g)) (F0 m 93 ls [.int s0, .int s1]) := by
    intro k_49 hk_49 v3 v4 v5 v7 s0 s1 h H locs ls hS hl
    rw [f_X8_sort_93] at h
    refine lv_iadd F.1 F.2.1 dX8_sort_93 ?_
    refine lv_istore (lv' := [(6, .int (s1 + s0)), (0, .ref (gA g 60)), (1, .int a1), (2, .int a2), (3, .int v3), (4, .int v4), (5, .int v5), (7, .int v7)]) F.1 F.2.1 dX8_sort_94 hl (by decide) rfl (fun ls hl => ?_)
    refine lv_iinc (v := (v7 + (1 : Int32))) (lv' := [(7, .int (v7 + (1 : Int32))), (6, .int (s1 + s0)), (0, .ref (gA g 60)), (1, .int a1), (2, .int a2), (3, .int v3), (4, .int v4), (5, .int v5)]) F.1 F.2.1 dX8_sort_96 hl (k := 7) rfl rfl (by decide) rfl (fun ls hl => ?_)
    refine lv_goto (tgt := 49) F.1 F.2.1 dX8_sort_99 (by decide) ?_
    exact hk_49 v3 v4 v5 (s1 + s0) (v7 + (1 : Int32)) h H locs _ hS (lv_sub hl [2, 3, 4, 5, 6, 7, 1, 0] rfl)
  have w_49 : ∀ (k_32 : Int32 → Int32 → Int32 → Option (Int32)) (hk_32 : ∀ (v3 : Int32) (v4 : Int32) (v5 : Int32), k_32 v3 v4 v5 = some res → ∀ (H : Heap) (locs : List Loc) (ls : Array Slot), WS g σ τ s H locs → lv_has ls 8 [(0, .ref (gA g 60)), (1, .int a1), (2, .int a2), (3, .int v3), (4, .int v4), (5, .int v5)] → W p l e rm_X8_sort s m args below meth c H locs 0 0 (MQ below (va_Qi (fun (r : Int32) (u : ZI × ZL) => r = res ∧ u.1 = σ ∧ u.2 = τ) (WQ g) (AA g)) args s 0 0 (AA g)) (F0 m 32 ls [])) (n : Nat) (v3 : Int32) (v4 : Int32) (v5 : Int32) (v6 : Int32) (v7 : Int32), f_X8_sort_49 σ a1 a2 k_32 n v3 v4 v5 v6 v7 = some res → ∀ (H : Heap) (locs : List Loc) (ls : Array Slot), WS g σ τ s H locs → lv_has ls 8 [(0, .ref (gA g 60)), (1, .int a1), (2, .int a2), (3, .int v3), (4, .int v4), (5, .int v5), (6, .int v6), (7, .int v7)] → W p l e rm_X8_sort s m args below meth c H locs 0 0 (MQ below (va_Qi (fun (r : Int32) (u : ZI × ZL) => r = res ∧ u.1 = σ ∧ u.2 = τ) (WQ g) (AA g)) args s 0 0 (AA g)) (F0 m 49 ls []) := by
    intro k_32 hk_32
    intro n
    induction n with
    | zero => intro v3 v4 v5 v6 v7 h; rw [f_X8_sort_49] at h; cases h
    | succ n ih =>
      intro v3 v4 v5 v6 v7 h H locs ls hS hl
      rw [f_X8_sort_49] at h
      refine lv_iload F.1 F.2.1 dX8_sort_49 (lv_at hl 7 rfl) ?_
      refine lv_aload_n F.1 F.2.1 dX8_sort_51 rfl (lv_at hl 0 rfl) ?_
      refine gf_X8_173 F G hS dX8_sort_52 ?_
      refine lv_icmp_ge (tgt := 102) F.1 F.2.1 dX8_sort_55 (by decide) (fun hc => ?_) (fun hc => ?_)
      · replace h := ifT h hc
        refine lv_iload F.1 F.2.1 dX8_sort_102 (lv_at hl 6 rfl) ?_
        refine lv_iload_n F.1 F.2.1 dX8_sort_104 rfl (lv_at hl 3 rfl) ?_
        refine lv_icmp_le (tgt := 126) F.1 F.2.1 dX8_sort_105 (by decide) (fun hc => ?_) (fun hc => ?_)
        · replace h := ifT h hc
          exact w_126 _ hk_32 v3 v4 v5 v6 h H locs _ hS (lv_sub hl [0, 1, 2, 3, 4, 5, 6] rfl)
        replace h := ifF h hc
        refine lv_aload_n F.1 F.2.1 dX8_sort_108 rfl (lv_at hl 0 rfl) ?_
        refine lv_iload F.1 F.2.1 dX8_sort_109 (lv_at hl 5 rfl) ?_
        refine lv_aload_n F.1 F.2.1 dX8_sort_111 rfl (lv_at hl 0 rfl) ?_
        obtain ⟨q3, h_q3, h⟩ := bd h
        refine rVi F G hS hl.1 (c_X8_handMany l g σ τ q3 h_q3) lk_X8_185 ⟨rfl, rfl, Nat.le_of_ble_eq_true rfl, Nat.le_of_ble_eq_true rfl⟩ (rc_X8 G hS) rfl rfl (Nat.le_of_ble_eq_true rfl) dX8_sort_112 (kRi (fun H locs hS => ?_))
        obtain ⟨q4, h_q4, h⟩ := bd h
        refine rVi F G hS hl.1 (c_X8_minutesBy l g σ τ v5 q3 q4 h_q4) lk_X8_301 ⟨rfl, rfl, Nat.le_of_ble_eq_true rfl, Nat.le_of_ble_eq_true rfl⟩ (rc_X8 G hS) rfl rfl (Nat.le_of_ble_eq_true rfl) dX8_sort_115 (kRi (fun H locs hS => ?_))
        refine lv_iload_n F.1 F.2.1 dX8_sort_118 rfl (lv_at hl 1 rfl) ?_
        refine lv_icmp_gt (tgt := 126) F.1 F.2.1 dX8_sort_119 (by decide) (fun hc => ?_) (fun hc => ?_)
        · replace h := ifT h hc
          exact w_126 _ hk_32 v3 v4 v5 v6 h H locs _ hS (lv_sub hl [0, 1, 2, 3, 4, 5, 6] rfl)
        replace h := ifF h hc
        refine lv_iconst (v := (1 : Int32)) F.1 F.2.1 dX8_sort_122 (by decide) ?_
        refine lv_goto (tgt := 127) F.1 F.2.1 dX8_sort_123 (by decide) ?_
        exact w_127 _ hk_32 v3 v4 v5 v6 (1 : Int32) h H locs _ hS (lv_sub hl [0, 1, 2, 3, 4, 5, 6] rfl)
      replace h := ifF h hc
      refine lv_iload F.1 F.2.1 dX8_sort_58 (lv_at hl 6 rfl) ?_
      refine lv_iload F.1 F.2.1 dX8_sort_60 (lv_at hl 5 rfl) ?_
      refine lv_iload F.1 F.2.1 dX8_sort_62 (lv_at hl 7 rfl) ?_
      refine lv_ishr F.1 F.2.1 dX8_sort_64 ?_
      refine lv_iconst (v := (1 : Int32)) F.1 F.2.1 dX8_sort_65 (by decide) ?_
      refine lv_iand F.1 F.2.1 dX8_sort_66 ?_
      refine lv_iconst (v := (1 : Int32)) F.1 F.2.1 dX8_sort_67 (by decide) ?_
      refine lv_icmp_ne (tgt := 92) F.1 F.2.1 dX8_sort_68 (by decide) (fun hc => ?_) (fun hc => ?_)
      · replace h := ifF h hc
        refine lv_iconst (v := (0 : Int32)) F.1 F.2.1 dX8_sort_92 (by decide) ?_
        exact w_93 _ (fun v3 v4 v5 v6 v7 => ih v3 v4 v5 v6 v7) v3 v4 v5 v7 (0 : Int32) v6 h H locs _ hS (lv_sub hl [0, 1, 2, 3, 4, 5, 7] rfl)
      replace h := ifT h hc
      refine lv_aload_n F.1 F.2.1 dX8_sort_71 rfl (lv_at hl 0 rfl) ?_
      refine gf_X8_7 F G hS dX8_sort_72 ?_
      refine lv_bipush (v := (6 : Int32)) F.1 F.2.1 dX8_sort_75 (by decide) ?_
      refine lv_iload F.1 F.2.1 dX8_sort_77 (lv_at hl 7 rfl) ?_
      refine lv_iadd F.1 F.2.1 dX8_sort_79 ?_
      obtain ⟨hin, h⟩ := gd h
      refine x_iald F G hS 61 rfl hin dX8_sort_80 ?_
      refine lv_aload_n F.1 F.2.1 dX8_sort_81 rfl (lv_at hl 0 rfl) ?_
      refine gf_X8_23 F G hS dX8_sort_82 ?_
      refine lv_iload F.1 F.2.1 dX8_sort_85 (lv_at hl 7 rfl) ?_
      obtain ⟨hin, h⟩ := gd h
      refine x_iald F G hS 64 rfl hin dX8_sort_87 ?_
      refine lv_imul F.1 F.2.1 dX8_sort_88 ?_
      refine lv_goto (tgt := 93) F.1 F.2.1 dX8_sort_89 (by decide) ?_
      exact w_93 _ (fun v3 v4 v5 v6 v7 => ih v3 v4 v5 v6 v7) v3 v4 v5 v7 ((σ 61 ((6 : Int32) + v7).toNatClampNeg) * (σ 64 v7.toNatClampNeg)) v6 h H locs _ hS (lv_sub hl [0, 1, 2, 3, 4, 5, 7] rfl)
  have w_32 : ∀ (n : Nat) (v3 : Int32) (v4 : Int32) (v5 : Int32), f_X8_sort_32 σ a1 a2 n v3 v4 v5 = some res → ∀ (H : Heap) (locs : List Loc) (ls : Array Slot), WS g σ τ s H locs → lv_has ls 8 [(0, .ref (gA g 60)), (1, .int a1), (2, .int a2), (3, .int v3), (4, .int v4), (5, .int v5)] → W p l e rm_X8_sort s m args below meth c H locs 0 0 (MQ below (va_Qi (fun (r : Int32) (u : ZI × ZL) => r = res ∧ u.1 = σ ∧ u.2 = τ) (WQ g) (AA g)) args s 0 0 (AA g)) (F0 m 32 ls []) := by
    intro n
    induction n with
    | zero => intro v3 v4 v5 h; rw [f_X8_sort_32] at h; cases h
    | succ n ih =>
      intro v3 v4 v5 h H locs ls hS hl
      rw [f_X8_sort_32] at h
      refine lv_iload F.1 F.2.1 dX8_sort_32 (lv_at hl 5 rfl) ?_
      refine lv_iconst (v := (1 : Int32)) F.1 F.2.1 dX8_sort_34 (by decide) ?_
      refine lv_aload_n F.1 F.2.1 dX8_sort_35 rfl (lv_at hl 0 rfl) ?_
      refine gf_X8_173 F G hS dX8_sort_36 ?_
      refine lv_ishl F.1 F.2.1 dX8_sort_39 ?_
      refine lv_icmp_ge (tgt := 161) F.1 F.2.1 dX8_sort_40 (by decide) (fun hc => ?_) (fun hc => ?_)
      rotate_left
      · replace h := ifF h hc
        refine lv_iconst (v := (0 : Int32)) F.1 F.2.1 dX8_sort_43 (by decide) ?_
        refine lv_istore (lv' := [(6, .int (0 : Int32)), (0, .ref (gA g 60)), (1, .int a1), (2, .int a2), (3, .int v3), (4, .int v4), (5, .int v5)]) F.1 F.2.1 dX8_sort_44 hl (by decide) rfl (fun ls hl => ?_)
        refine lv_iconst (v := (0 : Int32)) F.1 F.2.1 dX8_sort_46 (by decide) ?_
        refine lv_istore (lv' := [(7, .int (0 : Int32)), (6, .int (0 : Int32)), (0, .ref (gA g 60)), (1, .int a1), (2, .int a2), (3, .int v3), (4, .int v4), (5, .int v5)]) F.1 F.2.1 dX8_sort_47 hl (by decide) rfl (fun ls hl => ?_)
        exact w_49 _ (fun v3 v4 v5 => ih v3 v4 v5) 3000 v3 v4 v5 (0 : Int32) (0 : Int32) h H locs _ hS (lv_sub hl [2, 3, 4, 5, 6, 7, 1, 0] rfl)
      replace h := ifT h hc
      refine lv_iload_n F.1 F.2.1 dX8_sort_161 rfl (lv_at hl 2 rfl) ?_
      refine lv_if_ne (tgt := 169) F.1 F.2.1 dX8_sort_162 (by decide) (fun hc => ?_) (fun hc => ?_)
      · replace h := ifF h hc
        refine lv_iload F.1 F.2.1 dX8_sort_169 (lv_at hl 4 rfl) ?_
        exact e_i F hS ⟨Option.some.inj h, rfl, rfl⟩ hr0 dX8_sort_171 hk0
      replace h := ifT h hc
      refine lv_iload_n F.1 F.2.1 dX8_sort_165 rfl (lv_at hl 3 rfl) ?_
      refine lv_goto (tgt := 171) F.1 F.2.1 dX8_sort_166 (by decide) ?_
      exact e_i F hS ⟨Option.some.inj h, rfl, rfl⟩ hr0 dX8_sort_171 hk0
  obtain ⟨locs, hlo⟩ : ∃ z : List Loc, z = [] := ⟨_, rfl⟩
  rw [← hlo] at hS ⊢
  clear hlo
  refine lv_iload_n F.1 F.2.1 dX8_sort_0 rfl (lv_at hl 1 rfl) ?_
  refine lv_i2l F.1 F.2.1 dX8_sort_1 rfl ?_
  refine lv_lconst (v := (0 : Int64)) F.1 F.2.1 dX8_sort_2 (by decide) ?_
  refine lv_ldc2 (v := (99 : Int64)) F.1 F.2.1 F.2.2.2.1 (F.2.2.2.2 _ tb_1321) dX8_sort_3 ?_
  obtain ⟨q1, h_q1, h⟩ := bd h
  refine rSi F G hS hl.1 (c_X8_in l g σ τ a1.toInt64 (0 : Int64) (99 : Int64) q1 h_q1) lk_X8_71 ⟨rfl, rfl, Nat.le_of_ble_eq_true rfl, Nat.le_of_ble_eq_true rfl⟩  rfl rfl (Nat.le_of_ble_eq_true rfl) dX8_sort_6 (kRi (fun H locs hS => ?_))
  refine lv_if_eq (tgt := 22) F.1 F.2.1 dX8_sort_9 (by decide) (fun hc => ?_) (fun hc => ?_)
  · replace h := ifT h hc
    refine lv_iconst (v := (-1 : Int32)) F.1 F.2.1 dX8_sort_22 (by decide) ?_
    exact e_i F hS ⟨Option.some.inj h, rfl, rfl⟩ hr0 dX8_sort_23 hk0
  replace h := ifF h hc
  refine lv_iload_n F.1 F.2.1 dX8_sort_12 rfl (lv_at hl 2 rfl) ?_
  refine lv_i2l F.1 F.2.1 dX8_sort_13 rfl ?_
  refine lv_lconst (v := (0 : Int64)) F.1 F.2.1 dX8_sort_14 (by decide) ?_
  refine lv_lconst (v := (1 : Int64)) F.1 F.2.1 dX8_sort_15 (by decide) ?_
  obtain ⟨q2, h_q2, h⟩ := bd h
  refine rSi F G hS hl.1 (c_X8_in l g σ τ a2.toInt64 (0 : Int64) (1 : Int64) q2 h_q2) lk_X8_71 ⟨rfl, rfl, Nat.le_of_ble_eq_true rfl, Nat.le_of_ble_eq_true rfl⟩  rfl rfl (Nat.le_of_ble_eq_true rfl) dX8_sort_16 (kRi (fun H locs hS => ?_))
  refine lv_if_ne (tgt := 24) F.1 F.2.1 dX8_sort_19 (by decide) (fun hc => ?_) (fun hc => ?_)
  rotate_left
  · replace h := ifT h hc
    refine lv_iconst (v := (-1 : Int32)) F.1 F.2.1 dX8_sort_22 (by decide) ?_
    exact e_i F hS ⟨Option.some.inj h, rfl, rfl⟩ hr0 dX8_sort_23 hk0
  replace h := ifF h hc
  refine lv_iconst (v := (-1 : Int32)) F.1 F.2.1 dX8_sort_24 (by decide) ?_
  refine lv_istore_n (lv' := [(3, .int (-1 : Int32)), (0, .ref (gA g 60)), (1, .int a1), (2, .int a2)]) F.1 F.2.1 dX8_sort_25 rfl hl (by decide) rfl (fun ls hl => ?_)
  refine lv_iconst (v := (0 : Int32)) F.1 F.2.1 dX8_sort_26 (by decide) ?_
  refine lv_istore (lv' := [(4, .int (0 : Int32)), (3, .int (-1 : Int32)), (0, .ref (gA g 60)), (1, .int a1), (2, .int a2)]) F.1 F.2.1 dX8_sort_27 hl (by decide) rfl (fun ls hl => ?_)
  refine lv_iconst (v := (0 : Int32)) F.1 F.2.1 dX8_sort_29 (by decide) ?_
  refine lv_istore (lv' := [(5, .int (0 : Int32)), (4, .int (0 : Int32)), (3, .int (-1 : Int32)), (0, .ref (gA g 60)), (1, .int a1), (2, .int a2)]) F.1 F.2.1 dX8_sort_30 hl (by decide) rfl (fun ls hl => ?_)
  exact w_32 3000 (-1 : Int32) (0 : Int32) (0 : Int32) h H locs _ hS (lv_sub hl [3, 4, 5, 2, 1, 0] rfl)
def f_X8_minutes (σ : ZI) (a1 : Int32) : Option (Int32) := (f_X8_in a1.toInt64 (0 : Int64) ((((1 : Int32) <<< ((σ 60 7) &&& 31)) - (1 : Int32)).toInt64)).bind (fun q1 => if q1 = 0 then (some (-1 : Int32)) else ((f_X8_handMany σ).bind (fun q2 => (f_X8_minutesBy σ a1 q2).bind (fun q3 => some q3))))
abbrev rm_X8_minutes : Room := { frames := 1, cells := 0, slots := 0, locals := 25 }
set_option maxHeartbeats 4000000 in
set_option maxRecDepth 100000 in
theorem c_X8_minutes (l : Launch) (g : GG) (σ : ZI) (τ : ZL) (a1 : Int32) (res : Int32) (h : f_X8_minutes σ a1 = some res) : MI l yX8_minutes cX8_minutes 2 (some .int) rm_X8_minutes g [.ref (gA g 60), .int a1] σ τ (fun (r : Int32) (u : ZI × ZL) => r = res ∧ u.1 = σ ∧ u.2 = τ) := by
  refine Met_in (by decide) (Nat.le_of_ble_eq_true rfl) ?_
  intro p e s m args below meth c F G hP hr0 hk0 ls hl
  have hS := WS.start hP
  have hl : lv_has ls 2 [(0, .ref (gA g 60)), (1, .int a1)] := hl
  obtain ⟨H, hH⟩ : ∃ H, H = s.heap := ⟨_, rfl⟩
  rw [← hH] at hS ⊢
  clear hH hP
  rw [f_X8_minutes] at h
  obtain ⟨locs, hlo⟩ : ∃ z : List Loc, z = [] := ⟨_, rfl⟩
  rw [← hlo] at hS ⊢
  clear hlo
  refine lv_iload_n F.1 F.2.1 dX8_minutes_0 rfl (lv_at hl 1 rfl) ?_
  refine lv_i2l F.1 F.2.1 dX8_minutes_1 rfl ?_
  refine lv_lconst (v := (0 : Int64)) F.1 F.2.1 dX8_minutes_2 (by decide) ?_
  refine lv_iconst (v := (1 : Int32)) F.1 F.2.1 dX8_minutes_3 (by decide) ?_
  refine lv_aload_n F.1 F.2.1 dX8_minutes_4 rfl (lv_at hl 0 rfl) ?_
  refine gf_X8_173 F G hS dX8_minutes_5 ?_
  refine lv_ishl F.1 F.2.1 dX8_minutes_8 ?_
  refine lv_iconst (v := (1 : Int32)) F.1 F.2.1 dX8_minutes_9 (by decide) ?_
  refine lv_isub F.1 F.2.1 dX8_minutes_10 ?_
  refine lv_i2l F.1 F.2.1 dX8_minutes_11 rfl ?_
  obtain ⟨q1, h_q1, h⟩ := bd h
  refine rSi F G hS hl.1 (c_X8_in l g σ τ a1.toInt64 (0 : Int64) ((((1 : Int32) <<< ((σ 60 7) &&& 31)) - (1 : Int32)).toInt64) q1 h_q1) lk_X8_71 ⟨rfl, rfl, Nat.le_of_ble_eq_true rfl, Nat.le_of_ble_eq_true rfl⟩  rfl rfl (Nat.le_of_ble_eq_true rfl) dX8_minutes_12 (kRi (fun H locs hS => ?_))
  refine lv_if_eq (tgt := 30) F.1 F.2.1 dX8_minutes_15 (by decide) (fun hc => ?_) (fun hc => ?_)
  · replace h := ifT h hc
    refine lv_iconst (v := (-1 : Int32)) F.1 F.2.1 dX8_minutes_30 (by decide) ?_
    exact e_i F hS ⟨Option.some.inj h, rfl, rfl⟩ hr0 dX8_minutes_31 hk0
  replace h := ifF h hc
  refine lv_aload_n F.1 F.2.1 dX8_minutes_18 rfl (lv_at hl 0 rfl) ?_
  refine lv_iload_n F.1 F.2.1 dX8_minutes_19 rfl (lv_at hl 1 rfl) ?_
  refine lv_aload_n F.1 F.2.1 dX8_minutes_20 rfl (lv_at hl 0 rfl) ?_
  obtain ⟨q2, h_q2, h⟩ := bd h
  refine rVi F G hS hl.1 (c_X8_handMany l g σ τ q2 h_q2) lk_X8_185 ⟨rfl, rfl, Nat.le_of_ble_eq_true rfl, Nat.le_of_ble_eq_true rfl⟩ (rc_X8 G hS) rfl rfl (Nat.le_of_ble_eq_true rfl) dX8_minutes_21 (kRi (fun H locs hS => ?_))
  obtain ⟨q3, h_q3, h⟩ := bd h
  refine rVi F G hS hl.1 (c_X8_minutesBy l g σ τ a1 q2 q3 h_q3) lk_X8_301 ⟨rfl, rfl, Nat.le_of_ble_eq_true rfl, Nat.le_of_ble_eq_true rfl⟩ (rc_X8 G hS) rfl rfl (Nat.le_of_ble_eq_true rfl) dX8_minutes_24 (kRi (fun H locs hS => ?_))
  refine lv_goto (tgt := 31) F.1 F.2.1 dX8_minutes_27 (by decide) ?_
  exact e_i F hS ⟨Option.some.inj h, rfl, rfl⟩ hr0 dX8_minutes_31 hk0
def f_X8_hands_16 (σ : ZI) (a1 : Int32)  : Nat → Int32 → Option (Int32)
  | 0, _ => none
  | n + 1, v2 => if (9 : Int32) < v2 then (some (-4 : Int32)) else ((f_X8_minutesBy σ (((1 : Int32) <<< ((σ 60 7) &&& 31)) - (1 : Int32)) v2).bind (fun q2 => if a1 < q2 then (f_X8_hands_16 σ a1 n (v2 + (1 : Int32))) else (some v2)))
def f_X8_hands (σ : ZI) (a1 : Int32) : Option (Int32) := (f_X8_in a1.toInt64 (0 : Int64) (99 : Int64)).bind (fun q1 => if q1 = 0 then (some (-1 : Int32)) else (f_X8_hands_16 σ a1 3000 (1 : Int32)))
abbrev rm_X8_hands : Room := { frames := 1, cells := 0, slots := 0, locals := 25 }
set_option maxHeartbeats 4000000 in
set_option maxRecDepth 100000 in
theorem c_X8_hands (l : Launch) (g : GG) (σ : ZI) (τ : ZL) (a1 : Int32) (res : Int32) (h : f_X8_hands σ a1 = some res) : MI l yX8_hands cX8_hands 3 (some .int) rm_X8_hands g [.ref (gA g 60), .int a1] σ τ (fun (r : Int32) (u : ZI × ZL) => r = res ∧ u.1 = σ ∧ u.2 = τ) := by
  refine Met_in (by decide) (Nat.le_of_ble_eq_true rfl) ?_
  intro p e s m args below meth c F G hP hr0 hk0 ls hl
  have hS := WS.start hP
  have hl : lv_has ls 3 [(0, .ref (gA g 60)), (1, .int a1)] := hl
  obtain ⟨H, hH⟩ : ∃ H, H = s.heap := ⟨_, rfl⟩
  rw [← hH] at hS ⊢
  clear hH hP
  rw [f_X8_hands] at h
  have w_16 : ∀ (n : Nat) (v2 : Int32), f_X8_hands_16 σ a1 n v2 = some res → ∀ (H : Heap) (locs : List Loc) (ls : Array Slot), WS g σ τ s H locs → lv_has ls 3 [(0, .ref (gA g 60)), (1, .int a1), (2, .int v2)] → W p l e rm_X8_hands s m args below meth c H locs 0 0 (MQ below (va_Qi (fun (r : Int32) (u : ZI × ZL) => r = res ∧ u.1 = σ ∧ u.2 = τ) (WQ g) (AA g)) args s 0 0 (AA g)) (F0 m 16 ls []) := by
    intro n
    induction n with
    | zero => intro v2 h; rw [f_X8_hands_16] at h; cases h
    | succ n ih =>
      intro v2 h H locs ls hS hl
      rw [f_X8_hands_16] at h
      refine lv_iload_n F.1 F.2.1 dX8_hands_16 rfl (lv_at hl 2 rfl) ?_
      refine lv_bipush (v := (9 : Int32)) F.1 F.2.1 dX8_hands_17 (by decide) ?_
      refine lv_icmp_gt (tgt := 47) F.1 F.2.1 dX8_hands_19 (by decide) (fun hc => ?_) (fun hc => ?_)
      · replace h := ifT h hc
        refine lv_bipush (v := (-4 : Int32)) F.1 F.2.1 dX8_hands_47 (by decide) ?_
        exact e_i F hS ⟨Option.some.inj h, rfl, rfl⟩ hr0 dX8_hands_49 hk0
      replace h := ifF h hc
      refine lv_aload_n F.1 F.2.1 dX8_hands_22 rfl (lv_at hl 0 rfl) ?_
      refine lv_iconst (v := (1 : Int32)) F.1 F.2.1 dX8_hands_23 (by decide) ?_
      refine lv_aload_n F.1 F.2.1 dX8_hands_24 rfl (lv_at hl 0 rfl) ?_
      refine gf_X8_173 F G hS dX8_hands_25 ?_
      refine lv_ishl F.1 F.2.1 dX8_hands_28 ?_
      refine lv_iconst (v := (1 : Int32)) F.1 F.2.1 dX8_hands_29 (by decide) ?_
      refine lv_isub F.1 F.2.1 dX8_hands_30 ?_
      refine lv_iload_n F.1 F.2.1 dX8_hands_31 rfl (lv_at hl 2 rfl) ?_
      obtain ⟨q2, h_q2, h⟩ := bd h
      refine rVi F G hS hl.1 (c_X8_minutesBy l g σ τ (((1 : Int32) <<< ((σ 60 7) &&& 31)) - (1 : Int32)) v2 q2 h_q2) lk_X8_301 ⟨rfl, rfl, Nat.le_of_ble_eq_true rfl, Nat.le_of_ble_eq_true rfl⟩ (rc_X8 G hS) rfl rfl (Nat.le_of_ble_eq_true rfl) dX8_hands_32 (kRi (fun H locs hS => ?_))
      refine lv_iload_n F.1 F.2.1 dX8_hands_35 rfl (lv_at hl 1 rfl) ?_
      refine lv_icmp_gt (tgt := 41) F.1 F.2.1 dX8_hands_36 (by decide) (fun hc => ?_) (fun hc => ?_)
      rotate_left
      · replace h := ifF h hc
        refine lv_iload_n F.1 F.2.1 dX8_hands_39 rfl (lv_at hl 2 rfl) ?_
        exact e_i F hS ⟨Option.some.inj h, rfl, rfl⟩ hr0 dX8_hands_40 hk0
      replace h := ifT h hc
      refine lv_iinc (v := (v2 + (1 : Int32))) (lv' := [(2, .int (v2 + (1 : Int32))), (0, .ref (gA g 60)), (1, .int a1)]) F.1 F.2.1 dX8_hands_41 hl (k := 2) rfl rfl (by decide) rfl (fun ls hl => ?_)
      refine lv_goto (tgt := 16) F.1 F.2.1 dX8_hands_44 (by decide) ?_
      exact ih (v2 + (1 : Int32)) h H locs _ hS (lv_sub hl [1, 2, 0] rfl)
  obtain ⟨locs, hlo⟩ : ∃ z : List Loc, z = [] := ⟨_, rfl⟩
  rw [← hlo] at hS ⊢
  clear hlo
  refine lv_iload_n F.1 F.2.1 dX8_hands_0 rfl (lv_at hl 1 rfl) ?_
  refine lv_i2l F.1 F.2.1 dX8_hands_1 rfl ?_
  refine lv_lconst (v := (0 : Int64)) F.1 F.2.1 dX8_hands_2 (by decide) ?_
  refine lv_ldc2 (v := (99 : Int64)) F.1 F.2.1 F.2.2.2.1 (F.2.2.2.2 _ tb_1321) dX8_hands_3 ?_
  obtain ⟨q1, h_q1, h⟩ := bd h
  refine rSi F G hS hl.1 (c_X8_in l g σ τ a1.toInt64 (0 : Int64) (99 : Int64) q1 h_q1) lk_X8_71 ⟨rfl, rfl, Nat.le_of_ble_eq_true rfl, Nat.le_of_ble_eq_true rfl⟩  rfl rfl (Nat.le_of_ble_eq_true rfl) dX8_hands_6 (kRi (fun H locs hS => ?_))
  refine lv_if_ne (tgt := 14) F.1 F.2.1 dX8_hands_9 (by decide) (fun hc => ?_) (fun hc => ?_)
  rotate_left
  · replace h := ifT h hc
    refine lv_iconst (v := (-1 : Int32)) F.1 F.2.1 dX8_hands_12 (by decide) ?_
    exact e_i F hS ⟨Option.some.inj h, rfl, rfl⟩ hr0 dX8_hands_13 hk0
  replace h := ifF h hc
  refine lv_iconst (v := (1 : Int32)) F.1 F.2.1 dX8_hands_14 (by decide) ?_
  refine lv_istore_n (lv' := [(2, .int (1 : Int32)), (0, .ref (gA g 60)), (1, .int a1)]) F.1 F.2.1 dX8_hands_15 rfl hl (by decide) rfl (fun ls hl => ?_)
  exact w_16 3000 (1 : Int32) h H locs _ hS (lv_sub hl [1, 2, 0] rfl)
def f_X8_see (σ : ZI) (a1 : Int32) (a2 : Int32) : Option (Int32 × ZI) := (f_X8_isJoint σ a1).bind (fun q1 => if q1 = 0 then (some ((-1 : Int32), σ)) else ((f_X8_in a2.toInt64 (0 : Int64) (10 : Int64)).bind (fun q2 => if q2 = 0 then (some ((-1 : Int32), σ)) else (if (σ 60 41) = (6 : Int32) then (some ((-3 : Int32), σ)) else (if inB ((2 : Int32) * (σ 60 41)) 12 = true then (lt_ (va_up σ 74 (upd (σ 74) ((2 : Int32) * (σ 60 41)).toNatClampNeg a1)) (fun σ3 => if inB (((2 : Int32) * (σ3 60 41)) + (1 : Int32)) 12 = true then (lt_ (va_up σ3 74 (upd (σ3 74) (((2 : Int32) * (σ3 60 41)) + (1 : Int32)).toNatClampNeg a2)) (fun σ4 => lt_ (va_up σ4 60 (upd (σ4 60) 41 ((σ4 60 41) + (1 : Int32)))) (fun σ5 => some ((σ5 60 41), σ5)))) else none)) else none)))))
abbrev rm_X8_see : Room := { frames := 2, cells := 0, slots := 0, locals := 46 }
set_option maxHeartbeats 4000000 in
set_option maxRecDepth 100000 in
theorem c_X8_see (l : Launch) (g : GG) (σ : ZI) (τ : ZL) (a1 : Int32) (a2 : Int32) (res : Int32 × ZI) (h : f_X8_see σ a1 a2 = some res) : MI l yX8_see cX8_see 3 (some .int) rm_X8_see g [.ref (gA g 60), .int a1, .int a2] σ τ (fun (r : Int32) (u : ZI × ZL) => (r, u.1) = res ∧ u.2 = τ) := by
  refine Met_in (by decide) (Nat.le_of_ble_eq_true rfl) ?_
  intro p e s m args below meth c F G hP hr0 hk0 ls hl
  have hS := WS.start hP
  have hl : lv_has ls 3 [(0, .ref (gA g 60)), (1, .int a1), (2, .int a2)] := hl
  obtain ⟨H, hH⟩ : ∃ H, H = s.heap := ⟨_, rfl⟩
  rw [← hH] at hS ⊢
  clear hH hP
  rw [f_X8_see] at h
  obtain ⟨locs, hlo⟩ : ∃ z : List Loc, z = [] := ⟨_, rfl⟩
  rw [← hlo] at hS ⊢
  clear hlo
  refine lv_aload_n F.1 F.2.1 dX8_see_0 rfl (lv_at hl 0 rfl) ?_
  refine lv_iload_n F.1 F.2.1 dX8_see_1 rfl (lv_at hl 1 rfl) ?_
  obtain ⟨q1, h_q1, h⟩ := bd h
  refine rVi F G hS hl.1 (c_X8_isJoint l g σ τ a1 q1 h_q1) lk_X8_203 ⟨rfl, rfl, Nat.le_of_ble_eq_true rfl, Nat.le_of_ble_eq_true rfl⟩ (rc_X8 G hS) rfl rfl (Nat.le_of_ble_eq_true rfl) dX8_see_2 (kRi (fun H locs hS => ?_))
  refine lv_if_eq (tgt := 20) F.1 F.2.1 dX8_see_5 (by decide) (fun hc => ?_) (fun hc => ?_)
  · replace h := ifT h hc
    refine lv_iconst (v := (-1 : Int32)) F.1 F.2.1 dX8_see_20 (by decide) ?_
    exact e_i F hS ⟨Option.some.inj h, rfl⟩ hr0 dX8_see_21 hk0
  replace h := ifF h hc
  refine lv_iload_n F.1 F.2.1 dX8_see_8 rfl (lv_at hl 2 rfl) ?_
  refine lv_i2l F.1 F.2.1 dX8_see_9 rfl ?_
  refine lv_lconst (v := (0 : Int64)) F.1 F.2.1 dX8_see_10 (by decide) ?_
  refine lv_ldc2 (v := (10 : Int64)) F.1 F.2.1 F.2.2.2.1 (F.2.2.2.2 _ tb_1221) dX8_see_11 ?_
  obtain ⟨q2, h_q2, h⟩ := bd h
  refine rSi F G hS hl.1 (c_X8_in l g σ τ a2.toInt64 (0 : Int64) (10 : Int64) q2 h_q2) lk_X8_71 ⟨rfl, rfl, Nat.le_of_ble_eq_true rfl, Nat.le_of_ble_eq_true rfl⟩  rfl rfl (Nat.le_of_ble_eq_true rfl) dX8_see_14 (kRi (fun H locs hS => ?_))
  refine lv_if_ne (tgt := 22) F.1 F.2.1 dX8_see_17 (by decide) (fun hc => ?_) (fun hc => ?_)
  rotate_left
  · replace h := ifT h hc
    refine lv_iconst (v := (-1 : Int32)) F.1 F.2.1 dX8_see_20 (by decide) ?_
    exact e_i F hS ⟨Option.some.inj h, rfl⟩ hr0 dX8_see_21 hk0
  replace h := ifF h hc
  refine lv_aload_n F.1 F.2.1 dX8_see_22 rfl (lv_at hl 0 rfl) ?_
  refine gf_X8_176 F G hS dX8_see_23 ?_
  refine lv_bipush (v := (6 : Int32)) F.1 F.2.1 dX8_see_26 (by decide) ?_
  refine lv_icmp_ne (tgt := 34) F.1 F.2.1 dX8_see_28 (by decide) (fun hc => ?_) (fun hc => ?_)
  rotate_left
  · replace h := ifT h hc
    refine lv_bipush (v := (-3 : Int32)) F.1 F.2.1 dX8_see_31 (by decide) ?_
    exact e_i F hS ⟨Option.some.inj h, rfl⟩ hr0 dX8_see_33 hk0
  replace h := ifF h hc
  refine lv_aload_n F.1 F.2.1 dX8_see_34 rfl (lv_at hl 0 rfl) ?_
  refine gf_X8_53 F G hS dX8_see_35 ?_
  refine lv_iconst (v := (2 : Int32)) F.1 F.2.1 dX8_see_38 (by decide) ?_
  refine lv_aload_n F.1 F.2.1 dX8_see_39 rfl (lv_at hl 0 rfl) ?_
  refine gf_X8_176 F G hS dX8_see_40 ?_
  refine lv_imul F.1 F.2.1 dX8_see_43 ?_
  refine lv_iload_n F.1 F.2.1 dX8_see_44 rfl (lv_at hl 1 rfl) ?_
  obtain ⟨hin, h⟩ := gd h
  refine x_iast F G hS 74 rfl hin dX8_see_45 (fun H locs hS => ?_)
  obtain ⟨σ3, e_σ3, h⟩ := ltE h
  rw [← e_σ3] at hS
  clear e_σ3
  refine lv_aload_n F.1 F.2.1 dX8_see_46 rfl (lv_at hl 0 rfl) ?_
  refine gf_X8_53 F G hS dX8_see_47 ?_
  refine lv_iconst (v := (2 : Int32)) F.1 F.2.1 dX8_see_50 (by decide) ?_
  refine lv_aload_n F.1 F.2.1 dX8_see_51 rfl (lv_at hl 0 rfl) ?_
  refine gf_X8_176 F G hS dX8_see_52 ?_
  refine lv_imul F.1 F.2.1 dX8_see_55 ?_
  refine lv_iconst (v := (1 : Int32)) F.1 F.2.1 dX8_see_56 (by decide) ?_
  refine lv_iadd F.1 F.2.1 dX8_see_57 ?_
  refine lv_iload_n F.1 F.2.1 dX8_see_58 rfl (lv_at hl 2 rfl) ?_
  obtain ⟨hin, h⟩ := gd h
  refine x_iast F G hS 74 rfl hin dX8_see_59 (fun H locs hS => ?_)
  obtain ⟨σ4, e_σ4, h⟩ := ltE h
  rw [← e_σ4] at hS
  clear e_σ4
  refine lv_aload_n F.1 F.2.1 dX8_see_60 rfl (lv_at hl 0 rfl) ?_
  refine lv_dup F.1 F.2.1 dX8_see_61 rfl ?_
  refine gf_X8_176 F G hS dX8_see_62 ?_
  refine lv_iconst (v := (1 : Int32)) F.1 F.2.1 dX8_see_65 (by decide) ?_
  refine lv_iadd F.1 F.2.1 dX8_see_66 ?_
  refine pf_X8_176 F G hS dX8_see_67 (fun H locs hS => ?_)
  obtain ⟨σ5, e_σ5, h⟩ := ltE h
  rw [← e_σ5] at hS
  clear e_σ5
  refine lv_aload_n F.1 F.2.1 dX8_see_70 rfl (lv_at hl 0 rfl) ?_
  refine gf_X8_176 F G hS dX8_see_71 ?_
  exact e_i F hS ⟨Option.some.inj h, rfl⟩ hr0 dX8_see_74 hk0
def f_X8_forget (σ : ZI) (a1 : Int32) : Option (Int32 × ZI) := (f_X8_in a1.toInt64 (0 : Int64) ((σ 60 41).toInt64)).bind (fun q1 => if q1 = 0 then (some ((-1 : Int32), σ)) else (lt_ (va_up σ 60 (upd (σ 60) 41 a1)) (fun σ2 => some ((σ 60 41), σ2))))
abbrev rm_X8_forget : Room := { frames := 1, cells := 0, slots := 0, locals := 25 }
set_option maxHeartbeats 4000000 in
set_option maxRecDepth 100000 in
theorem c_X8_forget (l : Launch) (g : GG) (σ : ZI) (τ : ZL) (a1 : Int32) (res : Int32 × ZI) (h : f_X8_forget σ a1 = some res) : MI l yX8_forget cX8_forget 3 (some .int) rm_X8_forget g [.ref (gA g 60), .int a1] σ τ (fun (r : Int32) (u : ZI × ZL) => (r, u.1) = res ∧ u.2 = τ) := by
  refine Met_in (by decide) (Nat.le_of_ble_eq_true rfl) ?_
  intro p e s m args below meth c F G hP hr0 hk0 ls hl
  have hS := WS.start hP
  have hl : lv_has ls 3 [(0, .ref (gA g 60)), (1, .int a1)] := hl
  obtain ⟨H, hH⟩ : ∃ H, H = s.heap := ⟨_, rfl⟩
  rw [← hH] at hS ⊢
  clear hH hP
  rw [f_X8_forget] at h
  obtain ⟨locs, hlo⟩ : ∃ z : List Loc, z = [] := ⟨_, rfl⟩
  rw [← hlo] at hS ⊢
  clear hlo
  refine lv_iload_n F.1 F.2.1 dX8_forget_0 rfl (lv_at hl 1 rfl) ?_
  refine lv_i2l F.1 F.2.1 dX8_forget_1 rfl ?_
  refine lv_lconst (v := (0 : Int64)) F.1 F.2.1 dX8_forget_2 (by decide) ?_
  refine lv_aload_n F.1 F.2.1 dX8_forget_3 rfl (lv_at hl 0 rfl) ?_
  refine gf_X8_176 F G hS dX8_forget_4 ?_
  refine lv_i2l F.1 F.2.1 dX8_forget_7 rfl ?_
  obtain ⟨q1, h_q1, h⟩ := bd h
  refine rSi F G hS hl.1 (c_X8_in l g σ τ a1.toInt64 (0 : Int64) ((σ 60 41).toInt64) q1 h_q1) lk_X8_71 ⟨rfl, rfl, Nat.le_of_ble_eq_true rfl, Nat.le_of_ble_eq_true rfl⟩  rfl rfl (Nat.le_of_ble_eq_true rfl) dX8_forget_8 (kRi (fun H locs hS => ?_))
  refine lv_if_ne (tgt := 16) F.1 F.2.1 dX8_forget_11 (by decide) (fun hc => ?_) (fun hc => ?_)
  rotate_left
  · replace h := ifT h hc
    refine lv_iconst (v := (-1 : Int32)) F.1 F.2.1 dX8_forget_14 (by decide) ?_
    exact e_i F hS ⟨Option.some.inj h, rfl⟩ hr0 dX8_forget_15 hk0
  replace h := ifF h hc
  refine lv_aload_n F.1 F.2.1 dX8_forget_16 rfl (lv_at hl 0 rfl) ?_
  refine gf_X8_176 F G hS dX8_forget_17 ?_
  refine lv_istore_n (lv' := [(2, .int (σ 60 41)), (0, .ref (gA g 60)), (1, .int a1)]) F.1 F.2.1 dX8_forget_20 rfl hl (by decide) rfl (fun ls hl => ?_)
  refine lv_aload_n F.1 F.2.1 dX8_forget_21 rfl (lv_at hl 1 rfl) ?_
  refine lv_iload_n F.1 F.2.1 dX8_forget_22 rfl (lv_at hl 2 rfl) ?_
  refine pf_X8_176 F G hS dX8_forget_23 (fun H locs hS => ?_)
  obtain ⟨σ2, e_σ2, h⟩ := ltE h
  rw [← e_σ2] at hS
  clear e_σ2
  refine lv_iload_n F.1 F.2.1 dX8_forget_26 rfl (lv_at hl 0 rfl) ?_
  exact e_i F hS ⟨Option.some.inj h, rfl⟩ hr0 dX8_forget_27 hk0
def f_X8_fits_134 (a1 : Int32)  (σ : ZI) (v2 : Int32) : Option (Int32 × ZI) := if a1 = 0 then (some (v2, σ)) else (some ((-4 : Int32), σ))
def f_X8_fits_114 (a1 : Int32) (k_59 : ZI → Int32 → Int32 → Int32 → Int32 → Int32 → Int32 → Int32 → Option (Int32 × ZI)) (σ : ZI) (v2 : Int32) (v3 : Int32) (v4 : Int32) (v5 : Int32) (v6 : Int32) (v7 : Int32) (v8 : Int32) : Option (Int32 × ZI) := k_59 σ v2 v3 v4 v5 v6 v7 (v8 + (1 : Int32))
def f_X8_fits_59 (a1 : Int32) (k_45 : ZI → Int32 → Int32 → Int32 → Int32 → Int32 → Int32 → Option (Int32 × ZI)) : Nat → ZI → Int32 → Int32 → Int32 → Int32 → Int32 → Int32 → Int32 → Option (Int32 × ZI)
  | 0, _, _, _, _, _, _, _, _ => none
  | n + 1, σ, v2, v3, v4, v5, v6, v7, v8 => if ((1 : Int32) <<< ((σ 60 5) &&& 31)) ≤ v8 then (k_45 σ v2 v3 v4 v5 v6 (v7 + (1 : Int32))) else ((f_X8_isAsSeen σ v7 v8).bind (fun q4 => if q4.1 = 0 then (f_X8_fits_114 a1 (fun σ v2 v3 v4 v5 v6 v7 v8 => f_X8_fits_59 a1 k_45 n σ v2 v3 v4 v5 v6 v7 v8) q4.2 v2 v3 v4 v5 v6 v7 v8) else (lt_ ((v4 &&& (v7 ^^^ (-1 : Int32)))) (fun x5 => lt_ ((v6 &&& (v8 ^^^ (-1 : Int32)))) (fun x6 => f_X8_fits_114 a1 (fun σ v2 v3 v4 v5 v6 v7 v8 => f_X8_fits_59 a1 k_45 n σ v2 v3 v4 v5 v6 v7 v8) q4.2 (v2 + (1 : Int32)) (v3 &&& v7) x5 (v5 &&& v8) x6 v7 v8)))))
def f_X8_fits_45 (a1 : Int32)  : Nat → ZI → Int32 → Int32 → Int32 → Int32 → Int32 → Int32 → Option (Int32 × ZI)
  | 0, _, _, _, _, _, _, _ => none
  | n + 1, σ, v2, v3, v4, v5, v6, v7 => if ((1 : Int32) <<< ((σ 60 1) &&& 31)) ≤ v7 then (if a1 = 0 then (f_X8_fits_134 a1 σ v2) else (if v2 = 0 then (f_X8_fits_134 a1 σ v2) else (if a1 = (1 : Int32) then (some (v3, σ)) else (if a1 = (2 : Int32) then (some (v4, σ)) else (if a1 = (3 : Int32) then (some (v5, σ)) else (some (v6, σ))))))) else (f_X8_fits_59 a1 (fun σ v2 v3 v4 v5 v6 v7 => f_X8_fits_45 a1 n σ v2 v3 v4 v5 v6 v7) 3000 σ v2 v3 v4 v5 v6 v7 (0 : Int32))
def f_X8_fits (σ : ZI) (a1 : Int32) : Option (Int32 × ZI) := (f_X8_in a1.toInt64 (0 : Int64) (4 : Int64)).bind (fun q1 => if q1 = 0 then (some ((-1 : Int32), σ)) else (lt_ ((((1 : Int32) <<< ((σ 60 1) &&& 31)) - (1 : Int32))) (fun x2 => lt_ ((((1 : Int32) <<< ((σ 60 5) &&& 31)) - (1 : Int32))) (fun x3 => f_X8_fits_45 a1 3000 σ (0 : Int32) x2 x2 x3 x3 (0 : Int32)))))
abbrev rm_X8_fits : Room := { frames := 3, cells := 0, slots := 0, locals := 72 }
set_option maxHeartbeats 4000000 in
set_option maxRecDepth 100000 in
theorem c_X8_fits (l : Launch) (g : GG) (σ : ZI) (τ : ZL) (a1 : Int32) (res : Int32 × ZI) (h : f_X8_fits σ a1 = some res) : MI l yX8_fits cX8_fits 9 (some .int) rm_X8_fits g [.ref (gA g 60), .int a1] σ τ (fun (r : Int32) (u : ZI × ZL) => (r, u.1) = res ∧ u.2 = τ) := by
  refine Met_in (by decide) (Nat.le_of_ble_eq_true rfl) ?_
  intro p e s m args below meth c F G hP hr0 hk0 ls hl
  have hS := WS.start hP
  have hl : lv_has ls 9 [(0, .ref (gA g 60)), (1, .int a1)] := hl
  obtain ⟨H, hH⟩ : ∃ H, H = s.heap := ⟨_, rfl⟩
  rw [← hH] at hS ⊢
  clear hH hP
  rw [f_X8_fits] at h
  have w_134 : ∀ (σ : ZI) (v2 : Int32), f_X8_fits_134 a1 σ v2 = some res → ∀ (H : Heap) (locs : List Loc) (ls : Array Slot), WS g σ τ s H locs → lv_has ls 9 [(1, .int a1), (2, .int v2)] → W p l e rm_X8_fits s m args below meth c H locs 0 0 (MQ below (va_Qi (fun (r : Int32) (u : ZI × ZL) => (r, u.1) = res ∧ u.2 = τ) (WQ g) (AA g)) args s 0 0 (AA g)) (F0 m 134 ls []) := by
    intro  σ v2 h H locs ls hS hl
    rw [f_X8_fits_134] at h
    refine lv_iload_n F.1 F.2.1 dX8_fits_134 rfl (lv_at hl 0 rfl) ?_
    refine lv_if_ne (tgt := 142) F.1 F.2.1 dX8_fits_135 (by decide) (fun hc => ?_) (fun hc => ?_)
    · replace h := ifF h hc
      refine lv_bipush (v := (-4 : Int32)) F.1 F.2.1 dX8_fits_142 (by decide) ?_
      exact e_i F hS ⟨Option.some.inj h, rfl⟩ hr0 dX8_fits_144 hk0
    replace h := ifT h hc
    refine lv_iload_n F.1 F.2.1 dX8_fits_138 rfl (lv_at hl 1 rfl) ?_
    refine lv_goto (tgt := 144) F.1 F.2.1 dX8_fits_139 (by decide) ?_
    exact e_i F hS ⟨Option.some.inj h, rfl⟩ hr0 dX8_fits_144 hk0
  have w_114 : ∀ (k_59 : ZI → Int32 → Int32 → Int32 → Int32 → Int32 → Int32 → Int32 → Option (Int32 × ZI)) (hk_59 : ∀ (σ : ZI) (v2 : Int32) (v3 : Int32) (v4 : Int32) (v5 : Int32) (v6 : Int32) (v7 : Int32) (v8 : Int32), k_59 σ v2 v3 v4 v5 v6 v7 v8 = some res → ∀ (H : Heap) (locs : List Loc) (ls : Array Slot), WS g σ τ s H locs → lv_has ls 9 [(0, .ref (gA g 60)), (1, .int a1), (2, .int v2), (3, .int v3), (4, .int v4), (5, .int v5), (6, .int v6), (7, .int v7), (8, .int v8)] → W p l e rm_X8_fits s m args below meth c H locs 0 0 (MQ below (va_Qi (fun (r : Int32) (u : ZI × ZL) => (r, u.1) = res ∧ u.2 = τ) (WQ g) (AA g)) args s 0 0 (AA g)) (F0 m 59 ls [])) (σ : ZI) (v2 : Int32) (v3 : Int32) (v4 : Int32) (v5 : Int32) (v6 : Int32) (v7 : Int32) (v8 : Int32), f_X8_fits_114 a1 k_59 σ v2 v3 v4 v5 v6 v7 v8 = some res → ∀ (H : Heap) (locs : List Loc) (ls : Array Slot), WS g σ τ s H locs → lv_has ls 9 [(0, .ref (gA g 60)), (1, .int a1), (2, .int v2), (3, .int v3), (4, .int v4), (5, .int v5), (6, .int v6), (7, .int v7), (8, .int v8)] → W p l e rm_X8_fits s m args below meth c H locs 0 0 (MQ below (va_Qi (fun (r : Int32) (u : ZI × ZL) => (r, u.1) = res ∧ u.2 = τ) (WQ g) (AA g)) args s 0 0 (AA g)) (F0 m 114 ls []) := by
    intro k_59 hk_59 σ v2 v3 v4 v5 v6 v7 v8 h H locs ls hS hl
    rw [f_X8_fits_114] at h
    refine lv_iinc (v := (v8 + (1 : Int32))) (lv' := [(8, .int (v8 + (1 : Int32))), (0, .ref (gA g 60)), (1, .int a1), (2, .int v2), (3, .int v3), (4, .int v4), (5, .int v5), (6, .int v6), (7, .int v7)]) F.1 F.2.1 dX8_fits_114 hl (k := 8) rfl rfl (by decide) rfl (fun ls hl => ?_)
    refine lv_goto (tgt := 59) F.1 F.2.1 dX8_fits_117 (by decide) ?_
    exact hk_59 σ v2 v3 v4 v5 v6 v7 (v8 + (1 : Int32)) h H locs _ hS (lv_sub hl [1, 2, 3, 4, 5, 6, 7, 8, 0] rfl)
  have w_59 : ∀ (k_45 : ZI → Int32 → Int32 → Int32 → Int32 → Int32 → Int32 → Option (Int32 × ZI)) (hk_45 : ∀ (σ : ZI) (v2 : Int32) (v3 : Int32) (v4 : Int32) (v5 : Int32) (v6 : Int32) (v7 : Int32), k_45 σ v2 v3 v4 v5 v6 v7 = some res → ∀ (H : Heap) (locs : List Loc) (ls : Array Slot), WS g σ τ s H locs → lv_has ls 9 [(0, .ref (gA g 60)), (1, .int a1), (2, .int v2), (3, .int v3), (4, .int v4), (5, .int v5), (6, .int v6), (7, .int v7)] → W p l e rm_X8_fits s m args below meth c H locs 0 0 (MQ below (va_Qi (fun (r : Int32) (u : ZI × ZL) => (r, u.1) = res ∧ u.2 = τ) (WQ g) (AA g)) args s 0 0 (AA g)) (F0 m 45 ls [])) (n : Nat) (σ : ZI) (v2 : Int32) (v3 : Int32) (v4 : Int32) (v5 : Int32) (v6 : Int32) (v7 : Int32) (v8 : Int32), f_X8_fits_59 a1 k_45 n σ v2 v3 v4 v5 v6 v7 v8 = some res → ∀ (H : Heap) (locs : List Loc) (ls : Array Slot), WS g σ τ s H locs → lv_has ls 9 [(0, .ref (gA g 60)), (1, .int a1), (2, .int v2), (3, .int v3), (4, .int v4), (5, .int v5), (6, .int v6), (7, .int v7), (8, .int v8)] → W p l e rm_X8_fits s m args below meth c H locs 0 0 (MQ below (va_Qi (fun (r : Int32) (u : ZI × ZL) => (r, u.1) = res ∧ u.2 = τ) (WQ g) (AA g)) args s 0 0 (AA g)) (F0 m 59 ls []) := by
    intro k_45 hk_45
    intro n
    induction n with
    | zero => intro σ v2 v3 v4 v5 v6 v7 v8 h; rw [f_X8_fits_59] at h; cases h
    | succ n ih =>
      intro σ v2 v3 v4 v5 v6 v7 v8 h H locs ls hS hl
      rw [f_X8_fits_59] at h
      refine lv_iload F.1 F.2.1 dX8_fits_59 (lv_at hl 8 rfl) ?_
      refine lv_iconst (v := (1 : Int32)) F.1 F.2.1 dX8_fits_61 (by decide) ?_
      refine lv_aload_n F.1 F.2.1 dX8_fits_62 rfl (lv_at hl 0 rfl) ?_
      refine gf_X8_170 F G hS dX8_fits_63 ?_
      refine lv_ishl F.1 F.2.1 dX8_fits_66 ?_
      refine lv_icmp_ge (tgt := 120) F.1 F.2.1 dX8_fits_67 (by decide) (fun hc => ?_) (fun hc => ?_)
      · replace h := ifT h hc
        refine lv_iinc (v := (v7 + (1 : Int32))) (lv' := [(7, .int (v7 + (1 : Int32))), (0, .ref (gA g 60)), (1, .int a1), (2, .int v2), (3, .int v3), (4, .int v4), (5, .int v5), (6, .int v6), (8, .int v8)]) F.1 F.2.1 dX8_fits_120 hl (k := 7) rfl rfl (by decide) rfl (fun ls hl => ?_)
        refine lv_goto (tgt := 45) F.1 F.2.1 dX8_fits_123 (by decide) ?_
        exact hk_45 σ v2 v3 v4 v5 v6 (v7 + (1 : Int32)) h H locs _ hS (lv_sub hl [1, 2, 3, 4, 5, 6, 7, 0] rfl)
      replace h := ifF h hc
      refine lv_aload_n F.1 F.2.1 dX8_fits_70 rfl (lv_at hl 0 rfl) ?_
      refine lv_iload F.1 F.2.1 dX8_fits_71 (lv_at hl 7 rfl) ?_
      refine lv_iload F.1 F.2.1 dX8_fits_73 (lv_at hl 8 rfl) ?_
      obtain ⟨q4, h_q4, h⟩ := bd h
      refine rVi F G hS hl.1 (c_X8_isAsSeen l g σ τ v7 v8 q4 h_q4) lk_X8_261 ⟨rfl, rfl, Nat.le_of_ble_eq_true rfl, Nat.le_of_ble_eq_true rfl⟩ (rc_X8 G hS) rfl rfl (Nat.le_of_ble_eq_true rfl) dX8_fits_75 (kIi (fun H locs hS => ?_))
      refine lv_if_eq (tgt := 114) F.1 F.2.1 dX8_fits_78 (by decide) (fun hc => ?_) (fun hc => ?_)
      · replace h := ifT h hc
        exact w_114 _ (fun σ v2 v3 v4 v5 v6 v7 v8 => ih σ v2 v3 v4 v5 v6 v7 v8) q4.2 v2 v3 v4 v5 v6 v7 v8 h H locs _ hS (lv_sub hl [0, 1, 2, 3, 4, 5, 6, 7, 8] rfl)
      replace h := ifF h hc
      refine lv_iload_n F.1 F.2.1 dX8_fits_81 rfl (lv_at hl 3 rfl) ?_
      refine lv_iload F.1 F.2.1 dX8_fits_82 (lv_at hl 7 rfl) ?_
      refine lv_iand F.1 F.2.1 dX8_fits_84 ?_
      refine lv_istore_n (lv' := [(3, .int (v3 &&& v7)), (0, .ref (gA g 60)), (1, .int a1), (2, .int v2), (4, .int v4), (5, .int v5), (6, .int v6), (7, .int v7), (8, .int v8)]) F.1 F.2.1 dX8_fits_85 rfl hl (by decide) rfl (fun ls hl => ?_)
      refine lv_iload F.1 F.2.1 dX8_fits_86 (lv_at hl 4 rfl) ?_
      refine lv_iload F.1 F.2.1 dX8_fits_88 (lv_at hl 7 rfl) ?_
      refine lv_iconst (v := (-1 : Int32)) F.1 F.2.1 dX8_fits_90 (by decide) ?_
      refine lv_ixor F.1 F.2.1 dX8_fits_91 ?_
      refine lv_iand F.1 F.2.1 dX8_fits_92 ?_
      obtain ⟨x5, e_x5, h⟩ := ltE h
      refine x_topi e_x5 ?_
      clear e_x5
      refine lv_istore (lv' := [(4, .int x5), (3, .int (v3 &&& v7)), (0, .ref (gA g 60)), (1, .int a1), (2, .int v2), (5, .int v5), (6, .int v6), (7, .int v7), (8, .int v8)]) F.1 F.2.1 dX8_fits_93 hl (by decide) rfl (fun ls hl => ?_)
      refine lv_iload F.1 F.2.1 dX8_fits_95 (lv_at hl 5 rfl) ?_
      refine lv_iload F.1 F.2.1 dX8_fits_97 (lv_at hl 8 rfl) ?_
      refine lv_iand F.1 F.2.1 dX8_fits_99 ?_
      refine lv_istore (lv' := [(5, .int (v5 &&& v8)), (4, .int x5), (3, .int (v3 &&& v7)), (0, .ref (gA g 60)), (1, .int a1), (2, .int v2), (6, .int v6), (7, .int v7), (8, .int v8)]) F.1 F.2.1 dX8_fits_100 hl (by decide) rfl (fun ls hl => ?_)
      refine lv_iload F.1 F.2.1 dX8_fits_102 (lv_at hl 6 rfl) ?_
      refine lv_iload F.1 F.2.1 dX8_fits_104 (lv_at hl 8 rfl) ?_
      refine lv_iconst (v := (-1 : Int32)) F.1 F.2.1 dX8_fits_106 (by decide) ?_
      refine lv_ixor F.1 F.2.1 dX8_fits_107 ?_
      refine lv_iand F.1 F.2.1 dX8_fits_108 ?_
      obtain ⟨x6, e_x6, h⟩ := ltE h
      refine x_topi e_x6 ?_
      clear e_x6
      refine lv_istore (lv' := [(6, .int x6), (5, .int (v5 &&& v8)), (4, .int x5), (3, .int (v3 &&& v7)), (0, .ref (gA g 60)), (1, .int a1), (2, .int v2), (7, .int v7), (8, .int v8)]) F.1 F.2.1 dX8_fits_109 hl (by decide) rfl (fun ls hl => ?_)
      refine lv_iinc (v := (v2 + (1 : Int32))) (lv' := [(2, .int (v2 + (1 : Int32))), (6, .int x6), (5, .int (v5 &&& v8)), (4, .int x5), (3, .int (v3 &&& v7)), (0, .ref (gA g 60)), (1, .int a1), (7, .int v7), (8, .int v8)]) F.1 F.2.1 dX8_fits_111 hl (k := 6) rfl rfl (by decide) rfl (fun ls hl => ?_)
      exact w_114 _ (fun σ v2 v3 v4 v5 v6 v7 v8 => ih σ v2 v3 v4 v5 v6 v7 v8) q4.2 (v2 + (1 : Int32)) (v3 &&& v7) x5 (v5 &&& v8) x6 v7 v8 h H locs _ hS (lv_sub hl [5, 6, 0, 4, 3, 2, 1, 7, 8] rfl)
  have w_45 : ∀ (n : Nat) (σ : ZI) (v2 : Int32) (v3 : Int32) (v4 : Int32) (v5 : Int32) (v6 : Int32) (v7 : Int32), f_X8_fits_45 a1 n σ v2 v3 v4 v5 v6 v7 = some res → ∀ (H : Heap) (locs : List Loc) (ls : Array Slot), WS g σ τ s H locs → lv_has ls 9 [(0, .ref (gA g 60)), (1, .int a1), (2, .int v2), (3, .int v3), (4, .int v4), (5, .int v5), (6, .int v6), (7, .int v7)] → W p l e rm_X8_fits s m args below meth c H locs 0 0 (MQ below (va_Qi (fun (r : Int32) (u : ZI × ZL) => (r, u.1) = res ∧ u.2 = τ) (WQ g) (AA g)) args s 0 0 (AA g)) (F0 m 45 ls []) := by
    intro n
    induction n with
    | zero => intro σ v2 v3 v4 v5 v6 v7 h; rw [f_X8_fits_45] at h; cases h
    | succ n ih =>
      intro σ v2 v3 v4 v5 v6 v7 h H locs ls hS hl
      rw [f_X8_fits_45] at h
      refine lv_iload F.1 F.2.1 dX8_fits_45 (lv_at hl 7 rfl) ?_
      refine lv_iconst (v := (1 : Int32)) F.1 F.2.1 dX8_fits_47 (by decide) ?_
      refine lv_aload_n F.1 F.2.1 dX8_fits_48 rfl (lv_at hl 0 rfl) ?_
      refine gf_X8_13 F G hS dX8_fits_49 ?_
      refine lv_ishl F.1 F.2.1 dX8_fits_52 ?_
      refine lv_icmp_ge (tgt := 126) F.1 F.2.1 dX8_fits_53 (by decide) (fun hc => ?_) (fun hc => ?_)
      rotate_left
      · replace h := ifF h hc
        refine lv_iconst (v := (0 : Int32)) F.1 F.2.1 dX8_fits_56 (by decide) ?_
        refine lv_istore (lv' := [(8, .int (0 : Int32)), (0, .ref (gA g 60)), (1, .int a1), (2, .int v2), (3, .int v3), (4, .int v4), (5, .int v5), (6, .int v6), (7, .int v7)]) F.1 F.2.1 dX8_fits_57 hl (by decide) rfl (fun ls hl => ?_)
        exact w_59 _ (fun σ v2 v3 v4 v5 v6 v7 => ih σ v2 v3 v4 v5 v6 v7) 3000 σ v2 v3 v4 v5 v6 v7 (0 : Int32) h H locs _ hS (lv_sub hl [1, 2, 3, 4, 5, 6, 7, 8, 0] rfl)
      replace h := ifT h hc
      refine lv_iload_n F.1 F.2.1 dX8_fits_126 rfl (lv_at hl 1 rfl) ?_
      refine lv_if_eq (tgt := 134) F.1 F.2.1 dX8_fits_127 (by decide) (fun hc => ?_) (fun hc => ?_)
      · replace h := ifT h hc
        exact w_134 σ v2 h H locs _ hS (lv_sub hl [1, 2] rfl)
      replace h := ifF h hc
      refine lv_iload_n F.1 F.2.1 dX8_fits_130 rfl (lv_at hl 2 rfl) ?_
      refine lv_if_ne (tgt := 145) F.1 F.2.1 dX8_fits_131 (by decide) (fun hc => ?_) (fun hc => ?_)
      rotate_left
      · replace h := ifT h hc
        exact w_134 σ v2 h H locs _ hS (lv_sub hl [1, 2] rfl)
      replace h := ifF h hc
      refine lv_iload_n F.1 F.2.1 dX8_fits_145 rfl (lv_at hl 1 rfl) ?_
      refine lv_iconst (v := (1 : Int32)) F.1 F.2.1 dX8_fits_146 (by decide) ?_
      refine lv_icmp_ne (tgt := 154) F.1 F.2.1 dX8_fits_147 (by decide) (fun hc => ?_) (fun hc => ?_)
      rotate_left
      · replace h := ifT h hc
        refine lv_iload_n F.1 F.2.1 dX8_fits_150 rfl (lv_at hl 3 rfl) ?_
        refine lv_goto (tgt := 176) F.1 F.2.1 dX8_fits_151 (by decide) ?_
        exact e_i F hS ⟨Option.some.inj h, rfl⟩ hr0 dX8_fits_176 hk0
      replace h := ifF h hc
      refine lv_iload_n F.1 F.2.1 dX8_fits_154 rfl (lv_at hl 1 rfl) ?_
      refine lv_iconst (v := (2 : Int32)) F.1 F.2.1 dX8_fits_155 (by decide) ?_
      refine lv_icmp_ne (tgt := 164) F.1 F.2.1 dX8_fits_156 (by decide) (fun hc => ?_) (fun hc => ?_)
      rotate_left
      · replace h := ifT h hc
        refine lv_iload F.1 F.2.1 dX8_fits_159 (lv_at hl 4 rfl) ?_
        refine lv_goto (tgt := 176) F.1 F.2.1 dX8_fits_161 (by decide) ?_
        exact e_i F hS ⟨Option.some.inj h, rfl⟩ hr0 dX8_fits_176 hk0
      replace h := ifF h hc
      refine lv_iload_n F.1 F.2.1 dX8_fits_164 rfl (lv_at hl 1 rfl) ?_
      refine lv_iconst (v := (3 : Int32)) F.1 F.2.1 dX8_fits_165 (by decide) ?_
      refine lv_icmp_ne (tgt := 174) F.1 F.2.1 dX8_fits_166 (by decide) (fun hc => ?_) (fun hc => ?_)
      · replace h := ifF h hc
        refine lv_iload F.1 F.2.1 dX8_fits_174 (lv_at hl 6 rfl) ?_
        exact e_i F hS ⟨Option.some.inj h, rfl⟩ hr0 dX8_fits_176 hk0
      replace h := ifT h hc
      refine lv_iload F.1 F.2.1 dX8_fits_169 (lv_at hl 5 rfl) ?_
      refine lv_goto (tgt := 176) F.1 F.2.1 dX8_fits_171 (by decide) ?_
      exact e_i F hS ⟨Option.some.inj h, rfl⟩ hr0 dX8_fits_176 hk0
  obtain ⟨locs, hlo⟩ : ∃ z : List Loc, z = [] := ⟨_, rfl⟩
  rw [← hlo] at hS ⊢
  clear hlo
  refine lv_iload_n F.1 F.2.1 dX8_fits_0 rfl (lv_at hl 1 rfl) ?_
  refine lv_i2l F.1 F.2.1 dX8_fits_1 rfl ?_
  refine lv_lconst (v := (0 : Int64)) F.1 F.2.1 dX8_fits_2 (by decide) ?_
  refine lv_ldc2 (v := (4 : Int64)) F.1 F.2.1 F.2.2.2.1 (F.2.2.2.2 _ tb_1312) dX8_fits_3 ?_
  obtain ⟨q1, h_q1, h⟩ := bd h
  refine rSi F G hS hl.1 (c_X8_in l g σ τ a1.toInt64 (0 : Int64) (4 : Int64) q1 h_q1) lk_X8_71 ⟨rfl, rfl, Nat.le_of_ble_eq_true rfl, Nat.le_of_ble_eq_true rfl⟩  rfl rfl (Nat.le_of_ble_eq_true rfl) dX8_fits_6 (kRi (fun H locs hS => ?_))
  refine lv_if_ne (tgt := 14) F.1 F.2.1 dX8_fits_9 (by decide) (fun hc => ?_) (fun hc => ?_)
  rotate_left
  · replace h := ifT h hc
    refine lv_iconst (v := (-1 : Int32)) F.1 F.2.1 dX8_fits_12 (by decide) ?_
    exact e_i F hS ⟨Option.some.inj h, rfl⟩ hr0 dX8_fits_13 hk0
  replace h := ifF h hc
  refine lv_iconst (v := (0 : Int32)) F.1 F.2.1 dX8_fits_14 (by decide) ?_
  refine lv_istore_n (lv' := [(2, .int (0 : Int32)), (0, .ref (gA g 60)), (1, .int a1)]) F.1 F.2.1 dX8_fits_15 rfl hl (by decide) rfl (fun ls hl => ?_)
  refine lv_iconst (v := (1 : Int32)) F.1 F.2.1 dX8_fits_16 (by decide) ?_
  refine lv_aload_n F.1 F.2.1 dX8_fits_17 rfl (lv_at hl 1 rfl) ?_
  refine gf_X8_13 F G hS dX8_fits_18 ?_
  refine lv_ishl F.1 F.2.1 dX8_fits_21 ?_
  refine lv_iconst (v := (1 : Int32)) F.1 F.2.1 dX8_fits_22 (by decide) ?_
  refine lv_isub F.1 F.2.1 dX8_fits_23 ?_
  obtain ⟨x2, e_x2, h⟩ := ltE h
  refine x_topi e_x2 ?_
  clear e_x2
  refine lv_istore_n (lv' := [(3, .int x2), (2, .int (0 : Int32)), (0, .ref (gA g 60)), (1, .int a1)]) F.1 F.2.1 dX8_fits_24 rfl hl (by decide) rfl (fun ls hl => ?_)
  refine lv_iload_n F.1 F.2.1 dX8_fits_25 rfl (lv_at hl 0 rfl) ?_
  refine lv_istore (lv' := [(4, .int x2), (3, .int x2), (2, .int (0 : Int32)), (0, .ref (gA g 60)), (1, .int a1)]) F.1 F.2.1 dX8_fits_26 hl (by decide) rfl (fun ls hl => ?_)
  refine lv_iconst (v := (1 : Int32)) F.1 F.2.1 dX8_fits_28 (by decide) ?_
  refine lv_aload_n F.1 F.2.1 dX8_fits_29 rfl (lv_at hl 3 rfl) ?_
  refine gf_X8_170 F G hS dX8_fits_30 ?_
  refine lv_ishl F.1 F.2.1 dX8_fits_33 ?_
  refine lv_iconst (v := (1 : Int32)) F.1 F.2.1 dX8_fits_34 (by decide) ?_
  refine lv_isub F.1 F.2.1 dX8_fits_35 ?_
  obtain ⟨x3, e_x3, h⟩ := ltE h
  refine x_topi e_x3 ?_
  clear e_x3
  refine lv_istore (lv' := [(5, .int x3), (4, .int x2), (3, .int x2), (2, .int (0 : Int32)), (0, .ref (gA g 60)), (1, .int a1)]) F.1 F.2.1 dX8_fits_36 hl (by decide) rfl (fun ls hl => ?_)
  refine lv_iload F.1 F.2.1 dX8_fits_38 (lv_at hl 0 rfl) ?_
  refine lv_istore (lv' := [(6, .int x3), (5, .int x3), (4, .int x2), (3, .int x2), (2, .int (0 : Int32)), (0, .ref (gA g 60)), (1, .int a1)]) F.1 F.2.1 dX8_fits_40 hl (by decide) rfl (fun ls hl => ?_)
  refine lv_iconst (v := (0 : Int32)) F.1 F.2.1 dX8_fits_42 (by decide) ?_
  refine lv_istore (lv' := [(7, .int (0 : Int32)), (6, .int x3), (5, .int x3), (4, .int x2), (3, .int x2), (2, .int (0 : Int32)), (0, .ref (gA g 60)), (1, .int a1)]) F.1 F.2.1 dX8_fits_43 hl (by decide) rfl (fun ls hl => ?_)
  exact w_45 3000 σ (0 : Int32) x2 x2 x3 x3 (0 : Int32) h H locs _ hS (lv_sub hl [6, 7, 5, 4, 3, 2, 1, 0] rfl)
def f_X8_likely (σ : ZI) (a1 : Int32) : Option (Int64 × ZI) := (f_X8_in a1.toInt64 (0 : Int64) (1 : Int64)).bind (fun q1 => if q1 = 0 then (some ((-1 : Int64), σ)) else ((f_X8_meanOf σ (7 : Int32) (0 : Int32) (0 : Int32) a1).bind (fun q2 => some (q2.1, q2.2))))
abbrev rm_X8_likely : Room := { frames := 6, cells := 0, slots := 0, locals := 150 }
set_option maxHeartbeats 4000000 in
set_option maxRecDepth 100000 in
theorem c_X8_likely (l : Launch) (g : GG) (σ : ZI) (τ : ZL) (a1 : Int32) (res : Int64 × ZI) (h : f_X8_likely σ a1 = some res) : ML l yX8_likely cX8_likely 2 (some .long) rm_X8_likely g [.ref (gA g 60), .int a1] σ τ (fun (r : Int64) (u : ZI × ZL) => (r, u.1) = res ∧ u.2 = τ) := by
  refine Met_in (by decide) (Nat.le_of_ble_eq_true rfl) ?_
  intro p e s m args below meth c F G hP hr0 hk0 ls hl
  have hS := WS.start hP
  have hl : lv_has ls 2 [(0, .ref (gA g 60)), (1, .int a1)] := hl
  obtain ⟨H, hH⟩ : ∃ H, H = s.heap := ⟨_, rfl⟩
  rw [← hH] at hS ⊢
  clear hH hP
  rw [f_X8_likely] at h
  obtain ⟨locs, hlo⟩ : ∃ z : List Loc, z = [] := ⟨_, rfl⟩
  rw [← hlo] at hS ⊢
  clear hlo
  refine lv_iload_n F.1 F.2.1 dX8_likely_0 rfl (lv_at hl 1 rfl) ?_
  refine lv_i2l F.1 F.2.1 dX8_likely_1 rfl ?_
  refine lv_lconst (v := (0 : Int64)) F.1 F.2.1 dX8_likely_2 (by decide) ?_
  refine lv_lconst (v := (1 : Int64)) F.1 F.2.1 dX8_likely_3 (by decide) ?_
  obtain ⟨q1, h_q1, h⟩ := bd h
  refine rSi F G hS hl.1 (c_X8_in l g σ τ a1.toInt64 (0 : Int64) (1 : Int64) q1 h_q1) lk_X8_71 ⟨rfl, rfl, Nat.le_of_ble_eq_true rfl, Nat.le_of_ble_eq_true rfl⟩  rfl rfl (Nat.le_of_ble_eq_true rfl) dX8_likely_4 (kRi (fun H locs hS => ?_))
  refine lv_if_eq (tgt := 22) F.1 F.2.1 dX8_likely_7 (by decide) (fun hc => ?_) (fun hc => ?_)
  · replace h := ifT h hc
    refine lv_ldc2 (v := (-1 : Int64)) F.1 F.2.1 F.2.2.2.1 (F.2.2.2.2 _ tb_1389) dX8_likely_22 ?_
    exact e_l F hS ⟨Option.some.inj h, rfl⟩ hr0 dX8_likely_25 hk0
  replace h := ifF h hc
  refine lv_aload_n F.1 F.2.1 dX8_likely_10 rfl (lv_at hl 0 rfl) ?_
  refine lv_bipush (v := (7 : Int32)) F.1 F.2.1 dX8_likely_11 (by decide) ?_
  refine lv_iconst (v := (0 : Int32)) F.1 F.2.1 dX8_likely_13 (by decide) ?_
  refine lv_iconst (v := (0 : Int32)) F.1 F.2.1 dX8_likely_14 (by decide) ?_
  refine lv_iload_n F.1 F.2.1 dX8_likely_15 rfl (lv_at hl 1 rfl) ?_
  obtain ⟨q2, h_q2, h⟩ := bd h
  refine rVl F G hS hl.1 (c_X8_meanOf l g σ τ (7 : Int32) (0 : Int32) (0 : Int32) a1 q2 h_q2) lk_X8_284 ⟨rfl, rfl, Nat.le_of_ble_eq_true rfl, Nat.le_of_ble_eq_true rfl⟩ (rc_X8 G hS) rfl rfl (Nat.le_of_ble_eq_true rfl) dX8_likely_16 (kIl (fun H locs hS => ?_))
  refine lv_goto (tgt := 25) F.1 F.2.1 dX8_likely_19 (by decide) ?_
  exact e_l F hS ⟨Option.some.inj h, rfl⟩ hr0 dX8_likely_25 hk0
def f_X8_drift_136 (a1 : Int32) (a2 : Int32) (k_84 : ZI → Int32 → Int32 → Int32 → Int32 → Option (Int32 × ZI)) (σ : ZI) (v3 : Int32) (v4 : Int32) (v6 : Int32) (s0 : Int32) (s1 : Int32) : Option (Int32 × ZI) := k_84 σ v3 v4 (s1 ||| s0) (v6 + (1 : Int32))
def f_X8_drift_84 (a1 : Int32) (a2 : Int32)  : Nat → ZI → Int32 → Int32 → Int32 → Int32 → Option (Int32 × ZI)
  | 0, _, _, _, _, _ => none
  | n + 1, σ, v3, v4, v5, v6 => if (σ 60 5) ≤ v6 then ((f_X8_nights σ v4 v5).bind (fun q2 => (f_X8_nightTold q2 a2).bind (fun q3 => some (q3, q2)))) else (lt_ (((v3 * (1103515245 : Int32)) + (12345 : Int32))) (fun x4 => if inB ((3 : Int32) + v6) 90 = true then (if (σ 61 ((3 : Int32) + v6).toNatClampNeg) ≤ (((x4 >>> ((16 : Int32) &&& 31)) &&& (32767 : Int32)) - ((x4 >>> ((16 : Int32) &&& 31)) &&& (32767 : Int32)) / (10 : Int32) * (10 : Int32)) then (f_X8_drift_136 a1 a2 (fun σ v3 v4 v5 v6 => f_X8_drift_84 a1 a2 n σ v3 v4 v5 v6) σ x4 v4 v6 (0 : Int32) v5) else (f_X8_drift_136 a1 a2 (fun σ v3 v4 v5 v6 => f_X8_drift_84 a1 a2 n σ v3 v4 v5 v6) σ x4 v4 v6 ((1 : Int32) <<< (v6 &&& 31)) v5)) else none))
def f_X8_drift_72 (a1 : Int32) (a2 : Int32) (k_25 : ZI → Int32 → Int32 → Int32 → Int32 → Option (Int32 × ZI)) (σ : ZI) (v3 : Int32) (v5 : Int32) (v6 : Int32) (s0 : Int32) (s1 : Int32) : Option (Int32 × ZI) := k_25 σ v3 (s1 ||| s0) v5 (v6 + (1 : Int32))
def f_X8_drift_25 (a1 : Int32) (a2 : Int32)  : Nat → ZI → Int32 → Int32 → Int32 → Int32 → Option (Int32 × ZI)
  | 0, _, _, _, _, _ => none
  | n + 1, σ, v3, v4, v5, v6 => if (σ 60 1) ≤ v6 then (f_X8_drift_84 a1 a2 3000 σ v3 v4 v5 (0 : Int32)) else (lt_ (((v3 * (1103515245 : Int32)) + (12345 : Int32))) (fun x5 => (f_X8_slip σ).bind (fun q6 => if q6 ≤ (((x5 >>> ((16 : Int32) &&& 31)) &&& (32767 : Int32)) - ((x5 >>> ((16 : Int32) &&& 31)) &&& (32767 : Int32)) / (10 : Int32) * (10 : Int32)) then (f_X8_drift_72 a1 a2 (fun σ v3 v4 v5 v6 => f_X8_drift_25 a1 a2 n σ v3 v4 v5 v6) σ x5 v5 v6 (0 : Int32) v4) else (f_X8_drift_72 a1 a2 (fun σ v3 v4 v5 v6 => f_X8_drift_25 a1 a2 n σ v3 v4 v5 v6) σ x5 v5 v6 ((1 : Int32) <<< (v6 &&& 31)) v4))))
def f_X8_drift (σ : ZI) (a1 : Int32) (a2 : Int32) : Option (Int32 × ZI) := (f_X8_in a2.toInt64 (0 : Int64) (5 : Int64)).bind (fun q1 => if q1 = 0 then (some ((-1 : Int32), σ)) else (f_X8_drift_25 a1 a2 3000 σ a1 (0 : Int32) (0 : Int32) (0 : Int32)))
abbrev rm_X8_drift : Room := { frames := 2, cells := 0, slots := 0, locals := 49 }
set_option maxHeartbeats 4000000 in
set_option maxRecDepth 100000 in
theorem c_X8_drift (l : Launch) (g : GG) (σ : ZI) (τ : ZL) (a1 : Int32) (a2 : Int32) (res : Int32 × ZI) (h : f_X8_drift σ a1 a2 = some res) : MI l yX8_drift cX8_drift 7 (some .int) rm_X8_drift g [.ref (gA g 60), .int a1, .int a2] σ τ (fun (r : Int32) (u : ZI × ZL) => (r, u.1) = res ∧ u.2 = τ) := by
  refine Met_in (by decide) (Nat.le_of_ble_eq_true rfl) ?_
  intro p e s m args below meth c F G hP hr0 hk0 ls hl
  have hS := WS.start hP
  have hl : lv_has ls 7 [(0, .ref (gA g 60)), (1, .int a1), (2, .int a2)] := hl
  obtain ⟨H, hH⟩ : ∃ H, H = s.heap := ⟨_, rfl⟩
  rw [← hH] at hS ⊢
  clear hH hP
  rw [f_X8_drift] at h
  have w_136 : ∀ (k_84 : ZI → Int32 → Int32 → Int32 → Int32 → Option (Int32 × ZI)) (hk_84 : ∀ (σ : ZI) (v3 : Int32) (v4 : Int32) (v5 : Int32) (v6 : Int32), k_84 σ v3 v4 v5 v6 = some res → ∀ (H : Heap) (locs : List Loc) (ls : Array Slot), WS g σ τ s H locs → lv_has ls 7 [(0, .ref (gA g 60)), (2, .int a2), (3, .int v3), (4, .int v4), (5, .int v5), (6, .int v6)] → W p l e rm_X8_drift s m args below meth c H locs 0 0 (MQ below (va_Qi (fun (r : Int32) (u : ZI × ZL) => (r, u.1) = res ∧ u.2 = τ) (WQ g) (AA g)) args s 0 0 (AA g)) (F0 m 84 ls [])) (σ : ZI) (v3 : Int32) (v4 : Int32) (v6 : Int32) (s0 : Int32) (s1 : Int32), f_X8_drift_136 a1 a2 k_84 σ v3 v4 v6 s0 s1 = some res → ∀ (H : Heap) (locs : List Loc) (ls : Array Slot), WS g σ τ s H locs → lv_has ls 7 [(0, .ref (gA g 60)), (2, .int a2), (3, .int v3), (4, .int v4), (6, .int v6)] → W p l e rm_X8_drift s m args below meth c H locs 0 0 (MQ below (va_Qi (fun (r : Int32) (u : ZI × ZL) => (r, u.1) = res ∧ u.2 = τ) (WQ g) (AA g)) args s 0 0 (AA g)) (F0 m 136 ls [.int s0, .int s1]) := by
    intro k_84 hk_84 σ v3 v4 v6 s0 s1 h H locs ls hS hl
    rw [f_X8_drift_136] at h
    refine lv_ior F.1 F.2.1 dX8_drift_136 ?_
    refine lv_istore (lv' := [(5, .int (s1 ||| s0)), (0, .ref (gA g 60)), (2, .int a2), (3, .int v3), (4, .int v4), (6, .int v6)]) F.1 F.2.1 dX8_drift_137 hl (by decide) rfl (fun ls hl => ?_)
    refine lv_iinc (v := (v6 + (1 : Int32))) (lv' := [(6, .int (v6 + (1 : Int32))), (5, .int (s1 ||| s0)), (0, .ref (gA g 60)), (2, .int a2), (3, .int v3), (4, .int v4)]) F.1 F.2.1 dX8_drift_139 hl (k := 5) rfl rfl (by decide) rfl (fun ls hl => ?_)
    refine lv_goto (tgt := 84) F.1 F.2.1 dX8_drift_142 (by decide) ?_
    exact hk_84 σ v3 v4 (s1 ||| s0) (v6 + (1 : Int32)) h H locs _ hS (lv_sub hl [2, 3, 4, 5, 1, 0] rfl)
  have w_84 : ∀ (n : Nat) (σ : ZI) (v3 : Int32) (v4 : Int32) (v5 : Int32) (v6 : Int32), f_X8_drift_84 a1 a2 n σ v3 v4 v5 v6 = some res → ∀ (H : Heap) (locs : List Loc) (ls : Array Slot), WS g σ τ s H locs → lv_has ls 7 [(0, .ref (gA g 60)), (2, .int a2), (3, .int v3), (4, .int v4), (5, .int v5), (6, .int v6)] → W p l e rm_X8_drift s m args below meth c H locs 0 0 (MQ below (va_Qi (fun (r : Int32) (u : ZI × ZL) => (r, u.1) = res ∧ u.2 = τ) (WQ g) (AA g)) args s 0 0 (AA g)) (F0 m 84 ls []) := by
    intro n
    induction n with
    | zero => intro σ v3 v4 v5 v6 h; rw [f_X8_drift_84] at h; cases h
    | succ n ih =>
      intro σ v3 v4 v5 v6 h H locs ls hS hl
      rw [f_X8_drift_84] at h
      refine lv_iload F.1 F.2.1 dX8_drift_84 (lv_at hl 5 rfl) ?_
      refine lv_aload_n F.1 F.2.1 dX8_drift_86 rfl (lv_at hl 0 rfl) ?_
      refine gf_X8_170 F G hS dX8_drift_87 ?_
      refine lv_icmp_ge (tgt := 145) F.1 F.2.1 dX8_drift_90 (by decide) (fun hc => ?_) (fun hc => ?_)
      · replace h := ifT h hc
        refine lv_aload_n F.1 F.2.1 dX8_drift_145 rfl (lv_at hl 0 rfl) ?_
        refine lv_iload F.1 F.2.1 dX8_drift_146 (lv_at hl 3 rfl) ?_
        refine lv_iload F.1 F.2.1 dX8_drift_148 (lv_at hl 4 rfl) ?_
        obtain ⟨q2, h_q2, h⟩ := bd h
        refine rVv F G hS hl.1 (c_X8_nights l g σ τ v4 v5 q2 h_q2) lk_X8_244 ⟨rfl, rfl, Nat.le_of_ble_eq_true rfl, Nat.le_of_ble_eq_true rfl⟩ (rc_X8 G hS) rfl rfl (Nat.le_of_ble_eq_true rfl) dX8_drift_150 (kIv (fun H locs hS => ?_))
        refine lv_aload_n F.1 F.2.1 dX8_drift_153 rfl (lv_at hl 0 rfl) ?_
        refine lv_iload_n F.1 F.2.1 dX8_drift_154 rfl (lv_at hl 1 rfl) ?_
        obtain ⟨q3, h_q3, h⟩ := bd h
        refine rVi F G hS hl.1 (c_X8_nightTold l g q2 τ a2 q3 h_q3) lk_X8_248 ⟨rfl, rfl, Nat.le_of_ble_eq_true rfl, Nat.le_of_ble_eq_true rfl⟩ (rc_X8 G hS) rfl rfl (Nat.le_of_ble_eq_true rfl) dX8_drift_155 (kRi (fun H locs hS => ?_))
        exact e_i F hS ⟨Option.some.inj h, rfl⟩ hr0 dX8_drift_158 hk0
      replace h := ifF h hc
      refine lv_iload_n F.1 F.2.1 dX8_drift_93 rfl (lv_at hl 2 rfl) ?_
      refine lv_ldcw (v := (1103515245 : Int32)) F.1 F.2.1 F.2.2.2.1 (F.2.2.2.2 _ tb_1478) dX8_drift_94 ?_
      refine lv_imul F.1 F.2.1 dX8_drift_97 ?_
      refine lv_sipush (v := (12345 : Int32)) F.1 F.2.1 dX8_drift_98 (by decide) ?_
      refine lv_iadd F.1 F.2.1 dX8_drift_101 ?_
      obtain ⟨x4, e_x4, h⟩ := ltE h
      refine x_topi e_x4 ?_
      clear e_x4
      refine lv_istore_n (lv' := [(3, .int x4), (0, .ref (gA g 60)), (2, .int a2), (4, .int v4), (5, .int v5), (6, .int v6)]) F.1 F.2.1 dX8_drift_102 rfl hl (by decide) rfl (fun ls hl => ?_)
      refine lv_iload F.1 F.2.1 dX8_drift_103 (lv_at hl 4 rfl) ?_
      refine lv_iload_n F.1 F.2.1 dX8_drift_105 rfl (lv_at hl 0 rfl) ?_
      refine lv_bipush (v := (16 : Int32)) F.1 F.2.1 dX8_drift_106 (by decide) ?_
      refine lv_ishr F.1 F.2.1 dX8_drift_108 ?_
      refine lv_sipush (v := (32767 : Int32)) F.1 F.2.1 dX8_drift_109 (by decide) ?_
      refine lv_iand F.1 F.2.1 dX8_drift_112 ?_
      refine lv_bipush (v := (10 : Int32)) F.1 F.2.1 dX8_drift_113 (by decide) ?_
      refine lv_irem F.1 F.2.1 dX8_drift_115 (by decide) ?_
      refine lv_aload_n F.1 F.2.1 dX8_drift_116 rfl (lv_at hl 1 rfl) ?_
      refine gf_X8_7 F G hS dX8_drift_117 ?_
      refine lv_iconst (v := (3 : Int32)) F.1 F.2.1 dX8_drift_120 (by decide) ?_
      refine lv_iload F.1 F.2.1 dX8_drift_121 (lv_at hl 5 rfl) ?_
      refine lv_iadd F.1 F.2.1 dX8_drift_123 ?_
      obtain ⟨hin, h⟩ := gd h
      refine x_iald F G hS 61 rfl hin dX8_drift_124 ?_
      refine lv_icmp_ge (tgt := 135) F.1 F.2.1 dX8_drift_125 (by decide) (fun hc => ?_) (fun hc => ?_)
      · replace h := ifT h hc
        refine lv_iconst (v := (0 : Int32)) F.1 F.2.1 dX8_drift_135 (by decide) ?_
        exact w_136 _ (fun σ v3 v4 v5 v6 => ih σ v3 v4 v5 v6) σ x4 v4 v6 (0 : Int32) v5 h H locs _ hS (lv_sub hl [1, 2, 0, 3, 5] rfl)
      replace h := ifF h hc
      refine lv_iconst (v := (1 : Int32)) F.1 F.2.1 dX8_drift_128 (by decide) ?_
      refine lv_iload F.1 F.2.1 dX8_drift_129 (lv_at hl 5 rfl) ?_
      refine lv_ishl F.1 F.2.1 dX8_drift_131 ?_
      refine lv_goto (tgt := 136) F.1 F.2.1 dX8_drift_132 (by decide) ?_
      exact w_136 _ (fun σ v3 v4 v5 v6 => ih σ v3 v4 v5 v6) σ x4 v4 v6 ((1 : Int32) <<< (v6 &&& 31)) v5 h H locs _ hS (lv_sub hl [1, 2, 0, 3, 5] rfl)
  have w_72 : ∀ (k_25 : ZI → Int32 → Int32 → Int32 → Int32 → Option (Int32 × ZI)) (hk_25 : ∀ (σ : ZI) (v3 : Int32) (v4 : Int32) (v5 : Int32) (v6 : Int32), k_25 σ v3 v4 v5 v6 = some res → ∀ (H : Heap) (locs : List Loc) (ls : Array Slot), WS g σ τ s H locs → lv_has ls 7 [(0, .ref (gA g 60)), (2, .int a2), (3, .int v3), (4, .int v4), (5, .int v5), (6, .int v6)] → W p l e rm_X8_drift s m args below meth c H locs 0 0 (MQ below (va_Qi (fun (r : Int32) (u : ZI × ZL) => (r, u.1) = res ∧ u.2 = τ) (WQ g) (AA g)) args s 0 0 (AA g)) (F0 m 25 ls [])) (σ : ZI) (v3 : Int32) (v5 : Int32) (v6 : Int32) (s0 : Int32) (s1 : Int32), f_X8_drift_72 a1 a2 k_25 σ v3 v5 v6 s0 s1 = some res → ∀ (H : Heap) (locs : List Loc) (ls : Array Slot), WS g σ τ s H locs → lv_has ls 7 [(0, .ref (gA g 60)), (2, .int a2), (3, .int v3), (5, .int v5), (6, .int v6)] → W p l e rm_X8_drift s m args below meth c H locs 0 0 (MQ below (va_Qi (fun (r : Int32) (u : ZI × ZL) => (r, u.1) = res ∧ u.2 = τ) (WQ g) (AA g)) args s 0 0 (AA g)) (F0 m 72 ls [.int s0, .int s1]) := by
    intro k_25 hk_25 σ v3 v5 v6 s0 s1 h H locs ls hS hl
    rw [f_X8_drift_72] at h
    refine lv_ior F.1 F.2.1 dX8_drift_72 ?_
    refine lv_istore (lv' := [(4, .int (s1 ||| s0)), (0, .ref (gA g 60)), (2, .int a2), (3, .int v3), (5, .int v5), (6, .int v6)]) F.1 F.2.1 dX8_drift_73 hl (by decide) rfl (fun ls hl => ?_)
    refine lv_iinc (v := (v6 + (1 : Int32))) (lv' := [(6, .int (v6 + (1 : Int32))), (4, .int (s1 ||| s0)), (0, .ref (gA g 60)), (2, .int a2), (3, .int v3), (5, .int v5)]) F.1 F.2.1 dX8_drift_75 hl (k := 5) rfl rfl (by decide) rfl (fun ls hl => ?_)
    refine lv_goto (tgt := 25) F.1 F.2.1 dX8_drift_78 (by decide) ?_
    exact hk_25 σ v3 (s1 ||| s0) v5 (v6 + (1 : Int32)) h H locs _ hS (lv_sub hl [2, 3, 4, 1, 5, 0] rfl)
  have w_25 : ∀ (n : Nat) (σ : ZI) (v3 : Int32) (v4 : Int32) (v5 : Int32) (v6 : Int32), f_X8_drift_25 a1 a2 n σ v3 v4 v5 v6 = some res → ∀ (H : Heap) (locs : List Loc) (ls : Array Slot), WS g σ τ s H locs → lv_has ls 7 [(0, .ref (gA g 60)), (2, .int a2), (3, .int v3), (4, .int v4), (5, .int v5), (6, .int v6)] → W p l e rm_X8_drift s m args below meth c H locs 0 0 (MQ below (va_Qi (fun (r : Int32) (u : ZI × ZL) => (r, u.1) = res ∧ u.2 = τ) (WQ g) (AA g)) args s 0 0 (AA g)) (F0 m 25 ls []) := by
    intro n
    induction n with
    | zero => intro σ v3 v4 v5 v6 h; rw [f_X8_drift_25] at h; cases h
    | succ n ih =>
      intro σ v3 v4 v5 v6 h H locs ls hS hl
      rw [f_X8_drift_25] at h
      refine lv_iload F.1 F.2.1 dX8_drift_25 (lv_at hl 5 rfl) ?_
      refine lv_aload_n F.1 F.2.1 dX8_drift_27 rfl (lv_at hl 0 rfl) ?_
      refine gf_X8_13 F G hS dX8_drift_28 ?_
      refine lv_icmp_ge (tgt := 81) F.1 F.2.1 dX8_drift_31 (by decide) (fun hc => ?_) (fun hc => ?_)
      · replace h := ifT h hc
        refine lv_iconst (v := (0 : Int32)) F.1 F.2.1 dX8_drift_81 (by decide) ?_
        refine lv_istore (lv' := [(6, .int (0 : Int32)), (0, .ref (gA g 60)), (2, .int a2), (3, .int v3), (4, .int v4), (5, .int v5)]) F.1 F.2.1 dX8_drift_82 hl (by decide) rfl (fun ls hl => ?_)
        exact w_84 3000 σ v3 v4 v5 (0 : Int32) h H locs _ hS (lv_sub hl [1, 2, 3, 4, 5, 0] rfl)
      replace h := ifF h hc
      refine lv_iload_n F.1 F.2.1 dX8_drift_34 rfl (lv_at hl 2 rfl) ?_
      refine lv_ldcw (v := (1103515245 : Int32)) F.1 F.2.1 F.2.2.2.1 (F.2.2.2.2 _ tb_1478) dX8_drift_35 ?_
      refine lv_imul F.1 F.2.1 dX8_drift_38 ?_
      refine lv_sipush (v := (12345 : Int32)) F.1 F.2.1 dX8_drift_39 (by decide) ?_
      refine lv_iadd F.1 F.2.1 dX8_drift_42 ?_
      obtain ⟨x5, e_x5, h⟩ := ltE h
      refine x_topi e_x5 ?_
      clear e_x5
      refine lv_istore_n (lv' := [(3, .int x5), (0, .ref (gA g 60)), (2, .int a2), (4, .int v4), (5, .int v5), (6, .int v6)]) F.1 F.2.1 dX8_drift_43 rfl hl (by decide) rfl (fun ls hl => ?_)
      refine lv_iload F.1 F.2.1 dX8_drift_44 (lv_at hl 3 rfl) ?_
      refine lv_iload_n F.1 F.2.1 dX8_drift_46 rfl (lv_at hl 0 rfl) ?_
      refine lv_bipush (v := (16 : Int32)) F.1 F.2.1 dX8_drift_47 (by decide) ?_
      refine lv_ishr F.1 F.2.1 dX8_drift_49 ?_
      refine lv_sipush (v := (32767 : Int32)) F.1 F.2.1 dX8_drift_50 (by decide) ?_
      refine lv_iand F.1 F.2.1 dX8_drift_53 ?_
      refine lv_bipush (v := (10 : Int32)) F.1 F.2.1 dX8_drift_54 (by decide) ?_
      refine lv_irem F.1 F.2.1 dX8_drift_56 (by decide) ?_
      refine lv_aload_n F.1 F.2.1 dX8_drift_57 rfl (lv_at hl 1 rfl) ?_
      obtain ⟨q6, h_q6, h⟩ := bd h
      refine rVi F G hS hl.1 (c_X8_slip l g σ τ q6 h_q6) lk_X8_179 ⟨rfl, rfl, Nat.le_of_ble_eq_true rfl, Nat.le_of_ble_eq_true rfl⟩ (rc_X8 G hS) rfl rfl (Nat.le_of_ble_eq_true rfl) dX8_drift_58 (kRi (fun H locs hS => ?_))
      refine lv_icmp_ge (tgt := 71) F.1 F.2.1 dX8_drift_61 (by decide) (fun hc => ?_) (fun hc => ?_)
      · replace h := ifT h hc
        refine lv_iconst (v := (0 : Int32)) F.1 F.2.1 dX8_drift_71 (by decide) ?_
        exact w_72 _ (fun σ v3 v4 v5 v6 => ih σ v3 v4 v5 v6) σ x5 v5 v6 (0 : Int32) v4 h H locs _ hS (lv_sub hl [1, 2, 0, 4, 5] rfl)
      replace h := ifF h hc
      refine lv_iconst (v := (1 : Int32)) F.1 F.2.1 dX8_drift_64 (by decide) ?_
      refine lv_iload F.1 F.2.1 dX8_drift_65 (lv_at hl 5 rfl) ?_
      refine lv_ishl F.1 F.2.1 dX8_drift_67 ?_
      refine lv_goto (tgt := 72) F.1 F.2.1 dX8_drift_68 (by decide) ?_
      exact w_72 _ (fun σ v3 v4 v5 v6 => ih σ v3 v4 v5 v6) σ x5 v5 v6 ((1 : Int32) <<< (v6 &&& 31)) v4 h H locs _ hS (lv_sub hl [1, 2, 0, 4, 5] rfl)
  obtain ⟨locs, hlo⟩ : ∃ z : List Loc, z = [] := ⟨_, rfl⟩
  rw [← hlo] at hS ⊢
  clear hlo
  refine lv_iload_n F.1 F.2.1 dX8_drift_0 rfl (lv_at hl 2 rfl) ?_
  refine lv_i2l F.1 F.2.1 dX8_drift_1 rfl ?_
  refine lv_lconst (v := (0 : Int64)) F.1 F.2.1 dX8_drift_2 (by decide) ?_
  refine lv_ldc2 (v := (5 : Int64)) F.1 F.2.1 F.2.2.2.1 (F.2.2.2.2 _ tb_1330) dX8_drift_3 ?_
  obtain ⟨q1, h_q1, h⟩ := bd h
  refine rSi F G hS hl.1 (c_X8_in l g σ τ a2.toInt64 (0 : Int64) (5 : Int64) q1 h_q1) lk_X8_71 ⟨rfl, rfl, Nat.le_of_ble_eq_true rfl, Nat.le_of_ble_eq_true rfl⟩  rfl rfl (Nat.le_of_ble_eq_true rfl) dX8_drift_6 (kRi (fun H locs hS => ?_))
  refine lv_if_ne (tgt := 14) F.1 F.2.1 dX8_drift_9 (by decide) (fun hc => ?_) (fun hc => ?_)
  rotate_left
  · replace h := ifT h hc
    refine lv_iconst (v := (-1 : Int32)) F.1 F.2.1 dX8_drift_12 (by decide) ?_
    exact e_i F hS ⟨Option.some.inj h, rfl⟩ hr0 dX8_drift_13 hk0
  replace h := ifF h hc
  refine lv_iload_n F.1 F.2.1 dX8_drift_14 rfl (lv_at hl 1 rfl) ?_
  refine lv_istore_n (lv' := [(3, .int a1), (0, .ref (gA g 60)), (1, .int a1), (2, .int a2)]) F.1 F.2.1 dX8_drift_15 rfl hl (by decide) rfl (fun ls hl => ?_)
  refine lv_iconst (v := (0 : Int32)) F.1 F.2.1 dX8_drift_16 (by decide) ?_
  refine lv_istore (lv' := [(4, .int (0 : Int32)), (3, .int a1), (0, .ref (gA g 60)), (1, .int a1), (2, .int a2)]) F.1 F.2.1 dX8_drift_17 hl (by decide) rfl (fun ls hl => ?_)
  refine lv_iconst (v := (0 : Int32)) F.1 F.2.1 dX8_drift_19 (by decide) ?_
  refine lv_istore (lv' := [(5, .int (0 : Int32)), (4, .int (0 : Int32)), (3, .int a1), (0, .ref (gA g 60)), (1, .int a1), (2, .int a2)]) F.1 F.2.1 dX8_drift_20 hl (by decide) rfl (fun ls hl => ?_)
  refine lv_iconst (v := (0 : Int32)) F.1 F.2.1 dX8_drift_22 (by decide) ?_
  refine lv_istore (lv' := [(6, .int (0 : Int32)), (5, .int (0 : Int32)), (4, .int (0 : Int32)), (3, .int a1), (0, .ref (gA g 60)), (1, .int a1), (2, .int a2)]) F.1 F.2.1 dX8_drift_23 hl (by decide) rfl (fun ls hl => ?_)
  exact w_25 3000 σ a1 (0 : Int32) (0 : Int32) (0 : Int32) h H locs _ hS (lv_sub hl [4, 6, 3, 2, 1, 0] rfl)
def f_X8_keep_37 (a1 : Int32)  (σ : ZI) (s0 : Int32) : Option (Int32 × ZI) := if inB a1 2 = true then (lt_ (va_up σ 75 (upd (σ 75) a1.toNatClampNeg (vp_nar .boolean (1 : Int32)))) (fun σ3 => some (s0, σ3))) else none
def f_X8_keep (σ : ZI) (a1 : Int32) : Option (Int32 × ZI) := (f_X8_in a1.toInt64 (0 : Int64) (1 : Int64)).bind (fun q1 => if q1 = 0 then (some ((-1 : Int32), σ)) else ((f_X8_copies σ (0 : Int32) ((18 : Int32) * (a1 + (1 : Int32)))).bind (fun q2 => if inB a1 2 = true then (if (q2 75 a1.toNatClampNeg) = 0 then (f_X8_keep_37 a1 q2 (0 : Int32)) else (f_X8_keep_37 a1 q2 (1 : Int32))) else none)))
abbrev rm_X8_keep : Room := { frames := 1, cells := 0, slots := 0, locals := 25 }
set_option maxHeartbeats 4000000 in
set_option maxRecDepth 100000 in
theorem c_X8_keep (l : Launch) (g : GG) (σ : ZI) (τ : ZL) (a1 : Int32) (res : Int32 × ZI) (h : f_X8_keep σ a1 = some res) : MI l yX8_keep cX8_keep 3 (some .int) rm_X8_keep g [.ref (gA g 60), .int a1] σ τ (fun (r : Int32) (u : ZI × ZL) => (r, u.1) = res ∧ u.2 = τ) := by
  refine Met_in (by decide) (Nat.le_of_ble_eq_true rfl) ?_
  intro p e s m args below meth c F G hP hr0 hk0 ls hl
  have hS := WS.start hP
  have hl : lv_has ls 3 [(0, .ref (gA g 60)), (1, .int a1)] := hl
  obtain ⟨H, hH⟩ : ∃ H, H = s.heap := ⟨_, rfl⟩
  rw [← hH] at hS ⊢
  clear hH hP
  rw [f_X8_keep] at h
  have w_37 : ∀ (σ : ZI) (s0 : Int32), f_X8_keep_37 a1 σ s0 = some res → ∀ (H : Heap) (locs : List Loc) (ls : Array Slot), WS g σ τ s H locs → lv_has ls 3 [(0, .ref (gA g 60)), (1, .int a1)] → W p l e rm_X8_keep s m args below meth c H locs 0 0 (MQ below (va_Qi (fun (r : Int32) (u : ZI × ZL) => (r, u.1) = res ∧ u.2 = τ) (WQ g) (AA g)) args s 0 0 (AA g)) (F0 m 37 ls [.int s0]) := by
    intro  σ s0 h H locs ls hS hl
    rw [f_X8_keep_37] at h
    refine lv_istore_n (lv' := [(2, .int s0), (0, .ref (gA g 60)), (1, .int a1)]) F.1 F.2.1 dX8_keep_37 rfl hl (by decide) rfl (fun ls hl => ?_)
    refine lv_aload_n F.1 F.2.1 dX8_keep_38 rfl (lv_at hl 1 rfl) ?_
    refine gf_X8_56 F G hS dX8_keep_39 ?_
    refine lv_iload_n F.1 F.2.1 dX8_keep_42 rfl (lv_at hl 2 rfl) ?_
    refine lv_iconst (v := (1 : Int32)) F.1 F.2.1 dX8_keep_43 (by decide) ?_
    obtain ⟨hin, h⟩ := gd h
    refine x_zast F G hS 75 rfl hin dX8_keep_44 (fun H locs hS => ?_)
    obtain ⟨σ3, e_σ3, h⟩ := ltE h
    rw [← e_σ3] at hS
    clear e_σ3
    refine lv_iload_n F.1 F.2.1 dX8_keep_45 rfl (lv_at hl 0 rfl) ?_
    exact e_i F hS ⟨Option.some.inj h, rfl⟩ hr0 dX8_keep_46 hk0
  obtain ⟨locs, hlo⟩ : ∃ z : List Loc, z = [] := ⟨_, rfl⟩
  rw [← hlo] at hS ⊢
  clear hlo
  refine lv_iload_n F.1 F.2.1 dX8_keep_0 rfl (lv_at hl 1 rfl) ?_
  refine lv_i2l F.1 F.2.1 dX8_keep_1 rfl ?_
  refine lv_lconst (v := (0 : Int64)) F.1 F.2.1 dX8_keep_2 (by decide) ?_
  refine lv_lconst (v := (1 : Int64)) F.1 F.2.1 dX8_keep_3 (by decide) ?_
  obtain ⟨q1, h_q1, h⟩ := bd h
  refine rSi F G hS hl.1 (c_X8_in l g σ τ a1.toInt64 (0 : Int64) (1 : Int64) q1 h_q1) lk_X8_71 ⟨rfl, rfl, Nat.le_of_ble_eq_true rfl, Nat.le_of_ble_eq_true rfl⟩  rfl rfl (Nat.le_of_ble_eq_true rfl) dX8_keep_4 (kRi (fun H locs hS => ?_))
  refine lv_if_ne (tgt := 12) F.1 F.2.1 dX8_keep_7 (by decide) (fun hc => ?_) (fun hc => ?_)
  rotate_left
  · replace h := ifT h hc
    refine lv_iconst (v := (-1 : Int32)) F.1 F.2.1 dX8_keep_10 (by decide) ?_
    exact e_i F hS ⟨Option.some.inj h, rfl⟩ hr0 dX8_keep_11 hk0
  replace h := ifF h hc
  refine lv_aload_n F.1 F.2.1 dX8_keep_12 rfl (lv_at hl 0 rfl) ?_
  refine lv_iconst (v := (0 : Int32)) F.1 F.2.1 dX8_keep_13 (by decide) ?_
  refine lv_bipush (v := (18 : Int32)) F.1 F.2.1 dX8_keep_14 (by decide) ?_
  refine lv_iload_n F.1 F.2.1 dX8_keep_16 rfl (lv_at hl 1 rfl) ?_
  refine lv_iconst (v := (1 : Int32)) F.1 F.2.1 dX8_keep_17 (by decide) ?_
  refine lv_iadd F.1 F.2.1 dX8_keep_18 ?_
  refine lv_imul F.1 F.2.1 dX8_keep_19 ?_
  obtain ⟨q2, h_q2, h⟩ := bd h
  refine rVv F G hS hl.1 (c_X8_copies l g σ τ (0 : Int32) ((18 : Int32) * (a1 + (1 : Int32))) q2 h_q2) lk_X8_292 ⟨rfl, rfl, Nat.le_of_ble_eq_true rfl, Nat.le_of_ble_eq_true rfl⟩ (rc_X8 G hS) rfl rfl (Nat.le_of_ble_eq_true rfl) dX8_keep_20 (kIv (fun H locs hS => ?_))
  refine lv_aload_n F.1 F.2.1 dX8_keep_23 rfl (lv_at hl 0 rfl) ?_
  refine gf_X8_56 F G hS dX8_keep_24 ?_
  refine lv_iload_n F.1 F.2.1 dX8_keep_27 rfl (lv_at hl 1 rfl) ?_
  obtain ⟨hin, h⟩ := gd h
  refine x_zald F G hS 75 rfl hin dX8_keep_28 ?_
  refine lv_if_eq (tgt := 36) F.1 F.2.1 dX8_keep_29 (by decide) (fun hc => ?_) (fun hc => ?_)
  · replace h := ifT h hc
    refine lv_iconst (v := (0 : Int32)) F.1 F.2.1 dX8_keep_36 (by decide) ?_
    exact w_37 q2 (0 : Int32) h H locs _ hS (lv_sub hl [0, 1] rfl)
  replace h := ifF h hc
  refine lv_iconst (v := (1 : Int32)) F.1 F.2.1 dX8_keep_32 (by decide) ?_
  refine lv_goto (tgt := 37) F.1 F.2.1 dX8_keep_33 (by decide) ?_
  exact w_37 q2 (1 : Int32) h H locs _ hS (lv_sub hl [0, 1] rfl)
def f_X8_back (σ : ZI) (a1 : Int32) : Option (Int32 × ZI) := (f_X8_in a1.toInt64 (0 : Int64) (1 : Int64)).bind (fun q1 => if q1 = 0 then (some ((-1 : Int32), σ)) else (if inB a1 2 = true then (if (σ 75 a1.toNatClampNeg) = 0 then (some ((-2 : Int32), σ)) else ((f_X8_copies σ ((18 : Int32) * (a1 + (1 : Int32))) (0 : Int32)).bind (fun q2 => some ((q2 60 1), q2)))) else none))
abbrev rm_X8_back : Room := { frames := 1, cells := 0, slots := 0, locals := 25 }
set_option maxHeartbeats 4000000 in
set_option maxRecDepth 100000 in
theorem c_X8_back (l : Launch) (g : GG) (σ : ZI) (τ : ZL) (a1 : Int32) (res : Int32 × ZI) (h : f_X8_back σ a1 = some res) : MI l yX8_back cX8_back 2 (some .int) rm_X8_back g [.ref (gA g 60), .int a1] σ τ (fun (r : Int32) (u : ZI × ZL) => (r, u.1) = res ∧ u.2 = τ) := by
  refine Met_in (by decide) (Nat.le_of_ble_eq_true rfl) ?_
  intro p e s m args below meth c F G hP hr0 hk0 ls hl
  have hS := WS.start hP
  have hl : lv_has ls 2 [(0, .ref (gA g 60)), (1, .int a1)] := hl
  obtain ⟨H, hH⟩ : ∃ H, H = s.heap := ⟨_, rfl⟩
  rw [← hH] at hS ⊢
  clear hH hP
  rw [f_X8_back] at h
  obtain ⟨locs, hlo⟩ : ∃ z : List Loc, z = [] := ⟨_, rfl⟩
  rw [← hlo] at hS ⊢
  clear hlo
  refine lv_iload_n F.1 F.2.1 dX8_back_0 rfl (lv_at hl 1 rfl) ?_
  refine lv_i2l F.1 F.2.1 dX8_back_1 rfl ?_
  refine lv_lconst (v := (0 : Int64)) F.1 F.2.1 dX8_back_2 (by decide) ?_
  refine lv_lconst (v := (1 : Int64)) F.1 F.2.1 dX8_back_3 (by decide) ?_
  obtain ⟨q1, h_q1, h⟩ := bd h
  refine rSi F G hS hl.1 (c_X8_in l g σ τ a1.toInt64 (0 : Int64) (1 : Int64) q1 h_q1) lk_X8_71 ⟨rfl, rfl, Nat.le_of_ble_eq_true rfl, Nat.le_of_ble_eq_true rfl⟩  rfl rfl (Nat.le_of_ble_eq_true rfl) dX8_back_4 (kRi (fun H locs hS => ?_))
  refine lv_if_ne (tgt := 12) F.1 F.2.1 dX8_back_7 (by decide) (fun hc => ?_) (fun hc => ?_)
  rotate_left
  · replace h := ifT h hc
    refine lv_iconst (v := (-1 : Int32)) F.1 F.2.1 dX8_back_10 (by decide) ?_
    exact e_i F hS ⟨Option.some.inj h, rfl⟩ hr0 dX8_back_11 hk0
  replace h := ifF h hc
  refine lv_aload_n F.1 F.2.1 dX8_back_12 rfl (lv_at hl 0 rfl) ?_
  refine gf_X8_56 F G hS dX8_back_13 ?_
  refine lv_iload_n F.1 F.2.1 dX8_back_16 rfl (lv_at hl 1 rfl) ?_
  obtain ⟨hin, h⟩ := gd h
  refine x_zald F G hS 75 rfl hin dX8_back_17 ?_
  refine lv_if_ne (tgt := 24) F.1 F.2.1 dX8_back_18 (by decide) (fun hc => ?_) (fun hc => ?_)
  rotate_left
  · replace h := ifT h hc
    refine lv_bipush (v := (-2 : Int32)) F.1 F.2.1 dX8_back_21 (by decide) ?_
    exact e_i F hS ⟨Option.some.inj h, rfl⟩ hr0 dX8_back_23 hk0
  replace h := ifF h hc
  refine lv_aload_n F.1 F.2.1 dX8_back_24 rfl (lv_at hl 0 rfl) ?_
  refine lv_bipush (v := (18 : Int32)) F.1 F.2.1 dX8_back_25 (by decide) ?_
  refine lv_iload_n F.1 F.2.1 dX8_back_27 rfl (lv_at hl 1 rfl) ?_
  refine lv_iconst (v := (1 : Int32)) F.1 F.2.1 dX8_back_28 (by decide) ?_
  refine lv_iadd F.1 F.2.1 dX8_back_29 ?_
  refine lv_imul F.1 F.2.1 dX8_back_30 ?_
  refine lv_iconst (v := (0 : Int32)) F.1 F.2.1 dX8_back_31 (by decide) ?_
  obtain ⟨q2, h_q2, h⟩ := bd h
  refine rVv F G hS hl.1 (c_X8_copies l g σ τ ((18 : Int32) * (a1 + (1 : Int32))) (0 : Int32) q2 h_q2) lk_X8_292 ⟨rfl, rfl, Nat.le_of_ble_eq_true rfl, Nat.le_of_ble_eq_true rfl⟩ (rc_X8 G hS) rfl rfl (Nat.le_of_ble_eq_true rfl) dX8_back_32 (kIv (fun H locs hS => ?_))
  refine lv_aload_n F.1 F.2.1 dX8_back_35 rfl (lv_at hl 0 rfl) ?_
  refine gf_X8_13 F G hS dX8_back_36 ?_
  exact e_i F hS ⟨Option.some.inj h, rfl⟩ hr0 dX8_back_39 hk0
def f_X8_sheet_56 (a1 : Int32) (a2 : Int32) (a3 : Int32)  : Nat → ZI → Int32 → Option (Int32 × ZI)
  | 0, _, _ => none
  | n + 1, σ, v4 => if (40 : Int32) ≤ v4 then (some ((1 : Int32), σ)) else (if inB (((40 : Int32) * a1) + v4) 160 = true then (lt_ (va_up σ 78 (upd (σ 78) (((40 : Int32) * a1) + v4).toNatClampNeg (0 : Int32))) (fun σ5 => f_X8_sheet_56 a1 a2 a3 n σ5 (v4 + (1 : Int32)))) else none)
def f_X8_sheet (σ : ZI) (a1 : Int32) (a2 : Int32) (a3 : Int32) : Option (Int32 × ZI) := (f_X8_in a1.toInt64 (0 : Int64) (3 : Int64)).bind (fun q1 => if q1 = 0 then (some ((-1 : Int32), σ)) else ((f_X8_in a2.toInt64 (0 : Int64) (2 : Int64)).bind (fun q2 => if q2 = 0 then (some ((-1 : Int32), σ)) else (if a3 ≤ (40 : Int32) then (if 0 ≤ a3 then (if inB a1 4 = true then (lt_ (va_up σ 76 (upd (σ 76) a1.toNatClampNeg a2)) (fun σ3 => if inB a1 4 = true then (lt_ (va_up σ3 77 (upd (σ3 77) a1.toNatClampNeg a3)) (fun σ4 => f_X8_sheet_56 a1 a2 a3 3000 σ4 (0 : Int32))) else none)) else none) else (some ((-14 : Int32), σ))) else (some ((-1 : Int32), σ))))))
abbrev rm_X8_sheet : Room := { frames := 1, cells := 0, slots := 0, locals := 25 }
set_option maxHeartbeats 4000000 in
set_option maxRecDepth 100000 in
theorem c_X8_sheet (l : Launch) (g : GG) (σ : ZI) (τ : ZL) (a1 : Int32) (a2 : Int32) (a3 : Int32) (res : Int32 × ZI) (h : f_X8_sheet σ a1 a2 a3 = some res) : MI l yX8_sheet cX8_sheet 5 (some .int) rm_X8_sheet g [.ref (gA g 60), .int a1, .int a2, .int a3] σ τ (fun (r : Int32) (u : ZI × ZL) => (r, u.1) = res ∧ u.2 = τ) := by
  refine Met_in (by decide) (Nat.le_of_ble_eq_true rfl) ?_
  intro p e s m args below meth c F G hP hr0 hk0 ls hl
  have hS := WS.start hP
  have hl : lv_has ls 5 [(0, .ref (gA g 60)), (1, .int a1), (2, .int a2), (3, .int a3)] := hl
  obtain ⟨H, hH⟩ : ∃ H, H = s.heap := ⟨_, rfl⟩
  rw [← hH] at hS ⊢
  clear hH hP
  rw [f_X8_sheet] at h
  have w_56 : ∀ (n : Nat) (σ : ZI) (v4 : Int32), f_X8_sheet_56 a1 a2 a3 n σ v4 = some res → ∀ (H : Heap) (locs : List Loc) (ls : Array Slot), WS g σ τ s H locs → lv_has ls 5 [(0, .ref (gA g 60)), (1, .int a1), (4, .int v4)] → W p l e rm_X8_sheet s m args below meth c H locs 0 0 (MQ below (va_Qi (fun (r : Int32) (u : ZI × ZL) => (r, u.1) = res ∧ u.2 = τ) (WQ g) (AA g)) args s 0 0 (AA g)) (F0 m 56 ls []) := by
    intro n
    induction n with
    | zero => intro σ v4 h; rw [f_X8_sheet_56] at h; cases h
    | succ n ih =>
      intro σ v4 h H locs ls hS hl
      rw [f_X8_sheet_56] at h
      refine lv_iload F.1 F.2.1 dX8_sheet_56 (lv_at hl 2 rfl) ?_
      refine lv_bipush (v := (40 : Int32)) F.1 F.2.1 dX8_sheet_58 (by decide) ?_
      refine lv_icmp_ge (tgt := 82) F.1 F.2.1 dX8_sheet_60 (by decide) (fun hc => ?_) (fun hc => ?_)
      · replace h := ifT h hc
        refine lv_iconst (v := (1 : Int32)) F.1 F.2.1 dX8_sheet_82 (by decide) ?_
        exact e_i F hS ⟨Option.some.inj h, rfl⟩ hr0 dX8_sheet_83 hk0
      replace h := ifF h hc
      refine lv_aload_n F.1 F.2.1 dX8_sheet_63 rfl (lv_at hl 0 rfl) ?_
      refine gf_X8_66 F G hS dX8_sheet_64 ?_
      refine lv_bipush (v := (40 : Int32)) F.1 F.2.1 dX8_sheet_67 (by decide) ?_
      refine lv_iload_n F.1 F.2.1 dX8_sheet_69 rfl (lv_at hl 1 rfl) ?_
      refine lv_imul F.1 F.2.1 dX8_sheet_70 ?_
      refine lv_iload F.1 F.2.1 dX8_sheet_71 (lv_at hl 2 rfl) ?_
      refine lv_iadd F.1 F.2.1 dX8_sheet_73 ?_
      refine lv_iconst (v := (0 : Int32)) F.1 F.2.1 dX8_sheet_74 (by decide) ?_
      obtain ⟨hin, h⟩ := gd h
      refine x_iast F G hS 78 rfl hin dX8_sheet_75 (fun H locs hS => ?_)
      obtain ⟨σ5, e_σ5, h⟩ := ltE h
      rw [← e_σ5] at hS
      clear e_σ5
      refine lv_iinc (v := (v4 + (1 : Int32))) (lv' := [(4, .int (v4 + (1 : Int32))), (0, .ref (gA g 60)), (1, .int a1)]) F.1 F.2.1 dX8_sheet_76 hl (k := 2) rfl rfl (by decide) rfl (fun ls hl => ?_)
      refine lv_goto (tgt := 56) F.1 F.2.1 dX8_sheet_79 (by decide) ?_
      exact ih σ5 (v4 + (1 : Int32)) h H locs _ hS (lv_sub hl [1, 2, 0] rfl)
  obtain ⟨locs, hlo⟩ : ∃ z : List Loc, z = [] := ⟨_, rfl⟩
  rw [← hlo] at hS ⊢
  clear hlo
  refine lv_iload_n F.1 F.2.1 dX8_sheet_0 rfl (lv_at hl 1 rfl) ?_
  refine lv_i2l F.1 F.2.1 dX8_sheet_1 rfl ?_
  refine lv_lconst (v := (0 : Int64)) F.1 F.2.1 dX8_sheet_2 (by decide) ?_
  refine lv_ldc2 (v := (3 : Int64)) F.1 F.2.1 F.2.2.2.1 (F.2.2.2.2 _ tb_1491) dX8_sheet_3 ?_
  obtain ⟨q1, h_q1, h⟩ := bd h
  refine rSi F G hS hl.1 (c_X8_in l g σ τ a1.toInt64 (0 : Int64) (3 : Int64) q1 h_q1) lk_X8_71 ⟨rfl, rfl, Nat.le_of_ble_eq_true rfl, Nat.le_of_ble_eq_true rfl⟩  rfl rfl (Nat.le_of_ble_eq_true rfl) dX8_sheet_6 (kRi (fun H locs hS => ?_))
  refine lv_if_eq (tgt := 30) F.1 F.2.1 dX8_sheet_9 (by decide) (fun hc => ?_) (fun hc => ?_)
  · replace h := ifT h hc
    refine lv_iconst (v := (-1 : Int32)) F.1 F.2.1 dX8_sheet_30 (by decide) ?_
    exact e_i F hS ⟨Option.some.inj h, rfl⟩ hr0 dX8_sheet_31 hk0
  replace h := ifF h hc
  refine lv_iload_n F.1 F.2.1 dX8_sheet_12 rfl (lv_at hl 2 rfl) ?_
  refine lv_i2l F.1 F.2.1 dX8_sheet_13 rfl ?_
  refine lv_lconst (v := (0 : Int64)) F.1 F.2.1 dX8_sheet_14 (by decide) ?_
  refine lv_ldc2 (v := (2 : Int64)) F.1 F.2.1 F.2.2.2.1 (F.2.2.2.2 _ tb_1418) dX8_sheet_15 ?_
  obtain ⟨q2, h_q2, h⟩ := bd h
  refine rSi F G hS hl.1 (c_X8_in l g σ τ a2.toInt64 (0 : Int64) (2 : Int64) q2 h_q2) lk_X8_71 ⟨rfl, rfl, Nat.le_of_ble_eq_true rfl, Nat.le_of_ble_eq_true rfl⟩  rfl rfl (Nat.le_of_ble_eq_true rfl) dX8_sheet_18 (kRi (fun H locs hS => ?_))
  refine lv_if_eq (tgt := 30) F.1 F.2.1 dX8_sheet_21 (by decide) (fun hc => ?_) (fun hc => ?_)
  · replace h := ifT h hc
    refine lv_iconst (v := (-1 : Int32)) F.1 F.2.1 dX8_sheet_30 (by decide) ?_
    exact e_i F hS ⟨Option.some.inj h, rfl⟩ hr0 dX8_sheet_31 hk0
  replace h := ifF h hc
  refine lv_iload_n F.1 F.2.1 dX8_sheet_24 rfl (lv_at hl 3 rfl) ?_
  refine lv_bipush (v := (40 : Int32)) F.1 F.2.1 dX8_sheet_25 (by decide) ?_
  refine lv_icmp_le (tgt := 32) F.1 F.2.1 dX8_sheet_27 (by decide) (fun hc => ?_) (fun hc => ?_)
  rotate_left
  · replace h := ifF h hc
    refine lv_iconst (v := (-1 : Int32)) F.1 F.2.1 dX8_sheet_30 (by decide) ?_
    exact e_i F hS ⟨Option.some.inj h, rfl⟩ hr0 dX8_sheet_31 hk0
  replace h := ifT h hc
  refine lv_iload_n F.1 F.2.1 dX8_sheet_32 rfl (lv_at hl 3 rfl) ?_
  refine lv_if_ge (tgt := 39) F.1 F.2.1 dX8_sheet_33 (by decide) (fun hc => ?_) (fun hc => ?_)
  rotate_left
  · replace h := ifF h hc
    refine lv_bipush (v := (-14 : Int32)) F.1 F.2.1 dX8_sheet_36 (by decide) ?_
    exact e_i F hS ⟨Option.some.inj h, rfl⟩ hr0 dX8_sheet_38 hk0
  replace h := ifT h hc
  refine lv_aload_n F.1 F.2.1 dX8_sheet_39 rfl (lv_at hl 0 rfl) ?_
  refine gf_X8_60 F G hS dX8_sheet_40 ?_
  refine lv_iload_n F.1 F.2.1 dX8_sheet_43 rfl (lv_at hl 1 rfl) ?_
  refine lv_iload_n F.1 F.2.1 dX8_sheet_44 rfl (lv_at hl 2 rfl) ?_
  obtain ⟨hin, h⟩ := gd h
  refine x_iast F G hS 76 rfl hin dX8_sheet_45 (fun H locs hS => ?_)
  obtain ⟨σ3, e_σ3, h⟩ := ltE h
  rw [← e_σ3] at hS
  clear e_σ3
  refine lv_aload_n F.1 F.2.1 dX8_sheet_46 rfl (lv_at hl 0 rfl) ?_
  refine gf_X8_63 F G hS dX8_sheet_47 ?_
  refine lv_iload_n F.1 F.2.1 dX8_sheet_50 rfl (lv_at hl 1 rfl) ?_
  refine lv_iload_n F.1 F.2.1 dX8_sheet_51 rfl (lv_at hl 3 rfl) ?_
  obtain ⟨hin, h⟩ := gd h
  refine x_iast F G hS 77 rfl hin dX8_sheet_52 (fun H locs hS => ?_)
  obtain ⟨σ4, e_σ4, h⟩ := ltE h
  rw [← e_σ4] at hS
  clear e_σ4
  refine lv_iconst (v := (0 : Int32)) F.1 F.2.1 dX8_sheet_53 (by decide) ?_
  refine lv_istore (lv' := [(4, .int (0 : Int32)), (0, .ref (gA g 60)), (1, .int a1), (2, .int a2), (3, .int a3)]) F.1 F.2.1 dX8_sheet_54 hl (by decide) rfl (fun ls hl => ?_)
  exact w_56 3000 σ4 (0 : Int32) h H locs _ hS (lv_sub hl [1, 2, 0] rfl)
def f_X8_lay_99 (a1 : Int32) (a2 : Int32) (a3 : Int32)  (σ : ZI) (s0 : Int32) (s1 : Int32) : Option (Int32 × ZI) := if inB s1 160 = true then (lt_ (va_up σ 78 (upd (σ 78) s1.toNatClampNeg s0)) (fun σ3 => some ((1 : Int32), σ3))) else none
def f_X8_lay (σ : ZI) (a1 : Int32) (a2 : Int32) (a3 : Int32) : Option (Int32 × ZI) := (f_X8_in a1.toInt64 (0 : Int64) (3 : Int64)).bind (fun q1 => if q1 = 0 then (some ((-1 : Int32), σ)) else (if inB a1 4 = true then (if (σ 76 a1.toNatClampNeg) = (-4 : Int32) then (some ((-11 : Int32), σ)) else (if inB a1 4 = true then ((f_X8_in a2.toInt64 (0 : Int64) (((σ 77 a1.toNatClampNeg) - (1 : Int32)).toInt64)).bind (fun q2 => if q2 = 0 then (some ((-12 : Int32), σ)) else (if inB a1 4 = true then (if (σ 76 a1.toNatClampNeg) = 0 then (f_X8_lay_99 a1 a2 a3 σ ((a3 <<< ((24 : Int32) &&& 31)) >>> ((24 : Int32) &&& 31)) (((40 : Int32) * a1) + a2)) else (if inB a1 4 = true then (if (σ 76 a1.toNatClampNeg) = (1 : Int32) then (f_X8_lay_99 a1 a2 a3 σ ((a3 <<< ((16 : Int32) &&& 31)) >>> ((16 : Int32) &&& 31)) (((40 : Int32) * a1) + a2)) else (f_X8_lay_99 a1 a2 a3 σ a3 (((40 : Int32) * a1) + a2))) else none)) else none))) else none)) else none))
abbrev rm_X8_lay : Room := { frames := 1, cells := 0, slots := 0, locals := 25 }
set_option maxHeartbeats 4000000 in
set_option maxRecDepth 100000 in
theorem c_X8_lay (l : Launch) (g : GG) (σ : ZI) (τ : ZL) (a1 : Int32) (a2 : Int32) (a3 : Int32) (res : Int32 × ZI) (h : f_X8_lay σ a1 a2 a3 = some res) : MI l yX8_lay cX8_lay 4 (some .int) rm_X8_lay g [.ref (gA g 60), .int a1, .int a2, .int a3] σ τ (fun (r : Int32) (u : ZI × ZL) => (r, u.1) = res ∧ u.2 = τ) := by
  refine Met_in (by decide) (Nat.le_of_ble_eq_true rfl) ?_
  intro p e s m args below meth c F G hP hr0 hk0 ls hl
  have hS := WS.start hP
  have hl : lv_has ls 4 [(0, .ref (gA g 60)), (1, .int a1), (2, .int a2), (3, .int a3)] := hl
  obtain ⟨H, hH⟩ : ∃ H, H = s.heap := ⟨_, rfl⟩
  rw [← hH] at hS ⊢
  clear hH hP
  rw [f_X8_lay] at h
  have w_99 : ∀ (σ : ZI) (s0 : Int32) (s1 : Int32), f_X8_lay_99 a1 a2 a3 σ s0 s1 = some res → ∀ (H : Heap) (locs : List Loc) (ls : Array Slot), WS g σ τ s H locs → lv_has ls 4 [] → W p l e rm_X8_lay s m args below meth c H locs 0 0 (MQ below (va_Qi (fun (r : Int32) (u : ZI × ZL) => (r, u.1) = res ∧ u.2 = τ) (WQ g) (AA g)) args s 0 0 (AA g)) (F0 m 99 ls [.int s0, .int s1, .ref (gA g 78)]) := by
    intro  σ s0 s1 h H locs ls hS hl
    rw [f_X8_lay_99] at h
    obtain ⟨hin, h⟩ := gd h
    refine x_iast F G hS 78 rfl hin dX8_lay_99 (fun H locs hS => ?_)
    obtain ⟨σ3, e_σ3, h⟩ := ltE h
    rw [← e_σ3] at hS
    clear e_σ3
    refine lv_iconst (v := (1 : Int32)) F.1 F.2.1 dX8_lay_100 (by decide) ?_
    exact e_i F hS ⟨Option.some.inj h, rfl⟩ hr0 dX8_lay_101 hk0
  obtain ⟨locs, hlo⟩ : ∃ z : List Loc, z = [] := ⟨_, rfl⟩
  rw [← hlo] at hS ⊢
  clear hlo
  refine lv_iload_n F.1 F.2.1 dX8_lay_0 rfl (lv_at hl 1 rfl) ?_
  refine lv_i2l F.1 F.2.1 dX8_lay_1 rfl ?_
  refine lv_lconst (v := (0 : Int64)) F.1 F.2.1 dX8_lay_2 (by decide) ?_
  refine lv_ldc2 (v := (3 : Int64)) F.1 F.2.1 F.2.2.2.1 (F.2.2.2.2 _ tb_1491) dX8_lay_3 ?_
  obtain ⟨q1, h_q1, h⟩ := bd h
  refine rSi F G hS hl.1 (c_X8_in l g σ τ a1.toInt64 (0 : Int64) (3 : Int64) q1 h_q1) lk_X8_71 ⟨rfl, rfl, Nat.le_of_ble_eq_true rfl, Nat.le_of_ble_eq_true rfl⟩  rfl rfl (Nat.le_of_ble_eq_true rfl) dX8_lay_6 (kRi (fun H locs hS => ?_))
  refine lv_if_ne (tgt := 14) F.1 F.2.1 dX8_lay_9 (by decide) (fun hc => ?_) (fun hc => ?_)
  rotate_left
  · replace h := ifT h hc
    refine lv_iconst (v := (-1 : Int32)) F.1 F.2.1 dX8_lay_12 (by decide) ?_
    exact e_i F hS ⟨Option.some.inj h, rfl⟩ hr0 dX8_lay_13 hk0
  replace h := ifF h hc
  refine lv_aload_n F.1 F.2.1 dX8_lay_14 rfl (lv_at hl 0 rfl) ?_
  refine gf_X8_60 F G hS dX8_lay_15 ?_
  refine lv_iload_n F.1 F.2.1 dX8_lay_18 rfl (lv_at hl 1 rfl) ?_
  obtain ⟨hin, h⟩ := gd h
  refine x_iald F G hS 76 rfl hin dX8_lay_19 ?_
  refine lv_bipush (v := (-4 : Int32)) F.1 F.2.1 dX8_lay_20 (by decide) ?_
  refine lv_icmp_ne (tgt := 28) F.1 F.2.1 dX8_lay_22 (by decide) (fun hc => ?_) (fun hc => ?_)
  rotate_left
  · replace h := ifT h hc
    refine lv_bipush (v := (-11 : Int32)) F.1 F.2.1 dX8_lay_25 (by decide) ?_
    exact e_i F hS ⟨Option.some.inj h, rfl⟩ hr0 dX8_lay_27 hk0
  replace h := ifF h hc
  refine lv_iload_n F.1 F.2.1 dX8_lay_28 rfl (lv_at hl 2 rfl) ?_
  refine lv_i2l F.1 F.2.1 dX8_lay_29 rfl ?_
  refine lv_lconst (v := (0 : Int64)) F.1 F.2.1 dX8_lay_30 (by decide) ?_
  refine lv_aload_n F.1 F.2.1 dX8_lay_31 rfl (lv_at hl 0 rfl) ?_
  refine gf_X8_63 F G hS dX8_lay_32 ?_
  refine lv_iload_n F.1 F.2.1 dX8_lay_35 rfl (lv_at hl 1 rfl) ?_
  obtain ⟨hin, h⟩ := gd h
  refine x_iald F G hS 77 rfl hin dX8_lay_36 ?_
  refine lv_iconst (v := (1 : Int32)) F.1 F.2.1 dX8_lay_37 (by decide) ?_
  refine lv_isub F.1 F.2.1 dX8_lay_38 ?_
  refine lv_i2l F.1 F.2.1 dX8_lay_39 rfl ?_
  obtain ⟨q2, h_q2, h⟩ := bd h
  refine rSi F G hS hl.1 (c_X8_in l g σ τ a2.toInt64 (0 : Int64) (((σ 77 a1.toNatClampNeg) - (1 : Int32)).toInt64) q2 h_q2) lk_X8_71 ⟨rfl, rfl, Nat.le_of_ble_eq_true rfl, Nat.le_of_ble_eq_true rfl⟩  rfl rfl (Nat.le_of_ble_eq_true rfl) dX8_lay_40 (kRi (fun H locs hS => ?_))
  refine lv_if_ne (tgt := 49) F.1 F.2.1 dX8_lay_43 (by decide) (fun hc => ?_) (fun hc => ?_)
  rotate_left
  · replace h := ifT h hc
    refine lv_bipush (v := (-12 : Int32)) F.1 F.2.1 dX8_lay_46 (by decide) ?_
    exact e_i F hS ⟨Option.some.inj h, rfl⟩ hr0 dX8_lay_48 hk0
  replace h := ifF h hc
  refine lv_aload_n F.1 F.2.1 dX8_lay_49 rfl (lv_at hl 0 rfl) ?_
  refine gf_X8_66 F G hS dX8_lay_50 ?_
  refine lv_bipush (v := (40 : Int32)) F.1 F.2.1 dX8_lay_53 (by decide) ?_
  refine lv_iload_n F.1 F.2.1 dX8_lay_55 rfl (lv_at hl 1 rfl) ?_
  refine lv_imul F.1 F.2.1 dX8_lay_56 ?_
  refine lv_iload_n F.1 F.2.1 dX8_lay_57 rfl (lv_at hl 2 rfl) ?_
  refine lv_iadd F.1 F.2.1 dX8_lay_58 ?_
  refine lv_aload_n F.1 F.2.1 dX8_lay_59 rfl (lv_at hl 0 rfl) ?_
  refine gf_X8_60 F G hS dX8_lay_60 ?_
  refine lv_iload_n F.1 F.2.1 dX8_lay_63 rfl (lv_at hl 1 rfl) ?_
  obtain ⟨hin, h⟩ := gd h
  refine x_iald F G hS 76 rfl hin dX8_lay_64 ?_
  refine lv_if_ne (tgt := 78) F.1 F.2.1 dX8_lay_65 (by decide) (fun hc => ?_) (fun hc => ?_)
  rotate_left
  · replace h := ifT h hc
    refine lv_iload_n F.1 F.2.1 dX8_lay_68 rfl (lv_at hl 3 rfl) ?_
    refine lv_bipush (v := (24 : Int32)) F.1 F.2.1 dX8_lay_69 (by decide) ?_
    refine lv_ishl F.1 F.2.1 dX8_lay_71 ?_
    refine lv_bipush (v := (24 : Int32)) F.1 F.2.1 dX8_lay_72 (by decide) ?_
    refine lv_ishr F.1 F.2.1 dX8_lay_74 ?_
    refine lv_goto (tgt := 99) F.1 F.2.1 dX8_lay_75 (by decide) ?_
    exact w_99 σ ((a3 <<< ((24 : Int32) &&& 31)) >>> ((24 : Int32) &&& 31)) (((40 : Int32) * a1) + a2) h H locs _ hS (lv_sub hl [] rfl)
  replace h := ifF h hc
  refine lv_aload_n F.1 F.2.1 dX8_lay_78 rfl (lv_at hl 0 rfl) ?_
  refine gf_X8_60 F G hS dX8_lay_79 ?_
  refine lv_iload_n F.1 F.2.1 dX8_lay_82 rfl (lv_at hl 1 rfl) ?_
  obtain ⟨hin, h⟩ := gd h
  refine x_iald F G hS 76 rfl hin dX8_lay_83 ?_
  refine lv_iconst (v := (1 : Int32)) F.1 F.2.1 dX8_lay_84 (by decide) ?_
  refine lv_icmp_ne (tgt := 98) F.1 F.2.1 dX8_lay_85 (by decide) (fun hc => ?_) (fun hc => ?_)
  · replace h := ifF h hc
    refine lv_iload_n F.1 F.2.1 dX8_lay_98 rfl (lv_at hl 3 rfl) ?_
    exact w_99 σ a3 (((40 : Int32) * a1) + a2) h H locs _ hS (lv_sub hl [] rfl)
  replace h := ifT h hc
  refine lv_iload_n F.1 F.2.1 dX8_lay_88 rfl (lv_at hl 3 rfl) ?_
  refine lv_bipush (v := (16 : Int32)) F.1 F.2.1 dX8_lay_89 (by decide) ?_
  refine lv_ishl F.1 F.2.1 dX8_lay_91 ?_
  refine lv_bipush (v := (16 : Int32)) F.1 F.2.1 dX8_lay_92 (by decide) ?_
  refine lv_ishr F.1 F.2.1 dX8_lay_94 ?_
  refine lv_goto (tgt := 99) F.1 F.2.1 dX8_lay_95 (by decide) ?_
  exact w_99 σ ((a3 <<< ((16 : Int32) &&& 31)) >>> ((16 : Int32) &&& 31)) (((40 : Int32) * a1) + a2) h H locs _ hS (lv_sub hl [] rfl)
def f_X8_read_196 (a1 : Int32) (a2 : Int32) (a3 : Int32) (a4 : Int32)  (σ : ZI) (v5 : Int32) (v6 : Int32) : Option (Int32 × ZI) := lt_ (va_up σ 60 (upd (σ 60) 46 v5)) (fun σ5 => some (v6, σ5))
def f_X8_read_190 (a1 : Int32) (a2 : Int32) (a3 : Int32) (a4 : Int32) (k_55 : ZI → Int32 → Int32 → Int32 → Option (Int32 × ZI)) (σ : ZI) (v5 : Int32) (v6 : Int32) (v7 : Int32) : Option (Int32 × ZI) := k_55 σ v5 v6 (v7 + (1 : Int32))
def f_X8_read_125 (a1 : Int32) (a2 : Int32) (a3 : Int32) (a4 : Int32) (k_55 : ZI → Int32 → Int32 → Int32 → Option (Int32 × ZI)) (σ : ZI) (v6 : Int32) (v7 : Int32) (s0 : Int32) : Option (Int32 × ZI) := if s0 = 0 then (if (v7 - v7 / (2 : Int32) * (2 : Int32)) = (1 : Int32) then (lt_ (((((40 : Int32) * a1) + a3) + v7)) (fun x7 => if inB (x7 - (1 : Int32)) 160 = true then (if inB x7 160 = true then ((f_X8_posts σ (σ 78 (x7 - (1 : Int32)).toNatClampNeg) (σ 78 x7.toNatClampNeg)).bind (fun q8 => if 0 ≤ q8.1 then (f_X8_read_190 a1 a2 a3 a4 k_55 q8.2 s0 (v6 + (1 : Int32)) v7) else ((f_X8_copies q8.2 (54 : Int32) (0 : Int32)).bind (fun q9 => some (((-20 : Int32) - v6), q9))))) else none) else none)) else (f_X8_read_190 a1 a2 a3 a4 k_55 σ s0 v6 v7)) else (f_X8_read_190 a1 a2 a3 a4 k_55 σ s0 v6 v7)
def f_X8_read_55 (a1 : Int32) (a2 : Int32) (a3 : Int32) (a4 : Int32)  : Nat → ZI → Int32 → Int32 → Int32 → Option (Int32 × ZI)
  | 0, _, _, _, _ => none
  | n + 1, σ, v5, v6, v7 => if ((2 : Int32) * a4) ≤ v7 then (f_X8_read_196 a1 a2 a3 a4 σ v5 v6) else (if v5 = 0 then (if inB a1 4 = true then (if (σ 76 a1.toNatClampNeg) = (-4 : Int32) then (f_X8_read_125 a1 a2 a3 a4 (fun σ v5 v6 v7 => f_X8_read_55 a1 a2 a3 a4 n σ v5 v6 v7) σ v6 v7 (1 : Int32)) else (if inB a1 4 = true then (if (σ 76 a1.toNatClampNeg) = a2 then (if inB a1 4 = true then ((f_X8_in (a3.toInt64 + v7.toInt64) (0 : Int64) (((σ 77 a1.toNatClampNeg) - (1 : Int32)).toInt64)).bind (fun q6 => if q6 = 0 then (f_X8_read_125 a1 a2 a3 a4 (fun σ v5 v6 v7 => f_X8_read_55 a1 a2 a3 a4 n σ v5 v6 v7) σ v6 v7 (2 : Int32)) else (f_X8_read_125 a1 a2 a3 a4 (fun σ v5 v6 v7 => f_X8_read_55 a1 a2 a3 a4 n σ v5 v6 v7) σ v6 v7 (0 : Int32)))) else none) else (f_X8_read_125 a1 a2 a3 a4 (fun σ v5 v6 v7 => f_X8_read_55 a1 a2 a3 a4 n σ v5 v6 v7) σ v6 v7 (3 : Int32))) else none)) else none) else (f_X8_read_196 a1 a2 a3 a4 σ v5 v6))
def f_X8_read (σ : ZI) (a1 : Int32) (a2 : Int32) (a3 : Int32) (a4 : Int32) : Option (Int32 × ZI) := (f_X8_in a1.toInt64 (0 : Int64) (3 : Int64)).bind (fun q1 => if q1 = 0 then (some ((-1 : Int32), σ)) else ((f_X8_in a2.toInt64 (0 : Int64) (2 : Int64)).bind (fun q2 => if q2 = 0 then (some ((-1 : Int32), σ)) else ((f_X8_in a4.toInt64 (0 : Int64) (20 : Int64)).bind (fun q3 => if q3 = 0 then (some ((-1 : Int32), σ)) else ((f_X8_copies σ (0 : Int32) (54 : Int32)).bind (fun q4 => f_X8_read_55 a1 a2 a3 a4 3000 q4 (0 : Int32) (0 : Int32) (0 : Int32))))))))
abbrev rm_X8_read : Room := { frames := 2, cells := 0, slots := 0, locals := 47 }
set_option maxHeartbeats 4000000 in
set_option maxRecDepth 100000 in
theorem c_X8_read (l : Launch) (g : GG) (σ : ZI) (τ : ZL) (a1 : Int32) (a2 : Int32) (a3 : Int32) (a4 : Int32) (res : Int32 × ZI) (h : f_X8_read σ a1 a2 a3 a4 = some res) : MI l yX8_read cX8_read 9 (some .int) rm_X8_read g [.ref (gA g 60), .int a1, .int a2, .int a3, .int a4] σ τ (fun (r : Int32) (u : ZI × ZL) => (r, u.1) = res ∧ u.2 = τ) := by
  refine Met_in (by decide) (Nat.le_of_ble_eq_true rfl) ?_
  intro p e s m args below meth c F G hP hr0 hk0 ls hl
  have hS := WS.start hP
  have hl : lv_has ls 9 [(0, .ref (gA g 60)), (1, .int a1), (2, .int a2), (3, .int a3), (4, .int a4)] := hl
  obtain ⟨H, hH⟩ : ∃ H, H = s.heap := ⟨_, rfl⟩
  rw [← hH] at hS ⊢
  clear hH hP
  rw [f_X8_read] at h
  have w_196 : ∀ (σ : ZI) (v5 : Int32) (v6 : Int32), f_X8_read_196 a1 a2 a3 a4 σ v5 v6 = some res → ∀ (H : Heap) (locs : List Loc) (ls : Array Slot), WS g σ τ s H locs → lv_has ls 9 [(0, .ref (gA g 60)), (5, .int v5), (6, .int v6)] → W p l e rm_X8_read s m args below meth c H locs 0 0 (MQ below (va_Qi (fun (r : Int32) (u : ZI × ZL) => (r, u.1) = res ∧ u.2 = τ) (WQ g) (AA g)) args s 0 0 (AA g)) (F0 m 196 ls []) := by
    intro  σ v5 v6 h H locs ls hS hl
    rw [f_X8_read_196] at h
    refine lv_aload_n F.1 F.2.1 dX8_read_196 rfl (lv_at hl 0 rfl) ?_
    refine lv_iload F.1 F.2.1 dX8_read_197 (lv_at hl 1 rfl) ?_
    refine pf_X8_309 F G hS dX8_read_199 (fun H locs hS => ?_)
    obtain ⟨σ5, e_σ5, h⟩ := ltE h
    rw [← e_σ5] at hS
    clear e_σ5
    refine lv_iload F.1 F.2.1 dX8_read_202 (lv_at hl 2 rfl) ?_
    exact e_i F hS ⟨Option.some.inj h, rfl⟩ hr0 dX8_read_204 hk0
  have w_190 : ∀ (k_55 : ZI → Int32 → Int32 → Int32 → Option (Int32 × ZI)) (hk_55 : ∀ (σ : ZI) (v5 : Int32) (v6 : Int32) (v7 : Int32), k_55 σ v5 v6 v7 = some res → ∀ (H : Heap) (locs : List Loc) (ls : Array Slot), WS g σ τ s H locs → lv_has ls 9 [(0, .ref (gA g 60)), (1, .int a1), (2, .int a2), (3, .int a3), (4, .int a4), (5, .int v5), (6, .int v6), (7, .int v7)] → W p l e rm_X8_read s m args below meth c H locs 0 0 (MQ below (va_Qi (fun (r : Int32) (u : ZI × ZL) => (r, u.1) = res ∧ u.2 = τ) (WQ g) (AA g)) args s 0 0 (AA g)) (F0 m 55 ls [])) (σ : ZI) (v5 : Int32) (v6 : Int32) (v7 : Int32), f_X8_read_190 a1 a2 a3 a4 k_55 σ v5 v6 v7 = some res → ∀ (H : Heap) (locs : List Loc) (ls : Array Slot), WS g σ τ s H locs → lv_has ls 9 [(0, .ref (gA g 60)), (1, .int a1), (2, .int a2), (3, .int a3), (4, .int a4), (5, .int v5), (6, .int v6), (7, .int v7)] → W p l e rm_X8_read s m args below meth c H locs 0 0 (MQ below (va_Qi (fun (r : Int32) (u : ZI × ZL) => (r, u.1) = res ∧ u.2 = τ) (WQ g) (AA g)) args s 0 0 (AA g)) (F0 m 190 ls []) := by
    intro k_55 hk_55 σ v5 v6 v7 h H locs ls hS hl
    rw [f_X8_read_190] at h
    refine lv_iinc (v := (v7 + (1 : Int32))) (lv' := [(7, .int (v7 + (1 : Int32))), (0, .ref (gA g 60)), (1, .int a1), (2, .int a2), (3, .int a3), (4, .int a4), (5, .int v5), (6, .int v6)]) F.1 F.2.1 dX8_read_190 hl (k := 7) rfl rfl (by decide) rfl (fun ls hl => ?_)
    refine lv_goto (tgt := 55) F.1 F.2.1 dX8_read_193 (by decide) ?_
    exact hk_55 σ v5 v6 (v7 + (1 : Int32)) h H locs _ hS (lv_sub hl [1, 2, 3, 4, 5, 6, 7, 0] rfl)
  have w_125 : ∀ (k_55 : ZI → Int32 → Int32 → Int32 → Option (Int32 × ZI)) (hk_55 : ∀ (σ : ZI) (v5 : Int32) (v6 : Int32) (v7 : Int32), k_55 σ v5 v6 v7 = some res → ∀ (H : Heap) (locs : List Loc) (ls : Array Slot), WS g σ τ s H locs → lv_has ls 9 [(0, .ref (gA g 60)), (1, .int a1), (2, .int a2), (3, .int a3), (4, .int a4), (5, .int v5), (6, .int v6), (7, .int v7)] → W p l e rm_X8_read s m args below meth c H locs 0 0 (MQ below (va_Qi (fun (r : Int32) (u : ZI × ZL) => (r, u.1) = res ∧ u.2 = τ) (WQ g) (AA g)) args s 0 0 (AA g)) (F0 m 55 ls [])) (σ : ZI) (v6 : Int32) (v7 : Int32) (s0 : Int32), f_X8_read_125 a1 a2 a3 a4 k_55 σ v6 v7 s0 = some res → ∀ (H : Heap) (locs : List Loc) (ls : Array Slot), WS g σ τ s H locs → lv_has ls 9 [(0, .ref (gA g 60)), (1, .int a1), (2, .int a2), (3, .int a3), (4, .int a4), (6, .int v6), (7, .int v7)] → W p l e rm_X8_read s m args below meth c H locs 0 0 (MQ below (va_Qi (fun (r : Int32) (u : ZI × ZL) => (r, u.1) = res ∧ u.2 = τ) (WQ g) (AA g)) args s 0 0 (AA g)) (F0 m 125 ls [.int s0]) := by
    intro k_55 hk_55 σ v6 v7 s0 h H locs ls hS hl
    rw [f_X8_read_125] at h
    refine lv_istore (lv' := [(5, .int s0), (0, .ref (gA g 60)), (1, .int a1), (2, .int a2), (3, .int a3), (4, .int a4), (6, .int v6), (7, .int v7)]) F.1 F.2.1 dX8_read_125 hl (by decide) rfl (fun ls hl => ?_)
    refine lv_iload F.1 F.2.1 dX8_read_127 (lv_at hl 0 rfl) ?_
    refine lv_if_ne (tgt := 190) F.1 F.2.1 dX8_read_129 (by decide) (fun hc => ?_) (fun hc => ?_)
    · replace h := ifF h hc
      exact w_190 _ hk_55 σ s0 v6 v7 h H locs _ hS (lv_sub hl [1, 2, 3, 4, 5, 0, 6, 7] rfl)
    replace h := ifT h hc
    refine lv_iload F.1 F.2.1 dX8_read_132 (lv_at hl 7 rfl) ?_
    refine lv_iconst (v := (2 : Int32)) F.1 F.2.1 dX8_read_134 (by decide) ?_
    refine lv_irem F.1 F.2.1 dX8_read_135 (by decide) ?_
    refine lv_iconst (v := (1 : Int32)) F.1 F.2.1 dX8_read_136 (by decide) ?_
    refine lv_icmp_ne (tgt := 190) F.1 F.2.1 dX8_read_137 (by decide) (fun hc => ?_) (fun hc => ?_)
    · replace h := ifF h hc
      exact w_190 _ hk_55 σ s0 v6 v7 h H locs _ hS (lv_sub hl [1, 2, 3, 4, 5, 0, 6, 7] rfl)
    replace h := ifT h hc
    refine lv_bipush (v := (40 : Int32)) F.1 F.2.1 dX8_read_140 (by decide) ?_
    refine lv_iload_n F.1 F.2.1 dX8_read_142 rfl (lv_at hl 2 rfl) ?_
    refine lv_imul F.1 F.2.1 dX8_read_143 ?_
    refine lv_iload_n F.1 F.2.1 dX8_read_144 rfl (lv_at hl 4 rfl) ?_
    refine lv_iadd F.1 F.2.1 dX8_read_145 ?_
    refine lv_iload F.1 F.2.1 dX8_read_146 (lv_at hl 7 rfl) ?_
    refine lv_iadd F.1 F.2.1 dX8_read_148 ?_
    obtain ⟨x7, e_x7, h⟩ := ltE h
    refine x_topi e_x7 ?_
    clear e_x7
    refine lv_istore (lv' := [(8, .int x7), (5, .int s0), (0, .ref (gA g 60)), (1, .int a1), (2, .int a2), (3, .int a3), (4, .int a4), (6, .int v6), (7, .int v7)]) F.1 F.2.1 dX8_read_149 hl (by decide) rfl (fun ls hl => ?_)
    refine lv_aload_n F.1 F.2.1 dX8_read_151 rfl (lv_at hl 2 rfl) ?_
    refine lv_aload_n F.1 F.2.1 dX8_read_152 rfl (lv_at hl 2 rfl) ?_
    refine gf_X8_66 F G hS dX8_read_153 ?_
    refine lv_iload F.1 F.2.1 dX8_read_156 (lv_at hl 0 rfl) ?_
    refine lv_iconst (v := (1 : Int32)) F.1 F.2.1 dX8_read_158 (by decide) ?_
    refine lv_isub F.1 F.2.1 dX8_read_159 ?_
    obtain ⟨hin, h⟩ := gd h
    refine x_iald F G hS 78 rfl hin dX8_read_160 ?_
    refine lv_aload_n F.1 F.2.1 dX8_read_161 rfl (lv_at hl 2 rfl) ?_
    refine gf_X8_66 F G hS dX8_read_162 ?_
    refine lv_iload F.1 F.2.1 dX8_read_165 (lv_at hl 0 rfl) ?_
    obtain ⟨hin, h⟩ := gd h
    refine x_iald F G hS 78 rfl hin dX8_read_167 ?_
    obtain ⟨q8, h_q8, h⟩ := bd h
    refine rVi F G hS hl.1 (c_X8_posts l g σ τ (σ 78 (x7 - (1 : Int32)).toNatClampNeg) (σ 78 x7.toNatClampNeg) q8 h_q8) lk_X8_210 ⟨rfl, rfl, Nat.le_of_ble_eq_true rfl, Nat.le_of_ble_eq_true rfl⟩ (rc_X8 G hS) rfl rfl (Nat.le_of_ble_eq_true rfl) dX8_read_168 (kIi (fun H locs hS => ?_))
    refine lv_if_ge (tgt := 187) F.1 F.2.1 dX8_read_171 (by decide) (fun hc => ?_) (fun hc => ?_)
    · replace h := ifT h hc
      refine lv_iinc (v := (v6 + (1 : Int32))) (lv' := [(6, .int (v6 + (1 : Int32))), (8, .int x7), (5, .int s0), (0, .ref (gA g 60)), (1, .int a1), (2, .int a2), (3, .int a3), (4, .int a4), (7, .int v7)]) F.1 F.2.1 dX8_read_187 hl (k := 7) rfl rfl (by decide) rfl (fun ls hl => ?_)
      exact w_190 _ hk_55 q8.2 s0 (v6 + (1 : Int32)) v7 h H locs _ hS (lv_sub hl [3, 4, 5, 6, 7, 2, 0, 8] rfl)
    replace h := ifF h hc
    refine lv_aload_n F.1 F.2.1 dX8_read_174 rfl (lv_at hl 2 rfl) ?_
    refine lv_bipush (v := (54 : Int32)) F.1 F.2.1 dX8_read_175 (by decide) ?_
    refine lv_iconst (v := (0 : Int32)) F.1 F.2.1 dX8_read_177 (by decide) ?_
    obtain ⟨q9, h_q9, h⟩ := bd h
    refine rVv F G hS hl.1 (c_X8_copies l g q8.2 τ (54 : Int32) (0 : Int32) q9 h_q9) lk_X8_292 ⟨rfl, rfl, Nat.le_of_ble_eq_true rfl, Nat.le_of_ble_eq_true rfl⟩ (rc_X8 G hS) rfl rfl (Nat.le_of_ble_eq_true rfl) dX8_read_178 (kIv (fun H locs hS => ?_))
    refine lv_bipush (v := (-20 : Int32)) F.1 F.2.1 dX8_read_181 (by decide) ?_
    refine lv_iload F.1 F.2.1 dX8_read_183 (lv_at hl 7 rfl) ?_
    refine lv_isub F.1 F.2.1 dX8_read_185 ?_
    exact e_i F hS ⟨Option.some.inj h, rfl⟩ hr0 dX8_read_186 hk0
  have w_55 : ∀ (n : Nat) (σ : ZI) (v5 : Int32) (v6 : Int32) (v7 : Int32), f_X8_read_55 a1 a2 a3 a4 n σ v5 v6 v7 = some res → ∀ (H : Heap) (locs : List Loc) (ls : Array Slot), WS g σ τ s H locs → lv_has ls 9 [(0, .ref (gA g 60)), (1, .int a1), (2, .int a2), (3, .int a3), (4, .int a4), (5, .int v5), (6, .int v6), (7, .int v7)] → W p l e rm_X8_read s m args below meth c H locs 0 0 (MQ below (va_Qi (fun (r : Int32) (u : ZI × ZL) => (r, u.1) = res ∧ u.2 = τ) (WQ g) (AA g)) args s 0 0 (AA g)) (F0 m 55 ls []) := by
    intro n
    induction n with
    | zero => intro σ v5 v6 v7 h; rw [f_X8_read_55] at h; cases h
    | succ n ih =>
      intro σ v5 v6 v7 h H locs ls hS hl
      rw [f_X8_read_55] at h
      refine lv_iload F.1 F.2.1 dX8_read_55 (lv_at hl 7 rfl) ?_
      refine lv_iconst (v := (2 : Int32)) F.1 F.2.1 dX8_read_57 (by decide) ?_
      refine lv_iload F.1 F.2.1 dX8_read_58 (lv_at hl 4 rfl) ?_
      refine lv_imul F.1 F.2.1 dX8_read_60 ?_
      refine lv_icmp_ge (tgt := 196) F.1 F.2.1 dX8_read_61 (by decide) (fun hc => ?_) (fun hc => ?_)
      · replace h := ifT h hc
        exact w_196 σ v5 v6 h H locs _ hS (lv_sub hl [0, 5, 6] rfl)
      replace h := ifF h hc
      refine lv_iload F.1 F.2.1 dX8_read_64 (lv_at hl 5 rfl) ?_
      refine lv_if_ne (tgt := 196) F.1 F.2.1 dX8_read_66 (by decide) (fun hc => ?_) (fun hc => ?_)
      · replace h := ifF h hc
        exact w_196 σ v5 v6 h H locs _ hS (lv_sub hl [0, 5, 6] rfl)
      replace h := ifT h hc
      refine lv_aload_n F.1 F.2.1 dX8_read_69 rfl (lv_at hl 0 rfl) ?_
      refine gf_X8_60 F G hS dX8_read_70 ?_
      refine lv_iload_n F.1 F.2.1 dX8_read_73 rfl (lv_at hl 1 rfl) ?_
      obtain ⟨hin, h⟩ := gd h
      refine x_iald F G hS 76 rfl hin dX8_read_74 ?_
      refine lv_bipush (v := (-4 : Int32)) F.1 F.2.1 dX8_read_75 (by decide) ?_
      refine lv_icmp_ne (tgt := 84) F.1 F.2.1 dX8_read_77 (by decide) (fun hc => ?_) (fun hc => ?_)
      rotate_left
      · replace h := ifT h hc
        refine lv_iconst (v := (1 : Int32)) F.1 F.2.1 dX8_read_80 (by decide) ?_
        refine lv_goto (tgt := 125) F.1 F.2.1 dX8_read_81 (by decide) ?_
        exact w_125 _ (fun σ v5 v6 v7 => ih σ v5 v6 v7) σ v6 v7 (1 : Int32) h H locs _ hS (lv_sub hl [0, 1, 2, 3, 4, 6, 7] rfl)
      replace h := ifF h hc
      refine lv_aload_n F.1 F.2.1 dX8_read_84 rfl (lv_at hl 0 rfl) ?_
      refine gf_X8_60 F G hS dX8_read_85 ?_
      refine lv_iload_n F.1 F.2.1 dX8_read_88 rfl (lv_at hl 1 rfl) ?_
      obtain ⟨hin, h⟩ := gd h
      refine x_iald F G hS 76 rfl hin dX8_read_89 ?_
      refine lv_iload_n F.1 F.2.1 dX8_read_90 rfl (lv_at hl 2 rfl) ?_
      refine lv_icmp_eq (tgt := 98) F.1 F.2.1 dX8_read_91 (by decide) (fun hc => ?_) (fun hc => ?_)
      rotate_left
      · replace h := ifF h hc
        refine lv_iconst (v := (3 : Int32)) F.1 F.2.1 dX8_read_94 (by decide) ?_
        refine lv_goto (tgt := 125) F.1 F.2.1 dX8_read_95 (by decide) ?_
        exact w_125 _ (fun σ v5 v6 v7 => ih σ v5 v6 v7) σ v6 v7 (3 : Int32) h H locs _ hS (lv_sub hl [0, 1, 2, 3, 4, 6, 7] rfl)
      replace h := ifT h hc
      refine lv_iload_n F.1 F.2.1 dX8_read_98 rfl (lv_at hl 3 rfl) ?_
      refine lv_i2l F.1 F.2.1 dX8_read_99 rfl ?_
      refine lv_iload F.1 F.2.1 dX8_read_100 (lv_at hl 7 rfl) ?_
      refine lv_i2l F.1 F.2.1 dX8_read_102 rfl ?_
      refine lv_ladd F.1 F.2.1 dX8_read_103 ?_
      refine lv_lconst (v := (0 : Int64)) F.1 F.2.1 dX8_read_104 (by decide) ?_
      refine lv_aload_n F.1 F.2.1 dX8_read_105 rfl (lv_at hl 0 rfl) ?_
      refine gf_X8_63 F G hS dX8_read_106 ?_
      refine lv_iload_n F.1 F.2.1 dX8_read_109 rfl (lv_at hl 1 rfl) ?_
      obtain ⟨hin, h⟩ := gd h
      refine x_iald F G hS 77 rfl hin dX8_read_110 ?_
      refine lv_iconst (v := (1 : Int32)) F.1 F.2.1 dX8_read_111 (by decide) ?_
      refine lv_isub F.1 F.2.1 dX8_read_112 ?_
      refine lv_i2l F.1 F.2.1 dX8_read_113 rfl ?_
      obtain ⟨q6, h_q6, h⟩ := bd h
      refine rSi F G hS hl.1 (c_X8_in l g σ τ (a3.toInt64 + v7.toInt64) (0 : Int64) (((σ 77 a1.toNatClampNeg) - (1 : Int32)).toInt64) q6 h_q6) lk_X8_71 ⟨rfl, rfl, Nat.le_of_ble_eq_true rfl, Nat.le_of_ble_eq_true rfl⟩  rfl rfl (Nat.le_of_ble_eq_true rfl) dX8_read_114 (kRi (fun H locs hS => ?_))
      refine lv_if_ne (tgt := 124) F.1 F.2.1 dX8_read_117 (by decide) (fun hc => ?_) (fun hc => ?_)
      · replace h := ifF h hc
        refine lv_iconst (v := (0 : Int32)) F.1 F.2.1 dX8_read_124 (by decide) ?_
        exact w_125 _ (fun σ v5 v6 v7 => ih σ v5 v6 v7) σ v6 v7 (0 : Int32) h H locs _ hS (lv_sub hl [0, 1, 2, 3, 4, 6, 7] rfl)
      replace h := ifT h hc
      refine lv_iconst (v := (2 : Int32)) F.1 F.2.1 dX8_read_120 (by decide) ?_
      refine lv_goto (tgt := 125) F.1 F.2.1 dX8_read_121 (by decide) ?_
      exact w_125 _ (fun σ v5 v6 v7 => ih σ v5 v6 v7) σ v6 v7 (2 : Int32) h H locs _ hS (lv_sub hl [0, 1, 2, 3, 4, 6, 7] rfl)
  obtain ⟨locs, hlo⟩ : ∃ z : List Loc, z = [] := ⟨_, rfl⟩
  rw [← hlo] at hS ⊢
  clear hlo
  refine lv_iload_n F.1 F.2.1 dX8_read_0 rfl (lv_at hl 1 rfl) ?_
  refine lv_i2l F.1 F.2.1 dX8_read_1 rfl ?_
  refine lv_lconst (v := (0 : Int64)) F.1 F.2.1 dX8_read_2 (by decide) ?_
  refine lv_ldc2 (v := (3 : Int64)) F.1 F.2.1 F.2.2.2.1 (F.2.2.2.2 _ tb_1491) dX8_read_3 ?_
  obtain ⟨q1, h_q1, h⟩ := bd h
  refine rSi F G hS hl.1 (c_X8_in l g σ τ a1.toInt64 (0 : Int64) (3 : Int64) q1 h_q1) lk_X8_71 ⟨rfl, rfl, Nat.le_of_ble_eq_true rfl, Nat.le_of_ble_eq_true rfl⟩  rfl rfl (Nat.le_of_ble_eq_true rfl) dX8_read_6 (kRi (fun H locs hS => ?_))
  refine lv_if_eq (tgt := 37) F.1 F.2.1 dX8_read_9 (by decide) (fun hc => ?_) (fun hc => ?_)
  · replace h := ifT h hc
    refine lv_iconst (v := (-1 : Int32)) F.1 F.2.1 dX8_read_37 (by decide) ?_
    exact e_i F hS ⟨Option.some.inj h, rfl⟩ hr0 dX8_read_38 hk0
  replace h := ifF h hc
  refine lv_iload_n F.1 F.2.1 dX8_read_12 rfl (lv_at hl 2 rfl) ?_
  refine lv_i2l F.1 F.2.1 dX8_read_13 rfl ?_
  refine lv_lconst (v := (0 : Int64)) F.1 F.2.1 dX8_read_14 (by decide) ?_
  refine lv_ldc2 (v := (2 : Int64)) F.1 F.2.1 F.2.2.2.1 (F.2.2.2.2 _ tb_1418) dX8_read_15 ?_
  obtain ⟨q2, h_q2, h⟩ := bd h
  refine rSi F G hS hl.1 (c_X8_in l g σ τ a2.toInt64 (0 : Int64) (2 : Int64) q2 h_q2) lk_X8_71 ⟨rfl, rfl, Nat.le_of_ble_eq_true rfl, Nat.le_of_ble_eq_true rfl⟩  rfl rfl (Nat.le_of_ble_eq_true rfl) dX8_read_18 (kRi (fun H locs hS => ?_))
  refine lv_if_eq (tgt := 37) F.1 F.2.1 dX8_read_21 (by decide) (fun hc => ?_) (fun hc => ?_)
  · replace h := ifT h hc
    refine lv_iconst (v := (-1 : Int32)) F.1 F.2.1 dX8_read_37 (by decide) ?_
    exact e_i F hS ⟨Option.some.inj h, rfl⟩ hr0 dX8_read_38 hk0
  replace h := ifF h hc
  refine lv_iload F.1 F.2.1 dX8_read_24 (lv_at hl 4 rfl) ?_
  refine lv_i2l F.1 F.2.1 dX8_read_26 rfl ?_
  refine lv_lconst (v := (0 : Int64)) F.1 F.2.1 dX8_read_27 (by decide) ?_
  refine lv_ldc2 (v := (20 : Int64)) F.1 F.2.1 F.2.2.2.1 (F.2.2.2.2 _ tb_1500) dX8_read_28 ?_
  obtain ⟨q3, h_q3, h⟩ := bd h
  refine rSi F G hS hl.1 (c_X8_in l g σ τ a4.toInt64 (0 : Int64) (20 : Int64) q3 h_q3) lk_X8_71 ⟨rfl, rfl, Nat.le_of_ble_eq_true rfl, Nat.le_of_ble_eq_true rfl⟩  rfl rfl (Nat.le_of_ble_eq_true rfl) dX8_read_31 (kRi (fun H locs hS => ?_))
  refine lv_if_ne (tgt := 39) F.1 F.2.1 dX8_read_34 (by decide) (fun hc => ?_) (fun hc => ?_)
  rotate_left
  · replace h := ifT h hc
    refine lv_iconst (v := (-1 : Int32)) F.1 F.2.1 dX8_read_37 (by decide) ?_
    exact e_i F hS ⟨Option.some.inj h, rfl⟩ hr0 dX8_read_38 hk0
  replace h := ifF h hc
  refine lv_aload_n F.1 F.2.1 dX8_read_39 rfl (lv_at hl 0 rfl) ?_
  refine lv_iconst (v := (0 : Int32)) F.1 F.2.1 dX8_read_40 (by decide) ?_
  refine lv_bipush (v := (54 : Int32)) F.1 F.2.1 dX8_read_41 (by decide) ?_
  obtain ⟨q4, h_q4, h⟩ := bd h
  refine rVv F G hS hl.1 (c_X8_copies l g σ τ (0 : Int32) (54 : Int32) q4 h_q4) lk_X8_292 ⟨rfl, rfl, Nat.le_of_ble_eq_true rfl, Nat.le_of_ble_eq_true rfl⟩ (rc_X8 G hS) rfl rfl (Nat.le_of_ble_eq_true rfl) dX8_read_43 (kIv (fun H locs hS => ?_))
  refine lv_iconst (v := (0 : Int32)) F.1 F.2.1 dX8_read_46 (by decide) ?_
  refine lv_istore (lv' := [(5, .int (0 : Int32)), (0, .ref (gA g 60)), (1, .int a1), (2, .int a2), (3, .int a3), (4, .int a4)]) F.1 F.2.1 dX8_read_47 hl (by decide) rfl (fun ls hl => ?_)
  refine lv_iconst (v := (0 : Int32)) F.1 F.2.1 dX8_read_49 (by decide) ?_
  refine lv_istore (lv' := [(6, .int (0 : Int32)), (5, .int (0 : Int32)), (0, .ref (gA g 60)), (1, .int a1), (2, .int a2), (3, .int a3), (4, .int a4)]) F.1 F.2.1 dX8_read_50 hl (by decide) rfl (fun ls hl => ?_)
  refine lv_iconst (v := (0 : Int32)) F.1 F.2.1 dX8_read_52 (by decide) ?_
  refine lv_istore (lv' := [(7, .int (0 : Int32)), (6, .int (0 : Int32)), (5, .int (0 : Int32)), (0, .ref (gA g 60)), (1, .int a1), (2, .int a2), (3, .int a3), (4, .int a4)]) F.1 F.2.1 dX8_read_53 hl (by decide) rfl (fun ls hl => ?_)
  exact w_55 3000 q4 (0 : Int32) (0 : Int32) (0 : Int32) h H locs _ hS (lv_sub hl [3, 4, 5, 6, 7, 2, 1, 0] rfl)
