def f_X7_isHadBy (σ : ZI) (τ : ZL) (a1 : Int32) (a2 : Int32) (a3 : Int32) (a4 : Int32) : Option (Int32 × ZI × ZL) := (f_X0_weighByOdds σ τ 1 a3 a4).bind (fun q1 => (f_X6_value q1.1 1 (8 : Int32)).bind (fun q2 => (f_X6_value q1.1 1 (9 : Int32)).bind (fun q3 => (f_X6_value q1.1 1 (5 : Int32)).bind (fun q4 => (f_X0_passWithNet q1.1 q1.2 q2 q3 q4).bind (fun q5 => (f_X7_metBy q1.1 q5 a1).bind (fun q6 => (f_X6_value q1.1 1 (7 : Int32)).bind (fun q7 => (f_X6_holdsOf q1.1 1 a1 q7).bind (fun q8 => (f_X0_whole q5).bind (fun q9 => if (lg_cmp (q6 * q8.toInt64) (a2.toInt64 * q9)) < 0 then (some ((0 : Int32), q1.1, q5)) else (some ((1 : Int32), q1.1, q5)))))))))))
abbrev rm_X7_isHadBy : Room := { frames := 4, cells := 0, slots := 0, locals := 90 }
set_option maxHeartbeats 4000000 in
set_option maxRecDepth 100000 in
theorem c_X7_isHadBy (l : Launch) (g : GG) (σ : ZI) (τ : ZL) (a1 : Int32) (a2 : Int32) (a3 : Int32) (a4 : Int32) (res : Int32 × ZI × ZL) (h : f_X7_isHadBy σ τ a1 a2 a3 a4 = some res) : MI l yX7_isHadBy cX7_isHadBy 5 (some .boolean) rm_X7_isHadBy g [.ref (gA g 0), .int a1, .int a2, .int a3, .int a4] σ τ (fun (r : Int32) (u : ZI × ZL) => (r, u.1, u.2) = res) := by
  refine Met_in (by decide) (Nat.le_of_ble_eq_true rfl) ?_
  intro p e s m args below meth c F G hP hr0 hk0 ls hl
  have hS := WS.start hP
  have hl : lv_has ls 5 [(0, .ref (gA g 0)), (1, .int a1), (2, .int a2), (3, .int a3), (4, .int a4)] := hl
  obtain ⟨H, hH⟩ : ∃ H, H = s.heap := ⟨_, rfl⟩
  rw [← hH] at hS ⊢
  clear hH hP
  rw [f_X7_isHadBy] at h
  obtain ⟨locs, hlo⟩ : ∃ z : List Loc, z = [] := ⟨_, rfl⟩
  rw [← hlo] at hS ⊢
  clear hlo
  refine lv_aload_n F.1 F.2.1 dX7_isHadBy_0 rfl (lv_at hl 0 rfl) ?_
  refine gf_X7_46 F G hS dX7_isHadBy_1 ?_
  refine lv_aload_n F.1 F.2.1 dX7_isHadBy_4 rfl (lv_at hl 0 rfl) ?_
  refine gf_X7_10 F G hS dX7_isHadBy_5 ?_
  refine lv_iload_n F.1 F.2.1 dX7_isHadBy_8 rfl (lv_at hl 3 rfl) ?_
  refine lv_iload F.1 F.2.1 dX7_isHadBy_9 (lv_at hl 4 rfl) ?_
  obtain ⟨q1, h_q1, h⟩ := bd h
  refine rNv F G hS hl.1 (c_X0_weighByOdds l g σ τ 1 a3 a4 q1 h_q1) lk_X7_196 ⟨rfl, rfl, Nat.le_of_ble_eq_true rfl, Nat.le_of_ble_eq_true rfl⟩ (rc_X0 G hS) rfl rfl (Nat.le_of_ble_eq_true rfl) dX7_isHadBy_11 (kBv (fun H locs hS => ?_))
  refine lv_aload_n F.1 F.2.1 dX7_isHadBy_14 rfl (lv_at hl 0 rfl) ?_
  refine gf_X7_46 F G hS dX7_isHadBy_15 ?_
  refine lv_aload_n F.1 F.2.1 dX7_isHadBy_18 rfl (lv_at hl 0 rfl) ?_
  refine gf_X7_10 F G hS dX7_isHadBy_19 ?_
  refine lv_bipush (v := (8 : Int32)) F.1 F.2.1 dX7_isHadBy_22 (by decide) ?_
  obtain ⟨q2, h_q2, h⟩ := bd h
  refine rNi F G hS hl.1 (c_X6_value l g q1.1 q1.2 1 (8 : Int32) q2 h_q2) lk_X7_110 ⟨rfl, rfl, Nat.le_of_ble_eq_true rfl, Nat.le_of_ble_eq_true rfl⟩ (rc_X6 G hS rfl) rfl rfl (Nat.le_of_ble_eq_true rfl) dX7_isHadBy_24 (kRi (fun H locs hS => ?_))
  refine lv_aload_n F.1 F.2.1 dX7_isHadBy_27 rfl (lv_at hl 0 rfl) ?_
  refine gf_X7_10 F G hS dX7_isHadBy_28 ?_
  refine lv_bipush (v := (9 : Int32)) F.1 F.2.1 dX7_isHadBy_31 (by decide) ?_
  obtain ⟨q3, h_q3, h⟩ := bd h
  refine rNi F G hS hl.1 (c_X6_value l g q1.1 q1.2 1 (9 : Int32) q3 h_q3) lk_X7_110 ⟨rfl, rfl, Nat.le_of_ble_eq_true rfl, Nat.le_of_ble_eq_true rfl⟩ (rc_X6 G hS rfl) rfl rfl (Nat.le_of_ble_eq_true rfl) dX7_isHadBy_33 (kRi (fun H locs hS => ?_))
  refine lv_aload_n F.1 F.2.1 dX7_isHadBy_36 rfl (lv_at hl 0 rfl) ?_
  refine gf_X7_10 F G hS dX7_isHadBy_37 ?_
  refine lv_iconst (v := (5 : Int32)) F.1 F.2.1 dX7_isHadBy_40 (by decide) ?_
  obtain ⟨q4, h_q4, h⟩ := bd h
  refine rNi F G hS hl.1 (c_X6_value l g q1.1 q1.2 1 (5 : Int32) q4 h_q4) lk_X7_110 ⟨rfl, rfl, Nat.le_of_ble_eq_true rfl, Nat.le_of_ble_eq_true rfl⟩ (rc_X6 G hS rfl) rfl rfl (Nat.le_of_ble_eq_true rfl) dX7_isHadBy_41 (kRi (fun H locs hS => ?_))
  obtain ⟨q5, h_q5, h⟩ := bd h
  refine rNv F G hS hl.1 (c_X0_passWithNet l g q1.1 q1.2 q2 q3 q4 q5 h_q5) lk_X7_249 ⟨rfl, rfl, Nat.le_of_ble_eq_true rfl, Nat.le_of_ble_eq_true rfl⟩ (rc_X0 G hS) rfl rfl (Nat.le_of_ble_eq_true rfl) dX7_isHadBy_44 (kJv (fun H locs hS => ?_))
  refine lv_aload_n F.1 F.2.1 dX7_isHadBy_47 rfl (lv_at hl 0 rfl) ?_
  refine lv_iload_n F.1 F.2.1 dX7_isHadBy_48 rfl (lv_at hl 1 rfl) ?_
  obtain ⟨q6, h_q6, h⟩ := bd h
  refine rVl F G hS hl.1 (c_X7_metBy l g q1.1 q5 a1 q6 h_q6) lk_X7_228 ⟨rfl, rfl, Nat.le_of_ble_eq_true rfl, Nat.le_of_ble_eq_true rfl⟩ (rc_X7 G hS) rfl rfl (Nat.le_of_ble_eq_true rfl) dX7_isHadBy_49 (kRl (fun H locs hS => ?_))
  refine lv_aload_n F.1 F.2.1 dX7_isHadBy_52 rfl (lv_at hl 0 rfl) ?_
  refine gf_X7_10 F G hS dX7_isHadBy_53 ?_
  refine lv_iload_n F.1 F.2.1 dX7_isHadBy_56 rfl (lv_at hl 1 rfl) ?_
  refine lv_aload_n F.1 F.2.1 dX7_isHadBy_57 rfl (lv_at hl 0 rfl) ?_
  refine gf_X7_10 F G hS dX7_isHadBy_58 ?_
  refine lv_bipush (v := (7 : Int32)) F.1 F.2.1 dX7_isHadBy_61 (by decide) ?_
  obtain ⟨q7, h_q7, h⟩ := bd h
  refine rNi F G hS hl.1 (c_X6_value l g q1.1 q5 1 (7 : Int32) q7 h_q7) lk_X7_110 ⟨rfl, rfl, Nat.le_of_ble_eq_true rfl, Nat.le_of_ble_eq_true rfl⟩ (rc_X6 G hS rfl) rfl rfl (Nat.le_of_ble_eq_true rfl) dX7_isHadBy_63 (kRi (fun H locs hS => ?_))
  obtain ⟨q8, h_q8, h⟩ := bd h
  refine rNi F G hS hl.1 (c_X6_holdsOf l g q1.1 q5 1 a1 q7 q8 h_q8) lk_X7_130 ⟨rfl, rfl, Nat.le_of_ble_eq_true rfl, Nat.le_of_ble_eq_true rfl⟩ (rc_X6 G hS rfl) rfl rfl (Nat.le_of_ble_eq_true rfl) dX7_isHadBy_66 (kRi (fun H locs hS => ?_))
  refine lv_i2l F.1 F.2.1 dX7_isHadBy_69 rfl ?_
  refine lv_lmul F.1 F.2.1 dX7_isHadBy_70 ?_
  refine lv_iload_n F.1 F.2.1 dX7_isHadBy_71 rfl (lv_at hl 2 rfl) ?_
  refine lv_i2l F.1 F.2.1 dX7_isHadBy_72 rfl ?_
  refine lv_aload_n F.1 F.2.1 dX7_isHadBy_73 rfl (lv_at hl 0 rfl) ?_
  refine gf_X7_46 F G hS dX7_isHadBy_74 ?_
  obtain ⟨q9, h_q9, h⟩ := bd h
  refine rNl F G hS hl.1 (c_X0_whole l g q1.1 q5 q9 h_q9) lk_X7_207 ⟨rfl, rfl, Nat.le_of_ble_eq_true rfl, Nat.le_of_ble_eq_true rfl⟩ (rc_X0 G hS) rfl rfl (Nat.le_of_ble_eq_true rfl) dX7_isHadBy_77 (kRl (fun H locs hS => ?_))
  refine lv_lmul F.1 F.2.1 dX7_isHadBy_80 ?_
  refine W.lcmp F.1 F.2.1 dX7_isHadBy_81 ?_
  refine lv_if_lt (tgt := 89) F.1 F.2.1 dX7_isHadBy_82 (by decide) (fun hc => ?_) (fun hc => ?_)
  · replace h := ifT h hc
    refine lv_iconst (v := (0 : Int32)) F.1 F.2.1 dX7_isHadBy_89 (by decide) ?_
    exact e_z F hS (by decide) (Option.some.inj h) hr0 dX7_isHadBy_90 hk0
  replace h := ifF h hc
  refine lv_iconst (v := (1 : Int32)) F.1 F.2.1 dX7_isHadBy_85 (by decide) ?_
  refine lv_goto (tgt := 90) F.1 F.2.1 dX7_isHadBy_86 (by decide) ?_
  exact e_z F hS (by decide) (Option.some.inj h) hr0 dX7_isHadBy_90 hk0
def f_X7_fog_23 (a1 : Int32) (a2 : Int32)  : Nat → ZI → ZL → Int32 → Option (Int32 × ZI × ZL)
  | 0, _, _, _ => none
  | n + 1, σ, τ, v3 => if (10 : Int32) < v3 then (some ((-4 : Int32), σ, τ)) else ((f_X6_value σ 1 (6 : Int32)).bind (fun q2 => (f_X7_isHadBy σ τ a1 a2 q2 v3).bind (fun q3 => if q3.1 = 0 then (f_X7_fog_23 a1 a2 n q3.2.1 q3.2.2 (v3 + (1 : Int32))) else (some (v3, q3.2.1, q3.2.2)))))
def f_X7_fog (σ : ZI) (τ : ZL) (a1 : Int32) (a2 : Int32) : Option (Int32 × ZI × ZL) := (f_X7_isArm σ a1).bind (fun q1 => if q1 = 0 then (some ((-1 : Int32), σ, τ)) else (if a2 < (1 : Int32) then (some ((-1 : Int32), σ, τ)) else (if a2 ≤ (10 : Int32) then (f_X7_fog_23 a1 a2 3000 σ τ (0 : Int32)) else (some ((-1 : Int32), σ, τ)))))
abbrev rm_X7_fog : Room := { frames := 5, cells := 0, slots := 0, locals := 114 }
set_option maxHeartbeats 4000000 in
set_option maxRecDepth 100000 in
theorem c_X7_fog (l : Launch) (g : GG) (σ : ZI) (τ : ZL) (a1 : Int32) (a2 : Int32) (res : Int32 × ZI × ZL) (h : f_X7_fog σ τ a1 a2 = some res) : MI l yX7_fog cX7_fog 4 (some .int) rm_X7_fog g [.ref (gA g 0), .int a1, .int a2] σ τ (fun (r : Int32) (u : ZI × ZL) => (r, u.1, u.2) = res) := by
  refine Met_in (by decide) (Nat.le_of_ble_eq_true rfl) ?_
  intro p e s m args below meth c F G hP hr0 hk0 ls hl
  have hS := WS.start hP
  have hl : lv_has ls 4 [(0, .ref (gA g 0)), (1, .int a1), (2, .int a2)] := hl
  obtain ⟨H, hH⟩ : ∃ H, H = s.heap := ⟨_, rfl⟩
  rw [← hH] at hS ⊢
  clear hH hP
  rw [f_X7_fog] at h
  have w_23 : ∀ (n : Nat) (σ : ZI) (τ : ZL) (v3 : Int32), f_X7_fog_23 a1 a2 n σ τ v3 = some res → ∀ (H : Heap) (locs : List Loc) (ls : Array Slot), WS g σ τ s H locs → lv_has ls 4 [(0, .ref (gA g 0)), (1, .int a1), (2, .int a2), (3, .int v3)] → W p l e rm_X7_fog s m args below meth c H locs 0 0 (MQ below (va_Qi (fun (r : Int32) (u : ZI × ZL) => (r, u.1, u.2) = res) (WQ g) (AA g)) args s 0 0 (AA g)) (F0 m 23 ls []) := by
    intro n
    induction n with
    | zero => intro σ τ v3 h; rw [f_X7_fog_23] at h; cases h
    | succ n ih =>
      intro σ τ v3 h H locs ls hS hl
      rw [f_X7_fog_23] at h
      refine lv_iload_n F.1 F.2.1 dX7_fog_23 rfl (lv_at hl 3 rfl) ?_
      refine lv_bipush (v := (10 : Int32)) F.1 F.2.1 dX7_fog_24 (by decide) ?_
      refine lv_icmp_gt (tgt := 56) F.1 F.2.1 dX7_fog_26 (by decide) (fun hc => ?_) (fun hc => ?_)
      · replace h := ifT h hc
        refine lv_bipush (v := (-4 : Int32)) F.1 F.2.1 dX7_fog_56 (by decide) ?_
        exact e_i F hS (Option.some.inj h) hr0 dX7_fog_58 hk0
      replace h := ifF h hc
      refine lv_aload_n F.1 F.2.1 dX7_fog_29 rfl (lv_at hl 0 rfl) ?_
      refine lv_iload_n F.1 F.2.1 dX7_fog_30 rfl (lv_at hl 1 rfl) ?_
      refine lv_iload_n F.1 F.2.1 dX7_fog_31 rfl (lv_at hl 2 rfl) ?_
      refine lv_aload_n F.1 F.2.1 dX7_fog_32 rfl (lv_at hl 0 rfl) ?_
      refine gf_X7_10 F G hS dX7_fog_33 ?_
      refine lv_bipush (v := (6 : Int32)) F.1 F.2.1 dX7_fog_36 (by decide) ?_
      obtain ⟨q2, h_q2, h⟩ := bd h
      refine rNi F G hS hl.1 (c_X6_value l g σ τ 1 (6 : Int32) q2 h_q2) lk_X7_110 ⟨rfl, rfl, Nat.le_of_ble_eq_true rfl, Nat.le_of_ble_eq_true rfl⟩ (rc_X6 G hS rfl) rfl rfl (Nat.le_of_ble_eq_true rfl) dX7_fog_38 (kRi (fun H locs hS => ?_))
      refine lv_iload_n F.1 F.2.1 dX7_fog_41 rfl (lv_at hl 3 rfl) ?_
      obtain ⟨q3, h_q3, h⟩ := bd h
      refine rVi F G hS hl.1 (c_X7_isHadBy l g σ τ a1 a2 q2 v3 q3 h_q3) lk_X7_253 ⟨rfl, rfl, Nat.le_of_ble_eq_true rfl, Nat.le_of_ble_eq_true rfl⟩ (rc_X7 G hS) rfl rfl (Nat.le_of_ble_eq_true rfl) dX7_fog_42 (kBi (fun H locs hS => ?_))
      refine lv_if_eq (tgt := 50) F.1 F.2.1 dX7_fog_45 (by decide) (fun hc => ?_) (fun hc => ?_)
      rotate_left
      · replace h := ifF h hc
        refine lv_iload_n F.1 F.2.1 dX7_fog_48 rfl (lv_at hl 3 rfl) ?_
        exact e_i F hS (Option.some.inj h) hr0 dX7_fog_49 hk0
      replace h := ifT h hc
      refine lv_iinc (v := (v3 + (1 : Int32))) (lv' := [(3, .int (v3 + (1 : Int32))), (0, .ref (gA g 0)), (1, .int a1), (2, .int a2)]) F.1 F.2.1 dX7_fog_50 hl (k := 3) rfl rfl (by decide) rfl (fun ls hl => ?_)
      refine lv_goto (tgt := 23) F.1 F.2.1 dX7_fog_53 (by decide) ?_
      exact ih q3.2.1 q3.2.2 (v3 + (1 : Int32)) h H locs _ hS (lv_sub hl [1, 2, 3, 0] rfl)
  obtain ⟨locs, hlo⟩ : ∃ z : List Loc, z = [] := ⟨_, rfl⟩
  rw [← hlo] at hS ⊢
  clear hlo
  refine lv_aload_n F.1 F.2.1 dX7_fog_0 rfl (lv_at hl 0 rfl) ?_
  refine lv_iload_n F.1 F.2.1 dX7_fog_1 rfl (lv_at hl 1 rfl) ?_
  obtain ⟨q1, h_q1, h⟩ := bd h
  refine rVi F G hS hl.1 (c_X7_isArm l g σ τ a1 q1 h_q1) lk_X7_114 ⟨rfl, rfl, Nat.le_of_ble_eq_true rfl, Nat.le_of_ble_eq_true rfl⟩ (rc_X7 G hS) rfl rfl (Nat.le_of_ble_eq_true rfl) dX7_fog_2 (kRi (fun H locs hS => ?_))
  refine lv_if_eq (tgt := 19) F.1 F.2.1 dX7_fog_5 (by decide) (fun hc => ?_) (fun hc => ?_)
  · replace h := ifT h hc
    refine lv_iconst (v := (-1 : Int32)) F.1 F.2.1 dX7_fog_19 (by decide) ?_
    exact e_i F hS (Option.some.inj h) hr0 dX7_fog_20 hk0
  replace h := ifF h hc
  refine lv_iload_n F.1 F.2.1 dX7_fog_8 rfl (lv_at hl 2 rfl) ?_
  refine lv_iconst (v := (1 : Int32)) F.1 F.2.1 dX7_fog_9 (by decide) ?_
  refine lv_icmp_lt (tgt := 19) F.1 F.2.1 dX7_fog_10 (by decide) (fun hc => ?_) (fun hc => ?_)
  · replace h := ifT h hc
    refine lv_iconst (v := (-1 : Int32)) F.1 F.2.1 dX7_fog_19 (by decide) ?_
    exact e_i F hS (Option.some.inj h) hr0 dX7_fog_20 hk0
  replace h := ifF h hc
  refine lv_iload_n F.1 F.2.1 dX7_fog_13 rfl (lv_at hl 2 rfl) ?_
  refine lv_bipush (v := (10 : Int32)) F.1 F.2.1 dX7_fog_14 (by decide) ?_
  refine lv_icmp_le (tgt := 21) F.1 F.2.1 dX7_fog_16 (by decide) (fun hc => ?_) (fun hc => ?_)
  rotate_left
  · replace h := ifF h hc
    refine lv_iconst (v := (-1 : Int32)) F.1 F.2.1 dX7_fog_19 (by decide) ?_
    exact e_i F hS (Option.some.inj h) hr0 dX7_fog_20 hk0
  replace h := ifT h hc
  refine lv_iconst (v := (0 : Int32)) F.1 F.2.1 dX7_fog_21 (by decide) ?_
  refine lv_istore_n (lv' := [(3, .int (0 : Int32)), (0, .ref (gA g 0)), (1, .int a1), (2, .int a2)]) F.1 F.2.1 dX7_fog_22 rfl hl (by decide) rfl (fun ls hl => ?_)
  exact w_23 3000 σ τ (0 : Int32) h H locs _ hS (lv_sub hl [1, 2, 3, 0] rfl)
def f_X7_fast_32 (a1 : Int32) (a2 : Int32)  : Nat → ZI → ZL → Int32 → Option (Int32 × ZI × ZL)
  | 0, _, _, _ => none
  | n + 1, σ, τ, v3 => if inB (7 : Int32) 13 = true then (if v3 < ((stL 101).getD (7 : Int32).toNatClampNeg 0) then (some ((-4 : Int32), σ, τ)) else ((f_X7_metBy σ τ a1).bind (fun q4 => (f_X6_holdsOf σ 1 a1 v3).bind (fun q5 => (f_X0_whole τ).bind (fun q6 => if (lg_cmp (q4 * q5.toInt64) (a2.toInt64 * q6)) < 0 then (f_X7_fast_32 a1 a2 n σ τ (v3 + (-1 : Int32))) else (some (v3, σ, τ))))))) else none
def f_X7_fast (σ : ZI) (τ : ZL) (a1 : Int32) (a2 : Int32) : Option (Int32 × ZI × ZL) := (f_X7_isArm σ a1).bind (fun q1 => if q1 = 0 then (some ((-1 : Int32), σ, τ)) else (if a2 < (1 : Int32) then (some ((-1 : Int32), σ, τ)) else (if a2 ≤ (10 : Int32) then ((f_X7_passByOdds σ τ).bind (fun q2 => if inB (7 : Int32) 13 = true then (lt_ (((stL 102).getD (7 : Int32).toNatClampNeg 0)) (fun x3 => f_X7_fast_32 a1 a2 3000 q2.1 q2.2 x3)) else none)) else (some ((-1 : Int32), σ, τ)))))
abbrev rm_X7_fast : Room := { frames := 5, cells := 0, slots := 0, locals := 110 }
set_option maxHeartbeats 4000000 in
set_option maxRecDepth 100000 in
theorem c_X7_fast (l : Launch) (g : GG) (σ : ZI) (τ : ZL) (a1 : Int32) (a2 : Int32) (res : Int32 × ZI × ZL) (h : f_X7_fast σ τ a1 a2 = some res) : MI l yX7_fast cX7_fast 4 (some .int) rm_X7_fast g [.ref (gA g 0), .int a1, .int a2] σ τ (fun (r : Int32) (u : ZI × ZL) => (r, u.1, u.2) = res) := by
  refine Met_in (by decide) (Nat.le_of_ble_eq_true rfl) ?_
  intro p e s m args below meth c F G hP hr0 hk0 ls hl
  have hS := WS.start hP
  have hl : lv_has ls 4 [(0, .ref (gA g 0)), (1, .int a1), (2, .int a2)] := hl
  obtain ⟨H, hH⟩ : ∃ H, H = s.heap := ⟨_, rfl⟩
  rw [← hH] at hS ⊢
  clear hH hP
  rw [f_X7_fast] at h
  have w_32 : ∀ (n : Nat) (σ : ZI) (τ : ZL) (v3 : Int32), f_X7_fast_32 a1 a2 n σ τ v3 = some res → ∀ (H : Heap) (locs : List Loc) (ls : Array Slot), WS g σ τ s H locs → lv_has ls 4 [(0, .ref (gA g 0)), (1, .int a1), (2, .int a2), (3, .int v3)] → W p l e rm_X7_fast s m args below meth c H locs 0 0 (MQ below (va_Qi (fun (r : Int32) (u : ZI × ZL) => (r, u.1, u.2) = res) (WQ g) (AA g)) args s 0 0 (AA g)) (F0 m 32 ls []) := by
    intro n
    induction n with
    | zero => intro σ τ v3 h; rw [f_X7_fast_32] at h; cases h
    | succ n ih =>
      intro σ τ v3 h H locs ls hS hl
      rw [f_X7_fast_32] at h
      refine lv_iload_n F.1 F.2.1 dX7_fast_32 rfl (lv_at hl 3 rfl) ?_
      refine gs_X7_243 F G hS dX7_fast_33 ?_
      refine lv_bipush (v := (7 : Int32)) F.1 F.2.1 dX7_fast_36 (by decide) ?_
      obtain ⟨hin, h⟩ := gd h
      refine x_siald F G hS 101 (by decide) hin dX7_fast_38 ?_
      refine lv_icmp_lt (tgt := 80) F.1 F.2.1 dX7_fast_39 (by decide) (fun hc => ?_) (fun hc => ?_)
      · replace h := ifT h hc
        refine lv_bipush (v := (-4 : Int32)) F.1 F.2.1 dX7_fast_80 (by decide) ?_
        exact e_i F hS (Option.some.inj h) hr0 dX7_fast_82 hk0
      replace h := ifF h hc
      refine lv_aload_n F.1 F.2.1 dX7_fast_42 rfl (lv_at hl 0 rfl) ?_
      refine lv_iload_n F.1 F.2.1 dX7_fast_43 rfl (lv_at hl 1 rfl) ?_
      obtain ⟨q4, h_q4, h⟩ := bd h
      refine rVl F G hS hl.1 (c_X7_metBy l g σ τ a1 q4 h_q4) lk_X7_228 ⟨rfl, rfl, Nat.le_of_ble_eq_true rfl, Nat.le_of_ble_eq_true rfl⟩ (rc_X7 G hS) rfl rfl (Nat.le_of_ble_eq_true rfl) dX7_fast_44 (kRl (fun H locs hS => ?_))
      refine lv_aload_n F.1 F.2.1 dX7_fast_47 rfl (lv_at hl 0 rfl) ?_
      refine gf_X7_10 F G hS dX7_fast_48 ?_
      refine lv_iload_n F.1 F.2.1 dX7_fast_51 rfl (lv_at hl 1 rfl) ?_
      refine lv_iload_n F.1 F.2.1 dX7_fast_52 rfl (lv_at hl 3 rfl) ?_
      obtain ⟨q5, h_q5, h⟩ := bd h
      refine rNi F G hS hl.1 (c_X6_holdsOf l g σ τ 1 a1 v3 q5 h_q5) lk_X7_130 ⟨rfl, rfl, Nat.le_of_ble_eq_true rfl, Nat.le_of_ble_eq_true rfl⟩ (rc_X6 G hS rfl) rfl rfl (Nat.le_of_ble_eq_true rfl) dX7_fast_53 (kRi (fun H locs hS => ?_))
      refine lv_i2l F.1 F.2.1 dX7_fast_56 rfl ?_
      refine lv_lmul F.1 F.2.1 dX7_fast_57 ?_
      refine lv_iload_n F.1 F.2.1 dX7_fast_58 rfl (lv_at hl 2 rfl) ?_
      refine lv_i2l F.1 F.2.1 dX7_fast_59 rfl ?_
      refine lv_aload_n F.1 F.2.1 dX7_fast_60 rfl (lv_at hl 0 rfl) ?_
      refine gf_X7_46 F G hS dX7_fast_61 ?_
      obtain ⟨q6, h_q6, h⟩ := bd h
      refine rNl F G hS hl.1 (c_X0_whole l g σ τ q6 h_q6) lk_X7_207 ⟨rfl, rfl, Nat.le_of_ble_eq_true rfl, Nat.le_of_ble_eq_true rfl⟩ (rc_X0 G hS) rfl rfl (Nat.le_of_ble_eq_true rfl) dX7_fast_64 (kRl (fun H locs hS => ?_))
      refine lv_lmul F.1 F.2.1 dX7_fast_67 ?_
      refine W.lcmp F.1 F.2.1 dX7_fast_68 ?_
      refine lv_if_lt (tgt := 74) F.1 F.2.1 dX7_fast_69 (by decide) (fun hc => ?_) (fun hc => ?_)
      rotate_left
      · replace h := ifF h hc
        refine lv_iload_n F.1 F.2.1 dX7_fast_72 rfl (lv_at hl 3 rfl) ?_
        exact e_i F hS (Option.some.inj h) hr0 dX7_fast_73 hk0
      replace h := ifT h hc
      refine lv_iinc (v := (v3 + (-1 : Int32))) (lv' := [(3, .int (v3 + (-1 : Int32))), (0, .ref (gA g 0)), (1, .int a1), (2, .int a2)]) F.1 F.2.1 dX7_fast_74 hl (k := 3) rfl rfl (by decide) rfl (fun ls hl => ?_)
      refine lv_goto (tgt := 32) F.1 F.2.1 dX7_fast_77 (by decide) ?_
      exact ih σ τ (v3 + (-1 : Int32)) h H locs _ hS (lv_sub hl [1, 2, 3, 0] rfl)
  obtain ⟨locs, hlo⟩ : ∃ z : List Loc, z = [] := ⟨_, rfl⟩
  rw [← hlo] at hS ⊢
  clear hlo
  refine lv_aload_n F.1 F.2.1 dX7_fast_0 rfl (lv_at hl 0 rfl) ?_
  refine lv_iload_n F.1 F.2.1 dX7_fast_1 rfl (lv_at hl 1 rfl) ?_
  obtain ⟨q1, h_q1, h⟩ := bd h
  refine rVi F G hS hl.1 (c_X7_isArm l g σ τ a1 q1 h_q1) lk_X7_114 ⟨rfl, rfl, Nat.le_of_ble_eq_true rfl, Nat.le_of_ble_eq_true rfl⟩ (rc_X7 G hS) rfl rfl (Nat.le_of_ble_eq_true rfl) dX7_fast_2 (kRi (fun H locs hS => ?_))
  refine lv_if_eq (tgt := 19) F.1 F.2.1 dX7_fast_5 (by decide) (fun hc => ?_) (fun hc => ?_)
  · replace h := ifT h hc
    refine lv_iconst (v := (-1 : Int32)) F.1 F.2.1 dX7_fast_19 (by decide) ?_
    exact e_i F hS (Option.some.inj h) hr0 dX7_fast_20 hk0
  replace h := ifF h hc
  refine lv_iload_n F.1 F.2.1 dX7_fast_8 rfl (lv_at hl 2 rfl) ?_
  refine lv_iconst (v := (1 : Int32)) F.1 F.2.1 dX7_fast_9 (by decide) ?_
  refine lv_icmp_lt (tgt := 19) F.1 F.2.1 dX7_fast_10 (by decide) (fun hc => ?_) (fun hc => ?_)
  · replace h := ifT h hc
    refine lv_iconst (v := (-1 : Int32)) F.1 F.2.1 dX7_fast_19 (by decide) ?_
    exact e_i F hS (Option.some.inj h) hr0 dX7_fast_20 hk0
  replace h := ifF h hc
  refine lv_iload_n F.1 F.2.1 dX7_fast_13 rfl (lv_at hl 2 rfl) ?_
  refine lv_bipush (v := (10 : Int32)) F.1 F.2.1 dX7_fast_14 (by decide) ?_
  refine lv_icmp_le (tgt := 21) F.1 F.2.1 dX7_fast_16 (by decide) (fun hc => ?_) (fun hc => ?_)
  rotate_left
  · replace h := ifF h hc
    refine lv_iconst (v := (-1 : Int32)) F.1 F.2.1 dX7_fast_19 (by decide) ?_
    exact e_i F hS (Option.some.inj h) hr0 dX7_fast_20 hk0
  replace h := ifT h hc
  refine lv_aload_n F.1 F.2.1 dX7_fast_21 rfl (lv_at hl 0 rfl) ?_
  obtain ⟨q2, h_q2, h⟩ := bd h
  refine rVv F G hS hl.1 (c_X7_passByOdds l g σ τ q2 h_q2) lk_X7_215 ⟨rfl, rfl, Nat.le_of_ble_eq_true rfl, Nat.le_of_ble_eq_true rfl⟩ (rc_X7 G hS) rfl rfl (Nat.le_of_ble_eq_true rfl) dX7_fast_22 (kBv (fun H locs hS => ?_))
  refine gs_X7_246 F G hS dX7_fast_25 ?_
  refine lv_bipush (v := (7 : Int32)) F.1 F.2.1 dX7_fast_28 (by decide) ?_
  obtain ⟨hin, h⟩ := gd h
  refine x_siald F G hS 102 (by decide) hin dX7_fast_30 ?_
  obtain ⟨x3, e_x3, h⟩ := ltE h
  refine x_topi e_x3 ?_
  clear e_x3
  refine lv_istore_n (lv' := [(3, .int x3), (0, .ref (gA g 0)), (1, .int a1), (2, .int a2)]) F.1 F.2.1 dX7_fast_31 rfl hl (by decide) rfl (fun ls hl => ?_)
  exact w_32 3000 q2.1 q2.2 x3 h H locs _ hS (lv_sub hl [1, 2, 3, 0] rfl)
def f_X7_slack_28 (a1 : Int32) (a2 : Int32)  : Nat → ZI → ZL → Int32 → Option (Int32 × ZI × ZL)
  | 0, _, _, _ => none
  | n + 1, σ, τ, v3 => if inB (6 : Int32) 13 = true then (if v3 < ((stL 101).getD (6 : Int32).toNatClampNeg 0) then (some ((-4 : Int32), σ, τ)) else ((f_X7_isHadBy σ τ a1 a2 v3 (-4 : Int32)).bind (fun q3 => if q3.1 = 0 then (f_X7_slack_28 a1 a2 n q3.2.1 q3.2.2 (v3 + (-1 : Int32))) else (some (v3, q3.2.1, q3.2.2))))) else none
def f_X7_slack (σ : ZI) (τ : ZL) (a1 : Int32) (a2 : Int32) : Option (Int32 × ZI × ZL) := (f_X7_isArm σ a1).bind (fun q1 => if q1 = 0 then (some ((-1 : Int32), σ, τ)) else (if a2 < (1 : Int32) then (some ((-1 : Int32), σ, τ)) else (if a2 ≤ (10 : Int32) then (if inB (6 : Int32) 13 = true then (lt_ (((stL 102).getD (6 : Int32).toNatClampNeg 0)) (fun x2 => f_X7_slack_28 a1 a2 3000 σ τ x2)) else none) else (some ((-1 : Int32), σ, τ)))))
abbrev rm_X7_slack : Room := { frames := 5, cells := 0, slots := 0, locals := 114 }
set_option maxHeartbeats 4000000 in
set_option maxRecDepth 100000 in
theorem c_X7_slack (l : Launch) (g : GG) (σ : ZI) (τ : ZL) (a1 : Int32) (a2 : Int32) (res : Int32 × ZI × ZL) (h : f_X7_slack σ τ a1 a2 = some res) : MI l yX7_slack cX7_slack 4 (some .int) rm_X7_slack g [.ref (gA g 0), .int a1, .int a2] σ τ (fun (r : Int32) (u : ZI × ZL) => (r, u.1, u.2) = res) := by
  refine Met_in (by decide) (Nat.le_of_ble_eq_true rfl) ?_
  intro p e s m args below meth c F G hP hr0 hk0 ls hl
  have hS := WS.start hP
  have hl : lv_has ls 4 [(0, .ref (gA g 0)), (1, .int a1), (2, .int a2)] := hl
  obtain ⟨H, hH⟩ : ∃ H, H = s.heap := ⟨_, rfl⟩
  rw [← hH] at hS ⊢
  clear hH hP
  rw [f_X7_slack] at h
  have w_28 : ∀ (n : Nat) (σ : ZI) (τ : ZL) (v3 : Int32), f_X7_slack_28 a1 a2 n σ τ v3 = some res → ∀ (H : Heap) (locs : List Loc) (ls : Array Slot), WS g σ τ s H locs → lv_has ls 4 [(0, .ref (gA g 0)), (1, .int a1), (2, .int a2), (3, .int v3)] → W p l e rm_X7_slack s m args below meth c H locs 0 0 (MQ below (va_Qi (fun (r : Int32) (u : ZI × ZL) => (r, u.1, u.2) = res) (WQ g) (AA g)) args s 0 0 (AA g)) (F0 m 28 ls []) := by
    intro n
    induction n with
    | zero => intro σ τ v3 h; rw [f_X7_slack_28] at h; cases h
    | succ n ih =>
      intro σ τ v3 h H locs ls hS hl
      rw [f_X7_slack_28] at h
      refine lv_iload_n F.1 F.2.1 dX7_slack_28 rfl (lv_at hl 3 rfl) ?_
      refine gs_X7_243 F G hS dX7_slack_29 ?_
      refine lv_bipush (v := (6 : Int32)) F.1 F.2.1 dX7_slack_32 (by decide) ?_
      obtain ⟨hin, h⟩ := gd h
      refine x_siald F G hS 101 (by decide) hin dX7_slack_34 ?_
      refine lv_icmp_lt (tgt := 58) F.1 F.2.1 dX7_slack_35 (by decide) (fun hc => ?_) (fun hc => ?_)
      · replace h := ifT h hc
        refine lv_bipush (v := (-4 : Int32)) F.1 F.2.1 dX7_slack_58 (by decide) ?_
        exact e_i F hS (Option.some.inj h) hr0 dX7_slack_60 hk0
      replace h := ifF h hc
      refine lv_aload_n F.1 F.2.1 dX7_slack_38 rfl (lv_at hl 0 rfl) ?_
      refine lv_iload_n F.1 F.2.1 dX7_slack_39 rfl (lv_at hl 1 rfl) ?_
      refine lv_iload_n F.1 F.2.1 dX7_slack_40 rfl (lv_at hl 2 rfl) ?_
      refine lv_iload_n F.1 F.2.1 dX7_slack_41 rfl (lv_at hl 3 rfl) ?_
      refine lv_bipush (v := (-4 : Int32)) F.1 F.2.1 dX7_slack_42 (by decide) ?_
      obtain ⟨q3, h_q3, h⟩ := bd h
      refine rVi F G hS hl.1 (c_X7_isHadBy l g σ τ a1 a2 v3 (-4 : Int32) q3 h_q3) lk_X7_253 ⟨rfl, rfl, Nat.le_of_ble_eq_true rfl, Nat.le_of_ble_eq_true rfl⟩ (rc_X7 G hS) rfl rfl (Nat.le_of_ble_eq_true rfl) dX7_slack_44 (kBi (fun H locs hS => ?_))
      refine lv_if_eq (tgt := 52) F.1 F.2.1 dX7_slack_47 (by decide) (fun hc => ?_) (fun hc => ?_)
      rotate_left
      · replace h := ifF h hc
        refine lv_iload_n F.1 F.2.1 dX7_slack_50 rfl (lv_at hl 3 rfl) ?_
        exact e_i F hS (Option.some.inj h) hr0 dX7_slack_51 hk0
      replace h := ifT h hc
      refine lv_iinc (v := (v3 + (-1 : Int32))) (lv' := [(3, .int (v3 + (-1 : Int32))), (0, .ref (gA g 0)), (1, .int a1), (2, .int a2)]) F.1 F.2.1 dX7_slack_52 hl (k := 3) rfl rfl (by decide) rfl (fun ls hl => ?_)
      refine lv_goto (tgt := 28) F.1 F.2.1 dX7_slack_55 (by decide) ?_
      exact ih q3.2.1 q3.2.2 (v3 + (-1 : Int32)) h H locs _ hS (lv_sub hl [1, 2, 3, 0] rfl)
  obtain ⟨locs, hlo⟩ : ∃ z : List Loc, z = [] := ⟨_, rfl⟩
  rw [← hlo] at hS ⊢
  clear hlo
  refine lv_aload_n F.1 F.2.1 dX7_slack_0 rfl (lv_at hl 0 rfl) ?_
  refine lv_iload_n F.1 F.2.1 dX7_slack_1 rfl (lv_at hl 1 rfl) ?_
  obtain ⟨q1, h_q1, h⟩ := bd h
  refine rVi F G hS hl.1 (c_X7_isArm l g σ τ a1 q1 h_q1) lk_X7_114 ⟨rfl, rfl, Nat.le_of_ble_eq_true rfl, Nat.le_of_ble_eq_true rfl⟩ (rc_X7 G hS) rfl rfl (Nat.le_of_ble_eq_true rfl) dX7_slack_2 (kRi (fun H locs hS => ?_))
  refine lv_if_eq (tgt := 19) F.1 F.2.1 dX7_slack_5 (by decide) (fun hc => ?_) (fun hc => ?_)
  · replace h := ifT h hc
    refine lv_iconst (v := (-1 : Int32)) F.1 F.2.1 dX7_slack_19 (by decide) ?_
    exact e_i F hS (Option.some.inj h) hr0 dX7_slack_20 hk0
  replace h := ifF h hc
  refine lv_iload_n F.1 F.2.1 dX7_slack_8 rfl (lv_at hl 2 rfl) ?_
  refine lv_iconst (v := (1 : Int32)) F.1 F.2.1 dX7_slack_9 (by decide) ?_
  refine lv_icmp_lt (tgt := 19) F.1 F.2.1 dX7_slack_10 (by decide) (fun hc => ?_) (fun hc => ?_)
  · replace h := ifT h hc
    refine lv_iconst (v := (-1 : Int32)) F.1 F.2.1 dX7_slack_19 (by decide) ?_
    exact e_i F hS (Option.some.inj h) hr0 dX7_slack_20 hk0
  replace h := ifF h hc
  refine lv_iload_n F.1 F.2.1 dX7_slack_13 rfl (lv_at hl 2 rfl) ?_
  refine lv_bipush (v := (10 : Int32)) F.1 F.2.1 dX7_slack_14 (by decide) ?_
  refine lv_icmp_le (tgt := 21) F.1 F.2.1 dX7_slack_16 (by decide) (fun hc => ?_) (fun hc => ?_)
  rotate_left
  · replace h := ifF h hc
    refine lv_iconst (v := (-1 : Int32)) F.1 F.2.1 dX7_slack_19 (by decide) ?_
    exact e_i F hS (Option.some.inj h) hr0 dX7_slack_20 hk0
  replace h := ifT h hc
  refine gs_X7_246 F G hS dX7_slack_21 ?_
  refine lv_bipush (v := (6 : Int32)) F.1 F.2.1 dX7_slack_24 (by decide) ?_
  obtain ⟨hin, h⟩ := gd h
  refine x_siald F G hS 102 (by decide) hin dX7_slack_26 ?_
  obtain ⟨x2, e_x2, h⟩ := ltE h
  refine x_topi e_x2 ?_
  clear e_x2
  refine lv_istore_n (lv' := [(3, .int x2), (0, .ref (gA g 0)), (1, .int a1), (2, .int a2)]) F.1 F.2.1 dX7_slack_27 rfl hl (by decide) rfl (fun ls hl => ?_)
  exact w_28 3000 σ τ x2 h H locs _ hS (lv_sub hl [1, 2, 3, 0] rfl)
def f_X6_lettersWorth_42 (σ : ZI) (b : Nat) (a1 : Int32) (k_4 : Int32 → Int32 → Option (Int32)) (v2 : Int32) (v3 : Int32) : Option (Int32) := k_4 v2 (v3 + (1 : Int32))
def f_X6_lettersWorth_4 (σ : ZI) (b : Nat) (a1 : Int32)  : Nat → Int32 → Int32 → Option (Int32)
  | 0, _, _ => none
  | n + 1, v2, v3 => (f_X6_value σ b (3 : Int32)).bind (fun q1 => if q1 ≤ v3 then (some v2) else (if ((a1 >>> (v3 &&& 31)) &&& (1 : Int32)) = (1 : Int32) then ((f_X7_at σ (b + 7) v3).bind (fun q2 => (f_X7_at σ (b + 8) v3).bind (fun q3 => f_X6_lettersWorth_42 σ b a1 (fun v2 v3 => f_X6_lettersWorth_4 σ b a1 n v2 v3) (v2 + (q2 * q3)) v3))) else (f_X6_lettersWorth_42 σ b a1 (fun v2 v3 => f_X6_lettersWorth_4 σ b a1 n v2 v3) v2 v3)))
def f_X6_lettersWorth (σ : ZI) (b : Nat) (a1 : Int32) : Option (Int32) := if (ar b).1 = 11 then (f_X6_lettersWorth_4 σ b a1 3000 (0 : Int32) (0 : Int32)) else none
abbrev rm_X6_lettersWorth : Room := { frames := 2, cells := 0, slots := 0, locals := 42 }
set_option maxHeartbeats 4000000 in
set_option maxRecDepth 100000 in
theorem c_X6_lettersWorth (l : Launch) (g : GG) (σ : ZI) (τ : ZL) (b : Nat) (a1 : Int32) (res : Int32) (h : f_X6_lettersWorth σ b a1 = some res) : MI l yX6_lettersWorth cX6_lettersWorth 4 (some .int) rm_X6_lettersWorth g [.ref (gA g b), .int a1] σ τ (fun (r : Int32) (u : ZI × ZL) => r = res ∧ u.1 = σ ∧ u.2 = τ) := by
  refine Met_in (by decide) (Nat.le_of_ble_eq_true rfl) ?_
  intro p e s m args below meth c F G hP hr0 hk0 ls hl
  have hS := WS.start hP
  have hl : lv_has ls 4 [(0, .ref (gA g b)), (1, .int a1)] := hl
  obtain ⟨H, hH⟩ : ∃ H, H = s.heap := ⟨_, rfl⟩
  rw [← hH] at hS ⊢
  clear hH hP
  rw [f_X6_lettersWorth] at h
  obtain ⟨hg_b, h⟩ := gd h
  have w_42 : ∀ (k_4 : Int32 → Int32 → Option (Int32)) (hk_4 : ∀ (v2 : Int32) (v3 : Int32), k_4 v2 v3 = some res → ∀ (H : Heap) (locs : List Loc) (ls : Array Slot), WS g σ τ s H locs → lv_has ls 4 [(0, .ref (gA g b)), (1, .int a1), (2, .int v2), (3, .int v3)] → W p l e rm_X6_lettersWorth s m args below meth c H locs 0 0 (MQ below (va_Qi (fun (r : Int32) (u : ZI × ZL) => r = res ∧ u.1 = σ ∧ u.2 = τ) (WQ g) (AA g)) args s 0 0 (AA g)) (F0 m 4 ls [])) (v2 : Int32) (v3 : Int32), f_X6_lettersWorth_42 σ b a1 k_4 v2 v3 = some res → ∀ (H : Heap) (locs : List Loc) (ls : Array Slot), WS g σ τ s H locs → lv_has ls 4 [(0, .ref (gA g b)), (1, .int a1), (2, .int v2), (3, .int v3)] → W p l e rm_X6_lettersWorth s m args below meth c H locs 0 0 (MQ below (va_Qi (fun (r : Int32) (u : ZI × ZL) => r = res ∧ u.1 = σ ∧ u.2 = τ) (WQ g) (AA g)) args s 0 0 (AA g)) (F0 m 42 ls []) := by
    intro k_4 hk_4 v2 v3 h H locs ls hS hl
    rw [f_X6_lettersWorth_42] at h
    refine lv_iinc (v := (v3 + (1 : Int32))) (lv' := [(3, .int (v3 + (1 : Int32))), (0, .ref (gA g b)), (1, .int a1), (2, .int v2)]) F.1 F.2.1 dX6_lettersWorth_42 hl (k := 3) rfl rfl (by decide) rfl (fun ls hl => ?_)
    refine lv_goto (tgt := 4) F.1 F.2.1 dX6_lettersWorth_45 (by decide) ?_
    exact hk_4 v2 (v3 + (1 : Int32)) h H locs _ hS (lv_sub hl [1, 2, 3, 0] rfl)
  have w_4 : ∀ (n : Nat) (v2 : Int32) (v3 : Int32), f_X6_lettersWorth_4 σ b a1 n v2 v3 = some res → ∀ (H : Heap) (locs : List Loc) (ls : Array Slot), WS g σ τ s H locs → lv_has ls 4 [(0, .ref (gA g b)), (1, .int a1), (2, .int v2), (3, .int v3)] → W p l e rm_X6_lettersWorth s m args below meth c H locs 0 0 (MQ below (va_Qi (fun (r : Int32) (u : ZI × ZL) => r = res ∧ u.1 = σ ∧ u.2 = τ) (WQ g) (AA g)) args s 0 0 (AA g)) (F0 m 4 ls []) := by
    intro n
    induction n with
    | zero => intro v2 v3 h; rw [f_X6_lettersWorth_4] at h; cases h
    | succ n ih =>
      intro v2 v3 h H locs ls hS hl
      rw [f_X6_lettersWorth_4] at h
      refine lv_iload_n F.1 F.2.1 dX6_lettersWorth_4 rfl (lv_at hl 3 rfl) ?_
      refine lv_aload_n F.1 F.2.1 dX6_lettersWorth_5 rfl (lv_at hl 0 rfl) ?_
      refine lv_iconst (v := (3 : Int32)) F.1 F.2.1 dX6_lettersWorth_6 (by decide) ?_
      obtain ⟨q1, h_q1, h⟩ := bd h
      refine rVi F G hS hl.1 (c_X6_value l g σ τ b (3 : Int32) q1 h_q1) lk_X6_62 ⟨rfl, rfl, Nat.le_of_ble_eq_true rfl, Nat.le_of_ble_eq_true rfl⟩ (rc_X6 G hS hg_b) rfl rfl (Nat.le_of_ble_eq_true rfl) dX6_lettersWorth_7 (kRi (fun H locs hS => ?_))
      refine lv_icmp_ge (tgt := 48) F.1 F.2.1 dX6_lettersWorth_10 (by decide) (fun hc => ?_) (fun hc => ?_)
      · replace h := ifT h hc
        refine lv_iload_n F.1 F.2.1 dX6_lettersWorth_48 rfl (lv_at hl 2 rfl) ?_
        exact e_i F hS ⟨Option.some.inj h, rfl, rfl⟩ hr0 dX6_lettersWorth_49 hk0
      replace h := ifF h hc
      refine lv_iload_n F.1 F.2.1 dX6_lettersWorth_13 rfl (lv_at hl 1 rfl) ?_
      refine lv_iload_n F.1 F.2.1 dX6_lettersWorth_14 rfl (lv_at hl 3 rfl) ?_
      refine lv_ishr F.1 F.2.1 dX6_lettersWorth_15 ?_
      refine lv_iconst (v := (1 : Int32)) F.1 F.2.1 dX6_lettersWorth_16 (by decide) ?_
      refine lv_iand F.1 F.2.1 dX6_lettersWorth_17 ?_
      refine lv_iconst (v := (1 : Int32)) F.1 F.2.1 dX6_lettersWorth_18 (by decide) ?_
      refine lv_icmp_ne (tgt := 42) F.1 F.2.1 dX6_lettersWorth_19 (by decide) (fun hc => ?_) (fun hc => ?_)
      · replace h := ifF h hc
        exact w_42 _ (fun v2 v3 => ih v2 v3) v2 v3 h H locs _ hS (lv_sub hl [0, 1, 2, 3] rfl)
      replace h := ifT h hc
      refine lv_iload_n F.1 F.2.1 dX6_lettersWorth_22 rfl (lv_at hl 2 rfl) ?_
      refine lv_aload_n F.1 F.2.1 dX6_lettersWorth_23 rfl (lv_at hl 0 rfl) ?_
      refine gf_X6_30 F G hS hg_b dX6_lettersWorth_24 ?_
      refine lv_iload_n F.1 F.2.1 dX6_lettersWorth_27 rfl (lv_at hl 3 rfl) ?_
      obtain ⟨q2, h_q2, h⟩ := bd h
      refine rTi F G hS hl.1 (c_X7_at l g σ τ (b + 7) v3 q2 h_q2) lk_X6_48 ⟨rfl, rfl, Nat.le_of_ble_eq_true rfl, Nat.le_of_ble_eq_true rfl⟩  rfl rfl (Nat.le_of_ble_eq_true rfl) dX6_lettersWorth_28 (kRi (fun H locs hS => ?_))
      refine lv_aload_n F.1 F.2.1 dX6_lettersWorth_31 rfl (lv_at hl 0 rfl) ?_
      refine gf_X6_33 F G hS hg_b dX6_lettersWorth_32 ?_
      refine lv_iload_n F.1 F.2.1 dX6_lettersWorth_35 rfl (lv_at hl 3 rfl) ?_
      obtain ⟨q3, h_q3, h⟩ := bd h
      refine rTi F G hS hl.1 (c_X7_at l g σ τ (b + 8) v3 q3 h_q3) lk_X6_48 ⟨rfl, rfl, Nat.le_of_ble_eq_true rfl, Nat.le_of_ble_eq_true rfl⟩  rfl rfl (Nat.le_of_ble_eq_true rfl) dX6_lettersWorth_36 (kRi (fun H locs hS => ?_))
      refine lv_imul F.1 F.2.1 dX6_lettersWorth_39 ?_
      refine lv_iadd F.1 F.2.1 dX6_lettersWorth_40 ?_
      refine lv_istore_n (lv' := [(2, .int (v2 + (q2 * q3))), (0, .ref (gA g b)), (1, .int a1), (3, .int v3)]) F.1 F.2.1 dX6_lettersWorth_41 rfl hl (by decide) rfl (fun ls hl => ?_)
      exact w_42 _ (fun v2 v3 => ih v2 v3) (v2 + (q2 * q3)) v3 h H locs _ hS (lv_sub hl [1, 2, 0, 3] rfl)
  obtain ⟨locs, hlo⟩ : ∃ z : List Loc, z = [] := ⟨_, rfl⟩
  rw [← hlo] at hS ⊢
  clear hlo
  refine lv_iconst (v := (0 : Int32)) F.1 F.2.1 dX6_lettersWorth_0 (by decide) ?_
  refine lv_istore_n (lv' := [(2, .int (0 : Int32)), (0, .ref (gA g b)), (1, .int a1)]) F.1 F.2.1 dX6_lettersWorth_1 rfl hl (by decide) rfl (fun ls hl => ?_)
  refine lv_iconst (v := (0 : Int32)) F.1 F.2.1 dX6_lettersWorth_2 (by decide) ?_
  refine lv_istore_n (lv' := [(3, .int (0 : Int32)), (2, .int (0 : Int32)), (0, .ref (gA g b)), (1, .int a1)]) F.1 F.2.1 dX6_lettersWorth_3 rfl hl (by decide) rfl (fun ls hl => ?_)
  exact w_4 3000 (0 : Int32) (0 : Int32) h H locs _ hS (lv_sub hl [2, 3, 1, 0] rfl)
def f_X6_minutesOf_50 (σ : ZI) (b : Nat) (a1 : Int32) (a2 : Int32) (k_12 : Int32 → Int32 → Option (Int32)) (v3 : Int32) (v4 : Int32) : Option (Int32) := k_12 v3 (v4 + (1 : Int32))
def f_X6_minutesOf_12 (σ : ZI) (b : Nat) (a1 : Int32) (a2 : Int32)  : Nat → Int32 → Int32 → Option (Int32)
  | 0, _, _ => none
  | n + 1, v3, v4 => (f_X6_value σ b (3 : Int32)).bind (fun q1 => if q1 ≤ v4 then (some v3) else (if ((a1 >>> (v4 &&& 31)) &&& (1 : Int32)) = (1 : Int32) then ((f_X7_at σ (b + 7) v4).bind (fun q2 => if a2 = 0 then none else (lt_ ((v3 + (((q2 + a2) - (1 : Int32)) / a2))) (fun x3 => f_X6_minutesOf_50 σ b a1 a2 (fun v3 v4 => f_X6_minutesOf_12 σ b a1 a2 n v3 v4) x3 v4)))) else (f_X6_minutesOf_50 σ b a1 a2 (fun v3 v4 => f_X6_minutesOf_12 σ b a1 a2 n v3 v4) v3 v4)))
def f_X6_minutesOf (σ : ZI) (b : Nat) (a1 : Int32) (a2 : Int32) : Option (Int32) := if (ar b).1 = 11 then (if (1 : Int32) ≤ a2 then (f_X6_minutesOf_12 σ b a1 a2 3000 (0 : Int32) (0 : Int32)) else (some (0 : Int32))) else none
abbrev rm_X6_minutesOf : Room := { frames := 2, cells := 0, slots := 0, locals := 42 }
set_option maxHeartbeats 4000000 in
set_option maxRecDepth 100000 in
theorem c_X6_minutesOf (l : Launch) (g : GG) (σ : ZI) (τ : ZL) (b : Nat) (a1 : Int32) (a2 : Int32) (res : Int32) (h : f_X6_minutesOf σ b a1 a2 = some res) : MI l yX6_minutesOf cX6_minutesOf 5 (some .int) rm_X6_minutesOf g [.ref (gA g b), .int a1, .int a2] σ τ (fun (r : Int32) (u : ZI × ZL) => r = res ∧ u.1 = σ ∧ u.2 = τ) := by
  refine Met_in (by decide) (Nat.le_of_ble_eq_true rfl) ?_
  intro p e s m args below meth c F G hP hr0 hk0 ls hl
  have hS := WS.start hP
  have hl : lv_has ls 5 [(0, .ref (gA g b)), (1, .int a1), (2, .int a2)] := hl
  obtain ⟨H, hH⟩ : ∃ H, H = s.heap := ⟨_, rfl⟩
  rw [← hH] at hS ⊢
  clear hH hP
  rw [f_X6_minutesOf] at h
  obtain ⟨hg_b, h⟩ := gd h
  have w_50 : ∀ (k_12 : Int32 → Int32 → Option (Int32)) (hk_12 : ∀ (v3 : Int32) (v4 : Int32), k_12 v3 v4 = some res → ∀ (H : Heap) (locs : List Loc) (ls : Array Slot), WS g σ τ s H locs → lv_has ls 5 [(0, .ref (gA g b)), (1, .int a1), (2, .int a2), (3, .int v3), (4, .int v4)] → W p l e rm_X6_minutesOf s m args below meth c H locs 0 0 (MQ below (va_Qi (fun (r : Int32) (u : ZI × ZL) => r = res ∧ u.1 = σ ∧ u.2 = τ) (WQ g) (AA g)) args s 0 0 (AA g)) (F0 m 12 ls [])) (v3 : Int32) (v4 : Int32), f_X6_minutesOf_50 σ b a1 a2 k_12 v3 v4 = some res → ∀ (H : Heap) (locs : List Loc) (ls : Array Slot), WS g σ τ s H locs → lv_has ls 5 [(0, .ref (gA g b)), (1, .int a1), (2, .int a2), (3, .int v3), (4, .int v4)] → W p l e rm_X6_minutesOf s m args below meth c H locs 0 0 (MQ below (va_Qi (fun (r : Int32) (u : ZI × ZL) => r = res ∧ u.1 = σ ∧ u.2 = τ) (WQ g) (AA g)) args s 0 0 (AA g)) (F0 m 50 ls []) := by
    intro k_12 hk_12 v3 v4 h H locs ls hS hl
    rw [f_X6_minutesOf_50] at h
    refine lv_iinc (v := (v4 + (1 : Int32))) (lv' := [(4, .int (v4 + (1 : Int32))), (0, .ref (gA g b)), (1, .int a1), (2, .int a2), (3, .int v3)]) F.1 F.2.1 dX6_minutesOf_50 hl (k := 4) rfl rfl (by decide) rfl (fun ls hl => ?_)
    refine lv_goto (tgt := 12) F.1 F.2.1 dX6_minutesOf_53 (by decide) ?_
    exact hk_12 v3 (v4 + (1 : Int32)) h H locs _ hS (lv_sub hl [1, 2, 3, 4, 0] rfl)
  have w_12 : ∀ (n : Nat) (v3 : Int32) (v4 : Int32), f_X6_minutesOf_12 σ b a1 a2 n v3 v4 = some res → ∀ (H : Heap) (locs : List Loc) (ls : Array Slot), WS g σ τ s H locs → lv_has ls 5 [(0, .ref (gA g b)), (1, .int a1), (2, .int a2), (3, .int v3), (4, .int v4)] → W p l e rm_X6_minutesOf s m args below meth c H locs 0 0 (MQ below (va_Qi (fun (r : Int32) (u : ZI × ZL) => r = res ∧ u.1 = σ ∧ u.2 = τ) (WQ g) (AA g)) args s 0 0 (AA g)) (F0 m 12 ls []) := by
    intro n
    induction n with
    | zero => intro v3 v4 h; rw [f_X6_minutesOf_12] at h; cases h
    | succ n ih =>
      intro v3 v4 h H locs ls hS hl
      rw [f_X6_minutesOf_12] at h
      refine lv_iload F.1 F.2.1 dX6_minutesOf_12 (lv_at hl 4 rfl) ?_
      refine lv_aload_n F.1 F.2.1 dX6_minutesOf_14 rfl (lv_at hl 0 rfl) ?_
      refine lv_iconst (v := (3 : Int32)) F.1 F.2.1 dX6_minutesOf_15 (by decide) ?_
      obtain ⟨q1, h_q1, h⟩ := bd h
      refine rVi F G hS hl.1 (c_X6_value l g σ τ b (3 : Int32) q1 h_q1) lk_X6_62 ⟨rfl, rfl, Nat.le_of_ble_eq_true rfl, Nat.le_of_ble_eq_true rfl⟩ (rc_X6 G hS hg_b) rfl rfl (Nat.le_of_ble_eq_true rfl) dX6_minutesOf_16 (kRi (fun H locs hS => ?_))
      refine lv_icmp_ge (tgt := 56) F.1 F.2.1 dX6_minutesOf_19 (by decide) (fun hc => ?_) (fun hc => ?_)
      · replace h := ifT h hc
        refine lv_iload_n F.1 F.2.1 dX6_minutesOf_56 rfl (lv_at hl 3 rfl) ?_
        exact e_i F hS ⟨Option.some.inj h, rfl, rfl⟩ hr0 dX6_minutesOf_57 hk0
      replace h := ifF h hc
      refine lv_iload_n F.1 F.2.1 dX6_minutesOf_22 rfl (lv_at hl 1 rfl) ?_
      refine lv_iload F.1 F.2.1 dX6_minutesOf_23 (lv_at hl 4 rfl) ?_
      refine lv_ishr F.1 F.2.1 dX6_minutesOf_25 ?_
      refine lv_iconst (v := (1 : Int32)) F.1 F.2.1 dX6_minutesOf_26 (by decide) ?_
      refine lv_iand F.1 F.2.1 dX6_minutesOf_27 ?_
      refine lv_iconst (v := (1 : Int32)) F.1 F.2.1 dX6_minutesOf_28 (by decide) ?_
      refine lv_icmp_ne (tgt := 50) F.1 F.2.1 dX6_minutesOf_29 (by decide) (fun hc => ?_) (fun hc => ?_)
      · replace h := ifF h hc
        exact w_50 _ (fun v3 v4 => ih v3 v4) v3 v4 h H locs _ hS (lv_sub hl [0, 1, 2, 3, 4] rfl)
      replace h := ifT h hc
      refine lv_iload_n F.1 F.2.1 dX6_minutesOf_32 rfl (lv_at hl 3 rfl) ?_
      refine lv_aload_n F.1 F.2.1 dX6_minutesOf_33 rfl (lv_at hl 0 rfl) ?_
      refine gf_X6_30 F G hS hg_b dX6_minutesOf_34 ?_
      refine lv_iload F.1 F.2.1 dX6_minutesOf_37 (lv_at hl 4 rfl) ?_
      obtain ⟨q2, h_q2, h⟩ := bd h
      refine rTi F G hS hl.1 (c_X7_at l g σ τ (b + 7) v4 q2 h_q2) lk_X6_48 ⟨rfl, rfl, Nat.le_of_ble_eq_true rfl, Nat.le_of_ble_eq_true rfl⟩  rfl rfl (Nat.le_of_ble_eq_true rfl) dX6_minutesOf_39 (kRi (fun H locs hS => ?_))
      refine lv_iload_n F.1 F.2.1 dX6_minutesOf_42 rfl (lv_at hl 2 rfl) ?_
      refine lv_iadd F.1 F.2.1 dX6_minutesOf_43 ?_
      refine lv_iconst (v := (1 : Int32)) F.1 F.2.1 dX6_minutesOf_44 (by decide) ?_
      refine lv_isub F.1 F.2.1 dX6_minutesOf_45 ?_
      refine lv_iload_n F.1 F.2.1 dX6_minutesOf_46 rfl (lv_at hl 2 rfl) ?_
      obtain ⟨hz, h⟩ := gn h
      refine lv_idiv F.1 F.2.1 dX6_minutesOf_47 hz ?_
      refine lv_iadd F.1 F.2.1 dX6_minutesOf_48 ?_
      obtain ⟨x3, e_x3, h⟩ := ltE h
      refine x_topi e_x3 ?_
      clear e_x3
      refine lv_istore_n (lv' := [(3, .int x3), (0, .ref (gA g b)), (1, .int a1), (2, .int a2), (4, .int v4)]) F.1 F.2.1 dX6_minutesOf_49 rfl hl (by decide) rfl (fun ls hl => ?_)
      exact w_50 _ (fun v3 v4 => ih v3 v4) x3 v4 h H locs _ hS (lv_sub hl [1, 2, 3, 0, 4] rfl)
  obtain ⟨locs, hlo⟩ : ∃ z : List Loc, z = [] := ⟨_, rfl⟩
  rw [← hlo] at hS ⊢
  clear hlo
  refine lv_iload_n F.1 F.2.1 dX6_minutesOf_0 rfl (lv_at hl 2 rfl) ?_
  refine lv_iconst (v := (1 : Int32)) F.1 F.2.1 dX6_minutesOf_1 (by decide) ?_
  refine lv_icmp_ge (tgt := 7) F.1 F.2.1 dX6_minutesOf_2 (by decide) (fun hc => ?_) (fun hc => ?_)
  rotate_left
  · replace h := ifF h hc
    refine lv_iconst (v := (0 : Int32)) F.1 F.2.1 dX6_minutesOf_5 (by decide) ?_
    exact e_i F hS ⟨Option.some.inj h, rfl, rfl⟩ hr0 dX6_minutesOf_6 hk0
  replace h := ifT h hc
  refine lv_iconst (v := (0 : Int32)) F.1 F.2.1 dX6_minutesOf_7 (by decide) ?_
  refine lv_istore_n (lv' := [(3, .int (0 : Int32)), (0, .ref (gA g b)), (1, .int a1), (2, .int a2)]) F.1 F.2.1 dX6_minutesOf_8 rfl hl (by decide) rfl (fun ls hl => ?_)
  refine lv_iconst (v := (0 : Int32)) F.1 F.2.1 dX6_minutesOf_9 (by decide) ?_
  refine lv_istore (lv' := [(4, .int (0 : Int32)), (3, .int (0 : Int32)), (0, .ref (gA g b)), (1, .int a1), (2, .int a2)]) F.1 F.2.1 dX6_minutesOf_10 hl (by decide) rfl (fun ls hl => ?_)
  exact w_12 3000 (0 : Int32) (0 : Int32) h H locs _ hS (lv_sub hl [2, 3, 4, 1, 0] rfl)
def f_X7_sort_93 (σ : ZI) (a1 : Int32) (a2 : Int32) (k_39 : Int32 → Int32 → Int32 → Int32 → Option (Int32)) (v3 : Int32) (v4 : Int32) (v5 : Int32) (v6 : Int32) : Option (Int32) := k_39 v3 v4 v5 (v6 + (1 : Int32))
def f_X7_sort_39 (σ : ZI) (a1 : Int32) (a2 : Int32)  : Nat → Int32 → Int32 → Int32 → Int32 → Option (Int32)
  | 0, _, _, _, _ => none
  | n + 1, v3, v4, v5, v6 => if v5 ≤ v6 then (if a2 = 0 then (some v4) else (some v3)) else ((f_X6_lettersWorth σ 1 v6).bind (fun q4 => if q4 ≤ v4 then (f_X7_sort_93 σ a1 a2 (fun v3 v4 v5 v6 => f_X7_sort_39 σ a1 a2 n v3 v4 v5 v6) v3 v4 v5 v6) else ((f_X6_value σ 1 (12 : Int32)).bind (fun q5 => (f_X6_minutesOf σ 1 v6 q5).bind (fun q6 => if a1 < q6 then (f_X7_sort_93 σ a1 a2 (fun v3 v4 v5 v6 => f_X7_sort_39 σ a1 a2 n v3 v4 v5 v6) v3 v4 v5 v6) else (f_X7_sort_93 σ a1 a2 (fun v3 v4 v5 v6 => f_X7_sort_39 σ a1 a2 n v3 v4 v5 v6) v6 q4 v5 v6))))))
def f_X7_sort (σ : ZI) (a1 : Int32) (a2 : Int32) : Option (Int32) := if a1 < 0 then (some (-1 : Int32)) else (if (99 : Int32) < a1 then (some (-1 : Int32)) else ((f_X7_isPart a2).bind (fun q1 => if q1 = 0 then (some (-1 : Int32)) else ((f_X6_value σ 1 (3 : Int32)).bind (fun q2 => lt_ (((1 : Int32) <<< (q2 &&& 31))) (fun x3 => f_X7_sort_39 σ a1 a2 3000 (0 : Int32) (0 : Int32) x3 (0 : Int32)))))))
abbrev rm_X7_sort : Room := { frames := 3, cells := 0, slots := 0, locals := 66 }
set_option maxHeartbeats 4000000 in
set_option maxRecDepth 100000 in
theorem c_X7_sort (l : Launch) (g : GG) (σ : ZI) (τ : ZL) (a1 : Int32) (a2 : Int32) (res : Int32) (h : f_X7_sort σ a1 a2 = some res) : MI l yX7_sort cX7_sort 8 (some .int) rm_X7_sort g [.ref (gA g 0), .int a1, .int a2] σ τ (fun (r : Int32) (u : ZI × ZL) => r = res ∧ u.1 = σ ∧ u.2 = τ) := by
  refine Met_in (by decide) (Nat.le_of_ble_eq_true rfl) ?_
  intro p e s m args below meth c F G hP hr0 hk0 ls hl
  have hS := WS.start hP
  have hl : lv_has ls 8 [(0, .ref (gA g 0)), (1, .int a1), (2, .int a2)] := hl
  obtain ⟨H, hH⟩ : ∃ H, H = s.heap := ⟨_, rfl⟩
  rw [← hH] at hS ⊢
  clear hH hP
  rw [f_X7_sort] at h
  have w_93 : ∀ (k_39 : Int32 → Int32 → Int32 → Int32 → Option (Int32)) (hk_39 : ∀ (v3 : Int32) (v4 : Int32) (v5 : Int32) (v6 : Int32), k_39 v3 v4 v5 v6 = some res → ∀ (H : Heap) (locs : List Loc) (ls : Array Slot), WS g σ τ s H locs → lv_has ls 8 [(0, .ref (gA g 0)), (1, .int a1), (2, .int a2), (3, .int v3), (4, .int v4), (5, .int v5), (6, .int v6)] → W p l e rm_X7_sort s m args below meth c H locs 0 0 (MQ below (va_Qi (fun (r : Int32) (u : ZI × ZL) => r = res ∧ u.1 = σ ∧ u.2 = τ) (WQ g) (AA g)) args s 0 0 (AA g)) (F0 m 39 ls [])) (v3 : Int32) (v4 : Int32) (v5 : Int32) (v6 : Int32), f_X7_sort_93 σ a1 a2 k_39 v3 v4 v5 v6 = some res → ∀ (H : Heap) (locs : List Loc) (ls : Array Slot), WS g σ τ s H locs → lv_has ls 8 [(0, .ref (gA g 0)), (1, .int a1), (2, .int a2), (3, .int v3), (4, .int v4), (5, .int v5), (6, .int v6)] → W p l e rm_X7_sort s m args below meth c H locs 0 0 (MQ below (va_Qi (fun (r : Int32) (u : ZI × ZL) => r = res ∧ u.1 = σ ∧ u.2 = τ) (WQ g) (AA g)) args s 0 0 (AA g)) (F0 m 93 ls []) := by
    intro k_39 hk_39 v3 v4 v5 v6 h H locs ls hS hl
    rw [f_X7_sort_93] at h
    refine lv_iinc (v := (v6 + (1 : Int32))) (lv' := [(6, .int (v6 + (1 : Int32))), (0, .ref (gA g 0)), (1, .int a1), (2, .int a2), (3, .int v3), (4, .int v4), (5, .int v5)]) F.1 F.2.1 dX7_sort_93 hl (k := 6) rfl rfl (by decide) rfl (fun ls hl => ?_)
    refine lv_goto (tgt := 39) F.1 F.2.1 dX7_sort_96 (by decide) ?_
    exact hk_39 v3 v4 v5 (v6 + (1 : Int32)) h H locs _ hS (lv_sub hl [1, 2, 3, 4, 5, 6, 0] rfl)
  have w_39 : ∀ (n : Nat) (v3 : Int32) (v4 : Int32) (v5 : Int32) (v6 : Int32), f_X7_sort_39 σ a1 a2 n v3 v4 v5 v6 = some res → ∀ (H : Heap) (locs : List Loc) (ls : Array Slot), WS g σ τ s H locs → lv_has ls 8 [(0, .ref (gA g 0)), (1, .int a1), (2, .int a2), (3, .int v3), (4, .int v4), (5, .int v5), (6, .int v6)] → W p l e rm_X7_sort s m args below meth c H locs 0 0 (MQ below (va_Qi (fun (r : Int32) (u : ZI × ZL) => r = res ∧ u.1 = σ ∧ u.2 = τ) (WQ g) (AA g)) args s 0 0 (AA g)) (F0 m 39 ls []) := by
    intro n
    induction n with
    | zero => intro v3 v4 v5 v6 h; rw [f_X7_sort_39] at h; cases h
    | succ n ih =>
      intro v3 v4 v5 v6 h H locs ls hS hl
      rw [f_X7_sort_39] at h
      refine lv_iload F.1 F.2.1 dX7_sort_39 (lv_at hl 6 rfl) ?_
      refine lv_iload F.1 F.2.1 dX7_sort_41 (lv_at hl 5 rfl) ?_
      refine lv_icmp_ge (tgt := 99) F.1 F.2.1 dX7_sort_43 (by decide) (fun hc => ?_) (fun hc => ?_)
      · replace h := ifT h hc
        refine lv_iload_n F.1 F.2.1 dX7_sort_99 rfl (lv_at hl 2 rfl) ?_
        refine lv_if_ne (tgt := 108) F.1 F.2.1 dX7_sort_100 (by decide) (fun hc => ?_) (fun hc => ?_)
        · replace h := ifF h hc
          refine lv_iload_n F.1 F.2.1 dX7_sort_108 rfl (lv_at hl 3 rfl) ?_
          exact e_i F hS ⟨Option.some.inj h, rfl, rfl⟩ hr0 dX7_sort_109 hk0
        replace h := ifT h hc
        refine lv_iload F.1 F.2.1 dX7_sort_103 (lv_at hl 4 rfl) ?_
        refine lv_goto (tgt := 109) F.1 F.2.1 dX7_sort_105 (by decide) ?_
        exact e_i F hS ⟨Option.some.inj h, rfl, rfl⟩ hr0 dX7_sort_109 hk0
      replace h := ifF h hc
      refine lv_aload_n F.1 F.2.1 dX7_sort_46 rfl (lv_at hl 0 rfl) ?_
      refine gf_X7_10 F G hS dX7_sort_47 ?_
      refine lv_iload F.1 F.2.1 dX7_sort_50 (lv_at hl 6 rfl) ?_
      obtain ⟨q4, h_q4, h⟩ := bd h
      refine rNi F G hS hl.1 (c_X6_lettersWorth l g σ τ 1 v6 q4 h_q4) lk_X7_257 ⟨rfl, rfl, Nat.le_of_ble_eq_true rfl, Nat.le_of_ble_eq_true rfl⟩ (rc_X6 G hS rfl) rfl rfl (Nat.le_of_ble_eq_true rfl) dX7_sort_52 (kRi (fun H locs hS => ?_))
      refine lv_istore (lv' := [(7, .int q4), (0, .ref (gA g 0)), (1, .int a1), (2, .int a2), (3, .int v3), (4, .int v4), (5, .int v5), (6, .int v6)]) F.1 F.2.1 dX7_sort_55 hl (by decide) rfl (fun ls hl => ?_)
      refine lv_iload F.1 F.2.1 dX7_sort_57 (lv_at hl 0 rfl) ?_
      refine lv_iload F.1 F.2.1 dX7_sort_59 (lv_at hl 5 rfl) ?_
      refine lv_icmp_le (tgt := 93) F.1 F.2.1 dX7_sort_61 (by decide) (fun hc => ?_) (fun hc => ?_)
      · replace h := ifT h hc
        exact w_93 _ (fun v3 v4 v5 v6 => ih v3 v4 v5 v6) v3 v4 v5 v6 h H locs _ hS (lv_sub hl [1, 2, 3, 4, 5, 6, 7] rfl)
      replace h := ifF h hc
      refine lv_aload_n F.1 F.2.1 dX7_sort_64 rfl (lv_at hl 1 rfl) ?_
      refine gf_X7_10 F G hS dX7_sort_65 ?_
      refine lv_iload F.1 F.2.1 dX7_sort_68 (lv_at hl 7 rfl) ?_
      refine lv_aload_n F.1 F.2.1 dX7_sort_70 rfl (lv_at hl 1 rfl) ?_
      refine gf_X7_10 F G hS dX7_sort_71 ?_
      refine lv_bipush (v := (12 : Int32)) F.1 F.2.1 dX7_sort_74 (by decide) ?_
      obtain ⟨q5, h_q5, h⟩ := bd h
      refine rNi F G hS hl.1 (c_X6_value l g σ τ 1 (12 : Int32) q5 h_q5) lk_X7_110 ⟨rfl, rfl, Nat.le_of_ble_eq_true rfl, Nat.le_of_ble_eq_true rfl⟩ (rc_X6 G hS rfl) rfl rfl (Nat.le_of_ble_eq_true rfl) dX7_sort_76 (kRi (fun H locs hS => ?_))
      obtain ⟨q6, h_q6, h⟩ := bd h
      refine rNi F G hS hl.1 (c_X6_minutesOf l g σ τ 1 v6 q5 q6 h_q6) lk_X7_260 ⟨rfl, rfl, Nat.le_of_ble_eq_true rfl, Nat.le_of_ble_eq_true rfl⟩ (rc_X6 G hS rfl) rfl rfl (Nat.le_of_ble_eq_true rfl) dX7_sort_79 (kRi (fun H locs hS => ?_))
      refine lv_iload_n F.1 F.2.1 dX7_sort_82 rfl (lv_at hl 2 rfl) ?_
      refine lv_icmp_gt (tgt := 93) F.1 F.2.1 dX7_sort_83 (by decide) (fun hc => ?_) (fun hc => ?_)
      · replace h := ifT h hc
        exact w_93 _ (fun v3 v4 v5 v6 => ih v3 v4 v5 v6) v3 v4 v5 v6 h H locs _ hS (lv_sub hl [1, 2, 3, 4, 5, 6, 7] rfl)
      replace h := ifF h hc
      refine lv_iload F.1 F.2.1 dX7_sort_86 (lv_at hl 7 rfl) ?_
      refine lv_istore_n (lv' := [(3, .int v6), (7, .int q4), (0, .ref (gA g 0)), (1, .int a1), (2, .int a2), (4, .int v4), (5, .int v5), (6, .int v6)]) F.1 F.2.1 dX7_sort_88 rfl hl (by decide) rfl (fun ls hl => ?_)
      refine lv_iload F.1 F.2.1 dX7_sort_89 (lv_at hl 1 rfl) ?_
      refine lv_istore (lv' := [(4, .int q4), (3, .int v6), (7, .int q4), (0, .ref (gA g 0)), (1, .int a1), (2, .int a2), (5, .int v5), (6, .int v6)]) F.1 F.2.1 dX7_sort_91 hl (by decide) rfl (fun ls hl => ?_)
      exact w_93 _ (fun v3 v4 v5 v6 => ih v3 v4 v5 v6) v6 q4 v5 v6 h H locs _ hS (lv_sub hl [3, 4, 5, 1, 0, 6, 7] rfl)
  obtain ⟨locs, hlo⟩ : ∃ z : List Loc, z = [] := ⟨_, rfl⟩
  rw [← hlo] at hS ⊢
  clear hlo
  refine lv_iload_n F.1 F.2.1 dX7_sort_0 rfl (lv_at hl 1 rfl) ?_
  refine lv_if_lt (tgt := 17) F.1 F.2.1 dX7_sort_1 (by decide) (fun hc => ?_) (fun hc => ?_)
  · replace h := ifT h hc
    refine lv_iconst (v := (-1 : Int32)) F.1 F.2.1 dX7_sort_17 (by decide) ?_
    exact e_i F hS ⟨Option.some.inj h, rfl, rfl⟩ hr0 dX7_sort_18 hk0
  replace h := ifF h hc
  refine lv_iload_n F.1 F.2.1 dX7_sort_4 rfl (lv_at hl 1 rfl) ?_
  refine lv_bipush (v := (99 : Int32)) F.1 F.2.1 dX7_sort_5 (by decide) ?_
  refine lv_icmp_gt (tgt := 17) F.1 F.2.1 dX7_sort_7 (by decide) (fun hc => ?_) (fun hc => ?_)
  · replace h := ifT h hc
    refine lv_iconst (v := (-1 : Int32)) F.1 F.2.1 dX7_sort_17 (by decide) ?_
    exact e_i F hS ⟨Option.some.inj h, rfl, rfl⟩ hr0 dX7_sort_18 hk0
  replace h := ifF h hc
  refine lv_iload_n F.1 F.2.1 dX7_sort_10 rfl (lv_at hl 2 rfl) ?_
  obtain ⟨q1, h_q1, h⟩ := bd h
  refine rSi F G hS hl.1 (c_X7_isPart l g σ τ a2 q1 h_q1) lk_X7_137 ⟨rfl, rfl, Nat.le_of_ble_eq_true rfl, Nat.le_of_ble_eq_true rfl⟩  rfl rfl (Nat.le_of_ble_eq_true rfl) dX7_sort_11 (kRi (fun H locs hS => ?_))
  refine lv_if_ne (tgt := 19) F.1 F.2.1 dX7_sort_14 (by decide) (fun hc => ?_) (fun hc => ?_)
  rotate_left
  · replace h := ifT h hc
    refine lv_iconst (v := (-1 : Int32)) F.1 F.2.1 dX7_sort_17 (by decide) ?_
    exact e_i F hS ⟨Option.some.inj h, rfl, rfl⟩ hr0 dX7_sort_18 hk0
  replace h := ifF h hc
  refine lv_iconst (v := (0 : Int32)) F.1 F.2.1 dX7_sort_19 (by decide) ?_
  refine lv_istore_n (lv' := [(3, .int (0 : Int32)), (0, .ref (gA g 0)), (1, .int a1), (2, .int a2)]) F.1 F.2.1 dX7_sort_20 rfl hl (by decide) rfl (fun ls hl => ?_)
  refine lv_iconst (v := (0 : Int32)) F.1 F.2.1 dX7_sort_21 (by decide) ?_
  refine lv_istore (lv' := [(4, .int (0 : Int32)), (3, .int (0 : Int32)), (0, .ref (gA g 0)), (1, .int a1), (2, .int a2)]) F.1 F.2.1 dX7_sort_22 hl (by decide) rfl (fun ls hl => ?_)
  refine lv_iconst (v := (1 : Int32)) F.1 F.2.1 dX7_sort_24 (by decide) ?_
  refine lv_aload_n F.1 F.2.1 dX7_sort_25 rfl (lv_at hl 2 rfl) ?_
  refine gf_X7_10 F G hS dX7_sort_26 ?_
  refine lv_iconst (v := (3 : Int32)) F.1 F.2.1 dX7_sort_29 (by decide) ?_
  obtain ⟨q2, h_q2, h⟩ := bd h
  refine rNi F G hS hl.1 (c_X6_value l g σ τ 1 (3 : Int32) q2 h_q2) lk_X7_110 ⟨rfl, rfl, Nat.le_of_ble_eq_true rfl, Nat.le_of_ble_eq_true rfl⟩ (rc_X6 G hS rfl) rfl rfl (Nat.le_of_ble_eq_true rfl) dX7_sort_30 (kRi (fun H locs hS => ?_))
  refine lv_ishl F.1 F.2.1 dX7_sort_33 ?_
  obtain ⟨x3, e_x3, h⟩ := ltE h
  refine x_topi e_x3 ?_
  clear e_x3
  refine lv_istore (lv' := [(5, .int x3), (4, .int (0 : Int32)), (3, .int (0 : Int32)), (0, .ref (gA g 0)), (1, .int a1), (2, .int a2)]) F.1 F.2.1 dX7_sort_34 hl (by decide) rfl (fun ls hl => ?_)
  refine lv_iconst (v := (0 : Int32)) F.1 F.2.1 dX7_sort_36 (by decide) ?_
  refine lv_istore (lv' := [(6, .int (0 : Int32)), (5, .int x3), (4, .int (0 : Int32)), (3, .int (0 : Int32)), (0, .ref (gA g 0)), (1, .int a1), (2, .int a2)]) F.1 F.2.1 dX7_sort_37 hl (by decide) rfl (fun ls hl => ?_)
  exact w_39 3000 (0 : Int32) (0 : Int32) x3 (0 : Int32) h H locs _ hS (lv_sub hl [4, 5, 6, 3, 2, 1, 0] rfl)
def f_X7_areTowns (σ : ZI) (a1 : Int32) : Option (Int32) := if a1 < 0 then (some (0 : Int32)) else ((f_X6_value σ 1 (3 : Int32)).bind (fun q1 => if ((1 : Int32) <<< (q1 &&& 31)) ≤ a1 then (some (0 : Int32)) else (some (1 : Int32))))
abbrev rm_X7_areTowns : Room := { frames := 2, cells := 0, slots := 0, locals := 42 }
set_option maxHeartbeats 4000000 in
set_option maxRecDepth 100000 in
theorem c_X7_areTowns (l : Launch) (g : GG) (σ : ZI) (τ : ZL) (a1 : Int32) (res : Int32) (h : f_X7_areTowns σ a1 = some res) : MI l yX7_areTowns cX7_areTowns 2 (some .boolean) rm_X7_areTowns g [.ref (gA g 0), .int a1] σ τ (fun (r : Int32) (u : ZI × ZL) => r = res ∧ u.1 = σ ∧ u.2 = τ) := by
  refine Met_in (by decide) (Nat.le_of_ble_eq_true rfl) ?_
  intro p e s m args below meth c F G hP hr0 hk0 ls hl
  have hS := WS.start hP
  have hl : lv_has ls 2 [(0, .ref (gA g 0)), (1, .int a1)] := hl
  obtain ⟨H, hH⟩ : ∃ H, H = s.heap := ⟨_, rfl⟩
  rw [← hH] at hS ⊢
  clear hH hP
  rw [f_X7_areTowns] at h
  obtain ⟨locs, hlo⟩ : ∃ z : List Loc, z = [] := ⟨_, rfl⟩
  rw [← hlo] at hS ⊢
  clear hlo
  refine lv_iload_n F.1 F.2.1 dX7_areTowns_0 rfl (lv_at hl 1 rfl) ?_
  refine lv_if_lt (tgt := 22) F.1 F.2.1 dX7_areTowns_1 (by decide) (fun hc => ?_) (fun hc => ?_)
  · replace h := ifT h hc
    refine lv_iconst (v := (0 : Int32)) F.1 F.2.1 dX7_areTowns_22 (by decide) ?_
    exact e_z F hS (by decide) ⟨Option.some.inj h, rfl, rfl⟩ hr0 dX7_areTowns_23 hk0
  replace h := ifF h hc
  refine lv_iload_n F.1 F.2.1 dX7_areTowns_4 rfl (lv_at hl 1 rfl) ?_
  refine lv_iconst (v := (1 : Int32)) F.1 F.2.1 dX7_areTowns_5 (by decide) ?_
  refine lv_aload_n F.1 F.2.1 dX7_areTowns_6 rfl (lv_at hl 0 rfl) ?_
  refine gf_X7_10 F G hS dX7_areTowns_7 ?_
  refine lv_iconst (v := (3 : Int32)) F.1 F.2.1 dX7_areTowns_10 (by decide) ?_
  obtain ⟨q1, h_q1, h⟩ := bd h
  refine rNi F G hS hl.1 (c_X6_value l g σ τ 1 (3 : Int32) q1 h_q1) lk_X7_110 ⟨rfl, rfl, Nat.le_of_ble_eq_true rfl, Nat.le_of_ble_eq_true rfl⟩ (rc_X6 G hS rfl) rfl rfl (Nat.le_of_ble_eq_true rfl) dX7_areTowns_11 (kRi (fun H locs hS => ?_))
  refine lv_ishl F.1 F.2.1 dX7_areTowns_14 ?_
  refine lv_icmp_ge (tgt := 22) F.1 F.2.1 dX7_areTowns_15 (by decide) (fun hc => ?_) (fun hc => ?_)
  · replace h := ifT h hc
    refine lv_iconst (v := (0 : Int32)) F.1 F.2.1 dX7_areTowns_22 (by decide) ?_
    exact e_z F hS (by decide) ⟨Option.some.inj h, rfl, rfl⟩ hr0 dX7_areTowns_23 hk0
  replace h := ifF h hc
  refine lv_iconst (v := (1 : Int32)) F.1 F.2.1 dX7_areTowns_18 (by decide) ?_
  refine lv_goto (tgt := 23) F.1 F.2.1 dX7_areTowns_19 (by decide) ?_
  exact e_z F hS (by decide) ⟨Option.some.inj h, rfl, rfl⟩ hr0 dX7_areTowns_23 hk0
def f_X7_minutes (σ : ZI) (a1 : Int32) : Option (Int32) := (f_X7_areTowns σ a1).bind (fun q1 => if q1 = 0 then (some (-1 : Int32)) else ((f_X6_value σ 1 (12 : Int32)).bind (fun q2 => (f_X6_minutesOf σ 1 a1 q2).bind (fun q3 => some q3))))
abbrev rm_X7_minutes : Room := { frames := 3, cells := 0, slots := 0, locals := 66 }
set_option maxHeartbeats 4000000 in
set_option maxRecDepth 100000 in
theorem c_X7_minutes (l : Launch) (g : GG) (σ : ZI) (τ : ZL) (a1 : Int32) (res : Int32) (h : f_X7_minutes σ a1 = some res) : MI l yX7_minutes cX7_minutes 2 (some .int) rm_X7_minutes g [.ref (gA g 0), .int a1] σ τ (fun (r : Int32) (u : ZI × ZL) => r = res ∧ u.1 = σ ∧ u.2 = τ) := by
  refine Met_in (by decide) (Nat.le_of_ble_eq_true rfl) ?_
  intro p e s m args below meth c F G hP hr0 hk0 ls hl
  have hS := WS.start hP
  have hl : lv_has ls 2 [(0, .ref (gA g 0)), (1, .int a1)] := hl
  obtain ⟨H, hH⟩ : ∃ H, H = s.heap := ⟨_, rfl⟩
  rw [← hH] at hS ⊢
  clear hH hP
  rw [f_X7_minutes] at h
  obtain ⟨locs, hlo⟩ : ∃ z : List Loc, z = [] := ⟨_, rfl⟩
  rw [← hlo] at hS ⊢
  clear hlo
  refine lv_aload_n F.1 F.2.1 dX7_minutes_0 rfl (lv_at hl 0 rfl) ?_
  refine lv_iload_n F.1 F.2.1 dX7_minutes_1 rfl (lv_at hl 1 rfl) ?_
  obtain ⟨q1, h_q1, h⟩ := bd h
  refine rVi F G hS hl.1 (c_X7_areTowns l g σ τ a1 q1 h_q1) lk_X7_263 ⟨rfl, rfl, Nat.le_of_ble_eq_true rfl, Nat.le_of_ble_eq_true rfl⟩ (rc_X7 G hS) rfl rfl (Nat.le_of_ble_eq_true rfl) dX7_minutes_2 (kRi (fun H locs hS => ?_))
  refine lv_if_eq (tgt := 28) F.1 F.2.1 dX7_minutes_5 (by decide) (fun hc => ?_) (fun hc => ?_)
  · replace h := ifT h hc
    refine lv_iconst (v := (-1 : Int32)) F.1 F.2.1 dX7_minutes_28 (by decide) ?_
    exact e_i F hS ⟨Option.some.inj h, rfl, rfl⟩ hr0 dX7_minutes_29 hk0
  replace h := ifF h hc
  refine lv_aload_n F.1 F.2.1 dX7_minutes_8 rfl (lv_at hl 0 rfl) ?_
  refine gf_X7_10 F G hS dX7_minutes_9 ?_
  refine lv_iload_n F.1 F.2.1 dX7_minutes_12 rfl (lv_at hl 1 rfl) ?_
  refine lv_aload_n F.1 F.2.1 dX7_minutes_13 rfl (lv_at hl 0 rfl) ?_
  refine gf_X7_10 F G hS dX7_minutes_14 ?_
  refine lv_bipush (v := (12 : Int32)) F.1 F.2.1 dX7_minutes_17 (by decide) ?_
  obtain ⟨q2, h_q2, h⟩ := bd h
  refine rNi F G hS hl.1 (c_X6_value l g σ τ 1 (12 : Int32) q2 h_q2) lk_X7_110 ⟨rfl, rfl, Nat.le_of_ble_eq_true rfl, Nat.le_of_ble_eq_true rfl⟩ (rc_X6 G hS rfl) rfl rfl (Nat.le_of_ble_eq_true rfl) dX7_minutes_19 (kRi (fun H locs hS => ?_))
  obtain ⟨q3, h_q3, h⟩ := bd h
  refine rNi F G hS hl.1 (c_X6_minutesOf l g σ τ 1 a1 q2 q3 h_q3) lk_X7_260 ⟨rfl, rfl, Nat.le_of_ble_eq_true rfl, Nat.le_of_ble_eq_true rfl⟩ (rc_X6 G hS rfl) rfl rfl (Nat.le_of_ble_eq_true rfl) dX7_minutes_22 (kRi (fun H locs hS => ?_))
  refine lv_goto (tgt := 29) F.1 F.2.1 dX7_minutes_25 (by decide) ?_
  exact e_i F hS ⟨Option.some.inj h, rfl, rfl⟩ hr0 dX7_minutes_29 hk0
def f_X7_hands_32 (σ : ZI) (a1 : Int32)  : Nat → Int32 → Int32 → Option (Int32)
  | 0, _, _ => none
  | n + 1, v2, v3 => if inB (12 : Int32) 13 = true then (if ((stL 102).getD (12 : Int32).toNatClampNeg 0) < v3 then (some (-4 : Int32)) else ((f_X6_minutesOf σ 1 v2 v3).bind (fun q4 => if a1 < q4 then (f_X7_hands_32 σ a1 n v2 (v3 + (1 : Int32))) else (some v3)))) else none
def f_X7_hands (σ : ZI) (a1 : Int32) : Option (Int32) := if a1 < 0 then (some (-1 : Int32)) else (if a1 ≤ (99 : Int32) then ((f_X6_value σ 1 (3 : Int32)).bind (fun q1 => lt_ ((((1 : Int32) <<< (q1 &&& 31)) - (1 : Int32))) (fun x2 => if inB (12 : Int32) 13 = true then (lt_ (((stL 101).getD (12 : Int32).toNatClampNeg 0)) (fun x3 => f_X7_hands_32 σ a1 3000 x2 x3)) else none))) else (some (-1 : Int32)))
abbrev rm_X7_hands : Room := { frames := 3, cells := 0, slots := 0, locals := 66 }
set_option maxHeartbeats 4000000 in
set_option maxRecDepth 100000 in
theorem c_X7_hands (l : Launch) (g : GG) (σ : ZI) (τ : ZL) (a1 : Int32) (res : Int32) (h : f_X7_hands σ a1 = some res) : MI l yX7_hands cX7_hands 4 (some .int) rm_X7_hands g [.ref (gA g 0), .int a1] σ τ (fun (r : Int32) (u : ZI × ZL) => r = res ∧ u.1 = σ ∧ u.2 = τ) := by
  refine Met_in (by decide) (Nat.le_of_ble_eq_true rfl) ?_
  intro p e s m args below meth c F G hP hr0 hk0 ls hl
  have hS := WS.start hP
  have hl : lv_has ls 4 [(0, .ref (gA g 0)), (1, .int a1)] := hl
  obtain ⟨H, hH⟩ : ∃ H, H = s.heap := ⟨_, rfl⟩
  rw [← hH] at hS ⊢
  clear hH hP
  rw [f_X7_hands] at h
  have w_32 : ∀ (n : Nat) (v2 : Int32) (v3 : Int32), f_X7_hands_32 σ a1 n v2 v3 = some res → ∀ (H : Heap) (locs : List Loc) (ls : Array Slot), WS g σ τ s H locs → lv_has ls 4 [(0, .ref (gA g 0)), (1, .int a1), (2, .int v2), (3, .int v3)] → W p l e rm_X7_hands s m args below meth c H locs 0 0 (MQ below (va_Qi (fun (r : Int32) (u : ZI × ZL) => r = res ∧ u.1 = σ ∧ u.2 = τ) (WQ g) (AA g)) args s 0 0 (AA g)) (F0 m 32 ls []) := by
    intro n
    induction n with
    | zero => intro v2 v3 h; rw [f_X7_hands_32] at h; cases h
    | succ n ih =>
      intro v2 v3 h H locs ls hS hl
      rw [f_X7_hands_32] at h
      refine lv_iload_n F.1 F.2.1 dX7_hands_32 rfl (lv_at hl 3 rfl) ?_
      refine gs_X7_246 F G hS dX7_hands_33 ?_
      refine lv_bipush (v := (12 : Int32)) F.1 F.2.1 dX7_hands_36 (by decide) ?_
      obtain ⟨hin, h⟩ := gd h
      refine x_siald F G hS 102 (by decide) hin dX7_hands_38 ?_
      refine lv_icmp_gt (tgt := 63) F.1 F.2.1 dX7_hands_39 (by decide) (fun hc => ?_) (fun hc => ?_)
      · replace h := ifT h hc
        refine lv_bipush (v := (-4 : Int32)) F.1 F.2.1 dX7_hands_63 (by decide) ?_
        exact e_i F hS ⟨Option.some.inj h, rfl, rfl⟩ hr0 dX7_hands_65 hk0
      replace h := ifF h hc
      refine lv_aload_n F.1 F.2.1 dX7_hands_42 rfl (lv_at hl 0 rfl) ?_
      refine gf_X7_10 F G hS dX7_hands_43 ?_
      refine lv_iload_n F.1 F.2.1 dX7_hands_46 rfl (lv_at hl 2 rfl) ?_
      refine lv_iload_n F.1 F.2.1 dX7_hands_47 rfl (lv_at hl 3 rfl) ?_
      obtain ⟨q4, h_q4, h⟩ := bd h
      refine rNi F G hS hl.1 (c_X6_minutesOf l g σ τ 1 v2 v3 q4 h_q4) lk_X7_260 ⟨rfl, rfl, Nat.le_of_ble_eq_true rfl, Nat.le_of_ble_eq_true rfl⟩ (rc_X6 G hS rfl) rfl rfl (Nat.le_of_ble_eq_true rfl) dX7_hands_48 (kRi (fun H locs hS => ?_))
      refine lv_iload_n F.1 F.2.1 dX7_hands_51 rfl (lv_at hl 1 rfl) ?_
      refine lv_icmp_gt (tgt := 57) F.1 F.2.1 dX7_hands_52 (by decide) (fun hc => ?_) (fun hc => ?_)
      rotate_left
      · replace h := ifF h hc
        refine lv_iload_n F.1 F.2.1 dX7_hands_55 rfl (lv_at hl 3 rfl) ?_
        exact e_i F hS ⟨Option.some.inj h, rfl, rfl⟩ hr0 dX7_hands_56 hk0
      replace h := ifT h hc
      refine lv_iinc (v := (v3 + (1 : Int32))) (lv' := [(3, .int (v3 + (1 : Int32))), (0, .ref (gA g 0)), (1, .int a1), (2, .int v2)]) F.1 F.2.1 dX7_hands_57 hl (k := 3) rfl rfl (by decide) rfl (fun ls hl => ?_)
      refine lv_goto (tgt := 32) F.1 F.2.1 dX7_hands_60 (by decide) ?_
      exact ih v2 (v3 + (1 : Int32)) h H locs _ hS (lv_sub hl [1, 2, 3, 0] rfl)
  obtain ⟨locs, hlo⟩ : ∃ z : List Loc, z = [] := ⟨_, rfl⟩
  rw [← hlo] at hS ⊢
  clear hlo
  refine lv_iload_n F.1 F.2.1 dX7_hands_0 rfl (lv_at hl 1 rfl) ?_
  refine lv_if_lt (tgt := 10) F.1 F.2.1 dX7_hands_1 (by decide) (fun hc => ?_) (fun hc => ?_)
  · replace h := ifT h hc
    refine lv_iconst (v := (-1 : Int32)) F.1 F.2.1 dX7_hands_10 (by decide) ?_
    exact e_i F hS ⟨Option.some.inj h, rfl, rfl⟩ hr0 dX7_hands_11 hk0
  replace h := ifF h hc
  refine lv_iload_n F.1 F.2.1 dX7_hands_4 rfl (lv_at hl 1 rfl) ?_
  refine lv_bipush (v := (99 : Int32)) F.1 F.2.1 dX7_hands_5 (by decide) ?_
  refine lv_icmp_le (tgt := 12) F.1 F.2.1 dX7_hands_7 (by decide) (fun hc => ?_) (fun hc => ?_)
  rotate_left
  · replace h := ifF h hc
    refine lv_iconst (v := (-1 : Int32)) F.1 F.2.1 dX7_hands_10 (by decide) ?_
    exact e_i F hS ⟨Option.some.inj h, rfl, rfl⟩ hr0 dX7_hands_11 hk0
  replace h := ifT h hc
  refine lv_iconst (v := (1 : Int32)) F.1 F.2.1 dX7_hands_12 (by decide) ?_
  refine lv_aload_n F.1 F.2.1 dX7_hands_13 rfl (lv_at hl 0 rfl) ?_
  refine gf_X7_10 F G hS dX7_hands_14 ?_
  refine lv_iconst (v := (3 : Int32)) F.1 F.2.1 dX7_hands_17 (by decide) ?_
  obtain ⟨q1, h_q1, h⟩ := bd h
  refine rNi F G hS hl.1 (c_X6_value l g σ τ 1 (3 : Int32) q1 h_q1) lk_X7_110 ⟨rfl, rfl, Nat.le_of_ble_eq_true rfl, Nat.le_of_ble_eq_true rfl⟩ (rc_X6 G hS rfl) rfl rfl (Nat.le_of_ble_eq_true rfl) dX7_hands_18 (kRi (fun H locs hS => ?_))
  refine lv_ishl F.1 F.2.1 dX7_hands_21 ?_
  refine lv_iconst (v := (1 : Int32)) F.1 F.2.1 dX7_hands_22 (by decide) ?_
  refine lv_isub F.1 F.2.1 dX7_hands_23 ?_
  obtain ⟨x2, e_x2, h⟩ := ltE h
  refine x_topi e_x2 ?_
  clear e_x2
  refine lv_istore_n (lv' := [(2, .int x2), (0, .ref (gA g 0)), (1, .int a1)]) F.1 F.2.1 dX7_hands_24 rfl hl (by decide) rfl (fun ls hl => ?_)
  refine gs_X7_243 F G hS dX7_hands_25 ?_
  refine lv_bipush (v := (12 : Int32)) F.1 F.2.1 dX7_hands_28 (by decide) ?_
  obtain ⟨hin, h⟩ := gd h
  refine x_siald F G hS 101 (by decide) hin dX7_hands_30 ?_
  obtain ⟨x3, e_x3, h⟩ := ltE h
  refine x_topi e_x3 ?_
  clear e_x3
  refine lv_istore_n (lv' := [(3, .int x3), (2, .int x2), (0, .ref (gA g 0)), (1, .int a1)]) F.1 F.2.1 dX7_hands_31 rfl hl (by decide) rfl (fun ls hl => ?_)
  exact w_32 3000 x2 x3 h H locs _ hS (lv_sub hl [2, 3, 1, 0] rfl)
def f_X3_add (σ : ZI) (a1 : Int32) (a2 : Int32) : Option (Int32 × ZI) := if (σ 51 2) < (6 : Int32) then ((f_X7_put σ 52 (σ 51 2) a1).bind (fun q1 => (f_X7_put q1 53 (q1 51 2) a2).bind (fun q2 => lt_ (va_up q2 51 (upd (q2 51) 2 ((q2 51 2) + (1 : Int32)))) (fun σ3 => some ((1 : Int32), σ3))))) else (some ((0 : Int32), σ))
abbrev rm_X3_add : Room := { frames := 1, cells := 0, slots := 0, locals := 22 }
set_option maxHeartbeats 4000000 in
set_option maxRecDepth 100000 in
theorem c_X3_add (l : Launch) (g : GG) (σ : ZI) (τ : ZL) (a1 : Int32) (a2 : Int32) (res : Int32 × ZI) (h : f_X3_add σ a1 a2 = some res) : MI l yX3_add cX3_add 3 (some .boolean) rm_X3_add g [.ref (gA g 51), .int a1, .int a2] σ τ (fun (r : Int32) (u : ZI × ZL) => (r, u.1) = res ∧ u.2 = τ) := by
  refine Met_in (by decide) (Nat.le_of_ble_eq_true rfl) ?_
  intro p e s m args below meth c F G hP hr0 hk0 ls hl
  have hS := WS.start hP
  have hl : lv_has ls 3 [(0, .ref (gA g 51)), (1, .int a1), (2, .int a2)] := hl
  obtain ⟨H, hH⟩ : ∃ H, H = s.heap := ⟨_, rfl⟩
  rw [← hH] at hS ⊢
  clear hH hP
  rw [f_X3_add] at h
  obtain ⟨locs, hlo⟩ : ∃ z : List Loc, z = [] := ⟨_, rfl⟩
  rw [← hlo] at hS ⊢
  clear hlo
  refine lv_aload_n F.1 F.2.1 dX3_add_0 rfl (lv_at hl 0 rfl) ?_
  refine gf_X3_18 F G hS dX3_add_1 ?_
  refine lv_bipush (v := (6 : Int32)) F.1 F.2.1 dX3_add_4 (by decide) ?_
  refine lv_icmp_lt (tgt := 11) F.1 F.2.1 dX3_add_6 (by decide) (fun hc => ?_) (fun hc => ?_)
  rotate_left
  · replace h := ifF h hc
    refine lv_iconst (v := (0 : Int32)) F.1 F.2.1 dX3_add_9 (by decide) ?_
    exact e_z F hS (by decide) ⟨Option.some.inj h, rfl⟩ hr0 dX3_add_10 hk0
  replace h := ifT h hc
  refine lv_aload_n F.1 F.2.1 dX3_add_11 rfl (lv_at hl 0 rfl) ?_
  refine gf_X3_9 F G hS dX3_add_12 ?_
  refine lv_aload_n F.1 F.2.1 dX3_add_15 rfl (lv_at hl 0 rfl) ?_
  refine gf_X3_18 F G hS dX3_add_16 ?_
  refine lv_iload_n F.1 F.2.1 dX3_add_19 rfl (lv_at hl 1 rfl) ?_
  obtain ⟨q1, h_q1, h⟩ := bd h
  refine rTv F G hS hl.1 (c_X7_put l g σ τ 52 (σ 51 2) a1 q1 h_q1) lk_X3_22 ⟨rfl, rfl, Nat.le_of_ble_eq_true rfl, Nat.le_of_ble_eq_true rfl⟩  rfl rfl (Nat.le_of_ble_eq_true rfl) dX3_add_20 (kIv (fun H locs hS => ?_))
  refine lv_aload_n F.1 F.2.1 dX3_add_23 rfl (lv_at hl 0 rfl) ?_
  refine gf_X3_15 F G hS dX3_add_24 ?_
  refine lv_aload_n F.1 F.2.1 dX3_add_27 rfl (lv_at hl 0 rfl) ?_
  refine gf_X3_18 F G hS dX3_add_28 ?_
  refine lv_iload_n F.1 F.2.1 dX3_add_31 rfl (lv_at hl 2 rfl) ?_
  obtain ⟨q2, h_q2, h⟩ := bd h
  refine rTv F G hS hl.1 (c_X7_put l g q1 τ 53 (q1 51 2) a2 q2 h_q2) lk_X3_22 ⟨rfl, rfl, Nat.le_of_ble_eq_true rfl, Nat.le_of_ble_eq_true rfl⟩  rfl rfl (Nat.le_of_ble_eq_true rfl) dX3_add_32 (kIv (fun H locs hS => ?_))
  refine lv_aload_n F.1 F.2.1 dX3_add_35 rfl (lv_at hl 0 rfl) ?_
  refine lv_dup F.1 F.2.1 dX3_add_36 rfl ?_
  refine gf_X3_18 F G hS dX3_add_37 ?_
  refine lv_iconst (v := (1 : Int32)) F.1 F.2.1 dX3_add_40 (by decide) ?_
  refine lv_iadd F.1 F.2.1 dX3_add_41 ?_
  refine pf_X3_18 F G hS dX3_add_42 (fun H locs hS => ?_)
  obtain ⟨σ3, e_σ3, h⟩ := ltE h
  rw [← e_σ3] at hS
  clear e_σ3
  refine lv_iconst (v := (1 : Int32)) F.1 F.2.1 dX3_add_45 (by decide) ?_
  exact e_z F hS (by decide) ⟨Option.some.inj h, rfl⟩ hr0 dX3_add_46 hk0
def f_X7_see (σ : ZI) (a1 : Int32) (a2 : Int32) : Option (Int32 × ZI) := (f_X7_isJoint σ a1).bind (fun q1 => if q1 = 0 then (some ((-1 : Int32), σ)) else (if a2 < 0 then (some ((-1 : Int32), σ)) else (if a2 ≤ (10 : Int32) then ((f_X3_add σ a1 a2).bind (fun q2 => if q2.1 = 0 then (some ((-3 : Int32), q2.2)) else (some ((q2.2 51 2), q2.2)))) else (some ((-1 : Int32), σ)))))
abbrev rm_X7_see : Room := { frames := 3, cells := 0, slots := 0, locals := 63 }
set_option maxHeartbeats 4000000 in
set_option maxRecDepth 100000 in
theorem c_X7_see (l : Launch) (g : GG) (σ : ZI) (τ : ZL) (a1 : Int32) (a2 : Int32) (res : Int32 × ZI) (h : f_X7_see σ a1 a2 = some res) : MI l yX7_see cX7_see 3 (some .int) rm_X7_see g [.ref (gA g 0), .int a1, .int a2] σ τ (fun (r : Int32) (u : ZI × ZL) => (r, u.1) = res ∧ u.2 = τ) := by
  refine Met_in (by decide) (Nat.le_of_ble_eq_true rfl) ?_
  intro p e s m args below meth c F G hP hr0 hk0 ls hl
  have hS := WS.start hP
  have hl : lv_has ls 3 [(0, .ref (gA g 0)), (1, .int a1), (2, .int a2)] := hl
  obtain ⟨H, hH⟩ : ∃ H, H = s.heap := ⟨_, rfl⟩
  rw [← hH] at hS ⊢
  clear hH hP
  rw [f_X7_see] at h
  obtain ⟨locs, hlo⟩ : ∃ z : List Loc, z = [] := ⟨_, rfl⟩
  rw [← hlo] at hS ⊢
  clear hlo
  refine lv_aload_n F.1 F.2.1 dX7_see_0 rfl (lv_at hl 0 rfl) ?_
  refine lv_iload_n F.1 F.2.1 dX7_see_1 rfl (lv_at hl 1 rfl) ?_
  obtain ⟨q1, h_q1, h⟩ := bd h
  refine rVi F G hS hl.1 (c_X7_isJoint l g σ τ a1 q1 h_q1) lk_X7_163 ⟨rfl, rfl, Nat.le_of_ble_eq_true rfl, Nat.le_of_ble_eq_true rfl⟩ (rc_X7 G hS) rfl rfl (Nat.le_of_ble_eq_true rfl) dX7_see_2 (kRi (fun H locs hS => ?_))
  refine lv_if_eq (tgt := 18) F.1 F.2.1 dX7_see_5 (by decide) (fun hc => ?_) (fun hc => ?_)
  · replace h := ifT h hc
    refine lv_iconst (v := (-1 : Int32)) F.1 F.2.1 dX7_see_18 (by decide) ?_
    exact e_i F hS ⟨Option.some.inj h, rfl⟩ hr0 dX7_see_19 hk0
  replace h := ifF h hc
  refine lv_iload_n F.1 F.2.1 dX7_see_8 rfl (lv_at hl 2 rfl) ?_
  refine lv_if_lt (tgt := 18) F.1 F.2.1 dX7_see_9 (by decide) (fun hc => ?_) (fun hc => ?_)
  · replace h := ifT h hc
    refine lv_iconst (v := (-1 : Int32)) F.1 F.2.1 dX7_see_18 (by decide) ?_
    exact e_i F hS ⟨Option.some.inj h, rfl⟩ hr0 dX7_see_19 hk0
  replace h := ifF h hc
  refine lv_iload_n F.1 F.2.1 dX7_see_12 rfl (lv_at hl 2 rfl) ?_
  refine lv_bipush (v := (10 : Int32)) F.1 F.2.1 dX7_see_13 (by decide) ?_
  refine lv_icmp_le (tgt := 20) F.1 F.2.1 dX7_see_15 (by decide) (fun hc => ?_) (fun hc => ?_)
  rotate_left
  · replace h := ifF h hc
    refine lv_iconst (v := (-1 : Int32)) F.1 F.2.1 dX7_see_18 (by decide) ?_
    exact e_i F hS ⟨Option.some.inj h, rfl⟩ hr0 dX7_see_19 hk0
  replace h := ifT h hc
  refine lv_aload_n F.1 F.2.1 dX7_see_20 rfl (lv_at hl 0 rfl) ?_
  refine gf_X7_53 F G hS dX7_see_21 ?_
  refine lv_iload_n F.1 F.2.1 dX7_see_24 rfl (lv_at hl 1 rfl) ?_
  refine lv_iload_n F.1 F.2.1 dX7_see_25 rfl (lv_at hl 2 rfl) ?_
  obtain ⟨q2, h_q2, h⟩ := bd h
  refine rNi F G hS hl.1 (c_X3_add l g σ τ a1 a2 q2 h_q2) lk_X7_266 ⟨rfl, rfl, Nat.le_of_ble_eq_true rfl, Nat.le_of_ble_eq_true rfl⟩ (rc_X3 G hS) rfl rfl (Nat.le_of_ble_eq_true rfl) dX7_see_26 (kIi (fun H locs hS => ?_))
  refine lv_if_eq (tgt := 42) F.1 F.2.1 dX7_see_29 (by decide) (fun hc => ?_) (fun hc => ?_)
  · replace h := ifT h hc
    refine lv_bipush (v := (-3 : Int32)) F.1 F.2.1 dX7_see_42 (by decide) ?_
    exact e_i F hS ⟨Option.some.inj h, rfl⟩ hr0 dX7_see_44 hk0
  replace h := ifF h hc
  refine lv_aload_n F.1 F.2.1 dX7_see_32 rfl (lv_at hl 0 rfl) ?_
  refine gf_X7_53 F G hS dX7_see_33 ?_
  refine gf_X7_104 F G hS dX7_see_36 ?_
  refine lv_goto (tgt := 44) F.1 F.2.1 dX7_see_39 (by decide) ?_
  exact e_i F hS ⟨Option.some.inj h, rfl⟩ hr0 dX7_see_44 hk0
def f_X7_forget (σ : ZI) (a1 : Int32) : Option (Int32 × ZI) := if a1 < 0 then (some ((-1 : Int32), σ)) else (if a1 ≤ (σ 51 2) then (lt_ (va_up σ 51 (upd (σ 51) 2 a1)) (fun σ1 => some ((σ 51 2), σ1))) else (some ((-1 : Int32), σ)))
abbrev rm_X7_forget : Room := { frames := 0, cells := 0, slots := 0, locals := 0 }
set_option maxHeartbeats 4000000 in
set_option maxRecDepth 100000 in
theorem c_X7_forget (l : Launch) (g : GG) (σ : ZI) (τ : ZL) (a1 : Int32) (res : Int32 × ZI) (h : f_X7_forget σ a1 = some res) : MI l yX7_forget cX7_forget 3 (some .int) rm_X7_forget g [.ref (gA g 0), .int a1] σ τ (fun (r : Int32) (u : ZI × ZL) => (r, u.1) = res ∧ u.2 = τ) := by
  refine Met_in (by decide) (Nat.le_of_ble_eq_true rfl) ?_
  intro p e s m args below meth c F G hP hr0 hk0 ls hl
  have hS := WS.start hP
  have hl : lv_has ls 3 [(0, .ref (gA g 0)), (1, .int a1)] := hl
  obtain ⟨H, hH⟩ : ∃ H, H = s.heap := ⟨_, rfl⟩
  rw [← hH] at hS ⊢
  clear hH hP
  rw [f_X7_forget] at h
  obtain ⟨locs, hlo⟩ : ∃ z : List Loc, z = [] := ⟨_, rfl⟩
  rw [← hlo] at hS ⊢
  clear hlo
  refine lv_iload_n F.1 F.2.1 dX7_forget_0 rfl (lv_at hl 1 rfl) ?_
  refine lv_if_lt (tgt := 15) F.1 F.2.1 dX7_forget_1 (by decide) (fun hc => ?_) (fun hc => ?_)
  · replace h := ifT h hc
    refine lv_iconst (v := (-1 : Int32)) F.1 F.2.1 dX7_forget_15 (by decide) ?_
    exact e_i F hS ⟨Option.some.inj h, rfl⟩ hr0 dX7_forget_16 hk0
  replace h := ifF h hc
  refine lv_iload_n F.1 F.2.1 dX7_forget_4 rfl (lv_at hl 1 rfl) ?_
  refine lv_aload_n F.1 F.2.1 dX7_forget_5 rfl (lv_at hl 0 rfl) ?_
  refine gf_X7_53 F G hS dX7_forget_6 ?_
  refine gf_X7_104 F G hS dX7_forget_9 ?_
  refine lv_icmp_le (tgt := 17) F.1 F.2.1 dX7_forget_12 (by decide) (fun hc => ?_) (fun hc => ?_)
  rotate_left
  · replace h := ifF h hc
    refine lv_iconst (v := (-1 : Int32)) F.1 F.2.1 dX7_forget_15 (by decide) ?_
    exact e_i F hS ⟨Option.some.inj h, rfl⟩ hr0 dX7_forget_16 hk0
  replace h := ifT h hc
  refine lv_aload_n F.1 F.2.1 dX7_forget_17 rfl (lv_at hl 0 rfl) ?_
  refine gf_X7_53 F G hS dX7_forget_18 ?_
  refine gf_X7_104 F G hS dX7_forget_21 ?_
  refine lv_istore_n (lv' := [(2, .int (σ 51 2)), (0, .ref (gA g 0)), (1, .int a1)]) F.1 F.2.1 dX7_forget_24 rfl hl (by decide) rfl (fun ls hl => ?_)
  refine lv_aload_n F.1 F.2.1 dX7_forget_25 rfl (lv_at hl 1 rfl) ?_
  refine gf_X7_53 F G hS dX7_forget_26 ?_
  refine lv_iload_n F.1 F.2.1 dX7_forget_29 rfl (lv_at hl 2 rfl) ?_
  refine pf_X7_104 F G hS dX7_forget_30 (fun H locs hS => ?_)
  obtain ⟨σ1, e_σ1, h⟩ := ltE h
  rw [← e_σ1] at hS
  clear e_σ1
  refine lv_iload_n F.1 F.2.1 dX7_forget_33 rfl (lv_at hl 0 rfl) ?_
  exact e_i F hS ⟨Option.some.inj h, rfl⟩ hr0 dX7_forget_34 hk0
def f_X0_weighAlike_58 (b1 : Nat) (k_16 : ZI → ZL → Int32 → Option (ZI × ZL)) (σ : ZI) (τ : ZL) (v2 : Int32) (s0 : Int64) (s1 : Int32) : Option (ZI × ZL) := if inB s1 11 = true then (lt_ (va_up τ 44 (vp_updL (τ 44) s1.toNatClampNeg s0)) (fun τ7 => if inB v2 11 = true then (lt_ (va_up τ7 45 (vp_updL (τ7 45) v2.toNatClampNeg (1 : Int64))) (fun τ8 => k_16 σ τ8 (v2 + (1 : Int32)))) else none)) else none
def f_X0_weighAlike_16 (b1 : Nat)  : Nat → ZI → ZL → Int32 → Option (ZI × ZL)
  | 0, _, _, _ => none
  | n + 1, σ, τ, v2 => if (σ 41 0) < v2 then ((f_X0_sumBehind σ τ).bind (fun q3 => some (σ, q3))) else (if inB v2 11 = true then (lt_ (va_up τ 42 (vp_updL (τ 42) v2.toNatClampNeg (1 : Int64))) (fun τ4 => if inB v2 11 = true then (lt_ (va_up τ4 43 (vp_updL (τ4 43) v2.toNatClampNeg (1 : Int64))) (fun τ5 => (f_X6_markAt σ b1 v2).bind (fun q6 => if q6 = (-4 : Int32) then (f_X0_weighAlike_58 b1 (fun σ τ v2 => f_X0_weighAlike_16 b1 n σ τ v2) σ τ5 v2 (0 : Int64) v2) else (f_X0_weighAlike_58 b1 (fun σ τ v2 => f_X0_weighAlike_16 b1 n σ τ v2) σ τ5 v2 (1 : Int64) v2)))) else none)) else none)
def f_X0_weighAlike (σ : ZI) (τ : ZL) (b1 : Nat) : Option (ZI × ZL) := if (ar b1).1 = 11 then ((f_X6_value σ b1 (0 : Int32)).bind (fun q1 => lt_ (va_up σ 41 (upd (σ 41) 0 (if (10 : Int32) < q1 then (10 : Int32) else q1))) (fun σ2 => f_X0_weighAlike_16 b1 3000 σ2 τ (1 : Int32)))) else none
abbrev rm_X0_weighAlike : Room := { frames := 3, cells := 0, slots := 0, locals := 64 }
set_option maxHeartbeats 4000000 in
set_option maxRecDepth 100000 in
theorem c_X0_weighAlike (l : Launch) (g : GG) (σ : ZI) (τ : ZL) (b1 : Nat) (res : ZI × ZL) (h : f_X0_weighAlike σ τ b1 = some res) : MV l yX0_weighAlike cX0_weighAlike 3 none rm_X0_weighAlike g [.ref (gA g 41), .ref (gA g b1)] σ τ (fun (u : ZI × ZL) => (u.1, u.2) = res) := by
  refine Met_in (by decide) (Nat.le_of_ble_eq_true rfl) ?_
  intro p e s m args below meth c F G hP hr0 hk0 ls hl
  have hS := WS.start hP
  have hl : lv_has ls 3 [(0, .ref (gA g 41)), (1, .ref (gA g b1))] := hl
  obtain ⟨H, hH⟩ : ∃ H, H = s.heap := ⟨_, rfl⟩
  rw [← hH] at hS ⊢
  clear hH hP
  rw [f_X0_weighAlike] at h
  obtain ⟨hg_b1, h⟩ := gd h
  have w_58 : ∀ (k_16 : ZI → ZL → Int32 → Option (ZI × ZL)) (hk_16 : ∀ (σ : ZI) (τ : ZL) (v2 : Int32), k_16 σ τ v2 = some res → ∀ (H : Heap) (locs : List Loc) (ls : Array Slot), WS g σ τ s H locs → lv_has ls 3 [(0, .ref (gA g 41)), (1, .ref (gA g b1)), (2, .int v2)] → W p l e rm_X0_weighAlike s m args below meth c H locs 0 0 (MQ below (va_Qv (fun (u : ZI × ZL) => (u.1, u.2) = res) (WQ g) (AA g)) args s 0 0 (AA g)) (F0 m 16 ls [])) (σ : ZI) (τ : ZL) (v2 : Int32) (s0 : Int64) (s1 : Int32), f_X0_weighAlike_58 b1 k_16 σ τ v2 s0 s1 = some res → ∀ (H : Heap) (locs : List Loc) (ls : Array Slot), WS g σ τ s H locs → lv_has ls 3 [(0, .ref (gA g 41)), (1, .ref (gA g b1)), (2, .int v2)] → W p l e rm_X0_weighAlike s m args below meth c H locs 0 0 (MQ below (va_Qv (fun (u : ZI × ZL) => (u.1, u.2) = res) (WQ g) (AA g)) args s 0 0 (AA g)) (F0 m 58 ls [.long s0, .int s1, .ref (gA g 44)]) := by
    intro k_16 hk_16 σ τ v2 s0 s1 h H locs ls hS hl
    rw [f_X0_weighAlike_58] at h
    obtain ⟨hin, h⟩ := gd h
    refine x_last F G hS 44 rfl hin dX0_weighAlike_58 (fun H locs hS => ?_)
    obtain ⟨τ7, e_τ7, h⟩ := ltE h
    rw [← e_τ7] at hS
    clear e_τ7
    refine lv_aload_n F.1 F.2.1 dX0_weighAlike_59 rfl (lv_at hl 0 rfl) ?_
    refine gf_X0_21 F G hS dX0_weighAlike_60 ?_
    refine lv_iload_n F.1 F.2.1 dX0_weighAlike_63 rfl (lv_at hl 2 rfl) ?_
    refine lv_lconst (v := (1 : Int64)) F.1 F.2.1 dX0_weighAlike_64 (by decide) ?_
    obtain ⟨hin, h⟩ := gd h
    refine x_last F G hS 45 rfl hin dX0_weighAlike_65 (fun H locs hS => ?_)
    obtain ⟨τ8, e_τ8, h⟩ := ltE h
    rw [← e_τ8] at hS
    clear e_τ8
    refine lv_iinc (v := (v2 + (1 : Int32))) (lv' := [(2, .int (v2 + (1 : Int32))), (0, .ref (gA g 41)), (1, .ref (gA g b1))]) F.1 F.2.1 dX0_weighAlike_66 hl (k := 2) rfl rfl (by decide) rfl (fun ls hl => ?_)
    refine lv_goto (tgt := 16) F.1 F.2.1 dX0_weighAlike_69 (by decide) ?_
    exact hk_16 σ τ8 (v2 + (1 : Int32)) h H locs _ hS (lv_sub hl [1, 2, 0] rfl)
  have w_16 : ∀ (n : Nat) (σ : ZI) (τ : ZL) (v2 : Int32), f_X0_weighAlike_16 b1 n σ τ v2 = some res → ∀ (H : Heap) (locs : List Loc) (ls : Array Slot), WS g σ τ s H locs → lv_has ls 3 [(0, .ref (gA g 41)), (1, .ref (gA g b1)), (2, .int v2)] → W p l e rm_X0_weighAlike s m args below meth c H locs 0 0 (MQ below (va_Qv (fun (u : ZI × ZL) => (u.1, u.2) = res) (WQ g) (AA g)) args s 0 0 (AA g)) (F0 m 16 ls []) := by
    intro n
    induction n with
    | zero => intro σ τ v2 h; rw [f_X0_weighAlike_16] at h; cases h
    | succ n ih =>
      intro σ τ v2 h H locs ls hS hl
      rw [f_X0_weighAlike_16] at h
      refine lv_iload_n F.1 F.2.1 dX0_weighAlike_16 rfl (lv_at hl 2 rfl) ?_
      refine lv_aload_n F.1 F.2.1 dX0_weighAlike_17 rfl (lv_at hl 0 rfl) ?_
      refine gf_X0_51 F G hS dX0_weighAlike_18 ?_
      refine lv_icmp_gt (tgt := 72) F.1 F.2.1 dX0_weighAlike_21 (by decide) (fun hc => ?_) (fun hc => ?_)
      · replace h := ifT h hc
        refine lv_aload_n F.1 F.2.1 dX0_weighAlike_72 rfl (lv_at hl 0 rfl) ?_
        obtain ⟨q3, h_q3, h⟩ := bd h
        refine rVv F G hS hl.1 (c_X0_sumBehind l g σ τ q3 h_q3) lk_X0_66 ⟨rfl, rfl, Nat.le_of_ble_eq_true rfl, Nat.le_of_ble_eq_true rfl⟩ (rc_X0 G hS) rfl rfl (Nat.le_of_ble_eq_true rfl) dX0_weighAlike_73 (kJv (fun H locs hS => ?_))
        exact e_v F hS (Option.some.inj h) hr0 dX0_weighAlike_76 hk0
      replace h := ifF h hc
      refine lv_aload_n F.1 F.2.1 dX0_weighAlike_24 rfl (lv_at hl 0 rfl) ?_
      refine gf_X0_11 F G hS dX0_weighAlike_25 ?_
      refine lv_iload_n F.1 F.2.1 dX0_weighAlike_28 rfl (lv_at hl 2 rfl) ?_
      refine lv_lconst (v := (1 : Int64)) F.1 F.2.1 dX0_weighAlike_29 (by decide) ?_
      obtain ⟨hin, h⟩ := gd h
      refine x_last F G hS 42 rfl hin dX0_weighAlike_30 (fun H locs hS => ?_)
      obtain ⟨τ4, e_τ4, h⟩ := ltE h
      rw [← e_τ4] at hS
      clear e_τ4
      refine lv_aload_n F.1 F.2.1 dX0_weighAlike_31 rfl (lv_at hl 0 rfl) ?_
      refine gf_X0_15 F G hS dX0_weighAlike_32 ?_
      refine lv_iload_n F.1 F.2.1 dX0_weighAlike_35 rfl (lv_at hl 2 rfl) ?_
      refine lv_lconst (v := (1 : Int64)) F.1 F.2.1 dX0_weighAlike_36 (by decide) ?_
      obtain ⟨hin, h⟩ := gd h
      refine x_last F G hS 43 rfl hin dX0_weighAlike_37 (fun H locs hS => ?_)
      obtain ⟨τ5, e_τ5, h⟩ := ltE h
      rw [← e_τ5] at hS
      clear e_τ5
      refine lv_aload_n F.1 F.2.1 dX0_weighAlike_38 rfl (lv_at hl 0 rfl) ?_
      refine gf_X0_18 F G hS dX0_weighAlike_39 ?_
      refine lv_iload_n F.1 F.2.1 dX0_weighAlike_42 rfl (lv_at hl 2 rfl) ?_
      refine lv_aload_n F.1 F.2.1 dX0_weighAlike_43 rfl (lv_at hl 1 rfl) ?_
      refine lv_iload_n F.1 F.2.1 dX0_weighAlike_44 rfl (lv_at hl 2 rfl) ?_
      obtain ⟨q6, h_q6, h⟩ := bd h
      refine rNi F G hS hl.1 (c_X6_markAt l g σ τ5 b1 v2 q6 h_q6) lk_X0_55 ⟨rfl, rfl, Nat.le_of_ble_eq_true rfl, Nat.le_of_ble_eq_true rfl⟩ (rc_X6 G hS hg_b1) rfl rfl (Nat.le_of_ble_eq_true rfl) dX0_weighAlike_45 (kRi (fun H locs hS => ?_))
      refine lv_bipush (v := (-4 : Int32)) F.1 F.2.1 dX0_weighAlike_48 (by decide) ?_
      refine lv_icmp_ne (tgt := 57) F.1 F.2.1 dX0_weighAlike_50 (by decide) (fun hc => ?_) (fun hc => ?_)
      · replace h := ifF h hc
        refine lv_lconst (v := (1 : Int64)) F.1 F.2.1 dX0_weighAlike_57 (by decide) ?_
        exact w_58 _ (fun σ τ v2 => ih σ τ v2) σ τ5 v2 (1 : Int64) v2 h H locs _ hS (lv_sub hl [0, 1, 2] rfl)
      replace h := ifT h hc
      refine lv_lconst (v := (0 : Int64)) F.1 F.2.1 dX0_weighAlike_53 (by decide) ?_
      refine lv_goto (tgt := 58) F.1 F.2.1 dX0_weighAlike_54 (by decide) ?_
      exact w_58 _ (fun σ τ v2 => ih σ τ v2) σ τ5 v2 (0 : Int64) v2 h H locs _ hS (lv_sub hl [0, 1, 2] rfl)
  obtain ⟨locs, hlo⟩ : ∃ z : List Loc, z = [] := ⟨_, rfl⟩
  rw [← hlo] at hS ⊢
  clear hlo
  refine lv_aload_n F.1 F.2.1 dX0_weighAlike_0 rfl (lv_at hl 0 rfl) ?_
  refine lv_aload_n F.1 F.2.1 dX0_weighAlike_1 rfl (lv_at hl 1 rfl) ?_
  refine lv_iconst (v := (0 : Int32)) F.1 F.2.1 dX0_weighAlike_2 (by decide) ?_
  obtain ⟨q1, h_q1, h⟩ := bd h
  refine rNi F G hS hl.1 (c_X6_value l g σ τ b1 (0 : Int32) q1 h_q1) lk_X0_39 ⟨rfl, rfl, Nat.le_of_ble_eq_true rfl, Nat.le_of_ble_eq_true rfl⟩ (rc_X6 G hS hg_b1) rfl rfl (Nat.le_of_ble_eq_true rfl) dX0_weighAlike_3 (kRi (fun H locs hS => ?_))
  refine lv_bipush (v := (10 : Int32)) F.1 F.2.1 dX0_weighAlike_6 (by decide) ?_
  refine va_mmin F.1 F.2.1 (F.2.2.1.trans hl.1.symm) F.2.2.2.1 (F.2.2.2.2 _ tb_724) (F.2.2.2.2 _ tb_725) (F.2.2.2.2 _ tb_123) (F.2.2.2.2 _ tb_726) (Nat.le_of_ble_eq_true rfl) (Nat.le_of_ble_eq_true rfl) (Nat.zero_le _) (Nat.zero_le _) dX0_weighAlike_8 ?_
  refine pf_X0_51 F G hS dX0_weighAlike_11 (fun H locs hS => ?_)
  obtain ⟨σ2, e_σ2, h⟩ := ltE h
  rw [← e_σ2] at hS
  clear e_σ2
  refine lv_iconst (v := (1 : Int32)) F.1 F.2.1 dX0_weighAlike_14 (by decide) ?_
  refine lv_istore_n (lv' := [(2, .int (1 : Int32)), (0, .ref (gA g 41)), (1, .ref (gA g b1))]) F.1 F.2.1 dX0_weighAlike_15 rfl hl (by decide) rfl (fun ls hl => ?_)
  exact w_16 3000 σ2 τ (1 : Int32) h H locs _ hS (lv_sub hl [1, 2, 0] rfl)
def f_X3_leaveOnly_17 (r1 : Nat) (a2 : Int32) (k_2 : ZL → Int32 → Option (ZL)) (τ : ZL) (v2 : Int32) : Option (ZL) := k_2 τ (v2 + (1 : Int32))
def f_X3_leaveOnly_2 (r1 : Nat) (a2 : Int32)  : Nat → ZL → Int32 → Option (ZL)
  | 0, _, _ => none
  | n + 1, τ, v2 => if (nI (ar r1).2) ≤ v2 then (some τ) else (if v2 = a2 then (f_X3_leaveOnly_17 r1 a2 (fun τ v2 => f_X3_leaveOnly_2 r1 a2 n τ v2) τ v2) else (if inB v2 (ar r1).2 = true then (lt_ (va_up τ r1 (vp_updL (τ r1) v2.toNatClampNeg (0 : Int64))) (fun τ1 => f_X3_leaveOnly_17 r1 a2 (fun τ v2 => f_X3_leaveOnly_2 r1 a2 n τ v2) τ1 v2)) else none))
def f_X3_leaveOnly (τ : ZL) (r1 : Nat) (a2 : Int32) : Option (ZL) := if (ar r1).1 = 2 then (f_X3_leaveOnly_2 r1 a2 3000 τ (0 : Int32)) else none
abbrev rm_X3_leaveOnly : Room := { frames := 0, cells := 0, slots := 0, locals := 0 }
set_option maxHeartbeats 4000000 in
set_option maxRecDepth 100000 in
theorem c_X3_leaveOnly (l : Launch) (g : GG) (σ : ZI) (τ : ZL) (r1 : Nat) (a2 : Int32) (res : ZL) (h : f_X3_leaveOnly τ r1 a2 = some res) : MV l yX3_leaveOnly cX3_leaveOnly 3 none rm_X3_leaveOnly g [.ref (gA g r1), .int a2] σ τ (fun (u : ZI × ZL) => u.2 = res ∧ u.1 = σ) := by
  refine Met_in (by decide) (Nat.le_of_ble_eq_true rfl) ?_
  intro p e s m args below meth c F G hP hr0 hk0 ls hl
  have hS := WS.start hP
  have hl : lv_has ls 3 [(0, .ref (gA g r1)), (1, .int a2)] := hl
  obtain ⟨H, hH⟩ : ∃ H, H = s.heap := ⟨_, rfl⟩
  rw [← hH] at hS ⊢
  clear hH hP
  rw [f_X3_leaveOnly] at h
  obtain ⟨hg_r1, h⟩ := gd h
  have w_17 : ∀ (k_2 : ZL → Int32 → Option (ZL)) (hk_2 : ∀ (τ : ZL) (v2 : Int32), k_2 τ v2 = some res → ∀ (H : Heap) (locs : List Loc) (ls : Array Slot), WS g σ τ s H locs → lv_has ls 3 [(0, .ref (gA g r1)), (1, .int a2), (2, .int v2)] → W p l e rm_X3_leaveOnly s m args below meth c H locs 0 0 (MQ below (va_Qv (fun (u : ZI × ZL) => u.2 = res ∧ u.1 = σ) (WQ g) (AA g)) args s 0 0 (AA g)) (F0 m 2 ls [])) (τ : ZL) (v2 : Int32), f_X3_leaveOnly_17 r1 a2 k_2 τ v2 = some res → ∀ (H : Heap) (locs : List Loc) (ls : Array Slot), WS g σ τ s H locs → lv_has ls 3 [(0, .ref (gA g r1)), (1, .int a2), (2, .int v2)] → W p l e rm_X3_leaveOnly s m args below meth c H locs 0 0 (MQ below (va_Qv (fun (u : ZI × ZL) => u.2 = res ∧ u.1 = σ) (WQ g) (AA g)) args s 0 0 (AA g)) (F0 m 17 ls []) := by
    intro k_2 hk_2 τ v2 h H locs ls hS hl
    rw [f_X3_leaveOnly_17] at h
    refine lv_iinc (v := (v2 + (1 : Int32))) (lv' := [(2, .int (v2 + (1 : Int32))), (0, .ref (gA g r1)), (1, .int a2)]) F.1 F.2.1 dX3_leaveOnly_17 hl (k := 2) rfl rfl (by decide) rfl (fun ls hl => ?_)
    refine lv_goto (tgt := 2) F.1 F.2.1 dX3_leaveOnly_20 (by decide) ?_
    exact hk_2 τ (v2 + (1 : Int32)) h H locs _ hS (lv_sub hl [1, 2, 0] rfl)
  have w_2 : ∀ (n : Nat) (τ : ZL) (v2 : Int32), f_X3_leaveOnly_2 r1 a2 n τ v2 = some res → ∀ (H : Heap) (locs : List Loc) (ls : Array Slot), WS g σ τ s H locs → lv_has ls 3 [(0, .ref (gA g r1)), (1, .int a2), (2, .int v2)] → W p l e rm_X3_leaveOnly s m args below meth c H locs 0 0 (MQ below (va_Qv (fun (u : ZI × ZL) => u.2 = res ∧ u.1 = σ) (WQ g) (AA g)) args s 0 0 (AA g)) (F0 m 2 ls []) := by
    intro n
    induction n with
    | zero => intro τ v2 h; rw [f_X3_leaveOnly_2] at h; cases h
    | succ n ih =>
      intro τ v2 h H locs ls hS hl
      rw [f_X3_leaveOnly_2] at h
      refine lv_iload_n F.1 F.2.1 dX3_leaveOnly_2 rfl (lv_at hl 2 rfl) ?_
      refine lv_aload_n F.1 F.2.1 dX3_leaveOnly_3 rfl (lv_at hl 0 rfl) ?_
      refine x_alenJ F G hS r1 hg_r1 dX3_leaveOnly_4 ?_
      refine lv_icmp_ge (tgt := 23) F.1 F.2.1 dX3_leaveOnly_5 (by decide) (fun hc => ?_) (fun hc => ?_)
      · replace h := ifT h hc
        exact e_v F hS ⟨Option.some.inj h, rfl⟩ hr0 dX3_leaveOnly_23 hk0
      replace h := ifF h hc
      refine lv_iload_n F.1 F.2.1 dX3_leaveOnly_8 rfl (lv_at hl 2 rfl) ?_
      refine lv_iload_n F.1 F.2.1 dX3_leaveOnly_9 rfl (lv_at hl 1 rfl) ?_
      refine lv_icmp_eq (tgt := 17) F.1 F.2.1 dX3_leaveOnly_10 (by decide) (fun hc => ?_) (fun hc => ?_)
      · replace h := ifT h hc
        exact w_17 _ (fun τ v2 => ih τ v2) τ v2 h H locs _ hS (lv_sub hl [0, 1, 2] rfl)
      replace h := ifF h hc
      refine lv_aload_n F.1 F.2.1 dX3_leaveOnly_13 rfl (lv_at hl 0 rfl) ?_
      refine lv_iload_n F.1 F.2.1 dX3_leaveOnly_14 rfl (lv_at hl 2 rfl) ?_
      refine lv_lconst (v := (0 : Int64)) F.1 F.2.1 dX3_leaveOnly_15 (by decide) ?_
      obtain ⟨hin, h⟩ := gd h
      refine x_last F G hS r1 hg_r1 hin dX3_leaveOnly_16 (fun H locs hS => ?_)
      obtain ⟨τ1, e_τ1, h⟩ := ltE h
      rw [← e_τ1] at hS
      clear e_τ1
      exact w_17 _ (fun τ v2 => ih τ v2) τ1 v2 h H locs _ hS (lv_sub hl [0, 1, 2] rfl)
  obtain ⟨locs, hlo⟩ : ∃ z : List Loc, z = [] := ⟨_, rfl⟩
  rw [← hlo] at hS ⊢
  clear hlo
  refine lv_iconst (v := (0 : Int32)) F.1 F.2.1 dX3_leaveOnly_0 (by decide) ?_
  refine lv_istore_n (lv' := [(2, .int (0 : Int32)), (0, .ref (gA g r1)), (1, .int a2)]) F.1 F.2.1 dX3_leaveOnly_1 rfl hl (by decide) rfl (fun ls hl => ?_)
  exact w_2 3000 τ (0 : Int32) h H locs _ hS (lv_sub hl [1, 2, 0] rfl)
def f_X3_leaveIn_34 (σ : ZI) (r1 : Nat) (a2 : Int32) (k_2 : ZL → Int32 → Option (ZL)) (τ : ZL) (v3 : Int32) : Option (ZL) := k_2 τ (v3 + (1 : Int32))
def f_X3_leaveIn_2 (σ : ZI) (r1 : Nat) (a2 : Int32)  : Nat → ZL → Int32 → Option (ZL)
  | 0, _, _ => none
  | n + 1, τ, v3 => if (σ 51 2) ≤ v3 then (some τ) else ((f_X7_at σ 52 v3).bind (fun q1 => if q1 = a2 then ((f_X7_at σ 53 v3).bind (fun q2 => (f_X3_leaveOnly τ r1 q2).bind (fun q3 => f_X3_leaveIn_34 σ r1 a2 (fun τ v3 => f_X3_leaveIn_2 σ r1 a2 n τ v3) q3 v3))) else (f_X3_leaveIn_34 σ r1 a2 (fun τ v3 => f_X3_leaveIn_2 σ r1 a2 n τ v3) τ v3)))
def f_X3_leaveIn (σ : ZI) (τ : ZL) (r1 : Nat) (a2 : Int32) : Option (ZL) := if (ar r1).1 = 2 then (f_X3_leaveIn_2 σ r1 a2 3000 τ (0 : Int32)) else none
abbrev rm_X3_leaveIn : Room := { frames := 1, cells := 0, slots := 0, locals := 22 }
set_option maxHeartbeats 4000000 in
set_option maxRecDepth 100000 in
theorem c_X3_leaveIn (l : Launch) (g : GG) (σ : ZI) (τ : ZL) (r1 : Nat) (a2 : Int32) (res : ZL) (h : f_X3_leaveIn σ τ r1 a2 = some res) : MV l yX3_leaveIn cX3_leaveIn 4 none rm_X3_leaveIn g [.ref (gA g 51), .ref (gA g r1), .int a2] σ τ (fun (u : ZI × ZL) => u.2 = res ∧ u.1 = σ) := by
  refine Met_in (by decide) (Nat.le_of_ble_eq_true rfl) ?_
  intro p e s m args below meth c F G hP hr0 hk0 ls hl
  have hS := WS.start hP
  have hl : lv_has ls 4 [(0, .ref (gA g 51)), (1, .ref (gA g r1)), (2, .int a2)] := hl
  obtain ⟨H, hH⟩ : ∃ H, H = s.heap := ⟨_, rfl⟩
  rw [← hH] at hS ⊢
  clear hH hP
  rw [f_X3_leaveIn] at h
  obtain ⟨hg_r1, h⟩ := gd h
  have w_34 : ∀ (k_2 : ZL → Int32 → Option (ZL)) (hk_2 : ∀ (τ : ZL) (v3 : Int32), k_2 τ v3 = some res → ∀ (H : Heap) (locs : List Loc) (ls : Array Slot), WS g σ τ s H locs → lv_has ls 4 [(0, .ref (gA g 51)), (1, .ref (gA g r1)), (2, .int a2), (3, .int v3)] → W p l e rm_X3_leaveIn s m args below meth c H locs 0 0 (MQ below (va_Qv (fun (u : ZI × ZL) => u.2 = res ∧ u.1 = σ) (WQ g) (AA g)) args s 0 0 (AA g)) (F0 m 2 ls [])) (τ : ZL) (v3 : Int32), f_X3_leaveIn_34 σ r1 a2 k_2 τ v3 = some res → ∀ (H : Heap) (locs : List Loc) (ls : Array Slot), WS g σ τ s H locs → lv_has ls 4 [(0, .ref (gA g 51)), (1, .ref (gA g r1)), (2, .int a2), (3, .int v3)] → W p l e rm_X3_leaveIn s m args below meth c H locs 0 0 (MQ below (va_Qv (fun (u : ZI × ZL) => u.2 = res ∧ u.1 = σ) (WQ g) (AA g)) args s 0 0 (AA g)) (F0 m 34 ls []) := by
    intro k_2 hk_2 τ v3 h H locs ls hS hl
    rw [f_X3_leaveIn_34] at h
    refine lv_iinc (v := (v3 + (1 : Int32))) (lv' := [(3, .int (v3 + (1 : Int32))), (0, .ref (gA g 51)), (1, .ref (gA g r1)), (2, .int a2)]) F.1 F.2.1 dX3_leaveIn_34 hl (k := 3) rfl rfl (by decide) rfl (fun ls hl => ?_)
    refine lv_goto (tgt := 2) F.1 F.2.1 dX3_leaveIn_37 (by decide) ?_
    exact hk_2 τ (v3 + (1 : Int32)) h H locs _ hS (lv_sub hl [1, 2, 3, 0] rfl)
  have w_2 : ∀ (n : Nat) (τ : ZL) (v3 : Int32), f_X3_leaveIn_2 σ r1 a2 n τ v3 = some res → ∀ (H : Heap) (locs : List Loc) (ls : Array Slot), WS g σ τ s H locs → lv_has ls 4 [(0, .ref (gA g 51)), (1, .ref (gA g r1)), (2, .int a2), (3, .int v3)] → W p l e rm_X3_leaveIn s m args below meth c H locs 0 0 (MQ below (va_Qv (fun (u : ZI × ZL) => u.2 = res ∧ u.1 = σ) (WQ g) (AA g)) args s 0 0 (AA g)) (F0 m 2 ls []) := by
    intro n
    induction n with
    | zero => intro τ v3 h; rw [f_X3_leaveIn_2] at h; cases h
    | succ n ih =>
      intro τ v3 h H locs ls hS hl
      rw [f_X3_leaveIn_2] at h
      refine lv_iload_n F.1 F.2.1 dX3_leaveIn_2 rfl (lv_at hl 3 rfl) ?_
      refine lv_aload_n F.1 F.2.1 dX3_leaveIn_3 rfl (lv_at hl 0 rfl) ?_
      refine gf_X3_18 F G hS dX3_leaveIn_4 ?_
      refine lv_icmp_ge (tgt := 40) F.1 F.2.1 dX3_leaveIn_7 (by decide) (fun hc => ?_) (fun hc => ?_)
      · replace h := ifT h hc
        exact e_v F hS ⟨Option.some.inj h, rfl⟩ hr0 dX3_leaveIn_40 hk0
      replace h := ifF h hc
      refine lv_aload_n F.1 F.2.1 dX3_leaveIn_10 rfl (lv_at hl 0 rfl) ?_
      refine gf_X3_9 F G hS dX3_leaveIn_11 ?_
      refine lv_iload_n F.1 F.2.1 dX3_leaveIn_14 rfl (lv_at hl 3 rfl) ?_
      obtain ⟨q1, h_q1, h⟩ := bd h
      refine rTi F G hS hl.1 (c_X7_at l g σ τ 52 v3 q1 h_q1) lk_X3_26 ⟨rfl, rfl, Nat.le_of_ble_eq_true rfl, Nat.le_of_ble_eq_true rfl⟩  rfl rfl (Nat.le_of_ble_eq_true rfl) dX3_leaveIn_15 (kRi (fun H locs hS => ?_))
      refine lv_iload_n F.1 F.2.1 dX3_leaveIn_18 rfl (lv_at hl 2 rfl) ?_
      refine lv_icmp_ne (tgt := 34) F.1 F.2.1 dX3_leaveIn_19 (by decide) (fun hc => ?_) (fun hc => ?_)
      · replace h := ifF h hc
        exact w_34 _ (fun τ v3 => ih τ v3) τ v3 h H locs _ hS (lv_sub hl [0, 1, 2, 3] rfl)
      replace h := ifT h hc
      refine lv_aload_n F.1 F.2.1 dX3_leaveIn_22 rfl (lv_at hl 1 rfl) ?_
      refine lv_aload_n F.1 F.2.1 dX3_leaveIn_23 rfl (lv_at hl 0 rfl) ?_
      refine gf_X3_15 F G hS dX3_leaveIn_24 ?_
      refine lv_iload_n F.1 F.2.1 dX3_leaveIn_27 rfl (lv_at hl 3 rfl) ?_
      obtain ⟨q2, h_q2, h⟩ := bd h
      refine rTi F G hS hl.1 (c_X7_at l g σ τ 53 v3 q2 h_q2) lk_X3_26 ⟨rfl, rfl, Nat.le_of_ble_eq_true rfl, Nat.le_of_ble_eq_true rfl⟩  rfl rfl (Nat.le_of_ble_eq_true rfl) dX3_leaveIn_28 (kRi (fun H locs hS => ?_))
      obtain ⟨q3, h_q3, h⟩ := bd h
      refine rSv F G hS hl.1 (c_X3_leaveOnly l g σ τ r1 q2 q3 h_q3) lk_X3_30 ⟨rfl, rfl, Nat.le_of_ble_eq_true rfl, Nat.le_of_ble_eq_true rfl⟩  rfl rfl (Nat.le_of_ble_eq_true rfl) dX3_leaveIn_31 (kJv (fun H locs hS => ?_))
      exact w_34 _ (fun τ v3 => ih τ v3) q3 v3 h H locs _ hS (lv_sub hl [0, 1, 2, 3] rfl)
  obtain ⟨locs, hlo⟩ : ∃ z : List Loc, z = [] := ⟨_, rfl⟩
  rw [← hlo] at hS ⊢
  clear hlo
  refine lv_iconst (v := (0 : Int32)) F.1 F.2.1 dX3_leaveIn_0 (by decide) ?_
  refine lv_istore_n (lv' := [(3, .int (0 : Int32)), (0, .ref (gA g 51)), (1, .ref (gA g r1)), (2, .int a2)]) F.1 F.2.1 dX3_leaveIn_1 rfl hl (by decide) rfl (fun ls hl => ?_)
  exact w_2 3000 τ (0 : Int32) h H locs _ hS (lv_sub hl [1, 2, 3, 0] rfl)
def f_X0_passAsSeen_6 (σ : ZI)  : Nat → ZL → Int32 → Option (Int64 × ZL)
  | 0, _, _ => none
  | n + 1, τ, v2 => if (σ 41 0) < v2 then ((f_X0_sumOf τ 47).bind (fun q2 => some (q2, τ))) else ((f_X0_passJoint τ 47 v2).bind (fun q3 => (f_X3_leaveIn σ q3 47 v2).bind (fun q4 => f_X0_passAsSeen_6 σ n q4 (v2 + (1 : Int32)))))
def f_X0_passAsSeen (σ : ZI) (τ : ZL) : Option (Int64 × ZL) := (f_X0_start τ).bind (fun q1 => f_X0_passAsSeen_6 σ 3000 q1 (1 : Int32))
abbrev rm_X0_passAsSeen : Room := { frames := 2, cells := 0, slots := 0, locals := 45 }
set_option maxHeartbeats 4000000 in
set_option maxRecDepth 100000 in
theorem c_X0_passAsSeen (l : Launch) (g : GG) (σ : ZI) (τ : ZL)  (res : Int64 × ZL) (h : f_X0_passAsSeen σ τ = some res) : ML l yX0_passAsSeen cX0_passAsSeen 3 (some .long) rm_X0_passAsSeen g [.ref (gA g 41), .ref (gA g 51)] σ τ (fun (r : Int64) (u : ZI × ZL) => (r, u.2) = res ∧ u.1 = σ) := by
  refine Met_in (by decide) (Nat.le_of_ble_eq_true rfl) ?_
  intro p e s m args below meth c F G hP hr0 hk0 ls hl
  have hS := WS.start hP
  have hl : lv_has ls 3 [(0, .ref (gA g 41)), (1, .ref (gA g 51))] := hl
  obtain ⟨H, hH⟩ : ∃ H, H = s.heap := ⟨_, rfl⟩
  rw [← hH] at hS ⊢
  clear hH hP
  rw [f_X0_passAsSeen] at h
  have w_6 : ∀ (n : Nat) (τ : ZL) (v2 : Int32), f_X0_passAsSeen_6 σ n τ v2 = some res → ∀ (H : Heap) (locs : List Loc) (ls : Array Slot), WS g σ τ s H locs → lv_has ls 3 [(0, .ref (gA g 41)), (1, .ref (gA g 51)), (2, .int v2)] → W p l e rm_X0_passAsSeen s m args below meth c H locs 0 0 (MQ below (va_Ql (fun (r : Int64) (u : ZI × ZL) => (r, u.2) = res ∧ u.1 = σ) (WQ g) (AA g)) args s 0 0 (AA g)) (F0 m 6 ls []) := by
    intro n
    induction n with
    | zero => intro τ v2 h; rw [f_X0_passAsSeen_6] at h; cases h
    | succ n ih =>
      intro τ v2 h H locs ls hS hl
      rw [f_X0_passAsSeen_6] at h
      refine lv_iload_n F.1 F.2.1 dX0_passAsSeen_6 rfl (lv_at hl 2 rfl) ?_
      refine lv_aload_n F.1 F.2.1 dX0_passAsSeen_7 rfl (lv_at hl 0 rfl) ?_
      refine gf_X0_51 F G hS dX0_passAsSeen_8 ?_
      refine lv_icmp_gt (tgt := 38) F.1 F.2.1 dX0_passAsSeen_11 (by decide) (fun hc => ?_) (fun hc => ?_)
      · replace h := ifT h hc
        refine lv_aload_n F.1 F.2.1 dX0_passAsSeen_38 rfl (lv_at hl 0 rfl) ?_
        refine gf_X0_27 F G hS dX0_passAsSeen_39 ?_
        obtain ⟨q2, h_q2, h⟩ := bd h
        refine rSl F G hS hl.1 (c_X0_sumOf l g σ τ 47 q2 h_q2) lk_X0_94 ⟨rfl, rfl, Nat.le_of_ble_eq_true rfl, Nat.le_of_ble_eq_true rfl⟩  rfl rfl (Nat.le_of_ble_eq_true rfl) dX0_passAsSeen_42 (kRl (fun H locs hS => ?_))
        exact e_l F hS ⟨Option.some.inj h, rfl⟩ hr0 dX0_passAsSeen_45 hk0
      replace h := ifF h hc
      refine lv_aload_n F.1 F.2.1 dX0_passAsSeen_14 rfl (lv_at hl 0 rfl) ?_
      refine lv_aload_n F.1 F.2.1 dX0_passAsSeen_15 rfl (lv_at hl 0 rfl) ?_
      refine gf_X0_27 F G hS dX0_passAsSeen_16 ?_
      refine lv_iload_n F.1 F.2.1 dX0_passAsSeen_19 rfl (lv_at hl 2 rfl) ?_
      obtain ⟨q3, h_q3, h⟩ := bd h
      refine rVv F G hS hl.1 (c_X0_passJoint l g σ τ 47 v2 q3 h_q3) lk_X0_82 ⟨rfl, rfl, Nat.le_of_ble_eq_true rfl, Nat.le_of_ble_eq_true rfl⟩ (rc_X0 G hS) rfl rfl (Nat.le_of_ble_eq_true rfl) dX0_passAsSeen_20 (kJv (fun H locs hS => ?_))
      refine lv_aload_n F.1 F.2.1 dX0_passAsSeen_23 rfl (lv_at hl 1 rfl) ?_
      refine lv_aload_n F.1 F.2.1 dX0_passAsSeen_24 rfl (lv_at hl 0 rfl) ?_
      refine gf_X0_27 F G hS dX0_passAsSeen_25 ?_
      refine lv_iload_n F.1 F.2.1 dX0_passAsSeen_28 rfl (lv_at hl 2 rfl) ?_
      obtain ⟨q4, h_q4, h⟩ := bd h
      refine rNv F G hS hl.1 (c_X3_leaveIn l g σ q3 47 v2 q4 h_q4) lk_X0_89 ⟨rfl, rfl, Nat.le_of_ble_eq_true rfl, Nat.le_of_ble_eq_true rfl⟩ (rc_X3 G hS) rfl rfl (Nat.le_of_ble_eq_true rfl) dX0_passAsSeen_29 (kJv (fun H locs hS => ?_))
      refine lv_iinc (v := (v2 + (1 : Int32))) (lv' := [(2, .int (v2 + (1 : Int32))), (0, .ref (gA g 41)), (1, .ref (gA g 51))]) F.1 F.2.1 dX0_passAsSeen_32 hl (k := 2) rfl rfl (by decide) rfl (fun ls hl => ?_)
      refine lv_goto (tgt := 6) F.1 F.2.1 dX0_passAsSeen_35 (by decide) ?_
      exact ih q4 (v2 + (1 : Int32)) h H locs _ hS (lv_sub hl [1, 2, 0] rfl)
  obtain ⟨locs, hlo⟩ : ∃ z : List Loc, z = [] := ⟨_, rfl⟩
  rw [← hlo] at hS ⊢
  clear hlo
  refine lv_aload_n F.1 F.2.1 dX0_passAsSeen_0 rfl (lv_at hl 0 rfl) ?_
  obtain ⟨q1, h_q1, h⟩ := bd h
  refine rVv F G hS hl.1 (c_X0_start l g σ τ q1 h_q1) lk_X0_79 ⟨rfl, rfl, Nat.le_of_ble_eq_true rfl, Nat.le_of_ble_eq_true rfl⟩ (rc_X0 G hS) rfl rfl (Nat.le_of_ble_eq_true rfl) dX0_passAsSeen_1 (kJv (fun H locs hS => ?_))
  refine lv_iconst (v := (1 : Int32)) F.1 F.2.1 dX0_passAsSeen_4 (by decide) ?_
  refine lv_istore_n (lv' := [(2, .int (1 : Int32)), (0, .ref (gA g 41)), (1, .ref (gA g 51))]) F.1 F.2.1 dX0_passAsSeen_5 rfl hl (by decide) rfl (fun ls hl => ?_)
  exact w_6 3000 q1 (1 : Int32) h H locs _ hS (lv_sub hl [1, 2, 0] rfl)
def f_X0_forceMiss_31 (a1 : Int32) (a2 : Int32)  (τ : ZL) (s0 : Int64) (s1 : Int32) : Option (ZL) := (f_X7_put_ τ 43 s1 s0).bind (fun q2 => some q2)
def f_X0_forceMiss_14 (a1 : Int32) (a2 : Int32)  (τ : ZL) (s0 : Int64) (s1 : Int32) : Option (ZL) := (f_X7_put_ τ 42 s1 s0).bind (fun q1 => if a2 = 0 then (f_X0_forceMiss_31 a1 a2 q1 (1 : Int64) a1) else (f_X0_forceMiss_31 a1 a2 q1 (0 : Int64) a1))
def f_X0_forceMiss (τ : ZL) (a1 : Int32) (a2 : Int32) : Option (ZL) := if a2 = 0 then (f_X0_forceMiss_14 a1 a2 τ (0 : Int64) a1) else (f_X0_forceMiss_14 a1 a2 τ (1 : Int64) a1)
abbrev rm_X0_forceMiss : Room := { frames := 1, cells := 0, slots := 0, locals := 23 }
set_option maxHeartbeats 4000000 in
set_option maxRecDepth 100000 in
theorem c_X0_forceMiss (l : Launch) (g : GG) (σ : ZI) (τ : ZL) (a1 : Int32) (a2 : Int32) (res : ZL) (h : f_X0_forceMiss τ a1 a2 = some res) : MV l yX0_forceMiss cX0_forceMiss 3 none rm_X0_forceMiss g [.ref (gA g 41), .int a1, .int a2] σ τ (fun (u : ZI × ZL) => u.2 = res ∧ u.1 = σ) := by
  refine Met_in (by decide) (Nat.le_of_ble_eq_true rfl) ?_
  intro p e s m args below meth c F G hP hr0 hk0 ls hl
  have hS := WS.start hP
  have hl : lv_has ls 3 [(0, .ref (gA g 41)), (1, .int a1), (2, .int a2)] := hl
  obtain ⟨H, hH⟩ : ∃ H, H = s.heap := ⟨_, rfl⟩
  rw [← hH] at hS ⊢
  clear hH hP
  rw [f_X0_forceMiss] at h
  have w_31 : ∀ (τ : ZL) (s0 : Int64) (s1 : Int32), f_X0_forceMiss_31 a1 a2 τ s0 s1 = some res → ∀ (H : Heap) (locs : List Loc) (ls : Array Slot), WS g σ τ s H locs → lv_has ls 3 [] → W p l e rm_X0_forceMiss s m args below meth c H locs 0 0 (MQ below (va_Qv (fun (u : ZI × ZL) => u.2 = res ∧ u.1 = σ) (WQ g) (AA g)) args s 0 0 (AA g)) (F0 m 31 ls [.long s0, .int s1, .ref (gA g 43)]) := by
    intro  τ s0 s1 h H locs ls hS hl
    rw [f_X0_forceMiss_31] at h
    obtain ⟨q2, h_q2, h⟩ := bd h
    refine rTv F G hS hl.1 (c_X7_put_ l g σ τ 43 s1 s0 q2 h_q2) lk_X0_69 ⟨rfl, rfl, Nat.le_of_ble_eq_true rfl, Nat.le_of_ble_eq_true rfl⟩  rfl rfl (Nat.le_of_ble_eq_true rfl) dX0_forceMiss_31 (kJv (fun H locs hS => ?_))
    exact e_v F hS ⟨Option.some.inj h, rfl⟩ hr0 dX0_forceMiss_34 hk0
  have w_14 : ∀ (τ : ZL) (s0 : Int64) (s1 : Int32), f_X0_forceMiss_14 a1 a2 τ s0 s1 = some res → ∀ (H : Heap) (locs : List Loc) (ls : Array Slot), WS g σ τ s H locs → lv_has ls 3 [(0, .ref (gA g 41)), (1, .int a1), (2, .int a2)] → W p l e rm_X0_forceMiss s m args below meth c H locs 0 0 (MQ below (va_Qv (fun (u : ZI × ZL) => u.2 = res ∧ u.1 = σ) (WQ g) (AA g)) args s 0 0 (AA g)) (F0 m 14 ls [.long s0, .int s1, .ref (gA g 42)]) := by
    intro  τ s0 s1 h H locs ls hS hl
    rw [f_X0_forceMiss_14] at h
    obtain ⟨q1, h_q1, h⟩ := bd h
    refine rTv F G hS hl.1 (c_X7_put_ l g σ τ 42 s1 s0 q1 h_q1) lk_X0_69 ⟨rfl, rfl, Nat.le_of_ble_eq_true rfl, Nat.le_of_ble_eq_true rfl⟩  rfl rfl (Nat.le_of_ble_eq_true rfl) dX0_forceMiss_14 (kJv (fun H locs hS => ?_))
    refine lv_aload_n F.1 F.2.1 dX0_forceMiss_17 rfl (lv_at hl 0 rfl) ?_
    refine gf_X0_15 F G hS dX0_forceMiss_18 ?_
    refine lv_iload_n F.1 F.2.1 dX0_forceMiss_21 rfl (lv_at hl 1 rfl) ?_
    refine lv_iload_n F.1 F.2.1 dX0_forceMiss_22 rfl (lv_at hl 2 rfl) ?_
    refine lv_if_eq (tgt := 30) F.1 F.2.1 dX0_forceMiss_23 (by decide) (fun hc => ?_) (fun hc => ?_)
    · replace h := ifT h hc
      refine lv_lconst (v := (1 : Int64)) F.1 F.2.1 dX0_forceMiss_30 (by decide) ?_
      exact w_31 q1 (1 : Int64) a1 h H locs _ hS (lv_sub hl [] rfl)
    replace h := ifF h hc
    refine lv_lconst (v := (0 : Int64)) F.1 F.2.1 dX0_forceMiss_26 (by decide) ?_
    refine lv_goto (tgt := 31) F.1 F.2.1 dX0_forceMiss_27 (by decide) ?_
    exact w_31 q1 (0 : Int64) a1 h H locs _ hS (lv_sub hl [] rfl)
  obtain ⟨locs, hlo⟩ : ∃ z : List Loc, z = [] := ⟨_, rfl⟩
  rw [← hlo] at hS ⊢
  clear hlo
  refine lv_aload_n F.1 F.2.1 dX0_forceMiss_0 rfl (lv_at hl 0 rfl) ?_
  refine gf_X0_11 F G hS dX0_forceMiss_1 ?_
  refine lv_iload_n F.1 F.2.1 dX0_forceMiss_4 rfl (lv_at hl 1 rfl) ?_
  refine lv_iload_n F.1 F.2.1 dX0_forceMiss_5 rfl (lv_at hl 2 rfl) ?_
  refine lv_if_eq (tgt := 13) F.1 F.2.1 dX0_forceMiss_6 (by decide) (fun hc => ?_) (fun hc => ?_)
  · replace h := ifT h hc
    refine lv_lconst (v := (0 : Int64)) F.1 F.2.1 dX0_forceMiss_13 (by decide) ?_
    exact w_14 τ (0 : Int64) a1 h H locs _ hS (lv_sub hl [0, 1, 2] rfl)
  replace h := ifF h hc
  refine lv_lconst (v := (1 : Int64)) F.1 F.2.1 dX0_forceMiss_9 (by decide) ?_
  refine lv_goto (tgt := 14) F.1 F.2.1 dX0_forceMiss_10 (by decide) ?_
  exact w_14 τ (1 : Int64) a1 h H locs _ hS (lv_sub hl [0, 1, 2] rfl)
def f_X7_jointsMissed_68 (a1 : Int32) (k_4 : ZI → ZL → Int32 → Int32 → Option (Int32 × ZI × ZL)) (σ : ZI) (τ : ZL) (v2 : Int32) (v3 : Int32) : Option (Int32 × ZI × ZL) := k_4 σ τ v2 (v3 + (1 : Int32))
def f_X7_jointsMissed_41 (a1 : Int32) (k_4 : ZI → ZL → Int32 → Int32 → Option (Int32 × ZI × ZL)) (σ : ZI) (τ : ZL) (v2 : Int32) (v3 : Int32) (s0 : Int32) (s1 : Int32) : Option (Int32 × ZI × ZL) := (f_X0_forceMiss τ s1 s0).bind (fun q3 => (f_X0_passAsSeen σ q3).bind (fun q4 => if (lg_cmp q4.1 (0 : Int64)) = 0 then (lt_ ((v2 ||| ((1 : Int32) <<< ((v3 - (1 : Int32)) &&& 31)))) (fun x5 => f_X7_jointsMissed_68 a1 k_4 σ q4.2 x5 v3)) else (f_X7_jointsMissed_68 a1 k_4 σ q4.2 v2 v3)))
def f_X7_jointsMissed_4 (a1 : Int32)  : Nat → ZI → ZL → Int32 → Int32 → Option (Int32 × ZI × ZL)
  | 0, _, _, _, _ => none
  | n + 1, σ, τ, v2, v3 => (f_X6_value σ 1 (0 : Int32)).bind (fun q1 => if q1 < v3 then (some (v2, σ, τ)) else ((f_X0_weighAlike σ τ 1).bind (fun q2 => if a1 = 0 then (f_X7_jointsMissed_41 a1 (fun σ τ v2 v3 => f_X7_jointsMissed_4 a1 n σ τ v2 v3) q2.1 q2.2 v2 v3 (1 : Int32) v3) else (f_X7_jointsMissed_41 a1 (fun σ τ v2 v3 => f_X7_jointsMissed_4 a1 n σ τ v2 v3) q2.1 q2.2 v2 v3 (0 : Int32) v3))))
def f_X7_jointsMissed (σ : ZI) (τ : ZL) (a1 : Int32) : Option (Int32 × ZI × ZL) := f_X7_jointsMissed_4 a1 3000 σ τ (0 : Int32) (1 : Int32)
abbrev rm_X7_jointsMissed : Room := { frames := 4, cells := 0, slots := 0, locals := 86 }
set_option maxHeartbeats 4000000 in
set_option maxRecDepth 100000 in
theorem c_X7_jointsMissed (l : Launch) (g : GG) (σ : ZI) (τ : ZL) (a1 : Int32) (res : Int32 × ZI × ZL) (h : f_X7_jointsMissed σ τ a1 = some res) : MI l yX7_jointsMissed cX7_jointsMissed 4 (some .int) rm_X7_jointsMissed g [.ref (gA g 0), .int a1] σ τ (fun (r : Int32) (u : ZI × ZL) => (r, u.1, u.2) = res) := by
  refine Met_in (by decide) (Nat.le_of_ble_eq_true rfl) ?_
  intro p e s m args below meth c F G hP hr0 hk0 ls hl
  have hS := WS.start hP
  have hl : lv_has ls 4 [(0, .ref (gA g 0)), (1, .int a1)] := hl
  obtain ⟨H, hH⟩ : ∃ H, H = s.heap := ⟨_, rfl⟩
  rw [← hH] at hS ⊢
  clear hH hP
  rw [f_X7_jointsMissed] at h
  have w_68 : ∀ (k_4 : ZI → ZL → Int32 → Int32 → Option (Int32 × ZI × ZL)) (hk_4 : ∀ (σ : ZI) (τ : ZL) (v2 : Int32) (v3 : Int32), k_4 σ τ v2 v3 = some res → ∀ (H : Heap) (locs : List Loc) (ls : Array Slot), WS g σ τ s H locs → lv_has ls 4 [(0, .ref (gA g 0)), (1, .int a1), (2, .int v2), (3, .int v3)] → W p l e rm_X7_jointsMissed s m args below meth c H locs 0 0 (MQ below (va_Qi (fun (r : Int32) (u : ZI × ZL) => (r, u.1, u.2) = res) (WQ g) (AA g)) args s 0 0 (AA g)) (F0 m 4 ls [])) (σ : ZI) (τ : ZL) (v2 : Int32) (v3 : Int32), f_X7_jointsMissed_68 a1 k_4 σ τ v2 v3 = some res → ∀ (H : Heap) (locs : List Loc) (ls : Array Slot), WS g σ τ s H locs → lv_has ls 4 [(0, .ref (gA g 0)), (1, .int a1), (2, .int v2), (3, .int v3)] → W p l e rm_X7_jointsMissed s m args below meth c H locs 0 0 (MQ below (va_Qi (fun (r : Int32) (u : ZI × ZL) => (r, u.1, u.2) = res) (WQ g) (AA g)) args s 0 0 (AA g)) (F0 m 68 ls []) := by
    intro k_4 hk_4 σ τ v2 v3 h H locs ls hS hl
    rw [f_X7_jointsMissed_68] at h
    refine lv_iinc (v := (v3 + (1 : Int32))) (lv' := [(3, .int (v3 + (1 : Int32))), (0, .ref (gA g 0)), (1, .int a1), (2, .int v2)]) F.1 F.2.1 dX7_jointsMissed_68 hl (k := 3) rfl rfl (by decide) rfl (fun ls hl => ?_)
    refine lv_goto (tgt := 4) F.1 F.2.1 dX7_jointsMissed_71 (by decide) ?_
    exact hk_4 σ τ v2 (v3 + (1 : Int32)) h H locs _ hS (lv_sub hl [1, 2, 3, 0] rfl)
  have w_41 : ∀ (k_4 : ZI → ZL → Int32 → Int32 → Option (Int32 × ZI × ZL)) (hk_4 : ∀ (σ : ZI) (τ : ZL) (v2 : Int32) (v3 : Int32), k_4 σ τ v2 v3 = some res → ∀ (H : Heap) (locs : List Loc) (ls : Array Slot), WS g σ τ s H locs → lv_has ls 4 [(0, .ref (gA g 0)), (1, .int a1), (2, .int v2), (3, .int v3)] → W p l e rm_X7_jointsMissed s m args below meth c H locs 0 0 (MQ below (va_Qi (fun (r : Int32) (u : ZI × ZL) => (r, u.1, u.2) = res) (WQ g) (AA g)) args s 0 0 (AA g)) (F0 m 4 ls [])) (σ : ZI) (τ : ZL) (v2 : Int32) (v3 : Int32) (s0 : Int32) (s1 : Int32), f_X7_jointsMissed_41 a1 k_4 σ τ v2 v3 s0 s1 = some res → ∀ (H : Heap) (locs : List Loc) (ls : Array Slot), WS g σ τ s H locs → lv_has ls 4 [(0, .ref (gA g 0)), (1, .int a1), (2, .int v2), (3, .int v3)] → W p l e rm_X7_jointsMissed s m args below meth c H locs 0 0 (MQ below (va_Qi (fun (r : Int32) (u : ZI × ZL) => (r, u.1, u.2) = res) (WQ g) (AA g)) args s 0 0 (AA g)) (F0 m 41 ls [.int s0, .int s1, .ref (gA g 41)]) := by
    intro k_4 hk_4 σ τ v2 v3 s0 s1 h H locs ls hS hl
    rw [f_X7_jointsMissed_41] at h
    obtain ⟨q3, h_q3, h⟩ := bd h
    refine rNv F G hS hl.1 (c_X0_forceMiss l g σ τ s1 s0 q3 h_q3) lk_X7_343 ⟨rfl, rfl, Nat.le_of_ble_eq_true rfl, Nat.le_of_ble_eq_true rfl⟩ (rc_X0 G hS) rfl rfl (Nat.le_of_ble_eq_true rfl) dX7_jointsMissed_41 (kJv (fun H locs hS => ?_))
    refine lv_aload_n F.1 F.2.1 dX7_jointsMissed_44 rfl (lv_at hl 0 rfl) ?_
    refine gf_X7_46 F G hS dX7_jointsMissed_45 ?_
    refine lv_aload_n F.1 F.2.1 dX7_jointsMissed_48 rfl (lv_at hl 0 rfl) ?_
    refine gf_X7_53 F G hS dX7_jointsMissed_49 ?_
    obtain ⟨q4, h_q4, h⟩ := bd h
    refine rNl F G hS hl.1 (c_X0_passAsSeen l g σ q3 q4 h_q4) lk_X7_271 ⟨rfl, rfl, Nat.le_of_ble_eq_true rfl, Nat.le_of_ble_eq_true rfl⟩ (rc_X0 G hS) rfl rfl (Nat.le_of_ble_eq_true rfl) dX7_jointsMissed_52 (kJl (fun H locs hS => ?_))
    refine lv_lconst (v := (0 : Int64)) F.1 F.2.1 dX7_jointsMissed_55 (by decide) ?_
    refine W.lcmp F.1 F.2.1 dX7_jointsMissed_56 ?_
    refine lv_if_ne (tgt := 68) F.1 F.2.1 dX7_jointsMissed_57 (by decide) (fun hc => ?_) (fun hc => ?_)
    · replace h := ifF h hc
      exact w_68 _ hk_4 σ q4.2 v2 v3 h H locs _ hS (lv_sub hl [0, 1, 2, 3] rfl)
    replace h := ifT h hc
    refine lv_iload_n F.1 F.2.1 dX7_jointsMissed_60 rfl (lv_at hl 2 rfl) ?_
    refine lv_iconst (v := (1 : Int32)) F.1 F.2.1 dX7_jointsMissed_61 (by decide) ?_
    refine lv_iload_n F.1 F.2.1 dX7_jointsMissed_62 rfl (lv_at hl 3 rfl) ?_
    refine lv_iconst (v := (1 : Int32)) F.1 F.2.1 dX7_jointsMissed_63 (by decide) ?_
    refine lv_isub F.1 F.2.1 dX7_jointsMissed_64 ?_
    refine lv_ishl F.1 F.2.1 dX7_jointsMissed_65 ?_
    refine lv_ior F.1 F.2.1 dX7_jointsMissed_66 ?_
    obtain ⟨x5, e_x5, h⟩ := ltE h
    refine x_topi e_x5 ?_
    clear e_x5
    refine lv_istore_n (lv' := [(2, .int x5), (0, .ref (gA g 0)), (1, .int a1), (3, .int v3)]) F.1 F.2.1 dX7_jointsMissed_67 rfl hl (by decide) rfl (fun ls hl => ?_)
    exact w_68 _ hk_4 σ q4.2 x5 v3 h H locs _ hS (lv_sub hl [1, 2, 0, 3] rfl)
  have w_4 : ∀ (n : Nat) (σ : ZI) (τ : ZL) (v2 : Int32) (v3 : Int32), f_X7_jointsMissed_4 a1 n σ τ v2 v3 = some res → ∀ (H : Heap) (locs : List Loc) (ls : Array Slot), WS g σ τ s H locs → lv_has ls 4 [(0, .ref (gA g 0)), (1, .int a1), (2, .int v2), (3, .int v3)] → W p l e rm_X7_jointsMissed s m args below meth c H locs 0 0 (MQ below (va_Qi (fun (r : Int32) (u : ZI × ZL) => (r, u.1, u.2) = res) (WQ g) (AA g)) args s 0 0 (AA g)) (F0 m 4 ls []) := by
    intro n
    induction n with
    | zero => intro σ τ v2 v3 h; rw [f_X7_jointsMissed_4] at h; cases h
    | succ n ih =>
      intro σ τ v2 v3 h H locs ls hS hl
      rw [f_X7_jointsMissed_4] at h
      refine lv_iload_n F.1 F.2.1 dX7_jointsMissed_4 rfl (lv_at hl 3 rfl) ?_
      refine lv_aload_n F.1 F.2.1 dX7_jointsMissed_5 rfl (lv_at hl 0 rfl) ?_
      refine gf_X7_10 F G hS dX7_jointsMissed_6 ?_
      refine lv_iconst (v := (0 : Int32)) F.1 F.2.1 dX7_jointsMissed_9 (by decide) ?_
      obtain ⟨q1, h_q1, h⟩ := bd h
      refine rNi F G hS hl.1 (c_X6_value l g σ τ 1 (0 : Int32) q1 h_q1) lk_X7_110 ⟨rfl, rfl, Nat.le_of_ble_eq_true rfl, Nat.le_of_ble_eq_true rfl⟩ (rc_X6 G hS rfl) rfl rfl (Nat.le_of_ble_eq_true rfl) dX7_jointsMissed_10 (kRi (fun H locs hS => ?_))
      refine lv_icmp_gt (tgt := 74) F.1 F.2.1 dX7_jointsMissed_13 (by decide) (fun hc => ?_) (fun hc => ?_)
      · replace h := ifT h hc
        refine lv_iload_n F.1 F.2.1 dX7_jointsMissed_74 rfl (lv_at hl 2 rfl) ?_
        exact e_i F hS (Option.some.inj h) hr0 dX7_jointsMissed_75 hk0
      replace h := ifF h hc
      refine lv_aload_n F.1 F.2.1 dX7_jointsMissed_16 rfl (lv_at hl 0 rfl) ?_
      refine gf_X7_46 F G hS dX7_jointsMissed_17 ?_
      refine lv_aload_n F.1 F.2.1 dX7_jointsMissed_20 rfl (lv_at hl 0 rfl) ?_
      refine gf_X7_10 F G hS dX7_jointsMissed_21 ?_
      obtain ⟨q2, h_q2, h⟩ := bd h
      refine rNv F G hS hl.1 (c_X0_weighAlike l g σ τ 1 q2 h_q2) lk_X7_268 ⟨rfl, rfl, Nat.le_of_ble_eq_true rfl, Nat.le_of_ble_eq_true rfl⟩ (rc_X0 G hS) rfl rfl (Nat.le_of_ble_eq_true rfl) dX7_jointsMissed_24 (kBv (fun H locs hS => ?_))
      refine lv_aload_n F.1 F.2.1 dX7_jointsMissed_27 rfl (lv_at hl 0 rfl) ?_
      refine gf_X7_46 F G hS dX7_jointsMissed_28 ?_
      refine lv_iload_n F.1 F.2.1 dX7_jointsMissed_31 rfl (lv_at hl 3 rfl) ?_
      refine lv_iload_n F.1 F.2.1 dX7_jointsMissed_32 rfl (lv_at hl 1 rfl) ?_
      refine lv_if_ne (tgt := 40) F.1 F.2.1 dX7_jointsMissed_33 (by decide) (fun hc => ?_) (fun hc => ?_)
      · replace h := ifF h hc
        refine lv_iconst (v := (0 : Int32)) F.1 F.2.1 dX7_jointsMissed_40 (by decide) ?_
        exact w_41 _ (fun σ τ v2 v3 => ih σ τ v2 v3) q2.1 q2.2 v2 v3 (0 : Int32) v3 h H locs _ hS (lv_sub hl [0, 1, 2, 3] rfl)
      replace h := ifT h hc
      refine lv_iconst (v := (1 : Int32)) F.1 F.2.1 dX7_jointsMissed_36 (by decide) ?_
      refine lv_goto (tgt := 41) F.1 F.2.1 dX7_jointsMissed_37 (by decide) ?_
      exact w_41 _ (fun σ τ v2 v3 => ih σ τ v2 v3) q2.1 q2.2 v2 v3 (1 : Int32) v3 h H locs _ hS (lv_sub hl [0, 1, 2, 3] rfl)
  obtain ⟨locs, hlo⟩ : ∃ z : List Loc, z = [] := ⟨_, rfl⟩
  rw [← hlo] at hS ⊢
  clear hlo
  refine lv_iconst (v := (0 : Int32)) F.1 F.2.1 dX7_jointsMissed_0 (by decide) ?_
  refine lv_istore_n (lv' := [(2, .int (0 : Int32)), (0, .ref (gA g 0)), (1, .int a1)]) F.1 F.2.1 dX7_jointsMissed_1 rfl hl (by decide) rfl (fun ls hl => ?_)
  refine lv_iconst (v := (1 : Int32)) F.1 F.2.1 dX7_jointsMissed_2 (by decide) ?_
  refine lv_istore_n (lv' := [(3, .int (1 : Int32)), (2, .int (0 : Int32)), (0, .ref (gA g 0)), (1, .int a1)]) F.1 F.2.1 dX7_jointsMissed_3 rfl hl (by decide) rfl (fun ls hl => ?_)
  exact w_4 3000 σ τ (0 : Int32) (1 : Int32) h H locs _ hS (lv_sub hl [2, 3, 1, 0] rfl)
def f_X0_forceNotice_31 (a1 : Int32) (a2 : Int32)  (τ : ZL) (s0 : Int64) (s1 : Int32) : Option (ZL) := (f_X7_put_ τ 45 s1 s0).bind (fun q2 => some q2)
def f_X0_forceNotice_14 (a1 : Int32) (a2 : Int32)  (τ : ZL) (s0 : Int64) (s1 : Int32) : Option (ZL) := (f_X7_put_ τ 44 s1 s0).bind (fun q1 => if a2 = 0 then (f_X0_forceNotice_31 a1 a2 q1 (1 : Int64) a1) else (f_X0_forceNotice_31 a1 a2 q1 (0 : Int64) a1))
def f_X0_forceNotice (τ : ZL) (a1 : Int32) (a2 : Int32) : Option (ZL) := if a2 = 0 then (f_X0_forceNotice_14 a1 a2 τ (0 : Int64) a1) else (f_X0_forceNotice_14 a1 a2 τ (1 : Int64) a1)
abbrev rm_X0_forceNotice : Room := { frames := 1, cells := 0, slots := 0, locals := 23 }
set_option maxHeartbeats 4000000 in
set_option maxRecDepth 100000 in
theorem c_X0_forceNotice (l : Launch) (g : GG) (σ : ZI) (τ : ZL) (a1 : Int32) (a2 : Int32) (res : ZL) (h : f_X0_forceNotice τ a1 a2 = some res) : MV l yX0_forceNotice cX0_forceNotice 3 none rm_X0_forceNotice g [.ref (gA g 41), .int a1, .int a2] σ τ (fun (u : ZI × ZL) => u.2 = res ∧ u.1 = σ) := by
  refine Met_in (by decide) (Nat.le_of_ble_eq_true rfl) ?_
  intro p e s m args below meth c F G hP hr0 hk0 ls hl
  have hS := WS.start hP
  have hl : lv_has ls 3 [(0, .ref (gA g 41)), (1, .int a1), (2, .int a2)] := hl
  obtain ⟨H, hH⟩ : ∃ H, H = s.heap := ⟨_, rfl⟩
  rw [← hH] at hS ⊢
  clear hH hP
  rw [f_X0_forceNotice] at h
  have w_31 : ∀ (τ : ZL) (s0 : Int64) (s1 : Int32), f_X0_forceNotice_31 a1 a2 τ s0 s1 = some res → ∀ (H : Heap) (locs : List Loc) (ls : Array Slot), WS g σ τ s H locs → lv_has ls 3 [] → W p l e rm_X0_forceNotice s m args below meth c H locs 0 0 (MQ below (va_Qv (fun (u : ZI × ZL) => u.2 = res ∧ u.1 = σ) (WQ g) (AA g)) args s 0 0 (AA g)) (F0 m 31 ls [.long s0, .int s1, .ref (gA g 45)]) := by
    intro  τ s0 s1 h H locs ls hS hl
    rw [f_X0_forceNotice_31] at h
    obtain ⟨q2, h_q2, h⟩ := bd h
    refine rTv F G hS hl.1 (c_X7_put_ l g σ τ 45 s1 s0 q2 h_q2) lk_X0_69 ⟨rfl, rfl, Nat.le_of_ble_eq_true rfl, Nat.le_of_ble_eq_true rfl⟩  rfl rfl (Nat.le_of_ble_eq_true rfl) dX0_forceNotice_31 (kJv (fun H locs hS => ?_))
    exact e_v F hS ⟨Option.some.inj h, rfl⟩ hr0 dX0_forceNotice_34 hk0
  have w_14 : ∀ (τ : ZL) (s0 : Int64) (s1 : Int32), f_X0_forceNotice_14 a1 a2 τ s0 s1 = some res → ∀ (H : Heap) (locs : List Loc) (ls : Array Slot), WS g σ τ s H locs → lv_has ls 3 [(0, .ref (gA g 41)), (1, .int a1), (2, .int a2)] → W p l e rm_X0_forceNotice s m args below meth c H locs 0 0 (MQ below (va_Qv (fun (u : ZI × ZL) => u.2 = res ∧ u.1 = σ) (WQ g) (AA g)) args s 0 0 (AA g)) (F0 m 14 ls [.long s0, .int s1, .ref (gA g 44)]) := by
    intro  τ s0 s1 h H locs ls hS hl
    rw [f_X0_forceNotice_14] at h
    obtain ⟨q1, h_q1, h⟩ := bd h
    refine rTv F G hS hl.1 (c_X7_put_ l g σ τ 44 s1 s0 q1 h_q1) lk_X0_69 ⟨rfl, rfl, Nat.le_of_ble_eq_true rfl, Nat.le_of_ble_eq_true rfl⟩  rfl rfl (Nat.le_of_ble_eq_true rfl) dX0_forceNotice_14 (kJv (fun H locs hS => ?_))
    refine lv_aload_n F.1 F.2.1 dX0_forceNotice_17 rfl (lv_at hl 0 rfl) ?_
    refine gf_X0_21 F G hS dX0_forceNotice_18 ?_
    refine lv_iload_n F.1 F.2.1 dX0_forceNotice_21 rfl (lv_at hl 1 rfl) ?_
    refine lv_iload_n F.1 F.2.1 dX0_forceNotice_22 rfl (lv_at hl 2 rfl) ?_
    refine lv_if_eq (tgt := 30) F.1 F.2.1 dX0_forceNotice_23 (by decide) (fun hc => ?_) (fun hc => ?_)
    · replace h := ifT h hc
      refine lv_lconst (v := (1 : Int64)) F.1 F.2.1 dX0_forceNotice_30 (by decide) ?_
      exact w_31 q1 (1 : Int64) a1 h H locs _ hS (lv_sub hl [] rfl)
    replace h := ifF h hc
    refine lv_lconst (v := (0 : Int64)) F.1 F.2.1 dX0_forceNotice_26 (by decide) ?_
    refine lv_goto (tgt := 31) F.1 F.2.1 dX0_forceNotice_27 (by decide) ?_
    exact w_31 q1 (0 : Int64) a1 h H locs _ hS (lv_sub hl [] rfl)
  obtain ⟨locs, hlo⟩ : ∃ z : List Loc, z = [] := ⟨_, rfl⟩
  rw [← hlo] at hS ⊢
  clear hlo
  refine lv_aload_n F.1 F.2.1 dX0_forceNotice_0 rfl (lv_at hl 0 rfl) ?_
  refine gf_X0_18 F G hS dX0_forceNotice_1 ?_
  refine lv_iload_n F.1 F.2.1 dX0_forceNotice_4 rfl (lv_at hl 1 rfl) ?_
  refine lv_iload_n F.1 F.2.1 dX0_forceNotice_5 rfl (lv_at hl 2 rfl) ?_
  refine lv_if_eq (tgt := 13) F.1 F.2.1 dX0_forceNotice_6 (by decide) (fun hc => ?_) (fun hc => ?_)
  · replace h := ifT h hc
    refine lv_lconst (v := (0 : Int64)) F.1 F.2.1 dX0_forceNotice_13 (by decide) ?_
    exact w_14 τ (0 : Int64) a1 h H locs _ hS (lv_sub hl [0, 1, 2] rfl)
  replace h := ifF h hc
  refine lv_lconst (v := (1 : Int64)) F.1 F.2.1 dX0_forceNotice_9 (by decide) ?_
  refine lv_goto (tgt := 14) F.1 F.2.1 dX0_forceNotice_10 (by decide) ?_
  exact w_14 τ (1 : Int64) a1 h H locs _ hS (lv_sub hl [0, 1, 2] rfl)
def f_X7_marksNoticed_76 (a1 : Int32) (k_4 : ZI → ZL → Int32 → Int32 → Option (Int32 × ZI × ZL)) (σ : ZI) (τ : ZL) (v2 : Int32) (v3 : Int32) : Option (Int32 × ZI × ZL) := k_4 σ τ v2 (v3 + (1 : Int32))
def f_X7_marksNoticed_51 (a1 : Int32) (k_4 : ZI → ZL → Int32 → Int32 → Option (Int32 × ZI × ZL)) (σ : ZI) (τ : ZL) (v2 : Int32) (v3 : Int32) (s0 : Int32) (s1 : Int32) : Option (Int32 × ZI × ZL) := (f_X0_forceNotice τ s1 s0).bind (fun q4 => (f_X0_passAsSeen σ q4).bind (fun q5 => if (lg_cmp q5.1 (0 : Int64)) = 0 then (lt_ ((v2 ||| ((1 : Int32) <<< (v3 &&& 31)))) (fun x6 => f_X7_marksNoticed_76 a1 k_4 σ q5.2 x6 v3)) else (f_X7_marksNoticed_76 a1 k_4 σ q5.2 v2 v3)))
def f_X7_marksNoticed_4 (a1 : Int32)  : Nat → ZI → ZL → Int32 → Int32 → Option (Int32 × ZI × ZL)
  | 0, _, _, _, _ => none
  | n + 1, σ, τ, v2, v3 => (f_X6_value σ 1 (2 : Int32)).bind (fun q1 => if q1 ≤ v3 then (some (v2, σ, τ)) else ((f_X0_weighAlike σ τ 1).bind (fun q2 => (f_X7_at q2.1 6 v3).bind (fun q3 => if a1 = 0 then (f_X7_marksNoticed_51 a1 (fun σ τ v2 v3 => f_X7_marksNoticed_4 a1 n σ τ v2 v3) q2.1 q2.2 v2 v3 (1 : Int32) q3) else (f_X7_marksNoticed_51 a1 (fun σ τ v2 v3 => f_X7_marksNoticed_4 a1 n σ τ v2 v3) q2.1 q2.2 v2 v3 (0 : Int32) q3)))))
def f_X7_marksNoticed (σ : ZI) (τ : ZL) (a1 : Int32) : Option (Int32 × ZI × ZL) := f_X7_marksNoticed_4 a1 3000 σ τ (0 : Int32) (0 : Int32)
abbrev rm_X7_marksNoticed : Room := { frames := 4, cells := 0, slots := 0, locals := 86 }
set_option maxHeartbeats 4000000 in
set_option maxRecDepth 100000 in
theorem c_X7_marksNoticed (l : Launch) (g : GG) (σ : ZI) (τ : ZL) (a1 : Int32) (res : Int32 × ZI × ZL) (h : f_X7_marksNoticed σ τ a1 = some res) : MI l yX7_marksNoticed cX7_marksNoticed 4 (some .int) rm_X7_marksNoticed g [.ref (gA g 0), .int a1] σ τ (fun (r : Int32) (u : ZI × ZL) => (r, u.1, u.2) = res) := by
  refine Met_in (by decide) (Nat.le_of_ble_eq_true rfl) ?_
  intro p e s m args below meth c F G hP hr0 hk0 ls hl
  have hS := WS.start hP
  have hl : lv_has ls 4 [(0, .ref (gA g 0)), (1, .int a1)] := hl
  obtain ⟨H, hH⟩ : ∃ H, H = s.heap := ⟨_, rfl⟩
  rw [← hH] at hS ⊢
  clear hH hP
  rw [f_X7_marksNoticed] at h
  have w_76 : ∀ (k_4 : ZI → ZL → Int32 → Int32 → Option (Int32 × ZI × ZL)) (hk_4 : ∀ (σ : ZI) (τ : ZL) (v2 : Int32) (v3 : Int32), k_4 σ τ v2 v3 = some res → ∀ (H : Heap) (locs : List Loc) (ls : Array Slot), WS g σ τ s H locs → lv_has ls 4 [(0, .ref (gA g 0)), (1, .int a1), (2, .int v2), (3, .int v3)] → W p l e rm_X7_marksNoticed s m args below meth c H locs 0 0 (MQ below (va_Qi (fun (r : Int32) (u : ZI × ZL) => (r, u.1, u.2) = res) (WQ g) (AA g)) args s 0 0 (AA g)) (F0 m 4 ls [])) (σ : ZI) (τ : ZL) (v2 : Int32) (v3 : Int32), f_X7_marksNoticed_76 a1 k_4 σ τ v2 v3 = some res → ∀ (H : Heap) (locs : List Loc) (ls : Array Slot), WS g σ τ s H locs → lv_has ls 4 [(0, .ref (gA g 0)), (1, .int a1), (2, .int v2), (3, .int v3)] → W p l e rm_X7_marksNoticed s m args below meth c H locs 0 0 (MQ below (va_Qi (fun (r : Int32) (u : ZI × ZL) => (r, u.1, u.2) = res) (WQ g) (AA g)) args s 0 0 (AA g)) (F0 m 76 ls []) := by
    intro k_4 hk_4 σ τ v2 v3 h H locs ls hS hl
    rw [f_X7_marksNoticed_76] at h
    refine lv_iinc (v := (v3 + (1 : Int32))) (lv' := [(3, .int (v3 + (1 : Int32))), (0, .ref (gA g 0)), (1, .int a1), (2, .int v2)]) F.1 F.2.1 dX7_marksNoticed_76 hl (k := 3) rfl rfl (by decide) rfl (fun ls hl => ?_)
    refine lv_goto (tgt := 4) F.1 F.2.1 dX7_marksNoticed_79 (by decide) ?_
    exact hk_4 σ τ v2 (v3 + (1 : Int32)) h H locs _ hS (lv_sub hl [1, 2, 3, 0] rfl)
  have w_51 : ∀ (k_4 : ZI → ZL → Int32 → Int32 → Option (Int32 × ZI × ZL)) (hk_4 : ∀ (σ : ZI) (τ : ZL) (v2 : Int32) (v3 : Int32), k_4 σ τ v2 v3 = some res → ∀ (H : Heap) (locs : List Loc) (ls : Array Slot), WS g σ τ s H locs → lv_has ls 4 [(0, .ref (gA g 0)), (1, .int a1), (2, .int v2), (3, .int v3)] → W p l e rm_X7_marksNoticed s m args below meth c H locs 0 0 (MQ below (va_Qi (fun (r : Int32) (u : ZI × ZL) => (r, u.1, u.2) = res) (WQ g) (AA g)) args s 0 0 (AA g)) (F0 m 4 ls [])) (σ : ZI) (τ : ZL) (v2 : Int32) (v3 : Int32) (s0 : Int32) (s1 : Int32), f_X7_marksNoticed_51 a1 k_4 σ τ v2 v3 s0 s1 = some res → ∀ (H : Heap) (locs : List Loc) (ls : Array Slot), WS g σ τ s H locs → lv_has ls 4 [(0, .ref (gA g 0)), (1, .int a1), (2, .int v2), (3, .int v3)] → W p l e rm_X7_marksNoticed s m args below meth c H locs 0 0 (MQ below (va_Qi (fun (r : Int32) (u : ZI × ZL) => (r, u.1, u.2) = res) (WQ g) (AA g)) args s 0 0 (AA g)) (F0 m 51 ls [.int s0, .int s1, .ref (gA g 41)]) := by
    intro k_4 hk_4 σ τ v2 v3 s0 s1 h H locs ls hS hl
    rw [f_X7_marksNoticed_51] at h
    obtain ⟨q4, h_q4, h⟩ := bd h
    refine rNv F G hS hl.1 (c_X0_forceNotice l g σ τ s1 s0 q4 h_q4) lk_X7_347 ⟨rfl, rfl, Nat.le_of_ble_eq_true rfl, Nat.le_of_ble_eq_true rfl⟩ (rc_X0 G hS) rfl rfl (Nat.le_of_ble_eq_true rfl) dX7_marksNoticed_51 (kJv (fun H locs hS => ?_))
    refine lv_aload_n F.1 F.2.1 dX7_marksNoticed_54 rfl (lv_at hl 0 rfl) ?_
    refine gf_X7_46 F G hS dX7_marksNoticed_55 ?_
    refine lv_aload_n F.1 F.2.1 dX7_marksNoticed_58 rfl (lv_at hl 0 rfl) ?_
    refine gf_X7_53 F G hS dX7_marksNoticed_59 ?_
    obtain ⟨q5, h_q5, h⟩ := bd h
    refine rNl F G hS hl.1 (c_X0_passAsSeen l g σ q4 q5 h_q5) lk_X7_271 ⟨rfl, rfl, Nat.le_of_ble_eq_true rfl, Nat.le_of_ble_eq_true rfl⟩ (rc_X0 G hS) rfl rfl (Nat.le_of_ble_eq_true rfl) dX7_marksNoticed_62 (kJl (fun H locs hS => ?_))
    refine lv_lconst (v := (0 : Int64)) F.1 F.2.1 dX7_marksNoticed_65 (by decide) ?_
    refine W.lcmp F.1 F.2.1 dX7_marksNoticed_66 ?_
    refine lv_if_ne (tgt := 76) F.1 F.2.1 dX7_marksNoticed_67 (by decide) (fun hc => ?_) (fun hc => ?_)
    · replace h := ifF h hc
      exact w_76 _ hk_4 σ q5.2 v2 v3 h H locs _ hS (lv_sub hl [0, 1, 2, 3] rfl)
    replace h := ifT h hc
    refine lv_iload_n F.1 F.2.1 dX7_marksNoticed_70 rfl (lv_at hl 2 rfl) ?_
    refine lv_iconst (v := (1 : Int32)) F.1 F.2.1 dX7_marksNoticed_71 (by decide) ?_
    refine lv_iload_n F.1 F.2.1 dX7_marksNoticed_72 rfl (lv_at hl 3 rfl) ?_
    refine lv_ishl F.1 F.2.1 dX7_marksNoticed_73 ?_
    refine lv_ior F.1 F.2.1 dX7_marksNoticed_74 ?_
    obtain ⟨x6, e_x6, h⟩ := ltE h
    refine x_topi e_x6 ?_
    clear e_x6
    refine lv_istore_n (lv' := [(2, .int x6), (0, .ref (gA g 0)), (1, .int a1), (3, .int v3)]) F.1 F.2.1 dX7_marksNoticed_75 rfl hl (by decide) rfl (fun ls hl => ?_)
    exact w_76 _ hk_4 σ q5.2 x6 v3 h H locs _ hS (lv_sub hl [1, 2, 0, 3] rfl)
  have w_4 : ∀ (n : Nat) (σ : ZI) (τ : ZL) (v2 : Int32) (v3 : Int32), f_X7_marksNoticed_4 a1 n σ τ v2 v3 = some res → ∀ (H : Heap) (locs : List Loc) (ls : Array Slot), WS g σ τ s H locs → lv_has ls 4 [(0, .ref (gA g 0)), (1, .int a1), (2, .int v2), (3, .int v3)] → W p l e rm_X7_marksNoticed s m args below meth c H locs 0 0 (MQ below (va_Qi (fun (r : Int32) (u : ZI × ZL) => (r, u.1, u.2) = res) (WQ g) (AA g)) args s 0 0 (AA g)) (F0 m 4 ls []) := by
    intro n
    induction n with
    | zero => intro σ τ v2 v3 h; rw [f_X7_marksNoticed_4] at h; cases h
    | succ n ih =>
      intro σ τ v2 v3 h H locs ls hS hl
      rw [f_X7_marksNoticed_4] at h
      refine lv_iload_n F.1 F.2.1 dX7_marksNoticed_4 rfl (lv_at hl 3 rfl) ?_
      refine lv_aload_n F.1 F.2.1 dX7_marksNoticed_5 rfl (lv_at hl 0 rfl) ?_
      refine gf_X7_10 F G hS dX7_marksNoticed_6 ?_
      refine lv_iconst (v := (2 : Int32)) F.1 F.2.1 dX7_marksNoticed_9 (by decide) ?_
      obtain ⟨q1, h_q1, h⟩ := bd h
      refine rNi F G hS hl.1 (c_X6_value l g σ τ 1 (2 : Int32) q1 h_q1) lk_X7_110 ⟨rfl, rfl, Nat.le_of_ble_eq_true rfl, Nat.le_of_ble_eq_true rfl⟩ (rc_X6 G hS rfl) rfl rfl (Nat.le_of_ble_eq_true rfl) dX7_marksNoticed_10 (kRi (fun H locs hS => ?_))
      refine lv_icmp_ge (tgt := 82) F.1 F.2.1 dX7_marksNoticed_13 (by decide) (fun hc => ?_) (fun hc => ?_)
      · replace h := ifT h hc
        refine lv_iload_n F.1 F.2.1 dX7_marksNoticed_82 rfl (lv_at hl 2 rfl) ?_
        exact e_i F hS (Option.some.inj h) hr0 dX7_marksNoticed_83 hk0
      replace h := ifF h hc
      refine lv_aload_n F.1 F.2.1 dX7_marksNoticed_16 rfl (lv_at hl 0 rfl) ?_
      refine gf_X7_46 F G hS dX7_marksNoticed_17 ?_
      refine lv_aload_n F.1 F.2.1 dX7_marksNoticed_20 rfl (lv_at hl 0 rfl) ?_
      refine gf_X7_10 F G hS dX7_marksNoticed_21 ?_
      obtain ⟨q2, h_q2, h⟩ := bd h
      refine rNv F G hS hl.1 (c_X0_weighAlike l g σ τ 1 q2 h_q2) lk_X7_268 ⟨rfl, rfl, Nat.le_of_ble_eq_true rfl, Nat.le_of_ble_eq_true rfl⟩ (rc_X0 G hS) rfl rfl (Nat.le_of_ble_eq_true rfl) dX7_marksNoticed_24 (kBv (fun H locs hS => ?_))
      refine lv_aload_n F.1 F.2.1 dX7_marksNoticed_27 rfl (lv_at hl 0 rfl) ?_
      refine gf_X7_46 F G hS dX7_marksNoticed_28 ?_
      refine lv_aload_n F.1 F.2.1 dX7_marksNoticed_31 rfl (lv_at hl 0 rfl) ?_
      refine gf_X7_10 F G hS dX7_marksNoticed_32 ?_
      refine gf_X7_140 F G hS rfl dX7_marksNoticed_35 ?_
      refine lv_iload_n F.1 F.2.1 dX7_marksNoticed_38 rfl (lv_at hl 3 rfl) ?_
      obtain ⟨q3, h_q3, h⟩ := bd h
      refine rSi F G hS hl.1 (c_X7_at l g q2.1 q2.2 6 v3 q3 h_q3) lk_X7_120 ⟨rfl, rfl, Nat.le_of_ble_eq_true rfl, Nat.le_of_ble_eq_true rfl⟩  rfl rfl (Nat.le_of_ble_eq_true rfl) dX7_marksNoticed_39 (kRi (fun H locs hS => ?_))
      refine lv_iload_n F.1 F.2.1 dX7_marksNoticed_42 rfl (lv_at hl 1 rfl) ?_
      refine lv_if_ne (tgt := 50) F.1 F.2.1 dX7_marksNoticed_43 (by decide) (fun hc => ?_) (fun hc => ?_)
      · replace h := ifF h hc
        refine lv_iconst (v := (0 : Int32)) F.1 F.2.1 dX7_marksNoticed_50 (by decide) ?_
        exact w_51 _ (fun σ τ v2 v3 => ih σ τ v2 v3) q2.1 q2.2 v2 v3 (0 : Int32) q3 h H locs _ hS (lv_sub hl [0, 1, 2, 3] rfl)
      replace h := ifT h hc
      refine lv_iconst (v := (1 : Int32)) F.1 F.2.1 dX7_marksNoticed_46 (by decide) ?_
      refine lv_goto (tgt := 51) F.1 F.2.1 dX7_marksNoticed_47 (by decide) ?_
      exact w_51 _ (fun σ τ v2 v3 => ih σ τ v2 v3) q2.1 q2.2 v2 v3 (1 : Int32) q3 h H locs _ hS (lv_sub hl [0, 1, 2, 3] rfl)
  obtain ⟨locs, hlo⟩ : ∃ z : List Loc, z = [] := ⟨_, rfl⟩
  rw [← hlo] at hS ⊢
  clear hlo
  refine lv_iconst (v := (0 : Int32)) F.1 F.2.1 dX7_marksNoticed_0 (by decide) ?_
  refine lv_istore_n (lv' := [(2, .int (0 : Int32)), (0, .ref (gA g 0)), (1, .int a1)]) F.1 F.2.1 dX7_marksNoticed_1 rfl hl (by decide) rfl (fun ls hl => ?_)
  refine lv_iconst (v := (0 : Int32)) F.1 F.2.1 dX7_marksNoticed_2 (by decide) ?_
  refine lv_istore_n (lv' := [(3, .int (0 : Int32)), (2, .int (0 : Int32)), (0, .ref (gA g 0)), (1, .int a1)]) F.1 F.2.1 dX7_marksNoticed_3 rfl hl (by decide) rfl (fun ls hl => ?_)
  exact w_4 3000 σ τ (0 : Int32) (0 : Int32) h H locs _ hS (lv_sub hl [2, 3, 1, 0] rfl)
def f_X7_fits_63 (a1 : Int32)  (σ : ZI) (τ : ZL) (s0 : Int32) : Option (Int32 × ZI × ZL) := if (2 : Int32) < a1 then ((f_X7_marksNoticed σ τ s0).bind (fun q3 => some (q3.1, q3.2.1, q3.2.2))) else ((f_X7_jointsMissed σ τ s0).bind (fun q4 => some (q4.1, q4.2.1, q4.2.2)))
def f_X7_fits_58 (a1 : Int32)  (σ : ZI) (τ : ZL) : Option (Int32 × ZI × ZL) := f_X7_fits_63 a1 σ τ (1 : Int32)
def f_X7_fits (σ : ZI) (τ : ZL) (a1 : Int32) : Option (Int32 × ZI × ZL) := if a1 < 0 then (some ((-1 : Int32), σ, τ)) else (if a1 ≤ (4 : Int32) then ((f_X0_weighAlike σ τ 1).bind (fun q1 => (f_X0_passAsSeen q1.1 q1.2).bind (fun q2 => if a1 = 0 then (some (q2.1.toInt32, q1.1, q2.2)) else (if q2.1.toInt32 = 0 then (some ((-4 : Int32), q1.1, q2.2)) else (if a1 = (1 : Int32) then (f_X7_fits_58 a1 q1.1 q2.2) else (if a1 = (3 : Int32) then (f_X7_fits_58 a1 q1.1 q2.2) else (f_X7_fits_63 a1 q1.1 q2.2 (0 : Int32)))))))) else (some ((-1 : Int32), σ, τ)))
abbrev rm_X7_fits : Room := { frames := 5, cells := 0, slots := 0, locals := 109 }
set_option maxHeartbeats 4000000 in
set_option maxRecDepth 100000 in
theorem c_X7_fits (l : Launch) (g : GG) (σ : ZI) (τ : ZL) (a1 : Int32) (res : Int32 × ZI × ZL) (h : f_X7_fits σ τ a1 = some res) : MI l yX7_fits cX7_fits 4 (some .int) rm_X7_fits g [.ref (gA g 0), .int a1] σ τ (fun (r : Int32) (u : ZI × ZL) => (r, u.1, u.2) = res) := by
  refine Met_in (by decide) (Nat.le_of_ble_eq_true rfl) ?_
  intro p e s m args below meth c F G hP hr0 hk0 ls hl
  have hS := WS.start hP
  have hl : lv_has ls 4 [(0, .ref (gA g 0)), (1, .int a1)] := hl
  obtain ⟨H, hH⟩ : ∃ H, H = s.heap := ⟨_, rfl⟩
  rw [← hH] at hS ⊢
  clear hH hP
  rw [f_X7_fits] at h
  have w_63 : ∀ (σ : ZI) (τ : ZL) (s0 : Int32), f_X7_fits_63 a1 σ τ s0 = some res → ∀ (H : Heap) (locs : List Loc) (ls : Array Slot), WS g σ τ s H locs → lv_has ls 4 [(0, .ref (gA g 0)), (1, .int a1)] → W p l e rm_X7_fits s m args below meth c H locs 0 0 (MQ below (va_Qi (fun (r : Int32) (u : ZI × ZL) => (r, u.1, u.2) = res) (WQ g) (AA g)) args s 0 0 (AA g)) (F0 m 63 ls [.int s0]) := by
    intro  σ τ s0 h H locs ls hS hl
    rw [f_X7_fits_63] at h
    refine lv_istore_n (lv' := [(3, .int s0), (0, .ref (gA g 0)), (1, .int a1)]) F.1 F.2.1 dX7_fits_63 rfl hl (by decide) rfl (fun ls hl => ?_)
    refine lv_iload_n F.1 F.2.1 dX7_fits_64 rfl (lv_at hl 2 rfl) ?_
    refine lv_iconst (v := (2 : Int32)) F.1 F.2.1 dX7_fits_65 (by decide) ?_
    refine lv_icmp_gt (tgt := 77) F.1 F.2.1 dX7_fits_66 (by decide) (fun hc => ?_) (fun hc => ?_)
    · replace h := ifT h hc
      refine lv_aload_n F.1 F.2.1 dX7_fits_77 rfl (lv_at hl 1 rfl) ?_
      refine lv_iload_n F.1 F.2.1 dX7_fits_78 rfl (lv_at hl 0 rfl) ?_
      obtain ⟨q3, h_q3, h⟩ := bd h
      refine rVi F G hS hl.1 (c_X7_marksNoticed l g σ τ s0 q3 h_q3) lk_X7_279 ⟨rfl, rfl, Nat.le_of_ble_eq_true rfl, Nat.le_of_ble_eq_true rfl⟩ (rc_X7 G hS) rfl rfl (Nat.le_of_ble_eq_true rfl) dX7_fits_79 (kBi (fun H locs hS => ?_))
      exact e_i F hS (Option.some.inj h) hr0 dX7_fits_82 hk0
    replace h := ifF h hc
    refine lv_aload_n F.1 F.2.1 dX7_fits_69 rfl (lv_at hl 1 rfl) ?_
    refine lv_iload_n F.1 F.2.1 dX7_fits_70 rfl (lv_at hl 0 rfl) ?_
    obtain ⟨q4, h_q4, h⟩ := bd h
    refine rVi F G hS hl.1 (c_X7_jointsMissed l g σ τ s0 q4 h_q4) lk_X7_275 ⟨rfl, rfl, Nat.le_of_ble_eq_true rfl, Nat.le_of_ble_eq_true rfl⟩ (rc_X7 G hS) rfl rfl (Nat.le_of_ble_eq_true rfl) dX7_fits_71 (kBi (fun H locs hS => ?_))
    refine lv_goto (tgt := 82) F.1 F.2.1 dX7_fits_74 (by decide) ?_
    exact e_i F hS (Option.some.inj h) hr0 dX7_fits_82 hk0
  have w_58 : ∀ (σ : ZI) (τ : ZL), f_X7_fits_58 a1 σ τ = some res → ∀ (H : Heap) (locs : List Loc) (ls : Array Slot), WS g σ τ s H locs → lv_has ls 4 [(0, .ref (gA g 0)), (1, .int a1)] → W p l e rm_X7_fits s m args below meth c H locs 0 0 (MQ below (va_Qi (fun (r : Int32) (u : ZI × ZL) => (r, u.1, u.2) = res) (WQ g) (AA g)) args s 0 0 (AA g)) (F0 m 58 ls []) := by
    intro  σ τ h H locs ls hS hl
    rw [f_X7_fits_58] at h
    refine lv_iconst (v := (1 : Int32)) F.1 F.2.1 dX7_fits_58 (by decide) ?_
    refine lv_goto (tgt := 63) F.1 F.2.1 dX7_fits_59 (by decide) ?_
    exact w_63 σ τ (1 : Int32) h H locs _ hS (lv_sub hl [0, 1] rfl)
  obtain ⟨locs, hlo⟩ : ∃ z : List Loc, z = [] := ⟨_, rfl⟩
  rw [← hlo] at hS ⊢
  clear hlo
  refine lv_iload_n F.1 F.2.1 dX7_fits_0 rfl (lv_at hl 1 rfl) ?_
  refine lv_if_lt (tgt := 9) F.1 F.2.1 dX7_fits_1 (by decide) (fun hc => ?_) (fun hc => ?_)
  · replace h := ifT h hc
    refine lv_iconst (v := (-1 : Int32)) F.1 F.2.1 dX7_fits_9 (by decide) ?_
    exact e_i F hS (Option.some.inj h) hr0 dX7_fits_10 hk0
  replace h := ifF h hc
  refine lv_iload_n F.1 F.2.1 dX7_fits_4 rfl (lv_at hl 1 rfl) ?_
  refine lv_iconst (v := (4 : Int32)) F.1 F.2.1 dX7_fits_5 (by decide) ?_
  refine lv_icmp_le (tgt := 11) F.1 F.2.1 dX7_fits_6 (by decide) (fun hc => ?_) (fun hc => ?_)
  rotate_left
  · replace h := ifF h hc
    refine lv_iconst (v := (-1 : Int32)) F.1 F.2.1 dX7_fits_9 (by decide) ?_
    exact e_i F hS (Option.some.inj h) hr0 dX7_fits_10 hk0
  replace h := ifT h hc
  refine lv_aload_n F.1 F.2.1 dX7_fits_11 rfl (lv_at hl 0 rfl) ?_
  refine gf_X7_46 F G hS dX7_fits_12 ?_
  refine lv_aload_n F.1 F.2.1 dX7_fits_15 rfl (lv_at hl 0 rfl) ?_
  refine gf_X7_10 F G hS dX7_fits_16 ?_
  obtain ⟨q1, h_q1, h⟩ := bd h
  refine rNv F G hS hl.1 (c_X0_weighAlike l g σ τ 1 q1 h_q1) lk_X7_268 ⟨rfl, rfl, Nat.le_of_ble_eq_true rfl, Nat.le_of_ble_eq_true rfl⟩ (rc_X0 G hS) rfl rfl (Nat.le_of_ble_eq_true rfl) dX7_fits_19 (kBv (fun H locs hS => ?_))
  refine lv_aload_n F.1 F.2.1 dX7_fits_22 rfl (lv_at hl 0 rfl) ?_
  refine gf_X7_46 F G hS dX7_fits_23 ?_
  refine lv_aload_n F.1 F.2.1 dX7_fits_26 rfl (lv_at hl 0 rfl) ?_
  refine gf_X7_53 F G hS dX7_fits_27 ?_
  obtain ⟨q2, h_q2, h⟩ := bd h
  refine rNl F G hS hl.1 (c_X0_passAsSeen l g q1.1 q1.2 q2 h_q2) lk_X7_271 ⟨rfl, rfl, Nat.le_of_ble_eq_true rfl, Nat.le_of_ble_eq_true rfl⟩ (rc_X0 G hS) rfl rfl (Nat.le_of_ble_eq_true rfl) dX7_fits_30 (kJl (fun H locs hS => ?_))
  refine lv_l2i F.1 F.2.1 dX7_fits_33 rfl ?_
  refine lv_istore_n (lv' := [(2, .int q2.1.toInt32), (0, .ref (gA g 0)), (1, .int a1)]) F.1 F.2.1 dX7_fits_34 rfl hl (by decide) rfl (fun ls hl => ?_)
  refine lv_iload_n F.1 F.2.1 dX7_fits_35 rfl (lv_at hl 2 rfl) ?_
  refine lv_if_ne (tgt := 41) F.1 F.2.1 dX7_fits_36 (by decide) (fun hc => ?_) (fun hc => ?_)
  rotate_left
  · replace h := ifT h hc
    refine lv_iload_n F.1 F.2.1 dX7_fits_39 rfl (lv_at hl 0 rfl) ?_
    exact e_i F hS (Option.some.inj h) hr0 dX7_fits_40 hk0
  replace h := ifF h hc
  refine lv_iload_n F.1 F.2.1 dX7_fits_41 rfl (lv_at hl 0 rfl) ?_
  refine lv_if_ne (tgt := 48) F.1 F.2.1 dX7_fits_42 (by decide) (fun hc => ?_) (fun hc => ?_)
  rotate_left
  · replace h := ifT h hc
    refine lv_bipush (v := (-4 : Int32)) F.1 F.2.1 dX7_fits_45 (by decide) ?_
    exact e_i F hS (Option.some.inj h) hr0 dX7_fits_47 hk0
  replace h := ifF h hc
  refine lv_iload_n F.1 F.2.1 dX7_fits_48 rfl (lv_at hl 2 rfl) ?_
  refine lv_iconst (v := (1 : Int32)) F.1 F.2.1 dX7_fits_49 (by decide) ?_
  refine lv_icmp_eq (tgt := 58) F.1 F.2.1 dX7_fits_50 (by decide) (fun hc => ?_) (fun hc => ?_)
  · replace h := ifT h hc
    exact w_58 q1.1 q2.2 h H locs _ hS (lv_sub hl [1, 2] rfl)
  replace h := ifF h hc
  refine lv_iload_n F.1 F.2.1 dX7_fits_53 rfl (lv_at hl 2 rfl) ?_
  refine lv_iconst (v := (3 : Int32)) F.1 F.2.1 dX7_fits_54 (by decide) ?_
  refine lv_icmp_ne (tgt := 62) F.1 F.2.1 dX7_fits_55 (by decide) (fun hc => ?_) (fun hc => ?_)
  rotate_left
  · replace h := ifT h hc
    exact w_58 q1.1 q2.2 h H locs _ hS (lv_sub hl [1, 2] rfl)
  replace h := ifF h hc
  refine lv_iconst (v := (0 : Int32)) F.1 F.2.1 dX7_fits_62 (by decide) ?_
  exact w_63 q1.1 q2.2 (0 : Int32) h H locs _ hS (lv_sub hl [1, 2] rfl)
def f_X7_likely (σ : ZI) (τ : ZL) (a1 : Int32) : Option (Int64 × ZI × ZL) := (f_X7_isPart a1).bind (fun q1 => if q1 = 0 then (some ((-1 : Int64), σ, τ)) else ((f_X6_value σ 1 (6 : Int32)).bind (fun q2 => (f_X0_weighByOdds σ τ 1 q2 (-4 : Int32)).bind (fun q3 => (f_X0_passAsSeen q3.1 q3.2).bind (fun q4 => (f_X0_whole q4.2).bind (fun q5 => (f_X7_part q4.1 q5 a1).bind (fun q6 => some (q6, q3.1, q4.2))))))))
abbrev rm_X7_likely : Room := { frames := 4, cells := 0, slots := 0, locals := 90 }
set_option maxHeartbeats 4000000 in
set_option maxRecDepth 100000 in
theorem c_X7_likely (l : Launch) (g : GG) (σ : ZI) (τ : ZL) (a1 : Int32) (res : Int64 × ZI × ZL) (h : f_X7_likely σ τ a1 = some res) : ML l yX7_likely cX7_likely 2 (some .long) rm_X7_likely g [.ref (gA g 0), .int a1] σ τ (fun (r : Int64) (u : ZI × ZL) => (r, u.1, u.2) = res) := by
  refine Met_in (by decide) (Nat.le_of_ble_eq_true rfl) ?_
  intro p e s m args below meth c F G hP hr0 hk0 ls hl
  have hS := WS.start hP
  have hl : lv_has ls 2 [(0, .ref (gA g 0)), (1, .int a1)] := hl
  obtain ⟨H, hH⟩ : ∃ H, H = s.heap := ⟨_, rfl⟩
  rw [← hH] at hS ⊢
  clear hH hP
  rw [f_X7_likely] at h
  obtain ⟨locs, hlo⟩ : ∃ z : List Loc, z = [] := ⟨_, rfl⟩
  rw [← hlo] at hS ⊢
  clear hlo
  refine lv_iload_n F.1 F.2.1 dX7_likely_0 rfl (lv_at hl 1 rfl) ?_
  obtain ⟨q1, h_q1, h⟩ := bd h
  refine rSi F G hS hl.1 (c_X7_isPart l g σ τ a1 q1 h_q1) lk_X7_137 ⟨rfl, rfl, Nat.le_of_ble_eq_true rfl, Nat.le_of_ble_eq_true rfl⟩  rfl rfl (Nat.le_of_ble_eq_true rfl) dX7_likely_1 (kRi (fun H locs hS => ?_))
  refine lv_if_ne (tgt := 11) F.1 F.2.1 dX7_likely_4 (by decide) (fun hc => ?_) (fun hc => ?_)
  rotate_left
  · replace h := ifT h hc
    refine lv_ldc2 (v := (-1 : Int64)) F.1 F.2.1 F.2.2.2.1 (F.2.2.2.2 _ tb_718) dX7_likely_7 ?_
    exact e_l F hS (Option.some.inj h) hr0 dX7_likely_10 hk0
  replace h := ifF h hc
  refine lv_aload_n F.1 F.2.1 dX7_likely_11 rfl (lv_at hl 0 rfl) ?_
  refine gf_X7_46 F G hS dX7_likely_12 ?_
  refine lv_aload_n F.1 F.2.1 dX7_likely_15 rfl (lv_at hl 0 rfl) ?_
  refine gf_X7_10 F G hS dX7_likely_16 ?_
  refine lv_aload_n F.1 F.2.1 dX7_likely_19 rfl (lv_at hl 0 rfl) ?_
  refine gf_X7_10 F G hS dX7_likely_20 ?_
  refine lv_bipush (v := (6 : Int32)) F.1 F.2.1 dX7_likely_23 (by decide) ?_
  obtain ⟨q2, h_q2, h⟩ := bd h
  refine rNi F G hS hl.1 (c_X6_value l g σ τ 1 (6 : Int32) q2 h_q2) lk_X7_110 ⟨rfl, rfl, Nat.le_of_ble_eq_true rfl, Nat.le_of_ble_eq_true rfl⟩ (rc_X6 G hS rfl) rfl rfl (Nat.le_of_ble_eq_true rfl) dX7_likely_25 (kRi (fun H locs hS => ?_))
  refine lv_bipush (v := (-4 : Int32)) F.1 F.2.1 dX7_likely_28 (by decide) ?_
  obtain ⟨q3, h_q3, h⟩ := bd h
  refine rNv F G hS hl.1 (c_X0_weighByOdds l g σ τ 1 q2 (-4 : Int32) q3 h_q3) lk_X7_196 ⟨rfl, rfl, Nat.le_of_ble_eq_true rfl, Nat.le_of_ble_eq_true rfl⟩ (rc_X0 G hS) rfl rfl (Nat.le_of_ble_eq_true rfl) dX7_likely_30 (kBv (fun H locs hS => ?_))
  refine lv_aload_n F.1 F.2.1 dX7_likely_33 rfl (lv_at hl 0 rfl) ?_
  refine gf_X7_46 F G hS dX7_likely_34 ?_
  refine lv_aload_n F.1 F.2.1 dX7_likely_37 rfl (lv_at hl 0 rfl) ?_
  refine gf_X7_53 F G hS dX7_likely_38 ?_
  obtain ⟨q4, h_q4, h⟩ := bd h
  refine rNl F G hS hl.1 (c_X0_passAsSeen l g q3.1 q3.2 q4 h_q4) lk_X7_271 ⟨rfl, rfl, Nat.le_of_ble_eq_true rfl, Nat.le_of_ble_eq_true rfl⟩ (rc_X0 G hS) rfl rfl (Nat.le_of_ble_eq_true rfl) dX7_likely_41 (kJl (fun H locs hS => ?_))
  refine lv_aload_n F.1 F.2.1 dX7_likely_44 rfl (lv_at hl 0 rfl) ?_
  refine gf_X7_46 F G hS dX7_likely_45 ?_
  obtain ⟨q5, h_q5, h⟩ := bd h
  refine rNl F G hS hl.1 (c_X0_whole l g q3.1 q4.2 q5 h_q5) lk_X7_207 ⟨rfl, rfl, Nat.le_of_ble_eq_true rfl, Nat.le_of_ble_eq_true rfl⟩ (rc_X0 G hS) rfl rfl (Nat.le_of_ble_eq_true rfl) dX7_likely_48 (kRl (fun H locs hS => ?_))
  refine lv_iload_n F.1 F.2.1 dX7_likely_51 rfl (lv_at hl 1 rfl) ?_
  obtain ⟨q6, h_q6, h⟩ := bd h
  refine rSl F G hS hl.1 (c_X7_part l g q3.1 q4.2 q4.1 q5 a1 q6 h_q6) lk_X7_211 ⟨rfl, rfl, Nat.le_of_ble_eq_true rfl, Nat.le_of_ble_eq_true rfl⟩  rfl rfl (Nat.le_of_ble_eq_true rfl) dX7_likely_52 (kRl (fun H locs hS => ?_))
  exact e_l F hS (Option.some.inj h) hr0 dX7_likely_55 hk0
def f_X7_nextSeed (a1 : Int32) : Option (Int32) := some ((a1 * (1103515245 : Int32)) + (12345 : Int32))
abbrev rm_X7_nextSeed : Room := { frames := 0, cells := 0, slots := 0, locals := 0 }
set_option maxHeartbeats 4000000 in
set_option maxRecDepth 100000 in
theorem c_X7_nextSeed (l : Launch) (g : GG) (σ : ZI) (τ : ZL) (a1 : Int32) (res : Int32) (h : f_X7_nextSeed a1 = some res) : MI l yX7_nextSeed cX7_nextSeed 1 (some .int) rm_X7_nextSeed g [.int a1] σ τ (fun (r : Int32) (u : ZI × ZL) => r = res ∧ u.1 = σ ∧ u.2 = τ) := by
  refine Met_in (by decide) (Nat.le_of_ble_eq_true rfl) ?_
  intro p e s m args below meth c F G hP hr0 hk0 ls hl
  have hS := WS.start hP
  have hl : lv_has ls 1 [(0, .int a1)] := hl
  obtain ⟨H, hH⟩ : ∃ H, H = s.heap := ⟨_, rfl⟩
  rw [← hH] at hS ⊢
  clear hH hP
  rw [f_X7_nextSeed] at h
  obtain ⟨locs, hlo⟩ : ∃ z : List Loc, z = [] := ⟨_, rfl⟩
  rw [← hlo] at hS ⊢
  clear hlo
  refine lv_iload_n F.1 F.2.1 dX7_nextSeed_0 rfl (lv_at hl 0 rfl) ?_
  refine lv_ldcw (v := (1103515245 : Int32)) F.1 F.2.1 F.2.2.2.1 (F.2.2.2.2 _ tb_941) dX7_nextSeed_1 ?_
  refine lv_imul F.1 F.2.1 dX7_nextSeed_4 ?_
  refine lv_sipush (v := (12345 : Int32)) F.1 F.2.1 dX7_nextSeed_5 (by decide) ?_
  refine lv_iadd F.1 F.2.1 dX7_nextSeed_8 ?_
  exact e_i F hS ⟨Option.some.inj h, rfl, rfl⟩ hr0 dX7_nextSeed_9 hk0
def f_X7_figureOf (a1 : Int32) : Option (Int32) := some (((a1 >>> ((16 : Int32) &&& 31)) &&& (32767 : Int32)) - ((a1 >>> ((16 : Int32) &&& 31)) &&& (32767 : Int32)) / (10 : Int32) * (10 : Int32))
abbrev rm_X7_figureOf : Room := { frames := 0, cells := 0, slots := 0, locals := 0 }
set_option maxHeartbeats 4000000 in
set_option maxRecDepth 100000 in
theorem c_X7_figureOf (l : Launch) (g : GG) (σ : ZI) (τ : ZL) (a1 : Int32) (res : Int32) (h : f_X7_figureOf a1 = some res) : MI l yX7_figureOf cX7_figureOf 1 (some .int) rm_X7_figureOf g [.int a1] σ τ (fun (r : Int32) (u : ZI × ZL) => r = res ∧ u.1 = σ ∧ u.2 = τ) := by
  refine Met_in (by decide) (Nat.le_of_ble_eq_true rfl) ?_
  intro p e s m args below meth c F G hP hr0 hk0 ls hl
  have hS := WS.start hP
  have hl : lv_has ls 1 [(0, .int a1)] := hl
  obtain ⟨H, hH⟩ : ∃ H, H = s.heap := ⟨_, rfl⟩
  rw [← hH] at hS ⊢
  clear hH hP
  rw [f_X7_figureOf] at h
  obtain ⟨locs, hlo⟩ : ∃ z : List Loc, z = [] := ⟨_, rfl⟩
  rw [← hlo] at hS ⊢
  clear hlo
  refine lv_iload_n F.1 F.2.1 dX7_figureOf_0 rfl (lv_at hl 0 rfl) ?_
  refine lv_bipush (v := (16 : Int32)) F.1 F.2.1 dX7_figureOf_1 (by decide) ?_
  refine lv_ishr F.1 F.2.1 dX7_figureOf_3 ?_
  refine lv_sipush (v := (32767 : Int32)) F.1 F.2.1 dX7_figureOf_4 (by decide) ?_
  refine lv_iand F.1 F.2.1 dX7_figureOf_7 ?_
  refine lv_bipush (v := (10 : Int32)) F.1 F.2.1 dX7_figureOf_8 (by decide) ?_
  refine lv_irem F.1 F.2.1 dX7_figureOf_10 (by decide) ?_
  exact e_i F hS ⟨Option.some.inj h, rfl, rfl⟩ hr0 dX7_figureOf_11 hk0
def f_X7_drift_120 (a1 : Int32) (a2 : Int32) (k_74 : ZI → Int32 → Int32 → Int32 → Int32 → Option (Int32 × ZI)) (σ : ZI) (v3 : Int32) (v4 : Int32) (v5 : Int32) (v6 : Int32) : Option (Int32 × ZI) := k_74 σ v3 v4 v5 (v6 + (1 : Int32))
def f_X7_drift_74 (a1 : Int32) (a2 : Int32)  : Nat → ZI → Int32 → Int32 → Int32 → Int32 → Option (Int32 × ZI)
  | 0, _, _, _, _, _ => none
  | n + 1, σ, v3, v4, v5, v6 => (f_X6_value σ 1 (2 : Int32)).bind (fun q3 => if q3 ≤ v6 then ((f_X1_go σ 1 v4 v5).bind (fun q4 => (f_X1_answer q4 a2).bind (fun q5 => some (q5, q4)))) else ((f_X7_nextSeed v3).bind (fun q6 => (f_X7_figureOf q6).bind (fun q7 => (f_X7_at σ 7 v6).bind (fun q8 => if q8 ≤ q7 then (f_X7_drift_120 a1 a2 (fun σ v3 v4 v5 v6 => f_X7_drift_74 a1 a2 n σ v3 v4 v5 v6) σ q6 v4 v5 v6) else (lt_ ((v5 ||| ((1 : Int32) <<< (v6 &&& 31)))) (fun x9 => f_X7_drift_120 a1 a2 (fun σ v3 v4 v5 v6 => f_X7_drift_74 a1 a2 n σ v3 v4 v5 v6) σ q6 v4 x9 v6)))))))
def f_X7_drift_62 (a1 : Int32) (a2 : Int32) (k_17 : ZI → Int32 → Int32 → Int32 → Option (Int32 × ZI)) (σ : ZI) (v3 : Int32) (v4 : Int32) (v5 : Int32) : Option (Int32 × ZI) := k_17 σ v3 v4 (v5 + (1 : Int32))
def f_X7_drift_17 (a1 : Int32) (a2 : Int32)  : Nat → ZI → Int32 → Int32 → Int32 → Option (Int32 × ZI)
  | 0, _, _, _, _ => none
  | n + 1, σ, v3, v4, v5 => (f_X6_value σ 1 (0 : Int32)).bind (fun q2 => if q2 < v5 then (f_X7_drift_74 a1 a2 3000 σ v3 v4 (0 : Int32) (0 : Int32)) else ((f_X7_nextSeed v3).bind (fun q10 => (f_X7_figureOf q10).bind (fun q11 => (f_X6_value σ 1 (6 : Int32)).bind (fun q12 => if q12 ≤ q11 then (f_X7_drift_62 a1 a2 (fun σ v3 v4 v5 => f_X7_drift_17 a1 a2 n σ v3 v4 v5) σ q10 v4 v5) else (lt_ ((v4 ||| ((1 : Int32) <<< ((v5 - (1 : Int32)) &&& 31)))) (fun x13 => f_X7_drift_62 a1 a2 (fun σ v3 v4 v5 => f_X7_drift_17 a1 a2 n σ v3 v4 v5) σ q10 x13 v5)))))))
def f_X7_drift (σ : ZI) (a1 : Int32) (a2 : Int32) : Option (Int32 × ZI) := (f_X7_isNightPart a2).bind (fun q1 => if q1 = 0 then (some ((-1 : Int32), σ)) else (f_X7_drift_17 a1 a2 3000 σ a1 (0 : Int32) (1 : Int32)))
abbrev rm_X7_drift : Room := { frames := 5, cells := 0, slots := 0, locals := 114 }
set_option maxHeartbeats 4000000 in
set_option maxRecDepth 100000 in
theorem c_X7_drift (l : Launch) (g : GG) (σ : ZI) (τ : ZL) (a1 : Int32) (a2 : Int32) (res : Int32 × ZI) (h : f_X7_drift σ a1 a2 = some res) : MI l yX7_drift cX7_drift 7 (some .int) rm_X7_drift g [.ref (gA g 0), .int a1, .int a2] σ τ (fun (r : Int32) (u : ZI × ZL) => (r, u.1) = res ∧ u.2 = τ) := by
  refine Met_in (by decide) (Nat.le_of_ble_eq_true rfl) ?_
  intro p e s m args below meth c F G hP hr0 hk0 ls hl
  have hS := WS.start hP
  have hl : lv_has ls 7 [(0, .ref (gA g 0)), (1, .int a1), (2, .int a2)] := hl
  obtain ⟨H, hH⟩ : ∃ H, H = s.heap := ⟨_, rfl⟩
  rw [← hH] at hS ⊢
  clear hH hP
  rw [f_X7_drift] at h
  have w_120 : ∀ (k_74 : ZI → Int32 → Int32 → Int32 → Int32 → Option (Int32 × ZI)) (hk_74 : ∀ (σ : ZI) (v3 : Int32) (v4 : Int32) (v5 : Int32) (v6 : Int32), k_74 σ v3 v4 v5 v6 = some res → ∀ (H : Heap) (locs : List Loc) (ls : Array Slot), WS g σ τ s H locs → lv_has ls 7 [(0, .ref (gA g 0)), (2, .int a2), (3, .int v3), (4, .int v4), (5, .int v5), (6, .int v6)] → W p l e rm_X7_drift s m args below meth c H locs 0 0 (MQ below (va_Qi (fun (r : Int32) (u : ZI × ZL) => (r, u.1) = res ∧ u.2 = τ) (WQ g) (AA g)) args s 0 0 (AA g)) (F0 m 74 ls [])) (σ : ZI) (v3 : Int32) (v4 : Int32) (v5 : Int32) (v6 : Int32), f_X7_drift_120 a1 a2 k_74 σ v3 v4 v5 v6 = some res → ∀ (H : Heap) (locs : List Loc) (ls : Array Slot), WS g σ τ s H locs → lv_has ls 7 [(0, .ref (gA g 0)), (2, .int a2), (3, .int v3), (4, .int v4), (5, .int v5), (6, .int v6)] → W p l e rm_X7_drift s m args below meth c H locs 0 0 (MQ below (va_Qi (fun (r : Int32) (u : ZI × ZL) => (r, u.1) = res ∧ u.2 = τ) (WQ g) (AA g)) args s 0 0 (AA g)) (F0 m 120 ls []) := by
    intro k_74 hk_74 σ v3 v4 v5 v6 h H locs ls hS hl
    rw [f_X7_drift_120] at h
    refine lv_iinc (v := (v6 + (1 : Int32))) (lv' := [(6, .int (v6 + (1 : Int32))), (0, .ref (gA g 0)), (2, .int a2), (3, .int v3), (4, .int v4), (5, .int v5)]) F.1 F.2.1 dX7_drift_120 hl (k := 5) rfl rfl (by decide) rfl (fun ls hl => ?_)
    refine lv_goto (tgt := 74) F.1 F.2.1 dX7_drift_123 (by decide) ?_
    exact hk_74 σ v3 v4 v5 (v6 + (1 : Int32)) h H locs _ hS (lv_sub hl [1, 2, 3, 4, 5, 0] rfl)
  have w_74 : ∀ (n : Nat) (σ : ZI) (v3 : Int32) (v4 : Int32) (v5 : Int32) (v6 : Int32), f_X7_drift_74 a1 a2 n σ v3 v4 v5 v6 = some res → ∀ (H : Heap) (locs : List Loc) (ls : Array Slot), WS g σ τ s H locs → lv_has ls 7 [(0, .ref (gA g 0)), (2, .int a2), (3, .int v3), (4, .int v4), (5, .int v5), (6, .int v6)] → W p l e rm_X7_drift s m args below meth c H locs 0 0 (MQ below (va_Qi (fun (r : Int32) (u : ZI × ZL) => (r, u.1) = res ∧ u.2 = τ) (WQ g) (AA g)) args s 0 0 (AA g)) (F0 m 74 ls []) := by
    intro n
    induction n with
    | zero => intro σ v3 v4 v5 v6 h; rw [f_X7_drift_74] at h; cases h
    | succ n ih =>
      intro σ v3 v4 v5 v6 h H locs ls hS hl
      rw [f_X7_drift_74] at h
      refine lv_iload F.1 F.2.1 dX7_drift_74 (lv_at hl 5 rfl) ?_
      refine lv_aload_n F.1 F.2.1 dX7_drift_76 rfl (lv_at hl 0 rfl) ?_
      refine gf_X7_10 F G hS dX7_drift_77 ?_
      refine lv_iconst (v := (2 : Int32)) F.1 F.2.1 dX7_drift_80 (by decide) ?_
      obtain ⟨q3, h_q3, h⟩ := bd h
      refine rNi F G hS hl.1 (c_X6_value l g σ τ 1 (2 : Int32) q3 h_q3) lk_X7_110 ⟨rfl, rfl, Nat.le_of_ble_eq_true rfl, Nat.le_of_ble_eq_true rfl⟩ (rc_X6 G hS rfl) rfl rfl (Nat.le_of_ble_eq_true rfl) dX7_drift_81 (kRi (fun H locs hS => ?_))
      refine lv_icmp_ge (tgt := 126) F.1 F.2.1 dX7_drift_84 (by decide) (fun hc => ?_) (fun hc => ?_)
      · replace h := ifT h hc
        refine lv_aload_n F.1 F.2.1 dX7_drift_126 rfl (lv_at hl 0 rfl) ?_
        refine gf_X7_39 F G hS dX7_drift_127 ?_
        refine lv_aload_n F.1 F.2.1 dX7_drift_130 rfl (lv_at hl 0 rfl) ?_
        refine gf_X7_10 F G hS dX7_drift_131 ?_
        refine lv_iload F.1 F.2.1 dX7_drift_134 (lv_at hl 3 rfl) ?_
        refine lv_iload F.1 F.2.1 dX7_drift_136 (lv_at hl 4 rfl) ?_
        obtain ⟨q4, h_q4, h⟩ := bd h
        refine rNv F G hS hl.1 (c_X1_go l g σ τ 1 v4 v5 q4 h_q4) lk_X7_183 ⟨rfl, rfl, Nat.le_of_ble_eq_true rfl, Nat.le_of_ble_eq_true rfl⟩ (rc_X1 G hS) rfl rfl (Nat.le_of_ble_eq_true rfl) dX7_drift_138 (kIv (fun H locs hS => ?_))
        refine lv_aload_n F.1 F.2.1 dX7_drift_141 rfl (lv_at hl 0 rfl) ?_
        refine gf_X7_39 F G hS dX7_drift_142 ?_
        refine lv_iload_n F.1 F.2.1 dX7_drift_145 rfl (lv_at hl 1 rfl) ?_
        obtain ⟨q5, h_q5, h⟩ := bd h
        refine rNi F G hS hl.1 (c_X1_answer l g q4 τ a2 q5 h_q5) lk_X7_187 ⟨rfl, rfl, Nat.le_of_ble_eq_true rfl, Nat.le_of_ble_eq_true rfl⟩ (rc_X1 G hS) rfl rfl (Nat.le_of_ble_eq_true rfl) dX7_drift_146 (kRi (fun H locs hS => ?_))
        exact e_i F hS ⟨Option.some.inj h, rfl⟩ hr0 dX7_drift_149 hk0
      replace h := ifF h hc
      refine lv_iload_n F.1 F.2.1 dX7_drift_87 rfl (lv_at hl 2 rfl) ?_
      obtain ⟨q6, h_q6, h⟩ := bd h
      refine rSi F G hS hl.1 (c_X7_nextSeed l g σ τ v3 q6 h_q6) lk_X7_282 ⟨rfl, rfl, Nat.le_of_ble_eq_true rfl, Nat.le_of_ble_eq_true rfl⟩  rfl rfl (Nat.le_of_ble_eq_true rfl) dX7_drift_88 (kRi (fun H locs hS => ?_))
      refine lv_istore_n (lv' := [(3, .int q6), (0, .ref (gA g 0)), (2, .int a2), (4, .int v4), (5, .int v5), (6, .int v6)]) F.1 F.2.1 dX7_drift_91 rfl hl (by decide) rfl (fun ls hl => ?_)
      refine lv_iload_n F.1 F.2.1 dX7_drift_92 rfl (lv_at hl 0 rfl) ?_
      obtain ⟨q7, h_q7, h⟩ := bd h
      refine rSi F G hS hl.1 (c_X7_figureOf l g σ τ q6 q7 h_q7) lk_X7_285 ⟨rfl, rfl, Nat.le_of_ble_eq_true rfl, Nat.le_of_ble_eq_true rfl⟩  rfl rfl (Nat.le_of_ble_eq_true rfl) dX7_drift_93 (kRi (fun H locs hS => ?_))
      refine lv_aload_n F.1 F.2.1 dX7_drift_96 rfl (lv_at hl 1 rfl) ?_
      refine gf_X7_10 F G hS dX7_drift_97 ?_
      refine gf_X7_143 F G hS rfl dX7_drift_100 ?_
      refine lv_iload F.1 F.2.1 dX7_drift_103 (lv_at hl 5 rfl) ?_
      obtain ⟨q8, h_q8, h⟩ := bd h
      refine rSi F G hS hl.1 (c_X7_at l g σ τ 7 v6 q8 h_q8) lk_X7_120 ⟨rfl, rfl, Nat.le_of_ble_eq_true rfl, Nat.le_of_ble_eq_true rfl⟩  rfl rfl (Nat.le_of_ble_eq_true rfl) dX7_drift_105 (kRi (fun H locs hS => ?_))
      refine lv_icmp_ge (tgt := 120) F.1 F.2.1 dX7_drift_108 (by decide) (fun hc => ?_) (fun hc => ?_)
      · replace h := ifT h hc
        exact w_120 _ (fun σ v3 v4 v5 v6 => ih σ v3 v4 v5 v6) σ q6 v4 v5 v6 h H locs _ hS (lv_sub hl [1, 2, 0, 3, 4, 5] rfl)
      replace h := ifF h hc
      refine lv_iload F.1 F.2.1 dX7_drift_111 (lv_at hl 4 rfl) ?_
      refine lv_iconst (v := (1 : Int32)) F.1 F.2.1 dX7_drift_113 (by decide) ?_
      refine lv_iload F.1 F.2.1 dX7_drift_114 (lv_at hl 5 rfl) ?_
      refine lv_ishl F.1 F.2.1 dX7_drift_116 ?_
      refine lv_ior F.1 F.2.1 dX7_drift_117 ?_
      obtain ⟨x9, e_x9, h⟩ := ltE h
      refine x_topi e_x9 ?_
      clear e_x9
      refine lv_istore (lv' := [(5, .int x9), (3, .int q6), (0, .ref (gA g 0)), (2, .int a2), (4, .int v4), (6, .int v6)]) F.1 F.2.1 dX7_drift_118 hl (by decide) rfl (fun ls hl => ?_)
      exact w_120 _ (fun σ v3 v4 v5 v6 => ih σ v3 v4 v5 v6) σ q6 v4 x9 v6 h H locs _ hS (lv_sub hl [2, 3, 1, 4, 0, 5] rfl)
  have w_62 : ∀ (k_17 : ZI → Int32 → Int32 → Int32 → Option (Int32 × ZI)) (hk_17 : ∀ (σ : ZI) (v3 : Int32) (v4 : Int32) (v5 : Int32), k_17 σ v3 v4 v5 = some res → ∀ (H : Heap) (locs : List Loc) (ls : Array Slot), WS g σ τ s H locs → lv_has ls 7 [(0, .ref (gA g 0)), (2, .int a2), (3, .int v3), (4, .int v4), (5, .int v5)] → W p l e rm_X7_drift s m args below meth c H locs 0 0 (MQ below (va_Qi (fun (r : Int32) (u : ZI × ZL) => (r, u.1) = res ∧ u.2 = τ) (WQ g) (AA g)) args s 0 0 (AA g)) (F0 m 17 ls [])) (σ : ZI) (v3 : Int32) (v4 : Int32) (v5 : Int32), f_X7_drift_62 a1 a2 k_17 σ v3 v4 v5 = some res → ∀ (H : Heap) (locs : List Loc) (ls : Array Slot), WS g σ τ s H locs → lv_has ls 7 [(0, .ref (gA g 0)), (2, .int a2), (3, .int v3), (4, .int v4), (5, .int v5)] → W p l e rm_X7_drift s m args below meth c H locs 0 0 (MQ below (va_Qi (fun (r : Int32) (u : ZI × ZL) => (r, u.1) = res ∧ u.2 = τ) (WQ g) (AA g)) args s 0 0 (AA g)) (F0 m 62 ls []) := by
    intro k_17 hk_17 σ v3 v4 v5 h H locs ls hS hl
    rw [f_X7_drift_62] at h
    refine lv_iinc (v := (v5 + (1 : Int32))) (lv' := [(5, .int (v5 + (1 : Int32))), (0, .ref (gA g 0)), (2, .int a2), (3, .int v3), (4, .int v4)]) F.1 F.2.1 dX7_drift_62 hl (k := 4) rfl rfl (by decide) rfl (fun ls hl => ?_)
    refine lv_goto (tgt := 17) F.1 F.2.1 dX7_drift_65 (by decide) ?_
    exact hk_17 σ v3 v4 (v5 + (1 : Int32)) h H locs _ hS (lv_sub hl [1, 2, 3, 4, 0] rfl)
  have w_17 : ∀ (n : Nat) (σ : ZI) (v3 : Int32) (v4 : Int32) (v5 : Int32), f_X7_drift_17 a1 a2 n σ v3 v4 v5 = some res → ∀ (H : Heap) (locs : List Loc) (ls : Array Slot), WS g σ τ s H locs → lv_has ls 7 [(0, .ref (gA g 0)), (2, .int a2), (3, .int v3), (4, .int v4), (5, .int v5)] → W p l e rm_X7_drift s m args below meth c H locs 0 0 (MQ below (va_Qi (fun (r : Int32) (u : ZI × ZL) => (r, u.1) = res ∧ u.2 = τ) (WQ g) (AA g)) args s 0 0 (AA g)) (F0 m 17 ls []) := by
    intro n
    induction n with
    | zero => intro σ v3 v4 v5 h; rw [f_X7_drift_17] at h; cases h
    | succ n ih =>
      intro σ v3 v4 v5 h H locs ls hS hl
      rw [f_X7_drift_17] at h
      refine lv_iload F.1 F.2.1 dX7_drift_17 (lv_at hl 4 rfl) ?_
      refine lv_aload_n F.1 F.2.1 dX7_drift_19 rfl (lv_at hl 0 rfl) ?_
      refine gf_X7_10 F G hS dX7_drift_20 ?_
      refine lv_iconst (v := (0 : Int32)) F.1 F.2.1 dX7_drift_23 (by decide) ?_
      obtain ⟨q2, h_q2, h⟩ := bd h
      refine rNi F G hS hl.1 (c_X6_value l g σ τ 1 (0 : Int32) q2 h_q2) lk_X7_110 ⟨rfl, rfl, Nat.le_of_ble_eq_true rfl, Nat.le_of_ble_eq_true rfl⟩ (rc_X6 G hS rfl) rfl rfl (Nat.le_of_ble_eq_true rfl) dX7_drift_24 (kRi (fun H locs hS => ?_))
      refine lv_icmp_gt (tgt := 68) F.1 F.2.1 dX7_drift_27 (by decide) (fun hc => ?_) (fun hc => ?_)
      · replace h := ifT h hc
        refine lv_iconst (v := (0 : Int32)) F.1 F.2.1 dX7_drift_68 (by decide) ?_
        refine lv_istore (lv' := [(5, .int (0 : Int32)), (0, .ref (gA g 0)), (2, .int a2), (3, .int v3), (4, .int v4)]) F.1 F.2.1 dX7_drift_69 hl (by decide) rfl (fun ls hl => ?_)
        refine lv_iconst (v := (0 : Int32)) F.1 F.2.1 dX7_drift_71 (by decide) ?_
        refine lv_istore (lv' := [(6, .int (0 : Int32)), (5, .int (0 : Int32)), (0, .ref (gA g 0)), (2, .int a2), (3, .int v3), (4, .int v4)]) F.1 F.2.1 dX7_drift_72 hl (by decide) rfl (fun ls hl => ?_)
        exact w_74 3000 σ v3 v4 (0 : Int32) (0 : Int32) h H locs _ hS (lv_sub hl [2, 3, 4, 5, 1, 0] rfl)
      replace h := ifF h hc
      refine lv_iload_n F.1 F.2.1 dX7_drift_30 rfl (lv_at hl 2 rfl) ?_
      obtain ⟨q10, h_q10, h⟩ := bd h
      refine rSi F G hS hl.1 (c_X7_nextSeed l g σ τ v3 q10 h_q10) lk_X7_282 ⟨rfl, rfl, Nat.le_of_ble_eq_true rfl, Nat.le_of_ble_eq_true rfl⟩  rfl rfl (Nat.le_of_ble_eq_true rfl) dX7_drift_31 (kRi (fun H locs hS => ?_))
      refine lv_istore_n (lv' := [(3, .int q10), (0, .ref (gA g 0)), (2, .int a2), (4, .int v4), (5, .int v5)]) F.1 F.2.1 dX7_drift_34 rfl hl (by decide) rfl (fun ls hl => ?_)
      refine lv_iload_n F.1 F.2.1 dX7_drift_35 rfl (lv_at hl 0 rfl) ?_
      obtain ⟨q11, h_q11, h⟩ := bd h
      refine rSi F G hS hl.1 (c_X7_figureOf l g σ τ q10 q11 h_q11) lk_X7_285 ⟨rfl, rfl, Nat.le_of_ble_eq_true rfl, Nat.le_of_ble_eq_true rfl⟩  rfl rfl (Nat.le_of_ble_eq_true rfl) dX7_drift_36 (kRi (fun H locs hS => ?_))
      refine lv_aload_n F.1 F.2.1 dX7_drift_39 rfl (lv_at hl 1 rfl) ?_
      refine gf_X7_10 F G hS dX7_drift_40 ?_
      refine lv_bipush (v := (6 : Int32)) F.1 F.2.1 dX7_drift_43 (by decide) ?_
      obtain ⟨q12, h_q12, h⟩ := bd h
      refine rNi F G hS hl.1 (c_X6_value l g σ τ 1 (6 : Int32) q12 h_q12) lk_X7_110 ⟨rfl, rfl, Nat.le_of_ble_eq_true rfl, Nat.le_of_ble_eq_true rfl⟩ (rc_X6 G hS rfl) rfl rfl (Nat.le_of_ble_eq_true rfl) dX7_drift_45 (kRi (fun H locs hS => ?_))
      refine lv_icmp_ge (tgt := 62) F.1 F.2.1 dX7_drift_48 (by decide) (fun hc => ?_) (fun hc => ?_)
      · replace h := ifT h hc
        exact w_62 _ (fun σ v3 v4 v5 => ih σ v3 v4 v5) σ q10 v4 v5 h H locs _ hS (lv_sub hl [1, 2, 0, 3, 4] rfl)
      replace h := ifF h hc
      refine lv_iload F.1 F.2.1 dX7_drift_51 (lv_at hl 3 rfl) ?_
      refine lv_iconst (v := (1 : Int32)) F.1 F.2.1 dX7_drift_53 (by decide) ?_
      refine lv_iload F.1 F.2.1 dX7_drift_54 (lv_at hl 4 rfl) ?_
      refine lv_iconst (v := (1 : Int32)) F.1 F.2.1 dX7_drift_56 (by decide) ?_
      refine lv_isub F.1 F.2.1 dX7_drift_57 ?_
      refine lv_ishl F.1 F.2.1 dX7_drift_58 ?_
      refine lv_ior F.1 F.2.1 dX7_drift_59 ?_
      obtain ⟨x13, e_x13, h⟩ := ltE h
      refine x_topi e_x13 ?_
      clear e_x13
      refine lv_istore (lv' := [(4, .int x13), (3, .int q10), (0, .ref (gA g 0)), (2, .int a2), (5, .int v5)]) F.1 F.2.1 dX7_drift_60 hl (by decide) rfl (fun ls hl => ?_)
      exact w_62 _ (fun σ v3 v4 v5 => ih σ v3 v4 v5) σ q10 x13 v5 h H locs _ hS (lv_sub hl [2, 3, 1, 0, 4] rfl)
  obtain ⟨locs, hlo⟩ : ∃ z : List Loc, z = [] := ⟨_, rfl⟩
  rw [← hlo] at hS ⊢
  clear hlo
  refine lv_iload_n F.1 F.2.1 dX7_drift_0 rfl (lv_at hl 2 rfl) ?_
  obtain ⟨q1, h_q1, h⟩ := bd h
  refine rSi F G hS hl.1 (c_X7_isNightPart l g σ τ a2 q1 h_q1) lk_X7_180 ⟨rfl, rfl, Nat.le_of_ble_eq_true rfl, Nat.le_of_ble_eq_true rfl⟩  rfl rfl (Nat.le_of_ble_eq_true rfl) dX7_drift_1 (kRi (fun H locs hS => ?_))
  refine lv_if_ne (tgt := 9) F.1 F.2.1 dX7_drift_4 (by decide) (fun hc => ?_) (fun hc => ?_)
  rotate_left
  · replace h := ifT h hc
    refine lv_iconst (v := (-1 : Int32)) F.1 F.2.1 dX7_drift_7 (by decide) ?_
    exact e_i F hS ⟨Option.some.inj h, rfl⟩ hr0 dX7_drift_8 hk0
  replace h := ifF h hc
  refine lv_iload_n F.1 F.2.1 dX7_drift_9 rfl (lv_at hl 1 rfl) ?_
  refine lv_istore_n (lv' := [(3, .int a1), (0, .ref (gA g 0)), (1, .int a1), (2, .int a2)]) F.1 F.2.1 dX7_drift_10 rfl hl (by decide) rfl (fun ls hl => ?_)
  refine lv_iconst (v := (0 : Int32)) F.1 F.2.1 dX7_drift_11 (by decide) ?_
  refine lv_istore (lv' := [(4, .int (0 : Int32)), (3, .int a1), (0, .ref (gA g 0)), (1, .int a1), (2, .int a2)]) F.1 F.2.1 dX7_drift_12 hl (by decide) rfl (fun ls hl => ?_)
  refine lv_iconst (v := (1 : Int32)) F.1 F.2.1 dX7_drift_14 (by decide) ?_
  refine lv_istore (lv' := [(5, .int (1 : Int32)), (4, .int (0 : Int32)), (3, .int a1), (0, .ref (gA g 0)), (1, .int a1), (2, .int a2)]) F.1 F.2.1 dX7_drift_15 hl (by decide) rfl (fun ls hl => ?_)
  exact w_17 3000 σ a1 (0 : Int32) (1 : Int32) h H locs _ hS (lv_sub hl [3, 5, 2, 1, 0] rfl)
