def f_X8_readMore_30 (a1 : Int32)  (σ : ZI) (v2 : Int32) : Option (ZI) := if inB (σ 60 15) 18 = true then (lt_ (va_up σ 66 (upd (σ 66) (σ 60 15).toNatClampNeg v2)) (fun σ15 => (f_X8_step σ15).bind (fun q16 => (f_X8_jointHere q16 (q16 60 19)).bind (fun q17 => lt_ (va_up q17.2 60 (upd (q17.2 60) 19 ((q17.2 60 19) ||| ((1 : Int32) <<< ((q17.1 - (1 : Int32)) &&& 31))))) (fun σ18 => if inB ((2 : Int32) * (σ18 60 15)) 6 = true then (lt_ (va_up σ18 67 (upd (σ18 67) ((2 : Int32) * (σ18 60 15)).toNatClampNeg q17.1)) (fun σ19 => (f_X8_number σ19 (0 : Int32) (9 : Int32)).bind (fun q20 => if inB (((2 : Int32) * (σ19 60 15)) + (1 : Int32)) 6 = true then (lt_ (va_up q20.2 67 (upd (q20.2 67) (((2 : Int32) * (σ19 60 15)) + (1 : Int32)).toNatClampNeg q20.1)) (fun σ21 => lt_ (va_up σ21 60 (upd (σ21 60) 15 ((σ21 60 15) + (1 : Int32)))) (fun σ22 => some σ22))) else none))) else none))))) else none
def f_X8_readMore (σ : ZI) (a1 : Int32) : Option (ZI) := if a1 = (7 : Int32) then ((f_X8_nameHere σ).bind (fun q14 => if (σ 60 25) = 0 then (if 0 ≤ (q14 - (11 : Int32)) then (f_X8_readMore_30 a1 σ (q14 - (11 : Int32))) else ((f_X8_fails σ (2 : Int32)).bind (fun q23 => f_X8_readMore_30 a1 q23 (q14 - (11 : Int32))))) else (f_X8_readMore_30 a1 σ (q14 - (11 : Int32))))) else (if a1 = (8 : Int32) then ((f_X8_jointHere σ (σ 60 20)).bind (fun q8 => lt_ (va_up q8.2 60 (upd (q8.2 60) 20 ((q8.2 60 20) ||| ((1 : Int32) <<< ((q8.1 - (1 : Int32)) &&& 31))))) (fun σ9 => if inB (σ9 60 16) 3 = true then (lt_ (va_up σ9 68 (upd (σ9 68) (σ9 60 16).toNatClampNeg q8.1)) (fun σ10 => (f_X8_number σ10 (0 : Int32) (10 : Int32)).bind (fun q11 => if inB ((3 : Int32) + (σ10 60 16)) 18 = true then (lt_ (va_up q11.2 66 (upd (q11.2 66) ((3 : Int32) + (σ10 60 16)).toNatClampNeg q11.1)) (fun σ12 => lt_ (va_up σ12 60 (upd (σ12 60) 16 ((σ12 60 16) + (1 : Int32)))) (fun σ13 => some σ13))) else none))) else none))) else (if a1 = (9 : Int32) then ((f_X8_number σ (0 : Int32) (99 : Int32)).bind (fun q3 => if inB ((6 : Int32) + (σ 60 17)) 18 = true then (lt_ (va_up q3.2 66 (upd (q3.2 66) ((6 : Int32) + (σ 60 17)).toNatClampNeg q3.1)) (fun σ4 => (f_X8_number σ4 (0 : Int32) (9 : Int32)).bind (fun q5 => if inB (σ4 60 17) 5 = true then (lt_ (va_up q5.2 69 (upd (q5.2 69) (σ4 60 17).toNatClampNeg q5.1)) (fun σ6 => lt_ (va_up σ6 60 (upd (σ6 60) 17 ((σ6 60 17) + (1 : Int32)))) (fun σ7 => some σ7))) else none))) else none)) else ((f_X8_jointHere σ (σ 66 11)).bind (fun q1 => lt_ (va_up q1.2 66 (upd (q1.2 66) 11 ((σ 66 11) ||| ((1 : Int32) <<< ((q1.1 - (1 : Int32)) &&& 31))))) (fun σ2 => some σ2)))))
abbrev rm_X8_readMore : Room := { frames := 4, cells := 0, slots := 0, locals := 91 }
set_option maxHeartbeats 4000000 in
set_option maxRecDepth 100000 in
theorem c_X8_readMore (l : Launch) (g : GG) (σ : ZI) (τ : ZL) (a1 : Int32) (res : ZI) (h : f_X8_readMore σ a1 = some res) : MV l yX8_readMore cX8_readMore 4 none rm_X8_readMore g [.ref (gA g 60), .int a1] σ τ (fun (u : ZI × ZL) => u.1 = res ∧ u.2 = τ) := by
  refine Met_in (by decide) (Nat.le_of_ble_eq_true rfl) ?_
  intro p e s m args below meth c F G hP hr0 hk0 ls hl
  have hS := WS.start hP
  have hl : lv_has ls 4 [(0, .ref (gA g 60)), (1, .int a1)] := hl
  obtain ⟨H, hH⟩ : ∃ H, H = s.heap := ⟨_, rfl⟩
  rw [← hH] at hS ⊢
  clear hH hP
  rw [f_X8_readMore] at h
  have w_30 : ∀ (σ : ZI) (v2 : Int32), f_X8_readMore_30 a1 σ v2 = some res → ∀ (H : Heap) (locs : List Loc) (ls : Array Slot), WS g σ τ s H locs → lv_has ls 4 [(0, .ref (gA g 60)), (2, .int v2)] → W p l e rm_X8_readMore s m args below meth c H locs 0 0 (MQ below (va_Qv (fun (u : ZI × ZL) => u.1 = res ∧ u.2 = τ) (WQ g) (AA g)) args s 0 0 (AA g)) (F0 m 30 ls []) := by
    intro  σ v2 h H locs ls hS hl
    rw [f_X8_readMore_30] at h
    refine lv_aload_n F.1 F.2.1 dX8_readMore_30 rfl (lv_at hl 0 rfl) ?_
    refine gf_X8_29 F G hS dX8_readMore_31 ?_
    refine lv_aload_n F.1 F.2.1 dX8_readMore_34 rfl (lv_at hl 0 rfl) ?_
    refine gf_X8_134 F G hS dX8_readMore_35 ?_
    refine lv_iload_n F.1 F.2.1 dX8_readMore_38 rfl (lv_at hl 1 rfl) ?_
    obtain ⟨hin, h⟩ := gd h
    refine x_iast F G hS 66 rfl hin dX8_readMore_39 (fun H locs hS => ?_)
    obtain ⟨σ15, e_σ15, h⟩ := ltE h
    rw [← e_σ15] at hS
    clear e_σ15
    refine lv_aload_n F.1 F.2.1 dX8_readMore_40 rfl (lv_at hl 0 rfl) ?_
    obtain ⟨q16, h_q16, h⟩ := bd h
    refine rVv F G hS hl.1 (c_X8_step l g σ15 τ q16 h_q16) lk_X8_112 ⟨rfl, rfl, Nat.le_of_ble_eq_true rfl, Nat.le_of_ble_eq_true rfl⟩ (rc_X8 G hS) rfl rfl (Nat.le_of_ble_eq_true rfl) dX8_readMore_41 (kIv (fun H locs hS => ?_))
    refine lv_aload_n F.1 F.2.1 dX8_readMore_44 rfl (lv_at hl 0 rfl) ?_
    refine lv_aload_n F.1 F.2.1 dX8_readMore_45 rfl (lv_at hl 0 rfl) ?_
    refine gf_X8_137 F G hS dX8_readMore_46 ?_
    obtain ⟨q17, h_q17, h⟩ := bd h
    refine rVi F G hS hl.1 (c_X8_jointHere l g q16 τ (q16 60 19) q17 h_q17) lk_X8_127 ⟨rfl, rfl, Nat.le_of_ble_eq_true rfl, Nat.le_of_ble_eq_true rfl⟩ (rc_X8 G hS) rfl rfl (Nat.le_of_ble_eq_true rfl) dX8_readMore_49 (kIi (fun H locs hS => ?_))
    refine lv_istore_n (lv' := [(3, .int q17.1), (0, .ref (gA g 60)), (2, .int v2)]) F.1 F.2.1 dX8_readMore_52 rfl hl (by decide) rfl (fun ls hl => ?_)
    refine lv_aload_n F.1 F.2.1 dX8_readMore_53 rfl (lv_at hl 1 rfl) ?_
    refine lv_dup F.1 F.2.1 dX8_readMore_54 rfl ?_
    refine gf_X8_137 F G hS dX8_readMore_55 ?_
    refine lv_iconst (v := (1 : Int32)) F.1 F.2.1 dX8_readMore_58 (by decide) ?_
    refine lv_iload_n F.1 F.2.1 dX8_readMore_59 rfl (lv_at hl 0 rfl) ?_
    refine lv_iconst (v := (1 : Int32)) F.1 F.2.1 dX8_readMore_60 (by decide) ?_
    refine lv_isub F.1 F.2.1 dX8_readMore_61 ?_
    refine lv_ishl F.1 F.2.1 dX8_readMore_62 ?_
    refine lv_ior F.1 F.2.1 dX8_readMore_63 ?_
    refine pf_X8_137 F G hS dX8_readMore_64 (fun H locs hS => ?_)
    obtain ⟨σ18, e_σ18, h⟩ := ltE h
    rw [← e_σ18] at hS
    clear e_σ18
    refine lv_aload_n F.1 F.2.1 dX8_readMore_67 rfl (lv_at hl 1 rfl) ?_
    refine gf_X8_32 F G hS dX8_readMore_68 ?_
    refine lv_iconst (v := (2 : Int32)) F.1 F.2.1 dX8_readMore_71 (by decide) ?_
    refine lv_aload_n F.1 F.2.1 dX8_readMore_72 rfl (lv_at hl 1 rfl) ?_
    refine gf_X8_134 F G hS dX8_readMore_73 ?_
    refine lv_imul F.1 F.2.1 dX8_readMore_76 ?_
    refine lv_iload_n F.1 F.2.1 dX8_readMore_77 rfl (lv_at hl 0 rfl) ?_
    obtain ⟨hin, h⟩ := gd h
    refine x_iast F G hS 67 rfl hin dX8_readMore_78 (fun H locs hS => ?_)
    obtain ⟨σ19, e_σ19, h⟩ := ltE h
    rw [← e_σ19] at hS
    clear e_σ19
    refine lv_aload_n F.1 F.2.1 dX8_readMore_79 rfl (lv_at hl 1 rfl) ?_
    refine gf_X8_32 F G hS dX8_readMore_80 ?_
    refine lv_iconst (v := (2 : Int32)) F.1 F.2.1 dX8_readMore_83 (by decide) ?_
    refine lv_aload_n F.1 F.2.1 dX8_readMore_84 rfl (lv_at hl 1 rfl) ?_
    refine gf_X8_134 F G hS dX8_readMore_85 ?_
    refine lv_imul F.1 F.2.1 dX8_readMore_88 ?_
    refine lv_iconst (v := (1 : Int32)) F.1 F.2.1 dX8_readMore_89 (by decide) ?_
    refine lv_iadd F.1 F.2.1 dX8_readMore_90 ?_
    refine lv_aload_n F.1 F.2.1 dX8_readMore_91 rfl (lv_at hl 1 rfl) ?_
    refine lv_iconst (v := (0 : Int32)) F.1 F.2.1 dX8_readMore_92 (by decide) ?_
    refine lv_bipush (v := (9 : Int32)) F.1 F.2.1 dX8_readMore_93 (by decide) ?_
    obtain ⟨q20, h_q20, h⟩ := bd h
    refine rVi F G hS hl.1 (c_X8_number l g σ19 τ (0 : Int32) (9 : Int32) q20 h_q20) lk_X8_117 ⟨rfl, rfl, Nat.le_of_ble_eq_true rfl, Nat.le_of_ble_eq_true rfl⟩ (rc_X8 G hS) rfl rfl (Nat.le_of_ble_eq_true rfl) dX8_readMore_95 (kIi (fun H locs hS => ?_))
    obtain ⟨hin, h⟩ := gd h
    refine x_iast F G hS 67 rfl hin dX8_readMore_98 (fun H locs hS => ?_)
    obtain ⟨σ21, e_σ21, h⟩ := ltE h
    rw [← e_σ21] at hS
    clear e_σ21
    refine lv_aload_n F.1 F.2.1 dX8_readMore_99 rfl (lv_at hl 1 rfl) ?_
    refine lv_dup F.1 F.2.1 dX8_readMore_100 rfl ?_
    refine gf_X8_134 F G hS dX8_readMore_101 ?_
    refine lv_iconst (v := (1 : Int32)) F.1 F.2.1 dX8_readMore_104 (by decide) ?_
    refine lv_iadd F.1 F.2.1 dX8_readMore_105 ?_
    refine pf_X8_134 F G hS dX8_readMore_106 (fun H locs hS => ?_)
    obtain ⟨σ22, e_σ22, h⟩ := ltE h
    rw [← e_σ22] at hS
    clear e_σ22
    refine lv_goto (tgt := 261) F.1 F.2.1 dX8_readMore_109 (by decide) ?_
    exact e_v F hS ⟨Option.some.inj h, rfl⟩ hr0 dX8_readMore_261 hk0
  obtain ⟨locs, hlo⟩ : ∃ z : List Loc, z = [] := ⟨_, rfl⟩
  rw [← hlo] at hS ⊢
  clear hlo
  refine lv_iload_n F.1 F.2.1 dX8_readMore_0 rfl (lv_at hl 1 rfl) ?_
  refine lv_bipush (v := (7 : Int32)) F.1 F.2.1 dX8_readMore_1 (by decide) ?_
  refine lv_icmp_ne (tgt := 112) F.1 F.2.1 dX8_readMore_3 (by decide) (fun hc => ?_) (fun hc => ?_)
  rotate_left
  · replace h := ifT h hc
    refine lv_aload_n F.1 F.2.1 dX8_readMore_6 rfl (lv_at hl 0 rfl) ?_
    obtain ⟨q14, h_q14, h⟩ := bd h
    refine rVi F G hS hl.1 (c_X8_nameHere l g σ τ q14 h_q14) lk_X8_130 ⟨rfl, rfl, Nat.le_of_ble_eq_true rfl, Nat.le_of_ble_eq_true rfl⟩ (rc_X8 G hS) rfl rfl (Nat.le_of_ble_eq_true rfl) dX8_readMore_7 (kRi (fun H locs hS => ?_))
    refine lv_bipush (v := (11 : Int32)) F.1 F.2.1 dX8_readMore_10 (by decide) ?_
    refine lv_isub F.1 F.2.1 dX8_readMore_12 ?_
    refine lv_istore_n (lv' := [(2, .int (q14 - (11 : Int32))), (0, .ref (gA g 60)), (1, .int a1)]) F.1 F.2.1 dX8_readMore_13 rfl hl (by decide) rfl (fun ls hl => ?_)
    refine lv_aload_n F.1 F.2.1 dX8_readMore_14 rfl (lv_at hl 1 rfl) ?_
    refine gf_X8_78 F G hS dX8_readMore_15 ?_
    refine lv_if_ne (tgt := 30) F.1 F.2.1 dX8_readMore_18 (by decide) (fun hc => ?_) (fun hc => ?_)
    · replace h := ifF h hc
      exact w_30 σ (q14 - (11 : Int32)) h H locs _ hS (lv_sub hl [1, 0] rfl)
    replace h := ifT h hc
    refine lv_iload_n F.1 F.2.1 dX8_readMore_21 rfl (lv_at hl 0 rfl) ?_
    refine lv_if_ge (tgt := 30) F.1 F.2.1 dX8_readMore_22 (by decide) (fun hc => ?_) (fun hc => ?_)
    · replace h := ifT h hc
      exact w_30 σ (q14 - (11 : Int32)) h H locs _ hS (lv_sub hl [1, 0] rfl)
    replace h := ifF h hc
    refine lv_aload_n F.1 F.2.1 dX8_readMore_25 rfl (lv_at hl 1 rfl) ?_
    refine lv_iconst (v := (2 : Int32)) F.1 F.2.1 dX8_readMore_26 (by decide) ?_
    obtain ⟨q23, h_q23, h⟩ := bd h
    refine rVv F G hS hl.1 (c_X8_fails l g σ τ (2 : Int32) q23 h_q23) lk_X8_108 ⟨rfl, rfl, Nat.le_of_ble_eq_true rfl, Nat.le_of_ble_eq_true rfl⟩ (rc_X8 G hS) rfl rfl (Nat.le_of_ble_eq_true rfl) dX8_readMore_27 (kIv (fun H locs hS => ?_))
    exact w_30 q23 (q14 - (11 : Int32)) h H locs _ hS (lv_sub hl [1, 0] rfl)
  replace h := ifF h hc
  refine lv_iload_n F.1 F.2.1 dX8_readMore_112 rfl (lv_at hl 1 rfl) ?_
  refine lv_bipush (v := (8 : Int32)) F.1 F.2.1 dX8_readMore_113 (by decide) ?_
  refine lv_icmp_ne (tgt := 182) F.1 F.2.1 dX8_readMore_115 (by decide) (fun hc => ?_) (fun hc => ?_)
  rotate_left
  · replace h := ifT h hc
    refine lv_aload_n F.1 F.2.1 dX8_readMore_118 rfl (lv_at hl 0 rfl) ?_
    refine lv_aload_n F.1 F.2.1 dX8_readMore_119 rfl (lv_at hl 0 rfl) ?_
    refine gf_X8_140 F G hS dX8_readMore_120 ?_
    obtain ⟨q8, h_q8, h⟩ := bd h
    refine rVi F G hS hl.1 (c_X8_jointHere l g σ τ (σ 60 20) q8 h_q8) lk_X8_127 ⟨rfl, rfl, Nat.le_of_ble_eq_true rfl, Nat.le_of_ble_eq_true rfl⟩ (rc_X8 G hS) rfl rfl (Nat.le_of_ble_eq_true rfl) dX8_readMore_123 (kIi (fun H locs hS => ?_))
    refine lv_istore_n (lv' := [(2, .int q8.1), (0, .ref (gA g 60)), (1, .int a1)]) F.1 F.2.1 dX8_readMore_126 rfl hl (by decide) rfl (fun ls hl => ?_)
    refine lv_aload_n F.1 F.2.1 dX8_readMore_127 rfl (lv_at hl 1 rfl) ?_
    refine lv_dup F.1 F.2.1 dX8_readMore_128 rfl ?_
    refine gf_X8_140 F G hS dX8_readMore_129 ?_
    refine lv_iconst (v := (1 : Int32)) F.1 F.2.1 dX8_readMore_132 (by decide) ?_
    refine lv_iload_n F.1 F.2.1 dX8_readMore_133 rfl (lv_at hl 0 rfl) ?_
    refine lv_iconst (v := (1 : Int32)) F.1 F.2.1 dX8_readMore_134 (by decide) ?_
    refine lv_isub F.1 F.2.1 dX8_readMore_135 ?_
    refine lv_ishl F.1 F.2.1 dX8_readMore_136 ?_
    refine lv_ior F.1 F.2.1 dX8_readMore_137 ?_
    refine pf_X8_140 F G hS dX8_readMore_138 (fun H locs hS => ?_)
    obtain ⟨σ9, e_σ9, h⟩ := ltE h
    rw [← e_σ9] at hS
    clear e_σ9
    refine lv_aload_n F.1 F.2.1 dX8_readMore_141 rfl (lv_at hl 1 rfl) ?_
    refine gf_X8_35 F G hS dX8_readMore_142 ?_
    refine lv_aload_n F.1 F.2.1 dX8_readMore_145 rfl (lv_at hl 1 rfl) ?_
    refine gf_X8_143 F G hS dX8_readMore_146 ?_
    refine lv_iload_n F.1 F.2.1 dX8_readMore_149 rfl (lv_at hl 0 rfl) ?_
    obtain ⟨hin, h⟩ := gd h
    refine x_iast F G hS 68 rfl hin dX8_readMore_150 (fun H locs hS => ?_)
    obtain ⟨σ10, e_σ10, h⟩ := ltE h
    rw [← e_σ10] at hS
    clear e_σ10
    refine lv_aload_n F.1 F.2.1 dX8_readMore_151 rfl (lv_at hl 1 rfl) ?_
    refine gf_X8_29 F G hS dX8_readMore_152 ?_
    refine lv_iconst (v := (3 : Int32)) F.1 F.2.1 dX8_readMore_155 (by decide) ?_
    refine lv_aload_n F.1 F.2.1 dX8_readMore_156 rfl (lv_at hl 1 rfl) ?_
    refine gf_X8_143 F G hS dX8_readMore_157 ?_
    refine lv_iadd F.1 F.2.1 dX8_readMore_160 ?_
    refine lv_aload_n F.1 F.2.1 dX8_readMore_161 rfl (lv_at hl 1 rfl) ?_
    refine lv_iconst (v := (0 : Int32)) F.1 F.2.1 dX8_readMore_162 (by decide) ?_
    refine lv_bipush (v := (10 : Int32)) F.1 F.2.1 dX8_readMore_163 (by decide) ?_
    obtain ⟨q11, h_q11, h⟩ := bd h
    refine rVi F G hS hl.1 (c_X8_number l g σ10 τ (0 : Int32) (10 : Int32) q11 h_q11) lk_X8_117 ⟨rfl, rfl, Nat.le_of_ble_eq_true rfl, Nat.le_of_ble_eq_true rfl⟩ (rc_X8 G hS) rfl rfl (Nat.le_of_ble_eq_true rfl) dX8_readMore_165 (kIi (fun H locs hS => ?_))
    obtain ⟨hin, h⟩ := gd h
    refine x_iast F G hS 66 rfl hin dX8_readMore_168 (fun H locs hS => ?_)
    obtain ⟨σ12, e_σ12, h⟩ := ltE h
    rw [← e_σ12] at hS
    clear e_σ12
    refine lv_aload_n F.1 F.2.1 dX8_readMore_169 rfl (lv_at hl 1 rfl) ?_
    refine lv_dup F.1 F.2.1 dX8_readMore_170 rfl ?_
    refine gf_X8_143 F G hS dX8_readMore_171 ?_
    refine lv_iconst (v := (1 : Int32)) F.1 F.2.1 dX8_readMore_174 (by decide) ?_
    refine lv_iadd F.1 F.2.1 dX8_readMore_175 ?_
    refine pf_X8_143 F G hS dX8_readMore_176 (fun H locs hS => ?_)
    obtain ⟨σ13, e_σ13, h⟩ := ltE h
    rw [← e_σ13] at hS
    clear e_σ13
    refine lv_goto (tgt := 261) F.1 F.2.1 dX8_readMore_179 (by decide) ?_
    exact e_v F hS ⟨Option.some.inj h, rfl⟩ hr0 dX8_readMore_261 hk0
  replace h := ifF h hc
  refine lv_iload_n F.1 F.2.1 dX8_readMore_182 rfl (lv_at hl 1 rfl) ?_
  refine lv_bipush (v := (9 : Int32)) F.1 F.2.1 dX8_readMore_183 (by decide) ?_
  refine lv_icmp_ne (tgt := 236) F.1 F.2.1 dX8_readMore_185 (by decide) (fun hc => ?_) (fun hc => ?_)
  · replace h := ifF h hc
    refine lv_aload_n F.1 F.2.1 dX8_readMore_236 rfl (lv_at hl 0 rfl) ?_
    refine gf_X8_29 F G hS dX8_readMore_237 ?_
    refine lv_bipush (v := (11 : Int32)) F.1 F.2.1 dX8_readMore_240 (by decide) ?_
    refine lv_dup2_11 F.1 F.2.1 dX8_readMore_242 rfl rfl ?_
    refine x_ialdL F G hS 66 rfl 11 rfl (by decide) dX8_readMore_243 ?_
    refine lv_iconst (v := (1 : Int32)) F.1 F.2.1 dX8_readMore_244 (by decide) ?_
    refine lv_aload_n F.1 F.2.1 dX8_readMore_245 rfl (lv_at hl 0 rfl) ?_
    refine lv_aload_n F.1 F.2.1 dX8_readMore_246 rfl (lv_at hl 0 rfl) ?_
    refine gf_X8_29 F G hS dX8_readMore_247 ?_
    refine lv_bipush (v := (11 : Int32)) F.1 F.2.1 dX8_readMore_250 (by decide) ?_
    refine x_ialdL F G hS 66 rfl 11 rfl (by decide) dX8_readMore_252 ?_
    obtain ⟨q1, h_q1, h⟩ := bd h
    refine rVi F G hS hl.1 (c_X8_jointHere l g σ τ (σ 66 11) q1 h_q1) lk_X8_127 ⟨rfl, rfl, Nat.le_of_ble_eq_true rfl, Nat.le_of_ble_eq_true rfl⟩ (rc_X8 G hS) rfl rfl (Nat.le_of_ble_eq_true rfl) dX8_readMore_253 (kIi (fun H locs hS => ?_))
    refine lv_iconst (v := (1 : Int32)) F.1 F.2.1 dX8_readMore_256 (by decide) ?_
    refine lv_isub F.1 F.2.1 dX8_readMore_257 ?_
    refine lv_ishl F.1 F.2.1 dX8_readMore_258 ?_
    refine lv_ior F.1 F.2.1 dX8_readMore_259 ?_
    refine x_iastL F G hS 66 rfl 11 rfl (by decide) dX8_readMore_260 (fun H locs hS => ?_)
    obtain ⟨σ2, e_σ2, h⟩ := ltE h
    rw [← e_σ2] at hS
    clear e_σ2
    exact e_v F hS ⟨Option.some.inj h, rfl⟩ hr0 dX8_readMore_261 hk0
  replace h := ifT h hc
  refine lv_aload_n F.1 F.2.1 dX8_readMore_188 rfl (lv_at hl 0 rfl) ?_
  refine gf_X8_29 F G hS dX8_readMore_189 ?_
  refine lv_bipush (v := (6 : Int32)) F.1 F.2.1 dX8_readMore_192 (by decide) ?_
  refine lv_aload_n F.1 F.2.1 dX8_readMore_194 rfl (lv_at hl 0 rfl) ?_
  refine gf_X8_146 F G hS dX8_readMore_195 ?_
  refine lv_iadd F.1 F.2.1 dX8_readMore_198 ?_
  refine lv_aload_n F.1 F.2.1 dX8_readMore_199 rfl (lv_at hl 0 rfl) ?_
  refine lv_iconst (v := (0 : Int32)) F.1 F.2.1 dX8_readMore_200 (by decide) ?_
  refine lv_bipush (v := (99 : Int32)) F.1 F.2.1 dX8_readMore_201 (by decide) ?_
  obtain ⟨q3, h_q3, h⟩ := bd h
  refine rVi F G hS hl.1 (c_X8_number l g σ τ (0 : Int32) (99 : Int32) q3 h_q3) lk_X8_117 ⟨rfl, rfl, Nat.le_of_ble_eq_true rfl, Nat.le_of_ble_eq_true rfl⟩ (rc_X8 G hS) rfl rfl (Nat.le_of_ble_eq_true rfl) dX8_readMore_203 (kIi (fun H locs hS => ?_))
  obtain ⟨hin, h⟩ := gd h
  refine x_iast F G hS 66 rfl hin dX8_readMore_206 (fun H locs hS => ?_)
  obtain ⟨σ4, e_σ4, h⟩ := ltE h
  rw [← e_σ4] at hS
  clear e_σ4
  refine lv_aload_n F.1 F.2.1 dX8_readMore_207 rfl (lv_at hl 0 rfl) ?_
  refine gf_X8_38 F G hS dX8_readMore_208 ?_
  refine lv_aload_n F.1 F.2.1 dX8_readMore_211 rfl (lv_at hl 0 rfl) ?_
  refine gf_X8_146 F G hS dX8_readMore_212 ?_
  refine lv_aload_n F.1 F.2.1 dX8_readMore_215 rfl (lv_at hl 0 rfl) ?_
  refine lv_iconst (v := (0 : Int32)) F.1 F.2.1 dX8_readMore_216 (by decide) ?_
  refine lv_bipush (v := (9 : Int32)) F.1 F.2.1 dX8_readMore_217 (by decide) ?_
  obtain ⟨q5, h_q5, h⟩ := bd h
  refine rVi F G hS hl.1 (c_X8_number l g σ4 τ (0 : Int32) (9 : Int32) q5 h_q5) lk_X8_117 ⟨rfl, rfl, Nat.le_of_ble_eq_true rfl, Nat.le_of_ble_eq_true rfl⟩ (rc_X8 G hS) rfl rfl (Nat.le_of_ble_eq_true rfl) dX8_readMore_219 (kIi (fun H locs hS => ?_))
  obtain ⟨hin, h⟩ := gd h
  refine x_iast F G hS 69 rfl hin dX8_readMore_222 (fun H locs hS => ?_)
  obtain ⟨σ6, e_σ6, h⟩ := ltE h
  rw [← e_σ6] at hS
  clear e_σ6
  refine lv_aload_n F.1 F.2.1 dX8_readMore_223 rfl (lv_at hl 0 rfl) ?_
  refine lv_dup F.1 F.2.1 dX8_readMore_224 rfl ?_
  refine gf_X8_146 F G hS dX8_readMore_225 ?_
  refine lv_iconst (v := (1 : Int32)) F.1 F.2.1 dX8_readMore_228 (by decide) ?_
  refine lv_iadd F.1 F.2.1 dX8_readMore_229 ?_
  refine pf_X8_146 F G hS dX8_readMore_230 (fun H locs hS => ?_)
  obtain ⟨σ7, e_σ7, h⟩ := ltE h
  rw [← e_σ7] at hS
  clear e_σ7
  refine lv_goto (tgt := 261) F.1 F.2.1 dX8_readMore_233 (by decide) ?_
  exact e_v F hS ⟨Option.some.inj h, rfl⟩ hr0 dX8_readMore_261 hk0
def f_X8_readLine_156   (σ : ZI) : Option (ZI) := (f_X8_step σ).bind (fun q6 => some q6)
def f_X8_readLine_136   (σ : ZI) : Option (ZI) := if (σ 60 25) = 0 then (if (σ 60 29) = (3 : Int32) then (f_X8_readLine_156 σ) else ((f_X8_fails σ (2 : Int32)).bind (fun q7 => f_X8_readLine_156 q7))) else (f_X8_readLine_156 σ)
def f_X8_readLine_93   (σ : ZI) (v1 : Int32) : Option (ZI) := lt_ (va_up σ 60 (upd (σ 60) 18 ((σ 60 18) ||| ((1 : Int32) <<< (v1 &&& 31))))) (fun σ3 => (f_X8_step σ3).bind (fun q4 => if (q4 60 25) ≤ 0 then (if (6 : Int32) < v1 then ((f_X8_readMore q4 v1).bind (fun q5 => f_X8_readLine_136 q5)) else ((f_X8_readOnce q4 v1).bind (fun q8 => f_X8_readLine_136 q8))) else (some q4)))
def f_X8_readLine_70   (σ : ZI) (v1 : Int32) : Option (ZI) := if (6 : Int32) < v1 then (f_X8_readLine_93 σ v1) else (if (((σ 60 18) >>> (v1 &&& 31)) &&& (1 : Int32)) = (1 : Int32) then ((f_X8_fails σ (4 : Int32)).bind (fun q9 => f_X8_readLine_93 q9 v1)) else (f_X8_readLine_93 σ v1))
def f_X8_readLine_65   (σ : ZI) (v1 : Int32) : Option (ZI) := (f_X8_fails σ (5 : Int32)).bind (fun q10 => f_X8_readLine_70 q10 v1)
def f_X8_readLine_51   (σ : ZI) (v1 : Int32) : Option (ZI) := if v1 = (9 : Int32) then (if (σ 60 17) = (5 : Int32) then (f_X8_readLine_65 σ v1) else (f_X8_readLine_70 σ v1)) else (f_X8_readLine_70 σ v1)
def f_X8_readLine_37   (σ : ZI) (v1 : Int32) : Option (ZI) := if v1 = (8 : Int32) then (if (σ 60 16) = (3 : Int32) then (f_X8_readLine_65 σ v1) else (f_X8_readLine_51 σ v1)) else (f_X8_readLine_51 σ v1)
def f_X8_readLine (σ : ZI) : Option (ZI) := (f_X8_nameHere σ).bind (fun q1 => (f_X8_in q1.toInt64 (0 : Int64) (10 : Int64)).bind (fun q2 => if q2 = 0 then ((f_X8_fails σ (2 : Int32)).bind (fun q11 => some q11)) else (if q1 = (7 : Int32) then (if (σ 60 15) = (3 : Int32) then (f_X8_readLine_65 σ q1) else (f_X8_readLine_37 σ q1)) else (f_X8_readLine_37 σ q1))))
abbrev rm_X8_readLine : Room := { frames := 5, cells := 0, slots := 0, locals := 114 }
set_option maxHeartbeats 4000000 in
set_option maxRecDepth 100000 in
theorem c_X8_readLine (l : Launch) (g : GG) (σ : ZI) (τ : ZL)  (res : ZI) (h : f_X8_readLine σ = some res) : MV l yX8_readLine cX8_readLine 2 none rm_X8_readLine g [.ref (gA g 60)] σ τ (fun (u : ZI × ZL) => u.1 = res ∧ u.2 = τ) := by
  refine Met_in (by decide) (Nat.le_of_ble_eq_true rfl) ?_
  intro p e s m args below meth c F G hP hr0 hk0 ls hl
  have hS := WS.start hP
  have hl : lv_has ls 2 [(0, .ref (gA g 60))] := hl
  obtain ⟨H, hH⟩ : ∃ H, H = s.heap := ⟨_, rfl⟩
  rw [← hH] at hS ⊢
  clear hH hP
  rw [f_X8_readLine] at h
  have w_156 : ∀ (σ : ZI), f_X8_readLine_156 σ = some res → ∀ (H : Heap) (locs : List Loc) (ls : Array Slot), WS g σ τ s H locs → lv_has ls 2 [(0, .ref (gA g 60))] → W p l e rm_X8_readLine s m args below meth c H locs 0 0 (MQ below (va_Qv (fun (u : ZI × ZL) => u.1 = res ∧ u.2 = τ) (WQ g) (AA g)) args s 0 0 (AA g)) (F0 m 156 ls []) := by
    intro  σ h H locs ls hS hl
    rw [f_X8_readLine_156] at h
    refine lv_aload_n F.1 F.2.1 dX8_readLine_156 rfl (lv_at hl 0 rfl) ?_
    obtain ⟨q6, h_q6, h⟩ := bd h
    refine rVv F G hS hl.1 (c_X8_step l g σ τ q6 h_q6) lk_X8_112 ⟨rfl, rfl, Nat.le_of_ble_eq_true rfl, Nat.le_of_ble_eq_true rfl⟩ (rc_X8 G hS) rfl rfl (Nat.le_of_ble_eq_true rfl) dX8_readLine_157 (kIv (fun H locs hS => ?_))
    exact e_v F hS ⟨Option.some.inj h, rfl⟩ hr0 dX8_readLine_160 hk0
  have w_136 : ∀ (σ : ZI), f_X8_readLine_136 σ = some res → ∀ (H : Heap) (locs : List Loc) (ls : Array Slot), WS g σ τ s H locs → lv_has ls 2 [(0, .ref (gA g 60))] → W p l e rm_X8_readLine s m args below meth c H locs 0 0 (MQ below (va_Qv (fun (u : ZI × ZL) => u.1 = res ∧ u.2 = τ) (WQ g) (AA g)) args s 0 0 (AA g)) (F0 m 136 ls []) := by
    intro  σ h H locs ls hS hl
    rw [f_X8_readLine_136] at h
    refine lv_aload_n F.1 F.2.1 dX8_readLine_136 rfl (lv_at hl 0 rfl) ?_
    refine gf_X8_78 F G hS dX8_readLine_137 ?_
    refine lv_if_ne (tgt := 156) F.1 F.2.1 dX8_readLine_140 (by decide) (fun hc => ?_) (fun hc => ?_)
    · replace h := ifF h hc
      exact w_156 σ h H locs _ hS (lv_sub hl [0] rfl)
    replace h := ifT h hc
    refine lv_aload_n F.1 F.2.1 dX8_readLine_143 rfl (lv_at hl 0 rfl) ?_
    refine gf_X8_87 F G hS dX8_readLine_144 ?_
    refine lv_iconst (v := (3 : Int32)) F.1 F.2.1 dX8_readLine_147 (by decide) ?_
    refine lv_icmp_eq (tgt := 156) F.1 F.2.1 dX8_readLine_148 (by decide) (fun hc => ?_) (fun hc => ?_)
    · replace h := ifT h hc
      exact w_156 σ h H locs _ hS (lv_sub hl [0] rfl)
    replace h := ifF h hc
    refine lv_aload_n F.1 F.2.1 dX8_readLine_151 rfl (lv_at hl 0 rfl) ?_
    refine lv_iconst (v := (2 : Int32)) F.1 F.2.1 dX8_readLine_152 (by decide) ?_
    obtain ⟨q7, h_q7, h⟩ := bd h
    refine rVv F G hS hl.1 (c_X8_fails l g σ τ (2 : Int32) q7 h_q7) lk_X8_108 ⟨rfl, rfl, Nat.le_of_ble_eq_true rfl, Nat.le_of_ble_eq_true rfl⟩ (rc_X8 G hS) rfl rfl (Nat.le_of_ble_eq_true rfl) dX8_readLine_153 (kIv (fun H locs hS => ?_))
    exact w_156 q7 h H locs _ hS (lv_sub hl [0] rfl)
  have w_93 : ∀ (σ : ZI) (v1 : Int32), f_X8_readLine_93 σ v1 = some res → ∀ (H : Heap) (locs : List Loc) (ls : Array Slot), WS g σ τ s H locs → lv_has ls 2 [(0, .ref (gA g 60)), (1, .int v1)] → W p l e rm_X8_readLine s m args below meth c H locs 0 0 (MQ below (va_Qv (fun (u : ZI × ZL) => u.1 = res ∧ u.2 = τ) (WQ g) (AA g)) args s 0 0 (AA g)) (F0 m 93 ls []) := by
    intro  σ v1 h H locs ls hS hl
    rw [f_X8_readLine_93] at h
    refine lv_aload_n F.1 F.2.1 dX8_readLine_93 rfl (lv_at hl 0 rfl) ?_
    refine lv_dup F.1 F.2.1 dX8_readLine_94 rfl ?_
    refine gf_X8_149 F G hS dX8_readLine_95 ?_
    refine lv_iconst (v := (1 : Int32)) F.1 F.2.1 dX8_readLine_98 (by decide) ?_
    refine lv_iload_n F.1 F.2.1 dX8_readLine_99 rfl (lv_at hl 1 rfl) ?_
    refine lv_ishl F.1 F.2.1 dX8_readLine_100 ?_
    refine lv_ior F.1 F.2.1 dX8_readLine_101 ?_
    refine pf_X8_149 F G hS dX8_readLine_102 (fun H locs hS => ?_)
    obtain ⟨σ3, e_σ3, h⟩ := ltE h
    rw [← e_σ3] at hS
    clear e_σ3
    refine lv_aload_n F.1 F.2.1 dX8_readLine_105 rfl (lv_at hl 0 rfl) ?_
    obtain ⟨q4, h_q4, h⟩ := bd h
    refine rVv F G hS hl.1 (c_X8_step l g σ3 τ q4 h_q4) lk_X8_112 ⟨rfl, rfl, Nat.le_of_ble_eq_true rfl, Nat.le_of_ble_eq_true rfl⟩ (rc_X8 G hS) rfl rfl (Nat.le_of_ble_eq_true rfl) dX8_readLine_106 (kIv (fun H locs hS => ?_))
    refine lv_aload_n F.1 F.2.1 dX8_readLine_109 rfl (lv_at hl 0 rfl) ?_
    refine gf_X8_78 F G hS dX8_readLine_110 ?_
    refine lv_if_le (tgt := 117) F.1 F.2.1 dX8_readLine_113 (by decide) (fun hc => ?_) (fun hc => ?_)
    rotate_left
    · replace h := ifF h hc
      exact e_v F hS ⟨Option.some.inj h, rfl⟩ hr0 dX8_readLine_116 hk0
    replace h := ifT h hc
    refine lv_iload_n F.1 F.2.1 dX8_readLine_117 rfl (lv_at hl 1 rfl) ?_
    refine lv_bipush (v := (6 : Int32)) F.1 F.2.1 dX8_readLine_118 (by decide) ?_
    refine lv_icmp_gt (tgt := 131) F.1 F.2.1 dX8_readLine_120 (by decide) (fun hc => ?_) (fun hc => ?_)
    · replace h := ifT h hc
      refine lv_aload_n F.1 F.2.1 dX8_readLine_131 rfl (lv_at hl 0 rfl) ?_
      refine lv_iload_n F.1 F.2.1 dX8_readLine_132 rfl (lv_at hl 1 rfl) ?_
      obtain ⟨q5, h_q5, h⟩ := bd h
      refine rVv F G hS hl.1 (c_X8_readMore l g q4 τ v1 q5 h_q5) lk_X8_155 ⟨rfl, rfl, Nat.le_of_ble_eq_true rfl, Nat.le_of_ble_eq_true rfl⟩ (rc_X8 G hS) rfl rfl (Nat.le_of_ble_eq_true rfl) dX8_readLine_133 (kIv (fun H locs hS => ?_))
      exact w_136 q5 h H locs _ hS (lv_sub hl [0] rfl)
    replace h := ifF h hc
    refine lv_aload_n F.1 F.2.1 dX8_readLine_123 rfl (lv_at hl 0 rfl) ?_
    refine lv_iload_n F.1 F.2.1 dX8_readLine_124 rfl (lv_at hl 1 rfl) ?_
    obtain ⟨q8, h_q8, h⟩ := bd h
    refine rVv F G hS hl.1 (c_X8_readOnce l g q4 τ v1 q8 h_q8) lk_X8_152 ⟨rfl, rfl, Nat.le_of_ble_eq_true rfl, Nat.le_of_ble_eq_true rfl⟩ (rc_X8 G hS) rfl rfl (Nat.le_of_ble_eq_true rfl) dX8_readLine_125 (kIv (fun H locs hS => ?_))
    refine lv_goto (tgt := 136) F.1 F.2.1 dX8_readLine_128 (by decide) ?_
    exact w_136 q8 h H locs _ hS (lv_sub hl [0] rfl)
  have w_70 : ∀ (σ : ZI) (v1 : Int32), f_X8_readLine_70 σ v1 = some res → ∀ (H : Heap) (locs : List Loc) (ls : Array Slot), WS g σ τ s H locs → lv_has ls 2 [(0, .ref (gA g 60)), (1, .int v1)] → W p l e rm_X8_readLine s m args below meth c H locs 0 0 (MQ below (va_Qv (fun (u : ZI × ZL) => u.1 = res ∧ u.2 = τ) (WQ g) (AA g)) args s 0 0 (AA g)) (F0 m 70 ls []) := by
    intro  σ v1 h H locs ls hS hl
    rw [f_X8_readLine_70] at h
    refine lv_iload_n F.1 F.2.1 dX8_readLine_70 rfl (lv_at hl 1 rfl) ?_
    refine lv_bipush (v := (6 : Int32)) F.1 F.2.1 dX8_readLine_71 (by decide) ?_
    refine lv_icmp_gt (tgt := 93) F.1 F.2.1 dX8_readLine_73 (by decide) (fun hc => ?_) (fun hc => ?_)
    · replace h := ifT h hc
      exact w_93 σ v1 h H locs _ hS (lv_sub hl [0, 1] rfl)
    replace h := ifF h hc
    refine lv_aload_n F.1 F.2.1 dX8_readLine_76 rfl (lv_at hl 0 rfl) ?_
    refine gf_X8_149 F G hS dX8_readLine_77 ?_
    refine lv_iload_n F.1 F.2.1 dX8_readLine_80 rfl (lv_at hl 1 rfl) ?_
    refine lv_ishr F.1 F.2.1 dX8_readLine_81 ?_
    refine lv_iconst (v := (1 : Int32)) F.1 F.2.1 dX8_readLine_82 (by decide) ?_
    refine lv_iand F.1 F.2.1 dX8_readLine_83 ?_
    refine lv_iconst (v := (1 : Int32)) F.1 F.2.1 dX8_readLine_84 (by decide) ?_
    refine lv_icmp_ne (tgt := 93) F.1 F.2.1 dX8_readLine_85 (by decide) (fun hc => ?_) (fun hc => ?_)
    · replace h := ifF h hc
      exact w_93 σ v1 h H locs _ hS (lv_sub hl [0, 1] rfl)
    replace h := ifT h hc
    refine lv_aload_n F.1 F.2.1 dX8_readLine_88 rfl (lv_at hl 0 rfl) ?_
    refine lv_iconst (v := (4 : Int32)) F.1 F.2.1 dX8_readLine_89 (by decide) ?_
    obtain ⟨q9, h_q9, h⟩ := bd h
    refine rVv F G hS hl.1 (c_X8_fails l g σ τ (4 : Int32) q9 h_q9) lk_X8_108 ⟨rfl, rfl, Nat.le_of_ble_eq_true rfl, Nat.le_of_ble_eq_true rfl⟩ (rc_X8 G hS) rfl rfl (Nat.le_of_ble_eq_true rfl) dX8_readLine_90 (kIv (fun H locs hS => ?_))
    exact w_93 q9 v1 h H locs _ hS (lv_sub hl [0, 1] rfl)
  have w_65 : ∀ (σ : ZI) (v1 : Int32), f_X8_readLine_65 σ v1 = some res → ∀ (H : Heap) (locs : List Loc) (ls : Array Slot), WS g σ τ s H locs → lv_has ls 2 [(0, .ref (gA g 60)), (1, .int v1)] → W p l e rm_X8_readLine s m args below meth c H locs 0 0 (MQ below (va_Qv (fun (u : ZI × ZL) => u.1 = res ∧ u.2 = τ) (WQ g) (AA g)) args s 0 0 (AA g)) (F0 m 65 ls []) := by
    intro  σ v1 h H locs ls hS hl
    rw [f_X8_readLine_65] at h
    refine lv_aload_n F.1 F.2.1 dX8_readLine_65 rfl (lv_at hl 0 rfl) ?_
    refine lv_iconst (v := (5 : Int32)) F.1 F.2.1 dX8_readLine_66 (by decide) ?_
    obtain ⟨q10, h_q10, h⟩ := bd h
    refine rVv F G hS hl.1 (c_X8_fails l g σ τ (5 : Int32) q10 h_q10) lk_X8_108 ⟨rfl, rfl, Nat.le_of_ble_eq_true rfl, Nat.le_of_ble_eq_true rfl⟩ (rc_X8 G hS) rfl rfl (Nat.le_of_ble_eq_true rfl) dX8_readLine_67 (kIv (fun H locs hS => ?_))
    exact w_70 q10 v1 h H locs _ hS (lv_sub hl [0, 1] rfl)
  have w_51 : ∀ (σ : ZI) (v1 : Int32), f_X8_readLine_51 σ v1 = some res → ∀ (H : Heap) (locs : List Loc) (ls : Array Slot), WS g σ τ s H locs → lv_has ls 2 [(0, .ref (gA g 60)), (1, .int v1)] → W p l e rm_X8_readLine s m args below meth c H locs 0 0 (MQ below (va_Qv (fun (u : ZI × ZL) => u.1 = res ∧ u.2 = τ) (WQ g) (AA g)) args s 0 0 (AA g)) (F0 m 51 ls []) := by
    intro  σ v1 h H locs ls hS hl
    rw [f_X8_readLine_51] at h
    refine lv_iload_n F.1 F.2.1 dX8_readLine_51 rfl (lv_at hl 1 rfl) ?_
    refine lv_bipush (v := (9 : Int32)) F.1 F.2.1 dX8_readLine_52 (by decide) ?_
    refine lv_icmp_ne (tgt := 70) F.1 F.2.1 dX8_readLine_54 (by decide) (fun hc => ?_) (fun hc => ?_)
    · replace h := ifF h hc
      exact w_70 σ v1 h H locs _ hS (lv_sub hl [0, 1] rfl)
    replace h := ifT h hc
    refine lv_aload_n F.1 F.2.1 dX8_readLine_57 rfl (lv_at hl 0 rfl) ?_
    refine gf_X8_146 F G hS dX8_readLine_58 ?_
    refine lv_iconst (v := (5 : Int32)) F.1 F.2.1 dX8_readLine_61 (by decide) ?_
    refine lv_icmp_ne (tgt := 70) F.1 F.2.1 dX8_readLine_62 (by decide) (fun hc => ?_) (fun hc => ?_)
    · replace h := ifF h hc
      exact w_70 σ v1 h H locs _ hS (lv_sub hl [0, 1] rfl)
    replace h := ifT h hc
    exact w_65 σ v1 h H locs _ hS (lv_sub hl [0, 1] rfl)
  have w_37 : ∀ (σ : ZI) (v1 : Int32), f_X8_readLine_37 σ v1 = some res → ∀ (H : Heap) (locs : List Loc) (ls : Array Slot), WS g σ τ s H locs → lv_has ls 2 [(0, .ref (gA g 60)), (1, .int v1)] → W p l e rm_X8_readLine s m args below meth c H locs 0 0 (MQ below (va_Qv (fun (u : ZI × ZL) => u.1 = res ∧ u.2 = τ) (WQ g) (AA g)) args s 0 0 (AA g)) (F0 m 37 ls []) := by
    intro  σ v1 h H locs ls hS hl
    rw [f_X8_readLine_37] at h
    refine lv_iload_n F.1 F.2.1 dX8_readLine_37 rfl (lv_at hl 1 rfl) ?_
    refine lv_bipush (v := (8 : Int32)) F.1 F.2.1 dX8_readLine_38 (by decide) ?_
    refine lv_icmp_ne (tgt := 51) F.1 F.2.1 dX8_readLine_40 (by decide) (fun hc => ?_) (fun hc => ?_)
    · replace h := ifF h hc
      exact w_51 σ v1 h H locs _ hS (lv_sub hl [0, 1] rfl)
    replace h := ifT h hc
    refine lv_aload_n F.1 F.2.1 dX8_readLine_43 rfl (lv_at hl 0 rfl) ?_
    refine gf_X8_143 F G hS dX8_readLine_44 ?_
    refine lv_iconst (v := (3 : Int32)) F.1 F.2.1 dX8_readLine_47 (by decide) ?_
    refine lv_icmp_eq (tgt := 65) F.1 F.2.1 dX8_readLine_48 (by decide) (fun hc => ?_) (fun hc => ?_)
    · replace h := ifT h hc
      exact w_65 σ v1 h H locs _ hS (lv_sub hl [0, 1] rfl)
    replace h := ifF h hc
    exact w_51 σ v1 h H locs _ hS (lv_sub hl [0, 1] rfl)
  obtain ⟨locs, hlo⟩ : ∃ z : List Loc, z = [] := ⟨_, rfl⟩
  rw [← hlo] at hS ⊢
  clear hlo
  refine lv_aload_n F.1 F.2.1 dX8_readLine_0 rfl (lv_at hl 0 rfl) ?_
  obtain ⟨q1, h_q1, h⟩ := bd h
  refine rVi F G hS hl.1 (c_X8_nameHere l g σ τ q1 h_q1) lk_X8_130 ⟨rfl, rfl, Nat.le_of_ble_eq_true rfl, Nat.le_of_ble_eq_true rfl⟩ (rc_X8 G hS) rfl rfl (Nat.le_of_ble_eq_true rfl) dX8_readLine_1 (kRi (fun H locs hS => ?_))
  refine lv_istore_n (lv' := [(1, .int q1), (0, .ref (gA g 60))]) F.1 F.2.1 dX8_readLine_4 rfl hl (by decide) rfl (fun ls hl => ?_)
  refine lv_iload_n F.1 F.2.1 dX8_readLine_5 rfl (lv_at hl 0 rfl) ?_
  refine lv_i2l F.1 F.2.1 dX8_readLine_6 rfl ?_
  refine lv_lconst (v := (0 : Int64)) F.1 F.2.1 dX8_readLine_7 (by decide) ?_
  refine lv_ldc2 (v := (10 : Int64)) F.1 F.2.1 F.2.2.2.1 (F.2.2.2.2 _ tb_1221) dX8_readLine_8 ?_
  obtain ⟨q2, h_q2, h⟩ := bd h
  refine rSi F G hS hl.1 (c_X8_in l g σ τ q1.toInt64 (0 : Int64) (10 : Int64) q2 h_q2) lk_X8_71 ⟨rfl, rfl, Nat.le_of_ble_eq_true rfl, Nat.le_of_ble_eq_true rfl⟩  rfl rfl (Nat.le_of_ble_eq_true rfl) dX8_readLine_11 (kRi (fun H locs hS => ?_))
  refine lv_if_ne (tgt := 23) F.1 F.2.1 dX8_readLine_14 (by decide) (fun hc => ?_) (fun hc => ?_)
  rotate_left
  · replace h := ifT h hc
    refine lv_aload_n F.1 F.2.1 dX8_readLine_17 rfl (lv_at hl 1 rfl) ?_
    refine lv_iconst (v := (2 : Int32)) F.1 F.2.1 dX8_readLine_18 (by decide) ?_
    obtain ⟨q11, h_q11, h⟩ := bd h
    refine rVv F G hS hl.1 (c_X8_fails l g σ τ (2 : Int32) q11 h_q11) lk_X8_108 ⟨rfl, rfl, Nat.le_of_ble_eq_true rfl, Nat.le_of_ble_eq_true rfl⟩ (rc_X8 G hS) rfl rfl (Nat.le_of_ble_eq_true rfl) dX8_readLine_19 (kIv (fun H locs hS => ?_))
    exact e_v F hS ⟨Option.some.inj h, rfl⟩ hr0 dX8_readLine_22 hk0
  replace h := ifF h hc
  refine lv_iload_n F.1 F.2.1 dX8_readLine_23 rfl (lv_at hl 0 rfl) ?_
  refine lv_bipush (v := (7 : Int32)) F.1 F.2.1 dX8_readLine_24 (by decide) ?_
  refine lv_icmp_ne (tgt := 37) F.1 F.2.1 dX8_readLine_26 (by decide) (fun hc => ?_) (fun hc => ?_)
  · replace h := ifF h hc
    exact w_37 σ q1 h H locs _ hS (lv_sub hl [1, 0] rfl)
  replace h := ifT h hc
  refine lv_aload_n F.1 F.2.1 dX8_readLine_29 rfl (lv_at hl 1 rfl) ?_
  refine gf_X8_134 F G hS dX8_readLine_30 ?_
  refine lv_iconst (v := (3 : Int32)) F.1 F.2.1 dX8_readLine_33 (by decide) ?_
  refine lv_icmp_eq (tgt := 65) F.1 F.2.1 dX8_readLine_34 (by decide) (fun hc => ?_) (fun hc => ?_)
  · replace h := ifT h hc
    exact w_65 σ q1 h H locs _ hS (lv_sub hl [1, 0] rfl)
  replace h := ifF h hc
  exact w_37 σ q1 h H locs _ hS (lv_sub hl [1, 0] rfl)
def f_X8_begins_67   : Nat → ZI → Int32 → Option (ZI)
  | 0, _, _ => none
  | n + 1, σ, v1 => if (18 : Int32) ≤ v1 then (some σ) else (if inB v1 18 = true then (lt_ (va_up σ 66 (upd (σ 66) v1.toNatClampNeg (0 : Int32))) (fun σ13 => f_X8_begins_67 n σ13 (v1 + (1 : Int32)))) else none)
def f_X8_begins (σ : ZI) : Option (ZI) := lt_ (va_up σ 60 (upd (σ 60) 25 (0 : Int32))) (fun σ1 => lt_ (va_up σ1 60 (upd (σ1 60) 27 (0 : Int32))) (fun σ2 => lt_ (va_up σ2 60 (upd (σ2 60) 14 (6 : Int32))) (fun σ3 => lt_ (va_up σ3 60 (upd (σ3 60) 15 (0 : Int32))) (fun σ4 => lt_ (va_up σ4 60 (upd (σ4 60) 16 (0 : Int32))) (fun σ5 => lt_ (va_up σ5 60 (upd (σ5 60) 17 (0 : Int32))) (fun σ6 => lt_ (va_up σ6 70 (upd (σ6 70) 0 (1 : Int32))) (fun σ7 => lt_ (va_up σ7 70 (upd (σ7 70) 1 (5 : Int32))) (fun σ8 => lt_ (va_up σ8 60 (upd (σ8 60) 18 (0 : Int32))) (fun σ9 => lt_ (va_up σ9 60 (upd (σ9 60) 19 (0 : Int32))) (fun σ10 => lt_ (va_up σ10 60 (upd (σ10 60) 20 (0 : Int32))) (fun σ11 => lt_ (va_up σ11 60 (upd (σ11 60) 21 (0 : Int32))) (fun σ12 => f_X8_begins_67 3000 σ12 (0 : Int32)))))))))))))
abbrev rm_X8_begins : Room := { frames := 0, cells := 0, slots := 0, locals := 0 }
set_option maxHeartbeats 4000000 in
set_option maxRecDepth 100000 in
theorem c_X8_begins (l : Launch) (g : GG) (σ : ZI) (τ : ZL)  (res : ZI) (h : f_X8_begins σ = some res) : MV l yX8_begins cX8_begins 2 none rm_X8_begins g [.ref (gA g 60)] σ τ (fun (u : ZI × ZL) => u.1 = res ∧ u.2 = τ) := by
  refine Met_in (by decide) (Nat.le_of_ble_eq_true rfl) ?_
  intro p e s m args below meth c F G hP hr0 hk0 ls hl
  have hS := WS.start hP
  have hl : lv_has ls 2 [(0, .ref (gA g 60))] := hl
  obtain ⟨H, hH⟩ : ∃ H, H = s.heap := ⟨_, rfl⟩
  rw [← hH] at hS ⊢
  clear hH hP
  rw [f_X8_begins] at h
  have w_67 : ∀ (n : Nat) (σ : ZI) (v1 : Int32), f_X8_begins_67 n σ v1 = some res → ∀ (H : Heap) (locs : List Loc) (ls : Array Slot), WS g σ τ s H locs → lv_has ls 2 [(0, .ref (gA g 60)), (1, .int v1)] → W p l e rm_X8_begins s m args below meth c H locs 0 0 (MQ below (va_Qv (fun (u : ZI × ZL) => u.1 = res ∧ u.2 = τ) (WQ g) (AA g)) args s 0 0 (AA g)) (F0 m 67 ls []) := by
    intro n
    induction n with
    | zero => intro σ v1 h; rw [f_X8_begins_67] at h; cases h
    | succ n ih =>
      intro σ v1 h H locs ls hS hl
      rw [f_X8_begins_67] at h
      refine lv_iload_n F.1 F.2.1 dX8_begins_67 rfl (lv_at hl 1 rfl) ?_
      refine lv_bipush (v := (18 : Int32)) F.1 F.2.1 dX8_begins_68 (by decide) ?_
      refine lv_icmp_ge (tgt := 86) F.1 F.2.1 dX8_begins_70 (by decide) (fun hc => ?_) (fun hc => ?_)
      · replace h := ifT h hc
        exact e_v F hS ⟨Option.some.inj h, rfl⟩ hr0 dX8_begins_86 hk0
      replace h := ifF h hc
      refine lv_aload_n F.1 F.2.1 dX8_begins_73 rfl (lv_at hl 0 rfl) ?_
      refine gf_X8_29 F G hS dX8_begins_74 ?_
      refine lv_iload_n F.1 F.2.1 dX8_begins_77 rfl (lv_at hl 1 rfl) ?_
      refine lv_iconst (v := (0 : Int32)) F.1 F.2.1 dX8_begins_78 (by decide) ?_
      obtain ⟨hin, h⟩ := gd h
      refine x_iast F G hS 66 rfl hin dX8_begins_79 (fun H locs hS => ?_)
      obtain ⟨σ13, e_σ13, h⟩ := ltE h
      rw [← e_σ13] at hS
      clear e_σ13
      refine lv_iinc (v := (v1 + (1 : Int32))) (lv' := [(1, .int (v1 + (1 : Int32))), (0, .ref (gA g 60))]) F.1 F.2.1 dX8_begins_80 hl (k := 1) rfl rfl (by decide) rfl (fun ls hl => ?_)
      refine lv_goto (tgt := 67) F.1 F.2.1 dX8_begins_83 (by decide) ?_
      exact ih σ13 (v1 + (1 : Int32)) h H locs _ hS (lv_sub hl [1, 0] rfl)
  obtain ⟨locs, hlo⟩ : ∃ z : List Loc, z = [] := ⟨_, rfl⟩
  rw [← hlo] at hS ⊢
  clear hlo
  refine lv_aload_n F.1 F.2.1 dX8_begins_0 rfl (lv_at hl 0 rfl) ?_
  refine lv_iconst (v := (0 : Int32)) F.1 F.2.1 dX8_begins_1 (by decide) ?_
  refine pf_X8_78 F G hS dX8_begins_2 (fun H locs hS => ?_)
  obtain ⟨σ1, e_σ1, h⟩ := ltE h
  rw [← e_σ1] at hS
  clear e_σ1
  refine lv_aload_n F.1 F.2.1 dX8_begins_5 rfl (lv_at hl 0 rfl) ?_
  refine lv_iconst (v := (0 : Int32)) F.1 F.2.1 dX8_begins_6 (by decide) ?_
  refine pf_X8_90 F G hS dX8_begins_7 (fun H locs hS => ?_)
  obtain ⟨σ2, e_σ2, h⟩ := ltE h
  rw [← e_σ2] at hS
  clear e_σ2
  refine lv_aload_n F.1 F.2.1 dX8_begins_10 rfl (lv_at hl 0 rfl) ?_
  refine lv_bipush (v := (6 : Int32)) F.1 F.2.1 dX8_begins_11 (by decide) ?_
  refine pf_X8_124 F G hS dX8_begins_13 (fun H locs hS => ?_)
  obtain ⟨σ3, e_σ3, h⟩ := ltE h
  rw [← e_σ3] at hS
  clear e_σ3
  refine lv_aload_n F.1 F.2.1 dX8_begins_16 rfl (lv_at hl 0 rfl) ?_
  refine lv_iconst (v := (0 : Int32)) F.1 F.2.1 dX8_begins_17 (by decide) ?_
  refine pf_X8_134 F G hS dX8_begins_18 (fun H locs hS => ?_)
  obtain ⟨σ4, e_σ4, h⟩ := ltE h
  rw [← e_σ4] at hS
  clear e_σ4
  refine lv_aload_n F.1 F.2.1 dX8_begins_21 rfl (lv_at hl 0 rfl) ?_
  refine lv_iconst (v := (0 : Int32)) F.1 F.2.1 dX8_begins_22 (by decide) ?_
  refine pf_X8_143 F G hS dX8_begins_23 (fun H locs hS => ?_)
  obtain ⟨σ5, e_σ5, h⟩ := ltE h
  rw [← e_σ5] at hS
  clear e_σ5
  refine lv_aload_n F.1 F.2.1 dX8_begins_26 rfl (lv_at hl 0 rfl) ?_
  refine lv_iconst (v := (0 : Int32)) F.1 F.2.1 dX8_begins_27 (by decide) ?_
  refine pf_X8_146 F G hS dX8_begins_28 (fun H locs hS => ?_)
  obtain ⟨σ6, e_σ6, h⟩ := ltE h
  rw [← e_σ6] at hS
  clear e_σ6
  refine lv_aload_n F.1 F.2.1 dX8_begins_31 rfl (lv_at hl 0 rfl) ?_
  refine gf_X8_41 F G hS dX8_begins_32 ?_
  refine lv_iconst (v := (0 : Int32)) F.1 F.2.1 dX8_begins_35 (by decide) ?_
  refine lv_iconst (v := (1 : Int32)) F.1 F.2.1 dX8_begins_36 (by decide) ?_
  refine x_iastL F G hS 70 rfl 0 rfl (by decide) dX8_begins_37 (fun H locs hS => ?_)
  obtain ⟨σ7, e_σ7, h⟩ := ltE h
  rw [← e_σ7] at hS
  clear e_σ7
  refine lv_aload_n F.1 F.2.1 dX8_begins_38 rfl (lv_at hl 0 rfl) ?_
  refine gf_X8_41 F G hS dX8_begins_39 ?_
  refine lv_iconst (v := (1 : Int32)) F.1 F.2.1 dX8_begins_42 (by decide) ?_
  refine lv_iconst (v := (5 : Int32)) F.1 F.2.1 dX8_begins_43 (by decide) ?_
  refine x_iastL F G hS 70 rfl 1 rfl (by decide) dX8_begins_44 (fun H locs hS => ?_)
  obtain ⟨σ8, e_σ8, h⟩ := ltE h
  rw [← e_σ8] at hS
  clear e_σ8
  refine lv_aload_n F.1 F.2.1 dX8_begins_45 rfl (lv_at hl 0 rfl) ?_
  refine lv_iconst (v := (0 : Int32)) F.1 F.2.1 dX8_begins_46 (by decide) ?_
  refine pf_X8_149 F G hS dX8_begins_47 (fun H locs hS => ?_)
  obtain ⟨σ9, e_σ9, h⟩ := ltE h
  rw [← e_σ9] at hS
  clear e_σ9
  refine lv_aload_n F.1 F.2.1 dX8_begins_50 rfl (lv_at hl 0 rfl) ?_
  refine lv_iconst (v := (0 : Int32)) F.1 F.2.1 dX8_begins_51 (by decide) ?_
  refine pf_X8_137 F G hS dX8_begins_52 (fun H locs hS => ?_)
  obtain ⟨σ10, e_σ10, h⟩ := ltE h
  rw [← e_σ10] at hS
  clear e_σ10
  refine lv_aload_n F.1 F.2.1 dX8_begins_55 rfl (lv_at hl 0 rfl) ?_
  refine lv_iconst (v := (0 : Int32)) F.1 F.2.1 dX8_begins_56 (by decide) ?_
  refine pf_X8_140 F G hS dX8_begins_57 (fun H locs hS => ?_)
  obtain ⟨σ11, e_σ11, h⟩ := ltE h
  rw [← e_σ11] at hS
  clear e_σ11
  refine lv_aload_n F.1 F.2.1 dX8_begins_60 rfl (lv_at hl 0 rfl) ?_
  refine lv_iconst (v := (0 : Int32)) F.1 F.2.1 dX8_begins_61 (by decide) ?_
  refine pf_X8_121 F G hS dX8_begins_62 (fun H locs hS => ?_)
  obtain ⟨σ12, e_σ12, h⟩ := ltE h
  rw [← e_σ12] at hS
  clear e_σ12
  refine lv_iconst (v := (0 : Int32)) F.1 F.2.1 dX8_begins_65 (by decide) ?_
  refine lv_istore_n (lv' := [(1, .int (0 : Int32)), (0, .ref (gA g 60))]) F.1 F.2.1 dX8_begins_66 rfl hl (by decide) rfl (fun ls hl => ?_)
  exact w_67 3000 σ12 (0 : Int32) h H locs _ hS (lv_sub hl [1, 0] rfl)
def f_X8_text_88   : Nat → ZI → Int32 → Int32 → Option (Int32 × ZI)
  | 0, _, _, _ => none
  | n + 1, σ, v1, v2 => if (18 : Int32) ≤ v2 then (lt_ (va_up σ 60 (upd (σ 60) 1 (σ 60 14))) (fun σ5 => lt_ (va_up σ5 60 (upd (σ5 60) 3 (σ5 60 15))) (fun σ6 => lt_ (va_up σ6 60 (upd (σ6 60) 5 (σ6 60 16))) (fun σ7 => lt_ (va_up σ7 60 (upd (σ7 60) 7 (σ7 60 17))) (fun σ8 => lt_ (va_up σ8 60 (upd (σ8 60) 41 (0 : Int32))) (fun σ9 => lt_ (va_up σ9 75 (upd (σ9 75) 0 (vp_nar .boolean (0 : Int32)))) (fun σ10 => lt_ (va_up σ10 75 (upd (σ10 75) 1 (vp_nar .boolean (0 : Int32)))) (fun σ11 => some (v1, σ11))))))))) else (if inB v2 18 = true then (if inB v2 90 = true then (lt_ (va_up σ 61 (upd (σ 61) v2.toNatClampNeg (σ 66 v2.toNatClampNeg))) (fun σ12 => if inB (v2 - v2 / (6 : Int32) * (6 : Int32)) 6 = true then (if inB (v2 - v2 / (6 : Int32) * (6 : Int32)) 6 = true then (lt_ (va_up σ12 62 (upd (σ12 62) (v2 - v2 / (6 : Int32) * (6 : Int32)).toNatClampNeg (σ12 67 (v2 - v2 / (6 : Int32) * (6 : Int32)).toNatClampNeg))) (fun σ13 => if inB (v2 - v2 / (3 : Int32) * (3 : Int32)) 3 = true then (if inB (v2 - v2 / (3 : Int32) * (3 : Int32)) 3 = true then (lt_ (va_up σ13 63 (upd (σ13 63) (v2 - v2 / (3 : Int32) * (3 : Int32)).toNatClampNeg (σ13 68 (v2 - v2 / (3 : Int32) * (3 : Int32)).toNatClampNeg))) (fun σ14 => if inB (v2 - v2 / (5 : Int32) * (5 : Int32)) 5 = true then (if inB (v2 - v2 / (5 : Int32) * (5 : Int32)) 5 = true then (lt_ (va_up σ14 64 (upd (σ14 64) (v2 - v2 / (5 : Int32) * (5 : Int32)).toNatClampNeg (σ14 69 (v2 - v2 / (5 : Int32) * (5 : Int32)).toNatClampNeg))) (fun σ15 => if inB (v2 - v2 / (2 : Int32) * (2 : Int32)) 2 = true then (if inB (v2 - v2 / (2 : Int32) * (2 : Int32)) 2 = true then (lt_ (va_up σ15 65 (upd (σ15 65) (v2 - v2 / (2 : Int32) * (2 : Int32)).toNatClampNeg (σ15 70 (v2 - v2 / (2 : Int32) * (2 : Int32)).toNatClampNeg))) (fun σ16 => f_X8_text_88 n σ16 v1 (v2 + (1 : Int32)))) else none) else none)) else none) else none)) else none) else none)) else none) else none)) else none) else none)
def f_X8_text_58   (σ : ZI) (v1 : Int32) : Option (Int32 × ZI) := lt_ (va_up σ 60 (upd (σ 60) 23 (0 : Int32))) (fun σ3 => lt_ (va_up σ3 60 (upd (σ3 60) 24 (σ3 60 25))) (fun σ4 => if (σ4 60 25) ≤ 0 then (f_X8_text_88 3000 σ4 v1 (0 : Int32)) else (some (((-10 : Int32) - (σ4 60 26)), σ4))))
def f_X8_text_34   (σ : ZI) (v1 : Int32) : Option (Int32 × ZI) := if (σ 60 25) = 0 then (if (σ 60 21) ≤ (σ 60 14) then (f_X8_text_58 σ v1) else ((f_X8_fails σ (6 : Int32)).bind (fun q17 => f_X8_text_58 q17 v1))) else (f_X8_text_58 σ v1)
def f_X8_text_10   : Nat → ZI → Int32 → Option (Int32 × ZI)
  | 0, _, _ => none
  | n + 1, σ, v1 => if (σ 60 25) = 0 then (if (σ 60 29) = 0 then (f_X8_text_34 σ v1) else ((f_X8_readLine σ).bind (fun q18 => f_X8_text_10 n q18 (v1 + (1 : Int32))))) else (f_X8_text_34 σ v1)
def f_X8_text (σ : ZI) : Option (Int32 × ZI) := (f_X8_begins σ).bind (fun q1 => (f_X8_step q1).bind (fun q2 => f_X8_text_10 3000 q2 (0 : Int32)))
abbrev rm_X8_text : Room := { frames := 6, cells := 0, slots := 0, locals := 135 }
set_option maxHeartbeats 4000000 in
set_option maxRecDepth 100000 in
theorem c_X8_text (l : Launch) (g : GG) (σ : ZI) (τ : ZL)  (res : Int32 × ZI) (h : f_X8_text σ = some res) : MI l yX8_text cX8_text 3 (some .int) rm_X8_text g [.ref (gA g 60)] σ τ (fun (r : Int32) (u : ZI × ZL) => (r, u.1) = res ∧ u.2 = τ) := by
  refine Met_in (by decide) (Nat.le_of_ble_eq_true rfl) ?_
  intro p e s m args below meth c F G hP hr0 hk0 ls hl
  have hS := WS.start hP
  have hl : lv_has ls 3 [(0, .ref (gA g 60))] := hl
  obtain ⟨H, hH⟩ : ∃ H, H = s.heap := ⟨_, rfl⟩
  rw [← hH] at hS ⊢
  clear hH hP
  rw [f_X8_text] at h
  have w_88 : ∀ (n : Nat) (σ : ZI) (v1 : Int32) (v2 : Int32), f_X8_text_88 n σ v1 v2 = some res → ∀ (H : Heap) (locs : List Loc) (ls : Array Slot), WS g σ τ s H locs → lv_has ls 3 [(0, .ref (gA g 60)), (1, .int v1), (2, .int v2)] → W p l e rm_X8_text s m args below meth c H locs 0 0 (MQ below (va_Qi (fun (r : Int32) (u : ZI × ZL) => (r, u.1) = res ∧ u.2 = τ) (WQ g) (AA g)) args s 0 0 (AA g)) (F0 m 88 ls []) := by
    intro n
    induction n with
    | zero => intro σ v1 v2 h; rw [f_X8_text_88] at h; cases h
    | succ n ih =>
      intro σ v1 v2 h H locs ls hS hl
      rw [f_X8_text_88] at h
      refine lv_iload_n F.1 F.2.1 dX8_text_88 rfl (lv_at hl 2 rfl) ?_
      refine lv_bipush (v := (18 : Int32)) F.1 F.2.1 dX8_text_89 (by decide) ?_
      refine lv_icmp_ge (tgt := 178) F.1 F.2.1 dX8_text_91 (by decide) (fun hc => ?_) (fun hc => ?_)
      · replace h := ifT h hc
        refine lv_aload_n F.1 F.2.1 dX8_text_178 rfl (lv_at hl 0 rfl) ?_
        refine lv_aload_n F.1 F.2.1 dX8_text_179 rfl (lv_at hl 0 rfl) ?_
        refine gf_X8_124 F G hS dX8_text_180 ?_
        refine pf_X8_13 F G hS dX8_text_183 (fun H locs hS => ?_)
        obtain ⟨σ5, e_σ5, h⟩ := ltE h
        rw [← e_σ5] at hS
        clear e_σ5
        refine lv_aload_n F.1 F.2.1 dX8_text_186 rfl (lv_at hl 0 rfl) ?_
        refine lv_aload_n F.1 F.2.1 dX8_text_187 rfl (lv_at hl 0 rfl) ?_
        refine gf_X8_134 F G hS dX8_text_188 ?_
        refine pf_X8_167 F G hS dX8_text_191 (fun H locs hS => ?_)
        obtain ⟨σ6, e_σ6, h⟩ := ltE h
        rw [← e_σ6] at hS
        clear e_σ6
        refine lv_aload_n F.1 F.2.1 dX8_text_194 rfl (lv_at hl 0 rfl) ?_
        refine lv_aload_n F.1 F.2.1 dX8_text_195 rfl (lv_at hl 0 rfl) ?_
        refine gf_X8_143 F G hS dX8_text_196 ?_
        refine pf_X8_170 F G hS dX8_text_199 (fun H locs hS => ?_)
        obtain ⟨σ7, e_σ7, h⟩ := ltE h
        rw [← e_σ7] at hS
        clear e_σ7
        refine lv_aload_n F.1 F.2.1 dX8_text_202 rfl (lv_at hl 0 rfl) ?_
        refine lv_aload_n F.1 F.2.1 dX8_text_203 rfl (lv_at hl 0 rfl) ?_
        refine gf_X8_146 F G hS dX8_text_204 ?_
        refine pf_X8_173 F G hS dX8_text_207 (fun H locs hS => ?_)
        obtain ⟨σ8, e_σ8, h⟩ := ltE h
        rw [← e_σ8] at hS
        clear e_σ8
        refine lv_aload_n F.1 F.2.1 dX8_text_210 rfl (lv_at hl 0 rfl) ?_
        refine lv_iconst (v := (0 : Int32)) F.1 F.2.1 dX8_text_211 (by decide) ?_
        refine pf_X8_176 F G hS dX8_text_212 (fun H locs hS => ?_)
        obtain ⟨σ9, e_σ9, h⟩ := ltE h
        rw [← e_σ9] at hS
        clear e_σ9
        refine lv_aload_n F.1 F.2.1 dX8_text_215 rfl (lv_at hl 0 rfl) ?_
        refine gf_X8_56 F G hS dX8_text_216 ?_
        refine lv_iconst (v := (0 : Int32)) F.1 F.2.1 dX8_text_219 (by decide) ?_
        refine lv_iconst (v := (0 : Int32)) F.1 F.2.1 dX8_text_220 (by decide) ?_
        refine x_zastL F G hS 75 rfl 0 rfl (by decide) dX8_text_221 (fun H locs hS => ?_)
        obtain ⟨σ10, e_σ10, h⟩ := ltE h
        rw [← e_σ10] at hS
        clear e_σ10
        refine lv_aload_n F.1 F.2.1 dX8_text_222 rfl (lv_at hl 0 rfl) ?_
        refine gf_X8_56 F G hS dX8_text_223 ?_
        refine lv_iconst (v := (1 : Int32)) F.1 F.2.1 dX8_text_226 (by decide) ?_
        refine lv_iconst (v := (0 : Int32)) F.1 F.2.1 dX8_text_227 (by decide) ?_
        refine x_zastL F G hS 75 rfl 1 rfl (by decide) dX8_text_228 (fun H locs hS => ?_)
        obtain ⟨σ11, e_σ11, h⟩ := ltE h
        rw [← e_σ11] at hS
        clear e_σ11
        refine lv_iload_n F.1 F.2.1 dX8_text_229 rfl (lv_at hl 1 rfl) ?_
        exact e_i F hS ⟨Option.some.inj h, rfl⟩ hr0 dX8_text_230 hk0
      replace h := ifF h hc
      refine lv_aload_n F.1 F.2.1 dX8_text_94 rfl (lv_at hl 0 rfl) ?_
      refine gf_X8_7 F G hS dX8_text_95 ?_
      refine lv_iload_n F.1 F.2.1 dX8_text_98 rfl (lv_at hl 2 rfl) ?_
      refine lv_aload_n F.1 F.2.1 dX8_text_99 rfl (lv_at hl 0 rfl) ?_
      refine gf_X8_29 F G hS dX8_text_100 ?_
      refine lv_iload_n F.1 F.2.1 dX8_text_103 rfl (lv_at hl 2 rfl) ?_
      obtain ⟨hin, h⟩ := gd h
      refine x_iald F G hS 66 rfl hin dX8_text_104 ?_
      obtain ⟨hin, h⟩ := gd h
      refine x_iast F G hS 61 rfl hin dX8_text_105 (fun H locs hS => ?_)
      obtain ⟨σ12, e_σ12, h⟩ := ltE h
      rw [← e_σ12] at hS
      clear e_σ12
      refine lv_aload_n F.1 F.2.1 dX8_text_106 rfl (lv_at hl 0 rfl) ?_
      refine gf_X8_17 F G hS dX8_text_107 ?_
      refine lv_iload_n F.1 F.2.1 dX8_text_110 rfl (lv_at hl 2 rfl) ?_
      refine lv_bipush (v := (6 : Int32)) F.1 F.2.1 dX8_text_111 (by decide) ?_
      refine lv_irem F.1 F.2.1 dX8_text_113 (by decide) ?_
      refine lv_aload_n F.1 F.2.1 dX8_text_114 rfl (lv_at hl 0 rfl) ?_
      refine gf_X8_32 F G hS dX8_text_115 ?_
      refine lv_iload_n F.1 F.2.1 dX8_text_118 rfl (lv_at hl 2 rfl) ?_
      refine lv_bipush (v := (6 : Int32)) F.1 F.2.1 dX8_text_119 (by decide) ?_
      refine lv_irem F.1 F.2.1 dX8_text_121 (by decide) ?_
      obtain ⟨hin, h⟩ := gd h
      refine x_iald F G hS 67 rfl hin dX8_text_122 ?_
      obtain ⟨hin, h⟩ := gd h
      refine x_iast F G hS 62 rfl hin dX8_text_123 (fun H locs hS => ?_)
      obtain ⟨σ13, e_σ13, h⟩ := ltE h
      rw [← e_σ13] at hS
      clear e_σ13
      refine lv_aload_n F.1 F.2.1 dX8_text_124 rfl (lv_at hl 0 rfl) ?_
      refine gf_X8_20 F G hS dX8_text_125 ?_
      refine lv_iload_n F.1 F.2.1 dX8_text_128 rfl (lv_at hl 2 rfl) ?_
      refine lv_iconst (v := (3 : Int32)) F.1 F.2.1 dX8_text_129 (by decide) ?_
      refine lv_irem F.1 F.2.1 dX8_text_130 (by decide) ?_
      refine lv_aload_n F.1 F.2.1 dX8_text_131 rfl (lv_at hl 0 rfl) ?_
      refine gf_X8_35 F G hS dX8_text_132 ?_
      refine lv_iload_n F.1 F.2.1 dX8_text_135 rfl (lv_at hl 2 rfl) ?_
      refine lv_iconst (v := (3 : Int32)) F.1 F.2.1 dX8_text_136 (by decide) ?_
      refine lv_irem F.1 F.2.1 dX8_text_137 (by decide) ?_
      obtain ⟨hin, h⟩ := gd h
      refine x_iald F G hS 68 rfl hin dX8_text_138 ?_
      obtain ⟨hin, h⟩ := gd h
      refine x_iast F G hS 63 rfl hin dX8_text_139 (fun H locs hS => ?_)
      obtain ⟨σ14, e_σ14, h⟩ := ltE h
      rw [← e_σ14] at hS
      clear e_σ14
      refine lv_aload_n F.1 F.2.1 dX8_text_140 rfl (lv_at hl 0 rfl) ?_
      refine gf_X8_23 F G hS dX8_text_141 ?_
      refine lv_iload_n F.1 F.2.1 dX8_text_144 rfl (lv_at hl 2 rfl) ?_
      refine lv_iconst (v := (5 : Int32)) F.1 F.2.1 dX8_text_145 (by decide) ?_
      refine lv_irem F.1 F.2.1 dX8_text_146 (by decide) ?_
      refine lv_aload_n F.1 F.2.1 dX8_text_147 rfl (lv_at hl 0 rfl) ?_
      refine gf_X8_38 F G hS dX8_text_148 ?_
      refine lv_iload_n F.1 F.2.1 dX8_text_151 rfl (lv_at hl 2 rfl) ?_
      refine lv_iconst (v := (5 : Int32)) F.1 F.2.1 dX8_text_152 (by decide) ?_
      refine lv_irem F.1 F.2.1 dX8_text_153 (by decide) ?_
      obtain ⟨hin, h⟩ := gd h
      refine x_iald F G hS 69 rfl hin dX8_text_154 ?_
      obtain ⟨hin, h⟩ := gd h
      refine x_iast F G hS 64 rfl hin dX8_text_155 (fun H locs hS => ?_)
      obtain ⟨σ15, e_σ15, h⟩ := ltE h
      rw [← e_σ15] at hS
      clear e_σ15
      refine lv_aload_n F.1 F.2.1 dX8_text_156 rfl (lv_at hl 0 rfl) ?_
      refine gf_X8_26 F G hS dX8_text_157 ?_
      refine lv_iload_n F.1 F.2.1 dX8_text_160 rfl (lv_at hl 2 rfl) ?_
      refine lv_iconst (v := (2 : Int32)) F.1 F.2.1 dX8_text_161 (by decide) ?_
      refine lv_irem F.1 F.2.1 dX8_text_162 (by decide) ?_
      refine lv_aload_n F.1 F.2.1 dX8_text_163 rfl (lv_at hl 0 rfl) ?_
      refine gf_X8_41 F G hS dX8_text_164 ?_
      refine lv_iload_n F.1 F.2.1 dX8_text_167 rfl (lv_at hl 2 rfl) ?_
      refine lv_iconst (v := (2 : Int32)) F.1 F.2.1 dX8_text_168 (by decide) ?_
      refine lv_irem F.1 F.2.1 dX8_text_169 (by decide) ?_
      obtain ⟨hin, h⟩ := gd h
      refine x_iald F G hS 70 rfl hin dX8_text_170 ?_
      obtain ⟨hin, h⟩ := gd h
      refine x_iast F G hS 65 rfl hin dX8_text_171 (fun H locs hS => ?_)
      obtain ⟨σ16, e_σ16, h⟩ := ltE h
      rw [← e_σ16] at hS
      clear e_σ16
      refine lv_iinc (v := (v2 + (1 : Int32))) (lv' := [(2, .int (v2 + (1 : Int32))), (0, .ref (gA g 60)), (1, .int v1)]) F.1 F.2.1 dX8_text_172 hl (k := 2) rfl rfl (by decide) rfl (fun ls hl => ?_)
      refine lv_goto (tgt := 88) F.1 F.2.1 dX8_text_175 (by decide) ?_
      exact ih σ16 v1 (v2 + (1 : Int32)) h H locs _ hS (lv_sub hl [1, 2, 0] rfl)
  have w_58 : ∀ (σ : ZI) (v1 : Int32), f_X8_text_58 σ v1 = some res → ∀ (H : Heap) (locs : List Loc) (ls : Array Slot), WS g σ τ s H locs → lv_has ls 3 [(0, .ref (gA g 60)), (1, .int v1)] → W p l e rm_X8_text s m args below meth c H locs 0 0 (MQ below (va_Qi (fun (r : Int32) (u : ZI × ZL) => (r, u.1) = res ∧ u.2 = τ) (WQ g) (AA g)) args s 0 0 (AA g)) (F0 m 58 ls []) := by
    intro  σ v1 h H locs ls hS hl
    rw [f_X8_text_58] at h
    refine lv_aload_n F.1 F.2.1 dX8_text_58 rfl (lv_at hl 0 rfl) ?_
    refine lv_iconst (v := (0 : Int32)) F.1 F.2.1 dX8_text_59 (by decide) ?_
    refine pf_X8_75 F G hS dX8_text_60 (fun H locs hS => ?_)
    obtain ⟨σ3, e_σ3, h⟩ := ltE h
    rw [← e_σ3] at hS
    clear e_σ3
    refine lv_aload_n F.1 F.2.1 dX8_text_63 rfl (lv_at hl 0 rfl) ?_
    refine lv_aload_n F.1 F.2.1 dX8_text_64 rfl (lv_at hl 0 rfl) ?_
    refine gf_X8_78 F G hS dX8_text_65 ?_
    refine pf_X8_164 F G hS dX8_text_68 (fun H locs hS => ?_)
    obtain ⟨σ4, e_σ4, h⟩ := ltE h
    rw [← e_σ4] at hS
    clear e_σ4
    refine lv_aload_n F.1 F.2.1 dX8_text_71 rfl (lv_at hl 0 rfl) ?_
    refine gf_X8_78 F G hS dX8_text_72 ?_
    refine lv_if_le (tgt := 86) F.1 F.2.1 dX8_text_75 (by decide) (fun hc => ?_) (fun hc => ?_)
    · replace h := ifT h hc
      refine lv_iconst (v := (0 : Int32)) F.1 F.2.1 dX8_text_86 (by decide) ?_
      refine lv_istore_n (lv' := [(2, .int (0 : Int32)), (0, .ref (gA g 60)), (1, .int v1)]) F.1 F.2.1 dX8_text_87 rfl hl (by decide) rfl (fun ls hl => ?_)
      exact w_88 3000 σ4 v1 (0 : Int32) h H locs _ hS (lv_sub hl [1, 2, 0] rfl)
    replace h := ifF h hc
    refine lv_bipush (v := (-10 : Int32)) F.1 F.2.1 dX8_text_78 (by decide) ?_
    refine lv_aload_n F.1 F.2.1 dX8_text_80 rfl (lv_at hl 0 rfl) ?_
    refine gf_X8_84 F G hS dX8_text_81 ?_
    refine lv_isub F.1 F.2.1 dX8_text_84 ?_
    exact e_i F hS ⟨Option.some.inj h, rfl⟩ hr0 dX8_text_85 hk0
  have w_34 : ∀ (σ : ZI) (v1 : Int32), f_X8_text_34 σ v1 = some res → ∀ (H : Heap) (locs : List Loc) (ls : Array Slot), WS g σ τ s H locs → lv_has ls 3 [(0, .ref (gA g 60)), (1, .int v1)] → W p l e rm_X8_text s m args below meth c H locs 0 0 (MQ below (va_Qi (fun (r : Int32) (u : ZI × ZL) => (r, u.1) = res ∧ u.2 = τ) (WQ g) (AA g)) args s 0 0 (AA g)) (F0 m 34 ls []) := by
    intro  σ v1 h H locs ls hS hl
    rw [f_X8_text_34] at h
    refine lv_aload_n F.1 F.2.1 dX8_text_34 rfl (lv_at hl 0 rfl) ?_
    refine gf_X8_78 F G hS dX8_text_35 ?_
    refine lv_if_ne (tgt := 58) F.1 F.2.1 dX8_text_38 (by decide) (fun hc => ?_) (fun hc => ?_)
    · replace h := ifF h hc
      exact w_58 σ v1 h H locs _ hS (lv_sub hl [0, 1] rfl)
    replace h := ifT h hc
    refine lv_aload_n F.1 F.2.1 dX8_text_41 rfl (lv_at hl 0 rfl) ?_
    refine gf_X8_121 F G hS dX8_text_42 ?_
    refine lv_aload_n F.1 F.2.1 dX8_text_45 rfl (lv_at hl 0 rfl) ?_
    refine gf_X8_124 F G hS dX8_text_46 ?_
    refine lv_icmp_le (tgt := 58) F.1 F.2.1 dX8_text_49 (by decide) (fun hc => ?_) (fun hc => ?_)
    · replace h := ifT h hc
      exact w_58 σ v1 h H locs _ hS (lv_sub hl [0, 1] rfl)
    replace h := ifF h hc
    refine lv_aload_n F.1 F.2.1 dX8_text_52 rfl (lv_at hl 0 rfl) ?_
    refine lv_bipush (v := (6 : Int32)) F.1 F.2.1 dX8_text_53 (by decide) ?_
    obtain ⟨q17, h_q17, h⟩ := bd h
    refine rVv F G hS hl.1 (c_X8_fails l g σ τ (6 : Int32) q17 h_q17) lk_X8_108 ⟨rfl, rfl, Nat.le_of_ble_eq_true rfl, Nat.le_of_ble_eq_true rfl⟩ (rc_X8 G hS) rfl rfl (Nat.le_of_ble_eq_true rfl) dX8_text_55 (kIv (fun H locs hS => ?_))
    exact w_58 q17 v1 h H locs _ hS (lv_sub hl [0, 1] rfl)
  have w_10 : ∀ (n : Nat) (σ : ZI) (v1 : Int32), f_X8_text_10 n σ v1 = some res → ∀ (H : Heap) (locs : List Loc) (ls : Array Slot), WS g σ τ s H locs → lv_has ls 3 [(0, .ref (gA g 60)), (1, .int v1)] → W p l e rm_X8_text s m args below meth c H locs 0 0 (MQ below (va_Qi (fun (r : Int32) (u : ZI × ZL) => (r, u.1) = res ∧ u.2 = τ) (WQ g) (AA g)) args s 0 0 (AA g)) (F0 m 10 ls []) := by
    intro n
    induction n with
    | zero => intro σ v1 h; rw [f_X8_text_10] at h; cases h
    | succ n ih =>
      intro σ v1 h H locs ls hS hl
      rw [f_X8_text_10] at h
      refine lv_aload_n F.1 F.2.1 dX8_text_10 rfl (lv_at hl 0 rfl) ?_
      refine gf_X8_78 F G hS dX8_text_11 ?_
      refine lv_if_ne (tgt := 34) F.1 F.2.1 dX8_text_14 (by decide) (fun hc => ?_) (fun hc => ?_)
      · replace h := ifF h hc
        exact w_34 σ v1 h H locs _ hS (lv_sub hl [0, 1] rfl)
      replace h := ifT h hc
      refine lv_aload_n F.1 F.2.1 dX8_text_17 rfl (lv_at hl 0 rfl) ?_
      refine gf_X8_87 F G hS dX8_text_18 ?_
      refine lv_if_eq (tgt := 34) F.1 F.2.1 dX8_text_21 (by decide) (fun hc => ?_) (fun hc => ?_)
      · replace h := ifT h hc
        exact w_34 σ v1 h H locs _ hS (lv_sub hl [0, 1] rfl)
      replace h := ifF h hc
      refine lv_aload_n F.1 F.2.1 dX8_text_24 rfl (lv_at hl 0 rfl) ?_
      obtain ⟨q18, h_q18, h⟩ := bd h
      refine rVv F G hS hl.1 (c_X8_readLine l g σ τ q18 h_q18) lk_X8_161 ⟨rfl, rfl, Nat.le_of_ble_eq_true rfl, Nat.le_of_ble_eq_true rfl⟩ (rc_X8 G hS) rfl rfl (Nat.le_of_ble_eq_true rfl) dX8_text_25 (kIv (fun H locs hS => ?_))
      refine lv_iinc (v := (v1 + (1 : Int32))) (lv' := [(1, .int (v1 + (1 : Int32))), (0, .ref (gA g 60))]) F.1 F.2.1 dX8_text_28 hl (k := 1) rfl rfl (by decide) rfl (fun ls hl => ?_)
      refine lv_goto (tgt := 10) F.1 F.2.1 dX8_text_31 (by decide) ?_
      exact ih q18 (v1 + (1 : Int32)) h H locs _ hS (lv_sub hl [1, 0] rfl)
  obtain ⟨locs, hlo⟩ : ∃ z : List Loc, z = [] := ⟨_, rfl⟩
  rw [← hlo] at hS ⊢
  clear hlo
  refine lv_iconst (v := (0 : Int32)) F.1 F.2.1 dX8_text_0 (by decide) ?_
  refine lv_istore_n (lv' := [(1, .int (0 : Int32)), (0, .ref (gA g 60))]) F.1 F.2.1 dX8_text_1 rfl hl (by decide) rfl (fun ls hl => ?_)
  refine lv_aload_n F.1 F.2.1 dX8_text_2 rfl (lv_at hl 1 rfl) ?_
  obtain ⟨q1, h_q1, h⟩ := bd h
  refine rVv F G hS hl.1 (c_X8_begins l g σ τ q1 h_q1) lk_X8_158 ⟨rfl, rfl, Nat.le_of_ble_eq_true rfl, Nat.le_of_ble_eq_true rfl⟩ (rc_X8 G hS) rfl rfl (Nat.le_of_ble_eq_true rfl) dX8_text_3 (kIv (fun H locs hS => ?_))
  refine lv_aload_n F.1 F.2.1 dX8_text_6 rfl (lv_at hl 1 rfl) ?_
  obtain ⟨q2, h_q2, h⟩ := bd h
  refine rVv F G hS hl.1 (c_X8_step l g q1 τ q2 h_q2) lk_X8_112 ⟨rfl, rfl, Nat.le_of_ble_eq_true rfl, Nat.le_of_ble_eq_true rfl⟩ (rc_X8 G hS) rfl rfl (Nat.le_of_ble_eq_true rfl) dX8_text_7 (kIv (fun H locs hS => ?_))
  exact w_10 3000 q2 (0 : Int32) h H locs _ hS (lv_sub hl [1, 0] rfl)
def f_X8_fault (σ : ZI) : Option (Int32) := some (σ 60 24)
abbrev rm_X8_fault : Room := { frames := 0, cells := 0, slots := 0, locals := 0 }
set_option maxHeartbeats 4000000 in
set_option maxRecDepth 100000 in
theorem c_X8_fault (l : Launch) (g : GG) (σ : ZI) (τ : ZL)  (res : Int32) (h : f_X8_fault σ = some res) : MI l yX8_fault cX8_fault 1 (some .int) rm_X8_fault g [.ref (gA g 60)] σ τ (fun (r : Int32) (u : ZI × ZL) => r = res ∧ u.1 = σ ∧ u.2 = τ) := by
  refine Met_in (by decide) (Nat.le_of_ble_eq_true rfl) ?_
  intro p e s m args below meth c F G hP hr0 hk0 ls hl
  have hS := WS.start hP
  have hl : lv_has ls 1 [(0, .ref (gA g 60))] := hl
  obtain ⟨H, hH⟩ : ∃ H, H = s.heap := ⟨_, rfl⟩
  rw [← hH] at hS ⊢
  clear hH hP
  rw [f_X8_fault] at h
  obtain ⟨locs, hlo⟩ : ∃ z : List Loc, z = [] := ⟨_, rfl⟩
  rw [← hlo] at hS ⊢
  clear hlo
  refine lv_aload_n F.1 F.2.1 dX8_fault_0 rfl (lv_at hl 0 rfl) ?_
  refine gf_X8_164 F G hS dX8_fault_1 ?_
  exact e_i F hS ⟨Option.some.inj h, rfl, rfl⟩ hr0 dX8_fault_4 hk0
def f_X8_isJoint (σ : ZI) (a1 : Int32) : Option (Int32) := (f_X8_in a1.toInt64 (1 : Int64) ((σ 60 1).toInt64)).bind (fun q1 => if q1 = 0 ∨ q1 = 1 then some q1 else none)
abbrev rm_X8_isJoint : Room := { frames := 1, cells := 0, slots := 0, locals := 25 }
set_option maxHeartbeats 4000000 in
set_option maxRecDepth 100000 in
theorem c_X8_isJoint (l : Launch) (g : GG) (σ : ZI) (τ : ZL) (a1 : Int32) (res : Int32) (h : f_X8_isJoint σ a1 = some res) : MI l yX8_isJoint cX8_isJoint 2 (some .boolean) rm_X8_isJoint g [.ref (gA g 60), .int a1] σ τ (fun (r : Int32) (u : ZI × ZL) => r = res ∧ u.1 = σ ∧ u.2 = τ) := by
  refine Met_in (by decide) (Nat.le_of_ble_eq_true rfl) ?_
  intro p e s m args below meth c F G hP hr0 hk0 ls hl
  have hS := WS.start hP
  have hl : lv_has ls 2 [(0, .ref (gA g 60)), (1, .int a1)] := hl
  obtain ⟨H, hH⟩ : ∃ H, H = s.heap := ⟨_, rfl⟩
  rw [← hH] at hS ⊢
  clear hH hP
  rw [f_X8_isJoint] at h
  obtain ⟨locs, hlo⟩ : ∃ z : List Loc, z = [] := ⟨_, rfl⟩
  rw [← hlo] at hS ⊢
  clear hlo
  refine lv_iload_n F.1 F.2.1 dX8_isJoint_0 rfl (lv_at hl 1 rfl) ?_
  refine lv_i2l F.1 F.2.1 dX8_isJoint_1 rfl ?_
  refine lv_lconst (v := (1 : Int64)) F.1 F.2.1 dX8_isJoint_2 (by decide) ?_
  refine lv_aload_n F.1 F.2.1 dX8_isJoint_3 rfl (lv_at hl 0 rfl) ?_
  refine gf_X8_13 F G hS dX8_isJoint_4 ?_
  refine lv_i2l F.1 F.2.1 dX8_isJoint_7 rfl ?_
  obtain ⟨q1, h_q1, h⟩ := bd h
  refine rSi F G hS hl.1 (c_X8_in l g σ τ a1.toInt64 (1 : Int64) ((σ 60 1).toInt64) q1 h_q1) lk_X8_71 ⟨rfl, rfl, Nat.le_of_ble_eq_true rfl, Nat.le_of_ble_eq_true rfl⟩  rfl rfl (Nat.le_of_ble_eq_true rfl) dX8_isJoint_8 (kRi (fun H locs hS => ?_))
  obtain ⟨hz, h⟩ := gd h
  exact e_z F hS hz ⟨Option.some.inj h, rfl, rfl⟩ hr0 dX8_isJoint_11 hk0
def f_X8_isArm (σ : ZI) (a1 : Int32) : Option (Int32) := (f_X8_in a1.toInt64 (0 : Int64) (((σ 60 3) - (1 : Int32)).toInt64)).bind (fun q1 => if q1 = 0 ∨ q1 = 1 then some q1 else none)
abbrev rm_X8_isArm : Room := { frames := 1, cells := 0, slots := 0, locals := 25 }
set_option maxHeartbeats 4000000 in
set_option maxRecDepth 100000 in
theorem c_X8_isArm (l : Launch) (g : GG) (σ : ZI) (τ : ZL) (a1 : Int32) (res : Int32) (h : f_X8_isArm σ a1 = some res) : MI l yX8_isArm cX8_isArm 2 (some .boolean) rm_X8_isArm g [.ref (gA g 60), .int a1] σ τ (fun (r : Int32) (u : ZI × ZL) => r = res ∧ u.1 = σ ∧ u.2 = τ) := by
  refine Met_in (by decide) (Nat.le_of_ble_eq_true rfl) ?_
  intro p e s m args below meth c F G hP hr0 hk0 ls hl
  have hS := WS.start hP
  have hl : lv_has ls 2 [(0, .ref (gA g 60)), (1, .int a1)] := hl
  obtain ⟨H, hH⟩ : ∃ H, H = s.heap := ⟨_, rfl⟩
  rw [← hH] at hS ⊢
  clear hH hP
  rw [f_X8_isArm] at h
  obtain ⟨locs, hlo⟩ : ∃ z : List Loc, z = [] := ⟨_, rfl⟩
  rw [← hlo] at hS ⊢
  clear hlo
  refine lv_iload_n F.1 F.2.1 dX8_isArm_0 rfl (lv_at hl 1 rfl) ?_
  refine lv_i2l F.1 F.2.1 dX8_isArm_1 rfl ?_
  refine lv_lconst (v := (0 : Int64)) F.1 F.2.1 dX8_isArm_2 (by decide) ?_
  refine lv_aload_n F.1 F.2.1 dX8_isArm_3 rfl (lv_at hl 0 rfl) ?_
  refine gf_X8_167 F G hS dX8_isArm_4 ?_
  refine lv_iconst (v := (1 : Int32)) F.1 F.2.1 dX8_isArm_7 (by decide) ?_
  refine lv_isub F.1 F.2.1 dX8_isArm_8 ?_
  refine lv_i2l F.1 F.2.1 dX8_isArm_9 rfl ?_
  obtain ⟨q1, h_q1, h⟩ := bd h
  refine rSi F G hS hl.1 (c_X8_in l g σ τ a1.toInt64 (0 : Int64) (((σ 60 3) - (1 : Int32)).toInt64) q1 h_q1) lk_X8_71 ⟨rfl, rfl, Nat.le_of_ble_eq_true rfl, Nat.le_of_ble_eq_true rfl⟩  rfl rfl (Nat.le_of_ble_eq_true rfl) dX8_isArm_10 (kRi (fun H locs hS => ?_))
  obtain ⟨hz, h⟩ := gd h
  exact e_z F hS hz ⟨Option.some.inj h, rfl, rfl⟩ hr0 dX8_isArm_13 hk0
def f_X8_slip (σ : ZI) : Option (Int32) := some ((σ 61 13) + (1 : Int32))
abbrev rm_X8_slip : Room := { frames := 0, cells := 0, slots := 0, locals := 0 }
set_option maxHeartbeats 4000000 in
set_option maxRecDepth 100000 in
theorem c_X8_slip (l : Launch) (g : GG) (σ : ZI) (τ : ZL)  (res : Int32) (h : f_X8_slip σ = some res) : MI l yX8_slip cX8_slip 1 (some .int) rm_X8_slip g [.ref (gA g 60)] σ τ (fun (r : Int32) (u : ZI × ZL) => r = res ∧ u.1 = σ ∧ u.2 = τ) := by
  refine Met_in (by decide) (Nat.le_of_ble_eq_true rfl) ?_
  intro p e s m args below meth c F G hP hr0 hk0 ls hl
  have hS := WS.start hP
  have hl : lv_has ls 1 [(0, .ref (gA g 60))] := hl
  obtain ⟨H, hH⟩ : ∃ H, H = s.heap := ⟨_, rfl⟩
  rw [← hH] at hS ⊢
  clear hH hP
  rw [f_X8_slip] at h
  obtain ⟨locs, hlo⟩ : ∃ z : List Loc, z = [] := ⟨_, rfl⟩
  rw [← hlo] at hS ⊢
  clear hlo
  refine lv_aload_n F.1 F.2.1 dX8_slip_0 rfl (lv_at hl 0 rfl) ?_
  refine gf_X8_7 F G hS dX8_slip_1 ?_
  refine lv_bipush (v := (13 : Int32)) F.1 F.2.1 dX8_slip_4 (by decide) ?_
  refine x_ialdL F G hS 61 rfl 13 rfl (by decide) dX8_slip_6 ?_
  refine lv_iconst (v := (1 : Int32)) F.1 F.2.1 dX8_slip_7 (by decide) ?_
  refine lv_iadd F.1 F.2.1 dX8_slip_8 ?_
  exact e_i F hS ⟨Option.some.inj h, rfl, rfl⟩ hr0 dX8_slip_9 hk0
def f_X8_pace (σ : ZI) : Option (Int32) := some ((σ 61 14) + (5 : Int32))
abbrev rm_X8_pace : Room := { frames := 0, cells := 0, slots := 0, locals := 0 }
set_option maxHeartbeats 4000000 in
set_option maxRecDepth 100000 in
theorem c_X8_pace (l : Launch) (g : GG) (σ : ZI) (τ : ZL)  (res : Int32) (h : f_X8_pace σ = some res) : MI l yX8_pace cX8_pace 1 (some .int) rm_X8_pace g [.ref (gA g 60)] σ τ (fun (r : Int32) (u : ZI × ZL) => r = res ∧ u.1 = σ ∧ u.2 = τ) := by
  refine Met_in (by decide) (Nat.le_of_ble_eq_true rfl) ?_
  intro p e s m args below meth c F G hP hr0 hk0 ls hl
  have hS := WS.start hP
  have hl : lv_has ls 1 [(0, .ref (gA g 60))] := hl
  obtain ⟨H, hH⟩ : ∃ H, H = s.heap := ⟨_, rfl⟩
  rw [← hH] at hS ⊢
  clear hH hP
  rw [f_X8_pace] at h
  obtain ⟨locs, hlo⟩ : ∃ z : List Loc, z = [] := ⟨_, rfl⟩
  rw [← hlo] at hS ⊢
  clear hlo
  refine lv_aload_n F.1 F.2.1 dX8_pace_0 rfl (lv_at hl 0 rfl) ?_
  refine gf_X8_7 F G hS dX8_pace_1 ?_
  refine lv_bipush (v := (14 : Int32)) F.1 F.2.1 dX8_pace_4 (by decide) ?_
  refine x_ialdL F G hS 61 rfl 14 rfl (by decide) dX8_pace_6 ?_
  refine lv_iconst (v := (5 : Int32)) F.1 F.2.1 dX8_pace_7 (by decide) ?_
  refine lv_iadd F.1 F.2.1 dX8_pace_8 ?_
  exact e_i F hS ⟨Option.some.inj h, rfl, rfl⟩ hr0 dX8_pace_9 hk0
def f_X8_handMany (σ : ZI) : Option (Int32) := some ((σ 61 17) + (3 : Int32))
abbrev rm_X8_handMany : Room := { frames := 0, cells := 0, slots := 0, locals := 0 }
set_option maxHeartbeats 4000000 in
set_option maxRecDepth 100000 in
theorem c_X8_handMany (l : Launch) (g : GG) (σ : ZI) (τ : ZL)  (res : Int32) (h : f_X8_handMany σ = some res) : MI l yX8_handMany cX8_handMany 1 (some .int) rm_X8_handMany g [.ref (gA g 60)] σ τ (fun (r : Int32) (u : ZI × ZL) => r = res ∧ u.1 = σ ∧ u.2 = τ) := by
  refine Met_in (by decide) (Nat.le_of_ble_eq_true rfl) ?_
  intro p e s m args below meth c F G hP hr0 hk0 ls hl
  have hS := WS.start hP
  have hl : lv_has ls 1 [(0, .ref (gA g 60))] := hl
  obtain ⟨H, hH⟩ : ∃ H, H = s.heap := ⟨_, rfl⟩
  rw [← hH] at hS ⊢
  clear hH hP
  rw [f_X8_handMany] at h
  obtain ⟨locs, hlo⟩ : ∃ z : List Loc, z = [] := ⟨_, rfl⟩
  rw [← hlo] at hS ⊢
  clear hlo
  refine lv_aload_n F.1 F.2.1 dX8_handMany_0 rfl (lv_at hl 0 rfl) ?_
  refine gf_X8_7 F G hS dX8_handMany_1 ?_
  refine lv_bipush (v := (17 : Int32)) F.1 F.2.1 dX8_handMany_4 (by decide) ?_
  refine x_ialdL F G hS 61 rfl 17 rfl (by decide) dX8_handMany_6 ?_
  refine lv_iconst (v := (3 : Int32)) F.1 F.2.1 dX8_handMany_7 (by decide) ?_
  refine lv_iadd F.1 F.2.1 dX8_handMany_8 ?_
  exact e_i F hS ⟨Option.some.inj h, rfl, rfl⟩ hr0 dX8_handMany_9 hk0
def f_X8_rule (σ : ZI) (a1 : Int32) : Option (Int32) := if a1 = (0 : Int32) then (some (σ 60 1)) else (if a1 = (1 : Int32) then (some (σ 60 3)) else (if a1 = (2 : Int32) then (some (σ 60 5)) else (if a1 = (3 : Int32) then (some (σ 60 7)) else (if a1 = (4 : Int32) then (if inB (((11 : Int32) + a1) - (4 : Int32)) 90 = true then (some (σ 61 (((11 : Int32) + a1) - (4 : Int32)).toNatClampNeg)) else none) else (if a1 = (5 : Int32) then (if inB (((11 : Int32) + a1) - (4 : Int32)) 90 = true then (some (σ 61 (((11 : Int32) + a1) - (4 : Int32)).toNatClampNeg)) else none) else (if a1 = (6 : Int32) then ((f_X8_slip σ).bind (fun q1 => some q1)) else (if a1 = (7 : Int32) then ((f_X8_pace σ).bind (fun q2 => some q2)) else (if a1 = (8 : Int32) then (some ((σ 61 15) + (2 : Int32))) else (if a1 = (9 : Int32) then (some ((σ 61 16) + (4 : Int32))) else (if a1 = (10 : Int32) then (if inB (a1 - (10 : Int32)) 2 = true then (some (σ 65 (a1 - (10 : Int32)).toNatClampNeg)) else none) else (if a1 = (11 : Int32) then (if inB (a1 - (10 : Int32)) 2 = true then (some (σ 65 (a1 - (10 : Int32)).toNatClampNeg)) else none) else (if a1 = (12 : Int32) then ((f_X8_handMany σ).bind (fun q3 => some q3)) else (some (-1 : Int32))))))))))))))
abbrev rm_X8_rule : Room := { frames := 1, cells := 0, slots := 0, locals := 20 }
set_option maxHeartbeats 4000000 in
set_option maxRecDepth 100000 in
theorem c_X8_rule (l : Launch) (g : GG) (σ : ZI) (τ : ZL) (a1 : Int32) (res : Int32) (h : f_X8_rule σ a1 = some res) : MI l yX8_rule cX8_rule 2 (some .int) rm_X8_rule g [.ref (gA g 60), .int a1] σ τ (fun (r : Int32) (u : ZI × ZL) => r = res ∧ u.1 = σ ∧ u.2 = τ) := by
  refine Met_in (by decide) (Nat.le_of_ble_eq_true rfl) ?_
  intro p e s m args below meth c F G hP hr0 hk0 ls hl
  have hS := WS.start hP
  have hl : lv_has ls 2 [(0, .ref (gA g 60)), (1, .int a1)] := hl
  obtain ⟨H, hH⟩ : ∃ H, H = s.heap := ⟨_, rfl⟩
  rw [← hH] at hS ⊢
  clear hH hP
  rw [f_X8_rule] at h
  obtain ⟨locs, hlo⟩ : ∃ z : List Loc, z = [] := ⟨_, rfl⟩
  rw [← hlo] at hS ⊢
  clear hlo
  refine lv_iload_n F.1 F.2.1 dX8_rule_0 rfl (lv_at hl 1 rfl) ?_
  by_cases hc_0 : a1 = (0 : Int32)
  · replace h := ifT h hc_0
    refine lv_tableIn (tgt := 68) F.1 F.2.1 dX8_rule_1 (by rw [hc_0]; decide) (by rw [hc_0]; decide) (by rw [hc_0]; rfl) (by decide) ?_
    refine lv_aload_n F.1 F.2.1 dX8_rule_68 rfl (lv_at hl 0 rfl) ?_
    refine gf_X8_13 F G hS dX8_rule_69 ?_
    exact e_i F hS ⟨Option.some.inj h, rfl, rfl⟩ hr0 dX8_rule_72 hk0
  replace h := ifF h hc_0
  by_cases hc_1 : a1 = (1 : Int32)
  · replace h := ifT h hc_1
    refine lv_tableIn (tgt := 73) F.1 F.2.1 dX8_rule_1 (by rw [hc_1]; decide) (by rw [hc_1]; decide) (by rw [hc_1]; rfl) (by decide) ?_
    refine lv_aload_n F.1 F.2.1 dX8_rule_73 rfl (lv_at hl 0 rfl) ?_
    refine gf_X8_167 F G hS dX8_rule_74 ?_
    exact e_i F hS ⟨Option.some.inj h, rfl, rfl⟩ hr0 dX8_rule_77 hk0
  replace h := ifF h hc_1
  by_cases hc_2 : a1 = (2 : Int32)
  · replace h := ifT h hc_2
    refine lv_tableIn (tgt := 78) F.1 F.2.1 dX8_rule_1 (by rw [hc_2]; decide) (by rw [hc_2]; decide) (by rw [hc_2]; rfl) (by decide) ?_
    refine lv_aload_n F.1 F.2.1 dX8_rule_78 rfl (lv_at hl 0 rfl) ?_
    refine gf_X8_170 F G hS dX8_rule_79 ?_
    exact e_i F hS ⟨Option.some.inj h, rfl, rfl⟩ hr0 dX8_rule_82 hk0
  replace h := ifF h hc_2
  by_cases hc_3 : a1 = (3 : Int32)
  · replace h := ifT h hc_3
    refine lv_tableIn (tgt := 83) F.1 F.2.1 dX8_rule_1 (by rw [hc_3]; decide) (by rw [hc_3]; decide) (by rw [hc_3]; rfl) (by decide) ?_
    refine lv_aload_n F.1 F.2.1 dX8_rule_83 rfl (lv_at hl 0 rfl) ?_
    refine gf_X8_173 F G hS dX8_rule_84 ?_
    exact e_i F hS ⟨Option.some.inj h, rfl, rfl⟩ hr0 dX8_rule_87 hk0
  replace h := ifF h hc_3
  by_cases hc_4 : a1 = (4 : Int32)
  · replace h := ifT h hc_4
    refine lv_tableIn (tgt := 88) F.1 F.2.1 dX8_rule_1 (by rw [hc_4]; decide) (by rw [hc_4]; decide) (by rw [hc_4]; rfl) (by decide) ?_
    refine lv_aload_n F.1 F.2.1 dX8_rule_88 rfl (lv_at hl 0 rfl) ?_
    refine gf_X8_7 F G hS dX8_rule_89 ?_
    refine lv_bipush (v := (11 : Int32)) F.1 F.2.1 dX8_rule_92 (by decide) ?_
    refine lv_iload_n F.1 F.2.1 dX8_rule_94 rfl (lv_at hl 1 rfl) ?_
    refine lv_iadd F.1 F.2.1 dX8_rule_95 ?_
    refine lv_iconst (v := (4 : Int32)) F.1 F.2.1 dX8_rule_96 (by decide) ?_
    refine lv_isub F.1 F.2.1 dX8_rule_97 ?_
    obtain ⟨hin, h⟩ := gd h
    refine x_iald F G hS 61 rfl hin dX8_rule_98 ?_
    exact e_i F hS ⟨Option.some.inj h, rfl, rfl⟩ hr0 dX8_rule_99 hk0
  replace h := ifF h hc_4
  by_cases hc_5 : a1 = (5 : Int32)
  · replace h := ifT h hc_5
    refine lv_tableIn (tgt := 88) F.1 F.2.1 dX8_rule_1 (by rw [hc_5]; decide) (by rw [hc_5]; decide) (by rw [hc_5]; rfl) (by decide) ?_
    refine lv_aload_n F.1 F.2.1 dX8_rule_88 rfl (lv_at hl 0 rfl) ?_
    refine gf_X8_7 F G hS dX8_rule_89 ?_
    refine lv_bipush (v := (11 : Int32)) F.1 F.2.1 dX8_rule_92 (by decide) ?_
    refine lv_iload_n F.1 F.2.1 dX8_rule_94 rfl (lv_at hl 1 rfl) ?_
    refine lv_iadd F.1 F.2.1 dX8_rule_95 ?_
    refine lv_iconst (v := (4 : Int32)) F.1 F.2.1 dX8_rule_96 (by decide) ?_
    refine lv_isub F.1 F.2.1 dX8_rule_97 ?_
    obtain ⟨hin, h⟩ := gd h
    refine x_iald F G hS 61 rfl hin dX8_rule_98 ?_
    exact e_i F hS ⟨Option.some.inj h, rfl, rfl⟩ hr0 dX8_rule_99 hk0
  replace h := ifF h hc_5
  by_cases hc_6 : a1 = (6 : Int32)
  · replace h := ifT h hc_6
    refine lv_tableIn (tgt := 100) F.1 F.2.1 dX8_rule_1 (by rw [hc_6]; decide) (by rw [hc_6]; decide) (by rw [hc_6]; rfl) (by decide) ?_
    refine lv_aload_n F.1 F.2.1 dX8_rule_100 rfl (lv_at hl 0 rfl) ?_
    obtain ⟨q1, h_q1, h⟩ := bd h
    refine rVi F G hS hl.1 (c_X8_slip l g σ τ q1 h_q1) lk_X8_179 ⟨rfl, rfl, Nat.le_of_ble_eq_true rfl, Nat.le_of_ble_eq_true rfl⟩ (rc_X8 G hS) rfl rfl (Nat.le_of_ble_eq_true rfl) dX8_rule_101 (kRi (fun H locs hS => ?_))
    exact e_i F hS ⟨Option.some.inj h, rfl, rfl⟩ hr0 dX8_rule_104 hk0
  replace h := ifF h hc_6
  by_cases hc_7 : a1 = (7 : Int32)
  · replace h := ifT h hc_7
    refine lv_tableIn (tgt := 105) F.1 F.2.1 dX8_rule_1 (by rw [hc_7]; decide) (by rw [hc_7]; decide) (by rw [hc_7]; rfl) (by decide) ?_
    refine lv_aload_n F.1 F.2.1 dX8_rule_105 rfl (lv_at hl 0 rfl) ?_
    obtain ⟨q2, h_q2, h⟩ := bd h
    refine rVi F G hS hl.1 (c_X8_pace l g σ τ q2 h_q2) lk_X8_182 ⟨rfl, rfl, Nat.le_of_ble_eq_true rfl, Nat.le_of_ble_eq_true rfl⟩ (rc_X8 G hS) rfl rfl (Nat.le_of_ble_eq_true rfl) dX8_rule_106 (kRi (fun H locs hS => ?_))
    exact e_i F hS ⟨Option.some.inj h, rfl, rfl⟩ hr0 dX8_rule_109 hk0
  replace h := ifF h hc_7
  by_cases hc_8 : a1 = (8 : Int32)
  · replace h := ifT h hc_8
    refine lv_tableIn (tgt := 110) F.1 F.2.1 dX8_rule_1 (by rw [hc_8]; decide) (by rw [hc_8]; decide) (by rw [hc_8]; rfl) (by decide) ?_
    refine lv_aload_n F.1 F.2.1 dX8_rule_110 rfl (lv_at hl 0 rfl) ?_
    refine gf_X8_7 F G hS dX8_rule_111 ?_
    refine lv_bipush (v := (15 : Int32)) F.1 F.2.1 dX8_rule_114 (by decide) ?_
    refine x_ialdL F G hS 61 rfl 15 rfl (by decide) dX8_rule_116 ?_
    refine lv_iconst (v := (2 : Int32)) F.1 F.2.1 dX8_rule_117 (by decide) ?_
    refine lv_iadd F.1 F.2.1 dX8_rule_118 ?_
    exact e_i F hS ⟨Option.some.inj h, rfl, rfl⟩ hr0 dX8_rule_119 hk0
  replace h := ifF h hc_8
  by_cases hc_9 : a1 = (9 : Int32)
  · replace h := ifT h hc_9
    refine lv_tableIn (tgt := 120) F.1 F.2.1 dX8_rule_1 (by rw [hc_9]; decide) (by rw [hc_9]; decide) (by rw [hc_9]; rfl) (by decide) ?_
    refine lv_aload_n F.1 F.2.1 dX8_rule_120 rfl (lv_at hl 0 rfl) ?_
    refine gf_X8_7 F G hS dX8_rule_121 ?_
    refine lv_bipush (v := (16 : Int32)) F.1 F.2.1 dX8_rule_124 (by decide) ?_
    refine x_ialdL F G hS 61 rfl 16 rfl (by decide) dX8_rule_126 ?_
    refine lv_iconst (v := (4 : Int32)) F.1 F.2.1 dX8_rule_127 (by decide) ?_
    refine lv_iadd F.1 F.2.1 dX8_rule_128 ?_
    exact e_i F hS ⟨Option.some.inj h, rfl, rfl⟩ hr0 dX8_rule_129 hk0
  replace h := ifF h hc_9
  by_cases hc_10 : a1 = (10 : Int32)
  · replace h := ifT h hc_10
    refine lv_tableIn (tgt := 130) F.1 F.2.1 dX8_rule_1 (by rw [hc_10]; decide) (by rw [hc_10]; decide) (by rw [hc_10]; rfl) (by decide) ?_
    refine lv_aload_n F.1 F.2.1 dX8_rule_130 rfl (lv_at hl 0 rfl) ?_
    refine gf_X8_26 F G hS dX8_rule_131 ?_
    refine lv_iload_n F.1 F.2.1 dX8_rule_134 rfl (lv_at hl 1 rfl) ?_
    refine lv_bipush (v := (10 : Int32)) F.1 F.2.1 dX8_rule_135 (by decide) ?_
    refine lv_isub F.1 F.2.1 dX8_rule_137 ?_
    obtain ⟨hin, h⟩ := gd h
    refine x_iald F G hS 65 rfl hin dX8_rule_138 ?_
    exact e_i F hS ⟨Option.some.inj h, rfl, rfl⟩ hr0 dX8_rule_139 hk0
  replace h := ifF h hc_10
  by_cases hc_11 : a1 = (11 : Int32)
  · replace h := ifT h hc_11
    refine lv_tableIn (tgt := 130) F.1 F.2.1 dX8_rule_1 (by rw [hc_11]; decide) (by rw [hc_11]; decide) (by rw [hc_11]; rfl) (by decide) ?_
    refine lv_aload_n F.1 F.2.1 dX8_rule_130 rfl (lv_at hl 0 rfl) ?_
    refine gf_X8_26 F G hS dX8_rule_131 ?_
    refine lv_iload_n F.1 F.2.1 dX8_rule_134 rfl (lv_at hl 1 rfl) ?_
    refine lv_bipush (v := (10 : Int32)) F.1 F.2.1 dX8_rule_135 (by decide) ?_
    refine lv_isub F.1 F.2.1 dX8_rule_137 ?_
    obtain ⟨hin, h⟩ := gd h
    refine x_iald F G hS 65 rfl hin dX8_rule_138 ?_
    exact e_i F hS ⟨Option.some.inj h, rfl, rfl⟩ hr0 dX8_rule_139 hk0
  replace h := ifF h hc_11
  by_cases hc_12 : a1 = (12 : Int32)
  · replace h := ifT h hc_12
    refine lv_tableIn (tgt := 140) F.1 F.2.1 dX8_rule_1 (by rw [hc_12]; decide) (by rw [hc_12]; decide) (by rw [hc_12]; rfl) (by decide) ?_
    refine lv_aload_n F.1 F.2.1 dX8_rule_140 rfl (lv_at hl 0 rfl) ?_
    obtain ⟨q3, h_q3, h⟩ := bd h
    refine rVi F G hS hl.1 (c_X8_handMany l g σ τ q3 h_q3) lk_X8_185 ⟨rfl, rfl, Nat.le_of_ble_eq_true rfl, Nat.le_of_ble_eq_true rfl⟩ (rc_X8 G hS) rfl rfl (Nat.le_of_ble_eq_true rfl) dX8_rule_141 (kRi (fun H locs hS => ?_))
    exact e_i F hS ⟨Option.some.inj h, rfl, rfl⟩ hr0 dX8_rule_144 hk0
  replace h := ifF h hc_12
  refine lv_tableOut (tgt := 145) F.1 F.2.1 dX8_rule_1 (by have h0 := lv_neT (a := 0) hc_0 (by decide); have h1 := lv_neT (a := 1) hc_1 (by decide); have h2 := lv_neT (a := 2) hc_2 (by decide); have h3 := lv_neT (a := 3) hc_3 (by decide); have h4 := lv_neT (a := 4) hc_4 (by decide); have h5 := lv_neT (a := 5) hc_5 (by decide); have h6 := lv_neT (a := 6) hc_6 (by decide); have h7 := lv_neT (a := 7) hc_7 (by decide); have h8 := lv_neT (a := 8) hc_8 (by decide); have h9 := lv_neT (a := 9) hc_9 (by decide); have h10 := lv_neT (a := 10) hc_10 (by decide); have h11 := lv_neT (a := 11) hc_11 (by decide); have h12 := lv_neT (a := 12) hc_12 (by decide); omega) (by decide) ?_
  refine lv_iconst (v := (-1 : Int32)) F.1 F.2.1 dX8_rule_145 (by decide) ?_
  exact e_i F hS ⟨Option.some.inj h, rfl, rfl⟩ hr0 dX8_rule_146 hk0
def f_X8_holdsOf_82 (σ : ZI) (a1 : Int32)  (v3 : Int32) : Option (Int32) := if 0 ≤ v3 then (some v3) else (some (0 : Int32))
def f_X8_holdsOf_51 (σ : ZI) (a1 : Int32)  (s0 : Int32) (s1 : Int32) (s2 : Int32) : Option (Int32) := f_X8_holdsOf_82 σ a1 (s2 - (s1 + s0))
def f_X8_holdsOf_41 (σ : ZI) (a1 : Int32)  (v2 : Int32) (s0 : Int32) (s1 : Int32) : Option (Int32) := if v2 = (4 : Int32) then (f_X8_holdsOf_51 σ a1 (1 : Int32) s0 s1) else (f_X8_holdsOf_51 σ a1 (0 : Int32) s0 s1)
def f_X8_holdsOf_27 (σ : ZI) (a1 : Int32)  (v2 : Int32) (v3 : Int32) : Option (Int32) := (f_X8_pace σ).bind (fun q3 => if q3 < (5 : Int32) then (f_X8_holdsOf_41 σ a1 v2 (0 : Int32) v3) else (f_X8_holdsOf_41 σ a1 v2 (3 : Int32) v3))
def f_X8_holdsOf_79 (σ : ZI) (a1 : Int32)  (s0 : Int32) (s1 : Int32) (s2 : Int32) : Option (Int32) := f_X8_holdsOf_82 σ a1 (s2 - (s1 + s0))
def f_X8_holdsOf (σ : ZI) (a1 : Int32) : Option (Int32) := if inB a1 90 = true then ((f_X8_pace σ).bind (fun q1 => lt_ (((10 : Int32) - (q1 / (2 : Int32)))) (fun x2 => if (σ 61 a1.toNatClampNeg) = (1 : Int32) then (f_X8_holdsOf_27 σ a1 (σ 61 a1.toNatClampNeg) x2) else (if (σ 61 a1.toNatClampNeg) = (4 : Int32) then (f_X8_holdsOf_27 σ a1 (σ 61 a1.toNatClampNeg) x2) else (if (σ 61 a1.toNatClampNeg) ≤ (1 : Int32) then (f_X8_holdsOf_82 σ a1 x2) else ((f_X8_pace σ).bind (fun q4 => if (σ 61 a1.toNatClampNeg) = (3 : Int32) then (f_X8_holdsOf_79 σ a1 (1 : Int32) (q4 / (3 : Int32)) x2) else (f_X8_holdsOf_79 σ a1 (0 : Int32) (q4 / (3 : Int32)) x2)))))))) else none
abbrev rm_X8_holdsOf : Room := { frames := 1, cells := 0, slots := 0, locals := 20 }
set_option maxHeartbeats 4000000 in
set_option maxRecDepth 100000 in
theorem c_X8_holdsOf (l : Launch) (g : GG) (σ : ZI) (τ : ZL) (a1 : Int32) (res : Int32) (h : f_X8_holdsOf σ a1 = some res) : MI l yX8_holdsOf cX8_holdsOf 4 (some .int) rm_X8_holdsOf g [.ref (gA g 60), .int a1] σ τ (fun (r : Int32) (u : ZI × ZL) => r = res ∧ u.1 = σ ∧ u.2 = τ) := by
  refine Met_in (by decide) (Nat.le_of_ble_eq_true rfl) ?_
  intro p e s m args below meth c F G hP hr0 hk0 ls hl
  have hS := WS.start hP
  have hl : lv_has ls 4 [(0, .ref (gA g 60)), (1, .int a1)] := hl
  obtain ⟨H, hH⟩ : ∃ H, H = s.heap := ⟨_, rfl⟩
  rw [← hH] at hS ⊢
  clear hH hP
  rw [f_X8_holdsOf] at h
  have w_82 : ∀ (v3 : Int32), f_X8_holdsOf_82 σ a1 v3 = some res → ∀ (H : Heap) (locs : List Loc) (ls : Array Slot), WS g σ τ s H locs → lv_has ls 4 [(3, .int v3)] → W p l e rm_X8_holdsOf s m args below meth c H locs 0 0 (MQ below (va_Qi (fun (r : Int32) (u : ZI × ZL) => r = res ∧ u.1 = σ ∧ u.2 = τ) (WQ g) (AA g)) args s 0 0 (AA g)) (F0 m 82 ls []) := by
    intro  v3 h H locs ls hS hl
    rw [f_X8_holdsOf_82] at h
    refine lv_iload_n F.1 F.2.1 dX8_holdsOf_82 rfl (lv_at hl 0 rfl) ?_
    refine lv_if_ge (tgt := 90) F.1 F.2.1 dX8_holdsOf_83 (by decide) (fun hc => ?_) (fun hc => ?_)
    · replace h := ifT h hc
      refine lv_iload_n F.1 F.2.1 dX8_holdsOf_90 rfl (lv_at hl 0 rfl) ?_
      exact e_i F hS ⟨Option.some.inj h, rfl, rfl⟩ hr0 dX8_holdsOf_91 hk0
    replace h := ifF h hc
    refine lv_iconst (v := (0 : Int32)) F.1 F.2.1 dX8_holdsOf_86 (by decide) ?_
    refine lv_goto (tgt := 91) F.1 F.2.1 dX8_holdsOf_87 (by decide) ?_
    exact e_i F hS ⟨Option.some.inj h, rfl, rfl⟩ hr0 dX8_holdsOf_91 hk0
  have w_51 : ∀ (s0 : Int32) (s1 : Int32) (s2 : Int32), f_X8_holdsOf_51 σ a1 s0 s1 s2 = some res → ∀ (H : Heap) (locs : List Loc) (ls : Array Slot), WS g σ τ s H locs → lv_has ls 4 [] → W p l e rm_X8_holdsOf s m args below meth c H locs 0 0 (MQ below (va_Qi (fun (r : Int32) (u : ZI × ZL) => r = res ∧ u.1 = σ ∧ u.2 = τ) (WQ g) (AA g)) args s 0 0 (AA g)) (F0 m 51 ls [.int s0, .int s1, .int s2]) := by
    intro  s0 s1 s2 h H locs ls hS hl
    rw [f_X8_holdsOf_51] at h
    refine lv_iadd F.1 F.2.1 dX8_holdsOf_51 ?_
    refine lv_isub F.1 F.2.1 dX8_holdsOf_52 ?_
    refine lv_istore_n (lv' := [(3, .int (s2 - (s1 + s0)))]) F.1 F.2.1 dX8_holdsOf_53 rfl hl (by decide) rfl (fun ls hl => ?_)
    refine lv_goto (tgt := 82) F.1 F.2.1 dX8_holdsOf_54 (by decide) ?_
    exact w_82 (s2 - (s1 + s0)) h H locs _ hS (lv_sub hl [0] rfl)
  have w_41 : ∀ (v2 : Int32) (s0 : Int32) (s1 : Int32), f_X8_holdsOf_41 σ a1 v2 s0 s1 = some res → ∀ (H : Heap) (locs : List Loc) (ls : Array Slot), WS g σ τ s H locs → lv_has ls 4 [(2, .int v2)] → W p l e rm_X8_holdsOf s m args below meth c H locs 0 0 (MQ below (va_Qi (fun (r : Int32) (u : ZI × ZL) => r = res ∧ u.1 = σ ∧ u.2 = τ) (WQ g) (AA g)) args s 0 0 (AA g)) (F0 m 41 ls [.int s0, .int s1]) := by
    intro  v2 s0 s1 h H locs ls hS hl
    rw [f_X8_holdsOf_41] at h
    refine lv_iload_n F.1 F.2.1 dX8_holdsOf_41 rfl (lv_at hl 0 rfl) ?_
    refine lv_iconst (v := (4 : Int32)) F.1 F.2.1 dX8_holdsOf_42 (by decide) ?_
    refine lv_icmp_ne (tgt := 50) F.1 F.2.1 dX8_holdsOf_43 (by decide) (fun hc => ?_) (fun hc => ?_)
    · replace h := ifF h hc
      refine lv_iconst (v := (0 : Int32)) F.1 F.2.1 dX8_holdsOf_50 (by decide) ?_
      exact w_51 (0 : Int32) s0 s1 h H locs _ hS (lv_sub hl [] rfl)
    replace h := ifT h hc
    refine lv_iconst (v := (1 : Int32)) F.1 F.2.1 dX8_holdsOf_46 (by decide) ?_
    refine lv_goto (tgt := 51) F.1 F.2.1 dX8_holdsOf_47 (by decide) ?_
    exact w_51 (1 : Int32) s0 s1 h H locs _ hS (lv_sub hl [] rfl)
  have w_27 : ∀ (v2 : Int32) (v3 : Int32), f_X8_holdsOf_27 σ a1 v2 v3 = some res → ∀ (H : Heap) (locs : List Loc) (ls : Array Slot), WS g σ τ s H locs → lv_has ls 4 [(0, .ref (gA g 60)), (2, .int v2), (3, .int v3)] → W p l e rm_X8_holdsOf s m args below meth c H locs 0 0 (MQ below (va_Qi (fun (r : Int32) (u : ZI × ZL) => r = res ∧ u.1 = σ ∧ u.2 = τ) (WQ g) (AA g)) args s 0 0 (AA g)) (F0 m 27 ls []) := by
    intro  v2 v3 h H locs ls hS hl
    rw [f_X8_holdsOf_27] at h
    refine lv_iload_n F.1 F.2.1 dX8_holdsOf_27 rfl (lv_at hl 2 rfl) ?_
    refine lv_aload_n F.1 F.2.1 dX8_holdsOf_28 rfl (lv_at hl 0 rfl) ?_
    obtain ⟨q3, h_q3, h⟩ := bd h
    refine rVi F G hS hl.1 (c_X8_pace l g σ τ q3 h_q3) lk_X8_182 ⟨rfl, rfl, Nat.le_of_ble_eq_true rfl, Nat.le_of_ble_eq_true rfl⟩ (rc_X8 G hS) rfl rfl (Nat.le_of_ble_eq_true rfl) dX8_holdsOf_29 (kRi (fun H locs hS => ?_))
    refine lv_iconst (v := (5 : Int32)) F.1 F.2.1 dX8_holdsOf_32 (by decide) ?_
    refine lv_icmp_lt (tgt := 40) F.1 F.2.1 dX8_holdsOf_33 (by decide) (fun hc => ?_) (fun hc => ?_)
    · replace h := ifT h hc
      refine lv_iconst (v := (0 : Int32)) F.1 F.2.1 dX8_holdsOf_40 (by decide) ?_
      exact w_41 v2 (0 : Int32) v3 h H locs _ hS (lv_sub hl [1] rfl)
    replace h := ifF h hc
    refine lv_iconst (v := (3 : Int32)) F.1 F.2.1 dX8_holdsOf_36 (by decide) ?_
    refine lv_goto (tgt := 41) F.1 F.2.1 dX8_holdsOf_37 (by decide) ?_
    exact w_41 v2 (3 : Int32) v3 h H locs _ hS (lv_sub hl [1] rfl)
  have w_79 : ∀ (s0 : Int32) (s1 : Int32) (s2 : Int32), f_X8_holdsOf_79 σ a1 s0 s1 s2 = some res → ∀ (H : Heap) (locs : List Loc) (ls : Array Slot), WS g σ τ s H locs → lv_has ls 4 [] → W p l e rm_X8_holdsOf s m args below meth c H locs 0 0 (MQ below (va_Qi (fun (r : Int32) (u : ZI × ZL) => r = res ∧ u.1 = σ ∧ u.2 = τ) (WQ g) (AA g)) args s 0 0 (AA g)) (F0 m 79 ls [.int s0, .int s1, .int s2]) := by
    intro  s0 s1 s2 h H locs ls hS hl
    rw [f_X8_holdsOf_79] at h
    refine lv_iadd F.1 F.2.1 dX8_holdsOf_79 ?_
    refine lv_isub F.1 F.2.1 dX8_holdsOf_80 ?_
    refine lv_istore_n (lv' := [(3, .int (s2 - (s1 + s0)))]) F.1 F.2.1 dX8_holdsOf_81 rfl hl (by decide) rfl (fun ls hl => ?_)
    exact w_82 (s2 - (s1 + s0)) h H locs _ hS (lv_sub hl [0] rfl)
  obtain ⟨locs, hlo⟩ : ∃ z : List Loc, z = [] := ⟨_, rfl⟩
  rw [← hlo] at hS ⊢
  clear hlo
  refine lv_aload_n F.1 F.2.1 dX8_holdsOf_0 rfl (lv_at hl 0 rfl) ?_
  refine gf_X8_7 F G hS dX8_holdsOf_1 ?_
  refine lv_iload_n F.1 F.2.1 dX8_holdsOf_4 rfl (lv_at hl 1 rfl) ?_
  obtain ⟨hin, h⟩ := gd h
  refine x_iald F G hS 61 rfl hin dX8_holdsOf_5 ?_
  refine lv_istore_n (lv' := [(2, .int (σ 61 a1.toNatClampNeg)), (0, .ref (gA g 60)), (1, .int a1)]) F.1 F.2.1 dX8_holdsOf_6 rfl hl (by decide) rfl (fun ls hl => ?_)
  refine lv_bipush (v := (10 : Int32)) F.1 F.2.1 dX8_holdsOf_7 (by decide) ?_
  refine lv_aload_n F.1 F.2.1 dX8_holdsOf_9 rfl (lv_at hl 1 rfl) ?_
  obtain ⟨q1, h_q1, h⟩ := bd h
  refine rVi F G hS hl.1 (c_X8_pace l g σ τ q1 h_q1) lk_X8_182 ⟨rfl, rfl, Nat.le_of_ble_eq_true rfl, Nat.le_of_ble_eq_true rfl⟩ (rc_X8 G hS) rfl rfl (Nat.le_of_ble_eq_true rfl) dX8_holdsOf_10 (kRi (fun H locs hS => ?_))
  refine lv_iconst (v := (2 : Int32)) F.1 F.2.1 dX8_holdsOf_13 (by decide) ?_
  refine lv_idiv F.1 F.2.1 dX8_holdsOf_14 (by decide) ?_
  refine lv_isub F.1 F.2.1 dX8_holdsOf_15 ?_
  obtain ⟨x2, e_x2, h⟩ := ltE h
  refine x_topi e_x2 ?_
  clear e_x2
  refine lv_istore_n (lv' := [(3, .int x2), (2, .int (σ 61 a1.toNatClampNeg)), (0, .ref (gA g 60)), (1, .int a1)]) F.1 F.2.1 dX8_holdsOf_16 rfl hl (by decide) rfl (fun ls hl => ?_)
  refine lv_iload_n F.1 F.2.1 dX8_holdsOf_17 rfl (lv_at hl 1 rfl) ?_
  refine lv_iconst (v := (1 : Int32)) F.1 F.2.1 dX8_holdsOf_18 (by decide) ?_
  refine lv_icmp_eq (tgt := 27) F.1 F.2.1 dX8_holdsOf_19 (by decide) (fun hc => ?_) (fun hc => ?_)
  · replace h := ifT h hc
    exact w_27 (σ 61 a1.toNatClampNeg) x2 h H locs _ hS (lv_sub hl [2, 1, 0] rfl)
  replace h := ifF h hc
  refine lv_iload_n F.1 F.2.1 dX8_holdsOf_22 rfl (lv_at hl 1 rfl) ?_
  refine lv_iconst (v := (4 : Int32)) F.1 F.2.1 dX8_holdsOf_23 (by decide) ?_
  refine lv_icmp_ne (tgt := 57) F.1 F.2.1 dX8_holdsOf_24 (by decide) (fun hc => ?_) (fun hc => ?_)
  rotate_left
  · replace h := ifT h hc
    exact w_27 (σ 61 a1.toNatClampNeg) x2 h H locs _ hS (lv_sub hl [2, 1, 0] rfl)
  replace h := ifF h hc
  refine lv_iload_n F.1 F.2.1 dX8_holdsOf_57 rfl (lv_at hl 1 rfl) ?_
  refine lv_iconst (v := (1 : Int32)) F.1 F.2.1 dX8_holdsOf_58 (by decide) ?_
  refine lv_icmp_le (tgt := 82) F.1 F.2.1 dX8_holdsOf_59 (by decide) (fun hc => ?_) (fun hc => ?_)
  · replace h := ifT h hc
    exact w_82 x2 h H locs _ hS (lv_sub hl [0] rfl)
  replace h := ifF h hc
  refine lv_iload_n F.1 F.2.1 dX8_holdsOf_62 rfl (lv_at hl 0 rfl) ?_
  refine lv_aload_n F.1 F.2.1 dX8_holdsOf_63 rfl (lv_at hl 2 rfl) ?_
  obtain ⟨q4, h_q4, h⟩ := bd h
  refine rVi F G hS hl.1 (c_X8_pace l g σ τ q4 h_q4) lk_X8_182 ⟨rfl, rfl, Nat.le_of_ble_eq_true rfl, Nat.le_of_ble_eq_true rfl⟩ (rc_X8 G hS) rfl rfl (Nat.le_of_ble_eq_true rfl) dX8_holdsOf_64 (kRi (fun H locs hS => ?_))
  refine lv_iconst (v := (3 : Int32)) F.1 F.2.1 dX8_holdsOf_67 (by decide) ?_
  refine lv_idiv F.1 F.2.1 dX8_holdsOf_68 (by decide) ?_
  refine lv_iload_n F.1 F.2.1 dX8_holdsOf_69 rfl (lv_at hl 1 rfl) ?_
  refine lv_iconst (v := (3 : Int32)) F.1 F.2.1 dX8_holdsOf_70 (by decide) ?_
  refine lv_icmp_ne (tgt := 78) F.1 F.2.1 dX8_holdsOf_71 (by decide) (fun hc => ?_) (fun hc => ?_)
  · replace h := ifF h hc
    refine lv_iconst (v := (0 : Int32)) F.1 F.2.1 dX8_holdsOf_78 (by decide) ?_
    exact w_79 (0 : Int32) (q4 / (3 : Int32)) x2 h H locs _ hS (lv_sub hl [] rfl)
  replace h := ifT h hc
  refine lv_iconst (v := (1 : Int32)) F.1 F.2.1 dX8_holdsOf_74 (by decide) ?_
  refine lv_goto (tgt := 79) F.1 F.2.1 dX8_holdsOf_75 (by decide) ?_
  exact w_79 (1 : Int32) (q4 / (3 : Int32)) x2 h H locs _ hS (lv_sub hl [] rfl)
def f_X8_arm (σ : ZI) (a1 : Int32) (a2 : Int32) : Option (Int32) := (f_X8_isArm σ a1).bind (fun q1 => if q1 = 0 then (some (-1 : Int32)) else (if a2 = (0 : Int32) then (if inB a1 90 = true then (some (σ 61 a1.toNatClampNeg)) else none) else (if a2 = (1 : Int32) then (if inB ((((2 : Int32) * a1) + a2) - (1 : Int32)) 6 = true then (some (σ 62 ((((2 : Int32) * a1) + a2) - (1 : Int32)).toNatClampNeg)) else none) else (if a2 = (2 : Int32) then (if inB ((((2 : Int32) * a1) + a2) - (1 : Int32)) 6 = true then (some (σ 62 ((((2 : Int32) * a1) + a2) - (1 : Int32)).toNatClampNeg)) else none) else (if a2 = (3 : Int32) then ((f_X8_holdsOf σ a1).bind (fun q2 => some q2)) else (some (-1 : Int32)))))))
abbrev rm_X8_arm : Room := { frames := 2, cells := 0, slots := 0, locals := 46 }
set_option maxHeartbeats 4000000 in
set_option maxRecDepth 100000 in
theorem c_X8_arm (l : Launch) (g : GG) (σ : ZI) (τ : ZL) (a1 : Int32) (a2 : Int32) (res : Int32) (h : f_X8_arm σ a1 a2 = some res) : MI l yX8_arm cX8_arm 3 (some .int) rm_X8_arm g [.ref (gA g 60), .int a1, .int a2] σ τ (fun (r : Int32) (u : ZI × ZL) => r = res ∧ u.1 = σ ∧ u.2 = τ) := by
  refine Met_in (by decide) (Nat.le_of_ble_eq_true rfl) ?_
  intro p e s m args below meth c F G hP hr0 hk0 ls hl
  have hS := WS.start hP
  have hl : lv_has ls 3 [(0, .ref (gA g 60)), (1, .int a1), (2, .int a2)] := hl
  obtain ⟨H, hH⟩ : ∃ H, H = s.heap := ⟨_, rfl⟩
  rw [← hH] at hS ⊢
  clear hH hP
  rw [f_X8_arm] at h
  obtain ⟨locs, hlo⟩ : ∃ z : List Loc, z = [] := ⟨_, rfl⟩
  rw [← hlo] at hS ⊢
  clear hlo
  refine lv_aload_n F.1 F.2.1 dX8_arm_0 rfl (lv_at hl 0 rfl) ?_
  refine lv_iload_n F.1 F.2.1 dX8_arm_1 rfl (lv_at hl 1 rfl) ?_
  obtain ⟨q1, h_q1, h⟩ := bd h
  refine rVi F G hS hl.1 (c_X8_isArm l g σ τ a1 q1 h_q1) lk_X8_188 ⟨rfl, rfl, Nat.le_of_ble_eq_true rfl, Nat.le_of_ble_eq_true rfl⟩ (rc_X8 G hS) rfl rfl (Nat.le_of_ble_eq_true rfl) dX8_arm_2 (kRi (fun H locs hS => ?_))
  refine lv_if_ne (tgt := 10) F.1 F.2.1 dX8_arm_5 (by decide) (fun hc => ?_) (fun hc => ?_)
  rotate_left
  · replace h := ifT h hc
    refine lv_iconst (v := (-1 : Int32)) F.1 F.2.1 dX8_arm_8 (by decide) ?_
    exact e_i F hS ⟨Option.some.inj h, rfl, rfl⟩ hr0 dX8_arm_9 hk0
  replace h := ifF h hc
  refine lv_iload_n F.1 F.2.1 dX8_arm_10 rfl (lv_at hl 2 rfl) ?_
  by_cases hc_0 : a2 = (0 : Int32)
  · replace h := ifT h hc_0
    refine lv_tableIn (tgt := 40) F.1 F.2.1 dX8_arm_11 (by rw [hc_0]; decide) (by rw [hc_0]; decide) (by rw [hc_0]; rfl) (by decide) ?_
    refine lv_aload_n F.1 F.2.1 dX8_arm_40 rfl (lv_at hl 0 rfl) ?_
    refine gf_X8_7 F G hS dX8_arm_41 ?_
    refine lv_iload_n F.1 F.2.1 dX8_arm_44 rfl (lv_at hl 1 rfl) ?_
    obtain ⟨hin, h⟩ := gd h
    refine x_iald F G hS 61 rfl hin dX8_arm_45 ?_
    exact e_i F hS ⟨Option.some.inj h, rfl, rfl⟩ hr0 dX8_arm_46 hk0
  replace h := ifF h hc_0
  by_cases hc_1 : a2 = (1 : Int32)
  · replace h := ifT h hc_1
    refine lv_tableIn (tgt := 47) F.1 F.2.1 dX8_arm_11 (by rw [hc_1]; decide) (by rw [hc_1]; decide) (by rw [hc_1]; rfl) (by decide) ?_
    refine lv_aload_n F.1 F.2.1 dX8_arm_47 rfl (lv_at hl 0 rfl) ?_
    refine gf_X8_17 F G hS dX8_arm_48 ?_
    refine lv_iconst (v := (2 : Int32)) F.1 F.2.1 dX8_arm_51 (by decide) ?_
    refine lv_iload_n F.1 F.2.1 dX8_arm_52 rfl (lv_at hl 1 rfl) ?_
    refine lv_imul F.1 F.2.1 dX8_arm_53 ?_
    refine lv_iload_n F.1 F.2.1 dX8_arm_54 rfl (lv_at hl 2 rfl) ?_
    refine lv_iadd F.1 F.2.1 dX8_arm_55 ?_
    refine lv_iconst (v := (1 : Int32)) F.1 F.2.1 dX8_arm_56 (by decide) ?_
    refine lv_isub F.1 F.2.1 dX8_arm_57 ?_
    obtain ⟨hin, h⟩ := gd h
    refine x_iald F G hS 62 rfl hin dX8_arm_58 ?_
    exact e_i F hS ⟨Option.some.inj h, rfl, rfl⟩ hr0 dX8_arm_59 hk0
  replace h := ifF h hc_1
  by_cases hc_2 : a2 = (2 : Int32)
  · replace h := ifT h hc_2
    refine lv_tableIn (tgt := 47) F.1 F.2.1 dX8_arm_11 (by rw [hc_2]; decide) (by rw [hc_2]; decide) (by rw [hc_2]; rfl) (by decide) ?_
    refine lv_aload_n F.1 F.2.1 dX8_arm_47 rfl (lv_at hl 0 rfl) ?_
    refine gf_X8_17 F G hS dX8_arm_48 ?_
    refine lv_iconst (v := (2 : Int32)) F.1 F.2.1 dX8_arm_51 (by decide) ?_
    refine lv_iload_n F.1 F.2.1 dX8_arm_52 rfl (lv_at hl 1 rfl) ?_
    refine lv_imul F.1 F.2.1 dX8_arm_53 ?_
    refine lv_iload_n F.1 F.2.1 dX8_arm_54 rfl (lv_at hl 2 rfl) ?_
    refine lv_iadd F.1 F.2.1 dX8_arm_55 ?_
    refine lv_iconst (v := (1 : Int32)) F.1 F.2.1 dX8_arm_56 (by decide) ?_
    refine lv_isub F.1 F.2.1 dX8_arm_57 ?_
    obtain ⟨hin, h⟩ := gd h
    refine x_iald F G hS 62 rfl hin dX8_arm_58 ?_
    exact e_i F hS ⟨Option.some.inj h, rfl, rfl⟩ hr0 dX8_arm_59 hk0
  replace h := ifF h hc_2
  by_cases hc_3 : a2 = (3 : Int32)
  · replace h := ifT h hc_3
    refine lv_tableIn (tgt := 60) F.1 F.2.1 dX8_arm_11 (by rw [hc_3]; decide) (by rw [hc_3]; decide) (by rw [hc_3]; rfl) (by decide) ?_
    refine lv_aload_n F.1 F.2.1 dX8_arm_60 rfl (lv_at hl 0 rfl) ?_
    refine lv_iload_n F.1 F.2.1 dX8_arm_61 rfl (lv_at hl 1 rfl) ?_
    obtain ⟨q2, h_q2, h⟩ := bd h
    refine rVi F G hS hl.1 (c_X8_holdsOf l g σ τ a1 q2 h_q2) lk_X8_192 ⟨rfl, rfl, Nat.le_of_ble_eq_true rfl, Nat.le_of_ble_eq_true rfl⟩ (rc_X8 G hS) rfl rfl (Nat.le_of_ble_eq_true rfl) dX8_arm_62 (kRi (fun H locs hS => ?_))
    exact e_i F hS ⟨Option.some.inj h, rfl, rfl⟩ hr0 dX8_arm_65 hk0
  replace h := ifF h hc_3
  refine lv_tableOut (tgt := 66) F.1 F.2.1 dX8_arm_11 (by have h0 := lv_neT (a := 0) hc_0 (by decide); have h1 := lv_neT (a := 1) hc_1 (by decide); have h2 := lv_neT (a := 2) hc_2 (by decide); have h3 := lv_neT (a := 3) hc_3 (by decide); omega) (by decide) ?_
  refine lv_iconst (v := (-1 : Int32)) F.1 F.2.1 dX8_arm_66 (by decide) ?_
  exact e_i F hS ⟨Option.some.inj h, rfl, rfl⟩ hr0 dX8_arm_67 hk0
def f_X8_mark (σ : ZI) (a1 : Int32) (a2 : Int32) : Option (Int32) := (f_X8_in a1.toInt64 (0 : Int64) (((σ 60 5) - (1 : Int32)).toInt64)).bind (fun q1 => if q1 = 0 then (some (-1 : Int32)) else ((f_X8_in a2.toInt64 (0 : Int64) (1 : Int64)).bind (fun q2 => if q2 = 0 then (some (-1 : Int32)) else (if a2 = 0 then (if inB a1 3 = true then (some (σ 63 a1.toNatClampNeg)) else none) else (if inB ((3 : Int32) + a1) 90 = true then (some (σ 61 ((3 : Int32) + a1).toNatClampNeg)) else none)))))
abbrev rm_X8_mark : Room := { frames := 1, cells := 0, slots := 0, locals := 25 }
set_option maxHeartbeats 4000000 in
set_option maxRecDepth 100000 in
theorem c_X8_mark (l : Launch) (g : GG) (σ : ZI) (τ : ZL) (a1 : Int32) (a2 : Int32) (res : Int32) (h : f_X8_mark σ a1 a2 = some res) : MI l yX8_mark cX8_mark 3 (some .int) rm_X8_mark g [.ref (gA g 60), .int a1, .int a2] σ τ (fun (r : Int32) (u : ZI × ZL) => r = res ∧ u.1 = σ ∧ u.2 = τ) := by
  refine Met_in (by decide) (Nat.le_of_ble_eq_true rfl) ?_
  intro p e s m args below meth c F G hP hr0 hk0 ls hl
  have hS := WS.start hP
  have hl : lv_has ls 3 [(0, .ref (gA g 60)), (1, .int a1), (2, .int a2)] := hl
  obtain ⟨H, hH⟩ : ∃ H, H = s.heap := ⟨_, rfl⟩
  rw [← hH] at hS ⊢
  clear hH hP
  rw [f_X8_mark] at h
  obtain ⟨locs, hlo⟩ : ∃ z : List Loc, z = [] := ⟨_, rfl⟩
  rw [← hlo] at hS ⊢
  clear hlo
  refine lv_iload_n F.1 F.2.1 dX8_mark_0 rfl (lv_at hl 1 rfl) ?_
  refine lv_i2l F.1 F.2.1 dX8_mark_1 rfl ?_
  refine lv_lconst (v := (0 : Int64)) F.1 F.2.1 dX8_mark_2 (by decide) ?_
  refine lv_aload_n F.1 F.2.1 dX8_mark_3 rfl (lv_at hl 0 rfl) ?_
  refine gf_X8_170 F G hS dX8_mark_4 ?_
  refine lv_iconst (v := (1 : Int32)) F.1 F.2.1 dX8_mark_7 (by decide) ?_
  refine lv_isub F.1 F.2.1 dX8_mark_8 ?_
  refine lv_i2l F.1 F.2.1 dX8_mark_9 rfl ?_
  obtain ⟨q1, h_q1, h⟩ := bd h
  refine rSi F G hS hl.1 (c_X8_in l g σ τ a1.toInt64 (0 : Int64) (((σ 60 5) - (1 : Int32)).toInt64) q1 h_q1) lk_X8_71 ⟨rfl, rfl, Nat.le_of_ble_eq_true rfl, Nat.le_of_ble_eq_true rfl⟩  rfl rfl (Nat.le_of_ble_eq_true rfl) dX8_mark_10 (kRi (fun H locs hS => ?_))
  refine lv_if_eq (tgt := 26) F.1 F.2.1 dX8_mark_13 (by decide) (fun hc => ?_) (fun hc => ?_)
  · replace h := ifT h hc
    refine lv_iconst (v := (-1 : Int32)) F.1 F.2.1 dX8_mark_26 (by decide) ?_
    refine lv_goto (tgt := 51) F.1 F.2.1 dX8_mark_27 (by decide) ?_
    exact e_i F hS ⟨Option.some.inj h, rfl, rfl⟩ hr0 dX8_mark_51 hk0
  replace h := ifF h hc
  refine lv_iload_n F.1 F.2.1 dX8_mark_16 rfl (lv_at hl 2 rfl) ?_
  refine lv_i2l F.1 F.2.1 dX8_mark_17 rfl ?_
  refine lv_lconst (v := (0 : Int64)) F.1 F.2.1 dX8_mark_18 (by decide) ?_
  refine lv_lconst (v := (1 : Int64)) F.1 F.2.1 dX8_mark_19 (by decide) ?_
  obtain ⟨q2, h_q2, h⟩ := bd h
  refine rSi F G hS hl.1 (c_X8_in l g σ τ a2.toInt64 (0 : Int64) (1 : Int64) q2 h_q2) lk_X8_71 ⟨rfl, rfl, Nat.le_of_ble_eq_true rfl, Nat.le_of_ble_eq_true rfl⟩  rfl rfl (Nat.le_of_ble_eq_true rfl) dX8_mark_20 (kRi (fun H locs hS => ?_))
  refine lv_if_ne (tgt := 30) F.1 F.2.1 dX8_mark_23 (by decide) (fun hc => ?_) (fun hc => ?_)
  rotate_left
  · replace h := ifT h hc
    refine lv_iconst (v := (-1 : Int32)) F.1 F.2.1 dX8_mark_26 (by decide) ?_
    refine lv_goto (tgt := 51) F.1 F.2.1 dX8_mark_27 (by decide) ?_
    exact e_i F hS ⟨Option.some.inj h, rfl, rfl⟩ hr0 dX8_mark_51 hk0
  replace h := ifF h hc
  refine lv_iload_n F.1 F.2.1 dX8_mark_30 rfl (lv_at hl 2 rfl) ?_
  refine lv_if_ne (tgt := 43) F.1 F.2.1 dX8_mark_31 (by decide) (fun hc => ?_) (fun hc => ?_)
  rotate_left
  · replace h := ifT h hc
    refine lv_aload_n F.1 F.2.1 dX8_mark_34 rfl (lv_at hl 0 rfl) ?_
    refine gf_X8_20 F G hS dX8_mark_35 ?_
    refine lv_iload_n F.1 F.2.1 dX8_mark_38 rfl (lv_at hl 1 rfl) ?_
    obtain ⟨hin, h⟩ := gd h
    refine x_iald F G hS 63 rfl hin dX8_mark_39 ?_
    refine lv_goto (tgt := 51) F.1 F.2.1 dX8_mark_40 (by decide) ?_
    exact e_i F hS ⟨Option.some.inj h, rfl, rfl⟩ hr0 dX8_mark_51 hk0
  replace h := ifF h hc
  refine lv_aload_n F.1 F.2.1 dX8_mark_43 rfl (lv_at hl 0 rfl) ?_
  refine gf_X8_7 F G hS dX8_mark_44 ?_
  refine lv_iconst (v := (3 : Int32)) F.1 F.2.1 dX8_mark_47 (by decide) ?_
  refine lv_iload_n F.1 F.2.1 dX8_mark_48 rfl (lv_at hl 1 rfl) ?_
  refine lv_iadd F.1 F.2.1 dX8_mark_49 ?_
  obtain ⟨hin, h⟩ := gd h
  refine x_iald F G hS 61 rfl hin dX8_mark_50 ?_
  exact e_i F hS ⟨Option.some.inj h, rfl, rfl⟩ hr0 dX8_mark_51 hk0
def f_X8_town (σ : ZI) (a1 : Int32) (a2 : Int32) : Option (Int32) := (f_X8_in a1.toInt64 (0 : Int64) (((σ 60 7) - (1 : Int32)).toInt64)).bind (fun q1 => if q1 = 0 then (some (-1 : Int32)) else ((f_X8_in a2.toInt64 (0 : Int64) (1 : Int64)).bind (fun q2 => if q2 = 0 then (some (-1 : Int32)) else (if a2 = 0 then (if inB ((6 : Int32) + a1) 90 = true then (some (σ 61 ((6 : Int32) + a1).toNatClampNeg)) else none) else (if inB a1 5 = true then (some (σ 64 a1.toNatClampNeg)) else none)))))
abbrev rm_X8_town : Room := { frames := 1, cells := 0, slots := 0, locals := 25 }
set_option maxHeartbeats 4000000 in
set_option maxRecDepth 100000 in
theorem c_X8_town (l : Launch) (g : GG) (σ : ZI) (τ : ZL) (a1 : Int32) (a2 : Int32) (res : Int32) (h : f_X8_town σ a1 a2 = some res) : MI l yX8_town cX8_town 3 (some .int) rm_X8_town g [.ref (gA g 60), .int a1, .int a2] σ τ (fun (r : Int32) (u : ZI × ZL) => r = res ∧ u.1 = σ ∧ u.2 = τ) := by
  refine Met_in (by decide) (Nat.le_of_ble_eq_true rfl) ?_
  intro p e s m args below meth c F G hP hr0 hk0 ls hl
  have hS := WS.start hP
  have hl : lv_has ls 3 [(0, .ref (gA g 60)), (1, .int a1), (2, .int a2)] := hl
  obtain ⟨H, hH⟩ : ∃ H, H = s.heap := ⟨_, rfl⟩
  rw [← hH] at hS ⊢
  clear hH hP
  rw [f_X8_town] at h
  obtain ⟨locs, hlo⟩ : ∃ z : List Loc, z = [] := ⟨_, rfl⟩
  rw [← hlo] at hS ⊢
  clear hlo
  refine lv_iload_n F.1 F.2.1 dX8_town_0 rfl (lv_at hl 1 rfl) ?_
  refine lv_i2l F.1 F.2.1 dX8_town_1 rfl ?_
  refine lv_lconst (v := (0 : Int64)) F.1 F.2.1 dX8_town_2 (by decide) ?_
  refine lv_aload_n F.1 F.2.1 dX8_town_3 rfl (lv_at hl 0 rfl) ?_
  refine gf_X8_173 F G hS dX8_town_4 ?_
  refine lv_iconst (v := (1 : Int32)) F.1 F.2.1 dX8_town_7 (by decide) ?_
  refine lv_isub F.1 F.2.1 dX8_town_8 ?_
  refine lv_i2l F.1 F.2.1 dX8_town_9 rfl ?_
  obtain ⟨q1, h_q1, h⟩ := bd h
  refine rSi F G hS hl.1 (c_X8_in l g σ τ a1.toInt64 (0 : Int64) (((σ 60 7) - (1 : Int32)).toInt64) q1 h_q1) lk_X8_71 ⟨rfl, rfl, Nat.le_of_ble_eq_true rfl, Nat.le_of_ble_eq_true rfl⟩  rfl rfl (Nat.le_of_ble_eq_true rfl) dX8_town_10 (kRi (fun H locs hS => ?_))
  refine lv_if_eq (tgt := 26) F.1 F.2.1 dX8_town_13 (by decide) (fun hc => ?_) (fun hc => ?_)
  · replace h := ifT h hc
    refine lv_iconst (v := (-1 : Int32)) F.1 F.2.1 dX8_town_26 (by decide) ?_
    refine lv_goto (tgt := 52) F.1 F.2.1 dX8_town_27 (by decide) ?_
    exact e_i F hS ⟨Option.some.inj h, rfl, rfl⟩ hr0 dX8_town_52 hk0
  replace h := ifF h hc
  refine lv_iload_n F.1 F.2.1 dX8_town_16 rfl (lv_at hl 2 rfl) ?_
  refine lv_i2l F.1 F.2.1 dX8_town_17 rfl ?_
  refine lv_lconst (v := (0 : Int64)) F.1 F.2.1 dX8_town_18 (by decide) ?_
  refine lv_lconst (v := (1 : Int64)) F.1 F.2.1 dX8_town_19 (by decide) ?_
  obtain ⟨q2, h_q2, h⟩ := bd h
  refine rSi F G hS hl.1 (c_X8_in l g σ τ a2.toInt64 (0 : Int64) (1 : Int64) q2 h_q2) lk_X8_71 ⟨rfl, rfl, Nat.le_of_ble_eq_true rfl, Nat.le_of_ble_eq_true rfl⟩  rfl rfl (Nat.le_of_ble_eq_true rfl) dX8_town_20 (kRi (fun H locs hS => ?_))
  refine lv_if_ne (tgt := 30) F.1 F.2.1 dX8_town_23 (by decide) (fun hc => ?_) (fun hc => ?_)
  rotate_left
  · replace h := ifT h hc
    refine lv_iconst (v := (-1 : Int32)) F.1 F.2.1 dX8_town_26 (by decide) ?_
    refine lv_goto (tgt := 52) F.1 F.2.1 dX8_town_27 (by decide) ?_
    exact e_i F hS ⟨Option.some.inj h, rfl, rfl⟩ hr0 dX8_town_52 hk0
  replace h := ifF h hc
  refine lv_iload_n F.1 F.2.1 dX8_town_30 rfl (lv_at hl 2 rfl) ?_
  refine lv_if_ne (tgt := 46) F.1 F.2.1 dX8_town_31 (by decide) (fun hc => ?_) (fun hc => ?_)
  · replace h := ifF h hc
    refine lv_aload_n F.1 F.2.1 dX8_town_46 rfl (lv_at hl 0 rfl) ?_
    refine gf_X8_23 F G hS dX8_town_47 ?_
    refine lv_iload_n F.1 F.2.1 dX8_town_50 rfl (lv_at hl 1 rfl) ?_
    obtain ⟨hin, h⟩ := gd h
    refine x_iald F G hS 64 rfl hin dX8_town_51 ?_
    exact e_i F hS ⟨Option.some.inj h, rfl, rfl⟩ hr0 dX8_town_52 hk0
  replace h := ifT h hc
  refine lv_aload_n F.1 F.2.1 dX8_town_34 rfl (lv_at hl 0 rfl) ?_
  refine gf_X8_7 F G hS dX8_town_35 ?_
  refine lv_bipush (v := (6 : Int32)) F.1 F.2.1 dX8_town_38 (by decide) ?_
  refine lv_iload_n F.1 F.2.1 dX8_town_40 rfl (lv_at hl 1 rfl) ?_
  refine lv_iadd F.1 F.2.1 dX8_town_41 ?_
  obtain ⟨hin, h⟩ := gd h
  refine x_iald F G hS 61 rfl hin dX8_town_42 ?_
  refine lv_goto (tgt := 52) F.1 F.2.1 dX8_town_43 (by decide) ?_
  exact e_i F hS ⟨Option.some.inj h, rfl, rfl⟩ hr0 dX8_town_52 hk0
def f_X8_lays (σ : ZI) (a1 : Int32) (a2 : Int32) (a3 : Int32) (a4 : Int32) : Option (Int32 × ZI) := if a1 = 0 then (some ((-1 : Int32), σ)) else (if inB a2 90 = true then (lt_ (((σ 61 a2.toNatClampNeg) + a4)) (fun x1 => if inB a2 90 = true then (lt_ (va_up σ 61 (upd (σ 61) a2.toNatClampNeg (a3 - a4))) (fun σ2 => some (x1, σ2))) else none)) else none)
abbrev rm_X8_lays : Room := { frames := 0, cells := 0, slots := 0, locals := 0 }
set_option maxHeartbeats 4000000 in
set_option maxRecDepth 100000 in
theorem c_X8_lays (l : Launch) (g : GG) (σ : ZI) (τ : ZL) (a1 : Int32) (a2 : Int32) (a3 : Int32) (a4 : Int32) (res : Int32 × ZI) (h : f_X8_lays σ a1 a2 a3 a4 = some res) : MI l yX8_lays cX8_lays 6 (some .int) rm_X8_lays g [.ref (gA g 60), .int a1, .int a2, .int a3, .int a4] σ τ (fun (r : Int32) (u : ZI × ZL) => (r, u.1) = res ∧ u.2 = τ) := by
  refine Met_in (by decide) (Nat.le_of_ble_eq_true rfl) ?_
  intro p e s m args below meth c F G hP hr0 hk0 ls hl
  have hS := WS.start hP
  have hl : lv_has ls 6 [(0, .ref (gA g 60)), (1, .int a1), (2, .int a2), (3, .int a3), (4, .int a4)] := hl
  obtain ⟨H, hH⟩ : ∃ H, H = s.heap := ⟨_, rfl⟩
  rw [← hH] at hS ⊢
  clear hH hP
  rw [f_X8_lays] at h
  obtain ⟨locs, hlo⟩ : ∃ z : List Loc, z = [] := ⟨_, rfl⟩
  rw [← hlo] at hS ⊢
  clear hlo
  refine lv_iload_n F.1 F.2.1 dX8_lays_0 rfl (lv_at hl 1 rfl) ?_
  refine lv_if_ne (tgt := 6) F.1 F.2.1 dX8_lays_1 (by decide) (fun hc => ?_) (fun hc => ?_)
  rotate_left
  · replace h := ifT h hc
    refine lv_iconst (v := (-1 : Int32)) F.1 F.2.1 dX8_lays_4 (by decide) ?_
    exact e_i F hS ⟨Option.some.inj h, rfl⟩ hr0 dX8_lays_5 hk0
  replace h := ifF h hc
  refine lv_aload_n F.1 F.2.1 dX8_lays_6 rfl (lv_at hl 0 rfl) ?_
  refine gf_X8_7 F G hS dX8_lays_7 ?_
  refine lv_iload_n F.1 F.2.1 dX8_lays_10 rfl (lv_at hl 2 rfl) ?_
  obtain ⟨hin, h⟩ := gd h
  refine x_iald F G hS 61 rfl hin dX8_lays_11 ?_
  refine lv_iload F.1 F.2.1 dX8_lays_12 (lv_at hl 4 rfl) ?_
  refine lv_iadd F.1 F.2.1 dX8_lays_14 ?_
  obtain ⟨x1, e_x1, h⟩ := ltE h
  refine x_topi e_x1 ?_
  clear e_x1
  refine lv_istore (lv' := [(5, .int x1), (0, .ref (gA g 60)), (1, .int a1), (2, .int a2), (3, .int a3), (4, .int a4)]) F.1 F.2.1 dX8_lays_15 hl (by decide) rfl (fun ls hl => ?_)
  refine lv_aload_n F.1 F.2.1 dX8_lays_17 rfl (lv_at hl 1 rfl) ?_
  refine gf_X8_7 F G hS dX8_lays_18 ?_
  refine lv_iload_n F.1 F.2.1 dX8_lays_21 rfl (lv_at hl 3 rfl) ?_
  refine lv_iload_n F.1 F.2.1 dX8_lays_22 rfl (lv_at hl 4 rfl) ?_
  refine lv_iload F.1 F.2.1 dX8_lays_23 (lv_at hl 5 rfl) ?_
  refine lv_isub F.1 F.2.1 dX8_lays_25 ?_
  obtain ⟨hin, h⟩ := gd h
  refine x_iast F G hS 61 rfl hin dX8_lays_26 (fun H locs hS => ?_)
  obtain ⟨σ2, e_σ2, h⟩ := ltE h
  rw [← e_σ2] at hS
  clear e_σ2
  refine lv_iload F.1 F.2.1 dX8_lays_27 (lv_at hl 0 rfl) ?_
  exact e_i F hS ⟨Option.some.inj h, rfl⟩ hr0 dX8_lays_29 hk0
def f_X8_set (σ : ZI) (a1 : Int32) (a2 : Int32) : Option (Int32 × ZI) := if a1 = (0 : Int32) then ((f_X8_in a2.toInt64 (0 : Int64) (10 : Int64)).bind (fun q1 => (f_X8_lays σ q1 (13 : Int32) a2 (1 : Int32)).bind (fun q2 => some (q2.1, q2.2)))) else (if a1 = (1 : Int32) then ((f_X8_in a2.toInt64 (1 : Int64) (9 : Int64)).bind (fun q3 => (f_X8_lays σ q3 (17 : Int32) a2 (3 : Int32)).bind (fun q4 => some (q4.1, q4.2)))) else (if a1 = (2 : Int32) then ((f_X8_in a2.toInt64 (1 : Int64) (9 : Int64)).bind (fun q5 => (f_X8_lays σ q5 (14 : Int32) a2 (5 : Int32)).bind (fun q6 => some (q6.1, q6.2)))) else (some ((-1 : Int32), σ))))
abbrev rm_X8_set : Room := { frames := 1, cells := 0, slots := 0, locals := 25 }
set_option maxHeartbeats 4000000 in
set_option maxRecDepth 100000 in
theorem c_X8_set (l : Launch) (g : GG) (σ : ZI) (τ : ZL) (a1 : Int32) (a2 : Int32) (res : Int32 × ZI) (h : f_X8_set σ a1 a2 = some res) : MI l yX8_set cX8_set 3 (some .int) rm_X8_set g [.ref (gA g 60), .int a1, .int a2] σ τ (fun (r : Int32) (u : ZI × ZL) => (r, u.1) = res ∧ u.2 = τ) := by
  refine Met_in (by decide) (Nat.le_of_ble_eq_true rfl) ?_
  intro p e s m args below meth c F G hP hr0 hk0 ls hl
  have hS := WS.start hP
  have hl : lv_has ls 3 [(0, .ref (gA g 60)), (1, .int a1), (2, .int a2)] := hl
  obtain ⟨H, hH⟩ : ∃ H, H = s.heap := ⟨_, rfl⟩
  rw [← hH] at hS ⊢
  clear hH hP
  rw [f_X8_set] at h
  obtain ⟨locs, hlo⟩ : ∃ z : List Loc, z = [] := ⟨_, rfl⟩
  rw [← hlo] at hS ⊢
  clear hlo
  refine lv_iload_n F.1 F.2.1 dX8_set_0 rfl (lv_at hl 1 rfl) ?_
  by_cases hc_0 : a1 = (0 : Int32)
  · replace h := ifT h hc_0
    refine lv_tableIn (tgt := 28) F.1 F.2.1 dX8_set_1 (by rw [hc_0]; decide) (by rw [hc_0]; decide) (by rw [hc_0]; rfl) (by decide) ?_
    refine lv_aload_n F.1 F.2.1 dX8_set_28 rfl (lv_at hl 0 rfl) ?_
    refine lv_iload_n F.1 F.2.1 dX8_set_29 rfl (lv_at hl 2 rfl) ?_
    refine lv_i2l F.1 F.2.1 dX8_set_30 rfl ?_
    refine lv_lconst (v := (0 : Int64)) F.1 F.2.1 dX8_set_31 (by decide) ?_
    refine lv_ldc2 (v := (10 : Int64)) F.1 F.2.1 F.2.2.2.1 (F.2.2.2.2 _ tb_1221) dX8_set_32 ?_
    obtain ⟨q1, h_q1, h⟩ := bd h
    refine rSi F G hS hl.1 (c_X8_in l g σ τ a2.toInt64 (0 : Int64) (10 : Int64) q1 h_q1) lk_X8_71 ⟨rfl, rfl, Nat.le_of_ble_eq_true rfl, Nat.le_of_ble_eq_true rfl⟩  rfl rfl (Nat.le_of_ble_eq_true rfl) dX8_set_35 (kRi (fun H locs hS => ?_))
    refine lv_bipush (v := (13 : Int32)) F.1 F.2.1 dX8_set_38 (by decide) ?_
    refine lv_iload_n F.1 F.2.1 dX8_set_40 rfl (lv_at hl 2 rfl) ?_
    refine lv_iconst (v := (1 : Int32)) F.1 F.2.1 dX8_set_41 (by decide) ?_
    obtain ⟨q2, h_q2, h⟩ := bd h
    refine rVi F G hS hl.1 (c_X8_lays l g σ τ q1 (13 : Int32) a2 (1 : Int32) q2 h_q2) lk_X8_195 ⟨rfl, rfl, Nat.le_of_ble_eq_true rfl, Nat.le_of_ble_eq_true rfl⟩ (rc_X8 G hS) rfl rfl (Nat.le_of_ble_eq_true rfl) dX8_set_42 (kIi (fun H locs hS => ?_))
    exact e_i F hS ⟨Option.some.inj h, rfl⟩ hr0 dX8_set_45 hk0
  replace h := ifF h hc_0
  by_cases hc_1 : a1 = (1 : Int32)
  · replace h := ifT h hc_1
    refine lv_tableIn (tgt := 46) F.1 F.2.1 dX8_set_1 (by rw [hc_1]; decide) (by rw [hc_1]; decide) (by rw [hc_1]; rfl) (by decide) ?_
    refine lv_aload_n F.1 F.2.1 dX8_set_46 rfl (lv_at hl 0 rfl) ?_
    refine lv_iload_n F.1 F.2.1 dX8_set_47 rfl (lv_at hl 2 rfl) ?_
    refine lv_i2l F.1 F.2.1 dX8_set_48 rfl ?_
    refine lv_lconst (v := (1 : Int64)) F.1 F.2.1 dX8_set_49 (by decide) ?_
    refine lv_ldc2 (v := (9 : Int64)) F.1 F.2.1 F.2.2.2.1 (F.2.2.2.2 _ tb_1286) dX8_set_50 ?_
    obtain ⟨q3, h_q3, h⟩ := bd h
    refine rSi F G hS hl.1 (c_X8_in l g σ τ a2.toInt64 (1 : Int64) (9 : Int64) q3 h_q3) lk_X8_71 ⟨rfl, rfl, Nat.le_of_ble_eq_true rfl, Nat.le_of_ble_eq_true rfl⟩  rfl rfl (Nat.le_of_ble_eq_true rfl) dX8_set_53 (kRi (fun H locs hS => ?_))
    refine lv_bipush (v := (17 : Int32)) F.1 F.2.1 dX8_set_56 (by decide) ?_
    refine lv_iload_n F.1 F.2.1 dX8_set_58 rfl (lv_at hl 2 rfl) ?_
    refine lv_iconst (v := (3 : Int32)) F.1 F.2.1 dX8_set_59 (by decide) ?_
    obtain ⟨q4, h_q4, h⟩ := bd h
    refine rVi F G hS hl.1 (c_X8_lays l g σ τ q3 (17 : Int32) a2 (3 : Int32) q4 h_q4) lk_X8_195 ⟨rfl, rfl, Nat.le_of_ble_eq_true rfl, Nat.le_of_ble_eq_true rfl⟩ (rc_X8 G hS) rfl rfl (Nat.le_of_ble_eq_true rfl) dX8_set_60 (kIi (fun H locs hS => ?_))
    exact e_i F hS ⟨Option.some.inj h, rfl⟩ hr0 dX8_set_63 hk0
  replace h := ifF h hc_1
  by_cases hc_2 : a1 = (2 : Int32)
  · replace h := ifT h hc_2
    refine lv_tableIn (tgt := 64) F.1 F.2.1 dX8_set_1 (by rw [hc_2]; decide) (by rw [hc_2]; decide) (by rw [hc_2]; rfl) (by decide) ?_
    refine lv_aload_n F.1 F.2.1 dX8_set_64 rfl (lv_at hl 0 rfl) ?_
    refine lv_iload_n F.1 F.2.1 dX8_set_65 rfl (lv_at hl 2 rfl) ?_
    refine lv_i2l F.1 F.2.1 dX8_set_66 rfl ?_
    refine lv_lconst (v := (1 : Int64)) F.1 F.2.1 dX8_set_67 (by decide) ?_
    refine lv_ldc2 (v := (9 : Int64)) F.1 F.2.1 F.2.2.2.1 (F.2.2.2.2 _ tb_1286) dX8_set_68 ?_
    obtain ⟨q5, h_q5, h⟩ := bd h
    refine rSi F G hS hl.1 (c_X8_in l g σ τ a2.toInt64 (1 : Int64) (9 : Int64) q5 h_q5) lk_X8_71 ⟨rfl, rfl, Nat.le_of_ble_eq_true rfl, Nat.le_of_ble_eq_true rfl⟩  rfl rfl (Nat.le_of_ble_eq_true rfl) dX8_set_71 (kRi (fun H locs hS => ?_))
    refine lv_bipush (v := (14 : Int32)) F.1 F.2.1 dX8_set_74 (by decide) ?_
    refine lv_iload_n F.1 F.2.1 dX8_set_76 rfl (lv_at hl 2 rfl) ?_
    refine lv_iconst (v := (5 : Int32)) F.1 F.2.1 dX8_set_77 (by decide) ?_
    obtain ⟨q6, h_q6, h⟩ := bd h
    refine rVi F G hS hl.1 (c_X8_lays l g σ τ q5 (14 : Int32) a2 (5 : Int32) q6 h_q6) lk_X8_195 ⟨rfl, rfl, Nat.le_of_ble_eq_true rfl, Nat.le_of_ble_eq_true rfl⟩ (rc_X8 G hS) rfl rfl (Nat.le_of_ble_eq_true rfl) dX8_set_78 (kIi (fun H locs hS => ?_))
    exact e_i F hS ⟨Option.some.inj h, rfl⟩ hr0 dX8_set_81 hk0
  replace h := ifF h hc_2
  refine lv_tableOut (tgt := 82) F.1 F.2.1 dX8_set_1 (by have h0 := lv_neT (a := 0) hc_0 (by decide); have h1 := lv_neT (a := 1) hc_1 (by decide); have h2 := lv_neT (a := 2) hc_2 (by decide); omega) (by decide) ?_
  refine lv_iconst (v := (-1 : Int32)) F.1 F.2.1 dX8_set_82 (by decide) ?_
  exact e_i F hS ⟨Option.some.inj h, rfl⟩ hr0 dX8_set_83 hk0
def f_X8_net (σ : ZI) (a1 : Int32) (a2 : Int32) : Option (Int32 × ZI) := (f_X8_in a1.toInt64 (1 : Int64) (10 : Int64)).bind (fun q1 => if q1 = 0 then (some ((-1 : Int32), σ)) else ((f_X8_in a2.toInt64 (1 : Int64) (11 : Int64)).bind (fun q2 => if q2 = 0 then (some ((-1 : Int32), σ)) else (if a1 < a2 then (lt_ (va_up σ 61 (upd (σ 61) 16 (a2 - (4 : Int32)))) (fun σ3 => (f_X8_lays σ3 (1 : Int32) (15 : Int32) a1 (2 : Int32)).bind (fun q4 => some (q4.1, q4.2)))) else (some ((-1 : Int32), σ))))))
abbrev rm_X8_net : Room := { frames := 1, cells := 0, slots := 0, locals := 25 }
set_option maxHeartbeats 4000000 in
set_option maxRecDepth 100000 in
theorem c_X8_net (l : Launch) (g : GG) (σ : ZI) (τ : ZL) (a1 : Int32) (a2 : Int32) (res : Int32 × ZI) (h : f_X8_net σ a1 a2 = some res) : MI l yX8_net cX8_net 3 (some .int) rm_X8_net g [.ref (gA g 60), .int a1, .int a2] σ τ (fun (r : Int32) (u : ZI × ZL) => (r, u.1) = res ∧ u.2 = τ) := by
  refine Met_in (by decide) (Nat.le_of_ble_eq_true rfl) ?_
  intro p e s m args below meth c F G hP hr0 hk0 ls hl
  have hS := WS.start hP
  have hl : lv_has ls 3 [(0, .ref (gA g 60)), (1, .int a1), (2, .int a2)] := hl
  obtain ⟨H, hH⟩ : ∃ H, H = s.heap := ⟨_, rfl⟩
  rw [← hH] at hS ⊢
  clear hH hP
  rw [f_X8_net] at h
  obtain ⟨locs, hlo⟩ : ∃ z : List Loc, z = [] := ⟨_, rfl⟩
  rw [← hlo] at hS ⊢
  clear hlo
  refine lv_iload_n F.1 F.2.1 dX8_net_0 rfl (lv_at hl 1 rfl) ?_
  refine lv_i2l F.1 F.2.1 dX8_net_1 rfl ?_
  refine lv_lconst (v := (1 : Int64)) F.1 F.2.1 dX8_net_2 (by decide) ?_
  refine lv_ldc2 (v := (10 : Int64)) F.1 F.2.1 F.2.2.2.1 (F.2.2.2.2 _ tb_1221) dX8_net_3 ?_
  obtain ⟨q1, h_q1, h⟩ := bd h
  refine rSi F G hS hl.1 (c_X8_in l g σ τ a1.toInt64 (1 : Int64) (10 : Int64) q1 h_q1) lk_X8_71 ⟨rfl, rfl, Nat.le_of_ble_eq_true rfl, Nat.le_of_ble_eq_true rfl⟩  rfl rfl (Nat.le_of_ble_eq_true rfl) dX8_net_6 (kRi (fun H locs hS => ?_))
  refine lv_if_eq (tgt := 29) F.1 F.2.1 dX8_net_9 (by decide) (fun hc => ?_) (fun hc => ?_)
  · replace h := ifT h hc
    refine lv_iconst (v := (-1 : Int32)) F.1 F.2.1 dX8_net_29 (by decide) ?_
    exact e_i F hS ⟨Option.some.inj h, rfl⟩ hr0 dX8_net_30 hk0
  replace h := ifF h hc
  refine lv_iload_n F.1 F.2.1 dX8_net_12 rfl (lv_at hl 2 rfl) ?_
  refine lv_i2l F.1 F.2.1 dX8_net_13 rfl ?_
  refine lv_lconst (v := (1 : Int64)) F.1 F.2.1 dX8_net_14 (by decide) ?_
  refine lv_ldc2 (v := (11 : Int64)) F.1 F.2.1 F.2.2.2.1 (F.2.2.2.2 _ tb_1291) dX8_net_15 ?_
  obtain ⟨q2, h_q2, h⟩ := bd h
  refine rSi F G hS hl.1 (c_X8_in l g σ τ a2.toInt64 (1 : Int64) (11 : Int64) q2 h_q2) lk_X8_71 ⟨rfl, rfl, Nat.le_of_ble_eq_true rfl, Nat.le_of_ble_eq_true rfl⟩  rfl rfl (Nat.le_of_ble_eq_true rfl) dX8_net_18 (kRi (fun H locs hS => ?_))
  refine lv_if_eq (tgt := 29) F.1 F.2.1 dX8_net_21 (by decide) (fun hc => ?_) (fun hc => ?_)
  · replace h := ifT h hc
    refine lv_iconst (v := (-1 : Int32)) F.1 F.2.1 dX8_net_29 (by decide) ?_
    exact e_i F hS ⟨Option.some.inj h, rfl⟩ hr0 dX8_net_30 hk0
  replace h := ifF h hc
  refine lv_iload_n F.1 F.2.1 dX8_net_24 rfl (lv_at hl 2 rfl) ?_
  refine lv_iload_n F.1 F.2.1 dX8_net_25 rfl (lv_at hl 1 rfl) ?_
  refine lv_icmp_gt (tgt := 31) F.1 F.2.1 dX8_net_26 (by decide) (fun hc => ?_) (fun hc => ?_)
  rotate_left
  · replace h := ifF h hc
    refine lv_iconst (v := (-1 : Int32)) F.1 F.2.1 dX8_net_29 (by decide) ?_
    exact e_i F hS ⟨Option.some.inj h, rfl⟩ hr0 dX8_net_30 hk0
  replace h := ifT h hc
  refine lv_aload_n F.1 F.2.1 dX8_net_31 rfl (lv_at hl 0 rfl) ?_
  refine gf_X8_7 F G hS dX8_net_32 ?_
  refine lv_bipush (v := (16 : Int32)) F.1 F.2.1 dX8_net_35 (by decide) ?_
  refine lv_iload_n F.1 F.2.1 dX8_net_37 rfl (lv_at hl 2 rfl) ?_
  refine lv_iconst (v := (4 : Int32)) F.1 F.2.1 dX8_net_38 (by decide) ?_
  refine lv_isub F.1 F.2.1 dX8_net_39 ?_
  refine x_iastL F G hS 61 rfl 16 rfl (by decide) dX8_net_40 (fun H locs hS => ?_)
  obtain ⟨σ3, e_σ3, h⟩ := ltE h
  rw [← e_σ3] at hS
  clear e_σ3
  refine lv_aload_n F.1 F.2.1 dX8_net_41 rfl (lv_at hl 0 rfl) ?_
  refine lv_iconst (v := (1 : Int32)) F.1 F.2.1 dX8_net_42 (by decide) ?_
  refine lv_bipush (v := (15 : Int32)) F.1 F.2.1 dX8_net_43 (by decide) ?_
  refine lv_iload_n F.1 F.2.1 dX8_net_45 rfl (lv_at hl 1 rfl) ?_
  refine lv_iconst (v := (2 : Int32)) F.1 F.2.1 dX8_net_46 (by decide) ?_
  obtain ⟨q4, h_q4, h⟩ := bd h
  refine rVi F G hS hl.1 (c_X8_lays l g σ3 τ (1 : Int32) (15 : Int32) a1 (2 : Int32) q4 h_q4) lk_X8_195 ⟨rfl, rfl, Nat.le_of_ble_eq_true rfl, Nat.le_of_ble_eq_true rfl⟩ (rc_X8 G hS) rfl rfl (Nat.le_of_ble_eq_true rfl) dX8_net_47 (kIi (fun H locs hS => ?_))
  exact e_i F hS ⟨Option.some.inj h, rfl⟩ hr0 dX8_net_50 hk0
def f_X8_signal_58 (a1 : Int32) (a2 : Int32)  (σ : ZI) (v3 : Int32) (s0 : Int32) (s1 : Int32) (s2 : Int32) : Option (Int32 × ZI) := if inB s2 90 = true then (lt_ (va_up σ 61 (upd (σ 61) s2.toNatClampNeg (s1 ||| s0))) (fun σ3 => some (v3, σ3))) else none
def f_X8_signal (σ : ZI) (a1 : Int32) (a2 : Int32) : Option (Int32 × ZI) := (f_X8_isJoint σ a1).bind (fun q1 => if q1 = 0 then (some ((-1 : Int32), σ)) else (lt_ ((((σ 61 11) >>> ((a1 - (1 : Int32)) &&& 31)) &&& (1 : Int32))) (fun x2 => if a2 = 0 then (f_X8_signal_58 a1 a2 σ x2 (0 : Int32) ((σ 61 11) &&& (((1 : Int32) <<< ((a1 - (1 : Int32)) &&& 31)) ^^^ (-1 : Int32))) (11 : Int32)) else (f_X8_signal_58 a1 a2 σ x2 ((1 : Int32) <<< ((a1 - (1 : Int32)) &&& 31)) ((σ 61 11) &&& (((1 : Int32) <<< ((a1 - (1 : Int32)) &&& 31)) ^^^ (-1 : Int32))) (11 : Int32)))))
abbrev rm_X8_signal : Room := { frames := 2, cells := 0, slots := 0, locals := 46 }
set_option maxHeartbeats 4000000 in
set_option maxRecDepth 100000 in
theorem c_X8_signal (l : Launch) (g : GG) (σ : ZI) (τ : ZL) (a1 : Int32) (a2 : Int32) (res : Int32 × ZI) (h : f_X8_signal σ a1 a2 = some res) : MI l yX8_signal cX8_signal 4 (some .int) rm_X8_signal g [.ref (gA g 60), .int a1, .int a2] σ τ (fun (r : Int32) (u : ZI × ZL) => (r, u.1) = res ∧ u.2 = τ) := by
  refine Met_in (by decide) (Nat.le_of_ble_eq_true rfl) ?_
  intro p e s m args below meth c F G hP hr0 hk0 ls hl
  have hS := WS.start hP
  have hl : lv_has ls 4 [(0, .ref (gA g 60)), (1, .int a1), (2, .int a2)] := hl
  obtain ⟨H, hH⟩ : ∃ H, H = s.heap := ⟨_, rfl⟩
  rw [← hH] at hS ⊢
  clear hH hP
  rw [f_X8_signal] at h
  have w_58 : ∀ (σ : ZI) (v3 : Int32) (s0 : Int32) (s1 : Int32) (s2 : Int32), f_X8_signal_58 a1 a2 σ v3 s0 s1 s2 = some res → ∀ (H : Heap) (locs : List Loc) (ls : Array Slot), WS g σ τ s H locs → lv_has ls 4 [(3, .int v3)] → W p l e rm_X8_signal s m args below meth c H locs 0 0 (MQ below (va_Qi (fun (r : Int32) (u : ZI × ZL) => (r, u.1) = res ∧ u.2 = τ) (WQ g) (AA g)) args s 0 0 (AA g)) (F0 m 58 ls [.int s0, .int s1, .int s2, .ref (gA g 61)]) := by
    intro  σ v3 s0 s1 s2 h H locs ls hS hl
    rw [f_X8_signal_58] at h
    refine lv_ior F.1 F.2.1 dX8_signal_58 ?_
    obtain ⟨hin, h⟩ := gd h
    refine x_iast F G hS 61 rfl hin dX8_signal_59 (fun H locs hS => ?_)
    obtain ⟨σ3, e_σ3, h⟩ := ltE h
    rw [← e_σ3] at hS
    clear e_σ3
    refine lv_iload_n F.1 F.2.1 dX8_signal_60 rfl (lv_at hl 0 rfl) ?_
    exact e_i F hS ⟨Option.some.inj h, rfl⟩ hr0 dX8_signal_61 hk0
  obtain ⟨locs, hlo⟩ : ∃ z : List Loc, z = [] := ⟨_, rfl⟩
  rw [← hlo] at hS ⊢
  clear hlo
  refine lv_aload_n F.1 F.2.1 dX8_signal_0 rfl (lv_at hl 0 rfl) ?_
  refine lv_iload_n F.1 F.2.1 dX8_signal_1 rfl (lv_at hl 1 rfl) ?_
  obtain ⟨q1, h_q1, h⟩ := bd h
  refine rVi F G hS hl.1 (c_X8_isJoint l g σ τ a1 q1 h_q1) lk_X8_203 ⟨rfl, rfl, Nat.le_of_ble_eq_true rfl, Nat.le_of_ble_eq_true rfl⟩ (rc_X8 G hS) rfl rfl (Nat.le_of_ble_eq_true rfl) dX8_signal_2 (kRi (fun H locs hS => ?_))
  refine lv_if_ne (tgt := 10) F.1 F.2.1 dX8_signal_5 (by decide) (fun hc => ?_) (fun hc => ?_)
  rotate_left
  · replace h := ifT h hc
    refine lv_iconst (v := (-1 : Int32)) F.1 F.2.1 dX8_signal_8 (by decide) ?_
    exact e_i F hS ⟨Option.some.inj h, rfl⟩ hr0 dX8_signal_9 hk0
  replace h := ifF h hc
  refine lv_aload_n F.1 F.2.1 dX8_signal_10 rfl (lv_at hl 0 rfl) ?_
  refine gf_X8_7 F G hS dX8_signal_11 ?_
  refine lv_bipush (v := (11 : Int32)) F.1 F.2.1 dX8_signal_14 (by decide) ?_
  refine x_ialdL F G hS 61 rfl 11 rfl (by decide) dX8_signal_16 ?_
  refine lv_iload_n F.1 F.2.1 dX8_signal_17 rfl (lv_at hl 1 rfl) ?_
  refine lv_iconst (v := (1 : Int32)) F.1 F.2.1 dX8_signal_18 (by decide) ?_
  refine lv_isub F.1 F.2.1 dX8_signal_19 ?_
  refine lv_ishr F.1 F.2.1 dX8_signal_20 ?_
  refine lv_iconst (v := (1 : Int32)) F.1 F.2.1 dX8_signal_21 (by decide) ?_
  refine lv_iand F.1 F.2.1 dX8_signal_22 ?_
  obtain ⟨x2, e_x2, h⟩ := ltE h
  refine x_topi e_x2 ?_
  clear e_x2
  refine lv_istore_n (lv' := [(3, .int x2), (0, .ref (gA g 60)), (1, .int a1), (2, .int a2)]) F.1 F.2.1 dX8_signal_23 rfl hl (by decide) rfl (fun ls hl => ?_)
  refine lv_aload_n F.1 F.2.1 dX8_signal_24 rfl (lv_at hl 1 rfl) ?_
  refine gf_X8_7 F G hS dX8_signal_25 ?_
  refine lv_bipush (v := (11 : Int32)) F.1 F.2.1 dX8_signal_28 (by decide) ?_
  refine lv_aload_n F.1 F.2.1 dX8_signal_30 rfl (lv_at hl 1 rfl) ?_
  refine gf_X8_7 F G hS dX8_signal_31 ?_
  refine lv_bipush (v := (11 : Int32)) F.1 F.2.1 dX8_signal_34 (by decide) ?_
  refine x_ialdL F G hS 61 rfl 11 rfl (by decide) dX8_signal_36 ?_
  refine lv_iconst (v := (1 : Int32)) F.1 F.2.1 dX8_signal_37 (by decide) ?_
  refine lv_iload_n F.1 F.2.1 dX8_signal_38 rfl (lv_at hl 2 rfl) ?_
  refine lv_iconst (v := (1 : Int32)) F.1 F.2.1 dX8_signal_39 (by decide) ?_
  refine lv_isub F.1 F.2.1 dX8_signal_40 ?_
  refine lv_ishl F.1 F.2.1 dX8_signal_41 ?_
  refine lv_iconst (v := (-1 : Int32)) F.1 F.2.1 dX8_signal_42 (by decide) ?_
  refine lv_ixor F.1 F.2.1 dX8_signal_43 ?_
  refine lv_iand F.1 F.2.1 dX8_signal_44 ?_
  refine lv_iload_n F.1 F.2.1 dX8_signal_45 rfl (lv_at hl 3 rfl) ?_
  refine lv_if_eq (tgt := 57) F.1 F.2.1 dX8_signal_46 (by decide) (fun hc => ?_) (fun hc => ?_)
  · replace h := ifT h hc
    refine lv_iconst (v := (0 : Int32)) F.1 F.2.1 dX8_signal_57 (by decide) ?_
    exact w_58 σ x2 (0 : Int32) ((σ 61 11) &&& (((1 : Int32) <<< ((a1 - (1 : Int32)) &&& 31)) ^^^ (-1 : Int32))) (11 : Int32) h H locs _ hS (lv_sub hl [0] rfl)
  replace h := ifF h hc
  refine lv_iconst (v := (1 : Int32)) F.1 F.2.1 dX8_signal_49 (by decide) ?_
  refine lv_iload_n F.1 F.2.1 dX8_signal_50 rfl (lv_at hl 2 rfl) ?_
  refine lv_iconst (v := (1 : Int32)) F.1 F.2.1 dX8_signal_51 (by decide) ?_
  refine lv_isub F.1 F.2.1 dX8_signal_52 ?_
  refine lv_ishl F.1 F.2.1 dX8_signal_53 ?_
  refine lv_goto (tgt := 58) F.1 F.2.1 dX8_signal_54 (by decide) ?_
  exact w_58 σ x2 ((1 : Int32) <<< ((a1 - (1 : Int32)) &&& 31)) ((σ 61 11) &&& (((1 : Int32) <<< ((a1 - (1 : Int32)) &&& 31)) ^^^ (-1 : Int32))) (11 : Int32) h H locs _ hS (lv_sub hl [0] rfl)
def f_X8_bridge (σ : ZI) (a1 : Int32) : Option (Int32 × ZI) := (f_X8_in a1.toInt64 (0 : Int64) ((σ 60 1).toInt64)).bind (fun q1 => (f_X8_lays σ q1 (12 : Int32) a1 (0 : Int32)).bind (fun q2 => some (q2.1, q2.2)))
abbrev rm_X8_bridge : Room := { frames := 1, cells := 0, slots := 0, locals := 25 }
set_option maxHeartbeats 4000000 in
set_option maxRecDepth 100000 in
theorem c_X8_bridge (l : Launch) (g : GG) (σ : ZI) (τ : ZL) (a1 : Int32) (res : Int32 × ZI) (h : f_X8_bridge σ a1 = some res) : MI l yX8_bridge cX8_bridge 2 (some .int) rm_X8_bridge g [.ref (gA g 60), .int a1] σ τ (fun (r : Int32) (u : ZI × ZL) => (r, u.1) = res ∧ u.2 = τ) := by
  refine Met_in (by decide) (Nat.le_of_ble_eq_true rfl) ?_
  intro p e s m args below meth c F G hP hr0 hk0 ls hl
  have hS := WS.start hP
  have hl : lv_has ls 2 [(0, .ref (gA g 60)), (1, .int a1)] := hl
  obtain ⟨H, hH⟩ : ∃ H, H = s.heap := ⟨_, rfl⟩
  rw [← hH] at hS ⊢
  clear hH hP
  rw [f_X8_bridge] at h
  obtain ⟨locs, hlo⟩ : ∃ z : List Loc, z = [] := ⟨_, rfl⟩
  rw [← hlo] at hS ⊢
  clear hlo
  refine lv_aload_n F.1 F.2.1 dX8_bridge_0 rfl (lv_at hl 0 rfl) ?_
  refine lv_iload_n F.1 F.2.1 dX8_bridge_1 rfl (lv_at hl 1 rfl) ?_
  refine lv_i2l F.1 F.2.1 dX8_bridge_2 rfl ?_
  refine lv_lconst (v := (0 : Int64)) F.1 F.2.1 dX8_bridge_3 (by decide) ?_
  refine lv_aload_n F.1 F.2.1 dX8_bridge_4 rfl (lv_at hl 0 rfl) ?_
  refine gf_X8_13 F G hS dX8_bridge_5 ?_
  refine lv_i2l F.1 F.2.1 dX8_bridge_8 rfl ?_
  obtain ⟨q1, h_q1, h⟩ := bd h
  refine rSi F G hS hl.1 (c_X8_in l g σ τ a1.toInt64 (0 : Int64) ((σ 60 1).toInt64) q1 h_q1) lk_X8_71 ⟨rfl, rfl, Nat.le_of_ble_eq_true rfl, Nat.le_of_ble_eq_true rfl⟩  rfl rfl (Nat.le_of_ble_eq_true rfl) dX8_bridge_9 (kRi (fun H locs hS => ?_))
  refine lv_bipush (v := (12 : Int32)) F.1 F.2.1 dX8_bridge_12 (by decide) ?_
  refine lv_iload_n F.1 F.2.1 dX8_bridge_14 rfl (lv_at hl 1 rfl) ?_
  refine lv_iconst (v := (0 : Int32)) F.1 F.2.1 dX8_bridge_15 (by decide) ?_
  obtain ⟨q2, h_q2, h⟩ := bd h
  refine rVi F G hS hl.1 (c_X8_lays l g σ τ q1 (12 : Int32) a1 (0 : Int32) q2 h_q2) lk_X8_195 ⟨rfl, rfl, Nat.le_of_ble_eq_true rfl, Nat.le_of_ble_eq_true rfl⟩ (rc_X8 G hS) rfl rfl (Nat.le_of_ble_eq_true rfl) dX8_bridge_16 (kIi (fun H locs hS => ?_))
  exact e_i F hS ⟨Option.some.inj h, rfl⟩ hr0 dX8_bridge_19 hk0
def f_X8_clear_34 (a1 : Int32) (a2 : Int32)  (σ : ZI) (s0 : Int32) : Option (Int32 × ZI) := (f_X8_lays σ s0 ((3 : Int32) + a1) a2 (0 : Int32)).bind (fun q2 => some (q2.1, q2.2))
def f_X8_clear_33 (a1 : Int32) (a2 : Int32)  (σ : ZI) : Option (Int32 × ZI) := f_X8_clear_34 a1 a2 σ (0 : Int32)
def f_X8_clear (σ : ZI) (a1 : Int32) (a2 : Int32) : Option (Int32 × ZI) := (f_X8_in a1.toInt64 (0 : Int64) (((σ 60 5) - (1 : Int32)).toInt64)).bind (fun q1 => if q1 = 0 then (f_X8_clear_33 a1 a2 σ) else ((f_X8_in a2.toInt64 (0 : Int64) (10 : Int64)).bind (fun q3 => if q3 = 0 then (f_X8_clear_33 a1 a2 σ) else (f_X8_clear_34 a1 a2 σ (1 : Int32)))))
abbrev rm_X8_clear : Room := { frames := 1, cells := 0, slots := 0, locals := 25 }
set_option maxHeartbeats 4000000 in
set_option maxRecDepth 100000 in
theorem c_X8_clear (l : Launch) (g : GG) (σ : ZI) (τ : ZL) (a1 : Int32) (a2 : Int32) (res : Int32 × ZI) (h : f_X8_clear σ a1 a2 = some res) : MI l yX8_clear cX8_clear 3 (some .int) rm_X8_clear g [.ref (gA g 60), .int a1, .int a2] σ τ (fun (r : Int32) (u : ZI × ZL) => (r, u.1) = res ∧ u.2 = τ) := by
  refine Met_in (by decide) (Nat.le_of_ble_eq_true rfl) ?_
  intro p e s m args below meth c F G hP hr0 hk0 ls hl
  have hS := WS.start hP
  have hl : lv_has ls 3 [(0, .ref (gA g 60)), (1, .int a1), (2, .int a2)] := hl
  obtain ⟨H, hH⟩ : ∃ H, H = s.heap := ⟨_, rfl⟩
  rw [← hH] at hS ⊢
  clear hH hP
  rw [f_X8_clear] at h
  have w_34 : ∀ (σ : ZI) (s0 : Int32), f_X8_clear_34 a1 a2 σ s0 = some res → ∀ (H : Heap) (locs : List Loc) (ls : Array Slot), WS g σ τ s H locs → lv_has ls 3 [(1, .int a1), (2, .int a2)] → W p l e rm_X8_clear s m args below meth c H locs 0 0 (MQ below (va_Qi (fun (r : Int32) (u : ZI × ZL) => (r, u.1) = res ∧ u.2 = τ) (WQ g) (AA g)) args s 0 0 (AA g)) (F0 m 34 ls [.int s0, .ref (gA g 60)]) := by
    intro  σ s0 h H locs ls hS hl
    rw [f_X8_clear_34] at h
    refine lv_iconst (v := (3 : Int32)) F.1 F.2.1 dX8_clear_34 (by decide) ?_
    refine lv_iload_n F.1 F.2.1 dX8_clear_35 rfl (lv_at hl 0 rfl) ?_
    refine lv_iadd F.1 F.2.1 dX8_clear_36 ?_
    refine lv_iload_n F.1 F.2.1 dX8_clear_37 rfl (lv_at hl 1 rfl) ?_
    refine lv_iconst (v := (0 : Int32)) F.1 F.2.1 dX8_clear_38 (by decide) ?_
    obtain ⟨q2, h_q2, h⟩ := bd h
    refine rVi F G hS hl.1 (c_X8_lays l g σ τ s0 ((3 : Int32) + a1) a2 (0 : Int32) q2 h_q2) lk_X8_195 ⟨rfl, rfl, Nat.le_of_ble_eq_true rfl, Nat.le_of_ble_eq_true rfl⟩ (rc_X8 G hS) rfl rfl (Nat.le_of_ble_eq_true rfl) dX8_clear_39 (kIi (fun H locs hS => ?_))
    exact e_i F hS ⟨Option.some.inj h, rfl⟩ hr0 dX8_clear_42 hk0
  have w_33 : ∀ (σ : ZI), f_X8_clear_33 a1 a2 σ = some res → ∀ (H : Heap) (locs : List Loc) (ls : Array Slot), WS g σ τ s H locs → lv_has ls 3 [(1, .int a1), (2, .int a2)] → W p l e rm_X8_clear s m args below meth c H locs 0 0 (MQ below (va_Qi (fun (r : Int32) (u : ZI × ZL) => (r, u.1) = res ∧ u.2 = τ) (WQ g) (AA g)) args s 0 0 (AA g)) (F0 m 33 ls [.ref (gA g 60)]) := by
    intro  σ h H locs ls hS hl
    rw [f_X8_clear_33] at h
    refine lv_iconst (v := (0 : Int32)) F.1 F.2.1 dX8_clear_33 (by decide) ?_
    exact w_34 σ (0 : Int32) h H locs _ hS (lv_sub hl [0, 1] rfl)
  obtain ⟨locs, hlo⟩ : ∃ z : List Loc, z = [] := ⟨_, rfl⟩
  rw [← hlo] at hS ⊢
  clear hlo
  refine lv_aload_n F.1 F.2.1 dX8_clear_0 rfl (lv_at hl 0 rfl) ?_
  refine lv_iload_n F.1 F.2.1 dX8_clear_1 rfl (lv_at hl 1 rfl) ?_
  refine lv_i2l F.1 F.2.1 dX8_clear_2 rfl ?_
  refine lv_lconst (v := (0 : Int64)) F.1 F.2.1 dX8_clear_3 (by decide) ?_
  refine lv_aload_n F.1 F.2.1 dX8_clear_4 rfl (lv_at hl 0 rfl) ?_
  refine gf_X8_170 F G hS dX8_clear_5 ?_
  refine lv_iconst (v := (1 : Int32)) F.1 F.2.1 dX8_clear_8 (by decide) ?_
  refine lv_isub F.1 F.2.1 dX8_clear_9 ?_
  refine lv_i2l F.1 F.2.1 dX8_clear_10 rfl ?_
  obtain ⟨q1, h_q1, h⟩ := bd h
  refine rSi F G hS hl.1 (c_X8_in l g σ τ a1.toInt64 (0 : Int64) (((σ 60 5) - (1 : Int32)).toInt64) q1 h_q1) lk_X8_71 ⟨rfl, rfl, Nat.le_of_ble_eq_true rfl, Nat.le_of_ble_eq_true rfl⟩  rfl rfl (Nat.le_of_ble_eq_true rfl) dX8_clear_11 (kRi (fun H locs hS => ?_))
  refine lv_if_eq (tgt := 33) F.1 F.2.1 dX8_clear_14 (by decide) (fun hc => ?_) (fun hc => ?_)
  · replace h := ifT h hc
    exact w_33 σ h H locs _ hS (lv_sub hl [1, 2] rfl)
  replace h := ifF h hc
  refine lv_iload_n F.1 F.2.1 dX8_clear_17 rfl (lv_at hl 2 rfl) ?_
  refine lv_i2l F.1 F.2.1 dX8_clear_18 rfl ?_
  refine lv_lconst (v := (0 : Int64)) F.1 F.2.1 dX8_clear_19 (by decide) ?_
  refine lv_ldc2 (v := (10 : Int64)) F.1 F.2.1 F.2.2.2.1 (F.2.2.2.2 _ tb_1221) dX8_clear_20 ?_
  obtain ⟨q3, h_q3, h⟩ := bd h
  refine rSi F G hS hl.1 (c_X8_in l g σ τ a2.toInt64 (0 : Int64) (10 : Int64) q3 h_q3) lk_X8_71 ⟨rfl, rfl, Nat.le_of_ble_eq_true rfl, Nat.le_of_ble_eq_true rfl⟩  rfl rfl (Nat.le_of_ble_eq_true rfl) dX8_clear_23 (kRi (fun H locs hS => ?_))
  refine lv_if_eq (tgt := 33) F.1 F.2.1 dX8_clear_26 (by decide) (fun hc => ?_) (fun hc => ?_)
  · replace h := ifT h hc
    exact w_33 σ h H locs _ hS (lv_sub hl [1, 2] rfl)
  replace h := ifF h hc
  refine lv_iconst (v := (1 : Int32)) F.1 F.2.1 dX8_clear_29 (by decide) ?_
  refine lv_goto (tgt := 34) F.1 F.2.1 dX8_clear_30 (by decide) ?_
  exact w_34 σ (1 : Int32) h H locs _ hS (lv_sub hl [1, 2] rfl)
def f_X8_hang_26 (a1 : Int32) (a2 : Int32)  (σ : ZI) (s0 : Int32) : Option (Int32 × ZI) := (f_X8_lays σ s0 a1 a2 (0 : Int32)).bind (fun q2 => some (q2.1, q2.2))
def f_X8_hang_25 (a1 : Int32) (a2 : Int32)  (σ : ZI) : Option (Int32 × ZI) := f_X8_hang_26 a1 a2 σ (0 : Int32)
def f_X8_hang (σ : ZI) (a1 : Int32) (a2 : Int32) : Option (Int32 × ZI) := (f_X8_isArm σ a1).bind (fun q1 => if q1 = 0 then (f_X8_hang_25 a1 a2 σ) else ((f_X8_in a2.toInt64 (0 : Int64) (4 : Int64)).bind (fun q3 => if q3 = 0 then (f_X8_hang_25 a1 a2 σ) else (f_X8_hang_26 a1 a2 σ (1 : Int32)))))
abbrev rm_X8_hang : Room := { frames := 2, cells := 0, slots := 0, locals := 46 }
set_option maxHeartbeats 4000000 in
set_option maxRecDepth 100000 in
theorem c_X8_hang (l : Launch) (g : GG) (σ : ZI) (τ : ZL) (a1 : Int32) (a2 : Int32) (res : Int32 × ZI) (h : f_X8_hang σ a1 a2 = some res) : MI l yX8_hang cX8_hang 3 (some .int) rm_X8_hang g [.ref (gA g 60), .int a1, .int a2] σ τ (fun (r : Int32) (u : ZI × ZL) => (r, u.1) = res ∧ u.2 = τ) := by
  refine Met_in (by decide) (Nat.le_of_ble_eq_true rfl) ?_
  intro p e s m args below meth c F G hP hr0 hk0 ls hl
  have hS := WS.start hP
  have hl : lv_has ls 3 [(0, .ref (gA g 60)), (1, .int a1), (2, .int a2)] := hl
  obtain ⟨H, hH⟩ : ∃ H, H = s.heap := ⟨_, rfl⟩
  rw [← hH] at hS ⊢
  clear hH hP
  rw [f_X8_hang] at h
  have w_26 : ∀ (σ : ZI) (s0 : Int32), f_X8_hang_26 a1 a2 σ s0 = some res → ∀ (H : Heap) (locs : List Loc) (ls : Array Slot), WS g σ τ s H locs → lv_has ls 3 [(1, .int a1), (2, .int a2)] → W p l e rm_X8_hang s m args below meth c H locs 0 0 (MQ below (va_Qi (fun (r : Int32) (u : ZI × ZL) => (r, u.1) = res ∧ u.2 = τ) (WQ g) (AA g)) args s 0 0 (AA g)) (F0 m 26 ls [.int s0, .ref (gA g 60)]) := by
    intro  σ s0 h H locs ls hS hl
    rw [f_X8_hang_26] at h
    refine lv_iload_n F.1 F.2.1 dX8_hang_26 rfl (lv_at hl 0 rfl) ?_
    refine lv_iload_n F.1 F.2.1 dX8_hang_27 rfl (lv_at hl 1 rfl) ?_
    refine lv_iconst (v := (0 : Int32)) F.1 F.2.1 dX8_hang_28 (by decide) ?_
    obtain ⟨q2, h_q2, h⟩ := bd h
    refine rVi F G hS hl.1 (c_X8_lays l g σ τ s0 a1 a2 (0 : Int32) q2 h_q2) lk_X8_195 ⟨rfl, rfl, Nat.le_of_ble_eq_true rfl, Nat.le_of_ble_eq_true rfl⟩ (rc_X8 G hS) rfl rfl (Nat.le_of_ble_eq_true rfl) dX8_hang_29 (kIi (fun H locs hS => ?_))
    exact e_i F hS ⟨Option.some.inj h, rfl⟩ hr0 dX8_hang_32 hk0
  have w_25 : ∀ (σ : ZI), f_X8_hang_25 a1 a2 σ = some res → ∀ (H : Heap) (locs : List Loc) (ls : Array Slot), WS g σ τ s H locs → lv_has ls 3 [(1, .int a1), (2, .int a2)] → W p l e rm_X8_hang s m args below meth c H locs 0 0 (MQ below (va_Qi (fun (r : Int32) (u : ZI × ZL) => (r, u.1) = res ∧ u.2 = τ) (WQ g) (AA g)) args s 0 0 (AA g)) (F0 m 25 ls [.ref (gA g 60)]) := by
    intro  σ h H locs ls hS hl
    rw [f_X8_hang_25] at h
    refine lv_iconst (v := (0 : Int32)) F.1 F.2.1 dX8_hang_25 (by decide) ?_
    exact w_26 σ (0 : Int32) h H locs _ hS (lv_sub hl [0, 1] rfl)
  obtain ⟨locs, hlo⟩ : ∃ z : List Loc, z = [] := ⟨_, rfl⟩
  rw [← hlo] at hS ⊢
  clear hlo
  refine lv_aload_n F.1 F.2.1 dX8_hang_0 rfl (lv_at hl 0 rfl) ?_
  refine lv_aload_n F.1 F.2.1 dX8_hang_1 rfl (lv_at hl 0 rfl) ?_
  refine lv_iload_n F.1 F.2.1 dX8_hang_2 rfl (lv_at hl 1 rfl) ?_
  obtain ⟨q1, h_q1, h⟩ := bd h
  refine rVi F G hS hl.1 (c_X8_isArm l g σ τ a1 q1 h_q1) lk_X8_188 ⟨rfl, rfl, Nat.le_of_ble_eq_true rfl, Nat.le_of_ble_eq_true rfl⟩ (rc_X8 G hS) rfl rfl (Nat.le_of_ble_eq_true rfl) dX8_hang_3 (kRi (fun H locs hS => ?_))
  refine lv_if_eq (tgt := 25) F.1 F.2.1 dX8_hang_6 (by decide) (fun hc => ?_) (fun hc => ?_)
  · replace h := ifT h hc
    exact w_25 σ h H locs _ hS (lv_sub hl [1, 2] rfl)
  replace h := ifF h hc
  refine lv_iload_n F.1 F.2.1 dX8_hang_9 rfl (lv_at hl 2 rfl) ?_
  refine lv_i2l F.1 F.2.1 dX8_hang_10 rfl ?_
  refine lv_lconst (v := (0 : Int64)) F.1 F.2.1 dX8_hang_11 (by decide) ?_
  refine lv_ldc2 (v := (4 : Int64)) F.1 F.2.1 F.2.2.2.1 (F.2.2.2.2 _ tb_1312) dX8_hang_12 ?_
  obtain ⟨q3, h_q3, h⟩ := bd h
  refine rSi F G hS hl.1 (c_X8_in l g σ τ a2.toInt64 (0 : Int64) (4 : Int64) q3 h_q3) lk_X8_71 ⟨rfl, rfl, Nat.le_of_ble_eq_true rfl, Nat.le_of_ble_eq_true rfl⟩  rfl rfl (Nat.le_of_ble_eq_true rfl) dX8_hang_15 (kRi (fun H locs hS => ?_))
  refine lv_if_eq (tgt := 25) F.1 F.2.1 dX8_hang_18 (by decide) (fun hc => ?_) (fun hc => ?_)
  · replace h := ifT h hc
    exact w_25 σ h H locs _ hS (lv_sub hl [1, 2] rfl)
  replace h := ifF h hc
  refine lv_iconst (v := (1 : Int32)) F.1 F.2.1 dX8_hang_21 (by decide) ?_
  refine lv_goto (tgt := 26) F.1 F.2.1 dX8_hang_22 (by decide) ?_
  exact w_26 σ (1 : Int32) h H locs _ hS (lv_sub hl [1, 2] rfl)
def f_X8_posts (σ : ZI) (a1 : Int32) (a2 : Int32) : Option (Int32 × ZI) := (f_X8_in a1.toInt64 (0 : Int64) (((σ 60 7) - (1 : Int32)).toInt64)).bind (fun q1 => if q1 = 0 then (some ((-1 : Int32), σ)) else ((f_X8_in a2.toInt64 (0 : Int64) (99 : Int64)).bind (fun q2 => if q2 = 0 then (some ((-1 : Int32), σ)) else (if inB ((6 : Int32) + a1) 90 = true then (if ((σ 61 ((6 : Int32) + a1).toNatClampNeg) + a2) ≤ (99 : Int32) then (if inB ((6 : Int32) + a1) 90 = true then (if inB ((6 : Int32) + a1) 90 = true then (lt_ (va_up σ 61 (upd (σ 61) ((6 : Int32) + a1).toNatClampNeg ((σ 61 ((6 : Int32) + a1).toNatClampNeg) + a2))) (fun σ3 => if inB ((6 : Int32) + a1) 90 = true then (some ((σ3 61 ((6 : Int32) + a1).toNatClampNeg), σ3)) else none)) else none) else none) else (some ((-3 : Int32), σ))) else none))))
abbrev rm_X8_posts : Room := { frames := 1, cells := 0, slots := 0, locals := 25 }
set_option maxHeartbeats 4000000 in
set_option maxRecDepth 100000 in
theorem c_X8_posts (l : Launch) (g : GG) (σ : ZI) (τ : ZL) (a1 : Int32) (a2 : Int32) (res : Int32 × ZI) (h : f_X8_posts σ a1 a2 = some res) : MI l yX8_posts cX8_posts 3 (some .int) rm_X8_posts g [.ref (gA g 60), .int a1, .int a2] σ τ (fun (r : Int32) (u : ZI × ZL) => (r, u.1) = res ∧ u.2 = τ) := by
  refine Met_in (by decide) (Nat.le_of_ble_eq_true rfl) ?_
  intro p e s m args below meth c F G hP hr0 hk0 ls hl
  have hS := WS.start hP
  have hl : lv_has ls 3 [(0, .ref (gA g 60)), (1, .int a1), (2, .int a2)] := hl
  obtain ⟨H, hH⟩ : ∃ H, H = s.heap := ⟨_, rfl⟩
  rw [← hH] at hS ⊢
  clear hH hP
  rw [f_X8_posts] at h
  obtain ⟨locs, hlo⟩ : ∃ z : List Loc, z = [] := ⟨_, rfl⟩
  rw [← hlo] at hS ⊢
  clear hlo
  refine lv_iload_n F.1 F.2.1 dX8_posts_0 rfl (lv_at hl 1 rfl) ?_
  refine lv_i2l F.1 F.2.1 dX8_posts_1 rfl ?_
  refine lv_lconst (v := (0 : Int64)) F.1 F.2.1 dX8_posts_2 (by decide) ?_
  refine lv_aload_n F.1 F.2.1 dX8_posts_3 rfl (lv_at hl 0 rfl) ?_
  refine gf_X8_173 F G hS dX8_posts_4 ?_
  refine lv_iconst (v := (1 : Int32)) F.1 F.2.1 dX8_posts_7 (by decide) ?_
  refine lv_isub F.1 F.2.1 dX8_posts_8 ?_
  refine lv_i2l F.1 F.2.1 dX8_posts_9 rfl ?_
  obtain ⟨q1, h_q1, h⟩ := bd h
  refine rSi F G hS hl.1 (c_X8_in l g σ τ a1.toInt64 (0 : Int64) (((σ 60 7) - (1 : Int32)).toInt64) q1 h_q1) lk_X8_71 ⟨rfl, rfl, Nat.le_of_ble_eq_true rfl, Nat.le_of_ble_eq_true rfl⟩  rfl rfl (Nat.le_of_ble_eq_true rfl) dX8_posts_10 (kRi (fun H locs hS => ?_))
  refine lv_if_eq (tgt := 28) F.1 F.2.1 dX8_posts_13 (by decide) (fun hc => ?_) (fun hc => ?_)
  · replace h := ifT h hc
    refine lv_iconst (v := (-1 : Int32)) F.1 F.2.1 dX8_posts_28 (by decide) ?_
    exact e_i F hS ⟨Option.some.inj h, rfl⟩ hr0 dX8_posts_29 hk0
  replace h := ifF h hc
  refine lv_iload_n F.1 F.2.1 dX8_posts_16 rfl (lv_at hl 2 rfl) ?_
  refine lv_i2l F.1 F.2.1 dX8_posts_17 rfl ?_
  refine lv_lconst (v := (0 : Int64)) F.1 F.2.1 dX8_posts_18 (by decide) ?_
  refine lv_ldc2 (v := (99 : Int64)) F.1 F.2.1 F.2.2.2.1 (F.2.2.2.2 _ tb_1321) dX8_posts_19 ?_
  obtain ⟨q2, h_q2, h⟩ := bd h
  refine rSi F G hS hl.1 (c_X8_in l g σ τ a2.toInt64 (0 : Int64) (99 : Int64) q2 h_q2) lk_X8_71 ⟨rfl, rfl, Nat.le_of_ble_eq_true rfl, Nat.le_of_ble_eq_true rfl⟩  rfl rfl (Nat.le_of_ble_eq_true rfl) dX8_posts_22 (kRi (fun H locs hS => ?_))
  refine lv_if_ne (tgt := 30) F.1 F.2.1 dX8_posts_25 (by decide) (fun hc => ?_) (fun hc => ?_)
  rotate_left
  · replace h := ifT h hc
    refine lv_iconst (v := (-1 : Int32)) F.1 F.2.1 dX8_posts_28 (by decide) ?_
    exact e_i F hS ⟨Option.some.inj h, rfl⟩ hr0 dX8_posts_29 hk0
  replace h := ifF h hc
  refine lv_aload_n F.1 F.2.1 dX8_posts_30 rfl (lv_at hl 0 rfl) ?_
  refine gf_X8_7 F G hS dX8_posts_31 ?_
  refine lv_bipush (v := (6 : Int32)) F.1 F.2.1 dX8_posts_34 (by decide) ?_
  refine lv_iload_n F.1 F.2.1 dX8_posts_36 rfl (lv_at hl 1 rfl) ?_
  refine lv_iadd F.1 F.2.1 dX8_posts_37 ?_
  obtain ⟨hin, h⟩ := gd h
  refine x_iald F G hS 61 rfl hin dX8_posts_38 ?_
  refine lv_iload_n F.1 F.2.1 dX8_posts_39 rfl (lv_at hl 2 rfl) ?_
  refine lv_iadd F.1 F.2.1 dX8_posts_40 ?_
  refine lv_bipush (v := (99 : Int32)) F.1 F.2.1 dX8_posts_41 (by decide) ?_
  refine lv_icmp_le (tgt := 49) F.1 F.2.1 dX8_posts_43 (by decide) (fun hc => ?_) (fun hc => ?_)
  rotate_left
  · replace h := ifF h hc
    refine lv_bipush (v := (-3 : Int32)) F.1 F.2.1 dX8_posts_46 (by decide) ?_
    exact e_i F hS ⟨Option.some.inj h, rfl⟩ hr0 dX8_posts_48 hk0
  replace h := ifT h hc
  refine lv_aload_n F.1 F.2.1 dX8_posts_49 rfl (lv_at hl 0 rfl) ?_
  refine gf_X8_7 F G hS dX8_posts_50 ?_
  refine lv_bipush (v := (6 : Int32)) F.1 F.2.1 dX8_posts_53 (by decide) ?_
  refine lv_iload_n F.1 F.2.1 dX8_posts_55 rfl (lv_at hl 1 rfl) ?_
  refine lv_iadd F.1 F.2.1 dX8_posts_56 ?_
  refine lv_dup2_11 F.1 F.2.1 dX8_posts_57 rfl rfl ?_
  obtain ⟨hin, h⟩ := gd h
  refine x_iald F G hS 61 rfl hin dX8_posts_58 ?_
  refine lv_iload_n F.1 F.2.1 dX8_posts_59 rfl (lv_at hl 2 rfl) ?_
  refine lv_iadd F.1 F.2.1 dX8_posts_60 ?_
  obtain ⟨hin, h⟩ := gd h
  refine x_iast F G hS 61 rfl hin dX8_posts_61 (fun H locs hS => ?_)
  obtain ⟨σ3, e_σ3, h⟩ := ltE h
  rw [← e_σ3] at hS
  clear e_σ3
  refine lv_aload_n F.1 F.2.1 dX8_posts_62 rfl (lv_at hl 0 rfl) ?_
  refine gf_X8_7 F G hS dX8_posts_63 ?_
  refine lv_bipush (v := (6 : Int32)) F.1 F.2.1 dX8_posts_66 (by decide) ?_
  refine lv_iload_n F.1 F.2.1 dX8_posts_68 rfl (lv_at hl 1 rfl) ?_
  refine lv_iadd F.1 F.2.1 dX8_posts_69 ?_
  obtain ⟨hin, h⟩ := gd h
  refine x_iald F G hS 61 rfl hin dX8_posts_70 ?_
  exact e_i F hS ⟨Option.some.inj h, rfl⟩ hr0 dX8_posts_71 hk0
def f_X8_post (σ : ZI) (a1 : Int32) (a2 : Int32) : Option (Int32 × ZI) := (f_X8_posts σ a1 a2).bind (fun q1 => some (q1.1, q1.2))
abbrev rm_X8_post : Room := { frames := 2, cells := 0, slots := 0, locals := 47 }
set_option maxHeartbeats 4000000 in
set_option maxRecDepth 100000 in
theorem c_X8_post (l : Launch) (g : GG) (σ : ZI) (τ : ZL) (a1 : Int32) (a2 : Int32) (res : Int32 × ZI) (h : f_X8_post σ a1 a2 = some res) : MI l yX8_post cX8_post 3 (some .int) rm_X8_post g [.ref (gA g 60), .int a1, .int a2] σ τ (fun (r : Int32) (u : ZI × ZL) => (r, u.1) = res ∧ u.2 = τ) := by
  refine Met_in (by decide) (Nat.le_of_ble_eq_true rfl) ?_
  intro p e s m args below meth c F G hP hr0 hk0 ls hl
  have hS := WS.start hP
  have hl : lv_has ls 3 [(0, .ref (gA g 60)), (1, .int a1), (2, .int a2)] := hl
  obtain ⟨H, hH⟩ : ∃ H, H = s.heap := ⟨_, rfl⟩
  rw [← hH] at hS ⊢
  clear hH hP
  rw [f_X8_post] at h
  obtain ⟨locs, hlo⟩ : ∃ z : List Loc, z = [] := ⟨_, rfl⟩
  rw [← hlo] at hS ⊢
  clear hlo
  refine lv_aload_n F.1 F.2.1 dX8_post_0 rfl (lv_at hl 0 rfl) ?_
  refine lv_iload_n F.1 F.2.1 dX8_post_1 rfl (lv_at hl 1 rfl) ?_
  refine lv_iload_n F.1 F.2.1 dX8_post_2 rfl (lv_at hl 2 rfl) ?_
  obtain ⟨q1, h_q1, h⟩ := bd h
  refine rVi F G hS hl.1 (c_X8_posts l g σ τ a1 a2 q1 h_q1) lk_X8_210 ⟨rfl, rfl, Nat.le_of_ble_eq_true rfl, Nat.le_of_ble_eq_true rfl⟩ (rc_X8 G hS) rfl rfl (Nat.le_of_ble_eq_true rfl) dX8_post_3 (kIi (fun H locs hS => ?_))
  exact e_i F hS ⟨Option.some.inj h, rfl⟩ hr0 dX8_post_6 hk0
def f_X8_counted_67 (a1 : Int32) (a2 : Int32) (a3 : Int32) (k_28 : ZI → Int32 → Option (ZI)) (σ : ZI) (v4 : Int32) (s0 : Int32) : Option (ZI) := lt_ (va_up σ 60 (upd (σ 60) 33 s0)) (fun σ2 => k_28 σ2 (v4 + (1 : Int32)))
def f_X8_counted_63 (a1 : Int32) (a2 : Int32) (a3 : Int32) (k_28 : ZI → Int32 → Option (ZI)) (σ : ZI) (v4 : Int32) : Option (ZI) := f_X8_counted_67 a1 a2 a3 k_28 σ v4 (σ 60 33)
def f_X8_counted_28 (a1 : Int32) (a2 : Int32) (a3 : Int32)  : Nat → ZI → Int32 → Option (ZI)
  | 0, _, _ => none
  | n + 1, σ, v4 => if (σ 60 5) ≤ v4 then (some σ) else (if inB v4 3 = true then (if (σ 63 v4.toNatClampNeg) = a3 then (if ((a2 >>> (v4 &&& 31)) &&& (1 : Int32)) = (1 : Int32) then (f_X8_counted_67 a1 a2 a3 (fun σ v4 => f_X8_counted_28 a1 a2 a3 n σ v4) σ v4 a3) else (f_X8_counted_63 a1 a2 a3 (fun σ v4 => f_X8_counted_28 a1 a2 a3 n σ v4) σ v4)) else (f_X8_counted_63 a1 a2 a3 (fun σ v4 => f_X8_counted_28 a1 a2 a3 n σ v4) σ v4)) else none)
def f_X8_counted_21 (a1 : Int32) (a2 : Int32) (a3 : Int32)  (σ : ZI) (s0 : Int32) (s1 : Int32) : Option (ZI) := lt_ (va_up σ 60 (upd (σ 60) 33 (s1 + s0))) (fun σ1 => f_X8_counted_28 a1 a2 a3 3000 σ1 (0 : Int32))
def f_X8_counted (σ : ZI) (a1 : Int32) (a2 : Int32) (a3 : Int32) : Option (ZI) := if ((a1 >>> ((a3 - (1 : Int32)) &&& 31)) &&& (1 : Int32)) = (1 : Int32) then (f_X8_counted_21 a1 a2 a3 σ (0 : Int32) (σ 60 33)) else (f_X8_counted_21 a1 a2 a3 σ (1 : Int32) (σ 60 33))
abbrev rm_X8_counted : Room := { frames := 0, cells := 0, slots := 0, locals := 0 }
set_option maxHeartbeats 4000000 in
set_option maxRecDepth 100000 in
theorem c_X8_counted (l : Launch) (g : GG) (σ : ZI) (τ : ZL) (a1 : Int32) (a2 : Int32) (a3 : Int32) (res : ZI) (h : f_X8_counted σ a1 a2 a3 = some res) : MV l yX8_counted cX8_counted 5 none rm_X8_counted g [.ref (gA g 60), .int a1, .int a2, .int a3] σ τ (fun (u : ZI × ZL) => u.1 = res ∧ u.2 = τ) := by
  refine Met_in (by decide) (Nat.le_of_ble_eq_true rfl) ?_
  intro p e s m args below meth c F G hP hr0 hk0 ls hl
  have hS := WS.start hP
  have hl : lv_has ls 5 [(0, .ref (gA g 60)), (1, .int a1), (2, .int a2), (3, .int a3)] := hl
  obtain ⟨H, hH⟩ : ∃ H, H = s.heap := ⟨_, rfl⟩
  rw [← hH] at hS ⊢
  clear hH hP
  rw [f_X8_counted] at h
  have w_67 : ∀ (k_28 : ZI → Int32 → Option (ZI)) (hk_28 : ∀ (σ : ZI) (v4 : Int32), k_28 σ v4 = some res → ∀ (H : Heap) (locs : List Loc) (ls : Array Slot), WS g σ τ s H locs → lv_has ls 5 [(0, .ref (gA g 60)), (2, .int a2), (3, .int a3), (4, .int v4)] → W p l e rm_X8_counted s m args below meth c H locs 0 0 (MQ below (va_Qv (fun (u : ZI × ZL) => u.1 = res ∧ u.2 = τ) (WQ g) (AA g)) args s 0 0 (AA g)) (F0 m 28 ls [])) (σ : ZI) (v4 : Int32) (s0 : Int32), f_X8_counted_67 a1 a2 a3 k_28 σ v4 s0 = some res → ∀ (H : Heap) (locs : List Loc) (ls : Array Slot), WS g σ τ s H locs → lv_has ls 5 [(0, .ref (gA g 60)), (2, .int a2), (3, .int a3), (4, .int v4)] → W p l e rm_X8_counted s m args below meth c H locs 0 0 (MQ below (va_Qv (fun (u : ZI × ZL) => u.1 = res ∧ u.2 = τ) (WQ g) (AA g)) args s 0 0 (AA g)) (F0 m 67 ls [.int s0, .ref (gA g 60)]) := by
    intro k_28 hk_28 σ v4 s0 h H locs ls hS hl
    rw [f_X8_counted_67] at h
    refine pf_X8_213 F G hS dX8_counted_67 (fun H locs hS => ?_)
    obtain ⟨σ2, e_σ2, h⟩ := ltE h
    rw [← e_σ2] at hS
    clear e_σ2
    refine lv_iinc (v := (v4 + (1 : Int32))) (lv' := [(4, .int (v4 + (1 : Int32))), (0, .ref (gA g 60)), (2, .int a2), (3, .int a3)]) F.1 F.2.1 dX8_counted_70 hl (k := 3) rfl rfl (by decide) rfl (fun ls hl => ?_)
    refine lv_goto (tgt := 28) F.1 F.2.1 dX8_counted_73 (by decide) ?_
    exact hk_28 σ2 (v4 + (1 : Int32)) h H locs _ hS (lv_sub hl [1, 2, 3, 0] rfl)
  have w_63 : ∀ (k_28 : ZI → Int32 → Option (ZI)) (hk_28 : ∀ (σ : ZI) (v4 : Int32), k_28 σ v4 = some res → ∀ (H : Heap) (locs : List Loc) (ls : Array Slot), WS g σ τ s H locs → lv_has ls 5 [(0, .ref (gA g 60)), (2, .int a2), (3, .int a3), (4, .int v4)] → W p l e rm_X8_counted s m args below meth c H locs 0 0 (MQ below (va_Qv (fun (u : ZI × ZL) => u.1 = res ∧ u.2 = τ) (WQ g) (AA g)) args s 0 0 (AA g)) (F0 m 28 ls [])) (σ : ZI) (v4 : Int32), f_X8_counted_63 a1 a2 a3 k_28 σ v4 = some res → ∀ (H : Heap) (locs : List Loc) (ls : Array Slot), WS g σ τ s H locs → lv_has ls 5 [(0, .ref (gA g 60)), (2, .int a2), (3, .int a3), (4, .int v4)] → W p l e rm_X8_counted s m args below meth c H locs 0 0 (MQ below (va_Qv (fun (u : ZI × ZL) => u.1 = res ∧ u.2 = τ) (WQ g) (AA g)) args s 0 0 (AA g)) (F0 m 63 ls [.ref (gA g 60)]) := by
    intro k_28 hk_28 σ v4 h H locs ls hS hl
    rw [f_X8_counted_63] at h
    refine lv_aload_n F.1 F.2.1 dX8_counted_63 rfl (lv_at hl 0 rfl) ?_
    refine gf_X8_213 F G hS dX8_counted_64 ?_
    exact w_67 _ hk_28 σ v4 (σ 60 33) h H locs _ hS (lv_sub hl [0, 1, 2, 3] rfl)
  have w_28 : ∀ (n : Nat) (σ : ZI) (v4 : Int32), f_X8_counted_28 a1 a2 a3 n σ v4 = some res → ∀ (H : Heap) (locs : List Loc) (ls : Array Slot), WS g σ τ s H locs → lv_has ls 5 [(0, .ref (gA g 60)), (2, .int a2), (3, .int a3), (4, .int v4)] → W p l e rm_X8_counted s m args below meth c H locs 0 0 (MQ below (va_Qv (fun (u : ZI × ZL) => u.1 = res ∧ u.2 = τ) (WQ g) (AA g)) args s 0 0 (AA g)) (F0 m 28 ls []) := by
    intro n
    induction n with
    | zero => intro σ v4 h; rw [f_X8_counted_28] at h; cases h
    | succ n ih =>
      intro σ v4 h H locs ls hS hl
      rw [f_X8_counted_28] at h
      refine lv_iload F.1 F.2.1 dX8_counted_28 (lv_at hl 3 rfl) ?_
      refine lv_aload_n F.1 F.2.1 dX8_counted_30 rfl (lv_at hl 0 rfl) ?_
      refine gf_X8_170 F G hS dX8_counted_31 ?_
      refine lv_icmp_ge (tgt := 76) F.1 F.2.1 dX8_counted_34 (by decide) (fun hc => ?_) (fun hc => ?_)
      · replace h := ifT h hc
        exact e_v F hS ⟨Option.some.inj h, rfl⟩ hr0 dX8_counted_76 hk0
      replace h := ifF h hc
      refine lv_aload_n F.1 F.2.1 dX8_counted_37 rfl (lv_at hl 0 rfl) ?_
      refine lv_aload_n F.1 F.2.1 dX8_counted_38 rfl (lv_at hl 0 rfl) ?_
      refine gf_X8_20 F G hS dX8_counted_39 ?_
      refine lv_iload F.1 F.2.1 dX8_counted_42 (lv_at hl 3 rfl) ?_
      obtain ⟨hin, h⟩ := gd h
      refine x_iald F G hS 63 rfl hin dX8_counted_44 ?_
      refine lv_iload_n F.1 F.2.1 dX8_counted_45 rfl (lv_at hl 2 rfl) ?_
      refine lv_icmp_ne (tgt := 63) F.1 F.2.1 dX8_counted_46 (by decide) (fun hc => ?_) (fun hc => ?_)
      · replace h := ifF h hc
        exact w_63 _ (fun σ v4 => ih σ v4) σ v4 h H locs _ hS (lv_sub hl [0, 1, 2, 3] rfl)
      replace h := ifT h hc
      refine lv_iload_n F.1 F.2.1 dX8_counted_49 rfl (lv_at hl 1 rfl) ?_
      refine lv_iload F.1 F.2.1 dX8_counted_50 (lv_at hl 3 rfl) ?_
      refine lv_ishr F.1 F.2.1 dX8_counted_52 ?_
      refine lv_iconst (v := (1 : Int32)) F.1 F.2.1 dX8_counted_53 (by decide) ?_
      refine lv_iand F.1 F.2.1 dX8_counted_54 ?_
      refine lv_iconst (v := (1 : Int32)) F.1 F.2.1 dX8_counted_55 (by decide) ?_
      refine lv_icmp_ne (tgt := 63) F.1 F.2.1 dX8_counted_56 (by decide) (fun hc => ?_) (fun hc => ?_)
      · replace h := ifF h hc
        exact w_63 _ (fun σ v4 => ih σ v4) σ v4 h H locs _ hS (lv_sub hl [0, 1, 2, 3] rfl)
      replace h := ifT h hc
      refine lv_iload_n F.1 F.2.1 dX8_counted_59 rfl (lv_at hl 2 rfl) ?_
      refine lv_goto (tgt := 67) F.1 F.2.1 dX8_counted_60 (by decide) ?_
      exact w_67 _ (fun σ v4 => ih σ v4) σ v4 a3 h H locs _ hS (lv_sub hl [0, 1, 2, 3] rfl)
  have w_21 : ∀ (σ : ZI) (s0 : Int32) (s1 : Int32), f_X8_counted_21 a1 a2 a3 σ s0 s1 = some res → ∀ (H : Heap) (locs : List Loc) (ls : Array Slot), WS g σ τ s H locs → lv_has ls 5 [(0, .ref (gA g 60)), (2, .int a2), (3, .int a3)] → W p l e rm_X8_counted s m args below meth c H locs 0 0 (MQ below (va_Qv (fun (u : ZI × ZL) => u.1 = res ∧ u.2 = τ) (WQ g) (AA g)) args s 0 0 (AA g)) (F0 m 21 ls [.int s0, .int s1, .ref (gA g 60)]) := by
    intro  σ s0 s1 h H locs ls hS hl
    rw [f_X8_counted_21] at h
    refine lv_iadd F.1 F.2.1 dX8_counted_21 ?_
    refine pf_X8_213 F G hS dX8_counted_22 (fun H locs hS => ?_)
    obtain ⟨σ1, e_σ1, h⟩ := ltE h
    rw [← e_σ1] at hS
    clear e_σ1
    refine lv_iconst (v := (0 : Int32)) F.1 F.2.1 dX8_counted_25 (by decide) ?_
    refine lv_istore (lv' := [(4, .int (0 : Int32)), (0, .ref (gA g 60)), (2, .int a2), (3, .int a3)]) F.1 F.2.1 dX8_counted_26 hl (by decide) rfl (fun ls hl => ?_)
    exact w_28 3000 σ1 (0 : Int32) h H locs _ hS (lv_sub hl [1, 2, 3, 0] rfl)
  obtain ⟨locs, hlo⟩ : ∃ z : List Loc, z = [] := ⟨_, rfl⟩
  rw [← hlo] at hS ⊢
  clear hlo
  refine lv_aload_n F.1 F.2.1 dX8_counted_0 rfl (lv_at hl 0 rfl) ?_
  refine lv_dup F.1 F.2.1 dX8_counted_1 rfl ?_
  refine gf_X8_213 F G hS dX8_counted_2 ?_
  refine lv_iload_n F.1 F.2.1 dX8_counted_5 rfl (lv_at hl 1 rfl) ?_
  refine lv_iload_n F.1 F.2.1 dX8_counted_6 rfl (lv_at hl 3 rfl) ?_
  refine lv_iconst (v := (1 : Int32)) F.1 F.2.1 dX8_counted_7 (by decide) ?_
  refine lv_isub F.1 F.2.1 dX8_counted_8 ?_
  refine lv_ishr F.1 F.2.1 dX8_counted_9 ?_
  refine lv_iconst (v := (1 : Int32)) F.1 F.2.1 dX8_counted_10 (by decide) ?_
  refine lv_iand F.1 F.2.1 dX8_counted_11 ?_
  refine lv_iconst (v := (1 : Int32)) F.1 F.2.1 dX8_counted_12 (by decide) ?_
  refine lv_icmp_ne (tgt := 20) F.1 F.2.1 dX8_counted_13 (by decide) (fun hc => ?_) (fun hc => ?_)
  · replace h := ifF h hc
    refine lv_iconst (v := (1 : Int32)) F.1 F.2.1 dX8_counted_20 (by decide) ?_
    exact w_21 σ (1 : Int32) (σ 60 33) h H locs _ hS (lv_sub hl [0, 2, 3] rfl)
  replace h := ifT h hc
  refine lv_iconst (v := (0 : Int32)) F.1 F.2.1 dX8_counted_16 (by decide) ?_
  refine lv_goto (tgt := 21) F.1 F.2.1 dX8_counted_17 (by decide) ?_
  exact w_21 σ (0 : Int32) (σ 60 33) h H locs _ hS (lv_sub hl [0, 2, 3] rfl)
