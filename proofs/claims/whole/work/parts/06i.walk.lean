def f_X8_split (σ : ZI) : Option (Int32) := some (σ 60 46)
abbrev rm_X8_split : Room := { frames := 0, cells := 0, slots := 0, locals := 0 }
set_option maxHeartbeats 4000000 in
set_option maxRecDepth 100000 in
theorem c_X8_split (l : Launch) (g : GG) (σ : ZI) (τ : ZL)  (res : Int32) (h : f_X8_split σ = some res) : MI l yX8_split cX8_split 1 (some .int) rm_X8_split g [.ref (gA g 60)] σ τ (fun (r : Int32) (u : ZI × ZL) => r = res ∧ u.1 = σ ∧ u.2 = τ) := by
  refine Met_in (by decide) (Nat.le_of_ble_eq_true rfl) ?_
  intro p e s m args below meth c F G hP hr0 hk0 ls hl
  have hS := WS.start hP
  have hl : lv_has ls 1 [(0, .ref (gA g 60))] := hl
  obtain ⟨H, hH⟩ : ∃ H, H = s.heap := ⟨_, rfl⟩
  rw [← hH] at hS ⊢
  clear hH hP
  rw [f_X8_split] at h
  obtain ⟨locs, hlo⟩ : ∃ z : List Loc, z = [] := ⟨_, rfl⟩
  rw [← hlo] at hS ⊢
  clear hlo
  refine lv_aload_n F.1 F.2.1 dX8_split_0 rfl (lv_at hl 0 rfl) ?_
  refine gf_X8_309 F G hS dX8_split_1 ?_
  exact e_i F hS ⟨Option.some.inj h, rfl, rfl⟩ hr0 dX8_split_4 hk0
def f_X8_count_87 (σ : ZI) (a1 : Int32)  (s0 : Int32) : Option (Int32) := if (σ 75 1) = 0 then (some (s0 + (0 : Int32))) else (some (s0 + (1 : Int32)))
def f_X8_count_4 (σ : ZI) (a1 : Int32)  : Nat → Int32 → Int32 → Option (Int32)
  | 0, _, _ => none
  | n + 1, v2, v3 => if (σ 60 7) ≤ v3 then (if a1 = (0 : Int32) then (some (σ 60 41)) else (if a1 = (1 : Int32) then (if (σ 75 0) = 0 then (f_X8_count_87 σ a1 (0 : Int32)) else (f_X8_count_87 σ a1 (1 : Int32))) else (if a1 = (2 : Int32) then (some (σ 60 23)) else (if a1 = (3 : Int32) then (if (σ 76 0) = (-4 : Int32) then (some (-4 : Int32)) else (some (σ 77 0))) else (if a1 = (4 : Int32) then (some v2) else (if a1 = (5 : Int32) then ((f_X8_bitsOf (σ 61 11)).bind (fun q1 => some q1)) else (some (-1 : Int32)))))))) else (if inB ((6 : Int32) + v3) 90 = true then (lt_ ((v2 + (σ 61 ((6 : Int32) + v3).toNatClampNeg))) (fun x2 => f_X8_count_4 σ a1 n x2 (v3 + (1 : Int32)))) else none)
def f_X8_count (σ : ZI) (a1 : Int32) : Option (Int32) := f_X8_count_4 σ a1 3000 (0 : Int32) (0 : Int32)
abbrev rm_X8_count : Room := { frames := 1, cells := 0, slots := 0, locals := 22 }
set_option maxHeartbeats 4000000 in
set_option maxRecDepth 100000 in
theorem c_X8_count (l : Launch) (g : GG) (σ : ZI) (τ : ZL) (a1 : Int32) (res : Int32) (h : f_X8_count σ a1 = some res) : MI l yX8_count cX8_count 4 (some .int) rm_X8_count g [.ref (gA g 60), .int a1] σ τ (fun (r : Int32) (u : ZI × ZL) => r = res ∧ u.1 = σ ∧ u.2 = τ) := by
  refine Met_in (by decide) (Nat.le_of_ble_eq_true rfl) ?_
  intro p e s m args below meth c F G hP hr0 hk0 ls hl
  have hS := WS.start hP
  have hl : lv_has ls 4 [(0, .ref (gA g 60)), (1, .int a1)] := hl
  obtain ⟨H, hH⟩ : ∃ H, H = s.heap := ⟨_, rfl⟩
  rw [← hH] at hS ⊢
  clear hH hP
  rw [f_X8_count] at h
  have w_87 : ∀ (s0 : Int32), f_X8_count_87 σ a1 s0 = some res → ∀ (H : Heap) (locs : List Loc) (ls : Array Slot), WS g σ τ s H locs → lv_has ls 4 [(0, .ref (gA g 60))] → W p l e rm_X8_count s m args below meth c H locs 0 0 (MQ below (va_Qi (fun (r : Int32) (u : ZI × ZL) => r = res ∧ u.1 = σ ∧ u.2 = τ) (WQ g) (AA g)) args s 0 0 (AA g)) (F0 m 87 ls [.int s0]) := by
    intro  s0 h H locs ls hS hl
    rw [f_X8_count_87] at h
    refine lv_aload_n F.1 F.2.1 dX8_count_87 rfl (lv_at hl 0 rfl) ?_
    refine gf_X8_56 F G hS dX8_count_88 ?_
    refine lv_iconst (v := (1 : Int32)) F.1 F.2.1 dX8_count_91 (by decide) ?_
    refine x_zaldL F G hS 75 rfl 1 rfl (by decide) dX8_count_92 ?_
    refine lv_if_eq (tgt := 100) F.1 F.2.1 dX8_count_93 (by decide) (fun hc => ?_) (fun hc => ?_)
    · replace h := ifT h hc
      refine lv_iconst (v := (0 : Int32)) F.1 F.2.1 dX8_count_100 (by decide) ?_
      refine lv_iadd F.1 F.2.1 dX8_count_101 ?_
      exact e_i F hS ⟨Option.some.inj h, rfl, rfl⟩ hr0 dX8_count_102 hk0
    replace h := ifF h hc
    refine lv_iconst (v := (1 : Int32)) F.1 F.2.1 dX8_count_96 (by decide) ?_
    refine lv_goto (tgt := 101) F.1 F.2.1 dX8_count_97 (by decide) ?_
    refine lv_iadd F.1 F.2.1 dX8_count_101 ?_
    exact e_i F hS ⟨Option.some.inj h, rfl, rfl⟩ hr0 dX8_count_102 hk0
  have w_4 : ∀ (n : Nat) (v2 : Int32) (v3 : Int32), f_X8_count_4 σ a1 n v2 v3 = some res → ∀ (H : Heap) (locs : List Loc) (ls : Array Slot), WS g σ τ s H locs → lv_has ls 4 [(0, .ref (gA g 60)), (1, .int a1), (2, .int v2), (3, .int v3)] → W p l e rm_X8_count s m args below meth c H locs 0 0 (MQ below (va_Qi (fun (r : Int32) (u : ZI × ZL) => r = res ∧ u.1 = σ ∧ u.2 = τ) (WQ g) (AA g)) args s 0 0 (AA g)) (F0 m 4 ls []) := by
    intro n
    induction n with
    | zero => intro v2 v3 h; rw [f_X8_count_4] at h; cases h
    | succ n ih =>
      intro v2 v3 h H locs ls hS hl
      rw [f_X8_count_4] at h
      refine lv_iload_n F.1 F.2.1 dX8_count_4 rfl (lv_at hl 3 rfl) ?_
      refine lv_aload_n F.1 F.2.1 dX8_count_5 rfl (lv_at hl 0 rfl) ?_
      refine gf_X8_173 F G hS dX8_count_6 ?_
      refine lv_icmp_ge (tgt := 30) F.1 F.2.1 dX8_count_9 (by decide) (fun hc => ?_) (fun hc => ?_)
      rotate_left
      · replace h := ifF h hc
        refine lv_iload_n F.1 F.2.1 dX8_count_12 rfl (lv_at hl 2 rfl) ?_
        refine lv_aload_n F.1 F.2.1 dX8_count_13 rfl (lv_at hl 0 rfl) ?_
        refine gf_X8_7 F G hS dX8_count_14 ?_
        refine lv_bipush (v := (6 : Int32)) F.1 F.2.1 dX8_count_17 (by decide) ?_
        refine lv_iload_n F.1 F.2.1 dX8_count_19 rfl (lv_at hl 3 rfl) ?_
        refine lv_iadd F.1 F.2.1 dX8_count_20 ?_
        obtain ⟨hin, h⟩ := gd h
        refine x_iald F G hS 61 rfl hin dX8_count_21 ?_
        refine lv_iadd F.1 F.2.1 dX8_count_22 ?_
        obtain ⟨x2, e_x2, h⟩ := ltE h
        refine x_topi e_x2 ?_
        clear e_x2
        refine lv_istore_n (lv' := [(2, .int x2), (0, .ref (gA g 60)), (1, .int a1), (3, .int v3)]) F.1 F.2.1 dX8_count_23 rfl hl (by decide) rfl (fun ls hl => ?_)
        refine lv_iinc (v := (v3 + (1 : Int32))) (lv' := [(3, .int (v3 + (1 : Int32))), (2, .int x2), (0, .ref (gA g 60)), (1, .int a1)]) F.1 F.2.1 dX8_count_24 hl (k := 3) rfl rfl (by decide) rfl (fun ls hl => ?_)
        refine lv_goto (tgt := 4) F.1 F.2.1 dX8_count_27 (by decide) ?_
        exact ih x2 (v3 + (1 : Int32)) h H locs _ hS (lv_sub hl [2, 3, 1, 0] rfl)
      replace h := ifT h hc
      refine lv_iload_n F.1 F.2.1 dX8_count_30 rfl (lv_at hl 1 rfl) ?_
      by_cases hc_0 : a1 = (0 : Int32)
      · replace h := ifT h hc_0
        refine lv_tableIn (tgt := 68) F.1 F.2.1 dX8_count_31 (by rw [hc_0]; decide) (by rw [hc_0]; decide) (by rw [hc_0]; rfl) (by decide) ?_
        refine lv_aload_n F.1 F.2.1 dX8_count_68 rfl (lv_at hl 0 rfl) ?_
        refine gf_X8_176 F G hS dX8_count_69 ?_
        exact e_i F hS ⟨Option.some.inj h, rfl, rfl⟩ hr0 dX8_count_72 hk0
      replace h := ifF h hc_0
      by_cases hc_1 : a1 = (1 : Int32)
      · replace h := ifT h hc_1
        refine lv_tableIn (tgt := 73) F.1 F.2.1 dX8_count_31 (by rw [hc_1]; decide) (by rw [hc_1]; decide) (by rw [hc_1]; rfl) (by decide) ?_
        refine lv_aload_n F.1 F.2.1 dX8_count_73 rfl (lv_at hl 0 rfl) ?_
        refine gf_X8_56 F G hS dX8_count_74 ?_
        refine lv_iconst (v := (0 : Int32)) F.1 F.2.1 dX8_count_77 (by decide) ?_
        refine x_zaldL F G hS 75 rfl 0 rfl (by decide) dX8_count_78 ?_
        refine lv_if_eq (tgt := 86) F.1 F.2.1 dX8_count_79 (by decide) (fun hc => ?_) (fun hc => ?_)
        · replace h := ifT h hc
          refine lv_iconst (v := (0 : Int32)) F.1 F.2.1 dX8_count_86 (by decide) ?_
          exact w_87 (0 : Int32) h H locs _ hS (lv_sub hl [0] rfl)
        replace h := ifF h hc
        refine lv_iconst (v := (1 : Int32)) F.1 F.2.1 dX8_count_82 (by decide) ?_
        refine lv_goto (tgt := 87) F.1 F.2.1 dX8_count_83 (by decide) ?_
        exact w_87 (1 : Int32) h H locs _ hS (lv_sub hl [0] rfl)
      replace h := ifF h hc_1
      by_cases hc_2 : a1 = (2 : Int32)
      · replace h := ifT h hc_2
        refine lv_tableIn (tgt := 103) F.1 F.2.1 dX8_count_31 (by rw [hc_2]; decide) (by rw [hc_2]; decide) (by rw [hc_2]; rfl) (by decide) ?_
        refine lv_aload_n F.1 F.2.1 dX8_count_103 rfl (lv_at hl 0 rfl) ?_
        refine gf_X8_75 F G hS dX8_count_104 ?_
        exact e_i F hS ⟨Option.some.inj h, rfl, rfl⟩ hr0 dX8_count_107 hk0
      replace h := ifF h hc_2
      by_cases hc_3 : a1 = (3 : Int32)
      · replace h := ifT h hc_3
        refine lv_tableIn (tgt := 108) F.1 F.2.1 dX8_count_31 (by rw [hc_3]; decide) (by rw [hc_3]; decide) (by rw [hc_3]; rfl) (by decide) ?_
        refine lv_aload_n F.1 F.2.1 dX8_count_108 rfl (lv_at hl 0 rfl) ?_
        refine gf_X8_60 F G hS dX8_count_109 ?_
        refine lv_iconst (v := (0 : Int32)) F.1 F.2.1 dX8_count_112 (by decide) ?_
        refine x_ialdL F G hS 76 rfl 0 rfl (by decide) dX8_count_113 ?_
        refine lv_bipush (v := (-4 : Int32)) F.1 F.2.1 dX8_count_114 (by decide) ?_
        refine lv_icmp_ne (tgt := 124) F.1 F.2.1 dX8_count_116 (by decide) (fun hc => ?_) (fun hc => ?_)
        rotate_left
        · replace h := ifT h hc
          refine lv_bipush (v := (-4 : Int32)) F.1 F.2.1 dX8_count_119 (by decide) ?_
          refine lv_goto (tgt := 130) F.1 F.2.1 dX8_count_121 (by decide) ?_
          exact e_i F hS ⟨Option.some.inj h, rfl, rfl⟩ hr0 dX8_count_130 hk0
        replace h := ifF h hc
        refine lv_aload_n F.1 F.2.1 dX8_count_124 rfl (lv_at hl 0 rfl) ?_
        refine gf_X8_63 F G hS dX8_count_125 ?_
        refine lv_iconst (v := (0 : Int32)) F.1 F.2.1 dX8_count_128 (by decide) ?_
        refine x_ialdL F G hS 77 rfl 0 rfl (by decide) dX8_count_129 ?_
        exact e_i F hS ⟨Option.some.inj h, rfl, rfl⟩ hr0 dX8_count_130 hk0
      replace h := ifF h hc_3
      by_cases hc_4 : a1 = (4 : Int32)
      · replace h := ifT h hc_4
        refine lv_tableIn (tgt := 131) F.1 F.2.1 dX8_count_31 (by rw [hc_4]; decide) (by rw [hc_4]; decide) (by rw [hc_4]; rfl) (by decide) ?_
        refine lv_iload_n F.1 F.2.1 dX8_count_131 rfl (lv_at hl 2 rfl) ?_
        exact e_i F hS ⟨Option.some.inj h, rfl, rfl⟩ hr0 dX8_count_132 hk0
      replace h := ifF h hc_4
      by_cases hc_5 : a1 = (5 : Int32)
      · replace h := ifT h hc_5
        refine lv_tableIn (tgt := 133) F.1 F.2.1 dX8_count_31 (by rw [hc_5]; decide) (by rw [hc_5]; decide) (by rw [hc_5]; rfl) (by decide) ?_
        refine lv_aload_n F.1 F.2.1 dX8_count_133 rfl (lv_at hl 0 rfl) ?_
        refine gf_X8_7 F G hS dX8_count_134 ?_
        refine lv_bipush (v := (11 : Int32)) F.1 F.2.1 dX8_count_137 (by decide) ?_
        refine x_ialdL F G hS 61 rfl 11 rfl (by decide) dX8_count_139 ?_
        obtain ⟨q1, h_q1, h⟩ := bd h
        refine rSi F G hS hl.1 (c_X8_bitsOf l g σ τ (σ 61 11) q1 h_q1) lk_X8_255 ⟨rfl, rfl, Nat.le_of_ble_eq_true rfl, Nat.le_of_ble_eq_true rfl⟩  rfl rfl (Nat.le_of_ble_eq_true rfl) dX8_count_140 (kRi (fun H locs hS => ?_))
        exact e_i F hS ⟨Option.some.inj h, rfl, rfl⟩ hr0 dX8_count_143 hk0
      replace h := ifF h hc_5
      refine lv_tableOut (tgt := 144) F.1 F.2.1 dX8_count_31 (by have h0 := lv_neT (a := 0) hc_0 (by decide); have h1 := lv_neT (a := 1) hc_1 (by decide); have h2 := lv_neT (a := 2) hc_2 (by decide); have h3 := lv_neT (a := 3) hc_3 (by decide); have h4 := lv_neT (a := 4) hc_4 (by decide); have h5 := lv_neT (a := 5) hc_5 (by decide); omega) (by decide) ?_
      refine lv_iconst (v := (-1 : Int32)) F.1 F.2.1 dX8_count_144 (by decide) ?_
      exact e_i F hS ⟨Option.some.inj h, rfl, rfl⟩ hr0 dX8_count_145 hk0
  obtain ⟨locs, hlo⟩ : ∃ z : List Loc, z = [] := ⟨_, rfl⟩
  rw [← hlo] at hS ⊢
  clear hlo
  refine lv_iconst (v := (0 : Int32)) F.1 F.2.1 dX8_count_0 (by decide) ?_
  refine lv_istore_n (lv' := [(2, .int (0 : Int32)), (0, .ref (gA g 60)), (1, .int a1)]) F.1 F.2.1 dX8_count_1 rfl hl (by decide) rfl (fun ls hl => ?_)
  refine lv_iconst (v := (0 : Int32)) F.1 F.2.1 dX8_count_2 (by decide) ?_
  refine lv_istore_n (lv' := [(3, .int (0 : Int32)), (2, .int (0 : Int32)), (0, .ref (gA g 60)), (1, .int a1)]) F.1 F.2.1 dX8_count_3 rfl hl (by decide) rfl (fun ls hl => ?_)
  exact w_4 3000 (0 : Int32) (0 : Int32) h H locs _ hS (lv_sub hl [2, 3, 1, 0] rfl)
