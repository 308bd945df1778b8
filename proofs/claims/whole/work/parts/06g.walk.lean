def f_X8_nights_233 (a1 : Int32) (a2 : Int32) (k_42 : ZI → Int32 → Int32 → Option (ZI)) (σ : ZI) (v3 : Int32) (v4 : Int32) : Option (ZI) := k_42 σ v3 (v4 + (1 : Int32))
def f_X8_nights_204 (a1 : Int32) (a2 : Int32) (k_168 : ZI → Int32 → Int32 → Int32 → Option (ZI)) (σ : ZI) (v3 : Int32) (v4 : Int32) (v5 : Int32) (s0 : Int32) (s1 : Int32) : Option (ZI) := lt_ (va_up σ 60 (upd (σ 60) 36 (s1 ||| s0))) (fun σ12 => k_168 σ12 v3 v4 (v5 + (1 : Int32)))
def f_X8_nights_168 (a1 : Int32) (a2 : Int32) (k_42 : ZI → Int32 → Int32 → Option (ZI)) : Nat → ZI → Int32 → Int32 → Int32 → Option (ZI)
  | 0, _, _, _, _ => none
  | n + 1, σ, v3, v4, v5 => if (σ 60 3) ≤ v5 then (if (σ 61 12) = v4 then (lt_ (va_up σ 60 (upd (σ 60) 38 (1 : Int32))) (fun σ11 => f_X8_nights_233 a1 a2 k_42 σ11 (0 : Int32) v4)) else (f_X8_nights_233 a1 a2 k_42 σ v3 v4)) else (if inB ((2 : Int32) * v5) 6 = true then (if (σ 62 ((2 : Int32) * v5).toNatClampNeg) = v4 then (f_X8_nights_204 a1 a2 (fun σ v3 v4 v5 => f_X8_nights_168 a1 a2 k_42 n σ v3 v4 v5) σ v3 v4 v5 ((1 : Int32) <<< (v5 &&& 31)) (σ 60 36)) else (f_X8_nights_204 a1 a2 (fun σ v3 v4 v5 => f_X8_nights_168 a1 a2 k_42 n σ v3 v4 v5) σ v3 v4 v5 (0 : Int32) (σ 60 36))) else none)
def f_X8_nights_123 (a1 : Int32) (a2 : Int32) (k_42 : ZI → Int32 → Int32 → Option (ZI)) (σ : ZI) (v3 : Int32) (v4 : Int32) : Option (ZI) := if v3 = 0 then (f_X8_nights_233 a1 a2 k_42 σ v3 v4) else (lt_ (va_up σ 60 (upd (σ 60) 39 ((σ 60 39) ||| ((1 : Int32) <<< ((v4 - (1 : Int32)) &&& 31))))) (fun σ9 => lt_ (va_up σ9 60 (upd (σ9 60) 37 ((σ9 60 37) ||| ((σ9 61 11) &&& ((1 : Int32) <<< ((v4 - (1 : Int32)) &&& 31)))))) (fun σ10 => f_X8_nights_168 a1 a2 k_42 3000 σ10 v3 v4 (0 : Int32))))
def f_X8_nights_95 (a1 : Int32) (a2 : Int32) (k_42 : ZI → Int32 → Int32 → Option (ZI)) (σ : ZI) (v3 : Int32) (v4 : Int32) : Option (ZI) := if v3 = 0 then (f_X8_nights_123 a1 a2 k_42 σ v3 v4) else (if (σ 60 33) < ((σ 61 16) + (4 : Int32)) then (f_X8_nights_123 a1 a2 k_42 σ v3 v4) else (lt_ (va_up σ 60 (upd (σ 60) 35 v4)) (fun σ13 => f_X8_nights_123 a1 a2 k_42 σ13 (0 : Int32) v4)))
def f_X8_nights_42 (a1 : Int32) (a2 : Int32)  : Nat → ZI → Int32 → Int32 → Option (ZI)
  | 0, _, _, _ => none
  | n + 1, σ, v3, v4 => if (σ 60 1) < v4 then (some σ) else ((f_X8_counted σ a1 a2 v4).bind (fun q8 => if (q8 60 34) = (-4 : Int32) then (if (q8 60 33) < ((q8 61 15) + (2 : Int32)) then (f_X8_nights_95 a1 a2 (fun σ v3 v4 => f_X8_nights_42 a1 a2 n σ v3 v4) q8 v3 v4) else (lt_ (va_up q8 60 (upd (q8 60) 34 v4)) (fun σ14 => f_X8_nights_123 a1 a2 (fun σ v3 v4 => f_X8_nights_42 a1 a2 n σ v3 v4) σ14 (1 : Int32) v4))) else (f_X8_nights_95 a1 a2 (fun σ v3 v4 => f_X8_nights_42 a1 a2 n σ v3 v4) q8 v3 v4)))
def f_X8_nights (σ : ZI) (a1 : Int32) (a2 : Int32) : Option (ZI) := lt_ (va_up σ 60 (upd (σ 60) 33 (0 : Int32))) (fun σ1 => lt_ (va_up σ1 60 (upd (σ1 60) 34 (-4 : Int32))) (fun σ2 => lt_ (va_up σ2 60 (upd (σ2 60) 35 (-4 : Int32))) (fun σ3 => lt_ (va_up σ3 60 (upd (σ3 60) 36 (0 : Int32))) (fun σ4 => lt_ (va_up σ4 60 (upd (σ4 60) 37 (0 : Int32))) (fun σ5 => lt_ (va_up σ5 60 (upd (σ5 60) 38 (0 : Int32))) (fun σ6 => lt_ (va_up σ6 60 (upd (σ6 60) 39 (0 : Int32))) (fun σ7 => f_X8_nights_42 a1 a2 3000 σ7 (0 : Int32) (1 : Int32))))))))
abbrev rm_X8_nights : Room := { frames := 1, cells := 0, slots := 0, locals := 24 }
set_option maxHeartbeats 4000000 in
set_option maxRecDepth 100000 in
theorem c_X8_nights (l : Launch) (g : GG) (σ : ZI) (τ : ZL) (a1 : Int32) (a2 : Int32) (res : ZI) (h : f_X8_nights σ a1 a2 = some res) : MV l yX8_nights cX8_nights 6 none rm_X8_nights g [.ref (gA g 60), .int a1, .int a2] σ τ (fun (u : ZI × ZL) => u.1 = res ∧ u.2 = τ) := by
  refine Met_in (by decide) (Nat.le_of_ble_eq_true rfl) ?_
  intro p e s m args below meth c F G hP hr0 hk0 ls hl
  have hS := WS.start hP
  have hl : lv_has ls 6 [(0, .ref (gA g 60)), (1, .int a1), (2, .int a2)] := hl
  obtain ⟨H, hH⟩ : ∃ H, H = s.heap := ⟨_, rfl⟩
  rw [← hH] at hS ⊢
  clear hH hP
  rw [f_X8_nights] at h
  have w_233 : ∀ (k_42 : ZI → Int32 → Int32 → Option (ZI)) (hk_42 : ∀ (σ : ZI) (v3 : Int32) (v4 : Int32), k_42 σ v3 v4 = some res → ∀ (H : Heap) (locs : List Loc) (ls : Array Slot), WS g σ τ s H locs → lv_has ls 6 [(0, .ref (gA g 60)), (1, .int a1), (2, .int a2), (3, .int v3), (4, .int v4)] → W p l e rm_X8_nights s m args below meth c H locs 0 0 (MQ below (va_Qv (fun (u : ZI × ZL) => u.1 = res ∧ u.2 = τ) (WQ g) (AA g)) args s 0 0 (AA g)) (F0 m 42 ls [])) (σ : ZI) (v3 : Int32) (v4 : Int32), f_X8_nights_233 a1 a2 k_42 σ v3 v4 = some res → ∀ (H : Heap) (locs : List Loc) (ls : Array Slot), WS g σ τ s H locs → lv_has ls 6 [(0, .ref (gA g 60)), (1, .int a1), (2, .int a2), (3, .int v3), (4, .int v4)] → W p l e rm_X8_nights s m args below meth c H locs 0 0 (MQ below (va_Qv (fun (u : ZI × ZL) => u.1 = res ∧ u.2 = τ) (WQ g) (AA g)) args s 0 0 (AA g)) (F0 m 233 ls []) := by
    intro k_42 hk_42 σ v3 v4 h H locs ls hS hl
    rw [f_X8_nights_233] at h
    refine lv_iinc (v := (v4 + (1 : Int32))) (lv' := [(4, .int (v4 + (1 : Int32))), (0, .ref (gA g 60)), (1, .int a1), (2, .int a2), (3, .int v3)]) F.1 F.2.1 dX8_nights_233 hl (k := 4) rfl rfl (by decide) rfl (fun ls hl => ?_)
    refine lv_goto (tgt := 42) F.1 F.2.1 dX8_nights_236 (by decide) ?_
    exact hk_42 σ v3 (v4 + (1 : Int32)) h H locs _ hS (lv_sub hl [1, 2, 3, 4, 0] rfl)
  have w_204 : ∀ (k_168 : ZI → Int32 → Int32 → Int32 → Option (ZI)) (hk_168 : ∀ (σ : ZI) (v3 : Int32) (v4 : Int32) (v5 : Int32), k_168 σ v3 v4 v5 = some res → ∀ (H : Heap) (locs : List Loc) (ls : Array Slot), WS g σ τ s H locs → lv_has ls 6 [(0, .ref (gA g 60)), (1, .int a1), (2, .int a2), (3, .int v3), (4, .int v4), (5, .int v5)] → W p l e rm_X8_nights s m args below meth c H locs 0 0 (MQ below (va_Qv (fun (u : ZI × ZL) => u.1 = res ∧ u.2 = τ) (WQ g) (AA g)) args s 0 0 (AA g)) (F0 m 168 ls [])) (σ : ZI) (v3 : Int32) (v4 : Int32) (v5 : Int32) (s0 : Int32) (s1 : Int32), f_X8_nights_204 a1 a2 k_168 σ v3 v4 v5 s0 s1 = some res → ∀ (H : Heap) (locs : List Loc) (ls : Array Slot), WS g σ τ s H locs → lv_has ls 6 [(0, .ref (gA g 60)), (1, .int a1), (2, .int a2), (3, .int v3), (4, .int v4), (5, .int v5)] → W p l e rm_X8_nights s m args below meth c H locs 0 0 (MQ below (va_Qv (fun (u : ZI × ZL) => u.1 = res ∧ u.2 = τ) (WQ g) (AA g)) args s 0 0 (AA g)) (F0 m 204 ls [.int s0, .int s1, .ref (gA g 60)]) := by
    intro k_168 hk_168 σ v3 v4 v5 s0 s1 h H locs ls hS hl
    rw [f_X8_nights_204] at h
    refine lv_ior F.1 F.2.1 dX8_nights_204 ?_
    refine pf_X8_222 F G hS dX8_nights_205 (fun H locs hS => ?_)
    obtain ⟨σ12, e_σ12, h⟩ := ltE h
    rw [← e_σ12] at hS
    clear e_σ12
    refine lv_iinc (v := (v5 + (1 : Int32))) (lv' := [(5, .int (v5 + (1 : Int32))), (0, .ref (gA g 60)), (1, .int a1), (2, .int a2), (3, .int v3), (4, .int v4)]) F.1 F.2.1 dX8_nights_208 hl (k := 5) rfl rfl (by decide) rfl (fun ls hl => ?_)
    refine lv_goto (tgt := 168) F.1 F.2.1 dX8_nights_211 (by decide) ?_
    exact hk_168 σ12 v3 v4 (v5 + (1 : Int32)) h H locs _ hS (lv_sub hl [1, 2, 3, 4, 5, 0] rfl)
  have w_168 : ∀ (k_42 : ZI → Int32 → Int32 → Option (ZI)) (hk_42 : ∀ (σ : ZI) (v3 : Int32) (v4 : Int32), k_42 σ v3 v4 = some res → ∀ (H : Heap) (locs : List Loc) (ls : Array Slot), WS g σ τ s H locs → lv_has ls 6 [(0, .ref (gA g 60)), (1, .int a1), (2, .int a2), (3, .int v3), (4, .int v4)] → W p l e rm_X8_nights s m args below meth c H locs 0 0 (MQ below (va_Qv (fun (u : ZI × ZL) => u.1 = res ∧ u.2 = τ) (WQ g) (AA g)) args s 0 0 (AA g)) (F0 m 42 ls [])) (n : Nat) (σ : ZI) (v3 : Int32) (v4 : Int32) (v5 : Int32), f_X8_nights_168 a1 a2 k_42 n σ v3 v4 v5 = some res → ∀ (H : Heap) (locs : List Loc) (ls : Array Slot), WS g σ τ s H locs → lv_has ls 6 [(0, .ref (gA g 60)), (1, .int a1), (2, .int a2), (3, .int v3), (4, .int v4), (5, .int v5)] → W p l e rm_X8_nights s m args below meth c H locs 0 0 (MQ below (va_Qv (fun (u : ZI × ZL) => u.1 = res ∧ u.2 = τ) (WQ g) (AA g)) args s 0 0 (AA g)) (F0 m 168 ls []) := by
    intro k_42 hk_42
    intro n
    induction n with
    | zero => intro σ v3 v4 v5 h; rw [f_X8_nights_168] at h; cases h
    | succ n ih =>
      intro σ v3 v4 v5 h H locs ls hS hl
      rw [f_X8_nights_168] at h
      refine lv_iload F.1 F.2.1 dX8_nights_168 (lv_at hl 5 rfl) ?_
      refine lv_aload_n F.1 F.2.1 dX8_nights_170 rfl (lv_at hl 0 rfl) ?_
      refine gf_X8_167 F G hS dX8_nights_171 ?_
      refine lv_icmp_ge (tgt := 214) F.1 F.2.1 dX8_nights_174 (by decide) (fun hc => ?_) (fun hc => ?_)
      · replace h := ifT h hc
        refine lv_aload_n F.1 F.2.1 dX8_nights_214 rfl (lv_at hl 0 rfl) ?_
        refine gf_X8_7 F G hS dX8_nights_215 ?_
        refine lv_bipush (v := (12 : Int32)) F.1 F.2.1 dX8_nights_218 (by decide) ?_
        refine x_ialdL F G hS 61 rfl 12 rfl (by decide) dX8_nights_220 ?_
        refine lv_iload F.1 F.2.1 dX8_nights_221 (lv_at hl 4 rfl) ?_
        refine lv_icmp_ne (tgt := 233) F.1 F.2.1 dX8_nights_223 (by decide) (fun hc => ?_) (fun hc => ?_)
        · replace h := ifF h hc
          exact w_233 _ hk_42 σ v3 v4 h H locs _ hS (lv_sub hl [0, 1, 2, 3, 4] rfl)
        replace h := ifT h hc
        refine lv_aload_n F.1 F.2.1 dX8_nights_226 rfl (lv_at hl 0 rfl) ?_
        refine lv_iconst (v := (1 : Int32)) F.1 F.2.1 dX8_nights_227 (by decide) ?_
        refine pf_X8_228 F G hS dX8_nights_228 (fun H locs hS => ?_)
        obtain ⟨σ11, e_σ11, h⟩ := ltE h
        rw [← e_σ11] at hS
        clear e_σ11
        refine lv_iconst (v := (0 : Int32)) F.1 F.2.1 dX8_nights_231 (by decide) ?_
        refine lv_istore_n (lv' := [(3, .int (0 : Int32)), (0, .ref (gA g 60)), (1, .int a1), (2, .int a2), (4, .int v4), (5, .int v5)]) F.1 F.2.1 dX8_nights_232 rfl hl (by decide) rfl (fun ls hl => ?_)
        exact w_233 _ hk_42 σ11 (0 : Int32) v4 h H locs _ hS (lv_sub hl [1, 2, 3, 0, 4] rfl)
      replace h := ifF h hc
      refine lv_aload_n F.1 F.2.1 dX8_nights_177 rfl (lv_at hl 0 rfl) ?_
      refine lv_dup F.1 F.2.1 dX8_nights_178 rfl ?_
      refine gf_X8_222 F G hS dX8_nights_179 ?_
      refine lv_aload_n F.1 F.2.1 dX8_nights_182 rfl (lv_at hl 0 rfl) ?_
      refine gf_X8_17 F G hS dX8_nights_183 ?_
      refine lv_iconst (v := (2 : Int32)) F.1 F.2.1 dX8_nights_186 (by decide) ?_
      refine lv_iload F.1 F.2.1 dX8_nights_187 (lv_at hl 5 rfl) ?_
      refine lv_imul F.1 F.2.1 dX8_nights_189 ?_
      obtain ⟨hin, h⟩ := gd h
      refine x_iald F G hS 62 rfl hin dX8_nights_190 ?_
      refine lv_iload F.1 F.2.1 dX8_nights_191 (lv_at hl 4 rfl) ?_
      refine lv_icmp_ne (tgt := 203) F.1 F.2.1 dX8_nights_193 (by decide) (fun hc => ?_) (fun hc => ?_)
      · replace h := ifF h hc
        refine lv_iconst (v := (0 : Int32)) F.1 F.2.1 dX8_nights_203 (by decide) ?_
        exact w_204 _ (fun σ v3 v4 v5 => ih σ v3 v4 v5) σ v3 v4 v5 (0 : Int32) (σ 60 36) h H locs _ hS (lv_sub hl [0, 1, 2, 3, 4, 5] rfl)
      replace h := ifT h hc
      refine lv_iconst (v := (1 : Int32)) F.1 F.2.1 dX8_nights_196 (by decide) ?_
      refine lv_iload F.1 F.2.1 dX8_nights_197 (lv_at hl 5 rfl) ?_
      refine lv_ishl F.1 F.2.1 dX8_nights_199 ?_
      refine lv_goto (tgt := 204) F.1 F.2.1 dX8_nights_200 (by decide) ?_
      exact w_204 _ (fun σ v3 v4 v5 => ih σ v3 v4 v5) σ v3 v4 v5 ((1 : Int32) <<< (v5 &&& 31)) (σ 60 36) h H locs _ hS (lv_sub hl [0, 1, 2, 3, 4, 5] rfl)
  have w_123 : ∀ (k_42 : ZI → Int32 → Int32 → Option (ZI)) (hk_42 : ∀ (σ : ZI) (v3 : Int32) (v4 : Int32), k_42 σ v3 v4 = some res → ∀ (H : Heap) (locs : List Loc) (ls : Array Slot), WS g σ τ s H locs → lv_has ls 6 [(0, .ref (gA g 60)), (1, .int a1), (2, .int a2), (3, .int v3), (4, .int v4)] → W p l e rm_X8_nights s m args below meth c H locs 0 0 (MQ below (va_Qv (fun (u : ZI × ZL) => u.1 = res ∧ u.2 = τ) (WQ g) (AA g)) args s 0 0 (AA g)) (F0 m 42 ls [])) (σ : ZI) (v3 : Int32) (v4 : Int32), f_X8_nights_123 a1 a2 k_42 σ v3 v4 = some res → ∀ (H : Heap) (locs : List Loc) (ls : Array Slot), WS g σ τ s H locs → lv_has ls 6 [(0, .ref (gA g 60)), (1, .int a1), (2, .int a2), (3, .int v3), (4, .int v4)] → W p l e rm_X8_nights s m args below meth c H locs 0 0 (MQ below (va_Qv (fun (u : ZI × ZL) => u.1 = res ∧ u.2 = τ) (WQ g) (AA g)) args s 0 0 (AA g)) (F0 m 123 ls []) := by
    intro k_42 hk_42 σ v3 v4 h H locs ls hS hl
    rw [f_X8_nights_123] at h
    refine lv_iload_n F.1 F.2.1 dX8_nights_123 rfl (lv_at hl 3 rfl) ?_
    refine lv_if_eq (tgt := 233) F.1 F.2.1 dX8_nights_124 (by decide) (fun hc => ?_) (fun hc => ?_)
    · replace h := ifT h hc
      exact w_233 _ hk_42 σ v3 v4 h H locs _ hS (lv_sub hl [0, 1, 2, 3, 4] rfl)
    replace h := ifF h hc
    refine lv_aload_n F.1 F.2.1 dX8_nights_127 rfl (lv_at hl 0 rfl) ?_
    refine lv_dup F.1 F.2.1 dX8_nights_128 rfl ?_
    refine gf_X8_231 F G hS dX8_nights_129 ?_
    refine lv_iconst (v := (1 : Int32)) F.1 F.2.1 dX8_nights_132 (by decide) ?_
    refine lv_iload F.1 F.2.1 dX8_nights_133 (lv_at hl 4 rfl) ?_
    refine lv_iconst (v := (1 : Int32)) F.1 F.2.1 dX8_nights_135 (by decide) ?_
    refine lv_isub F.1 F.2.1 dX8_nights_136 ?_
    refine lv_ishl F.1 F.2.1 dX8_nights_137 ?_
    refine lv_ior F.1 F.2.1 dX8_nights_138 ?_
    refine pf_X8_231 F G hS dX8_nights_139 (fun H locs hS => ?_)
    obtain ⟨σ9, e_σ9, h⟩ := ltE h
    rw [← e_σ9] at hS
    clear e_σ9
    refine lv_aload_n F.1 F.2.1 dX8_nights_142 rfl (lv_at hl 0 rfl) ?_
    refine lv_dup F.1 F.2.1 dX8_nights_143 rfl ?_
    refine gf_X8_225 F G hS dX8_nights_144 ?_
    refine lv_aload_n F.1 F.2.1 dX8_nights_147 rfl (lv_at hl 0 rfl) ?_
    refine gf_X8_7 F G hS dX8_nights_148 ?_
    refine lv_bipush (v := (11 : Int32)) F.1 F.2.1 dX8_nights_151 (by decide) ?_
    refine x_ialdL F G hS 61 rfl 11 rfl (by decide) dX8_nights_153 ?_
    refine lv_iconst (v := (1 : Int32)) F.1 F.2.1 dX8_nights_154 (by decide) ?_
    refine lv_iload F.1 F.2.1 dX8_nights_155 (lv_at hl 4 rfl) ?_
    refine lv_iconst (v := (1 : Int32)) F.1 F.2.1 dX8_nights_157 (by decide) ?_
    refine lv_isub F.1 F.2.1 dX8_nights_158 ?_
    refine lv_ishl F.1 F.2.1 dX8_nights_159 ?_
    refine lv_iand F.1 F.2.1 dX8_nights_160 ?_
    refine lv_ior F.1 F.2.1 dX8_nights_161 ?_
    refine pf_X8_225 F G hS dX8_nights_162 (fun H locs hS => ?_)
    obtain ⟨σ10, e_σ10, h⟩ := ltE h
    rw [← e_σ10] at hS
    clear e_σ10
    refine lv_iconst (v := (0 : Int32)) F.1 F.2.1 dX8_nights_165 (by decide) ?_
    refine lv_istore (lv' := [(5, .int (0 : Int32)), (0, .ref (gA g 60)), (1, .int a1), (2, .int a2), (3, .int v3), (4, .int v4)]) F.1 F.2.1 dX8_nights_166 hl (by decide) rfl (fun ls hl => ?_)
    exact w_168 _ hk_42 3000 σ10 v3 v4 (0 : Int32) h H locs _ hS (lv_sub hl [1, 2, 3, 4, 5, 0] rfl)
  have w_95 : ∀ (k_42 : ZI → Int32 → Int32 → Option (ZI)) (hk_42 : ∀ (σ : ZI) (v3 : Int32) (v4 : Int32), k_42 σ v3 v4 = some res → ∀ (H : Heap) (locs : List Loc) (ls : Array Slot), WS g σ τ s H locs → lv_has ls 6 [(0, .ref (gA g 60)), (1, .int a1), (2, .int a2), (3, .int v3), (4, .int v4)] → W p l e rm_X8_nights s m args below meth c H locs 0 0 (MQ below (va_Qv (fun (u : ZI × ZL) => u.1 = res ∧ u.2 = τ) (WQ g) (AA g)) args s 0 0 (AA g)) (F0 m 42 ls [])) (σ : ZI) (v3 : Int32) (v4 : Int32), f_X8_nights_95 a1 a2 k_42 σ v3 v4 = some res → ∀ (H : Heap) (locs : List Loc) (ls : Array Slot), WS g σ τ s H locs → lv_has ls 6 [(0, .ref (gA g 60)), (1, .int a1), (2, .int a2), (3, .int v3), (4, .int v4)] → W p l e rm_X8_nights s m args below meth c H locs 0 0 (MQ below (va_Qv (fun (u : ZI × ZL) => u.1 = res ∧ u.2 = τ) (WQ g) (AA g)) args s 0 0 (AA g)) (F0 m 95 ls []) := by
    intro k_42 hk_42 σ v3 v4 h H locs ls hS hl
    rw [f_X8_nights_95] at h
    refine lv_iload_n F.1 F.2.1 dX8_nights_95 rfl (lv_at hl 3 rfl) ?_
    refine lv_if_eq (tgt := 123) F.1 F.2.1 dX8_nights_96 (by decide) (fun hc => ?_) (fun hc => ?_)
    · replace h := ifT h hc
      exact w_123 _ hk_42 σ v3 v4 h H locs _ hS (lv_sub hl [0, 1, 2, 3, 4] rfl)
    replace h := ifF h hc
    refine lv_aload_n F.1 F.2.1 dX8_nights_99 rfl (lv_at hl 0 rfl) ?_
    refine gf_X8_213 F G hS dX8_nights_100 ?_
    refine lv_aload_n F.1 F.2.1 dX8_nights_103 rfl (lv_at hl 0 rfl) ?_
    refine gf_X8_7 F G hS dX8_nights_104 ?_
    refine lv_bipush (v := (16 : Int32)) F.1 F.2.1 dX8_nights_107 (by decide) ?_
    refine x_ialdL F G hS 61 rfl 16 rfl (by decide) dX8_nights_109 ?_
    refine lv_iconst (v := (4 : Int32)) F.1 F.2.1 dX8_nights_110 (by decide) ?_
    refine lv_iadd F.1 F.2.1 dX8_nights_111 ?_
    refine lv_icmp_lt (tgt := 123) F.1 F.2.1 dX8_nights_112 (by decide) (fun hc => ?_) (fun hc => ?_)
    · replace h := ifT h hc
      exact w_123 _ hk_42 σ v3 v4 h H locs _ hS (lv_sub hl [0, 1, 2, 3, 4] rfl)
    replace h := ifF h hc
    refine lv_aload_n F.1 F.2.1 dX8_nights_115 rfl (lv_at hl 0 rfl) ?_
    refine lv_iload F.1 F.2.1 dX8_nights_116 (lv_at hl 4 rfl) ?_
    refine pf_X8_219 F G hS dX8_nights_118 (fun H locs hS => ?_)
    obtain ⟨σ13, e_σ13, h⟩ := ltE h
    rw [← e_σ13] at hS
    clear e_σ13
    refine lv_iconst (v := (0 : Int32)) F.1 F.2.1 dX8_nights_121 (by decide) ?_
    refine lv_istore_n (lv' := [(3, .int (0 : Int32)), (0, .ref (gA g 60)), (1, .int a1), (2, .int a2), (4, .int v4)]) F.1 F.2.1 dX8_nights_122 rfl hl (by decide) rfl (fun ls hl => ?_)
    exact w_123 _ hk_42 σ13 (0 : Int32) v4 h H locs _ hS (lv_sub hl [1, 2, 3, 0, 4] rfl)
  have w_42 : ∀ (n : Nat) (σ : ZI) (v3 : Int32) (v4 : Int32), f_X8_nights_42 a1 a2 n σ v3 v4 = some res → ∀ (H : Heap) (locs : List Loc) (ls : Array Slot), WS g σ τ s H locs → lv_has ls 6 [(0, .ref (gA g 60)), (1, .int a1), (2, .int a2), (3, .int v3), (4, .int v4)] → W p l e rm_X8_nights s m args below meth c H locs 0 0 (MQ below (va_Qv (fun (u : ZI × ZL) => u.1 = res ∧ u.2 = τ) (WQ g) (AA g)) args s 0 0 (AA g)) (F0 m 42 ls []) := by
    intro n
    induction n with
    | zero => intro σ v3 v4 h; rw [f_X8_nights_42] at h; cases h
    | succ n ih =>
      intro σ v3 v4 h H locs ls hS hl
      rw [f_X8_nights_42] at h
      refine lv_iload F.1 F.2.1 dX8_nights_42 (lv_at hl 4 rfl) ?_
      refine lv_aload_n F.1 F.2.1 dX8_nights_44 rfl (lv_at hl 0 rfl) ?_
      refine gf_X8_13 F G hS dX8_nights_45 ?_
      refine lv_icmp_gt (tgt := 239) F.1 F.2.1 dX8_nights_48 (by decide) (fun hc => ?_) (fun hc => ?_)
      · replace h := ifT h hc
        exact e_v F hS ⟨Option.some.inj h, rfl⟩ hr0 dX8_nights_239 hk0
      replace h := ifF h hc
      refine lv_aload_n F.1 F.2.1 dX8_nights_51 rfl (lv_at hl 0 rfl) ?_
      refine lv_iload_n F.1 F.2.1 dX8_nights_52 rfl (lv_at hl 1 rfl) ?_
      refine lv_iload_n F.1 F.2.1 dX8_nights_53 rfl (lv_at hl 2 rfl) ?_
      refine lv_iload F.1 F.2.1 dX8_nights_54 (lv_at hl 4 rfl) ?_
      obtain ⟨q8, h_q8, h⟩ := bd h
      refine rVv F G hS hl.1 (c_X8_counted l g σ τ a1 a2 v4 q8 h_q8) lk_X8_234 ⟨rfl, rfl, Nat.le_of_ble_eq_true rfl, Nat.le_of_ble_eq_true rfl⟩ (rc_X8 G hS) rfl rfl (Nat.le_of_ble_eq_true rfl) dX8_nights_56 (kIv (fun H locs hS => ?_))
      refine lv_aload_n F.1 F.2.1 dX8_nights_59 rfl (lv_at hl 0 rfl) ?_
      refine gf_X8_216 F G hS dX8_nights_60 ?_
      refine lv_bipush (v := (-4 : Int32)) F.1 F.2.1 dX8_nights_63 (by decide) ?_
      refine lv_icmp_ne (tgt := 95) F.1 F.2.1 dX8_nights_65 (by decide) (fun hc => ?_) (fun hc => ?_)
      · replace h := ifF h hc
        exact w_95 _ (fun σ v3 v4 => ih σ v3 v4) q8 v3 v4 h H locs _ hS (lv_sub hl [0, 1, 2, 3, 4] rfl)
      replace h := ifT h hc
      refine lv_aload_n F.1 F.2.1 dX8_nights_68 rfl (lv_at hl 0 rfl) ?_
      refine gf_X8_213 F G hS dX8_nights_69 ?_
      refine lv_aload_n F.1 F.2.1 dX8_nights_72 rfl (lv_at hl 0 rfl) ?_
      refine gf_X8_7 F G hS dX8_nights_73 ?_
      refine lv_bipush (v := (15 : Int32)) F.1 F.2.1 dX8_nights_76 (by decide) ?_
      refine x_ialdL F G hS 61 rfl 15 rfl (by decide) dX8_nights_78 ?_
      refine lv_iconst (v := (2 : Int32)) F.1 F.2.1 dX8_nights_79 (by decide) ?_
      refine lv_iadd F.1 F.2.1 dX8_nights_80 ?_
      refine lv_icmp_lt (tgt := 95) F.1 F.2.1 dX8_nights_81 (by decide) (fun hc => ?_) (fun hc => ?_)
      · replace h := ifT h hc
        exact w_95 _ (fun σ v3 v4 => ih σ v3 v4) q8 v3 v4 h H locs _ hS (lv_sub hl [0, 1, 2, 3, 4] rfl)
      replace h := ifF h hc
      refine lv_aload_n F.1 F.2.1 dX8_nights_84 rfl (lv_at hl 0 rfl) ?_
      refine lv_iload F.1 F.2.1 dX8_nights_85 (lv_at hl 4 rfl) ?_
      refine pf_X8_216 F G hS dX8_nights_87 (fun H locs hS => ?_)
      obtain ⟨σ14, e_σ14, h⟩ := ltE h
      rw [← e_σ14] at hS
      clear e_σ14
      refine lv_iconst (v := (1 : Int32)) F.1 F.2.1 dX8_nights_90 (by decide) ?_
      refine lv_istore_n (lv' := [(3, .int (1 : Int32)), (0, .ref (gA g 60)), (1, .int a1), (2, .int a2), (4, .int v4)]) F.1 F.2.1 dX8_nights_91 rfl hl (by decide) rfl (fun ls hl => ?_)
      refine lv_goto (tgt := 123) F.1 F.2.1 dX8_nights_92 (by decide) ?_
      exact w_123 _ (fun σ v3 v4 => ih σ v3 v4) σ14 (1 : Int32) v4 h H locs _ hS (lv_sub hl [1, 2, 3, 0, 4] rfl)
  obtain ⟨locs, hlo⟩ : ∃ z : List Loc, z = [] := ⟨_, rfl⟩
  rw [← hlo] at hS ⊢
  clear hlo
  refine lv_iconst (v := (0 : Int32)) F.1 F.2.1 dX8_nights_0 (by decide) ?_
  refine lv_istore_n (lv' := [(3, .int (0 : Int32)), (0, .ref (gA g 60)), (1, .int a1), (2, .int a2)]) F.1 F.2.1 dX8_nights_1 rfl hl (by decide) rfl (fun ls hl => ?_)
  refine lv_aload_n F.1 F.2.1 dX8_nights_2 rfl (lv_at hl 1 rfl) ?_
  refine lv_iconst (v := (0 : Int32)) F.1 F.2.1 dX8_nights_3 (by decide) ?_
  refine pf_X8_213 F G hS dX8_nights_4 (fun H locs hS => ?_)
  obtain ⟨σ1, e_σ1, h⟩ := ltE h
  rw [← e_σ1] at hS
  clear e_σ1
  refine lv_aload_n F.1 F.2.1 dX8_nights_7 rfl (lv_at hl 1 rfl) ?_
  refine lv_bipush (v := (-4 : Int32)) F.1 F.2.1 dX8_nights_8 (by decide) ?_
  refine pf_X8_216 F G hS dX8_nights_10 (fun H locs hS => ?_)
  obtain ⟨σ2, e_σ2, h⟩ := ltE h
  rw [← e_σ2] at hS
  clear e_σ2
  refine lv_aload_n F.1 F.2.1 dX8_nights_13 rfl (lv_at hl 1 rfl) ?_
  refine lv_bipush (v := (-4 : Int32)) F.1 F.2.1 dX8_nights_14 (by decide) ?_
  refine pf_X8_219 F G hS dX8_nights_16 (fun H locs hS => ?_)
  obtain ⟨σ3, e_σ3, h⟩ := ltE h
  rw [← e_σ3] at hS
  clear e_σ3
  refine lv_aload_n F.1 F.2.1 dX8_nights_19 rfl (lv_at hl 1 rfl) ?_
  refine lv_iconst (v := (0 : Int32)) F.1 F.2.1 dX8_nights_20 (by decide) ?_
  refine pf_X8_222 F G hS dX8_nights_21 (fun H locs hS => ?_)
  obtain ⟨σ4, e_σ4, h⟩ := ltE h
  rw [← e_σ4] at hS
  clear e_σ4
  refine lv_aload_n F.1 F.2.1 dX8_nights_24 rfl (lv_at hl 1 rfl) ?_
  refine lv_iconst (v := (0 : Int32)) F.1 F.2.1 dX8_nights_25 (by decide) ?_
  refine pf_X8_225 F G hS dX8_nights_26 (fun H locs hS => ?_)
  obtain ⟨σ5, e_σ5, h⟩ := ltE h
  rw [← e_σ5] at hS
  clear e_σ5
  refine lv_aload_n F.1 F.2.1 dX8_nights_29 rfl (lv_at hl 1 rfl) ?_
  refine lv_iconst (v := (0 : Int32)) F.1 F.2.1 dX8_nights_30 (by decide) ?_
  refine pf_X8_228 F G hS dX8_nights_31 (fun H locs hS => ?_)
  obtain ⟨σ6, e_σ6, h⟩ := ltE h
  rw [← e_σ6] at hS
  clear e_σ6
  refine lv_aload_n F.1 F.2.1 dX8_nights_34 rfl (lv_at hl 1 rfl) ?_
  refine lv_iconst (v := (0 : Int32)) F.1 F.2.1 dX8_nights_35 (by decide) ?_
  refine pf_X8_231 F G hS dX8_nights_36 (fun H locs hS => ?_)
  obtain ⟨σ7, e_σ7, h⟩ := ltE h
  rw [← e_σ7] at hS
  clear e_σ7
  refine lv_iconst (v := (1 : Int32)) F.1 F.2.1 dX8_nights_39 (by decide) ?_
  refine lv_istore (lv' := [(4, .int (1 : Int32)), (3, .int (0 : Int32)), (0, .ref (gA g 60)), (1, .int a1), (2, .int a2)]) F.1 F.2.1 dX8_nights_40 hl (by decide) rfl (fun ls hl => ?_)
  exact w_42 3000 σ7 (0 : Int32) (1 : Int32) h H locs _ hS (lv_sub hl [2, 3, 4, 1, 0] rfl)
def f_X8_nightTold (σ : ZI) (a1 : Int32) : Option (Int32) := if a1 = 0 then (some (σ 60 34)) else (if a1 = (1 : Int32) then (some (σ 60 35)) else (if a1 = (2 : Int32) then (some (σ 60 36)) else (if a1 = (3 : Int32) then (some (σ 60 37)) else (if a1 = (4 : Int32) then (some (σ 60 38)) else (some (σ 60 33))))))
abbrev rm_X8_nightTold : Room := { frames := 0, cells := 0, slots := 0, locals := 0 }
set_option maxHeartbeats 4000000 in
set_option maxRecDepth 100000 in
theorem c_X8_nightTold (l : Launch) (g : GG) (σ : ZI) (τ : ZL) (a1 : Int32) (res : Int32) (h : f_X8_nightTold σ a1 = some res) : MI l yX8_nightTold cX8_nightTold 2 (some .int) rm_X8_nightTold g [.ref (gA g 60), .int a1] σ τ (fun (r : Int32) (u : ZI × ZL) => r = res ∧ u.1 = σ ∧ u.2 = τ) := by
  refine Met_in (by decide) (Nat.le_of_ble_eq_true rfl) ?_
  intro p e s m args below meth c F G hP hr0 hk0 ls hl
  have hS := WS.start hP
  have hl : lv_has ls 2 [(0, .ref (gA g 60)), (1, .int a1)] := hl
  obtain ⟨H, hH⟩ : ∃ H, H = s.heap := ⟨_, rfl⟩
  rw [← hH] at hS ⊢
  clear hH hP
  rw [f_X8_nightTold] at h
  obtain ⟨locs, hlo⟩ : ∃ z : List Loc, z = [] := ⟨_, rfl⟩
  rw [← hlo] at hS ⊢
  clear hlo
  refine lv_iload_n F.1 F.2.1 dX8_nightTold_0 rfl (lv_at hl 1 rfl) ?_
  refine lv_if_ne (tgt := 11) F.1 F.2.1 dX8_nightTold_1 (by decide) (fun hc => ?_) (fun hc => ?_)
  rotate_left
  · replace h := ifT h hc
    refine lv_aload_n F.1 F.2.1 dX8_nightTold_4 rfl (lv_at hl 0 rfl) ?_
    refine gf_X8_216 F G hS dX8_nightTold_5 ?_
    refine lv_goto (tgt := 63) F.1 F.2.1 dX8_nightTold_8 (by decide) ?_
    exact e_i F hS ⟨Option.some.inj h, rfl, rfl⟩ hr0 dX8_nightTold_63 hk0
  replace h := ifF h hc
  refine lv_iload_n F.1 F.2.1 dX8_nightTold_11 rfl (lv_at hl 1 rfl) ?_
  refine lv_iconst (v := (1 : Int32)) F.1 F.2.1 dX8_nightTold_12 (by decide) ?_
  refine lv_icmp_ne (tgt := 23) F.1 F.2.1 dX8_nightTold_13 (by decide) (fun hc => ?_) (fun hc => ?_)
  rotate_left
  · replace h := ifT h hc
    refine lv_aload_n F.1 F.2.1 dX8_nightTold_16 rfl (lv_at hl 0 rfl) ?_
    refine gf_X8_219 F G hS dX8_nightTold_17 ?_
    refine lv_goto (tgt := 63) F.1 F.2.1 dX8_nightTold_20 (by decide) ?_
    exact e_i F hS ⟨Option.some.inj h, rfl, rfl⟩ hr0 dX8_nightTold_63 hk0
  replace h := ifF h hc
  refine lv_iload_n F.1 F.2.1 dX8_nightTold_23 rfl (lv_at hl 1 rfl) ?_
  refine lv_iconst (v := (2 : Int32)) F.1 F.2.1 dX8_nightTold_24 (by decide) ?_
  refine lv_icmp_ne (tgt := 35) F.1 F.2.1 dX8_nightTold_25 (by decide) (fun hc => ?_) (fun hc => ?_)
  rotate_left
  · replace h := ifT h hc
    refine lv_aload_n F.1 F.2.1 dX8_nightTold_28 rfl (lv_at hl 0 rfl) ?_
    refine gf_X8_222 F G hS dX8_nightTold_29 ?_
    refine lv_goto (tgt := 63) F.1 F.2.1 dX8_nightTold_32 (by decide) ?_
    exact e_i F hS ⟨Option.some.inj h, rfl, rfl⟩ hr0 dX8_nightTold_63 hk0
  replace h := ifF h hc
  refine lv_iload_n F.1 F.2.1 dX8_nightTold_35 rfl (lv_at hl 1 rfl) ?_
  refine lv_iconst (v := (3 : Int32)) F.1 F.2.1 dX8_nightTold_36 (by decide) ?_
  refine lv_icmp_ne (tgt := 47) F.1 F.2.1 dX8_nightTold_37 (by decide) (fun hc => ?_) (fun hc => ?_)
  rotate_left
  · replace h := ifT h hc
    refine lv_aload_n F.1 F.2.1 dX8_nightTold_40 rfl (lv_at hl 0 rfl) ?_
    refine gf_X8_225 F G hS dX8_nightTold_41 ?_
    refine lv_goto (tgt := 63) F.1 F.2.1 dX8_nightTold_44 (by decide) ?_
    exact e_i F hS ⟨Option.some.inj h, rfl, rfl⟩ hr0 dX8_nightTold_63 hk0
  replace h := ifF h hc
  refine lv_iload_n F.1 F.2.1 dX8_nightTold_47 rfl (lv_at hl 1 rfl) ?_
  refine lv_iconst (v := (4 : Int32)) F.1 F.2.1 dX8_nightTold_48 (by decide) ?_
  refine lv_icmp_ne (tgt := 59) F.1 F.2.1 dX8_nightTold_49 (by decide) (fun hc => ?_) (fun hc => ?_)
  · replace h := ifF h hc
    refine lv_aload_n F.1 F.2.1 dX8_nightTold_59 rfl (lv_at hl 0 rfl) ?_
    refine gf_X8_213 F G hS dX8_nightTold_60 ?_
    exact e_i F hS ⟨Option.some.inj h, rfl, rfl⟩ hr0 dX8_nightTold_63 hk0
  replace h := ifT h hc
  refine lv_aload_n F.1 F.2.1 dX8_nightTold_52 rfl (lv_at hl 0 rfl) ?_
  refine gf_X8_228 F G hS dX8_nightTold_53 ?_
  refine lv_goto (tgt := 63) F.1 F.2.1 dX8_nightTold_56 (by decide) ?_
  exact e_i F hS ⟨Option.some.inj h, rfl, rfl⟩ hr0 dX8_nightTold_63 hk0
def f_X8_areSets (σ : ZI) (a1 : Int32) (a2 : Int32) : Option (Int32) := (f_X8_in a1.toInt64 (0 : Int64) ((((1 : Int32) <<< ((σ 60 1) &&& 31)) - (1 : Int32)).toInt64)).bind (fun q1 => if q1 = 0 then (some (0 : Int32)) else ((f_X8_in a2.toInt64 (0 : Int64) ((((1 : Int32) <<< ((σ 60 5) &&& 31)) - (1 : Int32)).toInt64)).bind (fun q2 => if q2 = 0 then (some (0 : Int32)) else (some (1 : Int32)))))
abbrev rm_X8_areSets : Room := { frames := 1, cells := 0, slots := 0, locals := 25 }
set_option maxHeartbeats 4000000 in
set_option maxRecDepth 100000 in
theorem c_X8_areSets (l : Launch) (g : GG) (σ : ZI) (τ : ZL) (a1 : Int32) (a2 : Int32) (res : Int32) (h : f_X8_areSets σ a1 a2 = some res) : MI l yX8_areSets cX8_areSets 3 (some .boolean) rm_X8_areSets g [.ref (gA g 60), .int a1, .int a2] σ τ (fun (r : Int32) (u : ZI × ZL) => r = res ∧ u.1 = σ ∧ u.2 = τ) := by
  refine Met_in (by decide) (Nat.le_of_ble_eq_true rfl) ?_
  intro p e s m args below meth c F G hP hr0 hk0 ls hl
  have hS := WS.start hP
  have hl : lv_has ls 3 [(0, .ref (gA g 60)), (1, .int a1), (2, .int a2)] := hl
  obtain ⟨H, hH⟩ : ∃ H, H = s.heap := ⟨_, rfl⟩
  rw [← hH] at hS ⊢
  clear hH hP
  rw [f_X8_areSets] at h
  obtain ⟨locs, hlo⟩ : ∃ z : List Loc, z = [] := ⟨_, rfl⟩
  rw [← hlo] at hS ⊢
  clear hlo
  refine lv_iload_n F.1 F.2.1 dX8_areSets_0 rfl (lv_at hl 1 rfl) ?_
  refine lv_i2l F.1 F.2.1 dX8_areSets_1 rfl ?_
  refine lv_lconst (v := (0 : Int64)) F.1 F.2.1 dX8_areSets_2 (by decide) ?_
  refine lv_iconst (v := (1 : Int32)) F.1 F.2.1 dX8_areSets_3 (by decide) ?_
  refine lv_aload_n F.1 F.2.1 dX8_areSets_4 rfl (lv_at hl 0 rfl) ?_
  refine gf_X8_13 F G hS dX8_areSets_5 ?_
  refine lv_ishl F.1 F.2.1 dX8_areSets_8 ?_
  refine lv_iconst (v := (1 : Int32)) F.1 F.2.1 dX8_areSets_9 (by decide) ?_
  refine lv_isub F.1 F.2.1 dX8_areSets_10 ?_
  refine lv_i2l F.1 F.2.1 dX8_areSets_11 rfl ?_
  obtain ⟨q1, h_q1, h⟩ := bd h
  refine rSi F G hS hl.1 (c_X8_in l g σ τ a1.toInt64 (0 : Int64) ((((1 : Int32) <<< ((σ 60 1) &&& 31)) - (1 : Int32)).toInt64) q1 h_q1) lk_X8_71 ⟨rfl, rfl, Nat.le_of_ble_eq_true rfl, Nat.le_of_ble_eq_true rfl⟩  rfl rfl (Nat.le_of_ble_eq_true rfl) dX8_areSets_12 (kRi (fun H locs hS => ?_))
  refine lv_if_eq (tgt := 40) F.1 F.2.1 dX8_areSets_15 (by decide) (fun hc => ?_) (fun hc => ?_)
  · replace h := ifT h hc
    refine lv_iconst (v := (0 : Int32)) F.1 F.2.1 dX8_areSets_40 (by decide) ?_
    exact e_z F hS (by decide) ⟨Option.some.inj h, rfl, rfl⟩ hr0 dX8_areSets_41 hk0
  replace h := ifF h hc
  refine lv_iload_n F.1 F.2.1 dX8_areSets_18 rfl (lv_at hl 2 rfl) ?_
  refine lv_i2l F.1 F.2.1 dX8_areSets_19 rfl ?_
  refine lv_lconst (v := (0 : Int64)) F.1 F.2.1 dX8_areSets_20 (by decide) ?_
  refine lv_iconst (v := (1 : Int32)) F.1 F.2.1 dX8_areSets_21 (by decide) ?_
  refine lv_aload_n F.1 F.2.1 dX8_areSets_22 rfl (lv_at hl 0 rfl) ?_
  refine gf_X8_170 F G hS dX8_areSets_23 ?_
  refine lv_ishl F.1 F.2.1 dX8_areSets_26 ?_
  refine lv_iconst (v := (1 : Int32)) F.1 F.2.1 dX8_areSets_27 (by decide) ?_
  refine lv_isub F.1 F.2.1 dX8_areSets_28 ?_
  refine lv_i2l F.1 F.2.1 dX8_areSets_29 rfl ?_
  obtain ⟨q2, h_q2, h⟩ := bd h
  refine rSi F G hS hl.1 (c_X8_in l g σ τ a2.toInt64 (0 : Int64) ((((1 : Int32) <<< ((σ 60 5) &&& 31)) - (1 : Int32)).toInt64) q2 h_q2) lk_X8_71 ⟨rfl, rfl, Nat.le_of_ble_eq_true rfl, Nat.le_of_ble_eq_true rfl⟩  rfl rfl (Nat.le_of_ble_eq_true rfl) dX8_areSets_30 (kRi (fun H locs hS => ?_))
  refine lv_if_eq (tgt := 40) F.1 F.2.1 dX8_areSets_33 (by decide) (fun hc => ?_) (fun hc => ?_)
  · replace h := ifT h hc
    refine lv_iconst (v := (0 : Int32)) F.1 F.2.1 dX8_areSets_40 (by decide) ?_
    exact e_z F hS (by decide) ⟨Option.some.inj h, rfl, rfl⟩ hr0 dX8_areSets_41 hk0
  replace h := ifF h hc
  refine lv_iconst (v := (1 : Int32)) F.1 F.2.1 dX8_areSets_36 (by decide) ?_
  refine lv_goto (tgt := 41) F.1 F.2.1 dX8_areSets_37 (by decide) ?_
  exact e_z F hS (by decide) ⟨Option.some.inj h, rfl, rfl⟩ hr0 dX8_areSets_41 hk0
def f_X8_night (σ : ZI) (a1 : Int32) (a2 : Int32) (a3 : Int32) : Option (Int32 × ZI) := (f_X8_areSets σ a1 a2).bind (fun q1 => if q1 = 0 then (some ((-1 : Int32), σ)) else ((f_X8_in a3.toInt64 (0 : Int64) (5 : Int64)).bind (fun q2 => if q2 = 0 then (some ((-1 : Int32), σ)) else ((f_X8_nights σ a1 a2).bind (fun q3 => (f_X8_nightTold q3 a3).bind (fun q4 => some (q4, q3)))))))
abbrev rm_X8_night : Room := { frames := 2, cells := 0, slots := 0, locals := 49 }
set_option maxHeartbeats 4000000 in
set_option maxRecDepth 100000 in
theorem c_X8_night (l : Launch) (g : GG) (σ : ZI) (τ : ZL) (a1 : Int32) (a2 : Int32) (a3 : Int32) (res : Int32 × ZI) (h : f_X8_night σ a1 a2 a3 = some res) : MI l yX8_night cX8_night 4 (some .int) rm_X8_night g [.ref (gA g 60), .int a1, .int a2, .int a3] σ τ (fun (r : Int32) (u : ZI × ZL) => (r, u.1) = res ∧ u.2 = τ) := by
  refine Met_in (by decide) (Nat.le_of_ble_eq_true rfl) ?_
  intro p e s m args below meth c F G hP hr0 hk0 ls hl
  have hS := WS.start hP
  have hl : lv_has ls 4 [(0, .ref (gA g 60)), (1, .int a1), (2, .int a2), (3, .int a3)] := hl
  obtain ⟨H, hH⟩ : ∃ H, H = s.heap := ⟨_, rfl⟩
  rw [← hH] at hS ⊢
  clear hH hP
  rw [f_X8_night] at h
  obtain ⟨locs, hlo⟩ : ∃ z : List Loc, z = [] := ⟨_, rfl⟩
  rw [← hlo] at hS ⊢
  clear hlo
  refine lv_aload_n F.1 F.2.1 dX8_night_0 rfl (lv_at hl 0 rfl) ?_
  refine lv_iload_n F.1 F.2.1 dX8_night_1 rfl (lv_at hl 1 rfl) ?_
  refine lv_iload_n F.1 F.2.1 dX8_night_2 rfl (lv_at hl 2 rfl) ?_
  obtain ⟨q1, h_q1, h⟩ := bd h
  refine rVi F G hS hl.1 (c_X8_areSets l g σ τ a1 a2 q1 h_q1) lk_X8_238 ⟨rfl, rfl, Nat.le_of_ble_eq_true rfl, Nat.le_of_ble_eq_true rfl⟩ (rc_X8 G hS) rfl rfl (Nat.le_of_ble_eq_true rfl) dX8_night_3 (kRi (fun H locs hS => ?_))
  refine lv_if_eq (tgt := 21) F.1 F.2.1 dX8_night_6 (by decide) (fun hc => ?_) (fun hc => ?_)
  · replace h := ifT h hc
    refine lv_iconst (v := (-1 : Int32)) F.1 F.2.1 dX8_night_21 (by decide) ?_
    exact e_i F hS ⟨Option.some.inj h, rfl⟩ hr0 dX8_night_22 hk0
  replace h := ifF h hc
  refine lv_iload_n F.1 F.2.1 dX8_night_9 rfl (lv_at hl 3 rfl) ?_
  refine lv_i2l F.1 F.2.1 dX8_night_10 rfl ?_
  refine lv_lconst (v := (0 : Int64)) F.1 F.2.1 dX8_night_11 (by decide) ?_
  refine lv_ldc2 (v := (5 : Int64)) F.1 F.2.1 F.2.2.2.1 (F.2.2.2.2 _ tb_1330) dX8_night_12 ?_
  obtain ⟨q2, h_q2, h⟩ := bd h
  refine rSi F G hS hl.1 (c_X8_in l g σ τ a3.toInt64 (0 : Int64) (5 : Int64) q2 h_q2) lk_X8_71 ⟨rfl, rfl, Nat.le_of_ble_eq_true rfl, Nat.le_of_ble_eq_true rfl⟩  rfl rfl (Nat.le_of_ble_eq_true rfl) dX8_night_15 (kRi (fun H locs hS => ?_))
  refine lv_if_ne (tgt := 23) F.1 F.2.1 dX8_night_18 (by decide) (fun hc => ?_) (fun hc => ?_)
  rotate_left
  · replace h := ifT h hc
    refine lv_iconst (v := (-1 : Int32)) F.1 F.2.1 dX8_night_21 (by decide) ?_
    exact e_i F hS ⟨Option.some.inj h, rfl⟩ hr0 dX8_night_22 hk0
  replace h := ifF h hc
  refine lv_aload_n F.1 F.2.1 dX8_night_23 rfl (lv_at hl 0 rfl) ?_
  refine lv_iload_n F.1 F.2.1 dX8_night_24 rfl (lv_at hl 1 rfl) ?_
  refine lv_iload_n F.1 F.2.1 dX8_night_25 rfl (lv_at hl 2 rfl) ?_
  obtain ⟨q3, h_q3, h⟩ := bd h
  refine rVv F G hS hl.1 (c_X8_nights l g σ τ a1 a2 q3 h_q3) lk_X8_244 ⟨rfl, rfl, Nat.le_of_ble_eq_true rfl, Nat.le_of_ble_eq_true rfl⟩ (rc_X8 G hS) rfl rfl (Nat.le_of_ble_eq_true rfl) dX8_night_26 (kIv (fun H locs hS => ?_))
  refine lv_aload_n F.1 F.2.1 dX8_night_29 rfl (lv_at hl 0 rfl) ?_
  refine lv_iload_n F.1 F.2.1 dX8_night_30 rfl (lv_at hl 3 rfl) ?_
  obtain ⟨q4, h_q4, h⟩ := bd h
  refine rVi F G hS hl.1 (c_X8_nightTold l g q3 τ a3 q4 h_q4) lk_X8_248 ⟨rfl, rfl, Nat.le_of_ble_eq_true rfl, Nat.le_of_ble_eq_true rfl⟩ (rc_X8 G hS) rfl rfl (Nat.le_of_ble_eq_true rfl) dX8_night_31 (kRi (fun H locs hS => ?_))
  exact e_i F hS ⟨Option.some.inj h, rfl⟩ hr0 dX8_night_34 hk0
def f_X8_countAt_8 (a1 : Int32) (a2 : Int32) (a3 : Int32)  : Nat → ZI → Int32 → Option (Int32 × ZI)
  | 0, _, _ => none
  | n + 1, σ, v4 => if a3 < v4 then (some ((σ 60 33), σ)) else ((f_X8_counted σ a1 a2 v4).bind (fun q2 => f_X8_countAt_8 a1 a2 a3 n q2 (v4 + (1 : Int32))))
def f_X8_countAt (σ : ZI) (a1 : Int32) (a2 : Int32) (a3 : Int32) : Option (Int32 × ZI) := lt_ (va_up σ 60 (upd (σ 60) 33 (0 : Int32))) (fun σ1 => f_X8_countAt_8 a1 a2 a3 3000 σ1 (1 : Int32))
abbrev rm_X8_countAt : Room := { frames := 1, cells := 0, slots := 0, locals := 24 }
set_option maxHeartbeats 4000000 in
set_option maxRecDepth 100000 in
theorem c_X8_countAt (l : Launch) (g : GG) (σ : ZI) (τ : ZL) (a1 : Int32) (a2 : Int32) (a3 : Int32) (res : Int32 × ZI) (h : f_X8_countAt σ a1 a2 a3 = some res) : MI l yX8_countAt cX8_countAt 5 (some .int) rm_X8_countAt g [.ref (gA g 60), .int a1, .int a2, .int a3] σ τ (fun (r : Int32) (u : ZI × ZL) => (r, u.1) = res ∧ u.2 = τ) := by
  refine Met_in (by decide) (Nat.le_of_ble_eq_true rfl) ?_
  intro p e s m args below meth c F G hP hr0 hk0 ls hl
  have hS := WS.start hP
  have hl : lv_has ls 5 [(0, .ref (gA g 60)), (1, .int a1), (2, .int a2), (3, .int a3)] := hl
  obtain ⟨H, hH⟩ : ∃ H, H = s.heap := ⟨_, rfl⟩
  rw [← hH] at hS ⊢
  clear hH hP
  rw [f_X8_countAt] at h
  have w_8 : ∀ (n : Nat) (σ : ZI) (v4 : Int32), f_X8_countAt_8 a1 a2 a3 n σ v4 = some res → ∀ (H : Heap) (locs : List Loc) (ls : Array Slot), WS g σ τ s H locs → lv_has ls 5 [(0, .ref (gA g 60)), (1, .int a1), (2, .int a2), (3, .int a3), (4, .int v4)] → W p l e rm_X8_countAt s m args below meth c H locs 0 0 (MQ below (va_Qi (fun (r : Int32) (u : ZI × ZL) => (r, u.1) = res ∧ u.2 = τ) (WQ g) (AA g)) args s 0 0 (AA g)) (F0 m 8 ls []) := by
    intro n
    induction n with
    | zero => intro σ v4 h; rw [f_X8_countAt_8] at h; cases h
    | succ n ih =>
      intro σ v4 h H locs ls hS hl
      rw [f_X8_countAt_8] at h
      refine lv_iload F.1 F.2.1 dX8_countAt_8 (lv_at hl 4 rfl) ?_
      refine lv_iload_n F.1 F.2.1 dX8_countAt_10 rfl (lv_at hl 3 rfl) ?_
      refine lv_icmp_gt (tgt := 28) F.1 F.2.1 dX8_countAt_11 (by decide) (fun hc => ?_) (fun hc => ?_)
      · replace h := ifT h hc
        refine lv_aload_n F.1 F.2.1 dX8_countAt_28 rfl (lv_at hl 0 rfl) ?_
        refine gf_X8_213 F G hS dX8_countAt_29 ?_
        exact e_i F hS ⟨Option.some.inj h, rfl⟩ hr0 dX8_countAt_32 hk0
      replace h := ifF h hc
      refine lv_aload_n F.1 F.2.1 dX8_countAt_14 rfl (lv_at hl 0 rfl) ?_
      refine lv_iload_n F.1 F.2.1 dX8_countAt_15 rfl (lv_at hl 1 rfl) ?_
      refine lv_iload_n F.1 F.2.1 dX8_countAt_16 rfl (lv_at hl 2 rfl) ?_
      refine lv_iload F.1 F.2.1 dX8_countAt_17 (lv_at hl 4 rfl) ?_
      obtain ⟨q2, h_q2, h⟩ := bd h
      refine rVv F G hS hl.1 (c_X8_counted l g σ τ a1 a2 v4 q2 h_q2) lk_X8_234 ⟨rfl, rfl, Nat.le_of_ble_eq_true rfl, Nat.le_of_ble_eq_true rfl⟩ (rc_X8 G hS) rfl rfl (Nat.le_of_ble_eq_true rfl) dX8_countAt_19 (kIv (fun H locs hS => ?_))
      refine lv_iinc (v := (v4 + (1 : Int32))) (lv' := [(4, .int (v4 + (1 : Int32))), (0, .ref (gA g 60)), (1, .int a1), (2, .int a2), (3, .int a3)]) F.1 F.2.1 dX8_countAt_22 hl (k := 4) rfl rfl (by decide) rfl (fun ls hl => ?_)
      refine lv_goto (tgt := 8) F.1 F.2.1 dX8_countAt_25 (by decide) ?_
      exact ih q2 (v4 + (1 : Int32)) h H locs _ hS (lv_sub hl [1, 2, 3, 4, 0] rfl)
  obtain ⟨locs, hlo⟩ : ∃ z : List Loc, z = [] := ⟨_, rfl⟩
  rw [← hlo] at hS ⊢
  clear hlo
  refine lv_aload_n F.1 F.2.1 dX8_countAt_0 rfl (lv_at hl 0 rfl) ?_
  refine lv_iconst (v := (0 : Int32)) F.1 F.2.1 dX8_countAt_1 (by decide) ?_
  refine pf_X8_213 F G hS dX8_countAt_2 (fun H locs hS => ?_)
  obtain ⟨σ1, e_σ1, h⟩ := ltE h
  rw [← e_σ1] at hS
  clear e_σ1
  refine lv_iconst (v := (1 : Int32)) F.1 F.2.1 dX8_countAt_5 (by decide) ?_
  refine lv_istore (lv' := [(4, .int (1 : Int32)), (0, .ref (gA g 60)), (1, .int a1), (2, .int a2), (3, .int a3)]) F.1 F.2.1 dX8_countAt_6 hl (by decide) rfl (fun ls hl => ?_)
  exact w_8 3000 σ1 (1 : Int32) h H locs _ hS (lv_sub hl [1, 2, 3, 4, 0] rfl)
def f_X8_counts (σ : ZI) (a1 : Int32) (a2 : Int32) (a3 : Int32) : Option (Int32 × ZI) := (f_X8_areSets σ a1 a2).bind (fun q1 => if q1 = 0 then (some ((-1 : Int32), σ)) else ((f_X8_in a3.toInt64 (0 : Int64) ((σ 60 1).toInt64)).bind (fun q2 => if q2 = 0 then (some ((-1 : Int32), σ)) else ((f_X8_countAt σ a1 a2 a3).bind (fun q3 => some (q3.1, q3.2))))))
abbrev rm_X8_counts : Room := { frames := 2, cells := 0, slots := 0, locals := 48 }
set_option maxHeartbeats 4000000 in
set_option maxRecDepth 100000 in
theorem c_X8_counts (l : Launch) (g : GG) (σ : ZI) (τ : ZL) (a1 : Int32) (a2 : Int32) (a3 : Int32) (res : Int32 × ZI) (h : f_X8_counts σ a1 a2 a3 = some res) : MI l yX8_counts cX8_counts 4 (some .int) rm_X8_counts g [.ref (gA g 60), .int a1, .int a2, .int a3] σ τ (fun (r : Int32) (u : ZI × ZL) => (r, u.1) = res ∧ u.2 = τ) := by
  refine Met_in (by decide) (Nat.le_of_ble_eq_true rfl) ?_
  intro p e s m args below meth c F G hP hr0 hk0 ls hl
  have hS := WS.start hP
  have hl : lv_has ls 4 [(0, .ref (gA g 60)), (1, .int a1), (2, .int a2), (3, .int a3)] := hl
  obtain ⟨H, hH⟩ : ∃ H, H = s.heap := ⟨_, rfl⟩
  rw [← hH] at hS ⊢
  clear hH hP
  rw [f_X8_counts] at h
  obtain ⟨locs, hlo⟩ : ∃ z : List Loc, z = [] := ⟨_, rfl⟩
  rw [← hlo] at hS ⊢
  clear hlo
  refine lv_aload_n F.1 F.2.1 dX8_counts_0 rfl (lv_at hl 0 rfl) ?_
  refine lv_iload_n F.1 F.2.1 dX8_counts_1 rfl (lv_at hl 1 rfl) ?_
  refine lv_iload_n F.1 F.2.1 dX8_counts_2 rfl (lv_at hl 2 rfl) ?_
  obtain ⟨q1, h_q1, h⟩ := bd h
  refine rVi F G hS hl.1 (c_X8_areSets l g σ τ a1 a2 q1 h_q1) lk_X8_238 ⟨rfl, rfl, Nat.le_of_ble_eq_true rfl, Nat.le_of_ble_eq_true rfl⟩ (rc_X8 G hS) rfl rfl (Nat.le_of_ble_eq_true rfl) dX8_counts_3 (kRi (fun H locs hS => ?_))
  refine lv_if_eq (tgt := 33) F.1 F.2.1 dX8_counts_6 (by decide) (fun hc => ?_) (fun hc => ?_)
  · replace h := ifT h hc
    refine lv_iconst (v := (-1 : Int32)) F.1 F.2.1 dX8_counts_33 (by decide) ?_
    exact e_i F hS ⟨Option.some.inj h, rfl⟩ hr0 dX8_counts_34 hk0
  replace h := ifF h hc
  refine lv_iload_n F.1 F.2.1 dX8_counts_9 rfl (lv_at hl 3 rfl) ?_
  refine lv_i2l F.1 F.2.1 dX8_counts_10 rfl ?_
  refine lv_lconst (v := (0 : Int64)) F.1 F.2.1 dX8_counts_11 (by decide) ?_
  refine lv_aload_n F.1 F.2.1 dX8_counts_12 rfl (lv_at hl 0 rfl) ?_
  refine gf_X8_13 F G hS dX8_counts_13 ?_
  refine lv_i2l F.1 F.2.1 dX8_counts_16 rfl ?_
  obtain ⟨q2, h_q2, h⟩ := bd h
  refine rSi F G hS hl.1 (c_X8_in l g σ τ a3.toInt64 (0 : Int64) ((σ 60 1).toInt64) q2 h_q2) lk_X8_71 ⟨rfl, rfl, Nat.le_of_ble_eq_true rfl, Nat.le_of_ble_eq_true rfl⟩  rfl rfl (Nat.le_of_ble_eq_true rfl) dX8_counts_17 (kRi (fun H locs hS => ?_))
  refine lv_if_eq (tgt := 33) F.1 F.2.1 dX8_counts_20 (by decide) (fun hc => ?_) (fun hc => ?_)
  · replace h := ifT h hc
    refine lv_iconst (v := (-1 : Int32)) F.1 F.2.1 dX8_counts_33 (by decide) ?_
    exact e_i F hS ⟨Option.some.inj h, rfl⟩ hr0 dX8_counts_34 hk0
  replace h := ifF h hc
  refine lv_aload_n F.1 F.2.1 dX8_counts_23 rfl (lv_at hl 0 rfl) ?_
  refine lv_iload_n F.1 F.2.1 dX8_counts_24 rfl (lv_at hl 1 rfl) ?_
  refine lv_iload_n F.1 F.2.1 dX8_counts_25 rfl (lv_at hl 2 rfl) ?_
  refine lv_iload_n F.1 F.2.1 dX8_counts_26 rfl (lv_at hl 3 rfl) ?_
  obtain ⟨q3, h_q3, h⟩ := bd h
  refine rVi F G hS hl.1 (c_X8_countAt l g σ τ a1 a2 a3 q3 h_q3) lk_X8_251 ⟨rfl, rfl, Nat.le_of_ble_eq_true rfl, Nat.le_of_ble_eq_true rfl⟩ (rc_X8 G hS) rfl rfl (Nat.le_of_ble_eq_true rfl) dX8_counts_27 (kIi (fun H locs hS => ?_))
  refine lv_goto (tgt := 34) F.1 F.2.1 dX8_counts_30 (by decide) ?_
  exact e_i F hS ⟨Option.some.inj h, rfl⟩ hr0 dX8_counts_34 hk0
def f_X8_bitsOf_4 (a1 : Int32)  : Nat → Int32 → Int32 → Option (Int32)
  | 0, _, _ => none
  | n + 1, v1, v2 => if (10 : Int32) ≤ v2 then (some v1) else (lt_ ((v1 + ((a1 >>> (v2 &&& 31)) &&& (1 : Int32)))) (fun x1 => f_X8_bitsOf_4 a1 n x1 (v2 + (1 : Int32))))
def f_X8_bitsOf (a1 : Int32) : Option (Int32) := f_X8_bitsOf_4 a1 3000 (0 : Int32) (0 : Int32)
abbrev rm_X8_bitsOf : Room := { frames := 0, cells := 0, slots := 0, locals := 0 }
set_option maxHeartbeats 4000000 in
set_option maxRecDepth 100000 in
theorem c_X8_bitsOf (l : Launch) (g : GG) (σ : ZI) (τ : ZL) (a1 : Int32) (res : Int32) (h : f_X8_bitsOf a1 = some res) : MI l yX8_bitsOf cX8_bitsOf 3 (some .int) rm_X8_bitsOf g [.int a1] σ τ (fun (r : Int32) (u : ZI × ZL) => r = res ∧ u.1 = σ ∧ u.2 = τ) := by
  refine Met_in (by decide) (Nat.le_of_ble_eq_true rfl) ?_
  intro p e s m args below meth c F G hP hr0 hk0 ls hl
  have hS := WS.start hP
  have hl : lv_has ls 3 [(0, .int a1)] := hl
  obtain ⟨H, hH⟩ : ∃ H, H = s.heap := ⟨_, rfl⟩
  rw [← hH] at hS ⊢
  clear hH hP
  rw [f_X8_bitsOf] at h
  have w_4 : ∀ (n : Nat) (v1 : Int32) (v2 : Int32), f_X8_bitsOf_4 a1 n v1 v2 = some res → ∀ (H : Heap) (locs : List Loc) (ls : Array Slot), WS g σ τ s H locs → lv_has ls 3 [(0, .int a1), (1, .int v1), (2, .int v2)] → W p l e rm_X8_bitsOf s m args below meth c H locs 0 0 (MQ below (va_Qi (fun (r : Int32) (u : ZI × ZL) => r = res ∧ u.1 = σ ∧ u.2 = τ) (WQ g) (AA g)) args s 0 0 (AA g)) (F0 m 4 ls []) := by
    intro n
    induction n with
    | zero => intro v1 v2 h; rw [f_X8_bitsOf_4] at h; cases h
    | succ n ih =>
      intro v1 v2 h H locs ls hS hl
      rw [f_X8_bitsOf_4] at h
      refine lv_iload_n F.1 F.2.1 dX8_bitsOf_4 rfl (lv_at hl 2 rfl) ?_
      refine lv_bipush (v := (10 : Int32)) F.1 F.2.1 dX8_bitsOf_5 (by decide) ?_
      refine lv_icmp_ge (tgt := 24) F.1 F.2.1 dX8_bitsOf_7 (by decide) (fun hc => ?_) (fun hc => ?_)
      · replace h := ifT h hc
        refine lv_iload_n F.1 F.2.1 dX8_bitsOf_24 rfl (lv_at hl 1 rfl) ?_
        exact e_i F hS ⟨Option.some.inj h, rfl, rfl⟩ hr0 dX8_bitsOf_25 hk0
      replace h := ifF h hc
      refine lv_iload_n F.1 F.2.1 dX8_bitsOf_10 rfl (lv_at hl 1 rfl) ?_
      refine lv_iload_n F.1 F.2.1 dX8_bitsOf_11 rfl (lv_at hl 0 rfl) ?_
      refine lv_iload_n F.1 F.2.1 dX8_bitsOf_12 rfl (lv_at hl 2 rfl) ?_
      refine lv_ishr F.1 F.2.1 dX8_bitsOf_13 ?_
      refine lv_iconst (v := (1 : Int32)) F.1 F.2.1 dX8_bitsOf_14 (by decide) ?_
      refine lv_iand F.1 F.2.1 dX8_bitsOf_15 ?_
      refine lv_iadd F.1 F.2.1 dX8_bitsOf_16 ?_
      obtain ⟨x1, e_x1, h⟩ := ltE h
      refine x_topi e_x1 ?_
      clear e_x1
      refine lv_istore_n (lv' := [(1, .int x1), (0, .int a1), (2, .int v2)]) F.1 F.2.1 dX8_bitsOf_17 rfl hl (by decide) rfl (fun ls hl => ?_)
      refine lv_iinc (v := (v2 + (1 : Int32))) (lv' := [(2, .int (v2 + (1 : Int32))), (1, .int x1), (0, .int a1)]) F.1 F.2.1 dX8_bitsOf_18 hl (k := 2) rfl rfl (by decide) rfl (fun ls hl => ?_)
      refine lv_goto (tgt := 4) F.1 F.2.1 dX8_bitsOf_21 (by decide) ?_
      exact ih x1 (v2 + (1 : Int32)) h H locs _ hS (lv_sub hl [2, 1, 0] rfl)
  obtain ⟨locs, hlo⟩ : ∃ z : List Loc, z = [] := ⟨_, rfl⟩
  rw [← hlo] at hS ⊢
  clear hlo
  refine lv_iconst (v := (0 : Int32)) F.1 F.2.1 dX8_bitsOf_0 (by decide) ?_
  refine lv_istore_n (lv' := [(1, .int (0 : Int32)), (0, .int a1)]) F.1 F.2.1 dX8_bitsOf_1 rfl hl (by decide) rfl (fun ls hl => ?_)
  refine lv_iconst (v := (0 : Int32)) F.1 F.2.1 dX8_bitsOf_2 (by decide) ?_
  refine lv_istore_n (lv' := [(2, .int (0 : Int32)), (1, .int (0 : Int32)), (0, .int a1)]) F.1 F.2.1 dX8_bitsOf_3 rfl hl (by decide) rfl (fun ls hl => ?_)
  exact w_4 3000 (0 : Int32) (0 : Int32) h H locs _ hS (lv_sub hl [2, 1, 0] rfl)
def f_X8_weightOf_98 (σ : ZI) (a1 : Int32) (a2 : Int32) (k_52 : Int64 → Int32 → Option (Int64)) (v5 : Int32) (s0 : Int64) (s1 : Int64) : Option (Int64) := k_52 (s1 * s0) (v5 + (1 : Int32))
def f_X8_weightOf_52 (σ : ZI) (a1 : Int32) (a2 : Int32)  : Nat → Int64 → Int32 → Option (Int64)
  | 0, _, _ => none
  | n + 1, v3, v5 => if (σ 60 5) ≤ v5 then (some v3) else (if ((a2 >>> (v5 &&& 31)) &&& (1 : Int32)) = (1 : Int32) then (if inB ((3 : Int32) + v5) 90 = true then (f_X8_weightOf_98 σ a1 a2 (fun v3 v5 => f_X8_weightOf_52 σ a1 a2 n v3 v5) v5 ((σ 61 ((3 : Int32) + v5).toNatClampNeg).toInt64) v3) else none) else (if inB ((3 : Int32) + v5) 90 = true then (f_X8_weightOf_98 σ a1 a2 (fun v3 v5 => f_X8_weightOf_52 σ a1 a2 n v3 v5) v5 (((10 : Int32) - (σ 61 ((3 : Int32) + v5).toNatClampNeg)).toInt64) v3) else none))
def f_X8_weightOf_41 (σ : ZI) (a1 : Int32) (a2 : Int32) (k_5 : Int64 → Int32 → Option (Int64)) (v5 : Int32) (s0 : Int64) (s1 : Int64) : Option (Int64) := k_5 (s1 * s0) (v5 + (1 : Int32))
def f_X8_weightOf_5 (σ : ZI) (a1 : Int32) (a2 : Int32)  : Nat → Int64 → Int32 → Option (Int64)
  | 0, _, _ => none
  | n + 1, v3, v5 => if (σ 60 1) ≤ v5 then (f_X8_weightOf_52 σ a1 a2 3000 v3 (0 : Int32)) else (if ((a1 >>> (v5 &&& 31)) &&& (1 : Int32)) = (1 : Int32) then ((f_X8_slip σ).bind (fun q2 => f_X8_weightOf_41 σ a1 a2 (fun v3 v5 => f_X8_weightOf_5 σ a1 a2 n v3 v5) v5 q2.toInt64 v3)) else ((f_X8_slip σ).bind (fun q1 => f_X8_weightOf_41 σ a1 a2 (fun v3 v5 => f_X8_weightOf_5 σ a1 a2 n v3 v5) v5 (((10 : Int32) - q1).toInt64) v3)))
def f_X8_weightOf (σ : ZI) (a1 : Int32) (a2 : Int32) : Option (Int64) := f_X8_weightOf_5 σ a1 a2 3000 (1 : Int64) (0 : Int32)
abbrev rm_X8_weightOf : Room := { frames := 1, cells := 0, slots := 0, locals := 20 }
set_option maxHeartbeats 4000000 in
set_option maxRecDepth 100000 in
theorem c_X8_weightOf (l : Launch) (g : GG) (σ : ZI) (τ : ZL) (a1 : Int32) (a2 : Int32) (res : Int64) (h : f_X8_weightOf σ a1 a2 = some res) : ML l yX8_weightOf cX8_weightOf 6 (some .long) rm_X8_weightOf g [.ref (gA g 60), .int a1, .int a2] σ τ (fun (r : Int64) (u : ZI × ZL) => r = res ∧ u.1 = σ ∧ u.2 = τ) := by
  refine Met_in (by decide) (Nat.le_of_ble_eq_true rfl) ?_
  intro p e s m args below meth c F G hP hr0 hk0 ls hl
  have hS := WS.start hP
  have hl : lv_has ls 6 [(0, .ref (gA g 60)), (1, .int a1), (2, .int a2)] := hl
  obtain ⟨H, hH⟩ : ∃ H, H = s.heap := ⟨_, rfl⟩
  rw [← hH] at hS ⊢
  clear hH hP
  rw [f_X8_weightOf] at h
  have w_98 : ∀ (k_52 : Int64 → Int32 → Option (Int64)) (hk_52 : ∀ (v3 : Int64) (v5 : Int32), k_52 v3 v5 = some res → ∀ (H : Heap) (locs : List Loc) (ls : Array Slot), WS g σ τ s H locs → lv_has ls 6 [(0, .ref (gA g 60)), (2, .int a2), (3, .long v3), (5, .int v5)] → W p l e rm_X8_weightOf s m args below meth c H locs 0 0 (MQ below (va_Ql (fun (r : Int64) (u : ZI × ZL) => r = res ∧ u.1 = σ ∧ u.2 = τ) (WQ g) (AA g)) args s 0 0 (AA g)) (F0 m 52 ls [])) (v5 : Int32) (s0 : Int64) (s1 : Int64), f_X8_weightOf_98 σ a1 a2 k_52 v5 s0 s1 = some res → ∀ (H : Heap) (locs : List Loc) (ls : Array Slot), WS g σ τ s H locs → lv_has ls 6 [(0, .ref (gA g 60)), (2, .int a2), (5, .int v5)] → W p l e rm_X8_weightOf s m args below meth c H locs 0 0 (MQ below (va_Ql (fun (r : Int64) (u : ZI × ZL) => r = res ∧ u.1 = σ ∧ u.2 = τ) (WQ g) (AA g)) args s 0 0 (AA g)) (F0 m 98 ls [.long s0, .long s1]) := by
    intro k_52 hk_52 v5 s0 s1 h H locs ls hS hl
    rw [f_X8_weightOf_98] at h
    refine lv_lmul F.1 F.2.1 dX8_weightOf_98 ?_
    refine lv_lstore_n (lv' := [(3, .long (s1 * s0)), (0, .ref (gA g 60)), (2, .int a2), (5, .int v5)]) F.1 F.2.1 dX8_weightOf_99 rfl hl (by decide) rfl (fun ls hl => ?_)
    refine lv_iinc (v := (v5 + (1 : Int32))) (lv' := [(5, .int (v5 + (1 : Int32))), (3, .long (s1 * s0)), (0, .ref (gA g 60)), (2, .int a2)]) F.1 F.2.1 dX8_weightOf_100 hl (k := 3) rfl rfl (by decide) rfl (fun ls hl => ?_)
    refine lv_goto (tgt := 52) F.1 F.2.1 dX8_weightOf_103 (by decide) ?_
    exact hk_52 (s1 * s0) (v5 + (1 : Int32)) h H locs _ hS (lv_sub hl [2, 3, 1, 0] rfl)
  have w_52 : ∀ (n : Nat) (v3 : Int64) (v5 : Int32), f_X8_weightOf_52 σ a1 a2 n v3 v5 = some res → ∀ (H : Heap) (locs : List Loc) (ls : Array Slot), WS g σ τ s H locs → lv_has ls 6 [(0, .ref (gA g 60)), (2, .int a2), (3, .long v3), (5, .int v5)] → W p l e rm_X8_weightOf s m args below meth c H locs 0 0 (MQ below (va_Ql (fun (r : Int64) (u : ZI × ZL) => r = res ∧ u.1 = σ ∧ u.2 = τ) (WQ g) (AA g)) args s 0 0 (AA g)) (F0 m 52 ls []) := by
    intro n
    induction n with
    | zero => intro v3 v5 h; rw [f_X8_weightOf_52] at h; cases h
    | succ n ih =>
      intro v3 v5 h H locs ls hS hl
      rw [f_X8_weightOf_52] at h
      refine lv_iload F.1 F.2.1 dX8_weightOf_52 (lv_at hl 3 rfl) ?_
      refine lv_aload_n F.1 F.2.1 dX8_weightOf_54 rfl (lv_at hl 0 rfl) ?_
      refine gf_X8_170 F G hS dX8_weightOf_55 ?_
      refine lv_icmp_ge (tgt := 106) F.1 F.2.1 dX8_weightOf_58 (by decide) (fun hc => ?_) (fun hc => ?_)
      · replace h := ifT h hc
        refine lv_lload_n F.1 F.2.1 dX8_weightOf_106 rfl (lv_at hl 2 rfl) ?_
        exact e_l F hS ⟨Option.some.inj h, rfl, rfl⟩ hr0 dX8_weightOf_107 hk0
      replace h := ifF h hc
      refine lv_lload_n F.1 F.2.1 dX8_weightOf_61 rfl (lv_at hl 2 rfl) ?_
      refine lv_iload_n F.1 F.2.1 dX8_weightOf_62 rfl (lv_at hl 1 rfl) ?_
      refine lv_iload F.1 F.2.1 dX8_weightOf_63 (lv_at hl 3 rfl) ?_
      refine lv_ishr F.1 F.2.1 dX8_weightOf_65 ?_
      refine lv_iconst (v := (1 : Int32)) F.1 F.2.1 dX8_weightOf_66 (by decide) ?_
      refine lv_iand F.1 F.2.1 dX8_weightOf_67 ?_
      refine lv_iconst (v := (1 : Int32)) F.1 F.2.1 dX8_weightOf_68 (by decide) ?_
      refine lv_icmp_ne (tgt := 85) F.1 F.2.1 dX8_weightOf_69 (by decide) (fun hc => ?_) (fun hc => ?_)
      rotate_left
      · replace h := ifT h hc
        refine lv_aload_n F.1 F.2.1 dX8_weightOf_72 rfl (lv_at hl 0 rfl) ?_
        refine gf_X8_7 F G hS dX8_weightOf_73 ?_
        refine lv_iconst (v := (3 : Int32)) F.1 F.2.1 dX8_weightOf_76 (by decide) ?_
        refine lv_iload F.1 F.2.1 dX8_weightOf_77 (lv_at hl 3 rfl) ?_
        refine lv_iadd F.1 F.2.1 dX8_weightOf_79 ?_
        obtain ⟨hin, h⟩ := gd h
        refine x_iald F G hS 61 rfl hin dX8_weightOf_80 ?_
        refine lv_i2l F.1 F.2.1 dX8_weightOf_81 rfl ?_
        refine lv_goto (tgt := 98) F.1 F.2.1 dX8_weightOf_82 (by decide) ?_
        exact w_98 _ (fun v3 v5 => ih v3 v5) v5 ((σ 61 ((3 : Int32) + v5).toNatClampNeg).toInt64) v3 h H locs _ hS (lv_sub hl [0, 1, 3] rfl)
      replace h := ifF h hc
      refine lv_bipush (v := (10 : Int32)) F.1 F.2.1 dX8_weightOf_85 (by decide) ?_
      refine lv_aload_n F.1 F.2.1 dX8_weightOf_87 rfl (lv_at hl 0 rfl) ?_
      refine gf_X8_7 F G hS dX8_weightOf_88 ?_
      refine lv_iconst (v := (3 : Int32)) F.1 F.2.1 dX8_weightOf_91 (by decide) ?_
      refine lv_iload F.1 F.2.1 dX8_weightOf_92 (lv_at hl 3 rfl) ?_
      refine lv_iadd F.1 F.2.1 dX8_weightOf_94 ?_
      obtain ⟨hin, h⟩ := gd h
      refine x_iald F G hS 61 rfl hin dX8_weightOf_95 ?_
      refine lv_isub F.1 F.2.1 dX8_weightOf_96 ?_
      refine lv_i2l F.1 F.2.1 dX8_weightOf_97 rfl ?_
      exact w_98 _ (fun v3 v5 => ih v3 v5) v5 (((10 : Int32) - (σ 61 ((3 : Int32) + v5).toNatClampNeg)).toInt64) v3 h H locs _ hS (lv_sub hl [0, 1, 3] rfl)
  have w_41 : ∀ (k_5 : Int64 → Int32 → Option (Int64)) (hk_5 : ∀ (v3 : Int64) (v5 : Int32), k_5 v3 v5 = some res → ∀ (H : Heap) (locs : List Loc) (ls : Array Slot), WS g σ τ s H locs → lv_has ls 6 [(0, .ref (gA g 60)), (1, .int a1), (2, .int a2), (3, .long v3), (5, .int v5)] → W p l e rm_X8_weightOf s m args below meth c H locs 0 0 (MQ below (va_Ql (fun (r : Int64) (u : ZI × ZL) => r = res ∧ u.1 = σ ∧ u.2 = τ) (WQ g) (AA g)) args s 0 0 (AA g)) (F0 m 5 ls [])) (v5 : Int32) (s0 : Int64) (s1 : Int64), f_X8_weightOf_41 σ a1 a2 k_5 v5 s0 s1 = some res → ∀ (H : Heap) (locs : List Loc) (ls : Array Slot), WS g σ τ s H locs → lv_has ls 6 [(0, .ref (gA g 60)), (1, .int a1), (2, .int a2), (5, .int v5)] → W p l e rm_X8_weightOf s m args below meth c H locs 0 0 (MQ below (va_Ql (fun (r : Int64) (u : ZI × ZL) => r = res ∧ u.1 = σ ∧ u.2 = τ) (WQ g) (AA g)) args s 0 0 (AA g)) (F0 m 41 ls [.long s0, .long s1]) := by
    intro k_5 hk_5 v5 s0 s1 h H locs ls hS hl
    rw [f_X8_weightOf_41] at h
    refine lv_lmul F.1 F.2.1 dX8_weightOf_41 ?_
    refine lv_lstore_n (lv' := [(3, .long (s1 * s0)), (0, .ref (gA g 60)), (1, .int a1), (2, .int a2), (5, .int v5)]) F.1 F.2.1 dX8_weightOf_42 rfl hl (by decide) rfl (fun ls hl => ?_)
    refine lv_iinc (v := (v5 + (1 : Int32))) (lv' := [(5, .int (v5 + (1 : Int32))), (3, .long (s1 * s0)), (0, .ref (gA g 60)), (1, .int a1), (2, .int a2)]) F.1 F.2.1 dX8_weightOf_43 hl (k := 4) rfl rfl (by decide) rfl (fun ls hl => ?_)
    refine lv_goto (tgt := 5) F.1 F.2.1 dX8_weightOf_46 (by decide) ?_
    exact hk_5 (s1 * s0) (v5 + (1 : Int32)) h H locs _ hS (lv_sub hl [2, 3, 4, 1, 0] rfl)
  have w_5 : ∀ (n : Nat) (v3 : Int64) (v5 : Int32), f_X8_weightOf_5 σ a1 a2 n v3 v5 = some res → ∀ (H : Heap) (locs : List Loc) (ls : Array Slot), WS g σ τ s H locs → lv_has ls 6 [(0, .ref (gA g 60)), (1, .int a1), (2, .int a2), (3, .long v3), (5, .int v5)] → W p l e rm_X8_weightOf s m args below meth c H locs 0 0 (MQ below (va_Ql (fun (r : Int64) (u : ZI × ZL) => r = res ∧ u.1 = σ ∧ u.2 = τ) (WQ g) (AA g)) args s 0 0 (AA g)) (F0 m 5 ls []) := by
    intro n
    induction n with
    | zero => intro v3 v5 h; rw [f_X8_weightOf_5] at h; cases h
    | succ n ih =>
      intro v3 v5 h H locs ls hS hl
      rw [f_X8_weightOf_5] at h
      refine lv_iload F.1 F.2.1 dX8_weightOf_5 (lv_at hl 4 rfl) ?_
      refine lv_aload_n F.1 F.2.1 dX8_weightOf_7 rfl (lv_at hl 0 rfl) ?_
      refine gf_X8_13 F G hS dX8_weightOf_8 ?_
      refine lv_icmp_ge (tgt := 49) F.1 F.2.1 dX8_weightOf_11 (by decide) (fun hc => ?_) (fun hc => ?_)
      · replace h := ifT h hc
        refine lv_iconst (v := (0 : Int32)) F.1 F.2.1 dX8_weightOf_49 (by decide) ?_
        refine lv_istore (lv' := [(5, .int (0 : Int32)), (0, .ref (gA g 60)), (1, .int a1), (2, .int a2), (3, .long v3)]) F.1 F.2.1 dX8_weightOf_50 hl (by decide) rfl (fun ls hl => ?_)
        exact w_52 3000 v3 (0 : Int32) h H locs _ hS (lv_sub hl [1, 3, 4, 0] rfl)
      replace h := ifF h hc
      refine lv_lload_n F.1 F.2.1 dX8_weightOf_14 rfl (lv_at hl 3 rfl) ?_
      refine lv_iload_n F.1 F.2.1 dX8_weightOf_15 rfl (lv_at hl 1 rfl) ?_
      refine lv_iload F.1 F.2.1 dX8_weightOf_16 (lv_at hl 4 rfl) ?_
      refine lv_ishr F.1 F.2.1 dX8_weightOf_18 ?_
      refine lv_iconst (v := (1 : Int32)) F.1 F.2.1 dX8_weightOf_19 (by decide) ?_
      refine lv_iand F.1 F.2.1 dX8_weightOf_20 ?_
      refine lv_iconst (v := (1 : Int32)) F.1 F.2.1 dX8_weightOf_21 (by decide) ?_
      refine lv_icmp_ne (tgt := 33) F.1 F.2.1 dX8_weightOf_22 (by decide) (fun hc => ?_) (fun hc => ?_)
      rotate_left
      · replace h := ifT h hc
        refine lv_aload_n F.1 F.2.1 dX8_weightOf_25 rfl (lv_at hl 0 rfl) ?_
        obtain ⟨q2, h_q2, h⟩ := bd h
        refine rVi F G hS hl.1 (c_X8_slip l g σ τ q2 h_q2) lk_X8_179 ⟨rfl, rfl, Nat.le_of_ble_eq_true rfl, Nat.le_of_ble_eq_true rfl⟩ (rc_X8 G hS) rfl rfl (Nat.le_of_ble_eq_true rfl) dX8_weightOf_26 (kRi (fun H locs hS => ?_))
        refine lv_i2l F.1 F.2.1 dX8_weightOf_29 rfl ?_
        refine lv_goto (tgt := 41) F.1 F.2.1 dX8_weightOf_30 (by decide) ?_
        exact w_41 _ (fun v3 v5 => ih v3 v5) v5 q2.toInt64 v3 h H locs _ hS (lv_sub hl [0, 1, 2, 4] rfl)
      replace h := ifF h hc
      refine lv_bipush (v := (10 : Int32)) F.1 F.2.1 dX8_weightOf_33 (by decide) ?_
      refine lv_aload_n F.1 F.2.1 dX8_weightOf_35 rfl (lv_at hl 0 rfl) ?_
      obtain ⟨q1, h_q1, h⟩ := bd h
      refine rVi F G hS hl.1 (c_X8_slip l g σ τ q1 h_q1) lk_X8_179 ⟨rfl, rfl, Nat.le_of_ble_eq_true rfl, Nat.le_of_ble_eq_true rfl⟩ (rc_X8 G hS) rfl rfl (Nat.le_of_ble_eq_true rfl) dX8_weightOf_36 (kRi (fun H locs hS => ?_))
      refine lv_isub F.1 F.2.1 dX8_weightOf_39 ?_
      refine lv_i2l F.1 F.2.1 dX8_weightOf_40 rfl ?_
      exact w_41 _ (fun v3 v5 => ih v3 v5) v5 (((10 : Int32) - q1).toInt64) v3 h H locs _ hS (lv_sub hl [0, 1, 2, 4] rfl)
  obtain ⟨locs, hlo⟩ : ∃ z : List Loc, z = [] := ⟨_, rfl⟩
  rw [← hlo] at hS ⊢
  clear hlo
  refine lv_lconst (v := (1 : Int64)) F.1 F.2.1 dX8_weightOf_0 (by decide) ?_
  refine lv_lstore_n (lv' := [(3, .long (1 : Int64)), (0, .ref (gA g 60)), (1, .int a1), (2, .int a2)]) F.1 F.2.1 dX8_weightOf_1 rfl hl (by decide) rfl (fun ls hl => ?_)
  refine lv_iconst (v := (0 : Int32)) F.1 F.2.1 dX8_weightOf_2 (by decide) ?_
  refine lv_istore (lv' := [(5, .int (0 : Int32)), (3, .long (1 : Int64)), (0, .ref (gA g 60)), (1, .int a1), (2, .int a2)]) F.1 F.2.1 dX8_weightOf_3 hl (by decide) rfl (fun ls hl => ?_)
  exact w_5 3000 (1 : Int64) (0 : Int32) h H locs _ hS (lv_sub hl [2, 3, 4, 1, 0] rfl)
def f_X8_lowest_52 (a1 : Int64) (a2 : Int64) (a3 : Int32)  (v5 : Int64) (s0 : Int64) : Option (Int64) := if v5 = 0 then none else (some (s0 / v5))
def f_X8_lowest_17 (a1 : Int64) (a2 : Int64) (a3 : Int32)  : Nat → Int64 → Int64 → Option (Int64)
  | 0, _, _ => none
  | n + 1, v5, v7 => if (lg_cmp v7 (0 : Int64)) = 0 then (if a3 = 0 then (f_X8_lowest_52 a1 a2 a3 v5 a1) else (f_X8_lowest_52 a1 a2 a3 v5 a2)) else (if v7 = 0 then none else (f_X8_lowest_17 a1 a2 a3 n v7 (v5 - v5 / v7 * v7)))
def f_X8_lowest_12 (a1 : Int64) (a2 : Int64) (a3 : Int32)  (s0 : Int64) : Option (Int64) := f_X8_lowest_17 a1 a2 a3 3000 s0 a2
def f_X8_lowest (a1 : Int64) (a2 : Int64) (a3 : Int32) : Option (Int64) := if 0 ≤ (lg_cmp a1 (0 : Int64)) then (f_X8_lowest_12 a1 a2 a3 a1) else (f_X8_lowest_12 a1 a2 a3 (-a1))
abbrev rm_X8_lowest : Room := { frames := 0, cells := 0, slots := 0, locals := 0 }
set_option maxHeartbeats 4000000 in
set_option maxRecDepth 100000 in
theorem c_X8_lowest (l : Launch) (g : GG) (σ : ZI) (τ : ZL) (a1 : Int64) (a2 : Int64) (a3 : Int32) (res : Int64) (h : f_X8_lowest a1 a2 a3 = some res) : ML l yX8_lowest cX8_lowest 11 (some .long) rm_X8_lowest g [.long a1, .long a2, .int a3] σ τ (fun (r : Int64) (u : ZI × ZL) => r = res ∧ u.1 = σ ∧ u.2 = τ) := by
  refine Met_in (by decide) (Nat.le_of_ble_eq_true rfl) ?_
  intro p e s m args below meth c F G hP hr0 hk0 ls hl
  have hS := WS.start hP
  have hl : lv_has ls 11 [(0, .long a1), (2, .long a2), (4, .int a3)] := hl
  obtain ⟨H, hH⟩ : ∃ H, H = s.heap := ⟨_, rfl⟩
  rw [← hH] at hS ⊢
  clear hH hP
  rw [f_X8_lowest] at h
  have w_52 : ∀ (v5 : Int64) (s0 : Int64), f_X8_lowest_52 a1 a2 a3 v5 s0 = some res → ∀ (H : Heap) (locs : List Loc) (ls : Array Slot), WS g σ τ s H locs → lv_has ls 11 [(5, .long v5)] → W p l e rm_X8_lowest s m args below meth c H locs 0 0 (MQ below (va_Ql (fun (r : Int64) (u : ZI × ZL) => r = res ∧ u.1 = σ ∧ u.2 = τ) (WQ g) (AA g)) args s 0 0 (AA g)) (F0 m 52 ls [.long s0]) := by
    intro  v5 s0 h H locs ls hS hl
    rw [f_X8_lowest_52] at h
    refine lv_lload F.1 F.2.1 dX8_lowest_52 (lv_at hl 0 rfl) ?_
    obtain ⟨hz, h⟩ := gn h
    refine lv_ldiv F.1 F.2.1 dX8_lowest_54 hz ?_
    exact e_l F hS ⟨Option.some.inj h, rfl, rfl⟩ hr0 dX8_lowest_55 hk0
  have w_17 : ∀ (n : Nat) (v5 : Int64) (v7 : Int64), f_X8_lowest_17 a1 a2 a3 n v5 v7 = some res → ∀ (H : Heap) (locs : List Loc) (ls : Array Slot), WS g σ τ s H locs → lv_has ls 11 [(0, .long a1), (2, .long a2), (4, .int a3), (5, .long v5), (7, .long v7)] → W p l e rm_X8_lowest s m args below meth c H locs 0 0 (MQ below (va_Ql (fun (r : Int64) (u : ZI × ZL) => r = res ∧ u.1 = σ ∧ u.2 = τ) (WQ g) (AA g)) args s 0 0 (AA g)) (F0 m 17 ls []) := by
    intro n
    induction n with
    | zero => intro v5 v7 h; rw [f_X8_lowest_17] at h; cases h
    | succ n ih =>
      intro v5 v7 h H locs ls hS hl
      rw [f_X8_lowest_17] at h
      refine lv_lload F.1 F.2.1 dX8_lowest_17 (lv_at hl 4 rfl) ?_
      refine lv_lconst (v := (0 : Int64)) F.1 F.2.1 dX8_lowest_19 (by decide) ?_
      refine W.lcmp F.1 F.2.1 dX8_lowest_20 ?_
      refine lv_if_eq (tgt := 42) F.1 F.2.1 dX8_lowest_21 (by decide) (fun hc => ?_) (fun hc => ?_)
      · replace h := ifT h hc
        refine lv_iload F.1 F.2.1 dX8_lowest_42 (lv_at hl 2 rfl) ?_
        refine lv_if_ne (tgt := 51) F.1 F.2.1 dX8_lowest_44 (by decide) (fun hc => ?_) (fun hc => ?_)
        · replace h := ifF h hc
          refine lv_lload_n F.1 F.2.1 dX8_lowest_51 rfl (lv_at hl 1 rfl) ?_
          exact w_52 v5 a2 h H locs _ hS (lv_sub hl [3] rfl)
        replace h := ifT h hc
        refine lv_lload_n F.1 F.2.1 dX8_lowest_47 rfl (lv_at hl 0 rfl) ?_
        refine lv_goto (tgt := 52) F.1 F.2.1 dX8_lowest_48 (by decide) ?_
        exact w_52 v5 a1 h H locs _ hS (lv_sub hl [3] rfl)
      replace h := ifF h hc
      refine lv_lload F.1 F.2.1 dX8_lowest_24 (lv_at hl 3 rfl) ?_
      refine lv_lload F.1 F.2.1 dX8_lowest_26 (lv_at hl 4 rfl) ?_
      obtain ⟨hz, h⟩ := gn h
      refine lv_lrem F.1 F.2.1 dX8_lowest_28 hz ?_
      refine lv_lstore (lv' := [(9, .long (v5 - v5 / v7 * v7)), (0, .long a1), (2, .long a2), (4, .int a3), (5, .long v5), (7, .long v7)]) F.1 F.2.1 dX8_lowest_29 hl (by decide) rfl (fun ls hl => ?_)
      refine lv_lload F.1 F.2.1 dX8_lowest_31 (lv_at hl 5 rfl) ?_
      refine lv_lstore (lv' := [(5, .long v7), (9, .long (v5 - v5 / v7 * v7)), (0, .long a1), (2, .long a2), (4, .int a3), (7, .long v7)]) F.1 F.2.1 dX8_lowest_33 hl (by decide) rfl (fun ls hl => ?_)
      refine lv_lload F.1 F.2.1 dX8_lowest_35 (lv_at hl 1 rfl) ?_
      refine lv_lstore (lv' := [(7, .long (v5 - v5 / v7 * v7)), (5, .long v7), (9, .long (v5 - v5 / v7 * v7)), (0, .long a1), (2, .long a2), (4, .int a3)]) F.1 F.2.1 dX8_lowest_37 hl (by decide) rfl (fun ls hl => ?_)
      refine lv_goto (tgt := 17) F.1 F.2.1 dX8_lowest_39 (by decide) ?_
      exact ih v7 (v5 - v5 / v7 * v7) h H locs _ hS (lv_sub hl [3, 4, 5, 1, 0] rfl)
  have w_12 : ∀ (s0 : Int64), f_X8_lowest_12 a1 a2 a3 s0 = some res → ∀ (H : Heap) (locs : List Loc) (ls : Array Slot), WS g σ τ s H locs → lv_has ls 11 [(0, .long a1), (2, .long a2), (4, .int a3)] → W p l e rm_X8_lowest s m args below meth c H locs 0 0 (MQ below (va_Ql (fun (r : Int64) (u : ZI × ZL) => r = res ∧ u.1 = σ ∧ u.2 = τ) (WQ g) (AA g)) args s 0 0 (AA g)) (F0 m 12 ls [.long s0]) := by
    intro  s0 h H locs ls hS hl
    rw [f_X8_lowest_12] at h
    refine lv_lstore (lv' := [(5, .long s0), (0, .long a1), (2, .long a2), (4, .int a3)]) F.1 F.2.1 dX8_lowest_12 hl (by decide) rfl (fun ls hl => ?_)
    refine lv_lload_n F.1 F.2.1 dX8_lowest_14 rfl (lv_at hl 2 rfl) ?_
    refine lv_lstore (lv' := [(7, .long a2), (5, .long s0), (0, .long a1), (2, .long a2), (4, .int a3)]) F.1 F.2.1 dX8_lowest_15 hl (by decide) rfl (fun ls hl => ?_)
    exact w_17 3000 s0 a2 h H locs _ hS (lv_sub hl [2, 3, 4, 1, 0] rfl)
  obtain ⟨locs, hlo⟩ : ∃ z : List Loc, z = [] := ⟨_, rfl⟩
  rw [← hlo] at hS ⊢
  clear hlo
  refine lv_lload_n F.1 F.2.1 dX8_lowest_0 rfl (lv_at hl 0 rfl) ?_
  refine lv_lconst (v := (0 : Int64)) F.1 F.2.1 dX8_lowest_1 (by decide) ?_
  refine W.lcmp F.1 F.2.1 dX8_lowest_2 ?_
  refine lv_if_ge (tgt := 11) F.1 F.2.1 dX8_lowest_3 (by decide) (fun hc => ?_) (fun hc => ?_)
  · replace h := ifT h hc
    refine lv_lload_n F.1 F.2.1 dX8_lowest_11 rfl (lv_at hl 0 rfl) ?_
    exact w_12 a1 h H locs _ hS (lv_sub hl [0, 1, 2] rfl)
  replace h := ifF h hc
  refine lv_lload_n F.1 F.2.1 dX8_lowest_6 rfl (lv_at hl 0 rfl) ?_
  refine lv_lneg F.1 F.2.1 dX8_lowest_7 ?_
  refine lv_goto (tgt := 12) F.1 F.2.1 dX8_lowest_8 (by decide) ?_
  exact w_12 (-a1) h H locs _ hS (lv_sub hl [0, 1, 2] rfl)
def f_X8_worthNow_76 (σ : ZI) (k_35 : Int32 → Int32 → Option (Int32)) (v2 : Int32) (s0 : Int32) (s1 : Int32) : Option (Int32) := k_35 (s1 + s0) (v2 + (1 : Int32))
def f_X8_worthNow_35 (σ : ZI)  : Nat → Int32 → Int32 → Option (Int32)
  | 0, _, _ => none
  | n + 1, v1, v2 => if (σ 60 3) ≤ v2 then (some v1) else (if (((σ 60 36) >>> (v2 &&& 31)) &&& (1 : Int32)) = (1 : Int32) then (if inB (((2 : Int32) * v2) + (1 : Int32)) 6 = true then ((f_X8_holdsOf σ v2).bind (fun q3 => f_X8_worthNow_76 σ (fun v1 v2 => f_X8_worthNow_35 σ n v1 v2) v2 ((σ 62 (((2 : Int32) * v2) + (1 : Int32)).toNatClampNeg) * q3) v1)) else none) else (f_X8_worthNow_76 σ (fun v1 v2 => f_X8_worthNow_35 σ n v1 v2) v2 (0 : Int32) v1))
def f_X8_worthNow (σ : ZI) : Option (Int32) := (f_X8_bitsOf (σ 60 37)).bind (fun q1 => lt_ (((((-10 : Int32) * (σ 65 0)) * q1) - (((10 : Int32) * (σ 65 1)) * (σ 60 38)))) (fun x2 => f_X8_worthNow_35 σ 3000 x2 (0 : Int32)))
abbrev rm_X8_worthNow : Room := { frames := 2, cells := 0, slots := 0, locals := 43 }
set_option maxHeartbeats 4000000 in
set_option maxRecDepth 100000 in
theorem c_X8_worthNow (l : Launch) (g : GG) (σ : ZI) (τ : ZL)  (res : Int32) (h : f_X8_worthNow σ = some res) : MI l yX8_worthNow cX8_worthNow 3 (some .int) rm_X8_worthNow g [.ref (gA g 60)] σ τ (fun (r : Int32) (u : ZI × ZL) => r = res ∧ u.1 = σ ∧ u.2 = τ) := by
  refine Met_in (by decide) (Nat.le_of_ble_eq_true rfl) ?_
  intro p e s m args below meth c F G hP hr0 hk0 ls hl
  have hS := WS.start hP
  have hl : lv_has ls 3 [(0, .ref (gA g 60))] := hl
  obtain ⟨H, hH⟩ : ∃ H, H = s.heap := ⟨_, rfl⟩
  rw [← hH] at hS ⊢
  clear hH hP
  rw [f_X8_worthNow] at h
  have w_76 : ∀ (k_35 : Int32 → Int32 → Option (Int32)) (hk_35 : ∀ (v1 : Int32) (v2 : Int32), k_35 v1 v2 = some res → ∀ (H : Heap) (locs : List Loc) (ls : Array Slot), WS g σ τ s H locs → lv_has ls 3 [(0, .ref (gA g 60)), (1, .int v1), (2, .int v2)] → W p l e rm_X8_worthNow s m args below meth c H locs 0 0 (MQ below (va_Qi (fun (r : Int32) (u : ZI × ZL) => r = res ∧ u.1 = σ ∧ u.2 = τ) (WQ g) (AA g)) args s 0 0 (AA g)) (F0 m 35 ls [])) (v2 : Int32) (s0 : Int32) (s1 : Int32), f_X8_worthNow_76 σ k_35 v2 s0 s1 = some res → ∀ (H : Heap) (locs : List Loc) (ls : Array Slot), WS g σ τ s H locs → lv_has ls 3 [(0, .ref (gA g 60)), (2, .int v2)] → W p l e rm_X8_worthNow s m args below meth c H locs 0 0 (MQ below (va_Qi (fun (r : Int32) (u : ZI × ZL) => r = res ∧ u.1 = σ ∧ u.2 = τ) (WQ g) (AA g)) args s 0 0 (AA g)) (F0 m 76 ls [.int s0, .int s1]) := by
    intro k_35 hk_35 v2 s0 s1 h H locs ls hS hl
    rw [f_X8_worthNow_76] at h
    refine lv_iadd F.1 F.2.1 dX8_worthNow_76 ?_
    refine lv_istore_n (lv' := [(1, .int (s1 + s0)), (0, .ref (gA g 60)), (2, .int v2)]) F.1 F.2.1 dX8_worthNow_77 rfl hl (by decide) rfl (fun ls hl => ?_)
    refine lv_iinc (v := (v2 + (1 : Int32))) (lv' := [(2, .int (v2 + (1 : Int32))), (1, .int (s1 + s0)), (0, .ref (gA g 60))]) F.1 F.2.1 dX8_worthNow_78 hl (k := 2) rfl rfl (by decide) rfl (fun ls hl => ?_)
    refine lv_goto (tgt := 35) F.1 F.2.1 dX8_worthNow_81 (by decide) ?_
    exact hk_35 (s1 + s0) (v2 + (1 : Int32)) h H locs _ hS (lv_sub hl [2, 1, 0] rfl)
  have w_35 : ∀ (n : Nat) (v1 : Int32) (v2 : Int32), f_X8_worthNow_35 σ n v1 v2 = some res → ∀ (H : Heap) (locs : List Loc) (ls : Array Slot), WS g σ τ s H locs → lv_has ls 3 [(0, .ref (gA g 60)), (1, .int v1), (2, .int v2)] → W p l e rm_X8_worthNow s m args below meth c H locs 0 0 (MQ below (va_Qi (fun (r : Int32) (u : ZI × ZL) => r = res ∧ u.1 = σ ∧ u.2 = τ) (WQ g) (AA g)) args s 0 0 (AA g)) (F0 m 35 ls []) := by
    intro n
    induction n with
    | zero => intro v1 v2 h; rw [f_X8_worthNow_35] at h; cases h
    | succ n ih =>
      intro v1 v2 h H locs ls hS hl
      rw [f_X8_worthNow_35] at h
      refine lv_iload_n F.1 F.2.1 dX8_worthNow_35 rfl (lv_at hl 2 rfl) ?_
      refine lv_aload_n F.1 F.2.1 dX8_worthNow_36 rfl (lv_at hl 0 rfl) ?_
      refine gf_X8_167 F G hS dX8_worthNow_37 ?_
      refine lv_icmp_ge (tgt := 84) F.1 F.2.1 dX8_worthNow_40 (by decide) (fun hc => ?_) (fun hc => ?_)
      · replace h := ifT h hc
        refine lv_iload_n F.1 F.2.1 dX8_worthNow_84 rfl (lv_at hl 1 rfl) ?_
        exact e_i F hS ⟨Option.some.inj h, rfl, rfl⟩ hr0 dX8_worthNow_85 hk0
      replace h := ifF h hc
      refine lv_iload_n F.1 F.2.1 dX8_worthNow_43 rfl (lv_at hl 1 rfl) ?_
      refine lv_aload_n F.1 F.2.1 dX8_worthNow_44 rfl (lv_at hl 0 rfl) ?_
      refine gf_X8_222 F G hS dX8_worthNow_45 ?_
      refine lv_iload_n F.1 F.2.1 dX8_worthNow_48 rfl (lv_at hl 2 rfl) ?_
      refine lv_ishr F.1 F.2.1 dX8_worthNow_49 ?_
      refine lv_iconst (v := (1 : Int32)) F.1 F.2.1 dX8_worthNow_50 (by decide) ?_
      refine lv_iand F.1 F.2.1 dX8_worthNow_51 ?_
      refine lv_iconst (v := (1 : Int32)) F.1 F.2.1 dX8_worthNow_52 (by decide) ?_
      refine lv_icmp_ne (tgt := 75) F.1 F.2.1 dX8_worthNow_53 (by decide) (fun hc => ?_) (fun hc => ?_)
      · replace h := ifF h hc
        refine lv_iconst (v := (0 : Int32)) F.1 F.2.1 dX8_worthNow_75 (by decide) ?_
        exact w_76 _ (fun v1 v2 => ih v1 v2) v2 (0 : Int32) v1 h H locs _ hS (lv_sub hl [0, 2] rfl)
      replace h := ifT h hc
      refine lv_aload_n F.1 F.2.1 dX8_worthNow_56 rfl (lv_at hl 0 rfl) ?_
      refine gf_X8_17 F G hS dX8_worthNow_57 ?_
      refine lv_iconst (v := (2 : Int32)) F.1 F.2.1 dX8_worthNow_60 (by decide) ?_
      refine lv_iload_n F.1 F.2.1 dX8_worthNow_61 rfl (lv_at hl 2 rfl) ?_
      refine lv_imul F.1 F.2.1 dX8_worthNow_62 ?_
      refine lv_iconst (v := (1 : Int32)) F.1 F.2.1 dX8_worthNow_63 (by decide) ?_
      refine lv_iadd F.1 F.2.1 dX8_worthNow_64 ?_
      obtain ⟨hin, h⟩ := gd h
      refine x_iald F G hS 62 rfl hin dX8_worthNow_65 ?_
      refine lv_aload_n F.1 F.2.1 dX8_worthNow_66 rfl (lv_at hl 0 rfl) ?_
      refine lv_iload_n F.1 F.2.1 dX8_worthNow_67 rfl (lv_at hl 2 rfl) ?_
      obtain ⟨q3, h_q3, h⟩ := bd h
      refine rVi F G hS hl.1 (c_X8_holdsOf l g σ τ v2 q3 h_q3) lk_X8_192 ⟨rfl, rfl, Nat.le_of_ble_eq_true rfl, Nat.le_of_ble_eq_true rfl⟩ (rc_X8 G hS) rfl rfl (Nat.le_of_ble_eq_true rfl) dX8_worthNow_68 (kRi (fun H locs hS => ?_))
      refine lv_imul F.1 F.2.1 dX8_worthNow_71 ?_
      refine lv_goto (tgt := 76) F.1 F.2.1 dX8_worthNow_72 (by decide) ?_
      exact w_76 _ (fun v1 v2 => ih v1 v2) v2 ((σ 62 (((2 : Int32) * v2) + (1 : Int32)).toNatClampNeg) * q3) v1 h H locs _ hS (lv_sub hl [0, 2] rfl)
  obtain ⟨locs, hlo⟩ : ∃ z : List Loc, z = [] := ⟨_, rfl⟩
  rw [← hlo] at hS ⊢
  clear hlo
  refine lv_bipush (v := (-10 : Int32)) F.1 F.2.1 dX8_worthNow_0 (by decide) ?_
  refine lv_aload_n F.1 F.2.1 dX8_worthNow_2 rfl (lv_at hl 0 rfl) ?_
  refine gf_X8_26 F G hS dX8_worthNow_3 ?_
  refine lv_iconst (v := (0 : Int32)) F.1 F.2.1 dX8_worthNow_6 (by decide) ?_
  refine x_ialdL F G hS 65 rfl 0 rfl (by decide) dX8_worthNow_7 ?_
  refine lv_imul F.1 F.2.1 dX8_worthNow_8 ?_
  refine lv_aload_n F.1 F.2.1 dX8_worthNow_9 rfl (lv_at hl 0 rfl) ?_
  refine gf_X8_225 F G hS dX8_worthNow_10 ?_
  obtain ⟨q1, h_q1, h⟩ := bd h
  refine rSi F G hS hl.1 (c_X8_bitsOf l g σ τ (σ 60 37) q1 h_q1) lk_X8_255 ⟨rfl, rfl, Nat.le_of_ble_eq_true rfl, Nat.le_of_ble_eq_true rfl⟩  rfl rfl (Nat.le_of_ble_eq_true rfl) dX8_worthNow_13 (kRi (fun H locs hS => ?_))
  refine lv_imul F.1 F.2.1 dX8_worthNow_16 ?_
  refine lv_bipush (v := (10 : Int32)) F.1 F.2.1 dX8_worthNow_17 (by decide) ?_
  refine lv_aload_n F.1 F.2.1 dX8_worthNow_19 rfl (lv_at hl 0 rfl) ?_
  refine gf_X8_26 F G hS dX8_worthNow_20 ?_
  refine lv_iconst (v := (1 : Int32)) F.1 F.2.1 dX8_worthNow_23 (by decide) ?_
  refine x_ialdL F G hS 65 rfl 1 rfl (by decide) dX8_worthNow_24 ?_
  refine lv_imul F.1 F.2.1 dX8_worthNow_25 ?_
  refine lv_aload_n F.1 F.2.1 dX8_worthNow_26 rfl (lv_at hl 0 rfl) ?_
  refine gf_X8_228 F G hS dX8_worthNow_27 ?_
  refine lv_imul F.1 F.2.1 dX8_worthNow_30 ?_
  refine lv_isub F.1 F.2.1 dX8_worthNow_31 ?_
  obtain ⟨x2, e_x2, h⟩ := ltE h
  refine x_topi e_x2 ?_
  clear e_x2
  refine lv_istore_n (lv' := [(1, .int x2), (0, .ref (gA g 60))]) F.1 F.2.1 dX8_worthNow_32 rfl hl (by decide) rfl (fun ls hl => ?_)
  refine lv_iconst (v := (0 : Int32)) F.1 F.2.1 dX8_worthNow_33 (by decide) ?_
  refine lv_istore_n (lv' := [(2, .int (0 : Int32)), (1, .int x2), (0, .ref (gA g 60))]) F.1 F.2.1 dX8_worthNow_34 rfl hl (by decide) rfl (fun ls hl => ?_)
  exact w_35 3000 x2 (0 : Int32) h H locs _ hS (lv_sub hl [2, 1, 0] rfl)
def f_X8_isAsSeen_52 (a1 : Int32) (a2 : Int32) (k_5 : ZI → Int32 → Int32 → Option (Int32 × ZI)) (σ : ZI) (v4 : Int32) (s0 : Int32) : Option (Int32 × ZI) := k_5 σ s0 (v4 + (1 : Int32))
def f_X8_isAsSeen_5 (a1 : Int32) (a2 : Int32)  : Nat → ZI → Int32 → Int32 → Option (Int32 × ZI)
  | 0, _, _, _ => none
  | n + 1, σ, v3, v4 => if (σ 60 41) ≤ v4 then (if v3 = 0 ∨ v3 = 1 then some (v3, σ) else none) else (if v3 = 0 then (if v3 = 0 ∨ v3 = 1 then some (v3, σ) else none) else (if inB ((2 : Int32) * v4) 12 = true then ((f_X8_countAt σ a1 a2 (σ 74 ((2 : Int32) * v4).toNatClampNeg)).bind (fun q1 => if inB (((2 : Int32) * v4) + (1 : Int32)) 12 = true then (if q1.1 = (q1.2 74 (((2 : Int32) * v4) + (1 : Int32)).toNatClampNeg) then (f_X8_isAsSeen_52 a1 a2 (fun σ v3 v4 => f_X8_isAsSeen_5 a1 a2 n σ v3 v4) q1.2 v4 (1 : Int32)) else (f_X8_isAsSeen_52 a1 a2 (fun σ v3 v4 => f_X8_isAsSeen_5 a1 a2 n σ v3 v4) q1.2 v4 (0 : Int32))) else none)) else none))
def f_X8_isAsSeen (σ : ZI) (a1 : Int32) (a2 : Int32) : Option (Int32 × ZI) := f_X8_isAsSeen_5 a1 a2 3000 σ (1 : Int32) (0 : Int32)
abbrev rm_X8_isAsSeen : Room := { frames := 2, cells := 0, slots := 0, locals := 48 }
set_option maxHeartbeats 4000000 in
set_option maxRecDepth 100000 in
theorem c_X8_isAsSeen (l : Launch) (g : GG) (σ : ZI) (τ : ZL) (a1 : Int32) (a2 : Int32) (res : Int32 × ZI) (h : f_X8_isAsSeen σ a1 a2 = some res) : MI l yX8_isAsSeen cX8_isAsSeen 5 (some .boolean) rm_X8_isAsSeen g [.ref (gA g 60), .int a1, .int a2] σ τ (fun (r : Int32) (u : ZI × ZL) => (r, u.1) = res ∧ u.2 = τ) := by
  refine Met_in (by decide) (Nat.le_of_ble_eq_true rfl) ?_
  intro p e s m args below meth c F G hP hr0 hk0 ls hl
  have hS := WS.start hP
  have hl : lv_has ls 5 [(0, .ref (gA g 60)), (1, .int a1), (2, .int a2)] := hl
  obtain ⟨H, hH⟩ : ∃ H, H = s.heap := ⟨_, rfl⟩
  rw [← hH] at hS ⊢
  clear hH hP
  rw [f_X8_isAsSeen] at h
  have w_52 : ∀ (k_5 : ZI → Int32 → Int32 → Option (Int32 × ZI)) (hk_5 : ∀ (σ : ZI) (v3 : Int32) (v4 : Int32), k_5 σ v3 v4 = some res → ∀ (H : Heap) (locs : List Loc) (ls : Array Slot), WS g σ τ s H locs → lv_has ls 5 [(0, .ref (gA g 60)), (1, .int a1), (2, .int a2), (3, .int v3), (4, .int v4)] → W p l e rm_X8_isAsSeen s m args below meth c H locs 0 0 (MQ below (va_Qi (fun (r : Int32) (u : ZI × ZL) => (r, u.1) = res ∧ u.2 = τ) (WQ g) (AA g)) args s 0 0 (AA g)) (F0 m 5 ls [])) (σ : ZI) (v4 : Int32) (s0 : Int32), f_X8_isAsSeen_52 a1 a2 k_5 σ v4 s0 = some res → ∀ (H : Heap) (locs : List Loc) (ls : Array Slot), WS g σ τ s H locs → lv_has ls 5 [(0, .ref (gA g 60)), (1, .int a1), (2, .int a2), (4, .int v4)] → W p l e rm_X8_isAsSeen s m args below meth c H locs 0 0 (MQ below (va_Qi (fun (r : Int32) (u : ZI × ZL) => (r, u.1) = res ∧ u.2 = τ) (WQ g) (AA g)) args s 0 0 (AA g)) (F0 m 52 ls [.int s0]) := by
    intro k_5 hk_5 σ v4 s0 h H locs ls hS hl
    rw [f_X8_isAsSeen_52] at h
    refine lv_istore_n (lv' := [(3, .int s0), (0, .ref (gA g 60)), (1, .int a1), (2, .int a2), (4, .int v4)]) F.1 F.2.1 dX8_isAsSeen_52 rfl hl (by decide) rfl (fun ls hl => ?_)
    refine lv_iinc (v := (v4 + (1 : Int32))) (lv' := [(4, .int (v4 + (1 : Int32))), (3, .int s0), (0, .ref (gA g 60)), (1, .int a1), (2, .int a2)]) F.1 F.2.1 dX8_isAsSeen_53 hl (k := 4) rfl rfl (by decide) rfl (fun ls hl => ?_)
    refine lv_goto (tgt := 5) F.1 F.2.1 dX8_isAsSeen_56 (by decide) ?_
    exact hk_5 σ s0 (v4 + (1 : Int32)) h H locs _ hS (lv_sub hl [2, 3, 4, 1, 0] rfl)
  have w_5 : ∀ (n : Nat) (σ : ZI) (v3 : Int32) (v4 : Int32), f_X8_isAsSeen_5 a1 a2 n σ v3 v4 = some res → ∀ (H : Heap) (locs : List Loc) (ls : Array Slot), WS g σ τ s H locs → lv_has ls 5 [(0, .ref (gA g 60)), (1, .int a1), (2, .int a2), (3, .int v3), (4, .int v4)] → W p l e rm_X8_isAsSeen s m args below meth c H locs 0 0 (MQ below (va_Qi (fun (r : Int32) (u : ZI × ZL) => (r, u.1) = res ∧ u.2 = τ) (WQ g) (AA g)) args s 0 0 (AA g)) (F0 m 5 ls []) := by
    intro n
    induction n with
    | zero => intro σ v3 v4 h; rw [f_X8_isAsSeen_5] at h; cases h
    | succ n ih =>
      intro σ v3 v4 h H locs ls hS hl
      rw [f_X8_isAsSeen_5] at h
      refine lv_iload F.1 F.2.1 dX8_isAsSeen_5 (lv_at hl 4 rfl) ?_
      refine lv_aload_n F.1 F.2.1 dX8_isAsSeen_7 rfl (lv_at hl 0 rfl) ?_
      refine gf_X8_176 F G hS dX8_isAsSeen_8 ?_
      refine lv_icmp_ge (tgt := 59) F.1 F.2.1 dX8_isAsSeen_11 (by decide) (fun hc => ?_) (fun hc => ?_)
      · replace h := ifT h hc
        refine lv_iload_n F.1 F.2.1 dX8_isAsSeen_59 rfl (lv_at hl 3 rfl) ?_
        obtain ⟨hz, h⟩ := gd h
        exact e_z F hS hz ⟨Option.some.inj h, rfl⟩ hr0 dX8_isAsSeen_60 hk0
      replace h := ifF h hc
      refine lv_iload_n F.1 F.2.1 dX8_isAsSeen_14 rfl (lv_at hl 3 rfl) ?_
      refine lv_if_eq (tgt := 59) F.1 F.2.1 dX8_isAsSeen_15 (by decide) (fun hc => ?_) (fun hc => ?_)
      · replace h := ifT h hc
        refine lv_iload_n F.1 F.2.1 dX8_isAsSeen_59 rfl (lv_at hl 3 rfl) ?_
        obtain ⟨hz, h⟩ := gd h
        exact e_z F hS hz ⟨Option.some.inj h, rfl⟩ hr0 dX8_isAsSeen_60 hk0
      replace h := ifF h hc
      refine lv_aload_n F.1 F.2.1 dX8_isAsSeen_18 rfl (lv_at hl 0 rfl) ?_
      refine lv_iload_n F.1 F.2.1 dX8_isAsSeen_19 rfl (lv_at hl 1 rfl) ?_
      refine lv_iload_n F.1 F.2.1 dX8_isAsSeen_20 rfl (lv_at hl 2 rfl) ?_
      refine lv_aload_n F.1 F.2.1 dX8_isAsSeen_21 rfl (lv_at hl 0 rfl) ?_
      refine gf_X8_53 F G hS dX8_isAsSeen_22 ?_
      refine lv_iconst (v := (2 : Int32)) F.1 F.2.1 dX8_isAsSeen_25 (by decide) ?_
      refine lv_iload F.1 F.2.1 dX8_isAsSeen_26 (lv_at hl 4 rfl) ?_
      refine lv_imul F.1 F.2.1 dX8_isAsSeen_28 ?_
      obtain ⟨hin, h⟩ := gd h
      refine x_iald F G hS 74 rfl hin dX8_isAsSeen_29 ?_
      obtain ⟨q1, h_q1, h⟩ := bd h
      refine rVi F G hS hl.1 (c_X8_countAt l g σ τ a1 a2 (σ 74 ((2 : Int32) * v4).toNatClampNeg) q1 h_q1) lk_X8_251 ⟨rfl, rfl, Nat.le_of_ble_eq_true rfl, Nat.le_of_ble_eq_true rfl⟩ (rc_X8 G hS) rfl rfl (Nat.le_of_ble_eq_true rfl) dX8_isAsSeen_30 (kIi (fun H locs hS => ?_))
      refine lv_aload_n F.1 F.2.1 dX8_isAsSeen_33 rfl (lv_at hl 0 rfl) ?_
      refine gf_X8_53 F G hS dX8_isAsSeen_34 ?_
      refine lv_iconst (v := (2 : Int32)) F.1 F.2.1 dX8_isAsSeen_37 (by decide) ?_
      refine lv_iload F.1 F.2.1 dX8_isAsSeen_38 (lv_at hl 4 rfl) ?_
      refine lv_imul F.1 F.2.1 dX8_isAsSeen_40 ?_
      refine lv_iconst (v := (1 : Int32)) F.1 F.2.1 dX8_isAsSeen_41 (by decide) ?_
      refine lv_iadd F.1 F.2.1 dX8_isAsSeen_42 ?_
      obtain ⟨hin, h⟩ := gd h
      refine x_iald F G hS 74 rfl hin dX8_isAsSeen_43 ?_
      refine lv_icmp_ne (tgt := 51) F.1 F.2.1 dX8_isAsSeen_44 (by decide) (fun hc => ?_) (fun hc => ?_)
      · replace h := ifF h hc
        refine lv_iconst (v := (0 : Int32)) F.1 F.2.1 dX8_isAsSeen_51 (by decide) ?_
        exact w_52 _ (fun σ v3 v4 => ih σ v3 v4) q1.2 v4 (0 : Int32) h H locs _ hS (lv_sub hl [0, 1, 2, 4] rfl)
      replace h := ifT h hc
      refine lv_iconst (v := (1 : Int32)) F.1 F.2.1 dX8_isAsSeen_47 (by decide) ?_
      refine lv_goto (tgt := 52) F.1 F.2.1 dX8_isAsSeen_48 (by decide) ?_
      exact w_52 _ (fun σ v3 v4 => ih σ v3 v4) q1.2 v4 (1 : Int32) h H locs _ hS (lv_sub hl [0, 1, 2, 4] rfl)
  obtain ⟨locs, hlo⟩ : ∃ z : List Loc, z = [] := ⟨_, rfl⟩
  rw [← hlo] at hS ⊢
  clear hlo
  refine lv_iconst (v := (1 : Int32)) F.1 F.2.1 dX8_isAsSeen_0 (by decide) ?_
  refine lv_istore_n (lv' := [(3, .int (1 : Int32)), (0, .ref (gA g 60)), (1, .int a1), (2, .int a2)]) F.1 F.2.1 dX8_isAsSeen_1 rfl hl (by decide) rfl (fun ls hl => ?_)
  refine lv_iconst (v := (0 : Int32)) F.1 F.2.1 dX8_isAsSeen_2 (by decide) ?_
  refine lv_istore (lv' := [(4, .int (0 : Int32)), (3, .int (1 : Int32)), (0, .ref (gA g 60)), (1, .int a1), (2, .int a2)]) F.1 F.2.1 dX8_isAsSeen_3 hl (by decide) rfl (fun ls hl => ?_)
  exact w_5 3000 σ (1 : Int32) (0 : Int32) h H locs _ hS (lv_sub hl [2, 3, 4, 1, 0] rfl)
def f_X8_valueOf (σ : ZI) (a1 : Int32) (a2 : Int32) (a3 : Int32) (a4 : Int32) (a5 : Int32) : Option (Int32 × ZI) := if a1 = (0 : Int32) then ((f_X8_countAt σ a4 a5 a2).bind (fun q1 => if q1.1 = a3 then (some ((1 : Int32), q1.2)) else (some ((0 : Int32), q1.2)))) else (if a1 = (1 : Int32) then (if (σ 60 34) = a2 then (some ((1 : Int32), σ)) else (some ((0 : Int32), σ))) else (if a1 = (2 : Int32) then (some ((((σ 60 39) >>> ((a2 - (1 : Int32)) &&& 31)) &&& (1 : Int32)), σ)) else (if a1 = (3 : Int32) then ((f_X8_holdsOf σ a2).bind (fun q2 => some (((((σ 60 36) >>> (a2 &&& 31)) &&& (1 : Int32)) * q2), σ))) else (if a1 = (4 : Int32) then ((f_X8_bitsOf (σ 60 37)).bind (fun q3 => some (q3, σ))) else (if a1 = (5 : Int32) then (some ((σ 60 38), σ)) else (if a1 = (6 : Int32) then ((f_X8_worthNow σ).bind (fun q4 => some (q4, σ))) else ((f_X8_isAsSeen σ a4 a5).bind (fun q5 => if q5.1 = 0 then (some ((0 : Int32), q5.2)) else (some ((1 : Int32), q5.2))))))))))
abbrev rm_X8_valueOf : Room := { frames := 3, cells := 0, slots := 0, locals := 72 }
set_option maxHeartbeats 4000000 in
set_option maxRecDepth 100000 in
theorem c_X8_valueOf (l : Launch) (g : GG) (σ : ZI) (τ : ZL) (a1 : Int32) (a2 : Int32) (a3 : Int32) (a4 : Int32) (a5 : Int32) (res : Int32 × ZI) (h : f_X8_valueOf σ a1 a2 a3 a4 a5 = some res) : MI l yX8_valueOf cX8_valueOf 6 (some .int) rm_X8_valueOf g [.ref (gA g 60), .int a1, .int a2, .int a3, .int a4, .int a5] σ τ (fun (r : Int32) (u : ZI × ZL) => (r, u.1) = res ∧ u.2 = τ) := by
  refine Met_in (by decide) (Nat.le_of_ble_eq_true rfl) ?_
  intro p e s m args below meth c F G hP hr0 hk0 ls hl
  have hS := WS.start hP
  have hl : lv_has ls 6 [(0, .ref (gA g 60)), (1, .int a1), (2, .int a2), (3, .int a3), (4, .int a4), (5, .int a5)] := hl
  obtain ⟨H, hH⟩ : ∃ H, H = s.heap := ⟨_, rfl⟩
  rw [← hH] at hS ⊢
  clear hH hP
  rw [f_X8_valueOf] at h
  obtain ⟨locs, hlo⟩ : ∃ z : List Loc, z = [] := ⟨_, rfl⟩
  rw [← hlo] at hS ⊢
  clear hlo
  refine lv_iload_n F.1 F.2.1 dX8_valueOf_0 rfl (lv_at hl 1 rfl) ?_
  by_cases hc_0 : a1 = (0 : Int32)
  · replace h := ifT h hc_0
    refine lv_tableIn (tgt := 44) F.1 F.2.1 dX8_valueOf_1 (by rw [hc_0]; decide) (by rw [hc_0]; decide) (by rw [hc_0]; rfl) (by decide) ?_
    refine lv_aload_n F.1 F.2.1 dX8_valueOf_44 rfl (lv_at hl 0 rfl) ?_
    refine lv_iload F.1 F.2.1 dX8_valueOf_45 (lv_at hl 4 rfl) ?_
    refine lv_iload F.1 F.2.1 dX8_valueOf_47 (lv_at hl 5 rfl) ?_
    refine lv_iload_n F.1 F.2.1 dX8_valueOf_49 rfl (lv_at hl 2 rfl) ?_
    obtain ⟨q1, h_q1, h⟩ := bd h
    refine rVi F G hS hl.1 (c_X8_countAt l g σ τ a4 a5 a2 q1 h_q1) lk_X8_251 ⟨rfl, rfl, Nat.le_of_ble_eq_true rfl, Nat.le_of_ble_eq_true rfl⟩ (rc_X8 G hS) rfl rfl (Nat.le_of_ble_eq_true rfl) dX8_valueOf_50 (kIi (fun H locs hS => ?_))
    refine lv_iload_n F.1 F.2.1 dX8_valueOf_53 rfl (lv_at hl 3 rfl) ?_
    refine lv_icmp_ne (tgt := 61) F.1 F.2.1 dX8_valueOf_54 (by decide) (fun hc => ?_) (fun hc => ?_)
    · replace h := ifF h hc
      refine lv_iconst (v := (0 : Int32)) F.1 F.2.1 dX8_valueOf_61 (by decide) ?_
      exact e_i F hS ⟨Option.some.inj h, rfl⟩ hr0 dX8_valueOf_62 hk0
    replace h := ifT h hc
    refine lv_iconst (v := (1 : Int32)) F.1 F.2.1 dX8_valueOf_57 (by decide) ?_
    refine lv_goto (tgt := 62) F.1 F.2.1 dX8_valueOf_58 (by decide) ?_
    exact e_i F hS ⟨Option.some.inj h, rfl⟩ hr0 dX8_valueOf_62 hk0
  replace h := ifF h hc_0
  by_cases hc_1 : a1 = (1 : Int32)
  · replace h := ifT h hc_1
    refine lv_tableIn (tgt := 63) F.1 F.2.1 dX8_valueOf_1 (by rw [hc_1]; decide) (by rw [hc_1]; decide) (by rw [hc_1]; rfl) (by decide) ?_
    refine lv_aload_n F.1 F.2.1 dX8_valueOf_63 rfl (lv_at hl 0 rfl) ?_
    refine gf_X8_216 F G hS dX8_valueOf_64 ?_
    refine lv_iload_n F.1 F.2.1 dX8_valueOf_67 rfl (lv_at hl 2 rfl) ?_
    refine lv_icmp_ne (tgt := 75) F.1 F.2.1 dX8_valueOf_68 (by decide) (fun hc => ?_) (fun hc => ?_)
    · replace h := ifF h hc
      refine lv_iconst (v := (0 : Int32)) F.1 F.2.1 dX8_valueOf_75 (by decide) ?_
      exact e_i F hS ⟨Option.some.inj h, rfl⟩ hr0 dX8_valueOf_76 hk0
    replace h := ifT h hc
    refine lv_iconst (v := (1 : Int32)) F.1 F.2.1 dX8_valueOf_71 (by decide) ?_
    refine lv_goto (tgt := 76) F.1 F.2.1 dX8_valueOf_72 (by decide) ?_
    exact e_i F hS ⟨Option.some.inj h, rfl⟩ hr0 dX8_valueOf_76 hk0
  replace h := ifF h hc_1
  by_cases hc_2 : a1 = (2 : Int32)
  · replace h := ifT h hc_2
    refine lv_tableIn (tgt := 77) F.1 F.2.1 dX8_valueOf_1 (by rw [hc_2]; decide) (by rw [hc_2]; decide) (by rw [hc_2]; rfl) (by decide) ?_
    refine lv_aload_n F.1 F.2.1 dX8_valueOf_77 rfl (lv_at hl 0 rfl) ?_
    refine gf_X8_231 F G hS dX8_valueOf_78 ?_
    refine lv_iload_n F.1 F.2.1 dX8_valueOf_81 rfl (lv_at hl 2 rfl) ?_
    refine lv_iconst (v := (1 : Int32)) F.1 F.2.1 dX8_valueOf_82 (by decide) ?_
    refine lv_isub F.1 F.2.1 dX8_valueOf_83 ?_
    refine lv_ishr F.1 F.2.1 dX8_valueOf_84 ?_
    refine lv_iconst (v := (1 : Int32)) F.1 F.2.1 dX8_valueOf_85 (by decide) ?_
    refine lv_iand F.1 F.2.1 dX8_valueOf_86 ?_
    exact e_i F hS ⟨Option.some.inj h, rfl⟩ hr0 dX8_valueOf_87 hk0
  replace h := ifF h hc_2
  by_cases hc_3 : a1 = (3 : Int32)
  · replace h := ifT h hc_3
    refine lv_tableIn (tgt := 88) F.1 F.2.1 dX8_valueOf_1 (by rw [hc_3]; decide) (by rw [hc_3]; decide) (by rw [hc_3]; rfl) (by decide) ?_
    refine lv_aload_n F.1 F.2.1 dX8_valueOf_88 rfl (lv_at hl 0 rfl) ?_
    refine gf_X8_222 F G hS dX8_valueOf_89 ?_
    refine lv_iload_n F.1 F.2.1 dX8_valueOf_92 rfl (lv_at hl 2 rfl) ?_
    refine lv_ishr F.1 F.2.1 dX8_valueOf_93 ?_
    refine lv_iconst (v := (1 : Int32)) F.1 F.2.1 dX8_valueOf_94 (by decide) ?_
    refine lv_iand F.1 F.2.1 dX8_valueOf_95 ?_
    refine lv_aload_n F.1 F.2.1 dX8_valueOf_96 rfl (lv_at hl 0 rfl) ?_
    refine lv_iload_n F.1 F.2.1 dX8_valueOf_97 rfl (lv_at hl 2 rfl) ?_
    obtain ⟨q2, h_q2, h⟩ := bd h
    refine rVi F G hS hl.1 (c_X8_holdsOf l g σ τ a2 q2 h_q2) lk_X8_192 ⟨rfl, rfl, Nat.le_of_ble_eq_true rfl, Nat.le_of_ble_eq_true rfl⟩ (rc_X8 G hS) rfl rfl (Nat.le_of_ble_eq_true rfl) dX8_valueOf_98 (kRi (fun H locs hS => ?_))
    refine lv_imul F.1 F.2.1 dX8_valueOf_101 ?_
    exact e_i F hS ⟨Option.some.inj h, rfl⟩ hr0 dX8_valueOf_102 hk0
  replace h := ifF h hc_3
  by_cases hc_4 : a1 = (4 : Int32)
  · replace h := ifT h hc_4
    refine lv_tableIn (tgt := 103) F.1 F.2.1 dX8_valueOf_1 (by rw [hc_4]; decide) (by rw [hc_4]; decide) (by rw [hc_4]; rfl) (by decide) ?_
    refine lv_aload_n F.1 F.2.1 dX8_valueOf_103 rfl (lv_at hl 0 rfl) ?_
    refine gf_X8_225 F G hS dX8_valueOf_104 ?_
    obtain ⟨q3, h_q3, h⟩ := bd h
    refine rSi F G hS hl.1 (c_X8_bitsOf l g σ τ (σ 60 37) q3 h_q3) lk_X8_255 ⟨rfl, rfl, Nat.le_of_ble_eq_true rfl, Nat.le_of_ble_eq_true rfl⟩  rfl rfl (Nat.le_of_ble_eq_true rfl) dX8_valueOf_107 (kRi (fun H locs hS => ?_))
    exact e_i F hS ⟨Option.some.inj h, rfl⟩ hr0 dX8_valueOf_110 hk0
  replace h := ifF h hc_4
  by_cases hc_5 : a1 = (5 : Int32)
  · replace h := ifT h hc_5
    refine lv_tableIn (tgt := 111) F.1 F.2.1 dX8_valueOf_1 (by rw [hc_5]; decide) (by rw [hc_5]; decide) (by rw [hc_5]; rfl) (by decide) ?_
    refine lv_aload_n F.1 F.2.1 dX8_valueOf_111 rfl (lv_at hl 0 rfl) ?_
    refine gf_X8_228 F G hS dX8_valueOf_112 ?_
    exact e_i F hS ⟨Option.some.inj h, rfl⟩ hr0 dX8_valueOf_115 hk0
  replace h := ifF h hc_5
  by_cases hc_6 : a1 = (6 : Int32)
  · replace h := ifT h hc_6
    refine lv_tableIn (tgt := 116) F.1 F.2.1 dX8_valueOf_1 (by rw [hc_6]; decide) (by rw [hc_6]; decide) (by rw [hc_6]; rfl) (by decide) ?_
    refine lv_aload_n F.1 F.2.1 dX8_valueOf_116 rfl (lv_at hl 0 rfl) ?_
    obtain ⟨q4, h_q4, h⟩ := bd h
    refine rVi F G hS hl.1 (c_X8_worthNow l g σ τ q4 h_q4) lk_X8_258 ⟨rfl, rfl, Nat.le_of_ble_eq_true rfl, Nat.le_of_ble_eq_true rfl⟩ (rc_X8 G hS) rfl rfl (Nat.le_of_ble_eq_true rfl) dX8_valueOf_117 (kRi (fun H locs hS => ?_))
    exact e_i F hS ⟨Option.some.inj h, rfl⟩ hr0 dX8_valueOf_120 hk0
  replace h := ifF h hc_6
  refine lv_tableOut (tgt := 121) F.1 F.2.1 dX8_valueOf_1 (by have h0 := lv_neT (a := 0) hc_0 (by decide); have h1 := lv_neT (a := 1) hc_1 (by decide); have h2 := lv_neT (a := 2) hc_2 (by decide); have h3 := lv_neT (a := 3) hc_3 (by decide); have h4 := lv_neT (a := 4) hc_4 (by decide); have h5 := lv_neT (a := 5) hc_5 (by decide); have h6 := lv_neT (a := 6) hc_6 (by decide); omega) (by decide) ?_
  refine lv_aload_n F.1 F.2.1 dX8_valueOf_121 rfl (lv_at hl 0 rfl) ?_
  refine lv_iload F.1 F.2.1 dX8_valueOf_122 (lv_at hl 4 rfl) ?_
  refine lv_iload F.1 F.2.1 dX8_valueOf_124 (lv_at hl 5 rfl) ?_
  obtain ⟨q5, h_q5, h⟩ := bd h
  refine rVi F G hS hl.1 (c_X8_isAsSeen l g σ τ a4 a5 q5 h_q5) lk_X8_261 ⟨rfl, rfl, Nat.le_of_ble_eq_true rfl, Nat.le_of_ble_eq_true rfl⟩ (rc_X8 G hS) rfl rfl (Nat.le_of_ble_eq_true rfl) dX8_valueOf_126 (kIi (fun H locs hS => ?_))
  refine lv_if_eq (tgt := 136) F.1 F.2.1 dX8_valueOf_129 (by decide) (fun hc => ?_) (fun hc => ?_)
  · replace h := ifT h hc
    refine lv_iconst (v := (0 : Int32)) F.1 F.2.1 dX8_valueOf_136 (by decide) ?_
    exact e_i F hS ⟨Option.some.inj h, rfl⟩ hr0 dX8_valueOf_137 hk0
  replace h := ifF h hc
  refine lv_iconst (v := (1 : Int32)) F.1 F.2.1 dX8_valueOf_132 (by decide) ?_
  refine lv_goto (tgt := 137) F.1 F.2.1 dX8_valueOf_133 (by decide) ?_
  exact e_i F hS ⟨Option.some.inj h, rfl⟩ hr0 dX8_valueOf_137 hk0
def f_X8_sumOf_76 (a1 : Int32) (a2 : Int32) (a3 : Int32) (k_20 : ZI → Int64 → Int32 → Int32 → Option (Int64 × ZI)) (σ : ZI) (v4 : Int64) (v6 : Int32) (v7 : Int32) : Option (Int64 × ZI) := k_20 σ v4 v6 (v7 + (1 : Int32))
def f_X8_sumOf_20 (a1 : Int32) (a2 : Int32) (a3 : Int32) (k_6 : ZI → Int64 → Int32 → Option (Int64 × ZI)) : Nat → ZI → Int64 → Int32 → Int32 → Option (Int64 × ZI)
  | 0, _, _, _, _ => none
  | n + 1, σ, v4, v6, v7 => if ((1 : Int32) <<< ((σ 60 5) &&& 31)) ≤ v7 then (k_6 σ v4 (v6 + (1 : Int32))) else ((f_X8_weightOf σ v6 v7).bind (fun q1 => if (lg_cmp q1 (0 : Int64)) = 0 then (f_X8_sumOf_76 a1 a2 a3 (fun σ v4 v6 v7 => f_X8_sumOf_20 a1 a2 a3 k_6 n σ v4 v6 v7) σ v4 v6 v7) else ((f_X8_nights σ v6 v7).bind (fun q2 => (f_X8_valueOf q2 a1 a2 a3 v6 v7).bind (fun q3 => lt_ ((v4 + (q1 * q3.1.toInt64))) (fun x4 => f_X8_sumOf_76 a1 a2 a3 (fun σ v4 v6 v7 => f_X8_sumOf_20 a1 a2 a3 k_6 n σ v4 v6 v7) q3.2 x4 v6 v7))))))
def f_X8_sumOf_6 (a1 : Int32) (a2 : Int32) (a3 : Int32)  : Nat → ZI → Int64 → Int32 → Option (Int64 × ZI)
  | 0, _, _, _ => none
  | n + 1, σ, v4, v6 => if ((1 : Int32) <<< ((σ 60 1) &&& 31)) ≤ v6 then (some (v4, σ)) else (f_X8_sumOf_20 a1 a2 a3 (fun σ v4 v6 => f_X8_sumOf_6 a1 a2 a3 n σ v4 v6) 3000 σ v4 v6 (0 : Int32))
def f_X8_sumOf (σ : ZI) (a1 : Int32) (a2 : Int32) (a3 : Int32) : Option (Int64 × ZI) := f_X8_sumOf_6 a1 a2 a3 3000 σ (0 : Int64) (0 : Int32)
abbrev rm_X8_sumOf : Room := { frames := 4, cells := 0, slots := 0, locals := 97 }
set_option maxHeartbeats 4000000 in
set_option maxRecDepth 100000 in
theorem c_X8_sumOf (l : Launch) (g : GG) (σ : ZI) (τ : ZL) (a1 : Int32) (a2 : Int32) (a3 : Int32) (res : Int64 × ZI) (h : f_X8_sumOf σ a1 a2 a3 = some res) : ML l yX8_sumOf cX8_sumOf 10 (some .long) rm_X8_sumOf g [.ref (gA g 60), .int a1, .int a2, .int a3] σ τ (fun (r : Int64) (u : ZI × ZL) => (r, u.1) = res ∧ u.2 = τ) := by
  refine Met_in (by decide) (Nat.le_of_ble_eq_true rfl) ?_
  intro p e s m args below meth c F G hP hr0 hk0 ls hl
  have hS := WS.start hP
  have hl : lv_has ls 10 [(0, .ref (gA g 60)), (1, .int a1), (2, .int a2), (3, .int a3)] := hl
  obtain ⟨H, hH⟩ : ∃ H, H = s.heap := ⟨_, rfl⟩
  rw [← hH] at hS ⊢
  clear hH hP
  rw [f_X8_sumOf] at h
  have w_76 : ∀ (k_20 : ZI → Int64 → Int32 → Int32 → Option (Int64 × ZI)) (hk_20 : ∀ (σ : ZI) (v4 : Int64) (v6 : Int32) (v7 : Int32), k_20 σ v4 v6 v7 = some res → ∀ (H : Heap) (locs : List Loc) (ls : Array Slot), WS g σ τ s H locs → lv_has ls 10 [(0, .ref (gA g 60)), (1, .int a1), (2, .int a2), (3, .int a3), (4, .long v4), (6, .int v6), (7, .int v7)] → W p l e rm_X8_sumOf s m args below meth c H locs 0 0 (MQ below (va_Ql (fun (r : Int64) (u : ZI × ZL) => (r, u.1) = res ∧ u.2 = τ) (WQ g) (AA g)) args s 0 0 (AA g)) (F0 m 20 ls [])) (σ : ZI) (v4 : Int64) (v6 : Int32) (v7 : Int32), f_X8_sumOf_76 a1 a2 a3 k_20 σ v4 v6 v7 = some res → ∀ (H : Heap) (locs : List Loc) (ls : Array Slot), WS g σ τ s H locs → lv_has ls 10 [(0, .ref (gA g 60)), (1, .int a1), (2, .int a2), (3, .int a3), (4, .long v4), (6, .int v6), (7, .int v7)] → W p l e rm_X8_sumOf s m args below meth c H locs 0 0 (MQ below (va_Ql (fun (r : Int64) (u : ZI × ZL) => (r, u.1) = res ∧ u.2 = τ) (WQ g) (AA g)) args s 0 0 (AA g)) (F0 m 76 ls []) := by
    intro k_20 hk_20 σ v4 v6 v7 h H locs ls hS hl
    rw [f_X8_sumOf_76] at h
    refine lv_iinc (v := (v7 + (1 : Int32))) (lv' := [(7, .int (v7 + (1 : Int32))), (0, .ref (gA g 60)), (1, .int a1), (2, .int a2), (3, .int a3), (4, .long v4), (6, .int v6)]) F.1 F.2.1 dX8_sumOf_76 hl (k := 6) rfl rfl (by decide) rfl (fun ls hl => ?_)
    refine lv_goto (tgt := 20) F.1 F.2.1 dX8_sumOf_79 (by decide) ?_
    exact hk_20 σ v4 v6 (v7 + (1 : Int32)) h H locs _ hS (lv_sub hl [1, 2, 3, 4, 5, 6, 0] rfl)
  have w_20 : ∀ (k_6 : ZI → Int64 → Int32 → Option (Int64 × ZI)) (hk_6 : ∀ (σ : ZI) (v4 : Int64) (v6 : Int32), k_6 σ v4 v6 = some res → ∀ (H : Heap) (locs : List Loc) (ls : Array Slot), WS g σ τ s H locs → lv_has ls 10 [(0, .ref (gA g 60)), (1, .int a1), (2, .int a2), (3, .int a3), (4, .long v4), (6, .int v6)] → W p l e rm_X8_sumOf s m args below meth c H locs 0 0 (MQ below (va_Ql (fun (r : Int64) (u : ZI × ZL) => (r, u.1) = res ∧ u.2 = τ) (WQ g) (AA g)) args s 0 0 (AA g)) (F0 m 6 ls [])) (n : Nat) (σ : ZI) (v4 : Int64) (v6 : Int32) (v7 : Int32), f_X8_sumOf_20 a1 a2 a3 k_6 n σ v4 v6 v7 = some res → ∀ (H : Heap) (locs : List Loc) (ls : Array Slot), WS g σ τ s H locs → lv_has ls 10 [(0, .ref (gA g 60)), (1, .int a1), (2, .int a2), (3, .int a3), (4, .long v4), (6, .int v6), (7, .int v7)] → W p l e rm_X8_sumOf s m args below meth c H locs 0 0 (MQ below (va_Ql (fun (r : Int64) (u : ZI × ZL) => (r, u.1) = res ∧ u.2 = τ) (WQ g) (AA g)) args s 0 0 (AA g)) (F0 m 20 ls []) := by
    intro k_6 hk_6
    intro n
    induction n with
    | zero => intro σ v4 v6 v7 h; rw [f_X8_sumOf_20] at h; cases h
    | succ n ih =>
      intro σ v4 v6 v7 h H locs ls hS hl
      rw [f_X8_sumOf_20] at h
      refine lv_iload F.1 F.2.1 dX8_sumOf_20 (lv_at hl 6 rfl) ?_
      refine lv_iconst (v := (1 : Int32)) F.1 F.2.1 dX8_sumOf_22 (by decide) ?_
      refine lv_aload_n F.1 F.2.1 dX8_sumOf_23 rfl (lv_at hl 0 rfl) ?_
      refine gf_X8_170 F G hS dX8_sumOf_24 ?_
      refine lv_ishl F.1 F.2.1 dX8_sumOf_27 ?_
      refine lv_icmp_ge (tgt := 82) F.1 F.2.1 dX8_sumOf_28 (by decide) (fun hc => ?_) (fun hc => ?_)
      · replace h := ifT h hc
        refine lv_iinc (v := (v6 + (1 : Int32))) (lv' := [(6, .int (v6 + (1 : Int32))), (0, .ref (gA g 60)), (1, .int a1), (2, .int a2), (3, .int a3), (4, .long v4), (7, .int v7)]) F.1 F.2.1 dX8_sumOf_82 hl (k := 5) rfl rfl (by decide) rfl (fun ls hl => ?_)
        refine lv_goto (tgt := 6) F.1 F.2.1 dX8_sumOf_85 (by decide) ?_
        exact hk_6 σ v4 (v6 + (1 : Int32)) h H locs _ hS (lv_sub hl [1, 2, 3, 4, 5, 0] rfl)
      replace h := ifF h hc
      refine lv_aload_n F.1 F.2.1 dX8_sumOf_31 rfl (lv_at hl 0 rfl) ?_
      refine lv_iload F.1 F.2.1 dX8_sumOf_32 (lv_at hl 5 rfl) ?_
      refine lv_iload F.1 F.2.1 dX8_sumOf_34 (lv_at hl 6 rfl) ?_
      obtain ⟨q1, h_q1, h⟩ := bd h
      refine rVl F G hS hl.1 (c_X8_weightOf l g σ τ v6 v7 q1 h_q1) lk_X8_264 ⟨rfl, rfl, Nat.le_of_ble_eq_true rfl, Nat.le_of_ble_eq_true rfl⟩ (rc_X8 G hS) rfl rfl (Nat.le_of_ble_eq_true rfl) dX8_sumOf_36 (kRl (fun H locs hS => ?_))
      refine lv_lstore (lv' := [(8, .long q1), (0, .ref (gA g 60)), (1, .int a1), (2, .int a2), (3, .int a3), (4, .long v4), (6, .int v6), (7, .int v7)]) F.1 F.2.1 dX8_sumOf_39 hl (by decide) rfl (fun ls hl => ?_)
      refine lv_lload F.1 F.2.1 dX8_sumOf_41 (lv_at hl 0 rfl) ?_
      refine lv_lconst (v := (0 : Int64)) F.1 F.2.1 dX8_sumOf_43 (by decide) ?_
      refine W.lcmp F.1 F.2.1 dX8_sumOf_44 ?_
      refine lv_if_eq (tgt := 76) F.1 F.2.1 dX8_sumOf_45 (by decide) (fun hc => ?_) (fun hc => ?_)
      · replace h := ifT h hc
        exact w_76 _ (fun σ v4 v6 v7 => ih σ v4 v6 v7) σ v4 v6 v7 h H locs _ hS (lv_sub hl [1, 2, 3, 4, 5, 6, 7] rfl)
      replace h := ifF h hc
      refine lv_aload_n F.1 F.2.1 dX8_sumOf_48 rfl (lv_at hl 1 rfl) ?_
      refine lv_iload F.1 F.2.1 dX8_sumOf_49 (lv_at hl 6 rfl) ?_
      refine lv_iload F.1 F.2.1 dX8_sumOf_51 (lv_at hl 7 rfl) ?_
      obtain ⟨q2, h_q2, h⟩ := bd h
      refine rVv F G hS hl.1 (c_X8_nights l g σ τ v6 v7 q2 h_q2) lk_X8_244 ⟨rfl, rfl, Nat.le_of_ble_eq_true rfl, Nat.le_of_ble_eq_true rfl⟩ (rc_X8 G hS) rfl rfl (Nat.le_of_ble_eq_true rfl) dX8_sumOf_53 (kIv (fun H locs hS => ?_))
      refine lv_lload F.1 F.2.1 dX8_sumOf_56 (lv_at hl 5 rfl) ?_
      refine lv_lload F.1 F.2.1 dX8_sumOf_58 (lv_at hl 0 rfl) ?_
      refine lv_aload_n F.1 F.2.1 dX8_sumOf_60 rfl (lv_at hl 1 rfl) ?_
      refine lv_iload_n F.1 F.2.1 dX8_sumOf_61 rfl (lv_at hl 2 rfl) ?_
      refine lv_iload_n F.1 F.2.1 dX8_sumOf_62 rfl (lv_at hl 3 rfl) ?_
      refine lv_iload_n F.1 F.2.1 dX8_sumOf_63 rfl (lv_at hl 4 rfl) ?_
      refine lv_iload F.1 F.2.1 dX8_sumOf_64 (lv_at hl 6 rfl) ?_
      refine lv_iload F.1 F.2.1 dX8_sumOf_66 (lv_at hl 7 rfl) ?_
      obtain ⟨q3, h_q3, h⟩ := bd h
      refine rVi F G hS hl.1 (c_X8_valueOf l g q2 τ a1 a2 a3 v6 v7 q3 h_q3) lk_X8_268 ⟨rfl, rfl, Nat.le_of_ble_eq_true rfl, Nat.le_of_ble_eq_true rfl⟩ (rc_X8 G hS) rfl rfl (Nat.le_of_ble_eq_true rfl) dX8_sumOf_68 (kIi (fun H locs hS => ?_))
      refine lv_i2l F.1 F.2.1 dX8_sumOf_71 rfl ?_
      refine lv_lmul F.1 F.2.1 dX8_sumOf_72 ?_
      refine lv_ladd F.1 F.2.1 dX8_sumOf_73 ?_
      obtain ⟨x4, e_x4, h⟩ := ltE h
      refine x_topl e_x4 ?_
      clear e_x4
      refine lv_lstore (lv' := [(4, .long x4), (8, .long q1), (0, .ref (gA g 60)), (1, .int a1), (2, .int a2), (3, .int a3), (6, .int v6), (7, .int v7)]) F.1 F.2.1 dX8_sumOf_74 hl (by decide) rfl (fun ls hl => ?_)
      exact w_76 _ (fun σ v4 v6 v7 => ih σ v4 v6 v7) q3.2 x4 v6 v7 h H locs _ hS (lv_sub hl [2, 3, 4, 5, 0, 6, 7] rfl)
  have w_6 : ∀ (n : Nat) (σ : ZI) (v4 : Int64) (v6 : Int32), f_X8_sumOf_6 a1 a2 a3 n σ v4 v6 = some res → ∀ (H : Heap) (locs : List Loc) (ls : Array Slot), WS g σ τ s H locs → lv_has ls 10 [(0, .ref (gA g 60)), (1, .int a1), (2, .int a2), (3, .int a3), (4, .long v4), (6, .int v6)] → W p l e rm_X8_sumOf s m args below meth c H locs 0 0 (MQ below (va_Ql (fun (r : Int64) (u : ZI × ZL) => (r, u.1) = res ∧ u.2 = τ) (WQ g) (AA g)) args s 0 0 (AA g)) (F0 m 6 ls []) := by
    intro n
    induction n with
    | zero => intro σ v4 v6 h; rw [f_X8_sumOf_6] at h; cases h
    | succ n ih =>
      intro σ v4 v6 h H locs ls hS hl
      rw [f_X8_sumOf_6] at h
      refine lv_iload F.1 F.2.1 dX8_sumOf_6 (lv_at hl 5 rfl) ?_
      refine lv_iconst (v := (1 : Int32)) F.1 F.2.1 dX8_sumOf_8 (by decide) ?_
      refine lv_aload_n F.1 F.2.1 dX8_sumOf_9 rfl (lv_at hl 0 rfl) ?_
      refine gf_X8_13 F G hS dX8_sumOf_10 ?_
      refine lv_ishl F.1 F.2.1 dX8_sumOf_13 ?_
      refine lv_icmp_ge (tgt := 88) F.1 F.2.1 dX8_sumOf_14 (by decide) (fun hc => ?_) (fun hc => ?_)
      · replace h := ifT h hc
        refine lv_lload F.1 F.2.1 dX8_sumOf_88 (lv_at hl 4 rfl) ?_
        exact e_l F hS ⟨Option.some.inj h, rfl⟩ hr0 dX8_sumOf_90 hk0
      replace h := ifF h hc
      refine lv_iconst (v := (0 : Int32)) F.1 F.2.1 dX8_sumOf_17 (by decide) ?_
      refine lv_istore (lv' := [(7, .int (0 : Int32)), (0, .ref (gA g 60)), (1, .int a1), (2, .int a2), (3, .int a3), (4, .long v4), (6, .int v6)]) F.1 F.2.1 dX8_sumOf_18 hl (by decide) rfl (fun ls hl => ?_)
      exact w_20 _ (fun σ v4 v6 => ih σ v4 v6) 3000 σ v4 v6 (0 : Int32) h H locs _ hS (lv_sub hl [1, 2, 3, 4, 5, 6, 0] rfl)
  obtain ⟨locs, hlo⟩ : ∃ z : List Loc, z = [] := ⟨_, rfl⟩
  rw [← hlo] at hS ⊢
  clear hlo
  refine lv_lconst (v := (0 : Int64)) F.1 F.2.1 dX8_sumOf_0 (by decide) ?_
  refine lv_lstore (lv' := [(4, .long (0 : Int64)), (0, .ref (gA g 60)), (1, .int a1), (2, .int a2), (3, .int a3)]) F.1 F.2.1 dX8_sumOf_1 hl (by decide) rfl (fun ls hl => ?_)
  refine lv_iconst (v := (0 : Int32)) F.1 F.2.1 dX8_sumOf_3 (by decide) ?_
  refine lv_istore (lv' := [(6, .int (0 : Int32)), (4, .long (0 : Int64)), (0, .ref (gA g 60)), (1, .int a1), (2, .int a2), (3, .int a3)]) F.1 F.2.1 dX8_sumOf_4 hl (by decide) rfl (fun ls hl => ?_)
  exact w_6 3000 σ (0 : Int64) (0 : Int32) h H locs _ hS (lv_sub hl [2, 3, 4, 5, 1, 0] rfl)
def f_X8_allWeight_23 (σ : ZI) (a1 : Int32)  : Nat → Int64 → Int32 → Option (Int64)
  | 0, _, _ => none
  | n + 1, v2, v4 => if v4 ≤ 0 then (some v2) else (f_X8_allWeight_23 σ a1 n (v2 * (10 : Int64)) (v4 + (-1 : Int32)))
def f_X8_allWeight_11 (σ : ZI) (a1 : Int32)  (s0 : Int64) : Option (Int64) := f_X8_allWeight_23 σ a1 3000 s0 ((σ 60 1) + (σ 60 5))
def f_X8_allWeight (σ : ZI) (a1 : Int32) : Option (Int64) := if a1 = 0 then (f_X8_allWeight_11 σ a1 (1 : Int64)) else (f_X8_allWeight_11 σ a1 (10 : Int64))
abbrev rm_X8_allWeight : Room := { frames := 0, cells := 0, slots := 0, locals := 0 }
set_option maxHeartbeats 4000000 in
set_option maxRecDepth 100000 in
theorem c_X8_allWeight (l : Launch) (g : GG) (σ : ZI) (τ : ZL) (a1 : Int32) (res : Int64) (h : f_X8_allWeight σ a1 = some res) : ML l yX8_allWeight cX8_allWeight 5 (some .long) rm_X8_allWeight g [.ref (gA g 60), .int a1] σ τ (fun (r : Int64) (u : ZI × ZL) => r = res ∧ u.1 = σ ∧ u.2 = τ) := by
  refine Met_in (by decide) (Nat.le_of_ble_eq_true rfl) ?_
  intro p e s m args below meth c F G hP hr0 hk0 ls hl
  have hS := WS.start hP
  have hl : lv_has ls 5 [(0, .ref (gA g 60)), (1, .int a1)] := hl
  obtain ⟨H, hH⟩ : ∃ H, H = s.heap := ⟨_, rfl⟩
  rw [← hH] at hS ⊢
  clear hH hP
  rw [f_X8_allWeight] at h
  have w_23 : ∀ (n : Nat) (v2 : Int64) (v4 : Int32), f_X8_allWeight_23 σ a1 n v2 v4 = some res → ∀ (H : Heap) (locs : List Loc) (ls : Array Slot), WS g σ τ s H locs → lv_has ls 5 [(2, .long v2), (4, .int v4)] → W p l e rm_X8_allWeight s m args below meth c H locs 0 0 (MQ below (va_Ql (fun (r : Int64) (u : ZI × ZL) => r = res ∧ u.1 = σ ∧ u.2 = τ) (WQ g) (AA g)) args s 0 0 (AA g)) (F0 m 23 ls []) := by
    intro n
    induction n with
    | zero => intro v2 v4 h; rw [f_X8_allWeight_23] at h; cases h
    | succ n ih =>
      intro v2 v4 h H locs ls hS hl
      rw [f_X8_allWeight_23] at h
      refine lv_iload F.1 F.2.1 dX8_allWeight_23 (lv_at hl 1 rfl) ?_
      refine lv_if_le (tgt := 40) F.1 F.2.1 dX8_allWeight_25 (by decide) (fun hc => ?_) (fun hc => ?_)
      · replace h := ifT h hc
        refine lv_lload_n F.1 F.2.1 dX8_allWeight_40 rfl (lv_at hl 0 rfl) ?_
        exact e_l F hS ⟨Option.some.inj h, rfl, rfl⟩ hr0 dX8_allWeight_41 hk0
      replace h := ifF h hc
      refine lv_lload_n F.1 F.2.1 dX8_allWeight_28 rfl (lv_at hl 0 rfl) ?_
      refine lv_ldc2 (v := (10 : Int64)) F.1 F.2.1 F.2.2.2.1 (F.2.2.2.2 _ tb_1221) dX8_allWeight_29 ?_
      refine lv_lmul F.1 F.2.1 dX8_allWeight_32 ?_
      refine lv_lstore_n (lv' := [(2, .long (v2 * (10 : Int64))), (4, .int v4)]) F.1 F.2.1 dX8_allWeight_33 rfl hl (by decide) rfl (fun ls hl => ?_)
      refine lv_iinc (v := (v4 + (-1 : Int32))) (lv' := [(4, .int (v4 + (-1 : Int32))), (2, .long (v2 * (10 : Int64)))]) F.1 F.2.1 dX8_allWeight_34 hl (k := 1) rfl rfl (by decide) rfl (fun ls hl => ?_)
      refine lv_goto (tgt := 23) F.1 F.2.1 dX8_allWeight_37 (by decide) ?_
      exact ih (v2 * (10 : Int64)) (v4 + (-1 : Int32)) h H locs _ hS (lv_sub hl [1, 0] rfl)
  have w_11 : ∀ (s0 : Int64), f_X8_allWeight_11 σ a1 s0 = some res → ∀ (H : Heap) (locs : List Loc) (ls : Array Slot), WS g σ τ s H locs → lv_has ls 5 [(0, .ref (gA g 60))] → W p l e rm_X8_allWeight s m args below meth c H locs 0 0 (MQ below (va_Ql (fun (r : Int64) (u : ZI × ZL) => r = res ∧ u.1 = σ ∧ u.2 = τ) (WQ g) (AA g)) args s 0 0 (AA g)) (F0 m 11 ls [.long s0]) := by
    intro  s0 h H locs ls hS hl
    rw [f_X8_allWeight_11] at h
    refine lv_lstore_n (lv' := [(2, .long s0), (0, .ref (gA g 60))]) F.1 F.2.1 dX8_allWeight_11 rfl hl (by decide) rfl (fun ls hl => ?_)
    refine lv_aload_n F.1 F.2.1 dX8_allWeight_12 rfl (lv_at hl 1 rfl) ?_
    refine gf_X8_13 F G hS dX8_allWeight_13 ?_
    refine lv_aload_n F.1 F.2.1 dX8_allWeight_16 rfl (lv_at hl 1 rfl) ?_
    refine gf_X8_170 F G hS dX8_allWeight_17 ?_
    refine lv_iadd F.1 F.2.1 dX8_allWeight_20 ?_
    refine lv_istore (lv' := [(4, .int ((σ 60 1) + (σ 60 5))), (2, .long s0), (0, .ref (gA g 60))]) F.1 F.2.1 dX8_allWeight_21 hl (by decide) rfl (fun ls hl => ?_)
    exact w_23 3000 s0 ((σ 60 1) + (σ 60 5)) h H locs _ hS (lv_sub hl [1, 0] rfl)
  obtain ⟨locs, hlo⟩ : ∃ z : List Loc, z = [] := ⟨_, rfl⟩
  rw [← hlo] at hS ⊢
  clear hlo
  refine lv_iload_n F.1 F.2.1 dX8_allWeight_0 rfl (lv_at hl 1 rfl) ?_
  refine lv_if_eq (tgt := 10) F.1 F.2.1 dX8_allWeight_1 (by decide) (fun hc => ?_) (fun hc => ?_)
  · replace h := ifT h hc
    refine lv_lconst (v := (1 : Int64)) F.1 F.2.1 dX8_allWeight_10 (by decide) ?_
    exact w_11 (1 : Int64) h H locs _ hS (lv_sub hl [0] rfl)
  replace h := ifF h hc
  refine lv_ldc2 (v := (10 : Int64)) F.1 F.2.1 F.2.2.2.1 (F.2.2.2.2 _ tb_1221) dX8_allWeight_4 ?_
  refine lv_goto (tgt := 11) F.1 F.2.1 dX8_allWeight_7 (by decide) ?_
  exact w_11 (10 : Int64) h H locs _ hS (lv_sub hl [0] rfl)
def f_X8_meanOf_24 (a1 : Int32) (a2 : Int32) (a3 : Int32) (a4 : Int32)  (σ : ZI) (s0 : Int32) (s2 : Int64) : Option (Int64 × ZI) := (f_X8_allWeight σ s0).bind (fun q2 => (f_X8_lowest s2 q2 a4).bind (fun q3 => some (q3, σ)))
def f_X8_meanOf_19 (a1 : Int32) (a2 : Int32) (a3 : Int32) (a4 : Int32)  (σ : ZI) (s1 : Int64) : Option (Int64 × ZI) := f_X8_meanOf_24 a1 a2 a3 a4 σ (1 : Int32) s1
def f_X8_meanOf (σ : ZI) (a1 : Int32) (a2 : Int32) (a3 : Int32) (a4 : Int32) : Option (Int64 × ZI) := (f_X8_sumOf σ a1 a2 a3).bind (fun q1 => if a1 = (3 : Int32) then (f_X8_meanOf_19 a1 a2 a3 a4 q1.2 q1.1) else (if a1 = (6 : Int32) then (f_X8_meanOf_19 a1 a2 a3 a4 q1.2 q1.1) else (f_X8_meanOf_24 a1 a2 a3 a4 q1.2 (0 : Int32) q1.1)))
abbrev rm_X8_meanOf : Room := { frames := 5, cells := 0, slots := 0, locals := 126 }
set_option maxHeartbeats 4000000 in
set_option maxRecDepth 100000 in
theorem c_X8_meanOf (l : Launch) (g : GG) (σ : ZI) (τ : ZL) (a1 : Int32) (a2 : Int32) (a3 : Int32) (a4 : Int32) (res : Int64 × ZI) (h : f_X8_meanOf σ a1 a2 a3 a4 = some res) : ML l yX8_meanOf cX8_meanOf 5 (some .long) rm_X8_meanOf g [.ref (gA g 60), .int a1, .int a2, .int a3, .int a4] σ τ (fun (r : Int64) (u : ZI × ZL) => (r, u.1) = res ∧ u.2 = τ) := by
  refine Met_in (by decide) (Nat.le_of_ble_eq_true rfl) ?_
  intro p e s m args below meth c F G hP hr0 hk0 ls hl
  have hS := WS.start hP
  have hl : lv_has ls 5 [(0, .ref (gA g 60)), (1, .int a1), (2, .int a2), (3, .int a3), (4, .int a4)] := hl
  obtain ⟨H, hH⟩ : ∃ H, H = s.heap := ⟨_, rfl⟩
  rw [← hH] at hS ⊢
  clear hH hP
  rw [f_X8_meanOf] at h
  have w_24 : ∀ (σ : ZI) (s0 : Int32) (s2 : Int64), f_X8_meanOf_24 a1 a2 a3 a4 σ s0 s2 = some res → ∀ (H : Heap) (locs : List Loc) (ls : Array Slot), WS g σ τ s H locs → lv_has ls 5 [(4, .int a4)] → W p l e rm_X8_meanOf s m args below meth c H locs 0 0 (MQ below (va_Ql (fun (r : Int64) (u : ZI × ZL) => (r, u.1) = res ∧ u.2 = τ) (WQ g) (AA g)) args s 0 0 (AA g)) (F0 m 24 ls [.int s0, .ref (gA g 60), .long s2]) := by
    intro  σ s0 s2 h H locs ls hS hl
    rw [f_X8_meanOf_24] at h
    obtain ⟨q2, h_q2, h⟩ := bd h
    refine rVl F G hS hl.1 (c_X8_allWeight l g σ τ s0 q2 h_q2) lk_X8_276 ⟨rfl, rfl, Nat.le_of_ble_eq_true rfl, Nat.le_of_ble_eq_true rfl⟩ (rc_X8 G hS) rfl rfl (Nat.le_of_ble_eq_true rfl) dX8_meanOf_24 (kRl (fun H locs hS => ?_))
    refine lv_iload F.1 F.2.1 dX8_meanOf_27 (lv_at hl 0 rfl) ?_
    obtain ⟨q3, h_q3, h⟩ := bd h
    refine rSl F G hS hl.1 (c_X8_lowest l g σ τ s2 q2 a4 q3 h_q3) lk_X8_280 ⟨rfl, rfl, Nat.le_of_ble_eq_true rfl, Nat.le_of_ble_eq_true rfl⟩  rfl rfl (Nat.le_of_ble_eq_true rfl) dX8_meanOf_29 (kRl (fun H locs hS => ?_))
    exact e_l F hS ⟨Option.some.inj h, rfl⟩ hr0 dX8_meanOf_32 hk0
  have w_19 : ∀ (σ : ZI) (s1 : Int64), f_X8_meanOf_19 a1 a2 a3 a4 σ s1 = some res → ∀ (H : Heap) (locs : List Loc) (ls : Array Slot), WS g σ τ s H locs → lv_has ls 5 [(4, .int a4)] → W p l e rm_X8_meanOf s m args below meth c H locs 0 0 (MQ below (va_Ql (fun (r : Int64) (u : ZI × ZL) => (r, u.1) = res ∧ u.2 = τ) (WQ g) (AA g)) args s 0 0 (AA g)) (F0 m 19 ls [.ref (gA g 60), .long s1]) := by
    intro  σ s1 h H locs ls hS hl
    rw [f_X8_meanOf_19] at h
    refine lv_iconst (v := (1 : Int32)) F.1 F.2.1 dX8_meanOf_19 (by decide) ?_
    refine lv_goto (tgt := 24) F.1 F.2.1 dX8_meanOf_20 (by decide) ?_
    exact w_24 σ (1 : Int32) s1 h H locs _ hS (lv_sub hl [0] rfl)
  obtain ⟨locs, hlo⟩ : ∃ z : List Loc, z = [] := ⟨_, rfl⟩
  rw [← hlo] at hS ⊢
  clear hlo
  refine lv_aload_n F.1 F.2.1 dX8_meanOf_0 rfl (lv_at hl 0 rfl) ?_
  refine lv_iload_n F.1 F.2.1 dX8_meanOf_1 rfl (lv_at hl 1 rfl) ?_
  refine lv_iload_n F.1 F.2.1 dX8_meanOf_2 rfl (lv_at hl 2 rfl) ?_
  refine lv_iload_n F.1 F.2.1 dX8_meanOf_3 rfl (lv_at hl 3 rfl) ?_
  obtain ⟨q1, h_q1, h⟩ := bd h
  refine rVl F G hS hl.1 (c_X8_sumOf l g σ τ a1 a2 a3 q1 h_q1) lk_X8_272 ⟨rfl, rfl, Nat.le_of_ble_eq_true rfl, Nat.le_of_ble_eq_true rfl⟩ (rc_X8 G hS) rfl rfl (Nat.le_of_ble_eq_true rfl) dX8_meanOf_4 (kIl (fun H locs hS => ?_))
  refine lv_aload_n F.1 F.2.1 dX8_meanOf_7 rfl (lv_at hl 0 rfl) ?_
  refine lv_iload_n F.1 F.2.1 dX8_meanOf_8 rfl (lv_at hl 1 rfl) ?_
  refine lv_iconst (v := (3 : Int32)) F.1 F.2.1 dX8_meanOf_9 (by decide) ?_
  refine lv_icmp_eq (tgt := 19) F.1 F.2.1 dX8_meanOf_10 (by decide) (fun hc => ?_) (fun hc => ?_)
  · replace h := ifT h hc
    exact w_19 q1.2 q1.1 h H locs _ hS (lv_sub hl [4] rfl)
  replace h := ifF h hc
  refine lv_iload_n F.1 F.2.1 dX8_meanOf_13 rfl (lv_at hl 1 rfl) ?_
  refine lv_bipush (v := (6 : Int32)) F.1 F.2.1 dX8_meanOf_14 (by decide) ?_
  refine lv_icmp_ne (tgt := 23) F.1 F.2.1 dX8_meanOf_16 (by decide) (fun hc => ?_) (fun hc => ?_)
  rotate_left
  · replace h := ifT h hc
    exact w_19 q1.2 q1.1 h H locs _ hS (lv_sub hl [4] rfl)
  replace h := ifF h hc
  refine lv_iconst (v := (0 : Int32)) F.1 F.2.1 dX8_meanOf_23 (by decide) ?_
  exact w_24 q1.2 (0 : Int32) q1.1 h H locs _ hS (lv_sub hl [4] rfl)
def f_X8_where (σ : ZI) (a1 : Int32) (a2 : Int32) (a3 : Int32) : Option (Int64 × ZI) := (f_X8_in a1.toInt64 (0 : Int64) ((σ 60 1).toInt64)).bind (fun q1 => if q1 = 0 then (some ((-1 : Int64), σ)) else ((f_X8_in a2.toInt64 (0 : Int64) (10 : Int64)).bind (fun q2 => if q2 = 0 then (some ((-1 : Int64), σ)) else ((f_X8_in a3.toInt64 (0 : Int64) (1 : Int64)).bind (fun q3 => if q3 = 0 then (some ((-1 : Int64), σ)) else ((f_X8_meanOf σ (0 : Int32) a1 a2 a3).bind (fun q4 => some (q4.1, q4.2))))))))
abbrev rm_X8_where : Room := { frames := 6, cells := 0, slots := 0, locals := 150 }
set_option maxHeartbeats 4000000 in
set_option maxRecDepth 100000 in
theorem c_X8_where (l : Launch) (g : GG) (σ : ZI) (τ : ZL) (a1 : Int32) (a2 : Int32) (a3 : Int32) (res : Int64 × ZI) (h : f_X8_where σ a1 a2 a3 = some res) : ML l yX8_where cX8_where 4 (some .long) rm_X8_where g [.ref (gA g 60), .int a1, .int a2, .int a3] σ τ (fun (r : Int64) (u : ZI × ZL) => (r, u.1) = res ∧ u.2 = τ) := by
  refine Met_in (by decide) (Nat.le_of_ble_eq_true rfl) ?_
  intro p e s m args below meth c F G hP hr0 hk0 ls hl
  have hS := WS.start hP
  have hl : lv_has ls 4 [(0, .ref (gA g 60)), (1, .int a1), (2, .int a2), (3, .int a3)] := hl
  obtain ⟨H, hH⟩ : ∃ H, H = s.heap := ⟨_, rfl⟩
  rw [← hH] at hS ⊢
  clear hH hP
  rw [f_X8_where] at h
  obtain ⟨locs, hlo⟩ : ∃ z : List Loc, z = [] := ⟨_, rfl⟩
  rw [← hlo] at hS ⊢
  clear hlo
  refine lv_iload_n F.1 F.2.1 dX8_where_0 rfl (lv_at hl 1 rfl) ?_
  refine lv_i2l F.1 F.2.1 dX8_where_1 rfl ?_
  refine lv_lconst (v := (0 : Int64)) F.1 F.2.1 dX8_where_2 (by decide) ?_
  refine lv_aload_n F.1 F.2.1 dX8_where_3 rfl (lv_at hl 0 rfl) ?_
  refine gf_X8_13 F G hS dX8_where_4 ?_
  refine lv_i2l F.1 F.2.1 dX8_where_7 rfl ?_
  obtain ⟨q1, h_q1, h⟩ := bd h
  refine rSi F G hS hl.1 (c_X8_in l g σ τ a1.toInt64 (0 : Int64) ((σ 60 1).toInt64) q1 h_q1) lk_X8_71 ⟨rfl, rfl, Nat.le_of_ble_eq_true rfl, Nat.le_of_ble_eq_true rfl⟩  rfl rfl (Nat.le_of_ble_eq_true rfl) dX8_where_8 (kRi (fun H locs hS => ?_))
  refine lv_if_eq (tgt := 47) F.1 F.2.1 dX8_where_11 (by decide) (fun hc => ?_) (fun hc => ?_)
  · replace h := ifT h hc
    refine lv_ldc2 (v := (-1 : Int64)) F.1 F.2.1 F.2.2.2.1 (F.2.2.2.2 _ tb_1389) dX8_where_47 ?_
    exact e_l F hS ⟨Option.some.inj h, rfl⟩ hr0 dX8_where_50 hk0
  replace h := ifF h hc
  refine lv_iload_n F.1 F.2.1 dX8_where_14 rfl (lv_at hl 2 rfl) ?_
  refine lv_i2l F.1 F.2.1 dX8_where_15 rfl ?_
  refine lv_lconst (v := (0 : Int64)) F.1 F.2.1 dX8_where_16 (by decide) ?_
  refine lv_ldc2 (v := (10 : Int64)) F.1 F.2.1 F.2.2.2.1 (F.2.2.2.2 _ tb_1221) dX8_where_17 ?_
  obtain ⟨q2, h_q2, h⟩ := bd h
  refine rSi F G hS hl.1 (c_X8_in l g σ τ a2.toInt64 (0 : Int64) (10 : Int64) q2 h_q2) lk_X8_71 ⟨rfl, rfl, Nat.le_of_ble_eq_true rfl, Nat.le_of_ble_eq_true rfl⟩  rfl rfl (Nat.le_of_ble_eq_true rfl) dX8_where_20 (kRi (fun H locs hS => ?_))
  refine lv_if_eq (tgt := 47) F.1 F.2.1 dX8_where_23 (by decide) (fun hc => ?_) (fun hc => ?_)
  · replace h := ifT h hc
    refine lv_ldc2 (v := (-1 : Int64)) F.1 F.2.1 F.2.2.2.1 (F.2.2.2.2 _ tb_1389) dX8_where_47 ?_
    exact e_l F hS ⟨Option.some.inj h, rfl⟩ hr0 dX8_where_50 hk0
  replace h := ifF h hc
  refine lv_iload_n F.1 F.2.1 dX8_where_26 rfl (lv_at hl 3 rfl) ?_
  refine lv_i2l F.1 F.2.1 dX8_where_27 rfl ?_
  refine lv_lconst (v := (0 : Int64)) F.1 F.2.1 dX8_where_28 (by decide) ?_
  refine lv_lconst (v := (1 : Int64)) F.1 F.2.1 dX8_where_29 (by decide) ?_
  obtain ⟨q3, h_q3, h⟩ := bd h
  refine rSi F G hS hl.1 (c_X8_in l g σ τ a3.toInt64 (0 : Int64) (1 : Int64) q3 h_q3) lk_X8_71 ⟨rfl, rfl, Nat.le_of_ble_eq_true rfl, Nat.le_of_ble_eq_true rfl⟩  rfl rfl (Nat.le_of_ble_eq_true rfl) dX8_where_30 (kRi (fun H locs hS => ?_))
  refine lv_if_eq (tgt := 47) F.1 F.2.1 dX8_where_33 (by decide) (fun hc => ?_) (fun hc => ?_)
  · replace h := ifT h hc
    refine lv_ldc2 (v := (-1 : Int64)) F.1 F.2.1 F.2.2.2.1 (F.2.2.2.2 _ tb_1389) dX8_where_47 ?_
    exact e_l F hS ⟨Option.some.inj h, rfl⟩ hr0 dX8_where_50 hk0
  replace h := ifF h hc
  refine lv_aload_n F.1 F.2.1 dX8_where_36 rfl (lv_at hl 0 rfl) ?_
  refine lv_iconst (v := (0 : Int32)) F.1 F.2.1 dX8_where_37 (by decide) ?_
  refine lv_iload_n F.1 F.2.1 dX8_where_38 rfl (lv_at hl 1 rfl) ?_
  refine lv_iload_n F.1 F.2.1 dX8_where_39 rfl (lv_at hl 2 rfl) ?_
  refine lv_iload_n F.1 F.2.1 dX8_where_40 rfl (lv_at hl 3 rfl) ?_
  obtain ⟨q4, h_q4, h⟩ := bd h
  refine rVl F G hS hl.1 (c_X8_meanOf l g σ τ (0 : Int32) a1 a2 a3 q4 h_q4) lk_X8_284 ⟨rfl, rfl, Nat.le_of_ble_eq_true rfl, Nat.le_of_ble_eq_true rfl⟩ (rc_X8 G hS) rfl rfl (Nat.le_of_ble_eq_true rfl) dX8_where_41 (kIl (fun H locs hS => ?_))
  refine lv_goto (tgt := 50) F.1 F.2.1 dX8_where_44 (by decide) ?_
  exact e_l F hS ⟨Option.some.inj h, rfl⟩ hr0 dX8_where_50 hk0
def f_X8_goes (σ : ZI) (a1 : Int32) (a2 : Int32) : Option (Int64 × ZI) := (f_X8_isJoint σ a1).bind (fun q1 => if q1 = 0 then (some ((-1 : Int64), σ)) else ((f_X8_in a2.toInt64 (0 : Int64) (1 : Int64)).bind (fun q2 => if q2 = 0 then (some ((-1 : Int64), σ)) else ((f_X8_meanOf σ (1 : Int32) a1 (0 : Int32) a2).bind (fun q3 => some (q3.1, q3.2))))))
abbrev rm_X8_goes : Room := { frames := 6, cells := 0, slots := 0, locals := 150 }
set_option maxHeartbeats 4000000 in
set_option maxRecDepth 100000 in
theorem c_X8_goes (l : Launch) (g : GG) (σ : ZI) (τ : ZL) (a1 : Int32) (a2 : Int32) (res : Int64 × ZI) (h : f_X8_goes σ a1 a2 = some res) : ML l yX8_goes cX8_goes 3 (some .long) rm_X8_goes g [.ref (gA g 60), .int a1, .int a2] σ τ (fun (r : Int64) (u : ZI × ZL) => (r, u.1) = res ∧ u.2 = τ) := by
  refine Met_in (by decide) (Nat.le_of_ble_eq_true rfl) ?_
  intro p e s m args below meth c F G hP hr0 hk0 ls hl
  have hS := WS.start hP
  have hl : lv_has ls 3 [(0, .ref (gA g 60)), (1, .int a1), (2, .int a2)] := hl
  obtain ⟨H, hH⟩ : ∃ H, H = s.heap := ⟨_, rfl⟩
  rw [← hH] at hS ⊢
  clear hH hP
  rw [f_X8_goes] at h
  obtain ⟨locs, hlo⟩ : ∃ z : List Loc, z = [] := ⟨_, rfl⟩
  rw [← hlo] at hS ⊢
  clear hlo
  refine lv_aload_n F.1 F.2.1 dX8_goes_0 rfl (lv_at hl 0 rfl) ?_
  refine lv_iload_n F.1 F.2.1 dX8_goes_1 rfl (lv_at hl 1 rfl) ?_
  obtain ⟨q1, h_q1, h⟩ := bd h
  refine rVi F G hS hl.1 (c_X8_isJoint l g σ τ a1 q1 h_q1) lk_X8_203 ⟨rfl, rfl, Nat.le_of_ble_eq_true rfl, Nat.le_of_ble_eq_true rfl⟩ (rc_X8 G hS) rfl rfl (Nat.le_of_ble_eq_true rfl) dX8_goes_2 (kRi (fun H locs hS => ?_))
  refine lv_if_eq (tgt := 29) F.1 F.2.1 dX8_goes_5 (by decide) (fun hc => ?_) (fun hc => ?_)
  · replace h := ifT h hc
    refine lv_ldc2 (v := (-1 : Int64)) F.1 F.2.1 F.2.2.2.1 (F.2.2.2.2 _ tb_1389) dX8_goes_29 ?_
    exact e_l F hS ⟨Option.some.inj h, rfl⟩ hr0 dX8_goes_32 hk0
  replace h := ifF h hc
  refine lv_iload_n F.1 F.2.1 dX8_goes_8 rfl (lv_at hl 2 rfl) ?_
  refine lv_i2l F.1 F.2.1 dX8_goes_9 rfl ?_
  refine lv_lconst (v := (0 : Int64)) F.1 F.2.1 dX8_goes_10 (by decide) ?_
  refine lv_lconst (v := (1 : Int64)) F.1 F.2.1 dX8_goes_11 (by decide) ?_
  obtain ⟨q2, h_q2, h⟩ := bd h
  refine rSi F G hS hl.1 (c_X8_in l g σ τ a2.toInt64 (0 : Int64) (1 : Int64) q2 h_q2) lk_X8_71 ⟨rfl, rfl, Nat.le_of_ble_eq_true rfl, Nat.le_of_ble_eq_true rfl⟩  rfl rfl (Nat.le_of_ble_eq_true rfl) dX8_goes_12 (kRi (fun H locs hS => ?_))
  refine lv_if_eq (tgt := 29) F.1 F.2.1 dX8_goes_15 (by decide) (fun hc => ?_) (fun hc => ?_)
  · replace h := ifT h hc
    refine lv_ldc2 (v := (-1 : Int64)) F.1 F.2.1 F.2.2.2.1 (F.2.2.2.2 _ tb_1389) dX8_goes_29 ?_
    exact e_l F hS ⟨Option.some.inj h, rfl⟩ hr0 dX8_goes_32 hk0
  replace h := ifF h hc
  refine lv_aload_n F.1 F.2.1 dX8_goes_18 rfl (lv_at hl 0 rfl) ?_
  refine lv_iconst (v := (1 : Int32)) F.1 F.2.1 dX8_goes_19 (by decide) ?_
  refine lv_iload_n F.1 F.2.1 dX8_goes_20 rfl (lv_at hl 1 rfl) ?_
  refine lv_iconst (v := (0 : Int32)) F.1 F.2.1 dX8_goes_21 (by decide) ?_
  refine lv_iload_n F.1 F.2.1 dX8_goes_22 rfl (lv_at hl 2 rfl) ?_
  obtain ⟨q3, h_q3, h⟩ := bd h
  refine rVl F G hS hl.1 (c_X8_meanOf l g σ τ (1 : Int32) a1 (0 : Int32) a2 q3 h_q3) lk_X8_284 ⟨rfl, rfl, Nat.le_of_ble_eq_true rfl, Nat.le_of_ble_eq_true rfl⟩ (rc_X8 G hS) rfl rfl (Nat.le_of_ble_eq_true rfl) dX8_goes_23 (kIl (fun H locs hS => ?_))
  refine lv_goto (tgt := 32) F.1 F.2.1 dX8_goes_26 (by decide) ?_
  exact e_l F hS ⟨Option.some.inj h, rfl⟩ hr0 dX8_goes_32 hk0
def f_X8_isOut (σ : ZI) (a1 : Int32) (a2 : Int32) : Option (Int64 × ZI) := (f_X8_isJoint σ a1).bind (fun q1 => if q1 = 0 then (some ((-1 : Int64), σ)) else ((f_X8_in a2.toInt64 (0 : Int64) (1 : Int64)).bind (fun q2 => if q2 = 0 then (some ((-1 : Int64), σ)) else ((f_X8_meanOf σ (2 : Int32) a1 (0 : Int32) a2).bind (fun q3 => some (q3.1, q3.2))))))
abbrev rm_X8_isOut : Room := { frames := 6, cells := 0, slots := 0, locals := 150 }
set_option maxHeartbeats 4000000 in
set_option maxRecDepth 100000 in
theorem c_X8_isOut (l : Launch) (g : GG) (σ : ZI) (τ : ZL) (a1 : Int32) (a2 : Int32) (res : Int64 × ZI) (h : f_X8_isOut σ a1 a2 = some res) : ML l yX8_isOut cX8_isOut 3 (some .long) rm_X8_isOut g [.ref (gA g 60), .int a1, .int a2] σ τ (fun (r : Int64) (u : ZI × ZL) => (r, u.1) = res ∧ u.2 = τ) := by
  refine Met_in (by decide) (Nat.le_of_ble_eq_true rfl) ?_
  intro p e s m args below meth c F G hP hr0 hk0 ls hl
  have hS := WS.start hP
  have hl : lv_has ls 3 [(0, .ref (gA g 60)), (1, .int a1), (2, .int a2)] := hl
  obtain ⟨H, hH⟩ : ∃ H, H = s.heap := ⟨_, rfl⟩
  rw [← hH] at hS ⊢
  clear hH hP
  rw [f_X8_isOut] at h
  obtain ⟨locs, hlo⟩ : ∃ z : List Loc, z = [] := ⟨_, rfl⟩
  rw [← hlo] at hS ⊢
  clear hlo
  refine lv_aload_n F.1 F.2.1 dX8_isOut_0 rfl (lv_at hl 0 rfl) ?_
  refine lv_iload_n F.1 F.2.1 dX8_isOut_1 rfl (lv_at hl 1 rfl) ?_
  obtain ⟨q1, h_q1, h⟩ := bd h
  refine rVi F G hS hl.1 (c_X8_isJoint l g σ τ a1 q1 h_q1) lk_X8_203 ⟨rfl, rfl, Nat.le_of_ble_eq_true rfl, Nat.le_of_ble_eq_true rfl⟩ (rc_X8 G hS) rfl rfl (Nat.le_of_ble_eq_true rfl) dX8_isOut_2 (kRi (fun H locs hS => ?_))
  refine lv_if_eq (tgt := 29) F.1 F.2.1 dX8_isOut_5 (by decide) (fun hc => ?_) (fun hc => ?_)
  · replace h := ifT h hc
    refine lv_ldc2 (v := (-1 : Int64)) F.1 F.2.1 F.2.2.2.1 (F.2.2.2.2 _ tb_1389) dX8_isOut_29 ?_
    exact e_l F hS ⟨Option.some.inj h, rfl⟩ hr0 dX8_isOut_32 hk0
  replace h := ifF h hc
  refine lv_iload_n F.1 F.2.1 dX8_isOut_8 rfl (lv_at hl 2 rfl) ?_
  refine lv_i2l F.1 F.2.1 dX8_isOut_9 rfl ?_
  refine lv_lconst (v := (0 : Int64)) F.1 F.2.1 dX8_isOut_10 (by decide) ?_
  refine lv_lconst (v := (1 : Int64)) F.1 F.2.1 dX8_isOut_11 (by decide) ?_
  obtain ⟨q2, h_q2, h⟩ := bd h
  refine rSi F G hS hl.1 (c_X8_in l g σ τ a2.toInt64 (0 : Int64) (1 : Int64) q2 h_q2) lk_X8_71 ⟨rfl, rfl, Nat.le_of_ble_eq_true rfl, Nat.le_of_ble_eq_true rfl⟩  rfl rfl (Nat.le_of_ble_eq_true rfl) dX8_isOut_12 (kRi (fun H locs hS => ?_))
  refine lv_if_eq (tgt := 29) F.1 F.2.1 dX8_isOut_15 (by decide) (fun hc => ?_) (fun hc => ?_)
  · replace h := ifT h hc
    refine lv_ldc2 (v := (-1 : Int64)) F.1 F.2.1 F.2.2.2.1 (F.2.2.2.2 _ tb_1389) dX8_isOut_29 ?_
    exact e_l F hS ⟨Option.some.inj h, rfl⟩ hr0 dX8_isOut_32 hk0
  replace h := ifF h hc
  refine lv_aload_n F.1 F.2.1 dX8_isOut_18 rfl (lv_at hl 0 rfl) ?_
  refine lv_iconst (v := (2 : Int32)) F.1 F.2.1 dX8_isOut_19 (by decide) ?_
  refine lv_iload_n F.1 F.2.1 dX8_isOut_20 rfl (lv_at hl 1 rfl) ?_
  refine lv_iconst (v := (0 : Int32)) F.1 F.2.1 dX8_isOut_21 (by decide) ?_
  refine lv_iload_n F.1 F.2.1 dX8_isOut_22 rfl (lv_at hl 2 rfl) ?_
  obtain ⟨q3, h_q3, h⟩ := bd h
  refine rVl F G hS hl.1 (c_X8_meanOf l g σ τ (2 : Int32) a1 (0 : Int32) a2 q3 h_q3) lk_X8_284 ⟨rfl, rfl, Nat.le_of_ble_eq_true rfl, Nat.le_of_ble_eq_true rfl⟩ (rc_X8 G hS) rfl rfl (Nat.le_of_ble_eq_true rfl) dX8_isOut_23 (kIl (fun H locs hS => ?_))
  refine lv_goto (tgt := 32) F.1 F.2.1 dX8_isOut_26 (by decide) ?_
  exact e_l F hS ⟨Option.some.inj h, rfl⟩ hr0 dX8_isOut_32 hk0
def f_X8_had (σ : ZI) (a1 : Int32) (a2 : Int32) : Option (Int64 × ZI) := (f_X8_isArm σ a1).bind (fun q1 => if q1 = 0 then (some ((-1 : Int64), σ)) else ((f_X8_in a2.toInt64 (0 : Int64) (1 : Int64)).bind (fun q2 => if q2 = 0 then (some ((-1 : Int64), σ)) else ((f_X8_meanOf σ (3 : Int32) a1 (0 : Int32) a2).bind (fun q3 => some (q3.1, q3.2))))))
abbrev rm_X8_had : Room := { frames := 6, cells := 0, slots := 0, locals := 150 }
set_option maxHeartbeats 4000000 in
set_option maxRecDepth 100000 in
theorem c_X8_had (l : Launch) (g : GG) (σ : ZI) (τ : ZL) (a1 : Int32) (a2 : Int32) (res : Int64 × ZI) (h : f_X8_had σ a1 a2 = some res) : ML l yX8_had cX8_had 3 (some .long) rm_X8_had g [.ref (gA g 60), .int a1, .int a2] σ τ (fun (r : Int64) (u : ZI × ZL) => (r, u.1) = res ∧ u.2 = τ) := by
  refine Met_in (by decide) (Nat.le_of_ble_eq_true rfl) ?_
  intro p e s m args below meth c F G hP hr0 hk0 ls hl
  have hS := WS.start hP
  have hl : lv_has ls 3 [(0, .ref (gA g 60)), (1, .int a1), (2, .int a2)] := hl
  obtain ⟨H, hH⟩ : ∃ H, H = s.heap := ⟨_, rfl⟩
  rw [← hH] at hS ⊢
  clear hH hP
  rw [f_X8_had] at h
  obtain ⟨locs, hlo⟩ : ∃ z : List Loc, z = [] := ⟨_, rfl⟩
  rw [← hlo] at hS ⊢
  clear hlo
  refine lv_aload_n F.1 F.2.1 dX8_had_0 rfl (lv_at hl 0 rfl) ?_
  refine lv_iload_n F.1 F.2.1 dX8_had_1 rfl (lv_at hl 1 rfl) ?_
  obtain ⟨q1, h_q1, h⟩ := bd h
  refine rVi F G hS hl.1 (c_X8_isArm l g σ τ a1 q1 h_q1) lk_X8_188 ⟨rfl, rfl, Nat.le_of_ble_eq_true rfl, Nat.le_of_ble_eq_true rfl⟩ (rc_X8 G hS) rfl rfl (Nat.le_of_ble_eq_true rfl) dX8_had_2 (kRi (fun H locs hS => ?_))
  refine lv_if_eq (tgt := 29) F.1 F.2.1 dX8_had_5 (by decide) (fun hc => ?_) (fun hc => ?_)
  · replace h := ifT h hc
    refine lv_ldc2 (v := (-1 : Int64)) F.1 F.2.1 F.2.2.2.1 (F.2.2.2.2 _ tb_1389) dX8_had_29 ?_
    exact e_l F hS ⟨Option.some.inj h, rfl⟩ hr0 dX8_had_32 hk0
  replace h := ifF h hc
  refine lv_iload_n F.1 F.2.1 dX8_had_8 rfl (lv_at hl 2 rfl) ?_
  refine lv_i2l F.1 F.2.1 dX8_had_9 rfl ?_
  refine lv_lconst (v := (0 : Int64)) F.1 F.2.1 dX8_had_10 (by decide) ?_
  refine lv_lconst (v := (1 : Int64)) F.1 F.2.1 dX8_had_11 (by decide) ?_
  obtain ⟨q2, h_q2, h⟩ := bd h
  refine rSi F G hS hl.1 (c_X8_in l g σ τ a2.toInt64 (0 : Int64) (1 : Int64) q2 h_q2) lk_X8_71 ⟨rfl, rfl, Nat.le_of_ble_eq_true rfl, Nat.le_of_ble_eq_true rfl⟩  rfl rfl (Nat.le_of_ble_eq_true rfl) dX8_had_12 (kRi (fun H locs hS => ?_))
  refine lv_if_eq (tgt := 29) F.1 F.2.1 dX8_had_15 (by decide) (fun hc => ?_) (fun hc => ?_)
  · replace h := ifT h hc
    refine lv_ldc2 (v := (-1 : Int64)) F.1 F.2.1 F.2.2.2.1 (F.2.2.2.2 _ tb_1389) dX8_had_29 ?_
    exact e_l F hS ⟨Option.some.inj h, rfl⟩ hr0 dX8_had_32 hk0
  replace h := ifF h hc
  refine lv_aload_n F.1 F.2.1 dX8_had_18 rfl (lv_at hl 0 rfl) ?_
  refine lv_iconst (v := (3 : Int32)) F.1 F.2.1 dX8_had_19 (by decide) ?_
  refine lv_iload_n F.1 F.2.1 dX8_had_20 rfl (lv_at hl 1 rfl) ?_
  refine lv_iconst (v := (0 : Int32)) F.1 F.2.1 dX8_had_21 (by decide) ?_
  refine lv_iload_n F.1 F.2.1 dX8_had_22 rfl (lv_at hl 2 rfl) ?_
  obtain ⟨q3, h_q3, h⟩ := bd h
  refine rVl F G hS hl.1 (c_X8_meanOf l g σ τ (3 : Int32) a1 (0 : Int32) a2 q3 h_q3) lk_X8_284 ⟨rfl, rfl, Nat.le_of_ble_eq_true rfl, Nat.le_of_ble_eq_true rfl⟩ (rc_X8 G hS) rfl rfl (Nat.le_of_ble_eq_true rfl) dX8_had_23 (kIl (fun H locs hS => ?_))
  refine lv_goto (tgt := 32) F.1 F.2.1 dX8_had_26 (by decide) ?_
  exact e_l F hS ⟨Option.some.inj h, rfl⟩ hr0 dX8_had_32 hk0
def f_X8_hits (σ : ZI) (a1 : Int32) : Option (Int64 × ZI) := (f_X8_in a1.toInt64 (0 : Int64) (1 : Int64)).bind (fun q1 => if q1 = 0 then (some ((-1 : Int64), σ)) else ((f_X8_meanOf σ (4 : Int32) (0 : Int32) (0 : Int32) a1).bind (fun q2 => some (q2.1, q2.2))))
abbrev rm_X8_hits : Room := { frames := 6, cells := 0, slots := 0, locals := 150 }
set_option maxHeartbeats 4000000 in
set_option maxRecDepth 100000 in
theorem c_X8_hits (l : Launch) (g : GG) (σ : ZI) (τ : ZL) (a1 : Int32) (res : Int64 × ZI) (h : f_X8_hits σ a1 = some res) : ML l yX8_hits cX8_hits 2 (some .long) rm_X8_hits g [.ref (gA g 60), .int a1] σ τ (fun (r : Int64) (u : ZI × ZL) => (r, u.1) = res ∧ u.2 = τ) := by
  refine Met_in (by decide) (Nat.le_of_ble_eq_true rfl) ?_
  intro p e s m args below meth c F G hP hr0 hk0 ls hl
  have hS := WS.start hP
  have hl : lv_has ls 2 [(0, .ref (gA g 60)), (1, .int a1)] := hl
  obtain ⟨H, hH⟩ : ∃ H, H = s.heap := ⟨_, rfl⟩
  rw [← hH] at hS ⊢
  clear hH hP
  rw [f_X8_hits] at h
  obtain ⟨locs, hlo⟩ : ∃ z : List Loc, z = [] := ⟨_, rfl⟩
  rw [← hlo] at hS ⊢
  clear hlo
  refine lv_iload_n F.1 F.2.1 dX8_hits_0 rfl (lv_at hl 1 rfl) ?_
  refine lv_i2l F.1 F.2.1 dX8_hits_1 rfl ?_
  refine lv_lconst (v := (0 : Int64)) F.1 F.2.1 dX8_hits_2 (by decide) ?_
  refine lv_lconst (v := (1 : Int64)) F.1 F.2.1 dX8_hits_3 (by decide) ?_
  obtain ⟨q1, h_q1, h⟩ := bd h
  refine rSi F G hS hl.1 (c_X8_in l g σ τ a1.toInt64 (0 : Int64) (1 : Int64) q1 h_q1) lk_X8_71 ⟨rfl, rfl, Nat.le_of_ble_eq_true rfl, Nat.le_of_ble_eq_true rfl⟩  rfl rfl (Nat.le_of_ble_eq_true rfl) dX8_hits_4 (kRi (fun H locs hS => ?_))
  refine lv_if_eq (tgt := 21) F.1 F.2.1 dX8_hits_7 (by decide) (fun hc => ?_) (fun hc => ?_)
  · replace h := ifT h hc
    refine lv_ldc2 (v := (-1 : Int64)) F.1 F.2.1 F.2.2.2.1 (F.2.2.2.2 _ tb_1389) dX8_hits_21 ?_
    exact e_l F hS ⟨Option.some.inj h, rfl⟩ hr0 dX8_hits_24 hk0
  replace h := ifF h hc
  refine lv_aload_n F.1 F.2.1 dX8_hits_10 rfl (lv_at hl 0 rfl) ?_
  refine lv_iconst (v := (4 : Int32)) F.1 F.2.1 dX8_hits_11 (by decide) ?_
  refine lv_iconst (v := (0 : Int32)) F.1 F.2.1 dX8_hits_12 (by decide) ?_
  refine lv_iconst (v := (0 : Int32)) F.1 F.2.1 dX8_hits_13 (by decide) ?_
  refine lv_iload_n F.1 F.2.1 dX8_hits_14 rfl (lv_at hl 1 rfl) ?_
  obtain ⟨q2, h_q2, h⟩ := bd h
  refine rVl F G hS hl.1 (c_X8_meanOf l g σ τ (4 : Int32) (0 : Int32) (0 : Int32) a1 q2 h_q2) lk_X8_284 ⟨rfl, rfl, Nat.le_of_ble_eq_true rfl, Nat.le_of_ble_eq_true rfl⟩ (rc_X8 G hS) rfl rfl (Nat.le_of_ble_eq_true rfl) dX8_hits_15 (kIl (fun H locs hS => ?_))
  refine lv_goto (tgt := 24) F.1 F.2.1 dX8_hits_18 (by decide) ?_
  exact e_l F hS ⟨Option.some.inj h, rfl⟩ hr0 dX8_hits_24 hk0
def f_X8_torn (σ : ZI) (a1 : Int32) : Option (Int64 × ZI) := (f_X8_in a1.toInt64 (0 : Int64) (1 : Int64)).bind (fun q1 => if q1 = 0 then (some ((-1 : Int64), σ)) else ((f_X8_meanOf σ (5 : Int32) (0 : Int32) (0 : Int32) a1).bind (fun q2 => some (q2.1, q2.2))))
abbrev rm_X8_torn : Room := { frames := 6, cells := 0, slots := 0, locals := 150 }
set_option maxHeartbeats 4000000 in
set_option maxRecDepth 100000 in
theorem c_X8_torn (l : Launch) (g : GG) (σ : ZI) (τ : ZL) (a1 : Int32) (res : Int64 × ZI) (h : f_X8_torn σ a1 = some res) : ML l yX8_torn cX8_torn 2 (some .long) rm_X8_torn g [.ref (gA g 60), .int a1] σ τ (fun (r : Int64) (u : ZI × ZL) => (r, u.1) = res ∧ u.2 = τ) := by
  refine Met_in (by decide) (Nat.le_of_ble_eq_true rfl) ?_
  intro p e s m args below meth c F G hP hr0 hk0 ls hl
  have hS := WS.start hP
  have hl : lv_has ls 2 [(0, .ref (gA g 60)), (1, .int a1)] := hl
  obtain ⟨H, hH⟩ : ∃ H, H = s.heap := ⟨_, rfl⟩
  rw [← hH] at hS ⊢
  clear hH hP
  rw [f_X8_torn] at h
  obtain ⟨locs, hlo⟩ : ∃ z : List Loc, z = [] := ⟨_, rfl⟩
  rw [← hlo] at hS ⊢
  clear hlo
  refine lv_iload_n F.1 F.2.1 dX8_torn_0 rfl (lv_at hl 1 rfl) ?_
  refine lv_i2l F.1 F.2.1 dX8_torn_1 rfl ?_
  refine lv_lconst (v := (0 : Int64)) F.1 F.2.1 dX8_torn_2 (by decide) ?_
  refine lv_lconst (v := (1 : Int64)) F.1 F.2.1 dX8_torn_3 (by decide) ?_
  obtain ⟨q1, h_q1, h⟩ := bd h
  refine rSi F G hS hl.1 (c_X8_in l g σ τ a1.toInt64 (0 : Int64) (1 : Int64) q1 h_q1) lk_X8_71 ⟨rfl, rfl, Nat.le_of_ble_eq_true rfl, Nat.le_of_ble_eq_true rfl⟩  rfl rfl (Nat.le_of_ble_eq_true rfl) dX8_torn_4 (kRi (fun H locs hS => ?_))
  refine lv_if_eq (tgt := 21) F.1 F.2.1 dX8_torn_7 (by decide) (fun hc => ?_) (fun hc => ?_)
  · replace h := ifT h hc
    refine lv_ldc2 (v := (-1 : Int64)) F.1 F.2.1 F.2.2.2.1 (F.2.2.2.2 _ tb_1389) dX8_torn_21 ?_
    exact e_l F hS ⟨Option.some.inj h, rfl⟩ hr0 dX8_torn_24 hk0
  replace h := ifF h hc
  refine lv_aload_n F.1 F.2.1 dX8_torn_10 rfl (lv_at hl 0 rfl) ?_
  refine lv_iconst (v := (5 : Int32)) F.1 F.2.1 dX8_torn_11 (by decide) ?_
  refine lv_iconst (v := (0 : Int32)) F.1 F.2.1 dX8_torn_12 (by decide) ?_
  refine lv_iconst (v := (0 : Int32)) F.1 F.2.1 dX8_torn_13 (by decide) ?_
  refine lv_iload_n F.1 F.2.1 dX8_torn_14 rfl (lv_at hl 1 rfl) ?_
  obtain ⟨q2, h_q2, h⟩ := bd h
  refine rVl F G hS hl.1 (c_X8_meanOf l g σ τ (5 : Int32) (0 : Int32) (0 : Int32) a1 q2 h_q2) lk_X8_284 ⟨rfl, rfl, Nat.le_of_ble_eq_true rfl, Nat.le_of_ble_eq_true rfl⟩ (rc_X8 G hS) rfl rfl (Nat.le_of_ble_eq_true rfl) dX8_torn_15 (kIl (fun H locs hS => ?_))
  refine lv_goto (tgt := 24) F.1 F.2.1 dX8_torn_18 (by decide) ?_
  exact e_l F hS ⟨Option.some.inj h, rfl⟩ hr0 dX8_torn_24 hk0
def f_X8_worth (σ : ZI) (a1 : Int32) : Option (Int64 × ZI) := (f_X8_in a1.toInt64 (0 : Int64) (1 : Int64)).bind (fun q1 => if q1 = 0 then (some ((-1 : Int64), σ)) else ((f_X8_meanOf σ (6 : Int32) (0 : Int32) (0 : Int32) a1).bind (fun q2 => some (q2.1, q2.2))))
abbrev rm_X8_worth : Room := { frames := 6, cells := 0, slots := 0, locals := 150 }
set_option maxHeartbeats 4000000 in
set_option maxRecDepth 100000 in
theorem c_X8_worth (l : Launch) (g : GG) (σ : ZI) (τ : ZL) (a1 : Int32) (res : Int64 × ZI) (h : f_X8_worth σ a1 = some res) : ML l yX8_worth cX8_worth 2 (some .long) rm_X8_worth g [.ref (gA g 60), .int a1] σ τ (fun (r : Int64) (u : ZI × ZL) => (r, u.1) = res ∧ u.2 = τ) := by
  refine Met_in (by decide) (Nat.le_of_ble_eq_true rfl) ?_
  intro p e s m args below meth c F G hP hr0 hk0 ls hl
  have hS := WS.start hP
  have hl : lv_has ls 2 [(0, .ref (gA g 60)), (1, .int a1)] := hl
  obtain ⟨H, hH⟩ : ∃ H, H = s.heap := ⟨_, rfl⟩
  rw [← hH] at hS ⊢
  clear hH hP
  rw [f_X8_worth] at h
  obtain ⟨locs, hlo⟩ : ∃ z : List Loc, z = [] := ⟨_, rfl⟩
  rw [← hlo] at hS ⊢
  clear hlo
  refine lv_iload_n F.1 F.2.1 dX8_worth_0 rfl (lv_at hl 1 rfl) ?_
  refine lv_i2l F.1 F.2.1 dX8_worth_1 rfl ?_
  refine lv_lconst (v := (0 : Int64)) F.1 F.2.1 dX8_worth_2 (by decide) ?_
  refine lv_lconst (v := (1 : Int64)) F.1 F.2.1 dX8_worth_3 (by decide) ?_
  obtain ⟨q1, h_q1, h⟩ := bd h
  refine rSi F G hS hl.1 (c_X8_in l g σ τ a1.toInt64 (0 : Int64) (1 : Int64) q1 h_q1) lk_X8_71 ⟨rfl, rfl, Nat.le_of_ble_eq_true rfl, Nat.le_of_ble_eq_true rfl⟩  rfl rfl (Nat.le_of_ble_eq_true rfl) dX8_worth_4 (kRi (fun H locs hS => ?_))
  refine lv_if_eq (tgt := 22) F.1 F.2.1 dX8_worth_7 (by decide) (fun hc => ?_) (fun hc => ?_)
  · replace h := ifT h hc
    refine lv_ldc2 (v := (-1 : Int64)) F.1 F.2.1 F.2.2.2.1 (F.2.2.2.2 _ tb_1389) dX8_worth_22 ?_
    exact e_l F hS ⟨Option.some.inj h, rfl⟩ hr0 dX8_worth_25 hk0
  replace h := ifF h hc
  refine lv_aload_n F.1 F.2.1 dX8_worth_10 rfl (lv_at hl 0 rfl) ?_
  refine lv_bipush (v := (6 : Int32)) F.1 F.2.1 dX8_worth_11 (by decide) ?_
  refine lv_iconst (v := (0 : Int32)) F.1 F.2.1 dX8_worth_13 (by decide) ?_
  refine lv_iconst (v := (0 : Int32)) F.1 F.2.1 dX8_worth_14 (by decide) ?_
  refine lv_iload_n F.1 F.2.1 dX8_worth_15 rfl (lv_at hl 1 rfl) ?_
  obtain ⟨q2, h_q2, h⟩ := bd h
  refine rVl F G hS hl.1 (c_X8_meanOf l g σ τ (6 : Int32) (0 : Int32) (0 : Int32) a1 q2 h_q2) lk_X8_284 ⟨rfl, rfl, Nat.le_of_ble_eq_true rfl, Nat.le_of_ble_eq_true rfl⟩ (rc_X8 G hS) rfl rfl (Nat.le_of_ble_eq_true rfl) dX8_worth_16 (kIl (fun H locs hS => ?_))
  refine lv_goto (tgt := 25) F.1 F.2.1 dX8_worth_19 (by decide) ?_
  exact e_l F hS ⟨Option.some.inj h, rfl⟩ hr0 dX8_worth_25 hk0
def f_X8_copies_2 (a1 : Int32) (a2 : Int32)  : Nat → ZI → Int32 → Option (ZI)
  | 0, _, _ => none
  | n + 1, σ, v3 => if (18 : Int32) ≤ v3 then (some σ) else (if inB (a1 + v3) 90 = true then (if inB (a2 + v3) 90 = true then (lt_ (va_up σ 61 (upd (σ 61) (a2 + v3).toNatClampNeg (σ 61 (a1 + v3).toNatClampNeg))) (fun σ1 => f_X8_copies_2 a1 a2 n σ1 (v3 + (1 : Int32)))) else none) else none)
def f_X8_copies (σ : ZI) (a1 : Int32) (a2 : Int32) : Option (ZI) := f_X8_copies_2 a1 a2 3000 σ (0 : Int32)
abbrev rm_X8_copies : Room := { frames := 0, cells := 0, slots := 0, locals := 0 }
set_option maxHeartbeats 4000000 in
set_option maxRecDepth 100000 in
theorem c_X8_copies (l : Launch) (g : GG) (σ : ZI) (τ : ZL) (a1 : Int32) (a2 : Int32) (res : ZI) (h : f_X8_copies σ a1 a2 = some res) : MV l yX8_copies cX8_copies 4 none rm_X8_copies g [.ref (gA g 60), .int a1, .int a2] σ τ (fun (u : ZI × ZL) => u.1 = res ∧ u.2 = τ) := by
  refine Met_in (by decide) (Nat.le_of_ble_eq_true rfl) ?_
  intro p e s m args below meth c F G hP hr0 hk0 ls hl
  have hS := WS.start hP
  have hl : lv_has ls 4 [(0, .ref (gA g 60)), (1, .int a1), (2, .int a2)] := hl
  obtain ⟨H, hH⟩ : ∃ H, H = s.heap := ⟨_, rfl⟩
  rw [← hH] at hS ⊢
  clear hH hP
  rw [f_X8_copies] at h
  have w_2 : ∀ (n : Nat) (σ : ZI) (v3 : Int32), f_X8_copies_2 a1 a2 n σ v3 = some res → ∀ (H : Heap) (locs : List Loc) (ls : Array Slot), WS g σ τ s H locs → lv_has ls 4 [(0, .ref (gA g 60)), (1, .int a1), (2, .int a2), (3, .int v3)] → W p l e rm_X8_copies s m args below meth c H locs 0 0 (MQ below (va_Qv (fun (u : ZI × ZL) => u.1 = res ∧ u.2 = τ) (WQ g) (AA g)) args s 0 0 (AA g)) (F0 m 2 ls []) := by
    intro n
    induction n with
    | zero => intro σ v3 h; rw [f_X8_copies_2] at h; cases h
    | succ n ih =>
      intro σ v3 h H locs ls hS hl
      rw [f_X8_copies_2] at h
      refine lv_iload_n F.1 F.2.1 dX8_copies_2 rfl (lv_at hl 3 rfl) ?_
      refine lv_bipush (v := (18 : Int32)) F.1 F.2.1 dX8_copies_3 (by decide) ?_
      refine lv_icmp_ge (tgt := 30) F.1 F.2.1 dX8_copies_5 (by decide) (fun hc => ?_) (fun hc => ?_)
      · replace h := ifT h hc
        exact e_v F hS ⟨Option.some.inj h, rfl⟩ hr0 dX8_copies_30 hk0
      replace h := ifF h hc
      refine lv_aload_n F.1 F.2.1 dX8_copies_8 rfl (lv_at hl 0 rfl) ?_
      refine gf_X8_7 F G hS dX8_copies_9 ?_
      refine lv_iload_n F.1 F.2.1 dX8_copies_12 rfl (lv_at hl 2 rfl) ?_
      refine lv_iload_n F.1 F.2.1 dX8_copies_13 rfl (lv_at hl 3 rfl) ?_
      refine lv_iadd F.1 F.2.1 dX8_copies_14 ?_
      refine lv_aload_n F.1 F.2.1 dX8_copies_15 rfl (lv_at hl 0 rfl) ?_
      refine gf_X8_7 F G hS dX8_copies_16 ?_
      refine lv_iload_n F.1 F.2.1 dX8_copies_19 rfl (lv_at hl 1 rfl) ?_
      refine lv_iload_n F.1 F.2.1 dX8_copies_20 rfl (lv_at hl 3 rfl) ?_
      refine lv_iadd F.1 F.2.1 dX8_copies_21 ?_
      obtain ⟨hin, h⟩ := gd h
      refine x_iald F G hS 61 rfl hin dX8_copies_22 ?_
      obtain ⟨hin, h⟩ := gd h
      refine x_iast F G hS 61 rfl hin dX8_copies_23 (fun H locs hS => ?_)
      obtain ⟨σ1, e_σ1, h⟩ := ltE h
      rw [← e_σ1] at hS
      clear e_σ1
      refine lv_iinc (v := (v3 + (1 : Int32))) (lv' := [(3, .int (v3 + (1 : Int32))), (0, .ref (gA g 60)), (1, .int a1), (2, .int a2)]) F.1 F.2.1 dX8_copies_24 hl (k := 3) rfl rfl (by decide) rfl (fun ls hl => ?_)
      refine lv_goto (tgt := 2) F.1 F.2.1 dX8_copies_27 (by decide) ?_
      exact ih σ1 (v3 + (1 : Int32)) h H locs _ hS (lv_sub hl [1, 2, 3, 0] rfl)
  obtain ⟨locs, hlo⟩ : ∃ z : List Loc, z = [] := ⟨_, rfl⟩
  rw [← hlo] at hS ⊢
  clear hlo
  refine lv_iconst (v := (0 : Int32)) F.1 F.2.1 dX8_copies_0 (by decide) ?_
  refine lv_istore_n (lv' := [(3, .int (0 : Int32)), (0, .ref (gA g 60)), (1, .int a1), (2, .int a2)]) F.1 F.2.1 dX8_copies_1 rfl hl (by decide) rfl (fun ls hl => ?_)
  exact w_2 3000 σ (0 : Int32) h H locs _ hS (lv_sub hl [1, 2, 3, 0] rfl)
def f_X8_best_136 (a1 : Int32) (k_45 : ZI → Int64 → Int32 → Int32 → Int32 → Option (Int64 × ZI)) (σ : ZI) (v4 : Int32) (v5 : Int32) (v6 : Int32) (s0 : Int64) : Option (Int64 × ZI) := k_45 σ s0 v4 v5 (v6 + (1 : Int32))
def f_X8_best_123 (a1 : Int32) (k_45 : ZI → Int64 → Int32 → Int32 → Int32 → Option (Int64 × ZI)) (σ : ZI) (v2 : Int64) (v5 : Int32) (v6 : Int32) (v7 : Int64) (v9 : Int32) (s0 : Int32) : Option (Int64 × ZI) := if v9 = 0 then (f_X8_best_136 a1 k_45 σ s0 v5 v6 v2) else (f_X8_best_136 a1 k_45 σ s0 v5 v6 v7)
def f_X8_best_103 (a1 : Int32) (k_45 : ZI → Int64 → Int32 → Int32 → Int32 → Option (Int64 × ZI)) (σ : ZI) (v2 : Int64) (v4 : Int32) (v5 : Int32) (v6 : Int32) (v7 : Int64) (s0 : Int32) : Option (Int64 × ZI) := if s0 = 0 then (f_X8_best_123 a1 k_45 σ v2 v5 v6 v7 s0 v4) else (f_X8_best_123 a1 k_45 σ v2 v5 v6 v7 s0 (((100 : Int32) * v5) + v6))
def f_X8_best_98 (a1 : Int32) (k_45 : ZI → Int64 → Int32 → Int32 → Int32 → Option (Int64 × ZI)) (σ : ZI) (v2 : Int64) (v4 : Int32) (v5 : Int32) (v6 : Int32) (v7 : Int64) : Option (Int64 × ZI) := f_X8_best_103 a1 k_45 σ v2 v4 v5 v6 v7 (1 : Int32)
def f_X8_best_45 (a1 : Int32) (k_32 : ZI → Int64 → Int32 → Int32 → Option (Int64 × ZI)) : Nat → ZI → Int64 → Int32 → Int32 → Int32 → Option (Int64 × ZI)
  | 0, _, _, _, _, _ => none
  | n + 1, σ, v2, v4, v5, v6 => if (11 : Int32) < v6 then (k_32 σ v2 v4 (v5 + (1 : Int32))) else (lt_ (va_up σ 61 (upd (σ 61) 15 (v5 - (2 : Int32)))) (fun σ6 => lt_ (va_up σ6 61 (upd (σ6 61) 16 (v6 - (4 : Int32)))) (fun σ7 => (f_X8_sumOf σ7 (6 : Int32) (0 : Int32) (0 : Int32)).bind (fun q8 => if v4 = (-4 : Int32) then (f_X8_best_98 a1 (fun σ v2 v4 v5 v6 => f_X8_best_45 a1 k_32 n σ v2 v4 v5 v6) q8.2 v2 v4 v5 v6 q8.1) else (if (lg_cmp q8.1 v2) ≤ 0 then (f_X8_best_103 a1 (fun σ v2 v4 v5 v6 => f_X8_best_45 a1 k_32 n σ v2 v4 v5 v6) q8.2 v2 v4 v5 v6 q8.1 (0 : Int32)) else (f_X8_best_98 a1 (fun σ v2 v4 v5 v6 => f_X8_best_45 a1 k_32 n σ v2 v4 v5 v6) q8.2 v2 v4 v5 v6 q8.1))))))
def f_X8_best_32 (a1 : Int32)  : Nat → ZI → Int64 → Int32 → Int32 → Option (Int64 × ZI)
  | 0, _, _, _, _ => none
  | n + 1, σ, v2, v4, v5 => if (10 : Int32) < v5 then ((f_X8_copies σ (72 : Int32) (0 : Int32)).bind (fun q3 => if a1 = 0 then (some (v4.toInt64, q3)) else ((f_X8_allWeight q3 (1 : Int32)).bind (fun q4 => (f_X8_lowest v2 q4 (a1 - (1 : Int32))).bind (fun q5 => some (q5, q3)))))) else (f_X8_best_45 a1 (fun σ v2 v4 v5 => f_X8_best_32 a1 n σ v2 v4 v5) 3000 σ v2 v4 v5 (v5 + (1 : Int32)))
def f_X8_best (σ : ZI) (a1 : Int32) : Option (Int64 × ZI) := (f_X8_in a1.toInt64 (0 : Int64) (2 : Int64)).bind (fun q1 => if q1 = 0 then (some ((-1 : Int64), σ)) else ((f_X8_copies σ (0 : Int32) (72 : Int32)).bind (fun q2 => f_X8_best_32 a1 3000 q2 (0 : Int64) (-4 : Int32) (1 : Int32))))
abbrev rm_X8_best : Room := { frames := 5, cells := 0, slots := 0, locals := 126 }
set_option maxHeartbeats 4000000 in
set_option maxRecDepth 100000 in
theorem c_X8_best (l : Launch) (g : GG) (σ : ZI) (τ : ZL) (a1 : Int32) (res : Int64 × ZI) (h : f_X8_best σ a1 = some res) : ML l yX8_best cX8_best 10 (some .long) rm_X8_best g [.ref (gA g 60), .int a1] σ τ (fun (r : Int64) (u : ZI × ZL) => (r, u.1) = res ∧ u.2 = τ) := by
  refine Met_in (by decide) (Nat.le_of_ble_eq_true rfl) ?_
  intro p e s m args below meth c F G hP hr0 hk0 ls hl
  have hS := WS.start hP
  have hl : lv_has ls 10 [(0, .ref (gA g 60)), (1, .int a1)] := hl
  obtain ⟨H, hH⟩ : ∃ H, H = s.heap := ⟨_, rfl⟩
  rw [← hH] at hS ⊢
  clear hH hP
  rw [f_X8_best] at h
  have w_136 : ∀ (k_45 : ZI → Int64 → Int32 → Int32 → Int32 → Option (Int64 × ZI)) (hk_45 : ∀ (σ : ZI) (v2 : Int64) (v4 : Int32) (v5 : Int32) (v6 : Int32), k_45 σ v2 v4 v5 v6 = some res → ∀ (H : Heap) (locs : List Loc) (ls : Array Slot), WS g σ τ s H locs → lv_has ls 10 [(0, .ref (gA g 60)), (1, .int a1), (2, .long v2), (4, .int v4), (5, .int v5), (6, .int v6)] → W p l e rm_X8_best s m args below meth c H locs 0 0 (MQ below (va_Ql (fun (r : Int64) (u : ZI × ZL) => (r, u.1) = res ∧ u.2 = τ) (WQ g) (AA g)) args s 0 0 (AA g)) (F0 m 45 ls [])) (σ : ZI) (v4 : Int32) (v5 : Int32) (v6 : Int32) (s0 : Int64), f_X8_best_136 a1 k_45 σ v4 v5 v6 s0 = some res → ∀ (H : Heap) (locs : List Loc) (ls : Array Slot), WS g σ τ s H locs → lv_has ls 10 [(0, .ref (gA g 60)), (1, .int a1), (4, .int v4), (5, .int v5), (6, .int v6)] → W p l e rm_X8_best s m args below meth c H locs 0 0 (MQ below (va_Ql (fun (r : Int64) (u : ZI × ZL) => (r, u.1) = res ∧ u.2 = τ) (WQ g) (AA g)) args s 0 0 (AA g)) (F0 m 136 ls [.long s0]) := by
    intro k_45 hk_45 σ v4 v5 v6 s0 h H locs ls hS hl
    rw [f_X8_best_136] at h
    refine lv_lstore_n (lv' := [(2, .long s0), (0, .ref (gA g 60)), (1, .int a1), (4, .int v4), (5, .int v5), (6, .int v6)]) F.1 F.2.1 dX8_best_136 rfl hl (by decide) rfl (fun ls hl => ?_)
    refine lv_iinc (v := (v6 + (1 : Int32))) (lv' := [(6, .int (v6 + (1 : Int32))), (2, .long s0), (0, .ref (gA g 60)), (1, .int a1), (4, .int v4), (5, .int v5)]) F.1 F.2.1 dX8_best_137 hl (k := 5) rfl rfl (by decide) rfl (fun ls hl => ?_)
    refine lv_goto (tgt := 45) F.1 F.2.1 dX8_best_140 (by decide) ?_
    exact hk_45 σ s0 v4 v5 (v6 + (1 : Int32)) h H locs _ hS (lv_sub hl [2, 3, 1, 4, 5, 0] rfl)
  have w_123 : ∀ (k_45 : ZI → Int64 → Int32 → Int32 → Int32 → Option (Int64 × ZI)) (hk_45 : ∀ (σ : ZI) (v2 : Int64) (v4 : Int32) (v5 : Int32) (v6 : Int32), k_45 σ v2 v4 v5 v6 = some res → ∀ (H : Heap) (locs : List Loc) (ls : Array Slot), WS g σ τ s H locs → lv_has ls 10 [(0, .ref (gA g 60)), (1, .int a1), (2, .long v2), (4, .int v4), (5, .int v5), (6, .int v6)] → W p l e rm_X8_best s m args below meth c H locs 0 0 (MQ below (va_Ql (fun (r : Int64) (u : ZI × ZL) => (r, u.1) = res ∧ u.2 = τ) (WQ g) (AA g)) args s 0 0 (AA g)) (F0 m 45 ls [])) (σ : ZI) (v2 : Int64) (v5 : Int32) (v6 : Int32) (v7 : Int64) (v9 : Int32) (s0 : Int32), f_X8_best_123 a1 k_45 σ v2 v5 v6 v7 v9 s0 = some res → ∀ (H : Heap) (locs : List Loc) (ls : Array Slot), WS g σ τ s H locs → lv_has ls 10 [(0, .ref (gA g 60)), (1, .int a1), (2, .long v2), (5, .int v5), (6, .int v6), (7, .long v7), (9, .int v9)] → W p l e rm_X8_best s m args below meth c H locs 0 0 (MQ below (va_Ql (fun (r : Int64) (u : ZI × ZL) => (r, u.1) = res ∧ u.2 = τ) (WQ g) (AA g)) args s 0 0 (AA g)) (F0 m 123 ls [.int s0]) := by
    intro k_45 hk_45 σ v2 v5 v6 v7 v9 s0 h H locs ls hS hl
    rw [f_X8_best_123] at h
    refine lv_istore (lv' := [(4, .int s0), (0, .ref (gA g 60)), (1, .int a1), (2, .long v2), (5, .int v5), (6, .int v6), (7, .long v7), (9, .int v9)]) F.1 F.2.1 dX8_best_123 hl (by decide) rfl (fun ls hl => ?_)
    refine lv_iload F.1 F.2.1 dX8_best_125 (lv_at hl 7 rfl) ?_
    refine lv_if_eq (tgt := 135) F.1 F.2.1 dX8_best_127 (by decide) (fun hc => ?_) (fun hc => ?_)
    · replace h := ifT h hc
      refine lv_lload_n F.1 F.2.1 dX8_best_135 rfl (lv_at hl 3 rfl) ?_
      exact w_136 _ hk_45 σ s0 v5 v6 v2 h H locs _ hS (lv_sub hl [1, 2, 0, 4, 5] rfl)
    replace h := ifF h hc
    refine lv_lload F.1 F.2.1 dX8_best_130 (lv_at hl 6 rfl) ?_
    refine lv_goto (tgt := 136) F.1 F.2.1 dX8_best_132 (by decide) ?_
    exact w_136 _ hk_45 σ s0 v5 v6 v7 h H locs _ hS (lv_sub hl [1, 2, 0, 4, 5] rfl)
  have w_103 : ∀ (k_45 : ZI → Int64 → Int32 → Int32 → Int32 → Option (Int64 × ZI)) (hk_45 : ∀ (σ : ZI) (v2 : Int64) (v4 : Int32) (v5 : Int32) (v6 : Int32), k_45 σ v2 v4 v5 v6 = some res → ∀ (H : Heap) (locs : List Loc) (ls : Array Slot), WS g σ τ s H locs → lv_has ls 10 [(0, .ref (gA g 60)), (1, .int a1), (2, .long v2), (4, .int v4), (5, .int v5), (6, .int v6)] → W p l e rm_X8_best s m args below meth c H locs 0 0 (MQ below (va_Ql (fun (r : Int64) (u : ZI × ZL) => (r, u.1) = res ∧ u.2 = τ) (WQ g) (AA g)) args s 0 0 (AA g)) (F0 m 45 ls [])) (σ : ZI) (v2 : Int64) (v4 : Int32) (v5 : Int32) (v6 : Int32) (v7 : Int64) (s0 : Int32), f_X8_best_103 a1 k_45 σ v2 v4 v5 v6 v7 s0 = some res → ∀ (H : Heap) (locs : List Loc) (ls : Array Slot), WS g σ τ s H locs → lv_has ls 10 [(0, .ref (gA g 60)), (1, .int a1), (2, .long v2), (4, .int v4), (5, .int v5), (6, .int v6), (7, .long v7)] → W p l e rm_X8_best s m args below meth c H locs 0 0 (MQ below (va_Ql (fun (r : Int64) (u : ZI × ZL) => (r, u.1) = res ∧ u.2 = τ) (WQ g) (AA g)) args s 0 0 (AA g)) (F0 m 103 ls [.int s0]) := by
    intro k_45 hk_45 σ v2 v4 v5 v6 v7 s0 h H locs ls hS hl
    rw [f_X8_best_103] at h
    refine lv_istore (lv' := [(9, .int s0), (0, .ref (gA g 60)), (1, .int a1), (2, .long v2), (4, .int v4), (5, .int v5), (6, .int v6), (7, .long v7)]) F.1 F.2.1 dX8_best_103 hl (by decide) rfl (fun ls hl => ?_)
    refine lv_iload F.1 F.2.1 dX8_best_105 (lv_at hl 0 rfl) ?_
    refine lv_if_eq (tgt := 121) F.1 F.2.1 dX8_best_107 (by decide) (fun hc => ?_) (fun hc => ?_)
    · replace h := ifT h hc
      refine lv_iload F.1 F.2.1 dX8_best_121 (lv_at hl 4 rfl) ?_
      exact w_123 _ hk_45 σ v2 v5 v6 v7 s0 v4 h H locs _ hS (lv_sub hl [1, 2, 3, 5, 6, 7, 0] rfl)
    replace h := ifF h hc
    refine lv_bipush (v := (100 : Int32)) F.1 F.2.1 dX8_best_110 (by decide) ?_
    refine lv_iload F.1 F.2.1 dX8_best_112 (lv_at hl 5 rfl) ?_
    refine lv_imul F.1 F.2.1 dX8_best_114 ?_
    refine lv_iload F.1 F.2.1 dX8_best_115 (lv_at hl 6 rfl) ?_
    refine lv_iadd F.1 F.2.1 dX8_best_117 ?_
    refine lv_goto (tgt := 123) F.1 F.2.1 dX8_best_118 (by decide) ?_
    exact w_123 _ hk_45 σ v2 v5 v6 v7 s0 (((100 : Int32) * v5) + v6) h H locs _ hS (lv_sub hl [1, 2, 3, 5, 6, 7, 0] rfl)
  have w_98 : ∀ (k_45 : ZI → Int64 → Int32 → Int32 → Int32 → Option (Int64 × ZI)) (hk_45 : ∀ (σ : ZI) (v2 : Int64) (v4 : Int32) (v5 : Int32) (v6 : Int32), k_45 σ v2 v4 v5 v6 = some res → ∀ (H : Heap) (locs : List Loc) (ls : Array Slot), WS g σ τ s H locs → lv_has ls 10 [(0, .ref (gA g 60)), (1, .int a1), (2, .long v2), (4, .int v4), (5, .int v5), (6, .int v6)] → W p l e rm_X8_best s m args below meth c H locs 0 0 (MQ below (va_Ql (fun (r : Int64) (u : ZI × ZL) => (r, u.1) = res ∧ u.2 = τ) (WQ g) (AA g)) args s 0 0 (AA g)) (F0 m 45 ls [])) (σ : ZI) (v2 : Int64) (v4 : Int32) (v5 : Int32) (v6 : Int32) (v7 : Int64), f_X8_best_98 a1 k_45 σ v2 v4 v5 v6 v7 = some res → ∀ (H : Heap) (locs : List Loc) (ls : Array Slot), WS g σ τ s H locs → lv_has ls 10 [(0, .ref (gA g 60)), (1, .int a1), (2, .long v2), (4, .int v4), (5, .int v5), (6, .int v6), (7, .long v7)] → W p l e rm_X8_best s m args below meth c H locs 0 0 (MQ below (va_Ql (fun (r : Int64) (u : ZI × ZL) => (r, u.1) = res ∧ u.2 = τ) (WQ g) (AA g)) args s 0 0 (AA g)) (F0 m 98 ls []) := by
    intro k_45 hk_45 σ v2 v4 v5 v6 v7 h H locs ls hS hl
    rw [f_X8_best_98] at h
    refine lv_iconst (v := (1 : Int32)) F.1 F.2.1 dX8_best_98 (by decide) ?_
    refine lv_goto (tgt := 103) F.1 F.2.1 dX8_best_99 (by decide) ?_
    exact w_103 _ hk_45 σ v2 v4 v5 v6 v7 (1 : Int32) h H locs _ hS (lv_sub hl [0, 1, 2, 3, 4, 5, 6] rfl)
  have w_45 : ∀ (k_32 : ZI → Int64 → Int32 → Int32 → Option (Int64 × ZI)) (hk_32 : ∀ (σ : ZI) (v2 : Int64) (v4 : Int32) (v5 : Int32), k_32 σ v2 v4 v5 = some res → ∀ (H : Heap) (locs : List Loc) (ls : Array Slot), WS g σ τ s H locs → lv_has ls 10 [(0, .ref (gA g 60)), (1, .int a1), (2, .long v2), (4, .int v4), (5, .int v5)] → W p l e rm_X8_best s m args below meth c H locs 0 0 (MQ below (va_Ql (fun (r : Int64) (u : ZI × ZL) => (r, u.1) = res ∧ u.2 = τ) (WQ g) (AA g)) args s 0 0 (AA g)) (F0 m 32 ls [])) (n : Nat) (σ : ZI) (v2 : Int64) (v4 : Int32) (v5 : Int32) (v6 : Int32), f_X8_best_45 a1 k_32 n σ v2 v4 v5 v6 = some res → ∀ (H : Heap) (locs : List Loc) (ls : Array Slot), WS g σ τ s H locs → lv_has ls 10 [(0, .ref (gA g 60)), (1, .int a1), (2, .long v2), (4, .int v4), (5, .int v5), (6, .int v6)] → W p l e rm_X8_best s m args below meth c H locs 0 0 (MQ below (va_Ql (fun (r : Int64) (u : ZI × ZL) => (r, u.1) = res ∧ u.2 = τ) (WQ g) (AA g)) args s 0 0 (AA g)) (F0 m 45 ls []) := by
    intro k_32 hk_32
    intro n
    induction n with
    | zero => intro σ v2 v4 v5 v6 h; rw [f_X8_best_45] at h; cases h
    | succ n ih =>
      intro σ v2 v4 v5 v6 h H locs ls hS hl
      rw [f_X8_best_45] at h
      refine lv_iload F.1 F.2.1 dX8_best_45 (lv_at hl 5 rfl) ?_
      refine lv_bipush (v := (11 : Int32)) F.1 F.2.1 dX8_best_47 (by decide) ?_
      refine lv_icmp_gt (tgt := 143) F.1 F.2.1 dX8_best_49 (by decide) (fun hc => ?_) (fun hc => ?_)
      · replace h := ifT h hc
        refine lv_iinc (v := (v5 + (1 : Int32))) (lv' := [(5, .int (v5 + (1 : Int32))), (0, .ref (gA g 60)), (1, .int a1), (2, .long v2), (4, .int v4), (6, .int v6)]) F.1 F.2.1 dX8_best_143 hl (k := 4) rfl rfl (by decide) rfl (fun ls hl => ?_)
        refine lv_goto (tgt := 32) F.1 F.2.1 dX8_best_146 (by decide) ?_
        exact hk_32 σ v2 v4 (v5 + (1 : Int32)) h H locs _ hS (lv_sub hl [1, 2, 3, 4, 0] rfl)
      replace h := ifF h hc
      refine lv_aload_n F.1 F.2.1 dX8_best_52 rfl (lv_at hl 0 rfl) ?_
      refine gf_X8_7 F G hS dX8_best_53 ?_
      refine lv_bipush (v := (15 : Int32)) F.1 F.2.1 dX8_best_56 (by decide) ?_
      refine lv_iload F.1 F.2.1 dX8_best_58 (lv_at hl 4 rfl) ?_
      refine lv_iconst (v := (2 : Int32)) F.1 F.2.1 dX8_best_60 (by decide) ?_
      refine lv_isub F.1 F.2.1 dX8_best_61 ?_
      refine x_iastL F G hS 61 rfl 15 rfl (by decide) dX8_best_62 (fun H locs hS => ?_)
      obtain ⟨σ6, e_σ6, h⟩ := ltE h
      rw [← e_σ6] at hS
      clear e_σ6
      refine lv_aload_n F.1 F.2.1 dX8_best_63 rfl (lv_at hl 0 rfl) ?_
      refine gf_X8_7 F G hS dX8_best_64 ?_
      refine lv_bipush (v := (16 : Int32)) F.1 F.2.1 dX8_best_67 (by decide) ?_
      refine lv_iload F.1 F.2.1 dX8_best_69 (lv_at hl 5 rfl) ?_
      refine lv_iconst (v := (4 : Int32)) F.1 F.2.1 dX8_best_71 (by decide) ?_
      refine lv_isub F.1 F.2.1 dX8_best_72 ?_
      refine x_iastL F G hS 61 rfl 16 rfl (by decide) dX8_best_73 (fun H locs hS => ?_)
      obtain ⟨σ7, e_σ7, h⟩ := ltE h
      rw [← e_σ7] at hS
      clear e_σ7
      refine lv_aload_n F.1 F.2.1 dX8_best_74 rfl (lv_at hl 0 rfl) ?_
      refine lv_bipush (v := (6 : Int32)) F.1 F.2.1 dX8_best_75 (by decide) ?_
      refine lv_iconst (v := (0 : Int32)) F.1 F.2.1 dX8_best_77 (by decide) ?_
      refine lv_iconst (v := (0 : Int32)) F.1 F.2.1 dX8_best_78 (by decide) ?_
      obtain ⟨q8, h_q8, h⟩ := bd h
      refine rVl F G hS hl.1 (c_X8_sumOf l g σ7 τ (6 : Int32) (0 : Int32) (0 : Int32) q8 h_q8) lk_X8_272 ⟨rfl, rfl, Nat.le_of_ble_eq_true rfl, Nat.le_of_ble_eq_true rfl⟩ (rc_X8 G hS) rfl rfl (Nat.le_of_ble_eq_true rfl) dX8_best_79 (kIl (fun H locs hS => ?_))
      refine lv_lstore (lv' := [(7, .long q8.1), (0, .ref (gA g 60)), (1, .int a1), (2, .long v2), (4, .int v4), (5, .int v5), (6, .int v6)]) F.1 F.2.1 dX8_best_82 hl (by decide) rfl (fun ls hl => ?_)
      refine lv_iload F.1 F.2.1 dX8_best_84 (lv_at hl 4 rfl) ?_
      refine lv_bipush (v := (-4 : Int32)) F.1 F.2.1 dX8_best_86 (by decide) ?_
      refine lv_icmp_eq (tgt := 98) F.1 F.2.1 dX8_best_88 (by decide) (fun hc => ?_) (fun hc => ?_)
      · replace h := ifT h hc
        exact w_98 _ (fun σ v2 v4 v5 v6 => ih σ v2 v4 v5 v6) q8.2 v2 v4 v5 v6 q8.1 h H locs _ hS (lv_sub hl [1, 2, 3, 4, 5, 6, 0] rfl)
      replace h := ifF h hc
      refine lv_lload F.1 F.2.1 dX8_best_91 (lv_at hl 0 rfl) ?_
      refine lv_lload_n F.1 F.2.1 dX8_best_93 rfl (lv_at hl 3 rfl) ?_
      refine W.lcmp F.1 F.2.1 dX8_best_94 ?_
      refine lv_if_le (tgt := 102) F.1 F.2.1 dX8_best_95 (by decide) (fun hc => ?_) (fun hc => ?_)
      rotate_left
      · replace h := ifF h hc
        exact w_98 _ (fun σ v2 v4 v5 v6 => ih σ v2 v4 v5 v6) q8.2 v2 v4 v5 v6 q8.1 h H locs _ hS (lv_sub hl [1, 2, 3, 4, 5, 6, 0] rfl)
      replace h := ifT h hc
      refine lv_iconst (v := (0 : Int32)) F.1 F.2.1 dX8_best_102 (by decide) ?_
      exact w_103 _ (fun σ v2 v4 v5 v6 => ih σ v2 v4 v5 v6) q8.2 v2 v4 v5 v6 q8.1 (0 : Int32) h H locs _ hS (lv_sub hl [1, 2, 3, 4, 5, 6, 0] rfl)
  have w_32 : ∀ (n : Nat) (σ : ZI) (v2 : Int64) (v4 : Int32) (v5 : Int32), f_X8_best_32 a1 n σ v2 v4 v5 = some res → ∀ (H : Heap) (locs : List Loc) (ls : Array Slot), WS g σ τ s H locs → lv_has ls 10 [(0, .ref (gA g 60)), (1, .int a1), (2, .long v2), (4, .int v4), (5, .int v5)] → W p l e rm_X8_best s m args below meth c H locs 0 0 (MQ below (va_Ql (fun (r : Int64) (u : ZI × ZL) => (r, u.1) = res ∧ u.2 = τ) (WQ g) (AA g)) args s 0 0 (AA g)) (F0 m 32 ls []) := by
    intro n
    induction n with
    | zero => intro σ v2 v4 v5 h; rw [f_X8_best_32] at h; cases h
    | succ n ih =>
      intro σ v2 v4 v5 h H locs ls hS hl
      rw [f_X8_best_32] at h
      refine lv_iload F.1 F.2.1 dX8_best_32 (lv_at hl 4 rfl) ?_
      refine lv_bipush (v := (10 : Int32)) F.1 F.2.1 dX8_best_34 (by decide) ?_
      refine lv_icmp_gt (tgt := 149) F.1 F.2.1 dX8_best_36 (by decide) (fun hc => ?_) (fun hc => ?_)
      rotate_left
      · replace h := ifF h hc
        refine lv_iload F.1 F.2.1 dX8_best_39 (lv_at hl 4 rfl) ?_
        refine lv_iconst (v := (1 : Int32)) F.1 F.2.1 dX8_best_41 (by decide) ?_
        refine lv_iadd F.1 F.2.1 dX8_best_42 ?_
        refine lv_istore (lv' := [(6, .int (v5 + (1 : Int32))), (0, .ref (gA g 60)), (1, .int a1), (2, .long v2), (4, .int v4), (5, .int v5)]) F.1 F.2.1 dX8_best_43 hl (by decide) rfl (fun ls hl => ?_)
        exact w_45 _ (fun σ v2 v4 v5 => ih σ v2 v4 v5) 3000 σ v2 v4 v5 (v5 + (1 : Int32)) h H locs _ hS (lv_sub hl [1, 2, 3, 4, 5, 0] rfl)
      replace h := ifT h hc
      refine lv_aload_n F.1 F.2.1 dX8_best_149 rfl (lv_at hl 0 rfl) ?_
      refine lv_bipush (v := (72 : Int32)) F.1 F.2.1 dX8_best_150 (by decide) ?_
      refine lv_iconst (v := (0 : Int32)) F.1 F.2.1 dX8_best_152 (by decide) ?_
      obtain ⟨q3, h_q3, h⟩ := bd h
      refine rVv F G hS hl.1 (c_X8_copies l g σ τ (72 : Int32) (0 : Int32) q3 h_q3) lk_X8_292 ⟨rfl, rfl, Nat.le_of_ble_eq_true rfl, Nat.le_of_ble_eq_true rfl⟩ (rc_X8 G hS) rfl rfl (Nat.le_of_ble_eq_true rfl) dX8_best_153 (kIv (fun H locs hS => ?_))
      refine lv_iload_n F.1 F.2.1 dX8_best_156 rfl (lv_at hl 1 rfl) ?_
      refine lv_if_ne (tgt := 166) F.1 F.2.1 dX8_best_157 (by decide) (fun hc => ?_) (fun hc => ?_)
      rotate_left
      · replace h := ifT h hc
        refine lv_iload F.1 F.2.1 dX8_best_160 (lv_at hl 3 rfl) ?_
        refine lv_i2l F.1 F.2.1 dX8_best_162 rfl ?_
        refine lv_goto (tgt := 178) F.1 F.2.1 dX8_best_163 (by decide) ?_
        exact e_l F hS ⟨Option.some.inj h, rfl⟩ hr0 dX8_best_178 hk0
      replace h := ifF h hc
      refine lv_lload_n F.1 F.2.1 dX8_best_166 rfl (lv_at hl 2 rfl) ?_
      refine lv_aload_n F.1 F.2.1 dX8_best_167 rfl (lv_at hl 0 rfl) ?_
      refine lv_iconst (v := (1 : Int32)) F.1 F.2.1 dX8_best_168 (by decide) ?_
      obtain ⟨q4, h_q4, h⟩ := bd h
      refine rVl F G hS hl.1 (c_X8_allWeight l g q3 τ (1 : Int32) q4 h_q4) lk_X8_276 ⟨rfl, rfl, Nat.le_of_ble_eq_true rfl, Nat.le_of_ble_eq_true rfl⟩ (rc_X8 G hS) rfl rfl (Nat.le_of_ble_eq_true rfl) dX8_best_169 (kRl (fun H locs hS => ?_))
      refine lv_iload_n F.1 F.2.1 dX8_best_172 rfl (lv_at hl 1 rfl) ?_
      refine lv_iconst (v := (1 : Int32)) F.1 F.2.1 dX8_best_173 (by decide) ?_
      refine lv_isub F.1 F.2.1 dX8_best_174 ?_
      obtain ⟨q5, h_q5, h⟩ := bd h
      refine rSl F G hS hl.1 (c_X8_lowest l g q3 τ v2 q4 (a1 - (1 : Int32)) q5 h_q5) lk_X8_280 ⟨rfl, rfl, Nat.le_of_ble_eq_true rfl, Nat.le_of_ble_eq_true rfl⟩  rfl rfl (Nat.le_of_ble_eq_true rfl) dX8_best_175 (kRl (fun H locs hS => ?_))
      exact e_l F hS ⟨Option.some.inj h, rfl⟩ hr0 dX8_best_178 hk0
  obtain ⟨locs, hlo⟩ : ∃ z : List Loc, z = [] := ⟨_, rfl⟩
  rw [← hlo] at hS ⊢
  clear hlo
  refine lv_iload_n F.1 F.2.1 dX8_best_0 rfl (lv_at hl 1 rfl) ?_
  refine lv_i2l F.1 F.2.1 dX8_best_1 rfl ?_
  refine lv_lconst (v := (0 : Int64)) F.1 F.2.1 dX8_best_2 (by decide) ?_
  refine lv_ldc2 (v := (2 : Int64)) F.1 F.2.1 F.2.2.2.1 (F.2.2.2.2 _ tb_1418) dX8_best_3 ?_
  obtain ⟨q1, h_q1, h⟩ := bd h
  refine rSi F G hS hl.1 (c_X8_in l g σ τ a1.toInt64 (0 : Int64) (2 : Int64) q1 h_q1) lk_X8_71 ⟨rfl, rfl, Nat.le_of_ble_eq_true rfl, Nat.le_of_ble_eq_true rfl⟩  rfl rfl (Nat.le_of_ble_eq_true rfl) dX8_best_6 (kRi (fun H locs hS => ?_))
  refine lv_if_ne (tgt := 16) F.1 F.2.1 dX8_best_9 (by decide) (fun hc => ?_) (fun hc => ?_)
  rotate_left
  · replace h := ifT h hc
    refine lv_ldc2 (v := (-1 : Int64)) F.1 F.2.1 F.2.2.2.1 (F.2.2.2.2 _ tb_1389) dX8_best_12 ?_
    exact e_l F hS ⟨Option.some.inj h, rfl⟩ hr0 dX8_best_15 hk0
  replace h := ifF h hc
  refine lv_lconst (v := (0 : Int64)) F.1 F.2.1 dX8_best_16 (by decide) ?_
  refine lv_lstore_n (lv' := [(2, .long (0 : Int64)), (0, .ref (gA g 60)), (1, .int a1)]) F.1 F.2.1 dX8_best_17 rfl hl (by decide) rfl (fun ls hl => ?_)
  refine lv_bipush (v := (-4 : Int32)) F.1 F.2.1 dX8_best_18 (by decide) ?_
  refine lv_istore (lv' := [(4, .int (-4 : Int32)), (2, .long (0 : Int64)), (0, .ref (gA g 60)), (1, .int a1)]) F.1 F.2.1 dX8_best_20 hl (by decide) rfl (fun ls hl => ?_)
  refine lv_aload_n F.1 F.2.1 dX8_best_22 rfl (lv_at hl 2 rfl) ?_
  refine lv_iconst (v := (0 : Int32)) F.1 F.2.1 dX8_best_23 (by decide) ?_
  refine lv_bipush (v := (72 : Int32)) F.1 F.2.1 dX8_best_24 (by decide) ?_
  obtain ⟨q2, h_q2, h⟩ := bd h
  refine rVv F G hS hl.1 (c_X8_copies l g σ τ (0 : Int32) (72 : Int32) q2 h_q2) lk_X8_292 ⟨rfl, rfl, Nat.le_of_ble_eq_true rfl, Nat.le_of_ble_eq_true rfl⟩ (rc_X8 G hS) rfl rfl (Nat.le_of_ble_eq_true rfl) dX8_best_26 (kIv (fun H locs hS => ?_))
  refine lv_iconst (v := (1 : Int32)) F.1 F.2.1 dX8_best_29 (by decide) ?_
  refine lv_istore (lv' := [(5, .int (1 : Int32)), (4, .int (-4 : Int32)), (2, .long (0 : Int64)), (0, .ref (gA g 60)), (1, .int a1)]) F.1 F.2.1 dX8_best_30 hl (by decide) rfl (fun ls hl => ?_)
  exact w_32 3000 q2 (0 : Int64) (-4 : Int32) (1 : Int32) h H locs _ hS (lv_sub hl [3, 4, 2, 1, 0] rfl)
