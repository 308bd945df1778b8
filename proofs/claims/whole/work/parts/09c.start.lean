/-! the law, from its entry -/
set_option maxHeartbeats 4000000 in
set_option maxRecDepth 100000 in
/-- YOUR PART: from the entry, for every script of at most 2560 ints, the law comes to its end with true -/
theorem whole_start {p : Program} {e : Env} {s : State} {m : MethodId} {below : List Frame} {meth : Method} {c : Code} (l : Launch) (hflags : l.flags = flags0) {b L : Nat} {xs : Nat → Int32} (hL : L ≤ 2560) (C0 : lw_At p s m meth c b L xs) : W p l e room_1 s m #[Value.ref b] below meth c s.heap [] 0 0 (lw_Z below #[Value.ref b] s) (entryFrame m ([Value.ref b] : List Value).toArray 4) := by
  obtain ⟨hx, hb, hr, hml, hown, hts, hX, hbl, hlocks, hgv⟩ := id C0
  obtain ⟨dC, dI, cs, tt, aK, aV, hKn⟩ := kn_all hts hgv
  have F : CallFix p m c code 4 s #[Value.ref b] TBL RL := ⟨hx, hb, hml, hown, fun w h => hts w (TBL_sub w h)⟩
  have hl := lv_entry ([.ref b]) (n := 4) (Nat.le_of_ble_eq_true rfl)
  rw [lg_entry_eq]
  generalize (lg_sl ([.ref b]) ++ List.replicate (4 - (lg_sl ([.ref b])).length) Slot.unset).toArray = ls at hl ⊢
  have hl : lv_has ls 4 [(0, .ref b)] := hl
  have hS : va_S (AA (gk dC dI cs tt aK aV s.heap.size (fun _ => 0))) s.heap s.heap [] := va_S.rf
  have hA : ∀ q : Nat, s.heap.size ≤ q → AA (gk dC dI cs tt aK aV s.heap.size (fun _ => 0)) q := fun _ h => h
  have hAB : ∀ q, AA (gk dC dI cs tt aK aV s.heap.size (fun _ => 0)) q → AA (gk dC dI cs tt aK aV s.heap.size (fun _ => 0)) q := fun _ h => h
  have hgb : gB (gk dC dI cs tt aK aV s.heap.size (fun _ => 0)) ≤ s.heap.size := Nat.le_refl _
  have Kc : CP (gk dC dI cs tt aK aV s.heap.size (fun _ => 0)) s := ⟨(hKn (fun _ => 0)).1, (hKn (fun _ => 0)).2.1, (hKn (fun _ => 0)).2.2.1.1⟩
  have hP : va_P (gD (gk dC dI cs tt aK aV s.heap.size (fun _ => 0))) vwCl [] s.heap := fun k q h => by simp at h
  have hD : va_D (AA (gk dC dI cs tt aK aV s.heap.size (fun _ => 0))) [] := ⟨fun i j p q h => by simp at h, fun k q h => by simp at h⟩
  refine va_new (ci := 7) (fs := [.null, .null, .null, .int 0, .null, .null, .int 0, .null, .null, .null, .null, .null, .int 0]) (C := RX7) (T := TX7) (N := 13) F.1 F.2.1 F.2.2.2.2 inX7 tyX7 tyX7_ok F.2.2.2.1 (F.2.2.2.2 _ tw_cl7) (F.2.2.2.2 _ tw_in7) (F.2.2.2.2 _ tb_109) Kc.1 hP hD hS hA rfl (fun j hj => match j, hj with | 0, _ => rfl | 1, _ => rfl | 2, _ => rfl | 3, _ => rfl | 4, _ => rfl | 5, _ => rfl | 6, _ => rfl | 7, _ => rfl | 8, _ => rfl | 9, _ => rfl | 10, _ => rfl | 11, _ => rfl | 12, _ => rfl | k + 13, h9 => absurd h9 (by omega)) (Nat.le_of_ble_eq_true rfl) (Nat.le_of_ble_eq_true rfl) dL_law_0 (fun q7 H hP hD hS => ?_)
  refine W.cs (cells' := 1) (slots' := 13) rfl rfl ?_
  have hP : va_P (gD (gk dC dI cs tt aK aV s.heap.size (fun _ => 0))) vwCl [(q7, .inr (7, [.null, .null, .null, .int 0, .null, .null, .int 0, .null, .null, .null, .null, .null, .int 0]))] H := hP
  have hD : va_D (AA (gk dC dI cs tt aK aV s.heap.size (fun _ => 0))) [(q7, .inr (7, [.null, .null, .null, .int 0, .null, .null, .int 0, .null, .null, .null, .null, .null, .int 0]))] := hD
  refine lv_dup F.1 F.2.1 dL_law_3 rfl ?_
  have hPc := hP.sub (ws' := [(q7, .inr (7, [.null, .null, .null, .int 0, .null, .null, .int 0, .null, .null, .null, .null, .null, .int 0]))]) [0] rfl
  have hDc := hD.sub (ws' := [(q7, .inr (7, [.null, .null, .null, .int 0, .null, .null, .int 0, .null, .null, .null, .null, .null, .int 0]))]) [0] (by decide) rfl
  have hFc := va_free (wc := [(q7, .inr (7, [.null, .null, .null, .int 0, .null, .null, .int 0, .null, .null, .null, .null, .null, .int 0]))]) hD hS hA [0] rfl
  refine va_callv (va_runI (As := []) (rest := [.ref q7]) F (k_X7_init l (gk dC dI cs tt aK aV s.heap.size (fun _ => 0)) q7 H.size) (y_cw F tw_ml7 tb_109 tw_cd7 tw_im7 ⟨by decide, by decide, (show Option.map (fun d => d.parameters.length) (parseMethodDescriptor yX7_init.desc) = some 0 by decide +kernel)⟩ ⟨Nat.le_of_ble_eq_true rfl, Nat.le_of_ble_eq_true rfl⟩) (y_pre Kc hS hAB hgb hPc hDc) rfl rfl hl.1 rfl (lv_room (Nat.le_of_ble_eq_true rfl)) dL_law_4 ⟨Nat.le_of_ble_eq_true rfl, Nat.le_of_ble_eq_true rfl⟩) hS (fun q _ h => hFc q h) hFc (fun u t H1 locs ht hvm hw hB hz1 hk1 hS => ?_)
  obtain ⟨hP1, hD1⟩ := hB
  rw [ht] at hP1
  have hP1 : va_P (gD (gk dC dI cs tt aK aV s.heap.size (fun _ => 0))) vwCl (w7 (gk dC dI cs tt aK aV s.heap.size (fun _ => 0)) q7 u) H1 := hP1
  have hD1 : va_D (va_A [(q7, .inr (7, [.null, .null, .null, .int 0, .null, .null, .int 0, .null, .null, .null, .null, .null, .int 0]))] H.size) (w7 (gk dC dI cs tt aK aV s.heap.size (fun _ => 0)) q7 u) := hD1
  obtain ⟨hP, hD⟩ := va_join (wr := []) (w1 := w7 (gk dC dI cs tt aK aV s.heap.size (fun _ => 0)) q7 u) hP hD [0] [] rfl rfl (by decide) (by decide) hk1 hFc hP1 hD1
  generalize H1 = H at hP hS ⊢
  refine W.cs (cells' := 60) (slots' := 678) rfl rfl ?_
  have hP : va_P (gD (gk dC dI cs tt aK aV s.heap.size (fun _ => 0))) vwCl (w7 (gk dC dI cs tt aK aV s.heap.size (fun _ => 0)) q7 u) H := hP
  have hD : va_D (AA (gk dC dI cs tt aK aV s.heap.size (fun _ => 0))) (w7 (gk dC dI cs tt aK aV s.heap.size (fun _ => 0)) q7 u) := hD
  refine lv_astore_n (lv' := [(1, .ref q7), (0, .ref b)]) F.1 F.2.1 dL_law_7 rfl hl (by decide) rfl (fun ls hl => ?_)
  refine va_new (ci := 8) (fs := [.null, .int 0, .null, .int 0, .null, .int 0, .null, .int 0, .null, .null, .null, .null, .null, .null, .int 0, .int 0, .int 0, .int 0, .int 0, .int 0, .int 0, .int 0, .null, .int 0, .int 0, .int 0, .int 0, .int 0, .int 0, .int 0, .int 0, .null, .null, .int 0, .int 0, .int 0, .int 0, .int 0, .int 0, .int 0, .null, .int 0, .null, .null, .null, .null, .int 0]) (C := RX8) (T := TX8) (N := 47) F.1 F.2.1 F.2.2.2.2 inX8 tyX8 tyX8_ok F.2.2.2.1 (F.2.2.2.2 _ tw_cl8) (F.2.2.2.2 _ tw_in8) (F.2.2.2.2 _ tb_118) Kc.1 hP hD hS hA rfl (fun j hj => match j, hj with | 0, _ => rfl | 1, _ => rfl | 2, _ => rfl | 3, _ => rfl | 4, _ => rfl | 5, _ => rfl | 6, _ => rfl | 7, _ => rfl | 8, _ => rfl | 9, _ => rfl | 10, _ => rfl | 11, _ => rfl | 12, _ => rfl | 13, _ => rfl | 14, _ => rfl | 15, _ => rfl | 16, _ => rfl | 17, _ => rfl | 18, _ => rfl | 19, _ => rfl | 20, _ => rfl | 21, _ => rfl | 22, _ => rfl | 23, _ => rfl | 24, _ => rfl | 25, _ => rfl | 26, _ => rfl | 27, _ => rfl | 28, _ => rfl | 29, _ => rfl | 30, _ => rfl | 31, _ => rfl | 32, _ => rfl | 33, _ => rfl | 34, _ => rfl | 35, _ => rfl | 36, _ => rfl | 37, _ => rfl | 38, _ => rfl | 39, _ => rfl | 40, _ => rfl | 41, _ => rfl | 42, _ => rfl | 43, _ => rfl | 44, _ => rfl | 45, _ => rfl | 46, _ => rfl | k + 47, h9 => absurd h9 (by omega)) (Nat.le_of_ble_eq_true rfl) (Nat.le_of_ble_eq_true rfl) dL_law_8 (fun q8 H hP hD hS => ?_)
  refine W.cs (cells' := 61) (slots' := 725) rfl rfl ?_
  refine lv_dup F.1 F.2.1 dL_law_11 rfl ?_
  have hPc := hP.sub (ws' := [(q8, .inr (8, [.null, .int 0, .null, .int 0, .null, .int 0, .null, .int 0, .null, .null, .null, .null, .null, .null, .int 0, .int 0, .int 0, .int 0, .int 0, .int 0, .int 0, .int 0, .null, .int 0, .int 0, .int 0, .int 0, .int 0, .int 0, .int 0, .int 0, .null, .null, .int 0, .int 0, .int 0, .int 0, .int 0, .int 0, .int 0, .null, .int 0, .null, .null, .null, .null, .int 0]))]) [60] rfl
  have hDc := hD.sub (ws' := [(q8, .inr (8, [.null, .int 0, .null, .int 0, .null, .int 0, .null, .int 0, .null, .null, .null, .null, .null, .null, .int 0, .int 0, .int 0, .int 0, .int 0, .int 0, .int 0, .int 0, .null, .int 0, .int 0, .int 0, .int 0, .int 0, .int 0, .int 0, .int 0, .null, .null, .int 0, .int 0, .int 0, .int 0, .int 0, .int 0, .int 0, .null, .int 0, .null, .null, .null, .null, .int 0]))]) [60] (by decide) rfl
  have hFc := va_free (wc := [(q8, .inr (8, [.null, .int 0, .null, .int 0, .null, .int 0, .null, .int 0, .null, .null, .null, .null, .null, .null, .int 0, .int 0, .int 0, .int 0, .int 0, .int 0, .int 0, .int 0, .null, .int 0, .int 0, .int 0, .int 0, .int 0, .int 0, .int 0, .int 0, .null, .null, .int 0, .int 0, .int 0, .int 0, .int 0, .int 0, .int 0, .null, .int 0, .null, .null, .null, .null, .int 0]))]) hD hS hA [60] rfl
  refine va_callv (va_runI (As := []) (rest := [.ref q8]) F (k_X8_init l (gk dC dI cs tt aK aV s.heap.size (fun _ => 0)) q8 H.size) (y_cw F tw_ml8 tb_118 tw_cd8 tw_im8 ⟨by decide, by decide, (show Option.map (fun d => d.parameters.length) (parseMethodDescriptor yX8_init.desc) = some 0 by decide +kernel)⟩ ⟨Nat.le_of_ble_eq_true rfl, Nat.le_of_ble_eq_true rfl⟩) (y_pre Kc hS hAB hgb hPc hDc) rfl rfl hl.1 rfl (lv_room (Nat.le_of_ble_eq_true rfl)) dL_law_12 ⟨Nat.le_of_ble_eq_true rfl, Nat.le_of_ble_eq_true rfl⟩) hS (fun q _ h => hFc q h) hFc (fun v t H1 locs ht hvm hw hB hz1 hk1 hS => ?_)
  obtain ⟨hP1, hD1⟩ := hB
  rw [ht] at hP1
  have hP1 : va_P (gD (gk dC dI cs tt aK aV s.heap.size (fun _ => 0))) vwCl (w8 (gk dC dI cs tt aK aV s.heap.size (fun _ => 0)) q8 v) H1 := hP1
  have hD1 : va_D (va_A [(q8, .inr (8, [.null, .int 0, .null, .int 0, .null, .int 0, .null, .int 0, .null, .null, .null, .null, .null, .null, .int 0, .int 0, .int 0, .int 0, .int 0, .int 0, .int 0, .int 0, .null, .int 0, .int 0, .int 0, .int 0, .int 0, .int 0, .int 0, .int 0, .null, .null, .int 0, .int 0, .int 0, .int 0, .int 0, .int 0, .int 0, .null, .int 0, .null, .null, .null, .null, .int 0]))] H.size) (w8 (gk dC dI cs tt aK aV s.heap.size (fun _ => 0)) q8 v) := hD1
  obtain ⟨hP, hD⟩ := va_join (wr := w7 (gk dC dI cs tt aK aV s.heap.size (fun _ => 0)) q7 u) (w1 := w8 (gk dC dI cs tt aK aV s.heap.size (fun _ => 0)) q8 v) hP hD [60] [0, 1, 2, 3, 4, 5, 6, 7, 8, 9, 10, 11, 12, 13, 14, 15, 16, 17, 18, 19, 20, 21, 22, 23, 24, 25, 26, 27, 28, 29, 30, 31, 32, 33, 34, 35, 36, 37, 38, 39, 40, 41, 42, 43, 44, 45, 46, 47, 48, 49, 50, 51, 52, 53, 54, 55, 56, 57, 58, 59] rfl rfl (by decide) (by decide) hk1 hFc hP1 hD1
  generalize H1 = H at hP hS ⊢
  refine W.cs (cells' := 79) (slots' := 1296) rfl rfl ?_
  obtain ⟨hW, hG⟩ := pw_world (g := (gk dC dI cs tt aK aV s.heap.size (qq q7 q8 u v))) (σ := zI) (τ := zL) pw hP hD
  have G : AK (gk dC dI cs tt aK aV s.heap.size (qq q7 q8 u v)) s := ⟨(hKn (qq q7 q8 u v)).1, hG, Nat.le_refl _, (hKn (qq q7 q8 u v)).2⟩
  refine lv_astore_n (lv' := [(2, .ref q8), (1, .ref q7), (0, .ref b)]) F.1 F.2.1 dL_law_15 rfl hl (by decide) rfl (fun ls hl => ?_)
  refine lv_iconst (v := (0 : Int32)) F.1 F.2.1 dL_law_16 (by decide) ?_
  refine lv_istore_n (lv' := [(3, .int 0), (2, .ref q8), (1, .ref q7), (0, .ref b)]) F.1 F.2.1 dL_law_17 rfl hl (by decide) rfl (fun ls hl => ?_)
  have hl : lv_has ls 4 [(3, .int 0), (2, .ref (gA (gk dC dI cs tt aK aV s.heap.size (qq q7 q8 u v)) 60)), (1, .ref (gA (gk dC dI cs tt aK aV s.heap.size (qq q7 q8 u v)) 0)), (0, .ref b)] := hl
  exact c_L_law l hr hlocks F G hX hbl rfl 3000 zI zL 0 (law_first (by omega) zI_Inv rfl) H _ ls ⟨hW, hS⟩ (lv_sub hl [3, 2, 1, 0] rfl)
