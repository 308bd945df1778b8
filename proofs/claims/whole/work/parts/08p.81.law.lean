/-! the law's loop *-/
theorem lgr (r : Int64) : lg_cmp r r = 0 := by
  unfold lg_cmp
  simp
theorem law_5 : ∀ L, L < 5 → ∀ i, i < 16 → nI L - (5 : Int32) < nI i := by decide
theorem law_e {L i : Nat} (hL : L < 2 ^ 20) (hi : i < L + 6) (h : L < i + 5) : nI L - (5 : Int32) < nI i := by
  by_cases z : L < 5
  · exact law_5 L z i (by omega)
  · rw [show (5 : Int32) = nI 5 from rfl, pk_sub (by omega)]
    exact nI_lt (by omega) (by omega)
theorem law_g {L i : Nat} (hL : L < 2 ^ 20) (h : ¬ L < i + 5) : ¬ nI L - (5 : Int32) < nI i := by
  rw [show (5 : Int32) = nI 5 from rfl, pk_sub (by omega)]
  exact nI_nlt (by omega) (by omega)
theorem law_n {xs : Nat → Int32} {L : Nat} (hL : L < 2 ^ 20) : ∀ (fu i : Nat) (σ : ZI) (τ : ZL), L < i + 5 + 5 * fu → i < L + 6 → Inv σ → InL τ → f_L_law_18 xs L (fu + 1) σ τ (nI i) = some 1 := by
  intro fu
  induction fu with
  | zero =>
    intro i σ τ h1 h2 I hT
    rw [f_L_law_18, if_pos (law_e hL h2 (by omega))]
  | succ fu ih =>
    intro i σ τ h1 h2 I hT
    by_cases z : L < i + 5
    · rw [f_L_law_18, if_pos (law_e hL h2 z)]
    · have next : ∀ σ τ, Inv σ → InL τ → f_L_law_1514 xs L (fun σ τ v3 => f_L_law_18 xs L (fu + 1) σ τ v3) σ τ (nI i) = some 1 := by
        intro σ τ I hT
        unfold f_L_law_1514
        rw [show nI i + (5 : Int32) = nI (i + 5) from nI_add i 5]
        exact ih (i + 5) σ τ (by omega) (by omega) I hT
      have b0 : inB (nI i) L = true := inB_n (by omega) (by omega)
      have b1 : inB (nI i + (1 : Int32)) L = true := by rw [show nI i + (1 : Int32) = nI (i + 1) from nI_add i 1]; exact inB_n (by omega) (by omega)
      have b2 : inB (nI i + (2 : Int32)) L = true := by rw [show nI i + (2 : Int32) = nI (i + 2) from nI_add i 2]; exact inB_n (by omega) (by omega)
      have b3 : inB (nI i + (3 : Int32)) L = true := by rw [show nI i + (3 : Int32) = nI (i + 3) from nI_add i 3]; exact inB_n (by omega) (by omega)
      have b4 : inB (nI i + (4 : Int32)) L = true := by rw [show nI i + (4 : Int32) = nI (i + 4) from nI_add i 4]; exact inB_n (by omega) (by omega)
      rw [f_L_law_18, if_neg (law_g hL z), if_pos b0]
      by_cases h0 : (xs (nI i).toNatClampNeg) &&& (63 : Int32) = (0 : Int32)
      · rw [if_pos h0, if_pos b1]
        obtain ⟨r, σ1, σ2, e1, e2, e3⟩ := u_feed I (xs (nI i + (1 : Int32)).toNatClampNeg)
        rw [e1, bso, if_pos b1, e2, bso, if_pos rfl]
        exact next σ2 τ e3 hT
      rw [if_neg h0]
      by_cases h1 : (xs (nI i).toNatClampNeg) &&& (63 : Int32) = (1 : Int32)
      · rw [if_pos h1, if_pos b1]
        obtain ⟨r, σ1, σ2, e1, e2, e3⟩ := u_end I (xs (nI i + (1 : Int32)).toNatClampNeg)
        rw [e1, bso, if_pos b1, e2, bso, if_pos rfl]
        exact next σ2 τ e3 hT
      rw [if_neg h1]
      by_cases h2 : (xs (nI i).toNatClampNeg) &&& (63 : Int32) = (2 : Int32)
      · rw [if_pos h2]
        obtain ⟨r, σ1, σ2, e1, e2, e3⟩ := u_text I
        rw [e1, bso, e2, bso, if_pos rfl]
        exact next σ2 τ e3 hT
      rw [if_neg h2]
      by_cases h3 : (xs (nI i).toNatClampNeg) &&& (63 : Int32) = (3 : Int32)
      · rw [if_pos h3]
        obtain ⟨r, e1, e2⟩ := q_fault I
        rw [e1, bso, e2, bso, if_pos rfl]
        exact next σ τ I hT
      rw [if_neg h3]
      by_cases h4 : (xs (nI i).toNatClampNeg) &&& (63 : Int32) = (4 : Int32)
      · rw [if_pos h4, if_pos b1]
        obtain ⟨r, e1, e2⟩ := q_rule I (xs (nI i + (1 : Int32)).toNatClampNeg)
        rw [e1, bso, if_pos b1, e2, bso, if_pos rfl]
        exact next σ τ I hT
      rw [if_neg h4]
      by_cases h5 : (xs (nI i).toNatClampNeg) &&& (63 : Int32) = (5 : Int32)
      · rw [if_pos h5, if_pos b1, if_pos b2]
        obtain ⟨r, e1, e2⟩ := q_arm I (xs (nI i + (1 : Int32)).toNatClampNeg) (xs (nI i + (2 : Int32)).toNatClampNeg)
        rw [e1, bso, if_pos b1, if_pos b2, e2, bso, if_pos rfl]
        exact next σ τ I hT
      rw [if_neg h5]
      by_cases h6 : (xs (nI i).toNatClampNeg) &&& (63 : Int32) = (6 : Int32)
      · rw [if_pos h6, if_pos b1, if_pos b2]
        obtain ⟨r, e1, e2⟩ := q_mark I (xs (nI i + (1 : Int32)).toNatClampNeg) (xs (nI i + (2 : Int32)).toNatClampNeg)
        rw [e1, bso, if_pos b1, if_pos b2, e2, bso, if_pos rfl]
        exact next σ τ I hT
      rw [if_neg h6]
      by_cases h7 : (xs (nI i).toNatClampNeg) &&& (63 : Int32) = (7 : Int32)
      · rw [if_pos h7, if_pos b1, if_pos b2]
        obtain ⟨r, e1, e2⟩ := q_town I (xs (nI i + (1 : Int32)).toNatClampNeg) (xs (nI i + (2 : Int32)).toNatClampNeg)
        rw [e1, bso, if_pos b1, if_pos b2, e2, bso, if_pos rfl]
        exact next σ τ I hT
      rw [if_neg h7]
      by_cases h8 : (xs (nI i).toNatClampNeg) &&& (63 : Int32) = (8 : Int32)
      · rw [if_pos h8, if_pos b1, if_pos b2]
        obtain ⟨r, σ1, σ2, e1, e2, e3⟩ := u_set I (xs (nI i + (1 : Int32)).toNatClampNeg) (xs (nI i + (2 : Int32)).toNatClampNeg)
        rw [e1, bso, if_pos b1, if_pos b2, e2, bso, if_pos rfl]
        exact next σ2 τ e3 hT
      rw [if_neg h8]
      by_cases h9 : (xs (nI i).toNatClampNeg) &&& (63 : Int32) = (9 : Int32)
      · rw [if_pos h9, if_pos b1, if_pos b2]
        obtain ⟨r, σ1, σ2, e1, e2, e3⟩ := u_net I (xs (nI i + (1 : Int32)).toNatClampNeg) (xs (nI i + (2 : Int32)).toNatClampNeg)
        rw [e1, bso, if_pos b1, if_pos b2, e2, bso, if_pos rfl]
        exact next σ2 τ e3 hT
      rw [if_neg h9]
      by_cases h10 : (xs (nI i).toNatClampNeg) &&& (63 : Int32) = (10 : Int32)
      · rw [if_pos h10, if_pos b1, if_pos b2]
        by_cases z0 : (xs (nI i + (2 : Int32)).toNatClampNeg) = 0
        · rw [if_pos z0]
          obtain ⟨r, σ1, σ2, e1, e2, e3⟩ := u_signal I (xs (nI i + (1 : Int32)).toNatClampNeg) 0
          unfold f_L_law_499
          rw [e1, bso, if_pos b1, if_pos b2, if_pos z0]
          unfold f_L_law_521
          rw [e2, bso, if_pos rfl]
          exact next σ2 τ e3 hT
        · rw [if_neg z0]
          obtain ⟨r, σ1, σ2, e1, e2, e3⟩ := u_signal I (xs (nI i + (1 : Int32)).toNatClampNeg) 1
          unfold f_L_law_499
          rw [e1, bso, if_pos b1, if_pos b2, if_neg z0]
          unfold f_L_law_521
          rw [e2, bso, if_pos rfl]
          exact next σ2 τ e3 hT
      rw [if_neg h10]
      by_cases h11 : (xs (nI i).toNatClampNeg) &&& (63 : Int32) = (11 : Int32)
      · rw [if_pos h11, if_pos b1]
        obtain ⟨r, σ1, σ2, e1, e2, e3⟩ := u_bridge I (xs (nI i + (1 : Int32)).toNatClampNeg)
        rw [e1, bso, if_pos b1, e2, bso, if_pos rfl]
        exact next σ2 τ e3 hT
      rw [if_neg h11]
      by_cases h12 : (xs (nI i).toNatClampNeg) &&& (63 : Int32) = (12 : Int32)
      · rw [if_pos h12, if_pos b1, if_pos b2]
        obtain ⟨r, σ1, σ2, e1, e2, e3⟩ := u_clear I (xs (nI i + (1 : Int32)).toNatClampNeg) (xs (nI i + (2 : Int32)).toNatClampNeg)
        rw [e1, bso, if_pos b1, if_pos b2, e2, bso, if_pos rfl]
        exact next σ2 τ e3 hT
      rw [if_neg h12]
      by_cases h13 : (xs (nI i).toNatClampNeg) &&& (63 : Int32) = (13 : Int32)
      · rw [if_pos h13, if_pos b1, if_pos b2]
        obtain ⟨r, σ1, σ2, e1, e2, e3⟩ := u_hang I (xs (nI i + (1 : Int32)).toNatClampNeg) (xs (nI i + (2 : Int32)).toNatClampNeg)
        rw [e1, bso, if_pos b1, if_pos b2, e2, bso, if_pos rfl]
        exact next σ2 τ e3 hT
      rw [if_neg h13]
      by_cases h14 : (xs (nI i).toNatClampNeg) &&& (63 : Int32) = (14 : Int32)
      · rw [if_pos h14, if_pos b1, if_pos b2]
        obtain ⟨r, σ1, σ2, e1, e2, e3⟩ := u_post I (xs (nI i + (1 : Int32)).toNatClampNeg) (xs (nI i + (2 : Int32)).toNatClampNeg)
        rw [e1, bso, if_pos b1, if_pos b2, e2, bso, if_pos rfl]
        exact next σ2 τ e3 hT
      rw [if_neg h14]
      by_cases h15 : (xs (nI i).toNatClampNeg) &&& (63 : Int32) = (15 : Int32)
      · rw [if_pos h15, if_pos b1, if_pos b2, if_pos b3]
        obtain ⟨r, σ1, σ2, e1, e2, e3⟩ := u_night I (xs (nI i + (1 : Int32)).toNatClampNeg) (xs (nI i + (2 : Int32)).toNatClampNeg) (xs (nI i + (3 : Int32)).toNatClampNeg)
        rw [e1, bso, if_pos b1, if_pos b2, if_pos b3, e2, bso, if_pos rfl]
        exact next σ2 τ e3 hT
      rw [if_neg h15]
      by_cases h16 : (xs (nI i).toNatClampNeg) &&& (63 : Int32) = (16 : Int32)
      · rw [if_pos h16, if_pos b1, if_pos b2, if_pos b3]
        obtain ⟨r, σ2, e1, e2, e3⟩ := u_counts I (xs (nI i + (1 : Int32)).toNatClampNeg) (xs (nI i + (2 : Int32)).toNatClampNeg) (xs (nI i + (3 : Int32)).toNatClampNeg)
        rw [e1, bso, if_pos b1, if_pos b2, if_pos b3, e2, bso, if_pos rfl]
        exact next σ2 τ e3 hT
      rw [if_neg h16]
      by_cases h17 : (xs (nI i).toNatClampNeg) &&& (63 : Int32) = (17 : Int32)
      · rw [if_pos h17, if_pos b1, if_pos b2, if_pos b3]
        obtain ⟨r, σ1, τ1, σ2, e1, e2, e3, e4⟩ := u_where I hT (xs (nI i + (1 : Int32)).toNatClampNeg) (xs (nI i + (2 : Int32)).toNatClampNeg) (xs (nI i + (3 : Int32)).toNatClampNeg)
        dsimp only at e2
        rw [e1, bso, if_pos b1, if_pos b2, if_pos b3, e2, bso, if_pos (lgr r)]
        exact next σ2 τ1 e3 e4
      rw [if_neg h17]
      by_cases h18 : (xs (nI i).toNatClampNeg) &&& (63 : Int32) = (18 : Int32)
      · rw [if_pos h18, if_pos b1, if_pos b2]
        obtain ⟨r, σ1, τ1, σ2, e1, e2, e3, e4⟩ := u_goes I hT (xs (nI i + (1 : Int32)).toNatClampNeg) (xs (nI i + (2 : Int32)).toNatClampNeg)
        dsimp only at e2
        rw [e1, bso, if_pos b1, if_pos b2, e2, bso, if_pos (lgr r)]
        exact next σ2 τ1 e3 e4
      rw [if_neg h18]
      by_cases h19 : (xs (nI i).toNatClampNeg) &&& (63 : Int32) = (19 : Int32)
      · rw [if_pos h19, if_pos b1, if_pos b2]
        obtain ⟨r, σ1, τ1, σ2, e1, e2, e3, e4⟩ := u_isOut I hT (xs (nI i + (1 : Int32)).toNatClampNeg) (xs (nI i + (2 : Int32)).toNatClampNeg)
        dsimp only at e2
        rw [e1, bso, if_pos b1, if_pos b2, e2, bso, if_pos (lgr r)]
        exact next σ2 τ1 e3 e4
      rw [if_neg h19]
      by_cases h20 : (xs (nI i).toNatClampNeg) &&& (63 : Int32) = (20 : Int32)
      · rw [if_pos h20, if_pos b1, if_pos b2]
        obtain ⟨r, σ1, τ1, σ2, e1, e2, e3, e4⟩ := u_had I hT (xs (nI i + (1 : Int32)).toNatClampNeg) (xs (nI i + (2 : Int32)).toNatClampNeg)
        dsimp only at e2
        rw [e1, bso, if_pos b1, if_pos b2, e2, bso, if_pos (lgr r)]
        exact next σ2 τ1 e3 e4
      rw [if_neg h20]
      by_cases h21 : (xs (nI i).toNatClampNeg) &&& (63 : Int32) = (21 : Int32)
      · rw [if_pos h21, if_pos b1]
        obtain ⟨r, σ1, τ1, σ2, e1, e2, e3, e4⟩ := u_hits I hT (xs (nI i + (1 : Int32)).toNatClampNeg)
        dsimp only at e2
        rw [e1, bso, if_pos b1, e2, bso, if_pos (lgr r)]
        exact next σ2 τ1 e3 e4
      rw [if_neg h21]
      by_cases h22 : (xs (nI i).toNatClampNeg) &&& (63 : Int32) = (22 : Int32)
      · rw [if_pos h22, if_pos b1]
        obtain ⟨r, σ1, τ1, σ2, e1, e2, e3, e4⟩ := u_torn I hT (xs (nI i + (1 : Int32)).toNatClampNeg)
        dsimp only at e2
        rw [e1, bso, if_pos b1, e2, bso, if_pos (lgr r)]
        exact next σ2 τ1 e3 e4
      rw [if_neg h22]
      by_cases h23 : (xs (nI i).toNatClampNeg) &&& (63 : Int32) = (23 : Int32)
      · rw [if_pos h23, if_pos b1]
        obtain ⟨r, σ1, τ1, σ2, e1, e2, e3, e4⟩ := u_worth I hT (xs (nI i + (1 : Int32)).toNatClampNeg)
        dsimp only at e2
        rw [e1, bso, if_pos b1, e2, bso, if_pos (lgr r)]
        exact next σ2 τ1 e3 e4
      rw [if_neg h23]
      by_cases h24 : (xs (nI i).toNatClampNeg) &&& (63 : Int32) = (24 : Int32)
      · rw [if_pos h24, if_pos b1]
        obtain ⟨r, σ1, τ1, σ2, e1, e2, e3, e4⟩ := u_best I hT (xs (nI i + (1 : Int32)).toNatClampNeg)
        dsimp only at e2
        rw [e1, bso, if_pos b1, e2, bso, if_pos (lgr r)]
        exact next σ2 τ1 e3 e4
      rw [if_neg h24]
      by_cases h25 : (xs (nI i).toNatClampNeg) &&& (63 : Int32) = (25 : Int32)
      · rw [if_pos h25, if_pos b1, if_pos b2]
        obtain ⟨r, σ1, τ1, σ2, e1, e2, e3, e4⟩ := u_fog I hT (xs (nI i + (1 : Int32)).toNatClampNeg) (xs (nI i + (2 : Int32)).toNatClampNeg)
        dsimp only at e2
        rw [e1, bso, if_pos b1, if_pos b2, e2, bso, if_pos rfl]
        exact next σ2 τ1 e3 e4
      rw [if_neg h25]
      by_cases h26 : (xs (nI i).toNatClampNeg) &&& (63 : Int32) = (26 : Int32)
      · rw [if_pos h26, if_pos b1, if_pos b2]
        obtain ⟨r, σ1, τ1, σ2, e1, e2, e3, e4⟩ := u_fast I hT (xs (nI i + (1 : Int32)).toNatClampNeg) (xs (nI i + (2 : Int32)).toNatClampNeg)
        dsimp only at e2
        rw [e1, bso, if_pos b1, if_pos b2, e2, bso, if_pos rfl]
        exact next σ2 τ1 e3 e4
      rw [if_neg h26]
      by_cases h27 : (xs (nI i).toNatClampNeg) &&& (63 : Int32) = (27 : Int32)
      · rw [if_pos h27, if_pos b1, if_pos b2]
        obtain ⟨r, σ1, τ1, σ2, e1, e2, e3, e4⟩ := u_slack I hT (xs (nI i + (1 : Int32)).toNatClampNeg) (xs (nI i + (2 : Int32)).toNatClampNeg)
        dsimp only at e2
        rw [e1, bso, if_pos b1, if_pos b2, e2, bso, if_pos rfl]
        exact next σ2 τ1 e3 e4
      rw [if_neg h27]
      by_cases h28 : (xs (nI i).toNatClampNeg) &&& (63 : Int32) = (28 : Int32)
      · rw [if_pos h28, if_pos b1, if_pos b2]
        obtain ⟨r, e1, e2⟩ := q_sort I (xs (nI i + (1 : Int32)).toNatClampNeg) (xs (nI i + (2 : Int32)).toNatClampNeg)
        rw [e1, bso, if_pos b1, if_pos b2, e2, bso, if_pos rfl]
        exact next σ τ I hT
      rw [if_neg h28]
      by_cases h29 : (xs (nI i).toNatClampNeg) &&& (63 : Int32) = (29 : Int32)
      · rw [if_pos h29, if_pos b1]
        obtain ⟨r, e1, e2⟩ := q_minutes I (xs (nI i + (1 : Int32)).toNatClampNeg)
        rw [e1, bso, if_pos b1, e2, bso, if_pos rfl]
        exact next σ τ I hT
      rw [if_neg h29]
      by_cases h30 : (xs (nI i).toNatClampNeg) &&& (63 : Int32) = (30 : Int32)
      · rw [if_pos h30, if_pos b1]
        obtain ⟨r, e1, e2⟩ := q_hands I (xs (nI i + (1 : Int32)).toNatClampNeg)
        rw [e1, bso, if_pos b1, e2, bso, if_pos rfl]
        exact next σ τ I hT
      rw [if_neg h30]
      by_cases h31 : (xs (nI i).toNatClampNeg) &&& (63 : Int32) = (31 : Int32)
      · rw [if_pos h31, if_pos b1, if_pos b2]
        obtain ⟨r, σ1, σ2, e1, e2, e3⟩ := u_see I (xs (nI i + (1 : Int32)).toNatClampNeg) (xs (nI i + (2 : Int32)).toNatClampNeg)
        rw [e1, bso, if_pos b1, if_pos b2, e2, bso, if_pos rfl]
        exact next σ2 τ e3 hT
      rw [if_neg h31]
      by_cases h32 : (xs (nI i).toNatClampNeg) &&& (63 : Int32) = (32 : Int32)
      · rw [if_pos h32, if_pos b1]
        obtain ⟨r, σ1, σ2, e1, e2, e3⟩ := u_forget I (xs (nI i + (1 : Int32)).toNatClampNeg)
        rw [e1, bso, if_pos b1, e2, bso, if_pos rfl]
        exact next σ2 τ e3 hT
      rw [if_neg h32]
      by_cases h33 : (xs (nI i).toNatClampNeg) &&& (63 : Int32) = (33 : Int32)
      · rw [if_pos h33, if_pos b1]
        obtain ⟨r, σ1, τ1, σ2, e1, e2, e3, e4⟩ := u_fitsc I hT (xs (nI i + (1 : Int32)).toNatClampNeg)
        dsimp only at e2
        rw [e1, bso, if_pos b1, e2, bso, if_pos rfl]
        exact next σ2 τ1 e3 e4
      rw [if_neg h33]
      by_cases h34 : (xs (nI i).toNatClampNeg) &&& (63 : Int32) = (34 : Int32)
      · rw [if_pos h34, if_pos b1]
        obtain ⟨r, σ1, τ1, σ2, e1, e2, e3, e4⟩ := u_likely I hT (xs (nI i + (1 : Int32)).toNatClampNeg)
        dsimp only at e2
        rw [e1, bso, if_pos b1, e2, bso, if_pos (lgr r)]
        exact next σ2 τ1 e3 e4
      rw [if_neg h34]
      by_cases h35 : (xs (nI i).toNatClampNeg) &&& (63 : Int32) = (35 : Int32)
      · rw [if_pos h35, if_pos b1, if_pos b2]
        obtain ⟨r, σ1, σ2, e1, e2, e3⟩ := u_drift I (xs (nI i + (1 : Int32)).toNatClampNeg) (xs (nI i + (2 : Int32)).toNatClampNeg)
        rw [e1, bso, if_pos b1, if_pos b2, e2, bso, if_pos rfl]
        exact next σ2 τ e3 hT
      rw [if_neg h35]
      by_cases h36 : (xs (nI i).toNatClampNeg) &&& (63 : Int32) = (36 : Int32)
      · rw [if_pos h36, if_pos b1]
        obtain ⟨r, σ1, σ2, e1, e2, e3⟩ := u_keep I (xs (nI i + (1 : Int32)).toNatClampNeg)
        rw [e1, bso, if_pos b1, e2, bso, if_pos rfl]
        exact next σ2 τ e3 hT
      rw [if_neg h36]
      by_cases h37 : (xs (nI i).toNatClampNeg) &&& (63 : Int32) = (37 : Int32)
      · rw [if_pos h37, if_pos b1]
        obtain ⟨r, σ1, σ2, e1, e2, e3⟩ := u_back I (xs (nI i + (1 : Int32)).toNatClampNeg)
        rw [e1, bso, if_pos b1, e2, bso, if_pos rfl]
        exact next σ2 τ e3 hT
      rw [if_neg h37]
      by_cases h38 : (xs (nI i).toNatClampNeg) &&& (63 : Int32) = (38 : Int32)
      · rw [if_pos h38, if_pos b1, if_pos b2, if_pos b3]
        obtain ⟨r, σ1, σ2, e1, e2, e3⟩ := u_sheet I (xs (nI i + (1 : Int32)).toNatClampNeg) (xs (nI i + (2 : Int32)).toNatClampNeg) (xs (nI i + (3 : Int32)).toNatClampNeg)
        rw [e1, bso, if_pos b1, if_pos b2, if_pos b3, e2, bso, if_pos rfl]
        exact next σ2 τ e3 hT
      rw [if_neg h38]
      by_cases h39 : (xs (nI i).toNatClampNeg) &&& (63 : Int32) = (39 : Int32)
      · rw [if_pos h39, if_pos b1, if_pos b2, if_pos b3]
        obtain ⟨r, σ1, σ2, e1, e2, e3⟩ := u_layc I (xs (nI i + (1 : Int32)).toNatClampNeg) (xs (nI i + (2 : Int32)).toNatClampNeg) (xs (nI i + (3 : Int32)).toNatClampNeg)
        rw [e1, bso, if_pos b1, if_pos b2, if_pos b3, e2, bso, if_pos rfl]
        exact next σ2 τ e3 hT
      rw [if_neg h39]
      by_cases h40 : (xs (nI i).toNatClampNeg) &&& (63 : Int32) = (40 : Int32)
      · rw [if_pos h40, if_pos b1, if_pos b2, if_pos b3, if_pos b4]
        obtain ⟨r, σ1, σ2, e1, e2, e3⟩ := u_read I (xs (nI i + (1 : Int32)).toNatClampNeg) (xs (nI i + (2 : Int32)).toNatClampNeg) (xs (nI i + (3 : Int32)).toNatClampNeg) (xs (nI i + (4 : Int32)).toNatClampNeg)
        rw [e1, bso, if_pos b1, if_pos b2, if_pos b3, if_pos b4, e2, bso, if_pos rfl]
        exact next σ2 τ e3 hT
      rw [if_neg h40]
      by_cases h41 : (xs (nI i).toNatClampNeg) &&& (63 : Int32) = (41 : Int32)
      · rw [if_pos h41]
        obtain ⟨r, e1, e2⟩ := q_split I
        rw [e1, bso, e2, bso, if_pos rfl]
        exact next σ τ I hT
      rw [if_neg h41]
      by_cases h42 : (xs (nI i).toNatClampNeg) &&& (63 : Int32) = (42 : Int32)
      · rw [if_pos h42, if_pos b1]
        obtain ⟨r, e1, e2⟩ := q_count I (xs (nI i + (1 : Int32)).toNatClampNeg)
        rw [e1, bso, if_pos b1, e2, bso, if_pos rfl]
        exact next σ τ I hT
      rw [if_neg h42]
      exact next σ τ I hT
