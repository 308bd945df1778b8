/-! joints, signs; what is read so far *-/
def sfa (n : Nat) (b : Nat → Nat) (p : Nat) : Nat := if kk_ n b p = 0 then 1 else if kk_ n b p ≠ 3 then 2 else 0
theorem ts7 {n : Nat} {b : Nat → Nat} {p : Nat} {σ : ZI} (h : Tp7 n b σ) (hp : p ≤ n) (h2 : σ 37 2 = nI p) : (sfa n b p ≠ 0 → ∃ σ', f_X2_takeSign σ = some (0, σ') ∧ Ff σ σ' ∧ flt (sfa n b p) (hd n b p) σ') ∧ (sfa n b p = 0 → ∃ σ', f_X2_takeSign σ = some (1, σ') ∧ F7 σ σ' ∧ At7 n b p σ') := by
  have kb := kk_le n b p
  obtain ⟨t1, t2⟩ := tt7 h hp h2
  unfold f_X2_takeSign
  by_cases z : kk_ n b p = 0
  · obtain ⟨σ', r1, r2, r3⟩ := t1 z
    have e : sfa n b p = 1 := by unfold sfa; rw [if_pos z]
    rw [r1, bso, e]
    exact ⟨fun _ => ⟨σ', rfl, r2, r3⟩, fun w => absurd w (by omega)⟩
  · obtain ⟨s1, r1, r2, r3⟩ := t2 z
    rw [r1, bso]
    dsimp only
    rw [if_neg (by decide)]
    by_cases z3 : kk_ n b p = 3
    · have e : sfa n b p = 0 := by unfold sfa; rw [if_neg z, if_neg (fun q => q z3)]
      rw [e, if_pos (by rw [r3.2.2.1, z3]; rfl)]
      exact ⟨fun w => absurd rfl w, fun _ => ⟨s1, rfl, r2, r3⟩⟩
    · have e : sfa n b p = 2 := by unfold sfa; rw [if_neg z, if_pos z3]
      rw [e, if_neg (show ¬ s1 37 3 = 3 from fun q => z3 (nI_inj (b := 3) (by omega) (by omega) (r3.2.2.1.symm.trans q)))]
      refine ⟨fun _ => ?_, fun w => absurd w (by omega)⟩
      obtain ⟨σ', x1, x2, x3⟩ := ref7 s1 2 r3.2.2.2
      exact ⟨σ', by rw [show f_X2_refuse s1 2 = _ from x1, bso]; rfl, Ff_tr (F7_Ff r2) x2, x3⟩
theorem tail8_b {σ : ZI} {f q : Nat} (hf : 1 ≤ f) (hf2 : f < 10) (h : BR f q σ) : f_X8_readLine_136 σ = some σ := by
  have z : ¬ σ 60 25 = 0 := by rw [h.1]; exact nI_ne0 (by omega) (by omega)
  unfold f_X8_readLine_136 f_X8_readLine_156
  rw [if_neg z, step8_b hf hf2 h.1, bso]
theorem tail8 {n : Nat} {b : Nat → Nat} {p : Nat} {σ : ZI} (h : Tp8 n b σ) (hp : p ≤ n) (r : RY n b p σ) : (sfa n b p ≠ 0 → ∃ σ', f_X8_readLine_136 σ = some σ' ∧ Fr8 σ σ' ∧ BR (sfa n b p) (hd n b p) σ') ∧ (sfa n b p = 0 → ∃ σ', f_X8_readLine_136 σ = some σ' ∧ Fr8 σ σ' ∧ RY n b (en n b p) σ') := by
  have kb := kk_le n b p
  have he := en_ge n b hp
  by_cases z : kk_ n b p = 0
  · have e : sfa n b p = 1 := by unfold sfa; rw [if_pos z]
    have br : BR 1 (hd n b p) σ := r.1 z
    rw [e]
    exact ⟨fun _ => ⟨σ, tail8_b (by omega) (by omega) br, Fr8_rf σ, br⟩, fun w => absurd w (by omega)⟩
  · obtain ⟨y0, y1, y2, y3, y4⟩ := r.2 z
    by_cases z3 : kk_ n b p = 3
    · have e : sfa n b p = 0 := by unfold sfa; rw [if_neg z, if_neg (fun q => q z3)]
      rw [e]
      refine ⟨fun w => absurd rfl w, fun _ => ?_⟩
      obtain ⟨σ', x1, x2, x3⟩ := step8 h he.2.1 y0 y2
      refine ⟨σ', ?_, x2, x3⟩
      unfold f_X8_readLine_136 f_X8_readLine_156
      rw [if_pos y0, if_pos (by rw [y3, z3]; rfl), x1, bso]
    · have e : sfa n b p = 2 := by unfold sfa; rw [if_neg z, if_pos z3]
      rw [e]
      refine ⟨fun _ => ?_, fun w => absurd w (by omega)⟩
      obtain ⟨σ', x1, x2, x3⟩ := fail8 2 y0 y1
      refine ⟨σ', ?_, x2, x3⟩
      have t3 : ¬ σ 60 29 = 3 := by
        rw [y3]
        intro q
        have := nI_inj (b := 3) (by unfold tk_; split <;> omega) (by omega) q
        unfold tk_ at this
        split at this <;> omega
      unfold f_X8_readLine_136 f_X8_readLine_156
      rw [if_pos y0, if_neg t3, show f_X8_fails σ 2 = _ from x1, bso, step8_b (f := 2) (by omega) (by omega) x3.1, bso]
/-- a joint, told already or not -/
def jc (n : Nat) (b : Nat → Nat) (p s : Nat) : Nat := if nf n b p 1 10 ≠ 0 then nf n b p 1 10 else if s.testBit (VV n b p - 1) = true then 4 else 0
def FrJ (σ σ' : ZI) : Prop := ∀ c i, ¬ (c = 60 ∧ (i = 21 ∨ (25 ≤ i ∧ i ≤ 30))) → σ' c i = σ c i
theorem Fr8_J {σ σ' : ZI} (h : Fr8 σ σ') : FrJ σ σ' := fun c i q => h c i (by omega)
theorem FrJ_tr {a b c : ZI} (h : FrJ a b) (h2 : FrJ b c) : FrJ a c := fun x i q => (h2 x i q).trans (h x i q)
theorem FrJ_sg {σ σ' : ZI} (h : FrJ σ σ') : Sg σ σ' := fun c i q _ => h c i (by
  rintro ⟨rfl, h1⟩
  have : i = 21 ∨ i = 25 ∨ i = 26 ∨ i = 27 ∨ i = 28 ∨ i = 29 ∨ i = 30 := by omega
  rcases this with rfl | rfl | rfl | rfl | rfl | rfl | rfl <;> exact q rfl)
theorem jc_le (n : Nat) (b : Nat → Nat) (p s : Nat) : jc n b p s ≤ 4 := by
  have := nf_le n b p 1 10
  unfold jc
  repeat' split
  all_goals omega
theorem jh8_b {σ : ZI} {f q : Nat} (hf : 1 ≤ f) (hf2 : f < 10) (h : BR f q σ) (s : Int32) : ∃ v σ', f_X8_jointHere σ s = some (nI v, σ') ∧ 1 ≤ v ∧ v ≤ 10 ∧ FrJ σ σ' ∧ BR f q σ' := by
  have z : ¬ σ 60 25 = 0 := by rw [h.1]; exact nI_ne0 (by omega) (by omega)
  unfold f_X8_jointHere f_X8_jointHere_49 f_X8_jointHere_74
  rw [if_neg z, num8_b hf hf2 h, bso]
  dsimp only
  refine ⟨1, if 1 ≤ σ 60 21 then va_up σ 60 (upd (σ 60) 21 (σ 60 21)) else va_up σ 60 (upd (σ 60) 21 1), ?_, by omega, by omega, fun c i h1 => ?_, ?_, ?_⟩
  · rw [ltq, ltq]
    split <;> rfl
  · split <;> exact up_ne _ (by omega)
  · split <;> exact (up_ne _ (.inr (by omega))).trans h.1
  · split <;> exact (up_ne _ (.inr (by omega))).trans h.2
theorem jh8 {n : Nat} {b : Nat → Nat} {p s : Nat} {σ : ZI} (h : Tp8 n b σ) (hp : p ≤ n) (r : RY n b p σ) (hs : s < 2 ^ 10) {HJ : Nat} (hj : HJ ≤ 10) (e21 : σ 60 21 = nI HJ) : (jc n b p s ≠ 0 → ∃ v σ', f_X8_jointHere σ (nI s) = some (nI v, σ') ∧ 1 ≤ v ∧ v ≤ 10 ∧ FrJ σ σ' ∧ BR (jc n b p s) (hd n b p) σ') ∧ (jc n b p s = 0 → ∃ σ', f_X8_jointHere σ (nI s) = some (nI (VV n b p), σ') ∧ FrJ σ σ' ∧ σ' 60 21 = nI (max HJ (VV n b p)) ∧ RY n b (en n b p) σ') := by
  have kb := kk_le n b p
  have he := en_ge n b hp
  -- what comes behind the number
  have fin : ∀ (v : Nat) (s1 : ZI), v ≤ 10 → s1 60 21 = nI HJ → ∃ σ', ((if nI v ≤ s1 60 21 then f_X8_jointHere_74 (nI s) s1 (nI v) (s1 60 21) else f_X8_jointHere_74 (nI s) s1 (nI v) (nI v)) : Option (Int32 × ZI)) = some (nI v, σ') ∧ σ' = va_up s1 60 (upd (s1 60) 21 (nI (max HJ v))) := by
    intro v s1 hv e
    refine ⟨_, ?_, rfl⟩
    unfold f_X8_jointHere_74
    rw [e, ltq, ltq]
    by_cases z : v ≤ HJ
    · rw [if_pos (nI_le z (by omega)), show max HJ v = HJ by omega]
    · rw [if_neg (nI_ge (by omega) (by omega)), show max HJ v = v by omega]
  obtain ⟨n1, n2⟩ := num8 (lo := 1) (hi := 10) h hp r (by omega) (by omega)
  by_cases z : kk_ n b p = 0
  · have br : BR 1 (hd n b p) σ := r.1 z
    have e : jc n b p s = 1 := by
      unfold jc
      have : nf n b p 1 10 = 1 := by unfold nf; rw [if_pos z]
      rw [if_pos (by omega), this]
    rw [e]
    exact ⟨fun _ => jh8_b (by omega) (by omega) br _, fun w => absurd w (by omega)⟩
  · obtain ⟨y0, y1, y2, y3, y4⟩ := r.2 z
    have plain : f_X8_jointHere σ (nI s) = f_X8_jointHere_49 (nI s) σ → (jc n b p s ≠ 0 → jc n b p s = nf n b p 1 10) → (jc n b p s = 0 → nf n b p 1 10 = 0) → (jc n b p s ≠ 0 → ∃ v σ', f_X8_jointHere σ (nI s) = some (nI v, σ') ∧ 1 ≤ v ∧ v ≤ 10 ∧ FrJ σ σ' ∧ BR (jc n b p s) (hd n b p) σ') ∧ (jc n b p s = 0 → ∃ σ', f_X8_jointHere σ (nI s) = some (nI (VV n b p), σ') ∧ FrJ σ σ' ∧ σ' 60 21 = nI (max HJ (VV n b p)) ∧ RY n b (en n b p) σ') := by
      intro e0 e1 e2
      rw [e0]
      unfold f_X8_jointHere_49
      refine ⟨fun w => ?_, fun w => ?_⟩
      · obtain ⟨s1, x1, x2, x3⟩ := n1 (by rw [← e1 w]; exact w)
        obtain ⟨σ', f1, f2⟩ := fin 1 s1 (by omega) ((x2 _ _ (by omega)).trans e21)
        refine ⟨1, σ', ?_, by omega, by omega, ?_, ?_⟩
        · rw [show f_X8_number σ 1 10 = _ from x1, bso]; exact f1
        · rw [f2]; exact FrJ_tr (Fr8_J x2) fun c i q => up_ne _ (by omega)
        · rw [f2, e1 w]; exact ⟨(up_ne _ (.inr (by omega))).trans x3.1, (up_ne _ (.inr (by omega))).trans x3.2⟩
      · have nz := nf_0 (e2 w)
        obtain ⟨s1, x1, x2, x3⟩ := n2 (e2 w)
        obtain ⟨σ', f1, f2⟩ := fin (VV n b p) s1 nz.2.2 ((x2 _ _ (by omega)).trans e21)
        refine ⟨σ', ?_, ?_, ?_, ?_⟩
        · rw [show f_X8_number σ 1 10 = _ from x1, bso]; exact f1
        · rw [f2]; exact FrJ_tr (Fr8_J x2) fun c i q => up_ne _ (by omega)
        · rw [f2, up_same]
        · rw [f2]
          obtain ⟨u1, u2⟩ := x3
          refine ⟨fun q => ?_, fun q => ?_⟩
          · obtain ⟨w1, w2⟩ := u1 q
            exact ⟨(up_ne _ (.inr (by omega))).trans w1, (up_ne _ (.inr (by omega))).trans w2⟩
          · obtain ⟨w1, w2, w3, w4, w5⟩ := u2 q
            exact ⟨(up_ne _ (.inr (by omega))).trans w1, (up_ne _ (.inr (by omega))).trans w2, (up_ne _ (.inr (by omega))).trans w3, (up_ne _ (.inr (by omega))).trans w4, fun q2 => (up_ne _ (.inr (by omega))).trans (w5 q2)⟩
    by_cases z2 : kk_ n b p = 2
    · have vb := VV_b hp z2
      have e30 : σ 60 30 = nI (VV n b p) := y4 z2
      have t2 : σ 60 29 = 2 := by rw [y3, z2]; rfl
      by_cases w : VV n b p < 1 ∨ 10 < VV n b p
      · have en3 : nf n b p 1 10 = 3 := by unfold nf; rw [if_neg z, if_neg (fun q => q z2), if_pos w]
        refine plain ?_ (fun _ => by unfold jc; rw [if_pos (by omega)]) (fun q => absurd q (by unfold jc; rw [if_pos (by omega)]; omega))
        unfold f_X8_jointHere
        rw [if_pos y0, if_pos t2, e30, show f_X8_in (nI (VV n b p)).toInt64 1 10 = _ from inN (lo := 1) (hi := 10) (by omega) (by omega) (by omega), if_pos w, bso, if_pos rfl]
      · have en0 : nf n b p 1 10 = 0 := by unfold nf; rw [if_neg z, if_neg (fun q => q z2), if_neg w]
        obtain ⟨v, hv⟩ : ∃ v, VV n b p = v + 1 := ⟨VV n b p - 1, by omega⟩
        have pre : f_X8_jointHere σ (nI s) = if s.testBit (VV n b p - 1) = true then (f_X8_fails σ 4).bind fun q4 => f_X8_jointHere_49 (nI s) q4 else f_X8_jointHere_49 (nI s) σ := by
          unfold f_X8_jointHere
          rw [if_pos y0, if_pos t2, e30, show f_X8_in (nI (VV n b p)).toInt64 1 10 = _ from inN (lo := 1) (hi := 10) (by omega) (by omega) (by omega), if_neg w, bso, if_neg (by decide), hv, nI_pred, show v + 1 - 1 = v by omega]
          by_cases y : s.testBit v = true
          · rw [if_pos ((bt1 (by omega) (by omega)).mpr y), if_pos y]
          · rw [if_neg (fun q => y ((bt1 (by omega) (by omega)).mp q)), if_neg y]
        by_cases y : s.testBit (VV n b p - 1) = true
        · have e : jc n b p s = 4 := by unfold jc; rw [if_neg (by omega), if_pos y]
          rw [e]
          refine ⟨fun _ => ?_, fun q => absurd q (by omega)⟩
          obtain ⟨s1, x1, x2, x3⟩ := fail8 4 y0 y1
          obtain ⟨σ', f1, f2⟩ := fin 1 s1 (by omega) ((x2 _ _ (by omega)).trans e21)
          refine ⟨1, σ', ?_, by omega, by omega, ?_, ?_⟩
          · rw [pre, if_pos y, show f_X8_fails σ 4 = _ from x1, bso]
            unfold f_X8_jointHere_49
            rw [num8_b (f := 4) (by omega) (by omega) x3, bso]
            exact f1
          · rw [f2]; exact FrJ_tr (Fr8_J x2) fun c i q => up_ne _ (by omega)
          · rw [f2]; exact ⟨(up_ne _ (.inr (by omega))).trans x3.1, (up_ne _ (.inr (by omega))).trans x3.2⟩
        · have e : jc n b p s = 0 := by unfold jc; rw [if_neg (by omega), if_neg y]
          exact plain (by rw [pre, if_neg y]) (fun q => absurd e q) (fun _ => en0)
    · have en2 : nf n b p 1 10 = 2 := by unfold nf; rw [if_neg z, if_pos z2]
      have t2 : ¬ σ 60 29 = 2 := by
        rw [y3]
        intro q
        have := nI_inj (b := 2) (by unfold tk_; split <;> omega) (by omega) q
        unfold tk_ at this
        split at this <;> omega
      refine plain ?_ (fun _ => by unfold jc; rw [if_pos (by omega)]) (fun q => absurd q (by unfold jc; rw [if_pos (by omega)]; omega))
      unfold f_X8_jointHere
      rw [if_pos y0, if_neg t2]
