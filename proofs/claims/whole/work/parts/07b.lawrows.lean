section LR
variable {p : Program} {l : Launch} {e : Env} {R : Room} {s : State} {m : MethodId} {args : Array Value} {below : List Frame} {meth : Method} {c : Code} {H : Heap} {locs : List Loc} {cells slots : Nat} {Q : State → Prop}
variable {cc : ByteArray} {pc nL : Nat} {ls : Array Slot} {rest : List Value} {g : GG} {σ : ZI} {τ : ZL} {own : String}
variable {i n index maxL : Nat} {y : MethodName} {bytes : ByteArray} {ret : Option FieldType} {rm : Room} {As st0 : List Value} {host : String}
theorem q_iC {post : Int32 → ZI × ZL → Prop} {a : Array Value} (hr : va_Run p l e R s m args below meth c H locs cells slots 0 0 (F0 m pc ls st0) rest (va_Qi post (WQ g) (AA g) a) (AA g)) (hS : WS g σ τ s H locs) (kk : ∀ (r : Int32) (u : ZI × ZL) (H : Heap) (locs : List Loc), post r u → WS g u.1 u.2 s H locs → W p l e R s m args below meth c H locs cells slots Q (F0 m (pc + 3) ls (.int r :: rest))) : W p l e R s m args below meth c H locs cells slots Q (F0 m pc ls st0) :=
  va_calli hr hS.2 (fun _ _ h => h) (fun _ h => h) (fun r u t H1 locs1 ht _ hp hB _ _ hS1 => kk r u H1 locs1 hp ⟨by rw [← ht]; exact hB, hS1⟩)
theorem q_lC {post : Int64 → ZI × ZL → Prop} {a : Array Value} (hr : va_Run p l e R s m args below meth c H locs cells slots 0 0 (F0 m pc ls st0) rest (va_Ql post (WQ g) (AA g) a) (AA g)) (hS : WS g σ τ s H locs) (kk : ∀ (r : Int64) (u : ZI × ZL) (H : Heap) (locs : List Loc), post r u → WS g u.1 u.2 s H locs → W p l e R s m args below meth c H locs cells slots Q (F0 m (pc + 3) ls (.long r :: rest))) : W p l e R s m args below meth c H locs cells slots Q (F0 m pc ls st0) :=
  va_calll hr hS.2 (fun _ _ h => h) (fun _ h => h) (fun r u t H1 locs1 ht _ hp hB _ _ hS1 => kk r u H1 locs1 hp ⟨by rw [← ht]; exact hB, hS1⟩)
theorem lVi {post : Int32 → ZI × ZL → Prop} (F : CallFix p m c cc nL s args TBL own) (G : AK g s) (hS : WS g σ τ s H locs) (hl : ls.size = nL) (M : MI l y bytes maxL ret rm g (.ref (gA g i) :: As) σ τ post) (h : lkV own index y bytes maxL ret n) (hR : okR rm R maxL) (hc1 : cells ≤ R.cells) (hc2 : slots ≤ R.slots) (hr : ∃ cell : Cell, H[gA g i]? = some cell ∧ cell.vm.isStatics = false ∧ s.vm.findClass y.cls = some cell.cls) (hn : As.length = n) (hst : st0 = As.reverse ++ .ref (gA g i) :: rest) (hw : (rest.map fun v => v.category).sum ≤ 8) (hdg : decode cc pc = .ok (.invokevirtual index, 3)) (kk : ∀ (r : Int32) (u : ZI × ZL) (H : Heap) (locs : List Loc), post r u → WS g u.1 u.2 s H locs → W p l e R s m args below meth c H locs cells slots Q (F0 m (pc + 3) ls (.int r :: rest))) : W p l e R s m args below meth c H locs cells slots Q (F0 m pc ls st0) :=
  q_iC (va_runV F M (k_cwV F h hR) (PreV_of F G hS hr) rfl hn hl hst (lv_room hw) hdg ⟨hc1, hc2⟩) hS kk
theorem lVl {post : Int64 → ZI × ZL → Prop} (F : CallFix p m c cc nL s args TBL own) (G : AK g s) (hS : WS g σ τ s H locs) (hl : ls.size = nL) (M : ML l y bytes maxL ret rm g (.ref (gA g i) :: As) σ τ post) (h : lkV own index y bytes maxL ret n) (hR : okR rm R maxL) (hc1 : cells ≤ R.cells) (hc2 : slots ≤ R.slots) (hr : ∃ cell : Cell, H[gA g i]? = some cell ∧ cell.vm.isStatics = false ∧ s.vm.findClass y.cls = some cell.cls) (hn : As.length = n) (hst : st0 = As.reverse ++ .ref (gA g i) :: rest) (hw : (rest.map fun v => v.category).sum ≤ 8) (hdg : decode cc pc = .ok (.invokevirtual index, 3)) (kk : ∀ (r : Int64) (u : ZI × ZL) (H : Heap) (locs : List Loc), post r u → WS g u.1 u.2 s H locs → W p l e R s m args below meth c H locs cells slots Q (F0 m (pc + 3) ls (.long r :: rest))) : W p l e R s m args below meth c H locs cells slots Q (F0 m pc ls st0) :=
  q_lC (va_runV F M (k_cwV F h hR) (PreV_of F G hS hr) rfl hn hl hst (lv_room hw) hdg ⟨hc1, hc2⟩) hS kk
theorem kRiC {q : Int32} (k : ∀ (H : Heap) (locs : List Loc), WS g σ τ s H locs → W p l e R s m args below meth c H locs cells slots Q (F0 m (pc + 3) ls (.int q :: rest))) : ∀ (r : Int32) (u : ZI × ZL) (H : Heap) (locs : List Loc), (r = q ∧ u.1 = σ ∧ u.2 = τ) → WS g u.1 u.2 s H locs → W p l e R s m args below meth c H locs cells slots Q (F0 m (pc + 3) ls (.int r :: rest)) := by
  intro r u H locs hp hS
  obtain ⟨u1, u2⟩ := u
  obtain ⟨rfl, rfl, rfl⟩ := hp
  exact k H locs hS
theorem kIiC {q : Int32 × ZI} (k : ∀ (H : Heap) (locs : List Loc), WS g q.2 τ s H locs → W p l e R s m args below meth c H locs cells slots Q (F0 m (pc + 3) ls (.int q.1 :: rest))) : ∀ (r : Int32) (u : ZI × ZL) (H : Heap) (locs : List Loc), ((r, u.1) = q ∧ u.2 = τ) → WS g u.1 u.2 s H locs → W p l e R s m args below meth c H locs cells slots Q (F0 m (pc + 3) ls (.int r :: rest)) := by
  intro r u H locs hp hS
  obtain ⟨u1, u2⟩ := u
  obtain ⟨rfl, rfl⟩ := hp
  exact k H locs hS
theorem kJiC {q : Int32 × ZL} (k : ∀ (H : Heap) (locs : List Loc), WS g σ q.2 s H locs → W p l e R s m args below meth c H locs cells slots Q (F0 m (pc + 3) ls (.int q.1 :: rest))) : ∀ (r : Int32) (u : ZI × ZL) (H : Heap) (locs : List Loc), ((r, u.2) = q ∧ u.1 = σ) → WS g u.1 u.2 s H locs → W p l e R s m args below meth c H locs cells slots Q (F0 m (pc + 3) ls (.int r :: rest)) := by
  intro r u H locs hp hS
  obtain ⟨u1, u2⟩ := u
  obtain ⟨rfl, rfl⟩ := hp
  exact k H locs hS
theorem kBiC {q : Int32 × ZI × ZL} (k : ∀ (H : Heap) (locs : List Loc), WS g q.2.1 q.2.2 s H locs → W p l e R s m args below meth c H locs cells slots Q (F0 m (pc + 3) ls (.int q.1 :: rest))) : ∀ (r : Int32) (u : ZI × ZL) (H : Heap) (locs : List Loc), ((r, u.1, u.2) = q) → WS g u.1 u.2 s H locs → W p l e R s m args below meth c H locs cells slots Q (F0 m (pc + 3) ls (.int r :: rest)) := by
  intro r u H locs hp hS
  obtain ⟨u1, u2⟩ := u
  subst hp
  exact k H locs hS
theorem kRlC {q : Int64} (k : ∀ (H : Heap) (locs : List Loc), WS g σ τ s H locs → W p l e R s m args below meth c H locs cells slots Q (F0 m (pc + 3) ls (.long q :: rest))) : ∀ (r : Int64) (u : ZI × ZL) (H : Heap) (locs : List Loc), (r = q ∧ u.1 = σ ∧ u.2 = τ) → WS g u.1 u.2 s H locs → W p l e R s m args below meth c H locs cells slots Q (F0 m (pc + 3) ls (.long r :: rest)) := by
  intro r u H locs hp hS
  obtain ⟨u1, u2⟩ := u
  obtain ⟨rfl, rfl, rfl⟩ := hp
  exact k H locs hS
theorem kIlC {q : Int64 × ZI} (k : ∀ (H : Heap) (locs : List Loc), WS g q.2 τ s H locs → W p l e R s m args below meth c H locs cells slots Q (F0 m (pc + 3) ls (.long q.1 :: rest))) : ∀ (r : Int64) (u : ZI × ZL) (H : Heap) (locs : List Loc), ((r, u.1) = q ∧ u.2 = τ) → WS g u.1 u.2 s H locs → W p l e R s m args below meth c H locs cells slots Q (F0 m (pc + 3) ls (.long r :: rest)) := by
  intro r u H locs hp hS
  obtain ⟨u1, u2⟩ := u
  obtain ⟨rfl, rfl⟩ := hp
  exact k H locs hS
theorem kJlC {q : Int64 × ZL} (k : ∀ (H : Heap) (locs : List Loc), WS g σ q.2 s H locs → W p l e R s m args below meth c H locs cells slots Q (F0 m (pc + 3) ls (.long q.1 :: rest))) : ∀ (r : Int64) (u : ZI × ZL) (H : Heap) (locs : List Loc), ((r, u.2) = q ∧ u.1 = σ) → WS g u.1 u.2 s H locs → W p l e R s m args below meth c H locs cells slots Q (F0 m (pc + 3) ls (.long r :: rest)) := by
  intro r u H locs hp hS
  obtain ⟨u1, u2⟩ := u
  obtain ⟨rfl, rfl⟩ := hp
  exact k H locs hS
theorem kBlC {q : Int64 × ZI × ZL} (k : ∀ (H : Heap) (locs : List Loc), WS g q.2.1 q.2.2 s H locs → W p l e R s m args below meth c H locs cells slots Q (F0 m (pc + 3) ls (.long q.1 :: rest))) : ∀ (r : Int64) (u : ZI × ZL) (H : Heap) (locs : List Loc), ((r, u.1, u.2) = q) → WS g u.1 u.2 s H locs → W p l e R s m args below meth c H locs cells slots Q (F0 m (pc + 3) ls (.long r :: rest)) := by
  intro r u H locs hp hS
  obtain ⟨u1, u2⟩ := u
  subst hp
  exact k H locs hS
end LR
/-! THE CLAIM OUT OF ONE WALK OF THE LAW'S BODY. Your part is whole_start (and what it stands on); all else here is the same for every law, but numbers. -/
def R_law : String := "MailCatchLaw"
def lw_P (b : Addr) (xs : List Int32) (args : Array Value) (s : State) : Prop := args = #[.ref b] ∧ s.IntsAt b xs ∧ xs.length ≤ 2560 ∧ (Jvm.Cond.and given_1 narrow_1).before args s = true
def lw_Q (_ : Array Value) (s : State) (o : Outcome) (t : State) : Prop := o = .returned (some (.int 1)) ∧ Framed s o t [] 79 1296
def lw_Z (below : List Frame) (a : Array Value) (s : State) : State → Prop := fun t => ∃ o, t.status = .running ∧ Ended t below o ∧ lw_Q a s o t
/-- the law's own end, with 1 on the stack, nothing written that was there before, its room as the claim has it -/
theorem lw_ret {p : Program} {l : Launch} {e : Env} {s : State} {m : MethodId} {below : List Frame} {meth : Method} {c : Code} {b : Nat} (hx : p.tables.exec = Jvm.exec) (hb : c.code = code) (hr : meth.sig.returnType = ret) (hlocks : meth.locks = false) {pc : Nat} {H : Heap} {ls : Array Slot} (hdg : decode code pc = .ok (.ireturn, 1)) : W p l e room_1 s m #[Value.ref b] below meth c H [] 79 1296 (lw_Z below #[Value.ref b] s) (F0 m pc ls [.int 1]) := by
  intro T hT X
  obtain ⟨fs, hret, hrun, hended, hW, hframe⟩ := X.leave (v := some (.int 1)) (hlocks := hlocks) (fun h => by rw [hr] at h; cases h)
  have hmeth' : T.vm.method? m = some meth := X.method'
  refine ⟨T.setFrames fs, ?_, .returned (some (.int 1)), hrun, hended, rfl, ⟨_, rfl⟩, hW, hframe⟩
  jvm_step X.here [X.here.top, hx, hb, hdg, hmeth', hr, ret, narrow_b1]
  (try refine ⟨rfl, ?_⟩); (try refine ⟨rfl, ?_⟩)
  first | (intro acts; rw [hret _ acts rfl rfl rfl]) | rw [hret _ _ rfl rfl rfl]
  exact Steps.refl _
/-- what holds at the law's entry: the machine, the code, the tables' words (any of lw_tbl by 'hts w (by decide +kernel)'), the script of L ints xs at the cell b, what the Statement gives of the start (any of its parts by flat_of_before) -/
def lw_At (p : Program) (s : State) (m : MethodId) (meth : Method) (c : Code) (b L : Nat) (xs : Nat → Int32) : Prop :=
  p.tables.exec = Jvm.exec ∧ c.code = code ∧ meth.sig.returnType = ret ∧ c.maxLocals = 4 ∧ s.vm.findClass R_law = some m.cls ∧ (∀ w ∈ lw_tbl, w.before #[Value.ref b] s = true) ∧ va_X b L xs s s.heap ∧ b < s.heap.size ∧ meth.locks = false ∧ (Jvm.Cond.and given_1 narrow_1).before #[Value.ref b] s = true
