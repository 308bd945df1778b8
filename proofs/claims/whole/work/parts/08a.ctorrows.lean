set_option maxRecDepth 20000 in
theorem tb_131 : Cond.methodLink RX7 1 objectInit ∈ TBL := tb_seg (ts_1 _ (List.mem_of_getElem? (i := 23) rfl)) rfl
set_option maxRecDepth 20000 in
theorem tb_132 : Cond.instanceMethod objectInit ∈ TBL := tb_seg (ts_1 _ (List.mem_of_getElem? (i := 24) rfl)) rfl
set_option maxRecDepth 20000 in
theorem tb_133 : Cond.code objectInit ⟨#[0xb1]⟩ 1 none ∈ TBL := tb_seg (ts_1 _ (List.mem_of_getElem? (i := 25) rfl)) rfl
set_option maxRecDepth 20000 in
theorem tb_134 : Cond.classLink RX7 7 RX6 ∈ TBL := tb_seg (ts_1 _ (List.mem_of_getElem? (i := 26) rfl)) rfl
set_option maxRecDepth 20000 in
theorem tb_135 : Cond.instantiable RX6 8 ∈ TBL := tb_seg (ts_1 _ (List.mem_of_getElem? (i := 27) rfl)) rfl
set_option maxRecDepth 20000 in
theorem tb_137 : Cond.instanceMethod yX6_init ∈ TBL := tb_seg (ts_1 _ (List.mem_of_getElem? (i := 29) rfl)) rfl
set_option maxRecDepth 20000 in
theorem tb_138 : Cond.code yX6_init cX6_init 1 none ∈ TBL := tb_seg (ts_1 _ (List.mem_of_getElem? (i := 30) rfl)) rfl
set_option maxRecDepth 20000 in
theorem tb_139 : Cond.methodLink RX6 3 objectInit ∈ TBL := tb_seg (ts_1 _ (List.mem_of_getElem? (i := 31) rfl)) rfl
set_option maxRecDepth 20000 in
theorem tb_140 : Cond.methodLink RX6 36 yX6_restart ∈ TBL := tb_seg (ts_1 _ (List.mem_of_getElem? (i := 32) rfl)) rfl
set_option maxRecDepth 20000 in
theorem tb_189 : Cond.arrayClass .int ∈ TBL := tb_seg (ts_1 _ (List.mem_of_getElem? (i := 81) rfl)) rfl
set_option maxRecDepth 20000 in
theorem tb_190 : Cond.classLink RX7 22 RX2 ∈ TBL := tb_seg (ts_1 _ (List.mem_of_getElem? (i := 82) rfl)) rfl
set_option maxRecDepth 20000 in
theorem tb_191 : Cond.instantiable RX2 5 ∈ TBL := tb_seg (ts_1 _ (List.mem_of_getElem? (i := 83) rfl)) rfl
set_option maxRecDepth 20000 in
theorem tb_193 : Cond.instanceMethod yX2_init ∈ TBL := tb_seg (ts_1 _ (List.mem_of_getElem? (i := 85) rfl)) rfl
set_option maxRecDepth 20000 in
theorem tb_194 : Cond.code yX2_init cX2_init 1 none ∈ TBL := tb_seg (ts_1 _ (List.mem_of_getElem? (i := 86) rfl)) rfl
set_option maxRecDepth 20000 in
theorem tb_195 : Cond.methodLink RX2 3 objectInit ∈ TBL := tb_seg (ts_1 _ (List.mem_of_getElem? (i := 87) rfl)) rfl
set_option maxRecDepth 20000 in
theorem tb_196 : Cond.classLink RX2 9 RX5 ∈ TBL := tb_seg (ts_1 _ (List.mem_of_getElem? (i := 88) rfl)) rfl
set_option maxRecDepth 20000 in
theorem tb_197 : Cond.instantiable RX5 5 ∈ TBL := tb_seg (ts_1 _ (List.mem_of_getElem? (i := 89) rfl)) rfl
set_option maxRecDepth 20000 in
theorem tb_199 : Cond.instanceMethod yX5_init ∈ TBL := tb_seg (ts_1 _ (List.mem_of_getElem? (i := 91) rfl)) rfl
set_option maxRecDepth 20000 in
theorem tb_200 : Cond.code yX5_init cX5_init 1 none ∈ TBL := tb_seg (ts_1 _ (List.mem_of_getElem? (i := 92) rfl)) rfl
set_option maxRecDepth 20000 in
theorem tb_201 : Cond.methodLink RX5 3 objectInit ∈ TBL := tb_seg (ts_1 _ (List.mem_of_getElem? (i := 93) rfl)) rfl
set_option maxRecDepth 20000 in
theorem tb_223 : Cond.arrayClass .byte ∈ TBL := tb_seg (ts_1 _ (List.mem_of_getElem? (i := 115) rfl)) rfl
set_option maxRecDepth 20000 in
theorem tb_224 : Cond.classLink RX2 18 RX6 ∈ TBL := tb_seg (ts_1 _ (List.mem_of_getElem? (i := 116) rfl)) rfl
set_option maxRecDepth 20000 in
theorem tb_246 : Cond.classLink RX7 36 RX1 ∈ TBL := tb_seg (ts_1 _ (List.mem_of_getElem? (i := 138) rfl)) rfl
set_option maxRecDepth 20000 in
theorem tb_247 : Cond.instantiable RX1 6 ∈ TBL := tb_seg (ts_1 _ (List.mem_of_getElem? (i := 139) rfl)) rfl
set_option maxRecDepth 20000 in
theorem tb_249 : Cond.instanceMethod yX1_init ∈ TBL := tb_seg (ts_1 _ (List.mem_of_getElem? (i := 141) rfl)) rfl
set_option maxRecDepth 20000 in
theorem tb_250 : Cond.code yX1_init cX1_init 1 none ∈ TBL := tb_seg (ts_1 _ (List.mem_of_getElem? (i := 142) rfl)) rfl
set_option maxRecDepth 20000 in
theorem tb_251 : Cond.methodLink RX1 3 objectInit ∈ TBL := tb_seg (ts_1 _ (List.mem_of_getElem? (i := 143) rfl)) rfl
set_option maxRecDepth 20000 in
theorem tb_271 : Cond.classLink RX7 43 RX0 ∈ TBL := tb_seg (ts_1 _ (List.mem_of_getElem? (i := 163) rfl)) rfl
set_option maxRecDepth 20000 in
theorem tb_272 : Cond.instantiable RX0 10 ∈ TBL := tb_seg (ts_1 _ (List.mem_of_getElem? (i := 164) rfl)) rfl
set_option maxRecDepth 20000 in
theorem tb_274 : Cond.instanceMethod yX0_init ∈ TBL := tb_seg (ts_1 _ (List.mem_of_getElem? (i := 166) rfl)) rfl
set_option maxRecDepth 20000 in
theorem tb_275 : Cond.code yX0_init cX0_init 1 none ∈ TBL := tb_seg (ts_1 _ (List.mem_of_getElem? (i := 167) rfl)) rfl
set_option maxRecDepth 20000 in
theorem tb_276 : Cond.methodLink RX0 3 objectInit ∈ TBL := tb_seg (ts_1 _ (List.mem_of_getElem? (i := 168) rfl)) rfl
set_option maxRecDepth 20000 in
theorem tb_310 : Cond.arrayClass .long ∈ TBL := tb_seg (ts_1 _ (List.mem_of_getElem? (i := 202) rfl)) rfl
set_option maxRecDepth 20000 in
theorem tb_311 : Cond.classLink RX7 50 RX3 ∈ TBL := tb_seg (ts_1 _ (List.mem_of_getElem? (i := 203) rfl)) rfl
set_option maxRecDepth 20000 in
theorem tb_312 : Cond.instantiable RX3 3 ∈ TBL := tb_seg (ts_1 _ (List.mem_of_getElem? (i := 204) rfl)) rfl
set_option maxRecDepth 20000 in
theorem tb_314 : Cond.instanceMethod yX3_init ∈ TBL := tb_seg (ts_1 _ (List.mem_of_getElem? (i := 206) rfl)) rfl
set_option maxRecDepth 20000 in
theorem tb_315 : Cond.code yX3_init cX3_init 1 none ∈ TBL := tb_seg (ts_1 _ (List.mem_of_getElem? (i := 207) rfl)) rfl
set_option maxRecDepth 20000 in
theorem tb_316 : Cond.methodLink RX3 3 objectInit ∈ TBL := tb_seg (ts_1 _ (List.mem_of_getElem? (i := 208) rfl)) rfl
set_option maxRecDepth 20000 in
theorem tb_328 : Cond.classLink RX7 57 RX4 ∈ TBL := tb_seg (ts_1 _ (List.mem_of_getElem? (i := 220) rfl)) rfl
set_option maxRecDepth 20000 in
theorem tb_329 : Cond.instantiable RX4 4 ∈ TBL := tb_seg (ts_1 _ (List.mem_of_getElem? (i := 221) rfl)) rfl
set_option maxRecDepth 20000 in
theorem tb_331 : Cond.instanceMethod yX4_init ∈ TBL := tb_seg (ts_1 _ (List.mem_of_getElem? (i := 223) rfl)) rfl
set_option maxRecDepth 20000 in
theorem tb_332 : Cond.code yX4_init cX4_init 1 none ∈ TBL := tb_seg (ts_1 _ (List.mem_of_getElem? (i := 224) rfl)) rfl
set_option maxRecDepth 20000 in
theorem tb_333 : Cond.methodLink RX4 3 objectInit ∈ TBL := tb_seg (ts_1 _ (List.mem_of_getElem? (i := 225) rfl)) rfl
set_option maxRecDepth 20000 in
theorem tb_1033 : Cond.methodLink RX8 1 objectInit ∈ TBL := tb_seg (ts_4 _ (List.mem_of_getElem? (i := 205) rfl)) rfl
set_option maxRecDepth 20000 in
theorem tb_1176 : Cond.arrayClass .boolean ∈ TBL := tb_seg (ts_5 _ (List.mem_of_getElem? (i := 108) rfl)) rfl
set_option maxRecDepth 20000 in
theorem lk_X6_36 : lkV RX6 36 yX6_restart cX6_restart 1 none 0 := ⟨tb_140, tb_142, tb_0, tb_110, tb_143, ⟨by decide, by decide, by decide +kernel⟩⟩
/-! constructors -/
def lz (L : List Int32) (k : Nat) : Nat → Int32 := fun j => if j < k then L.getD j 0 else 0
theorem lz_0 {L : List Int32} : (fun _ => (0 : Int32)) = lz L 0 := by funext j; simp [lz]
theorem lz_put {L : List Int32} {f : Nat → Int32} {k : Nat} {i v : Int32} (hf : f = lz L k) (hi : i.toNatClampNeg = k) (hv : L.getD k 0 = v) : upd f i.toNatClampNeg v = lz L (k + 1) := by
  subst hf
  rw [hi, ← hv]
  funext j
  unfold upd lz
  by_cases h : j = k
  · subst h; simp
  · rw [if_neg h]
    by_cases h2 : j < k
    · rw [if_pos h2, if_pos (by omega)]
    · rw [if_neg h2, if_neg (by omega)]
def fAT : Nat → Int32 := fun j => if j < 13 then sAT.getD j 0 else 0
def CP (g : GG) (U : State) : Prop := va_K (gD g) vwCl (tyW g) U ∧ NWs U ∧ STt g 100 U U.heap
def CPre (g : GG) (sz : Nat) (ws : va_W) : State → Prop := fun U => CP g U ∧ U.heap.size = sz ∧ gB g ≤ sz ∧ va_P (gD g) vwCl ws U.heap ∧ va_D (AA g) ws
theorem CP.next {g : GG} {s U : State} {A : Nat → Prop} {H : Heap} {locs : List Loc} (h : CP g s) (hS : va_S A s.heap H locs) (hAB : ∀ q, A q → AA g q) (hU : U.heap = H) (hW : s.WarmedH U.vm) : CP g U := by
  subst hU
  exact ⟨va_K.moved hW.alike h.1, h.2.1.warm hW, h.2.2.next hW.alike (fun a h1 h2 => hS.2.1 a h1 (fun z => h2 (hAB a z)))⟩
theorem CP.blind {g : GG} {u U : State} (hv : u.vm = U.vm) (hh : u.heap = U.heap) (h : CP g u) : CP g U := by
  have ha : u.vm.Alike U.vm := hv ▸ Vm.Alike.refl u.vm
  refine ⟨va_K.moved ha h.1, h.2.1.same hv, ?_⟩
  rw [← hh]
  exact ⟨h.2.2.1.moved ha, h.2.2.2.moved ha⟩
theorem C_in {l : Launch} {y : MethodName} {bytes : ByteArray} {maxL : Nat} {ret : Option FieldType} {rm : Room} {av : List Value} {g : GG} {sz : Nat} {ws : va_W} {mc ms : Nat} {free : Addr → Prop} {Qc : Array Value → State → Outcome → State → Prop}
    (hy : plainName y.cls = true) (hn : (lg_sl av).length ≤ maxL)
    (body : ∀ (p : Program) (e : Env) (s : State) (m : MethodId) (args : Array Value) (below : List Frame) (meth : Method) (c : Code), CallFix p m c bytes maxL s args TBL y.cls → CP g s → s.heap.size = sz → gB g ≤ sz → va_P (gD g) vwCl ws s.heap → va_D (AA g) ws → meth.sig.returnType = ret → meth.locks = false → meth.name = y.name → ∀ ls : Array Slot, lv_has ls maxL (lv_args 0 av) →
      W p l e rm s m args below meth c s.heap [] 0 0 (MQ below Qc args s mc ms free) (F0 m 0 ls [])) : Met l y (.code y bytes maxL ret :: TBL) rm (va_Pc av (CPre g sz ws)) Qc mc ms free := by
  refine Met.ofW (cc := bytes) (maxL := maxL) (ret := ret) hy rfl ?_
  intro p e s m args below meth c s₁ B hml hv
  obtain ⟨rfl, hK, hsz, hgb, hP, hD⟩ := hv
  have hts := atoms_spec (ws := .code y bytes maxL ret :: TBL) B.pre
  rw [lg_entry_eq]
  exact body p e s m _ below meth c ⟨B.exec, B.bytes, hml, findClass_of_methodNamed B.named, fun w h => hts w (List.mem_cons_of_mem _ h)⟩ hK hsz hgb hP hD B.returns B.notSynchronized (name_of_methodNamed B.named B.method).1 _ (lv_entry av hn)
theorem C_AB {g : GG} {ws : va_W} {sz : Nat} (hD : va_D (AA g) ws) (h : gB g ≤ sz) : ∀ q, va_A ws sz q → AA g q := by
  intro q hq
  rcases hq with ⟨k, e, hk⟩ | hq
  · exact hD.2 k _ hk
  · exact Nat.le_trans h hq
section CT
variable {p : Program} {l : Launch} {e : Env} {R : Room} {s : State} {m : MethodId} {args : Array Value} {below : List Frame} {meth : Method} {c : Code} {H : Heap} {locs : List Loc} {cells slots : Nat} {Q : State → Prop}
variable {cc : ByteArray} {pc nL : Nat} {ls : Array Slot} {rest : List Value} {g : GG} {own : String} {A : Nat → Prop} {ws : va_W}
theorem y_newa (F : CallFix p m c cc nL s args TBL own) (Kc : CP g s) (hP : va_P (gD g) vwCl ws H) (hD : va_D A ws) (hS : va_S A s.heap H locs) (hA : ∀ q, s.heap.size ≤ q → A q) (t0 : Nat) {atype : ArrayType} {ty : FieldType} {cy : ClassId} (hk : (tyW g)[t0]? = some (cy, ty)) (harr : (Cond.arrayClass (newarray.typeOf atype)).before args s = true) (hty : newarray.typeOf atype = ty)
    {n : Int32} {N' : Nat} {a0 : vp_A} (ha : ∀ cA : ClassId, vp_cell cA a0 = arrV cA N' (fun _ => defaultValue ty)) (hn : ¬ n < 0) (hN : n.toNatClampNeg = N') (hbytes : N' * componentBytes ty ≤ 536870912) (hcells : cells + 1 ≤ R.cells) (hslots : slots + N' ≤ R.slots) (hdg : decode cc pc = .ok (.newarray atype, 2)) (hprim : ∀ C, ty ≠ .object C)
    (kk : ∀ (q : Nat) (H1 : Heap), va_P (gD g) vwCl (ws ++ [(q, .inl (cy, a0))]) H1 → va_D A (ws ++ [(q, .inl (cy, a0))]) → va_S A s.heap H1 locs → W p l e R s m args below meth c H1 locs (cells + 1) (slots + N') Q (F0 m (pc + 2) ls (.ref q :: rest))) : W p l e R s m args below meth c H locs cells slots Q (F0 m pc ls (.int n :: rest)) := by
  have h1 := (Kc.1.2 t0 _ hk).2
  refine va_newa F.1 F.2.1 harr hty Kc.1 hP hD hS hA ha hn hN hbytes hcells hslots hdg (fun q cA H1 hK1 hP1 hD1 hS1 => ?_)
  have h2 := (hK1.2 (tyW g).length (cA, ty) (by simp)).2
  have e : cA = cy := by
    have h3 : s.vm.findClass ("[" ++ ty.toString) = some cA := by
      cases ty <;> first | exact h2 | exact absurd rfl (hprim _)
    have h4 : s.vm.findClass ("[" ++ ty.toString) = some cy := by
      cases ty <;> first | exact h1 | exact absurd rfl (hprim _)
    exact Option.some.inj (h3.symm.trans h4)
  subst e
  exact kk q H1 hP1 hD1 hS1
theorem y_pre {b : Addr} {As : List Value} {wc : va_W} (Kc : CP g s) (hS : va_S A s.heap H locs) (hAB : ∀ q, A q → AA g q) (hgb : gB g ≤ s.heap.size) (hPc : va_P (gD g) vwCl wc H) (hDc : va_D A wc) : PreS s H (va_Pc (.ref b :: As) (CPre g H.size wc)) (.ref b :: As) :=
  ⟨fun a U g' mk q => ⟨q.1, CP.blind (u := U) (U := U.calling g' mk a) rfl rfl q.2.1, q.2.2.1, q.2.2.2.1, q.2.2.2.2.1, q.2.2.2.2.2⟩, fun U hU hW => ⟨rfl, Kc.next hS hAB hU hW, by rw [hU], Nat.le_trans hgb hS.1, by rw [hU]; exact hPc, hDc.weaken (fun _ q _ h => hAB q.1 h)⟩⟩
theorem y_preV {b : Addr} {C : String} {As : List Value} {wc : va_W} (Kc : CP g s) (hS : va_S A s.heap H locs) (hAB : ∀ q, A q → AA g q) (hgb : gB g ≤ s.heap.size) (hPc : va_P (gD g) vwCl wc H) (hDc : va_D A wc) (hr : ∃ cell : Cell, H[b]? = some cell ∧ cell.vm.isStatics = false ∧ s.vm.findClass C = some cell.cls) : PreV s H C b (va_Pc (.ref b :: As) (CPre g H.size wc)) As :=
  ⟨(y_pre (b := b) (As := As) Kc hS hAB hgb hPc hDc).1, hr, (y_pre (b := b) (As := As) Kc hS hAB hgb hPc hDc).2⟩
theorem y_cw {y : MethodName} {bytes : ByteArray} {maxL n index : Nat} {rm : Room} (F : CallFix p m c cc nL s args TBL own) (h1 : .methodLink own index y ∈ TBL) (h2 : .initialized y.cls ∈ TBL) (h3 : .code y bytes maxL none ∈ TBL) (h4 : .instanceMethod y ∈ TBL) (hd : okD y n) (hR : rm.frames + 1 ≤ R.frames ∧ 8 + (maxL + 11) + rm.locals ≤ R.locals) (hy : y.name = "<init>" := by rfl) : CallB R s args own index y bytes maxL none (.code y bytes maxL none :: TBL) rm rm.cells rm.slots n ∧ y.name = "<init>" ∧ (Cond.instanceMethod y).before args s = true :=
  ⟨callB_of n F.2.2.2.2 (tb_code h3) rfl rfl rfl (F.2.2.2.2 _ h2) (F.2.2.2.2 _ h1) hd hR, hy, F.2.2.2.2 _ h4⟩
theorem y_cwN {y : MethodName} {host : String} {bytes : ByteArray} {maxL n index : Nat} {rm : Room} (F : CallFix p m c cc nL s args TBL own) (h1 : va_Nw (.methodLinkNest own index y host) s) (h2 : .initialized y.cls ∈ TBL) (h3 : .code y bytes maxL none ∈ TBL) (h4 : .instanceMethod y ∈ TBL) (hd : okD y n) (hR : rm.frames + 1 ≤ R.frames ∧ 8 + (maxL + 11) + rm.locals ≤ R.locals) (hy : y.name = "<init>" := by rfl) : va_CN R s args own index y host bytes maxL none (.code y bytes maxL none :: TBL) rm rm.cells rm.slots n ∧ y.name = "<init>" ∧ (Cond.instanceMethod y).before args s = true :=
  ⟨va_cnB n F.2.2.2.2 (tb_code h3) rfl rfl rfl h1 (F.2.2.2.2 _ h2) hd hR, hy, F.2.2.2.2 _ h4⟩
end CT
section CT2
variable {p : Program} {l : Launch} {e : Env} {R : Room} {s : State} {m : MethodId} {args : Array Value} {below : List Frame} {meth : Method} {c : Code} {H : Heap} {locs : List Loc} {cells slots : Nat} {Q : State → Prop}
variable {cc : ByteArray} {pc nL : Nat} {ls : Array Slot} {rest : List Value} {g : GG} {own : String} {A : Nat → Prop} {ws : va_W}
theorem fAT_cpy : va_cpy (fun j => (stL 100).getD j 0) (fun _ => (0 : Int32)) 0 0 13 = fAT := by
  funext j
  unfold va_cpy fAT
  by_cases h : j < 13
  · rw [if_pos ⟨Nat.zero_le _, by omega⟩, if_pos h]
    simp [stL]
  · rw [if_neg (by omega), if_neg h]
theorem y_copyS {a : Nat} (F : CallFix p m c cc nL s args TBL own) (Kc : CP g s) (hP : va_P (gD g) vwCl ws H) (hD : va_D A ws) (hS : va_S A s.heap H locs) (hAB : ∀ q, A q → AA g q) (hml : c.maxLocals = ls.size) {index : Nat} (hw : (Cond.methodLink own index arraycopyName).before args s = true ∧ (Cond.native arraycopyName).before args s = true ∧ (Cond.static arraycopyName).before args s = true ∧ (Cond.initialized "java/lang/System").before args s = true) (q1 : Nat) (ha1 : ws[q1]? = some (a, .inl (gC g 1, 13, .inl (fun _ => (0 : Int32))))) {z : Int32} (hz : z = nI 13) (hf : 1 ≤ R.frames) (hlo : (rest.map fun v => v.category).sum + (nativeFrameWords "java/lang/System" "arraycopy" 5 + 11) ≤ R.locals) (hdg : decode cc pc = .ok (.invokestatic index, 3))
    (kk : ∀ (H : Heap) (locs : List Loc), va_P (gD g) vwCl (ws.set q1 (a, .inl (gC g 1, 13, .inl fAT))) H → va_D A (ws.set q1 (a, .inl (gC g 1, 13, .inl fAT))) → va_S A s.heap H locs → W p l e R s m args below meth c H locs cells slots Q (F0 m (pc + 3) ls rest)) : W p l e R s m args below meth c H locs cells slots Q (F0 m pc ls (.int z :: .int 0 :: .ref a :: .int 0 :: .ref (gA g 100) :: rest)) := by
  subst hz
  have e0 : (0 : Int32).toNatClampNeg = 0 := rfl
  have en : (nI 13).toNatClampNeg = 13 := rfl
  have i0 : (0 : Int32).toInt = 0 := rfl
  have iN : (nI 13).toInt = (13 : Int) := rfl
  obtain ⟨scr, s1, s2, s3, s4, -, s5, s6⟩ := Kc.2.2.2
  have hc0 : H[gA g 100]? = some scr := by rw [hS.2.1 _ (Array.getElem?_eq_some_iff.mp s1).1 (fun z => s6 (hAB _ z))]; exact s1
  have hc1 : H[a]? = some (vp_cell (gC g 1) (13, .inl (fun _ => (0 : Int32)))) := hP q1 _ ha1
  obtain ⟨p1, k0, p2, m0, p3⟩ := s2
  obtain ⟨-, k1, p4, m1, p5⟩ := (Kc.1.2 1 _ rfl).1 13 (fun _ => .int 0)
  have hl : a < H.size := (Array.getElem?_eq_some_iff.mp hc1).1
  intro T hT X
  obtain ⟨vm', X', step⟩ := X.arraycopy F.1 F.2.2.2.1 hw.1 hw.2.1 hw.2.2.1 hw.2.2.2 (src := gA g 100) (dst := a) (cs := scr) (cd := vp_cell (gC g 1) (13, .inl (fun _ => (0 : Int32)))) (srcPos := 0) (destPos := 0) (n := nI 13) (by rw [hT]; exact hc0) (by rw [hT]; exact hc1)
    p1 (fun _ h => by cases h) s3 (fun h => by cases h) p2 p4 p3 p5 (by simp [refKind]) (by decide) (by decide) (by decide)
    (by rw [i0, iN]; omega)
    (by rw [i0, iN]; show ¬ _ > ((arrV (gC g 1) 13 (fun _ => .int 0)).slots.size : Int); rw [arrV_size]; omega)
    (fun vm₁ _ i hi => by
      rw [en] at hi
      have e1 : scr.slots.getD ((0 : Int32).toNatClampNeg + i) .null = .int ((stL 100).getD i 0) := by
        rw [Array.getD_eq_getD_getElem?, e0, Nat.zero_add, s5 i (by omega)]
        rfl
      rw [e1]
      exact ⟨rfl, trivial⟩)
    (g := F0 m pc ls (.int (nI 13) :: .int 0 :: .ref a :: .int 0 :: .ref (gA g 100) :: rest)) rfl (by rw [hml]) (rest := rest) rfl (by rw [F.2.1]; exact hdg) hf (by show 2 * 0 + _ + _ ≤ _; omega)
  have ec : copied scr (vp_cell (gC g 1) (13, .inl (fun _ => (0 : Int32)))) 0 0 (nI 13) = vp_cell (gC g 1) (13, .inl fAT) := by
    have := va_copiedX (n0 := 13) (sp := (0 : Int32).toNatClampNeg) (dp := (0 : Int32).toNatClampNeg) (n := (nI 13).toNatClampNeg) (n1 := 13) (fun z => .int z) scr (gC g 1) (fun j => (stL 100).getD j 0) (fun _ => (0 : Int32)) s5 (by rw [e0, en]; omega)
    rw [e0, en, fAT_cpy] at this
    show (arrV (gC g 1) 13 (fun _ => .int 0)).storeRun (0 : Int32).toNatClampNeg (scr.stretch (0 : Int32).toNatClampNeg (nI 13).toNatClampNeg) = _
    rw [e0, en]
    exact this
  rw [ec] at X' step
  have hheap : ((T.setVm vm').setCell a (vp_cell (gC g 1) (13, .inl fAT))).heap = H.setIfInBounds a (vp_cell (gC g 1) (13, .inl fAT)) := by rw [← hT]; rfl
  have oq : ∀ q : Nat, q ≠ a → (H.setIfInBounds a (vp_cell (gC g 1) (13, .inl fAT)))[q]? = H[q]? := fun q hq => by simp [Array.getElem?_setIfInBounds, Ne.symm hq]
  have hset := hP.set (e := .inl (gC g 1, 13, .inl fAT)) hD ha1 (H1 := H.setIfInBounds a (vp_cell (gC g 1) (13, .inl fAT))) (by show (H.setIfInBounds a _)[a]? = some _; simp [Array.getElem?_setIfInBounds, hl]) oq
  obtain ⟨t, a1, b1⟩ := kk _ _ hset (hD.set ha1) ⟨by simp; exact hS.1, fun q g1 g2 => by
      rw [oq q (fun e => g2 (by rw [e]; exact hD.2 q1 _ ha1))]
      exact hS.2.1 q g1 g2, fun q hq => by
      rcases List.mem_append.mp hq with h | h
      · exact hS.2.2 q h
      · obtain ⟨z, -, hz⟩ := List.mem_map.mp h
        rw [← hz]
        exact hD.2 q1 _ ha1⟩ _ hheap X'
  exact ⟨t, step t a1, b1⟩
end CT2
abbrev rmi_X6_restart : Room := { frames := 1, cells := 0, slots := 0, locals := 40 }
set_option maxHeartbeats 4000000 in
set_option maxRecDepth 100000 in
theorem k_X6_restart (l : Launch) (g : GG) (h0 a1 sz : Nat) (v2 v3 v4 v5 v6 v7 v8 : Value) : Met l yX6_restart (.code yX6_restart cX6_restart 1 none :: TBL) rmi_X6_restart (va_Pc [.ref h0] (CPre g sz [(h0, .inr (6, [.ref a1, v2, v3, v4, v5, v6, v7, v8])), (a1, .inl (gC g 1, 13, .inl (fun _ => (0 : Int32))))])) (va_Qv (fun _ : Unit => True) (fun _ t => va_P (gD g) vwCl [(h0, .inr (6, [.ref a1, v2, v3, v4, v5, v6, v7, v8])), (a1, .inl (gC g 1, 13, .inl fAT))] t.heap ∧ va_D (va_A [(h0, .inr (6, [.ref a1, v2, v3, v4, v5, v6, v7, v8])), (a1, .inl (gC g 1, 13, .inl (fun _ => (0 : Int32))))] sz) [(h0, .inr (6, [.ref a1, v2, v3, v4, v5, v6, v7, v8])), (a1, .inl (gC g 1, 13, .inl fAT))]) (va_A [(h0, .inr (6, [.ref a1, v2, v3, v4, v5, v6, v7, v8])), (a1, .inl (gC g 1, 13, .inl (fun _ => (0 : Int32))))] sz)) 0 0 (va_A [(h0, .inr (6, [.ref a1, v2, v3, v4, v5, v6, v7, v8])), (a1, .inl (gC g 1, 13, .inl (fun _ => (0 : Int32))))] sz) := by
  refine C_in (by decide) (Nat.le_of_ble_eq_true rfl) ?_
  intro p e s m args below meth c F Kc hsz hgb hP hD0 hr0 hk0 hin0 ls hl
  subst hsz
  have hD := hD0.self (sz := s.heap.size)
  have hAB := C_AB hD0 hgb
  generalize hAe : va_A [(h0, .inr (6, [.ref a1, v2, v3, v4, v5, v6, v7, v8])), (a1, .inl (gC g 1, 13, .inl (fun _ => (0 : Int32))))] s.heap.size = A at hD hAB ⊢
  have hA : ∀ q : Nat, s.heap.size ≤ q → A q := fun q h => by rw [← hAe]; exact Or.inr h
  have hS : va_S A s.heap s.heap [] := va_S.rf
  have hl : lv_has ls 1 [(0, .ref h0)] := hl
  refine va_getsN F.1 F.2.1 (Kc.2.2.1.narrow hAB) hS F.2.2.2.1 (va_Nw.use rfl (Kc.2.1 _ (ts_1 _ (List.mem_of_getElem? (i := 36) rfl)) rfl)) (fun _ h => h) dX6_restart_0 ?_
  refine lv_iconst (v := (0 : Int32)) F.1 F.2.1 dX6_restart_3 (by decide) ?_
  refine lv_aload_n F.1 F.2.1 dX6_restart_4 rfl (lv_at hl 0 rfl) ?_
  refine va_get (C := RX6) (T := TX6) (N := 8) (v := .ref a1) F.1 F.2.1 F.2.2.2.2 inX6 F.2.2.2.1 Kc.1 hP 0 rfl rfl 0 (by decide) (F.2.2.2.2 _ tb_149) (fun _ h => h) rfl dX6_restart_5 ?_
  refine lv_iconst (v := (0 : Int32)) F.1 F.2.1 dX6_restart_8 (by decide) ?_
  refine lv_bipush (v := (13 : Int32)) F.1 F.2.1 dX6_restart_9 (by decide) ?_
  refine y_copyS F Kc hP hD hS hAB (F.2.2.1.trans hl.1.symm) ⟨F.2.2.2.2 _ tb_146, F.2.2.2.2 _ tb_148, F.2.2.2.2 _ tb_147, F.2.2.2.2 _ tb_111⟩ 1 rfl rfl (Nat.le_of_ble_eq_true rfl) (Nat.le_of_ble_eq_true rfl) dX6_restart_11 (fun H locs hP hD hS => ?_)
  exact W.vret F.1 F.2.1 hr0 (fun t ht hW => ⟨⟨(), rfl, trivial, by rw [ht]; exact hP, hD⟩, hS.F ht⟩) hS.2.2 dX6_restart_14 hk0
