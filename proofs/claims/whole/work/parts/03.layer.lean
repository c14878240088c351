/-! The layer: what every contract here says of the world, and one rule a call and a return -/
/-- shifts, by their Java words -/
def zlushr (x : Int64) (y : Int32) : Int64 := (x.toUInt64 >>> (y.toInt64.toUInt64 &&& Int64.toUInt64 63)).toInt64
def zlshl (x : Int64) (y : Int32) : Int64 := x <<< (y.toInt64 &&& 63)
def zlshr (x : Int64) (y : Int32) : Int64 := x >>> (y.toInt64 &&& 63)
def ziushr (x y : Int32) : Int32 := (x.toUInt32 >>> (y.toUInt32 &&& Int32.toUInt32 31)).toInt32
/-- the array classes, by kind: int, long, byte, boolean, Tree, Sheet -/
abbrev zty (cA : Nat → ClassId) : List (ClassId × FieldType) := [(cA 0, .int), (cA 1, .long), (cA 2, .byte), (cA 3, .boolean), (cA 4, .object "ExcessTree$Tree"), (cA 5, .object "ExcessTree$Sheet")]
/-- fields of nest mates that are reached across classes -/
def zNt : List (String × Nat × String × String × String) := [("ExcessTree$Tree", 25, "ExcessTree$Row", "places", "I"), ("ExcessTree$Tape", 65, "ExcessTree$Tree", "weights", "[I"), ("ExcessTree$Tape", 52, "ExcessTree$Row", "places", "I"), ("ExcessTree$Tape", 19, "ExcessTree$Tree", "row", "LExcessTree$Row;"), ("ExcessTree", 74, "ExcessTree$Row", "places", "I"), ("ExcessTree", 70, "ExcessTree$Tree", "row", "LExcessTree$Row;"), ("ExcessTree", 60, "ExcessTree$Tape", "start", "I"), ("ExcessTree", 57, "ExcessTree$Tape", "latestFault", "I"), ("ExcessTree", 49, "ExcessTree$Tape", "length", "I"), ("ExcessTree", 287, "ExcessTree$Sheet", "length", "I"), ("ExcessTree", 260, "ExcessTree$Sheet", "cells", "[J"), ("ExcessTree", 199, "ExcessTree$Tree", "weights", "[I"), ("ExcessTree", 132, "ExcessTree$Row", "highs", "[I"), ("ExcessTree", 129, "ExcessTree$Row", "lows", "[I"), ("ExcessTree", 125, "ExcessTree$Row", "gains", "[I")]
def zNw (w : String × Nat × String × String × String) : Cond := .fieldLinkNest w.1 w.2.1 w.2.2.1 w.2.2.2.1 w.2.2.2.2 "ExcessTree"
def zK (D : va_G) (cA : Nat → ClassId) (U : State) : Prop := va_K D vwCl (zty cA) U ∧ ∀ w ∈ zNt, va_Nw (zNw w) U
theorem zK.warm {D : va_G} {cA : Nat → ClassId} {s U : State} (hW : s.WarmedH U.vm) (h : zK D cA s) : zK D cA U := ⟨va_K.moved hW.alike h.1, fun w hw => va_Nw.warmF hW (h.2 w hw)⟩
theorem zK.same {D : va_G} {cA : Nat → ClassId} {u U : State} (hv : u.vm = U.vm) (h : zK D cA u) : zK D cA U := ⟨va_K.moved (by rw [hv]; exact Vm.Alike.refl _) h.1, fun w hw => va_Nw.same rfl hv (h.2 w hw)⟩
theorem zK.nest {D : va_G} {cA : Nat → ClassId} {U : State} (h : zK D cA U) {A : Array Value} (k : Nat) {a : String} {i : Nat} {b n d : String} (hk : zNt[k]? = some (a, i, b, n, d)) : (Cond.fieldLinkNest a i b n d "ExcessTree").before A U = true := va_Nw.use rfl (h.2 (a, i, b, n, d) (List.mem_of_getElem? hk))
/-- a start that only reads -/
def zPr (D : va_G) (cA : Nat → ClassId) (av : List Value) (ws : va_W) : Array Value → State → Prop := fun v U => v = av.toArray ∧ va_P D vwCl ws U.heap ∧ zK D cA U
theorem zPr_bl {D : va_G} {cA : Nat → ClassId} {av : List Value} {ws : va_W} : FrameBlind (zPr D cA av ws) := fun a U g mk h => ⟨h.1, h.2.1, zK.same (u := U) rfl h.2.2⟩
/-- a start that writes -/
def zPw (D : va_G) (cA : Nat → ClassId) (av : List Value) (ws : va_W) (sz : Nat) : Array Value → State → Prop := fun v U => v = av.toArray ∧ U.heap.size = sz ∧ va_P D vwCl ws U.heap ∧ zK D cA U ∧ va_D (fun _ => True) ws
theorem zPw_bl {D : va_G} {cA : Nat → ClassId} {av : List Value} {ws : va_W} {sz : Nat} : FrameBlind (zPw D cA av ws sz) := fun a U g mk h => ⟨h.1, h.2.1, h.2.2.1, zK.same (u := U) rfl h.2.2.2.1, h.2.2.2.2⟩
def zB {S : Type} (D : va_G) (A : Nat → Prop) (wf : S → va_W) : S → State → Prop := fun u t => va_P D vwCl (wf u) t.heap ∧ va_D A (wf u)
theorem z_psub {D : va_G} {cl : List vw_C} {ws ws' : va_W} {H : Heap} (h : va_P D cl ws H) (is : List Nat) (hs : is.map (fun i => ws[i]?) = ws'.map some) : va_P D cl ws' H := by
  intro k q hk
  have h1 : (is.map (fun i => ws[i]?))[k]? = some (some q) := by rw [hs, List.getElem?_map, hk]; rfl
  rw [List.getElem?_map] at h1
  cases hi : is[k]? with
  | none => rw [hi] at h1; cases h1
  | some i => rw [hi] at h1; exact h i q (Option.some.inj h1)
theorem z_p0 {D : va_G} {cl : List vw_C} {H : Heap} : va_P D cl [] H := fun k q h => by simp at h
section ZE
variable {l : Launch} {y : MethodName} {ws ws' : List Cond} {rm : Room} {D : va_G} {cA : Nat → ClassId} {av : List Value} {wc : va_W} {Qc : Array Value → State → Outcome → State → Prop} {free : Addr → Prop} {cc : ByteArray} {maxL : Nat} {ret : Option FieldType}
/-- a method that only reads, from its entry -/
theorem z_ro (hy : plainName y.cls = true) (hw : ws = Cond.code y cc maxL ret :: ws') (hav : (lg_sl av).length ≤ maxL)
    (body : ∀ (p : Program) (e : Env) (s : State) (m : MethodId) (args : Array Value) (below : List Frame) (meth : Method) (c : Code) (ls : Array Slot), p.tables.exec = Jvm.exec → c.code = cc → meth.sig.returnType = ret → meth.locks = false → c.maxLocals = maxL → s.vm.findClass y.cls = some m.cls → (∀ w ∈ ws, w.before args s = true) → zK D cA s → va_P D vwCl wc s.heap → lv_has ls maxL (lv_args 0 av) → W p l e rm s m args below meth c s.heap [] 0 0 (MQ below Qc args s 0 0 free) (F0 m 0 ls [])) : Met l y ws rm (zPr D cA av wc) Qc 0 0 free := by
  refine Met.ofW (cc := cc) (maxL := maxL) (ret := ret) hy hw ?_
  intro p e s m args below meth c s₁ B hml hv
  obtain ⟨rfl, hP, hK⟩ := hv
  have hl := lv_entry av (n := maxL) hav
  rw [lg_entry_eq]
  exact body p e s m _ below meth c _ B.exec B.bytes B.returns B.notSynchronized hml (findClass_of_methodNamed B.named) (atoms_spec (ws := ws) B.pre) hK hP hl
/-- a method that writes, from its entry -/
theorem z_rw {sz : Nat} {Qc : (Nat → Prop) → Array Value → State → Outcome → State → Prop} (hy : plainName y.cls = true) (hw : ws = Cond.code y cc maxL ret :: ws') (hav : (lg_sl av).length ≤ maxL)
    (body : ∀ (p : Program) (e : Env) (s : State) (m : MethodId) (args : Array Value) (below : List Frame) (meth : Method) (c : Code) (ls : Array Slot) (A : Nat → Prop), p.tables.exec = Jvm.exec → c.code = cc → meth.sig.returnType = ret → meth.locks = false → c.maxLocals = maxL → s.vm.findClass y.cls = some m.cls → (∀ w ∈ ws, w.before args s = true) → zK D cA s → va_P D vwCl wc s.heap → va_D A wc → va_S A s.heap s.heap [] → (∀ q, s.heap.size ≤ q → A q) → lv_has ls maxL (lv_args 0 av) → W p l e rm s m args below meth c s.heap [] 0 0 (MQ below (Qc A) args s 0 0 A) (F0 m 0 ls [])) : Met l y ws rm (zPw D cA av wc sz) (Qc (va_A wc sz)) 0 0 (va_A wc sz) := by
  refine Met.ofW (cc := cc) (maxL := maxL) (ret := ret) hy hw ?_
  intro p e s m args below meth c s₁ B hml hv
  obtain ⟨rfl, rfl, hP, hK, hD⟩ := hv
  have hl := lv_entry av (n := maxL) hav
  rw [lg_entry_eq]
  exact body p e s m _ below meth c _ _ B.exec B.bytes B.returns B.notSynchronized hml (findClass_of_methodNamed B.named) (atoms_spec (ws := ws) B.pre) hK hP (hD.self (sz := s.heap.size)) va_S.rf (fun q h => Or.inr h) hl
end ZE
section ZC
variable {p : Program} {l : Launch} {e : Env} {R : Room} {s : State} {m : MethodId} {args : Array Value} {below : List Frame} {meth : Method} {c : Code} {H H0 : Heap} {locs : List Loc} {cells slots : Nat} {Q : State → Prop}
variable {y : MethodName} {bytes cc : ByteArray} {maxL nL n index pc : Nat} {ret : Option FieldType} {wy Ts : List Cond} {rm : Room} {own C : String} {b : Addr} {ls : Array Slot} {st0 : List Value} {D : va_G} {cA : Nat → ClassId} {wc ws wr : va_W} {A : Nat → Prop}
theorem z_si {post : Int32 → Prop} (As rest : List Value) (Sx : CallFix p m c cc nL s args Ts own) (hM : Met l y wy rm (zPr D cA As wc) (vp_Si post) 0 0 (fun _ => False)) (cw : CallB R s args own index y bytes maxL ret wy rm 0 0 n ∧ (Cond.static y).before args s = true) (hK : zK D cA s) (hP : va_P D vwCl wc H) (hn : As.length = n) (hsize : ls.size = nL) (hst : st0 = As.reverse ++ rest) (hW : (rest.map fun v => v.category).sum ≤ 8) (hdg : decode cc pc = .ok (.invokestatic index, 3)) (hf : cells ≤ R.cells ∧ slots ≤ R.slots)
    (kk : ∀ r : Int32, post r → W p l e R s m args below meth c H locs cells slots Q (F0 m (pc + 3) ls (.int r :: rest))) : W p l e R s m args below meth c H locs cells slots Q (F0 m pc ls st0) :=
  vp_callSi (va_Run.run (va_runS Sx hM cw ⟨zPr_bl, fun U hU hW => ⟨rfl, by rw [hU]; exact hP, hK.warm hW⟩⟩ rfl hn hsize hst (lv_room hW) hdg hf)) kk
theorem z_sl {post : Int64 → Prop} (As rest : List Value) (Sx : CallFix p m c cc nL s args Ts own) (hM : Met l y wy rm (zPr D cA As wc) (vp_Sl post) 0 0 (fun _ => False)) (cw : CallB R s args own index y bytes maxL ret wy rm 0 0 n ∧ (Cond.static y).before args s = true) (hK : zK D cA s) (hP : va_P D vwCl wc H) (hn : As.length = n) (hsize : ls.size = nL) (hst : st0 = As.reverse ++ rest) (hW : (rest.map fun v => v.category).sum ≤ 8) (hdg : decode cc pc = .ok (.invokestatic index, 3)) (hf : cells ≤ R.cells ∧ slots ≤ R.slots)
    (kk : ∀ r : Int64, post r → W p l e R s m args below meth c H locs cells slots Q (F0 m (pc + 3) ls (.long r :: rest))) : W p l e R s m args below meth c H locs cells slots Q (F0 m pc ls st0) :=
  vp_callSl (va_Run.run (va_runS Sx hM cw ⟨zPr_bl, fun U hU hW => ⟨rfl, by rw [hU]; exact hP, hK.warm hW⟩⟩ rfl hn hsize hst (lv_room hW) hdg hf)) kk
theorem z_ri {post : Int32 → Prop} (As rest : List Value) (Sx : CallFix p m c cc nL s args Ts own) (hM : Met l y wy rm (zPr D cA (.ref b :: As) wc) (vp_Si post) 0 0 (fun _ => False)) (cw : CallW R s args own C index y bytes maxL ret wy rm 0 0 n) (hK : zK D cA s) (hP : va_P D vwCl wc H) (hrec : ∃ cell : Cell, H[b]? = some cell ∧ cell.vm.isStatics = false ∧ s.vm.findClass C = some cell.cls) (hn : As.length = n) (hsize : ls.size = nL) (hst : st0 = As.reverse ++ .ref b :: rest) (hW : (rest.map fun v => v.category).sum ≤ 8) (hdg : decode cc pc = .ok (.invokevirtual index, 3)) (hf : cells ≤ R.cells ∧ slots ≤ R.slots)
    (kk : ∀ r : Int32, post r → W p l e R s m args below meth c H locs cells slots Q (F0 m (pc + 3) ls (.int r :: rest))) : W p l e R s m args below meth c H locs cells slots Q (F0 m pc ls st0) :=
  vp_callSi (va_Run.run (va_runV Sx hM cw ⟨zPr_bl, hrec, fun U hU hW => ⟨rfl, by rw [hU]; exact hP, hK.warm hW⟩⟩ rfl hn hsize hst (lv_room hW) hdg hf)) kk
theorem z_rl {post : Int64 → Prop} (As rest : List Value) (Sx : CallFix p m c cc nL s args Ts own) (hM : Met l y wy rm (zPr D cA (.ref b :: As) wc) (vp_Sl post) 0 0 (fun _ => False)) (cw : CallW R s args own C index y bytes maxL ret wy rm 0 0 n) (hK : zK D cA s) (hP : va_P D vwCl wc H) (hrec : ∃ cell : Cell, H[b]? = some cell ∧ cell.vm.isStatics = false ∧ s.vm.findClass C = some cell.cls) (hn : As.length = n) (hsize : ls.size = nL) (hst : st0 = As.reverse ++ .ref b :: rest) (hW : (rest.map fun v => v.category).sum ≤ 8) (hdg : decode cc pc = .ok (.invokevirtual index, 3)) (hf : cells ≤ R.cells ∧ slots ≤ R.slots)
    (kk : ∀ r : Int64, post r → W p l e R s m args below meth c H locs cells slots Q (F0 m (pc + 3) ls (.long r :: rest))) : W p l e R s m args below meth c H locs cells slots Q (F0 m pc ls st0) :=
  vp_callSl (va_Run.run (va_runV Sx hM cw ⟨zPr_bl, hrec, fun U hU hW => ⟨rfl, by rw [hU]; exact hP, hK.warm hW⟩⟩ rfl hn hsize hst (lv_room hW) hdg hf)) kk
theorem z_wi {S : Type} {post : Int32 → S → Prop} {wf wn : S → va_W} (As rest : List Value) (Sx : CallFix p m c cc nL s args Ts own) (hM : Met l y wy rm (zPw D cA (.ref b :: As) wc H.size) (va_Qi post (zB D (va_A wc H.size) wf) (va_A wc H.size)) 0 0 (va_A wc H.size)) (cw : CallW R s args own C index y bytes maxL ret wy rm 0 0 n) (hK : zK D cA s) (hP : va_P D vwCl ws H) (hD : va_D A ws) (hS : va_S A H0 H locs) (hA : ∀ q, H0.size ≤ q → A q) (isC isR isN : List Nat) (hC : isC.map (fun i => ws[i]?) = wc.map some) (hCn : va_nd isC = true) (hR : isR.map (fun i => ws[i]?) = wr.map some) (hRn : va_nd isR = true) (hdis : ∀ i ∈ isR, i ∉ isC) (hN : ∀ u, isN.map (fun i => (wr ++ wf u)[i]?) = (wn u).map some) (hNn : va_nd isN = true) (hrec : ∃ cell : Cell, H[b]? = some cell ∧ cell.vm.isStatics = false ∧ s.vm.findClass C = some cell.cls) (hn : As.length = n) (hsize : ls.size = nL) (hst : st0 = As.reverse ++ .ref b :: rest) (hW : (rest.map fun v => v.category).sum ≤ 8) (hdg : decode cc pc = .ok (.invokevirtual index, 3)) (hf : cells ≤ R.cells ∧ slots ≤ R.slots)
    (kk : ∀ (r : Int32) (u : S) (H1 : Heap) (locs1 : List Loc), post r u → va_P D vwCl (wn u) H1 → va_D A (wn u) → va_S A H0 H1 locs1 → W p l e R s m args below meth c H1 locs1 cells slots Q (F0 m (pc + 3) ls (.int r :: rest))) : W p l e R s m args below meth c H locs cells slots Q (F0 m pc ls st0) := by
  have hFc := va_free (wc := wc) hD hS hA isC hC
  have hPc := z_psub hP isC hC
  refine va_calli (va_runV Sx hM cw ⟨zPw_bl, hrec, fun U hU hW => ⟨rfl, by rw [hU], by rw [hU]; exact hPc, hK.warm hW, (hD.sub isC hCn hC).weaken (fun _ _ _ _ => trivial)⟩⟩ rfl hn hsize hst (lv_room hW) hdg hf) hS (fun q _ h => hFc q h) hFc (fun r u t H1 locs1 ht hvm hp hB hz hk hS1 => ?_)
  obtain ⟨hP1, hD1⟩ := hB
  rw [ht] at hP1
  obtain ⟨hPj, hDj⟩ := va_join (wr := wr) (w1 := wf u) hP hD isC isR hC hR hRn hdis hk hFc hP1 hD1
  exact kk r u H1 locs1 hp (z_psub hPj isN (hN u)) (hDj.sub isN hNn (hN u)) hS1
theorem z_wv {S : Type} {post : S → Prop} {wf wn : S → va_W} (As rest : List Value) (Sx : CallFix p m c cc nL s args Ts own) (hM : Met l y wy rm (zPw D cA (.ref b :: As) wc H.size) (va_Qv post (zB D (va_A wc H.size) wf) (va_A wc H.size)) 0 0 (va_A wc H.size)) (cw : CallW R s args own C index y bytes maxL ret wy rm 0 0 n) (hK : zK D cA s) (hP : va_P D vwCl ws H) (hD : va_D A ws) (hS : va_S A H0 H locs) (hA : ∀ q, H0.size ≤ q → A q) (isC isR isN : List Nat) (hC : isC.map (fun i => ws[i]?) = wc.map some) (hCn : va_nd isC = true) (hR : isR.map (fun i => ws[i]?) = wr.map some) (hRn : va_nd isR = true) (hdis : ∀ i ∈ isR, i ∉ isC) (hN : ∀ u, isN.map (fun i => (wr ++ wf u)[i]?) = (wn u).map some) (hNn : va_nd isN = true) (hrec : ∃ cell : Cell, H[b]? = some cell ∧ cell.vm.isStatics = false ∧ s.vm.findClass C = some cell.cls) (hn : As.length = n) (hsize : ls.size = nL) (hst : st0 = As.reverse ++ .ref b :: rest) (hW : (rest.map fun v => v.category).sum ≤ 8) (hdg : decode cc pc = .ok (.invokevirtual index, 3)) (hf : cells ≤ R.cells ∧ slots ≤ R.slots)
    (kk : ∀ (u : S) (H1 : Heap) (locs1 : List Loc), post u → va_P D vwCl (wn u) H1 → va_D A (wn u) → va_S A H0 H1 locs1 → W p l e R s m args below meth c H1 locs1 cells slots Q (F0 m (pc + 3) ls rest)) : W p l e R s m args below meth c H locs cells slots Q (F0 m pc ls st0) := by
  have hFc := va_free (wc := wc) hD hS hA isC hC
  have hPc := z_psub hP isC hC
  refine va_callv (va_runV Sx hM cw ⟨zPw_bl, hrec, fun U hU hW => ⟨rfl, by rw [hU], by rw [hU]; exact hPc, hK.warm hW, (hD.sub isC hCn hC).weaken (fun _ _ _ _ => trivial)⟩⟩ rfl hn hsize hst (lv_room hW) hdg hf) hS (fun q _ h => hFc q h) hFc (fun u t H1 locs1 ht hvm hp hB hz hk hS1 => ?_)
  obtain ⟨hP1, hD1⟩ := hB
  rw [ht] at hP1
  obtain ⟨hPj, hDj⟩ := va_join (wr := wr) (w1 := wf u) hP hD isC isR hC hR hRn hdis hk hFc hP1 hD1
  exact kk u H1 locs1 hp (z_psub hPj isN (hN u)) (hDj.sub isN hNn (hN u)) hS1
/-- returns of methods that only read -/
theorem z_iret {post : Int32 → Prop} {v : Int32} (hx : p.tables.exec = Jvm.exec) (hb : c.code = cc) (hr : meth.sig.returnType = some .int) (hlk : meth.locks = false) (hp : post v) (hdg : decode cc pc = .ok (.ireturn, 1)) : W p l e R s m args below meth c s.heap [] 0 0 (MQ below (vp_Si post) args s 0 0 (fun _ => False)) (F0 m pc ls [.int v]) :=
  W.iret hx hb hr (fun t ht hW => ⟨v, rfl, hp, ht⟩) (fun q h => absurd h List.not_mem_nil) hdg hlk
theorem z_zret {post : Int32 → Prop} {v : Int32} (hx : p.tables.exec = Jvm.exec) (hb : c.code = cc) (hr : meth.sig.returnType = some .boolean) (hlk : meth.locks = false) (hn : narrow .boolean (.int v) = .int v) (hp : post v) (hdg : decode cc pc = .ok (.ireturn, 1)) : W p l e R s m args below meth c s.heap [] 0 0 (MQ below (vp_Si post) args s 0 0 (fun _ => False)) (F0 m pc ls [.int v]) :=
  W.zret hx hb hr hn (fun t ht hW => ⟨v, rfl, hp, ht⟩) (fun q h => absurd h List.not_mem_nil) hdg hlk
theorem z_lret {post : Int64 → Prop} {v : Int64} (hx : p.tables.exec = Jvm.exec) (hb : c.code = cc) (hr : meth.sig.returnType = some .long) (hlk : meth.locks = false) (hp : post v) (hdg : decode cc pc = .ok (.lreturn, 1)) : W p l e R s m args below meth c s.heap [] 0 0 (MQ below (vp_Sl post) args s 0 0 (fun _ => False)) (F0 m pc ls [.long v]) :=
  W.lret hx hb hr (fun t ht hW => ⟨v, rfl, hp, ht⟩) (fun q h => absurd h List.not_mem_nil) hdg hlk
/-- returns of methods that write -/
theorem z_iretw {S : Type} {post : Int32 → S → Prop} {wf : S → va_W} {v : Int32} (u : S) (hx : p.tables.exec = Jvm.exec) (hb : c.code = cc) (hr : meth.sig.returnType = some .int) (hlk : meth.locks = false) (hp : post v u) (hP : va_P D vwCl (wf u) H) (hD : va_D A (wf u)) (hS : va_S A s.heap H locs) (hdg : decode cc pc = .ok (.ireturn, 1)) : W p l e R s m args below meth c H locs 0 0 (MQ below (va_Qi post (zB D A wf) A) args s 0 0 A) (F0 m pc ls [.int v]) :=
  W.iret hx hb hr (fun t ht hW => ⟨⟨v, u, rfl, hp, by rw [ht]; exact hP, hD⟩, hS.F ht⟩) hS.2.2 hdg hlk
theorem z_zretw {S : Type} {post : Int32 → S → Prop} {wf : S → va_W} {v : Int32} (u : S) (hx : p.tables.exec = Jvm.exec) (hb : c.code = cc) (hr : meth.sig.returnType = some .boolean) (hlk : meth.locks = false) (hn : narrow .boolean (.int v) = .int v) (hp : post v u) (hP : va_P D vwCl (wf u) H) (hD : va_D A (wf u)) (hS : va_S A s.heap H locs) (hdg : decode cc pc = .ok (.ireturn, 1)) : W p l e R s m args below meth c H locs 0 0 (MQ below (va_Qi post (zB D A wf) A) args s 0 0 A) (F0 m pc ls [.int v]) :=
  W.zret hx hb hr hn (fun t ht hW => ⟨⟨v, u, rfl, hp, by rw [ht]; exact hP, hD⟩, hS.F ht⟩) hS.2.2 hdg hlk
theorem z_vretw {S : Type} {post : S → Prop} {wf : S → va_W} (u : S) (hx : p.tables.exec = Jvm.exec) (hb : c.code = cc) (hr : meth.sig.returnType = none) (hlk : meth.locks = false) (hp : post u) (hP : va_P D vwCl (wf u) H) (hD : va_D A (wf u)) (hS : va_S A s.heap H locs) (hdg : decode cc pc = .ok (.return_, 1)) : W p l e R s m args below meth c H locs 0 0 (MQ below (va_Qv post (zB D A wf) A) args s 0 0 A) (F0 m pc ls []) :=
  W.vret hx hb hr (fun t ht hW => ⟨⟨u, rfl, hp, by rw [ht]; exact hP, hD⟩, hS.F ht⟩) hS.2.2 hdg hlk
/-- an element of a row of references that is known to be an object -/
theorem z_aldq (hx : p.tables.exec = Jvm.exec) (hb : c.code = cc) {a : Nat} {rest : List Value} (hK : zK D cA s) (hP : va_P D vwCl ws H) (q0 t0 : Nat) {cT : ClassId} {E : String} {k : Nat} {f : Nat → Option Nat} (ha : ws[q0]? = some (a, .inl (cT, k, .inr (.inr (.inr (.inr f)))))) (ht : (zty cA)[t0]? = some (cT, .object E)) {i : Int32} (hin : vp_in i k) {q : Nat} (hf : vp_in i k → f i.toNatClampNeg = some q) (hdg : decode cc pc = .ok (.aaload, 1))
    (kk : W p l e R s m args below meth c H locs cells slots Q (F0 m (pc + 1) ls (.ref q :: rest))) : W p l e R s m args below meth c H locs cells slots Q (F0 m pc ls (.int i :: .ref a :: rest)) := by
  refine va_aldq hx hb hK.1 hP q0 t0 ha ht hin hdg ?_
  rw [hf hin]
  exact kk
end ZC
