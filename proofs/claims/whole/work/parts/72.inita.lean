/-! constructors: what they need of the tables beside zK; one rule an array, a call, a return -/
def zK2 (D : va_G) (cA : Nat → ClassId) (U : State) : Prop := zK D cA U ∧ va_AO "ExcessTree$Tree" U ∧ va_AO "ExcessTree$Sheet" U ∧ va_Nw (.methodLinkNest RX5 11 yX4_init "ExcessTree") U ∧ va_Nw (.methodLinkNest RX4 11 yX1_init "ExcessTree") U ∧ va_Nw (.methodLinkNest RX5 29 yX3_init "ExcessTree") U ∧ va_Nw (.methodLinkNest RX5 40 yX2_init "ExcessTree") U
theorem zK2.warm {D : va_G} {cA : Nat → ClassId} {s U : State} (hW : s.WarmedH U.vm) (h : zK2 D cA s) : zK2 D cA U := ⟨h.1.warm hW, h.2.1.moved hW.alike, h.2.2.1.moved hW.alike, va_Nw.warmM hW h.2.2.2.1, va_Nw.warmM hW h.2.2.2.2.1, va_Nw.warmM hW h.2.2.2.2.2.1, va_Nw.warmM hW h.2.2.2.2.2.2⟩
theorem zK2.same {D : va_G} {cA : Nat → ClassId} {u U : State} (hv : u.vm = U.vm) (h : zK2 D cA u) : zK2 D cA U := ⟨h.1.same hv, h.2.1.moved (by rw [hv]; exact Vm.Alike.refl _), h.2.2.1.moved (by rw [hv]; exact Vm.Alike.refl _), va_Nw.same rfl hv h.2.2.2.1, va_Nw.same rfl hv h.2.2.2.2.1, va_Nw.same rfl hv h.2.2.2.2.2.1, va_Nw.same rfl hv h.2.2.2.2.2.2⟩
def zPi (D : va_G) (cA : Nat → ClassId) (av : List Value) (ws : va_W) (sz : Nat) : Array Value → State → Prop := fun v U => v = av.toArray ∧ U.heap.size = sz ∧ va_P D vwCl ws U.heap ∧ zK2 D cA U ∧ va_D (fun _ => True) ws
theorem zPi_bl {D : va_G} {cA : Nat → ClassId} {av : List Value} {ws : va_W} {sz : Nat} : FrameBlind (zPi D cA av ws sz) := fun a U g mk h => ⟨h.1, h.2.1, h.2.2.1, zK2.same (u := U) rfl h.2.2.2.1, h.2.2.2.2⟩
section ZI
variable {l : Launch} {y : MethodName} {ws ws' : List Cond} {rm : Room} {D : va_G} {cA : Nat → ClassId} {av : List Value} {wc : va_W} {cc : ByteArray} {maxL mc ms : Nat} {ret : Option FieldType}
theorem z_init {sz : Nat} {Qc : (Nat → Prop) → Array Value → State → Outcome → State → Prop} (hy : plainName y.cls = true) (hw : ws = Cond.code y cc maxL ret :: ws') (hav : (lg_sl av).length ≤ maxL) (hnm : y.name = "<init>")
    (body : ∀ (p : Program) (e : Env) (s : State) (m : MethodId) (args : Array Value) (below : List Frame) (meth : Method) (c : Code) (ls : Array Slot) (A : Nat → Prop), p.tables.exec = Jvm.exec → c.code = cc → meth.sig.returnType = ret → meth.locks = false → c.maxLocals = maxL → s.vm.findClass y.cls = some m.cls → meth.name = "<init>" → (∀ w ∈ ws, w.before args s = true) → zK2 D cA s → va_P D vwCl wc s.heap → va_D A wc → va_S A s.heap s.heap [] → (∀ q, s.heap.size ≤ q → A q) → lv_has ls maxL (lv_args 0 av) → W p l e rm s m args below meth c s.heap [] 0 0 (MQ below (Qc A) args s mc ms A) (F0 m 0 ls [])) : Met l y ws rm (zPi D cA av wc sz) (Qc (va_A wc sz)) mc ms (va_A wc sz) := by
  refine Met.ofW (cc := cc) (maxL := maxL) (ret := ret) hy hw ?_
  intro p e s m args below meth c s₁ B hml hv
  obtain ⟨rfl, rfl, hP, hK, hD⟩ := hv
  have hl := lv_entry av (n := maxL) hav
  rw [lg_entry_eq]
  exact body p e s m _ below meth c _ _ B.exec B.bytes B.returns B.notSynchronized hml (findClass_of_methodNamed B.named) ((name_of_methodNamed B.named B.method).1.trans hnm) (atoms_spec (ws := ws) B.pre) hK hP (hD.self (sz := s.heap.size)) va_S.rf (fun q h => Or.inr h) hl
end ZI
section ZJ
variable {p : Program} {l : Launch} {e : Env} {R : Room} {s : State} {m : MethodId} {args : Array Value} {below : List Frame} {meth : Method} {c : Code} {H H0 : Heap} {locs : List Loc} {cells slots : Nat} {Q : State → Prop}
variable {y : MethodName} {bytes cc : ByteArray} {maxL nL n index pc mc ms : Nat} {ret : Option FieldType} {wy Ts : List Cond} {rm : Room} {own host C : String} {b : Addr} {ls : Array Slot} {st0 rest : List Value} {D : va_G} {cA : Nat → ClassId} {wc ws wr : va_W} {A : Nat → Prop}
theorem z_newa {atype : ArrayType} {ty : FieldType} {a0 : vp_A} (hx : p.tables.exec = Jvm.exec) (hb : c.code = cc) (harr : (Cond.arrayClass (newarray.typeOf atype)).before args s = true) (hty : newarray.typeOf atype = ty) (hK : zK D cA s) (hP : va_P D vwCl ws H) (hD : va_D A ws) (hS : va_S A H0 H locs) (hA : ∀ q, H0.size ≤ q → A q) (k : Nat) (hk : (zty cA)[k]? = some (cA k, ty)) {n : Int32} {N' : Nat} (ha : ∀ c : ClassId, vp_cell c a0 = arrV c N' (fun _ => defaultValue ty)) (hn : ¬ n < 0) (hN : n.toNatClampNeg = N') (hbytes : N' * componentBytes ty ≤ 536870912) (hcells : cells + 1 ≤ R.cells) (hslots : slots + N' ≤ R.slots) (hdg : decode cc pc = .ok (.newarray atype, 2))
    (kk : ∀ (q : Nat) (H1 : Heap), va_P D vwCl (ws ++ [(q, .inl (cA k, a0))]) H1 → va_D A (ws ++ [(q, .inl (cA k, a0))]) → va_S A H0 H1 locs → W p l e R s m args below meth c H1 locs (cells + 1) (slots + N') Q (F0 m (pc + 2) ls (.ref q :: rest))) : W p l e R s m args below meth c H locs cells slots Q (F0 m pc ls (.int n :: rest)) := by
  refine va_newa hx hb harr hty hK.1 hP hD hS hA ha hn hN hbytes hcells hslots hdg (fun q c' H1 hK' hP' hD' hS' => ?_)
  have h1 := (hK'.2 6 (c', ty) rfl).2
  have h2 := (hK.1.2 k (cA k, ty) hk).2
  have e1 : c' = cA k := by
    subst hty
    cases atype <;> exact Option.some.inj (h1.symm.trans h2)
  subst e1
  exact kk q H1 hP' hD' hS'
theorem z_newq (hx : p.tables.exec = Jvm.exec) (hb : c.code = cc) (hown : s.vm.findClass own = some m.cls) (hclink : (Cond.classLink own index C).before args s = true) (hover : va_AO C s) (hK : zK D cA s) (hP : va_P D vwCl ws H) (hD : va_D A ws) (hS : va_S A H0 H locs) (hA : ∀ q, H0.size ≤ q → A q) (k : Nat) (hk : (zty cA)[k]? = some (cA k, .object C)) {n : Int32} {N' : Nat} (hn : ¬ n < 0) (hN : n.toNatClampNeg = N') (hbytes : N' * 4 ≤ 536870912) (hcells : cells + 1 ≤ R.cells) (hslots : slots + N' ≤ R.slots) (hdg : decode cc pc = .ok (.anewarray index, 3))
    (kk : ∀ (q : Nat) (H1 : Heap), va_P D vwCl (ws ++ [(q, .inl (cA k, N', .inr (.inr (.inr (.inr (fun _ => none))))))]) H1 → va_D A (ws ++ [(q, .inl (cA k, N', .inr (.inr (.inr (.inr (fun _ => none))))))]) → va_S A H0 H1 locs → W p l e R s m args below meth c H1 locs (cells + 1) (slots + N') Q (F0 m (pc + 3) ls (.ref q :: rest))) : W p l e R s m args below meth c H locs cells slots Q (F0 m pc ls (.int n :: rest)) := by
  refine va_newq hx hb hown hclink hover hK.1 hP hD hS hA hn hN hbytes hcells hslots hdg (fun q c' H1 hK' hP' hD' hS' => ?_)
  obtain ⟨kA, comp, -, -, -, h1⟩ := (hK'.2 6 (c', .object C) rfl).2
  obtain ⟨kB, comp2, -, -, -, h2⟩ := (hK.1.2 k (cA k, .object C) hk).2
  have e1 : c' = cA k := Option.some.inj (h1.symm.trans h2)
  subst e1
  exact kk q H1 hP' hD' hS'
theorem z_ci {S : Type} {wf wn : S → va_W} (As rest : List Value) (Sx : CallFix p m c cc nL s args Ts own) (hM : Met l y wy rm (zPi D cA (.ref b :: As) wc H.size) (va_Qv (fun _ : S => True) (zB D (va_A wc H.size) wf) (va_A wc H.size)) mc ms (va_A wc H.size)) (cw : va_CN R s args own index y host bytes maxL none wy rm mc ms n ∧ y.name = "<init>" ∧ (Cond.instanceMethod y).before args s = true) (hK : zK2 D cA s) (hP : va_P D vwCl ws H) (hD : va_D A ws) (hS : va_S A H0 H locs) (hA : ∀ q, H0.size ≤ q → A q) (isC isR isN : List Nat) (hC : isC.map (fun i => ws[i]?) = wc.map some) (hCn : va_nd isC = true) (hR : isR.map (fun i => ws[i]?) = wr.map some) (hRn : va_nd isR = true) (hdis : ∀ i ∈ isR, i ∉ isC) (hN : ∀ u, isN.map (fun i => (wr ++ wf u)[i]?) = (wn u).map some) (hNn : va_nd isN = true) (hn : As.length = n) (hsize : ls.size = nL) (hst : st0 = As.reverse ++ .ref b :: rest) (hW : (rest.map fun v => v.category).sum ≤ 8) (hdg : decode cc pc = .ok (.invokespecial index, 3)) (hf : cells + mc ≤ R.cells ∧ slots + ms ≤ R.slots)
    (kk : ∀ (u : S) (H1 : Heap) (locs1 : List Loc), va_P D vwCl (wn u) H1 → va_D A (wn u) → va_S A H0 H1 locs1 → W p l e R s m args below meth c H1 locs1 (cells + mc) (slots + ms) Q (F0 m (pc + 3) ls rest)) : W p l e R s m args below meth c H locs cells slots Q (F0 m pc ls st0) := by
  have hFc := va_free (wc := wc) hD hS hA isC hC
  have hPc := z_psub hP isC hC
  refine va_callv (va_runIN Sx hM cw ⟨zPi_bl, fun U hU hW => ⟨rfl, by rw [hU], by rw [hU]; exact hPc, hK.warm hW, (hD.sub isC hCn hC).weaken (fun _ _ _ _ => trivial)⟩⟩ rfl hn hsize hst (lv_room hW) hdg hf) hS (fun q _ h => hFc q h) hFc (fun u t H1 locs1 ht hvm hp hB hz hk hS1 => ?_)
  obtain ⟨hP1, hD1⟩ := hB
  rw [ht] at hP1
  obtain ⟨hPj, hDj⟩ := va_join (wr := wr) (w1 := wf u) hP hD isC isR hC hR hRn hdis hk hFc hP1 hD1
  exact kk u H1 locs1 (z_psub hPj isN (hN u)) (hDj.sub isN hNn (hN u)) hS1
theorem z_cj {S : Type} {wf wn : S → va_W} (As rest : List Value) (Sx : CallFix p m c cc nL s args Ts own) (hM : Met l y wy rm (zPi D cA (.ref b :: As) wc H.size) (va_Qv (fun _ : S => True) (zB D (va_A wc H.size) wf) (va_A wc H.size)) mc ms (va_A wc H.size)) (cw : CallB R s args own index y bytes maxL none wy rm mc ms n ∧ y.name = "<init>" ∧ (Cond.instanceMethod y).before args s = true) (hK : zK2 D cA s) (hP : va_P D vwCl ws H) (hD : va_D A ws) (hS : va_S A H0 H locs) (hA : ∀ q, H0.size ≤ q → A q) (isC isR isN : List Nat) (hC : isC.map (fun i => ws[i]?) = wc.map some) (hCn : va_nd isC = true) (hR : isR.map (fun i => ws[i]?) = wr.map some) (hRn : va_nd isR = true) (hdis : ∀ i ∈ isR, i ∉ isC) (hN : ∀ u, isN.map (fun i => (wr ++ wf u)[i]?) = (wn u).map some) (hNn : va_nd isN = true) (hn : As.length = n) (hsize : ls.size = nL) (hst : st0 = As.reverse ++ .ref b :: rest) (hW : (rest.map fun v => v.category).sum ≤ 8) (hdg : decode cc pc = .ok (.invokespecial index, 3)) (hf : cells + mc ≤ R.cells ∧ slots + ms ≤ R.slots)
    (kk : ∀ (u : S) (H1 : Heap) (locs1 : List Loc), va_P D vwCl (wn u) H1 → va_D A (wn u) → va_S A H0 H1 locs1 → W p l e R s m args below meth c H1 locs1 (cells + mc) (slots + ms) Q (F0 m (pc + 3) ls rest)) : W p l e R s m args below meth c H locs cells slots Q (F0 m pc ls st0) := by
  have hFc := va_free (wc := wc) hD hS hA isC hC
  have hPc := z_psub hP isC hC
  refine va_callv (va_runI Sx hM cw ⟨zPi_bl, fun U hU hW => ⟨rfl, by rw [hU], by rw [hU]; exact hPc, hK.warm hW, (hD.sub isC hCn hC).weaken (fun _ _ _ _ => trivial)⟩⟩ rfl hn hsize hst (lv_room hW) hdg hf) hS (fun q _ h => hFc q h) hFc (fun u t H1 locs1 ht hvm hp hB hz hk hS1 => ?_)
  obtain ⟨hP1, hD1⟩ := hB
  rw [ht] at hP1
  obtain ⟨hPj, hDj⟩ := va_join (wr := wr) (w1 := wf u) hP hD isC isR hC hR hRn hdis hk hFc hP1 hD1
  exact kk u H1 locs1 (z_psub hPj isN (hN u)) (hDj.sub isN hNn (hN u)) hS1
theorem z_vreti {S : Type} {wf : S → va_W} (u : S) (hx : p.tables.exec = Jvm.exec) (hb : c.code = cc) (hr : meth.sig.returnType = none) (hlk : meth.locks = false) (hP : va_P D vwCl (wf u) H) (hD : va_D A (wf u)) (hS : va_S A s.heap H locs) (hdg : decode cc pc = .ok (.return_, 1)) : W p l e R s m args below meth c H locs mc ms (MQ below (va_Qv (fun _ : S => True) (zB D A wf) A) args s mc ms A) (F0 m pc ls []) :=
  W.vret hx hb hr (fun t ht hW => ⟨⟨u, rfl, trivial, by rw [ht]; exact hP, hD⟩, hS.F ht⟩) hS.2.2 hdg hlk
end ZJ
