/-! constructors: rows that make cells; the list of cells is X ++ l, the new ones come last -/
theorem atX {X l : va_W} {k : Nat} {v : Nat × va_E} (h : l[k]? = some v) : (X ++ l)[X.length + k]? = some v := by
  rw [List.getElem?_append_right (Nat.le_add_right _ _), Nat.add_sub_cancel_left]; exact h
theorem setX {X l : va_W} {k : Nat} {v : Nat × va_E} : (X ++ l).set (X.length + k) v = X ++ l.set k v := by
  rw [List.set_append_right _ _ (Nat.le_add_right _ _), Nat.add_sub_cancel_left]
def rmK (d mc ms : Nat) : Room := { frames := d, cells := mc, slots := ms, locals := 100 * d }
theorem fitK {d d' mc ms : Nat} (h : d' < d) : fitR d' (rmK d mc ms) := by
  simp only [fitR, rmK]; omega
def QK (G : GG) (A : Nat → Prop) (L2 : (Nat → Nat → Nat) → St → va_W) (P : (Nat → Nat → Nat) → St → Prop) : Array Value → State → Outcome → State → Prop := va_Qv (fun u : (Nat → Nat → Nat) × St => P u.1 u.2) (fun u t => BB G A (L2 u.1 u.2) t) A
def CtK (l : Launch) (y : MethodName) (cc : ByteArray) (nL d mc ms : Nat) (G : GG) (ws0 : va_W) (h0 : Nat) (L2 : (Nat → Nat → Nat) → St → va_W) (P : (Nat → Nat → Nat) → St → Prop) : Prop :=
  ∀ sz : Nat, Met l y (.code y cc nL none :: TB) (rmK d mc ms) (va_Pc [.ref h0] (Pre0 G ws0 sz)) (QK G (va_A ws0 sz) L2 P) mc ms (va_A ws0 sz)
def MwI (own : String) (index : Nat) (y : MethodName) (cc : ByteArray) (nL : Nat) : Prop := (Cond.methodLink own index y ∈ TB ∧ Cond.instanceMethod y ∈ TB ∧ Cond.initialized y.cls ∈ TB ∧ Cond.code y cc nL none ∈ TB) ∧ y.name = "<init>" ∧ (y.cls ≠ "java/lang/invoke/MethodHandle" ∧ y.cls ≠ "java/lang/invoke/VarHandle" ∧ (parseMethodDescriptor y.desc).map (fun d => d.parameters.length) = some 0) ∧ nL ≤ 80
def MwN (y : MethodName) (cc : ByteArray) (nL : Nat) : Prop := (Cond.instanceMethod y ∈ TB ∧ Cond.initialized y.cls ∈ TB ∧ Cond.code y cc nL none ∈ TB) ∧ y.name = "<init>" ∧ (y.cls ≠ "java/lang/invoke/MethodHandle" ∧ y.cls ≠ "java/lang/invoke/VarHandle" ∧ (parseMethodDescriptor y.desc).map (fun d => d.parameters.length) = some 0) ∧ nL ≤ 80
theorem cidI {D : va_G} {cl : List vw_C} {tys : List (ClassId × FieldType)} {s : State} {c0 cA : ClassId} {t0 : Nat} (hK : va_K D cl tys s) (ht : tys[t0]? = some (c0, .int)) (h2 : va_RA s cA .int) : cA = c0 := Option.some.inj ((va_nm_int h2).symm.trans (va_nm_int (hK.2 t0 _ ht).2))
theorem cidJ {D : va_G} {cl : List vw_C} {tys : List (ClassId × FieldType)} {s : State} {c0 cA : ClassId} {t0 : Nat} (hK : va_K D cl tys s) (ht : tys[t0]? = some (c0, .long)) (h2 : va_RA s cA .long) : cA = c0 := Option.some.inj ((va_nm_long h2).symm.trans (va_nm_long (hK.2 t0 _ ht).2))
theorem cidZ {D : va_G} {cl : List vw_C} {tys : List (ClassId × FieldType)} {s : State} {c0 cA : ClassId} {t0 : Nat} (hK : va_K D cl tys s) (ht : tys[t0]? = some (c0, .boolean)) (h2 : va_RA s cA .boolean) : cA = c0 := Option.some.inj ((va_nm_boolean h2).symm.trans (va_nm_boolean (hK.2 t0 _ ht).2))
theorem cidO {D : va_G} {cl : List vw_C} {tys : List (ClassId × FieldType)} {s : State} {c0 cA : ClassId} {t0 : Nat} {C : String} (hK : va_K D cl tys s) (ht : tys[t0]? = some (c0, .object C)) (h2 : va_RA s cA (.object C)) : cA = c0 := Option.some.inj ((va_nmO h2 rfl).symm.trans (va_nmO (hK.2 t0 _ ht).2 rfl))
/-! words of the constructors -/
set_option maxRecDepth 100000 in
theorem twOI : Cond.instanceMethod Lib.objectInit ∈ TB := inT1 (List.mem_of_getElem? (i := 21) rfl) rfl
set_option maxRecDepth 100000 in
theorem twOC : Cond.code Lib.objectInit ⟨#[0xb1]⟩ 1 none ∈ TB := inT1 (List.mem_of_getElem? (i := 22) rfl) rfl
set_option maxRecDepth 100000 in
theorem oi_RX5_1 : Cond.methodLink RX5 1 Lib.objectInit ∈ TB := inT1 (List.mem_of_getElem? (i := 20) rfl) rfl
set_option maxRecDepth 100000 in
theorem oi_RX4_3 : Cond.methodLink RX4 3 Lib.objectInit ∈ TB := inT1 (List.mem_of_getElem? (i := 28) rfl) rfl
set_option maxRecDepth 100000 in
theorem oi_RX1_3 : Cond.methodLink RX1 3 Lib.objectInit ∈ TB := inT1 (List.mem_of_getElem? (i := 89) rfl) rfl
set_option maxRecDepth 100000 in
theorem oi_RX3_3 : Cond.methodLink RX3 3 Lib.objectInit ∈ TB := inT1 (List.mem_of_getElem? (i := 96) rfl) rfl
set_option maxRecDepth 100000 in
theorem oi_RX0_5 : Cond.methodLink RX0 5 Lib.objectInit ∈ TB := inT1 (List.mem_of_getElem? (i := 126) rfl) rfl
set_option maxRecDepth 100000 in
theorem oi_RX2_3 : Cond.methodLink RX2 3 Lib.objectInit ∈ TB := inT1 (List.mem_of_getElem? (i := 153) rfl) rfl
set_option maxRecDepth 100000 in
theorem oi_RX6_7 : Cond.methodLink RX6 7 Lib.objectInit ∈ TB := inT3 (List.mem_of_getElem? (i := 166) rfl) rfl
set_option maxRecDepth 100000 in
theorem in_RL : Cond.initialized RL ∈ TB := inT1 (List.mem_of_getElem? (i := 0) rfl) rfl
set_option maxRecDepth 100000 in
theorem in_RX5 : Cond.initialized RX5 ∈ TB := inT1 (List.mem_of_getElem? (i := 1) rfl) rfl
set_option maxRecDepth 100000 in
theorem in_RX4 : Cond.initialized RX4 ∈ TB := inT1 (List.mem_of_getElem? (i := 2) rfl) rfl
set_option maxRecDepth 100000 in
theorem in_RX1 : Cond.initialized RX1 ∈ TB := inT1 (List.mem_of_getElem? (i := 3) rfl) rfl
set_option maxRecDepth 100000 in
theorem in_RX3 : Cond.initialized RX3 ∈ TB := inT1 (List.mem_of_getElem? (i := 4) rfl) rfl
set_option maxRecDepth 100000 in
theorem in_RX0 : Cond.initialized RX0 ∈ TB := inT1 (List.mem_of_getElem? (i := 5) rfl) rfl
set_option maxRecDepth 100000 in
theorem in_RX2 : Cond.initialized RX2 ∈ TB := inT1 (List.mem_of_getElem? (i := 6) rfl) rfl
set_option maxRecDepth 100000 in
theorem in_RX6 : Cond.initialized RX6 ∈ TB := inT1 (List.mem_of_getElem? (i := 11) rfl) rfl
set_option maxRecDepth 100000 in
theorem cl_RL_7 : Cond.classLink RL 7 RX5 ∈ TB := inT1 (List.mem_of_getElem? (i := 15) rfl) rfl
set_option maxRecDepth 100000 in
theorem is_RX5 : Cond.instantiable RX5 7 ∈ TB := inT1 (List.mem_of_getElem? (i := 16) rfl) rfl
set_option maxRecDepth 100000 in
theorem cl_RX5_7 : Cond.classLink RX5 7 RX4 ∈ TB := inT1 (List.mem_of_getElem? (i := 23) rfl) rfl
set_option maxRecDepth 100000 in
theorem is_RX4 : Cond.instantiable RX4 11 ∈ TB := inT1 (List.mem_of_getElem? (i := 24) rfl) rfl
set_option maxRecDepth 100000 in
theorem ac_long : Cond.arrayClass .long ∈ TB := inT1 (List.mem_of_getElem? (i := 82) rfl) rfl
set_option maxRecDepth 100000 in
theorem ac_int : Cond.arrayClass .int ∈ TB := inT1 (List.mem_of_getElem? (i := 83) rfl) rfl
set_option maxRecDepth 100000 in
theorem cl_RX5_26 : Cond.classLink RX5 26 RX1 ∈ TB := inT1 (List.mem_of_getElem? (i := 84) rfl) rfl
set_option maxRecDepth 100000 in
theorem is_RX1 : Cond.instantiable RX1 3 ∈ TB := inT1 (List.mem_of_getElem? (i := 85) rfl) rfl
set_option maxRecDepth 100000 in
theorem cl_RX1_9 : Cond.classLink RX1 9 RX3 ∈ TB := inT1 (List.mem_of_getElem? (i := 90) rfl) rfl
set_option maxRecDepth 100000 in
theorem is_RX3 : Cond.instantiable RX3 3 ∈ TB := inT1 (List.mem_of_getElem? (i := 92) rfl) rfl
set_option maxRecDepth 100000 in
theorem cl_RX5_33 : Cond.classLink RX5 33 RX0 ∈ TB := inT1 (List.mem_of_getElem? (i := 121) rfl) rfl
set_option maxRecDepth 100000 in
theorem is_RX0 : Cond.instantiable RX0 6 ∈ TB := inT1 (List.mem_of_getElem? (i := 122) rfl) rfl
set_option maxRecDepth 100000 in
theorem cl_RX5_40 : Cond.classLink RX5 40 RX2 ∈ TB := inT1 (List.mem_of_getElem? (i := 147) rfl) rfl
set_option maxRecDepth 100000 in
theorem is_RX2 : Cond.instantiable RX2 3 ∈ TB := inT1 (List.mem_of_getElem? (i := 149) rfl) rfl
set_option maxRecDepth 100000 in
theorem ac_byte : Cond.arrayClass .byte ∈ TB := inT2 (List.mem_of_getElem? (i := 96) rfl) rfl
set_option maxRecDepth 100000 in
theorem cl_RL_10 : Cond.classLink RL 10 RX6 ∈ TB := inT3 (List.mem_of_getElem? (i := 161) rfl) rfl
set_option maxRecDepth 100000 in
theorem is_RX6 : Cond.instantiable RX6 43 ∈ TB := inT3 (List.mem_of_getElem? (i := 162) rfl) rfl
set_option maxRecDepth 100000 in
theorem ac_boolean : Cond.arrayClass .boolean ∈ TB := inT4 (List.mem_of_getElem? (i := 60) rfl) rfl
set_option maxRecDepth 100000 in
theorem im_X4 : Cond.instanceMethod yX4_init ∈ TB := inT1 (List.mem_of_getElem? (i := 26) rfl) rfl
set_option maxRecDepth 100000 in
theorem im_X1 : Cond.instanceMethod yX1_init ∈ TB := inT1 (List.mem_of_getElem? (i := 87) rfl) rfl
set_option maxRecDepth 100000 in
theorem im_X5 : Cond.instanceMethod yX5_init ∈ TB := inT1 (List.mem_of_getElem? (i := 18) rfl) rfl
set_option maxRecDepth 100000 in
theorem im_X6 : Cond.instanceMethod yX6_init ∈ TB := inT3 (List.mem_of_getElem? (i := 164) rfl) rfl
set_option maxRecDepth 100000 in
theorem im_X3 : Cond.instanceMethod yX3_init ∈ TB := inT1 (List.mem_of_getElem? (i := 94) rfl) rfl
set_option maxRecDepth 100000 in
theorem im_X0 : Cond.instanceMethod yX0_init ∈ TB := inT1 (List.mem_of_getElem? (i := 124) rfl) rfl
set_option maxRecDepth 100000 in
theorem im_X2 : Cond.instanceMethod yX2_init ∈ TB := inT1 (List.mem_of_getElem? (i := 151) rfl) rfl
set_option maxRecDepth 100000 in
theorem ml_RL_9 : Cond.methodLink RL 9 yX5_init ∈ TB := inT1 (List.mem_of_getElem? (i := 17) rfl) rfl
theorem mi_RL_9 : MwI RL 9 yX5_init cX5_init 2 := ⟨⟨ml_RL_9, im_X5, in_RX5, cw_X5_init⟩, rfl, by decide +kernel, by decide⟩
set_option maxRecDepth 100000 in
theorem ml_RX5_9 : Cond.methodLink RX5 9 yX4_init ∈ TB := inT1 (List.mem_of_getElem? (i := 25) rfl) rfl
theorem mi_RX5_9 : MwI RX5 9 yX4_init cX4_init 2 := ⟨⟨ml_RX5_9, im_X4, in_RX4, cw_X4_init⟩, rfl, by decide +kernel, by decide⟩
set_option maxRecDepth 100000 in
theorem ml_RX5_28 : Cond.methodLink RX5 28 yX1_init ∈ TB := inT1 (List.mem_of_getElem? (i := 86) rfl) rfl
theorem mi_RX5_28 : MwI RX5 28 yX1_init cX1_init 2 := ⟨⟨ml_RX5_28, im_X1, in_RX1, cw_X1_init⟩, rfl, by decide +kernel, by decide⟩
set_option maxRecDepth 100000 in
theorem ml_RL_12 : Cond.methodLink RL 12 yX6_init ∈ TB := inT3 (List.mem_of_getElem? (i := 163) rfl) rfl
theorem mi_RL_12 : MwI RL 12 yX6_init cX6_init 2 := ⟨⟨ml_RL_12, im_X6, in_RX6, cw_X6_init⟩, rfl, by decide +kernel, by decide⟩
theorem mn_X3 : MwN yX3_init cX3_init 1 := ⟨⟨im_X3, in_RX3, cw_X3_init⟩, rfl, by decide +kernel, by decide⟩
theorem mn_X0 : MwN yX0_init cX0_init 1 := ⟨⟨im_X0, in_RX0, cw_X0_init⟩, rfl, by decide +kernel, by decide⟩
theorem mn_X2 : MwN yX2_init cX2_init 1 := ⟨⟨im_X2, in_RX2, cw_X2_init⟩, rfl, by decide +kernel, by decide⟩
section Ctor
variable {p : Program} {l : Launch} {e : Env} {R : Room} {s : State} {m : MethodId} {args : Array Value} {below : List Frame} {meth : Method} {c : Code} {H : Heap} {locs : List Loc} {cells slots : Nat} {Q : State → Prop} {cc : ByteArray} {nL pc : Nat} {ls : Array Slot} {rest : List Value} {A : Nat → Prop} {own : String} {G : GG} {X ll : va_W}
theorem mkK {y : MethodName} {d mc ms h0 : Nat} {ws0 : va_W} {L2 : (Nat → Nat → Nat) → St → va_W} {P : (Nat → Nat → Nat) → St → Prop} (hy : plainName y.cls = true) (hle : 1 ≤ nL) (hnm : y.name = "<init>")
    (body : ∀ (p : Program) (e : Env) (s : State) (m : MethodId) (args : Array Value) (below : List Frame) (meth : Method) (c : Code) (A : Nat → Prop), CallFix p m c cc nL s args TB y.cls → meth.sig.returnType = none → meth.locks = false → meth.name = "<init>" → In G ws0 A s s.heap [] → ∀ ls : Array Slot, lv_has ls nL [(0, .ref h0)] → W p l e (rmK d mc ms) s m args below meth c s.heap [] 0 0 (MQ below (QK G A L2 P) args s mc ms A) (F0 m 0 ls [])) :
    CtK l y cc nL d mc ms G ws0 h0 L2 P := by
  intro sz
  refine Met.ofW (cc := cc) (maxL := nL) (ret := none) hy rfl ?_
  intro p e s m args below meth c s₁ B hml hv
  obtain ⟨rfl, hsz, ⟨hP, hK, hD0⟩, hF⟩ := hv
  subst hsz
  have hts := atoms_spec (ws := .code y cc nL none :: TB) B.pre
  have hl := lv_entry [.ref h0] (n := nL) hle
  rw [lg_entry_eq]
  exact body p e s m _ below meth c _ ⟨B.exec, B.bytes, hml, findClass_of_methodNamed B.named, fun w hw => hts w (List.mem_cons_of_mem _ hw)⟩ B.returns B.notSynchronized ((name_of_methodNamed B.named B.method).1.trans hnm) ⟨hP, hD0.self, va_S.rf, hK, fun q h => Or.inr h, hF⟩ _ hl
theorem rK {L2 : (Nat → Nat → Nat) → St → va_W} {P : (Nat → Nat → Nat) → St → Prop} (ad : Nat → Nat → Nat) (σ : St) (E : CallFix p m c cc nL s args TB own) (hr : meth.sig.returnType = none) (hlk : meth.locks = false) (hI : In G (L2 ad σ) A s H locs) (hf : P ad σ) (hd : decode cc pc = .ok (.return_, 1)) : W p l e R s m args below meth c H locs cells slots (MQ below (QK G A L2 P) args s cells slots A) (F0 m pc ls []) :=
  W.vret E.1 E.2.1 hr (fun t ht hW => ⟨⟨(ad, σ), rfl, hf, by rw [ht]; exact hI.1, va_K.moved hW.alike hI.2.2.2.1, hI.2.1⟩, hI.2.2.1.F ht⟩) hI.2.2.1.2.2 hd hlk
theorem behindW {ws0 ws1 : va_W} {H1 : Heap} {locs1 : List Loc} {t : State} (hI : In G ws0 A s H locs) (ht : t.heap = H1) (hB : BB G (va_A ws0 H.size) ws1 t) (hS : va_S A s.heap H1 locs1) : In G ws1 A s H1 locs1 := ⟨by rw [← ht]; exact hB.1, hB.2.2.weaken (fun _ _ _ h => hI.kept _ h), hS, hI.2.2.2.1, hI.2.2.2.2⟩
theorem callK {d' index mc ms nL' b : Nat} {y : MethodName} {cc' : ByteArray} {ws0 : va_W} {L2 : (Nat → Nat → Nat) → St → va_W} {P : (Nat → Nat → Nat) → St → Prop} {lv0 : List (Nat × Value)} (hF : Stab G.2.2) (E : CallFix p m c cc nL s args TB own) (hcs : cells + mc ≤ R.cells ∧ slots + ms ≤ R.slots) (hls : lv_has ls nL lv0) (hI : In G ws0 A s H locs) (hM : CtK l y cc' nL' d' mc ms G ws0 b L2 P) (hw : MwI own index y cc' nL') (hd : fitR d' R) (hW : (rest.map fun v => v.category).sum ≤ 8) (hdg : decode cc pc = .ok (.invokespecial index, 3))
    (kk : ∀ (ad : Nat → Nat → Nat) (σ : St) (H1 : Heap) (locs1 : List Loc), P ad σ → In G (L2 ad σ) A s H1 locs1 → W p l e R s m args below meth c H1 locs1 (cells + mc) (slots + ms) Q (F0 m (pc + 3) ls rest)) : W p l e R s m args below meth c H locs cells slots Q (F0 m pc ls (.ref b :: rest)) := by
  have hd2 : (rmK d' mc ms).frames + 1 ≤ R.frames ∧ 8 + (nL' + 11) + (rmK d' mc ms).locals ≤ R.locals := by
    have h1 := hw.2.2.2; simp only [fitR] at hd; simp only [rmK]; omega
  refine va_callv (va_runI (As := []) (rest := rest) (g := F0 m pc ls (.ref b :: rest)) E (hM H.size) (cwI 0 E.2.2.2.2 (goodC hw.1.2.2.2) rfl rfl rfl (E.2.2.2.2 _ hw.1.2.2.1) (E.2.2.2.2 _ hw.1.1) (E.2.2.2.2 _ hw.1.2.1) hw.2.1 hw.2.2.1 hd2) ⟨blind0 hF _, pre0 hF hI⟩ rfl rfl hls.1 rfl (lv_room hW) hdg hcs) hI.2.2.1 (fun q _ h => hI.kept q h) hI.kept (fun u t H1 locs1 ht hvm hw' hB hz1 hk1 hS => ?_)
  exact kk u.1 u.2 H1 locs1 hw' (behindW hI ht hB hS)
theorem callKN {d' index mc ms nL' b : Nat} {y : MethodName} {host : String} {cc' : ByteArray} {ws0 : va_W} {L2 : (Nat → Nat → Nat) → St → va_W} {P : (Nat → Nat → Nat) → St → Prop} {lv0 : List (Nat × Value)} (hF : Stab G.2.2) (E : CallFix p m c cc nL s args TB own) (hcs : cells + mc ≤ R.cells ∧ slots + ms ≤ R.slots) (hls : lv_has ls nL lv0) (hI : In G ws0 A s H locs) (hM : CtK l y cc' nL' d' mc ms G ws0 b L2 P) (hw : MwN y cc' nL') (hN : va_Nw (.methodLinkNest own index y host) s) (hd : fitR d' R) (hW : (rest.map fun v => v.category).sum ≤ 8) (hdg : decode cc pc = .ok (.invokespecial index, 3))
    (kk : ∀ (ad : Nat → Nat → Nat) (σ : St) (H1 : Heap) (locs1 : List Loc), P ad σ → In G (L2 ad σ) A s H1 locs1 → W p l e R s m args below meth c H1 locs1 (cells + mc) (slots + ms) Q (F0 m (pc + 3) ls rest)) : W p l e R s m args below meth c H locs cells slots Q (F0 m pc ls (.ref b :: rest)) := by
  have hd2 : (rmK d' mc ms).frames + 1 ≤ R.frames ∧ 8 + (nL' + 11) + (rmK d' mc ms).locals ≤ R.locals := by
    have h1 := hw.2.2.2; simp only [fitR] at hd; simp only [rmK]; omega
  refine va_callv (va_runIN (As := []) (rest := rest) (g := F0 m pc ls (.ref b :: rest)) E (hM H.size) ⟨va_cnB 0 E.2.2.2.2 (goodC hw.1.2.2) rfl rfl rfl hN (E.2.2.2.2 _ hw.1.2.1) hw.2.2.1 hd2, hw.2.1, E.2.2.2.2 _ hw.1.1⟩ ⟨blind0 hF _, pre0 hF hI⟩ rfl rfl hls.1 rfl (lv_room hW) hdg hcs) hI.2.2.1 (fun q _ h => hI.kept q h) hI.kept (fun u t H1 locs1 ht hvm hw' hB hz1 hk1 hS => ?_)
  exact kk u.1 u.2 H1 locs1 hw' (behindW hI ht hB hS)
/-- new rows -/
theorem rNewI {n : Int32} {N t0 : Nat} {cA : ClassId} (E : CallFix p m c cc nL s args TB own) (hI : In G (X ++ ll) A s H locs) (ht : G.2.1[t0]? = some (cA, .int)) (hw : Cond.arrayClass .int ∈ TB) (hn : ¬ n < 0) (hN : n.toNatClampNeg = N) (hb9 : N ≤ 1000) (hcells : cells + 1 ≤ R.cells) (hslots : slots + N ≤ R.slots) (hd : decode cc pc = .ok (.newarray .int, 2)) (kk : ∀ (q : Nat) (H1 : Heap), In G (X ++ (ll ++ [(q, .inl (cA, N, .inl (fun _ => 0)))])) A s H1 locs → W p l e R s m args below meth c H1 locs (cells + 1) (slots + N) Q (F0 m (pc + 2) ls (.ref q :: rest))) : W p l e R s m args below meth c H locs cells slots Q (F0 m pc ls (.int n :: rest)) := by
  refine va_newa (atype := .int) (ty := .int) (a0 := (N, .inl (fun _ => 0))) E.1 E.2.1 (E.2.2.2.2 _ hw) rfl hI.2.2.2.1 hI.1 hI.2.1 hI.2.2.1 hI.2.2.2.2.1 (fun _ => rfl) hn hN (by simp only [componentBytes]; omega) hcells hslots hd (fun q cB H1 hK hP hD hS => ?_)
  have e9 : cB = cA := cidI hI.2.2.2.1 ht (hK.2 G.2.1.length (cB, .int) (by rw [List.getElem?_append_right (Nat.le_refl _), Nat.sub_self]; rfl)).2
  rw [e9, List.append_assoc] at hP hD
  exact kk q H1 ⟨hP, hD, hS, hI.2.2.2.1, hI.2.2.2.2⟩
theorem rNewJ {n : Int32} {N t0 : Nat} {cA : ClassId} (E : CallFix p m c cc nL s args TB own) (hI : In G (X ++ ll) A s H locs) (ht : G.2.1[t0]? = some (cA, .long)) (hw : Cond.arrayClass .long ∈ TB) (hn : ¬ n < 0) (hN : n.toNatClampNeg = N) (hb9 : N ≤ 1000) (hcells : cells + 1 ≤ R.cells) (hslots : slots + N ≤ R.slots) (hd : decode cc pc = .ok (.newarray .long, 2)) (kk : ∀ (q : Nat) (H1 : Heap), In G (X ++ (ll ++ [(q, .inl (cA, N, .inr (.inl (fun _ => 0))))])) A s H1 locs → W p l e R s m args below meth c H1 locs (cells + 1) (slots + N) Q (F0 m (pc + 2) ls (.ref q :: rest))) : W p l e R s m args below meth c H locs cells slots Q (F0 m pc ls (.int n :: rest)) := by
  refine va_newa (atype := .long) (ty := .long) (a0 := (N, .inr (.inl (fun _ => 0)))) E.1 E.2.1 (E.2.2.2.2 _ hw) rfl hI.2.2.2.1 hI.1 hI.2.1 hI.2.2.1 hI.2.2.2.2.1 (fun _ => rfl) hn hN (by simp only [componentBytes]; omega) hcells hslots hd (fun q cB H1 hK hP hD hS => ?_)
  have e9 : cB = cA := cidJ hI.2.2.2.1 ht (hK.2 G.2.1.length (cB, .long) (by rw [List.getElem?_append_right (Nat.le_refl _), Nat.sub_self]; rfl)).2
  rw [e9, List.append_assoc] at hP hD
  exact kk q H1 ⟨hP, hD, hS, hI.2.2.2.1, hI.2.2.2.2⟩
theorem rNewZ {n : Int32} {N t0 : Nat} {cA : ClassId} (E : CallFix p m c cc nL s args TB own) (hI : In G (X ++ ll) A s H locs) (ht : G.2.1[t0]? = some (cA, .boolean)) (hw : Cond.arrayClass .boolean ∈ TB) (hn : ¬ n < 0) (hN : n.toNatClampNeg = N) (hb9 : N ≤ 1000) (hcells : cells + 1 ≤ R.cells) (hslots : slots + N ≤ R.slots) (hd : decode cc pc = .ok (.newarray .boolean, 2)) (kk : ∀ (q : Nat) (H1 : Heap), In G (X ++ (ll ++ [(q, .inl (cA, N, .inl (fun _ => 0)))])) A s H1 locs → W p l e R s m args below meth c H1 locs (cells + 1) (slots + N) Q (F0 m (pc + 2) ls (.ref q :: rest))) : W p l e R s m args below meth c H locs cells slots Q (F0 m pc ls (.int n :: rest)) := by
  refine va_newa (atype := .boolean) (ty := .boolean) (a0 := (N, .inl (fun _ => 0))) E.1 E.2.1 (E.2.2.2.2 _ hw) rfl hI.2.2.2.1 hI.1 hI.2.1 hI.2.2.1 hI.2.2.2.2.1 (fun _ => rfl) hn hN (by simp only [componentBytes]; omega) hcells hslots hd (fun q cB H1 hK hP hD hS => ?_)
  have e9 : cB = cA := cidZ hI.2.2.2.1 ht (hK.2 G.2.1.length (cB, .boolean) (by rw [List.getElem?_append_right (Nat.le_refl _), Nat.sub_self]; rfl)).2
  rw [e9, List.append_assoc] at hP hD
  exact kk q H1 ⟨hP, hD, hS, hI.2.2.2.1, hI.2.2.2.2⟩
theorem rNewR {n : Int32} {N t0 index : Nat} {cA : ClassId} {C : String} (E : CallFix p m c cc nL s args TB own) (hI : In G (X ++ ll) A s H locs) (ht : G.2.1[t0]? = some (cA, .object C)) (hw : Cond.classLink own index C ∈ TB) (hO : va_AO C s) (hn : ¬ n < 0) (hN : n.toNatClampNeg = N) (hb9 : N ≤ 1000) (hcells : cells + 1 ≤ R.cells) (hslots : slots + N ≤ R.slots) (hd : decode cc pc = .ok (.anewarray index, 3)) (kk : ∀ (q : Nat) (H1 : Heap), In G (X ++ (ll ++ [(q, .inl (cA, N, .inr (.inr (.inr (.inr (fun _ => none))))))])) A s H1 locs → W p l e R s m args below meth c H1 locs (cells + 1) (slots + N) Q (F0 m (pc + 3) ls (.ref q :: rest))) : W p l e R s m args below meth c H locs cells slots Q (F0 m pc ls (.int n :: rest)) := by
  refine va_newq E.1 E.2.1 E.2.2.2.1 (E.2.2.2.2 _ hw) hO hI.2.2.2.1 hI.1 hI.2.1 hI.2.2.1 hI.2.2.2.2.1 hn hN (by omega) hcells hslots hd (fun q cB H1 hK hP hD hS => ?_)
  have e9 : cB = cA := cidO hI.2.2.2.1 ht (hK.2 G.2.1.length (cB, .object C) (by rw [List.getElem?_append_right (Nat.le_refl _), Nat.sub_self]; rfl)).2
  rw [e9, List.append_assoc] at hP hD
  exact kk q H1 ⟨hP, hD, hS, hI.2.2.2.1, hI.2.2.2.2⟩
theorem rNewO {ci N index : Nat} {C : String} {T : u_T} {ty : Nat → FieldType} {fs : List Value} (E : CallFix p m c cc nL s args TB own) (hI : In G (X ++ ll) A s H locs) (hc : vwCl[ci]? = some (C, T, N)) (hin : ∀ w ∈ u_ws C T N, w ∈ TB) (hty : ∀ k, k < N → parseFieldDescriptor (T k).2.2.1 = some (ty k)) (hcl : Cond.classLink own index C ∈ TB) (hins : Cond.instantiable C N ∈ TB) (hini : Cond.initialized C ∈ TB) (hfs : ∀ j, j < N → defaultValue (ty j) = vp_V fs j) (hcells : cells + 1 ≤ R.cells) (hslots : slots + N ≤ R.slots) (hd : decode cc pc = .ok (.new index, 3)) (kk : ∀ (q : Nat) (H1 : Heap), In G (X ++ (ll ++ [(q, .inr (ci, fs))])) A s H1 locs → W p l e R s m args below meth c H1 locs (cells + 1) (slots + N) Q (F0 m (pc + 3) ls (.ref q :: rest))) : W p l e R s m args below meth c H locs cells slots Q (F0 m pc ls rest) := by
  refine va_new E.1 E.2.1 E.2.2.2.2 hin ty hty E.2.2.2.1 (E.2.2.2.2 _ hcl) (E.2.2.2.2 _ hins) (E.2.2.2.2 _ hini) hI.2.2.2.1 hI.1 hI.2.1 hI.2.2.1 hI.2.2.2.2.1 hc hfs hcells hslots hd (fun q H1 hP hD hS => ?_)
  rw [List.append_assoc] at hP hD
  exact kk q H1 ⟨hP, hD, hS, hI.2.2.2.1, hI.2.2.2.2⟩
theorem rObj {a idx : Nat} {lv0 : List (Nat × Value)} (E : CallFix p m c cc nL s args TB own) (hls : lv_has ls nL lv0) (hw : Cond.methodLink own idx Lib.objectInit ∈ TB) (hd : fitR 0 R) (hW : (rest.map fun v => v.category).sum ≤ 8) (hdg : decode cc pc = .ok (.invokespecial idx, 3)) (kk : W p l e R s m args below meth c H locs cells slots Q (F0 m (pc + 3) ls rest)) : W p l e R s m args below meth c H locs cells slots Q (F0 m pc ls (.ref a :: rest)) :=
  W.objInit E.1 E.2.1 E.2.2.2.1 (E.2.2.2.2 _ hw) (E.2.2.2.2 _ twOI) (E.2.2.2.2 _ twOC) rfl (by rw [E.2.2.1]; exact hls.1) rfl hdg (by have := hd.1; omega) (by have := hd.2; show 2 * 0 + _ + 12 ≤ _; omega) kk
theorem rPutF {a ci N index f k : Nat} {C : String} {T : u_T} {fs : List Value} {v : Value} (E : CallFix p m c cc nL s args TB own) (hI : In G (X ++ ll) A s H locs) (he : ll[k]? = some (a, .inr (ci, fs))) (hc : vwCl[ci]? = some (C, T, N)) (hin : ∀ w ∈ u_ws C T N, w ∈ TB) (ty0 : Nat → FieldType) (hty : ∀ k, k < N → parseFieldDescriptor (T k).2.2.1 = some (ty0 k)) (hnm : ∀ a, a < N → ∀ b, b < N → a ≠ b → (T a).2.1 ≠ (T b).2.1) (hk : f < N) (hlk : Cond.fieldLink own index (T f).1 (T f).2.1 (T f).2.2.1 ∈ TB) (hfin : (T f).2.2.2 = true) (hi9 : meth.name = "<init>") (hdc : (T f).1 = own) {ty : FieldType} (hdd : parseFieldDescriptor (T f).2.2.1 = some ty) (hn : narrow ty v = v) (hfit : fits ty v = true) (hl : f < fs.length) (hd : decode cc pc = .ok (.putfield index, 3)) (kk : ∀ (H1 : Heap) (locs1 : List Loc), In G (X ++ ll.set k (a, .inr (ci, fs.set f v))) A s H1 locs1 → W p l e R s m args below meth c H1 locs1 cells slots Q (F0 m (pc + 3) ls rest)) : W p l e R s m args below meth c H locs cells slots Q (F0 m pc ls (v :: .ref a :: rest)) := by
  refine va_putF E.1 E.2.1 E.2.2.2.2 hin ty0 hty hnm E.2.2.2.1 hI.2.2.2.1 hI.1 hI.2.1 hI.2.2.1 (X.length + k) (atX he) hc f hk (E.2.2.2.2 _ hlk) (fun _ h => h) hfin hi9 hdc hdd hn hfit hl hd (fun H1 locs1 hP hD hS => ?_)
  rw [setX] at hP hD
  exact kk H1 locs1 ⟨hP, hD, hS, hI.2.2.2.1, hI.2.2.2.2⟩
theorem rPutC {a ci N index f k : Nat} {C : String} {T : u_T} {fs : List Value} {v : Value} (E : CallFix p m c cc nL s args TB own) (hI : In G (X ++ ll) A s H locs) (he : ll[k]? = some (a, .inr (ci, fs))) (hc : vwCl[ci]? = some (C, T, N)) (hin : ∀ w ∈ u_ws C T N, w ∈ TB) (ty0 : Nat → FieldType) (hty : ∀ k, k < N → parseFieldDescriptor (T k).2.2.1 = some (ty0 k)) (hnm : ∀ a, a < N → ∀ b, b < N → a ≠ b → (T a).2.1 ≠ (T b).2.1) (hk : f < N) (hlk : Cond.fieldLink own index (T f).1 (T f).2.1 (T f).2.2.1 ∈ TB) (hfin : (T f).2.2.2 = false) {ty : FieldType} (hdd : parseFieldDescriptor (T f).2.2.1 = some ty) (hn : narrow ty v = v) (hfit : fits ty v = true) (hl : f < fs.length) (hd : decode cc pc = .ok (.putfield index, 3)) (kk : ∀ (H1 : Heap) (locs1 : List Loc), In G (X ++ ll.set k (a, .inr (ci, fs.set f v))) A s H1 locs1 → W p l e R s m args below meth c H1 locs1 cells slots Q (F0 m (pc + 3) ls rest)) : W p l e R s m args below meth c H locs cells slots Q (F0 m pc ls (v :: .ref a :: rest)) :=
  rPut E hI ⟨X.length + k, atX he, setX⟩ hc hin ty0 hty hnm hk hlk hfin hdd hn hfit hl hd kk
theorem rGetC {a ci N index f k : Nat} {C : String} {T : u_T} {fs : List Value} {v : Value} (E : CallFix p m c cc nL s args TB own) (hI : In G (X ++ ll) A s H locs) (he : ll[k]? = some (a, .inr (ci, fs))) (hc : vwCl[ci]? = some (C, T, N)) (hin : ∀ w ∈ u_ws C T N, w ∈ TB) (hk : f < N) (hlk : Cond.fieldLink own index (T f).1 (T f).2.1 (T f).2.2.1 ∈ TB) (hv : fs[f]? = some v) (hd : decode cc pc = .ok (.getfield index, 3)) (kk : W p l e R s m args below meth c H locs cells slots Q (F0 m (pc + 3) ls (v :: rest))) : W p l e R s m args below meth c H locs cells slots Q (F0 m pc ls (.ref a :: rest)) :=
  rGet E hI ⟨X.length + k, atX he⟩ hc hin hk hlk hv hd kk
theorem rAstC {a k1 k2 ci t0 n v : Nat} {cA : ClassId} {r : vw_C} {vs : List Value} {f : Nat → Option Nat} {i : Int32} (E : CallFix p m c cc nL s args TB own) (hI : In G (X ++ ll) A s H locs) (ha : ll[k1]? = some (a, .inl (cA, n, .inr (.inr (.inr (.inr f)))))) (ht : G.2.1[t0]? = some (cA, .object r.1)) (hv : ll[k2]? = some (v, .inr (ci, vs))) (hc : vwCl[ci]? = some r) (hin : vp_in i n) (hd : decode cc pc = .ok (.aastore, 1)) (kk : ∀ (H1 : Heap) (locs1 : List Loc), In G (X ++ ll.set k1 (a, .inl (cA, n, .inr (.inr (.inr (.inr (va_up f i.toNatClampNeg (some v)))))))) A s H1 locs1 → W p l e R s m args below meth c H1 locs1 cells slots Q (F0 m (pc + 1) ls rest)) : W p l e R s m args below meth c H locs cells slots Q (F0 m pc ls (.ref v :: .int i :: .ref a :: rest)) := by
  refine va_astq E.1 E.2.1 hI.2.2.2.1 hI.1 hI.2.1 hI.2.2.1 (X.length + k1) t0 (X.length + k2) ci (atX ha) ht (atX hv) hc hin hd (fun H1 locs1 hP hD hS => ?_)
  rw [setX] at hP hD
  exact kk H1 locs1 ⟨hP, hD, hS, hI.2.2.2.1, hI.2.2.2.2⟩
end Ctor
