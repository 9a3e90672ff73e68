/-! what stays true of the statics: the static rows, the texts -/
def grt (j : Nat) : Int32 := ([999, 3, 1, 99, 9, 3, 99, 99] : List Int32).getD j 0
def abv (j : Nat) : Int32 := ([-1, 0, 0, 1, 2, 0] : List Int32).getD j 0
def strL : List Nat := [5, 4, 5, 2, 3, 3, 6, 6, 6, 3, 6, 3, 41]
def strB : List (List Int32) := [[110, 101, 101, 100, 115], [115, 101, 101, 115], [116, 117, 114, 110, 115], [111, 114], [97, 110, 100], [110, 111, 116], [108, 111, 111, 107, 101, 100], [99, 111, 108, 111, 117, 114], [110, 117, 109, 98, 101, 114], [100, 97, 121], [102, 105, 108, 108, 101, 100], [98, 111, 120], [110, 101, 101, 100, 115, 32, 50, 32, 59, 32, 115, 101, 101, 115, 32, 100, 97, 121, 32, 59, 32, 116, 117, 114, 110, 115, 32, 100, 97, 121, 32, 43, 32, 110, 117, 109, 98, 101, 114, 32, 59]]
def strO (i : Nat) : String := if i < 12 then RX0 else RX5
def strI (i : Nat) : Nat := ([105, 107, 109, 111, 113, 115, 117, 119, 121, 122, 124, 126, 47] : List Nat).getD i 0
def strT (i : Nat) : String := (["needs", "sees", "turns", "or", "and", "not", "looked", "colour", "number", "day", "filled", "box", "needs 2 ; sees day ; turns day + number ;"] : List String).getD i ""
def SF (z : Nat → Nat) (A : Nat → Prop) (U : State) : Prop :=
  (va_Nw (.methodLinkNest RX1 99 yX5_isIn "MosaicOfSights") U ∧ va_Nw (.methodLinkNest RX1 25 yX3_init "MosaicOfSights") U ∧ va_Nw (.methodLinkNest RX5 35 yX0_init "MosaicOfSights") U ∧ va_Nw (.methodLinkNest RX5 46 yX2_init "MosaicOfSights") U ∧ va_AO "MosaicOfSights$Sheet" U ∧ va_AO "MosaicOfSights$Text" U) ∧
  (va_Z "MosaicOfSights" "GREATEST" "[I" (.ref (z 0)) A U U.heap ∧ va_T .int (z 0) 8 (fun j => .int (grt j)) A U U.heap) ∧
  (va_Z "MosaicOfSights" "ABOVE" "[I" (.ref (z 1)) A U U.heap ∧ va_T .int (z 1) 6 (fun j => .int (abv j)) A U U.heap) ∧
  va_Z "java/lang/String" "COMPACT_STRINGS" "Z" (.int 1) A U U.heap ∧ va_Zq "jdk/internal/util/Preconditions" "SIOOBE_FORMATTER" "Ljava/util/function/BiFunction;" A U U.heap ∧
  vk_S 13 strL strB (fun i => z (10 + i)) (fun i => z (30 + i)) A U U.heap ∧ ∀ i : Nat, i < 13 → vk_R (strO i) (strI i) (strT i) (z (10 + i)) U
theorem stabSF {z : Nat → Nat} : Stab (SF z) := by
  intro A A1 s U h hsz hq hW hA
  obtain ⟨⟨n1, n2, n3, n4, n5, n6⟩, ⟨g1, g2⟩, ⟨b1, b2⟩, c1, p1, k1, r1⟩ := h
  have hv := hW.alike
  refine ⟨⟨va_Nw.warmM hW n1, va_Nw.warmM hW n2, va_Nw.warmM hW n3, va_Nw.warmM hW n4, n5.moved hv, n6.moved hv⟩, ⟨((g1.kept hq).moved hv).narrow hA, ((g2.kept hq).moved hv).narrow hA⟩, ⟨((b1.kept hq).moved hv).narrow hA, ((b2.kept hq).moved hv).narrow hA⟩, ((c1.kept hq).moved hv).narrow hA, ((p1.kept hq).moved hv).narrow hA, ((k1.kept hq).moved hv).narrow hA, fun i hi => (r1 i hi).warm hW⟩
section SFrows
variable {p : Program} {l : Launch} {e : Env} {R : Room} {s : State} {m : MethodId} {args : Array Value} {below : List Frame} {meth : Method} {c : Code} {H : Heap} {locs : List Loc} {cells slots : Nat} {Q : State → Prop} {cc : ByteArray} {nL pc : Nat} {ls : Array Slot} {rest : List Value} {D : va_G} {z : Nat → Nat} {A : Nat → Prop} {own : String} {L : St → va_W} {σ : St} {ws : va_W} {ty0 : List (ClassId × FieldType)}
set_option maxRecDepth 100000 in
theorem lkG : Cond.fieldLink RX5 82 "MosaicOfSights" "GREATEST" "[I" ∈ TB := inT2 (List.mem_of_getElem? (i := 108) rfl) rfl
set_option maxRecDepth 100000 in
theorem lkA : Cond.fieldLink RX5 251 "MosaicOfSights" "ABOVE" "[I" ∈ TB := inT3 (List.mem_of_getElem? (i := 159) rfl) rfl
theorem rGrt (E : CallFix p m c cc nL s args TB RX5) (hI : In (D, ty0, SF z) ws A s H locs) (hd : decode cc pc = .ok (.getstatic 82, 3)) (kk : W p l e R s m args below meth c H locs cells slots Q (F0 m (pc + 3) ls (.ref (z 0) :: rest))) : W p l e R s m args below meth c H locs cells slots Q (F0 m pc ls rest) :=
  va_gets E.1 E.2.1 hI.2.2.2.2.2.2.1.1 hI.2.2.1 E.2.2.2.1 (E.2.2.2.2 _ lkG) (fun _ h => h) hd kk
theorem rAbv (E : CallFix p m c cc nL s args TB RX5) (hI : In (D, ty0, SF z) ws A s H locs) (hd : decode cc pc = .ok (.getstatic 251, 3)) (kk : W p l e R s m args below meth c H locs cells slots Q (F0 m (pc + 3) ls (.ref (z 1) :: rest))) : W p l e R s m args below meth c H locs cells slots Q (F0 m pc ls rest) :=
  va_gets E.1 E.2.1 hI.2.2.2.2.2.2.2.1.1 hI.2.2.1 E.2.2.2.1 (E.2.2.2.2 _ lkA) (fun _ h => h) hd kk
theorem rGrtA {i : Int32} (E : CallFix p m c cc nL s args TB own) (hI : In (D, ty0, SF z) ws A s H locs) (hin : vp_in i 8) (hd : decode cc pc = .ok (.iaload, 1)) (kk : W p l e R s m args below meth c H locs cells slots Q (F0 m (pc + 1) ls (.int (grt i.toNatClampNeg) :: rest))) : W p l e R s m args below meth c H locs cells slots Q (F0 m pc ls (.int i :: .ref (z 0) :: rest)) :=
  va_ti E.1 E.2.1 hI.2.2.2.2.2.2.1.2 hI.2.2.1 hin rfl hd kk
theorem rAbvA {i : Int32} (E : CallFix p m c cc nL s args TB own) (hI : In (D, ty0, SF z) ws A s H locs) (hin : vp_in i 6) (hd : decode cc pc = .ok (.iaload, 1)) (kk : W p l e R s m args below meth c H locs cells slots Q (F0 m (pc + 1) ls (.int (abv i.toNatClampNeg) :: rest))) : W p l e R s m args below meth c H locs cells slots Q (F0 m pc ls (.int i :: .ref (z 1) :: rest)) :=
  va_ti E.1 E.2.1 hI.2.2.2.2.2.2.2.1.2 hI.2.2.1 hin rfl hd kk
/-- a nest mate's static method -/
theorem callNI {d' index n nL' : Nat} {y : MethodName} {cc' : ByteArray} {ty : FieldType} {host : String} {As st : List Value} {Q' : Int32 → St → Prop} {lv0 : List (Nat × Value)} {G : GG} (hF : Stab G.2.2) (E : CallFix p m c cc nL s args TB own) (hcs : cells ≤ R.cells ∧ slots ≤ R.slots) (hls : lv_has ls nL lv0) (hI : In G (L σ) A s H locs) (hM : CtI l y cc' nL' ty d' G L As σ Q') (hw : (Cond.static y ∈ TB ∧ Cond.initialized y.cls ∈ TB ∧ Cond.code y cc' nL' (some ty) ∈ TB) ∧ (y.cls ≠ "java/lang/invoke/MethodHandle" ∧ y.cls ≠ "java/lang/invoke/VarHandle" ∧ (parseMethodDescriptor y.desc).map (fun d => d.parameters.length) = some n) ∧ nL' ≤ 80) (hN : va_Nw (.methodLinkNest own index y host) s) (hd : fitR d' R) (hn : As.length = n) (hst : st = As.reverse ++ rest) (hW : (rest.map fun v => v.category).sum ≤ 8) (hdg : decode cc pc = .ok (.invokestatic index, 3))
    (kk : ∀ (r : Int32) (σ' : St) (H1 : Heap) (locs1 : List Loc), Q' r σ' → In G (L σ') A s H1 locs1 → W p l e R s m args below meth c H1 locs1 cells slots Q (F0 m (pc + 3) ls (.int r :: rest))) : W p l e R s m args below meth c H locs cells slots Q (F0 m pc ls st) := by
  refine va_calli (va_runSN (As := As) (rest := rest) (g := F0 m pc ls st) E (hM H.size) ⟨va_cnB n E.2.2.2.2 (goodC hw.1.2.2) rfl rfl rfl hN (E.2.2.2.2 _ hw.1.2.1) hw.2.1 (fits8 hd hw.2.2), E.2.2.2.2 _ hw.1.1, trivial⟩ ⟨blind0 hF _, pre0 hF hI⟩ rfl hn hls.1 hst (lv_room hW) hdg hcs) hI.2.2.1 (fun q _ h => hI.kept q h) hI.kept (fun r u t H1 locs1 ht hvm hw' hB hz1 hk1 hS => ?_)
  exact kk r u H1 locs1 hw' (behind hI ht hvm hB hS)
end SFrows
theorem nwIsIn : (Cond.static yX5_isIn ∈ TB ∧ Cond.initialized yX5_isIn.cls ∈ TB ∧ Cond.code yX5_isIn cX5_isIn 2 (some .boolean) ∈ TB) ∧ (yX5_isIn.cls ≠ "java/lang/invoke/MethodHandle" ∧ yX5_isIn.cls ≠ "java/lang/invoke/VarHandle" ∧ (parseMethodDescriptor yX5_isIn.desc).map (fun d => d.parameters.length) = some 2) ∧ 2 ≤ 80 := ⟨⟨mwX5_94.1.2.1, mwX5_94.1.2.2.1, cw_X5_isIn⟩, by decide +kernel, by decide⟩
/-- a method of a class some of whose other methods are run by an entry -/
theorem Met.ofWF {l : Launch} {y : MethodName} {ws ws' : List Cond} {rm : Room} {Pc : Array Value → State → Prop} {Qc : Array Value → State → Outcome → State → Prop} {mc ms : Nat} {free : Addr → Prop} {cc : ByteArray} {maxL : Nat} {ret : Option FieldType}
    (hy : plainFor y = true) (hw : ws = Cond.code y cc maxL ret :: ws')
    (body : ∀ p e s m args below meth c s₁, BodyLoose p l y (headSpec ws rm) cc maxL ret e s m args below meth c s₁ → c.maxLocals = maxL → Pc args s →
      W p l e (headSpec ws rm).room s m args below meth c s.heap [] 0 0 (MQ below Qc args s mc ms free) (entryFrame m args maxL)) : Met l y ws rm Pc Qc mc ms free := by
  refine MetFree.of_bodySF (code := cc) (maxLocals := maxL) (ret := ret) hy ?_ ?_
  · intro args s m h hn
    obtain ⟨meth, c, h1, h2, h3, h4, h5, h6, -, -⟩ := Cond.code_spec hn (atoms_spec (ws := ws) h _ (by rw [hw]; exact List.mem_cons_self))
    exact ⟨meth, c, h1, h2, h3, h4, h5, h6⟩
  · intro p e s m args below meth c s₁ B hml hP _
    have hh0 : s₁.heap = s.heap := by rw [B.state]; rfl
    obtain ⟨t, a1, o, b1, b2, b3⟩ := body p e s m args below meth c s₁ B hml hP s₁ hh0 (Stand.of_body B)
    exact ⟨t, o, a1, b1, b2, ⟨b3.1, b3.2⟩⟩
theorem mkIF {l : Launch} {cc : ByteArray} {nL : Nat} {G : GG} {L : St → va_W} {σ : St} {y : MethodName} {ty : FieldType} {d : Nat} {av : List Value} {Q : Int32 → St → Prop} (hy : plainFor y = true) (hle : (lg_sl av).length ≤ nL)
    (body : ∀ (p : Program) (e : Env) (s : State) (m : MethodId) (below : List Frame) (meth : Method) (c : Code) (A : Nat → Prop), CallFix p m c cc nL s av.toArray TB y.cls → meth.sig.returnType = some ty → meth.locks = false → In G (L σ) A s s.heap [] → ∀ ls : Array Slot, lv_has ls nL (lv_args 0 av) → W p l e (rmD d) s m av.toArray below meth c s.heap [] 0 0 (PI below av.toArray s G A L Q) (F0 m 0 ls [])) :
    CtI l y cc nL ty d G L av σ Q := by
  intro sz
  refine Met.ofWF (cc := cc) (maxL := nL) (ret := some ty) hy rfl ?_
  intro p e s m args below meth c s₁ B hml hv
  obtain ⟨rfl, hsz, ⟨hP, hK, hD0⟩, hF⟩ := hv
  subst hsz
  have hts := atoms_spec (ws := .code y cc nL (some ty) :: TB) B.pre
  have hl := lv_entry av (n := nL) hle
  rw [lg_entry_eq]
  exact body p e s m below meth c _ ⟨B.exec, B.bytes, hml, findClass_of_methodNamed B.named, fun w hw => hts w (List.mem_cons_of_mem _ hw)⟩ B.returns B.notSynchronized ⟨hP, hD0.self, va_S.rf, hK, fun q h => Or.inr h, hF⟩ _ hl
theorem kdS {i : Int32} (h : vp_in i 4) : kd (12 + i.toNatClampNeg) = 2 := by
  have := vp_lt h
  unfold kd; (repeat' split) <;> omega
theorem kdT {i : Int32} (h : vp_in i 6) : kd (6 + i.toNatClampNeg) = 3 := by
  have := vp_lt h
  unfold kd; (repeat' split) <;> omega
section SFrows2
variable {p : Program} {l : Launch} {e : Env} {R : Room} {s : State} {m : MethodId} {args : Array Value} {below : List Frame} {meth : Method} {c : Code} {H : Heap} {locs : List Loc} {cells slots : Nat} {Q : State → Prop} {cc : ByteArray} {nL pc : Nat} {ls : Array Slot} {rest : List Value} {D : va_G} {F : (Nat → Prop) → State → Prop} {A : Nat → Prop} {own : String} {σ : St} {ad : Nat → Nat → Nat} {cy : Nat → ClassId} {Rr : va_W} {o : Nat}
theorem a5_6n {i : Int32} (E : CallFix p m c cc nL s args TB own) (hI : In (D, tysC cy, F) (LC ad cy Rr σ) A s H locs) (ho : kd o = 5) (hin : vp_in i 4) (hd : decode cc pc = .ok (.aaload, 1)) (kk : ∀ o1 : Nat, o1 = 12 + i.toNatClampNeg → kd o1 = 2 → W p l e R s m args below meth c H locs cells slots Q (F0 m (pc + 1) ls (.ref (ad o1 99) :: rest))) : W p l e R s m args below meth c H locs cells slots Q (F0 m pc ls (.int i :: .ref (ad o 6) :: rest)) := a5_6 E hI ho hin hd (kk _ rfl (kdS hin))
theorem a1_0n {i : Int32} (E : CallFix p m c cc nL s args TB own) (hI : In (D, tysC cy, F) (LC ad cy Rr σ) A s H locs) (ho : kd o = 1) (hin : vp_in i 6) (hd : decode cc pc = .ok (.aaload, 1)) (kk : ∀ o1 : Nat, o1 = 6 + i.toNatClampNeg → kd o1 = 3 → W p l e R s m args below meth c H locs cells slots Q (F0 m (pc + 1) ls (.ref (ad o1 99) :: rest))) : W p l e R s m args below meth c H locs cells slots Q (F0 m pc ls (.int i :: .ref (ad o 0) :: rest)) := a1_0 E hI ho hin hd (kk _ rfl (kdT hin))
end SFrows2
