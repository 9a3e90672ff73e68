/-! the state of all objects, by their numbers: ints, longs, rows of ints, rows of longs, each by the slot of its field -/
abbrev OT : Type := (Nat → Int32) × (Nat → Int64) × (Nat → Nat → Int32) × (Nat → Nat → Int64)
abbrev St : Type := Nat → OT
def gI (σ : St) (o f : Nat) : Int32 := (σ o).1 f
def gJ (σ : St) (o f : Nat) : Int64 := (σ o).2.1 f
def gA (σ : St) (o f : Nat) : Nat → Int32 := (σ o).2.2.1 f
def gB (σ : St) (o f : Nat) : Nat → Int64 := (σ o).2.2.2 f
def sI (σ : St) (o f : Nat) (v : Int32) : St := va_up σ o (va_up (σ o).1 f v, (σ o).2)
def sJ (σ : St) (o f : Nat) (v : Int64) : St := va_up σ o ((σ o).1, va_up (σ o).2.1 f v, (σ o).2.2)
def sAr (σ : St) (o f : Nat) (g : Nat → Int32) : St := va_up σ o ((σ o).1, (σ o).2.1, va_up (σ o).2.2.1 f g, (σ o).2.2.2)
def sBr (σ : St) (o f : Nat) (g : Nat → Int64) : St := va_up σ o ((σ o).1, (σ o).2.1, (σ o).2.2.1, va_up (σ o).2.2.2 f g)
def sA (σ : St) (o f i : Nat) (v : Int32) : St := sAr σ o f (upd (gA σ o f) i v)
def sB (σ : St) (o f i : Nat) (v : Int64) : St := sBr σ o f (vp_updL (gB σ o f) i v)
/-- the words of the tables that stay good -/
def TB : List Cond := lw_tbl.filter goodWord
theorem inTB {w : Cond} (h : w ∈ lw_tbl) (hg : goodWord w = true) : w ∈ TB := List.mem_filter.mpr ⟨h, hg⟩
theorem tbl_good : TB.all goodWord = true := List.all_eq_true.mpr (fun _ h => (List.mem_filter.mp h).2)
/-- the class of the object of a number -/
def kd (o : Nat) : Nat := if o = 0 then 5 else if o ≤ 3 then 4 else if o = 4 then 1 else if o = 5 then 0 else if o ≤ 11 then 3 else if o ≤ 15 then 2 else 6
/-- the classes' numbers, the arrays' classes, what stays true of the statics -/
abbrev GG : Type := va_G × List (ClassId × FieldType) × ((Nat → Prop) → State → Prop)
def In (G : GG) (ws : va_W) (A : Nat → Prop) (s : State) (H : Heap) (locs : List Loc) : Prop := va_P G.1 vwCl ws H ∧ va_D A ws ∧ va_S A s.heap H locs ∧ va_K G.1 vwCl G.2.1 s ∧ (∀ q : Nat, s.heap.size ≤ q → A q) ∧ G.2.2 A s
def Stab (F : (Nat → Prop) → State → Prop) : Prop := ∀ (A A1 : Nat → Prop) (s U : State), F A s → s.heap.size ≤ U.heap.size → (∀ q : Nat, q < s.heap.size → ¬ A q → U.heap[q]? = s.heap[q]?) → s.WarmedH U.vm → (∀ q, A1 q → A q) → F A1 U
def BB (G : GG) (A : Nat → Prop) (ws : va_W) (t : State) : Prop := va_P G.1 vwCl ws t.heap ∧ va_K G.1 vwCl G.2.1 t ∧ va_D A ws
def Pre0 (G : GG) (ws : va_W) (sz : Nat) (U : State) : Prop := U.heap.size = sz ∧ BB G (fun _ => True) ws U ∧ G.2.2 (va_A ws sz) U
def rmD (d : Nat) : Room := { frames := d, cells := 0, slots := 0, locals := 100 * d }
def CtI (l : Launch) (y : MethodName) (cc : ByteArray) (nL : Nat) (ty : FieldType) (d : Nat) (G : GG) (L : St → va_W) (av : List Value) (σ : St) (Q : Int32 → St → Prop) : Prop :=
  ∀ sz : Nat, Met l y (.code y cc nL (some ty) :: TB) (rmD d) (va_Pc av (Pre0 G (L σ) sz)) (va_Qi Q (fun σ' t => BB G (va_A (L σ) sz) (L σ') t) (va_A (L σ) sz)) 0 0 (va_A (L σ) sz)
def CtJ (l : Launch) (y : MethodName) (cc : ByteArray) (nL : Nat) (d : Nat) (G : GG) (L : St → va_W) (av : List Value) (σ : St) (Q : Int64 → St → Prop) : Prop :=
  ∀ sz : Nat, Met l y (.code y cc nL (some .long) :: TB) (rmD d) (va_Pc av (Pre0 G (L σ) sz)) (va_Ql Q (fun σ' t => BB G (va_A (L σ) sz) (L σ') t) (va_A (L σ) sz)) 0 0 (va_A (L σ) sz)
def CtV (l : Launch) (y : MethodName) (cc : ByteArray) (nL : Nat) (d : Nat) (G : GG) (L : St → va_W) (av : List Value) (σ : St) (Q : St → Prop) : Prop :=
  ∀ sz : Nat, Met l y (.code y cc nL none :: TB) (rmD d) (va_Pc av (Pre0 G (L σ) sz)) (va_Qv Q (fun σ' t => BB G (va_A (L σ) sz) (L σ') t) (va_A (L σ) sz)) 0 0 (va_A (L σ) sz)
/-- what a walk comes to: an int, a long, nothing is answered -/
def PI (below : List Frame) (args : Array Value) (s : State) (G : GG) (A : Nat → Prop) (L : St → va_W) (Q : Int32 → St → Prop) : State → Prop := MQ below (va_Qi Q (fun σ' t => BB G A (L σ') t) A) args s 0 0 A
def PJ (below : List Frame) (args : Array Value) (s : State) (G : GG) (A : Nat → Prop) (L : St → va_W) (Q : Int64 → St → Prop) : State → Prop := MQ below (va_Ql Q (fun σ' t => BB G A (L σ') t) A) args s 0 0 A
def PV (below : List Frame) (args : Array Value) (s : State) (G : GG) (A : Nat → Prop) (L : St → va_W) (Q : St → Prop) : State → Prop := MQ below (va_Qv Q (fun σ' t => BB G A (L σ') t) A) args s 0 0 A
theorem goodT {ws : List Cond} (h : ∀ w ∈ ws, w ∈ TB) : GoodIn TB ws := fun w hw => ⟨h w hw, good_of_word (List.all_eq_true.mp tbl_good w (h w hw))⟩
theorem goodC {w : Cond} (h : w ∈ TB) : GoodIn TB (w :: TB) := goodT (fun _ hv => (List.mem_cons.mp hv).elim (fun e => e ▸ h) id)
theorem In.kept {G : GG} {ws : va_W} {A : Nat → Prop} {s : State} {H : Heap} {locs : List Loc} (h : In G ws A s H locs) : ∀ q, va_A ws H.size q → A q := by
  intro q hq
  rcases hq with ⟨k, e, hk⟩ | hq
  · exact h.2.1.2 k _ hk
  · exact h.2.2.2.2.1 q (Nat.le_trans h.2.2.1.1 hq)
section Walk
variable {p : Program} {l : Launch} {e : Env} {R : Room} {s : State} {m : MethodId} {args : Array Value} {below : List Frame} {meth : Method} {c : Code} {H : Heap} {locs : List Loc} {cells slots : Nat} {Q : State → Prop} {cc : ByteArray} {nL pc : Nat} {ls : Array Slot} {rest : List Value} {G : GG} {A : Nat → Prop} {own : String} {L : St → va_W} {σ : St} {ws : va_W}
theorem mkI {y : MethodName} {ty : FieldType} {d : Nat} {av : List Value} {Q : Int32 → St → Prop} (hy : plainName y.cls = true) (hle : (lg_sl av).length ≤ nL)
    (body : ∀ (p : Program) (e : Env) (s : State) (m : MethodId) (below : List Frame) (meth : Method) (c : Code) (A : Nat → Prop), CallFix p m c cc nL s av.toArray TB y.cls → meth.sig.returnType = some ty → meth.locks = false → In G (L σ) A s s.heap [] → ∀ ls : Array Slot, lv_has ls nL (lv_args 0 av) → W p l e (rmD d) s m av.toArray below meth c s.heap [] 0 0 (PI below av.toArray s G A L Q) (F0 m 0 ls [])) :
    CtI l y cc nL ty d G L av σ Q := by
  intro sz
  refine Met.ofW (cc := cc) (maxL := nL) (ret := some ty) hy rfl ?_
  intro p e s m args below meth c s₁ B hml hv
  obtain ⟨rfl, hsz, ⟨hP, hK, hD0⟩, hF⟩ := hv
  subst hsz
  have hts := atoms_spec (ws := .code y cc nL (some ty) :: TB) B.pre
  have hl := lv_entry av (n := nL) hle
  rw [lg_entry_eq]
  exact body p e s m below meth c _ ⟨B.exec, B.bytes, hml, findClass_of_methodNamed B.named, fun w hw => hts w (List.mem_cons_of_mem _ hw)⟩ B.returns B.notSynchronized ⟨hP, hD0.self, va_S.rf, hK, fun q h => Or.inr h, hF⟩ _ hl
theorem mkJ {y : MethodName} {d : Nat} {av : List Value} {Q : Int64 → St → Prop} (hy : plainName y.cls = true) (hle : (lg_sl av).length ≤ nL)
    (body : ∀ (p : Program) (e : Env) (s : State) (m : MethodId) (below : List Frame) (meth : Method) (c : Code) (A : Nat → Prop), CallFix p m c cc nL s av.toArray TB y.cls → meth.sig.returnType = some .long → meth.locks = false → In G (L σ) A s s.heap [] → ∀ ls : Array Slot, lv_has ls nL (lv_args 0 av) → W p l e (rmD d) s m av.toArray below meth c s.heap [] 0 0 (PJ below av.toArray s G A L Q) (F0 m 0 ls [])) :
    CtJ l y cc nL d G L av σ Q := by
  intro sz
  refine Met.ofW (cc := cc) (maxL := nL) (ret := some .long) hy rfl ?_
  intro p e s m args below meth c s₁ B hml hv
  obtain ⟨rfl, hsz, ⟨hP, hK, hD0⟩, hF⟩ := hv
  subst hsz
  have hts := atoms_spec (ws := .code y cc nL (some .long) :: TB) B.pre
  have hl := lv_entry av (n := nL) hle
  rw [lg_entry_eq]
  exact body p e s m below meth c _ ⟨B.exec, B.bytes, hml, findClass_of_methodNamed B.named, fun w hw => hts w (List.mem_cons_of_mem _ hw)⟩ B.returns B.notSynchronized ⟨hP, hD0.self, va_S.rf, hK, fun q h => Or.inr h, hF⟩ _ hl
theorem mkV {y : MethodName} {d : Nat} {av : List Value} {Q : St → Prop} (hy : plainName y.cls = true) (hle : (lg_sl av).length ≤ nL)
    (body : ∀ (p : Program) (e : Env) (s : State) (m : MethodId) (below : List Frame) (meth : Method) (c : Code) (A : Nat → Prop), CallFix p m c cc nL s av.toArray TB y.cls → meth.sig.returnType = none → meth.locks = false → In G (L σ) A s s.heap [] → ∀ ls : Array Slot, lv_has ls nL (lv_args 0 av) → W p l e (rmD d) s m av.toArray below meth c s.heap [] 0 0 (PV below av.toArray s G A L Q) (F0 m 0 ls [])) :
    CtV l y cc nL d G L av σ Q := by
  intro sz
  refine Met.ofW (cc := cc) (maxL := nL) (ret := none) hy rfl ?_
  intro p e s m args below meth c s₁ B hml hv
  obtain ⟨rfl, hsz, ⟨hP, hK, hD0⟩, hF⟩ := hv
  subst hsz
  have hts := atoms_spec (ws := .code y cc nL none :: TB) B.pre
  have hl := lv_entry av (n := nL) hle
  rw [lg_entry_eq]
  exact body p e s m below meth c _ ⟨B.exec, B.bytes, hml, findClass_of_methodNamed B.named, fun w hw => hts w (List.mem_cons_of_mem _ hw)⟩ B.returns B.notSynchronized ⟨hP, hD0.self, va_S.rf, hK, fun q h => Or.inr h, hF⟩ _ hl
/-- the returns -/
theorem rI {Q : Int32 → St → Prop} {v : Int32} (E : CallFix p m c cc nL s args TB own) (hr : meth.sig.returnType = some .int) (hlk : meth.locks = false) (hI : In G (L σ) A s H locs) (hf : Q v σ) (hd : decode cc pc = .ok (.ireturn, 1)) : W p l e R s m args below meth c H locs 0 0 (PI below args s G A L Q) (F0 m pc ls [.int v]) :=
  W.iret (v := v) E.1 E.2.1 hr (fun t ht hW => ⟨⟨v, σ, rfl, hf, by rw [ht]; exact hI.1, va_K.moved hW.alike hI.2.2.2.1, hI.2.1⟩, hI.2.2.1.F ht⟩) hI.2.2.1.2.2 hd hlk
theorem rZ {Q : Int32 → St → Prop} {v : Int32} (E : CallFix p m c cc nL s args TB own) (hr : meth.sig.returnType = some .boolean) (hlk : meth.locks = false) (hI : In G (L σ) A s H locs) (hz : v = 0 ∨ v = 1) (hf : Q v σ) (hd : decode cc pc = .ok (.ireturn, 1)) : W p l e R s m args below meth c H locs 0 0 (PI below args s G A L Q) (F0 m pc ls [.int v]) :=
  W.zret (v := v) (ty := .boolean) E.1 E.2.1 hr (by rcases hz with rfl | rfl <;> rfl) (fun t ht hW => ⟨⟨v, σ, rfl, hf, by rw [ht]; exact hI.1, va_K.moved hW.alike hI.2.2.2.1, hI.2.1⟩, hI.2.2.1.F ht⟩) hI.2.2.1.2.2 hd hlk
theorem rJ {Q : Int64 → St → Prop} {v : Int64} (E : CallFix p m c cc nL s args TB own) (hr : meth.sig.returnType = some .long) (hlk : meth.locks = false) (hI : In G (L σ) A s H locs) (hf : Q v σ) (hd : decode cc pc = .ok (.lreturn, 1)) : W p l e R s m args below meth c H locs 0 0 (PJ below args s G A L Q) (F0 m pc ls [.long v]) :=
  W.lret (v := v) E.1 E.2.1 hr (fun t ht hW => ⟨⟨v, σ, rfl, hf, by rw [ht]; exact hI.1, va_K.moved hW.alike hI.2.2.2.1, hI.2.1⟩, hI.2.2.1.F ht⟩) hI.2.2.1.2.2 hd hlk
theorem rV {Q : St → Prop} (E : CallFix p m c cc nL s args TB own) (hr : meth.sig.returnType = none) (hlk : meth.locks = false) (hI : In G (L σ) A s H locs) (hf : Q σ) (hd : decode cc pc = .ok (.return_, 1)) : W p l e R s m args below meth c H locs 0 0 (PV below args s G A L Q) (F0 m pc ls []) :=
  W.vret E.1 E.2.1 hr (fun t ht hW => ⟨⟨σ, rfl, hf, by rw [ht]; exact hI.1, va_K.moved hW.alike hI.2.2.2.1, hI.2.1⟩, hI.2.2.1.F ht⟩) hI.2.2.1.2.2 hd hlk
/-- fields -/
theorem rGet (E : CallFix p m c cc nL s args TB own) (hI : In G ws A s H locs) {a ci N index f : Nat} {C : String} {T : u_T} {fs : List Value} {v : Value} (hat : ∃ q0 : Nat, ws[q0]? = some (a, .inr (ci, fs))) (hc : vwCl[ci]? = some (C, T, N)) (hin : ∀ w ∈ u_ws C T N, w ∈ TB) (hk : f < N) (hlk : Cond.fieldLink own index (T f).1 (T f).2.1 (T f).2.2.1 ∈ TB) (hv : fs[f]? = some v) (hd : decode cc pc = .ok (.getfield index, 3)) (kk : W p l e R s m args below meth c H locs cells slots Q (F0 m (pc + 3) ls (v :: rest))) : W p l e R s m args below meth c H locs cells slots Q (F0 m pc ls (.ref a :: rest)) := by
  obtain ⟨q0, he⟩ := hat
  exact va_get E.1 E.2.1 E.2.2.2.2 hin E.2.2.2.1 hI.2.2.2.1 hI.1 q0 he hc f hk (E.2.2.2.2 _ hlk) (fun _ h => h) hv hd kk
theorem rPut (E : CallFix p m c cc nL s args TB own) (hI : In G ws A s H locs) {a ci N index f : Nat} {C : String} {T : u_T} {fs : List Value} {v : Value} {ws' : va_W} (hat : ∃ q0 : Nat, ws[q0]? = some (a, .inr (ci, fs)) ∧ ws.set q0 (a, .inr (ci, fs.set f v)) = ws') (hc : vwCl[ci]? = some (C, T, N)) (hin : ∀ w ∈ u_ws C T N, w ∈ TB) (ty0 : Nat → FieldType) (hty : ∀ k, k < N → parseFieldDescriptor (T k).2.2.1 = some (ty0 k)) (hnm : ∀ a, a < N → ∀ b, b < N → a ≠ b → (T a).2.1 ≠ (T b).2.1) (hk : f < N) (hlk : Cond.fieldLink own index (T f).1 (T f).2.1 (T f).2.2.1 ∈ TB) (hfin : (T f).2.2.2 = false) {ty : FieldType} (hdd : parseFieldDescriptor (T f).2.2.1 = some ty) (hn : narrow ty v = v) (hfit : fits ty v = true) (hl : f < fs.length) (hd : decode cc pc = .ok (.putfield index, 3)) (kk : ∀ (H1 : Heap) (locs1 : List Loc), In G ws' A s H1 locs1 → W p l e R s m args below meth c H1 locs1 cells slots Q (F0 m (pc + 3) ls rest)) : W p l e R s m args below meth c H locs cells slots Q (F0 m pc ls (v :: .ref a :: rest)) := by
  obtain ⟨q0, he, hs⟩ := hat
  refine va_put E.1 E.2.1 E.2.2.2.2 hin ty0 hty hnm E.2.2.2.1 hI.2.2.2.1 hI.1 hI.2.1 hI.2.2.1 q0 he hc f hk (E.2.2.2.2 _ hlk) (fun _ h => h) hfin hdd hn hfit hl hd (fun H1 locs1 hP hD hS => ?_)
  rw [hs] at hP hD
  exact kk H1 locs1 ⟨hP, hD, hS, hI.2.2.2.1, hI.2.2.2.2⟩
/-- rows -/
theorem rAld (E : CallFix p m c cc nL s args TB own) (hI : In G ws A s H locs) {a n t0 : Nat} {cA : ClassId} {f : Nat → Int32} (hat : ∃ q0 : Nat, ws[q0]? = some (a, .inl (cA, n, .inl f))) (ht : G.2.1[t0]? = some (cA, .int)) {i : Int32} (hin : vp_in i n) (hd : decode cc pc = .ok (.iaload, 1)) (kk : W p l e R s m args below meth c H locs cells slots Q (F0 m (pc + 1) ls (.int (f i.toNatClampNeg) :: rest))) : W p l e R s m args below meth c H locs cells slots Q (F0 m pc ls (.int i :: .ref a :: rest)) := by
  obtain ⟨q0, he⟩ := hat
  exact va_iald E.1 E.2.1 hI.2.2.2.1 hI.1 q0 t0 he ht hin hd kk
theorem rAst (E : CallFix p m c cc nL s args TB own) (hI : In G ws A s H locs) {a n t0 : Nat} {cA : ClassId} {f : Nat → Int32} {i x : Int32} {ws' : va_W} (hat : ∃ q0 : Nat, ws[q0]? = some (a, .inl (cA, n, .inl f)) ∧ ws.set q0 (a, .inl (cA, n, .inl (upd f i.toNatClampNeg x))) = ws') (ht : G.2.1[t0]? = some (cA, .int)) (hin : vp_in i n) (hd : decode cc pc = .ok (.iastore, 1)) (kk : ∀ (H1 : Heap) (locs1 : List Loc), In G ws' A s H1 locs1 → W p l e R s m args below meth c H1 locs1 cells slots Q (F0 m (pc + 1) ls rest)) : W p l e R s m args below meth c H locs cells slots Q (F0 m pc ls (.int x :: .int i :: .ref a :: rest)) := by
  obtain ⟨q0, he, hs⟩ := hat
  refine va_iast E.1 E.2.1 hI.2.2.2.1 hI.1 hI.2.1 hI.2.2.1 q0 t0 he ht hin hd (fun H1 locs1 hP hD hS => ?_)
  rw [hs] at hP hD
  exact kk H1 locs1 ⟨hP, hD, hS, hI.2.2.2.1, hI.2.2.2.2⟩
theorem rLld (E : CallFix p m c cc nL s args TB own) (hI : In G ws A s H locs) {a n t0 : Nat} {cA : ClassId} {f : Nat → Int64} (hat : ∃ q0 : Nat, ws[q0]? = some (a, .inl (cA, n, .inr (.inl f)))) (ht : G.2.1[t0]? = some (cA, .long)) {i : Int32} (hin : vp_in i n) (hd : decode cc pc = .ok (.laload, 1)) (kk : W p l e R s m args below meth c H locs cells slots Q (F0 m (pc + 1) ls (.long (f i.toNatClampNeg) :: rest))) : W p l e R s m args below meth c H locs cells slots Q (F0 m pc ls (.int i :: .ref a :: rest)) := by
  obtain ⟨q0, he⟩ := hat
  exact va_lald E.1 E.2.1 hI.2.2.2.1 hI.1 q0 t0 he ht hin hd kk
theorem rLst (E : CallFix p m c cc nL s args TB own) (hI : In G ws A s H locs) {a n t0 : Nat} {cA : ClassId} {f : Nat → Int64} {i : Int32} {x : Int64} {ws' : va_W} (hat : ∃ q0 : Nat, ws[q0]? = some (a, .inl (cA, n, .inr (.inl f))) ∧ ws.set q0 (a, .inl (cA, n, .inr (.inl (vp_updL f i.toNatClampNeg x)))) = ws') (ht : G.2.1[t0]? = some (cA, .long)) (hin : vp_in i n) (hd : decode cc pc = .ok (.lastore, 1)) (kk : ∀ (H1 : Heap) (locs1 : List Loc), In G ws' A s H1 locs1 → W p l e R s m args below meth c H1 locs1 cells slots Q (F0 m (pc + 1) ls rest)) : W p l e R s m args below meth c H locs cells slots Q (F0 m pc ls (.long x :: .int i :: .ref a :: rest)) := by
  obtain ⟨q0, he, hs⟩ := hat
  refine va_last E.1 E.2.1 hI.2.2.2.1 hI.1 hI.2.1 hI.2.2.1 q0 t0 he ht hin hd (fun H1 locs1 hP hD hS => ?_)
  rw [hs] at hP hD
  exact kk H1 locs1 ⟨hP, hD, hS, hI.2.2.2.1, hI.2.2.2.2⟩
theorem rRld (E : CallFix p m c cc nL s args TB own) (hI : In G ws A s H locs) {a n t0 : Nat} {cA : ClassId} {C : String} {f : Nat → Option Nat} (hat : ∃ q0 : Nat, ws[q0]? = some (a, .inl (cA, n, .inr (.inr (.inr (.inr f)))))) (ht : G.2.1[t0]? = some (cA, .object C)) {i : Int32} (hin : vp_in i n) (hd : decode cc pc = .ok (.aaload, 1)) (kk : W p l e R s m args below meth c H locs cells slots Q (F0 m (pc + 1) ls (va_rf (f i.toNatClampNeg) :: rest))) : W p l e R s m args below meth c H locs cells slots Q (F0 m pc ls (.int i :: .ref a :: rest)) := by
  obtain ⟨q0, he⟩ := hat
  exact va_aldq E.1 E.2.1 hI.2.2.2.1 hI.1 q0 t0 he ht hin hd kk
theorem rAlen (E : CallFix p m c cc nL s args TB own) (hI : In G ws A s H locs) {a t0 : Nat} {cA : ClassId} {x : vp_A} (hat : ∃ q0 : Nat, ws[q0]? = some (a, .inl (cA, x))) {ty : FieldType} (ht : G.2.1[t0]? = some (cA, ty)) {v : Int32} (hv : Int32.ofNat x.1 = v) (hd : decode cc pc = .ok (.arraylength, 1)) (kk : W p l e R s m args below meth c H locs cells slots Q (F0 m (pc + 1) ls (.int v :: rest))) : W p l e R s m args below meth c H locs cells slots Q (F0 m pc ls (.ref a :: rest)) := by
  obtain ⟨q0, he⟩ := hat
  exact va_alen E.1 E.2.1 hI.2.2.2.1 hI.1 q0 t0 he ht hv hd kk
/-- what a call needs of the method that is called: its words in the tables, its descriptor -/
def MwV (own C : String) (index : Nat) (y : MethodName) (cc : ByteArray) (nL : Nat) (ret : Option FieldType) (n : Nat) : Prop := (Cond.methodLink own index y ∈ TB ∧ Cond.instanceMethod y ∈ TB ∧ Cond.selects C y y ∈ TB ∧ Cond.initialized C ∈ TB ∧ Cond.code y cc nL ret ∈ TB) ∧ (y.cls = C ∧ y.cls ≠ "java/lang/invoke/MethodHandle" ∧ y.cls ≠ "java/lang/invoke/VarHandle" ∧ (parseMethodDescriptor y.desc).map (fun d => d.parameters.length) = some n) ∧ nL ≤ 80
def MwS (own : String) (index : Nat) (y : MethodName) (cc : ByteArray) (nL : Nat) (ret : Option FieldType) (n : Nat) : Prop := (Cond.methodLink own index y ∈ TB ∧ Cond.static y ∈ TB ∧ Cond.initialized y.cls ∈ TB ∧ Cond.code y cc nL ret ∈ TB) ∧ (y.cls ≠ "java/lang/invoke/MethodHandle" ∧ y.cls ≠ "java/lang/invoke/VarHandle" ∧ (parseMethodDescriptor y.desc).map (fun d => d.parameters.length) = some n) ∧ nL ≤ 80
theorem goodV {C : String} {index n nL' : Nat} {y : MethodName} {cc' : ByteArray} {ret : Option FieldType} (h : MwV own C index y cc' nL' ret n) : GoodIn TB (wsV own index C y (.code y cc' nL' ret :: TB)) := by
  obtain ⟨⟨h1, h2, h3, h4, h5⟩, -, -⟩ := h
  refine goodT (fun w hw => ?_)
  rcases List.mem_append.mp hw with hw | hw
  · simp only [List.mem_cons, List.not_mem_nil, or_false] at hw
    rcases hw with rfl | rfl | rfl | rfl <;> assumption
  · exact (List.mem_cons.mp hw).elim (fun e => e ▸ h5) id
theorem goodS {index n nL' : Nat} {y : MethodName} {cc' : ByteArray} {ret : Option FieldType} (h : MwS own index y cc' nL' ret n) : GoodIn TB (va_wsS own index y (.code y cc' nL' ret :: TB)) := by
  obtain ⟨⟨h1, h2, h3, h4⟩, -, -⟩ := h
  refine goodT (fun w hw => ?_)
  rcases List.mem_append.mp hw with hw | hw
  · simp only [List.mem_cons, List.not_mem_nil, or_false] at hw
    rcases hw with rfl | rfl | rfl <;> assumption
  · exact (List.mem_cons.mp hw).elim (fun e => e ▸ h4) id
def fitR (d' : Nat) (R : Room) : Prop := d' + 1 ≤ R.frames ∧ 100 * d' + 100 ≤ R.locals
theorem fitD {d d' : Nat} (h : d' < d) : fitR d' (rmD d) := by
  simp only [fitR, rmD]; omega
theorem fits8 {d' nL' : Nat} (hd : fitR d' R) (hn : nL' ≤ 80) : (rmD d').frames + 1 ≤ R.frames ∧ 8 + (nL' + 11) + (rmD d').locals ≤ R.locals := by
  simp only [fitR] at hd; simp only [rmD]; omega
theorem blind0 {ws : va_W} {sz : Nat} (hF : Stab G.2.2) (av : List Value) : FrameBlind (va_Pc av (Pre0 G ws sz)) := by
  intro a U g mk q
  obtain ⟨q0, q1, ⟨qP, qK, qD⟩, qF⟩ := q
  exact ⟨q0, q1, ⟨qP, va_K.moved (u := U) (U := U.calling g mk a) (Vm.Alike.refl U.vm) qK, qD⟩, hF _ _ U _ qF (Nat.le_refl _) (fun _ _ _ => rfl) (State.WarmedH.refl U) (fun _ h => h)⟩
theorem pre0 (hF : Stab G.2.2) (hI : In G ws A s H locs) {av : List Value} : ∀ U : State, U.heap = H → s.WarmedH U.vm → va_Pc av (Pre0 G ws H.size) av.toArray U := fun U hU hW => ⟨rfl, by rw [hU], ⟨by rw [hU]; exact hI.1, va_K.moved hW.alike hI.2.2.2.1, hI.2.1.weaken (fun _ _ _ _ => trivial)⟩, hF A _ s U hI.2.2.2.2.2 (by rw [hU]; exact hI.2.2.1.1) (fun q h1 h2 => by rw [hU]; exact hI.2.2.1.2.1 q h1 h2) hW hI.kept⟩
theorem behind {σ' : St} {H1 : Heap} {locs1 : List Loc} {t : State} (hI : In G (L σ) A s H locs) (ht : t.heap = H1) (hvm : s.vm.Alike t.vm) (hB : BB G (va_A (L σ) H.size) (L σ') t) (hS : va_S A s.heap H1 locs1) : In G (L σ') A s H1 locs1 := ⟨by rw [← ht]; exact hB.1, hB.2.2.weaken (fun _ _ _ h => hI.kept _ h), hS, hI.2.2.2.1, hI.2.2.2.2⟩
theorem callVI {d' index n nL' : Nat} {y : MethodName} {cc' : ByteArray} {ty : FieldType} {C : String} {b ci : Nat} {fs : List Value} {qq : vw_C} {As st : List Value} {Q' : Int32 → St → Prop} {lv0 : List (Nat × Value)} (hF : Stab G.2.2) (E : CallFix p m c cc nL s args TB own) (hcs : cells ≤ R.cells ∧ slots ≤ R.slots) (hls : lv_has ls nL lv0) (hI : In G (L σ) A s H locs) (hM : CtI l y cc' nL' ty d' G L (.ref b :: As) σ Q') (hw : MwV own C index y cc' nL' (some ty) n) (hd : fitR d' R) (hat : ∃ q0 : Nat, (L σ)[q0]? = some (b, .inr (ci, fs))) (hc : vwCl[ci]? = some qq) (hC : qq.1 = C) (hn : As.length = n) (hst : st = As.reverse ++ .ref b :: rest) (hW : (rest.map fun v => v.category).sum ≤ 8) (hdg : decode cc pc = .ok (.invokevirtual index, 3))
    (kk : ∀ (r : Int32) (σ' : St) (H1 : Heap) (locs1 : List Loc), Q' r σ' → In G (L σ') A s H1 locs1 → W p l e R s m args below meth c H1 locs1 cells slots Q (F0 m (pc + 3) ls (.int r :: rest))) : W p l e R s m args below meth c H locs cells slots Q (F0 m pc ls st) := by
  obtain ⟨q0, he⟩ := hat
  have hrec := va_recv hI.2.2.2.1 hI.1 hc he
  rw [hC] at hrec
  refine va_calli (va_runV (As := As) (rest := rest) (g := F0 m pc ls st) E (hM H.size) (cwV n E.2.2.2.2 (goodV hw) rfl rfl rfl hw.2.1 (fits8 hd hw.2.2)) ⟨blind0 hF _, hrec, pre0 hF hI⟩ rfl hn hls.1 hst (lv_room hW) hdg hcs) hI.2.2.1 (fun q _ h => hI.kept q h) hI.kept (fun r u t H1 locs1 ht hvm hw' hB hz1 hk1 hS => ?_)
  exact kk r u H1 locs1 hw' (behind hI ht hvm hB hS)
theorem callVJ {d' index n nL' : Nat} {y : MethodName} {cc' : ByteArray} {C : String} {b ci : Nat} {fs : List Value} {qq : vw_C} {As st : List Value} {Q' : Int64 → St → Prop} {lv0 : List (Nat × Value)} (hF : Stab G.2.2) (E : CallFix p m c cc nL s args TB own) (hcs : cells ≤ R.cells ∧ slots ≤ R.slots) (hls : lv_has ls nL lv0) (hI : In G (L σ) A s H locs) (hM : CtJ l y cc' nL' d' G L (.ref b :: As) σ Q') (hw : MwV own C index y cc' nL' (some .long) n) (hd : fitR d' R) (hat : ∃ q0 : Nat, (L σ)[q0]? = some (b, .inr (ci, fs))) (hc : vwCl[ci]? = some qq) (hC : qq.1 = C) (hn : As.length = n) (hst : st = As.reverse ++ .ref b :: rest) (hW : (rest.map fun v => v.category).sum ≤ 8) (hdg : decode cc pc = .ok (.invokevirtual index, 3))
    (kk : ∀ (r : Int64) (σ' : St) (H1 : Heap) (locs1 : List Loc), Q' r σ' → In G (L σ') A s H1 locs1 → W p l e R s m args below meth c H1 locs1 cells slots Q (F0 m (pc + 3) ls (.long r :: rest))) : W p l e R s m args below meth c H locs cells slots Q (F0 m pc ls st) := by
  obtain ⟨q0, he⟩ := hat
  have hrec := va_recv hI.2.2.2.1 hI.1 hc he
  rw [hC] at hrec
  refine va_calll (va_runV (As := As) (rest := rest) (g := F0 m pc ls st) E (hM H.size) (cwV n E.2.2.2.2 (goodV hw) rfl rfl rfl hw.2.1 (fits8 hd hw.2.2)) ⟨blind0 hF _, hrec, pre0 hF hI⟩ rfl hn hls.1 hst (lv_room hW) hdg hcs) hI.2.2.1 (fun q _ h => hI.kept q h) hI.kept (fun r u t H1 locs1 ht hvm hw' hB hz1 hk1 hS => ?_)
  exact kk r u H1 locs1 hw' (behind hI ht hvm hB hS)
theorem callVV {d' index n nL' : Nat} {y : MethodName} {cc' : ByteArray} {C : String} {b ci : Nat} {fs : List Value} {qq : vw_C} {As st : List Value} {Q' : St → Prop} {lv0 : List (Nat × Value)} (hF : Stab G.2.2) (E : CallFix p m c cc nL s args TB own) (hcs : cells ≤ R.cells ∧ slots ≤ R.slots) (hls : lv_has ls nL lv0) (hI : In G (L σ) A s H locs) (hM : CtV l y cc' nL' d' G L (.ref b :: As) σ Q') (hw : MwV own C index y cc' nL' none n) (hd : fitR d' R) (hat : ∃ q0 : Nat, (L σ)[q0]? = some (b, .inr (ci, fs))) (hc : vwCl[ci]? = some qq) (hC : qq.1 = C) (hn : As.length = n) (hst : st = As.reverse ++ .ref b :: rest) (hW : (rest.map fun v => v.category).sum ≤ 8) (hdg : decode cc pc = .ok (.invokevirtual index, 3))
    (kk : ∀ (σ' : St) (H1 : Heap) (locs1 : List Loc), Q' σ' → In G (L σ') A s H1 locs1 → W p l e R s m args below meth c H1 locs1 cells slots Q (F0 m (pc + 3) ls (rest))) : W p l e R s m args below meth c H locs cells slots Q (F0 m pc ls st) := by
  obtain ⟨q0, he⟩ := hat
  have hrec := va_recv hI.2.2.2.1 hI.1 hc he
  rw [hC] at hrec
  refine va_callv (va_runV (As := As) (rest := rest) (g := F0 m pc ls st) E (hM H.size) (cwV n E.2.2.2.2 (goodV hw) rfl rfl rfl hw.2.1 (fits8 hd hw.2.2)) ⟨blind0 hF _, hrec, pre0 hF hI⟩ rfl hn hls.1 hst (lv_room hW) hdg hcs) hI.2.2.1 (fun q _ h => hI.kept q h) hI.kept (fun u t H1 locs1 ht hvm hw' hB hz1 hk1 hS => ?_)
  exact kk u H1 locs1 hw' (behind hI ht hvm hB hS)
theorem callSI {d' index n nL' : Nat} {y : MethodName} {cc' : ByteArray} {ty : FieldType} {As st : List Value} {Q' : Int32 → St → Prop} {lv0 : List (Nat × Value)} (hF : Stab G.2.2) (E : CallFix p m c cc nL s args TB own) (hcs : cells ≤ R.cells ∧ slots ≤ R.slots) (hls : lv_has ls nL lv0) (hI : In G (L σ) A s H locs) (hM : CtI l y cc' nL' ty d' G L As σ Q') (hw : MwS own index y cc' nL' (some ty) n) (hd : fitR d' R) (hn : As.length = n) (hst : st = As.reverse ++ rest) (hW : (rest.map fun v => v.category).sum ≤ 8) (hdg : decode cc pc = .ok (.invokestatic index, 3))
    (kk : ∀ (r : Int32) (σ' : St) (H1 : Heap) (locs1 : List Loc), Q' r σ' → In G (L σ') A s H1 locs1 → W p l e R s m args below meth c H1 locs1 cells slots Q (F0 m (pc + 3) ls (.int r :: rest))) : W p l e R s m args below meth c H locs cells slots Q (F0 m pc ls st) := by
  refine va_calli (va_runS (As := As) (rest := rest) (g := F0 m pc ls st) E (hM H.size) (va_cwS n E.2.2.2.2 (goodS hw) rfl rfl rfl hw.2.1 (fits8 hd hw.2.2)) ⟨blind0 hF _, pre0 hF hI⟩ rfl hn hls.1 hst (lv_room hW) hdg hcs) hI.2.2.1 (fun q _ h => hI.kept q h) hI.kept (fun r u t H1 locs1 ht hvm hw' hB hz1 hk1 hS => ?_)
  exact kk r u H1 locs1 hw' (behind hI ht hvm hB hS)
theorem callSJ {d' index n nL' : Nat} {y : MethodName} {cc' : ByteArray} {As st : List Value} {Q' : Int64 → St → Prop} {lv0 : List (Nat × Value)} (hF : Stab G.2.2) (E : CallFix p m c cc nL s args TB own) (hcs : cells ≤ R.cells ∧ slots ≤ R.slots) (hls : lv_has ls nL lv0) (hI : In G (L σ) A s H locs) (hM : CtJ l y cc' nL' d' G L As σ Q') (hw : MwS own index y cc' nL' (some .long) n) (hd : fitR d' R) (hn : As.length = n) (hst : st = As.reverse ++ rest) (hW : (rest.map fun v => v.category).sum ≤ 8) (hdg : decode cc pc = .ok (.invokestatic index, 3))
    (kk : ∀ (r : Int64) (σ' : St) (H1 : Heap) (locs1 : List Loc), Q' r σ' → In G (L σ') A s H1 locs1 → W p l e R s m args below meth c H1 locs1 cells slots Q (F0 m (pc + 3) ls (.long r :: rest))) : W p l e R s m args below meth c H locs cells slots Q (F0 m pc ls st) := by
  refine va_calll (va_runS (As := As) (rest := rest) (g := F0 m pc ls st) E (hM H.size) (va_cwS n E.2.2.2.2 (goodS hw) rfl rfl rfl hw.2.1 (fits8 hd hw.2.2)) ⟨blind0 hF _, pre0 hF hI⟩ rfl hn hls.1 hst (lv_room hW) hdg hcs) hI.2.2.1 (fun q _ h => hI.kept q h) hI.kept (fun r u t H1 locs1 ht hvm hw' hB hz1 hk1 hS => ?_)
  exact kk r u H1 locs1 hw' (behind hI ht hvm hB hS)
theorem callSV {d' index n nL' : Nat} {y : MethodName} {cc' : ByteArray} {As st : List Value} {Q' : St → Prop} {lv0 : List (Nat × Value)} (hF : Stab G.2.2) (E : CallFix p m c cc nL s args TB own) (hcs : cells ≤ R.cells ∧ slots ≤ R.slots) (hls : lv_has ls nL lv0) (hI : In G (L σ) A s H locs) (hM : CtV l y cc' nL' d' G L As σ Q') (hw : MwS own index y cc' nL' none n) (hd : fitR d' R) (hn : As.length = n) (hst : st = As.reverse ++ rest) (hW : (rest.map fun v => v.category).sum ≤ 8) (hdg : decode cc pc = .ok (.invokestatic index, 3))
    (kk : ∀ (σ' : St) (H1 : Heap) (locs1 : List Loc), Q' σ' → In G (L σ') A s H1 locs1 → W p l e R s m args below meth c H1 locs1 cells slots Q (F0 m (pc + 3) ls (rest))) : W p l e R s m args below meth c H locs cells slots Q (F0 m pc ls st) := by
  refine va_callv (va_runS (As := As) (rest := rest) (g := F0 m pc ls st) E (hM H.size) (va_cwS n E.2.2.2.2 (goodS hw) rfl rfl rfl hw.2.1 (fits8 hd hw.2.2)) ⟨blind0 hF _, pre0 hF hI⟩ rfl hn hls.1 hst (lv_room hW) hdg hcs) hI.2.2.1 (fun q _ h => hI.kept q h) hI.kept (fun u t H1 locs1 ht hvm hw' hB hz1 hk1 hS => ?_)
  exact kk u H1 locs1 hw' (behind hI ht hvm hB hS)
theorem rMin (E : CallFix p m c cc nL s args TB own) (hcs : cells ≤ R.cells ∧ slots ≤ R.slots) {lv0 : List (Nat × Value)} (hls : lv_has ls nL lv0) {index : Nat} (hw : MwS own index Lib.Math.min.name Lib.Math.min.code 2 (some .int) 2) (hd : fitR 0 R) (hW : (rest.map fun v => v.category).sum ≤ 8) {x y : Int32} (hdg : decode cc pc = .ok (.invokestatic index, 3)) (kk : W p l e R s m args below meth c H locs cells slots Q (F0 m (pc + 3) ls (.int (if y < x then y else x) :: rest))) : W p l e R s m args below meth c H locs cells slots Q (F0 m pc ls (.int y :: .int x :: rest)) :=
  va_mmin E.1 E.2.1 (by rw [E.2.2.1, hls.1]) E.2.2.2.1 (E.2.2.2.2 _ hw.1.1) (E.2.2.2.2 _ hw.1.2.1) (E.2.2.2.2 _ hw.1.2.2.1) (E.2.2.2.2 _ hw.1.2.2.2) (by have := hd.1; omega) (by have := hd.2; omega) hcs.1 hcs.2 hdg kk
theorem rMax (E : CallFix p m c cc nL s args TB own) (hcs : cells ≤ R.cells ∧ slots ≤ R.slots) {lv0 : List (Nat × Value)} (hls : lv_has ls nL lv0) {index : Nat} (hw : MwS own index Lib.Math.max.name Lib.Math.max.code 2 (some .int) 2) (hd : fitR 0 R) (hW : (rest.map fun v => v.category).sum ≤ 8) {x y : Int32} (hdg : decode cc pc = .ok (.invokestatic index, 3)) (kk : W p l e R s m args below meth c H locs cells slots Q (F0 m (pc + 3) ls (.int (if x < y then y else x) :: rest))) : W p l e R s m args below meth c H locs cells slots Q (F0 m pc ls (.int y :: .int x :: rest)) :=
  va_mmax E.1 E.2.1 (by rw [E.2.2.1, hls.1]) E.2.2.2.1 (E.2.2.2.2 _ hw.1.1) (E.2.2.2.2 _ hw.1.2.1) (E.2.2.2.2 _ hw.1.2.2.1) (E.2.2.2.2 _ hw.1.2.2.2) (by have := hd.1; omega) (by have := hd.2; omega) hcs.1 hcs.2 hdg kk
theorem cs0 {d : Nat} : 0 ≤ (rmD d).cells ∧ 0 ≤ (rmD d).slots := ⟨Nat.le_refl _, Nat.le_refl _⟩
end Walk
