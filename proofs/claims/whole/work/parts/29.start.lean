/-! THE CLAIM OUT OF ONE WALK OF THE LAW'S BODY. Your part is whole_start (and what it stands on); all else here is the same for every law, but numbers. -/
def R_law : String := "MosaicOfSightsLaw"
def lw_P (b : Addr) (xs : List Int32) (args : Array Value) (s : State) : Prop := args = #[.ref b] ∧ s.IntsAt b xs ∧ xs.length ≤ 3072 ∧ (Jvm.Cond.and given_1 narrow_1).before args s = true
def lw_Q (_ : Array Value) (s : State) (o : Outcome) (t : State) : Prop := o = .returned (some (.int 1)) ∧ Framed s o t [] 600000 7302250
def lw_Z (below : List Frame) (a : Array Value) (s : State) : State → Prop := fun t => ∃ o, t.status = .running ∧ Ended t below o ∧ lw_Q a s o t
/-- the law's own end, with 1 on the stack, nothing written that was there before, its room as the claim has it -/
theorem lw_ret {p : Program} {l : Launch} {e : Env} {s : State} {m : MethodId} {below : List Frame} {meth : Method} {c : Code} {b : Nat} (hx : p.tables.exec = Jvm.exec) (hb : c.code = code) (hr : meth.sig.returnType = ret) (hlocks : meth.locks = false) {pc : Nat} {H : Heap} {ls : Array Slot} (hdg : decode code pc = .ok (.ireturn, 1)) : W p l e room_1 s m #[Value.ref b] below meth c H [] 600000 7302250 (lw_Z below #[Value.ref b] s) (F0 m pc ls [.int 1]) := by
  intro T hT X
  obtain ⟨fs, hret, hrun, hended, hW, hframe⟩ := X.leave (v := some (.int 1)) (hlocks := hlocks) (fun h => by rw [hr] at h; cases h)
  have hmeth' : T.vm.method? m = some meth := X.method'
  refine ⟨T.setFrames fs, ?_, .returned (some (.int 1)), hrun, hended, rfl, ⟨_, rfl⟩, hW, hframe⟩
  jvm_step X.here [X.here.top, hx, hb, hdg, hmeth', hr, ret, narrow_b1]
  (try refine ⟨rfl, ?_⟩); (try refine ⟨rfl, ?_⟩)
  first | (intro acts; rw [hret _ acts rfl rfl rfl]) | rw [hret _ _ rfl rfl rfl]
  exact Steps.refl _
/-- what holds at the law's entry: the machine, the code, the tables' words (any of lw_tbl by 'hts w (by decide +kernel)'), the script of L ints xs at the cell b, what the Statement gives of the start (any of its parts by flat_of_before) -/
def lw_At (p : Program) (s : State) (m : MethodId) (meth : Method) (c : Code) (b L : Nat) (xs : Nat → Int32) : Prop :=
  p.tables.exec = Jvm.exec ∧ c.code = code ∧ meth.sig.returnType = ret ∧ c.maxLocals = 4 ∧ s.vm.findClass R_law = some m.cls ∧ (∀ w ∈ lw_tbl, w.before #[Value.ref b] s = true) ∧ va_X b L xs s s.heap ∧ b < s.heap.size ∧ meth.locks = false ∧ (Jvm.Cond.and given_1 narrow_1).before #[Value.ref b] s = true
theorem ofArr {s : State} {args : Array Value} {ty : FieldType} (h : (Cond.arrayClass ty).before args s = true) (h9 : ∀ cA : ClassId, va_RA s cA ty = (s.vm.findClass ("[" ++ ty.toString) = some cA)) : ∃ cA : ClassId, ArrOfT s cA ty ∧ va_RA s cA ty := by
  obtain ⟨c, k, comp, h1, h2, h3⟩ := Cond.arrayClass_spec h
  refine ⟨c, fun n z => ⟨fun k2 hk2 => ?_, k, h2, comp, h3⟩, by rw [h9]; exact h1⟩
  cases hk2
theorem ofArrO {s : State} {args : Array Value} {C : String} (h : (Cond.arrayOver (.object C)).before args s = true) : ∃ cA : ClassId, ArrOfT s cA (.object C) ∧ va_RA s cA (.object C) := by
  obtain ⟨comp, c, k, h1, h2, h3, h4, h5⟩ := Cond.arrayOver_spec h
  refine ⟨c, fun n z => ⟨fun k2 hk2 => ?_, k, h3, comp, h4⟩, k, comp, h3, h4, h1, h5⟩
  cases hk2
set_option maxHeartbeats 8000000 in
set_option maxRecDepth 100000 in
/-- the law from its entry, out of the simulation -/
theorem whole_open {p : Program} {e : Env} {s : State} {m : MethodId} {below : List Frame} {meth : Method} {c : Code} (l : Launch) {Rel : St → St → Prop} (hSim : SimAll Rel) (hinit : wX5_initT s0C (fun X => wX6_initT (fun _ => w0M) (fun S => Rel X S))) {b L : Nat} {xs : Nat → Int32} (hL : L ≤ 3072) (C0 : lw_At p s m meth c b L xs) : W p l e room_1 s m #[Value.ref b] below meth c s.heap [] 0 0 (lw_Z below #[Value.ref b] s) (entryFrame m ([Value.ref b] : List Value).toArray 4) := by
  obtain ⟨hx, hb, hr, hml, hown, hts, hX, hbl, hlocks, hgv⟩ := C0
  have hA : ∀ q : Nat, s.heap.size ≤ q → (fun q : Nat => s.heap.size ≤ q) q := fun _ h => h
  have hbA : ¬ (fun q : Nat => s.heap.size ≤ q) b := Nat.not_le.mpr hbl
  obtain ⟨z, hSF⟩ := sf_of hts hgv
  have htb : ∀ w ∈ TB, w.before #[Value.ref b] s = true := fun w hw => hts w (List.mem_filter.mp hw).1
  have E : CallFix p m c cL_law 4 s #[Value.ref b] TB RL := ⟨hx, hb, hml, hown, htb⟩
  obtain ⟨c0, iS0, hKn0⟩ := u_known (C := RX0) (T := TX0) (N := 6) (n := 6) htb inX0 (htb _ is_RX0)
  obtain ⟨c1, iS1, hKn1⟩ := u_known (C := RX1) (T := TX1) (N := 3) (n := 3) htb inX1 (htb _ is_RX1)
  obtain ⟨c2, iS2, hKn2⟩ := u_known (C := RX2) (T := TX2) (N := 3) (n := 3) htb inX2 (htb _ is_RX2)
  obtain ⟨c3, iS3, hKn3⟩ := u_known (C := RX3) (T := TX3) (N := 3) (n := 3) htb inX3 (htb _ is_RX3)
  obtain ⟨c4, iS4, hKn4⟩ := u_known (C := RX4) (T := TX4) (N := 11) (n := 11) htb inX4 (htb _ is_RX4)
  obtain ⟨c5, iS5, hKn5⟩ := u_known (C := RX5) (T := TX5) (N := 7) (n := 7) htb inX5 (htb _ is_RX5)
  obtain ⟨c6, iS6, hKn6⟩ := u_known (C := RX6) (T := TX6) (N := 43) (n := 43) htb inX6 (htb _ is_RX6)
  obtain ⟨dC, dI, hKc⟩ : ∃ (dC : Nat → ClassId) (dI : Nat → Nat → Nat), ∀ (k : Nat) (q : vw_C), vwCl[k]? = some q → u_Kn s q.1 q.2.1 q.2.2 (dC k) (dI k) := by
    refine ⟨fun k => if k = 0 then c0 else if k = 1 then c1 else if k = 2 then c2 else if k = 3 then c3 else if k = 4 then c4 else if k = 5 then c5 else c6, fun k => if k = 0 then iS0 else if k = 1 then iS1 else if k = 2 then iS2 else if k = 3 then iS3 else if k = 4 then iS4 else if k = 5 then iS5 else iS6, ?_⟩
    intro k q hq
    match k, hq with
    | 0, hq => cases hq; exact hKn0
    | 1, hq => cases hq; exact hKn1
    | 2, hq => cases hq; exact hKn2
    | 3, hq => cases hq; exact hKn3
    | 4, hq => cases hq; exact hKn4
    | 5, hq => cases hq; exact hKn5
    | 6, hq => cases hq; exact hKn6
    | k + 7, hq => simp [vwCl] at hq
  obtain ⟨yI, kI⟩ := ofArr (ty := .int) (htb _ ac_int) (fun _ => rfl)
  obtain ⟨yJ, kJ⟩ := ofArr (ty := .long) (htb _ ac_long) (fun _ => rfl)
  obtain ⟨yZ, kZ⟩ := ofArr (ty := .boolean) (htb _ ac_boolean) (fun _ => rfl)
  obtain ⟨yS, kS⟩ := ofArrO (hts _ aoSheet)
  obtain ⟨yT, kT⟩ := ofArrO (hts _ aoText)
  obtain ⟨cy, e0, e1, e2, e3, e4⟩ : ∃ cy : Nat → ClassId, cy 0 = yI ∧ cy 1 = yJ ∧ cy 2 = yZ ∧ cy 3 = yS ∧ cy 4 = yT := ⟨fun k => if k = 0 then yI else if k = 1 then yJ else if k = 2 then yZ else if k = 3 then yS else yT, rfl, rfl, rfl, rfl, rfl⟩
  rw [← e0] at kI
  rw [← e1] at kJ
  rw [← e2] at kZ
  rw [← e3] at kS
  rw [← e4] at kT
  have hKC : va_K (dC, dI) vwCl (tysC cy) s := ⟨hKc, by
    intro k q hq
    match k, hq with
    | 0, hq => cases hq; exact kI
    | 1, hq => cases hq; exact kJ
    | 2, hq => cases hq; exact kS
    | 3, hq => cases hq; exact kT
    | k + 4, hq => simp [tysC] at hq⟩
  have hKM : va_K (dC, dI) vwCl (tysM cy) s := ⟨hKc, by
    intro k q hq
    match k, hq with
    | 0, hq => cases hq; exact kI
    | 1, hq => cases hq; exact kZ
    | k + 2, hq => simp [tysM] at hq⟩
  have hP : va_P (dC, dI) vwCl [] s.heap := fun k q h => by simp at h
  have hD : va_D (fun q : Nat => s.heap.size ≤ q) [] := ⟨fun i j p q h => by simp at h, fun k q h => by simp at h⟩
  have hI : In ((dC, dI), tysC cy, SF z) (([] : va_W) ++ []) (fun q : Nat => s.heap.size ≤ q) s s.heap [] := ⟨hP, hD, va_S.rf, hKC, hA, hSF⟩
  have hl := lv_entry ([.ref b]) (n := 4) (Nat.le_of_ble_eq_true rfl)
  rw [lg_entry_eq]
  generalize (lg_sl ([.ref b]) ++ List.replicate (4 - (lg_sl ([.ref b])).length) Slot.unset).toArray = ls at hl ⊢
  have hl : lv_has ls 4 [(0, .ref b)] := hl
  refine rNewO (ci := 5) (ty := tyX5) (fs := [.null, .null, .null, .int 0, .null, .null, .null]) (pc := 0) E hI rfl inX5 tyX5_ok cl_RL_7 is_RX5 in_RX5 zer5 (Nat.le_of_ble_eq_true rfl) (Nat.le_of_ble_eq_true rfl) dL_law_0 (fun q0 H hI => ?_)
  refine lv_dup (pc := 3) hx hb dL_law_3 rfl ?_
  have hI : In ((dC, dI), tysC cy, SF z) (([] : va_W) ++ [(q0, .inr (5, [.null, .null, .null, .int 0, .null, .null, .null]))]) (fun q : Nat => s.heap.size ≤ q) s H [] := hI
  refine callK (pc := 4) stabSF E ⟨Nat.le_of_ble_eq_true rfl, Nat.le_of_ble_eq_true rfl⟩ hl hI (tX5_init hinit) mi_RL_9 (fitL (by decide)) (Nat.le_of_ble_eq_true rfl) dL_law_4 (fun ad X H locs hf hI => ?_)
  obtain ⟨ha, hf⟩ := hf
  rw [← ha]
  refine lv_astore_n (lv' := [(1, .ref (ad 0 99)), (0, .ref b)]) (pc := 7) hx hb dL_law_7 rfl hl (by decide) rfl (fun ls hl => ?_)
  have hI : In ((dC, dI), tysM cy, SF z) (LC ad cy [] X ++ []) (fun q : Nat => s.heap.size ≤ q) s H locs := by
    rw [List.append_nil]
    exact ⟨hI.1, hI.2.1, hI.2.2.1, hKM, hI.2.2.2.2⟩
  refine rNewO (ci := 6) (ty := tyX6) (fs := [.int 0, .null, .null, .int 0, .int 0, .null, .int 0, .int 0, .long 0, .null, .null, .null, .int 0, .int 0, .int 0, .int 0, .int 0, .int 0, .int 0, .int 0, .int 0, .int 0, .int 0, .int 0, .int 0, .long 0, .int 0, .int 0, .int 0, .null, .long 0, .null, .null, .null, .null, .int 0, .int 0, .int 0, .long 0, .null, .null, .null, .null]) (pc := 8) E hI rfl inX6 tyX6_ok cl_RL_10 is_RX6 in_RX6 zer6 (Nat.le_of_ble_eq_true rfl) (Nat.le_of_ble_eq_true rfl) dL_law_8 (fun q1 H hI => ?_)
  refine lv_dup (pc := 11) hx hb dL_law_11 rfl ?_
  have hI : In ((dC, dI), tysM cy, SF z) (LC ad cy [] X ++ [(q1, .inr (6, [.int 0, .null, .null, .int 0, .int 0, .null, .int 0, .int 0, .long 0, .null, .null, .null, .int 0, .int 0, .int 0, .int 0, .int 0, .int 0, .int 0, .int 0, .int 0, .int 0, .int 0, .int 0, .int 0, .long 0, .int 0, .int 0, .int 0, .null, .long 0, .null, .null, .null, .null, .int 0, .int 0, .int 0, .long 0, .null, .null, .null, .null]))]) (fun q : Nat => s.heap.size ≤ q) s H locs := hI
  refine callK (pc := 12) stabSF E ⟨Nat.le_of_ble_eq_true rfl, Nat.le_of_ble_eq_true rfl⟩ hl hI (tX6_init stabSF hf) mi_RL_12 (fitL (by decide)) (Nat.le_of_ble_eq_true rfl) dL_law_12 (fun ad2 S H locs hf hI => ?_)
  obtain ⟨ha2, hf⟩ := hf
  rw [← ha2]
  have hI := lcm2 hI hKC
  refine lv_astore_n (lv' := [(2, .ref (ad2 16 99)), (1, .ref (ad 0 99)), (0, .ref b)]) (pc := 15) hx hb dL_law_15 rfl hl (by decide) rfl (fun ls hl => ?_)
  refine lv_iconst (v := 0) (pc := 16) hx hb dL_law_16 rfl ?_
  refine lv_istore_n (lv' := [(3, .int 0), (2, .ref (ad2 16 99)), (1, .ref (ad 0 99)), (0, .ref b)]) (pc := 17) hx hb dL_law_17 rfl hl (by decide) rfl (fun ls hl => ?_)
  refine law_loop (A := fun q : Nat => s.heap.size ≤ q) hSim hL E hX hbl hbA hKM hKC ⟨Nat.le_of_ble_eq_true rfl, Nat.le_of_ble_eq_true rfl⟩ ?_ (L + 1) 0 (by omega) (Nat.zero_le L) hf hI (lv_sub hl [3, 2, 1, 0] rfl)
  intro H locs ls X S hI
  refine lv_iconst (v := 1) (pc := 1054) hx hb dL_law_1054 rfl ?_
  refine va_forget (fun q hq => hI.2.2.1.2.2 q hq) ?_
  refine W.widen (k := 600000) (n := 7302250) (Nat.le_of_ble_eq_true rfl) (Nat.le_of_ble_eq_true rfl) ?_
  exact lw_ret hx hb hr hlocks dL_law_1055
