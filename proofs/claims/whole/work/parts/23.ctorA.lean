theorem zer0 : ∀ j, j < 6 → defaultValue (tyX0 j) = vp_V [.null, .int 0, .int 0, .int 0, .int 0, .int 0] j := by decide +kernel
theorem zer1 : ∀ j, j < 3 → defaultValue (tyX1 j) = vp_V [.null, .int 0, .null] j := by decide +kernel
theorem zer2 : ∀ j, j < 3 → defaultValue (tyX2 j) = vp_V [.null, .int 0, .int 0] j := by decide +kernel
theorem zer3 : ∀ j, j < 3 → defaultValue (tyX3 j) = vp_V [.null, .null, .int 0] j := by decide +kernel
theorem zer4 : ∀ j, j < 11 → defaultValue (tyX4 j) = vp_V [.null, .long 0, .int 0, .int 0, .null, .int 0, .null, .null, .null, .null, .null] j := by decide +kernel
theorem zer5 : ∀ j, j < 7 → defaultValue (tyX5 j) = vp_V [.null, .null, .null, .int 0, .null, .null, .null] j := by decide +kernel
theorem zer6 : ∀ j, j < 43 → defaultValue (tyX6 j) = vp_V [.int 0, .null, .null, .int 0, .int 0, .null, .int 0, .int 0, .long 0, .null, .null, .null, .int 0, .int 0, .int 0, .int 0, .int 0, .int 0, .int 0, .int 0, .int 0, .int 0, .int 0, .int 0, .int 0, .long 0, .int 0, .int 0, .int 0, .null, .long 0, .null, .null, .null, .null, .int 0, .int 0, .int 0, .long 0, .null, .null, .null, .null] j := by decide +kernel
def w0T : OT := (fun _ => 0, fun _ => 0, fun _ _ => 0, fun _ _ => 0)
def w0S : OT := (va_up (fun _ => 0) 2 (-1), fun _ => 0, fun _ _ => 0, fun _ _ => 0)
set_option maxRecDepth 100000 in
set_option maxHeartbeats 4000000 in
theorem tX3_init {l : Launch} {D : va_G} {z : Nat → Nat} {cy : Nat → ClassId} {X : va_W} {h0 : Nat} : CtK l yX3_init cX3_init 1 1 2 163 (D, tysC cy, SF z) (X ++ [(h0, .inr (3, [.null, .null, .int 0]))]) h0 (fun ad σ => X ++ cX3 ad cy 1 (σ 1)) (fun ad σ => ad 1 99 = h0 ∧ σ 1 = w0T) := by
  refine mkK (by decide) (by decide) rfl (fun p e s m args below meth c A E hr hlk hnm9 hI ls hl => ?_)
  have hx := E.1
  have hb := E.2.1
  refine lv_aload_n (pc := 0) hx hb dX3_init_0 rfl (lv_at hl 0 rfl) ?_
  refine rObj (pc := 1) E hl oi_RX3_3 (fitK (by decide)) (Nat.le_of_ble_eq_true rfl) dX3_init_1 ?_
  refine lv_aload_n (pc := 4) hx hb dX3_init_4 rfl (lv_at hl 0 rfl) ?_
  refine lv_sipush (v := 160) (pc := 5) hx hb dX3_init_5 rfl ?_
  refine rNewI (t0 := 0) (N := 160) (pc := 8) E hI rfl ac_int (by decide) (by decide) (by decide) (Nat.le_of_ble_eq_true rfl) (Nat.le_of_ble_eq_true rfl) dX3_init_8 (fun q1 H hI => ?_)
  have hI : In (D, tysC cy, SF z) (X ++ [(h0, .inr (3, [.null, .null, .int 0])), (q1, .inl (cy 0, 160, .inl (fun _ => 0)))]) A s H [] := hI
  refine rPutF (k := 0) (f := 0) (ty := (tyX3 0)) (pc := 10) E hI rfl rfl inX3 tyX3 tyX3_ok nmX3 (by decide) lkX3_9 rfl hnm9 rfl (by decide +kernel) rfl rfl (Nat.le_of_ble_eq_true rfl) dX3_init_10 (fun H locs hI => ?_)
  have hI : In (D, tysC cy, SF z) (X ++ [(h0, .inr (3, [.ref q1, .null, .int 0])), (q1, .inl (cy 0, 160, .inl (fun _ => 0)))]) A s H locs := hI
  refine lv_aload_n (pc := 13) hx hb dX3_init_13 rfl (lv_at hl 0 rfl) ?_
  refine lv_iconst (v := 3) (pc := 14) hx hb dX3_init_14 rfl ?_
  refine rNewI (t0 := 0) (N := 3) (pc := 15) E hI rfl ac_int (by decide) (by decide) (by decide) (Nat.le_of_ble_eq_true rfl) (Nat.le_of_ble_eq_true rfl) dX3_init_15 (fun q2 H hI => ?_)
  have hI : In (D, tysC cy, SF z) (X ++ [(h0, .inr (3, [.ref q1, .null, .int 0])), (q1, .inl (cy 0, 160, .inl (fun _ => 0))), (q2, .inl (cy 0, 3, .inl (fun _ => 0)))]) A s H locs := hI
  refine rPutF (k := 0) (f := 1) (ty := (tyX3 1)) (pc := 17) E hI rfl rfl inX3 tyX3 tyX3_ok nmX3 (by decide) lkX3_15 rfl hnm9 rfl (by decide +kernel) rfl rfl (Nat.le_of_ble_eq_true rfl) dX3_init_17 (fun H locs hI => ?_)
  have hI : In (D, tysC cy, SF z) (X ++ [(h0, .inr (3, [.ref q1, .ref q2, .int 0])), (q1, .inl (cy 0, 160, .inl (fun _ => 0))), (q2, .inl (cy 0, 3, .inl (fun _ => 0)))]) A s H locs := hI
  refine lv_aload_n (pc := 20) hx hb dX3_init_20 rfl (lv_at hl 0 rfl) ?_
  refine lv_iconst (v := 0) (pc := 21) hx hb dX3_init_21 rfl ?_
  refine rPutC (k := 0) (f := 2) (ty := .int) (pc := 22) E hI rfl rfl inX3 tyX3 tyX3_ok nmX3 (by decide) lkX3_18 rfl (by decide +kernel) rfl rfl (Nat.le_of_ble_eq_true rfl) dX3_init_22 (fun H locs hI => ?_)
  have hI : In (D, tysC cy, SF z) (X ++ [(h0, .inr (3, [.ref q1, .ref q2, .int 0])), (q1, .inl (cy 0, 160, .inl (fun _ => 0))), (q2, .inl (cy 0, 3, .inl (fun _ => 0)))]) A s H locs := hI
  exact rK (fun _ f => if f = 99 then h0 else if f = 0 then q1 else if f = 1 then q2 else 0) (fun _ => w0T) E hr hlk (L2 := (fun ad σ => X ++ cX3 ad cy 1 (σ 1))) hI ⟨rfl, rfl⟩ dX3_init_25

set_option maxRecDepth 100000 in
set_option maxHeartbeats 4000000 in
theorem tX2_init {l : Launch} {D : va_G} {z : Nat → Nat} {cy : Nat → ClassId} {X : va_W} {h0 : Nat} : CtK l yX2_init cX2_init 1 1 1 40 (D, tysC cy, SF z) (X ++ [(h0, .inr (2, [.null, .int 0, .int 0]))]) h0 (fun ad σ => X ++ cX2 ad cy 1 (σ 1)) (fun ad σ => ad 1 99 = h0 ∧ σ 1 = w0S) := by
  refine mkK (by decide) (by decide) rfl (fun p e s m args below meth c A E hr hlk hnm9 hI ls hl => ?_)
  have hx := E.1
  have hb := E.2.1
  refine lv_aload_n (pc := 0) hx hb dX2_init_0 rfl (lv_at hl 0 rfl) ?_
  refine rObj (pc := 1) E hl oi_RX2_3 (fitK (by decide)) (Nat.le_of_ble_eq_true rfl) dX2_init_1 ?_
  refine lv_aload_n (pc := 4) hx hb dX2_init_4 rfl (lv_at hl 0 rfl) ?_
  refine lv_bipush (v := 40) (pc := 5) hx hb dX2_init_5 rfl ?_
  refine rNewI (t0 := 0) (N := 40) (pc := 7) E hI rfl ac_int (by decide) (by decide) (by decide) (Nat.le_of_ble_eq_true rfl) (Nat.le_of_ble_eq_true rfl) dX2_init_7 (fun q1 H hI => ?_)
  have hI : In (D, tysC cy, SF z) (X ++ [(h0, .inr (2, [.null, .int 0, .int 0])), (q1, .inl (cy 0, 40, .inl (fun _ => 0)))]) A s H [] := hI
  refine rPutF (k := 0) (f := 0) (ty := (tyX2 0)) (pc := 9) E hI rfl rfl inX2 tyX2 tyX2_ok nmX2 (by decide) lkX2_9 rfl hnm9 rfl (by decide +kernel) rfl rfl (Nat.le_of_ble_eq_true rfl) dX2_init_9 (fun H locs hI => ?_)
  have hI : In (D, tysC cy, SF z) (X ++ [(h0, .inr (2, [.ref q1, .int 0, .int 0])), (q1, .inl (cy 0, 40, .inl (fun _ => 0)))]) A s H locs := hI
  refine lv_aload_n (pc := 12) hx hb dX2_init_12 rfl (lv_at hl 0 rfl) ?_
  refine lv_iconst (v := 0) (pc := 13) hx hb dX2_init_13 rfl ?_
  refine rPutC (k := 0) (f := 1) (ty := .int) (pc := 14) E hI rfl rfl inX2 tyX2 tyX2_ok nmX2 (by decide) lkX2_15 rfl (by decide +kernel) rfl rfl (Nat.le_of_ble_eq_true rfl) dX2_init_14 (fun H locs hI => ?_)
  have hI : In (D, tysC cy, SF z) (X ++ [(h0, .inr (2, [.ref q1, .int 0, .int 0])), (q1, .inl (cy 0, 40, .inl (fun _ => 0)))]) A s H locs := hI
  refine lv_aload_n (pc := 17) hx hb dX2_init_17 rfl (lv_at hl 0 rfl) ?_
  refine lv_iconst (v := (-1)) (pc := 18) hx hb dX2_init_18 rfl ?_
  refine rPutC (k := 0) (f := 2) (ty := .int) (pc := 19) E hI rfl rfl inX2 tyX2 tyX2_ok nmX2 (by decide) lkX2_19 rfl (by decide +kernel) rfl rfl (Nat.le_of_ble_eq_true rfl) dX2_init_19 (fun H locs hI => ?_)
  have hI : In (D, tysC cy, SF z) (X ++ [(h0, .inr (2, [.ref q1, .int 0, .int (-1)])), (q1, .inl (cy 0, 40, .inl (fun _ => 0)))]) A s H locs := hI
  exact rK (fun _ f => if f = 99 then h0 else if f = 0 then q1 else 0) (fun _ => w0S) E hr hlk (L2 := (fun ad σ => X ++ cX2 ad cy 1 (σ 1))) hI ⟨rfl, rfl⟩ dX2_init_22

set_option maxRecDepth 100000 in
set_option maxHeartbeats 4000000 in
theorem tX0_init {l : Launch} {D : va_G} {z : Nat → Nat} {cy : Nat → ClassId} {X : va_W} {h0 : Nat} : CtK l yX0_init cX0_init 1 1 1 160 (D, tysC cy, SF z) (X ++ [(h0, .inr (0, [.null, .int 0, .int 0, .int 0, .int 0, .int 0]))]) h0 (fun ad σ => X ++ cX0 ad cy 1 (σ 1)) (fun ad σ => ad 1 99 = h0 ∧ σ 1 = w0T) := by
  refine mkK (by decide) (by decide) rfl (fun p e s m args below meth c A E hr hlk hnm9 hI ls hl => ?_)
  have hx := E.1
  have hb := E.2.1
  refine lv_aload_n (pc := 0) hx hb dX0_init_0 rfl (lv_at hl 0 rfl) ?_
  refine rObj (pc := 1) E hl oi_RX0_5 (fitK (by decide)) (Nat.le_of_ble_eq_true rfl) dX0_init_1 ?_
  refine lv_aload_n (pc := 4) hx hb dX0_init_4 rfl (lv_at hl 0 rfl) ?_
  refine lv_sipush (v := 160) (pc := 5) hx hb dX0_init_5 rfl ?_
  refine rNewI (t0 := 0) (N := 160) (pc := 8) E hI rfl ac_int (by decide) (by decide) (by decide) (Nat.le_of_ble_eq_true rfl) (Nat.le_of_ble_eq_true rfl) dX0_init_8 (fun q1 H hI => ?_)
  have hI : In (D, tysC cy, SF z) (X ++ [(h0, .inr (0, [.null, .int 0, .int 0, .int 0, .int 0, .int 0])), (q1, .inl (cy 0, 160, .inl (fun _ => 0)))]) A s H [] := hI
  refine rPutF (k := 0) (f := 0) (ty := (tyX0 0)) (pc := 10) E hI rfl rfl inX0 tyX0 tyX0_ok nmX0 (by decide) lkX0_11 rfl hnm9 rfl (by decide +kernel) rfl rfl (Nat.le_of_ble_eq_true rfl) dX0_init_10 (fun H locs hI => ?_)
  have hI : In (D, tysC cy, SF z) (X ++ [(h0, .inr (0, [.ref q1, .int 0, .int 0, .int 0, .int 0, .int 0])), (q1, .inl (cy 0, 160, .inl (fun _ => 0)))]) A s H locs := hI
  refine lv_aload_n (pc := 13) hx hb dX0_init_13 rfl (lv_at hl 0 rfl) ?_
  refine lv_iconst (v := 0) (pc := 14) hx hb dX0_init_14 rfl ?_
  refine rPutC (k := 0) (f := 1) (ty := .int) (pc := 15) E hI rfl rfl inX0 tyX0 tyX0_ok nmX0 (by decide) lkX0_15 rfl (by decide +kernel) rfl rfl (Nat.le_of_ble_eq_true rfl) dX0_init_15 (fun H locs hI => ?_)
  have hI : In (D, tysC cy, SF z) (X ++ [(h0, .inr (0, [.ref q1, .int 0, .int 0, .int 0, .int 0, .int 0])), (q1, .inl (cy 0, 160, .inl (fun _ => 0)))]) A s H locs := hI
  refine lv_aload_n (pc := 18) hx hb dX0_init_18 rfl (lv_at hl 0 rfl) ?_
  refine lv_iconst (v := 0) (pc := 19) hx hb dX0_init_19 rfl ?_
  refine rPutC (k := 0) (f := 2) (ty := .int) (pc := 20) E hI rfl rfl inX0 tyX0 tyX0_ok nmX0 (by decide) lkX0_19 rfl (by decide +kernel) rfl rfl (Nat.le_of_ble_eq_true rfl) dX0_init_20 (fun H locs hI => ?_)
  have hI : In (D, tysC cy, SF z) (X ++ [(h0, .inr (0, [.ref q1, .int 0, .int 0, .int 0, .int 0, .int 0])), (q1, .inl (cy 0, 160, .inl (fun _ => 0)))]) A s H locs := hI
  refine lv_aload_n (pc := 23) hx hb dX0_init_23 rfl (lv_at hl 0 rfl) ?_
  refine lv_iconst (v := 0) (pc := 24) hx hb dX0_init_24 rfl ?_
  refine rPutC (k := 0) (f := 3) (ty := .int) (pc := 25) E hI rfl rfl inX0 tyX0 tyX0_ok nmX0 (by decide) lkX0_22 rfl (by decide +kernel) rfl rfl (Nat.le_of_ble_eq_true rfl) dX0_init_25 (fun H locs hI => ?_)
  have hI : In (D, tysC cy, SF z) (X ++ [(h0, .inr (0, [.ref q1, .int 0, .int 0, .int 0, .int 0, .int 0])), (q1, .inl (cy 0, 160, .inl (fun _ => 0)))]) A s H locs := hI
  refine lv_aload_n (pc := 28) hx hb dX0_init_28 rfl (lv_at hl 0 rfl) ?_
  refine lv_iconst (v := 0) (pc := 29) hx hb dX0_init_29 rfl ?_
  refine rPutC (k := 0) (f := 4) (ty := .int) (pc := 30) E hI rfl rfl inX0 tyX0 tyX0_ok nmX0 (by decide) lkX0_25 rfl (by decide +kernel) rfl rfl (Nat.le_of_ble_eq_true rfl) dX0_init_30 (fun H locs hI => ?_)
  have hI : In (D, tysC cy, SF z) (X ++ [(h0, .inr (0, [.ref q1, .int 0, .int 0, .int 0, .int 0, .int 0])), (q1, .inl (cy 0, 160, .inl (fun _ => 0)))]) A s H locs := hI
  refine lv_aload_n (pc := 33) hx hb dX0_init_33 rfl (lv_at hl 0 rfl) ?_
  refine lv_iconst (v := 0) (pc := 34) hx hb dX0_init_34 rfl ?_
  refine rPutC (k := 0) (f := 5) (ty := .int) (pc := 35) E hI rfl rfl inX0 tyX0 tyX0_ok nmX0 (by decide) lkX0_28 rfl (by decide +kernel) rfl rfl (Nat.le_of_ble_eq_true rfl) dX0_init_35 (fun H locs hI => ?_)
  have hI : In (D, tysC cy, SF z) (X ++ [(h0, .inr (0, [.ref q1, .int 0, .int 0, .int 0, .int 0, .int 0])), (q1, .inl (cy 0, 160, .inl (fun _ => 0)))]) A s H locs := hI
  exact rK (fun _ f => if f = 99 then h0 else if f = 0 then q1 else 0) (fun _ => w0T) E hr hlk (L2 := (fun ad σ => X ++ cX0 ad cy 1 (σ 1))) hI ⟨rfl, rfl⟩ dX0_init_38

