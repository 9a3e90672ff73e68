theorem arrV_ext {cI : ClassId} {N : Nat} {f g : Nat → Value} (h : ∀ j, j < N → f j = g j) : arrV cI N f = arrV cI N g := by
  have e : (fun j : Fin N => f j.val) = (fun j : Fin N => g j.val) := funext (fun j => h j.val j.isLt)
  unfold arrV
  rw [e]
theorem swR {G : GG} {X ll : va_W} {A : Nat → Prop} {s : State} {H : Heap} {locs : List Loc} {k a N : Nat} {cA : ClassId} {f g : Nat → Option Nat} (hI : In G (X ++ ll) A s H locs) (he : ll[k]? = some (a, .inl (cA, N, .inr (.inr (.inr (.inr f)))))) (h : ∀ j, j < N → f j = g j) : In G (X ++ ll.set k (a, .inl (cA, N, .inr (.inr (.inr (.inr g)))))) A s H locs := by
  have hp := atX (X := X) he
  have h0 : H[a]? = some (vp_cell cA (N, .inr (.inr (.inr (.inr f))))) := hI.1 _ _ hp
  have e9 : vp_cell cA (N, .inr (.inr (.inr (.inr f)))) = vp_cell cA (N, .inr (.inr (.inr (.inr g)))) := by
    show arrV cA N (fun j => va_rf (f j)) = arrV cA N (fun j => va_rf (g j))
    exact arrV_ext (fun j hj => by rw [h j hj])
  rw [e9] at h0
  exact ⟨setX ▸ hI.1.set hI.2.1 hp (e := .inl (cA, N, .inr (.inr (.inr (.inr g))))) h0 (fun _ _ => rfl), setX ▸ hI.2.1.set hp, hI.2.2⟩
theorem swX {G : GG} {X ll : va_W} {A : Nat → Prop} {s : State} {H : Heap} {locs : List Loc} (hI : In G (X ++ ll) A s H locs) : In G (ll ++ X) A s H locs := ⟨va_P.swap (a := []) hI.1, va_D.swap (a := []) hI.2.1, hI.2.2⟩
theorem subIn {G : GG} {ws ws' : va_W} {A : Nat → Prop} {s : State} {H : Heap} {locs : List Loc} (hI : In G ws A s H locs) (is : List Nat) (hn : va_nd is = true) (h1 : is.filterMap (fun i => ws[i]?) = ws') (h2 : is.map (fun i => ws[i]?) = ws'.map some) : In G ws' A s H locs := ⟨hI.1.sub is h1, hI.2.1.sub is hn h2, hI.2.2⟩
set_option maxRecDepth 100000 in
set_option maxHeartbeats 4000000 in
theorem tX1_init {l : Launch} {D : va_G} {z : Nat → Nat} {cy : Nat → ClassId} {X : va_W} {h0 : Nat} : CtK l yX1_init cX1_init 2 3 20 1162 (D, tysC cy, SF z) (X ++ [(h0, .inr (1, [.null, .int 0, .null]))]) h0 (fun ad σ => X ++ (cX1 ad cy 4 (σ 4) ++ (cX3 ad cy 6 (σ 6) ++ (cX3 ad cy 7 (σ 7) ++ (cX3 ad cy 8 (σ 8) ++ (cX3 ad cy 9 (σ 9) ++ (cX3 ad cy 10 (σ 10) ++ (cX3 ad cy 11 (σ 11))))))))) (fun ad σ => ad 4 99 = h0 ∧ σ = fun _ => w0T) := by
  refine mkK (by decide) (by decide) rfl (fun p e s m args below meth c A E hr hlk hnm9 hI ls hl => ?_)
  have hx := E.1
  have hb := E.2.1
  refine lv_aload_n (pc := 0) hx hb dX1_init_0 rfl (lv_at hl 0 rfl) ?_
  refine rObj (pc := 1) E hl oi_RX1_3 (fitK (by decide)) (Nat.le_of_ble_eq_true rfl) dX1_init_1 ?_
  refine lv_aload_n (pc := 4) hx hb dX1_init_4 rfl (lv_at hl 0 rfl) ?_
  refine lv_bipush (v := 6) (pc := 5) hx hb dX1_init_5 rfl ?_
  refine rNewR (t0 := 3) (N := 6) (pc := 7) E hI rfl cl_RX1_9 hI.2.2.2.2.2.1.2.2.2.2.2 (by decide) (by decide) (by decide) (Nat.le_of_ble_eq_true rfl) (Nat.le_of_ble_eq_true rfl) dX1_init_7 (fun q1 H hI => ?_)
  have hI : In (D, tysC cy, SF z) (X ++ [(h0, .inr (1, [.null, .int 0, .null])), (q1, .inl (cy 4, 6, .inr (.inr (.inr (.inr (fun _ => none))))))]) A s H [] := hI
  refine rPutF (k := 0) (f := 0) (ty := (tyX1 0)) (pc := 10) E hI rfl rfl inX1 tyX1 tyX1_ok nmX1 (by decide) lkX1_11 rfl hnm9 rfl (by decide +kernel) rfl rfl (Nat.le_of_ble_eq_true rfl) dX1_init_10 (fun H locs hI => ?_)
  have hI : In (D, tysC cy, SF z) (X ++ [(h0, .inr (1, [.ref q1, .int 0, .null])), (q1, .inl (cy 4, 6, .inr (.inr (.inr (.inr (fun _ => none))))))]) A s H locs := hI
  refine lv_aload_n (pc := 13) hx hb dX1_init_13 rfl (lv_at hl 0 rfl) ?_
  refine lv_iconst (v := 0) (pc := 14) hx hb dX1_init_14 rfl ?_
  refine rPutC (k := 0) (f := 1) (ty := .int) (pc := 15) E hI rfl rfl inX1 tyX1 tyX1_ok nmX1 (by decide) lkX1_17 rfl (by decide +kernel) rfl rfl (Nat.le_of_ble_eq_true rfl) dX1_init_15 (fun H locs hI => ?_)
  have hI : In (D, tysC cy, SF z) (X ++ [(h0, .inr (1, [.ref q1, .int 0, .null])), (q1, .inl (cy 4, 6, .inr (.inr (.inr (.inr (fun _ => none))))))]) A s H locs := hI
  refine lv_aload_n (pc := 18) hx hb dX1_init_18 rfl (lv_at hl 0 rfl) ?_
  refine lv_sipush (v := 160) (pc := 19) hx hb dX1_init_19 rfl ?_
  refine rNewI (t0 := 0) (N := 160) (pc := 22) E hI rfl ac_int (by decide) (by decide) (by decide) (Nat.le_of_ble_eq_true rfl) (Nat.le_of_ble_eq_true rfl) dX1_init_22 (fun q2 H hI => ?_)
  have hI : In (D, tysC cy, SF z) (X ++ [(h0, .inr (1, [.ref q1, .int 0, .null])), (q1, .inl (cy 4, 6, .inr (.inr (.inr (.inr (fun _ => none)))))), (q2, .inl (cy 0, 160, .inl (fun _ => 0)))]) A s H locs := hI
  refine rPutF (k := 0) (f := 2) (ty := (tyX1 2)) (pc := 24) E hI rfl rfl inX1 tyX1 tyX1_ok nmX1 (by decide) lkX1_21 rfl hnm9 rfl (by decide +kernel) rfl rfl (Nat.le_of_ble_eq_true rfl) dX1_init_24 (fun H locs hI => ?_)
  have hI : In (D, tysC cy, SF z) (X ++ [(h0, .inr (1, [.ref q1, .int 0, .ref q2])), (q1, .inl (cy 4, 6, .inr (.inr (.inr (.inr (fun _ => none)))))), (q2, .inl (cy 0, 160, .inl (fun _ => 0)))]) A s H locs := hI
  refine lv_iconst (v := 0) (pc := 27) hx hb dX1_init_27 rfl ?_
  refine lv_istore_n (lv' := [(1, .int 0), (0, .ref h0)]) (pc := 28) hx hb dX1_init_28 rfl hl (by decide) rfl (fun ls hl => ?_)
  refine lv_iload_n (pc := 29) hx hb dX1_init_29 rfl (lv_at hl 0 rfl) ?_
  refine lv_bipush (v := 6) (pc := 30) hx hb dX1_init_30 rfl ?_
  refine lv_icmp_ge (tgt := 54) (pc := 32) hx hb dX1_init_32 (by decide) (fun c9 => absurd c9 (by decide)) (fun _ => ?_)
  refine lv_aload_n (pc := 35) hx hb dX1_init_35 rfl (lv_at hl 1 rfl) ?_
  refine rGetC (k := 0) (f := 0) (pc := 36) E hI rfl rfl inX1 (by decide) lkX1_11 rfl dX1_init_36 ?_
  refine lv_iload_n (pc := 39) hx hb dX1_init_39 rfl (lv_at hl 0 rfl) ?_
  refine rNewO (ci := 3) (ty := tyX3) (fs := [.null, .null, .int 0]) (pc := 40) E hI rfl inX3 tyX3_ok cl_RX1_9 is_RX3 in_RX3 zer3 (Nat.le_of_ble_eq_true rfl) (Nat.le_of_ble_eq_true rfl) dX1_init_40 (fun q3 H hI => ?_)
  have hI : In (D, tysC cy, SF z) (X ++ [(h0, .inr (1, [.ref q1, .int 0, .ref q2])), (q1, .inl (cy 4, 6, .inr (.inr (.inr (.inr (fun _ => none)))))), (q2, .inl (cy 0, 160, .inl (fun _ => 0))), (q3, .inr (3, [.null, .null, .int 0]))]) A s H locs := hI
  refine lv_dup (pc := 43) hx hb dX1_init_43 rfl ?_
  have hI : In (D, tysC cy, SF z) ((X ++ [(h0, .inr (1, [.ref q1, .int 0, .ref q2])), (q1, .inl (cy 4, 6, .inr (.inr (.inr (.inr (fun _ => none)))))), (q2, .inl (cy 0, 160, .inl (fun _ => 0)))]) ++ [(q3, .inr (3, [.null, .null, .int 0]))]) A s H locs := by rw [List.append_assoc]; exact hI
  refine callKN (pc := 44) stabSF E ⟨Nat.le_of_ble_eq_true rfl, Nat.le_of_ble_eq_true rfl⟩ hl hI (tX3_init (h0 := q3)) mn_X3 hI.2.2.2.2.2.1.2.1 (fitK (by decide)) (Nat.le_of_ble_eq_true rfl) dX1_init_44 (fun ad0 σ0 H locs hp0 hI => ?_)
  obtain ⟨ha0, hp0⟩ := hp0
  have hI : In (D, tysC cy, SF z) (X ++ ([(h0, .inr (1, [.ref q1, .int 0, .ref q2])), (q1, .inl (cy 4, 6, .inr (.inr (.inr (.inr (fun _ => none)))))), (q2, .inl (cy 0, 160, .inl (fun _ => 0)))] ++ cX3 ad0 cy 1 (σ0 1))) A s H locs := by rw [← List.append_assoc]; exact hI
  rw [hp0] at hI
  rw [← ha0]
  have hI : In (D, tysC cy, SF z) (X ++ [(h0, .inr (1, [.ref q1, .int 0, .ref q2])), (q1, .inl (cy 4, 6, .inr (.inr (.inr (.inr (fun _ => none)))))), (q2, .inl (cy 0, 160, .inl (fun _ => 0))), (ad0 1 99, .inr (3, [.ref (ad0 1 0), .ref (ad0 1 1), .int 0])), (ad0 1 0, .inl (cy 0, 160, .inl (fun _ => 0))), (ad0 1 1, .inl (cy 0, 3, .inl (fun _ => 0)))]) A s H locs := hI
  refine rAstC (k1 := 1) (k2 := 3) (t0 := 3) (ci := 3) (r := (RX3, TX3, 3)) (pc := 47) E hI rfl rfl rfl rfl (by unfold vp_in; decide) dX1_init_47 (fun H locs hI => ?_)
  have hI : In (D, tysC cy, SF z) (X ++ [(h0, .inr (1, [.ref q1, .int 0, .ref q2])), (q1, .inl (cy 4, 6, .inr (.inr (.inr (.inr (va_up (fun _ => none) (0 : Int32).toNatClampNeg (some (ad0 1 99)))))))), (q2, .inl (cy 0, 160, .inl (fun _ => 0))), (ad0 1 99, .inr (3, [.ref (ad0 1 0), .ref (ad0 1 1), .int 0])), (ad0 1 0, .inl (cy 0, 160, .inl (fun _ => 0))), (ad0 1 1, .inl (cy 0, 3, .inl (fun _ => 0)))]) A s H locs := hI
  refine lv_iinc (v := 1) (lv' := [(1, .int 1), (0, .ref h0)]) (pc := 48) hx hb dX1_init_48 hl (k := 0) rfl (by decide) (by decide) rfl (fun ls hl => ?_)
  refine lv_goto (tgt := 29) (pc := 51) hx hb dX1_init_51 (by decide) ?_
  refine lv_iload_n (pc := 29) hx hb dX1_init_29 rfl (lv_at hl 0 rfl) ?_
  refine lv_bipush (v := 6) (pc := 30) hx hb dX1_init_30 rfl ?_
  refine lv_icmp_ge (tgt := 54) (pc := 32) hx hb dX1_init_32 (by decide) (fun c9 => absurd c9 (by decide)) (fun _ => ?_)
  refine lv_aload_n (pc := 35) hx hb dX1_init_35 rfl (lv_at hl 1 rfl) ?_
  refine rGetC (k := 0) (f := 0) (pc := 36) E hI rfl rfl inX1 (by decide) lkX1_11 rfl dX1_init_36 ?_
  refine lv_iload_n (pc := 39) hx hb dX1_init_39 rfl (lv_at hl 0 rfl) ?_
  refine rNewO (ci := 3) (ty := tyX3) (fs := [.null, .null, .int 0]) (pc := 40) E hI rfl inX3 tyX3_ok cl_RX1_9 is_RX3 in_RX3 zer3 (Nat.le_of_ble_eq_true rfl) (Nat.le_of_ble_eq_true rfl) dX1_init_40 (fun q6 H hI => ?_)
  have hI : In (D, tysC cy, SF z) (X ++ [(h0, .inr (1, [.ref q1, .int 0, .ref q2])), (q1, .inl (cy 4, 6, .inr (.inr (.inr (.inr (va_up (fun _ => none) (0 : Int32).toNatClampNeg (some (ad0 1 99)))))))), (q2, .inl (cy 0, 160, .inl (fun _ => 0))), (ad0 1 99, .inr (3, [.ref (ad0 1 0), .ref (ad0 1 1), .int 0])), (ad0 1 0, .inl (cy 0, 160, .inl (fun _ => 0))), (ad0 1 1, .inl (cy 0, 3, .inl (fun _ => 0))), (q6, .inr (3, [.null, .null, .int 0]))]) A s H locs := hI
  refine lv_dup (pc := 43) hx hb dX1_init_43 rfl ?_
  have hI : In (D, tysC cy, SF z) ((X ++ [(h0, .inr (1, [.ref q1, .int 0, .ref q2])), (q1, .inl (cy 4, 6, .inr (.inr (.inr (.inr (va_up (fun _ => none) (0 : Int32).toNatClampNeg (some (ad0 1 99)))))))), (q2, .inl (cy 0, 160, .inl (fun _ => 0))), (ad0 1 99, .inr (3, [.ref (ad0 1 0), .ref (ad0 1 1), .int 0])), (ad0 1 0, .inl (cy 0, 160, .inl (fun _ => 0))), (ad0 1 1, .inl (cy 0, 3, .inl (fun _ => 0)))]) ++ [(q6, .inr (3, [.null, .null, .int 0]))]) A s H locs := by rw [List.append_assoc]; exact hI
  refine callKN (pc := 44) stabSF E ⟨Nat.le_of_ble_eq_true rfl, Nat.le_of_ble_eq_true rfl⟩ hl hI (tX3_init (h0 := q6)) mn_X3 hI.2.2.2.2.2.1.2.1 (fitK (by decide)) (Nat.le_of_ble_eq_true rfl) dX1_init_44 (fun ad1 σ1 H locs hp1 hI => ?_)
  obtain ⟨ha1, hp1⟩ := hp1
  have hI : In (D, tysC cy, SF z) (X ++ ([(h0, .inr (1, [.ref q1, .int 0, .ref q2])), (q1, .inl (cy 4, 6, .inr (.inr (.inr (.inr (va_up (fun _ => none) (0 : Int32).toNatClampNeg (some (ad0 1 99)))))))), (q2, .inl (cy 0, 160, .inl (fun _ => 0))), (ad0 1 99, .inr (3, [.ref (ad0 1 0), .ref (ad0 1 1), .int 0])), (ad0 1 0, .inl (cy 0, 160, .inl (fun _ => 0))), (ad0 1 1, .inl (cy 0, 3, .inl (fun _ => 0)))] ++ cX3 ad1 cy 1 (σ1 1))) A s H locs := by rw [← List.append_assoc]; exact hI
  rw [hp1] at hI
  rw [← ha1]
  have hI : In (D, tysC cy, SF z) (X ++ [(h0, .inr (1, [.ref q1, .int 0, .ref q2])), (q1, .inl (cy 4, 6, .inr (.inr (.inr (.inr (va_up (fun _ => none) (0 : Int32).toNatClampNeg (some (ad0 1 99)))))))), (q2, .inl (cy 0, 160, .inl (fun _ => 0))), (ad0 1 99, .inr (3, [.ref (ad0 1 0), .ref (ad0 1 1), .int 0])), (ad0 1 0, .inl (cy 0, 160, .inl (fun _ => 0))), (ad0 1 1, .inl (cy 0, 3, .inl (fun _ => 0))), (ad1 1 99, .inr (3, [.ref (ad1 1 0), .ref (ad1 1 1), .int 0])), (ad1 1 0, .inl (cy 0, 160, .inl (fun _ => 0))), (ad1 1 1, .inl (cy 0, 3, .inl (fun _ => 0)))]) A s H locs := hI
  refine rAstC (k1 := 1) (k2 := 6) (t0 := 3) (ci := 3) (r := (RX3, TX3, 3)) (pc := 47) E hI rfl rfl rfl rfl (by unfold vp_in; decide) dX1_init_47 (fun H locs hI => ?_)
  have hI : In (D, tysC cy, SF z) (X ++ [(h0, .inr (1, [.ref q1, .int 0, .ref q2])), (q1, .inl (cy 4, 6, .inr (.inr (.inr (.inr (va_up (va_up (fun _ => none) (0 : Int32).toNatClampNeg (some (ad0 1 99))) (1 : Int32).toNatClampNeg (some (ad1 1 99)))))))), (q2, .inl (cy 0, 160, .inl (fun _ => 0))), (ad0 1 99, .inr (3, [.ref (ad0 1 0), .ref (ad0 1 1), .int 0])), (ad0 1 0, .inl (cy 0, 160, .inl (fun _ => 0))), (ad0 1 1, .inl (cy 0, 3, .inl (fun _ => 0))), (ad1 1 99, .inr (3, [.ref (ad1 1 0), .ref (ad1 1 1), .int 0])), (ad1 1 0, .inl (cy 0, 160, .inl (fun _ => 0))), (ad1 1 1, .inl (cy 0, 3, .inl (fun _ => 0)))]) A s H locs := hI
  refine lv_iinc (v := 2) (lv' := [(1, .int 2), (0, .ref h0)]) (pc := 48) hx hb dX1_init_48 hl (k := 0) rfl (by decide) (by decide) rfl (fun ls hl => ?_)
  refine lv_goto (tgt := 29) (pc := 51) hx hb dX1_init_51 (by decide) ?_
  refine lv_iload_n (pc := 29) hx hb dX1_init_29 rfl (lv_at hl 0 rfl) ?_
  refine lv_bipush (v := 6) (pc := 30) hx hb dX1_init_30 rfl ?_
  refine lv_icmp_ge (tgt := 54) (pc := 32) hx hb dX1_init_32 (by decide) (fun c9 => absurd c9 (by decide)) (fun _ => ?_)
  refine lv_aload_n (pc := 35) hx hb dX1_init_35 rfl (lv_at hl 1 rfl) ?_
  refine rGetC (k := 0) (f := 0) (pc := 36) E hI rfl rfl inX1 (by decide) lkX1_11 rfl dX1_init_36 ?_
  refine lv_iload_n (pc := 39) hx hb dX1_init_39 rfl (lv_at hl 0 rfl) ?_
  refine rNewO (ci := 3) (ty := tyX3) (fs := [.null, .null, .int 0]) (pc := 40) E hI rfl inX3 tyX3_ok cl_RX1_9 is_RX3 in_RX3 zer3 (Nat.le_of_ble_eq_true rfl) (Nat.le_of_ble_eq_true rfl) dX1_init_40 (fun q9 H hI => ?_)
  have hI : In (D, tysC cy, SF z) (X ++ [(h0, .inr (1, [.ref q1, .int 0, .ref q2])), (q1, .inl (cy 4, 6, .inr (.inr (.inr (.inr (va_up (va_up (fun _ => none) (0 : Int32).toNatClampNeg (some (ad0 1 99))) (1 : Int32).toNatClampNeg (some (ad1 1 99)))))))), (q2, .inl (cy 0, 160, .inl (fun _ => 0))), (ad0 1 99, .inr (3, [.ref (ad0 1 0), .ref (ad0 1 1), .int 0])), (ad0 1 0, .inl (cy 0, 160, .inl (fun _ => 0))), (ad0 1 1, .inl (cy 0, 3, .inl (fun _ => 0))), (ad1 1 99, .inr (3, [.ref (ad1 1 0), .ref (ad1 1 1), .int 0])), (ad1 1 0, .inl (cy 0, 160, .inl (fun _ => 0))), (ad1 1 1, .inl (cy 0, 3, .inl (fun _ => 0))), (q9, .inr (3, [.null, .null, .int 0]))]) A s H locs := hI
  refine lv_dup (pc := 43) hx hb dX1_init_43 rfl ?_
  have hI : In (D, tysC cy, SF z) ((X ++ [(h0, .inr (1, [.ref q1, .int 0, .ref q2])), (q1, .inl (cy 4, 6, .inr (.inr (.inr (.inr (va_up (va_up (fun _ => none) (0 : Int32).toNatClampNeg (some (ad0 1 99))) (1 : Int32).toNatClampNeg (some (ad1 1 99)))))))), (q2, .inl (cy 0, 160, .inl (fun _ => 0))), (ad0 1 99, .inr (3, [.ref (ad0 1 0), .ref (ad0 1 1), .int 0])), (ad0 1 0, .inl (cy 0, 160, .inl (fun _ => 0))), (ad0 1 1, .inl (cy 0, 3, .inl (fun _ => 0))), (ad1 1 99, .inr (3, [.ref (ad1 1 0), .ref (ad1 1 1), .int 0])), (ad1 1 0, .inl (cy 0, 160, .inl (fun _ => 0))), (ad1 1 1, .inl (cy 0, 3, .inl (fun _ => 0)))]) ++ [(q9, .inr (3, [.null, .null, .int 0]))]) A s H locs := by rw [List.append_assoc]; exact hI
  refine callKN (pc := 44) stabSF E ⟨Nat.le_of_ble_eq_true rfl, Nat.le_of_ble_eq_true rfl⟩ hl hI (tX3_init (h0 := q9)) mn_X3 hI.2.2.2.2.2.1.2.1 (fitK (by decide)) (Nat.le_of_ble_eq_true rfl) dX1_init_44 (fun ad2 σ2 H locs hp2 hI => ?_)
  obtain ⟨ha2, hp2⟩ := hp2
  have hI : In (D, tysC cy, SF z) (X ++ ([(h0, .inr (1, [.ref q1, .int 0, .ref q2])), (q1, .inl (cy 4, 6, .inr (.inr (.inr (.inr (va_up (va_up (fun _ => none) (0 : Int32).toNatClampNeg (some (ad0 1 99))) (1 : Int32).toNatClampNeg (some (ad1 1 99)))))))), (q2, .inl (cy 0, 160, .inl (fun _ => 0))), (ad0 1 99, .inr (3, [.ref (ad0 1 0), .ref (ad0 1 1), .int 0])), (ad0 1 0, .inl (cy 0, 160, .inl (fun _ => 0))), (ad0 1 1, .inl (cy 0, 3, .inl (fun _ => 0))), (ad1 1 99, .inr (3, [.ref (ad1 1 0), .ref (ad1 1 1), .int 0])), (ad1 1 0, .inl (cy 0, 160, .inl (fun _ => 0))), (ad1 1 1, .inl (cy 0, 3, .inl (fun _ => 0)))] ++ cX3 ad2 cy 1 (σ2 1))) A s H locs := by rw [← List.append_assoc]; exact hI
  rw [hp2] at hI
  rw [← ha2]
  have hI : In (D, tysC cy, SF z) (X ++ [(h0, .inr (1, [.ref q1, .int 0, .ref q2])), (q1, .inl (cy 4, 6, .inr (.inr (.inr (.inr (va_up (va_up (fun _ => none) (0 : Int32).toNatClampNeg (some (ad0 1 99))) (1 : Int32).toNatClampNeg (some (ad1 1 99)))))))), (q2, .inl (cy 0, 160, .inl (fun _ => 0))), (ad0 1 99, .inr (3, [.ref (ad0 1 0), .ref (ad0 1 1), .int 0])), (ad0 1 0, .inl (cy 0, 160, .inl (fun _ => 0))), (ad0 1 1, .inl (cy 0, 3, .inl (fun _ => 0))), (ad1 1 99, .inr (3, [.ref (ad1 1 0), .ref (ad1 1 1), .int 0])), (ad1 1 0, .inl (cy 0, 160, .inl (fun _ => 0))), (ad1 1 1, .inl (cy 0, 3, .inl (fun _ => 0))), (ad2 1 99, .inr (3, [.ref (ad2 1 0), .ref (ad2 1 1), .int 0])), (ad2 1 0, .inl (cy 0, 160, .inl (fun _ => 0))), (ad2 1 1, .inl (cy 0, 3, .inl (fun _ => 0)))]) A s H locs := hI
  refine rAstC (k1 := 1) (k2 := 9) (t0 := 3) (ci := 3) (r := (RX3, TX3, 3)) (pc := 47) E hI rfl rfl rfl rfl (by unfold vp_in; decide) dX1_init_47 (fun H locs hI => ?_)
  have hI : In (D, tysC cy, SF z) (X ++ [(h0, .inr (1, [.ref q1, .int 0, .ref q2])), (q1, .inl (cy 4, 6, .inr (.inr (.inr (.inr (va_up (va_up (va_up (fun _ => none) (0 : Int32).toNatClampNeg (some (ad0 1 99))) (1 : Int32).toNatClampNeg (some (ad1 1 99))) (2 : Int32).toNatClampNeg (some (ad2 1 99)))))))), (q2, .inl (cy 0, 160, .inl (fun _ => 0))), (ad0 1 99, .inr (3, [.ref (ad0 1 0), .ref (ad0 1 1), .int 0])), (ad0 1 0, .inl (cy 0, 160, .inl (fun _ => 0))), (ad0 1 1, .inl (cy 0, 3, .inl (fun _ => 0))), (ad1 1 99, .inr (3, [.ref (ad1 1 0), .ref (ad1 1 1), .int 0])), (ad1 1 0, .inl (cy 0, 160, .inl (fun _ => 0))), (ad1 1 1, .inl (cy 0, 3, .inl (fun _ => 0))), (ad2 1 99, .inr (3, [.ref (ad2 1 0), .ref (ad2 1 1), .int 0])), (ad2 1 0, .inl (cy 0, 160, .inl (fun _ => 0))), (ad2 1 1, .inl (cy 0, 3, .inl (fun _ => 0)))]) A s H locs := hI
  refine lv_iinc (v := 3) (lv' := [(1, .int 3), (0, .ref h0)]) (pc := 48) hx hb dX1_init_48 hl (k := 0) rfl (by decide) (by decide) rfl (fun ls hl => ?_)
  refine lv_goto (tgt := 29) (pc := 51) hx hb dX1_init_51 (by decide) ?_
  refine lv_iload_n (pc := 29) hx hb dX1_init_29 rfl (lv_at hl 0 rfl) ?_
  refine lv_bipush (v := 6) (pc := 30) hx hb dX1_init_30 rfl ?_
  refine lv_icmp_ge (tgt := 54) (pc := 32) hx hb dX1_init_32 (by decide) (fun c9 => absurd c9 (by decide)) (fun _ => ?_)
  refine lv_aload_n (pc := 35) hx hb dX1_init_35 rfl (lv_at hl 1 rfl) ?_
  refine rGetC (k := 0) (f := 0) (pc := 36) E hI rfl rfl inX1 (by decide) lkX1_11 rfl dX1_init_36 ?_
  refine lv_iload_n (pc := 39) hx hb dX1_init_39 rfl (lv_at hl 0 rfl) ?_
  refine rNewO (ci := 3) (ty := tyX3) (fs := [.null, .null, .int 0]) (pc := 40) E hI rfl inX3 tyX3_ok cl_RX1_9 is_RX3 in_RX3 zer3 (Nat.le_of_ble_eq_true rfl) (Nat.le_of_ble_eq_true rfl) dX1_init_40 (fun q12 H hI => ?_)
  have hI : In (D, tysC cy, SF z) (X ++ [(h0, .inr (1, [.ref q1, .int 0, .ref q2])), (q1, .inl (cy 4, 6, .inr (.inr (.inr (.inr (va_up (va_up (va_up (fun _ => none) (0 : Int32).toNatClampNeg (some (ad0 1 99))) (1 : Int32).toNatClampNeg (some (ad1 1 99))) (2 : Int32).toNatClampNeg (some (ad2 1 99)))))))), (q2, .inl (cy 0, 160, .inl (fun _ => 0))), (ad0 1 99, .inr (3, [.ref (ad0 1 0), .ref (ad0 1 1), .int 0])), (ad0 1 0, .inl (cy 0, 160, .inl (fun _ => 0))), (ad0 1 1, .inl (cy 0, 3, .inl (fun _ => 0))), (ad1 1 99, .inr (3, [.ref (ad1 1 0), .ref (ad1 1 1), .int 0])), (ad1 1 0, .inl (cy 0, 160, .inl (fun _ => 0))), (ad1 1 1, .inl (cy 0, 3, .inl (fun _ => 0))), (ad2 1 99, .inr (3, [.ref (ad2 1 0), .ref (ad2 1 1), .int 0])), (ad2 1 0, .inl (cy 0, 160, .inl (fun _ => 0))), (ad2 1 1, .inl (cy 0, 3, .inl (fun _ => 0))), (q12, .inr (3, [.null, .null, .int 0]))]) A s H locs := hI
  refine lv_dup (pc := 43) hx hb dX1_init_43 rfl ?_
  have hI : In (D, tysC cy, SF z) ((X ++ [(h0, .inr (1, [.ref q1, .int 0, .ref q2])), (q1, .inl (cy 4, 6, .inr (.inr (.inr (.inr (va_up (va_up (va_up (fun _ => none) (0 : Int32).toNatClampNeg (some (ad0 1 99))) (1 : Int32).toNatClampNeg (some (ad1 1 99))) (2 : Int32).toNatClampNeg (some (ad2 1 99)))))))), (q2, .inl (cy 0, 160, .inl (fun _ => 0))), (ad0 1 99, .inr (3, [.ref (ad0 1 0), .ref (ad0 1 1), .int 0])), (ad0 1 0, .inl (cy 0, 160, .inl (fun _ => 0))), (ad0 1 1, .inl (cy 0, 3, .inl (fun _ => 0))), (ad1 1 99, .inr (3, [.ref (ad1 1 0), .ref (ad1 1 1), .int 0])), (ad1 1 0, .inl (cy 0, 160, .inl (fun _ => 0))), (ad1 1 1, .inl (cy 0, 3, .inl (fun _ => 0))), (ad2 1 99, .inr (3, [.ref (ad2 1 0), .ref (ad2 1 1), .int 0])), (ad2 1 0, .inl (cy 0, 160, .inl (fun _ => 0))), (ad2 1 1, .inl (cy 0, 3, .inl (fun _ => 0)))]) ++ [(q12, .inr (3, [.null, .null, .int 0]))]) A s H locs := by rw [List.append_assoc]; exact hI
  refine callKN (pc := 44) stabSF E ⟨Nat.le_of_ble_eq_true rfl, Nat.le_of_ble_eq_true rfl⟩ hl hI (tX3_init (h0 := q12)) mn_X3 hI.2.2.2.2.2.1.2.1 (fitK (by decide)) (Nat.le_of_ble_eq_true rfl) dX1_init_44 (fun ad3 σ3 H locs hp3 hI => ?_)
  obtain ⟨ha3, hp3⟩ := hp3
  have hI : In (D, tysC cy, SF z) (X ++ ([(h0, .inr (1, [.ref q1, .int 0, .ref q2])), (q1, .inl (cy 4, 6, .inr (.inr (.inr (.inr (va_up (va_up (va_up (fun _ => none) (0 : Int32).toNatClampNeg (some (ad0 1 99))) (1 : Int32).toNatClampNeg (some (ad1 1 99))) (2 : Int32).toNatClampNeg (some (ad2 1 99)))))))), (q2, .inl (cy 0, 160, .inl (fun _ => 0))), (ad0 1 99, .inr (3, [.ref (ad0 1 0), .ref (ad0 1 1), .int 0])), (ad0 1 0, .inl (cy 0, 160, .inl (fun _ => 0))), (ad0 1 1, .inl (cy 0, 3, .inl (fun _ => 0))), (ad1 1 99, .inr (3, [.ref (ad1 1 0), .ref (ad1 1 1), .int 0])), (ad1 1 0, .inl (cy 0, 160, .inl (fun _ => 0))), (ad1 1 1, .inl (cy 0, 3, .inl (fun _ => 0))), (ad2 1 99, .inr (3, [.ref (ad2 1 0), .ref (ad2 1 1), .int 0])), (ad2 1 0, .inl (cy 0, 160, .inl (fun _ => 0))), (ad2 1 1, .inl (cy 0, 3, .inl (fun _ => 0)))] ++ cX3 ad3 cy 1 (σ3 1))) A s H locs := by rw [← List.append_assoc]; exact hI
  rw [hp3] at hI
  rw [← ha3]
  have hI : In (D, tysC cy, SF z) (X ++ [(h0, .inr (1, [.ref q1, .int 0, .ref q2])), (q1, .inl (cy 4, 6, .inr (.inr (.inr (.inr (va_up (va_up (va_up (fun _ => none) (0 : Int32).toNatClampNeg (some (ad0 1 99))) (1 : Int32).toNatClampNeg (some (ad1 1 99))) (2 : Int32).toNatClampNeg (some (ad2 1 99)))))))), (q2, .inl (cy 0, 160, .inl (fun _ => 0))), (ad0 1 99, .inr (3, [.ref (ad0 1 0), .ref (ad0 1 1), .int 0])), (ad0 1 0, .inl (cy 0, 160, .inl (fun _ => 0))), (ad0 1 1, .inl (cy 0, 3, .inl (fun _ => 0))), (ad1 1 99, .inr (3, [.ref (ad1 1 0), .ref (ad1 1 1), .int 0])), (ad1 1 0, .inl (cy 0, 160, .inl (fun _ => 0))), (ad1 1 1, .inl (cy 0, 3, .inl (fun _ => 0))), (ad2 1 99, .inr (3, [.ref (ad2 1 0), .ref (ad2 1 1), .int 0])), (ad2 1 0, .inl (cy 0, 160, .inl (fun _ => 0))), (ad2 1 1, .inl (cy 0, 3, .inl (fun _ => 0))), (ad3 1 99, .inr (3, [.ref (ad3 1 0), .ref (ad3 1 1), .int 0])), (ad3 1 0, .inl (cy 0, 160, .inl (fun _ => 0))), (ad3 1 1, .inl (cy 0, 3, .inl (fun _ => 0)))]) A s H locs := hI
  refine rAstC (k1 := 1) (k2 := 12) (t0 := 3) (ci := 3) (r := (RX3, TX3, 3)) (pc := 47) E hI rfl rfl rfl rfl (by unfold vp_in; decide) dX1_init_47 (fun H locs hI => ?_)
  have hI : In (D, tysC cy, SF z) (X ++ [(h0, .inr (1, [.ref q1, .int 0, .ref q2])), (q1, .inl (cy 4, 6, .inr (.inr (.inr (.inr (va_up (va_up (va_up (va_up (fun _ => none) (0 : Int32).toNatClampNeg (some (ad0 1 99))) (1 : Int32).toNatClampNeg (some (ad1 1 99))) (2 : Int32).toNatClampNeg (some (ad2 1 99))) (3 : Int32).toNatClampNeg (some (ad3 1 99)))))))), (q2, .inl (cy 0, 160, .inl (fun _ => 0))), (ad0 1 99, .inr (3, [.ref (ad0 1 0), .ref (ad0 1 1), .int 0])), (ad0 1 0, .inl (cy 0, 160, .inl (fun _ => 0))), (ad0 1 1, .inl (cy 0, 3, .inl (fun _ => 0))), (ad1 1 99, .inr (3, [.ref (ad1 1 0), .ref (ad1 1 1), .int 0])), (ad1 1 0, .inl (cy 0, 160, .inl (fun _ => 0))), (ad1 1 1, .inl (cy 0, 3, .inl (fun _ => 0))), (ad2 1 99, .inr (3, [.ref (ad2 1 0), .ref (ad2 1 1), .int 0])), (ad2 1 0, .inl (cy 0, 160, .inl (fun _ => 0))), (ad2 1 1, .inl (cy 0, 3, .inl (fun _ => 0))), (ad3 1 99, .inr (3, [.ref (ad3 1 0), .ref (ad3 1 1), .int 0])), (ad3 1 0, .inl (cy 0, 160, .inl (fun _ => 0))), (ad3 1 1, .inl (cy 0, 3, .inl (fun _ => 0)))]) A s H locs := hI
  refine lv_iinc (v := 4) (lv' := [(1, .int 4), (0, .ref h0)]) (pc := 48) hx hb dX1_init_48 hl (k := 0) rfl (by decide) (by decide) rfl (fun ls hl => ?_)
  refine lv_goto (tgt := 29) (pc := 51) hx hb dX1_init_51 (by decide) ?_
  refine lv_iload_n (pc := 29) hx hb dX1_init_29 rfl (lv_at hl 0 rfl) ?_
  refine lv_bipush (v := 6) (pc := 30) hx hb dX1_init_30 rfl ?_
  refine lv_icmp_ge (tgt := 54) (pc := 32) hx hb dX1_init_32 (by decide) (fun c9 => absurd c9 (by decide)) (fun _ => ?_)
  refine lv_aload_n (pc := 35) hx hb dX1_init_35 rfl (lv_at hl 1 rfl) ?_
  refine rGetC (k := 0) (f := 0) (pc := 36) E hI rfl rfl inX1 (by decide) lkX1_11 rfl dX1_init_36 ?_
  refine lv_iload_n (pc := 39) hx hb dX1_init_39 rfl (lv_at hl 0 rfl) ?_
  refine rNewO (ci := 3) (ty := tyX3) (fs := [.null, .null, .int 0]) (pc := 40) E hI rfl inX3 tyX3_ok cl_RX1_9 is_RX3 in_RX3 zer3 (Nat.le_of_ble_eq_true rfl) (Nat.le_of_ble_eq_true rfl) dX1_init_40 (fun q15 H hI => ?_)
  have hI : In (D, tysC cy, SF z) (X ++ [(h0, .inr (1, [.ref q1, .int 0, .ref q2])), (q1, .inl (cy 4, 6, .inr (.inr (.inr (.inr (va_up (va_up (va_up (va_up (fun _ => none) (0 : Int32).toNatClampNeg (some (ad0 1 99))) (1 : Int32).toNatClampNeg (some (ad1 1 99))) (2 : Int32).toNatClampNeg (some (ad2 1 99))) (3 : Int32).toNatClampNeg (some (ad3 1 99)))))))), (q2, .inl (cy 0, 160, .inl (fun _ => 0))), (ad0 1 99, .inr (3, [.ref (ad0 1 0), .ref (ad0 1 1), .int 0])), (ad0 1 0, .inl (cy 0, 160, .inl (fun _ => 0))), (ad0 1 1, .inl (cy 0, 3, .inl (fun _ => 0))), (ad1 1 99, .inr (3, [.ref (ad1 1 0), .ref (ad1 1 1), .int 0])), (ad1 1 0, .inl (cy 0, 160, .inl (fun _ => 0))), (ad1 1 1, .inl (cy 0, 3, .inl (fun _ => 0))), (ad2 1 99, .inr (3, [.ref (ad2 1 0), .ref (ad2 1 1), .int 0])), (ad2 1 0, .inl (cy 0, 160, .inl (fun _ => 0))), (ad2 1 1, .inl (cy 0, 3, .inl (fun _ => 0))), (ad3 1 99, .inr (3, [.ref (ad3 1 0), .ref (ad3 1 1), .int 0])), (ad3 1 0, .inl (cy 0, 160, .inl (fun _ => 0))), (ad3 1 1, .inl (cy 0, 3, .inl (fun _ => 0))), (q15, .inr (3, [.null, .null, .int 0]))]) A s H locs := hI
  refine lv_dup (pc := 43) hx hb dX1_init_43 rfl ?_
  have hI : In (D, tysC cy, SF z) ((X ++ [(h0, .inr (1, [.ref q1, .int 0, .ref q2])), (q1, .inl (cy 4, 6, .inr (.inr (.inr (.inr (va_up (va_up (va_up (va_up (fun _ => none) (0 : Int32).toNatClampNeg (some (ad0 1 99))) (1 : Int32).toNatClampNeg (some (ad1 1 99))) (2 : Int32).toNatClampNeg (some (ad2 1 99))) (3 : Int32).toNatClampNeg (some (ad3 1 99)))))))), (q2, .inl (cy 0, 160, .inl (fun _ => 0))), (ad0 1 99, .inr (3, [.ref (ad0 1 0), .ref (ad0 1 1), .int 0])), (ad0 1 0, .inl (cy 0, 160, .inl (fun _ => 0))), (ad0 1 1, .inl (cy 0, 3, .inl (fun _ => 0))), (ad1 1 99, .inr (3, [.ref (ad1 1 0), .ref (ad1 1 1), .int 0])), (ad1 1 0, .inl (cy 0, 160, .inl (fun _ => 0))), (ad1 1 1, .inl (cy 0, 3, .inl (fun _ => 0))), (ad2 1 99, .inr (3, [.ref (ad2 1 0), .ref (ad2 1 1), .int 0])), (ad2 1 0, .inl (cy 0, 160, .inl (fun _ => 0))), (ad2 1 1, .inl (cy 0, 3, .inl (fun _ => 0))), (ad3 1 99, .inr (3, [.ref (ad3 1 0), .ref (ad3 1 1), .int 0])), (ad3 1 0, .inl (cy 0, 160, .inl (fun _ => 0))), (ad3 1 1, .inl (cy 0, 3, .inl (fun _ => 0)))]) ++ [(q15, .inr (3, [.null, .null, .int 0]))]) A s H locs := by rw [List.append_assoc]; exact hI
  refine callKN (pc := 44) stabSF E ⟨Nat.le_of_ble_eq_true rfl, Nat.le_of_ble_eq_true rfl⟩ hl hI (tX3_init (h0 := q15)) mn_X3 hI.2.2.2.2.2.1.2.1 (fitK (by decide)) (Nat.le_of_ble_eq_true rfl) dX1_init_44 (fun ad4 σ4 H locs hp4 hI => ?_)
  obtain ⟨ha4, hp4⟩ := hp4
  have hI : In (D, tysC cy, SF z) (X ++ ([(h0, .inr (1, [.ref q1, .int 0, .ref q2])), (q1, .inl (cy 4, 6, .inr (.inr (.inr (.inr (va_up (va_up (va_up (va_up (fun _ => none) (0 : Int32).toNatClampNeg (some (ad0 1 99))) (1 : Int32).toNatClampNeg (some (ad1 1 99))) (2 : Int32).toNatClampNeg (some (ad2 1 99))) (3 : Int32).toNatClampNeg (some (ad3 1 99)))))))), (q2, .inl (cy 0, 160, .inl (fun _ => 0))), (ad0 1 99, .inr (3, [.ref (ad0 1 0), .ref (ad0 1 1), .int 0])), (ad0 1 0, .inl (cy 0, 160, .inl (fun _ => 0))), (ad0 1 1, .inl (cy 0, 3, .inl (fun _ => 0))), (ad1 1 99, .inr (3, [.ref (ad1 1 0), .ref (ad1 1 1), .int 0])), (ad1 1 0, .inl (cy 0, 160, .inl (fun _ => 0))), (ad1 1 1, .inl (cy 0, 3, .inl (fun _ => 0))), (ad2 1 99, .inr (3, [.ref (ad2 1 0), .ref (ad2 1 1), .int 0])), (ad2 1 0, .inl (cy 0, 160, .inl (fun _ => 0))), (ad2 1 1, .inl (cy 0, 3, .inl (fun _ => 0))), (ad3 1 99, .inr (3, [.ref (ad3 1 0), .ref (ad3 1 1), .int 0])), (ad3 1 0, .inl (cy 0, 160, .inl (fun _ => 0))), (ad3 1 1, .inl (cy 0, 3, .inl (fun _ => 0)))] ++ cX3 ad4 cy 1 (σ4 1))) A s H locs := by rw [← List.append_assoc]; exact hI
  rw [hp4] at hI
  rw [← ha4]
  have hI : In (D, tysC cy, SF z) (X ++ [(h0, .inr (1, [.ref q1, .int 0, .ref q2])), (q1, .inl (cy 4, 6, .inr (.inr (.inr (.inr (va_up (va_up (va_up (va_up (fun _ => none) (0 : Int32).toNatClampNeg (some (ad0 1 99))) (1 : Int32).toNatClampNeg (some (ad1 1 99))) (2 : Int32).toNatClampNeg (some (ad2 1 99))) (3 : Int32).toNatClampNeg (some (ad3 1 99)))))))), (q2, .inl (cy 0, 160, .inl (fun _ => 0))), (ad0 1 99, .inr (3, [.ref (ad0 1 0), .ref (ad0 1 1), .int 0])), (ad0 1 0, .inl (cy 0, 160, .inl (fun _ => 0))), (ad0 1 1, .inl (cy 0, 3, .inl (fun _ => 0))), (ad1 1 99, .inr (3, [.ref (ad1 1 0), .ref (ad1 1 1), .int 0])), (ad1 1 0, .inl (cy 0, 160, .inl (fun _ => 0))), (ad1 1 1, .inl (cy 0, 3, .inl (fun _ => 0))), (ad2 1 99, .inr (3, [.ref (ad2 1 0), .ref (ad2 1 1), .int 0])), (ad2 1 0, .inl (cy 0, 160, .inl (fun _ => 0))), (ad2 1 1, .inl (cy 0, 3, .inl (fun _ => 0))), (ad3 1 99, .inr (3, [.ref (ad3 1 0), .ref (ad3 1 1), .int 0])), (ad3 1 0, .inl (cy 0, 160, .inl (fun _ => 0))), (ad3 1 1, .inl (cy 0, 3, .inl (fun _ => 0))), (ad4 1 99, .inr (3, [.ref (ad4 1 0), .ref (ad4 1 1), .int 0])), (ad4 1 0, .inl (cy 0, 160, .inl (fun _ => 0))), (ad4 1 1, .inl (cy 0, 3, .inl (fun _ => 0)))]) A s H locs := hI
  refine rAstC (k1 := 1) (k2 := 15) (t0 := 3) (ci := 3) (r := (RX3, TX3, 3)) (pc := 47) E hI rfl rfl rfl rfl (by unfold vp_in; decide) dX1_init_47 (fun H locs hI => ?_)
  have hI : In (D, tysC cy, SF z) (X ++ [(h0, .inr (1, [.ref q1, .int 0, .ref q2])), (q1, .inl (cy 4, 6, .inr (.inr (.inr (.inr (va_up (va_up (va_up (va_up (va_up (fun _ => none) (0 : Int32).toNatClampNeg (some (ad0 1 99))) (1 : Int32).toNatClampNeg (some (ad1 1 99))) (2 : Int32).toNatClampNeg (some (ad2 1 99))) (3 : Int32).toNatClampNeg (some (ad3 1 99))) (4 : Int32).toNatClampNeg (some (ad4 1 99)))))))), (q2, .inl (cy 0, 160, .inl (fun _ => 0))), (ad0 1 99, .inr (3, [.ref (ad0 1 0), .ref (ad0 1 1), .int 0])), (ad0 1 0, .inl (cy 0, 160, .inl (fun _ => 0))), (ad0 1 1, .inl (cy 0, 3, .inl (fun _ => 0))), (ad1 1 99, .inr (3, [.ref (ad1 1 0), .ref (ad1 1 1), .int 0])), (ad1 1 0, .inl (cy 0, 160, .inl (fun _ => 0))), (ad1 1 1, .inl (cy 0, 3, .inl (fun _ => 0))), (ad2 1 99, .inr (3, [.ref (ad2 1 0), .ref (ad2 1 1), .int 0])), (ad2 1 0, .inl (cy 0, 160, .inl (fun _ => 0))), (ad2 1 1, .inl (cy 0, 3, .inl (fun _ => 0))), (ad3 1 99, .inr (3, [.ref (ad3 1 0), .ref (ad3 1 1), .int 0])), (ad3 1 0, .inl (cy 0, 160, .inl (fun _ => 0))), (ad3 1 1, .inl (cy 0, 3, .inl (fun _ => 0))), (ad4 1 99, .inr (3, [.ref (ad4 1 0), .ref (ad4 1 1), .int 0])), (ad4 1 0, .inl (cy 0, 160, .inl (fun _ => 0))), (ad4 1 1, .inl (cy 0, 3, .inl (fun _ => 0)))]) A s H locs := hI
  refine lv_iinc (v := 5) (lv' := [(1, .int 5), (0, .ref h0)]) (pc := 48) hx hb dX1_init_48 hl (k := 0) rfl (by decide) (by decide) rfl (fun ls hl => ?_)
  refine lv_goto (tgt := 29) (pc := 51) hx hb dX1_init_51 (by decide) ?_
  refine lv_iload_n (pc := 29) hx hb dX1_init_29 rfl (lv_at hl 0 rfl) ?_
  refine lv_bipush (v := 6) (pc := 30) hx hb dX1_init_30 rfl ?_
  refine lv_icmp_ge (tgt := 54) (pc := 32) hx hb dX1_init_32 (by decide) (fun c9 => absurd c9 (by decide)) (fun _ => ?_)
  refine lv_aload_n (pc := 35) hx hb dX1_init_35 rfl (lv_at hl 1 rfl) ?_
  refine rGetC (k := 0) (f := 0) (pc := 36) E hI rfl rfl inX1 (by decide) lkX1_11 rfl dX1_init_36 ?_
  refine lv_iload_n (pc := 39) hx hb dX1_init_39 rfl (lv_at hl 0 rfl) ?_
  refine rNewO (ci := 3) (ty := tyX3) (fs := [.null, .null, .int 0]) (pc := 40) E hI rfl inX3 tyX3_ok cl_RX1_9 is_RX3 in_RX3 zer3 (Nat.le_of_ble_eq_true rfl) (Nat.le_of_ble_eq_true rfl) dX1_init_40 (fun q18 H hI => ?_)
  have hI : In (D, tysC cy, SF z) (X ++ [(h0, .inr (1, [.ref q1, .int 0, .ref q2])), (q1, .inl (cy 4, 6, .inr (.inr (.inr (.inr (va_up (va_up (va_up (va_up (va_up (fun _ => none) (0 : Int32).toNatClampNeg (some (ad0 1 99))) (1 : Int32).toNatClampNeg (some (ad1 1 99))) (2 : Int32).toNatClampNeg (some (ad2 1 99))) (3 : Int32).toNatClampNeg (some (ad3 1 99))) (4 : Int32).toNatClampNeg (some (ad4 1 99)))))))), (q2, .inl (cy 0, 160, .inl (fun _ => 0))), (ad0 1 99, .inr (3, [.ref (ad0 1 0), .ref (ad0 1 1), .int 0])), (ad0 1 0, .inl (cy 0, 160, .inl (fun _ => 0))), (ad0 1 1, .inl (cy 0, 3, .inl (fun _ => 0))), (ad1 1 99, .inr (3, [.ref (ad1 1 0), .ref (ad1 1 1), .int 0])), (ad1 1 0, .inl (cy 0, 160, .inl (fun _ => 0))), (ad1 1 1, .inl (cy 0, 3, .inl (fun _ => 0))), (ad2 1 99, .inr (3, [.ref (ad2 1 0), .ref (ad2 1 1), .int 0])), (ad2 1 0, .inl (cy 0, 160, .inl (fun _ => 0))), (ad2 1 1, .inl (cy 0, 3, .inl (fun _ => 0))), (ad3 1 99, .inr (3, [.ref (ad3 1 0), .ref (ad3 1 1), .int 0])), (ad3 1 0, .inl (cy 0, 160, .inl (fun _ => 0))), (ad3 1 1, .inl (cy 0, 3, .inl (fun _ => 0))), (ad4 1 99, .inr (3, [.ref (ad4 1 0), .ref (ad4 1 1), .int 0])), (ad4 1 0, .inl (cy 0, 160, .inl (fun _ => 0))), (ad4 1 1, .inl (cy 0, 3, .inl (fun _ => 0))), (q18, .inr (3, [.null, .null, .int 0]))]) A s H locs := hI
  refine lv_dup (pc := 43) hx hb dX1_init_43 rfl ?_
  have hI : In (D, tysC cy, SF z) ((X ++ [(h0, .inr (1, [.ref q1, .int 0, .ref q2])), (q1, .inl (cy 4, 6, .inr (.inr (.inr (.inr (va_up (va_up (va_up (va_up (va_up (fun _ => none) (0 : Int32).toNatClampNeg (some (ad0 1 99))) (1 : Int32).toNatClampNeg (some (ad1 1 99))) (2 : Int32).toNatClampNeg (some (ad2 1 99))) (3 : Int32).toNatClampNeg (some (ad3 1 99))) (4 : Int32).toNatClampNeg (some (ad4 1 99)))))))), (q2, .inl (cy 0, 160, .inl (fun _ => 0))), (ad0 1 99, .inr (3, [.ref (ad0 1 0), .ref (ad0 1 1), .int 0])), (ad0 1 0, .inl (cy 0, 160, .inl (fun _ => 0))), (ad0 1 1, .inl (cy 0, 3, .inl (fun _ => 0))), (ad1 1 99, .inr (3, [.ref (ad1 1 0), .ref (ad1 1 1), .int 0])), (ad1 1 0, .inl (cy 0, 160, .inl (fun _ => 0))), (ad1 1 1, .inl (cy 0, 3, .inl (fun _ => 0))), (ad2 1 99, .inr (3, [.ref (ad2 1 0), .ref (ad2 1 1), .int 0])), (ad2 1 0, .inl (cy 0, 160, .inl (fun _ => 0))), (ad2 1 1, .inl (cy 0, 3, .inl (fun _ => 0))), (ad3 1 99, .inr (3, [.ref (ad3 1 0), .ref (ad3 1 1), .int 0])), (ad3 1 0, .inl (cy 0, 160, .inl (fun _ => 0))), (ad3 1 1, .inl (cy 0, 3, .inl (fun _ => 0))), (ad4 1 99, .inr (3, [.ref (ad4 1 0), .ref (ad4 1 1), .int 0])), (ad4 1 0, .inl (cy 0, 160, .inl (fun _ => 0))), (ad4 1 1, .inl (cy 0, 3, .inl (fun _ => 0)))]) ++ [(q18, .inr (3, [.null, .null, .int 0]))]) A s H locs := by rw [List.append_assoc]; exact hI
  refine callKN (pc := 44) stabSF E ⟨Nat.le_of_ble_eq_true rfl, Nat.le_of_ble_eq_true rfl⟩ hl hI (tX3_init (h0 := q18)) mn_X3 hI.2.2.2.2.2.1.2.1 (fitK (by decide)) (Nat.le_of_ble_eq_true rfl) dX1_init_44 (fun ad5 σ5 H locs hp5 hI => ?_)
  obtain ⟨ha5, hp5⟩ := hp5
  have hI : In (D, tysC cy, SF z) (X ++ ([(h0, .inr (1, [.ref q1, .int 0, .ref q2])), (q1, .inl (cy 4, 6, .inr (.inr (.inr (.inr (va_up (va_up (va_up (va_up (va_up (fun _ => none) (0 : Int32).toNatClampNeg (some (ad0 1 99))) (1 : Int32).toNatClampNeg (some (ad1 1 99))) (2 : Int32).toNatClampNeg (some (ad2 1 99))) (3 : Int32).toNatClampNeg (some (ad3 1 99))) (4 : Int32).toNatClampNeg (some (ad4 1 99)))))))), (q2, .inl (cy 0, 160, .inl (fun _ => 0))), (ad0 1 99, .inr (3, [.ref (ad0 1 0), .ref (ad0 1 1), .int 0])), (ad0 1 0, .inl (cy 0, 160, .inl (fun _ => 0))), (ad0 1 1, .inl (cy 0, 3, .inl (fun _ => 0))), (ad1 1 99, .inr (3, [.ref (ad1 1 0), .ref (ad1 1 1), .int 0])), (ad1 1 0, .inl (cy 0, 160, .inl (fun _ => 0))), (ad1 1 1, .inl (cy 0, 3, .inl (fun _ => 0))), (ad2 1 99, .inr (3, [.ref (ad2 1 0), .ref (ad2 1 1), .int 0])), (ad2 1 0, .inl (cy 0, 160, .inl (fun _ => 0))), (ad2 1 1, .inl (cy 0, 3, .inl (fun _ => 0))), (ad3 1 99, .inr (3, [.ref (ad3 1 0), .ref (ad3 1 1), .int 0])), (ad3 1 0, .inl (cy 0, 160, .inl (fun _ => 0))), (ad3 1 1, .inl (cy 0, 3, .inl (fun _ => 0))), (ad4 1 99, .inr (3, [.ref (ad4 1 0), .ref (ad4 1 1), .int 0])), (ad4 1 0, .inl (cy 0, 160, .inl (fun _ => 0))), (ad4 1 1, .inl (cy 0, 3, .inl (fun _ => 0)))] ++ cX3 ad5 cy 1 (σ5 1))) A s H locs := by rw [← List.append_assoc]; exact hI
  rw [hp5] at hI
  rw [← ha5]
  have hI : In (D, tysC cy, SF z) (X ++ [(h0, .inr (1, [.ref q1, .int 0, .ref q2])), (q1, .inl (cy 4, 6, .inr (.inr (.inr (.inr (va_up (va_up (va_up (va_up (va_up (fun _ => none) (0 : Int32).toNatClampNeg (some (ad0 1 99))) (1 : Int32).toNatClampNeg (some (ad1 1 99))) (2 : Int32).toNatClampNeg (some (ad2 1 99))) (3 : Int32).toNatClampNeg (some (ad3 1 99))) (4 : Int32).toNatClampNeg (some (ad4 1 99)))))))), (q2, .inl (cy 0, 160, .inl (fun _ => 0))), (ad0 1 99, .inr (3, [.ref (ad0 1 0), .ref (ad0 1 1), .int 0])), (ad0 1 0, .inl (cy 0, 160, .inl (fun _ => 0))), (ad0 1 1, .inl (cy 0, 3, .inl (fun _ => 0))), (ad1 1 99, .inr (3, [.ref (ad1 1 0), .ref (ad1 1 1), .int 0])), (ad1 1 0, .inl (cy 0, 160, .inl (fun _ => 0))), (ad1 1 1, .inl (cy 0, 3, .inl (fun _ => 0))), (ad2 1 99, .inr (3, [.ref (ad2 1 0), .ref (ad2 1 1), .int 0])), (ad2 1 0, .inl (cy 0, 160, .inl (fun _ => 0))), (ad2 1 1, .inl (cy 0, 3, .inl (fun _ => 0))), (ad3 1 99, .inr (3, [.ref (ad3 1 0), .ref (ad3 1 1), .int 0])), (ad3 1 0, .inl (cy 0, 160, .inl (fun _ => 0))), (ad3 1 1, .inl (cy 0, 3, .inl (fun _ => 0))), (ad4 1 99, .inr (3, [.ref (ad4 1 0), .ref (ad4 1 1), .int 0])), (ad4 1 0, .inl (cy 0, 160, .inl (fun _ => 0))), (ad4 1 1, .inl (cy 0, 3, .inl (fun _ => 0))), (ad5 1 99, .inr (3, [.ref (ad5 1 0), .ref (ad5 1 1), .int 0])), (ad5 1 0, .inl (cy 0, 160, .inl (fun _ => 0))), (ad5 1 1, .inl (cy 0, 3, .inl (fun _ => 0)))]) A s H locs := hI
  refine rAstC (k1 := 1) (k2 := 18) (t0 := 3) (ci := 3) (r := (RX3, TX3, 3)) (pc := 47) E hI rfl rfl rfl rfl (by unfold vp_in; decide) dX1_init_47 (fun H locs hI => ?_)
  have hI : In (D, tysC cy, SF z) (X ++ [(h0, .inr (1, [.ref q1, .int 0, .ref q2])), (q1, .inl (cy 4, 6, .inr (.inr (.inr (.inr (va_up (va_up (va_up (va_up (va_up (va_up (fun _ => none) (0 : Int32).toNatClampNeg (some (ad0 1 99))) (1 : Int32).toNatClampNeg (some (ad1 1 99))) (2 : Int32).toNatClampNeg (some (ad2 1 99))) (3 : Int32).toNatClampNeg (some (ad3 1 99))) (4 : Int32).toNatClampNeg (some (ad4 1 99))) (5 : Int32).toNatClampNeg (some (ad5 1 99)))))))), (q2, .inl (cy 0, 160, .inl (fun _ => 0))), (ad0 1 99, .inr (3, [.ref (ad0 1 0), .ref (ad0 1 1), .int 0])), (ad0 1 0, .inl (cy 0, 160, .inl (fun _ => 0))), (ad0 1 1, .inl (cy 0, 3, .inl (fun _ => 0))), (ad1 1 99, .inr (3, [.ref (ad1 1 0), .ref (ad1 1 1), .int 0])), (ad1 1 0, .inl (cy 0, 160, .inl (fun _ => 0))), (ad1 1 1, .inl (cy 0, 3, .inl (fun _ => 0))), (ad2 1 99, .inr (3, [.ref (ad2 1 0), .ref (ad2 1 1), .int 0])), (ad2 1 0, .inl (cy 0, 160, .inl (fun _ => 0))), (ad2 1 1, .inl (cy 0, 3, .inl (fun _ => 0))), (ad3 1 99, .inr (3, [.ref (ad3 1 0), .ref (ad3 1 1), .int 0])), (ad3 1 0, .inl (cy 0, 160, .inl (fun _ => 0))), (ad3 1 1, .inl (cy 0, 3, .inl (fun _ => 0))), (ad4 1 99, .inr (3, [.ref (ad4 1 0), .ref (ad4 1 1), .int 0])), (ad4 1 0, .inl (cy 0, 160, .inl (fun _ => 0))), (ad4 1 1, .inl (cy 0, 3, .inl (fun _ => 0))), (ad5 1 99, .inr (3, [.ref (ad5 1 0), .ref (ad5 1 1), .int 0])), (ad5 1 0, .inl (cy 0, 160, .inl (fun _ => 0))), (ad5 1 1, .inl (cy 0, 3, .inl (fun _ => 0)))]) A s H locs := hI
  refine lv_iinc (v := 6) (lv' := [(1, .int 6), (0, .ref h0)]) (pc := 48) hx hb dX1_init_48 hl (k := 0) rfl (by decide) (by decide) rfl (fun ls hl => ?_)
  refine lv_goto (tgt := 29) (pc := 51) hx hb dX1_init_51 (by decide) ?_
  refine lv_iload_n (pc := 29) hx hb dX1_init_29 rfl (lv_at hl 0 rfl) ?_
  refine lv_bipush (v := 6) (pc := 30) hx hb dX1_init_30 rfl ?_
  refine lv_icmp_ge (tgt := 54) (pc := 32) hx hb dX1_init_32 (by decide) (fun _ => ?_) (fun c9 => absurd (by decide) c9)
  have hI := swR (k := 1) (g := fun i => some ((fun o f => if o = 4 then (if f = 99 then h0 else if f = 0 then q1 else q2) else if o = 6 then ad0 1 f else if o = 7 then ad1 1 f else if o = 8 then ad2 1 f else if o = 9 then ad3 1 f else if o = 10 then ad4 1 f else if o = 11 then ad5 1 f else 0) (6 + i) 99)) hI rfl (by intro j hj; rcases (by omega : j = 0 ∨ j = 1 ∨ j = 2 ∨ j = 3 ∨ j = 4 ∨ j = 5) with rfl | rfl | rfl | rfl | rfl | rfl <;> rfl)
  exact rK (fun o f => if o = 4 then (if f = 99 then h0 else if f = 0 then q1 else q2) else if o = 6 then ad0 1 f else if o = 7 then ad1 1 f else if o = 8 then ad2 1 f else if o = 9 then ad3 1 f else if o = 10 then ad4 1 f else if o = 11 then ad5 1 f else 0) (fun _ => w0T) E hr hlk (L2 := (fun ad σ => X ++ (cX1 ad cy 4 (σ 4) ++ (cX3 ad cy 6 (σ 6) ++ (cX3 ad cy 7 (σ 7) ++ (cX3 ad cy 8 (σ 8) ++ (cX3 ad cy 9 (σ 9) ++ (cX3 ad cy 10 (σ 10) ++ (cX3 ad cy 11 (σ 11)))))))))) hI ⟨rfl, rfl⟩ dX1_init_54
def wIt : Nat → Nat → (Nat → Int64) → (Nat → Int64)
  | 0, _, f => f
  | n + 1, k, f => wIt n (k + 1) (vp_updL f (irm (nI k) 4).toNatClampNeg (f (irm (nI k) 4).toNatClampNeg ||| lsh 1 (nI k)))
def wanW : Nat → Int64 := wIt 64 0 (fun _ => 0)
def w0W : OT := (fun _ => 0, fun _ => 0, fun _ _ => 0, va_up (fun _ _ => 0) 0 wanW)
theorem vpk : ∀ k, k < 64 → ¬ ((irm (nI k) 4) < 0 ∨ 4 ≤ (irm (nI k) 4).toNatClampNeg) := by decide +kernel
theorem n64 : ∀ k, k < 64 → ¬ (64 : Int32) ≤ nI k := by decide +kernel
theorem n65 : ∀ k, k < 64 → nI k + Int32.ofInt 1 = nI (k + 1) := by decide +kernel
set_option maxRecDepth 100000 in
set_option maxHeartbeats 4000000 in
theorem lX4_init {p : Program} {l : Launch} {e : Env} {s : State} {m : MethodId} {args : Array Value} {below : List Frame} {meth : Method} {c : Code} {A : Nat → Prop} {D : va_G} {z : Nat → Nat} {cy : Nat → ClassId} {X : va_W} {h0 q1 q2 q3 q4 q5 q6 q7 : Nat} (E : CallFix p m c cX4_init 2 s args TB RX4) (hr : meth.sig.returnType = none) (hlk : meth.locks = false) : ∀ (n k : Nat) (fW : Nat → Int64) {H : Heap} {locs : List Loc} {ls : Array Slot}, k + n = 64 → In (D, tysC cy, SF z) (X ++ [(h0, .inr (4, [.ref q1, .long 0, .int 0, .int 0, .ref q2, .int 0, .ref q3, .ref q4, .ref q5, .ref q6, .ref q7])), (q1, .inl (cy 1, 4, .inr (.inl fW))), (q2, .inl (cy 0, 4, .inl (fun _ => 0))), (q3, .inl (cy 0, 5, .inl (fun _ => 0))), (q4, .inl (cy 0, 5, .inl (fun _ => 0))), (q5, .inl (cy 0, 5, .inl (fun _ => 0))), (q6, .inl (cy 0, 5, .inl (fun _ => 0))), (q7, .inl (cy 0, 5, .inl (fun _ => 0)))]) A s H locs → lv_has ls 2 [(1, .int (nI k)), (0, .ref h0)] → W p l e (rmK 1 7 33) s m args below meth c H locs 7 33 (MQ below (QK (D, tysC cy, SF z) A (fun ad σ => X ++ cX4 ad cy 1 (σ 1)) (fun ad σ => ad 1 99 = h0 ∧ ∃ f : Nat → Int64, f = wIt n k fW ∧ σ 1 = ((fun _ => 0, fun _ => 0, fun _ _ => 0, va_up (fun _ _ => 0) 0 f) : OT))) args s 7 33 A) (F0 m 75 ls []) := by
  have hx := E.1
  have hb := E.2.1
  intro n
  induction n with
  | zero =>
    intro k fW H locs ls hk hI hl
    rw [show k = 64 by omega] at hl
    refine lv_iload_n (pc := 75) hx hb dX4_init_75 rfl (lv_at hl 0 rfl) ?_
    refine lv_bipush (v := 64) (pc := 76) hx hb dX4_init_76 rfl ?_
    refine lv_icmp_ge (tgt := 101) (pc := 78) hx hb dX4_init_78 (by decide) (fun _ => ?_) (fun c9 => absurd (by decide) c9)
    exact rK (fun _ f => if f = 99 then h0 else if f = 0 then q1 else if f = 4 then q2 else if f = 6 then q3 else if f = 7 then q4 else if f = 8 then q5 else if f = 9 then q6 else if f = 10 then q7 else 0) (fun _ => (fun _ => 0, fun _ => 0, fun _ _ => 0, va_up (fun _ _ => 0) 0 fW)) E hr hlk (L2 := (fun ad σ => X ++ cX4 ad cy 1 (σ 1))) hI ⟨rfl, fW, rfl, rfl⟩ dX4_init_101
  | succ n ih =>
    intro k fW H locs ls hk hI hl
    have hg : vp_in (irm (nI k) 4) 4 := vpk k (by omega)
    refine lv_iload_n (pc := 75) hx hb dX4_init_75 rfl (lv_at hl 0 rfl) ?_
    refine lv_bipush (v := 64) (pc := 76) hx hb dX4_init_76 rfl ?_
    refine lv_icmp_ge (tgt := 101) (pc := 78) hx hb dX4_init_78 (by decide) (fun c9 => absurd c9 (n64 k (by omega))) (fun _ => ?_)
    refine lv_aload_n (pc := 81) hx hb dX4_init_81 rfl (lv_at hl 1 rfl) ?_
    refine rGetC (k := 0) (f := 0) (pc := 82) E hI rfl rfl inX4 (by decide) lkX4_9 rfl dX4_init_82 ?_
    refine lv_iload_n (pc := 85) hx hb dX4_init_85 rfl (lv_at hl 0 rfl) ?_
    refine lv_iconst (v := 4) (pc := 86) hx hb dX4_init_86 rfl ?_
    refine lv_irem1 (pc := 87) hx hb dX4_init_87 (by decide) ?_
    refine lv_dup2_11 (pc := 88) hx hb dX4_init_88 rfl rfl ?_
    refine rLld (t0 := 1) (pc := 89) E hI ⟨X.length + 1, atX rfl⟩ rfl hg dX4_init_89 ?_
    refine lv_lconst (v := 1) (pc := 90) hx hb dX4_init_90 rfl ?_
    refine lv_iload_n (pc := 91) hx hb dX4_init_91 rfl (lv_at hl 0 rfl) ?_
    refine lv_lshl (v := lsh 1 (nI k)) (pc := 92) hx hb dX4_init_92 rfl ?_
    refine lv_lor (pc := 93) hx hb dX4_init_93 ?_
    refine rLst (t0 := 1) (pc := 94) E hI ⟨X.length + 1, atX rfl, setX⟩ rfl hg dX4_init_94 (fun H locs hI => ?_)
    refine lv_iinc (v := nI (k + 1)) (lv' := [(1, .int (nI (k + 1))), (0, .ref h0)]) (pc := 95) hx hb dX4_init_95 hl (k := 0) rfl (n65 k (by omega)) (by decide) rfl (fun ls hl => ?_)
    refine lv_goto (tgt := 75) (pc := 98) hx hb dX4_init_98 (by decide) ?_
    exact ih (k + 1) _ (by omega) hI hl
set_option maxRecDepth 100000 in
set_option maxHeartbeats 4000000 in
theorem tX4_init {l : Launch} {D : va_G} {z : Nat → Nat} {cy : Nat → ClassId} {X : va_W} {h0 : Nat} : CtK l yX4_init cX4_init 2 1 7 33 (D, tysC cy, SF z) (X ++ [(h0, .inr (4, [.null, .long 0, .int 0, .int 0, .null, .int 0, .null, .null, .null, .null, .null]))]) h0 (fun ad σ => X ++ cX4 ad cy 1 (σ 1)) (fun ad σ => ad 1 99 = h0 ∧ σ 1 = w0W) := by
  refine mkK (by decide) (by decide) rfl (fun p e s m args below meth c A E hr hlk hnm9 hI ls hl => ?_)
  have hx := E.1
  have hb := E.2.1
  refine lv_aload_n (pc := 0) hx hb dX4_init_0 rfl (lv_at hl 0 rfl) ?_
  refine rObj (pc := 1) E hl oi_RX4_3 (fitK (by decide)) (Nat.le_of_ble_eq_true rfl) dX4_init_1 ?_
  refine lv_aload_n (pc := 4) hx hb dX4_init_4 rfl (lv_at hl 0 rfl) ?_
  refine lv_iconst (v := 4) (pc := 5) hx hb dX4_init_5 rfl ?_
  refine rNewJ (t0 := 1) (N := 4) (pc := 6) E hI rfl ac_long (by decide) (by decide) (by decide) (Nat.le_of_ble_eq_true rfl) (Nat.le_of_ble_eq_true rfl) dX4_init_6 (fun q1 H hI => ?_)
  have hI : In (D, tysC cy, SF z) (X ++ [(h0, .inr (4, [.null, .long 0, .int 0, .int 0, .null, .int 0, .null, .null, .null, .null, .null])), (q1, .inl (cy 1, 4, .inr (.inl (fun _ => 0))))]) A s H [] := hI
  refine rPutF (k := 0) (f := 0) (ty := (tyX4 0)) (pc := 8) E hI rfl rfl inX4 tyX4 tyX4_ok nmX4 (by decide) lkX4_9 rfl hnm9 rfl (by decide +kernel) rfl rfl (Nat.le_of_ble_eq_true rfl) dX4_init_8 (fun H locs hI => ?_)
  have hI : In (D, tysC cy, SF z) (X ++ [(h0, .inr (4, [.ref q1, .long 0, .int 0, .int 0, .null, .int 0, .null, .null, .null, .null, .null])), (q1, .inl (cy 1, 4, .inr (.inl (fun _ => 0))))]) A s H locs := hI
  refine lv_aload_n (pc := 11) hx hb dX4_init_11 rfl (lv_at hl 0 rfl) ?_
  refine lv_lconst (v := 0) (pc := 12) hx hb dX4_init_12 rfl ?_
  refine rPutC (k := 0) (f := 1) (ty := .long) (pc := 13) E hI rfl rfl inX4 tyX4 tyX4_ok nmX4 (by decide) lkX4_15 rfl (by decide +kernel) rfl rfl (Nat.le_of_ble_eq_true rfl) dX4_init_13 (fun H locs hI => ?_)
  have hI : In (D, tysC cy, SF z) (X ++ [(h0, .inr (4, [.ref q1, .long 0, .int 0, .int 0, .null, .int 0, .null, .null, .null, .null, .null])), (q1, .inl (cy 1, 4, .inr (.inl (fun _ => 0))))]) A s H locs := hI
  refine lv_aload_n (pc := 16) hx hb dX4_init_16 rfl (lv_at hl 0 rfl) ?_
  refine lv_iconst (v := 0) (pc := 17) hx hb dX4_init_17 rfl ?_
  refine rPutC (k := 0) (f := 2) (ty := .int) (pc := 18) E hI rfl rfl inX4 tyX4 tyX4_ok nmX4 (by decide) lkX4_19 rfl (by decide +kernel) rfl rfl (Nat.le_of_ble_eq_true rfl) dX4_init_18 (fun H locs hI => ?_)
  have hI : In (D, tysC cy, SF z) (X ++ [(h0, .inr (4, [.ref q1, .long 0, .int 0, .int 0, .null, .int 0, .null, .null, .null, .null, .null])), (q1, .inl (cy 1, 4, .inr (.inl (fun _ => 0))))]) A s H locs := hI
  refine lv_aload_n (pc := 21) hx hb dX4_init_21 rfl (lv_at hl 0 rfl) ?_
  refine lv_iconst (v := 0) (pc := 22) hx hb dX4_init_22 rfl ?_
  refine rPutC (k := 0) (f := 3) (ty := .int) (pc := 23) E hI rfl rfl inX4 tyX4 tyX4_ok nmX4 (by decide) lkX4_23 rfl (by decide +kernel) rfl rfl (Nat.le_of_ble_eq_true rfl) dX4_init_23 (fun H locs hI => ?_)
  have hI : In (D, tysC cy, SF z) (X ++ [(h0, .inr (4, [.ref q1, .long 0, .int 0, .int 0, .null, .int 0, .null, .null, .null, .null, .null])), (q1, .inl (cy 1, 4, .inr (.inl (fun _ => 0))))]) A s H locs := hI
  refine lv_aload_n (pc := 26) hx hb dX4_init_26 rfl (lv_at hl 0 rfl) ?_
  refine lv_iconst (v := 4) (pc := 27) hx hb dX4_init_27 rfl ?_
  refine rNewI (t0 := 0) (N := 4) (pc := 28) E hI rfl ac_int (by decide) (by decide) (by decide) (Nat.le_of_ble_eq_true rfl) (Nat.le_of_ble_eq_true rfl) dX4_init_28 (fun q2 H hI => ?_)
  have hI : In (D, tysC cy, SF z) (X ++ [(h0, .inr (4, [.ref q1, .long 0, .int 0, .int 0, .null, .int 0, .null, .null, .null, .null, .null])), (q1, .inl (cy 1, 4, .inr (.inl (fun _ => 0)))), (q2, .inl (cy 0, 4, .inl (fun _ => 0)))]) A s H locs := hI
  refine rPutF (k := 0) (f := 4) (ty := (tyX4 4)) (pc := 30) E hI rfl rfl inX4 tyX4 tyX4_ok nmX4 (by decide) lkX4_26 rfl hnm9 rfl (by decide +kernel) rfl rfl (Nat.le_of_ble_eq_true rfl) dX4_init_30 (fun H locs hI => ?_)
  have hI : In (D, tysC cy, SF z) (X ++ [(h0, .inr (4, [.ref q1, .long 0, .int 0, .int 0, .ref q2, .int 0, .null, .null, .null, .null, .null])), (q1, .inl (cy 1, 4, .inr (.inl (fun _ => 0)))), (q2, .inl (cy 0, 4, .inl (fun _ => 0)))]) A s H locs := hI
  refine lv_aload_n (pc := 33) hx hb dX4_init_33 rfl (lv_at hl 0 rfl) ?_
  refine lv_iconst (v := 0) (pc := 34) hx hb dX4_init_34 rfl ?_
  refine rPutC (k := 0) (f := 5) (ty := .int) (pc := 35) E hI rfl rfl inX4 tyX4 tyX4_ok nmX4 (by decide) lkX4_30 rfl (by decide +kernel) rfl rfl (Nat.le_of_ble_eq_true rfl) dX4_init_35 (fun H locs hI => ?_)
  have hI : In (D, tysC cy, SF z) (X ++ [(h0, .inr (4, [.ref q1, .long 0, .int 0, .int 0, .ref q2, .int 0, .null, .null, .null, .null, .null])), (q1, .inl (cy 1, 4, .inr (.inl (fun _ => 0)))), (q2, .inl (cy 0, 4, .inl (fun _ => 0)))]) A s H locs := hI
  refine lv_aload_n (pc := 38) hx hb dX4_init_38 rfl (lv_at hl 0 rfl) ?_
  refine lv_iconst (v := 5) (pc := 39) hx hb dX4_init_39 rfl ?_
  refine rNewI (t0 := 0) (N := 5) (pc := 40) E hI rfl ac_int (by decide) (by decide) (by decide) (Nat.le_of_ble_eq_true rfl) (Nat.le_of_ble_eq_true rfl) dX4_init_40 (fun q3 H hI => ?_)
  have hI : In (D, tysC cy, SF z) (X ++ [(h0, .inr (4, [.ref q1, .long 0, .int 0, .int 0, .ref q2, .int 0, .null, .null, .null, .null, .null])), (q1, .inl (cy 1, 4, .inr (.inl (fun _ => 0)))), (q2, .inl (cy 0, 4, .inl (fun _ => 0))), (q3, .inl (cy 0, 5, .inl (fun _ => 0)))]) A s H locs := hI
  refine rPutF (k := 0) (f := 6) (ty := (tyX4 6)) (pc := 42) E hI rfl rfl inX4 tyX4 tyX4_ok nmX4 (by decide) lkX4_33 rfl hnm9 rfl (by decide +kernel) rfl rfl (Nat.le_of_ble_eq_true rfl) dX4_init_42 (fun H locs hI => ?_)
  have hI : In (D, tysC cy, SF z) (X ++ [(h0, .inr (4, [.ref q1, .long 0, .int 0, .int 0, .ref q2, .int 0, .ref q3, .null, .null, .null, .null])), (q1, .inl (cy 1, 4, .inr (.inl (fun _ => 0)))), (q2, .inl (cy 0, 4, .inl (fun _ => 0))), (q3, .inl (cy 0, 5, .inl (fun _ => 0)))]) A s H locs := hI
  refine lv_aload_n (pc := 45) hx hb dX4_init_45 rfl (lv_at hl 0 rfl) ?_
  refine lv_iconst (v := 5) (pc := 46) hx hb dX4_init_46 rfl ?_
  refine rNewI (t0 := 0) (N := 5) (pc := 47) E hI rfl ac_int (by decide) (by decide) (by decide) (Nat.le_of_ble_eq_true rfl) (Nat.le_of_ble_eq_true rfl) dX4_init_47 (fun q4 H hI => ?_)
  have hI : In (D, tysC cy, SF z) (X ++ [(h0, .inr (4, [.ref q1, .long 0, .int 0, .int 0, .ref q2, .int 0, .ref q3, .null, .null, .null, .null])), (q1, .inl (cy 1, 4, .inr (.inl (fun _ => 0)))), (q2, .inl (cy 0, 4, .inl (fun _ => 0))), (q3, .inl (cy 0, 5, .inl (fun _ => 0))), (q4, .inl (cy 0, 5, .inl (fun _ => 0)))]) A s H locs := hI
  refine rPutF (k := 0) (f := 7) (ty := (tyX4 7)) (pc := 49) E hI rfl rfl inX4 tyX4 tyX4_ok nmX4 (by decide) lkX4_36 rfl hnm9 rfl (by decide +kernel) rfl rfl (Nat.le_of_ble_eq_true rfl) dX4_init_49 (fun H locs hI => ?_)
  have hI : In (D, tysC cy, SF z) (X ++ [(h0, .inr (4, [.ref q1, .long 0, .int 0, .int 0, .ref q2, .int 0, .ref q3, .ref q4, .null, .null, .null])), (q1, .inl (cy 1, 4, .inr (.inl (fun _ => 0)))), (q2, .inl (cy 0, 4, .inl (fun _ => 0))), (q3, .inl (cy 0, 5, .inl (fun _ => 0))), (q4, .inl (cy 0, 5, .inl (fun _ => 0)))]) A s H locs := hI
  refine lv_aload_n (pc := 52) hx hb dX4_init_52 rfl (lv_at hl 0 rfl) ?_
  refine lv_iconst (v := 5) (pc := 53) hx hb dX4_init_53 rfl ?_
  refine rNewI (t0 := 0) (N := 5) (pc := 54) E hI rfl ac_int (by decide) (by decide) (by decide) (Nat.le_of_ble_eq_true rfl) (Nat.le_of_ble_eq_true rfl) dX4_init_54 (fun q5 H hI => ?_)
  have hI : In (D, tysC cy, SF z) (X ++ [(h0, .inr (4, [.ref q1, .long 0, .int 0, .int 0, .ref q2, .int 0, .ref q3, .ref q4, .null, .null, .null])), (q1, .inl (cy 1, 4, .inr (.inl (fun _ => 0)))), (q2, .inl (cy 0, 4, .inl (fun _ => 0))), (q3, .inl (cy 0, 5, .inl (fun _ => 0))), (q4, .inl (cy 0, 5, .inl (fun _ => 0))), (q5, .inl (cy 0, 5, .inl (fun _ => 0)))]) A s H locs := hI
  refine rPutF (k := 0) (f := 8) (ty := (tyX4 8)) (pc := 56) E hI rfl rfl inX4 tyX4 tyX4_ok nmX4 (by decide) lkX4_39 rfl hnm9 rfl (by decide +kernel) rfl rfl (Nat.le_of_ble_eq_true rfl) dX4_init_56 (fun H locs hI => ?_)
  have hI : In (D, tysC cy, SF z) (X ++ [(h0, .inr (4, [.ref q1, .long 0, .int 0, .int 0, .ref q2, .int 0, .ref q3, .ref q4, .ref q5, .null, .null])), (q1, .inl (cy 1, 4, .inr (.inl (fun _ => 0)))), (q2, .inl (cy 0, 4, .inl (fun _ => 0))), (q3, .inl (cy 0, 5, .inl (fun _ => 0))), (q4, .inl (cy 0, 5, .inl (fun _ => 0))), (q5, .inl (cy 0, 5, .inl (fun _ => 0)))]) A s H locs := hI
  refine lv_aload_n (pc := 59) hx hb dX4_init_59 rfl (lv_at hl 0 rfl) ?_
  refine lv_iconst (v := 5) (pc := 60) hx hb dX4_init_60 rfl ?_
  refine rNewI (t0 := 0) (N := 5) (pc := 61) E hI rfl ac_int (by decide) (by decide) (by decide) (Nat.le_of_ble_eq_true rfl) (Nat.le_of_ble_eq_true rfl) dX4_init_61 (fun q6 H hI => ?_)
  have hI : In (D, tysC cy, SF z) (X ++ [(h0, .inr (4, [.ref q1, .long 0, .int 0, .int 0, .ref q2, .int 0, .ref q3, .ref q4, .ref q5, .null, .null])), (q1, .inl (cy 1, 4, .inr (.inl (fun _ => 0)))), (q2, .inl (cy 0, 4, .inl (fun _ => 0))), (q3, .inl (cy 0, 5, .inl (fun _ => 0))), (q4, .inl (cy 0, 5, .inl (fun _ => 0))), (q5, .inl (cy 0, 5, .inl (fun _ => 0))), (q6, .inl (cy 0, 5, .inl (fun _ => 0)))]) A s H locs := hI
  refine rPutF (k := 0) (f := 9) (ty := (tyX4 9)) (pc := 63) E hI rfl rfl inX4 tyX4 tyX4_ok nmX4 (by decide) lkX4_42 rfl hnm9 rfl (by decide +kernel) rfl rfl (Nat.le_of_ble_eq_true rfl) dX4_init_63 (fun H locs hI => ?_)
  have hI : In (D, tysC cy, SF z) (X ++ [(h0, .inr (4, [.ref q1, .long 0, .int 0, .int 0, .ref q2, .int 0, .ref q3, .ref q4, .ref q5, .ref q6, .null])), (q1, .inl (cy 1, 4, .inr (.inl (fun _ => 0)))), (q2, .inl (cy 0, 4, .inl (fun _ => 0))), (q3, .inl (cy 0, 5, .inl (fun _ => 0))), (q4, .inl (cy 0, 5, .inl (fun _ => 0))), (q5, .inl (cy 0, 5, .inl (fun _ => 0))), (q6, .inl (cy 0, 5, .inl (fun _ => 0)))]) A s H locs := hI
  refine lv_aload_n (pc := 66) hx hb dX4_init_66 rfl (lv_at hl 0 rfl) ?_
  refine lv_iconst (v := 5) (pc := 67) hx hb dX4_init_67 rfl ?_
  refine rNewI (t0 := 0) (N := 5) (pc := 68) E hI rfl ac_int (by decide) (by decide) (by decide) (Nat.le_of_ble_eq_true rfl) (Nat.le_of_ble_eq_true rfl) dX4_init_68 (fun q7 H hI => ?_)
  have hI : In (D, tysC cy, SF z) (X ++ [(h0, .inr (4, [.ref q1, .long 0, .int 0, .int 0, .ref q2, .int 0, .ref q3, .ref q4, .ref q5, .ref q6, .null])), (q1, .inl (cy 1, 4, .inr (.inl (fun _ => 0)))), (q2, .inl (cy 0, 4, .inl (fun _ => 0))), (q3, .inl (cy 0, 5, .inl (fun _ => 0))), (q4, .inl (cy 0, 5, .inl (fun _ => 0))), (q5, .inl (cy 0, 5, .inl (fun _ => 0))), (q6, .inl (cy 0, 5, .inl (fun _ => 0))), (q7, .inl (cy 0, 5, .inl (fun _ => 0)))]) A s H locs := hI
  refine rPutF (k := 0) (f := 10) (ty := (tyX4 10)) (pc := 70) E hI rfl rfl inX4 tyX4 tyX4_ok nmX4 (by decide) lkX4_45 rfl hnm9 rfl (by decide +kernel) rfl rfl (Nat.le_of_ble_eq_true rfl) dX4_init_70 (fun H locs hI => ?_)
  have hI : In (D, tysC cy, SF z) (X ++ [(h0, .inr (4, [.ref q1, .long 0, .int 0, .int 0, .ref q2, .int 0, .ref q3, .ref q4, .ref q5, .ref q6, .ref q7])), (q1, .inl (cy 1, 4, .inr (.inl (fun _ => 0)))), (q2, .inl (cy 0, 4, .inl (fun _ => 0))), (q3, .inl (cy 0, 5, .inl (fun _ => 0))), (q4, .inl (cy 0, 5, .inl (fun _ => 0))), (q5, .inl (cy 0, 5, .inl (fun _ => 0))), (q6, .inl (cy 0, 5, .inl (fun _ => 0))), (q7, .inl (cy 0, 5, .inl (fun _ => 0)))]) A s H locs := hI
  refine lv_iconst (v := 0) (pc := 73) hx hb dX4_init_73 rfl ?_
  refine lv_istore_n (lv' := [(1, .int 0), (0, .ref h0)]) (pc := 74) hx hb dX4_init_74 rfl hl (by decide) rfl (fun ls hl => ?_)
  have hz := lX4_init (l := l) (e := e) (below := below) E hr hlk 64 0 (fun _ => 0) (by decide) hI hl
  have e9 : (fun (ad : Nat → Nat → Nat) (σ : St) => ad 1 99 = h0 ∧ ∃ f : Nat → Int64, f = wIt 64 0 (fun _ => 0) ∧ σ 1 = ((fun _ => 0, fun _ => 0, fun _ _ => 0, va_up (fun _ _ => 0) 0 f) : OT)) = (fun ad σ => ad 1 99 = h0 ∧ σ 1 = w0W) := by
    funext ad σ
    refine propext ⟨fun h => ⟨h.1, ?_⟩, fun h => ⟨h.1, wanW, rfl, h.2⟩⟩
    obtain ⟨f, hf, h2⟩ := h.2
    rw [h2, hf]
    rfl
  rw [e9] at hz
  exact hz
