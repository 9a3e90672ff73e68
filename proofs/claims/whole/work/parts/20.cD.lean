abbrev PT : Type := Nat → Int32 → St → (Int32 → St → Prop) → Prop
def HT (y : MethodName) (cc : ByteArray) (nL : Nat) (l : Launch) (D : va_G) (cy : Nat → ClassId) (z : Nat → Nat) (ad : Nat → Nat → Nat) (Rr : va_W) (d : Nat) (Z : PT) : Prop := ∀ {σ : St} {Q : Int32 → St → Prop} {t : Nat} {k : Int32}, kd t = 3 → Z t k σ Q → CtI l y cc nL .boolean d (D, tysC cy, SF z) (LC ad cy Rr) [.ref (ad 5 99), .ref (ad t 99), .int k] σ Q
def wX0_single_j70 (zS : PT) (zE : PT) (q1 : Nat) (a2 : Int32) (σ : St) (Q : Int32 → St → Prop) : Prop := ((a2 < 5 → wX0_skip 40 σ (fun r6 σ5 => ((r6 = 0 → wX0_advance σ5 (fun σ8 => zS q1 (a2 + 1) σ8 (fun r10 σ9 => wX3_add q1 (-11) σ9 (fun σ11 => (r10 = 0 ∨ r10 = 1) ∧ Q r10 σ11)))) ∧ (¬ r6 = 0 → zE q1 (a2 + 1) σ5 (fun r14 σ13 => ((r14 = 0 → Q 0 σ13) ∧ (¬ r14 = 0 → wX0_skip 41 σ13 (fun r17 σ16 => ((r17 = 0 → Q 0 σ16) ∧ (¬ r17 = 0 → Q 1 σ16)))))))))) ∧ (¬ a2 < 5 → Q 0 σ))
set_option maxRecDepth 100000 in
set_option maxHeartbeats 4000000 in
theorem bX0_single_70 {p : Program} {l : Launch} {e : Env} {s : State} {m : MethodId} {args : Array Value} {below : List Frame} {meth : Method} {c : Code} {H : Heap} {locs : List Loc} {ls : Array Slot} {D : va_G} {z : Nat → Nat} {A : Nat → Prop} {σ : St} {ad : Nat → Nat → Nat} {cy : Nat → ClassId} {Rr : va_W} {Q : Int32 → St → Prop} {q1 : Nat} {a2 : Int32} {d dS dE : Nat} {zS zE : PT} (hS : dS < d) (hE : dE < d) (hd : 20 < d) (tS : HT yX0_single cX0_single 4 l D cy z ad Rr dS zS) (tE : HT yX0_either cX0_either 5 l D cy z ad Rr dE zE) (E : CallFix p m c cX0_single 4 s args TB RX0) (hr : meth.sig.returnType = some .boolean) (hlk : meth.locks = false) (hq1 : kd q1 = 3) (hf : wX0_single_j70 zS zE q1 a2 σ Q) (hI : In (D, tysC cy, SF z) (LC ad cy Rr σ) A s H locs) (hl : lv_has ls 4 [(0, .ref (ad 5 99)), (1, .ref (ad q1 99)), (2, .int a2)]) : W p l e (rmD d) s m args below meth c H locs 0 0 (PI below args s (D, tysC cy, SF z) A (LC ad cy Rr) Q) (F0 m 70 ls []) := by
  have hx := E.1
  have hb := E.2.1
  unfold wX0_single_j70 at hf
  refine lv_iload_n (pc := 70) hx hb dX0_single_70 rfl (lv_at hl 2 rfl) ?_
  refine lv_iconst (v := 5) (pc := 71) hx hb dX0_single_71 rfl ?_
  refine lv_icmp_lt (tgt := 77) (pc := 72) hx hb dX0_single_72 (by decide) (fun c4 => ?_) (fun c4 => ?_)
  · have hf := hf.1 c4
    refine lv_aload_n (pc := 77) hx hb dX0_single_77 rfl (lv_at hl 0 rfl) ?_
    refine lv_bipush (v := 40) (pc := 78) hx hb dX0_single_78 rfl ?_
    refine callVI (G := (D, tysC cy, SF z)) (L := LC ad cy Rr) (pc := 80) (As := [.int 40]) (rest := []) stabSF E cs0 hl hI (tX0_skip hf) mwX0_39 (fitD (by omega)) (at0 rfl) rfl rfl rfl rfl (Nat.le_of_ble_eq_true rfl) dX0_single_80 (fun r6 σ5 H locs hf hI => ?_)
    refine lv_if_eq (tgt := 112) (pc := 83) hx hb dX0_single_83 (by decide) (fun c7 => ?_) (fun c7 => ?_)
    · have hf := hf.1 c7
      refine lv_aload_n (pc := 112) hx hb dX0_single_112 rfl (lv_at hl 0 rfl) ?_
      refine callVV (G := (D, tysC cy, SF z)) (L := LC ad cy Rr) (pc := 113) (As := []) (rest := []) stabSF E cs0 hl hI (tX0_advance hf) mwX0_36 (fitD (by omega)) (at0 rfl) rfl rfl rfl rfl (Nat.le_of_ble_eq_true rfl) dX0_single_113 (fun σ8 H locs hf hI => ?_)
      refine lv_aload_n (pc := 116) hx hb dX0_single_116 rfl (lv_at hl 0 rfl) ?_
      refine lv_aload_n (pc := 117) hx hb dX0_single_117 rfl (lv_at hl 1 rfl) ?_
      refine lv_iload_n (pc := 118) hx hb dX0_single_118 rfl (lv_at hl 2 rfl) ?_
      refine lv_iconst (v := 1) (pc := 119) hx hb dX0_single_119 rfl ?_
      refine lv_iadd (pc := 120) hx hb dX0_single_120 ?_
      refine callVI (G := (D, tysC cy, SF z)) (L := LC ad cy Rr) (pc := 121) (As := [.ref (ad q1 99), .int (a2 + 1)]) (rest := []) stabSF E cs0 hl hI (tS hq1 hf) mwX0_69 (fitD hS) (at0 rfl) rfl rfl rfl rfl (Nat.le_of_ble_eq_true rfl) dX0_single_121 (fun r10 σ9 H locs hf hI => ?_)
      refine lv_istore_n (lv' := [(3, .int r10), (0, .ref (ad 5 99)), (1, .ref (ad q1 99)), (2, .int a2)]) (pc := 124) hx hb dX0_single_124 rfl hl (by decide) rfl (fun ls hl => ?_)
      refine lv_aload_n (pc := 125) hx hb dX0_single_125 rfl (lv_at hl 2 rfl) ?_
      refine lv_bipush (v := (-11)) (pc := 126) hx hb dX0_single_126 rfl ?_
      refine callVV (G := (D, tysC cy, SF z)) (L := LC ad cy Rr) (pc := 128) (As := [.int (-11)]) (rest := []) stabSF E cs0 hl hI (tX3_add hq1 hf) mwX0_54 (fitD (by omega)) (at3 hq1) rfl rfl rfl rfl (Nat.le_of_ble_eq_true rfl) dX0_single_128 (fun σ11 H locs hf hI => ?_)
      refine lv_iload_n (pc := 131) hx hb dX0_single_131 rfl (lv_at hl 0 rfl) ?_
      have z12 := hf.1
      have hf := hf.2
      exact rZ (pc := 132) E hr hlk hI z12 hf dX0_single_132
    · have hf := hf.2 c7
      refine lv_aload_n (pc := 86) hx hb dX0_single_86 rfl (lv_at hl 0 rfl) ?_
      refine lv_aload_n (pc := 87) hx hb dX0_single_87 rfl (lv_at hl 1 rfl) ?_
      refine lv_iload_n (pc := 88) hx hb dX0_single_88 rfl (lv_at hl 2 rfl) ?_
      refine lv_iconst (v := 1) (pc := 89) hx hb dX0_single_89 rfl ?_
      refine lv_iadd (pc := 90) hx hb dX0_single_90 ?_
      refine callVI (G := (D, tysC cy, SF z)) (L := LC ad cy Rr) (pc := 91) (As := [.ref (ad q1 99), .int (a2 + 1)]) (rest := []) stabSF E cs0 hl hI (tE hq1 hf) mwX0_43 (fitD hE) (at0 rfl) rfl rfl rfl rfl (Nat.le_of_ble_eq_true rfl) dX0_single_91 (fun r14 σ13 H locs hf hI => ?_)
      refine lv_if_eq (tgt := 110) (pc := 94) hx hb dX0_single_94 (by decide) (fun c15 => ?_) (fun c15 => ?_)
      · have hf := hf.1 c15
        refine lv_iconst (v := 0) (pc := 110) hx hb dX0_single_110 rfl ?_
        exact rZ (pc := 111) E hr hlk hI (Or.inl rfl) hf dX0_single_111
      · have hf := hf.2 c15
        refine lv_aload_n (pc := 97) hx hb dX0_single_97 rfl (lv_at hl 0 rfl) ?_
        refine lv_bipush (v := 41) (pc := 98) hx hb dX0_single_98 rfl ?_
        refine callVI (G := (D, tysC cy, SF z)) (L := LC ad cy Rr) (pc := 100) (As := [.int 41]) (rest := []) stabSF E cs0 hl hI (tX0_skip hf) mwX0_39 (fitD (by omega)) (at0 rfl) rfl rfl rfl rfl (Nat.le_of_ble_eq_true rfl) dX0_single_100 (fun r17 σ16 H locs hf hI => ?_)
        refine lv_if_eq (tgt := 110) (pc := 103) hx hb dX0_single_103 (by decide) (fun c18 => ?_) (fun c18 => ?_)
        · have hf := hf.1 c18
          refine lv_iconst (v := 0) (pc := 110) hx hb dX0_single_110 rfl ?_
          exact rZ (pc := 111) E hr hlk hI (Or.inl rfl) hf dX0_single_111
        · have hf := hf.2 c18
          refine lv_iconst (v := 1) (pc := 106) hx hb dX0_single_106 rfl ?_
          refine lv_goto (tgt := 111) (pc := 107) hx hb dX0_single_107 (by decide) ?_
          exact rZ (pc := 111) E hr hlk hI (Or.inr rfl) hf dX0_single_111
  · have hf := hf.2 c4
    refine lv_iconst (v := 0) (pc := 75) hx hb dX0_single_75 rfl ?_
    exact rZ (pc := 76) E hr hlk hI (Or.inl rfl) hf dX0_single_76
def wX0_single (zS : PT) (zE : PT) (oa : Nat) (p2 : Int32) (σ : St) (Q : Int32 → St → Prop) : Prop := ((¬ (gI σ 5 3) = 2 → (((gI σ 5 3) < 306 → (((gI σ 5 3) = 45 → (wX0_single_j70 zS zE oa p2 σ Q)) ∧ (¬ (gI σ 5 3) = 45 → ((¬ (gI σ 5 3) = 40 → Q 0 σ) ∧ ((gI σ 5 3) = 40 → (wX0_single_j70 zS zE oa p2 σ Q)))))) ∧ (¬ (gI σ 5 3) < 306 → wX3_add oa ((-1) - ((gI σ 5 3) - 306)) σ (fun σ20 => wX0_advance σ20 (fun σ21 => Q 1 σ21))))) ∧ ((gI σ 5 3) = 2 → wX3_add oa (gI σ 5 5) σ (fun σ22 => wX0_advance σ22 (fun σ23 => Q 1 σ23))))
set_option maxRecDepth 100000 in
set_option maxHeartbeats 4000000 in
theorem bX0_single {p : Program} {l : Launch} {e : Env} {s : State} {m : MethodId} {args : Array Value} {below : List Frame} {meth : Method} {c : Code} {H : Heap} {locs : List Loc} {ls : Array Slot} {D : va_G} {z : Nat → Nat} {A : Nat → Prop} {σ : St} {ad : Nat → Nat → Nat} {cy : Nat → ClassId} {Rr : va_W} {Q : Int32 → St → Prop} {oa : Nat} {p2 : Int32} {d dS dE : Nat} {zS zE : PT} (hS : dS < d) (hE : dE < d) (hd : 20 < d) (tS : HT yX0_single cX0_single 4 l D cy z ad Rr dS zS) (tE : HT yX0_either cX0_either 5 l D cy z ad Rr dE zE) (E : CallFix p m c cX0_single 4 s args TB RX0) (hr : meth.sig.returnType = some .boolean) (hlk : meth.locks = false) (hoa : kd oa = 3) (hf : wX0_single zS zE oa p2 σ Q) (hI : In (D, tysC cy, SF z) (LC ad cy Rr σ) A s H locs) (hl : lv_has ls 4 [(0, .ref (ad 5 99)), (1, .ref (ad oa 99)), (2, .int p2)]) : W p l e (rmD d) s m args below meth c H locs 0 0 (PI below args s (D, tysC cy, SF z) A (LC ad cy Rr) Q) (F0 m 0 ls []) := by
  have hx := E.1
  have hb := E.2.1
  unfold wX0_single at hf
  refine lv_aload_n (pc := 0) hx hb dX0_single_0 rfl (lv_at hl 0 rfl) ?_
  refine g0_3 (pc := 1) E hI rfl lkX0_22 dX0_single_1 ?_
  refine lv_iconst (v := 2) (pc := 4) hx hb dX0_single_4 rfl ?_
  refine lv_icmp_ne (tgt := 22) (pc := 5) hx hb dX0_single_5 (by decide) (fun c1 => ?_) (fun c1 => ?_)
  · have hf := hf.1 c1
    refine lv_aload_n (pc := 22) hx hb dX0_single_22 rfl (lv_at hl 0 rfl) ?_
    refine g0_3 (pc := 23) E hI rfl lkX0_22 dX0_single_23 ?_
    refine lv_sipush (v := 306) (pc := 26) hx hb dX0_single_26 rfl ?_
    refine lv_icmp_lt (tgt := 52) (pc := 29) hx hb dX0_single_29 (by decide) (fun c2 => ?_) (fun c2 => ?_)
    · have hf := hf.1 c2
      refine lv_aload_n (pc := 52) hx hb dX0_single_52 rfl (lv_at hl 0 rfl) ?_
      refine g0_3 (pc := 53) E hI rfl lkX0_22 dX0_single_53 ?_
      refine lv_bipush (v := 45) (pc := 56) hx hb dX0_single_56 rfl ?_
      refine lv_icmp_eq (tgt := 70) (pc := 58) hx hb dX0_single_58 (by decide) (fun c3 => ?_) (fun c3 => ?_)
      · have hf := hf.1 c3
        exact bX0_single_70 hS hE hd tS tE E hr hlk hoa hf hI (lv_sub hl [0, 1, 2] rfl)
      · have hf := hf.2 c3
        refine lv_aload_n (pc := 61) hx hb dX0_single_61 rfl (lv_at hl 0 rfl) ?_
        refine g0_3 (pc := 62) E hI rfl lkX0_22 dX0_single_62 ?_
        refine lv_bipush (v := 40) (pc := 65) hx hb dX0_single_65 rfl ?_
        refine lv_icmp_ne (tgt := 75) (pc := 67) hx hb dX0_single_67 (by decide) (fun c19 => ?_) (fun c19 => ?_)
        · have hf := hf.1 c19
          refine lv_iconst (v := 0) (pc := 75) hx hb dX0_single_75 rfl ?_
          exact rZ (pc := 76) E hr hlk hI (Or.inl rfl) hf dX0_single_76
        · have hf := hf.2 c19
          exact bX0_single_70 hS hE hd tS tE E hr hlk hoa hf hI (lv_sub hl [0, 1, 2] rfl)
    · have hf := hf.2 c2
      refine lv_aload_n (pc := 32) hx hb dX0_single_32 rfl (lv_at hl 1 rfl) ?_
      refine lv_iconst (v := (-1)) (pc := 33) hx hb dX0_single_33 rfl ?_
      refine lv_aload_n (pc := 34) hx hb dX0_single_34 rfl (lv_at hl 0 rfl) ?_
      refine g0_3 (pc := 35) E hI rfl lkX0_22 dX0_single_35 ?_
      refine lv_sipush (v := 306) (pc := 38) hx hb dX0_single_38 rfl ?_
      refine lv_isub (pc := 41) hx hb dX0_single_41 ?_
      refine lv_isub (pc := 42) hx hb dX0_single_42 ?_
      refine callVV (G := (D, tysC cy, SF z)) (L := LC ad cy Rr) (pc := 43) (As := [.int ((-1) - ((gI σ 5 3) - 306))]) (rest := []) stabSF E cs0 hl hI (tX3_add hoa hf) mwX0_54 (fitD (by omega)) (at3 hoa) rfl rfl rfl rfl (Nat.le_of_ble_eq_true rfl) dX0_single_43 (fun σ20 H locs hf hI => ?_)
      refine lv_aload_n (pc := 46) hx hb dX0_single_46 rfl (lv_at hl 0 rfl) ?_
      refine callVV (G := (D, tysC cy, SF z)) (L := LC ad cy Rr) (pc := 47) (As := []) (rest := []) stabSF E cs0 hl hI (tX0_advance hf) mwX0_36 (fitD (by omega)) (at0 rfl) rfl rfl rfl rfl (Nat.le_of_ble_eq_true rfl) dX0_single_47 (fun σ21 H locs hf hI => ?_)
      refine lv_iconst (v := 1) (pc := 50) hx hb dX0_single_50 rfl ?_
      exact rZ (pc := 51) E hr hlk hI (Or.inr rfl) hf dX0_single_51
  · have hf := hf.2 c1
    refine lv_aload_n (pc := 8) hx hb dX0_single_8 rfl (lv_at hl 1 rfl) ?_
    refine lv_aload_n (pc := 9) hx hb dX0_single_9 rfl (lv_at hl 0 rfl) ?_
    refine g0_5 (pc := 10) E hI rfl lkX0_28 dX0_single_10 ?_
    refine callVV (G := (D, tysC cy, SF z)) (L := LC ad cy Rr) (pc := 13) (As := [.int (gI σ 5 5)]) (rest := []) stabSF E cs0 hl hI (tX3_add hoa hf) mwX0_54 (fitD (by omega)) (at3 hoa) rfl rfl rfl rfl (Nat.le_of_ble_eq_true rfl) dX0_single_13 (fun σ22 H locs hf hI => ?_)
    refine lv_aload_n (pc := 16) hx hb dX0_single_16 rfl (lv_at hl 0 rfl) ?_
    refine callVV (G := (D, tysC cy, SF z)) (L := LC ad cy Rr) (pc := 17) (As := []) (rest := []) stabSF E cs0 hl hI (tX0_advance hf) mwX0_36 (fitD (by omega)) (at0 rfl) rfl rfl rfl rfl (Nat.le_of_ble_eq_true rfl) dX0_single_17 (fun σ23 H locs hf hI => ?_)
    refine lv_iconst (v := 1) (pc := 20) hx hb dX0_single_20 rfl ?_
    exact rZ (pc := 21) E hr hlk hI (Or.inr rfl) hf dX0_single_21
theorem tX0_single {l : Launch} {D : va_G} {z : Nat → Nat} {σ : St} {ad : Nat → Nat → Nat} {cy : Nat → ClassId} {Rr : va_W} {Q : Int32 → St → Prop} {oa : Nat} {p2 : Int32} {d dS dE : Nat} {zS zE : PT} (hS : dS < d) (hE : dE < d) (hd : 20 < d) (tS : HT yX0_single cX0_single 4 l D cy z ad Rr dS zS) (tE : HT yX0_either cX0_either 5 l D cy z ad Rr dE zE) (hoa : kd oa = 3) (hf : wX0_single zS zE oa p2 σ Q) : CtI l yX0_single cX0_single 4 .boolean d (D, tysC cy, SF z) (LC ad cy Rr) [.ref (ad 5 99), .ref (ad oa 99), .int p2] σ Q := mkI (by decide) (Nat.le_of_ble_eq_true rfl) (fun p e s m below meth c A E hr hlk hI ls hl => bX0_single hS hE hd tS tE E hr hlk hoa hf hI hl)

def wX0_term_l10s (zS : PT) (ih : Nat → Int32 → Int32 → Int32 → St → Prop) (q1 : Nat) (a2 : Int32) (a3 : Int32) (a4 : Int32) (σ : St) (Q : Int32 → St → Prop) : Prop := ((160 ≤ a4 → (a3 = 0 ∨ a3 = 1) ∧ Q a3 σ) ∧ (¬ 160 ≤ a4 → ((a3 = 0 → (a3 = 0 ∨ a3 = 1) ∧ Q a3 σ) ∧ (¬ a3 = 0 → ((¬ (gI σ 5 3) = 42 → (a3 = 0 ∨ a3 = 1) ∧ Q a3 σ) ∧ ((gI σ 5 3) = 42 → wX0_advance σ (fun σ9 => zS q1 a2 σ9 (fun r11 σ10 => wX3_add q1 (-27) σ10 (fun σ12 => ∀ x13 : Int32, x13 = a4 + 1 → (ih q1 a2 r11 x13 σ12))))))))))
def wX0_term_l10 (zS : PT) (n : Nat) : Nat → Int32 → Int32 → Int32 → St → (Int32 → St → Prop) → Prop := @Nat.rec (fun _ => Nat → Int32 → Int32 → Int32 → St → (Int32 → St → Prop) → Prop) (fun _ _ _ _ _ _ => False) (fun _ ih q1 a2 a3 a4 σ Q => wX0_term_l10s zS (fun q1 a2 a3 a4 σ => ih q1 a2 a3 a4 σ Q) q1 a2 a3 a4 σ Q) n
set_option maxRecDepth 100000 in
set_option maxHeartbeats 4000000 in
theorem bX0_term_10 {p : Program} {l : Launch} {e : Env} {s : State} {m : MethodId} {args : Array Value} {below : List Frame} {meth : Method} {c : Code} {D : va_G} {z : Nat → Nat} {A : Nat → Prop} {ad : Nat → Nat → Nat} {cy : Nat → ClassId} {Rr : va_W} {Q : Int32 → St → Prop} {d dS : Nat} {zS : PT} (hS : dS < d) (hd : 20 < d) (tS : HT yX0_single cX0_single 4 l D cy z ad Rr dS zS) (E : CallFix p m c cX0_term 5 s args TB RX0) (hr : meth.sig.returnType = some .boolean) (hlk : meth.locks = false) : ∀ (n : Nat) {q1 : Nat} {a2 : Int32} {a3 : Int32} {a4 : Int32} (hq1 : kd q1 = 3) {σ : St} {H : Heap} {locs : List Loc} {ls : Array Slot}, wX0_term_l10 zS n q1 a2 a3 a4 σ Q → In (D, tysC cy, SF z) (LC ad cy Rr σ) A s H locs → lv_has ls 5 [(0, .ref (ad 5 99)), (1, .ref (ad q1 99)), (2, .int a2), (3, .int a3), (4, .int a4)] → W p l e (rmD d) s m args below meth c H locs 0 0 (PI below args s (D, tysC cy, SF z) A (LC ad cy Rr) Q) (F0 m 10 ls []) := by
  have hx := E.1
  have hb := E.2.1
  intro n
  induction n with
  | zero => intro q1 a2 a3 a4 hq1 σ H locs ls hf hI hl; exact False.elim hf
  | succ n ih =>
    intro q1 a2 a3 a4 hq1 σ H locs ls hf hI hl
    have hf : wX0_term_l10s zS (fun q1 a2 a3 a4 σ => wX0_term_l10 zS n q1 a2 a3 a4 σ Q) q1 a2 a3 a4 σ Q := hf
    unfold wX0_term_l10s at hf
    refine lv_iload (pc := 10) hx hb dX0_term_10 (lv_at hl 4 rfl) ?_
    refine lv_sipush (v := 160) (pc := 12) hx hb dX0_term_12 rfl ?_
    refine lv_icmp_ge (tgt := 54) (pc := 15) hx hb dX0_term_15 (by decide) (fun c3 => ?_) (fun c3 => ?_)
    · have hf := hf.1 c3
      refine lv_iload_n (pc := 54) hx hb dX0_term_54 rfl (lv_at hl 3 rfl) ?_
      have z4 := hf.1
      have hf := hf.2
      exact rZ (pc := 55) E hr hlk hI z4 hf dX0_term_55
    · have hf := hf.2 c3
      refine lv_iload_n (pc := 18) hx hb dX0_term_18 rfl (lv_at hl 3 rfl) ?_
      refine lv_if_eq (tgt := 54) (pc := 19) hx hb dX0_term_19 (by decide) (fun c5 => ?_) (fun c5 => ?_)
      · have hf := hf.1 c5
        refine lv_iload_n (pc := 54) hx hb dX0_term_54 rfl (lv_at hl 3 rfl) ?_
        have z6 := hf.1
        have hf := hf.2
        exact rZ (pc := 55) E hr hlk hI z6 hf dX0_term_55
      · have hf := hf.2 c5
        refine lv_aload_n (pc := 22) hx hb dX0_term_22 rfl (lv_at hl 0 rfl) ?_
        refine g0_3 (pc := 23) E hI rfl lkX0_22 dX0_term_23 ?_
        refine lv_bipush (v := 42) (pc := 26) hx hb dX0_term_26 rfl ?_
        refine lv_icmp_ne (tgt := 54) (pc := 28) hx hb dX0_term_28 (by decide) (fun c7 => ?_) (fun c7 => ?_)
        · have hf := hf.1 c7
          refine lv_iload_n (pc := 54) hx hb dX0_term_54 rfl (lv_at hl 3 rfl) ?_
          have z8 := hf.1
          have hf := hf.2
          exact rZ (pc := 55) E hr hlk hI z8 hf dX0_term_55
        · have hf := hf.2 c7
          refine lv_aload_n (pc := 31) hx hb dX0_term_31 rfl (lv_at hl 0 rfl) ?_
          refine callVV (G := (D, tysC cy, SF z)) (L := LC ad cy Rr) (pc := 32) (As := []) (rest := []) stabSF E cs0 hl hI (tX0_advance hf) mwX0_36 (fitD (by omega)) (at0 rfl) rfl rfl rfl rfl (Nat.le_of_ble_eq_true rfl) dX0_term_32 (fun σ9 H locs hf hI => ?_)
          refine lv_aload_n (pc := 35) hx hb dX0_term_35 rfl (lv_at hl 0 rfl) ?_
          refine lv_aload_n (pc := 36) hx hb dX0_term_36 rfl (lv_at hl 1 rfl) ?_
          refine lv_iload_n (pc := 37) hx hb dX0_term_37 rfl (lv_at hl 2 rfl) ?_
          refine callVI (G := (D, tysC cy, SF z)) (L := LC ad cy Rr) (pc := 38) (As := [.ref (ad q1 99), .int a2]) (rest := []) stabSF E cs0 hl hI (tS hq1 hf) mwX0_69 (fitD hS) (at0 rfl) rfl rfl rfl rfl (Nat.le_of_ble_eq_true rfl) dX0_term_38 (fun r11 σ10 H locs hf hI => ?_)
          refine lv_istore_n (lv' := [(3, .int r11), (0, .ref (ad 5 99)), (1, .ref (ad q1 99)), (2, .int a2), (4, .int a4)]) (pc := 41) hx hb dX0_term_41 rfl hl (by decide) rfl (fun ls hl => ?_)
          refine lv_aload_n (pc := 42) hx hb dX0_term_42 rfl (lv_at hl 2 rfl) ?_
          refine lv_bipush (v := (-27)) (pc := 43) hx hb dX0_term_43 rfl ?_
          refine callVV (G := (D, tysC cy, SF z)) (L := LC ad cy Rr) (pc := 45) (As := [.int (-27)]) (rest := []) stabSF E cs0 hl hI (tX3_add hq1 hf) mwX0_54 (fitD (by omega)) (at3 hq1) rfl rfl rfl rfl (Nat.le_of_ble_eq_true rfl) dX0_term_45 (fun σ12 H locs hf hI => ?_)
          obtain ⟨x13, ex13⟩ : ∃ y : Int32, y = a4 + 1 := ⟨_, rfl⟩
          have hf := hf x13 ex13
          refine lv_iinc (v := x13) (lv' := [(4, .int x13), (3, .int r11), (0, .ref (ad 5 99)), (1, .ref (ad q1 99)), (2, .int a2)]) (pc := 48) hx hb dX0_term_48 hl (k := 4) rfl (by rw [ex13]; rfl) (by decide) rfl (fun ls hl => ?_)
          refine lv_goto (tgt := 10) (pc := 51) hx hb dX0_term_51 (by decide) ?_
          exact ih hq1 hf hI (lv_sub hl [2, 3, 4, 1, 0] rfl)
def wX0_term (zS : PT) (oa : Nat) (p2 : Int32) (σ : St) (Q : Int32 → St → Prop) : Prop := zS oa p2 σ (fun r2 σ1 => ∃ n14 : Nat, wX0_term_l10 zS n14 oa p2 r2 0 σ1 Q)
set_option maxRecDepth 100000 in
set_option maxHeartbeats 4000000 in
theorem bX0_term {p : Program} {l : Launch} {e : Env} {s : State} {m : MethodId} {args : Array Value} {below : List Frame} {meth : Method} {c : Code} {H : Heap} {locs : List Loc} {ls : Array Slot} {D : va_G} {z : Nat → Nat} {A : Nat → Prop} {σ : St} {ad : Nat → Nat → Nat} {cy : Nat → ClassId} {Rr : va_W} {Q : Int32 → St → Prop} {oa : Nat} {p2 : Int32} {d dS : Nat} {zS : PT} (hS : dS < d) (hd : 20 < d) (tS : HT yX0_single cX0_single 4 l D cy z ad Rr dS zS) (E : CallFix p m c cX0_term 5 s args TB RX0) (hr : meth.sig.returnType = some .boolean) (hlk : meth.locks = false) (hoa : kd oa = 3) (hf : wX0_term zS oa p2 σ Q) (hI : In (D, tysC cy, SF z) (LC ad cy Rr σ) A s H locs) (hl : lv_has ls 5 [(0, .ref (ad 5 99)), (1, .ref (ad oa 99)), (2, .int p2)]) : W p l e (rmD d) s m args below meth c H locs 0 0 (PI below args s (D, tysC cy, SF z) A (LC ad cy Rr) Q) (F0 m 0 ls []) := by
  have hx := E.1
  have hb := E.2.1
  unfold wX0_term at hf
  refine lv_aload_n (pc := 0) hx hb dX0_term_0 rfl (lv_at hl 0 rfl) ?_
  refine lv_aload_n (pc := 1) hx hb dX0_term_1 rfl (lv_at hl 1 rfl) ?_
  refine lv_iload_n (pc := 2) hx hb dX0_term_2 rfl (lv_at hl 2 rfl) ?_
  refine callVI (G := (D, tysC cy, SF z)) (L := LC ad cy Rr) (pc := 3) (As := [.ref (ad oa 99), .int p2]) (rest := []) stabSF E cs0 hl hI (tS hoa hf) mwX0_69 (fitD hS) (at0 rfl) rfl rfl rfl rfl (Nat.le_of_ble_eq_true rfl) dX0_term_3 (fun r2 σ1 H locs hf hI => ?_)
  refine lv_istore_n (lv' := [(3, .int r2), (0, .ref (ad 5 99)), (1, .ref (ad oa 99)), (2, .int p2)]) (pc := 6) hx hb dX0_term_6 rfl hl (by decide) rfl (fun ls hl => ?_)
  refine lv_iconst (v := 0) (pc := 7) hx hb dX0_term_7 rfl ?_
  refine lv_istore (lv' := [(4, .int 0), (3, .int r2), (0, .ref (ad 5 99)), (1, .ref (ad oa 99)), (2, .int p2)]) (pc := 8) hx hb dX0_term_8 hl (by decide) rfl (fun ls hl => ?_)
  obtain ⟨n14, hf⟩ := hf
  exact bX0_term_10 hS hd tS E hr hlk n14 hoa hf hI (lv_sub hl [2, 3, 4, 1, 0] rfl)
theorem tX0_term {l : Launch} {D : va_G} {z : Nat → Nat} {σ : St} {ad : Nat → Nat → Nat} {cy : Nat → ClassId} {Rr : va_W} {Q : Int32 → St → Prop} {oa : Nat} {p2 : Int32} {d dS : Nat} {zS : PT} (hS : dS < d) (hd : 20 < d) (tS : HT yX0_single cX0_single 4 l D cy z ad Rr dS zS) (hoa : kd oa = 3) (hf : wX0_term zS oa p2 σ Q) : CtI l yX0_term cX0_term 5 .boolean d (D, tysC cy, SF z) (LC ad cy Rr) [.ref (ad 5 99), .ref (ad oa 99), .int p2] σ Q := mkI (by decide) (Nat.le_of_ble_eq_true rfl) (fun p e s m below meth c A E hr hlk hI ls hl => bX0_term hS hd tS E hr hlk hoa hf hI hl)

def wX0_sum_j56 (zT : PT) (q1 : Nat) (a2 : Int32) (a4 : Int32) (s0 : Int32) (σ : St) (K : Nat → Int32 → Int32 → Int32 → St → Prop) (Q : Int32 → St → Prop) : Prop := wX0_advance σ (fun σ9 => zT q1 a2 σ9 (fun r11 σ10 => wX3_add q1 s0 σ10 (fun σ12 => ∀ x13 : Int32, x13 = a4 + 1 → (K q1 a2 r11 x13 σ12))))
set_option maxRecDepth 100000 in
set_option maxHeartbeats 4000000 in
theorem bX0_sum_56 {p : Program} {l : Launch} {e : Env} {s : State} {m : MethodId} {args : Array Value} {below : List Frame} {meth : Method} {c : Code} {H : Heap} {locs : List Loc} {ls : Array Slot} {D : va_G} {z : Nat → Nat} {A : Nat → Prop} {σ : St} {ad : Nat → Nat → Nat} {cy : Nat → ClassId} {Rr : va_W} {Q : Int32 → St → Prop} {q1 : Nat} {a2 : Int32} {a4 : Int32} {s0 : Int32} {K : Nat → Int32 → Int32 → Int32 → St → Prop} {d dT : Nat} {zT : PT} (hT : dT < d) (hd : 20 < d) (tT : HT yX0_term cX0_term 5 l D cy z ad Rr dT zT) (E : CallFix p m c cX0_sum 6 s args TB RX0) (hr : meth.sig.returnType = some .boolean) (hlk : meth.locks = false) (hq1 : kd q1 = 3) (hK : ∀ (q1 : Nat) (a2 : Int32) (a3 : Int32) (a4 : Int32) (_ : kd q1 = 3) (σ : St) (H : Heap) (locs : List Loc) (ls : Array Slot), K q1 a2 a3 a4 σ → In (D, tysC cy, SF z) (LC ad cy Rr σ) A s H locs → lv_has ls 6 [(0, .ref (ad 5 99)), (1, .ref (ad q1 99)), (2, .int a2), (3, .int a3), (4, .int a4)] → W p l e (rmD d) s m args below meth c H locs 0 0 (PI below args s (D, tysC cy, SF z) A (LC ad cy Rr) Q) (F0 m 10 ls [])) (hf : wX0_sum_j56 zT q1 a2 a4 s0 σ K Q) (hI : In (D, tysC cy, SF z) (LC ad cy Rr σ) A s H locs) (hl : lv_has ls 6 [(0, .ref (ad 5 99)), (1, .ref (ad q1 99)), (2, .int a2), (4, .int a4)]) : W p l e (rmD d) s m args below meth c H locs 0 0 (PI below args s (D, tysC cy, SF z) A (LC ad cy Rr) Q) (F0 m 56 ls [.int s0]) := by
  have hx := E.1
  have hb := E.2.1
  unfold wX0_sum_j56 at hf
  refine lv_istore (lv' := [(5, .int s0), (0, .ref (ad 5 99)), (1, .ref (ad q1 99)), (2, .int a2), (4, .int a4)]) (pc := 56) hx hb dX0_sum_56 hl (by decide) rfl (fun ls hl => ?_)
  refine lv_aload_n (pc := 58) hx hb dX0_sum_58 rfl (lv_at hl 1 rfl) ?_
  refine callVV (G := (D, tysC cy, SF z)) (L := LC ad cy Rr) (pc := 59) (As := []) (rest := []) stabSF E cs0 hl hI (tX0_advance hf) mwX0_36 (fitD (by omega)) (at0 rfl) rfl rfl rfl rfl (Nat.le_of_ble_eq_true rfl) dX0_sum_59 (fun σ9 H locs hf hI => ?_)
  refine lv_aload_n (pc := 62) hx hb dX0_sum_62 rfl (lv_at hl 1 rfl) ?_
  refine lv_aload_n (pc := 63) hx hb dX0_sum_63 rfl (lv_at hl 2 rfl) ?_
  refine lv_iload_n (pc := 64) hx hb dX0_sum_64 rfl (lv_at hl 3 rfl) ?_
  refine callVI (G := (D, tysC cy, SF z)) (L := LC ad cy Rr) (pc := 65) (As := [.ref (ad q1 99), .int a2]) (rest := []) stabSF E cs0 hl hI (tT hq1 hf) mwX0_66 (fitD hT) (at0 rfl) rfl rfl rfl rfl (Nat.le_of_ble_eq_true rfl) dX0_sum_65 (fun r11 σ10 H locs hf hI => ?_)
  refine lv_istore_n (lv' := [(3, .int r11), (5, .int s0), (0, .ref (ad 5 99)), (1, .ref (ad q1 99)), (2, .int a2), (4, .int a4)]) (pc := 68) hx hb dX0_sum_68 rfl hl (by decide) rfl (fun ls hl => ?_)
  refine lv_aload_n (pc := 69) hx hb dX0_sum_69 rfl (lv_at hl 3 rfl) ?_
  refine lv_iload (pc := 70) hx hb dX0_sum_70 (lv_at hl 1 rfl) ?_
  refine callVV (G := (D, tysC cy, SF z)) (L := LC ad cy Rr) (pc := 72) (As := [.int s0]) (rest := []) stabSF E cs0 hl hI (tX3_add hq1 hf) mwX0_54 (fitD (by omega)) (at3 hq1) rfl rfl rfl rfl (Nat.le_of_ble_eq_true rfl) dX0_sum_72 (fun σ12 H locs hf hI => ?_)
  obtain ⟨x13, ex13⟩ : ∃ y : Int32, y = a4 + 1 := ⟨_, rfl⟩
  have hf := hf x13 ex13
  refine lv_iinc (v := x13) (lv' := [(4, .int x13), (3, .int r11), (5, .int s0), (0, .ref (ad 5 99)), (1, .ref (ad q1 99)), (2, .int a2)]) (pc := 75) hx hb dX0_sum_75 hl (k := 5) rfl (by rw [ex13]; rfl) (by decide) rfl (fun ls hl => ?_)
  refine lv_goto (tgt := 10) (pc := 78) hx hb dX0_sum_78 (by decide) ?_
  exact hK _ _ _ _ hq1 _ _ _ _ hf hI (lv_sub hl [3, 4, 5, 1, 0] rfl)
def wX0_sum_j40 (zT : PT) (q1 : Nat) (a2 : Int32) (a4 : Int32) (σ : St) (K : Nat → Int32 → Int32 → Int32 → St → Prop) (Q : Int32 → St → Prop) : Prop := ((¬ (gI σ 5 3) = 43 → (wX0_sum_j56 zT q1 a2 a4 (-26) σ K Q)) ∧ ((gI σ 5 3) = 43 → (wX0_sum_j56 zT q1 a2 a4 (-25) σ K Q)))
set_option maxRecDepth 100000 in
set_option maxHeartbeats 4000000 in
theorem bX0_sum_40 {p : Program} {l : Launch} {e : Env} {s : State} {m : MethodId} {args : Array Value} {below : List Frame} {meth : Method} {c : Code} {H : Heap} {locs : List Loc} {ls : Array Slot} {D : va_G} {z : Nat → Nat} {A : Nat → Prop} {σ : St} {ad : Nat → Nat → Nat} {cy : Nat → ClassId} {Rr : va_W} {Q : Int32 → St → Prop} {q1 : Nat} {a2 : Int32} {a4 : Int32} {K : Nat → Int32 → Int32 → Int32 → St → Prop} {d dT : Nat} {zT : PT} (hT : dT < d) (hd : 20 < d) (tT : HT yX0_term cX0_term 5 l D cy z ad Rr dT zT) (E : CallFix p m c cX0_sum 6 s args TB RX0) (hr : meth.sig.returnType = some .boolean) (hlk : meth.locks = false) (hq1 : kd q1 = 3) (hK : ∀ (q1 : Nat) (a2 : Int32) (a3 : Int32) (a4 : Int32) (_ : kd q1 = 3) (σ : St) (H : Heap) (locs : List Loc) (ls : Array Slot), K q1 a2 a3 a4 σ → In (D, tysC cy, SF z) (LC ad cy Rr σ) A s H locs → lv_has ls 6 [(0, .ref (ad 5 99)), (1, .ref (ad q1 99)), (2, .int a2), (3, .int a3), (4, .int a4)] → W p l e (rmD d) s m args below meth c H locs 0 0 (PI below args s (D, tysC cy, SF z) A (LC ad cy Rr) Q) (F0 m 10 ls [])) (hf : wX0_sum_j40 zT q1 a2 a4 σ K Q) (hI : In (D, tysC cy, SF z) (LC ad cy Rr σ) A s H locs) (hl : lv_has ls 6 [(0, .ref (ad 5 99)), (1, .ref (ad q1 99)), (2, .int a2), (4, .int a4)]) : W p l e (rmD d) s m args below meth c H locs 0 0 (PI below args s (D, tysC cy, SF z) A (LC ad cy Rr) Q) (F0 m 40 ls []) := by
  have hx := E.1
  have hb := E.2.1
  unfold wX0_sum_j40 at hf
  refine lv_aload_n (pc := 40) hx hb dX0_sum_40 rfl (lv_at hl 0 rfl) ?_
  refine g0_3 (pc := 41) E hI rfl lkX0_22 dX0_sum_41 ?_
  refine lv_bipush (v := 43) (pc := 44) hx hb dX0_sum_44 rfl ?_
  refine lv_icmp_ne (tgt := 54) (pc := 46) hx hb dX0_sum_46 (by decide) (fun c8 => ?_) (fun c8 => ?_)
  · have hf := hf.1 c8
    refine lv_bipush (v := (-26)) (pc := 54) hx hb dX0_sum_54 rfl ?_
    exact bX0_sum_56 hT hd tT E hr hlk hq1 hK hf hI (lv_sub hl [0, 1, 2, 3] rfl)
  · have hf := hf.2 c8
    refine lv_bipush (v := (-25)) (pc := 49) hx hb dX0_sum_49 rfl ?_
    refine lv_goto (tgt := 56) (pc := 51) hx hb dX0_sum_51 (by decide) ?_
    exact bX0_sum_56 hT hd tT E hr hlk hq1 hK hf hI (lv_sub hl [0, 1, 2, 3] rfl)
def wX0_sum_l10s (zT : PT) (ih : Nat → Int32 → Int32 → Int32 → St → Prop) (q1 : Nat) (a2 : Int32) (a3 : Int32) (a4 : Int32) (σ : St) (Q : Int32 → St → Prop) : Prop := ((160 ≤ a4 → (a3 = 0 ∨ a3 = 1) ∧ Q a3 σ) ∧ (¬ 160 ≤ a4 → ((a3 = 0 → (a3 = 0 ∨ a3 = 1) ∧ Q a3 σ) ∧ (¬ a3 = 0 → (((gI σ 5 3) = 43 → (wX0_sum_j40 zT q1 a2 a4 σ ih Q)) ∧ (¬ (gI σ 5 3) = 43 → ((¬ (gI σ 5 3) = 45 → (a3 = 0 ∨ a3 = 1) ∧ Q a3 σ) ∧ ((gI σ 5 3) = 45 → (wX0_sum_j40 zT q1 a2 a4 σ ih Q)))))))))
def wX0_sum_l10 (zT : PT) (n : Nat) : Nat → Int32 → Int32 → Int32 → St → (Int32 → St → Prop) → Prop := @Nat.rec (fun _ => Nat → Int32 → Int32 → Int32 → St → (Int32 → St → Prop) → Prop) (fun _ _ _ _ _ _ => False) (fun _ ih q1 a2 a3 a4 σ Q => wX0_sum_l10s zT (fun q1 a2 a3 a4 σ => ih q1 a2 a3 a4 σ Q) q1 a2 a3 a4 σ Q) n
set_option maxRecDepth 100000 in
set_option maxHeartbeats 4000000 in
theorem bX0_sum_10 {p : Program} {l : Launch} {e : Env} {s : State} {m : MethodId} {args : Array Value} {below : List Frame} {meth : Method} {c : Code} {D : va_G} {z : Nat → Nat} {A : Nat → Prop} {ad : Nat → Nat → Nat} {cy : Nat → ClassId} {Rr : va_W} {Q : Int32 → St → Prop} {d dT : Nat} {zT : PT} (hT : dT < d) (hd : 20 < d) (tT : HT yX0_term cX0_term 5 l D cy z ad Rr dT zT) (E : CallFix p m c cX0_sum 6 s args TB RX0) (hr : meth.sig.returnType = some .boolean) (hlk : meth.locks = false) : ∀ (n : Nat) {q1 : Nat} {a2 : Int32} {a3 : Int32} {a4 : Int32} (hq1 : kd q1 = 3) {σ : St} {H : Heap} {locs : List Loc} {ls : Array Slot}, wX0_sum_l10 zT n q1 a2 a3 a4 σ Q → In (D, tysC cy, SF z) (LC ad cy Rr σ) A s H locs → lv_has ls 6 [(0, .ref (ad 5 99)), (1, .ref (ad q1 99)), (2, .int a2), (3, .int a3), (4, .int a4)] → W p l e (rmD d) s m args below meth c H locs 0 0 (PI below args s (D, tysC cy, SF z) A (LC ad cy Rr) Q) (F0 m 10 ls []) := by
  have hx := E.1
  have hb := E.2.1
  intro n
  induction n with
  | zero => intro q1 a2 a3 a4 hq1 σ H locs ls hf hI hl; exact False.elim hf
  | succ n ih =>
    intro q1 a2 a3 a4 hq1 σ H locs ls hf hI hl
    have hf : wX0_sum_l10s zT (fun q1 a2 a3 a4 σ => wX0_sum_l10 zT n q1 a2 a3 a4 σ Q) q1 a2 a3 a4 σ Q := hf
    unfold wX0_sum_l10s at hf
    refine lv_iload (pc := 10) hx hb dX0_sum_10 (lv_at hl 4 rfl) ?_
    refine lv_sipush (v := 160) (pc := 12) hx hb dX0_sum_12 rfl ?_
    refine lv_icmp_ge (tgt := 81) (pc := 15) hx hb dX0_sum_15 (by decide) (fun c3 => ?_) (fun c3 => ?_)
    · have hf := hf.1 c3
      refine lv_iload_n (pc := 81) hx hb dX0_sum_81 rfl (lv_at hl 3 rfl) ?_
      have z4 := hf.1
      have hf := hf.2
      exact rZ (pc := 82) E hr hlk hI z4 hf dX0_sum_82
    · have hf := hf.2 c3
      refine lv_iload_n (pc := 18) hx hb dX0_sum_18 rfl (lv_at hl 3 rfl) ?_
      refine lv_if_eq (tgt := 81) (pc := 19) hx hb dX0_sum_19 (by decide) (fun c5 => ?_) (fun c5 => ?_)
      · have hf := hf.1 c5
        refine lv_iload_n (pc := 81) hx hb dX0_sum_81 rfl (lv_at hl 3 rfl) ?_
        have z6 := hf.1
        have hf := hf.2
        exact rZ (pc := 82) E hr hlk hI z6 hf dX0_sum_82
      · have hf := hf.2 c5
        refine lv_aload_n (pc := 22) hx hb dX0_sum_22 rfl (lv_at hl 0 rfl) ?_
        refine g0_3 (pc := 23) E hI rfl lkX0_22 dX0_sum_23 ?_
        refine lv_bipush (v := 43) (pc := 26) hx hb dX0_sum_26 rfl ?_
        refine lv_icmp_eq (tgt := 40) (pc := 28) hx hb dX0_sum_28 (by decide) (fun c7 => ?_) (fun c7 => ?_)
        · have hf := hf.1 c7
          exact bX0_sum_40 hT hd tT E hr hlk hq1 (fun _ _ _ _ hq1 _ _ _ _ hf hI hl => ih hq1 hf hI hl) hf hI (lv_sub hl [0, 1, 2, 4] rfl)
        · have hf := hf.2 c7
          refine lv_aload_n (pc := 31) hx hb dX0_sum_31 rfl (lv_at hl 0 rfl) ?_
          refine g0_3 (pc := 32) E hI rfl lkX0_22 dX0_sum_32 ?_
          refine lv_bipush (v := 45) (pc := 35) hx hb dX0_sum_35 rfl ?_
          refine lv_icmp_ne (tgt := 81) (pc := 37) hx hb dX0_sum_37 (by decide) (fun c14 => ?_) (fun c14 => ?_)
          · have hf := hf.1 c14
            refine lv_iload_n (pc := 81) hx hb dX0_sum_81 rfl (lv_at hl 3 rfl) ?_
            have z15 := hf.1
            have hf := hf.2
            exact rZ (pc := 82) E hr hlk hI z15 hf dX0_sum_82
          · have hf := hf.2 c14
            exact bX0_sum_40 hT hd tT E hr hlk hq1 (fun _ _ _ _ hq1 _ _ _ _ hf hI hl => ih hq1 hf hI hl) hf hI (lv_sub hl [0, 1, 2, 4] rfl)
def wX0_sum (zT : PT) (oa : Nat) (p2 : Int32) (σ : St) (Q : Int32 → St → Prop) : Prop := zT oa p2 σ (fun r2 σ1 => ∃ n16 : Nat, wX0_sum_l10 zT n16 oa p2 r2 0 σ1 Q)
set_option maxRecDepth 100000 in
set_option maxHeartbeats 4000000 in
theorem bX0_sum {p : Program} {l : Launch} {e : Env} {s : State} {m : MethodId} {args : Array Value} {below : List Frame} {meth : Method} {c : Code} {H : Heap} {locs : List Loc} {ls : Array Slot} {D : va_G} {z : Nat → Nat} {A : Nat → Prop} {σ : St} {ad : Nat → Nat → Nat} {cy : Nat → ClassId} {Rr : va_W} {Q : Int32 → St → Prop} {oa : Nat} {p2 : Int32} {d dT : Nat} {zT : PT} (hT : dT < d) (hd : 20 < d) (tT : HT yX0_term cX0_term 5 l D cy z ad Rr dT zT) (E : CallFix p m c cX0_sum 6 s args TB RX0) (hr : meth.sig.returnType = some .boolean) (hlk : meth.locks = false) (hoa : kd oa = 3) (hf : wX0_sum zT oa p2 σ Q) (hI : In (D, tysC cy, SF z) (LC ad cy Rr σ) A s H locs) (hl : lv_has ls 6 [(0, .ref (ad 5 99)), (1, .ref (ad oa 99)), (2, .int p2)]) : W p l e (rmD d) s m args below meth c H locs 0 0 (PI below args s (D, tysC cy, SF z) A (LC ad cy Rr) Q) (F0 m 0 ls []) := by
  have hx := E.1
  have hb := E.2.1
  unfold wX0_sum at hf
  refine lv_aload_n (pc := 0) hx hb dX0_sum_0 rfl (lv_at hl 0 rfl) ?_
  refine lv_aload_n (pc := 1) hx hb dX0_sum_1 rfl (lv_at hl 1 rfl) ?_
  refine lv_iload_n (pc := 2) hx hb dX0_sum_2 rfl (lv_at hl 2 rfl) ?_
  refine callVI (G := (D, tysC cy, SF z)) (L := LC ad cy Rr) (pc := 3) (As := [.ref (ad oa 99), .int p2]) (rest := []) stabSF E cs0 hl hI (tT hoa hf) mwX0_66 (fitD hT) (at0 rfl) rfl rfl rfl rfl (Nat.le_of_ble_eq_true rfl) dX0_sum_3 (fun r2 σ1 H locs hf hI => ?_)
  refine lv_istore_n (lv' := [(3, .int r2), (0, .ref (ad 5 99)), (1, .ref (ad oa 99)), (2, .int p2)]) (pc := 6) hx hb dX0_sum_6 rfl hl (by decide) rfl (fun ls hl => ?_)
  refine lv_iconst (v := 0) (pc := 7) hx hb dX0_sum_7 rfl ?_
  refine lv_istore (lv' := [(4, .int 0), (3, .int r2), (0, .ref (ad 5 99)), (1, .ref (ad oa 99)), (2, .int p2)]) (pc := 8) hx hb dX0_sum_8 hl (by decide) rfl (fun ls hl => ?_)
  obtain ⟨n16, hf⟩ := hf
  exact bX0_sum_10 hT hd tT E hr hlk n16 hoa hf hI (lv_sub hl [2, 3, 4, 1, 0] rfl)
theorem tX0_sum {l : Launch} {D : va_G} {z : Nat → Nat} {σ : St} {ad : Nat → Nat → Nat} {cy : Nat → ClassId} {Rr : va_W} {Q : Int32 → St → Prop} {oa : Nat} {p2 : Int32} {d dT : Nat} {zT : PT} (hT : dT < d) (hd : 20 < d) (tT : HT yX0_term cX0_term 5 l D cy z ad Rr dT zT) (hoa : kd oa = 3) (hf : wX0_sum zT oa p2 σ Q) : CtI l yX0_sum cX0_sum 6 .boolean d (D, tysC cy, SF z) (LC ad cy Rr) [.ref (ad 5 99), .ref (ad oa 99), .int p2] σ Q := mkI (by decide) (Nat.le_of_ble_eq_true rfl) (fun p e s m below meth c A E hr hlk hI ls hl => bX0_sum hT hd tT E hr hlk hoa hf hI hl)

def wX0_compared_j47 (zU : PT) (q1 : Nat) (a2 : Int32) (s0 : Int32) (σ : St) (Q : Int32 → St → Prop) : Prop := wX0_advance σ (fun σ7 => zU q1 a2 σ7 (fun r9 σ8 => wX3_add q1 s0 σ8 (fun σ10 => (r9 = 0 ∨ r9 = 1) ∧ Q r9 σ10)))
set_option maxRecDepth 100000 in
set_option maxHeartbeats 4000000 in
theorem bX0_compared_47 {p : Program} {l : Launch} {e : Env} {s : State} {m : MethodId} {args : Array Value} {below : List Frame} {meth : Method} {c : Code} {H : Heap} {locs : List Loc} {ls : Array Slot} {D : va_G} {z : Nat → Nat} {A : Nat → Prop} {σ : St} {ad : Nat → Nat → Nat} {cy : Nat → ClassId} {Rr : va_W} {Q : Int32 → St → Prop} {q1 : Nat} {a2 : Int32} {s0 : Int32} {d dU : Nat} {zU : PT} (hU : dU < d) (hd : 20 < d) (tU : HT yX0_sum cX0_sum 6 l D cy z ad Rr dU zU) (E : CallFix p m c cX0_compared 5 s args TB RX0) (hr : meth.sig.returnType = some .boolean) (hlk : meth.locks = false) (hq1 : kd q1 = 3) (hf : wX0_compared_j47 zU q1 a2 s0 σ Q) (hI : In (D, tysC cy, SF z) (LC ad cy Rr σ) A s H locs) (hl : lv_has ls 5 [(0, .ref (ad 5 99)), (1, .ref (ad q1 99)), (2, .int a2)]) : W p l e (rmD d) s m args below meth c H locs 0 0 (PI below args s (D, tysC cy, SF z) A (LC ad cy Rr) Q) (F0 m 47 ls [.int s0]) := by
  have hx := E.1
  have hb := E.2.1
  unfold wX0_compared_j47 at hf
  refine lv_istore (lv' := [(4, .int s0), (0, .ref (ad 5 99)), (1, .ref (ad q1 99)), (2, .int a2)]) (pc := 47) hx hb dX0_compared_47 hl (by decide) rfl (fun ls hl => ?_)
  refine lv_aload_n (pc := 49) hx hb dX0_compared_49 rfl (lv_at hl 1 rfl) ?_
  refine callVV (G := (D, tysC cy, SF z)) (L := LC ad cy Rr) (pc := 50) (As := []) (rest := []) stabSF E cs0 hl hI (tX0_advance hf) mwX0_36 (fitD (by omega)) (at0 rfl) rfl rfl rfl rfl (Nat.le_of_ble_eq_true rfl) dX0_compared_50 (fun σ7 H locs hf hI => ?_)
  refine lv_aload_n (pc := 53) hx hb dX0_compared_53 rfl (lv_at hl 1 rfl) ?_
  refine lv_aload_n (pc := 54) hx hb dX0_compared_54 rfl (lv_at hl 2 rfl) ?_
  refine lv_iload_n (pc := 55) hx hb dX0_compared_55 rfl (lv_at hl 3 rfl) ?_
  refine callVI (G := (D, tysC cy, SF z)) (L := LC ad cy Rr) (pc := 56) (As := [.ref (ad q1 99), .int a2]) (rest := []) stabSF E cs0 hl hI (tU hq1 hf) mwX0_63 (fitD hU) (at0 rfl) rfl rfl rfl rfl (Nat.le_of_ble_eq_true rfl) dX0_compared_56 (fun r9 σ8 H locs hf hI => ?_)
  refine lv_istore_n (lv' := [(3, .int r9), (4, .int s0), (0, .ref (ad 5 99)), (1, .ref (ad q1 99)), (2, .int a2)]) (pc := 59) hx hb dX0_compared_59 rfl hl (by decide) rfl (fun ls hl => ?_)
  refine lv_aload_n (pc := 60) hx hb dX0_compared_60 rfl (lv_at hl 3 rfl) ?_
  refine lv_iload (pc := 61) hx hb dX0_compared_61 (lv_at hl 1 rfl) ?_
  refine callVV (G := (D, tysC cy, SF z)) (L := LC ad cy Rr) (pc := 63) (As := [.int s0]) (rest := []) stabSF E cs0 hl hI (tX3_add hq1 hf) mwX0_54 (fitD (by omega)) (at3 hq1) rfl rfl rfl rfl (Nat.le_of_ble_eq_true rfl) dX0_compared_63 (fun σ10 H locs hf hI => ?_)
  refine lv_iload_n (pc := 66) hx hb dX0_compared_66 rfl (lv_at hl 0 rfl) ?_
  have z11 := hf.1
  have hf := hf.2
  exact rZ (pc := 67) E hr hlk hI z11 hf dX0_compared_67
def wX0_compared_j31 (zU : PT) (q1 : Nat) (a2 : Int32) (σ : St) (Q : Int32 → St → Prop) : Prop := ((¬ (gI σ 5 3) = 60 → (wX0_compared_j47 zU q1 a2 (-24) σ Q)) ∧ ((gI σ 5 3) = 60 → (wX0_compared_j47 zU q1 a2 (-23) σ Q)))
set_option maxRecDepth 100000 in
set_option maxHeartbeats 4000000 in
theorem bX0_compared_31 {p : Program} {l : Launch} {e : Env} {s : State} {m : MethodId} {args : Array Value} {below : List Frame} {meth : Method} {c : Code} {H : Heap} {locs : List Loc} {ls : Array Slot} {D : va_G} {z : Nat → Nat} {A : Nat → Prop} {σ : St} {ad : Nat → Nat → Nat} {cy : Nat → ClassId} {Rr : va_W} {Q : Int32 → St → Prop} {q1 : Nat} {a2 : Int32} {d dU : Nat} {zU : PT} (hU : dU < d) (hd : 20 < d) (tU : HT yX0_sum cX0_sum 6 l D cy z ad Rr dU zU) (E : CallFix p m c cX0_compared 5 s args TB RX0) (hr : meth.sig.returnType = some .boolean) (hlk : meth.locks = false) (hq1 : kd q1 = 3) (hf : wX0_compared_j31 zU q1 a2 σ Q) (hI : In (D, tysC cy, SF z) (LC ad cy Rr σ) A s H locs) (hl : lv_has ls 5 [(0, .ref (ad 5 99)), (1, .ref (ad q1 99)), (2, .int a2)]) : W p l e (rmD d) s m args below meth c H locs 0 0 (PI below args s (D, tysC cy, SF z) A (LC ad cy Rr) Q) (F0 m 31 ls []) := by
  have hx := E.1
  have hb := E.2.1
  unfold wX0_compared_j31 at hf
  refine lv_aload_n (pc := 31) hx hb dX0_compared_31 rfl (lv_at hl 0 rfl) ?_
  refine g0_3 (pc := 32) E hI rfl lkX0_22 dX0_compared_32 ?_
  refine lv_bipush (v := 60) (pc := 35) hx hb dX0_compared_35 rfl ?_
  refine lv_icmp_ne (tgt := 45) (pc := 37) hx hb dX0_compared_37 (by decide) (fun c6 => ?_) (fun c6 => ?_)
  · have hf := hf.1 c6
    refine lv_bipush (v := (-24)) (pc := 45) hx hb dX0_compared_45 rfl ?_
    exact bX0_compared_47 hU hd tU E hr hlk hq1 hf hI (lv_sub hl [0, 1, 2] rfl)
  · have hf := hf.2 c6
    refine lv_bipush (v := (-23)) (pc := 40) hx hb dX0_compared_40 rfl ?_
    refine lv_goto (tgt := 47) (pc := 42) hx hb dX0_compared_42 (by decide) ?_
    exact bX0_compared_47 hU hd tU E hr hlk hq1 hf hI (lv_sub hl [0, 1, 2] rfl)
def wX0_compared (zU : PT) (oa : Nat) (p2 : Int32) (σ : St) (Q : Int32 → St → Prop) : Prop := zU oa p2 σ (fun r2 σ1 => ((r2 = 0 → (r2 = 0 ∨ r2 = 1) ∧ Q r2 σ1) ∧ (¬ r2 = 0 → (((gI σ1 5 3) = 60 → (wX0_compared_j31 zU oa p2 σ1 Q)) ∧ (¬ (gI σ1 5 3) = 60 → (((gI σ1 5 3) = 61 → (wX0_compared_j31 zU oa p2 σ1 Q)) ∧ (¬ (gI σ1 5 3) = 61 → (r2 = 0 ∨ r2 = 1) ∧ Q r2 σ1)))))))
set_option maxRecDepth 100000 in
set_option maxHeartbeats 4000000 in
theorem bX0_compared {p : Program} {l : Launch} {e : Env} {s : State} {m : MethodId} {args : Array Value} {below : List Frame} {meth : Method} {c : Code} {H : Heap} {locs : List Loc} {ls : Array Slot} {D : va_G} {z : Nat → Nat} {A : Nat → Prop} {σ : St} {ad : Nat → Nat → Nat} {cy : Nat → ClassId} {Rr : va_W} {Q : Int32 → St → Prop} {oa : Nat} {p2 : Int32} {d dU : Nat} {zU : PT} (hU : dU < d) (hd : 20 < d) (tU : HT yX0_sum cX0_sum 6 l D cy z ad Rr dU zU) (E : CallFix p m c cX0_compared 5 s args TB RX0) (hr : meth.sig.returnType = some .boolean) (hlk : meth.locks = false) (hoa : kd oa = 3) (hf : wX0_compared zU oa p2 σ Q) (hI : In (D, tysC cy, SF z) (LC ad cy Rr σ) A s H locs) (hl : lv_has ls 5 [(0, .ref (ad 5 99)), (1, .ref (ad oa 99)), (2, .int p2)]) : W p l e (rmD d) s m args below meth c H locs 0 0 (PI below args s (D, tysC cy, SF z) A (LC ad cy Rr) Q) (F0 m 0 ls []) := by
  have hx := E.1
  have hb := E.2.1
  unfold wX0_compared at hf
  refine lv_aload_n (pc := 0) hx hb dX0_compared_0 rfl (lv_at hl 0 rfl) ?_
  refine lv_aload_n (pc := 1) hx hb dX0_compared_1 rfl (lv_at hl 1 rfl) ?_
  refine lv_iload_n (pc := 2) hx hb dX0_compared_2 rfl (lv_at hl 2 rfl) ?_
  refine callVI (G := (D, tysC cy, SF z)) (L := LC ad cy Rr) (pc := 3) (As := [.ref (ad oa 99), .int p2]) (rest := []) stabSF E cs0 hl hI (tU hoa hf) mwX0_63 (fitD hU) (at0 rfl) rfl rfl rfl rfl (Nat.le_of_ble_eq_true rfl) dX0_compared_3 (fun r2 σ1 H locs hf hI => ?_)
  refine lv_istore_n (lv' := [(3, .int r2), (0, .ref (ad 5 99)), (1, .ref (ad oa 99)), (2, .int p2)]) (pc := 6) hx hb dX0_compared_6 rfl hl (by decide) rfl (fun ls hl => ?_)
  refine lv_iload_n (pc := 7) hx hb dX0_compared_7 rfl (lv_at hl 0 rfl) ?_
  refine lv_if_eq (tgt := 29) (pc := 8) hx hb dX0_compared_8 (by decide) (fun c3 => ?_) (fun c3 => ?_)
  · have hf := hf.1 c3
    refine lv_iload_n (pc := 29) hx hb dX0_compared_29 rfl (lv_at hl 0 rfl) ?_
    have z4 := hf.1
    have hf := hf.2
    exact rZ (pc := 30) E hr hlk hI z4 hf dX0_compared_30
  · have hf := hf.2 c3
    refine lv_aload_n (pc := 11) hx hb dX0_compared_11 rfl (lv_at hl 1 rfl) ?_
    refine g0_3 (pc := 12) E hI rfl lkX0_22 dX0_compared_12 ?_
    refine lv_bipush (v := 60) (pc := 15) hx hb dX0_compared_15 rfl ?_
    refine lv_icmp_eq (tgt := 31) (pc := 17) hx hb dX0_compared_17 (by decide) (fun c5 => ?_) (fun c5 => ?_)
    · have hf := hf.1 c5
      exact bX0_compared_31 hU hd tU E hr hlk hoa hf hI (lv_sub hl [1, 2, 3] rfl)
    · have hf := hf.2 c5
      refine lv_aload_n (pc := 20) hx hb dX0_compared_20 rfl (lv_at hl 1 rfl) ?_
      refine g0_3 (pc := 21) E hI rfl lkX0_22 dX0_compared_21 ?_
      refine lv_bipush (v := 61) (pc := 24) hx hb dX0_compared_24 rfl ?_
      refine lv_icmp_eq (tgt := 31) (pc := 26) hx hb dX0_compared_26 (by decide) (fun c12 => ?_) (fun c12 => ?_)
      · have hf := hf.1 c12
        exact bX0_compared_31 hU hd tU E hr hlk hoa hf hI (lv_sub hl [1, 2, 3] rfl)
      · have hf := hf.2 c12
        refine lv_iload_n (pc := 29) hx hb dX0_compared_29 rfl (lv_at hl 0 rfl) ?_
        have z13 := hf.1
        have hf := hf.2
        exact rZ (pc := 30) E hr hlk hI z13 hf dX0_compared_30
theorem tX0_compared {l : Launch} {D : va_G} {z : Nat → Nat} {σ : St} {ad : Nat → Nat → Nat} {cy : Nat → ClassId} {Rr : va_W} {Q : Int32 → St → Prop} {oa : Nat} {p2 : Int32} {d dU : Nat} {zU : PT} (hU : dU < d) (hd : 20 < d) (tU : HT yX0_sum cX0_sum 6 l D cy z ad Rr dU zU) (hoa : kd oa = 3) (hf : wX0_compared zU oa p2 σ Q) : CtI l yX0_compared cX0_compared 5 .boolean d (D, tysC cy, SF z) (LC ad cy Rr) [.ref (ad 5 99), .ref (ad oa 99), .int p2] σ Q := mkI (by decide) (Nat.le_of_ble_eq_true rfl) (fun p e s m below meth c A E hr hlk hI ls hl => bX0_compared hU hd tU E hr hlk hoa hf hI hl)

def wX0_negated (zN : PT) (zC : PT) (oa : Nat) (p2 : Int32) (σ : St) (Q : Int32 → St → Prop) : Prop := (((gI σ 5 3) = 305 → ((p2 < 5 → wX0_advance σ (fun σ3 => zN oa (p2 + 1) σ3 (fun r5 σ4 => wX3_add oa (-12) σ4 (fun σ6 => (r5 = 0 ∨ r5 = 1) ∧ Q r5 σ6)))) ∧ (¬ p2 < 5 → Q 0 σ))) ∧ (¬ (gI σ 5 3) = 305 → zC oa p2 σ (fun r9 σ8 => (r9 = 0 ∨ r9 = 1) ∧ Q r9 σ8)))
set_option maxRecDepth 100000 in
set_option maxHeartbeats 4000000 in
theorem bX0_negated {p : Program} {l : Launch} {e : Env} {s : State} {m : MethodId} {args : Array Value} {below : List Frame} {meth : Method} {c : Code} {H : Heap} {locs : List Loc} {ls : Array Slot} {D : va_G} {z : Nat → Nat} {A : Nat → Prop} {σ : St} {ad : Nat → Nat → Nat} {cy : Nat → ClassId} {Rr : va_W} {Q : Int32 → St → Prop} {oa : Nat} {p2 : Int32} {d dN dC : Nat} {zN zC : PT} (hN : dN < d) (hC : dC < d) (hd : 20 < d) (tN : HT yX0_negated cX0_negated 4 l D cy z ad Rr dN zN) (tC : HT yX0_compared cX0_compared 5 l D cy z ad Rr dC zC) (E : CallFix p m c cX0_negated 4 s args TB RX0) (hr : meth.sig.returnType = some .boolean) (hlk : meth.locks = false) (hoa : kd oa = 3) (hf : wX0_negated zN zC oa p2 σ Q) (hI : In (D, tysC cy, SF z) (LC ad cy Rr σ) A s H locs) (hl : lv_has ls 4 [(0, .ref (ad 5 99)), (1, .ref (ad oa 99)), (2, .int p2)]) : W p l e (rmD d) s m args below meth c H locs 0 0 (PI below args s (D, tysC cy, SF z) A (LC ad cy Rr) Q) (F0 m 0 ls []) := by
  have hx := E.1
  have hb := E.2.1
  unfold wX0_negated at hf
  refine lv_aload_n (pc := 0) hx hb dX0_negated_0 rfl (lv_at hl 0 rfl) ?_
  refine g0_3 (pc := 1) E hI rfl lkX0_22 dX0_negated_1 ?_
  refine lv_sipush (v := 305) (pc := 4) hx hb dX0_negated_4 rfl ?_
  refine lv_icmp_eq (tgt := 17) (pc := 7) hx hb dX0_negated_7 (by decide) (fun c1 => ?_) (fun c1 => ?_)
  · have hf := hf.1 c1
    refine lv_iload_n (pc := 17) hx hb dX0_negated_17 rfl (lv_at hl 2 rfl) ?_
    refine lv_iconst (v := 5) (pc := 18) hx hb dX0_negated_18 rfl ?_
    refine lv_icmp_lt (tgt := 24) (pc := 19) hx hb dX0_negated_19 (by decide) (fun c2 => ?_) (fun c2 => ?_)
    · have hf := hf.1 c2
      refine lv_aload_n (pc := 24) hx hb dX0_negated_24 rfl (lv_at hl 0 rfl) ?_
      refine callVV (G := (D, tysC cy, SF z)) (L := LC ad cy Rr) (pc := 25) (As := []) (rest := []) stabSF E cs0 hl hI (tX0_advance hf) mwX0_36 (fitD (by omega)) (at0 rfl) rfl rfl rfl rfl (Nat.le_of_ble_eq_true rfl) dX0_negated_25 (fun σ3 H locs hf hI => ?_)
      refine lv_aload_n (pc := 28) hx hb dX0_negated_28 rfl (lv_at hl 0 rfl) ?_
      refine lv_aload_n (pc := 29) hx hb dX0_negated_29 rfl (lv_at hl 1 rfl) ?_
      refine lv_iload_n (pc := 30) hx hb dX0_negated_30 rfl (lv_at hl 2 rfl) ?_
      refine lv_iconst (v := 1) (pc := 31) hx hb dX0_negated_31 rfl ?_
      refine lv_iadd (pc := 32) hx hb dX0_negated_32 ?_
      refine callVI (G := (D, tysC cy, SF z)) (L := LC ad cy Rr) (pc := 33) (As := [.ref (ad oa 99), .int (p2 + 1)]) (rest := []) stabSF E cs0 hl hI (tN hoa hf) mwX0_57 (fitD hN) (at0 rfl) rfl rfl rfl rfl (Nat.le_of_ble_eq_true rfl) dX0_negated_33 (fun r5 σ4 H locs hf hI => ?_)
      refine lv_istore_n (lv' := [(3, .int r5), (0, .ref (ad 5 99)), (1, .ref (ad oa 99)), (2, .int p2)]) (pc := 36) hx hb dX0_negated_36 rfl hl (by decide) rfl (fun ls hl => ?_)
      refine lv_aload_n (pc := 37) hx hb dX0_negated_37 rfl (lv_at hl 2 rfl) ?_
      refine lv_bipush (v := (-12)) (pc := 38) hx hb dX0_negated_38 rfl ?_
      refine callVV (G := (D, tysC cy, SF z)) (L := LC ad cy Rr) (pc := 40) (As := [.int (-12)]) (rest := []) stabSF E cs0 hl hI (tX3_add hoa hf) mwX0_54 (fitD (by omega)) (at3 hoa) rfl rfl rfl rfl (Nat.le_of_ble_eq_true rfl) dX0_negated_40 (fun σ6 H locs hf hI => ?_)
      refine lv_iload_n (pc := 43) hx hb dX0_negated_43 rfl (lv_at hl 0 rfl) ?_
      have z7 := hf.1
      have hf := hf.2
      exact rZ (pc := 44) E hr hlk hI z7 hf dX0_negated_44
    · have hf := hf.2 c2
      refine lv_iconst (v := 0) (pc := 22) hx hb dX0_negated_22 rfl ?_
      exact rZ (pc := 23) E hr hlk hI (Or.inl rfl) hf dX0_negated_23
  · have hf := hf.2 c1
    refine lv_aload_n (pc := 10) hx hb dX0_negated_10 rfl (lv_at hl 0 rfl) ?_
    refine lv_aload_n (pc := 11) hx hb dX0_negated_11 rfl (lv_at hl 1 rfl) ?_
    refine lv_iload_n (pc := 12) hx hb dX0_negated_12 rfl (lv_at hl 2 rfl) ?_
    refine callVI (G := (D, tysC cy, SF z)) (L := LC ad cy Rr) (pc := 13) (As := [.ref (ad oa 99), .int p2]) (rest := []) stabSF E cs0 hl hI (tC hoa hf) mwX0_60 (fitD hC) (at0 rfl) rfl rfl rfl rfl (Nat.le_of_ble_eq_true rfl) dX0_negated_13 (fun r9 σ8 H locs hf hI => ?_)
    have z10 := hf.1
    have hf := hf.2
    exact rZ (pc := 16) E hr hlk hI z10 hf dX0_negated_16
theorem tX0_negated {l : Launch} {D : va_G} {z : Nat → Nat} {σ : St} {ad : Nat → Nat → Nat} {cy : Nat → ClassId} {Rr : va_W} {Q : Int32 → St → Prop} {oa : Nat} {p2 : Int32} {d dN dC : Nat} {zN zC : PT} (hN : dN < d) (hC : dC < d) (hd : 20 < d) (tN : HT yX0_negated cX0_negated 4 l D cy z ad Rr dN zN) (tC : HT yX0_compared cX0_compared 5 l D cy z ad Rr dC zC) (hoa : kd oa = 3) (hf : wX0_negated zN zC oa p2 σ Q) : CtI l yX0_negated cX0_negated 4 .boolean d (D, tysC cy, SF z) (LC ad cy Rr) [.ref (ad 5 99), .ref (ad oa 99), .int p2] σ Q := mkI (by decide) (Nat.le_of_ble_eq_true rfl) (fun p e s m below meth c A E hr hlk hI ls hl => bX0_negated hN hC hd tN tC E hr hlk hoa hf hI hl)

def wX0_both_l10s (zN : PT) (ih : Nat → Int32 → Int32 → Int32 → St → Prop) (q1 : Nat) (a2 : Int32) (a3 : Int32) (a4 : Int32) (σ : St) (Q : Int32 → St → Prop) : Prop := ((160 ≤ a4 → (a3 = 0 ∨ a3 = 1) ∧ Q a3 σ) ∧ (¬ 160 ≤ a4 → ((a3 = 0 → (a3 = 0 ∨ a3 = 1) ∧ Q a3 σ) ∧ (¬ a3 = 0 → ((¬ (gI σ 5 3) = 304 → (a3 = 0 ∨ a3 = 1) ∧ Q a3 σ) ∧ ((gI σ 5 3) = 304 → wX0_advance σ (fun σ9 => zN q1 a2 σ9 (fun r11 σ10 => wX3_add q1 (-22) σ10 (fun σ12 => ∀ x13 : Int32, x13 = a4 + 1 → (ih q1 a2 r11 x13 σ12))))))))))
def wX0_both_l10 (zN : PT) (n : Nat) : Nat → Int32 → Int32 → Int32 → St → (Int32 → St → Prop) → Prop := @Nat.rec (fun _ => Nat → Int32 → Int32 → Int32 → St → (Int32 → St → Prop) → Prop) (fun _ _ _ _ _ _ => False) (fun _ ih q1 a2 a3 a4 σ Q => wX0_both_l10s zN (fun q1 a2 a3 a4 σ => ih q1 a2 a3 a4 σ Q) q1 a2 a3 a4 σ Q) n
set_option maxRecDepth 100000 in
set_option maxHeartbeats 4000000 in
theorem bX0_both_10 {p : Program} {l : Launch} {e : Env} {s : State} {m : MethodId} {args : Array Value} {below : List Frame} {meth : Method} {c : Code} {D : va_G} {z : Nat → Nat} {A : Nat → Prop} {ad : Nat → Nat → Nat} {cy : Nat → ClassId} {Rr : va_W} {Q : Int32 → St → Prop} {d dN : Nat} {zN : PT} (hN : dN < d) (hd : 20 < d) (tN : HT yX0_negated cX0_negated 4 l D cy z ad Rr dN zN) (E : CallFix p m c cX0_both 5 s args TB RX0) (hr : meth.sig.returnType = some .boolean) (hlk : meth.locks = false) : ∀ (n : Nat) {q1 : Nat} {a2 : Int32} {a3 : Int32} {a4 : Int32} (hq1 : kd q1 = 3) {σ : St} {H : Heap} {locs : List Loc} {ls : Array Slot}, wX0_both_l10 zN n q1 a2 a3 a4 σ Q → In (D, tysC cy, SF z) (LC ad cy Rr σ) A s H locs → lv_has ls 5 [(0, .ref (ad 5 99)), (1, .ref (ad q1 99)), (2, .int a2), (3, .int a3), (4, .int a4)] → W p l e (rmD d) s m args below meth c H locs 0 0 (PI below args s (D, tysC cy, SF z) A (LC ad cy Rr) Q) (F0 m 10 ls []) := by
  have hx := E.1
  have hb := E.2.1
  intro n
  induction n with
  | zero => intro q1 a2 a3 a4 hq1 σ H locs ls hf hI hl; exact False.elim hf
  | succ n ih =>
    intro q1 a2 a3 a4 hq1 σ H locs ls hf hI hl
    have hf : wX0_both_l10s zN (fun q1 a2 a3 a4 σ => wX0_both_l10 zN n q1 a2 a3 a4 σ Q) q1 a2 a3 a4 σ Q := hf
    unfold wX0_both_l10s at hf
    refine lv_iload (pc := 10) hx hb dX0_both_10 (lv_at hl 4 rfl) ?_
    refine lv_sipush (v := 160) (pc := 12) hx hb dX0_both_12 rfl ?_
    refine lv_icmp_ge (tgt := 55) (pc := 15) hx hb dX0_both_15 (by decide) (fun c3 => ?_) (fun c3 => ?_)
    · have hf := hf.1 c3
      refine lv_iload_n (pc := 55) hx hb dX0_both_55 rfl (lv_at hl 3 rfl) ?_
      have z4 := hf.1
      have hf := hf.2
      exact rZ (pc := 56) E hr hlk hI z4 hf dX0_both_56
    · have hf := hf.2 c3
      refine lv_iload_n (pc := 18) hx hb dX0_both_18 rfl (lv_at hl 3 rfl) ?_
      refine lv_if_eq (tgt := 55) (pc := 19) hx hb dX0_both_19 (by decide) (fun c5 => ?_) (fun c5 => ?_)
      · have hf := hf.1 c5
        refine lv_iload_n (pc := 55) hx hb dX0_both_55 rfl (lv_at hl 3 rfl) ?_
        have z6 := hf.1
        have hf := hf.2
        exact rZ (pc := 56) E hr hlk hI z6 hf dX0_both_56
      · have hf := hf.2 c5
        refine lv_aload_n (pc := 22) hx hb dX0_both_22 rfl (lv_at hl 0 rfl) ?_
        refine g0_3 (pc := 23) E hI rfl lkX0_22 dX0_both_23 ?_
        refine lv_sipush (v := 304) (pc := 26) hx hb dX0_both_26 rfl ?_
        refine lv_icmp_ne (tgt := 55) (pc := 29) hx hb dX0_both_29 (by decide) (fun c7 => ?_) (fun c7 => ?_)
        · have hf := hf.1 c7
          refine lv_iload_n (pc := 55) hx hb dX0_both_55 rfl (lv_at hl 3 rfl) ?_
          have z8 := hf.1
          have hf := hf.2
          exact rZ (pc := 56) E hr hlk hI z8 hf dX0_both_56
        · have hf := hf.2 c7
          refine lv_aload_n (pc := 32) hx hb dX0_both_32 rfl (lv_at hl 0 rfl) ?_
          refine callVV (G := (D, tysC cy, SF z)) (L := LC ad cy Rr) (pc := 33) (As := []) (rest := []) stabSF E cs0 hl hI (tX0_advance hf) mwX0_36 (fitD (by omega)) (at0 rfl) rfl rfl rfl rfl (Nat.le_of_ble_eq_true rfl) dX0_both_33 (fun σ9 H locs hf hI => ?_)
          refine lv_aload_n (pc := 36) hx hb dX0_both_36 rfl (lv_at hl 0 rfl) ?_
          refine lv_aload_n (pc := 37) hx hb dX0_both_37 rfl (lv_at hl 1 rfl) ?_
          refine lv_iload_n (pc := 38) hx hb dX0_both_38 rfl (lv_at hl 2 rfl) ?_
          refine callVI (G := (D, tysC cy, SF z)) (L := LC ad cy Rr) (pc := 39) (As := [.ref (ad q1 99), .int a2]) (rest := []) stabSF E cs0 hl hI (tN hq1 hf) mwX0_57 (fitD hN) (at0 rfl) rfl rfl rfl rfl (Nat.le_of_ble_eq_true rfl) dX0_both_39 (fun r11 σ10 H locs hf hI => ?_)
          refine lv_istore_n (lv' := [(3, .int r11), (0, .ref (ad 5 99)), (1, .ref (ad q1 99)), (2, .int a2), (4, .int a4)]) (pc := 42) hx hb dX0_both_42 rfl hl (by decide) rfl (fun ls hl => ?_)
          refine lv_aload_n (pc := 43) hx hb dX0_both_43 rfl (lv_at hl 2 rfl) ?_
          refine lv_bipush (v := (-22)) (pc := 44) hx hb dX0_both_44 rfl ?_
          refine callVV (G := (D, tysC cy, SF z)) (L := LC ad cy Rr) (pc := 46) (As := [.int (-22)]) (rest := []) stabSF E cs0 hl hI (tX3_add hq1 hf) mwX0_54 (fitD (by omega)) (at3 hq1) rfl rfl rfl rfl (Nat.le_of_ble_eq_true rfl) dX0_both_46 (fun σ12 H locs hf hI => ?_)
          obtain ⟨x13, ex13⟩ : ∃ y : Int32, y = a4 + 1 := ⟨_, rfl⟩
          have hf := hf x13 ex13
          refine lv_iinc (v := x13) (lv' := [(4, .int x13), (3, .int r11), (0, .ref (ad 5 99)), (1, .ref (ad q1 99)), (2, .int a2)]) (pc := 49) hx hb dX0_both_49 hl (k := 4) rfl (by rw [ex13]; rfl) (by decide) rfl (fun ls hl => ?_)
          refine lv_goto (tgt := 10) (pc := 52) hx hb dX0_both_52 (by decide) ?_
          exact ih hq1 hf hI (lv_sub hl [2, 3, 4, 1, 0] rfl)
def wX0_both (zN : PT) (oa : Nat) (p2 : Int32) (σ : St) (Q : Int32 → St → Prop) : Prop := zN oa p2 σ (fun r2 σ1 => ∃ n14 : Nat, wX0_both_l10 zN n14 oa p2 r2 0 σ1 Q)
set_option maxRecDepth 100000 in
set_option maxHeartbeats 4000000 in
theorem bX0_both {p : Program} {l : Launch} {e : Env} {s : State} {m : MethodId} {args : Array Value} {below : List Frame} {meth : Method} {c : Code} {H : Heap} {locs : List Loc} {ls : Array Slot} {D : va_G} {z : Nat → Nat} {A : Nat → Prop} {σ : St} {ad : Nat → Nat → Nat} {cy : Nat → ClassId} {Rr : va_W} {Q : Int32 → St → Prop} {oa : Nat} {p2 : Int32} {d dN : Nat} {zN : PT} (hN : dN < d) (hd : 20 < d) (tN : HT yX0_negated cX0_negated 4 l D cy z ad Rr dN zN) (E : CallFix p m c cX0_both 5 s args TB RX0) (hr : meth.sig.returnType = some .boolean) (hlk : meth.locks = false) (hoa : kd oa = 3) (hf : wX0_both zN oa p2 σ Q) (hI : In (D, tysC cy, SF z) (LC ad cy Rr σ) A s H locs) (hl : lv_has ls 5 [(0, .ref (ad 5 99)), (1, .ref (ad oa 99)), (2, .int p2)]) : W p l e (rmD d) s m args below meth c H locs 0 0 (PI below args s (D, tysC cy, SF z) A (LC ad cy Rr) Q) (F0 m 0 ls []) := by
  have hx := E.1
  have hb := E.2.1
  unfold wX0_both at hf
  refine lv_aload_n (pc := 0) hx hb dX0_both_0 rfl (lv_at hl 0 rfl) ?_
  refine lv_aload_n (pc := 1) hx hb dX0_both_1 rfl (lv_at hl 1 rfl) ?_
  refine lv_iload_n (pc := 2) hx hb dX0_both_2 rfl (lv_at hl 2 rfl) ?_
  refine callVI (G := (D, tysC cy, SF z)) (L := LC ad cy Rr) (pc := 3) (As := [.ref (ad oa 99), .int p2]) (rest := []) stabSF E cs0 hl hI (tN hoa hf) mwX0_57 (fitD hN) (at0 rfl) rfl rfl rfl rfl (Nat.le_of_ble_eq_true rfl) dX0_both_3 (fun r2 σ1 H locs hf hI => ?_)
  refine lv_istore_n (lv' := [(3, .int r2), (0, .ref (ad 5 99)), (1, .ref (ad oa 99)), (2, .int p2)]) (pc := 6) hx hb dX0_both_6 rfl hl (by decide) rfl (fun ls hl => ?_)
  refine lv_iconst (v := 0) (pc := 7) hx hb dX0_both_7 rfl ?_
  refine lv_istore (lv' := [(4, .int 0), (3, .int r2), (0, .ref (ad 5 99)), (1, .ref (ad oa 99)), (2, .int p2)]) (pc := 8) hx hb dX0_both_8 hl (by decide) rfl (fun ls hl => ?_)
  obtain ⟨n14, hf⟩ := hf
  exact bX0_both_10 hN hd tN E hr hlk n14 hoa hf hI (lv_sub hl [2, 3, 4, 1, 0] rfl)
theorem tX0_both {l : Launch} {D : va_G} {z : Nat → Nat} {σ : St} {ad : Nat → Nat → Nat} {cy : Nat → ClassId} {Rr : va_W} {Q : Int32 → St → Prop} {oa : Nat} {p2 : Int32} {d dN : Nat} {zN : PT} (hN : dN < d) (hd : 20 < d) (tN : HT yX0_negated cX0_negated 4 l D cy z ad Rr dN zN) (hoa : kd oa = 3) (hf : wX0_both zN oa p2 σ Q) : CtI l yX0_both cX0_both 5 .boolean d (D, tysC cy, SF z) (LC ad cy Rr) [.ref (ad 5 99), .ref (ad oa 99), .int p2] σ Q := mkI (by decide) (Nat.le_of_ble_eq_true rfl) (fun p e s m below meth c A E hr hlk hI ls hl => bX0_both hN hd tN E hr hlk hoa hf hI hl)

def wX0_either_l10s (zB : PT) (ih : Nat → Int32 → Int32 → Int32 → St → Prop) (q1 : Nat) (a2 : Int32) (a3 : Int32) (a4 : Int32) (σ : St) (Q : Int32 → St → Prop) : Prop := ((160 ≤ a4 → (a3 = 0 ∨ a3 = 1) ∧ Q a3 σ) ∧ (¬ 160 ≤ a4 → ((a3 = 0 → (a3 = 0 ∨ a3 = 1) ∧ Q a3 σ) ∧ (¬ a3 = 0 → ((¬ (gI σ 5 3) = 303 → (a3 = 0 ∨ a3 = 1) ∧ Q a3 σ) ∧ ((gI σ 5 3) = 303 → wX0_advance σ (fun σ9 => zB q1 a2 σ9 (fun r11 σ10 => wX3_add q1 (-21) σ10 (fun σ12 => ∀ x13 : Int32, x13 = a4 + 1 → (ih q1 a2 r11 x13 σ12))))))))))
def wX0_either_l10 (zB : PT) (n : Nat) : Nat → Int32 → Int32 → Int32 → St → (Int32 → St → Prop) → Prop := @Nat.rec (fun _ => Nat → Int32 → Int32 → Int32 → St → (Int32 → St → Prop) → Prop) (fun _ _ _ _ _ _ => False) (fun _ ih q1 a2 a3 a4 σ Q => wX0_either_l10s zB (fun q1 a2 a3 a4 σ => ih q1 a2 a3 a4 σ Q) q1 a2 a3 a4 σ Q) n
set_option maxRecDepth 100000 in
set_option maxHeartbeats 4000000 in
theorem bX0_either_10 {p : Program} {l : Launch} {e : Env} {s : State} {m : MethodId} {args : Array Value} {below : List Frame} {meth : Method} {c : Code} {D : va_G} {z : Nat → Nat} {A : Nat → Prop} {ad : Nat → Nat → Nat} {cy : Nat → ClassId} {Rr : va_W} {Q : Int32 → St → Prop} {d dB : Nat} {zB : PT} (hB : dB < d) (hd : 20 < d) (tB : HT yX0_both cX0_both 5 l D cy z ad Rr dB zB) (E : CallFix p m c cX0_either 5 s args TB RX0) (hr : meth.sig.returnType = some .boolean) (hlk : meth.locks = false) : ∀ (n : Nat) {q1 : Nat} {a2 : Int32} {a3 : Int32} {a4 : Int32} (hq1 : kd q1 = 3) {σ : St} {H : Heap} {locs : List Loc} {ls : Array Slot}, wX0_either_l10 zB n q1 a2 a3 a4 σ Q → In (D, tysC cy, SF z) (LC ad cy Rr σ) A s H locs → lv_has ls 5 [(0, .ref (ad 5 99)), (1, .ref (ad q1 99)), (2, .int a2), (3, .int a3), (4, .int a4)] → W p l e (rmD d) s m args below meth c H locs 0 0 (PI below args s (D, tysC cy, SF z) A (LC ad cy Rr) Q) (F0 m 10 ls []) := by
  have hx := E.1
  have hb := E.2.1
  intro n
  induction n with
  | zero => intro q1 a2 a3 a4 hq1 σ H locs ls hf hI hl; exact False.elim hf
  | succ n ih =>
    intro q1 a2 a3 a4 hq1 σ H locs ls hf hI hl
    have hf : wX0_either_l10s zB (fun q1 a2 a3 a4 σ => wX0_either_l10 zB n q1 a2 a3 a4 σ Q) q1 a2 a3 a4 σ Q := hf
    unfold wX0_either_l10s at hf
    refine lv_iload (pc := 10) hx hb dX0_either_10 (lv_at hl 4 rfl) ?_
    refine lv_sipush (v := 160) (pc := 12) hx hb dX0_either_12 rfl ?_
    refine lv_icmp_ge (tgt := 55) (pc := 15) hx hb dX0_either_15 (by decide) (fun c3 => ?_) (fun c3 => ?_)
    · have hf := hf.1 c3
      refine lv_iload_n (pc := 55) hx hb dX0_either_55 rfl (lv_at hl 3 rfl) ?_
      have z4 := hf.1
      have hf := hf.2
      exact rZ (pc := 56) E hr hlk hI z4 hf dX0_either_56
    · have hf := hf.2 c3
      refine lv_iload_n (pc := 18) hx hb dX0_either_18 rfl (lv_at hl 3 rfl) ?_
      refine lv_if_eq (tgt := 55) (pc := 19) hx hb dX0_either_19 (by decide) (fun c5 => ?_) (fun c5 => ?_)
      · have hf := hf.1 c5
        refine lv_iload_n (pc := 55) hx hb dX0_either_55 rfl (lv_at hl 3 rfl) ?_
        have z6 := hf.1
        have hf := hf.2
        exact rZ (pc := 56) E hr hlk hI z6 hf dX0_either_56
      · have hf := hf.2 c5
        refine lv_aload_n (pc := 22) hx hb dX0_either_22 rfl (lv_at hl 0 rfl) ?_
        refine g0_3 (pc := 23) E hI rfl lkX0_22 dX0_either_23 ?_
        refine lv_sipush (v := 303) (pc := 26) hx hb dX0_either_26 rfl ?_
        refine lv_icmp_ne (tgt := 55) (pc := 29) hx hb dX0_either_29 (by decide) (fun c7 => ?_) (fun c7 => ?_)
        · have hf := hf.1 c7
          refine lv_iload_n (pc := 55) hx hb dX0_either_55 rfl (lv_at hl 3 rfl) ?_
          have z8 := hf.1
          have hf := hf.2
          exact rZ (pc := 56) E hr hlk hI z8 hf dX0_either_56
        · have hf := hf.2 c7
          refine lv_aload_n (pc := 32) hx hb dX0_either_32 rfl (lv_at hl 0 rfl) ?_
          refine callVV (G := (D, tysC cy, SF z)) (L := LC ad cy Rr) (pc := 33) (As := []) (rest := []) stabSF E cs0 hl hI (tX0_advance hf) mwX0_36 (fitD (by omega)) (at0 rfl) rfl rfl rfl rfl (Nat.le_of_ble_eq_true rfl) dX0_either_33 (fun σ9 H locs hf hI => ?_)
          refine lv_aload_n (pc := 36) hx hb dX0_either_36 rfl (lv_at hl 0 rfl) ?_
          refine lv_aload_n (pc := 37) hx hb dX0_either_37 rfl (lv_at hl 1 rfl) ?_
          refine lv_iload_n (pc := 38) hx hb dX0_either_38 rfl (lv_at hl 2 rfl) ?_
          refine callVI (G := (D, tysC cy, SF z)) (L := LC ad cy Rr) (pc := 39) (As := [.ref (ad q1 99), .int a2]) (rest := []) stabSF E cs0 hl hI (tB hq1 hf) mwX0_51 (fitD hB) (at0 rfl) rfl rfl rfl rfl (Nat.le_of_ble_eq_true rfl) dX0_either_39 (fun r11 σ10 H locs hf hI => ?_)
          refine lv_istore_n (lv' := [(3, .int r11), (0, .ref (ad 5 99)), (1, .ref (ad q1 99)), (2, .int a2), (4, .int a4)]) (pc := 42) hx hb dX0_either_42 rfl hl (by decide) rfl (fun ls hl => ?_)
          refine lv_aload_n (pc := 43) hx hb dX0_either_43 rfl (lv_at hl 2 rfl) ?_
          refine lv_bipush (v := (-21)) (pc := 44) hx hb dX0_either_44 rfl ?_
          refine callVV (G := (D, tysC cy, SF z)) (L := LC ad cy Rr) (pc := 46) (As := [.int (-21)]) (rest := []) stabSF E cs0 hl hI (tX3_add hq1 hf) mwX0_54 (fitD (by omega)) (at3 hq1) rfl rfl rfl rfl (Nat.le_of_ble_eq_true rfl) dX0_either_46 (fun σ12 H locs hf hI => ?_)
          obtain ⟨x13, ex13⟩ : ∃ y : Int32, y = a4 + 1 := ⟨_, rfl⟩
          have hf := hf x13 ex13
          refine lv_iinc (v := x13) (lv' := [(4, .int x13), (3, .int r11), (0, .ref (ad 5 99)), (1, .ref (ad q1 99)), (2, .int a2)]) (pc := 49) hx hb dX0_either_49 hl (k := 4) rfl (by rw [ex13]; rfl) (by decide) rfl (fun ls hl => ?_)
          refine lv_goto (tgt := 10) (pc := 52) hx hb dX0_either_52 (by decide) ?_
          exact ih hq1 hf hI (lv_sub hl [2, 3, 4, 1, 0] rfl)
def wX0_either (zB : PT) (oa : Nat) (p2 : Int32) (σ : St) (Q : Int32 → St → Prop) : Prop := zB oa p2 σ (fun r2 σ1 => ∃ n14 : Nat, wX0_either_l10 zB n14 oa p2 r2 0 σ1 Q)
set_option maxRecDepth 100000 in
set_option maxHeartbeats 4000000 in
theorem bX0_either {p : Program} {l : Launch} {e : Env} {s : State} {m : MethodId} {args : Array Value} {below : List Frame} {meth : Method} {c : Code} {H : Heap} {locs : List Loc} {ls : Array Slot} {D : va_G} {z : Nat → Nat} {A : Nat → Prop} {σ : St} {ad : Nat → Nat → Nat} {cy : Nat → ClassId} {Rr : va_W} {Q : Int32 → St → Prop} {oa : Nat} {p2 : Int32} {d dB : Nat} {zB : PT} (hB : dB < d) (hd : 20 < d) (tB : HT yX0_both cX0_both 5 l D cy z ad Rr dB zB) (E : CallFix p m c cX0_either 5 s args TB RX0) (hr : meth.sig.returnType = some .boolean) (hlk : meth.locks = false) (hoa : kd oa = 3) (hf : wX0_either zB oa p2 σ Q) (hI : In (D, tysC cy, SF z) (LC ad cy Rr σ) A s H locs) (hl : lv_has ls 5 [(0, .ref (ad 5 99)), (1, .ref (ad oa 99)), (2, .int p2)]) : W p l e (rmD d) s m args below meth c H locs 0 0 (PI below args s (D, tysC cy, SF z) A (LC ad cy Rr) Q) (F0 m 0 ls []) := by
  have hx := E.1
  have hb := E.2.1
  unfold wX0_either at hf
  refine lv_aload_n (pc := 0) hx hb dX0_either_0 rfl (lv_at hl 0 rfl) ?_
  refine lv_aload_n (pc := 1) hx hb dX0_either_1 rfl (lv_at hl 1 rfl) ?_
  refine lv_iload_n (pc := 2) hx hb dX0_either_2 rfl (lv_at hl 2 rfl) ?_
  refine callVI (G := (D, tysC cy, SF z)) (L := LC ad cy Rr) (pc := 3) (As := [.ref (ad oa 99), .int p2]) (rest := []) stabSF E cs0 hl hI (tB hoa hf) mwX0_51 (fitD hB) (at0 rfl) rfl rfl rfl rfl (Nat.le_of_ble_eq_true rfl) dX0_either_3 (fun r2 σ1 H locs hf hI => ?_)
  refine lv_istore_n (lv' := [(3, .int r2), (0, .ref (ad 5 99)), (1, .ref (ad oa 99)), (2, .int p2)]) (pc := 6) hx hb dX0_either_6 rfl hl (by decide) rfl (fun ls hl => ?_)
  refine lv_iconst (v := 0) (pc := 7) hx hb dX0_either_7 rfl ?_
  refine lv_istore (lv' := [(4, .int 0), (3, .int r2), (0, .ref (ad 5 99)), (1, .ref (ad oa 99)), (2, .int p2)]) (pc := 8) hx hb dX0_either_8 hl (by decide) rfl (fun ls hl => ?_)
  obtain ⟨n14, hf⟩ := hf
  exact bX0_either_10 hB hd tB E hr hlk n14 hoa hf hI (lv_sub hl [2, 3, 4, 1, 0] rfl)
theorem tX0_either {l : Launch} {D : va_G} {z : Nat → Nat} {σ : St} {ad : Nat → Nat → Nat} {cy : Nat → ClassId} {Rr : va_W} {Q : Int32 → St → Prop} {oa : Nat} {p2 : Int32} {d dB : Nat} {zB : PT} (hB : dB < d) (hd : 20 < d) (tB : HT yX0_both cX0_both 5 l D cy z ad Rr dB zB) (hoa : kd oa = 3) (hf : wX0_either zB oa p2 σ Q) : CtI l yX0_either cX0_either 5 .boolean d (D, tysC cy, SF z) (LC ad cy Rr) [.ref (ad 5 99), .ref (ad oa 99), .int p2] σ Q := mkI (by decide) (Nat.le_of_ble_eq_true rfl) (fun p e s m below meth c A E hr hlk hI ls hl => bX0_either hB hd tB E hr hlk hoa hf hI hl)

/-- the parser, by how deep it may go -/
def pX (n : Nat) : PT × PT × PT := @Nat.rec (fun _ => PT × PT × PT) (fun _ _ _ _ => False, fun _ _ _ _ => False, fun _ _ _ _ => False) (fun _ p => (wX0_either (wX0_both (wX0_negated p.2.1 (wX0_compared (wX0_sum (wX0_term (wX0_single p.2.2 p.1)))))), wX0_negated p.2.1 (wX0_compared (wX0_sum (wX0_term (wX0_single p.2.2 p.1)))), wX0_single p.2.2 p.1)) n
theorem tpX {l : Launch} {D : va_G} {cy : Nat → ClassId} {z : Nat → Nat} {ad : Nat → Nat → Nat} {Rr : va_W} : ∀ n : Nat, HT yX0_either cX0_either 5 l D cy z ad Rr (8 * n + 46) (pX n).1 ∧ HT yX0_negated cX0_negated 4 l D cy z ad Rr (8 * n + 44) (pX n).2.1 ∧ HT yX0_single cX0_single 4 l D cy z ad Rr (8 * n + 40) (pX n).2.2 := by
  intro n
  induction n with
  | zero => exact ⟨fun _ h => h.elim, fun _ h => h.elim, fun _ h => h.elim⟩
  | succ n ih =>
    obtain ⟨i1, i2, i3⟩ := ih
    have s1 : HT yX0_single cX0_single 4 l D cy z ad Rr (8 * n + 48) (pX (n + 1)).2.2 := fun ht hf => tX0_single (by omega) (by omega) (by omega) i3 i1 ht hf
    have s2 : HT yX0_term cX0_term 5 l D cy z ad Rr (8 * n + 49) (wX0_term (pX (n + 1)).2.2) := fun ht hf => tX0_term (by omega) (by omega) s1 ht hf
    have s3 : HT yX0_sum cX0_sum 6 l D cy z ad Rr (8 * n + 50) (wX0_sum (wX0_term (pX (n + 1)).2.2)) := fun ht hf => tX0_sum (by omega) (by omega) s2 ht hf
    have s4 : HT yX0_compared cX0_compared 5 l D cy z ad Rr (8 * n + 51) (wX0_compared (wX0_sum (wX0_term (pX (n + 1)).2.2))) := fun ht hf => tX0_compared (by omega) (by omega) s3 ht hf
    have s5 : HT yX0_negated cX0_negated 4 l D cy z ad Rr (8 * n + 52) (pX (n + 1)).2.1 := fun ht hf => tX0_negated (by omega) (by omega) (by omega) i2 s4 ht hf
    have s6 : HT yX0_both cX0_both 5 l D cy z ad Rr (8 * n + 53) (wX0_both (pX (n + 1)).2.1) := fun ht hf => tX0_both (by omega) (by omega) s5 ht hf
    have s7 : HT yX0_either cX0_either 5 l D cy z ad Rr (8 * n + 54) (pX (n + 1)).1 := fun ht hf => tX0_either (by omega) (by omega) s6 ht hf
    exact ⟨s7, s5, s1⟩
def wEith : PT := (pX 8).1
theorem tEith {l : Launch} {D : va_G} {cy : Nat → ClassId} {z : Nat → Nat} {ad : Nat → Nat → Nat} {Rr : va_W} {σ : St} {Q : Int32 → St → Prop} {t : Nat} {k : Int32} (ht : kd t = 3) (hf : wEith t k σ Q) : CtI l yX0_either cX0_either 5 .boolean 110 (D, tysC cy, SF z) (LC ad cy Rr) [.ref (ad 5 99), .ref (ad t 99), .int k] σ Q := (tpX 8).1 ht hf

def wX0_readInto_l15s (ih : Nat → Int32 → St → Prop) (q1 : Nat) (a2 : Int32) (σ : St) (Q : Int32 → St → Prop) : Prop := ((3 ≤ a2 → ((¬ (gI σ 5 3) = 0 → Q (gI σ 5 4) σ) ∧ ((gI σ 5 3) = 0 → Q (-1) σ))) ∧ (¬ 3 ≤ a2 → wX0_skip (300 + a2) σ (fun r7 σ6 => ((r7 = 0 → Q (gI σ6 5 4) σ6) ∧ (¬ r7 = 0 → wEith q1 0 σ6 (fun r10 σ9 => ((r10 = 0 → Q (gI σ9 5 4) σ9) ∧ (¬ r10 = 0 → wX0_skip 59 σ9 (fun r13 σ12 => ((¬ r13 = 0 → wX3_endPart q1 a2 σ12 (fun σ15 => ∀ x16 : Int32, x16 = a2 + 1 → (ih q1 x16 σ15))) ∧ (r13 = 0 → Q (gI σ12 5 4) σ12)))))))))))
def wX0_readInto_l15 (n : Nat) : Nat → Int32 → St → (Int32 → St → Prop) → Prop := @Nat.rec (fun _ => Nat → Int32 → St → (Int32 → St → Prop) → Prop) (fun _ _ _ _ => False) (fun _ ih q1 a2 σ Q => wX0_readInto_l15s (fun q1 a2 σ => ih q1 a2 σ Q) q1 a2 σ Q) n
set_option maxRecDepth 100000 in
set_option maxHeartbeats 4000000 in
theorem bX0_readInto_15 {p : Program} {l : Launch} {e : Env} {s : State} {m : MethodId} {args : Array Value} {below : List Frame} {meth : Method} {c : Code} {D : va_G} {z : Nat → Nat} {A : Nat → Prop} {ad : Nat → Nat → Nat} {cy : Nat → ClassId} {Rr : va_W} {Q : Int32 → St → Prop} (E : CallFix p m c cX0_readInto 3 s args TB RX0) (hr : meth.sig.returnType = some .int) (hlk : meth.locks = false) : ∀ (n : Nat) {q1 : Nat} {a2 : Int32} (hq1 : kd q1 = 3) {σ : St} {H : Heap} {locs : List Loc} {ls : Array Slot}, wX0_readInto_l15 n q1 a2 σ Q → In (D, tysC cy, SF z) (LC ad cy Rr σ) A s H locs → lv_has ls 3 [(0, .ref (ad 5 99)), (1, .ref (ad q1 99)), (2, .int a2)] → W p l e (rmD 111) s m args below meth c H locs 0 0 (PI below args s (D, tysC cy, SF z) A (LC ad cy Rr) Q) (F0 m 15 ls []) := by
  have hx := E.1
  have hb := E.2.1
  intro n
  induction n with
  | zero => intro q1 a2 hq1 σ H locs ls hf hI hl; exact False.elim hf
  | succ n ih =>
    intro q1 a2 hq1 σ H locs ls hf hI hl
    have hf : wX0_readInto_l15s (fun q1 a2 σ => wX0_readInto_l15 n q1 a2 σ Q) q1 a2 σ Q := hf
    unfold wX0_readInto_l15s at hf
    refine lv_iload_n (pc := 15) hx hb dX0_readInto_15 rfl (lv_at hl 2 rfl) ?_
    refine lv_iconst (v := 3) (pc := 16) hx hb dX0_readInto_16 rfl ?_
    refine lv_icmp_ge (tgt := 66) (pc := 17) hx hb dX0_readInto_17 (by decide) (fun c4 => ?_) (fun c4 => ?_)
    · have hf := hf.1 c4
      refine lv_aload_n (pc := 66) hx hb dX0_readInto_66 rfl (lv_at hl 0 rfl) ?_
      refine g0_3 (pc := 67) E hI rfl lkX0_22 dX0_readInto_67 ?_
      refine lv_if_ne (tgt := 77) (pc := 70) hx hb dX0_readInto_70 (by decide) (fun c5 => ?_) (fun c5 => ?_)
      · have hf := hf.1 c5
        refine lv_aload_n (pc := 77) hx hb dX0_readInto_77 rfl (lv_at hl 0 rfl) ?_
        refine g0_4 (pc := 78) E hI rfl lkX0_25 dX0_readInto_78 ?_
        exact rI (pc := 81) E hr hlk hI hf dX0_readInto_81
      · have hf := hf.2 c5
        refine lv_iconst (v := (-1)) (pc := 73) hx hb dX0_readInto_73 rfl ?_
        refine lv_goto (tgt := 81) (pc := 74) hx hb dX0_readInto_74 (by decide) ?_
        exact rI (pc := 81) E hr hlk hI hf dX0_readInto_81
    · have hf := hf.2 c4
      refine lv_aload_n (pc := 20) hx hb dX0_readInto_20 rfl (lv_at hl 0 rfl) ?_
      refine lv_sipush (v := 300) (pc := 21) hx hb dX0_readInto_21 rfl ?_
      refine lv_iload_n (pc := 24) hx hb dX0_readInto_24 rfl (lv_at hl 2 rfl) ?_
      refine lv_iadd (pc := 25) hx hb dX0_readInto_25 ?_
      refine callVI (G := (D, tysC cy, SF z)) (L := LC ad cy Rr) (pc := 26) (As := [.int (300 + a2)]) (rest := []) stabSF E cs0 hl hI (tX0_skip hf) mwX0_39 (fitD (by decide)) (at0 rfl) rfl rfl rfl rfl (Nat.le_of_ble_eq_true rfl) dX0_readInto_26 (fun r7 σ6 H locs hf hI => ?_)
      refine lv_if_eq (tgt := 50) (pc := 29) hx hb dX0_readInto_29 (by decide) (fun c8 => ?_) (fun c8 => ?_)
      · have hf := hf.1 c8
        refine lv_aload_n (pc := 50) hx hb dX0_readInto_50 rfl (lv_at hl 0 rfl) ?_
        refine g0_4 (pc := 51) E hI rfl lkX0_25 dX0_readInto_51 ?_
        exact rI (pc := 54) E hr hlk hI hf dX0_readInto_54
      · have hf := hf.2 c8
        refine lv_aload_n (pc := 32) hx hb dX0_readInto_32 rfl (lv_at hl 0 rfl) ?_
        refine lv_aload_n (pc := 33) hx hb dX0_readInto_33 rfl (lv_at hl 1 rfl) ?_
        refine lv_iconst (v := 0) (pc := 34) hx hb dX0_readInto_34 rfl ?_
        refine callVI (G := (D, tysC cy, SF z)) (L := LC ad cy Rr) (pc := 35) (As := [.ref (ad q1 99), .int 0]) (rest := []) stabSF E cs0 hl hI (tEith hq1 hf) mwX0_43 (fitD (by decide)) (at0 rfl) rfl rfl rfl rfl (Nat.le_of_ble_eq_true rfl) dX0_readInto_35 (fun r10 σ9 H locs hf hI => ?_)
        refine lv_if_eq (tgt := 50) (pc := 38) hx hb dX0_readInto_38 (by decide) (fun c11 => ?_) (fun c11 => ?_)
        · have hf := hf.1 c11
          refine lv_aload_n (pc := 50) hx hb dX0_readInto_50 rfl (lv_at hl 0 rfl) ?_
          refine g0_4 (pc := 51) E hI rfl lkX0_25 dX0_readInto_51 ?_
          exact rI (pc := 54) E hr hlk hI hf dX0_readInto_54
        · have hf := hf.2 c11
          refine lv_aload_n (pc := 41) hx hb dX0_readInto_41 rfl (lv_at hl 0 rfl) ?_
          refine lv_bipush (v := 59) (pc := 42) hx hb dX0_readInto_42 rfl ?_
          refine callVI (G := (D, tysC cy, SF z)) (L := LC ad cy Rr) (pc := 44) (As := [.int 59]) (rest := []) stabSF E cs0 hl hI (tX0_skip hf) mwX0_39 (fitD (by decide)) (at0 rfl) rfl rfl rfl rfl (Nat.le_of_ble_eq_true rfl) dX0_readInto_44 (fun r13 σ12 H locs hf hI => ?_)
          refine lv_if_ne (tgt := 55) (pc := 47) hx hb dX0_readInto_47 (by decide) (fun c14 => ?_) (fun c14 => ?_)
          · have hf := hf.1 c14
            refine lv_aload_n (pc := 55) hx hb dX0_readInto_55 rfl (lv_at hl 1 rfl) ?_
            refine lv_iload_n (pc := 56) hx hb dX0_readInto_56 rfl (lv_at hl 2 rfl) ?_
            refine callVV (G := (D, tysC cy, SF z)) (L := LC ad cy Rr) (pc := 57) (As := [.int a2]) (rest := []) stabSF E cs0 hl hI (tX3_endPart hq1 hf) mwX0_47 (fitD (by decide)) (at3 hq1) rfl rfl rfl rfl (Nat.le_of_ble_eq_true rfl) dX0_readInto_57 (fun σ15 H locs hf hI => ?_)
            obtain ⟨x16, ex16⟩ : ∃ y : Int32, y = a2 + 1 := ⟨_, rfl⟩
            have hf := hf x16 ex16
            refine lv_iinc (v := x16) (lv' := [(2, .int x16), (0, .ref (ad 5 99)), (1, .ref (ad q1 99))]) (pc := 60) hx hb dX0_readInto_60 hl (k := 2) rfl (by rw [ex16]; rfl) (by decide) rfl (fun ls hl => ?_)
            refine lv_goto (tgt := 15) (pc := 63) hx hb dX0_readInto_63 (by decide) ?_
            exact ih hq1 hf hI (lv_sub hl [1, 2, 0] rfl)
          · have hf := hf.2 c14
            refine lv_aload_n (pc := 50) hx hb dX0_readInto_50 rfl (lv_at hl 0 rfl) ?_
            refine g0_4 (pc := 51) E hI rfl lkX0_25 dX0_readInto_51 ?_
            exact rI (pc := 54) E hr hlk hI hf dX0_readInto_54
def wX0_readInto (oa : Nat) (σ : St) (Q : Int32 → St → Prop) : Prop := wX3_clear oa σ (fun σ1 => ∀ σ2 : St, σ2 = sI σ1 5 2 0 → wX0_advance σ2 (fun σ3 => ∃ n17 : Nat, wX0_readInto_l15 n17 oa 0 σ3 Q))
set_option maxRecDepth 100000 in
set_option maxHeartbeats 4000000 in
theorem bX0_readInto {p : Program} {l : Launch} {e : Env} {s : State} {m : MethodId} {args : Array Value} {below : List Frame} {meth : Method} {c : Code} {H : Heap} {locs : List Loc} {ls : Array Slot} {D : va_G} {z : Nat → Nat} {A : Nat → Prop} {σ : St} {ad : Nat → Nat → Nat} {cy : Nat → ClassId} {Rr : va_W} {Q : Int32 → St → Prop} {oa : Nat} (E : CallFix p m c cX0_readInto 3 s args TB RX0) (hr : meth.sig.returnType = some .int) (hlk : meth.locks = false) (hoa : kd oa = 3) (hf : wX0_readInto oa σ Q) (hI : In (D, tysC cy, SF z) (LC ad cy Rr σ) A s H locs) (hl : lv_has ls 3 [(0, .ref (ad 5 99)), (1, .ref (ad oa 99))]) : W p l e (rmD 111) s m args below meth c H locs 0 0 (PI below args s (D, tysC cy, SF z) A (LC ad cy Rr) Q) (F0 m 0 ls []) := by
  have hx := E.1
  have hb := E.2.1
  unfold wX0_readInto at hf
  refine lv_aload_n (pc := 0) hx hb dX0_readInto_0 rfl (lv_at hl 1 rfl) ?_
  refine callVV (G := (D, tysC cy, SF z)) (L := LC ad cy Rr) (pc := 1) (As := []) (rest := []) stabSF E cs0 hl hI (tX3_clear hoa hf) mwX0_31 (fitD (by decide)) (at3 hoa) rfl rfl rfl rfl (Nat.le_of_ble_eq_true rfl) dX0_readInto_1 (fun σ1 H locs hf hI => ?_)
  refine lv_aload_n (pc := 4) hx hb dX0_readInto_4 rfl (lv_at hl 0 rfl) ?_
  refine lv_iconst (v := 0) (pc := 5) hx hb dX0_readInto_5 rfl ?_
  refine p0_2 (pc := 6) E hI rfl lkX0_19 dX0_readInto_6 (fun H locs σ2 eσ2 hI => ?_)
  have hf := hf σ2 eσ2
  refine lv_aload_n (pc := 9) hx hb dX0_readInto_9 rfl (lv_at hl 0 rfl) ?_
  refine callVV (G := (D, tysC cy, SF z)) (L := LC ad cy Rr) (pc := 10) (As := []) (rest := []) stabSF E cs0 hl hI (tX0_advance hf) mwX0_36 (fitD (by decide)) (at0 rfl) rfl rfl rfl rfl (Nat.le_of_ble_eq_true rfl) dX0_readInto_10 (fun σ3 H locs hf hI => ?_)
  refine lv_iconst (v := 0) (pc := 13) hx hb dX0_readInto_13 rfl ?_
  refine lv_istore_n (lv' := [(2, .int 0), (0, .ref (ad 5 99)), (1, .ref (ad oa 99))]) (pc := 14) hx hb dX0_readInto_14 rfl hl (by decide) rfl (fun ls hl => ?_)
  obtain ⟨n17, hf⟩ := hf
  exact bX0_readInto_15 E hr hlk n17 hoa hf hI (lv_sub hl [1, 2, 0] rfl)
theorem tX0_readInto {l : Launch} {D : va_G} {z : Nat → Nat} {σ : St} {ad : Nat → Nat → Nat} {cy : Nat → ClassId} {Rr : va_W} {Q : Int32 → St → Prop} {oa : Nat} (hoa : kd oa = 3) (hf : wX0_readInto oa σ Q) : CtI l yX0_readInto cX0_readInto 3 .int 111 (D, tysC cy, SF z) (LC ad cy Rr) [.ref (ad 5 99), .ref (ad oa 99)] σ Q := mkI (by decide) (Nat.le_of_ble_eq_true rfl) (fun p e s m below meth c A E hr hlk hI ls hl => bX0_readInto E hr hlk hoa hf hI hl)

def wX5_text (σ : St) (Q : Int32 → St → Prop) : Prop := (((gI σ 4 1) < 6 → vp_in (gI σ 4 1) 6 ∧ ∀ o3 : Nat, o3 = 6 + (gI σ 4 1).toNatClampNeg → wX0_readInto o3 σ (fun r5 σ4 => wX0_wipe σ4 (fun σ6 => ((r5 = (-1) → ∀ σ8 : St, σ8 = sI σ6 4 1 ((gI σ6 4 1) + 1) → Q ((gI σ8 4 1) - 1) σ8) ∧ (¬ r5 = (-1) → Q ((-100) - r5) σ6))))) ∧ (¬ (gI σ 4 1) < 6 → Q (-4) σ))
set_option maxRecDepth 100000 in
set_option maxHeartbeats 4000000 in
theorem bX5_text {p : Program} {l : Launch} {e : Env} {s : State} {m : MethodId} {args : Array Value} {below : List Frame} {meth : Method} {c : Code} {H : Heap} {locs : List Loc} {ls : Array Slot} {D : va_G} {z : Nat → Nat} {A : Nat → Prop} {σ : St} {ad : Nat → Nat → Nat} {cy : Nat → ClassId} {Rr : va_W} {Q : Int32 → St → Prop} (E : CallFix p m c cX5_text 2 s args TB RX5) (hr : meth.sig.returnType = some .int) (hlk : meth.locks = false) (hf : wX5_text σ Q) (hI : In (D, tysC cy, SF z) (LC ad cy Rr σ) A s H locs) (hl : lv_has ls 2 [(0, .ref (ad 0 99))]) : W p l e (rmD 112) s m args below meth c H locs 0 0 (PI below args s (D, tysC cy, SF z) A (LC ad cy Rr) Q) (F0 m 0 ls []) := by
  have hx := E.1
  have hb := E.2.1
  unfold wX5_text at hf
  refine lv_aload_n (pc := 0) hx hb dX5_text_0 rfl (lv_at hl 0 rfl) ?_
  refine g5_4 (pc := 1) E hI rfl lkX5_29 dX5_text_1 ?_
  refine g1_1 (pc := 4) E hI rfl lkX5_74 dX5_text_4 ?_
  refine lv_bipush (v := 6) (pc := 7) hx hb dX5_text_7 rfl ?_
  refine lv_icmp_lt (tgt := 15) (pc := 9) hx hb dX5_text_9 (by decide) (fun c1 => ?_) (fun c1 => ?_)
  · have hf := hf.1 c1
    refine lv_aload_n (pc := 15) hx hb dX5_text_15 rfl (lv_at hl 0 rfl) ?_
    refine g5_5 (pc := 16) E hI rfl lkX5_36 dX5_text_16 ?_
    refine lv_aload_n (pc := 19) hx hb dX5_text_19 rfl (lv_at hl 0 rfl) ?_
    refine g5_4 (pc := 20) E hI rfl lkX5_29 dX5_text_20 ?_
    refine g1_0 (pc := 23) E hI rfl lkX5_63 dX5_text_23 ?_
    refine lv_aload_n (pc := 26) hx hb dX5_text_26 rfl (lv_at hl 0 rfl) ?_
    refine g5_4 (pc := 27) E hI rfl lkX5_29 dX5_text_27 ?_
    refine g1_1 (pc := 30) E hI rfl lkX5_74 dX5_text_30 ?_
    have g2 := hf.1
    have hf := hf.2
    refine a1_0n (pc := 33) E hI rfl g2 dX5_text_33 (fun o3 eo3 ho3 => ?_)
    have hf := hf o3 eo3
    refine callVI (G := (D, tysC cy, SF z)) (L := LC ad cy Rr) (pc := 34) (As := [.ref (ad o3 99)]) (rest := []) stabSF E cs0 hl hI (tX0_readInto ho3 hf) mwX5_67 (fitD (by decide)) (at0 rfl) rfl rfl rfl rfl (Nat.le_of_ble_eq_true rfl) dX5_text_34 (fun r5 σ4 H locs hf hI => ?_)
    refine lv_istore_n (lv' := [(1, .int r5), (0, .ref (ad 0 99))]) (pc := 37) hx hb dX5_text_37 rfl hl (by decide) rfl (fun ls hl => ?_)
    refine lv_aload_n (pc := 38) hx hb dX5_text_38 rfl (lv_at hl 1 rfl) ?_
    refine g5_5 (pc := 39) E hI rfl lkX5_36 dX5_text_39 ?_
    refine callVV (G := (D, tysC cy, SF z)) (L := LC ad cy Rr) (pc := 42) (As := []) (rest := []) stabSF E cs0 hl hI (tX0_wipe hf) mwX5_71 (fitD (by decide)) (at0 rfl) rfl rfl rfl rfl (Nat.le_of_ble_eq_true rfl) dX5_text_42 (fun σ6 H locs hf hI => ?_)
    refine lv_iload_n (pc := 45) hx hb dX5_text_45 rfl (lv_at hl 0 rfl) ?_
    refine lv_iconst (v := (-1)) (pc := 46) hx hb dX5_text_46 rfl ?_
    refine lv_icmp_eq (tgt := 55) (pc := 47) hx hb dX5_text_47 (by decide) (fun c7 => ?_) (fun c7 => ?_)
    · have hf := hf.1 c7
      refine lv_aload_n (pc := 55) hx hb dX5_text_55 rfl (lv_at hl 1 rfl) ?_
      refine g5_4 (pc := 56) E hI rfl lkX5_29 dX5_text_56 ?_
      refine lv_dup (pc := 59) hx hb dX5_text_59 rfl ?_
      refine g1_1 (pc := 60) E hI rfl lkX5_74 dX5_text_60 ?_
      refine lv_iconst (v := 1) (pc := 63) hx hb dX5_text_63 rfl ?_
      refine lv_iadd (pc := 64) hx hb dX5_text_64 ?_
      refine p1_1 (pc := 65) E hI rfl lkX5_74 dX5_text_65 (fun H locs σ8 eσ8 hI => ?_)
      have hf := hf σ8 eσ8
      refine lv_aload_n (pc := 68) hx hb dX5_text_68 rfl (lv_at hl 1 rfl) ?_
      refine g5_4 (pc := 69) E hI rfl lkX5_29 dX5_text_69 ?_
      refine g1_1 (pc := 72) E hI rfl lkX5_74 dX5_text_72 ?_
      refine lv_iconst (v := 1) (pc := 75) hx hb dX5_text_75 rfl ?_
      refine lv_isub (pc := 76) hx hb dX5_text_76 ?_
      exact rI (pc := 77) E hr hlk hI hf dX5_text_77
    · have hf := hf.2 c7
      refine lv_bipush (v := (-100)) (pc := 50) hx hb dX5_text_50 rfl ?_
      refine lv_iload_n (pc := 52) hx hb dX5_text_52 rfl (lv_at hl 0 rfl) ?_
      refine lv_isub (pc := 53) hx hb dX5_text_53 ?_
      exact rI (pc := 54) E hr hlk hI hf dX5_text_54
  · have hf := hf.2 c1
    refine lv_bipush (v := (-4)) (pc := 12) hx hb dX5_text_12 rfl ?_
    exact rI (pc := 14) E hr hlk hI hf dX5_text_14
theorem tX5_text {l : Launch} {D : va_G} {z : Nat → Nat} {σ : St} {ad : Nat → Nat → Nat} {cy : Nat → ClassId} {Rr : va_W} {Q : Int32 → St → Prop} (hf : wX5_text σ Q) : CtI l yX5_text cX5_text 2 .int 112 (D, tysC cy, SF z) (LC ad cy Rr) [.ref (ad 0 99)] σ Q := mkI (by decide) (Nat.le_of_ble_eq_true rfl) (fun p e s m below meth c A E hr hlk hI ls hl => bX5_text E hr hlk hf hI hl)

